/-! pure part: the law speaks -/
section LS
variable {n : Nat} {σ σ' : zz_St} {xs : Nat → Int32} {L : Nat}
/-- one pass over all pairs -/
def pz_pa1 (n : Nat) (mu : Nat → Nat → Bool) (f g : Nat → Nat) (p q : Nat) : Prop := (∀ x, x < n → pz_C n mu x (g x) = true) ∧ (∀ x, x < n → g x ≤ f x) ∧ ∀ x y, x < n → y < n → (x < p ∨ (x = p ∧ y < q)) → mu x y = true → g x ≤ f y
theorem fl_pass {mu : Nat → Nat → Bool} {sd : Nat → Int32} (hn : n ≤ 12) (hS : ∀ p q, p < n → q < n → (sd (16 * p + q) = 1 ↔ mu p q = true)) {f : Nat → Nat} (hf : ∀ x, x < n → pz_C n mu x (f x) = true) {u : Nat → Int32} (hu : ∀ x, x < n → u x = nI (f x)) : ∃ q u' g, fL_classes_L3 sd (nI n) 14 0 u = some (q, u') ∧ (∀ x, x < n → u' x = nI (g x)) ∧ pz_pa1 n mu f g n 0 := by
  have hC := pC_eq n mu
  have inner : ∀ p u g, p < n → (∀ x, x < n → u x = nI (g x)) → pz_pa1 n mu f g p 0 → ∃ r : Int32 × (Nat → Int32), (∃ g, (∀ x, x < n → r.2 x = nI (g x)) ∧ pz_pa1 n mu f g (p + 1) 0) ∧ fL_classes_L4 sd (nI n) (nI p) 14 0 u = some r := by
    intro p u g hp hu hg
    exact pz_loop (S := Nat → Int32) (R := Int32 × (Nat → Int32)) (fun f' k s => fL_classes_L4 sd (nI n) (nI p) f' (nI k) s) (fun k s => ∃ g, (∀ x, x < n → s x = nI (g x)) ∧ pz_pa1 n mu f g p k) (fun r => ∃ g, (∀ x, x < n → r.2 x = nI (g x)) ∧ pz_pa1 n mu f g (p + 1) 0) n
      (fun k f' s hk hP => by
        obtain ⟨g, h1, h2, h3, h4⟩ := hP
        have lp := (hC.2.1 _ _ (h2 p hp)).2
        have lk := (hC.2.1 _ _ (h2 k hk)).2
        have ix : (16 : Int32) * nI p + nI k = nI (16 * p + k) := by rw [show (16 : Int32) = nI 16 from rfl, pk_mul, nI_add]
        have un : fL_classes_L4 sd (nI n) (nI p) (f' + 1) (nI k) s = fL_classes_L4 sd (nI n) (nI p) f' (nI (k + 1)) (if mu p k = true then upd s p (nI (min (g p) (g k))) else s) := by
          rw [fL_classes_L4, if_neg (nI_ge hk (by omega)), ix, pz_ga (by omega) (by decide), pz_bs]
          by_cases c : mu p k = true
          · rw [if_pos ((hS p k hp hk).mpr c), pz_ga (by omega) (by decide), pz_bs, pz_ga (by omega) (by decide), pz_bs, h1 p hp, h1 k hk, pz_minI (by omega) (by omega), pz_xpa (by omega) (by decide), pz_bs, pz_bs, if_pos c, nI_1]
          · rw [if_neg (fun z => c ((hS p k hp hk).mp z)), pz_bs, if_neg c, nI_1]
        refine Or.inl ⟨_, ?_, un⟩
        by_cases c : mu p k = true
        · rw [if_pos c]
          refine ⟨fun x => if x = p then min (g p) (g k) else g x, fun x hx => ?_, fun x hx => ?_, fun x hx => ?_, fun x y hx hy hxy m => ?_⟩
          · rw [pz_up]
            by_cases e : x = p
            · rw [if_pos e]; show _ = nI (if x = p then _ else _); rw [if_pos e]
            · rw [if_neg e]; show _ = nI (if x = p then _ else _); rw [if_neg e]; exact h1 x hx
          · show pz_C n mu x (if x = p then _ else _) = true
            by_cases e : x = p
            · rw [if_pos e, e]
              have cpk : pz_C n mu p k = true := pw_in (pe0.mpr ⟨hp, hk, Or.inr c⟩) n
              rcases Nat.le_total (g p) (g k) with d | d
              · rw [Nat.min_eq_left d]; exact h2 p hp
              · rw [Nat.min_eq_right d]; exact hC.2.2 _ _ _ cpk (h2 k hk)
            · rw [if_neg e]; exact h2 x hx
          · show (if x = p then _ else _) ≤ _
            have := h3 x hx
            by_cases e : x = p
            · rw [if_pos e, ← e]; omega
            · rw [if_neg e]; exact this
          · show (if x = p then _ else _) ≤ _
            by_cases e : x = p
            · rw [if_pos e]
              by_cases d : y = k
              · have := h3 k hk
                rw [d]; omega
              · have := h4 x y hx hy (by omega) m
                rw [e] at this; omega
            · rw [if_neg e]
              exact h4 x y hx hy (by omega) m
        · rw [if_neg c]
          refine ⟨g, h1, h2, h3, fun x y hx hy hxy m => ?_⟩
          by_cases e : x = p ∧ y = k
          · rw [e.1, e.2] at m; exact absurd m c
          · exact h4 x y hx hy (by omega) m)
      (fun f' s hP => by
        obtain ⟨g, h1, h2, h3, h4⟩ := hP
        refine ⟨(nI n, s), ⟨g, h1, h2, h3, fun x y hx hy hxy m => h4 x y hx hy (by omega) m⟩, ?_⟩
        show fL_classes_L4 sd (nI n) (nI p) (f' + 1) (nI n) s = _
        rw [fL_classes_L4, if_pos (Int32.le_refl _)]) 14 0 u (Nat.zero_le _) ⟨g, hu, hg⟩ (by omega)
  obtain ⟨r, ⟨g, h1, h2⟩, e⟩ := pz_loop (S := Nat → Int32) (R := Int32 × (Nat → Int32)) (fun f' k s => fL_classes_L3 sd (nI n) f' (nI k) s) (fun k s => ∃ g, (∀ x, x < n → s x = nI (g x)) ∧ pz_pa1 n mu f g k 0) (fun r => ∃ g, (∀ x, x < n → r.2 x = nI (g x)) ∧ pz_pa1 n mu f g n 0) n
    (fun k f' s hk hP => by
      obtain ⟨g, h1, h2⟩ := hP
      obtain ⟨r, hr, e⟩ := inner k s g hk h1 h2
      refine Or.inl ⟨r.2, hr, ?_⟩
      show fL_classes_L3 sd (nI n) (f' + 1) (nI k) s = _
      rw [fL_classes_L3, if_neg (nI_ge hk (by omega)), show fL_classes_L4 sd (nI n) (nI k) 14 (0 : Int32) s = _ from e, pz_bs, nI_1])
    (fun f' s hP => ⟨(nI n, s), hP, by
      show fL_classes_L3 sd (nI n) (f' + 1) (nI n) s = _
      rw [fL_classes_L3, if_pos (Int32.le_refl _)]⟩) 14 0 u (Nat.zero_le _) ⟨f, hu, hf, fun _ _ => Nat.le_refl _, fun x y hx hy hxy _ => by omega⟩ (by omega)
  exact ⟨r.1, r.2, g, e, h1, h2⟩
/-- by pieces the smallest one that is joined with it -/
theorem fl_classes {mu : Nat → Nat → Bool} {sd : Nat → Int32} (hn : n ≤ 12) (sy : ∀ a b, a < n → b < n → mu a b = mu b a) (hS : ∀ p q, p < n → q < n → (sd (16 * p + q) = 1 ↔ mu p q = true)) : ∃ cl, fL_classes (nI n) sd = some cl ∧ ∀ x, x < n → cl x = nI (pz_lo (pz_C n mu) x) := by
  have hC := pC_eq n mu
  have hS2 : ∀ {a b}, pz_C n mu a b = true → pz_C n mu b a = true := fun h => pC_sy sy h
  let I : Nat → (Nat → Int32) → Prop := fun r s => ∃ f : Nat → Nat, (∀ x, x < n → s x = nI (f x)) ∧ (∀ x, x < n → pz_C n mu x (f x) = true) ∧ (∀ x, x < n → f x ≤ x) ∧ ∀ x, x < n → (∀ y, y < n → pz_C n mu x y = true → f y = pz_lo (pz_C n mu) x) ∨ r + 1 ≤ pz_ct (fun y => pz_C n mu x y && decide (f y = pz_lo (pz_C n mu) x)) n
  have low : ∀ (f : Nat → Nat), (∀ x, x < n → pz_C n mu x (f x) = true) → ∀ x y, x < n → pz_C n mu x y = true → pz_lo (pz_C n mu) x ≤ f y := fun f hf x y hx h => by
    have hy := (hC.2.1 _ _ h).2
    have c := hC.2.2 _ _ _ h (hf y hy)
    exact pl_min c (hS2 c)
  obtain ⟨r1, h1, e1⟩ := pz_loop (S := Nat → Int32) (R := Int32 × (Nat → Int32)) (fun f k s => fL_classes_L1 (nI n) f (nI k) s) (fun k s => ∀ p, p < k → s p = nI p) (fun r => ∀ p, p < n → r.2 p = nI p) n
    (fun k f s hk hP => Or.inl ⟨upd s k (nI k), fun p hp => by
        rw [pz_up]
        by_cases e : p = k
        · rw [if_pos e, e]
        · rw [if_neg e]; exact hP p (by omega), by
        show fL_classes_L1 (nI n) (f + 1) (nI k) s = _
        rw [fL_classes_L1, if_neg (nI_ge hk (by omega)), pz_xpa (by omega) (by decide), pz_bs, nI_1]⟩)
    (fun f s hP => ⟨(nI n, s), hP, by
      show fL_classes_L1 (nI n) (f + 1) (nI n) s = _
      rw [fL_classes_L1, if_pos (Int32.le_refl _)]⟩) 14 0 (fun _ => 0) (Nat.zero_le _) (fun p hp => by omega) (by omega)
  obtain ⟨r2, h2, e2⟩ := pz_loop (S := Nat → Int32) (R := Int32 × (Nat → Int32)) (fun f k s => fL_classes_L2 sd (nI n) f (nI k) s) I (fun r => I n r.2) n
    (fun k f s hk hP => by
      obtain ⟨g, a1, a2, a3, a4⟩ := hP
      obtain ⟨q, u', g', e, b1, b2, b3, b4⟩ := fl_pass hn hS a2 a1
      refine Or.inl ⟨u', ⟨g', b1, b2, fun x hx => Nat.le_trans (b3 x hx) (a3 x hx), fun x hx => ?_⟩, ?_⟩
      · have lo' := low g' b2 x
        have lo := low g a2 x
        have keep : ∀ y, pz_C n mu x y = true → g y = pz_lo (pz_C n mu) x → g' y = pz_lo (pz_C n mu) x := fun y h z => by
          have hy := (hC.2.1 _ _ h).2
          have := b3 y hy
          have := lo' y hx h
          omega
        rcases a4 x hx with full | cnt
        · exact Or.inl fun y hy h => keep y h (full y hy h)
        · -- somebody next to one that is through, or all are through
          by_cases ex : ∃ u v, mu u v = true ∧ u < n ∧ v < n ∧ pz_C n mu x u = true ∧ g v = pz_lo (pz_C n mu) x ∧ g u ≠ pz_lo (pz_C n mu) x
          · obtain ⟨u, v, m, hu, hv, cu, gv, gu⟩ := ex
            refine Or.inr ?_
            have new : g' u = pz_lo (pz_C n mu) x := by
              have := b4 u v hu hv (Or.inl hu) m
              have := lo' u hx cu
              omega
            have lt : pz_ct (fun y => pz_C n mu x y && decide (g y = pz_lo (pz_C n mu) x)) n < pz_ct (fun y => pz_C n mu x y && decide (g' y = pz_lo (pz_C n mu) x)) n := by
              refine pc_lt (fun y _ h => ?_) ⟨u, hu, by rw [cu, decide_eq_true new]; rfl, by rw [decide_eq_false gu, Bool.and_false]⟩
              rw [Bool.and_eq_true, decide_eq_true_iff] at h ⊢
              exact ⟨h.1, keep y h.1 h.2⟩
            omega
          · refine Or.inl fun y hy h => keep y h ?_
            have l := pl_in hC hx
            have start : g (pz_lo (pz_C n mu) x) = pz_lo (pz_C n mu) x := by
              have := a3 (pz_lo (pz_C n mu) x) (hC.2.1 _ _ l.1).2
              have := lo (pz_lo (pz_C n mu) x) hx l.1
              omega
            have step := pw_min (E := pz_E0 n mu) (T := fun a b => pz_C n mu x a = true → pz_C n mu x b = true ∧ (g a = pz_lo (pz_C n mu) x → g b = pz_lo (pz_C n mu) x)) (fun a b c s t z => by
                have s1 := s z
                have t1 := t s1.1
                exact ⟨t1.1, fun w => t1.2 (s1.2 w)⟩) (fun a b hab z => by
                obtain ⟨ha, hb, hab⟩ := pe0.mp hab
                rcases hab with e | m
                · rw [← e]; exact ⟨z, id⟩
                · refine ⟨hC.2.2 _ _ _ z (pw_in (pe0.mpr ⟨ha, hb, Or.inr m⟩) n), fun w => ?_⟩
                  apply Classical.byContradiction
                  intro no
                  exact ex ⟨b, a, by rw [sy b a hb ha]; exact m, hb, ha, hC.2.2 _ _ _ z (pw_in (pe0.mpr ⟨ha, hb, Or.inr m⟩) n), w, no⟩) n
            exact (step (pz_lo (pz_C n mu) x) y (hC.2.2 _ _ _ l.2 h) l.1).2 start
      · show fL_classes_L2 sd (nI n) (f + 1) (nI k) s = _
        rw [fL_classes_L2, if_neg (nI_ge hk (by omega)), show fL_classes_L3 sd (nI n) 14 (0 : Int32) s = _ from e, pz_bs, nI_1])
    (fun f s hP => ⟨(nI n, s), hP, by
      show fL_classes_L2 sd (nI n) (f + 1) (nI n) s = _
      rw [fL_classes_L2, if_pos (Int32.le_refl _)]⟩) 14 0 r1.2 (Nat.zero_le _) ⟨id, fun x hx => h1 x hx, fun x hx => hC.1 x hx, fun x _ => Nat.le_refl _, fun x hx => Or.inr (by
      apply Classical.byContradiction
      intro no
      have l := pl_in hC hx
      have z := (pc_0 (P := fun y => pz_C n mu x y && decide (id y = pz_lo (pz_C n mu) x)) (n := n)).mp (by omega) (pz_lo (pz_C n mu) x) (hC.2.1 _ _ l.1).2
      rw [l.1, decide_eq_true (show id (pz_lo (pz_C n mu) x) = pz_lo (pz_C n mu) x from rfl)] at z
      cases z)⟩ (by omega)
  obtain ⟨f, a1, a2, a3, a4⟩ := h2
  refine ⟨r2.2, ?_, fun x hx => ?_⟩
  · unfold fL_classes
    rw [show fL_classes_L1 (nI n) 14 (0 : Int32) (fun _ => 0) = _ from e1, pz_bs, show fL_classes_L2 sd (nI n) 14 (0 : Int32) r1.2 = _ from e2, pz_bs]
  · rw [a1 x hx]
    rcases a4 x hx with full | cnt
    · rw [full x hx (hC.1 x hx)]
    · have := pc_le (fun y => pz_C n mu x y && decide (f y = pz_lo (pz_C n mu) x)) n
      omega
theorem pd_and {P : Nat → Bool} {b0 : Bool} : ∀ N, pz_fd (fun k b => b && !P k) b0 N = (b0 && !pz_ex P N)
  | 0 => by
    show b0 = _
    rw [show pz_ex P 0 = false from rfl]
    cases b0 <;> rfl
  | N + 1 => by
    rw [pz_fd, pd_and N]
    have e : pz_ex P (N + 1) = (pz_ex P N || P N) := by
      rw [Bool.eq_iff_iff, Bool.or_eq_true, pex, pex]
      constructor
      · rintro ⟨k, hk, h⟩
        by_cases c : k = N
        · rw [c] at h; exact Or.inr h
        · exact Or.inl ⟨k, by omega, h⟩
      · rintro (⟨k, hk, h⟩ | h)
        · exact ⟨k, by omega, h⟩
        · exact ⟨N, by omega, h⟩
    rw [e]
    cases b0 <;> cases pz_ex P N <;> cases P N <;> rfl
theorem pd_or {P : Nat → Bool} {b0 : Bool} : ∀ N, pz_fd (fun k b => b || P k) b0 N = (b0 || pz_ex P N)
  | 0 => by
    show b0 = _
    rw [show pz_ex P 0 = false from rfl, Bool.or_false]
  | N + 1 => by
    rw [pz_fd, pd_or N]
    have e : pz_ex P (N + 1) = (pz_ex P N || P N) := by
      rw [Bool.eq_iff_iff, Bool.or_eq_true, pex, pex]
      constructor
      · rintro ⟨k, hk, h⟩
        by_cases c : k = N
        · rw [c] at h; exact Or.inr h
        · exact Or.inl ⟨k, by omega, h⟩
      · rintro (⟨k, hk, h⟩ | h)
        · exact ⟨k, by omega, h⟩
        · exact ⟨N, by omega, h⟩
    rw [e, Bool.or_assoc]
/-- what was said, in the law's row -/
def pz_S (n : Nat) (σ : zz_St) (sd : Nat → Int32) : Prop := ∀ p q, p < n → q < n → sd (16 * p + q) = vCd σ p q
theorem vCd1 {p q : Nat} : vCd σ p q = 1 ↔ vMu σ p q = true := pn_said
theorem vCd2 (c6 : pz_CW6 n σ) {p q : Nat} (hp : p < n) (hq : q < n) : vCd σ p q = 2 ↔ vNo σ p q = true := by
  unfold vCd
  rw [pn_said2]
  constructor
  · exact fun h => h.2
  · intro h
    refine ⟨?_, h⟩
    cases d : vMu σ p q with
    | false => rfl
    | true => exact absurd ⟨d, h⟩ (c6.2 p q hp hq).2.2
/-- may it be: as the law finds out -/
theorem fl_possible {sd cl : Nat → Int32} (hn : n ≤ 12) (c6 : pz_CW6 n σ) (S : pz_S n σ sd) (hcl : ∀ x, x < n → cl x = nI (pz_lo (pz_C n (vMu σ)) x)) : ∃ b : Bool, fL_speak_L2 sd cl (nI n) 14 1 0 = some (zz_bi b, nI n) ∧ (b = false ↔ pz_cn n σ) := by
  have hC := pC_eq n (vMu σ)
  have hlo : ∀ x, x < n → pz_lo (pz_C n (vMu σ)) x < 100 := fun x hx => by have := pl_le (pz_C n (vMu σ)) x; omega
  let bad : Nat → Nat → Bool := fun p q => vNo σ p q && decide (pz_lo (pz_C n (vMu σ)) p = pz_lo (pz_C n (vMu σ)) q)
  have inner : ∀ p b, p < n → fL_speak_L3 sd cl (nI n) (nI p) 14 (zz_bi b) 0 = some (zz_bi (b && !pz_ex (bad p) n), nI n) := by
    intro p b0 hp
    have e := pz_for (S := Bool) (fun f k b => fL_speak_L3 sd cl (nI n) (nI p) f (zz_bi b) (nI k)) (fun k b => b && !bad p k) (fun b => (zz_bi b, nI n)) n b0 (fun k f hk => by
      generalize pz_fd (fun k b => b && !bad p k) b0 k = b
      show fL_speak_L3 sd cl (nI n) (nI p) (f + 1) (zz_bi b) (nI k) = fL_speak_L3 sd cl (nI n) (nI p) f (zz_bi (b && !bad p k)) (nI (k + 1))
      have ix : (16 : Int32) * nI p + nI k = nI (16 * p + k) := by rw [show (16 : Int32) = nI 16 from rfl, pk_mul, nI_add]
      rw [fL_speak_L3, if_neg (nI_ge hk (by omega)), ix, pz_ga (by omega) (by decide), pz_bs, S p k hp hk, nI_1]
      cases b with
      | false =>
        rw [if_pos (show zz_bi false = 0 from rfl), pz_bs, pz_bs, Bool.false_and]
      | true =>
        rw [if_neg (show ¬ zz_bi true = 0 by decide), Bool.true_and]
        by_cases g : vNo σ p k = true
        · rw [if_pos ((vCd2 c6 hp hk).mpr g), pz_ga (by omega) (by decide), pz_bs, pz_ga (by omega) (by decide), pz_bs, hcl p hp, hcl k hk]
          have l1 := hlo p hp
          have l2 := hlo k hk
          by_cases d : pz_lo (pz_C n (vMu σ)) p = pz_lo (pz_C n (vMu σ)) k
          · rw [if_pos (by rw [d]), pz_bs, pz_bs, show bad p k = true by show (_ && _) = true; rw [g, decide_eq_true d]; rfl]; rfl
          · rw [if_neg (by rw [nI_eq (by omega) (by omega)]; exact d), pz_bs, pz_bs, show bad p k = false by show (_ && _) = false; rw [decide_eq_false d, Bool.and_false]]; rfl
        · rw [if_neg (fun z => g ((vCd2 c6 hp hk).mp z)), pz_bs, pz_bs, show bad p k = false by show (_ && _) = false; rw [Bool.eq_false_iff.mpr g]; rfl]; rfl) (fun f => by
      show fL_speak_L3 sd cl (nI n) (nI p) (f + 1) _ (nI n) = _
      rw [fL_speak_L3, if_pos (Int32.le_refl _)]) 14 0 (Nat.zero_le _) (by omega)
    rw [pd_and n] at e
    exact e
  have e := pz_for (S := Bool) (fun f k b => fL_speak_L2 sd cl (nI n) f (zz_bi b) (nI k)) (fun k b => b && !pz_ex (bad k) n) (fun b => (zz_bi b, nI n)) n true (fun k f hk => by
    generalize pz_fd (fun k b => b && !pz_ex (bad k) n) true k = b
    show fL_speak_L2 sd cl (nI n) (f + 1) (zz_bi b) (nI k) = fL_speak_L2 sd cl (nI n) f (zz_bi (b && !pz_ex (bad k) n)) (nI (k + 1))
    rw [fL_speak_L2, if_neg (nI_ge hk (by omega)), show fL_speak_L3 sd cl (nI n) (nI k) 14 (zz_bi b) (0 : Int32) = _ from inner k b hk, pz_bs, nI_1]) (fun f => by
    show fL_speak_L2 sd cl (nI n) (f + 1) _ (nI n) = _
    rw [fL_speak_L2, if_pos (Int32.le_refl _)]) 14 0 (Nat.zero_le _) (by omega)
  rw [pd_and n] at e
  refine ⟨true && !pz_ex (fun k => pz_ex (bad k) n) n, e, ?_⟩
  rw [Bool.true_and, Bool.not_eq_false', pex]
  constructor
  · rintro ⟨p, hp, h⟩
    obtain ⟨q, hq, h⟩ := pex.mp h
    have h : (vNo σ p q && decide (pz_lo (pz_C n (vMu σ)) p = pz_lo (pz_C n (vMu σ)) q)) = true := h
    rw [Bool.and_eq_true, decide_eq_true_iff] at h
    exact ⟨p, q, hp, hq, h.1, ((pl_iff hC hp hq).mp h.2).1⟩
  · rintro ⟨p, q, hp, hq, h1, h2⟩
    refine ⟨p, hp, pex.mpr ⟨q, hq, ?_⟩⟩
    show (vNo σ p q && decide (pz_lo (pz_C n (vMu σ)) p = pz_lo (pz_C n (vMu σ)) q)) = true
    rw [h1, decide_eq_true ((pl_iff hC hp hq).mpr ⟨h2, pC_sy (vMu_sy c6) h2⟩)]; rfl
theorem pcn_c (h22 : σ' 22 = σ 22) (h23 : σ' 23 = σ 23) : pz_cn n σ' ↔ pz_cn n σ := by unfold pz_cn vNo vMu; rw [h22, h23]
theorem vCd_c (h22 : σ' 22 = σ 22) (h23 : σ' 23 = σ 23) : vCd σ' = vCd σ := by
  funext p q
  unfold vCd vNo vMu
  rw [h22, h23]
theorem pS_up {sd : Nat → Int32} (hn : n ≤ 12) {a b : Nat} (ha : a < n) (hb : b < n) {w : Int32} {σ1 : zz_St} (S : pz_S n σ sd) (h : ∀ p q, vCd σ1 p q = if (p = a ∧ q = b) ∨ (p = b ∧ q = a) then w else vCd σ p q) : pz_S n σ1 (upd (upd sd (16 * a + b) w) (16 * b + a) w) := by
  intro p q hp hq
  rw [pz_up, pz_up, h]
  by_cases g : (p = a ∧ q = b) ∨ (p = b ∧ q = a)
  · rw [if_pos g]
    by_cases c : 16 * p + q = 16 * b + a
    · rw [if_pos c]
    · rw [if_neg c, if_pos (by omega)]
  · rw [if_neg g, if_neg (by omega), if_neg (by omega)]
    exact S p q hp hq
theorem pz_other {a c n : Nat} (ha : a < n) (hc : c < n - 1) : (a + 1 + c) % n ≠ a ∧ (a + 1 + c) % n < n := by
  refine ⟨?_, Nat.mod_lt _ (by omega)⟩
  rcases Nat.lt_or_ge (a + 1 + c) n with h | h
  · rw [Nat.mod_eq_of_lt h]; omega
  · rw [Nat.mod_eq_sub_mod h, Nat.mod_eq_of_lt (by omega)]; omega
theorem z_speak (hL : L ≤ 260) (hn : n ≤ 12) (V : pz_V n σ) (X : pz_X n σ) (h22 : ∀ c, σ 22 c = 0) (h23 : ∀ c, σ 23 c = 0) : ∃ σ' sd, fL_speak xs L σ (fun _ => 0) 11 (nI n) = some (1, σ', sd) ∧ pz_V n σ' ∧ pz_X n σ' ∧ ¬ pz_cn n σ' ∧ pz_S n σ' sd := by
  let I : zz_St → (Nat → Int32) → Prop := fun σ sd => pz_V n σ ∧ pz_X n σ ∧ ¬ pz_cn n σ ∧ pz_S n σ sd
  have I0 : I σ (fun _ => 0) := by
    refine ⟨V, X, ?_, ?_⟩
    · rintro ⟨p, q, _, _, h, _⟩
      unfold vNo at h
      rw [h23, pb_0] at h
      cases h
    · intro p q _ _
      unfold vCd vMu vNo
      rw [h22, h23, pb_0]
      rfl
  obtain ⟨r, ⟨k, σ', sd, rfl, hr⟩, e⟩ := pz_loop (S := zz_St × (Nat → Int32)) (R := (Int32 × zz_St × (Nat → Int32)) ⊕ (Int32 × zz_St × (Nat → Int32))) (fun f k s => fL_speak_L1 xs L (11 : Int32) (nI n) f (nI k) s.1 s.2)
    (fun _ s => I s.1 s.2)
    (fun r => ∃ k σ' sd, r = .inr (k, σ', sd) ∧ I σ' sd) 4
    (fun k f s hk hP => by
      obtain ⟨s, sd⟩ := s
      obtain ⟨i1, i2, i3, i4⟩ := hP
      dsimp only at i1 i2 i3 i4
      by_cases small : n ≤ 1
      · refine Or.inr ⟨.inr (nI k, s, sd), ⟨_, _, _, rfl, i1, i2, i3, i4⟩, ?_⟩
        show fL_speak_L1 xs L (11 : Int32) (nI n) (f + 1) (nI k) s sd = _
        rw [fL_speak_L1, if_neg (show ¬ (4 : Int32) ≤ nI k from nI_ge (a := k) (b := 4) hk (by decide)), if_pos (show nI n ≤ 1 from nI_le (b := 1) small (by decide)), pz_bs, if_neg (by decide)]
      · have ic : (11 : Int32) + nI k = nI (11 + k) := nI_add 11 k
        obtain ⟨x8, e8⟩ := fl_cell (xs := xs) hL ic (by omega)
        obtain ⟨a, ha, ea⟩ := fl_below x8 (d := nI n) (m := n) rfl (by omega) (by omega)
        have n1 : nI n - (1 : Int32) = nI (n - 1) := pk_sub (a := n) (b := 1) (by omega)
        obtain ⟨c, hc, ec⟩ := fl_below (x8 >>> ((4 : Int32) &&& 31)) (d := nI n - (1 : Int32)) (m := n - 1) n1 (by omega) (by omega)
        obtain ⟨hba, hb⟩ := pz_other ha hc
        have er : zx_rm ((nI a + (1 : Int32)) + nI c) (nI n) = some (nI ((a + 1 + c) % n)) := by
          rw [nI_1, nI_add]
          exact pz_rm (by omega) (by omega) (by omega)
        generalize (a + 1 + c) % n = b at hba hb er
        obtain ⟨wn, hw3, ew⟩ := fl_below (x8 >>> ((8 : Int32) &&& 31)) (d := 3) (m := 3) rfl (by decide) (by decide)
        have hw : nI wn = 0 ∨ nI wn = 1 ∨ nI wn = 2 := by
          rcases (by omega : wn = 0 ∨ wn = 1 ∨ wn = 2) with g | g | g <;> rw [g]
          · exact Or.inl rfl
          · exact Or.inr (Or.inl rfl)
          · exact Or.inr (Or.inr rfl)
        generalize nI wn = w at ew hw
        have i16 : (16 : Int32) * nI a = nI (16 * a) := pk_mul 16 a
        have i16b : (16 : Int32) * nI b = nI (16 * b) := pk_mul 16 b
        have cab := i4 a b ha hb
        obtain ⟨s1, c6, hcd, good, bad⟩ := u_say i1 ha hb (fun q => hba q.symm) hw
        have S1 := pS_up (σ := s) hn ha hb i4 hcd
        obtain ⟨cl, e9, hcl⟩ := fl_classes (n := n) (mu := vMu s1) hn (vMu_sy c6) (sd := upd (upd sd (16 * a + b) w) (16 * b + a) w) (fun p q hp hq => by rw [S1 p q hp hq]; exact vCd1)
        obtain ⟨poss, ep, hp⟩ := fl_possible hn c6 S1 hcl
        have un : ∀ X, ((((fX7_say s (nI a) (nI b) w).bind fun x46 => match x46 with
            | (.inl x46, σ47) => some (x46, σ47)
            | (.inr E49, σ47) => if E49 = "java/lang/IllegalStateException" then some ((-3 : Int32), σ47) else none).bind fun x50 =>
            (if (zz_bi poss, nI n).1 = 0 then some (-3 : Int32) else some (vCd s a b)).bind fun x54 =>
            if x50.1 = x54 then
              if (zz_bi poss, nI n).1 = 0 then
                (zx_pa (upd (upd sd (16 * a + b) w) (16 * b + a) w) 256 (nI (16 * a + b)) (vCd s a b)).bind fun u60 =>
                (zx_pa u60 256 (nI (16 * b + a)) (vCd s a b)).bind fun u62 =>
                fL_speak_L1 xs L (11 : Int32) (nI n) f (nI (k + 1)) x50.2 u62
              else fL_speak_L1 xs L (11 : Int32) (nI n) f (nI (k + 1)) x50.2 (upd (upd sd (16 * a + b) w) (16 * b + a) w)
            else some (.inl ((0 : Int32), x50.2, upd (upd sd (16 * a + b) w) (16 * b + a) w))) : Option _) = X → fL_speak_L1 xs L (11 : Int32) (nI n) (f + 1) (nI k) s sd = X := by
          intro X h
          rw [← h, fL_speak_L1, if_neg (show ¬ (4 : Int32) ≤ nI k from nI_ge (a := k) (b := 4) hk (by decide)), if_neg (show ¬ nI n ≤ 1 from nI_ge (a := 1) (by omega) (by omega)), pz_bs, if_pos rfl, e8, pz_bs, ea, pz_bs, ec, pz_bs, er, pz_bs, ew, pz_bs, i16, i16b, nI_add, nI_add, pz_ga (by omega) (by decide), pz_bs, pz_xpa (by omega) (by decide), pz_bs, pz_xpa (by omega) (by decide), pz_bs, e9, pz_bs, show fL_speak_L2 (upd (upd sd (16 * a + b) w) (16 * b + a) w) cl (nI n) 14 (1 : Int32) (0 : Int32) = _ from ep, pz_bs, cab, nI_1]
          rfl
        refine Or.inl ?_
        cases poss with
        | true =>
          have no : ¬ pz_cn n s1 := fun h => by have := hp.mpr h; cases this
          obtain ⟨s2, es, V2, q22, q23, q2⟩ := good no
          refine ⟨(s2, upd (upd sd (16 * a + b) w) (16 * b + a) w), ⟨V2, pX_c (q2 4 (by decide) (by decide) (by decide)) (q2 5 (by decide) (by decide) (by decide)) i2, fun h => no ((pcn_c q22 q23).mp h), ?_⟩, un _ ?_⟩
          · show pz_S n s2 _
            unfold pz_S
            rw [vCd_c q22 q23]
            exact S1
          · rw [es, pz_bs]
            show ((some (vCd s a b, s2)).bind _) = _
            rw [pz_bs]
            show ((if zz_bi true = 0 then some (-3 : Int32) else some (vCd s a b)).bind _) = _
            rw [if_neg (show ¬ zz_bi true = 0 by decide), pz_bs, if_pos rfl]
            show (if zz_bi true = 0 then _ else _) = _
            rw [if_neg (show ¬ zz_bi true = 0 by decide)]
        | false =>
          have yes : pz_cn n s1 := hp.mp rfl
          have es := bad yes
          refine ⟨(s, upd (upd (upd (upd sd (16 * a + b) w) (16 * b + a) w) (16 * a + b) (vCd s a b)) (16 * b + a) (vCd s a b)), ⟨i1, i2, i3, ?_⟩, un _ ?_⟩
          · intro p q hp hq
            show upd (upd (upd (upd sd (16 * a + b) w) (16 * b + a) w) (16 * a + b) (vCd s a b)) (16 * b + a) (vCd s a b) (16 * p + q) = _
            rw [pz_up, pz_up, pz_up, pz_up]
            by_cases g1 : 16 * p + q = 16 * b + a
            · rw [if_pos g1, show p = b by omega, show q = a by omega]
              unfold vCd vMu vNo
              have z := i1.1.2.2.2.2.2 a b ha hb
              rw [z.1, z.2.1]
            · rw [if_neg g1]
              by_cases g2 : 16 * p + q = 16 * a + b
              · rw [if_pos g2, show p = a by omega, show q = b by omega]
              · rw [if_neg g2, if_neg g1, if_neg g2]
                exact i4 p q hp hq
          · rw [es, pz_bs]
            show (((if ("java/lang/IllegalStateException" : String) = "java/lang/IllegalStateException" then some ((-3 : Int32), s) else none) : Option (Int32 × zz_St)).bind _) = _
            rw [if_pos rfl, pz_bs]
            show ((if zz_bi false = 0 then some (-3 : Int32) else some (vCd s a b)).bind _) = _
            rw [if_pos (show zz_bi false = 0 from rfl), pz_bs, if_pos rfl]
            show (if zz_bi false = 0 then _ else _) = _
            rw [if_pos (show zz_bi false = 0 from rfl), pz_xpa (by omega) (by decide), pz_bs, pz_xpa (by omega) (by decide), pz_bs])
    (fun f s hP => ⟨.inr (nI 4, s.1, s.2), ⟨_, _, _, rfl, hP⟩, by
      show fL_speak_L1 xs L (11 : Int32) (nI n) (f + 1) (nI 4) s.1 s.2 = _
      rw [fL_speak_L1, if_pos (by decide), pz_bs, if_neg (by decide)]⟩) 14 0 (σ, fun _ => 0) (by decide) I0 (by decide)
  refine ⟨σ', sd, ?_, hr⟩
  unfold fL_speak
  rw [show fL_speak_L1 xs L (11 : Int32) (nI n) 14 (0 : Int32) σ (fun _ => 0) = _ from e, pz_bs]
  rfl
end LS
