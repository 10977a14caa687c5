/-! pure part: the reference's groups -/
section MG
variable {n : Nat} {σ σ' τ τ' : zz_St}
/-- what the reference's makeGroups rests on, where σ is the class's state that holds the same -/
def pz_MB (n : Nat) (σ τ : zz_St) : Prop := pz_CW n σ ∧ pz_RL n σ τ
def pz_MA (n : Nat) (σ τ : zz_St) : Prop := ∀ a b, a < n → b < n → a ≠ b → τ 56 (14 * a + b) = nI (vAf σ a b)
theorem fm_weigh (M : pz_MB n σ τ) : ∃ τ', fX8_makeGroups_L1 1000 0 τ = some (nI n, τ') ∧ (∀ q, q ≠ 56 → τ' q = τ q) ∧ pz_MA n σ τ' := by
  obtain ⟨⟨c1, c2, c3, c5, c6⟩, r1, r2, r3, r4, r5, r6⟩ := M
  have hn := c1.1
  let Inv : Nat → Nat → zz_St → Prop := fun a b s => (∀ q, q ≠ 56 → s q = τ q) ∧ (∀ x y, x < n → y < n → x ≠ y → (x < a ∨ (x = a ∧ y < b)) → s 56 (14 * x + y) = nI (vAf σ x y))
  have inner : ∀ a s, a < n → Inv a 0 s → ∃ r, Inv (a + 1) 0 r.2 ∧ fX8_makeGroups_L2 (nI a) 1000 0 s = some r := by
    intro a s ha hI
    exact pz_loop (S := zz_St) (R := Int32 × zz_St) (fun f k s => fX8_makeGroups_L2 (nI a) f (nI k) s) (fun k s => Inv a k s) (fun r => Inv (a + 1) 0 r.2) n
      (fun b f s hb hP => by
        obtain ⟨i1, i2⟩ := hP
        have sm : pz_sm' τ s := ⟨fun q h1 h2 => i1 q (by omega), by rw [i1 47 (by decide)], by rw [i1 47 (by decide)], by rw [i1 47 (by decide)], by rw [i1 47 (by decide)]⟩
        have R := pm_RL sm ⟨r1, r2, r3, r4, r5, r6⟩
        have eA := fm_aff c3 c5 hn R.2.1 R.2.2.1 R.2.2.2.2.1 ha hb
        refine Or.inl ⟨zz_u s 56 (14 * a + b) (if a = b then 0 else nI (vAf σ a b)), ⟨fun q hq => by rw [pz_uq hq]; exact i1 q hq, fun x y hx hy hxy h => ?_⟩, ?_⟩
        · rw [pz_u]
          by_cases g : x = a ∧ y = b
          · rw [if_pos ⟨rfl, by omega⟩, if_neg (by omega), g.1, g.2]
          · rw [if_neg (by omega)]
            exact i2 x y hx hy hxy (by omega)
        · show fX8_makeGroups_L2 (nI a) (f + 1) (nI b) s = _
          rw [fX8_makeGroups_L2, i1 47 (by decide), r1, if_neg (nI_ge hb (by omega)), eA, pz_bs]
          by_cases g : a = b
          · rw [if_pos (by rw [g]), pz_bs, show (14 : Int32) = nI 14 from rfl, pk_mul, nI_add, pz_pa (by omega) (by decide), pz_bs, if_pos g, nI_1]
          · rw [if_neg (by rw [nI_eq (by omega) (by omega)]; exact g), pz_bs, show (14 : Int32) = nI 14 from rfl, pk_mul, nI_add, pz_pa (by omega) (by decide), pz_bs, if_neg g, nI_1])
      (fun f s hP => ⟨(nI n, s), ⟨hP.1, fun x y hx hy hxy h => hP.2 x y hx hy hxy (by omega)⟩, by
        show fX8_makeGroups_L2 (nI a) (f + 1) (nI n) s = _
        rw [fX8_makeGroups_L2, hP.1 47 (by decide), r1, if_pos (Int32.le_refl _)]⟩) 1000 0 s (by omega) hI (by omega)
  obtain ⟨r, hr, e⟩ := pz_loop (S := zz_St) (R := Int32 × zz_St) (fun f k s => fX8_makeGroups_L1 f (nI k) s) (fun k s => Inv k 0 s) (fun r => r.1 = nI n ∧ Inv n 0 r.2) n
    (fun k f s hk hP => by
      obtain ⟨r, hr, e⟩ := inner k s hk hP
      refine Or.inl ⟨r.2, hr, ?_⟩
      show fX8_makeGroups_L1 (f + 1) (nI k) s = _
      rw [fX8_makeGroups_L1, hP.1 47 (by decide), r1, if_neg (nI_ge hk (by omega)), e, pz_bs, nI_1])
    (fun f s hP => ⟨(nI n, s), ⟨rfl, hP⟩, by
      show fX8_makeGroups_L1 (f + 1) (nI n) s = _
      rw [fX8_makeGroups_L1, hP.1 47 (by decide), r1, if_pos (Int32.le_refl _)]⟩) 1000 0 τ (by omega) ⟨fun _ _ => rfl, fun x y _ _ _ h => by omega⟩ (by omega)
  exact ⟨r.2, by rw [← hr.1]; exact e, hr.2.1, fun a b ha hb hab => hr.2.2 a b ha hb hab (by omega)⟩
theorem fm_bar {h : Nat → Nat} (M : pz_MB n σ τ) (H : pz_HH n h τ) (hh : pz_Hd n h) {f s : Nat} (hf : f < n) (hs : s < n) : fX8_areBarred τ (nI f) (nI s) = some (zz_bi (pz_bar n (vNo σ) h f s)) := by
  obtain ⟨⟨c1, c2, c3, c5, c6⟩, r1, r2, r3, r4, r5, r6⟩ := M
  have hn := c1.1
  unfold fX8_areBarred
  let B : Nat → Nat → Bool := fun a b => pz_G n h f a && (pz_G n h s b && vNo σ a b)
  have step : ∀ a b d, a < n → b < n → (if zz_bi d = 0 then (zz_ga (τ 55) 14 (nI a)).bind fun x7 => if x7 = nI f then (zz_ga (τ 55) 14 (nI b)).bind fun x10 => if x10 = nI s then (fX8_saidOf τ (nI a) (nI b)).bind fun x13 => if x13 = (2 : Int32) then some true else some false else some false else some false else some true) = some (d || B a b) := by
    intro a b d ha hb
    have la := (hh a ha).1
    have lb := (hh b hb).1
    cases d with
    | true => rw [if_neg (by decide)]; rfl
    | false =>
      rw [if_pos (by decide), pz_ga (by omega) (by decide), pz_bs, H a ha, pz_ga (by omega) (by decide), pz_bs, H b hb, fm_said r6 hn ha hb, pz_bs]
      show _ = some (false || (pz_G n h f a && (pz_G n h s b && vNo σ a b)))
      unfold pz_G
      rw [decide_eq_true ha, decide_eq_true hb]
      by_cases g1 : h a = f
      · rw [if_pos (by rw [g1]), decide_eq_true g1]
        by_cases g2 : h b = s
        · rw [if_pos (by rw [g2]), decide_eq_true g2]
          cases g3 : vNo σ a b with
          | true =>
            have m : vMu σ a b = false := by
              cases d : vMu σ a b with
              | false => rfl
              | true => exact absurd ⟨d, g3⟩ (c6.2 a b ha hb).2.2
            rw [m]; rfl
          | false => cases vMu σ a b <;> rfl
        · rw [if_neg (by rw [nI_eq (by omega) (by omega)]; exact g2), decide_eq_false g2]; rfl
      · rw [if_neg (by rw [nI_eq (by omega) (by omega)]; exact g1), decide_eq_false g1]; rfl
  have e2 : ∀ a d, a < n → ∃ q, fX8_areBarred_L2 τ (nI f) (nI s) (nI a) 1000 (zz_bi d) 0 = some (zz_bi (d || pz_ex (fun b => B a b) n), q) := by
    intro a d ha
    obtain ⟨r, hr, e⟩ := pz_loop (S := Bool) (R := Int32 × Int32) (fun g k x => fX8_areBarred_L2 τ (nI f) (nI s) (nI a) g (zz_bi x) (nI k)) (fun k x => x = true ↔ (d = true ∨ ∃ b, b < k ∧ B a b = true)) (fun r => r.1 = zz_bi (d || pz_ex (fun b => B a b) n)) n
      (fun b g x hb hP => by
        refine Or.inl ⟨x || B a b, ?_, ?_⟩
        · rw [Bool.or_eq_true, hP]
          constructor
          · rintro ((p | ⟨b', h1, h2⟩) | p)
            · exact Or.inl p
            · exact Or.inr ⟨b', by omega, h2⟩
            · exact Or.inr ⟨b, by omega, p⟩
          · rintro (p | ⟨b', h1, h2⟩)
            · exact Or.inl (Or.inl p)
            · by_cases c : b' = b
              · rw [c] at h2; exact Or.inr h2
              · exact Or.inl (Or.inr ⟨b', by omega, h2⟩)
        · show fX8_areBarred_L2 τ (nI f) (nI s) (nI a) (g + 1) (zz_bi x) (nI b) = _
          rw [fX8_areBarred_L2, r1, if_neg (nI_ge hb (by omega)), step a b x ha hb, pz_bs, pz_bs, nI_1])
      (fun g x hP => ⟨(zz_bi x, nI n), by
        show zz_bi x = _
        refine congrArg zz_bi ?_
        rw [Bool.eq_iff_iff, hP, Bool.or_eq_true, pex], by
        show fX8_areBarred_L2 τ (nI f) (nI s) (nI a) (g + 1) (zz_bi x) (nI n) = _
        rw [fX8_areBarred_L2, r1, if_pos (Int32.le_refl _)]⟩) 1000 0 d (by omega) ⟨fun q => Or.inl q, fun q => q.elim id (fun ⟨b, h1, _⟩ => by omega)⟩ (by omega)
    exact ⟨r.2, by rw [← hr]; exact e⟩
  obtain ⟨r, hr, e⟩ := pz_loop (S := Bool) (R := Int32 × Int32) (fun g k x => fX8_areBarred_L1 τ (nI f) (nI s) g (zz_bi x) (nI k)) (fun k x => x = true ↔ ∃ a b, a < k ∧ b < n ∧ B a b = true) (fun r => r.1 = zz_bi (pz_bar n (vNo σ) h f s)) n
    (fun a g x ha hP => by
      obtain ⟨q, eq⟩ := e2 a x ha
      refine Or.inl ⟨x || pz_ex (fun b => B a b) n, ?_, ?_⟩
      · rw [Bool.or_eq_true, hP, pex]
        constructor
        · rintro (⟨a', b', h1, h2, h3⟩ | ⟨b', h1, h2⟩)
          · exact ⟨a', b', by omega, h2, h3⟩
          · exact ⟨a, b', by omega, h1, h2⟩
        · rintro ⟨a', b', h1, h2, h3⟩
          by_cases c : a' = a
          · rw [c] at h3; exact Or.inr ⟨b', h2, h3⟩
          · exact Or.inl ⟨a', b', by omega, h2, h3⟩
      · show fX8_areBarred_L1 τ (nI f) (nI s) (g + 1) (zz_bi x) (nI a) = _
        rw [fX8_areBarred_L1, r1, if_neg (nI_ge ha (by omega)), eq, pz_bs, nI_1])
    (fun g x hP => ⟨(zz_bi x, nI n), by
      show zz_bi x = _
      refine congrArg zz_bi ?_
      rw [Bool.eq_iff_iff, hP]
      unfold pz_bar
      rw [pex]
      constructor
      · rintro ⟨a, b, h1, h2, h3⟩
        have h3 : (pz_G n h f a && (pz_G n h s b && vNo σ a b)) = true := h3
        rw [Bool.and_eq_true] at h3
        exact ⟨a, by omega, by rw [Bool.and_eq_true]; exact ⟨h3.1, pex.mpr ⟨b, by omega, h3.2⟩⟩⟩
      · rintro ⟨a, h1, h2⟩
        rw [Bool.and_eq_true, pex] at h2
        obtain ⟨g1, b, g2, g3⟩ := h2
        have g4 := g3
        rw [Bool.and_eq_true] at g4
        exact ⟨a, b, (pG.mp g1).1, (pG.mp g4.1).1, by
          show (pz_G n h f a && (pz_G n h s b && vNo σ a b)) = true
          rw [g1, g3]; rfl⟩, by
      show fX8_areBarred_L1 τ (nI f) (nI s) (g + 1) (zz_bi x) (nI n) = _
      rw [fX8_areBarred_L1, r1, if_pos (Int32.le_refl _)]⟩) 1000 0 false (by omega) ⟨fun q => absurd q (by decide), fun ⟨a, b, h1, _⟩ => by omega⟩ (by omega)
  rw [show fX8_areBarred_L1 τ (nI f) (nI s) 1000 (0 : Int32) (0 : Int32) = _ from e, pz_bs, hr, pz_bo, pz_bs]
/-- the reference's four numbers of a linkage, of ours -/
def pz_r4 (t : Nat × Nat × Nat × Nat) : Int32 × Int32 × Int32 × Int32 := (if t.2.2.2 = 0 then -1 else nI t.1, if t.2.2.2 = 0 then -1 else nI t.2.1, nI t.2.2.1, nI t.2.2.2)
def pz_q4 (n : Nat) (af : Nat → Nat → Nat) (h : Nat → Nat) (f s a b : Nat) (t : Nat × Nat × Nat × Nat) : Nat × Nat × Nat × Nat := if pz_c2 n h f s a b = true then (max t.1 (af a b), min t.2.1 (af a b), t.2.2.1 + af a b, t.2.2.2 + 1) else t
def pz_ok4 (t : Nat × Nat × Nat × Nat) : Prop := t.1 ≤ 4050 ∧ t.2.1 ≤ 1000000 ∧ (t.2.2.2 = 0 → t.1 = 0 ∧ t.2.1 = 1000000) ∧ t.2.2.2 ≤ 196
theorem pq4 {af : Nat → Nat → Nat} {h : Nat → Nat} {f s a b : Nat} (hA : ∀ a b, af a b ≤ 4050) {t : Nat × Nat × Nat × Nat} {m : Nat} (ht : t.1 ≤ 4050 ∧ t.2.1 ≤ 1000000 ∧ (t.2.2.2 = 0 → t.1 = 0 ∧ t.2.1 = 1000000) ∧ t.2.2.2 ≤ m) : (pz_q4 n af h f s a b t).1 ≤ 4050 ∧ (pz_q4 n af h f s a b t).2.1 ≤ 1000000 ∧ ((pz_q4 n af h f s a b t).2.2.2 = 0 → (pz_q4 n af h f s a b t).1 = 0 ∧ (pz_q4 n af h f s a b t).2.1 = 1000000) ∧ (pz_q4 n af h f s a b t).2.2.2 ≤ m + 1 := by
  have v := hA a b
  obtain ⟨h1, h2, h3, h4⟩ := ht
  unfold pz_q4
  split
  · refine ⟨?_, ?_, ?_, ?_⟩
    · show max t.1 (af a b) ≤ 4050; omega
    · show min t.2.1 (af a b) ≤ 1000000; omega
    · intro q; have q : t.2.2.2 + 1 = 0 := q; omega
    · show t.2.2.2 + 1 ≤ m + 1; omega
  · exact ⟨h1, h2, h3, by omega⟩
theorem fm_link {h : Nat → Nat} (M : pz_MB n σ τ) (A : pz_MA n σ τ) (H : pz_HH n h τ) (hh : pz_Hd n h) {f s : Nat} (hfs : f ≠ s) (hf : f < n) (hs : s < n) (hff : h f = f) (hss : h s = s) : fX8_linkageOf τ (nI f) (nI s) = some (nI (pz_lk n (vAf σ) (vMa σ) h f s)) := by
  obtain ⟨⟨c1, c2, c3, c5, c6⟩, r1, r2, r3, r4, r5, r6⟩ := M
  have hn := c1.1
  have hA := vAf_le c5
  unfold fX8_linkageOf
  -- one row
  have row : ∀ a, a < n → ∀ t0 : Nat × Nat × Nat × Nat, (t0.1 ≤ 4050 ∧ t0.2.1 ≤ 1000000 ∧ (t0.2.2.2 = 0 → t0.1 = 0 ∧ t0.2.1 = 1000000) ∧ t0.2.2.2 ≤ a * 14) → ∃ q, fX8_linkageOf_L2 τ (nI f) (nI s) (nI a) 1000 (pz_r4 t0).1 (pz_r4 t0).2.1 (pz_r4 t0).2.2.1 (pz_r4 t0).2.2.2 0 = some ((pz_r4 (pz_fd (fun b t => pz_q4 n (vAf σ) h f s a b t) t0 14)).1, (pz_r4 (pz_fd (fun b t => pz_q4 n (vAf σ) h f s a b t) t0 14)).2.1, (pz_r4 (pz_fd (fun b t => pz_q4 n (vAf σ) h f s a b t) t0 14)).2.2.1, (pz_r4 (pz_fd (fun b t => pz_q4 n (vAf σ) h f s a b t) t0 14)).2.2.2, q) := by
    intro a ha t0 h0
    have e := pz_for (S := Nat × Nat × Nat × Nat) (fun g b t => fX8_linkageOf_L2 τ (nI f) (nI s) (nI a) g (pz_r4 t).1 (pz_r4 t).2.1 (pz_r4 t).2.2.1 (pz_r4 t).2.2.2 (nI b)) (fun b t => pz_q4 n (vAf σ) h f s a b t) (fun t => ((pz_r4 t).1, (pz_r4 t).2.1, (pz_r4 t).2.2.1, (pz_r4 t).2.2.2, nI n)) n t0 (fun b g hb => by
      have bound := pd_inv (F := fun b t => pz_q4 n (vAf σ) h f s a b t) (x := t0) (fun k (t : Nat × Nat × Nat × Nat) => t.1 ≤ 4050 ∧ t.2.1 ≤ 1000000 ∧ (t.2.2.2 = 0 → t.1 = 0 ∧ t.2.1 = 1000000) ∧ t.2.2.2 ≤ a * 14 + k) h0 b (fun k t _ ht => pq4 hA ht)
      generalize pz_fd (fun b t => pz_q4 n (vAf σ) h f s a b t) t0 b = t at bound
      obtain ⟨u1, u2, u3, u4⟩ := bound
      have la := (hh a ha).1
      have lb := (hh b hb).1
      have v := hA a b
      have am : a * 14 ≤ 13 * 14 := Nat.mul_le_mul_right 14 (by omega)
      show fX8_linkageOf_L2 τ (nI f) (nI s) (nI a) (g + 1) _ _ _ _ (nI b) = _
      rw [fX8_linkageOf_L2, r1, if_neg (nI_ge hb (by omega)), pz_ga (by omega) (by decide), pz_bs, H a ha, pz_ga (by omega) (by decide), pz_bs, H b hb, show (14 : Int32) = nI 14 from rfl, pk_mul, nI_add, pz_ga (by omega) (by decide), pz_bs]
      show _ = fX8_linkageOf_L2 τ (nI f) (nI s) (nI a) g (pz_r4 (pz_q4 n (vAf σ) h f s a b t)).1 (pz_r4 (pz_q4 n (vAf σ) h f s a b t)).2.1 (pz_r4 (pz_q4 n (vAf σ) h f s a b t)).2.2.1 (pz_r4 (pz_q4 n (vAf σ) h f s a b t)).2.2.2 (nI (b + 1))
      by_cases g1 : h a = f
      · rw [if_pos (by rw [g1])]
        by_cases g2 : h b = s
        · have hab : a ≠ b := fun q => hfs (by rw [← g1, ← g2, q])
          have c2t : pz_c2 n h f s a b = true := by unfold pz_c2; rw [pG.mpr ⟨ha, g1⟩, pG.mpr ⟨hb, g2⟩]; rfl
          have hq : pz_q4 n (vAf σ) h f s a b t = (max t.1 (vAf σ a b), min t.2.1 (vAf σ a b), t.2.2.1 + vAf σ a b, t.2.2.2 + 1) := if_pos c2t
          have er2 : pz_r4 (max t.1 (vAf σ a b), min t.2.1 (vAf σ a b), t.2.2.1 + vAf σ a b, t.2.2.2 + 1) = (nI (max t.1 (vAf σ a b)), nI (min t.2.1 (vAf σ a b)), nI (t.2.2.1 + vAf σ a b), nI (t.2.2.2 + 1)) := by
            unfold pz_r4
            rw [if_neg (show ¬ t.2.2.2 + 1 = 0 by omega), if_neg (show ¬ t.2.2.2 + 1 = 0 by omega)]
          rw [if_pos (by rw [g2]), pz_bs, if_neg (show ¬ false = true by decide), A a b ha hb hab, hq, er2]
          by_cases z : t.2.2.2 = 0
          · have w := u3 z
            have er : pz_r4 t = (-1, -1, nI t.2.2.1, nI t.2.2.2) := by
              unfold pz_r4
              rw [if_pos z, if_pos z]
            rw [er]
            simp only [↓reduceIte, pz_bs]
            rw [show zz_max (-1) (nI (vAf σ a b)) = nI (vAf σ a b) from if_pos (Int32.lt_of_lt_of_le (by decide) (nI_pos' (by omega))), w.1, w.2, show max 0 (vAf σ a b) = vAf σ a b by omega, show min 1000000 (vAf σ a b) = vAf σ a b by omega, nI_add, nI_1, nI_1]
          · have er : pz_r4 t = (nI t.1, nI t.2.1, nI t.2.2.1, nI t.2.2.2) := by
              unfold pz_r4
              rw [if_neg z, if_neg z]
            rw [er]
            simp only [pz_bs]
            rw [if_neg (show ¬ nI t.2.1 = (-1 : Int32) from fun q => absurd (nI_pos' (n := t.2.1) (by omega)) (by rw [q]; decide)), pz_bs, pz_maxI (by omega) (by omega), pz_minI (by omega) (by omega), nI_add, nI_1, nI_1]
        · have c2f : pz_c2 n h f s a b = false := by unfold pz_c2 pz_G; rw [decide_eq_false g2]; simp
          have hq : pz_q4 n (vAf σ) h f s a b t = t := if_neg (by rw [c2f]; decide)
          rw [if_neg (by rw [nI_eq (by omega) (by omega)]; exact g2), pz_bs, if_pos rfl, nI_1, hq]
      · have c2f : pz_c2 n h f s a b = false := by unfold pz_c2 pz_G; rw [decide_eq_false g1]; simp
        have hq : pz_q4 n (vAf σ) h f s a b t = t := if_neg (by rw [c2f]; decide)
        rw [if_neg (by rw [nI_eq (by omega) (by omega)]; exact g1), pz_bs, if_pos rfl, nI_1, hq]) (fun g => by
      show fX8_linkageOf_L2 τ (nI f) (nI s) (nI a) (g + 1) _ _ _ _ (nI n) = _
      rw [fX8_linkageOf_L2, r1, if_pos (Int32.le_refl _)]) 1000 0 (by omega) (by omega)
    refine ⟨nI n, ?_⟩
    rw [pd_skip (m := n) 14 hn (fun k h1 _ y => by unfold pz_q4 pz_c2 pz_G; rw [decide_eq_false (show ¬ k < n by omega)]; simp)]
    exact e
  let F : Nat → Nat × Nat × Nat × Nat → Nat × Nat × Nat × Nat := fun a t => pz_fd (fun b t => pz_q4 n (vAf σ) h f s a b t) t 14
  have bnd : ∀ k, (pz_fd F (0, 1000000, 0, 0) k).1 ≤ 4050 ∧ (pz_fd F (0, 1000000, 0, 0) k).2.1 ≤ 1000000 ∧ ((pz_fd F (0, 1000000, 0, 0) k).2.2.2 = 0 → (pz_fd F (0, 1000000, 0, 0) k).1 = 0 ∧ (pz_fd F (0, 1000000, 0, 0) k).2.1 = 1000000) ∧ (pz_fd F (0, 1000000, 0, 0) k).2.2.2 ≤ k * 14 := fun k =>
    pd_inv (F := F) (x := (0, 1000000, 0, 0)) (fun k (t : Nat × Nat × Nat × Nat) => t.1 ≤ 4050 ∧ t.2.1 ≤ 1000000 ∧ (t.2.2.2 = 0 → t.1 = 0 ∧ t.2.1 = 1000000) ∧ t.2.2.2 ≤ k * 14) ⟨Nat.zero_le _, Nat.le_refl _, fun _ => ⟨rfl, rfl⟩, Nat.zero_le _⟩ k (fun a t _ ht => by
      have e : (a + 1) * 14 = a * 14 + 14 := Nat.succ_mul a 14
      have w := pd_inv (F := fun b t => pz_q4 n (vAf σ) h f s a b t) (x := t) (fun k (t : Nat × Nat × Nat × Nat) => t.1 ≤ 4050 ∧ t.2.1 ≤ 1000000 ∧ (t.2.2.2 = 0 → t.1 = 0 ∧ t.2.1 = 1000000) ∧ t.2.2.2 ≤ a * 14 + k) ht 14 (fun k t _ ht => pq4 hA ht)
      rw [e]
      exact w)
  have e := pz_for (S := Nat × Nat × Nat × Nat) (fun g a t => fX8_linkageOf_L1 τ (nI f) (nI s) g (pz_r4 t).1 (pz_r4 t).2.1 (pz_r4 t).2.2.1 (pz_r4 t).2.2.2 (nI a)) F (fun t => ((pz_r4 t).1, (pz_r4 t).2.1, (pz_r4 t).2.2.1, (pz_r4 t).2.2.2, nI n)) n (0, 1000000, 0, 0) (fun a g ha => by
    have b := bnd a
    generalize pz_fd F (0, 1000000, 0, 0) a = t at b
    show fX8_linkageOf_L1 τ (nI f) (nI s) (g + 1) _ _ _ _ (nI a) = _
    obtain ⟨q, e⟩ := row a ha t b
    rw [fX8_linkageOf_L1, r1, if_neg (nI_ge ha (by omega)), e, pz_bs, nI_1]) (fun g => by
    show fX8_linkageOf_L1 τ (nI f) (nI s) (g + 1) _ _ _ _ (nI n) = _
    rw [fX8_linkageOf_L1, r1, if_pos (Int32.le_refl _)]) 1000 0 (by omega) (by omega)
  have out : ∀ a, n ≤ a → ∀ t, F a t = t := fun a ha t => by
    show pz_fd (fun b t => pz_q4 n (vAf σ) h f s a b t) t 14 = t
    rw [pd_skip (F := fun b t => pz_q4 n (vAf σ) h f s a b t) (m := 0) 14 (by decide) (fun k _ _ y => by unfold pz_q4 pz_c2 pz_G; rw [decide_eq_false (show ¬ a < n by omega)]; simp)]
    rfl
  have full : pz_fd F (0, 1000000, 0, 0) n = (pz_mx n (vAf σ) h f s, pz_mi n (vAf σ) h f s, pz_sm n (vAf σ) h f s, pz_mn n h f s) := by
    rw [← pd_skip (F := F) (x := (0, 1000000, 0, 0)) (m := n) 14 hn (fun k h1 _ y => out k h1 y)]
    have in4 : ∀ a N (t : Nat × Nat × Nat × Nat), pz_fd (fun b t => pz_q4 n (vAf σ) h f s a b t) t N = (pz_fd (fun b z => if pz_c2 n h f s a b = true then max z (vAf σ a b) else z) t.1 N, pz_fd (fun b z => if pz_c2 n h f s a b = true then min z (vAf σ a b) else z) t.2.1 N, pz_fd (fun b z => if pz_c2 n h f s a b = true then z + vAf σ a b else z) t.2.2.1 N, pz_fd (fun b z => if pz_c2 n h f s a b = true then z + 1 else z) t.2.2.2 N) := by
      intro a N t
      induction N with
      | zero => rfl
      | succ N ih =>
        rw [pz_fd, ih, pz_fd, pz_fd, pz_fd, pz_fd]
        unfold pz_q4
        cases pz_c2 n h f s a N <;> rfl
    have out4 : ∀ N, pz_fd F (0, 1000000, 0, 0) N = (pz_fd (fun a y => pz_fd (fun b z => if pz_c2 n h f s a b = true then max z (vAf σ a b) else z) y 14) 0 N, pz_fd (fun a y => pz_fd (fun b z => if pz_c2 n h f s a b = true then min z (vAf σ a b) else z) y 14) 1000000 N, pz_fd (fun a y => pz_fd (fun b z => if pz_c2 n h f s a b = true then z + vAf σ a b else z) y 14) 0 N, pz_fd (fun a y => pz_fd (fun b z => if pz_c2 n h f s a b = true then z + 1 else z) y 14) 0 N) := by
      intro N
      induction N with
      | zero => rfl
      | succ N ih =>
        show pz_fd (fun b t => pz_q4 n (vAf σ) h f s N b t) (pz_fd F (0, 1000000, 0, 0) N) 14 = _
        rw [ih, in4]
        rfl
    exact out4 14
  have e' : fX8_linkageOf_L1 τ (nI f) (nI s) 1000 (-1) (-1) 0 0 0 = some ((pz_r4 (pz_fd F (0, 1000000, 0, 0) n)).1, (pz_r4 (pz_fd F (0, 1000000, 0, 0) n)).2.1, (pz_r4 (pz_fd F (0, 1000000, 0, 0) n)).2.2.1, (pz_r4 (pz_fd F (0, 1000000, 0, 0) n)).2.2.2, nI n) := e
  rw [e', pz_bs, full]
  have m1 := pct_pos hf hn hff
  have m2 := pct_pos hs hn hss
  have l1 := pc_le (pz_G n h f) 14
  have l2 := pc_le (pz_G n h s) 14
  have mp : 0 < pz_mn n h f s := by rw [pmn_eq]; exact Nat.mul_pos m1 m2
  have ml : pz_mn n h f s ≤ 14 * 14 := by rw [pmn_eq]; exact Nat.mul_le_mul l1 l2
  have sb : pz_sm n (vAf σ) h f s ≤ 14 * 56700 := by
    unfold pz_sm pz_pp
    refine pd_inv (fun k y => y ≤ k * 56700) (by omega) 14 fun a y _ hy => ?_
    have := psm_le (c := pz_c2 n h f s a) (v := fun b => vAf σ a b) (M := 4050) (x := y) (fun b => hA a b) 14
    have e : (a + 1) * 56700 = a * 56700 + 56700 := Nat.succ_mul a 56700
    show pz_fd (fun b z => if pz_c2 n h f s a b = true then z + vAf σ a b else z) y 14 ≤ _
    omega
  obtain ⟨m, hm, em⟩ := c5.2.2
  have em2 : vMa σ = m := by unfold vMa; rw [em, nI_clamp (by omega)]
  rw [← r5.2.2.2, em, em2]
  unfold pz_r4 pz_lk
  simp only [if_neg (show ¬ pz_mn n h f s = 0 by omega)]
  rcases (by omega : m = 0 ∨ m = 1 ∨ m = 2) with q | q | q
  · rw [q, if_pos (by decide), pz_bs, if_neg (by decide), if_pos rfl]
  · rw [q, if_neg (by decide), if_pos (by decide), if_pos rfl]
    unfold zz_dv
    rw [if_neg (nI_ne0 mp (by omega)), pk_div (by omega) mp (by omega)]
    rfl
  · rw [q, if_neg (by decide), if_neg (by decide), if_neg (by decide), if_neg (by decide)]
    rfl
end MG
