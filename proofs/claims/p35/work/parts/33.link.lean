/-! pure part: the class weighs; linkage; what is forbidden -/
section LK
variable {n : Nat} {σ σ' τ τ' : zz_St}
theorem ps_fr (h : ∀ q, q < 24 → σ' q = σ q) (h0 : σ' 24 0 = σ 24 0) (h1 : σ' 24 1 = σ 24 1) : pz_sa σ σ' := ⟨fun q _ b _ => h q b, h0, h1⟩
theorem fc_weigh (hn : n ≤ 14) (c : pz_CW n σ) : ∃ σ', fX3_weighAll σ = some σ' ∧ (∀ q, q < 27 ∨ 41 ≤ q → σ' q = σ q) ∧ (∀ a b, a < n → b < n → a ≠ b → σ' (27 + a) b = nI (vAf σ a b)) := by
  obtain ⟨c1, c2, c3, c5, c6⟩ := c
  unfold fX3_weighAll
  let Inv : Nat → Nat → zz_St → Prop := fun b a s => (∀ q, q < 27 ∨ 41 ≤ q → s q = σ q) ∧ (∀ x y, x < n → y < n → x ≠ y → (max x y < b ∨ (max x y = b ∧ min x y < a)) → s (27 + x) y = nI (vAf σ x y))
  have inner : ∀ b s, b < n → Inv b 0 s → ∃ r, Inv (b + 1) 0 r.2 ∧ fX3_weighAll_L2 (nI b) 1000 0 s = some r := by
    intro b s hb hI
    exact pz_loop (S := zz_St) (R := Int32 × zz_St) (fun f k s => fX3_weighAll_L2 (nI b) f (nI k) s) (fun k s => Inv b k s) (fun r => Inv (b + 1) 0 r.2) b
      (fun a f s ha hP => by
        obtain ⟨i1, i2⟩ := hP
        have sa : pz_sa σ s := ps_fr (fun q h => i1 q (by omega)) (by rw [i1 24 (by decide)]) (by rw [i1 24 (by decide)])
        have cs := ps_CW sa ⟨c1, c2, c3, c5, c6⟩
        refine Or.inl ⟨zz_u (zz_u s (27 + a) b (nI (vAf σ a b))) (27 + b) a (nI (vAf σ a b)), ⟨fun q hq => ?_, fun x y hx hy hxy h => ?_⟩, ?_⟩
        · rw [pz_uq (by omega), pz_uq (by omega)]; exact i1 q hq
        · rw [pz_u, pz_u]
          by_cases g : 27 + x = 27 + b ∧ y = a
          · rw [if_pos g, show x = b by omega, g.2, vAf_sy c2 (by omega) hb]
          · rw [if_neg g]
            by_cases g2 : 27 + x = 27 + a ∧ y = b
            · rw [if_pos g2, show x = a by omega, g2.2]
            · rw [if_neg g2]
              exact i2 x y hx hy hxy (by omega)
        · show fX3_weighAll_L2 (nI b) (f + 1) (nI a) s = _
          rw [fX3_weighAll_L2, if_neg (nI_ge ha (by omega)), fc_aff cs.2.2.1 cs.2.2.2.1 (by omega) (by omega), pz_bs, ps_Af sa, pz_ix (by omega) (by decide), pz_bs, pz_pa (by omega) (by decide), pz_bs, pz_ix (by omega) (by decide), pz_bs, pz_pa (by omega) (by decide), pz_bs, nI_1])
      (fun f s hP => ⟨(nI b, s), ⟨hP.1, fun x y hx hy hxy h => hP.2 x y hx hy hxy (by omega)⟩, by
        show fX3_weighAll_L2 (nI b) (f + 1) (nI b) s = _
        rw [fX3_weighAll_L2, if_pos (Int32.le_refl _)]⟩) 1000 0 s (by omega) hI (by omega)
  obtain ⟨r, hr, e⟩ := pz_loop (S := zz_St) (R := Int32 × zz_St) (fun f k s => fX3_weighAll_L1 f (nI k) s) (fun k s => Inv k 0 s) (fun r => Inv (max n 1) 0 r.2) (max n 1)
    (fun k f s hk hP => by
      by_cases g : k < n
      · obtain ⟨r, hr, e⟩ := inner k s g hP
        refine Or.inl ⟨r.2, hr, ?_⟩
        show fX3_weighAll_L1 (f + 1) (nI k) s = _
        rw [fX3_weighAll_L1, hP.1 1 (by decide), c1.2, if_neg (nI_ge g (by omega)), e, pz_bs, nI_1]
      · refine Or.inr ⟨(nI k, s), ⟨hP.1, fun x y hx hy hxy h => by omega⟩, ?_⟩
        show fX3_weighAll_L1 (f + 1) (nI k) s = _
        rw [fX3_weighAll_L1, hP.1 1 (by decide), c1.2, if_pos (nI_le (by omega) (by omega))])
    (fun f s hP => ⟨(nI (max n 1), s), hP, by
      show fX3_weighAll_L1 (f + 1) (nI (max n 1)) s = _
      rw [fX3_weighAll_L1, hP.1 1 (by decide), c1.2, if_pos (nI_le (by omega) (by omega))]⟩) 1000 1 σ (by omega) ⟨fun _ _ => rfl, fun x y hx hy hxy h => by omega⟩ (by omega)
  refine ⟨r.2, by rw [show fX3_weighAll_L1 1000 (1 : Int32) σ = _ from e, pz_bs], hr.1, fun a b ha hb hab => hr.2 a b ha hb hab (by omega)⟩
/-! folds over pairs, bounded -/
theorem pmx_le {c : Nat → Bool} {v : Nat → Nat} {M x : Nat} (hv : ∀ b, v b ≤ M) (hx : x ≤ M) (N : Nat) : pz_fd (fun b z => if c b = true then max z (v b) else z) x N ≤ M := by
  refine pd_inv (fun _ z => z ≤ M) hx N fun k y _ hy => ?_
  split
  · have := hv k; omega
  · exact hy
theorem pmi_le {c : Nat → Bool} {v : Nat → Nat} {M x : Nat} (hx : x ≤ M) (N : Nat) : pz_fd (fun b z => if c b = true then min z (v b) else z) x N ≤ M := by
  refine pd_inv (fun _ z => z ≤ M) hx N fun k y _ hy => ?_
  split
  · omega
  · exact hy
theorem psm_le {c : Nat → Bool} {v : Nat → Nat} {M x : Nat} (hv : ∀ b, v b ≤ M) (N : Nat) : pz_fd (fun b z => if c b = true then z + v b else z) x N ≤ x + N * M := by
  refine pd_inv (fun k z => z ≤ x + k * M) (by omega) N fun k y _ hy => ?_
  have := hv k
  have e : (k + 1) * M = k * M + M := Nat.succ_mul k M
  split <;> omega
theorem pcn_eq {c : Nat → Bool} {x : Nat} : ∀ N, pz_fd (fun b z => if c b = true then z + 1 else z) x N = x + pz_ct c N
  | 0 => rfl
  | N + 1 => by
    rw [pz_fd, pz_ct, pcn_eq N]
    split <;> omega
theorem pmn_eq (n : Nat) (h : Nat → Nat) (f s : Nat) : pz_mn n h f s = pz_ct (pz_G n h f) 14 * pz_ct (pz_G n h s) 14 := by
  unfold pz_mn pz_pp
  suffices H : ∀ N, pz_fd (fun a y => pz_fd (fun b z => if pz_c2 n h f s a b = true then z + 1 else z) y 14) 0 N = pz_ct (pz_G n h f) N * pz_ct (pz_G n h s) 14 from H 14
  intro N
  induction N with
  | zero => rw [pz_fd, pz_ct, Nat.zero_mul]
  | succ N ih =>
    rw [pz_fd, pz_ct, ih, pcn_eq]
    cases g : pz_G n h f N with
    | false =>
      rw [show pz_c2 n h f s N = fun _ => false from funext fun b => by unfold pz_c2; rw [g]; rfl]
      rw [pc_0.mpr fun _ _ => rfl]
      simp
    | true =>
      rw [show pz_c2 n h f s N = pz_G n h s from funext fun b => by unfold pz_c2; rw [g]; rfl]
      rw [if_pos rfl, Nat.add_mul, Nat.one_mul]
theorem pct_16 {n : Nat} (hn : n ≤ 14) (h : Nat → Nat) (f : Nat) : pz_ct (pz_G n h f) 16 = pz_ct (pz_G n h f) 14 := by
  have z : ∀ k, 14 ≤ k → pz_G n h f k = false := fun k hk => by unfold pz_G; rw [decide_eq_false (by omega)]; rfl
  rw [pz_ct, pz_ct, z 15 (by decide), z 14 (by decide)]
  rfl
theorem pct_pos {n : Nat} {h : Nat → Nat} {f : Nat} (hf : f < n) (hn : n ≤ 14) (hh : h f = f) : 0 < pz_ct (pz_G n h f) 14 := by
  apply Classical.byContradiction
  intro no
  have := (pc_0 (P := pz_G n h f) (n := 14)).mp (by omega) f (by omega)
  rw [pG.mpr ⟨hf, hh⟩] at this
  cases this
/-- all of a linkage, as far as row a, place b -/
def pz_in1 (n : Nat) (af : Nat → Nat → Nat) (h : Nat → Nat) (f s a : Nat) (x : Nat) (b : Nat) : Nat := pz_fd (fun b z => if pz_c2 n h f s a b = true then max z (af a b) else z) x b
def pz_in2 (n : Nat) (af : Nat → Nat → Nat) (h : Nat → Nat) (f s a : Nat) (x : Nat) (b : Nat) : Nat := pz_fd (fun b z => if pz_c2 n h f s a b = true then min z (af a b) else z) x b
def pz_in3 (n : Nat) (af : Nat → Nat → Nat) (h : Nat → Nat) (f s a : Nat) (x : Nat) (b : Nat) : Nat := pz_fd (fun b z => if pz_c2 n h f s a b = true then z + af a b else z) x b
theorem fc_link2 {h : Nat → Nat} (c5 : pz_CW5 σ) (hA : ∀ a b, a < n → b < n → a ≠ b → σ (27 + a) b = nI (vAf σ a b)) {f s : Nat} (hfs : f ≠ s) {S T : Int32} (hS : ∀ b, pz_b S b = pz_G n h f b) (hT : ∀ b, pz_b T b = pz_G n h s b) {a : Nat} (ha : a < 14) {x y z : Nat} (hx : x ≤ 4050) (hy : y ≤ 1000000) : ∃ q, fX3_linkageOf_L2 σ S T (nI a) 1000 (nI x) (nI y) (nI z) 0 = some (nI (pz_in1 n (vAf σ) h f s a x 14), nI (pz_in2 n (vAf σ) h f s a y 14), nI (pz_in3 n (vAf σ) h f s a z 14), q) := by
  have un : ∀ f' g l m b, b < 14 → fX3_linkageOf_L2 σ S T (nI a) (f' + 1) g l m (nI b) = if pz_b S a = true then ((fX7_isIn σ (nI b) T).bind fun x14 => if x14 = 0 then some (g, l, m) else (zz_ix 14 (nI a)).bind fun x17 => (zz_ga (σ (27 + x17)) 14 (nI b)).bind fun x19 => (some (zz_max g x19)).bind fun x21 => (zz_ix 14 (nI a)).bind fun x23 => (zz_ga (σ (27 + x23)) 14 (nI b)).bind fun x25 => (some (zz_min l x25)).bind fun x27 => (zz_ix 14 (nI a)).bind fun x29 => (zz_ga (σ (27 + x29)) 14 (nI b)).bind fun x31 => (some (m + x31)).bind fun x33 => some (x21, x27, x33)).bind fun x11 => fX3_linkageOf_L2 σ S T (nI a) f' x11.1 x11.2.1 x11.2.2 (nI b + (1 : Int32)) else some (g, l, m, nI b) := by
    intro f' g l m b hb
    rw [fX3_linkageOf_L2, if_neg (show ¬ (14 : Int32) ≤ nI b from nI_ge (a := b) (b := 14) hb (by decide)), pf_isIn (by omega), pz_bs]
    cases pz_b S a <;> rfl
  cases g : pz_b S a with
  | false =>
    have c0 : ∀ b, pz_c2 n h f s a b = false := fun b => by unfold pz_c2; rw [← hS, g]; rfl
    have e := un 999 (nI x) (nI y) (nI z) 0 (by decide)
    rw [g, if_neg (by decide)] at e
    refine ⟨0, ?_⟩
    rw [show fX3_linkageOf_L2 σ S T (nI a) 1000 (nI x) (nI y) (nI z) 0 = _ from e]
    unfold pz_in1 pz_in2 pz_in3
    rw [pd_skip (m := 0) 14 (by decide) (fun k _ _ w => by rw [c0]; rfl), pd_skip (m := 0) 14 (by decide) (fun k _ _ w => by rw [c0]; rfl), pd_skip (m := 0) 14 (by decide) (fun k _ _ w => by rw [c0]; rfl)]
    rfl
  | true =>
    have ga := pG.mp ((hS a).symm.trans g)
    have e := pz_for (S := Nat × Nat × Nat) (fun f' b t => fX3_linkageOf_L2 σ S T (nI a) f' (nI t.1) (nI t.2.1) (nI t.2.2) (nI b)) (fun b t => if pz_c2 n h f s a b = true then (max t.1 (vAf σ a b), min t.2.1 (vAf σ a b), t.2.2 + vAf σ a b) else t) (fun t => (nI t.1, nI t.2.1, nI t.2.2, (14 : Int32))) 14 (x, y, z) (fun b f' hb => by
      have bound : (pz_fd (fun b t => if pz_c2 n h f s a b = true then (max t.1 (vAf σ a b), min t.2.1 (vAf σ a b), t.2.2 + vAf σ a b) else t) (x, y, z) b).1 ≤ 4050 ∧ (pz_fd (fun b t => if pz_c2 n h f s a b = true then (max t.1 (vAf σ a b), min t.2.1 (vAf σ a b), t.2.2 + vAf σ a b) else t) (x, y, z) b).2.1 ≤ 1000000 :=
        pd_inv (fun _ (t : Nat × Nat × Nat) => t.1 ≤ 4050 ∧ t.2.1 ≤ 1000000) ⟨hx, hy⟩ b fun k t _ ht => by
          have := vAf_le c5 a k
          split
          · exact ⟨show max t.1 (vAf σ a k) ≤ 4050 by omega, show min t.2.1 (vAf σ a k) ≤ 1000000 by omega⟩
          · exact ht
      generalize pz_fd (fun b t => if pz_c2 n h f s a b = true then (max t.1 (vAf σ a b), min t.2.1 (vAf σ a b), t.2.2 + vAf σ a b) else t) (x, y, z) b = t at bound
      show fX3_linkageOf_L2 σ S T (nI a) (f' + 1) (nI t.1) (nI t.2.1) (nI t.2.2) (nI b) = _
      rw [un f' _ _ _ b hb, g, if_pos rfl, pf_isIn (by omega), pz_bs]
      have v := vAf_le c5 a b
      cases gb : pz_b T b with
      | false =>
        rw [if_pos (by decide), pz_bs, nI_1]
        have c0 : pz_c2 n h f s a b = false := by unfold pz_c2; rw [← hT, gb, Bool.and_false]
        show _ = fX3_linkageOf_L2 σ S T (nI a) f' (nI (if pz_c2 n h f s a b = true then _ else t).1) (nI (if pz_c2 n h f s a b = true then _ else t).2.1) (nI (if pz_c2 n h f s a b = true then _ else t).2.2) (nI (b + 1))
        rw [c0]
        rfl
      | true =>
        have gb' := pG.mp ((hT b).symm.trans gb)
        have hab : a ≠ b := fun q => hfs (by rw [← ga.2, ← gb'.2, q])
        have c1 : pz_c2 n h f s a b = true := by unfold pz_c2; rw [← hT, gb, ← hS, g]; rfl
        rw [if_neg (by decide)]
        simp (disch := omega) only [pz_ix, pz_ga, pz_bs]
        rw [hA a b ga.1 gb'.1 hab, pz_maxI (by omega) (by omega), pz_minI (by omega) (by omega), nI_add, nI_1]
        show _ = fX3_linkageOf_L2 σ S T (nI a) f' (nI (if pz_c2 n h f s a b = true then (max t.1 (vAf σ a b), min t.2.1 (vAf σ a b), t.2.2 + vAf σ a b) else t).1) (nI (if pz_c2 n h f s a b = true then (max t.1 (vAf σ a b), min t.2.1 (vAf σ a b), t.2.2 + vAf σ a b) else t).2.1) (nI (if pz_c2 n h f s a b = true then (max t.1 (vAf σ a b), min t.2.1 (vAf σ a b), t.2.2 + vAf σ a b) else t).2.2) (nI (b + 1))
        rw [if_pos c1]) (fun f' => by
      show fX3_linkageOf_L2 σ S T (nI a) (f' + 1) _ _ _ (nI 14) = _
      rw [fX3_linkageOf_L2, if_pos (by decide), pz_bs, if_neg (by decide)]
      rfl) 1000 0 (by decide) (by decide)
    have split : ∀ N, pz_fd (fun b t => if pz_c2 n h f s a b = true then (max t.1 (vAf σ a b), min t.2.1 (vAf σ a b), t.2.2 + vAf σ a b) else t) (x, y, z) N = (pz_in1 n (vAf σ) h f s a x N, pz_in2 n (vAf σ) h f s a y N, pz_in3 n (vAf σ) h f s a z N) := by
      intro N
      induction N with
      | zero => rfl
      | succ N ih =>
        rw [pz_fd, ih]
        unfold pz_in1 pz_in2 pz_in3
        rw [pz_fd, pz_fd, pz_fd]
        cases pz_c2 n h f s a N <;> rfl
    refine ⟨14, ?_⟩
    rw [split 14] at e
    exact e
theorem fc_link {h : Nat → Nat} (hn : n ≤ 14) (c5 : pz_CW5 σ) (hA : ∀ a b, a < n → b < n → a ≠ b → σ (27 + a) b = nI (vAf σ a b)) {f s : Nat} (hfs : f ≠ s) (hf : f < n) (hs : s < n) (hff : h f = f) (hss : h s = s) {S T : Int32} (hS : ∀ b, pz_b S b = pz_G n h f b) (hT : ∀ b, pz_b T b = pz_G n h s b) : fX3_linkageOf σ S T = some (nI (pz_lk n (vAf σ) (vMa σ) h f s)) ∧ pz_lk n (vAf σ) (vMa σ) h f s ≤ 1000000 := by
  have bnd : ∀ k, k ≤ 14 → pz_fd (fun a y => pz_in1 n (vAf σ) h f s a y 14) 0 k ≤ 4050 ∧ pz_fd (fun a y => pz_in2 n (vAf σ) h f s a y 14) 1000000 k ≤ 1000000 ∧ pz_fd (fun a y => pz_in3 n (vAf σ) h f s a y 14) 0 k ≤ k * 56700 := by
    intro k _
    refine ⟨pd_inv (fun _ y => y ≤ 4050) (by omega) k fun a y _ hy => pmx_le (fun b => vAf_le c5 a b) hy 14, pd_inv (fun _ y => y ≤ 1000000) (by omega) k fun a y _ hy => pmi_le hy 14, pd_inv (fun k y => y ≤ k * 56700) (by omega) k fun a y _ hy => ?_⟩
    have := psm_le (c := pz_c2 n h f s a) (v := fun b => vAf σ a b) (M := 4050) (x := y) (fun b => vAf_le c5 a b) 14
    have e : (a + 1) * 56700 = a * 56700 + 56700 := Nat.succ_mul a 56700
    show pz_in3 n (vAf σ) h f s a y 14 ≤ _
    unfold pz_in3
    omega
  have e := pz_for (S := Nat × Nat × Nat) (fun f' a t => fX3_linkageOf_L1 σ S T f' (nI t.1) (nI t.2.1) (nI t.2.2) (nI a)) (fun a t => (pz_in1 n (vAf σ) h f s a t.1 14, pz_in2 n (vAf σ) h f s a t.2.1 14, pz_in3 n (vAf σ) h f s a t.2.2 14)) (fun t => (nI t.1, nI t.2.1, nI t.2.2, (14 : Int32))) 14 (0, 1000000, 0) (fun a f' ha => by
    have sp : ∀ N, pz_fd (fun a (t : Nat × Nat × Nat) => (pz_in1 n (vAf σ) h f s a t.1 14, pz_in2 n (vAf σ) h f s a t.2.1 14, pz_in3 n (vAf σ) h f s a t.2.2 14)) (0, 1000000, 0) N = (pz_fd (fun a y => pz_in1 n (vAf σ) h f s a y 14) 0 N, pz_fd (fun a y => pz_in2 n (vAf σ) h f s a y 14) 1000000 N, pz_fd (fun a y => pz_in3 n (vAf σ) h f s a y 14) 0 N) := by
      intro N
      induction N with
      | zero => rfl
      | succ N ih => rw [pz_fd, pz_fd, pz_fd, pz_fd, ih]
    have b := bnd a (by omega)
    rw [sp a]
    generalize pz_fd (fun a y => pz_in1 n (vAf σ) h f s a y 14) 0 a = t1 at b
    generalize pz_fd (fun a y => pz_in2 n (vAf σ) h f s a y 14) 1000000 a = t2 at b
    generalize pz_fd (fun a y => pz_in3 n (vAf σ) h f s a y 14) 0 a = t3 at b
    show fX3_linkageOf_L1 σ S T (f' + 1) (nI t1) (nI t2) (nI t3) (nI a) = _
    obtain ⟨q, e⟩ := fc_link2 (h := h) c5 hA hfs hS hT ha (z := t3) b.1 b.2.1
    rw [fX3_linkageOf_L1, if_neg (show ¬ (14 : Int32) ≤ nI a from nI_ge (a := a) (b := 14) ha (by decide)), e, pz_bs, nI_1]) (fun f' => by
    show fX3_linkageOf_L1 σ S T (f' + 1) _ _ _ (nI 14) = _
    rw [fX3_linkageOf_L1, if_pos (by decide)]
    rfl) 1000 0 (by decide) (by decide)
  have sp : ∀ N, pz_fd (fun a (t : Nat × Nat × Nat) => (pz_in1 n (vAf σ) h f s a t.1 14, pz_in2 n (vAf σ) h f s a t.2.1 14, pz_in3 n (vAf σ) h f s a t.2.2 14)) (0, 1000000, 0) N = (pz_fd (fun a y => pz_in1 n (vAf σ) h f s a y 14) 0 N, pz_fd (fun a y => pz_in2 n (vAf σ) h f s a y 14) 1000000 N, pz_fd (fun a y => pz_in3 n (vAf σ) h f s a y 14) 0 N) := by
    intro N
    induction N with
    | zero => rfl
    | succ N ih => rw [pz_fd, pz_fd, pz_fd, pz_fd, ih]
  rw [sp 14] at e
  have b := bnd 14 (by omega)
  have d1 : pz_fd (fun a y => pz_in1 n (vAf σ) h f s a y 14) 0 14 = pz_mx n (vAf σ) h f s := rfl
  have d2 : pz_fd (fun a y => pz_in2 n (vAf σ) h f s a y 14) 1000000 14 = pz_mi n (vAf σ) h f s := rfl
  have d3 : pz_fd (fun a y => pz_in3 n (vAf σ) h f s a y 14) 0 14 = pz_sm n (vAf σ) h f s := rfl
  rw [d1, d2, d3] at e b
  have m1 := pct_pos hf hn hff
  have m2 := pct_pos hs hn hss
  have l1 := pc_le (pz_G n h f) 14
  have l2 := pc_le (pz_G n h s) 14
  have mp : 0 < pz_ct (pz_G n h f) 14 * pz_ct (pz_G n h s) 14 := Nat.mul_pos m1 m2
  have ml : pz_ct (pz_G n h f) 14 * pz_ct (pz_G n h s) 14 ≤ 14 * 14 := Nat.mul_le_mul l1 l2
  have b1 : fJ6_bitCount S = some (nI (pz_ct (pz_G n h f) 14)) := by
    rw [pf_bc (fun i hi => by rw [hS]; unfold pz_G; rw [decide_eq_false (by omega)]; rfl), show pz_b S = pz_G n h f from funext hS, pct_16 hn]
  have b2 : fJ6_bitCount T = some (nI (pz_ct (pz_G n h s) 14)) := by
    rw [pf_bc (fun i hi => by rw [hT]; unfold pz_G; rw [decide_eq_false (by omega)]; rfl), show pz_b T = pz_G n h s from funext hT, pct_16 hn]
  have hma : ∃ m, m ≤ 2 ∧ σ 24 1 = nI m ∧ vMa σ = m := by
    obtain ⟨m, hm, e⟩ := c5.2.2
    exact ⟨m, hm, e, by unfold vMa; rw [e, nI_clamp (by omega)]⟩
  obtain ⟨m, hm, em, em2⟩ := hma
  constructor
  · unfold fX3_linkageOf
    rw [show fX3_linkageOf_L1 σ S T 1000 (0 : Int32) (1000000 : Int32) (0 : Int32) (0 : Int32) = _ from e, pz_bs, b1, pz_bs, b2, pz_bs, pk_mul, pz_bs, if_neg (nI_ne0 mp (by omega)), em, em2]
    unfold pz_lk
    rw [pmn_eq]
    rcases (by omega : m = 0 ∨ m = 1 ∨ m = 2) with q | q | q
    · rw [q, if_neg (by decide), if_pos (by decide), pz_bs, if_neg (by decide), if_pos rfl]
    · rw [q, if_pos (by decide), if_pos rfl]
      show (zz_dv (nI (pz_sm n (vAf σ) h f s)) _).bind _ = _
      unfold zz_dv
      rw [if_neg (nI_ne0 mp (by omega)), pk_div (by omega) mp (by omega), pz_bs]
    · rw [q, if_neg (by decide), if_neg (by decide), pz_bs, if_neg (by decide), if_neg (by decide)]
  · unfold pz_lk
    have := Nat.div_le_self (pz_sm n (vAf σ) h f s) (pz_mn n h f s)
    split
    · omega
    · split <;> omega
theorem fc_forb {h : Nat → Nat} {f s : Nat} {S T : Int32} (hS : ∀ b, pz_b S b = pz_G n h f b) (hT : ∀ b, pz_b T b = pz_G n h s b) (hn : n ≤ 14) : fX6_isForbidden σ S T = some (zz_bi (pz_bar n (vNo σ) h f s)) := by
  unfold fX6_isForbidden
  have rowT : ∀ k, (σ 23 k &&& T = 0) ↔ pz_ex (fun b => pz_G n h s b && vNo σ k b) 14 = false := by
    intro k
    rw [pb_z, pex_f]
    constructor
    · intro g b hb
      have := g b (by omega)
      rw [pb_and, hT] at this
      unfold vNo
      rw [Bool.and_comm]; exact this
    · intro g b hb
      rw [pb_and, hT]
      rcases Nat.lt_or_ge b 14 with c | c
      · have := g b c
        unfold vNo at this
        rw [Bool.and_comm]; exact this
      · unfold pz_G; rw [decide_eq_false (by omega)]; simp
  obtain ⟨r, hr, e⟩ := pz_loop (S := Unit) (R := Int32 ⊕ Int32) (fun f' k _ => fX6_isForbidden_L1 σ S T f' (nI k))
    (fun k _ => ∀ a, a < k → (pz_G n h f a && pz_ex (fun b => pz_G n h s b && vNo σ a b) 14) = false)
    (fun r => (r = .inl 1 ∧ pz_bar n (vNo σ) h f s = true) ∨ (r = .inr 14 ∧ pz_bar n (vNo σ) h f s = false)) 14
    (fun k f' _ hk hP => by
      have un : fX6_isForbidden_L1 σ S T (f' + 1) (nI k) = if (pz_G n h f k && pz_ex (fun b => pz_G n h s b && vNo σ k b) 14) = true then some (.inl 1) else fX6_isForbidden_L1 σ S T f' (nI k + 1) := by
        rw [fX6_isForbidden_L1, if_neg (show ¬ (14 : Int32) ≤ nI k from nI_ge (a := k) (b := 14) hk (by decide)), pf_isIn (by omega), pz_bs, hS, pz_ga hk (by decide), pz_bs]
        cases pz_G n h f k with
        | false => rw [if_pos (by decide), pz_bs, if_neg (by decide), Bool.false_and, if_neg (by decide)]
        | true =>
          rw [if_neg (by decide)]
          cases g : pz_ex (fun b => pz_G n h s b && vNo σ k b) 14 with
          | false => rw [if_pos ((rowT k).mpr g), pz_bs, if_neg (by decide), if_neg (by decide)]
          | true => rw [if_neg (fun q => by rw [(rowT k).mp q] at g; cases g), pz_bs, if_pos rfl, if_pos (by decide)]
      cases g : (pz_G n h f k && pz_ex (fun b => pz_G n h s b && vNo σ k b) 14) with
      | false =>
        refine Or.inl ⟨(), fun a ha => ?_, ?_⟩
        · by_cases c : a = k
          · rw [c]; exact g
          · exact hP a (by omega)
        · show fX6_isForbidden_L1 σ S T (f' + 1) (nI k) = _
          rw [un, g, if_neg (by decide), nI_1]
      | true =>
        refine Or.inr ⟨.inl 1, Or.inl ⟨rfl, pex.mpr ⟨k, hk, g⟩⟩, ?_⟩
        show fX6_isForbidden_L1 σ S T (f' + 1) (nI k) = _
        rw [un, g, if_pos rfl])
    (fun f' _ hP => ⟨.inr 14, Or.inr ⟨rfl, pex_f.mpr hP⟩, by
      show fX6_isForbidden_L1 σ S T (f' + 1) (nI 14) = _
      rw [fX6_isForbidden_L1, if_pos (by decide)]
      rfl⟩) 1000 0 () (by decide) (fun a ha => by omega) (by decide)
  rw [show fX6_isForbidden_L1 σ S T 1000 (0 : Int32) = _ from e, pz_bs]
  rcases hr with ⟨rfl, g⟩ | ⟨rfl, g⟩ <;> (rw [g]; rfl)
end LK

