/-! pure part: the class's groups, built -/
section CB
variable {n : Nat} {σ σ' τ τ' : zz_St}
theorem fc_rounds (hn : n ≤ 14) : ∀ (r : Nat) (σ : zz_St) (h : Nat → Nat) (k : Nat) (e : Nat → Nat) (f : Nat) (x : Int32), r ≤ 14 → r + 1 < f → pz_CW n σ → (∀ a b, a < n → b < n → a ≠ b → σ (27 + a) b = nI (vAf σ a b)) → pz_Hd n h → pz_CG n h k e σ → ∃ σ' k' e' b c, fX3_build_L1 x f 1 (nI (14 - r)) σ = some (b, c, σ') ∧ pz_CG n (pz_mk n (vNo σ) (vAf σ) (vMa σ) (vTh σ) r h (σ 24 3)).1 k' e' σ' ∧ σ' 24 3 = (pz_mk n (vNo σ) (vAf σ) (vMa σ) (vTh σ) r h (σ 24 3)).2 ∧ (∀ q, q ≠ 24 → q ≠ 25 → σ' q = σ q) ∧ σ' 24 0 = σ 24 0 ∧ σ' 24 1 = σ 24 1 := by
  intro r
  induction r with
  | zero =>
    intro σ h k e f x _ hf c hA hh G
    cases f with
    | zero => omega
    | succ f =>
      refine ⟨σ, k, e, 1, nI 14, ?_, G, rfl, fun _ _ _ => rfl, rfl, rfl⟩
      rw [fX3_build_L1, show nI (14 - 0) = (14 : Int32) from rfl, if_pos (by decide), pz_bs, if_neg (by decide)]
  | succ r ih =>
    intro σ h k e f x hr hf c hA hh G
    cases f with
    | zero => omega
    | succ f =>
      have un : fX3_build_L1 x (f + 1) 1 (nI (14 - (r + 1))) σ = (fX3_joinNearest σ).bind fun x10 => fX3_build_L1 x f x10.1 (nI (14 - r)) x10.2 := by
        rw [fX3_build_L1, if_neg (show ¬ (14 : Int32) ≤ nI (14 - (r + 1)) from nI_ge (b := 14) (by omega) (by decide)), if_neg (by decide), pz_bs, if_pos rfl, nI_1, show 14 - (r + 1) + 1 = 14 - r by omega]
      rw [un]
      rcases fc_joinNearest hn c hA hh G with ⟨z, ej⟩ | ⟨z, σ1, e1, ej, G1, f1, f2, f3, f4⟩
      · rw [ej, pz_bs]
        cases f with
        | zero => omega
        | succ f =>
          refine ⟨σ, k, e, 0, nI (14 - r), ?_, ?_, ?_, fun _ _ _ => rfl, rfl, rfl⟩
          · show fX3_build_L1 x (f + 1) 0 (nI (14 - r)) σ = _
            rw [fX3_build_L1]
            by_cases q : (14 : Int32) ≤ nI (14 - r)
            · rw [if_pos q, pz_bs, if_neg (by decide)]
            · rw [if_neg q, if_pos rfl, pz_bs, if_neg (by decide)]
          · rw [pz_mk, if_pos z]; exact G
          · rw [pz_mk, if_pos z]
      · rw [ej, pz_bs]
        have sa : pz_sa σ σ1 := ⟨fun q _ b _ => f1 q (by omega) (by omega), f2, f3⟩
        rcases pn_ok n (vNo σ) (vAf σ) (vMa σ) (vTh σ) (vTh_ok c.2.2.2.1).1 h with w | ⟨_, w1, w2, w3, w4⟩
        · have := (vTh_ok c.2.2.2.1).1
          omega
        obtain ⟨σ2, k2, e2, b, cc, eL, G2, l2, g1, g2, g3⟩ := ih σ1 _ (k - 1) e1 f x (by omega) (by omega) (ps_CW sa c) (fun a b ha hb hab => by rw [ps_Af sa, f1 _ (by omega) (by omega)]; exact hA a b ha hb hab) (pJ_Hd hh w3 w4 (by omega)) G1
        rw [ps_No sa, ps_Af sa, ps_Ma sa, ps_Th sa, f4] at G2 l2
        refine ⟨σ2, k2, e2, b, cc, eL, ?_, ?_, fun q h1 h2 => by rw [g1 q h1 h2, f1 q h1 h2], by rw [g2, f2], by rw [g3, f3]⟩
        · rw [pz_mk, if_neg z]; exact G2
        · rw [pz_mk, if_neg z]; exact l2
theorem fc_what (hn : n ≤ 14) (c6 : pz_CW6 n σ) : ∃ σ' k e, fX3_joinWhatMust σ (nI n) = some σ' ∧ pz_CG n (pz_h0 n (vMu σ)) k e σ' ∧ (∀ q, q ≠ 24 → q ≠ 25 → σ' q = σ q) ∧ (∀ z, z ≠ 2 → σ' 24 z = σ 24 z) := by
  have hC := pC_eq n (vMu σ)
  have hS : ∀ {a b}, pz_C n (vMu σ) a b = true → pz_C n (vMu σ) b a = true := fun h => pC_sy (vMu_sy c6) h
  unfold fX3_joinWhatMust
  obtain ⟨r, hr, er⟩ := pz_loop (S := zz_St) (R := Int32 × zz_St) (fun f p s => fX3_joinWhatMust_L1 (nI n) f (nI p) s)
    (fun p s => (∀ q, q ≠ 24 → q ≠ 25 → s q = σ q) ∧ (∀ z, z ≠ 2 → s 24 z = σ 24 z) ∧ ∃ k e, k ≤ p ∧ s 24 2 = nI k ∧ (∀ i, i < k → e i < p ∧ pz_h0 n (vMu σ) (e i) = e i) ∧ (∀ i j, i < j → j < k → e i < e j) ∧ (∀ q, q < p → pz_h0 n (vMu σ) q = q → ∃ i, i < k ∧ e i = q) ∧ (∀ i, i < k → ∀ b, pz_b (s 25 i) b = pz_G n (pz_h0 n (vMu σ)) (e i) b))
    (fun r => (∀ q, q ≠ 24 → q ≠ 25 → r.2 q = σ q) ∧ (∀ z, z ≠ 2 → r.2 24 z = σ 24 z) ∧ ∃ k e, pz_CG n (pz_h0 n (vMu σ)) k e r.2) n
    (fun p f s hp hP => by
      obtain ⟨a, b, k, e, hkp, hk, e1, e2, e3, e4⟩ := hP
      obtain ⟨J, eJ, hJ⟩ := fc_joined (σ := s) (n := n) (cw6_c (a 22 (by decide) (by decide)) (a 23 (by decide) (by decide)) c6) hn hp
      have mus : vMu s = vMu σ := by unfold vMu; rw [a 22 (by decide) (by decide)]
      rw [mus] at hJ
      have small : (J &&& (((1 : Int32) <<< (nI p &&& 31)) - 1) = 0) ↔ pz_h0 n (vMu σ) p = p := by
        rw [pb_z]
        constructor
        · intro g
          have l := pl_le (pz_C n (vMu σ)) p
          rcases Nat.lt_or_ge (pz_h0 n (vMu σ) p) p with q | q
          · have := g (pz_h0 n (vMu σ) p) (by omega)
            rw [pb_and, pb_all (by omega), hJ, decide_eq_true q, Bool.and_true] at this
            have z := (pl_in hC hp).1
            rw [show pz_lo (pz_C n (vMu σ)) p = pz_h0 n (vMu σ) p from rfl, this] at z
            cases z
          · have : pz_h0 n (vMu σ) p ≤ p := l
            omega
        · intro g i hi
          rw [pb_and, pb_all (by omega), hJ]
          cases z : pz_C n (vMu σ) p i with
          | false => rfl
          | true =>
            have := pl_min (C := pz_C n (vMu σ)) z (hS z)
            have q : pz_h0 n (vMu σ) p ≤ i := this
            rw [decide_eq_false (by omega)]; rfl
      have un : fX3_joinWhatMust_L1 (nI n) (f + 1) (nI p) s = if pz_h0 n (vMu σ) p = p then fX3_joinWhatMust_L1 (nI n) f (nI (p + 1)) (zz_u (zz_u s 25 k J) 24 2 (nI (k + 1))) else fX3_joinWhatMust_L1 (nI n) f (nI (p + 1)) s := by
        rw [fX3_joinWhatMust_L1, if_neg (nI_ge hp (by omega)), if_neg (show ¬ (14 : Int32) ≤ nI p from nI_ge (a := p) (b := 14) (by omega) (by decide)), pz_bs, if_pos rfl, eJ, pz_bs]
        by_cases g : pz_h0 n (vMu σ) p = p
        · rw [if_pos (small.mpr g), if_pos g, pz_bs, pz_bs, if_neg (by decide), hk, pz_pa (by omega) (by decide), pz_bs, pz_bs, pz_uq (show 24 ≠ 25 by decide), hk, nI_1, nI_1]
        · rw [if_neg (fun q => g (small.mp q)), if_neg g, pz_bs, pz_bs, if_pos (by decide), pz_bs, nI_1]
      refine Or.inl ?_
      show ∃ s', _ ∧ fX3_joinWhatMust_L1 (nI n) (f + 1) (nI p) s = _
      rw [un]
      by_cases g : pz_h0 n (vMu σ) p = p
      · rw [if_pos g]
        refine ⟨_, ⟨fun q h1 h2 => by rw [pz_uq h1, pz_uq h2]; exact a q h1 h2, fun z hz => by rw [pz_uj hz, pz_uq (by decide)]; exact b z hz, k + 1, fun i => if i = k then p else e i, by omega, pz_us, fun i hi => ?_, fun i j hij hj => ?_, fun q hq hqq => ?_, fun i hi bt => ?_⟩, rfl⟩
        · by_cases q : i = k
          · simp only [if_pos q]; exact ⟨by omega, g⟩
          · simp only [if_neg q]
            have := e1 i (by omega)
            exact ⟨by omega, this.2⟩
        · by_cases q : j = k
          · simp only [if_pos q, if_neg (show ¬ i = k by omega)]
            exact (e1 i (by omega)).1
          · simp only [if_neg q, if_neg (show ¬ i = k by omega)]
            exact e2 i j hij (by omega)
        · by_cases z : q = p
          · exact ⟨k, by omega, by simp only [if_pos rfl]; exact z.symm⟩
          · obtain ⟨i, hi, ei⟩ := e3 q (by omega) hqq
            exact ⟨i, by omega, by simp only [if_neg (show ¬ i = k by omega)]; exact ei⟩
        · rw [pz_uq (by decide), pz_u]
          by_cases q : i = k
          · simp only [if_pos q]
            rw [if_pos ⟨trivial, q⟩, hJ]
            unfold pz_G
            cases z : pz_C n (vMu σ) p bt with
            | true =>
              have hb := (hC.2.1 _ _ z).2
              have := (pl_iff hC hp hb).mpr ⟨z, hS z⟩
              rw [decide_eq_true hb, decide_eq_true (show pz_h0 n (vMu σ) bt = p from this.symm.trans g)]
              rfl
            | false =>
              by_cases hb : bt < n
              · rw [decide_eq_true hb, decide_eq_false]
                · rfl
                · intro w
                  have := (pl_iff hC hp hb).mp (g.trans w.symm)
                  rw [this.1] at z; cases z
              · rw [decide_eq_false hb]; rfl
          · simp only [if_neg q]
            rw [if_neg (by omega)]
            exact e4 i (by omega) bt
      · rw [if_neg g]
        refine ⟨_, ⟨a, b, k, e, by omega, hk, fun i hi => ⟨by have := e1 i hi; omega, (e1 i hi).2⟩, e2, fun q hq hqq => ?_, e4⟩, rfl⟩
        by_cases z : q = p
        · rw [z] at hqq; exact absurd hqq g
        · exact e3 q (by omega) hqq)
    (fun f s hP => by
      obtain ⟨a, b, k, e, hkp, hk, e1, e2, e3, e4⟩ := hP
      refine ⟨(nI n, s), ⟨a, b, k, fun i => if i < k then e i else n, ⟨fun i hi => ?_, fun i j hij hj => ?_, ?_, fun q hq hqq => ?_⟩, hk, fun i hi => ?_⟩, ?_⟩
      · simp only [if_pos hi]; exact e1 i hi
      · by_cases q : j < k
        · simp only [if_pos q, if_pos (show i < k by omega)]; exact e2 i j hij q
        · simp only [if_neg q, if_pos (show i < k by omega)]; exact (e1 i (by omega)).1
      · simp only [if_neg (show ¬ k < k by omega)]
      · obtain ⟨i, hi, ei⟩ := e3 q hq hqq
        exact ⟨i, hi, by simp only [if_pos hi]; exact ei⟩
      · simp only [if_pos hi]; exact e4 i hi
      · show fX3_joinWhatMust_L1 (nI n) (f + 1) (nI n) s = _
        rw [fX3_joinWhatMust_L1, if_pos (Int32.le_refl _), pz_bs, if_neg (by decide)]) 1000 0 (zz_u σ 24 2 0) (Nat.zero_le _) ⟨fun q h1 _ => pz_uq h1, fun z hz => pz_uj hz, 0, fun _ => 0, Nat.le_refl _, pz_us, fun i hi => by omega, fun i j _ hj => by omega, fun q hq => by omega, fun i hi => by omega⟩ (by omega)
  obtain ⟨a, b, k, e, G⟩ := hr
  exact ⟨r.2, k, e, by rw [show fX3_joinWhatMust_L1 (nI n) 1000 (0 : Int32) (zz_u σ 24 2 0) = _ from er, pz_bs], G, a, b⟩
/-- weighed and put into groups -/
theorem fc_groups (hn : n ≤ 14) (c : pz_CW n σ) : ∃ σ1 σ2, fX3_weighAll σ = some σ1 ∧ fX3_build σ1 (σ1 1 0) = some σ2 ∧ pz_DG n σ2 ∧ pz_DA n σ2 ∧ σ2 24 3 = (vMk n σ2).2 ∧ (∀ q, q < 24 ∨ 41 ≤ q → σ2 q = σ q) ∧ σ2 24 0 = σ 24 0 ∧ σ2 24 1 = σ 24 1 := by
  obtain ⟨σ1, w1, w2, w3⟩ := fc_weigh hn c
  have sa1 : pz_sa σ σ1 := ps_fr (fun q h => w2 q (by omega)) (by rw [w2 24 (by decide)]) (by rw [w2 24 (by decide)])
  have c1 := ps_CW sa1 c
  obtain ⟨σ2, k, e, j1, j2, j3, j4⟩ := fc_what (σ := σ1) hn c1.2.2.2.2
  have sa2 : pz_sa σ1 (zz_u σ2 24 3 (-1)) := ps_fr (fun q h => by rw [pz_uq (by omega)]; exact j3 q (by omega) (by omega)) (by rw [pz_uj (by decide)]; exact j4 0 (by decide)) (by rw [pz_uj (by decide)]; exact j4 1 (by decide))
  have A1 : ∀ a b, a < n → b < n → a ≠ b → zz_u σ2 24 3 (-1) (27 + a) b = nI (vAf (zz_u σ2 24 3 (-1)) a b) := fun a b ha hb hab => by
    rw [ps_Af sa2, ps_Af sa1, pz_uq (by omega), j3 _ (by omega) (by omega)]
    exact w3 a b ha hb hab
  have G1 : pz_CG n (pz_h0 n (vMu σ1)) k e (zz_u σ2 24 3 (-1)) := ⟨j2.1, by rw [pz_uj (by decide)]; exact j2.2.1, fun i hi b => by rw [pz_uq (by decide)]; exact j2.2.2 i hi b⟩
  obtain ⟨σ3, k3, e3, b, cc, eL, G3, l3, g1, g2, g3⟩ := fc_rounds hn 14 (zz_u σ2 24 3 (-1)) _ k e 1000 (nI n) (by omega) (by omega) (ps_CW sa2 c1) A1 (ph0 n _) G1
  have sa3 : pz_sa (zz_u σ2 24 3 (-1)) σ3 := ps_fr (fun q h => g1 q (by omega) (by omega)) g2 g3
  have sa : pz_sa σ1 σ3 := ps_tr sa2 sa3
  rw [pz_us] at G3 l3
  have mk : vMk n σ3 = pz_mk n (vNo (zz_u σ2 24 3 (-1))) (vAf (zz_u σ2 24 3 (-1))) (vMa (zz_u σ2 24 3 (-1))) (vTh (zz_u σ2 24 3 (-1))) 14 (pz_h0 n (vMu σ1)) (-1) := by
    rw [ps_Mk sa]
    unfold vMk
    rw [ps_No sa2, ps_Af sa2, ps_Ma sa2, ps_Th sa2]
  refine ⟨σ1, σ3, w1, ?_, ⟨k3, e3, ?_⟩, fun a b ha hb hab => ?_, ?_, fun q hq => ?_, ?_, ?_⟩
  · unfold fX3_build
    rw [c1.1.2, j1, pz_bs, show fX3_build_L1 (nI n) 1000 1 0 (zz_u σ2 24 3 (-1)) = _ from eL, pz_bs]
  · unfold vH
    rw [mk]
    exact G3
  · rw [ps_Af sa3, g1 _ (by omega) (by omega)]
    exact A1 a b ha hb hab
  · rw [mk]; exact l3
  · rw [g1 q (by omega) (by omega), pz_uq (by omega), j3 q (by omega) (by omega), w2 q (by omega)]
  · rw [g2, pz_uj (by decide), j4 0 (by decide), w2 24 (by decide)]
  · rw [g3, pz_uj (by decide), j4 1 (by decide), w2 24 (by decide)]
end CB

