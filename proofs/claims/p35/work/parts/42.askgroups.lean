/-! pure part: what is asked of groups -/
section QG
variable {n : Nat} {σ σ' τ τ' : zz_St}
theorem pc_gap {P : Nat → Bool} {a : Nat} : ∀ b, a ≤ b → (∀ j, a ≤ j → j < b → P j = false) → pz_ct P b = pz_ct P a
  | 0, h, _ => by rw [show a = 0 by omega]
  | b + 1, h, g => by
    by_cases c : a = b + 1
    · rw [c]
    · rw [pz_ct, g b (by omega) (by omega), pc_gap b (by omega) (fun j h1 h2 => g j h1 (by omega))]
      rfl
theorem pEn_ct {h : Nat → Nat} {k : Nat} {e : Nat → Nat} (E : pz_En n h k e) : ∀ i, i ≤ k → pz_ct (fun p => decide (h p = p)) (e i) = i
  | 0, _ => by
    rw [pc_gap (a := 0) (e 0) (Nat.zero_le _) (fun j _ hj => decide_eq_false (pEn_low E hj))]
    rfl
  | i + 1, hi => by
    have ih := pEn_ct E i (by omega)
    have lt := E.2.1 i (i + 1) (by omega) hi
    rw [pc_gap (a := e i + 1) (e (i + 1)) (by omega) (fun j h1 h2 => decide_eq_false (pEn_gap E (by omega) (by omega) h2)), pz_ct, ih, decide_eq_true (E.1 i (by omega)).2]
    rfl
theorem pEn_hc {h : Nat → Nat} {k : Nat} {e : Nat → Nat} (E : pz_En n h k e) : pz_hc n h = k := by
  unfold pz_hc
  have := pEn_ct E k (Nat.le_refl k)
  rw [E.2.2.1] at this
  exact this
theorem fc_rg_y {k : Nat} (e : fX7_putTogether σ = some σ') (hk : σ' 24 2 = nI k) (hk2 : k ≤ 14) {i : Nat} (hi : i < k) : fX7_requireGroup σ (nI i) = some (.inl (), σ') := by
  unfold fX7_requireGroup
  rw [e, pz_bs, hk, if_neg (nI_pos (n := i) (by omega)), if_pos (nI_lt hi (by omega))]
  rfl
theorem fc_rg_n {k : Nat} (e : fX7_putTogether σ = some σ') (hk : σ' 24 2 = nI k) {v : Int32} (hv : pz_bd k v) : fX7_requireGroup σ v = some (.inr "java/lang/IndexOutOfBoundsException", σ') := by
  unfold fX7_requireGroup
  rw [e, pz_bs, hk]
  by_cases g : v < 0
  · rw [if_pos g]; rfl
  · rcases hv with q | q
    · exact absurd q g
    · rw [if_neg g, if_neg (Int32.not_lt.mpr q)]; rfl
theorem pn_m1 {v : Nat} (h : v < 2147483648) : ¬ nI v = (-1 : Int32) := fun z => absurd (nI_pos' h) (by rw [z]; decide)
theorem fc_place25 {k : Nat} {e : Nat → Nat} {h : Nat → Nat} (hn : n ≤ 14) (E : pz_En n h k e) (hs : ∀ i, i < k → ∀ b, pz_b (σ 25 i) b = pz_G n h (e i) b) {p i : Nat} (hp : p < n) (hi : i < k) (hpi : h p = e i) : fX7_placeOf_a25 σ (nI p) (nI k) = some (nI i) := by
  have hkn := pEn_k E
  unfold fX7_placeOf_a25
  obtain ⟨r, hr, er⟩ := pz_loop (S := Unit) (R := Int32 ⊕ Int32) (fun f j _ => fX7_placeOf_a25_L1 σ (nI p) (nI k) f (nI j)) (fun _ _ => True) (fun r => r = .inl (nI i)) i
    (fun j f _ hj _ => Or.inl ⟨(), trivial, by
      show fX7_placeOf_a25_L1 σ (nI p) (nI k) (f + 1) (nI j) = _
      have b : pz_G n h (e j) p = false := by
        unfold pz_G
        rw [decide_eq_false (show ¬ h p = e j from fun q => by have := pEn_inj E (i := i) (j := j) (by omega) (by omega) (by rw [← hpi, q]); omega), Bool.and_false]
      rw [fX7_placeOf_a25_L1, if_neg (nI_ge (show j < k by omega) (by omega)), if_neg (show ¬ (14 : Int32) ≤ nI j from nI_ge (a := j) (b := 14) (by omega) (by decide)), pz_bs, if_pos rfl, pz_ga (by omega) (by decide), pz_bs, pf_isIn (by omega), pz_bs, hs j (by omega), b, if_pos (by decide), nI_1]⟩)
    (fun f _ _ => ⟨_, rfl, by
      show fX7_placeOf_a25_L1 σ (nI p) (nI k) (f + 1) (nI i) = _
      rw [fX7_placeOf_a25_L1, if_neg (nI_ge hi (by omega)), if_neg (show ¬ (14 : Int32) ≤ nI i from nI_ge (a := i) (b := 14) (by omega) (by decide)), pz_bs, if_pos rfl, pz_ga (by omega) (by decide), pz_bs, pf_isIn (by omega), pz_bs, hs i hi, pG.mpr ⟨hp, hpi⟩, if_neg (by decide)]⟩) 1000 0 () (Nat.zero_le _) trivial (by omega)
  rw [show fX7_placeOf_a25_L1 σ (nI p) (nI k) 1000 (0 : Int32) = _ from er, pz_bs, hr]
end QG

