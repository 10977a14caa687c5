/-! pure part: leastBreakage, best -/
section BP
variable {n : Nat} {σ σ' τ τ' : zz_St}
theorem pfirst {m : Nat} {c R : Nat → Nat} (h : pz_IsR m c R) {S p : Nat} (hS : S < 2 ^ m - 1) (hp : p < m) (hb : S.testBit p = false) (best : ∀ q, q < m → S.testBit q = false → c (S ||| 2 ^ p) + R (S ||| 2 ^ p) ≤ c (S ||| 2 ^ q) + R (S ||| 2 ^ q) ∧ (q < p → c (S ||| 2 ^ p) + R (S ||| 2 ^ p) < c (S ||| 2 ^ q) + R (S ||| 2 ^ q))) : p = pz_wn m c R S := by
  obtain ⟨a, k, hk, hkb, e⟩ := h.2 S hS
  have e1 : c (S ||| 2 ^ p) + R (S ||| 2 ^ p) = R S := by
    have := (best k hk hkb).1
    have := a p hp hb
    omega
  refine (pf_is (by omega) (fun q hq => ?_) (fun _ => ?_)).symm
  · cases w : S.testBit q with
    | true => rfl
    | false =>
      have := (best q (by omega) w).2 hq
      rw [decide_eq_false (by omega)]
      rfl
  · rw [hb, decide_eq_true e1]; rfl
theorem fc_walk {m : Nat} {c R : Nat → Nat} (hm : m ≤ 9) (h : pz_IsR m c R) (hb : ∀ S, S < 2 ^ m → R S ≤ 16 * (2 ^ m - 1 - S)) (hc : ∀ S, c S ≤ 16) (h44 : σ 44 1 = nI m) (hv : ∀ S, S < 2 ^ m → 0 < S → σ 46 S = nI (c S + R S)) : ∃ σ', fX0_walk σ = some σ' ∧ (∀ q, q ≠ 45 → σ' q = σ q) ∧ ∀ k, k < m → σ' 45 k = nI (pz_wn m c R (pz_wk m c R k)) := by
  have h512 : 2 ^ m ≤ 512 := Nat.pow_le_pow_right (n := 2) (by decide) hm
  unfold fX0_walk
  obtain ⟨r, hr, e⟩ := pz_loop (S := Int32 × zz_St) (R := Int32 × Int32 × zz_St) (fun f k t => fX0_walk_L1 f t.1 (nI k) t.2) (fun k t => t.1 = nI (pz_wk m c R k) ∧ (∀ q, q ≠ 45 → t.2 q = σ q) ∧ ∀ j, j < k → t.2 45 j = nI (pz_wn m c R (pz_wk m c R j))) (fun r => (∀ q, q ≠ 45 → r.2.2 q = σ q) ∧ ∀ k, k < m → r.2.2 45 k = nI (pz_wn m c R (pz_wk m c R k))) m
    (fun k f t hk hP => by
      obtain ⟨a, s⟩ := t
      have h1 : a = nI (pz_wk m c R k) := hP.1
      have h2 : ∀ q, q ≠ 45 → s q = σ q := hP.2.1
      have h3 : ∀ j, j < k → s 45 j = nI (pz_wn m c R (pz_wk m c R j)) := hP.2.2
      have w := pwk_ne h hk
      have vl : ∀ p, p < m → (pz_wk m c R k).testBit p = false → s 46 (pz_wk m c R k ||| 2 ^ p) = nI (c (pz_wk m c R k ||| 2 ^ p) + R (pz_wk m c R k ||| 2 ^ p)) ∧ c (pz_wk m c R k ||| 2 ^ p) + R (pz_wk m c R k ||| 2 ^ p) < 1000000 := by
        intro p hp b
        have u := pn_up (show pz_wk m c R k < 2 ^ m by omega) hp b
        have x := hb _ u.2
        have y := hc (pz_wk m c R k ||| 2 ^ p)
        exact ⟨by rw [h2 46 (by decide)]; exact hv _ u.2 (by omega), by omega⟩
      have hs44 : s 44 1 = nI m := by rw [h2 44 (by decide)]; exact h44
      rcases fc_after (σ := s) hm (show pz_wk m c R k < 2 ^ m by omega) hs44 vl with ⟨full, _⟩ | ⟨p, hp, b, en, best⟩
      · obtain ⟨j, hj, z⟩ := pn_all (show pz_wk m c R k < 2 ^ m by omega) (by omega)
        rw [full j hj] at z; cases z
      · have pe := pfirst h w hp b best
        refine Or.inl ⟨(nI (pz_wk m c R (k + 1)), zz_u s 45 k (nI p)), ⟨rfl, fun q hq => by show zz_u s 45 k (nI p) q = _; rw [pz_uq hq]; exact h2 q hq, fun j hj => ?_⟩, ?_⟩
        · show zz_u s 45 k (nI p) 45 j = _
          rw [pz_u]
          by_cases d : j = k
          · rw [if_pos ⟨rfl, d⟩, d, ← pe]
          · rw [if_neg (by omega)]; exact h3 j (by omega)
        · show fX0_walk_L1 (f + 1) a (nI k) s = _
          rw [fX0_walk_L1, hs44, if_neg (nI_ge hk (by omega)), h1, en, pz_bs, if_neg (nI_pos (n := p) (by omega)), pz_pa (by omega) (by decide), pz_bs, pz_bs, pz_bs, pn_or (by omega), nI_1, pz_wk, ← pe])
    (fun f t hP => ⟨(t.1, nI m, t.2), hP.2, by
      show fX0_walk_L1 (f + 1) t.1 (nI m) t.2 = _
      rw [fX0_walk_L1, show t.2 44 1 = nI m by rw [hP.2.1 44 (by decide)]; exact h44, if_pos (Int32.le_refl _)]⟩) 1000 0 (0, σ) (Nat.zero_le _) ⟨rfl, fun _ _ => rfl, fun j hj => by omega⟩ (by omega)
  exact ⟨r.2.2, by rw [show fX0_walk_L1 1000 (0 : Int32) (0 : Int32) σ = _ from e, pz_bs], hr⟩
end BP

