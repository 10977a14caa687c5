/-! pure part: say -/
section SY
variable {n : Nat} {σ σ' τ τ' : zz_St}
/-- two that MUST NOT be together are joined -/
def pz_cn (n : Nat) (σ : zz_St) : Prop := ∃ p q, p < n ∧ q < n ∧ vNo σ p q = true ∧ pz_C n (vMu σ) p q = true
theorem fc_contra (c6 : pz_CW6 n σ) (hn : n ≤ 14) : ∃ b : Bool, fX6_isContradiction σ = some (zz_bi b) ∧ (b = true ↔ pz_cn n σ) := by
  unfold fX6_isContradiction
  obtain ⟨r, hr, e⟩ := pz_loop (S := Unit) (R := Int32 ⊕ Int32) (fun f k _ => fX6_isContradiction_L1 σ f (nI k))
    (fun k _ => ∀ p q, p < k → ¬ (vNo σ p q = true ∧ pz_C n (vMu σ) p q = true))
    (fun r => (r = .inl 1 ∧ pz_cn n σ) ∨ (r = .inr 14 ∧ ¬ pz_cn n σ)) 14
    (fun k f s hk hP => by
      have hga := pz_ga (f := σ 23) (n := 14) hk (by decide)
      have hun : fX6_isContradiction_L1 σ (f + 1) (nI k) = (((zz_ga (σ 23) 14 (nI k)).bind fun x7 => if x7 = 0 then some false else (fX6_joinedTo σ (nI k)).bind fun x10 => (zz_ga (σ 23) 14 (nI k)).bind fun x12 => if (x10 &&& x12) = 0 then some false else some true).bind fun b2 => if b2 = true then some (.inl (1 : Int32)) else fX6_isContradiction_L1 σ f (nI k + (1 : Int32))) := by
        rw [fX6_isContradiction_L1, if_neg (show ¬ (14 : Int32) ≤ nI k from nI_ge (a := k) (b := 14) hk (by decide))]
      rw [hga, pz_bs] at hun
      by_cases g : σ 23 k = 0
      · refine Or.inl ⟨(), fun p q hp => ?_, ?_⟩
        · by_cases c : p = k
          · rw [c]
            rintro ⟨h, _⟩
            unfold vNo at h
            rw [g, pb_0] at h; cases h
          · exact hP p q (by omega)
        · show fX6_isContradiction_L1 σ (f + 1) (nI k) = _
          rw [hun, if_pos g, pz_bs, if_neg (by decide), nI_1]
      · have hkn : k < n := by
          obtain ⟨i, hi, h⟩ := pb_nz.mp g
          exact (c6.1 k i hk (Or.inr h)).1
        obtain ⟨J, eJ, hJ⟩ := fc_joined c6 hn hkn
        rw [if_neg g, eJ, pz_bs, pz_bs] at hun
        by_cases g2 : J &&& σ 23 k = 0
        · refine Or.inl ⟨(), fun p q hp => ?_, ?_⟩
          · by_cases c : p = k
            · rw [c]
              rintro ⟨h, h2⟩
              have hq : q < 32 := by
                rcases Nat.lt_or_ge q 32 with z | z
                · exact z
                · unfold vNo at h; rw [pb_big z] at h; cases h
              have := pb_z.mp g2 q hq
              rw [pb_and, hJ, h2] at this
              unfold vNo at h
              rw [h] at this; cases this
            · exact hP p q (by omega)
          · show fX6_isContradiction_L1 σ (f + 1) (nI k) = _
            rw [hun, if_pos g2, pz_bs, if_neg (by decide), nI_1]
        · refine Or.inr ⟨.inl 1, Or.inl ⟨rfl, ?_⟩, ?_⟩
          · obtain ⟨i, hi, h⟩ := pb_nz.mp g2
            rw [pb_and, Bool.and_eq_true, hJ] at h
            exact ⟨k, i, hkn, (c6.1 k i hk (Or.inr h.2)).2, h.2, h.1⟩
          · show fX6_isContradiction_L1 σ (f + 1) (nI k) = _
            rw [hun, if_neg g2, pz_bs, if_pos rfl])
    (fun f s hP => ⟨.inr 14, Or.inr ⟨rfl, fun ⟨p, q, hp, hq, h1, h2⟩ => hP p q (by omega) ⟨h1, h2⟩⟩, by
      show fX6_isContradiction_L1 σ (f + 1) (nI 14) = _
      rw [fX6_isContradiction_L1, if_pos (by decide)]
      rfl⟩) 1000 0 () (by decide) (fun p q hp => by omega) (by decide)
  rw [show fX6_isContradiction_L1 σ 1000 (0 : Int32) = _ from e, pz_bs]
  rcases hr with ⟨rfl, h⟩ | ⟨rfl, h⟩
  · exact ⟨true, rfl, ⟨fun _ => h, fun _ => rfl⟩⟩
  · exact ⟨false, rfl, ⟨fun q => absurd q (by decide), fun q => absurd q h⟩⟩
theorem fc_said (c6 : pz_CW6 n σ) {a b : Nat} (ha : a < 14) (hb : b < 14) : fX6_saidOf σ (nI a) (nI b) = some (if vMu σ a b = true then 1 else if vNo σ a b = true then 2 else 0) := by
  unfold fX6_saidOf
  rw [pz_ga ha (by decide), pz_bs, pf_isIn (by omega), pz_bs, pz_ga ha (by decide), pz_bs, pf_isIn (by omega), pz_bs]
  unfold vMu vNo
  cases pz_b (σ 22 a) b <;> cases pz_b (σ 23 a) b <;> rfl
end SY

