/-! the law's switch and loop; the state at the start -/
section LOOPL
variable {n : Nat} {σ τ : zz_St} {xs : Nat → Int32} {L : Nat} {i_ v1 v2 v3 v4 : Int32}
set_option maxRecDepth 100000 in
theorem z_sw (S : zz_LS) (y : Int32) (I : pz_I n S.1 S.2.1) (g1 : zz_ga xs L (i_ + 1) = some v1) (g2 : zz_ga xs L (i_ + 2) = some v2) (g3 : zz_ga xs L (i_ + 3) = some v3) (g4 : zz_ga xs L (i_ + 4) = some v4) : ∃ m S', fL_sw xs L y i_ S = some (some S') ∧ pz_I m S'.1 S'.2.1 := by
  unfold fL_sw
  by_cases h0 : y = (0 : Int32)
  · rw [if_pos h0]; exact z_c0 I g1 g2 g3 g4
  rw [if_neg h0]
  by_cases h1 : y = (1 : Int32)
  · rw [if_pos h1]; exact z_c1 I g1 g2 g3
  rw [if_neg h1]
  by_cases h2 : y = (2 : Int32)
  · rw [if_pos h2]; exact z_c2 I g1 g2
  rw [if_neg h2]
  by_cases h3 : y = (3 : Int32)
  · rw [if_pos h3]; exact z_c3 I g1 g2 g3
  rw [if_neg h3]
  by_cases h4 : y = (4 : Int32)
  · rw [if_pos h4]; exact z_c4 I 
  rw [if_neg h4]
  by_cases h5 : y = (5 : Int32)
  · rw [if_pos h5]; exact z_c5 I 
  rw [if_neg h5]
  by_cases h6 : y = (6 : Int32)
  · rw [if_pos h6]; exact z_c6 I g1 g2
  rw [if_neg h6]
  by_cases h7 : y = (7 : Int32)
  · rw [if_pos h7]; exact z_c7 I g1
  rw [if_neg h7]
  by_cases h8 : y = (8 : Int32)
  · rw [if_pos h8]; exact z_c8 I g1 g2 g3
  rw [if_neg h8]
  by_cases h9 : y = (9 : Int32)
  · rw [if_pos h9]; exact z_c9 I g1 g2
  rw [if_neg h9]
  by_cases h10 : y = (10 : Int32)
  · rw [if_pos h10]; exact z_c10 I g1
  rw [if_neg h10]
  by_cases h11 : y = (11 : Int32)
  · rw [if_pos h11]; exact z_c11 I g1
  rw [if_neg h11]
  by_cases h12 : y = (12 : Int32)
  · rw [if_pos h12]; exact z_c12 I g1
  rw [if_neg h12]
  by_cases h13 : y = (13 : Int32)
  · rw [if_pos h13]; exact z_c13 I g1 g2 g3
  rw [if_neg h13]
  by_cases h14 : y = (14 : Int32)
  · rw [if_pos h14]; exact z_c14 I 
  rw [if_neg h14]
  by_cases h15 : y = (15 : Int32)
  · rw [if_pos h15]; exact z_c15 I g1
  rw [if_neg h15]
  by_cases h16 : y = (16 : Int32)
  · rw [if_pos h16]; exact z_c16 I g1
  rw [if_neg h16]
  by_cases h17 : y = (17 : Int32)
  · rw [if_pos h17]; exact z_c17 I g1 g2
  rw [if_neg h17]
  by_cases h18 : y = (18 : Int32)
  · rw [if_pos h18]; exact z_c18 I 
  rw [if_neg h18]
  by_cases h19 : y = (19 : Int32)
  · rw [if_pos h19]; exact z_c19 I g1 g2
  rw [if_neg h19]
  by_cases h20 : y = (20 : Int32)
  · rw [if_pos h20]; exact z_c20 I 
  rw [if_neg h20]
  by_cases h21 : y = (21 : Int32)
  · rw [if_pos h21]; exact z_c21 I g1
  rw [if_neg h21]
  by_cases h22 : y = (22 : Int32)
  · rw [if_pos h22]; exact z_c22 I g1
  rw [if_neg h22]
  by_cases h23 : y = (23 : Int32)
  · rw [if_pos h23]; exact z_c23 I 
  rw [if_neg h23]
  by_cases h24 : y = (24 : Int32)
  · rw [if_pos h24]; exact z_c24 I g1
  rw [if_neg h24]
  by_cases h25 : y = (25 : Int32)
  · rw [if_pos h25]; exact z_c25 I g1
  rw [if_neg h25]
  by_cases h26 : y = (26 : Int32)
  · rw [if_pos h26]; exact z_c26 I 
  rw [if_neg h26]
  by_cases h27 : y = (27 : Int32)
  · rw [if_pos h27]; exact z_c27 I 
  rw [if_neg h27]
  by_cases h28 : y = (28 : Int32)
  · rw [if_pos h28]; exact z_c28 I g1
  rw [if_neg h28]
  by_cases h29 : y = (29 : Int32)
  · rw [if_pos h29]; exact z_c29 I g1 g2
  rw [if_neg h29]
  by_cases h30 : y = (30 : Int32)
  · rw [if_pos h30]; exact z_c30 I 
  rw [if_neg h30]
  by_cases h31 : y = (31 : Int32)
  · rw [if_pos h31]; exact z_c31 I 
  rw [if_neg h31]
  exact ⟨n, S, rfl, I⟩
theorem lq_cond {a j : Nat} (ha : a ≤ 2560) (hj : j ≤ 2600) : (Int32.ofNat a - 5 < nI j) ↔ a < j + 5 := by
  rw [Int32.lt_iff_toInt_lt, nI_toInt (by omega), show (Int32.ofNat a - 5 : Int32) = nI a - nI 5 from rfl, pk_sub_toInt (by omega) (by omega)]
  omega
theorem z_loop (hL : L ≤ 2560) : ∀ (f j n : Nat) (S : zz_LS), pz_I n S.1 S.2.1 → 5 * j ≤ L → L < 5 * (j + f) → ∃ r, fL_loop xs L f (nI (5 * j)) S = some (some r) := by
  intro f
  induction f with
  | zero => intro j n S _ h1 h2; omega
  | succ f ih =>
    intro j n S I h1 h2
    rw [fL_loop]
    by_cases g : Int32.ofNat L - 5 < nI (5 * j)
    · rw [if_pos g]; exact ⟨S, rfl⟩
    · rw [if_neg g]
      rw [lq_cond hL (by omega)] at g
      rw [pz_ga (show 5 * j < L by omega) (by omega), pz_bs]
      have G : ∀ k, k < 5 → zz_ga xs L (nI (5 * j) + nI k) = some (xs (5 * j + k)) := fun k hk => by
        rw [nI_add, pz_ga (by omega) (by omega)]
      obtain ⟨m, S', e, J⟩ := z_sw (i_ := nI (5 * j)) S (xs (5 * j) &&& 31) I (G 1 (by decide)) (G 2 (by decide)) (G 3 (by decide)) (G 4 (by decide))
      rw [e, pz_bs]
      have e5 : nI (5 * j) + (5 : Int32) = nI (5 * (j + 1)) := by
        rw [show (5 : Int32) = nI 5 from rfl, nI_add]; congr 1
      rw [e5]
      exact ih (j + 1) m S' J (by omega) (by omega)
end LOOPL
def vWt : Nat → Int32 := upd (upd (upd (upd (fun _ => 0) 0 6) 1 5) 2 8) 3 10
/-- what the class and the reference hold when they are new -/
def vS0 : zz_St := fun q => bif Nat.beq q 20 then vWt else bif Nat.beq q 19 then upd (fun _ => 0) 1 20 else bif Nat.beq q 24 then upd (upd (fun _ => 0) 0 12) 1 1 else fun _ => 0
def vT0 : zz_St := fun q => bif Nat.beq q 54 then vWt else bif Nat.beq q 47 then upd (upd (upd (fun _ => 0) 9 20) 10 12) 11 1 else fun _ => 0
theorem pb_z0 (i : Nat) : pz_b 0 i = false := by unfold pz_b; simp
theorem z_init : pz_I 0 vS0 vT0 := by
  refine ⟨⟨⟨by decide, rfl⟩, fun p hp => absurd hp (by omega), ?_, ?_, ?_⟩, ⟨rfl, fun p hp => absurd hp (by omega), fun w _ p hp => absurd hp (by omega), ?_, ?_, fun p q hp => absurd hp (by omega)⟩, Or.inl ⟨rfl, rfl⟩⟩
  · intro w hw
    have z8 : vS0 (8 + w) = fun _ => 0 := by match w, hw with
      | 0, _ => rfl
      | 1, _ => rfl
      | 2, _ => rfl
      | 3, _ => rfl
    have z13 : vS0 (13 + w) = fun _ => 0 := by match w, hw with
      | 0, _ => rfl
      | 1, _ => rfl
      | 2, _ => rfl
      | 3, _ => rfl
    rw [z8, z13]
    exact ⟨fun _ _ _ => rfl, fun _ i _ _ => pb_z0 i, fun x i _ => by rw [pb_z0, pb_z0, Bool.and_false]⟩
  · refine ⟨fun k hk => ?_, ⟨12, by decide, by decide, rfl⟩, ⟨1, by decide, rfl⟩⟩
    match k, hk with
    | 0, _ => exact ⟨6, by decide, rfl⟩
    | 1, _ => exact ⟨5, by decide, rfl⟩
    | 2, _ => exact ⟨8, by decide, rfl⟩
    | 3, _ => exact ⟨10, by decide, rfl⟩
  · refine ⟨fun p q _ h => ?_, fun p q hp => absurd hp (by omega)⟩
    rw [show vS0 22 p = 0 from rfl, show vS0 23 p = 0 from rfl, pb_z0] at h
    rcases h with h | h <;> cases h
  · intro x hx
    refine ⟨?_, rfl⟩
    rw [show vS0 17 0 = 0 from rfl, pb_z0]; rfl
  · refine ⟨fun k hk => rfl, rfl, rfl, rfl⟩
