/-! pure part: the first methods -/
def pz_in (l h v : Int32) : Bool := decide (l ≤ v) && decide (v ≤ h)
theorem fc_up {σ : zz_St} {v g : Int32} : fX7_isUpTo σ v g = some (zz_bi (pz_in 0 g v)) := by
  unfold fX7_isUpTo pz_in
  by_cases h1 : v < 0
  · rw [if_pos h1, decide_eq_false (Int32.not_le.mpr h1)]; rfl
  · rw [if_neg h1, decide_eq_true (Int32.not_lt.mp h1)]
    by_cases h2 : g < v
    · rw [if_pos h2, decide_eq_false (Int32.not_le.mpr h2)]; rfl
    · rw [if_neg h2, decide_eq_true (Int32.not_lt.mp h2)]; rfl
theorem pin_e {v : Int32} {m : Nat} (hm : m < 2147483648) (h : pz_in 0 (nI m) v = true) : ∃ j, j ≤ m ∧ v = nI j := by
  unfold pz_in at h
  rw [Bool.and_eq_true, decide_eq_true_iff, decide_eq_true_iff] at h
  exact nI_of2 (M := nI m) (nI_toInt (by omega)) (Int32.not_lt.mpr h.1) h.2
theorem pin_b {v : Int32} {m : Nat} (hm : m < 2147483647) (h : v < 0 ∨ nI (m + 1) ≤ v) : pz_in 0 (nI m) v = false := by
  unfold pz_in
  rcases h with h | h
  · rw [decide_eq_false (Int32.not_le.mpr h)]; rfl
  · rw [decide_eq_false (p := v ≤ nI m) ?_, Bool.and_false]
    intro g
    have := Int32.le_trans h g
    rw [nI_leI (by omega) (by omega)] at this
    omega
theorem pin_y {j m : Nat} (hm : m < 2147483648) (h : j ≤ m) : pz_in 0 (nI m) (nI j) = true := by
  unfold pz_in
  rw [decide_eq_true (nI_pos' (by omega)), decide_eq_true ((nI_leI (by omega) (by omega)).mpr h)]
  rfl
def pz_bd (n : Nat) (v : Int32) : Prop := v < 0 ∨ nI n ≤ v
theorem pbd (n : Nat) (hn : n < 2147483648) (v : Int32) : pz_bd n v ∨ ∃ p, p < n ∧ v = nI p := by
  rcases pk_ix v (n := n) (by omega) with h | h | h
  · exact Or.inl (Or.inl h)
  · exact Or.inl (Or.inr h)
  · exact Or.inr h
section SM
variable {n : Nat} {σ σ' τ τ' : zz_St}
theorem fc_has_y (h : σ 1 0 = nI n) (hn : n ≤ 14) {p : Nat} (hp : p < n) : fX5_has σ (nI p) = some 1 := by
  unfold fX5_has
  rw [h, if_neg (nI_pos (n := p) (by omega)), if_neg (nI_ge hp (by omega))]
  rfl
theorem fc_has_n (h : σ 1 0 = nI n) {v : Int32} (hv : pz_bd n v) : fX5_has σ v = some 0 := by
  unfold fX5_has
  rw [h]
  by_cases g : v < 0
  · rw [if_pos g]; rfl
  · rcases hv with q | q
    · exact absurd q g
    · rw [if_neg g, if_pos q]; rfl
theorem fc_rp_y (h : σ 1 0 = nI n) (hn : n ≤ 14) {p : Nat} (hp : p < n) : fX7_requirePiece σ (nI p) = some (.inl ()) := by
  unfold fX7_requirePiece
  rw [fc_has_y h hn hp]
  rfl
theorem fc_rp_n (h : σ 1 0 = nI n) {v : Int32} (hv : pz_bd n v) : fX7_requirePiece σ v = some (.inr "java/lang/IndexOutOfBoundsException") := by
  unfold fX7_requirePiece
  rw [fc_has_n h hv]
  rfl
theorem fc_rd_y {a b : Int32} (h : a ≠ b) : fX7_requireDifferent σ a b = some (.inl ()) := if_neg h
theorem fc_rd_n (a : Int32) : fX7_requireDifferent σ a a = some (.inr "java/lang/IllegalArgumentException") := if_pos rfl
/-- forgotten -/
def pz_fg (σ : zz_St) : zz_St := zz_u (zz_u σ 0 7 0) 0 8 0
theorem fc_fg : fX7_forgetResults σ = some (pz_fg σ) := rfl
theorem pfg_q {q : Nat} (h : q ≠ 0) : pz_fg σ q = σ q := by unfold pz_fg; rw [pz_uq h, pz_uq h]
theorem pfg_7 : pz_fg σ 0 7 = 0 := by unfold pz_fg; rw [pz_u, pz_u]; rfl
theorem pfg_8 : pz_fg σ 0 8 = 0 := by unfold pz_fg; rw [pz_u]; rfl
theorem pfg_sa : pz_sa σ (pz_fg σ) := ⟨fun q a _ _ => pfg_q (by omega), by rw [pfg_q (by decide)], by rw [pfg_q (by decide)]⟩
theorem cw1_c (h : σ' 1 = σ 1) (c : pz_CW1 n σ) : pz_CW1 n σ' := by unfold pz_CW1 at *; rw [h]; exact c
theorem cw2_c (h : σ' 3 = σ 3) (c : pz_CW2 n σ) : pz_CW2 n σ' := by unfold pz_CW2 at *; rw [h]; exact c
theorem cw3_c (h : ∀ q, 8 ≤ q → q < 17 → σ' q = σ q) (c : pz_CW3 n σ) : pz_CW3 n σ' := by
  intro w hw
  rw [h (8 + w) (by omega) (by omega), h (13 + w) (by omega) (by omega)]
  exact c w hw
theorem cw5_c (h : σ' 20 = σ 20) (h2 : σ' 24 0 = σ 24 0) (h3 : σ' 24 1 = σ 24 1) (c : pz_CW5 σ) : pz_CW5 σ' := by unfold pz_CW5 at *; rw [h, h2, h3]; exact c
theorem cw6_c (h : σ' 22 = σ 22) (h2 : σ' 23 = σ 23) (c : pz_CW6 n σ) : pz_CW6 n σ' := by unfold pz_CW6 at *; rw [h, h2]; exact c
end SM

