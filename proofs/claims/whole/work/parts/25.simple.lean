/-! pure part: the first methods -/
def pz_a1 (e1 : String) (rc : Int32 ⊕ String) (b t : Int32) : Prop := (rc = .inl b ∧ t = 0) ∨ (rc = .inr e1 ∧ t = 1)
def pz_a2 (e1 e2 : String) (rc : Int32 ⊕ String) (b t : Int32) : Prop := (rc = .inl b ∧ t = 0) ∨ (rc = .inr e1 ∧ t = 1) ∨ (rc = .inr e2 ∧ t = 2)
def pz_a3 (e1 e2 e3 : String) (rc : Int32 ⊕ String) (b t : Int32) : Prop := (rc = .inl b ∧ t = 0) ∨ (rc = .inr e1 ∧ t = 1) ∨ (rc = .inr e2 ∧ t = 2) ∨ (rc = .inr e3 ∧ t = 3)
def pz_in (l h v : Int32) : Bool := decide (l ≤ v) && decide (v ≤ h)
theorem fc_up {σ : zz_St} {v g : Int32} : fX7_isUpTo σ v g = some (zz_bi (pz_in 0 g v)) := by
  unfold fX7_isUpTo pz_in
  by_cases h1 : v < 0
  · rw [if_pos h1, decide_eq_false (Int32.not_le.mpr h1)]; rfl
  · rw [if_neg h1, decide_eq_true (Int32.not_lt.mp h1)]
    by_cases h2 : g < v
    · rw [if_pos h2, decide_eq_false (Int32.not_le.mpr h2)]; rfl
    · rw [if_neg h2, decide_eq_true (Int32.not_lt.mp h2)]; rfl
theorem fm_in {σ : zz_St} {v l g : Int32} : fX8_isIn σ v l g = some (zz_bi (pz_in l g v)) := by
  unfold fX8_isIn pz_in
  by_cases h1 : v < l
  · rw [if_pos h1, decide_eq_false (Int32.not_le.mpr h1)]; rfl
  · rw [if_neg h1, decide_eq_true (Int32.not_lt.mp h1)]
    by_cases h2 : g < v
    · rw [if_pos h2, decide_eq_false (Int32.not_le.mpr h2)]; rfl
    · rw [if_neg h2, decide_eq_true (Int32.not_lt.mp h2)]; rfl
theorem pin_e {v : Int32} {m : Nat} (hm : m < 2147483648) (h : pz_in 0 (nI m) v = true) : ∃ j, j ≤ m ∧ v = nI j := by
  unfold pz_in at h
  rw [Bool.and_eq_true, decide_eq_true_iff, decide_eq_true_iff] at h
  exact nI_of2 (M := nI m) (nI_toInt (by omega)) (Int32.not_lt.mpr h.1) h.2
theorem pin_b {v : Int32} {m : Nat} (hm : m < 2147483647) (h : v < 0 ∨ nI (m + 1) ≤ v) : pz_in 0 (nI m) v = false := by
  unfold pz_in
  rcases h with h | h
  · rw [decide_eq_false (Int32.not_le.mpr h)]; rfl
  · rw [decide_eq_false (p := v ≤ nI m) ?_, Bool.and_false]
    intro g
    have := Int32.le_trans h g
    rw [nI_leI (by omega) (by omega)] at this
    omega
theorem pin_y {j m : Nat} (hm : m < 2147483648) (h : j ≤ m) : pz_in 0 (nI m) (nI j) = true := by
  unfold pz_in
  rw [decide_eq_true (nI_pos' (by omega)), decide_eq_true ((nI_leI (by omega) (by omega)).mpr h)]
  rfl
def pz_bd (n : Nat) (v : Int32) : Prop := v < 0 ∨ nI n ≤ v
theorem pbd (n : Nat) (hn : n < 2147483648) (v : Int32) : pz_bd n v ∨ ∃ p, p < n ∧ v = nI p := by
  rcases pk_ix v (n := n) (by omega) with h | h | h
  · exact Or.inl (Or.inl h)
  · exact Or.inl (Or.inr h)
  · exact Or.inr h
section SM
variable {n : Nat} {σ σ' τ τ' : zz_St}
theorem fc_has_y (h : σ 1 0 = nI n) (hn : n ≤ 14) {p : Nat} (hp : p < n) : fX5_has σ (nI p) = some 1 := by
  unfold fX5_has
  rw [h, if_neg (nI_pos (n := p) (by omega)), if_neg (nI_ge hp (by omega))]
  rfl
theorem fc_has_n (h : σ 1 0 = nI n) {v : Int32} (hv : pz_bd n v) : fX5_has σ v = some 0 := by
  unfold fX5_has
  rw [h]
  by_cases g : v < 0
  · rw [if_pos g]; rfl
  · rcases hv with q | q
    · exact absurd q g
    · rw [if_neg g, if_pos q]; rfl
theorem fc_rp_y (h : σ 1 0 = nI n) (hn : n ≤ 14) {p : Nat} (hp : p < n) : fX7_requirePiece σ (nI p) = some (.inl ()) := by
  unfold fX7_requirePiece
  rw [fc_has_y h hn hp]
  rfl
theorem fc_rp_n (h : σ 1 0 = nI n) {v : Int32} (hv : pz_bd n v) : fX7_requirePiece σ v = some (.inr "java/lang/IndexOutOfBoundsException") := by
  unfold fX7_requirePiece
  rw [fc_has_n h hv]
  rfl
theorem fm_pc_y (h : τ 47 1 = nI n) (hn : n ≤ 14) {p : Nat} (hp : p < n) : fX8_isPiece τ (nI p) = some 1 := by
  unfold fX8_isPiece
  rw [h, fm_in, show nI n - 1 = nI (n - 1) from pk_sub (a := n) (b := 1) (by omega), pin_y (by omega) (by omega)]
  rfl
theorem fm_pc_n (h : τ 47 1 = nI n) (hn : n ≤ 14) {v : Int32} (hv : pz_bd n v) : fX8_isPiece τ v = some 0 := by
  unfold fX8_isPiece
  rw [h, fm_in]
  cases n with
  | zero =>
    have e : pz_in 0 (nI 0 - 1) v = false := by
      unfold pz_in
      rw [show nI 0 - 1 = -1 by decide]
      cases q : decide ((0 : Int32) ≤ v) with
      | false => rfl
      | true =>
        rw [decide_eq_false, Bool.and_false]
        intro g
        have := Int32.le_trans (of_decide_eq_true q) g
        exact absurd this (by decide)
    rw [e]; rfl
  | succ n =>
    rw [show nI (n + 1) - 1 = nI n from nI_pred n, pin_b (by omega) hv]
    rfl
theorem fc_rk_y {k : Nat} (hk : k < 4) : fX7_requireKind σ (nI k) = some (.inl ()) := by
  unfold fX7_requireKind
  rw [if_neg (nI_pos (n := k) (by omega)), if_pos (show nI k < 4 from nI_lt (a := k) (b := 4) hk (by decide))]
  rfl
theorem fc_rk_n {v : Int32} (hv : pz_bd 4 v) : fX7_requireKind σ v = some (.inr "java/lang/IndexOutOfBoundsException") := by
  unfold fX7_requireKind
  by_cases g : v < 0
  · rw [if_pos g]; rfl
  · rcases hv with q | q
    · exact absurd q g
    · rw [if_neg g, if_neg (show ¬ v < 4 from Int32.not_lt.mpr q)]; rfl
theorem fm_kd_y {k : Nat} (hk : k < 4) : fX8_isKind τ (nI k) = some 1 := by
  unfold fX8_isKind
  rw [fm_in, show (3 : Int32) = nI 3 from rfl, pin_y (by omega) (by omega)]
  rfl
theorem fm_kd_n {v : Int32} (hv : pz_bd 4 v) : fX8_isKind τ v = some 0 := by
  unfold fX8_isKind
  rw [fm_in, show (3 : Int32) = nI 3 from rfl, pin_b (by omega) hv]
  rfl
theorem fc_rd_y {a b : Int32} (h : a ≠ b) : fX7_requireDifferent σ a b = some (.inl ()) := if_neg h
theorem fc_rd_n (a : Int32) : fX7_requireDifferent σ a a = some (.inr "java/lang/IllegalArgumentException") := if_pos rfl
/-- forgotten -/
def pz_fg (σ : zz_St) : zz_St := zz_u (zz_u σ 0 7 0) 0 8 0
theorem fc_fg : fX7_forgetResults σ = some (pz_fg σ) := rfl
theorem pfg_q {q : Nat} (h : q ≠ 0) : pz_fg σ q = σ q := by unfold pz_fg; rw [pz_uq h, pz_uq h]
theorem pfg_7 : pz_fg σ 0 7 = 0 := by unfold pz_fg; rw [pz_u, pz_u]; rfl
theorem pfg_8 : pz_fg σ 0 8 = 0 := by unfold pz_fg; rw [pz_u]; rfl
theorem pfg_sa : pz_sa σ (pz_fg σ) := ⟨fun q a _ _ => pfg_q (by omega), by rw [pfg_q (by decide)], by rw [pfg_q (by decide)]⟩
theorem cw1_c (h : σ' 1 = σ 1) (c : pz_CW1 n σ) : pz_CW1 n σ' := by unfold pz_CW1 at *; rw [h]; exact c
theorem cw2_c (h : σ' 3 = σ 3) (c : pz_CW2 n σ) : pz_CW2 n σ' := by unfold pz_CW2 at *; rw [h]; exact c
theorem cw3_c (h : ∀ q, 8 ≤ q → q < 17 → σ' q = σ q) (c : pz_CW3 n σ) : pz_CW3 n σ' := by
  intro w hw
  rw [h (8 + w) (by omega) (by omega), h (13 + w) (by omega) (by omega)]
  exact c w hw
theorem cw5_c (h : σ' 20 = σ 20) (h2 : σ' 24 0 = σ 24 0) (h3 : σ' 24 1 = σ 24 1) (c : pz_CW5 σ) : pz_CW5 σ' := by unfold pz_CW5 at *; rw [h, h2, h3]; exact c
theorem cw6_c (h : σ' 22 = σ 22) (h2 : σ' 23 = σ 23) (c : pz_CW6 n σ) : pz_CW6 n σ' := by unfold pz_CW6 at *; rw [h, h2]; exact c
theorem rl2_c (h : ∀ q, 2 ≤ q → q ≤ 6 → σ' q = σ q) (h2 : τ' 48 = τ 48) (h3 : τ' 50 = τ 50) (c : pz_RL2 n σ τ) : pz_RL2 n σ' τ' := by unfold pz_RL2 at *; rw [h 2 (by decide) (by decide), h 3 (by decide) (by decide), h 4 (by decide) (by decide), h 5 (by decide) (by decide), h 6 (by decide) (by decide), h2, h3]; exact c
theorem rl3_c (h : ∀ q, 8 ≤ q → q < 12 → σ' q = σ q) (h2 : τ' 49 = τ 49) (c : pz_RL3 n σ τ) : pz_RL3 n σ' τ' := by
  intro w hw p hp
  rw [h (8 + w) (by omega) (by omega), h2]
  exact c w hw p hp
theorem rl4_c (h : σ' 17 = σ 17) (h2 : σ' 18 = σ 18) (h3 : τ' 52 = τ 52) (h4 : τ' 53 = τ 53) (c : pz_RL4 σ τ) : pz_RL4 σ' τ' := by unfold pz_RL4 at *; rw [h, h2, h3, h4]; exact c
theorem rl5_c (h : σ' 20 = σ 20) (h1 : σ' 19 1 = σ 19 1) (h2 : σ' 24 0 = σ 24 0) (h3 : σ' 24 1 = σ 24 1) (h4 : τ' 54 = τ 54) (h5 : τ' 47 9 = τ 47 9) (h6 : τ' 47 10 = τ 47 10) (h7 : τ' 47 11 = τ 47 11) (c : pz_RL5 σ τ) : pz_RL5 σ' τ' := by unfold pz_RL5 at *; rw [h, h1, h2, h3, h4, h5, h6, h7]; exact c
theorem rl6_c (h : σ' 22 = σ 22) (h1 : σ' 23 = σ 23) (h2 : τ' 51 = τ 51) (c : pz_RL6 n σ τ) : pz_RL6 n σ' τ' := by unfold pz_RL6 at *; rw [h, h1, h2]; exact c
theorem t_pieceCount (I : pz_I n σ τ) : ∃ b τ', fX7_pieceCount σ = some b ∧ fX8_pieceCount τ = some (b, τ') ∧ pz_I n σ τ' := by
  refine ⟨nI n, zz_u τ 47 0 0, ?_, ?_, pI_m I (pm_u0 τ 0)⟩
  · unfold fX7_pieceCount; rw [pI_c I]
  · unfold fX8_pieceCount; rw [pz_uj (by decide), pI_t I]
end SM
