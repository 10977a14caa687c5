/-! pure part: what is said of two pieces; dropPiece -/
section DR
variable {n : Nat} {σ σ' τ τ' : zz_St}
theorem fc_way {a p : Nat} (ha : a < 14) (hp : p < 14) (w : Int32) : ∃ σ', fX6_putOneWay σ (nI a) (nI p) w = some σ' ∧ (∀ q, q ≠ 22 → q ≠ 23 → σ' q = σ q) ∧ (∀ c i, pz_b (σ' 22 c) i = if c = a ∧ i = p then decide (w = 1) else pz_b (σ 22 c) i) ∧ (∀ c i, pz_b (σ' 23 c) i = if c = a ∧ i = p then decide (w = 2) else pz_b (σ 23 c) i) := by
  have key : ∀ (x : Int32) (d : Bool) (i : Nat), pz_b ((x &&& (((1 : Int32) <<< (nI p &&& 31)) ^^^ (-1))) ||| (if d = true then (1 : Int32) <<< (nI p &&& 31) else 0)) i = if i = p then d else pz_b x i := by
    intro x d i
    rw [pb_or, pb_nand (by omega)]
    by_cases g : i = p
    · rw [if_pos g, decide_eq_true g]
      cases d with
      | true => rw [if_pos rfl, pb_one (by omega), decide_eq_true g]; simp
      | false => rw [if_neg (by decide), pb_0]; simp
    · rw [if_neg g, decide_eq_false g]
      cases d with
      | true => rw [if_pos rfl, pb_one (by omega), decide_eq_false g]; simp
      | false => rw [if_neg (by decide), pb_0]; simp
  have e1 : (if w = (1 : Int32) then some ((1 : Int32) <<< (nI p &&& 31)) else some (0 : Int32)) = some (if decide (w = 1) = true then (1 : Int32) <<< (nI p &&& 31) else 0) := by
    by_cases g : w = 1
    · rw [if_pos g, decide_eq_true g, if_pos rfl]
    · rw [if_neg g, decide_eq_false g, if_neg (by decide)]
  have e2 : (if w = (2 : Int32) then some ((1 : Int32) <<< (nI p &&& 31)) else some (0 : Int32)) = some (if decide (w = 2) = true then (1 : Int32) <<< (nI p &&& 31) else 0) := by
    by_cases g : w = 2
    · rw [if_pos g, decide_eq_true g, if_pos rfl]
    · rw [if_neg g, decide_eq_false g, if_neg (by decide)]
  unfold fX6_putOneWay
  rw [e1, e2, pz_bs, pz_ga ha (by decide), pz_bs, pz_bs, pz_pa ha (by decide), pz_bs, pz_uq (by decide), pz_ga ha (by decide), pz_bs, pz_bs, pz_pa ha (by decide), pz_bs]
  refine ⟨_, rfl, fun q h1 h2 => by rw [pz_uq h2, pz_uq h1], fun c i => ?_, fun c i => ?_⟩
  · rw [pz_uq (by decide), pz_u]
    by_cases g : c = a
    · rw [if_pos ⟨rfl, g⟩, key]
      by_cases g2 : i = p
      · rw [if_pos g2, if_pos ⟨g, g2⟩]
      · rw [if_neg g2, if_neg (by omega), g]
    · rw [if_neg (by omega), if_neg (by omega)]
  · rw [pz_u, pz_uq (by decide)]
    by_cases g : c = a
    · rw [if_pos ⟨rfl, g⟩, key]
      by_cases g2 : i = p
      · rw [if_pos g2, if_pos ⟨g, g2⟩]
      · rw [if_neg g2, if_neg (by omega), g]
    · rw [if_neg (by omega), if_neg (by omega)]
theorem fc_put {a b : Nat} (ha : a < 14) (hb : b < 14) (w : Int32) : ∃ σ', fX6_put σ (nI a) (nI b) w = some σ' ∧ (∀ q, q ≠ 22 → q ≠ 23 → σ' q = σ q) ∧ (∀ c i, pz_b (σ' 22 c) i = if (c = a ∧ i = b) ∨ (c = b ∧ i = a) then decide (w = 1) else pz_b (σ 22 c) i) ∧ (∀ c i, pz_b (σ' 23 c) i = if (c = a ∧ i = b) ∨ (c = b ∧ i = a) then decide (w = 2) else pz_b (σ 23 c) i) := by
  obtain ⟨σ1, e1, a1, b1, c1⟩ := fc_way (σ := σ) ha hb w
  obtain ⟨σ2, e2, a2, b2, c2⟩ := fc_way (σ := σ1) hb ha w
  unfold fX6_put
  rw [e1, pz_bs, e2, pz_bs]
  refine ⟨σ2, rfl, fun q h1 h2 => by rw [a2 q h1 h2, a1 q h1 h2], fun c i => ?_, fun c i => ?_⟩
  · rw [b2, b1]
    by_cases g : c = b ∧ i = a
    · rw [if_pos g, if_pos (Or.inr g)]
    · rw [if_neg g]
      by_cases g2 : c = a ∧ i = b
      · rw [if_pos g2, if_pos (Or.inl g2)]
      · rw [if_neg g2, if_neg (by omega)]
  · rw [c2, c1]
    by_cases g : c = b ∧ i = a
    · rw [if_pos g, if_pos (Or.inr g)]
    · rw [if_neg g]
      by_cases g2 : c = a ∧ i = b
      · rw [if_pos g2, if_pos (Or.inl g2)]
      · rw [if_neg g2, if_neg (by omega)]
end DR

