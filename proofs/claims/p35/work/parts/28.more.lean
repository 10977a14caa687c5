/-! pure part: setName, points, affinity, closest, needs -/
section MO
variable {n : Nat} {σ σ' τ τ' : zz_St}
/-- needs -/
theorem pn_fin (X : Int32) : ((if X = 0 then some false else some true).bind fun b => some (zz_bi b)) = some (zz_bi (!decide (X = 0))) := by
  by_cases g : X = 0
  · rw [if_pos g, decide_eq_true g]; rfl
  · rw [if_neg g, decide_eq_false g]; rfl
theorem fc_need {a b : Nat} (ha : a < 14) (hb : b < 14) : fX5_isNeeded σ (nI a) (nI b) (σ 17 0) = some (zz_bi (vNd σ a b)) := by
  unfold fX5_isNeeded
  simp (disch := omega) only [pz_lit, pz_ix, pz_ga, pz_bs]
  exact pn_fin _
end MO

