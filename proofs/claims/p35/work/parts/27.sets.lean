/-! pure part: what is set, points, affinity, closest, needs -/
section ST
variable {n : Nat} {σ σ' τ τ' : zz_St}
theorem pK_fg (h : σ' 0 = pz_fg σ 0) : pz_K n σ' := Or.inl ⟨by rw [h]; exact pfg_7, by rw [h]; exact pfg_8⟩
end ST

