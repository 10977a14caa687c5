/-! pure part: addPiece, dropPiece -/
section AD
variable {n : Nat} {σ σ' τ τ' : zz_St}
theorem zb0 : (zz_bi false = (0 : Int32)) = True := by decide
theorem zb1 : (zz_bi true = (0 : Int32)) = False := by decide
end AD

