/-! pure part: breakage -/
section BR
variable {n : Nat} {σ σ' τ τ' : zz_St}
/-- the breakage of so many parcels in their order -/
def vBs (n : Nat) (σ : zz_St) : Nat → Nat
  | 0 => 0
  | k + 1 => vBs n σ k + vCt σ (fun q => decide (q < n) && pz_dn n (vF n σ) (k + 1) q)
end BR

