/-! pure part: small words -/
theorem pz_first : (0 : Int32) = Int32.ofNat 0 := rfl
