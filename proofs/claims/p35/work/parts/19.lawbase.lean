/-! what the law's functions are made of -/
def zx_rm (x y : Int32) : Option Int32 := if y = 0 then none else some (x - x / y * y)
def zx_pa (f : Nat → Int32) (n : Nat) (i v : Int32) : Option (Nat → Int32) := if i < 0 ∨ n ≤ i.toNatClampNeg then none else some (upd f i.toNatClampNeg v)
theorem zx_rm_in {x y z : Int32} (h : zx_rm x y = some z) : ¬ y = 0 ∧ x - x / y * y = z := by
  unfold zx_rm at h
  split at h
  · cases h
  · next g => exact ⟨g, Option.some.inj h⟩
theorem zx_pa_in {f f1 : Nat → Int32} {n : Nat} {i v : Int32} (h : zx_pa f n i v = some f1) : vp_in i n ∧ upd f i.toNatClampNeg v = f1 := by
  unfold zx_pa at h
  split at h
  · cases h
  · next g => exact ⟨g, Option.some.inj h⟩
