/-! THE CLAIM OUT OF ONE WALK OF THE LAW'S BODY. Your part is whole_start (and what it stands on); all else here is the same for every law, but numbers. -/
def R_law : String := "ChangeUntanglerLaw"
def lw_P (b : Addr) (xs : List Int32) (args : Array Value) (s : State) : Prop := args = #[.ref b] ∧ s.IntsAt b xs ∧ xs.length ≤ 260 ∧ (Jvm.Cond.and given_1 narrow_1).before args s = true
def lw_Q (_ : Array Value) (s : State) (o : Outcome) (t : State) : Prop := o = .returned (some (.int 1)) ∧ Framed s o t [] 600104 7301314
def lw_Z (below : List Frame) (a : Array Value) (s : State) : State → Prop := fun t => ∃ o, t.status = .running ∧ Ended t below o ∧ lw_Q a s o t
/-- the law's own end, with 1 on the stack, nothing written that was there before, its room as the claim has it -/
theorem lw_ret {p : Program} {l : Launch} {e : Env} {s : State} {m : MethodId} {below : List Frame} {meth : Method} {c : Code} {b : Nat} (hx : p.tables.exec = Jvm.exec) (hb : c.code = code) (hr : meth.sig.returnType = ret) (hlocks : meth.locks = false) {pc : Nat} {H : Heap} {ls : Array Slot} (hdg : decode code pc = .ok (.ireturn, 1)) : W p l e room_1 s m #[Value.ref b] below meth c H [] 600104 7301314 (lw_Z below #[Value.ref b] s) (F0 m pc ls [.int 1]) := by
  intro T hT X
  obtain ⟨fs, hret, hrun, hended, hW, hframe⟩ := X.leave (v := some (.int 1)) (hlocks := hlocks) (fun h => by rw [hr] at h; cases h)
  have hmeth' : T.vm.method? m = some meth := X.method'
  refine ⟨T.setFrames fs, ?_, .returned (some (.int 1)), hrun, hended, rfl, ⟨_, rfl⟩, hW, hframe⟩
  jvm_step X.here [X.here.top, hx, hb, hdg, hmeth', hr, ret, narrow_b1]
  (try refine ⟨rfl, ?_⟩); (try refine ⟨rfl, ?_⟩)
  first | (intro acts; rw [hret _ acts rfl rfl rfl]) | rw [hret _ _ rfl rfl rfl]
  exact Steps.refl _
/-- what holds at the law's entry: the machine, the code, the tables' words (any of lw_tbl by 'hts w (by decide +kernel)'), the script of L ints xs at the cell b, what the Statement gives of the start (any of its parts by flat_of_before) -/
def lw_At (p : Program) (s : State) (m : MethodId) (meth : Method) (c : Code) (b L : Nat) (xs : Nat → Int32) : Prop :=
  p.tables.exec = Jvm.exec ∧ c.code = code ∧ meth.sig.returnType = ret ∧ c.maxLocals = 16 ∧ s.vm.findClass R_law = some m.cls ∧ (∀ w ∈ lw_tbl, w.before #[Value.ref b] s = true) ∧ va_X b L xs s s.heap ∧ b < s.heap.size ∧ meth.locks = false ∧ (Jvm.Cond.and given_1 narrow_1).before #[Value.ref b] s = true
/-! what the tables say at the start -/
section ST
variable {s : State} {b : Nat}
theorem zt_nest : ∀ q ∈ zz_nest, Cond.methodLinkNest q.1 q.2.1 q.2.2.1 q.2.2.2 ∈ lw_tbl := by decide +kernel
theorem zt_exc : ∀ E ∈ zz_exc, Cond.castable E E ∈ lw_tbl := by decide +kernel
theorem zt_no : ∀ q ∈ zz_nocast, Cond.not (.castable q.1 q.2) ∈ flatC (Jvm.Cond.and given_1 narrow_1) := by decide +kernel
theorem zt_str : ∀ q ∈ zz_str, Cond.stringRef q.1 q.2.1 q.2.2 ∈ lw_tbl := by decide +kernel
theorem zt_decl : ∀ y ∈ zz_decl, Cond.declares y ∈ lw_tbl := by decide +kernel
theorem zt_aoa : Cond.arrayOver (.array .int) ∈ lw_tbl := by decide +kernel
theorem zt_i : Cond.arrayClass .int ∈ lw_tbl := by decide +kernel
theorem zt_s1 : Cond.laysStatic Bundle.tN "UNASSIGNED_STACK" Bundle.steD ∈ lw_tbl := by decide +kernel
theorem zt_s2 : Cond.laysStatic Bundle.tN "SUPPRESSED_SENTINEL" Bundle.listD ∈ lw_tbl := by decide +kernel
theorem zt_s3 : Cond.initialized Bundle.tN ∈ lw_tbl := by decide +kernel
theorem zt_s4 : Cond.isRef (.static Bundle.tN "UNASSIGNED_STACK" Bundle.steD) ∈ flatC (Jvm.Cond.and given_1 narrow_1) := by decide +kernel
theorem zt_s5 : Cond.isRef (.static Bundle.tN "SUPPRESSED_SENTINEL" Bundle.listD) ∈ flatC (Jvm.Cond.and given_1 narrow_1) := by decide +kernel
theorem zt_str_of {c tx : String} {k : Nat} (h : (Cond.stringRef c k tx).before #[Value.ref b] s = true) : ∃ a, vk_R c k tx a s := by
  cases hc : s.vm.findClass c with
  | none =>
    unfold Cond.before at h
    simp [Cond.holds, Cond.value, hc] at h
  | some cur =>
    obtain ⟨k9, cf, i, a, -, -, -, -, -, hev⟩ := Cond.stringRef_spec hc h
    exact ⟨a, vk_R.of h hev⟩
theorem z_F0 (hts : ∀ w ∈ lw_tbl, w.before #[Value.ref b] s = true) (hgv : (Jvm.Cond.and given_1 narrow_1).before #[Value.ref b] s = true) : zz_F s := by
  refine ⟨fun w hw hg a => word_at (State.WarmedH.refl s) (good_of_word hg) (hts w hw), fun q hq => va_Nw.of rfl (hts _ (zt_nest q hq)), fun E hE => va_Nw.of rfl (hts _ (zt_exc E hE)), fun q hq => va_Nc.of (flat_of_before _ hgv _ (zt_no q hq)), fun q hq => zt_str_of (hts _ (zt_str q hq)), fun y hy => va_Nw.of rfl (hts _ (zt_decl y hy)), va_AOA.of (hts _ zt_aoa)⟩
theorem z_S0 {A : Nat → Prop} (hts : ∀ w ∈ lw_tbl, w.before #[Value.ref b] s = true) (hgv : (Jvm.Cond.and given_1 narrow_1).before #[Value.ref b] s = true) (hA : ∀ a : Nat, a < s.heap.size → ¬ A a) : zz_S A s s.heap :=
  ⟨vx_Zqof (hts _ zt_s1) (hts _ zt_s3) (flat_of_before _ hgv _ zt_s4) hA, vx_Zqof (hts _ zt_s2) (hts _ zt_s3) (flat_of_before _ hgv _ zt_s5) hA⟩
theorem z_arr {ty : FieldType} (hno : ∀ n, ty ≠ .object n) (h : (Cond.arrayClass ty).before #[Value.ref b] s = true) : ∃ cA : ClassId, ArrOfT s cA ty ∧ s.vm.findClass ("[" ++ ty.toString) = some cA := by
  obtain ⟨c, k, comp, h1, h2, h3⟩ := Cond.arrayClass_spec h
  refine ⟨c, fun n z => ⟨fun q e => ?_, k, h2, comp, h3⟩, h1⟩
  cases ty with
  | object n => exact absurd rfl (hno n)
  | _ => cases e
theorem z_arr2 (h : va_AOA .int s) : ∃ cA : ClassId, ArrOfT s cA (.array .int) ∧ s.vm.findClass ("[" ++ (FieldType.array .int).toString) = some cA := by
  obtain ⟨comp, c, k, h1, h2, h3, h4, h5⟩ := va_AOA.spec h
  exact ⟨c, fun n z => ⟨fun q e => (by cases e), k, h3, comp, h4⟩, h5⟩
theorem zt_n0 : Cond.instantiable RX0 4 ∈ lw_tbl := by decide +kernel
theorem zt_n1 : Cond.instantiable RX1 2 ∈ lw_tbl := by decide +kernel
theorem zt_n2 : Cond.instantiable RX2 2 ∈ lw_tbl := by decide +kernel
theorem zt_n3 : Cond.instantiable RX3 6 ∈ lw_tbl := by decide +kernel
theorem zt_n4 : Cond.instantiable RX4 4 ∈ lw_tbl := by decide +kernel
theorem zt_n5 : Cond.instantiable RX5 8 ∈ lw_tbl := by decide +kernel
theorem zt_n6 : Cond.instantiable RX6 2 ∈ lw_tbl := by decide +kernel
theorem zt_n7 : Cond.instantiable RX7 9 ∈ lw_tbl := by decide +kernel
theorem z_K0 (hts : ∀ w ∈ lw_tbl, w.before #[Value.ref b] s = true) (hF : zz_F s) : ∃ (D : va_G) (U : zz_U), va_K D zcl (zz_tys U) s := by
  obtain ⟨c0, i0, k0⟩ := u_known (C := RX0) (T := TX0) (N := 4) (n := 4) hts z_in0 (hts _ zt_n0)
  obtain ⟨c1, i1, k1⟩ := u_known (C := RX1) (T := TX1) (N := 2) (n := 2) hts z_in1 (hts _ zt_n1)
  obtain ⟨c2, i2, k2⟩ := u_known (C := RX2) (T := TX2) (N := 2) (n := 2) hts z_in2 (hts _ zt_n2)
  obtain ⟨c3, i3, k3⟩ := u_known (C := RX3) (T := TX3) (N := 6) (n := 6) hts z_in3 (hts _ zt_n3)
  obtain ⟨c4, i4, k4⟩ := u_known (C := RX4) (T := TX4) (N := 4) (n := 4) hts z_in4 (hts _ zt_n4)
  obtain ⟨c5, i5, k5⟩ := u_known (C := RX5) (T := TX5) (N := 8) (n := 8) hts z_in5 (hts _ zt_n5)
  obtain ⟨c6, i6, k6⟩ := u_known (C := RX6) (T := TX6) (N := 2) (n := 2) hts z_in6 (hts _ zt_n6)
  obtain ⟨c7, i7, k7⟩ := u_known (C := RX7) (T := TX7) (N := 9) (n := 9) hts z_in7 (hts _ zt_n7)
  obtain ⟨a0, p0, q0⟩ := z_arr (ty := .int) (fun n h => by cases h) (hts _ zt_i)
  obtain ⟨a3, p3, q3⟩ := z_arr2 hF.2.2.2.2.2.2
  refine ⟨(fun k => [c0, c1, c2, c3, c4, c5, c6, c7].getD k c0, fun k => [i0, i1, i2, i3, i4, i5, i6, i7].getD k i0), (a0, a0, a0, a3), fun k q hq => ?_, fun k q hq => ?_⟩
  · match k, hq with
    | 0, hq => cases hq; exact k0
    | 1, hq => cases hq; exact k1
    | 2, hq => cases hq; exact k2
    | 3, hq => cases hq; exact k3
    | 4, hq => cases hq; exact k4
    | 5, hq => cases hq; exact k5
    | 6, hq => cases hq; exact k6
    | 7, hq => cases hq; exact k7
    | k + 8, hq => simp [zcl] at hq
  · match k, hq with
    | 0, hq => cases hq; exact ⟨p0, q0⟩
    | 1, hq => cases hq; exact ⟨p3, q3⟩
    | k + 2, hq => simp [zz_tys] at hq
end ST
