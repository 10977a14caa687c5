/-! ===== what the law's own methods need: the script in a contract, a table of handlers, new cells, their own rows ===== -/
def zb_Pc (D : va_G) (U : zz_U) (b L : Nat) (xs : Nat → Int32) (as : List Value) (ws : va_W) (sz : Nat) : Array Value → State → Prop := va_Pc as (fun V => (V.heap.size = sz ∧ va_P D zcl ws V.heap ∧ va_K D zcl (zz_tys U) V ∧ va_D (fun _ => True) ws ∧ zz_F V ∧ zz_S (va_A ws sz) V V.heap) ∧ va_X b L xs V V.heap ∧ b < sz ∧ ¬ va_A ws sz b)
/-- the contract of a method that reads the script at b -/
def zb_Met (y : MethodName) (w0 : Cond) (d mc ms : Nat) (D : va_G) (U : zz_U) (b L : Nat) (xs : Nat → Int32) (as : List Value) (ws : va_W) (Ψ : Option Value → va_W → Prop) (ΨX : String → va_W → Prop) : Prop :=
  ∀ (l : Launch) (sz : Nat), l.stackTraces = false → vx_Met l y [w0] ({ frames := d, cells := mc, slots := ms, locals := 36 * d } : Room) (zb_Pc D U b L xs as ws sz) (zz_Qc D (va_A ws sz) Ψ) (zz_XC D (va_A ws sz) ΨX) mc ms (va_A ws sz)
theorem zb_blind {D : va_G} {U : zz_U} {b L : Nat} {xs : Nat → Int32} {as : List Value} {ws : va_W} {sz : Nat} : FrameBlind (zb_Pc D U b L xs as ws sz) := by
  intro a V g mk q
  obtain ⟨q0, ⟨q1, qP, qK, qD, qF, qS⟩, qX, qb, qA⟩ := q
  exact ⟨q0, ⟨q1, qP, va_K.moved (u := V) (U := V.calling g mk a) (Vm.Alike.refl V.vm) qK, qD, zz_F.same (u := V) (V := V.calling g mk a) rfl qF, ⟨vx_Zq.moved (u := V) (U := V.calling g mk a) (Vm.Alike.refl V.vm) qS.1, vx_Zq.moved (u := V) (U := V.calling g mk a) (Vm.Alike.refl V.vm) qS.2⟩⟩, va_X.moved (u := V) (U := V.calling g mk a) (Vm.Alike.refl V.vm) qX, qb, qA⟩
theorem zb_Met.noX {y : MethodName} {w0 : Cond} {d mc ms : Nat} {D : va_G} {U : zz_U} {b L : Nat} {xs : Nat → Int32} {as : List Value} {ws : va_W} {Ψ : Option Value → va_W → Prop} {ΨX : String → va_W → Prop} (h : zb_Met y w0 d mc ms D U b L xs as ws Ψ ΨX) (hX : ∀ E w, ¬ ΨX E w) {l : Launch} {sz : Nat} (hl : l.stackTraces = false) :
    Met l y [w0] ({ frames := d, cells := mc, slots := ms, locals := 36 * d } : Room) (zb_Pc D U b L xs as ws sz) (zz_Qc D (va_A ws sz) Ψ) mc ms (va_A ws sz) := by
  intro p e ha hc hk s m args below hf happ hP hK
  obtain ⟨n, o, h1, h2, h3, h4⟩ := h l sz hl p e ha hc hk s m args below hf happ hP hK
  refine ⟨n, o, h1, h2, h3, ?_⟩
  rcases h4 with h4 | ⟨q, -, E, ce, L, hx, -⟩
  · exact h4
  · obtain ⟨⟨w, hw, -⟩, -⟩ := hx
    exact absurd hw (hX E w)
theorem zb_methodH {b L : Nat} {xs : Nat → Int32} {y : MethodName} {cc : ByteArray} {maxL d mc ms : Nat} {ret : Option FieldType} {hh : List (Nat × Nat × Nat × Nat)} {D : va_G} {U : zz_U} {as : List Value} {ws : va_W} {Ψ : Option Value → va_W → Prop} {ΨX : String → va_W → Prop} (own : String) (ho : y.cls = own) (hy : plainName own = true) (hlen : (lg_sl as).length ≤ maxL)
    (body : ∀ (p : Program) (l : Launch) (e : Env) (s : State) (m : MethodId) (args : Array Value) (below : List Frame) (meth : Method) (c : Code) (A : Nat → Prop), meth.name = y.name → zz_C p l ({ frames := d, cells := mc, slots := ms, locals := 36 * d } : Room) s m meth c D U A own cc maxL ret hh d → va_X b L xs s s.heap → b < s.heap.size → ¬ A b →
      zz_Z p l e ({ frames := d, cells := mc, slots := ms, locals := 36 * d } : Room) s m args below meth c (vx_MQ below (zz_Qc D A Ψ) (zz_XC D A ΨX) args s mc ms A) D A maxL 0 0 ws 0 (lv_args 0 as) []) : zb_Met y (.codeWith y cc maxL ret hh) d mc ms D U b L xs as ws Ψ ΨX := by
  subst ho
  intro l sz htr
  refine vx_ofWH (cc := cc) (maxL := maxL) (ret := ret) (hh := hh) (ws' := []) hy rfl ?_
  intro p e s m args below meth c s₁ B hml hv
  have hts := atoms_spec (ws := [Cond.codeWith y cc maxL ret hh]) B.pre
  have ht : c.exceptionTable.toList = tableOf hh := vx_table (x := y) B (hts _ List.mem_cons_self)
  obtain ⟨rfl, ⟨hsz, hP, hK, hD0, hF, hS0⟩, hX, hb1, hb2⟩ := hv
  subst hsz
  have hD := hD0.self (sz := s.heap.size)
  have hl := lv_entry as (n := maxL) hlen
  rw [lg_entry_eq]
  have hA : ∀ q : Nat, s.heap.size ≤ q → va_A ws s.heap.size q := fun q h => Or.inr h
  exact body p l e s m as.toArray below meth c (va_A ws s.heap.size) (name_of_methodNamed B.named B.method).1 ⟨B.exec, B.bytes, hml, findClass_of_methodNamed B.named, hF, B.notSynchronized, htr, hK, hA, hS0, Nat.le_refl _, Nat.le_refl _, B.returns, ht⟩ hX hb1 hb2 s.heap [] _ hP hD va_S.rf hl
theorem zb_method {b L : Nat} {xs : Nat → Int32} {y : MethodName} {cc : ByteArray} {maxL d mc ms : Nat} {ret : Option FieldType} {D : va_G} {U : zz_U} {as : List Value} {ws : va_W} {Ψ : Option Value → va_W → Prop} {ΨX : String → va_W → Prop} (own : String) (ho : y.cls = own) (hy : plainName own = true) (hlen : (lg_sl as).length ≤ maxL)
    (body : ∀ (p : Program) (l : Launch) (e : Env) (s : State) (m : MethodId) (args : Array Value) (below : List Frame) (meth : Method) (c : Code) (A : Nat → Prop), meth.name = y.name → zz_C p l ({ frames := d, cells := mc, slots := ms, locals := 36 * d } : Room) s m meth c D U A own cc maxL ret [] d → va_X b L xs s s.heap → b < s.heap.size → ¬ A b →
      zz_Z p l e ({ frames := d, cells := mc, slots := ms, locals := 36 * d } : Room) s m args below meth c (vx_MQ below (zz_Qc D A Ψ) (zz_XC D A ΨX) args s mc ms A) D A maxL 0 0 ws 0 (lv_args 0 as) []) : zb_Met y (.code y cc maxL ret) d mc ms D U b L xs as ws Ψ ΨX := by
  subst ho
  intro l sz htr
  refine vx_ofW (cc := cc) (maxL := maxL) (ret := ret) (ws' := []) hy rfl ?_
  intro p e s m args below meth c s₁ B hml hno hv
  obtain ⟨rfl, ⟨hsz, hP, hK, hD0, hF, hS0⟩, hX, hb1, hb2⟩ := hv
  subst hsz
  have hD := hD0.self (sz := s.heap.size)
  have hl := lv_entry as (n := maxL) hlen
  rw [lg_entry_eq]
  have ht : c.exceptionTable.toList = tableOf [] := by
    show _ = []
    cases hq : c.exceptionTable.toList with
    | nil => rfl
    | cons z r => exact (hno z (by rw [hq]; exact List.mem_cons_self)).elim
  have hA : ∀ q : Nat, s.heap.size ≤ q → va_A ws s.heap.size q := fun q h => Or.inr h
  refine body p l e s m as.toArray below meth c (va_A ws s.heap.size) (name_of_methodNamed B.named B.method).1 ⟨B.exec, B.bytes, hml, findClass_of_methodNamed B.named, hF, B.notSynchronized, htr, hK, hA, hS0, Nat.le_refl _, Nat.le_refl _, B.returns, ht⟩ hX hb1 hb2 s.heap [] _ hP hD va_S.rf hl
section ZH
variable {p : Program} {l : Launch} {e : Env} {R : Room} {s : State} {m : MethodId} {args : Array Value} {below : List Frame} {meth : Method} {c : Code} {Q : State → Prop} {D : va_G} {U : zz_U} {A : Nat → Prop} {own : String} {cc : ByteArray} {nL d cells slots pc : Nat} {ret : Option FieldType} {hh hy : List (Nat × Nat × Nat × Nat)} {lv : List (Nat × Value)} {st : List Value} {ws w1 : va_W} {mc ms : Nat} {v0 : Option Value}
theorem zb_pre (C : zz_C p l R s m meth c D U A own cc nL ret hh d) {b L : Nat} {xs : Nat → Int32} (hX : va_X b L xs s s.heap) (hbl : b < s.heap.size) (hbA : ¬ A b) {H : Heap} {locs : List Loc} (as : List Value) (hP : va_P D zcl ws H) (hD : va_D A ws) (hS : va_S A s.heap H locs) : ∀ V : State, V.heap = H → s.WarmedH V.vm → zb_Pc D U b L xs as ws H.size as.toArray V := by
  intro V hV hW
  refine ⟨rfl, (zz_pre C as hP hD hS V hV hW).2, ?_, Nat.lt_of_lt_of_le hbl hS.1, fun q => ?_⟩
  · rw [hV]
    exact va_X.moved hW.alike (va_X.kept hX (hS.2.1 b hbl hbA))
  · rcases q with ⟨k, e, q⟩ | q
    · exact hbA (hD.2 k (b, e) q)
    · exact absurd (Nat.lt_of_lt_of_le hbl hS.1) (Nat.not_lt.mpr q)
/-- a static method with handlers, which throws nothing -/
theorem zb_callSH1 (C : zz_C p l R s m meth c D U A own cc nL ret hh d) {b L : Nat} {xs : Nat → Int32} (hX : va_X b L xs s s.heap) (hbl : b < s.heap.size) (hbA : ¬ A b) {y : MethodName} {bytes : ByteArray} {maxL : Nat} {retY : Option FieldType} {d' n index : Nat} {As rest st1 : List Value} (hM : zb_Met y (.codeWith y bytes maxL retY hy) d' mc ms D U b L xs As ws (zz_ok v0 w1) zz_noth) (hdg : decode cc pc = .ok (.invokestatic index, 3)) (hst : st = As.reverse ++ rest)
    (w2 : zz_g (.methodLink own index y)) (wy : zz_YS y (.codeWith y bytes maxL retY hy) n) (hn : As.length = n) (hd : d' + 1 ≤ d) (hmx : maxL ≤ 17) (hw : (rest.map fun v => v.category).sum ≤ 8) (hc1 : cells + mc ≤ R.cells) (hs1 : slots + ms ≤ R.slots) (hv : v0.toList ++ rest = st1)
    (k : zz_Z p l e R s m args below meth c Q D A nL (cells + mc) (slots + ms) w1 (pc + 3) lv st1) : zz_Z p l e R s m args below meth c Q D A nL cells slots ws pc lv st := by
  subst hst
  subst hv
  intro H locs ls hP hD hS hl
  obtain ⟨y1, y3, y4, y5⟩ := wy
  have h1 := C.fr
  have h2 := C.lo
  have S : CallFix p m c cc nL s args [] own := ⟨C.x, C.b, C.ml, C.ow, fun _ h => nomatch h⟩
  have hpre : PreS s H (zb_Pc D U b L xs As ws H.size) As := ⟨zb_blind, zb_pre C hX hbl hbA As hP hD hS⟩
  have hG : GoodIn [.methodLink own index y, .static y, .initialized y.cls, .codeWith y bytes maxL retY hy] (va_wsS own index y [.codeWith y bytes maxL retY hy]) := fun w h => ⟨h, by
    rcases List.mem_cons.mp h with rfl | h
    · exact good_of_word w2.2
    rcases List.mem_cons.mp h with rfl | h
    · exact good_of_word y1.2
    rcases List.mem_cons.mp h with rfl | h
    · exact good_of_word y4.2
    · have h : w ∈ [Cond.codeWith y bytes maxL retY hy] := h
      rw [List.mem_singleton] at h; subst h; exact good_of_word y3.2⟩
  have cw : vx_CSW R s args own index y bytes maxL retY hy [.codeWith y bytes maxL retY hy] ({ frames := d', cells := mc, slots := ms, locals := 36 * d' } : Room) mc ms n := vx_cwSW (ws' := []) (Ts := [.methodLink own index y, .static y, .initialized y.cls, .codeWith y bytes maxL retY hy]) n (fun w h => by
    rcases List.mem_cons.mp h with rfl | h
    · exact C.w w2
    rcases List.mem_cons.mp h with rfl | h
    · exact C.w y1
    rcases List.mem_cons.mp h with rfl | h
    · exact C.w y4
    · rw [List.mem_singleton] at h; subst h; exact C.w y3) hG rfl rfl rfl y5 ⟨by show d' + 1 ≤ _; omega, by show 8 + (maxL + 11) + 36 * d' ≤ _; omega⟩
  exact zz_backN (vx_runSW S (hM.noX (fun _ _ h => h) C.tr) cw hpre rfl hn hl.1 rfl (lv_room hw) hdg ⟨hc1, hs1⟩) hS (zz_in C hD hS) (fun v ws' hv H1 locs1 hP1 hD1 hS1 => by obtain ⟨rfl, rfl⟩ := hv; exact k H1 locs1 ls hP1 hD1 hS1 hl)
/-- a static method that reads the script -/
theorem zb_callS1 (C : zz_C p l R s m meth c D U A own cc nL ret hh d) {b L : Nat} {xs : Nat → Int32} (hX : va_X b L xs s s.heap) (hbl : b < s.heap.size) (hbA : ¬ A b) {y : MethodName} {bytes : ByteArray} {maxL : Nat} {retY : Option FieldType} {d' n index : Nat} {As rest st1 : List Value} (hM : zb_Met y (.code y bytes maxL retY) d' mc ms D U b L xs As ws (zz_ok v0 w1) zz_noth) (hdg : decode cc pc = .ok (.invokestatic index, 3)) (hst : st = As.reverse ++ rest)
    (w2 : zz_g (.methodLink own index y)) (wy : zz_YS y (.code y bytes maxL retY) n) (hn : As.length = n) (hd : d' + 1 ≤ d) (hmx : maxL ≤ 17) (hw : (rest.map fun v => v.category).sum ≤ 8) (hc1 : cells + mc ≤ R.cells) (hs1 : slots + ms ≤ R.slots) (hv : v0.toList ++ rest = st1)
    (k : zz_Z p l e R s m args below meth c Q D A nL (cells + mc) (slots + ms) w1 (pc + 3) lv st1) : zz_Z p l e R s m args below meth c Q D A nL cells slots ws pc lv st := by
  subst hst
  subst hv
  intro H locs ls hP hD hS hl
  obtain ⟨y1, y3, y4, y5⟩ := wy
  have S : CallFix p m c cc nL s args [] own := ⟨C.x, C.b, C.ml, C.ow, fun _ h => nomatch h⟩
  have hpre : PreS s H (zb_Pc D U b L xs As ws H.size) As := ⟨zb_blind, zb_pre C hX hbl hbA As hP hD hS⟩
  exact zz_back (vx_runS S (hM l H.size C.tr) ⟨zz_callB C w2 y3 y4 y5 hd hmx, C.w y1⟩ hpre rfl hn hl.1 rfl (lv_room hw) hdg ⟨hc1, hs1⟩) hS (zz_in C hD hS) (fun v ws' hv H1 locs1 hP1 hD1 hS1 => by obtain ⟨rfl, rfl⟩ := hv; exact k H1 locs1 ls hP1 hD1 hS1 hl) (fun E ws' hv H1 locs1 q ce hP1 hD1 hS1 h1 h2 h3 => False.elim hv)
/-- the script, which no cell of the world is -/
theorem zz_sld (C : zz_C p l R s m meth c D U A own cc nL ret hh d) {b L : Nat} {xs : Nat → Int32} (hX : va_X b L xs s s.heap) (hbl : b < s.heap.size) (hbA : ¬ A b) {i x : Int32} (hdg : decode cc pc = .ok (.iaload, 1)) (h : zz_ga xs L i = some x) (k : zz_Z p l e R s m args below meth c Q D A nL cells slots ws (pc + 1) lv (.int x :: st)) : zz_Z p l e R s m args below meth c Q D A nL cells slots ws pc lv (.int i :: .ref b :: st) :=
  fun H locs ls hP hD hS hl => va_sld C.x C.b hX hbl hbA hS (zz_ga_in h).1 hdg (by rw [(zz_ga_in h).2]; exact k H locs ls hP hD hS hl)
theorem zz_slen (C : zz_C p l R s m meth c D U A own cc nL ret hh d) {b L : Nat} {xs : Nat → Int32} (hX : va_X b L xs s s.heap) (hbl : b < s.heap.size) (hbA : ¬ A b) (hdg : decode cc pc = .ok (.arraylength, 1)) (k : zz_Z p l e R s m args below meth c Q D A nL cells slots ws (pc + 1) lv (.int (Int32.ofNat L) :: st)) : zz_Z p l e R s m args below meth c Q D A nL cells slots ws pc lv (.ref b :: st) :=
  fun H locs ls hP hD hS hl => va_slen C.x C.b hX hbl hbA hS hdg (k H locs ls hP hD hS hl)
/-- new cells -/
theorem zz_new (C : zz_C p l R s m meth c D U A own cc nL ret hh d) {N ci index : Nat} {Ck : String} {T : u_T} {fs : List Value} {ty : Nat → FieldType} (hdg : decode cc pc = .ok (.new index, 3)) (hc : zcl[ci]? = some (Ck, T, N)) (hin : ∀ w ∈ u_ws Ck T N, w ∈ lw_tbl) (hg : (u_ws Ck T N).all goodWord = true) (hty : ∀ k, k < N → parseFieldDescriptor (T k).2.2.1 = some (ty k)) (w1 : zz_g (.classLink own index Ck)) (w2 : zz_g (.instantiable Ck N)) (w3 : zz_g (.initialized Ck)) (hfs : ∀ j, j < N → defaultValue (ty j) = vp_V fs j) (hcells : cells + 1 ≤ R.cells) (hslots : slots + N ≤ R.slots)
    (k : ∀ q : Nat, zz_Z p l e R s m args below meth c Q D A nL (cells + 1) (slots + N) (ws ++ [(q, .inr (ci, fs))]) (pc + 3) lv (.ref q :: st)) : zz_Z p l e R s m args below meth c Q D A nL cells slots ws pc lv st :=
  fun H locs ls hP hD hS hl => va_new (Ts := u_ws Ck T N) C.x C.b (zz_ws C hin hg) (fun _ h => h) ty hty C.ow (C.w w1) (C.w w2) (C.w w3) C.K hP hD hS C.hA hc hfs hcells hslots hdg (fun q H1 hP1 hD1 hS1 => k q H1 locs ls hP1 hD1 hS1 hl)
theorem zz_cls {C' : ClassId} {ty : FieldType} {t0 : Nat} {cA : ClassId} (hK : va_K D zcl (zz_tys U) s) (h0 : (zz_tys U)[t0]? = some (cA, ty)) (hK1 : va_K D zcl (zz_tys U ++ [(C', ty)]) s) (hno : ∀ n, ty ≠ .object n) : C' = cA := by
  have h1 := (hK.2 t0 _ h0).2
  have h2 := (hK1.2 2 (C', ty) rfl).2
  cases ty with
  | object n => exact absurd rfl (hno n)
  | _ => exact Option.some.inj (h2.symm.trans h1)
theorem zz_newi (C : zz_C p l R s m meth c D U A own cc nL ret hh d) {n : Int32} {N : Nat} (hdg : decode cc pc = .ok (.newarray .int, 2)) (w : zz_g (.arrayClass .int)) (hn : ¬ n < 0) (hN : n.toNatClampNeg = N) (hb : N * 4 ≤ 536870912) (hcells : cells + 1 ≤ R.cells) (hslots : slots + N ≤ R.slots)
    (k : ∀ q : Nat, zz_Z p l e R s m args below meth c Q D A nL (cells + 1) (slots + N) (ws ++ [(q, .inl (U.1, N, .inl (fun _ => 0)))]) (pc + 2) lv (.ref q :: st)) : zz_Z p l e R s m args below meth c Q D A nL cells slots ws pc lv (.int n :: st) := by
  intro H locs ls hP hD hS hl
  refine va_newa (atype := .int) (ty := .int) (a0 := (N, .inl (fun _ => 0))) C.x C.b (C.w w) rfl C.K hP hD hS C.hA (fun cA => rfl) hn hN hb hcells hslots hdg (fun q cA H1 hK1 hP1 hD1 hS1 => ?_)
  have e := zz_cls (t0 := 0) C.K rfl hK1 (fun n h => by cases h)
  subst e
  exact k q H1 locs ls hP1 hD1 hS1 hl
theorem zz_mna (C : zz_C p l R s m meth c D U A own cc nL ret hh d) {n k : Int32} {N K index : Nat} (hdg : decode cc pc = .ok (.multianewarray index 2, 4)) (w1 : zz_g (.classLink own index "[[I")) (hO : va_AOA .int s) (w2 : zz_g (.arrayClass .int)) (hn : ¬ n < 0) (hk : ¬ k < 0) (hN : n.toNatClampNeg = N) (hK' : k.toNatClampNeg = K) (hb1 : N * 4 ≤ 536870912) (hb2 : K * 4 ≤ 536870912) (hb3 : K ≤ 536870912) (hcells : cells + (1 + N) ≤ R.cells) (hslots : slots + (N + N * K) ≤ R.slots)
    (kk : ∀ (q : Nat) (r : Nat → Nat), zz_Z p l e R s m args below meth c Q D A nL (cells + 1 + N) (slots + N + N * K) ((ws ++ [(q, .inl (U.2.2.2, N, .inr (.inr (.inr (.inr (fun i => if i < N then some (r i) else none))))))]) ++ (List.range N).map (fun i => (r i, .inl (U.1, K, .inl (fun _ => 0))))) (pc + 4) lv (.ref q :: st)) : zz_Z p l e R s m args below meth c Q D A nL cells slots ws pc lv (.int k :: .int n :: st) := by
  intro H locs ls hP hD hS hl
  refine va_mna (X := ws) (L := []) (f := fun _ => .inr (0, [])) (ty := .int) (own := own) (cy := U.1) (z := (K, .inl (fun _ => 0))) C.x C.b C.ow (C.w w1) hO (C.w w2) (C.K.2 0 _ rfl).2 C.K (by rw [show va_pl [] (fun _ => (.inr (0, []) : va_E)) = [] from rfl, List.append_nil]; exact hP) (by rw [show va_pl [] (fun _ => (.inr (0, []) : va_E)) = [] from rfl, List.append_nil]; exact hD) hS C.hA hn hk hN hK' hb1 hb2 hb3 rfl rfl hcells hslots (fun c => by show ({ cls := c, slots := Array.replicate K (.int 0), vm := .none } : Cell) = _; rw [arrV_new]; rfl) hdg (fun q r cA H1 hinj _ hK1 hP1 hD1 hS1 => ?_)
  have e := zz_cls (t0 := 1) C.K rfl hK1 (fun n h => by cases h)
  subst e
  have e2 : va_pl ([] ++ (List.range N).map r) (vr_up (fun _ => (.inr (0, []) : va_E)) ((List.range N).map r) (.inl (U.1, K, .inl (fun _ => 0)))) = (List.range N).map (fun i => (r i, .inl (U.1, K, .inl (fun _ => 0)))) := by
    rw [List.nil_append]
    unfold va_pl
    rw [List.map_map]
    apply List.map_congr_left
    intro i hi
    show (r i, _) = _
    rw [vr_up_in (List.mem_map.mpr ⟨i, hi, rfl⟩)]
  rw [e2] at hP1 hD1
  exact kk q r H1 locs ls hP1 hD1 hS1 hl
/-- the law's own arrays, behind the class's cells -/
theorem zx_ld (q0 : Nat) (C : zz_C p l R s m meth c D U A own cc nL ret hh d) {a n : Nat} {f : Nat → Int32} {i x : Int32} (hdg : decode cc pc = .ok (.iaload, 1)) (ha : ws[q0]? = some (a, .inl (U.1, n, .inl f))) (h : zz_ga f n i = some x) (k : zz_Z p l e R s m args below meth c Q D A nL cells slots ws (pc + 1) lv (.int x :: st)) : zz_Z p l e R s m args below meth c Q D A nL cells slots ws pc lv (.int i :: .ref a :: st) :=
  zz_iald C q0 hdg ha (zz_ga_in h).1 (by rw [(zz_ga_in h).2]; exact k)
theorem zx_st (q0 : Nat) (C : zz_C p l R s m meth c D U A own cc nL ret hh d) {a n : Nat} {f f1 : Nat → Int32} {i x : Int32} {ws1 : va_W} (hdg : decode cc pc = .ok (.iastore, 1)) (ha : ws[q0]? = some (a, .inl (U.1, n, .inl f))) (h : zx_pa f n i x = some f1) (hws : ws.set q0 (a, .inl (U.1, n, .inl f1)) = ws1) (k : zz_Z p l e R s m args below meth c Q D A nL cells slots ws1 (pc + 1) lv st) : zz_Z p l e R s m args below meth c Q D A nL cells slots ws pc lv (.int x :: .int i :: .ref a :: st) :=
  zz_iast C q0 hdg ha (zx_pa_in h).1 (by rw [(zx_pa_in h).2]; exact hws) k
theorem zx_cut (k n pc1 : Nat) (lv1 : List (Nat × Value)) (st1 : List Value) (ws1 : va_W) (h1 : zz_Z p l e R s m args below meth c Q D A nL k n ws1 pc1 lv1 st1) (h2 : zz_Z p l e R s m args below meth c Q D A nL k n ws1 pc1 lv1 st1 → zz_Z p l e R s m args below meth c Q D A nL cells slots ws pc lv st) : zz_Z p l e R s m args below meth c Q D A nL cells slots ws pc lv st := h2 h1
theorem zx_cutI {P : Prop} (k n pc1 : Nat) (lv1 : List (Nat × Value)) (st1 : List Value) (ws1 : va_W) (h1 : P → zz_Z p l e R s m args below meth c Q D A nL k n ws1 pc1 lv1 st1) (h2 : (P → zz_Z p l e R s m args below meth c Q D A nL k n ws1 pc1 lv1 st1) → zz_Z p l e R s m args below meth c Q D A nL cells slots ws pc lv st) : zz_Z p l e R s m args below meth c Q D A nL cells slots ws pc lv st := h2 h1
/-- the last cell of the world is told no more -/
theorem zx_cutw {w x : va_W} (k : zz_Z p l e R s m args below meth c Q D A nL cells slots w pc lv st) : zz_Z p l e R s m args below meth c Q D A nL cells slots (w ++ x) pc lv st := by
  have h : ∀ (k : Nat) (q : Nat × va_E), w[k]? = some q → (w ++ x)[k]? = some q := fun k q hk => by
    rw [List.getElem?_append_left (List.getElem?_eq_some_iff.mp hk).1]; exact hk
  intro H locs ls hP hD hS hl
  exact k H locs ls (fun k q hk => hP k q (h k q hk)) ⟨fun i j p q h1 h2 => hD.1 i j p q (h i p h1) (h j q h2), fun k q hk => hD.2 k q (h k q hk)⟩ hS hl
theorem zx_app {ad : Nat → Nat} {σ : zz_St} {X : va_W} {y : Nat × va_E} : zz_wc U ad σ X ++ [y] = zz_wc U ad σ (X ++ [y]) := by unfold zz_wc; rw [List.append_assoc]
theorem zx_drop {ad : Nat → Nat} {σ : zz_St} (X : va_W) (y : Nat × va_E) (k : zz_Z p l e R s m args below meth c Q D A nL cells slots (zz_wc U ad σ X) pc lv st) : zz_Z p l e R s m args below meth c Q D A nL cells slots (zz_wc U ad σ (X ++ [y])) pc lv st := by
  rw [← zx_app]
  exact zx_cutw k
theorem zx_aret {Ψ : Option Value → va_W → Prop} {ΨX : String → va_W → Prop} (C : zz_C p l R s m meth c D U A own cc nL (some (.array .int)) hh d) {q : Nat} (hdg : decode cc pc = .ok (.areturn, 1)) (hΨ : Ψ (some (.ref q)) ws) (hc : cells ≤ mc) (hs : slots ≤ ms) : zz_Z p l e R s m args below meth c (vx_MQ below (zz_Qc D A Ψ) (zz_XC D A ΨX) args s mc ms A) D A nL cells slots ws pc lv [.ref q] :=
  fun H locs ls hP hD hS hl => W.widen hc hs (vx_ret (W.aret C.x C.b C.r (Or.inr ⟨_, rfl⟩) (Or.inr ⟨_, rfl⟩) (fun t ht hW => ⟨⟨_, _, rfl, hΨ, by rw [ht]; exact hP, hD⟩, hS.F ht⟩) hS.2.2 hdg C.lk))
end ZH
theorem zx_ai : zz_g (.arrayClass .int) := ⟨by decide +kernel, by decide +kernel⟩
