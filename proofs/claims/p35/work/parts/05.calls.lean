/-! ===== contracts in one form, calls, ends, throws ===== -/
abbrev zz_g (w : Cond) : Prop := w ∈ lw_tbl ∧ goodWord w = true
/-- a method's start: its arguments, the world, the tables -/
def zz_Pc (D : va_G) (U : zz_U) (as : List Value) (ws : va_W) (sz : Nat) : Array Value → State → Prop := va_Pc as (fun V => V.heap.size = sz ∧ va_P D zcl ws V.heap ∧ va_K D zcl (zz_tys U) V ∧ va_D (fun _ => True) ws ∧ zz_F V ∧ zz_S (va_A ws sz) V V.heap)
def zz_Qc (D : va_G) (A : Nat → Prop) (Ψ : Option Value → va_W → Prop) : Array Value → State → Outcome → State → Prop := fun _ st o t => (∃ (v : Option Value) (ws' : va_W), o = .returned v ∧ Ψ v ws' ∧ va_P D zcl ws' t.heap ∧ va_D A ws') ∧ va_F A st t
def zz_XC (D : va_G) (A : Nat → Prop) (ΨX : String → va_W → Prop) : String → State → State → Prop := fun E st t => (∃ ws' : va_W, ΨX E ws' ∧ va_P D zcl ws' t.heap ∧ va_D A ws') ∧ va_F A st t
/-- the contract of a method at its arguments and its world -/
def zz_Met (y : MethodName) (w0 : Cond) (d mc ms : Nat) (D : va_G) (U : zz_U) (as : List Value) (ws : va_W) (Ψ : Option Value → va_W → Prop) (ΨX : String → va_W → Prop) : Prop :=
  ∀ (l : Launch) (sz : Nat), l.stackTraces = false → vx_Met l y [w0] ({ frames := d, cells := mc, slots := ms, locals := 36 * d } : Room) (zz_Pc D U as ws sz) (zz_Qc D (va_A ws sz) Ψ) (zz_XC D (va_A ws sz) ΨX) mc ms (va_A ws sz)
theorem zz_blind {D : va_G} {U : zz_U} {as : List Value} {ws : va_W} {sz : Nat} : FrameBlind (zz_Pc D U as ws sz) := by
  intro a V g mk q
  obtain ⟨q0, q1, qP, qK, qD, qF, qS⟩ := q
  exact ⟨q0, q1, qP, va_K.moved (u := V) (U := V.calling g mk a) (Vm.Alike.refl V.vm) qK, qD, zz_F.same (u := V) (V := V.calling g mk a) rfl qF, ⟨vx_Zq.moved (u := V) (U := V.calling g mk a) (Vm.Alike.refl V.vm) qS.1, vx_Zq.moved (u := V) (U := V.calling g mk a) (Vm.Alike.refl V.vm) qS.2⟩⟩
theorem zz_Met.noX {y : MethodName} {w0 : Cond} {d mc ms : Nat} {D : va_G} {U : zz_U} {as : List Value} {ws : va_W} {Ψ : Option Value → va_W → Prop} {ΨX : String → va_W → Prop} (h : zz_Met y w0 d mc ms D U as ws Ψ ΨX) (hX : ∀ E w, ¬ ΨX E w) {l : Launch} {sz : Nat} (hl : l.stackTraces = false) :
    Met l y [w0] ({ frames := d, cells := mc, slots := ms, locals := 36 * d } : Room) (zz_Pc D U as ws sz) (zz_Qc D (va_A ws sz) Ψ) mc ms (va_A ws sz) := by
  intro p e ha hc hk s m args below hf happ hP hK
  obtain ⟨n, o, h1, h2, h3, h4⟩ := h l sz hl p e ha hc hk s m args below hf happ hP hK
  refine ⟨n, o, h1, h2, h3, ?_⟩
  rcases h4 with h4 | ⟨q, -, E, ce, L, hx, -⟩
  · exact h4
  · obtain ⟨⟨w, hw, -⟩, -⟩ := hx
    exact absurd hw (hX E w)
section ZY
variable {p : Program} {l : Launch} {e : Env} {R : Room} {s : State} {m : MethodId} {args : Array Value} {below : List Frame} {meth : Method} {c : Code} {Q : State → Prop} {D : va_G} {U : zz_U} {A : Nat → Prop} {own : String} {cc : ByteArray} {nL d cells slots pc : Nat} {ret : Option FieldType} {hh : List (Nat × Nat × Nat × Nat)} {lv : List (Nat × Value)} {st : List Value} {ws : va_W}
variable {Ψ : Option Value → va_W → Prop} {ΨX : String → va_W → Prop} {mc ms : Nat}
theorem zz_in (C : zz_C p l R s m meth c D U A own cc nL ret hh d) {H : Heap} {locs : List Loc} (hD : va_D A ws) (hS : va_S A s.heap H locs) : ∀ q, va_A ws H.size q → A q := by
  intro q h
  rcases h with ⟨k, e, h⟩ | h
  · exact hD.2 k (q, e) h
  · exact C.hA q (Nat.le_trans hS.1 h)
theorem zz_pre (C : zz_C p l R s m meth c D U A own cc nL ret hh d) {H : Heap} {locs : List Loc} (as : List Value) (hP : va_P D zcl ws H) (hD : va_D A ws) (hS : va_S A s.heap H locs) : ∀ V : State, V.heap = H → s.WarmedH V.vm → zz_Pc D U as ws H.size as.toArray V := by
  intro V hV hW
  have hin := zz_in C hD hS
  refine ⟨rfl, by rw [hV], by rw [hV]; exact hP, va_K.moved hW.alike C.K, hD.weaken (fun _ _ _ _ => trivial), C.F.warm hW, ?_⟩
  rw [hV]
  exact ⟨vx_Zq.moved hW.alike (vx_Zq.narrow (vx_Zq.kept C.S.1 (fun q h1 h2 => hS.2.1 q h1 h2)) hin), vx_Zq.moved hW.alike (vx_Zq.narrow (vx_Zq.kept C.S.2 (fun q h1 h2 => hS.2.1 q h1 h2)) hin)⟩
/-- behind a call -/
theorem zz_back {H : Heap} {locs : List Loc} {ls : Array Slot} {st0 rest : List Value} {a : Array Value} {A1 : Nat → Prop} (hr : vx_Run p l e R s m args below meth c H locs cells slots mc ms (F0 m pc ls st0) rest (zz_Qc D A1 Ψ a) (zz_XC D A1 ΨX) A1) (hS : va_S A s.heap H locs) (hA1 : ∀ q, A1 q → A q)
    (kk : ∀ (v : Option Value) (ws' : va_W), Ψ v ws' → ∀ (H1 : Heap) (locs1 : List Loc), va_P D zcl ws' H1 → va_D A ws' → va_S A s.heap H1 locs1 → W p l e R s m args below meth c H1 locs1 (cells + mc) (slots + ms) Q (F0 m (pc + 3) ls (v.toList ++ rest)))
    (kx : ∀ (E : String) (ws' : va_W), ΨX E ws' → ∀ (H1 : Heap) (locs1 : List Loc) (q : Addr) (ce : Cell), va_P D zcl ws' H1 → va_D A ws' → va_S A s.heap H1 locs1 → H1[q]? = some ce → ce.vm = .none → s.vm.findClass E = some ce.cls → vx_W p l e R s m args below meth c H1 locs1 (cells + mc) (slots + ms) Q (F0 m pc ls rest) q) :
    W p l e R s m args below meth c H locs cells slots Q (F0 m pc ls st0) := by
  intro T hT X
  rcases hr T hT X with ⟨v, st₀, t, T', L, h0, X', hL, e1, e2, ⟨⟨v', ws', hv, hΨ, hP', hD'⟩, hF⟩, st⟩ | ⟨q, st₀, t, T', L, E, ce, h0, X', hL, e1, e2, ⟨⟨ws', hΨ, hP', hD'⟩, hF⟩, hce, hcv, hcl, st⟩
  · cases hv
    obtain ⟨k1, k2, k3⟩ := vx_keep h0 e1 hS (fun q _ h => hA1 q h) hA1 hL hF
    obtain ⟨t2, a1, b1⟩ := kk v ws' hΨ T'.heap (locs ++ L) (by rw [e1]; exact hP') (hD'.weaken (fun _ q _ h => hA1 q.1 h)) k3 T' rfl X'
    exact ⟨t2, st t2 a1, b1⟩
  · obtain ⟨k1, k2, k3⟩ := vx_keep h0 e1 hS (fun q _ h => hA1 q h) hA1 hL hF
    obtain ⟨t2, a1, b1⟩ := kx E ws' hΨ T'.heap (locs ++ L) q ce (by rw [e1]; exact hP') (hD'.weaken (fun _ q _ h => hA1 q.1 h)) k3 (by rw [e1]; exact hce) hcv hcl T' rfl X'
    exact ⟨t2, st.trans a1, b1⟩
theorem zz_backN {H : Heap} {locs : List Loc} {ls : Array Slot} {st0 rest : List Value} {a : Array Value} {A1 : Nat → Prop} (hr : va_Run p l e R s m args below meth c H locs cells slots mc ms (F0 m pc ls st0) rest (zz_Qc D A1 Ψ a) A1) (hS : va_S A s.heap H locs) (hA1 : ∀ q, A1 q → A q)
    (kk : ∀ (v : Option Value) (ws' : va_W), Ψ v ws' → ∀ (H1 : Heap) (locs1 : List Loc), va_P D zcl ws' H1 → va_D A ws' → va_S A s.heap H1 locs1 → W p l e R s m args below meth c H1 locs1 (cells + mc) (slots + ms) Q (F0 m (pc + 3) ls (v.toList ++ rest))) :
    W p l e R s m args below meth c H locs cells slots Q (F0 m pc ls st0) := by
  intro T hT X
  obtain ⟨v, st₀, t, T', L, h0, X', hL, e1, e2, ⟨⟨v', ws', hv, hΨ, hP', hD'⟩, hF⟩, st⟩ := hr T hT X
  cases hv
  obtain ⟨k1, k2, k3⟩ := vx_keep h0 e1 hS (fun q _ h => hA1 q h) hA1 hL hF
  obtain ⟨t2, a1, b1⟩ := kk v ws' hΨ T'.heap (locs ++ L) (by rw [e1]; exact hP') (hD'.weaken (fun _ q _ h => hA1 q.1 h)) k3 T' rfl X'
  exact ⟨t2, st t2 a1, b1⟩
/-- a method's own words: instance, static -/
def zz_YV (y : MethodName) (w0 : Cond) (n : Nat) : Prop := zz_g (.instanceMethod y) ∧ zz_g (.selects y.cls y y) ∧ zz_g w0 ∧ zz_g (.initialized y.cls) ∧ y.cls ≠ "java/lang/invoke/MethodHandle" ∧ y.cls ≠ "java/lang/invoke/VarHandle" ∧ (parseMethodDescriptor y.desc).map (fun d => d.parameters.length) = some n
def zz_YS (y : MethodName) (w0 : Cond) (n : Nat) : Prop := zz_g (.static y) ∧ zz_g w0 ∧ zz_g (.initialized y.cls) ∧ y.cls ≠ "java/lang/invoke/MethodHandle" ∧ y.cls ≠ "java/lang/invoke/VarHandle" ∧ (parseMethodDescriptor y.desc).map (fun d => d.parameters.length) = some n
def zz_YI (y : MethodName) (w0 : Cond) (n : Nat) : Prop := zz_g (.instanceMethod y) ∧ zz_g w0 ∧ zz_g (.initialized y.cls) ∧ y.cls ≠ "java/lang/invoke/MethodHandle" ∧ y.cls ≠ "java/lang/invoke/VarHandle" ∧ (parseMethodDescriptor y.desc).map (fun d => d.parameters.length) = some n
theorem zz_callB (C : zz_C p l R s m meth c D U A own cc nL ret hh d) {y : MethodName} {bytes : ByteArray} {maxL : Nat} {retY : Option FieldType} {d' n index : Nat} (w1 : zz_g (.methodLink own index y)) (w0 : zz_g (.code y bytes maxL retY)) (wi : zz_g (.initialized y.cls)) (hm : y.cls ≠ "java/lang/invoke/MethodHandle" ∧ y.cls ≠ "java/lang/invoke/VarHandle" ∧ (parseMethodDescriptor y.desc).map (fun d => d.parameters.length) = some n) (hd : d' + 1 ≤ d) (hmx : maxL ≤ 17) :
    CallB R s args own index y bytes maxL retY [.code y bytes maxL retY] ({ frames := d', cells := mc, slots := ms, locals := 36 * d' } : Room) mc ms n := by
  have h1 := C.fr
  have h2 := C.lo
  refine ⟨rfl, rfl, by show d' + 1 ≤ _; omega, by show 8 + (maxL + 11) + 36 * d' ≤ _; omega, fun w hw a' V hW => ?_, List.mem_cons_self, C.w w0, C.w wi, ⟨hm.1, hm.2.1⟩, fun sig h => ?_, C.w w1⟩
  · rw [List.mem_singleton] at hw
    subst hw
    exact word_at (args := a') hW (good_of_word w0.2) (C.w w0)
  · have h9 := hm.2.2
    rw [h] at h9
    exact (Option.some.inj h9).symm
theorem zz_callV (C : zz_C p l R s m meth c D U A own cc nL ret hh d) {y : MethodName} {bytes : ByteArray} {maxL : Nat} {retY : Option FieldType} {d' n index b ci N : Nat} {T : u_T} {fs As rest : List Value} (q0 : Nat) (hM : zz_Met y (.code y bytes maxL retY) d' mc ms D U (.ref b :: As) ws Ψ ΨX) (hdg : decode cc pc = .ok (.invokevirtual index, 3)) (hst : st = As.reverse ++ .ref b :: rest)
    (he : ws[q0]? = some (b, .inr (ci, fs))) (hc : zcl[ci]? = some (y.cls, T, N)) (w1 : zz_g (.methodLink own index y)) (wy : zz_YV y (.code y bytes maxL retY) n) (hn : As.length = n) (hd : d' + 1 ≤ d) (hmx : maxL ≤ 17) (hw : (rest.map fun v => v.category).sum ≤ 8) (hc1 : cells + mc ≤ R.cells) (hs1 : slots + ms ≤ R.slots)
    (kk : ∀ (v : Option Value) (ws' : va_W), Ψ v ws' → zz_Z p l e R s m args below meth c Q D A nL (cells + mc) (slots + ms) ws' (pc + 3) lv (v.toList ++ rest))
    (kx : ∀ (E : String) (ws' : va_W), ΨX E ws' → zz_X p l e R s m args below meth c Q D A nL (cells + mc) (slots + ms) ws' pc lv rest E) : zz_Z p l e R s m args below meth c Q D A nL cells slots ws pc lv st := by
  subst hst
  intro H locs ls hP hD hS hl
  obtain ⟨y1, y2, y3, y4, y5⟩ := wy
  have cw : CallW R s args own y.cls index y bytes maxL retY [.code y bytes maxL retY] ({ frames := d', cells := mc, slots := ms, locals := 36 * d' } : Room) mc ms n := ⟨zz_callB C w1 y3 y4 y5 hd hmx, C.w y1, C.w y2⟩
  have S : CallFix p m c cc nL s args [] own := ⟨C.x, C.b, C.ml, C.ow, fun _ h => nomatch h⟩
  have hpre : PreV s H y.cls b (zz_Pc D U (.ref b :: As) ws H.size) As := ⟨zz_blind, va_recv C.K hP hc he, zz_pre C (.ref b :: As) hP hD hS⟩
  exact zz_back (vx_runV S (hM l H.size C.tr) cw hpre rfl hn hl.1 rfl (lv_room hw) hdg ⟨hc1, hs1⟩) hS (zz_in C hD hS) (fun v ws' hv H1 locs1 hP1 hD1 hS1 => kk v ws' hv H1 locs1 ls hP1 hD1 hS1 hl) (fun E ws' hv H1 locs1 q ce hP1 hD1 hS1 h1 h2 h3 => kx E ws' hv H1 locs1 ls q ce hP1 hD1 hS1 hl h1 h2 h3)
theorem zz_callS (C : zz_C p l R s m meth c D U A own cc nL ret hh d) {y : MethodName} {bytes : ByteArray} {maxL : Nat} {retY : Option FieldType} {d' n index : Nat} {As rest : List Value} (hM : zz_Met y (.code y bytes maxL retY) d' mc ms D U As ws Ψ ΨX) (hdg : decode cc pc = .ok (.invokestatic index, 3)) (hst : st = As.reverse ++ rest)
    (w1 : zz_g (.methodLink own index y)) (wy : zz_YS y (.code y bytes maxL retY) n) (hn : As.length = n) (hd : d' + 1 ≤ d) (hmx : maxL ≤ 17) (hw : (rest.map fun v => v.category).sum ≤ 8) (hc1 : cells + mc ≤ R.cells) (hs1 : slots + ms ≤ R.slots)
    (kk : ∀ (v : Option Value) (ws' : va_W), Ψ v ws' → zz_Z p l e R s m args below meth c Q D A nL (cells + mc) (slots + ms) ws' (pc + 3) lv (v.toList ++ rest))
    (kx : ∀ (E : String) (ws' : va_W), ΨX E ws' → zz_X p l e R s m args below meth c Q D A nL (cells + mc) (slots + ms) ws' pc lv rest E) : zz_Z p l e R s m args below meth c Q D A nL cells slots ws pc lv st := by
  subst hst
  intro H locs ls hP hD hS hl
  obtain ⟨y1, y3, y4, y5⟩ := wy
  have S : CallFix p m c cc nL s args [] own := ⟨C.x, C.b, C.ml, C.ow, fun _ h => nomatch h⟩
  have hpre : PreS s H (zz_Pc D U As ws H.size) As := ⟨zz_blind, zz_pre C As hP hD hS⟩
  exact zz_back (vx_runS S (hM l H.size C.tr) ⟨zz_callB C w1 y3 y4 y5 hd hmx, C.w y1⟩ hpre rfl hn hl.1 rfl (lv_room hw) hdg ⟨hc1, hs1⟩) hS (zz_in C hD hS) (fun v ws' hv H1 locs1 hP1 hD1 hS1 => kk v ws' hv H1 locs1 ls hP1 hD1 hS1 hl) (fun E ws' hv H1 locs1 q ce hP1 hD1 hS1 h1 h2 h3 => kx E ws' hv H1 locs1 ls q ce hP1 hD1 hS1 hl h1 h2 h3)
/-- a private static method of a nest mate, which throws nothing -/
theorem zz_callSN (C : zz_C p l R s m meth c D U A own cc nL ret hh d) {y : MethodName} {bytes : ByteArray} {maxL : Nat} {retY : Option FieldType} {d' n index : Nat} {host : String} {As rest : List Value} (hM : zz_Met y (.code y bytes maxL retY) d' mc ms D U As ws Ψ ΨX) (hX : ∀ E w, ¬ ΨX E w) (hdg : decode cc pc = .ok (.invokestatic index, 3)) (hst : st = As.reverse ++ rest)
    (w1 : (own, index, y, host) ∈ zz_nest) (wy : zz_YS y (.code y bytes maxL retY) n) (hn : As.length = n) (hd : d' + 1 ≤ d) (hmx : maxL ≤ 17) (hw : (rest.map fun v => v.category).sum ≤ 8) (hc1 : cells + mc ≤ R.cells) (hs1 : slots + ms ≤ R.slots)
    (kk : ∀ (v : Option Value) (ws' : va_W), Ψ v ws' → zz_Z p l e R s m args below meth c Q D A nL (cells + mc) (slots + ms) ws' (pc + 3) lv (v.toList ++ rest)) : zz_Z p l e R s m args below meth c Q D A nL cells slots ws pc lv st := by
  subst hst
  intro H locs ls hP hD hS hl
  obtain ⟨y1, y3, y4, y5⟩ := wy
  have h1 := C.fr
  have h2 := C.lo
  have S : CallFix p m c cc nL s args [.code y bytes maxL retY] own := ⟨C.x, C.b, C.ml, C.ow, fun w h => by rw [List.mem_singleton] at h; subst h; exact C.w y3⟩
  have hpre : PreS s H (zz_Pc D U As ws H.size) As := ⟨zz_blind, zz_pre C As hP hD hS⟩
  have hG : GoodIn [.code y bytes maxL retY] [.code y bytes maxL retY] := fun w h => ⟨h, by rw [List.mem_singleton] at h; subst h; exact good_of_word y3.2⟩
  have cn : va_CN R s args own index y host bytes maxL retY [.code y bytes maxL retY] ({ frames := d', cells := mc, slots := ms, locals := 36 * d' } : Room) mc ms n := va_cnB (ws' := []) n S.2.2.2.2 hG rfl rfl rfl (C.F.2.1 _ w1) (C.w y4) y5 ⟨by show d' + 1 ≤ _; omega, by show 8 + (maxL + 11) + 36 * d' ≤ _; omega⟩
  exact zz_backN (va_runSN S (hM.noX hX C.tr) ⟨cn, C.w y1, trivial⟩ hpre rfl hn hl.1 rfl (lv_room hw) hdg ⟨hc1, hs1⟩) hS (zz_in C hD hS) (fun v ws' hv H1 locs1 hP1 hD1 hS1 => kk v ws' hv H1 locs1 ls hP1 hD1 hS1 hl)
/-- a constructor; of a nest mate -/
theorem zz_callI (C : zz_C p l R s m meth c D U A own cc nL ret hh d) {y : MethodName} {bytes : ByteArray} {maxL : Nat} {d' n index b : Nat} {As rest : List Value} (hM : zz_Met y (.code y bytes maxL none) d' mc ms D U (.ref b :: As) ws Ψ ΨX) (hX : ∀ E w, ¬ ΨX E w) (hdg : decode cc pc = .ok (.invokespecial index, 3)) (hst : st = As.reverse ++ .ref b :: rest) (hy1 : y.name = "<init>")
    (w1 : zz_g (.methodLink own index y)) (wy : zz_YI y (.code y bytes maxL none) n) (hn : As.length = n) (hd : d' + 1 ≤ d) (hmx : maxL ≤ 17) (hw : (rest.map fun v => v.category).sum ≤ 8) (hc1 : cells + mc ≤ R.cells) (hs1 : slots + ms ≤ R.slots)
    (kk : ∀ (v : Option Value) (ws' : va_W), Ψ v ws' → zz_Z p l e R s m args below meth c Q D A nL (cells + mc) (slots + ms) ws' (pc + 3) lv (v.toList ++ rest)) : zz_Z p l e R s m args below meth c Q D A nL cells slots ws pc lv st := by
  subst hst
  intro H locs ls hP hD hS hl
  obtain ⟨y1, y3, y4, y5⟩ := wy
  have S : CallFix p m c cc nL s args [] own := ⟨C.x, C.b, C.ml, C.ow, fun _ h => nomatch h⟩
  have hpre : PreS s H (zz_Pc D U (.ref b :: As) ws H.size) (.ref b :: As) := ⟨zz_blind, zz_pre C (.ref b :: As) hP hD hS⟩
  exact zz_backN (va_runI S (hM.noX hX C.tr) ⟨zz_callB C w1 y3 y4 y5 hd hmx, hy1, C.w y1⟩ hpre rfl hn hl.1 rfl (lv_room hw) hdg ⟨hc1, hs1⟩) hS (zz_in C hD hS) (fun v ws' hv H1 locs1 hP1 hD1 hS1 => kk v ws' hv H1 locs1 ls hP1 hD1 hS1 hl)
theorem zz_callIN (C : zz_C p l R s m meth c D U A own cc nL ret hh d) {y : MethodName} {bytes : ByteArray} {maxL : Nat} {d' n index b : Nat} {host : String} {As rest : List Value} (hM : zz_Met y (.code y bytes maxL none) d' mc ms D U (.ref b :: As) ws Ψ ΨX) (hX : ∀ E w, ¬ ΨX E w) (hdg : decode cc pc = .ok (.invokespecial index, 3)) (hst : st = As.reverse ++ .ref b :: rest) (hy1 : y.name = "<init>")
    (w1 : (own, index, y, host) ∈ zz_nest) (wy : zz_YI y (.code y bytes maxL none) n) (hn : As.length = n) (hd : d' + 1 ≤ d) (hmx : maxL ≤ 17) (hw : (rest.map fun v => v.category).sum ≤ 8) (hc1 : cells + mc ≤ R.cells) (hs1 : slots + ms ≤ R.slots)
    (kk : ∀ (v : Option Value) (ws' : va_W), Ψ v ws' → zz_Z p l e R s m args below meth c Q D A nL (cells + mc) (slots + ms) ws' (pc + 3) lv (v.toList ++ rest)) : zz_Z p l e R s m args below meth c Q D A nL cells slots ws pc lv st := by
  subst hst
  intro H locs ls hP hD hS hl
  obtain ⟨y1, y3, y4, y5⟩ := wy
  have h1 := C.fr
  have h2 := C.lo
  have S : CallFix p m c cc nL s args [.code y bytes maxL none] own := ⟨C.x, C.b, C.ml, C.ow, fun w h => by rw [List.mem_singleton] at h; subst h; exact C.w y3⟩
  have hpre : PreS s H (zz_Pc D U (.ref b :: As) ws H.size) (.ref b :: As) := ⟨zz_blind, zz_pre C (.ref b :: As) hP hD hS⟩
  have hG : GoodIn [.code y bytes maxL none] [.code y bytes maxL none] := fun w h => ⟨h, by rw [List.mem_singleton] at h; subst h; exact good_of_word y3.2⟩
  have cn : va_CN R s args own index y host bytes maxL none [.code y bytes maxL none] ({ frames := d', cells := mc, slots := ms, locals := 36 * d' } : Room) mc ms n := va_cnB (ws' := []) n S.2.2.2.2 hG rfl rfl rfl (C.F.2.1 _ w1) (C.w y4) y5 ⟨by show d' + 1 ≤ _; omega, by show 8 + (maxL + 11) + 36 * d' ≤ _; omega⟩
  exact zz_backN (va_runIN S (hM.noX hX C.tr) ⟨cn, hy1, C.w y1⟩ hpre rfl hn hl.1 rfl (lv_room hw) hdg ⟨hc1, hs1⟩) hS (zz_in C hD hS) (fun v ws' hv H1 locs1 hP1 hD1 hS1 => kk v ws' hv H1 locs1 ls hP1 hD1 hS1 hl)
/-- Object.<init> -/
theorem zz_objInit (C : zz_C p l R s m meth c D U A own cc nL ret hh d) {index a : Nat} {rest : List Value} (hdg : decode cc pc = .ok (.invokespecial index, 3)) (w1 : zz_g (.methodLink own index Lib.objectInit)) (w2 : zz_g (.instanceMethod Lib.objectInit)) (w3 : zz_g (.code Lib.objectInit ⟨#[0xb1]⟩ 1 none)) (hd : 1 ≤ d) (hw : (rest.map fun v => v.category).sum ≤ 8) (k : zz_Z p l e R s m args below meth c Q D A nL cells slots ws (pc + 3) lv rest) : zz_Z p l e R s m args below meth c Q D A nL cells slots ws pc lv (.ref a :: rest) := by
  intro H locs ls hP hD hS hl
  have h1 := C.fr
  have h2 := C.lo
  refine W.objInit C.x C.b C.ow (C.w w1) (C.w w2) (C.w w3) rfl (by rw [C.ml]; exact hl.1) rfl hdg (by omega) ?_ (k H locs ls hP hD hS hl)
  show 2 * (F0 m pc ls rest).monitorRoom + _ + 12 ≤ _
  have h3 := lv_room (m := m) (pc := pc) (ls := ls) (rest := rest) hw
  omega
/-- ends -/
theorem zz_iret (C : zz_C p l R s m meth c D U A own cc nL (some .int) hh d) {v : Int32} (hdg : decode cc pc = .ok (.ireturn, 1)) (hΨ : Ψ (some (.int v)) ws) (hc : cells ≤ mc) (hs : slots ≤ ms) : zz_Z p l e R s m args below meth c (vx_MQ below (zz_Qc D A Ψ) (zz_XC D A ΨX) args s mc ms A) D A nL cells slots ws pc lv [.int v] :=
  fun H locs ls hP hD hS hl => W.widen hc hs (vx_ret (W.iret C.x C.b C.r (fun t ht hW => ⟨⟨_, _, rfl, hΨ, by rw [ht]; exact hP, hD⟩, hS.F ht⟩) hS.2.2 hdg C.lk))
theorem zz_zret (C : zz_C p l R s m meth c D U A own cc nL (some .boolean) hh d) {v : Int32} (hdg : decode cc pc = .ok (.ireturn, 1)) (hv : v = 0 ∨ v = 1) (hΨ : Ψ (some (.int v)) ws) (hc : cells ≤ mc) (hs : slots ≤ ms) : zz_Z p l e R s m args below meth c (vx_MQ below (zz_Qc D A Ψ) (zz_XC D A ΨX) args s mc ms A) D A nL cells slots ws pc lv [.int v] :=
  fun H locs ls hP hD hS hl => W.widen hc hs (vx_ret (W.zret C.x C.b C.r (by rcases hv with rfl | rfl <;> rfl) (fun t ht hW => ⟨⟨_, _, rfl, hΨ, by rw [ht]; exact hP, hD⟩, hS.F ht⟩) hS.2.2 hdg C.lk))
theorem zz_lret (C : zz_C p l R s m meth c D U A own cc nL (some .long) hh d) {v : Int64} (hdg : decode cc pc = .ok (.lreturn, 1)) (hΨ : Ψ (some (.long v)) ws) (hc : cells ≤ mc) (hs : slots ≤ ms) : zz_Z p l e R s m args below meth c (vx_MQ below (zz_Qc D A Ψ) (zz_XC D A ΨX) args s mc ms A) D A nL cells slots ws pc lv [.long v] :=
  fun H locs ls hP hD hS hl => W.widen hc hs (vx_ret (W.lret C.x C.b C.r (fun t ht hW => ⟨⟨_, _, rfl, hΨ, by rw [ht]; exact hP, hD⟩, hS.F ht⟩) hS.2.2 hdg C.lk))
theorem zz_dret (C : zz_C p l R s m meth c D U A own cc nL (some .double) hh d) {v : UInt64} (hdg : decode cc pc = .ok (.dreturn, 1)) (hΨ : Ψ (some (.double v)) ws) (hc : cells ≤ mc) (hs : slots ≤ ms) : zz_Z p l e R s m args below meth c (vx_MQ below (zz_Qc D A Ψ) (zz_XC D A ΨX) args s mc ms A) D A nL cells slots ws pc lv [.double v] :=
  fun H locs ls hP hD hS hl => W.widen hc hs (vx_ret (W.dret C.x C.b C.r (fun t ht hW => ⟨⟨_, _, rfl, hΨ, by rw [ht]; exact hP, hD⟩, hS.F ht⟩) hS.2.2 hdg C.lk))
theorem zz_vret (C : zz_C p l R s m meth c D U A own cc nL none hh d) (hdg : decode cc pc = .ok (.return_, 1)) (hΨ : Ψ none ws) (hc : cells ≤ mc) (hs : slots ≤ ms) : zz_Z p l e R s m args below meth c (vx_MQ below (zz_Qc D A Ψ) (zz_XC D A ΨX) args s mc ms A) D A nL cells slots ws pc lv [] :=
  fun H locs ls hP hD hS hl => W.widen hc hs (vx_ret (W.vret C.x C.b C.r (fun t ht hW => ⟨⟨_, _, rfl, hΨ, by rw [ht]; exact hP, hD⟩, hS.F ht⟩) hS.2.2 hdg C.lk))
/-- thrown by a callee, not caught here -/
theorem zz_out (C : zz_C p l R s m meth c D U A own cc nL ret [] d) {E : String} (hΨ : ΨX E ws) (hc : cells ≤ mc) (hs : slots ≤ ms) : zz_X p l e R s m args below meth c (vx_MQ below (zz_Qc D A Ψ) (zz_XC D A ΨX) args s mc ms A) D A nL cells slots ws pc lv st E :=
  fun H locs ls q ce hP hD hS hl h1 h2 h3 => vx_out (fun x hx => by rw [C.t] at hx; exact nomatch hx) C.lk h1 h2 h3 (fun t ht hW => ⟨⟨_, hΨ, by rw [ht]; exact hP, hD⟩, hS.F ht⟩) hS.2.2 hc hs
/-- throw new E("text") -/
def zz_names : List String := ["java/lang/RuntimeException", "java/lang/Exception"]
def zz_thr (own : String) (ik ic : Nat) (cls : String) : Prop := (∀ w ∈ vx_atS own ic cls zz_names, zz_g w ∨ w = .castable cls cls ∨ ∃ y ∈ zz_decl, w = .declares y) ∧ (∀ w ∈ Cond.classLink own ik cls :: Cond.initialized cls :: vx_atS own ic cls zz_names, vx_ot w = true) ∧ zz_g (.classLink own ik cls) ∧ zz_g (.initialized cls) ∧ cls ∈ zz_exc
theorem zz_fit {cls : String} (h : cls ∈ zz_exc) : Bundle.fit cls = true := by
  have h9 : ∀ E ∈ zz_exc, Bundle.fit E = true := by decide +kernel
  exact h9 cls h
theorem zz_fitn : ∀ n ∈ zz_names, Bundle.fit n = true := by decide +kernel
theorem zz_hx (C : zz_C p l R s m meth c D U A own cc nL ret hh d) {H : Heap} {locs : List Loc} {E : String} (hΨ : ΨX E ws) (hP : va_P D zcl ws H) (hD : va_D A ws) (hS : va_S A s.heap H locs) : ∀ t : State, s.vm.Alike t.vm → H.size ≤ t.heap.size → (∀ q : Nat, q < H.size → t.heap[q]? = H[q]?) → zz_XC D A ΨX E s t := by
  intro t hvm hsz hk
  refine ⟨⟨_, hΨ, hP.kept (fun k q hq => hk q.1 ((hP k q hq).lt)), hD⟩, ⟨Nat.le_trans hS.1 hsz, fun q h1 h2 => ?_⟩⟩
  rw [hk q (Nat.lt_of_lt_of_le h1 hS.1)]
  exact hS.2.1 q h1 h2
theorem zz_throwS (C : zz_C p l R s m meth c D U A own cc nL ret [] d) {cls text : String} {ik is ic : Nat} (ht : zz_thr own ik ic cls) (hstr : (own, is, text) ∈ zz_str)
    (d0 : decode cc pc = .ok (.new ik, 3)) (d3 : decode cc (pc + 3) = .ok (.dup, 1)) (d4 : decode cc (pc + 4) = .ok (.ldc is, 2)) (d6 : decode cc (pc + 6) = .ok (.invokespecial ic, 3)) (d9 : decode cc (pc + 9) = .ok (.athrow, 1))
    (hd : 6 ≤ d) (hw : (st.map fun v => v.category).sum ≤ 8) (hc : cells + 1 ≤ R.cells) (hs : slots + 6 ≤ R.slots) (hc2 : cells + 1 ≤ mc) (hs2 : slots + 6 ≤ ms) (hΨ : ΨX cls ws) :
    zz_Z p l e R s m args below meth c (vx_MQ below (zz_Qc D A Ψ) (zz_XC D A ΨX) args s mc ms A) D A nL cells slots ws pc lv st := by
  intro H locs ls hP hD hS hl
  obtain ⟨t1, t2, t3, t4, t5⟩ := ht
  obtain ⟨sa, hsa⟩ := C.F.2.2.2.2.1 _ hstr
  have h1 := C.fr
  have h2 := C.lo
  exact vx_throwS (names := zz_names) (A := A) C.x C.b C.tr C.ow (zz_fit t5) zz_fitn (C.w t3) (C.w t4) hsa (fun w hw => by
      rcases t1 w hw with h | h | ⟨y, hy, h⟩
      · exact C.w h
      · rw [h]; exact va_Nw.use rfl (C.F.2.2.1 _ t5)
      · rw [h]; exact va_Nw.use rfl (C.F.2.2.2.2.2.1 _ hy)) t2 C.S.1 C.S.2 hS (by rw [C.ml]; exact hl.1) d0 d3 d4 d6 d9 (fun x hx => by rw [C.t] at hx; exact nomatch hx)
    (by show 2 + 3 < _; omega) (by show _ + (13 * (2 + 1) + 43) ≤ _; omega) hc hs C.lk (zz_hx C hΨ hP hD hS) hS.2.2 hc2 hs2
theorem zz_throwSW (C : zz_C p l R s m meth c D U A own cc nL ret [] d) {cls text : String} {ik is ic : Nat} (ht : zz_thr own ik ic cls) (hstr : (own, is, text) ∈ zz_str)
    (d0 : decode cc pc = .ok (.new ik, 3)) (d3 : decode cc (pc + 3) = .ok (.dup, 1)) (d4 : decode cc (pc + 4) = .ok (.ldc_w is, 3)) (d7 : decode cc (pc + 7) = .ok (.invokespecial ic, 3)) (d10 : decode cc (pc + 10) = .ok (.athrow, 1))
    (hd : 6 ≤ d) (hw : (st.map fun v => v.category).sum ≤ 8) (hc : cells + 1 ≤ R.cells) (hs : slots + 6 ≤ R.slots) (hc2 : cells + 1 ≤ mc) (hs2 : slots + 6 ≤ ms) (hΨ : ΨX cls ws) :
    zz_Z p l e R s m args below meth c (vx_MQ below (zz_Qc D A Ψ) (zz_XC D A ΨX) args s mc ms A) D A nL cells slots ws pc lv st := by
  intro H locs ls hP hD hS hl
  obtain ⟨t1, t2, t3, t4, t5⟩ := ht
  obtain ⟨sa, hsa⟩ := C.F.2.2.2.2.1 _ hstr
  have h1 := C.fr
  have h2 := C.lo
  exact vx_throwSW (names := zz_names) (A := A) C.x C.b C.tr C.ow (zz_fit t5) zz_fitn (C.w t3) (C.w t4) hsa (fun w hw => by
      rcases t1 w hw with h | h | ⟨y, hy, h⟩
      · exact C.w h
      · rw [h]; exact va_Nw.use rfl (C.F.2.2.1 _ t5)
      · rw [h]; exact va_Nw.use rfl (C.F.2.2.2.2.2.1 _ hy)) t2 C.S.1 C.S.2 hS (by rw [C.ml]; exact hl.1) d0 d3 d4 d7 d10 (fun x hx => by rw [C.t] at hx; exact nomatch hx)
    (by show 2 + 3 < _; omega) (by show _ + (13 * (2 + 1) + 43) ≤ _; omega) hc hs C.lk (zz_hx C hΨ hP hD hS) hS.2.2 hc2 hs2
/-- caught: pre, the rows ahead that name other classes -/
theorem zz_catch (C : zz_C p l R s m meth c D U A own cc nL ret hh d) {E : String} {lv0 : List (Nat × Value)} {h : Nat} (pre : List ExceptionTableEntry) (x : ExceptionTableEntry) (suf : List ExceptionTableEntry) (hsplit : tableOf hh = pre ++ x :: suf) (hpass : ∀ z ∈ pre, covers z pc = false ∨ (z.catchType ≠ 0 ∧ ∃ nm : String, zz_g (.classLink own z.catchType nm) ∧ (E, nm) ∈ zz_nocast)) (hx : covers x pc = true) (h0 : x.catchType ≠ 0)
    (w1 : zz_g (.classLink own x.catchType E)) (hE : E ∈ zz_exc) (hp : x.handlerPc = h) (k : ∀ q : Addr, zz_Z p l e R s m args below meth c Q D A nL cells slots ws h lv [.ref q]) : zz_X p l e R s m args below meth c Q D A nL cells slots ws pc lv st E :=
  fun H locs ls q ce hP hD hS hl h1 h2 h3 => vx_catch (args := args) C.ow pre x suf (C.t.trans hsplit) (fun z hz => (hpass z hz).imp id (fun ⟨g1, nm, g2, g3⟩ => ⟨g1, nm, C.w g2, C.F.2.2.2.1 _ g3⟩)) hx h0 (C.w w1) (va_Nw.use rfl (C.F.2.2.1 _ hE)) h1 h2 h3 (by rw [hp]; exact k q H locs ls hP hD hS hl)
end ZY
/-- the two ends of a contract, exactly -/
abbrev zz_ok (v0 : Option Value) (w0 : va_W) : Option Value → va_W → Prop := fun v w => v = v0 ∧ w = w0
abbrev zz_none : Option Value → va_W → Prop := fun _ _ => False
abbrev zz_th (E0 : String) (w0 : va_W) : String → va_W → Prop := fun E w => E = E0 ∧ w = w0
abbrev zz_noth : String → va_W → Prop := fun _ _ => False
section ZV
variable {p : Program} {l : Launch} {e : Env} {R : Room} {s : State} {m : MethodId} {args : Array Value} {below : List Frame} {meth : Method} {c : Code} {Q : State → Prop} {D : va_G} {U : zz_U} {A : Nat → Prop} {own : String} {cc : ByteArray} {nL d cells slots pc : Nat} {ret : Option FieldType} {hh : List (Nat × Nat × Nat × Nat)} {lv : List (Nat × Value)} {st : List Value} {ws w1 : va_W} {mc ms : Nat} {v0 : Option Value} {E0 : String}
variable {y : MethodName} {bytes : ByteArray} {maxL : Nat} {retY : Option FieldType} {d' n index b ci N : Nat} {T : u_T} {host : String} {fs As rest st1 : List Value}
theorem zz_callV1 (C : zz_C p l R s m meth c D U A own cc nL ret hh d) (q0 : Nat) (hM : zz_Met y (.code y bytes maxL retY) d' mc ms D U (.ref b :: As) ws (zz_ok v0 w1) zz_noth) (hdg : decode cc pc = .ok (.invokevirtual index, 3)) (hst : st = As.reverse ++ .ref b :: rest) (he : ws[q0]? = some (b, .inr (ci, fs))) (hc : zcl[ci]? = some (y.cls, T, N)) (w2 : zz_g (.methodLink own index y)) (wy : zz_YV y (.code y bytes maxL retY) n) (hn : As.length = n) (hd : d' + 1 ≤ d) (hmx : maxL ≤ 17) (hw : (rest.map fun v => v.category).sum ≤ 8) (hc1 : cells + mc ≤ R.cells) (hs1 : slots + ms ≤ R.slots) (hv : v0.toList ++ rest = st1) (k : zz_Z p l e R s m args below meth c Q D A nL (cells + mc) (slots + ms) w1 (pc + 3) lv (st1)) : zz_Z p l e R s m args below meth c Q D A nL cells slots ws (pc) lv (st) := zz_callV C q0 hM hdg hst he hc w2 wy hn hd hmx hw hc1 hs1 (fun v ws' h => by obtain ⟨rfl, rfl⟩ := h; rw [hv]; exact k) (fun _ _ h => h.elim)
theorem zz_callVx (C : zz_C p l R s m meth c D U A own cc nL ret hh d) (q0 : Nat) (hM : zz_Met y (.code y bytes maxL retY) d' mc ms D U (.ref b :: As) ws zz_none (zz_th E0 w1)) (hdg : decode cc pc = .ok (.invokevirtual index, 3)) (hst : st = As.reverse ++ .ref b :: rest) (he : ws[q0]? = some (b, .inr (ci, fs))) (hc : zcl[ci]? = some (y.cls, T, N)) (w2 : zz_g (.methodLink own index y)) (wy : zz_YV y (.code y bytes maxL retY) n) (hn : As.length = n) (hd : d' + 1 ≤ d) (hmx : maxL ≤ 17) (hw : (rest.map fun v => v.category).sum ≤ 8) (hc1 : cells + mc ≤ R.cells) (hs1 : slots + ms ≤ R.slots) (k : zz_X p l e R s m args below meth c Q D A nL (cells + mc) (slots + ms) w1 pc lv rest E0) : zz_Z p l e R s m args below meth c Q D A nL cells slots ws (pc) lv (st) := zz_callV C q0 hM hdg hst he hc w2 wy hn hd hmx hw hc1 hs1 (fun _ _ h => h.elim) (fun E ws' h => by obtain ⟨rfl, rfl⟩ := h; exact k)
theorem zz_callS1 (C : zz_C p l R s m meth c D U A own cc nL ret hh d) (hM : zz_Met y (.code y bytes maxL retY) d' mc ms D U As ws (zz_ok v0 w1) zz_noth) (hdg : decode cc pc = .ok (.invokestatic index, 3)) (hst : st = As.reverse ++ rest) (w2 : zz_g (.methodLink own index y)) (wy : zz_YS y (.code y bytes maxL retY) n) (hn : As.length = n) (hd : d' + 1 ≤ d) (hmx : maxL ≤ 17) (hw : (rest.map fun v => v.category).sum ≤ 8) (hc1 : cells + mc ≤ R.cells) (hs1 : slots + ms ≤ R.slots) (hv : v0.toList ++ rest = st1) (k : zz_Z p l e R s m args below meth c Q D A nL (cells + mc) (slots + ms) w1 (pc + 3) lv (st1)) : zz_Z p l e R s m args below meth c Q D A nL cells slots ws (pc) lv (st) := zz_callS C hM hdg hst w2 wy hn hd hmx hw hc1 hs1 (fun v ws' h => by obtain ⟨rfl, rfl⟩ := h; rw [hv]; exact k) (fun _ _ h => h.elim)
theorem zz_callSx (C : zz_C p l R s m meth c D U A own cc nL ret hh d) (hM : zz_Met y (.code y bytes maxL retY) d' mc ms D U As ws zz_none (zz_th E0 w1)) (hdg : decode cc pc = .ok (.invokestatic index, 3)) (hst : st = As.reverse ++ rest) (w2 : zz_g (.methodLink own index y)) (wy : zz_YS y (.code y bytes maxL retY) n) (hn : As.length = n) (hd : d' + 1 ≤ d) (hmx : maxL ≤ 17) (hw : (rest.map fun v => v.category).sum ≤ 8) (hc1 : cells + mc ≤ R.cells) (hs1 : slots + ms ≤ R.slots) (k : zz_X p l e R s m args below meth c Q D A nL (cells + mc) (slots + ms) w1 pc lv rest E0) : zz_Z p l e R s m args below meth c Q D A nL cells slots ws (pc) lv (st) := zz_callS C hM hdg hst w2 wy hn hd hmx hw hc1 hs1 (fun _ _ h => h.elim) (fun E ws' h => by obtain ⟨rfl, rfl⟩ := h; exact k)
theorem zz_callSN1 (C : zz_C p l R s m meth c D U A own cc nL ret hh d) (hM : zz_Met y (.code y bytes maxL retY) d' mc ms D U As ws (zz_ok v0 w1) zz_noth) (hdg : decode cc pc = .ok (.invokestatic index, 3)) (hst : st = As.reverse ++ rest) (w2 : (own, index, y, host) ∈ zz_nest) (wy : zz_YS y (.code y bytes maxL retY) n) (hn : As.length = n) (hd : d' + 1 ≤ d) (hmx : maxL ≤ 17) (hw : (rest.map fun v => v.category).sum ≤ 8) (hc1 : cells + mc ≤ R.cells) (hs1 : slots + ms ≤ R.slots) (hv : v0.toList ++ rest = st1) (k : zz_Z p l e R s m args below meth c Q D A nL (cells + mc) (slots + ms) w1 (pc + 3) lv (st1)) : zz_Z p l e R s m args below meth c Q D A nL cells slots ws (pc) lv (st) := zz_callSN C hM (fun _ _ h => h) hdg hst w2 wy hn hd hmx hw hc1 hs1 (fun v ws' h => by obtain ⟨rfl, rfl⟩ := h; rw [hv]; exact k)
end ZV
/-- a method's contract out of the walk of its body -/
theorem zz_method {y : MethodName} {cc : ByteArray} {maxL d mc ms : Nat} {ret : Option FieldType} {D : va_G} {U : zz_U} {as : List Value} {ws : va_W} {Ψ : Option Value → va_W → Prop} {ΨX : String → va_W → Prop} (own : String) (ho : y.cls = own) (hy : plainName own = true) (hlen : (lg_sl as).length ≤ maxL)
    (body : ∀ (p : Program) (l : Launch) (e : Env) (s : State) (m : MethodId) (args : Array Value) (below : List Frame) (meth : Method) (c : Code) (A : Nat → Prop), meth.name = y.name → zz_C p l ({ frames := d, cells := mc, slots := ms, locals := 36 * d } : Room) s m meth c D U A own cc maxL ret [] d →
      zz_Z p l e ({ frames := d, cells := mc, slots := ms, locals := 36 * d } : Room) s m args below meth c (vx_MQ below (zz_Qc D A Ψ) (zz_XC D A ΨX) args s mc ms A) D A maxL 0 0 ws 0 (lv_args 0 as) []) : zz_Met y (.code y cc maxL ret) d mc ms D U as ws Ψ ΨX := by
  subst ho
  intro l sz htr
  refine vx_ofW (cc := cc) (maxL := maxL) (ret := ret) (ws' := []) hy rfl ?_
  intro p e s m args below meth c s₁ B hml hno hv
  obtain ⟨rfl, hsz, hP, hK, hD0, hF, hS0⟩ := hv
  subst hsz
  have hD := hD0.self (sz := s.heap.size)
  have hl := lv_entry as (n := maxL) hlen
  rw [lg_entry_eq]
  have ht : c.exceptionTable.toList = tableOf [] := by
    show _ = []
    cases hq : c.exceptionTable.toList with
    | nil => rfl
    | cons z r => exact (hno z (by rw [hq]; exact List.mem_cons_self)).elim
  have hA : ∀ q : Nat, s.heap.size ≤ q → va_A ws s.heap.size q := fun q h => Or.inr h
  refine body p l e s m as.toArray below meth c (va_A ws s.heap.size) (name_of_methodNamed B.named B.method).1 ⟨B.exec, B.bytes, hml, findClass_of_methodNamed B.named, hF, B.notSynchronized, htr, hK, hA, hS0, Nat.le_refl _, Nat.le_refl _, B.returns, ht⟩ s.heap [] _ hP hD va_S.rf hl
