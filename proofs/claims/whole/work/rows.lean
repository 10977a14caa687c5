section
/-! ===== BEGIN words of one list among another's, by their places ===== -/
theorem goodIn_r {big : List Cond} (ws : List Cond) (ps : List Nat) (hp : ws = ps.filterMap (fun i => big[i]?)) (h : ws.all goodWord = true) : GoodIn big ws := by
  intro w hw
  have h1 := List.all_eq_true.mp h w hw
  rw [hp] at hw
  obtain ⟨i, -, hi⟩ := List.mem_filterMap.mp hw
  have hm : w ∈ big := by first | exact List.mem_of_getElem? hi | exact List.getElem?_mem hi
  exact ⟨hm, good_of_word h1⟩
theorem goodIn_app {big a b : List Cond} (ha : GoodIn big a) (hb : GoodIn big b) : GoodIn big (a ++ b) := fun w h => (List.mem_append.mp h).elim (ha w) (hb w)
theorem goodIn_ca {big a b : List Cond} {c : Cond} (ha : GoodIn big (c :: a)) (hb : GoodIn big b) : GoodIn big (c :: (a ++ b)) := fun w h => (List.mem_cons.mp h).elim (fun e => ha w (List.mem_cons.mpr (Or.inl e))) (fun h => (List.mem_append.mp h).elim (fun h => ha w (List.mem_cons.mpr (Or.inr h))) (hb w))
theorem goodIn_sub {big ws : List Cond} (hm : ∀ w ∈ ws, w ∈ big) (h : ws.all goodWord = true) : GoodIn big ws := fun w hw => ⟨hm w hw, good_of_word (List.all_eq_true.mp h w hw)⟩
/-! ===== END ===== -/

/-! ===== BEGIN new T[n][m]: the outer array a place, the inner ones among the pooled ===== -/
/-- f, but v at every address of l -/
def vr_up {α : Type} (f : Nat → α) (l : List Nat) (v : α) : Nat → α := fun a => if a ∈ l then v else f a
theorem vr_up_in {α : Type} {f : Nat → α} {l : List Nat} {v : α} {a : Nat} (h : a ∈ l) : vr_up f l v a = v := if_pos h
theorem vr_up_ne {α : Type} {f : Nat → α} {l : List Nat} {v : α} {a : Nat} (h : a ∉ l) : vr_up f l v a = f a := if_neg h
theorem vr_rows {L l : List Nat} {f : Nat → va_E} {e : va_E} (h : ∀ a, a ∈ l → a ∉ L) : va_pl L f ++ l.map (fun a => (a, e)) = va_pl (L ++ l) (vr_up f l e) := by
  unfold va_pl
  rw [List.map_append]
  congr 1
  · apply List.map_congr_left
    intro a ha
    rw [vr_up_ne (fun q => h a q ha)]
  · apply List.map_congr_left
    intro a ha
    rw [vr_up_in ha]
theorem vr_lay {X rows : va_W} {x : Nat × va_E} {pl : va_W} {D : va_G} {cl : List vw_C} {H : Heap} (hP : va_P D cl (((X ++ pl) ++ [x]) ++ rows) H) : va_P D cl ((X ++ [x]) ++ (pl ++ rows)) H := by
  rw [List.append_assoc (X ++ pl)] at hP
  have h := va_P.swap hP
  rw [← List.append_assoc X] at h
  have h2 := va_P.swap h
  rw [List.append_assoc (X ++ [x])] at h2
  exact h2
theorem vr_layD {X rows : va_W} {x : Nat × va_E} {pl : va_W} {A : Nat → Prop} (hD : va_D A (((X ++ pl) ++ [x]) ++ rows)) : va_D A ((X ++ [x]) ++ (pl ++ rows)) := by
  rw [List.append_assoc (X ++ pl)] at hD
  have h := va_D.swap hD
  rw [← List.append_assoc X] at h
  have h2 := va_D.swap h
  rw [List.append_assoc (X ++ [x])] at h2
  exact h2
theorem vr_outer (c : ClassId) (N h0 : Nat) : ∀ i : Nat, Jvm.Free.Multi.outerC c N h0 i = arrV c N (fun j => va_rf (if j < i then some (h0 + 1 + j) else none))
  | 0 => by
    show ({ cls := c, slots := Array.replicate N .null, vm := .none } : Cell) = _
    rw [arrV_new]
    refine congrArg (arrV c N) (funext fun j => ?_)
    simp [va_rf]
  | i + 1 => by
    show (Jvm.Free.Multi.outerC c N h0 i).setSlot i (.ref (h0 + 1 + i)) = _
    rw [vr_outer c N h0 i, arrV_store]
    refine congrArg (arrV c N) (funext fun j => ?_)
    by_cases e : j = i
    · subst e
      simp [updV, va_rf]
    · by_cases h : j < i
      · simp [updV, e, h, Nat.lt_succ_of_lt h]
      · simp [updV, e, h, show ¬ j < i + 1 by omega]
/-- (the printed names lack these three) -/
def va_AOA (ty : FieldType) (U : State) : Prop := (Cond.arrayOver (.array ty)).before #[] U = true
theorem va_AOA.of {ty : FieldType} {A : Array Value} {U : State} (h : (Cond.arrayOver (.array ty)).before A U = true) : va_AOA ty U := h
theorem va_AOA.use {ty : FieldType} {A : Array Value} {U : State} (h : va_AOA ty U) : (Cond.arrayOver (.array ty)).before A U = true := h
theorem va_AOA.moved {u U : State} (hvm : u.vm.Alike U.vm) (h : va_AOA .int u) : va_AOA .int U := by
  unfold va_AOA Cond.before Cond.holds at h ⊢
  simp only [Cond.value] at h ⊢
  sorry
section VGM
variable {p : Program} {l : Launch} {e : Env} {R : Room} {s : State} {m : MethodId} {args : Array Value} {below : List Frame} {meth : Method} {c : Code} {H : Heap} {locs : List Loc} {cells slots : Nat} {Q : State → Prop}
variable {cc : ByteArray} {pc : Nat} {ls : Array Slot} {rest : List Value} {D : va_G} {cl : List vw_C} {A : Nat → Prop} {a : Nat} {tys : List (ClassId × FieldType)} {ws : va_W} {H0 : Heap}
theorem va_mna {X : va_W} {L : List Nat} {f : Nat → va_E} {cc : ByteArray} (hexec : p.tables.exec = Jvm.exec) (hb : c.code = cc) {own : String} {index : Nat} {ty : FieldType} {cy : ClassId} (hown : s.vm.findClass own = some m.cls) (hclink : (Cond.classLink own index ("[" ++ (FieldType.array ty).toString)).before args s = true) (hover : va_AOA ty s) (harr : (Cond.arrayClass ty).before args s = true) (hcy : s.vm.findClass (FieldType.array ty).toString = some cy)
    (hK : va_K D cl tys s) (hP : va_P D cl (X ++ va_pl L f) H) (hD : va_D A (X ++ va_pl L f)) (hS : va_S A H0 H locs) (hA : ∀ q, H0.size ≤ q → A q) {n k : Int32} {N' K' : Nat} {z : vp_A} (hn : ¬ n < 0) (hk : ¬ k < 0) (hN : n.toNatClampNeg = N') (hM : k.toNatClampNeg = K')
    (hb1 : N' * 4 ≤ 536870912) (hb2 : K' * componentBytes ty ≤ 536870912) (hb3 : K' ≤ 536870912) (hdf : fits ty (defaultValue ty) = true) (hdd : (defaultValue ty).isDefault = true) (hcells : cells + (1 + N') ≤ R.cells) (hslots : slots + (N' + N' * K') ≤ R.slots) (hz : ∀ c : ClassId, Jvm.Free.Multi.innerC c K' (defaultValue ty) = vp_cell c z) (hdg : decode cc pc = .ok (.multianewarray index 2, 4))
    (kk : ∀ (q : Nat) (r : Nat → Nat) (cA : ClassId) (H1 : Heap), (∀ i j : Nat, i < N' → j < N' → r i = r j → i = j) → (∀ i : Nat, i < N' → r i ∉ L) → va_K D cl (tys ++ [(cA, .array ty)]) s →
      va_P D cl ((X ++ [(q, .inl (cA, N', .inr (.inr (.inr (.inr (fun i => if i < N' then some (r i) else none))))))]) ++ va_pl (L ++ (List.range N').map r) (vr_up f ((List.range N').map r) (.inl (cy, z)))) H1 → va_D A ((X ++ [(q, .inl (cA, N', .inr (.inr (.inr (.inr (fun i => if i < N' then some (r i) else none))))))]) ++ va_pl (L ++ (List.range N').map r) (vr_up f ((List.range N').map r) (.inl (cy, z)))) → va_S A H0 H1 locs →
      W p l e R s m args below meth c H1 locs (cells + 1 + N') (slots + N' + N' * K') Q (F0 m (pc + 4) ls (.ref q :: rest))) : W p l e R s m args below meth c H locs cells slots Q (F0 m pc ls (.int k :: .int n :: rest)) := by
  subst hN
  subst hM
  intro T hT Xs
  obtain ⟨vm₁, cA, comp, -, fA, fC, hO, -, X', step⟩ := Xs.multianewarray2F hexec hown hclink (va_AOA.use hover) harr (g := F0 m pc ls (.int k :: .int n :: rest)) rfl (by rw [hb]; exact hdg) rfl hn hk hb1 hb2 hb3 hdf hdd hcells hslots
  have ec : some cy = some comp := hcy.symm.trans fC
  cases ec
  generalize hF : Jvm.Free.Multi.fill (T.setVm vm₁) cA cy n.toNatClampNeg k.toNatClampNeg (defaultValue ty) n.toNatClampNeg = F at X' step
  have hTh : (T.setVm vm₁).heap = H := hT
  obtain ⟨f1, f2, -, -⟩ := Jvm.Free.Multi.fill_facts (T.setVm vm₁) cA cy n.toNatClampNeg k.toNatClampNeg (defaultValue ty) n.toNatClampNeg
  rw [hF, hTh] at f1 f2
  have hold : ∀ x : Nat, x < H.size → F.heap[x]? = H[x]? := fun x hx => by
    have := Jvm.Free.Multi.fill_old (T.setVm vm₁) cA cy n.toNatClampNeg k.toNatClampNeg (defaultValue ty) (a := x) (by rw [hTh]; exact hx) n.toNatClampNeg
    rw [hF, hTh] at this
    exact this
  have hrow : ∀ j : Nat, j < n.toNatClampNeg → F.heap[H.size + 1 + j]? = some (vp_cell cy z) := fun j hj => by
    have := Jvm.Free.Multi.fill_inner (T.setVm vm₁) cA cy n.toNatClampNeg k.toNatClampNeg (defaultValue ty) n.toNatClampNeg j hj
    rw [hF, hTh, hz] at this
    exact this
  have hout : Jvm.Free.Multi.outerC cA n.toNatClampNeg H.size n.toNatClampNeg = vp_cell cA (n.toNatClampNeg, .inr (.inr (.inr (.inr (fun i => if i < n.toNatClampNeg then some (H.size + 1 + i) else none))))) := by
    rw [vp_cell_q]
    exact vr_outer cA n.toNatClampNeg H.size n.toNatClampNeg
  rw [hout] at f2
  have hlt : ∀ a, a ∈ L → a < H.size := fun a ha => by
    obtain ⟨k9, hk9⟩ := va_pl_get (X := X) (f := f) ha
    exact (hP k9 _ hk9).lt
  have hnl : ∀ i : Nat, i < n.toNatClampNeg → H.size + 1 + i ∉ L := fun i _ h => by
    have := hlt _ h
    omega
  have hnm : ∀ a, a ∈ (List.range n.toNatClampNeg).map (fun i => H.size + 1 + i) → a ∉ L := fun a ha h => by
    obtain ⟨i, -, rfl⟩ := List.mem_map.mp ha
    have := hlt _ h
    omega
  have hP0 : va_P D cl (X ++ va_pl L f) F.heap := hP.kept (fun k9 x hx => hold x.1 ((hP k9 x hx).lt))
  have hP1 : va_P D cl ((X ++ va_pl L f) ++ [(H.size, .inl (cA, n.toNatClampNeg, .inr (.inr (.inr (.inr (fun i => if i < n.toNatClampNeg then some (H.size + 1 + i) else none))))))]) F.heap := hP0.app (fun k9 x hx => by
    have h0 : k9 < 1 := (List.getElem?_eq_some_iff.mp hx).1
    rw [show k9 = 0 by omega] at hx
    cases hx
    exact f2)
  have hP2 : va_P D cl (((X ++ va_pl L f) ++ [(H.size, .inl (cA, n.toNatClampNeg, .inr (.inr (.inr (.inr (fun i => if i < n.toNatClampNeg then some (H.size + 1 + i) else none))))))]) ++ ((List.range n.toNatClampNeg).map (fun i => H.size + 1 + i)).map (fun a => (a, .inl (cy, z)))) F.heap := hP1.app (fun k9 x hx => by
    obtain ⟨a, ha, rfl⟩ := List.mem_map.mp (List.mem_of_getElem? hx)
    obtain ⟨i, hi, rfl⟩ := List.mem_map.mp ha
    exact hrow i (List.mem_range.mp hi))
  have hD2 : va_D A (((X ++ va_pl L f) ++ [(H.size, .inl (cA, n.toNatClampNeg, .inr (.inr (.inr (.inr (fun i => if i < n.toNatClampNeg then some (H.size + 1 + i) else none))))))]) ++ ((List.range n.toNatClampNeg).map (fun i => H.size + 1 + i)).map (fun a => (a, .inl (cy, z)))) := by
    have hD1 := hD.push (e := .inl (cA, n.toNatClampNeg, .inr (.inr (.inr (.inr (fun i => if i < n.toNatClampNeg then some (H.size + 1 + i) else none)))))) hP rfl (hA _ hS.1)
    generalize hW1 : (X ++ va_pl L f) ++ [(H.size, .inl (cA, n.toNatClampNeg, .inr (.inr (.inr (.inr (fun i => if i < n.toNatClampNeg then some (H.size + 1 + i) else none))))))] = W1 at hD1 hP1 ⊢
    have hle : ∀ (k9 : Nat) (x : Nat × va_E), W1[k9]? = some x → x.1 ≤ H.size := fun k9 x hx => by
      rw [← hW1] at hx
      by_cases hl : k9 < (X ++ va_pl L f).length
      · rw [List.getElem?_append_left hl] at hx
        exact Nat.le_of_lt ((hP k9 x hx).lt)
      · rw [List.getElem?_append_right (by omega)] at hx
        have h0 : k9 - (X ++ va_pl L f).length < 1 := (List.getElem?_eq_some_iff.mp hx).1
        rw [show k9 - (X ++ va_pl L f).length = 0 by omega] at hx
        cases hx
        exact Nat.le_refl _
    have hr : ∀ (k9 : Nat) (x : Nat × va_E), (((List.range n.toNatClampNeg).map (fun i => H.size + 1 + i)).map (fun a => ((a, .inl (cy, z)) : Nat × va_E)))[k9]? = some x → x.1 = H.size + 1 + k9 := fun k9 x hx => by
      rw [List.getElem?_map, List.getElem?_map] at hx
      by_cases h9 : k9 < n.toNatClampNeg
      · rw [List.getElem?_range h9] at hx
        cases hx
        rfl
      · have hn0 : (List.range n.toNatClampNeg)[k9]? = none := List.getElem?_eq_none (by rw [List.length_range]; omega)
        rw [hn0] at hx
        cases hx
    refine ⟨fun i j x y hi hj hxy => ?_, fun k9 x hx => ?_⟩
    · by_cases h1 : i < W1.length <;> by_cases h2 : j < W1.length
      · rw [List.getElem?_append_left h1] at hi
        rw [List.getElem?_append_left h2] at hj
        exact hD1.1 i j x y hi hj hxy
      · rw [List.getElem?_append_left h1] at hi
        rw [List.getElem?_append_right (by omega)] at hj
        have := hle _ _ hi
        have := hr _ _ hj
        omega
      · rw [List.getElem?_append_right (by omega)] at hi
        rw [List.getElem?_append_left h2] at hj
        have := hle _ _ hj
        have := hr _ _ hi
        omega
      · rw [List.getElem?_append_right (by omega)] at hi hj
        have := hr _ _ hi
        have := hr _ _ hj
        omega
    · by_cases h1 : k9 < W1.length
      · rw [List.getElem?_append_left h1] at hx
        exact hD1.2 k9 x hx
      · rw [List.getElem?_append_right (by omega)] at hx
        have := hr _ _ hx
        exact hA _ (by have := hS.1; omega)
  have hAr : ArrOfT s cA (.array ty) := fun N9 z9 => by
    obtain ⟨-, k9, hk9, cm9, hkk9⟩ := (hO 0 0 0).1
    exact ⟨(fun q hq => by cases hq), k9, hk9, cm9, hkk9⟩
  have hK2 : va_K D cl (tys ++ [(cA, .array ty)]) s := ⟨hK.1, fun k9 x hx => by
    by_cases hl : k9 < tys.length
    · rw [List.getElem?_append_left hl] at hx
      exact hK.2 k9 x hx
    · rw [List.getElem?_append_right (by omega)] at hx
      have h0 : k9 - tys.length < 1 := (List.getElem?_eq_some_iff.mp hx).1
      rw [show k9 - tys.length = 0 by omega] at hx
      cases hx
      exact ⟨hAr, fA⟩⟩
  obtain ⟨t, a1, b1⟩ := kk H.size (fun i => H.size + 1 + i) cA F.heap (fun i j _ _ h => by have h9 : H.size + 1 + i = H.size + 1 + j := h; omega) hnl hK2 (by rw [← vr_rows hnm]; exact vr_lay hP2) (by rw [← vr_rows hnm]; exact vr_layD hD2) ⟨by rw [f1]; have := hS.1; omega, fun x h1 h2 => (hold x (Nat.lt_of_lt_of_le h1 hS.1)).trans (hS.2.1 x h1 h2), hS.2.2⟩ F rfl X'
  refine ⟨t, step t ?_, b1⟩
  have e : T.heap.size = H.size := by rw [hT]
  rw [e]
  exact a1
end VGM
/-! ===== END ===== -/

/-! ===== BEGIN exceptions that leave a method, and their catching by the caller (launches without stack traces) ===== -/
section VXA
/-! The laws vx_back, vx_callV, vx_callS, vx_callSW, vx_throw0, vx_throwS follow proofs of the library, with one case more: JvmDerived/Free/Laws.lean (Back.of_free), Shelf42/LK1.lean (callV, callS), Shelf/KitTraced.lean (throwNew0V, throwNewS). -/
/-- where a method has thrown q: the class by its name, the cell, what was written, the world -/
def vx_T (XC : String → State → State → Prop) (st : State) (q : Addr) (t : State) (mc ms : Nat) (free : Addr → Prop) : Prop :=
  ∃ (E : String) (ce : Cell) (L : List Loc), XC E st t ∧ t.heap[q]? = some ce ∧ ce.vm = .none ∧ st.vm.findClass E = some ce.cls ∧ st.WarmedH t.vm ∧ st.sameButNew ({ t with vm := st.vm } : State) L mc ms ∧ ∀ z ∈ L, free z.base
def vx_Q (Qc : Array Value → State → Outcome → State → Prop) (XC : String → State → State → Prop) (mc ms : Nat) (free : Addr → Prop) : Array Value → State → Outcome → State → Prop := fun a st o t =>
  (Qc a st o t ∧ ∃ L, FrameEnd st o t L mc ms ∧ ∀ q ∈ L, free q.base) ∨ ∃ q, o = .threw q ∧ vx_T XC st q t mc ms free
/-- a callee that returns or throws -/
def vx_Met (l : Launch) (y : MethodName) (ws : List Cond) (rm : Room) (Pc : Array Value → State → Prop) (Qc : Array Value → State → Outcome → State → Prop) (XC : String → State → State → Prop) (mc ms : Nat) (free : Addr → Prop) : Prop :=
  MetFree l y (headSpec ws rm) Pc (fun _ _ _ _ _ => True) (vx_Q Qc XC mc ms free)
def vx_Post (XC : String → State → State → Prop) (mc ms : Nat) (free : Addr → Prop) : Pt → Array Value → Addr → Pt → Prop := fun A a q B =>
  ∃ (g : JFrame) (mk : MethodId) (t : State) (L : List Loc) (E : String) (ce : Cell), B.U.heap = t.heap ∧ B.U.vm = t.vm ∧ XC E (A.U.calling g mk a) t ∧ t.heap[q]? = some ce ∧ ce.vm = .none ∧ A.U.vm.findClass E = some ce.cls ∧ B.locs = A.locs ++ L ∧ (∀ z ∈ L, free z.base) ∧ B.cells = A.cells + mc ∧ B.slots = A.slots + ms
def vx_Back (l : Launch) (R : Room) (p : Program) (e : Env) (below : List Frame) (s : State) (sargs : Array Value) (y : MethodName) (len W9 : Nat)
    (Pre : Pt → Array Value → Prop) (Post : Pt → Array Value → Option Value → Pt → Prop) (PostX : Pt → Array Value → Addr → Pt → Prop) : Prop :=
  ∀ (m : MethodId) (meth : Method) (c : Code) (A : Pt) (g : JFrame) (ig : Instr) (mk : MethodId) (a : Array Value),
    Stand p l e R s m sargs below meth c A.U A.locs A.cells A.slots → g.method = m → g.locals.size = c.maxLocals → decode c.code g.pc = .ok (ig, len) →
    2 * g.monitorRoom + (g.stack.map fun v => v.category).sum ≤ W9 → A.U.methodNamed? y = some mk → Pre A a →
    (∃ (v : Option Value) (B : Pt), Stand p l e R s m sargs below meth c B.U B.locs B.cells B.slots ∧ Post A a v B ∧
      Steps p.tables e below (doInvoke e (A.U.setTop g) [] mk a).1 (B.U.setTop { g with pc := g.pc + len, stack := v.toList ++ g.stack })) ∨
    (∃ (q : Addr) (B : Pt), Stand p l e R s m sargs below meth c B.U B.locs B.cells B.slots ∧ PostX A a q B ∧
      Steps p.tables e below (doInvoke e (A.U.setTop g) [] mk a).1 ((B.U.setTop g).pushFrame (.throwing q)))
section Payer
variable {l : Launch} {R : Room} {p : Program} {e : Env} {below : List Frame} {s : State} {sargs : Array Value} {y : MethodName} {len W9 : Nat}
theorem vx_back {ws : List Cond} {rm : Room} {Pc : Array Value → State → Prop} {Qc : Array Value → State → Outcome → State → Prop} {XC : String → State → State → Prop} {mc ms : Nat} {free : Addr → Prop} {bytes : ByteArray} {maxL : Nat} {ret : Option FieldType}
    (hM : vx_Met l y ws rm Pc Qc XC mc ms free) (hblind : FrameBlind Pc) (hrc : rm.cells = mc) (hrs : rm.slots = ms)
    (hframes : rm.frames + 1 ≤ R.frames) (hlocals : W9 + (maxL + 11) + rm.locals ≤ R.locals)
    (hws : ∀ w ∈ ws, ∀ a' U, s.WarmedH U.vm → w.before a' U = true) (hcode : Cond.code y bytes maxL ret ∈ ws) (hinit : ∀ a' U, s.WarmedH U.vm → (Cond.initialized y.cls).before a' U = true) :
    vx_Back l R p e below s sargs y len W9 (PreOf R mc ms Pc) (PostOf Qc mc ms free) (vx_Post XC mc ms free) := by
  intro m meth c A g ig mk a X hg hsize hdg hW hn hp
  have h1 : (headSpec ws rm).pre.before a A.U = true := atoms_intro fun w hw => hws w hw _ _ X.warmed
  have h2 : (Cond.code y bytes maxL ret).before a A.U = true := hws _ hcode _ _ X.warmed
  have h3 : (Cond.initialized y.cls).before a A.U = true := hinit _ _ X.warmed
  have h4 : A.cells + (headSpec ws rm).room.cells ≤ R.cells := by rw [show (headSpec ws rm).room.cells = mc from hrc]; exact hp.1
  have h5 : A.slots + (headSpec ws rm).room.slots ≤ R.slots := by rw [show (headSpec ws rm).room.slots = ms from hrs]; exact hp.2.1
  have hPc : Pc a (A.U.calling g mk a) := hblind _ _ _ _ hp.2.2
  obtain ⟨U, Ls, c0, s0⟩ := A
  dsimp only [Pt.U, Pt.locs, Pt.cells, Pt.slots] at h1 h2 h3 h4 h5 X hn hPc ⊢
  obtain ⟨methY, cY, hmY, hcY, -, hlY, -, -, -, -⟩ := Cond.code_spec hn h2
  obtain ⟨kY, hkY, -⟩ := className_of_methodNamed hn
  have hinitY : kY.init = .initialized := Cond.initialized_spec (findClass_of_methodNamed hn) hkY h3
  have h : At U g.method c below := by rw [hg]; exact X.here
  have hlocals9 : W9 + (maxL + 11) + (headSpec ws rm).room.locals ≤ R.locals := hlocals
  have happ : (headSpec ws rm).appliesLoose y e.platform (U.calling g mk a) = true :=
    Spec.appliesLoose_calling (g := g) h hdg hn hkY hinitY
      (X.room_calling (g := g) (R' := (headSpec ws rm).room) hsize hmY hcY hframes (by rw [hlY]; omega) h4 h5) h1
  obtain ⟨mid, hmid⟩ := h.above
  have hfr : (U.setTop g).frames = (.java g :: mid) ++ below := by rw [State.frames_setTop' g h.top, hmid]; rfl
  obtain ⟨o, s₂, hsteps, -, hend, hq⟩ := Steps.callFree hM p X.admits X.cas X.clock (acts := []) hfr happ hPc trivial
  have hq' : vx_Q Qc XC mc ms free a (U.calling g mk a) o s₂ := hq
  rw [State.frames_setTop' g h.top] at hend
  obtain ⟨g₀, hg0⟩ := Option.isSome_iff_exists.mp h.top
  obtain ⟨r, hr⟩ := State.topJava?_eq_some.mp hg0
  have hr' : (({ U with heap := s₂.heap, slotsUsed := s₂.slotsUsed } : State).setVm s₂.vm).frames = .java g₀ :: r := hr
  rcases hq' with ⟨hqc, L, hfe, hL⟩ | ⟨q, rfl, E, ce, L, hx, hce, hcv, hcl, hW₂, hsm, hL⟩
  · obtain ⟨⟨v, rfl⟩, hW₂, e2, q2, q3, q4, q5, q6⟩ := id hfe
    have e3 : s₂ = ({ (U.calling g mk a).setFrames s₂.frames with heap := s₂.heap, slotsUsed := s₂.slotsUsed } : State).setVm s₂.vm := by
      have : s₂ = ({ s₂ with vm := (U.calling g mk a).vm } : State).setVm s₂.vm := rfl
      rw [e2] at this
      exact this
    obtain ⟨c₂, i₂, len₂, hc₂, hd₂, hf₂⟩ := hend
    have hW' : U.WarmedH s₂.vm := hW₂
    have hcc : c₂ = c := by
      have h1 : s₂.code? g.method = U.code? g.method := by
        rw [State.code?_eq, State.code?_eq, hW'.alike.method?]
      exact Option.some.inj (hc₂.symm.trans (h1.trans h.code))
    subst hcc
    have hlen : len₂ = len := by rw [hdg] at hd₂; cases hd₂; rfl
    subst hlen
    have hs₂ : s₂ = (({ U with heap := s₂.heap, slotsUsed := s₂.slotsUsed } : State).setVm s₂.vm).setTop { g with pc := g.pc + len₂, stack := v.toList ++ g.stack } := by
      refine e3.trans ?_
      rw [hf₂, State.calling_eq h.top, State.setFrames_setFrames, State.setTop_of_frames _ hr', hr]
      rfl
    have hsame : U.sameButNew ({ U with heap := s₂.heap, slotsUsed := s₂.slotsUsed } : State) L mc ms := by
      refine ⟨?_, q2, q3, q4, q5, q6⟩
      obtain ⟨t, ht, -⟩ := State.frames_cons hr
      show ({ U with heap := s₂.heap, slotsUsed := s₂.slotsUsed } : State) = { U.setFrames U.frames with heap := s₂.heap, slotsUsed := s₂.slotsUsed }
      rw [State.setFrames_self ht]
    subst hg
    refine Or.inl ⟨v, ⟨(({ U with heap := s₂.heap, slotsUsed := s₂.slotsUsed } : State).setVm s₂.vm), Ls ++ L, c0 + mc, s0 + ms⟩,
      ⟨X.admits, X.cas, X.clock, X.frames, X.room, X.hears, X.method, X.code, (X.here.setHeapUsed s₂.heap s₂.slotsUsed).setVm hW'.alike, X.tail, State.WarmedH.trans X.warmed hW', X.limits, X.bytes, X.same.trans (hsame.setVm s.vm)⟩,
      ⟨g, mk, s₂, L, rfl, rfl, hqc, rfl, hL, rfl, rfl⟩, ?_⟩
    show Steps p.tables e below _ ((({ U with heap := s₂.heap, slotsUsed := s₂.slotsUsed } : State).setVm s₂.vm).setTop { g with pc := g.pc + len₂, stack := v.toList ++ g.stack })
    rw [← hs₂]
    exact hsteps
  · obtain ⟨e2, q2, q3, q4, q5, q6⟩ := id hsm
    have e3 : s₂ = ({ (U.calling g mk a).setFrames s₂.frames with heap := s₂.heap, slotsUsed := s₂.slotsUsed } : State).setVm s₂.vm := by
      have : s₂ = ({ s₂ with vm := (U.calling g mk a).vm } : State).setVm s₂.vm := rfl
      rw [e2] at this
      exact this
    have hf₂ : s₂.frames = .throwing q :: .java g :: U.frames.tail := hend
    have hW' : U.WarmedH s₂.vm := hW₂
    have hs₂ : s₂ = ((({ U with heap := s₂.heap, slotsUsed := s₂.slotsUsed } : State).setVm s₂.vm).setTop g).pushFrame (.throwing q) := by
      refine e3.trans ?_
      rw [hf₂, State.calling_eq h.top, State.setFrames_setFrames, State.pushFrame, State.frames_setTop _ hr', State.setTop_of_frames _ hr', State.setFrames_setFrames, hr]
      rfl
    have hsame : U.sameButNew ({ U with heap := s₂.heap, slotsUsed := s₂.slotsUsed } : State) L mc ms := by
      refine ⟨?_, q2, q3, q4, q5, q6⟩
      obtain ⟨t, ht, -⟩ := State.frames_cons hr
      show ({ U with heap := s₂.heap, slotsUsed := s₂.slotsUsed } : State) = { U.setFrames U.frames with heap := s₂.heap, slotsUsed := s₂.slotsUsed }
      rw [State.setFrames_self ht]
    subst hg
    refine Or.inr ⟨q, ⟨(({ U with heap := s₂.heap, slotsUsed := s₂.slotsUsed } : State).setVm s₂.vm), Ls ++ L, c0 + mc, s0 + ms⟩,
      ⟨X.admits, X.cas, X.clock, X.frames, X.room, X.hears, X.method, X.code, (X.here.setHeapUsed s₂.heap s₂.slotsUsed).setVm hW'.alike, X.tail, State.WarmedH.trans X.warmed hW', X.limits, X.bytes, X.same.trans (hsame.setVm s.vm)⟩,
      ⟨g, mk, s₂, L, E, ce, rfl, rfl, hx, hce, hcv, hcl, rfl, hL, rfl, rfl⟩, ?_⟩
    show Steps p.tables e below _ (((({ U with heap := s₂.heap, slotsUsed := s₂.slotsUsed } : State).setVm s₂.vm).setTop g).pushFrame (.throwing q))
    rw [← hs₂]
    exact hsteps
end Payer
section Calls
variable {p : Program} {l : Launch} {e : Env} {R : Room} {s : State} {m : MethodId} {args : Array Value} {below : List Frame} {meth : Method} {c : Code} {T : State} {locs : List Loc} {cells slots : Nat}
theorem vx_callV (X : Stand p l e R s m args below meth c T locs cells slots) (hexec : p.tables.exec = Jvm.exec) {own C : String} {index : Nat} {y : MethodName} {bytes : ByteArray} {maxL : Nat} {ret : Option FieldType}
    (hown : s.vm.findClass own = some m.cls) (hlink : (Cond.methodLink own index y).before args s = true) (hinst : (Cond.instanceMethod y).before args s = true) (hsel : (Cond.selects C y y).before args s = true)
    (hcode : (Cond.code y bytes maxL ret).before args s = true) (hy : y.cls ≠ "java/lang/invoke/MethodHandle" ∧ y.cls ≠ "java/lang/invoke/VarHandle")
    {W9 : Nat} {Pre : Pt → Array Value → Prop} {Post : Pt → Array Value → Option Value → Pt → Prop} {PostX : Pt → Array Value → Addr → Pt → Prop} (hK : vx_Back l R p e below s args y 3 W9 Pre Post PostX)
    {b : Addr} {cellB : Cell} (hcell : T.heap[b]? = some cellB) (hobj : cellB.vm.isStatics = false) (hcls : s.vm.findClass C = some cellB.cls)
    {g : JFrame} (hg : g.method = m) (hsize : g.locals.size = c.maxLocals) {argsL rest : List Value} (hlen : ∀ sig, parseMethodDescriptor y.desc = some sig → argsL.length = sig.parameters.length)
    (hstack : g.stack = argsL.reverse ++ .ref b :: rest) (hW : 2 * g.monitorRoom + (rest.map fun v => v.category).sum ≤ W9) (hdg : decode c.code g.pc = .ok (.invokevirtual index, 3))
    (hpre : ∀ vm₁, s.WarmedH vm₁ → Pre ⟨T.setVm vm₁, locs, cells, slots⟩ (Value.ref b :: argsL).toArray) :
    (∃ (v : Option Value) (vm₁ : Vm) (B : Pt), s.WarmedH vm₁ ∧ Stand p l e R s m args below meth c B.U B.locs B.cells B.slots ∧ Post ⟨T.setVm vm₁, locs, cells, slots⟩ (Value.ref b :: argsL).toArray v B ∧
      ∀ target, Steps p.tables e below (B.U.setTop { g with pc := g.pc + 3, stack := v.toList ++ rest }) target → Steps p.tables e below (T.setTop g) target) ∨
    (∃ (q : Addr) (vm₁ : Vm) (B : Pt), s.WarmedH vm₁ ∧ Stand p l e R s m args below meth c B.U B.locs B.cells B.slots ∧ PostX ⟨T.setVm vm₁, locs, cells, slots⟩ (Value.ref b :: argsL).toArray q B ∧
      Steps p.tables e below (T.setTop g) ((B.U.setTop { g with stack := rest }).pushFrame (.throwing q))) := by
  obtain ⟨mk, methM, hnamed, hmethM, hstM, habM⟩ := Cond.instanceMethod_spec hinst
  obtain ⟨methM', cM, hmethM', -, -, -, -, -, -, hsigM⟩ := Cond.code_spec hnamed hcode
  cases hmethM.symm.trans hmethM'
  obtain ⟨c2, r2, m2, q1, q2, q3, q4, kP, hkP, hkPi⟩ := Cond.selects_spec hsel
  cases hcls.symm.trans q1
  cases (State.methodFound?_of_named hnamed hy).symm.trans q2
  cases hnamed.symm.trans q3
  have hselP : selectMethod e.platform s.vm cellB.cls mk = .method mk := by rw [Launch.admits_selectMethod X.admits]; exact q4
  obtain ⟨vm₁, X₁, hstep₁⟩ := X.invokevirtual hexec hown hlink hnamed hmethM hstM hkP hkPi hy (a := b) (cell := cellB) hcell
    (fun z h => by rw [h] at hobj; cases hobj) hselP hmethM habM hkP hkPi (g := g) hg (argsL := argsL) (rest := rest) (hlen _ hsigM) hstack hdg
  rcases hK m meth c ⟨T.setVm vm₁, locs, cells, slots⟩ { g with stack := rest } (.invokevirtual index) mk (Value.ref b :: argsL).toArray X₁ hg hsize hdg hW (X₁.named hnamed) (hpre vm₁ X₁.warmed) with ⟨v, B, X', hpost, hsteps⟩ | ⟨q, B, X', hpost, hsteps⟩
  · exact Or.inl ⟨v, vm₁, B, X₁.warmed, X', hpost, fun target h => hstep₁ _ fun acts => by rw [doInvoke_state]; exact hsteps.trans h⟩
  · exact Or.inr ⟨q, vm₁, B, X₁.warmed, X', hpost, hstep₁ _ fun acts => by rw [doInvoke_state]; exact hsteps⟩
theorem vx_callS (X : Stand p l e R s m args below meth c T locs cells slots) (hexec : p.tables.exec = Jvm.exec) {own : String} {index : Nat} {y : MethodName} {bytes : ByteArray} {maxL : Nat} {ret : Option FieldType}
    (hown : s.vm.findClass own = some m.cls) (hlink : (Cond.methodLink own index y).before args s = true) (hstat : (Cond.static y).before args s = true) (hinit : (Cond.initialized y.cls).before args s = true)
    (hcode : (Cond.code y bytes maxL ret).before args s = true) (hy : y.cls ≠ "java/lang/invoke/MethodHandle" ∧ y.cls ≠ "java/lang/invoke/VarHandle")
    {W9 : Nat} {Pre : Pt → Array Value → Prop} {Post : Pt → Array Value → Option Value → Pt → Prop} {PostX : Pt → Array Value → Addr → Pt → Prop} (hK : vx_Back l R p e below s args y 3 W9 Pre Post PostX)
    {g : JFrame} (hg : g.method = m) (hsize : g.locals.size = c.maxLocals) {argsL rest : List Value} (hlen : ∀ sig, parseMethodDescriptor y.desc = some sig → argsL.length = sig.parameters.length)
    (hstack : g.stack = argsL.reverse ++ rest) (hW : 2 * g.monitorRoom + (rest.map fun v => v.category).sum ≤ W9) (hdg : decode c.code g.pc = .ok (.invokestatic index, 3))
    (hpre : ∀ vm₁, s.WarmedH vm₁ → Pre ⟨T.setVm vm₁, locs, cells, slots⟩ argsL.toArray) :
    (∃ (v : Option Value) (vm₁ : Vm) (B : Pt), s.WarmedH vm₁ ∧ Stand p l e R s m args below meth c B.U B.locs B.cells B.slots ∧ Post ⟨T.setVm vm₁, locs, cells, slots⟩ argsL.toArray v B ∧
      ∀ target, Steps p.tables e below (B.U.setTop { g with pc := g.pc + 3, stack := v.toList ++ rest }) target → Steps p.tables e below (T.setTop g) target) ∨
    (∃ (q : Addr) (vm₁ : Vm) (B : Pt), s.WarmedH vm₁ ∧ Stand p l e R s m args below meth c B.U B.locs B.cells B.slots ∧ PostX ⟨T.setVm vm₁, locs, cells, slots⟩ argsL.toArray q B ∧
      Steps p.tables e below (T.setTop g) ((B.U.setTop { g with stack := rest }).pushFrame (.throwing q))) := by
  obtain ⟨mk, hnamed⟩ := Cond.code_named hcode
  obtain ⟨methM, cM, hmethM, -, -, -, -, -, -, hsigM⟩ := Cond.code_spec hnamed hcode
  have hstatic : methM.isStatic = true := Cond.static_spec hnamed hmethM hstat
  obtain ⟨kP, hkP, -⟩ := className_of_methodNamed hnamed
  have hinitP : kP.init = .initialized := Cond.initialized_spec (findClass_of_methodNamed hnamed) hkP hinit
  obtain ⟨vm₁, X₁, hstep₁⟩ := X.invokestatic hexec hown hlink hnamed hmethM hstatic hkP hinitP hy (g := g) hg (argsL := argsL) (rest := rest) (hlen _ hsigM) hstack hdg
  rcases hK m meth c ⟨T.setVm vm₁, locs, cells, slots⟩ { g with stack := rest } (.invokestatic index) mk argsL.toArray X₁ hg hsize hdg hW (X₁.named hnamed) (hpre vm₁ X₁.warmed) with ⟨v, B, X', hpost, hsteps⟩ | ⟨q, B, X', hpost, hsteps⟩
  · exact Or.inl ⟨v, vm₁, B, X₁.warmed, X', hpost, fun target h => hstep₁ _ fun acts => by rw [doInvoke_state]; exact hsteps.trans h⟩
  · exact Or.inr ⟨q, vm₁, B, X₁.warmed, X', hpost, hstep₁ _ fun acts => by rw [doInvoke_state]; exact hsteps⟩
end Calls
theorem vx_cls {s : State} {T : State} {vm₁ : Vm} {E : String} {k : ClassId} (hW : s.WarmedH vm₁) (h : (T.setVm vm₁).vm.findClass E = some k) : s.vm.findClass E = some k := by
  have h1 : vm₁.findClass E = some k := h
  rw [hW.alike.findClass] at h1
  exact h1
/-- the method's frame g, with q thrown over it -/
def vx_W (p : Program) (l : Launch) (e : Env) (R : Room) (s : State) (m : MethodId) (args : Array Value) (below : List Frame) (meth : Method) (c : Code) (H : Heap) (locs : List Loc) (cells slots : Nat) (Q : State → Prop) (g : JFrame) (q : Addr) : Prop :=
  ∀ T : State, T.heap = H → Stand p l e R s m args below meth c T locs cells slots → ∃ t, Steps p.tables e below ((T.setTop g).pushFrame (.throwing q)) t ∧ Q t
def vx_Run (p : Program) (l : Launch) (e : Env) (R : Room) (s : State) (m : MethodId) (args : Array Value) (below : List Frame) (meth : Method) (c : Code) (H : Heap) (locs : List Loc) (cells slots mc ms : Nat) (g : JFrame) (rest : List Value) (Qa : State → Outcome → State → Prop) (XC : String → State → State → Prop) (free : Addr → Prop) : Prop :=
  ∀ T : State, T.heap = H → Stand p l e R s m args below meth c T locs cells slots →
    (∃ (v : Option Value) (st₀ t T' : State) (L : List Loc), st₀.heap = H ∧ Stand p l e R s m args below meth c T' (locs ++ L) (cells + mc) (slots + ms) ∧ (∀ q ∈ L, free q.base) ∧ T'.heap = t.heap ∧ T'.vm = t.vm ∧ Qa st₀ (.returned v) t ∧
      Goes p e below T g T' { g with pc := g.pc + 3, stack := v.toList ++ rest }) ∨
    (∃ (q : Addr) (st₀ t T' : State) (L : List Loc) (E : String) (ce : Cell), st₀.heap = H ∧ Stand p l e R s m args below meth c T' (locs ++ L) (cells + mc) (slots + ms) ∧ (∀ z ∈ L, free z.base) ∧ T'.heap = t.heap ∧ T'.vm = t.vm ∧ XC E st₀ t ∧ t.heap[q]? = some ce ∧ ce.vm = .none ∧ s.vm.findClass E = some ce.cls ∧
      Steps p.tables e below (T.setTop g) ((T'.setTop { g with stack := rest }).pushFrame (.throwing q)))
def vx_X {S : Type} (px : S → Prop) (B : String → S → State → Prop) (A : Nat → Prop) : String → State → State → Prop := fun E st t => ∃ u : S, px u ∧ B E u t ∧ va_F A st t
section Runs
variable {p : Program} {l : Launch} {e : Env} {R : Room} {s : State} {m : MethodId} {args : Array Value} {below : List Frame} {meth : Method} {c : Code} {H : Heap} {locs : List Loc} {cells slots : Nat}
variable {y : MethodName} {bytes cc : ByteArray} {maxL nL mc ms n index : Nat} {ret : Option FieldType} {ws : List Cond} {rm : Room} {Pc : Array Value → State → Prop} {Qc : Array Value → State → Outcome → State → Prop} {XC : String → State → State → Prop} {free : Addr → Prop} {Ts : List Cond} {own C : String} {b : Addr} {As rest : List Value} {g : JFrame}
theorem vx_callBack (cb : CallB R s args own index y bytes maxL ret ws rm mc ms n) (hM : vx_Met l y ws rm Pc Qc XC mc ms free) (hbl : FrameBlind Pc) : vx_Back l R p e below s args y 3 8 (PreOf R mc ms Pc) (PostOf Qc mc ms free) (vx_Post XC mc ms free) := by
  obtain ⟨hrc, hrs, hfr, hlo, hws, hcw, -, hini, -⟩ := cb
  exact vx_back (bytes := bytes) (maxL := maxL) (ret := ret) hM hbl hrc hrs hfr hlo hws hcw (fun a' U hW => word_at hW (Or.inl (by first | rfl | simp [Cond.onTables, Cond.keeps, Cond.steady])) hini)
theorem vx_runV (S : CallFix p m c cc nL s args Ts own) (hM : vx_Met l y ws rm Pc Qc XC mc ms free) (cw : CallW R s args own C index y bytes maxL ret ws rm mc ms n) (hp : PreV s H C b Pc As)
    (hg : g.method = m) (hn : As.length = n) (hsize : g.locals.size = nL) (hstack : g.stack = As.reverse ++ .ref b :: rest) (hW : 2 * g.monitorRoom + (rest.map fun v => v.category).sum ≤ 8) (hdg : decode cc g.pc = .ok (.invokevirtual index, 3)) (hf : cells + mc ≤ R.cells ∧ slots + ms ≤ R.slots) :
    vx_Run p l e R s m args below meth c H locs cells slots mc ms g rest (Qc (Value.ref b :: As).toArray) XC free := by
  have hK : vx_Back l R p e below s args y 3 8 (PreOf R mc ms Pc) (PostOf Qc mc ms free) (vx_Post XC mc ms free) := vx_callBack cw.1 hM hp.1
  obtain ⟨⟨-, -, -, -, -, -, hcode, -, hy, hlen, hl⟩, hin, hse⟩ := cw
  obtain ⟨hx, hb, hml, ho, -⟩ := S
  obtain ⟨-, ⟨cellB, hcB, hoB, hclB⟩, hPc⟩ := hp
  intro T hT X
  rcases vx_callV X hx (C := C) (bytes := bytes) (maxL := maxL) (ret := ret) ho hl hin hse hcode hy hK (by rw [hT]; exact hcB) hoB hclB hg (hsize.trans hml.symm) (argsL := As) (rest := rest) (fun sig h => hn.trans (hlen sig h)) hstack hW (by rw [hb]; exact hdg)
    (fun vm₁ hW₁ => ⟨hf.1, hf.2, hPc (T.setVm vm₁) hT hW₁⟩) with ⟨v, vm₁, ⟨U', l2, c2, s2⟩, hW₁, X', ⟨g', mk, t, L, e1, e2, hq, h1, hL, h2, h3⟩, st⟩ | ⟨q, vm₁, ⟨U', l2, c2, s2⟩, hW₁, X', ⟨g', mk, t, L, E, ce, e1, e2, hq, hce, hcv, hcl, h1, hL, h2, h3⟩, st⟩
  · dsimp only [Pt.U, Pt.locs, Pt.cells, Pt.slots] at X' e1 e2 h1 h2 h3 st
    subst h1; subst h2; subst h3
    exact Or.inl ⟨v, (T.setVm vm₁).calling g' mk (Value.ref b :: As).toArray, t, U', L, hT, X', hL, e1, e2, hq, st⟩
  · dsimp only [Pt.U, Pt.locs, Pt.cells, Pt.slots] at X' e1 e2 h1 h2 h3 st hcl
    subst h1; subst h2; subst h3
    exact Or.inr ⟨q, (T.setVm vm₁).calling g' mk (Value.ref b :: As).toArray, t, U', L, E, ce, hT, X', hL, e1, e2, hq, hce, hcv, vx_cls hW₁ hcl, st⟩
theorem vx_runS (S : CallFix p m c cc nL s args Ts own) (hM : vx_Met l y ws rm Pc Qc XC mc ms free) (cw : CallB R s args own index y bytes maxL ret ws rm mc ms n ∧ (Cond.static y).before args s = true) (hp : PreS s H Pc As)
    (hg : g.method = m) (hn : As.length = n) (hsize : g.locals.size = nL) (hstack : g.stack = As.reverse ++ rest) (hW : 2 * g.monitorRoom + (rest.map fun v => v.category).sum ≤ 8) (hdg : decode cc g.pc = .ok (.invokestatic index, 3)) (hf : cells + mc ≤ R.cells ∧ slots + ms ≤ R.slots) :
    vx_Run p l e R s m args below meth c H locs cells slots mc ms g rest (Qc As.toArray) XC free := by
  have hK : vx_Back l R p e below s args y 3 8 (PreOf R mc ms Pc) (PostOf Qc mc ms free) (vx_Post XC mc ms free) := vx_callBack cw.1 hM hp.1
  obtain ⟨⟨-, -, -, -, -, -, hcode, hini, hy, hlen, hl⟩, hstt⟩ := cw
  obtain ⟨hx, hb, hml, ho, -⟩ := S
  intro T hT X
  rcases vx_callS X hx (bytes := bytes) (maxL := maxL) (ret := ret) ho hl hstt hini hcode hy hK hg (hsize.trans hml.symm) (argsL := As) (rest := rest) (fun sig h => hn.trans (hlen sig h)) hstack hW (by rw [hb]; exact hdg)
    (fun vm₁ hW₁ => ⟨hf.1, hf.2, hp.2 (T.setVm vm₁) hT hW₁⟩) with ⟨v, vm₁, ⟨U', l2, c2, s2⟩, hW₁, X', ⟨g', mk, t, L, e1, e2, hq, h1, hL, h2, h3⟩, st⟩ | ⟨q, vm₁, ⟨U', l2, c2, s2⟩, hW₁, X', ⟨g', mk, t, L, E, ce, e1, e2, hq, hce, hcv, hcl, h1, hL, h2, h3⟩, st⟩
  · dsimp only [Pt.U, Pt.locs, Pt.cells, Pt.slots] at X' e1 e2 h1 h2 h3 st
    subst h1; subst h2; subst h3
    exact Or.inl ⟨v, (T.setVm vm₁).calling g' mk As.toArray, t, U', L, hT, X', hL, e1, e2, hq, st⟩
  · dsimp only [Pt.U, Pt.locs, Pt.cells, Pt.slots] at X' e1 e2 h1 h2 h3 st hcl
    subst h1; subst h2; subst h3
    exact Or.inr ⟨q, (T.setVm vm₁).calling g' mk As.toArray, t, U', L, E, ce, hT, X', hL, e1, e2, hq, hce, hcv, vx_cls hW₁ hcl, st⟩
end Runs
section Rows
variable {p : Program} {l : Launch} {e : Env} {R : Room} {s : State} {m : MethodId} {args : Array Value} {below : List Frame} {meth : Method} {c : Code} {H : Heap} {locs : List Loc} {cells slots : Nat} {Q : State → Prop}
variable {mc ms : Nat} {free : Addr → Prop} {A0 A1 : Nat → Prop} {H0 : Heap} {a : Array Value} {pc : Nat} {ls : Array Slot} {st0 rest : List Value}
theorem vx_keep {st₀ t T' : State} {L : List Loc} (h0 : st₀.heap = H) (e1 : T'.heap = t.heap) (hS : va_S A0 H0 H locs) (hA : ∀ q, q < H.size → A1 q → A0 q) (hf : ∀ q, free q → A0 q) (hL : ∀ q ∈ L, free q.base) (hF : va_F A1 st₀ t) :
    H.size ≤ T'.heap.size ∧ (∀ q : Nat, q < H.size → ¬ A1 q → T'.heap[q]? = H[q]?) ∧ va_S A0 H0 T'.heap (locs ++ L) := by
  obtain ⟨hz, hk⟩ := hF
  rw [h0] at hz hk
  exact ⟨by rw [e1]; exact hz, fun q h1 h2 => by rw [e1]; exact hk q h1 h2,
    ⟨Nat.le_trans hS.1 (by rw [e1]; exact hz), fun q h1 h2 => by rw [e1, hk q (Nat.lt_of_lt_of_le h1 hS.1) (fun z => h2 (hA q (Nat.lt_of_lt_of_le h1 hS.1) z))]; exact hS.2.1 q h1 h2, fun q hq => by
      rcases List.mem_append.mp hq with h | h
      · exact hS.2.2 q h
      · exact hf _ (hL q h)⟩⟩
theorem vx_calli {S SX : Type} {post : Int32 → S → Prop} {px : SX → Prop} {B : S → State → Prop} {BX : String → SX → State → Prop} {AX : Nat → Prop} (hr : vx_Run p l e R s m args below meth c H locs cells slots mc ms (F0 m pc ls st0) rest (va_Qi post B A1 a) (vx_X px BX AX) free) (hS : va_S A0 H0 H locs) (hA : ∀ q, q < H.size → A1 q → A0 q) (hf : ∀ q, free q → A0 q) (hAX : ∀ q, q < H.size → AX q → A0 q)
    (kx : ∀ (E : String) (ce : Cell) (q9 : Addr) (u : SX) (t : State) (H1 : Heap) (locs1 : List Loc), t.heap = H1 → s.vm.Alike t.vm → px u → BX E u t → H.size ≤ H1.size → (∀ q : Nat, q < H.size → ¬ AX q → H1[q]? = H[q]?) → va_S A0 H0 H1 locs1 → H1[q9]? = some ce → ce.vm = .none → s.vm.findClass E = some ce.cls → vx_W p l e R s m args below meth c H1 locs1 (cells + mc) (slots + ms) Q (F0 m pc ls rest) q9)
    (kk : ∀ (r : Int32) (u : S) (t : State) (H1 : Heap) (locs1 : List Loc), t.heap = H1 → s.vm.Alike t.vm → post r u → B u t → H.size ≤ H1.size → (∀ q : Nat, q < H.size → ¬ A1 q → H1[q]? = H[q]?) → va_S A0 H0 H1 locs1 → W p l e R s m args below meth c H1 locs1 (cells + mc) (slots + ms) Q (F0 m (pc + 3) ls (.int r :: rest))) : W p l e R s m args below meth c H locs cells slots Q (F0 m pc ls st0) := by
  intro T hT X
  rcases hr T hT X with ⟨v, st₀, t, T', L, h0, X', hL, e1, e2, ⟨⟨r, u, hv, hp, hb⟩, hF⟩, st⟩ | ⟨q, st₀, t, T', L, E, ce, h0, X', hL, e1, e2, ⟨u, hp, hb, hF⟩, hce, hcv, hcl, st⟩
  · cases hv
    obtain ⟨k1, k2, k3⟩ := vx_keep h0 e1 hS hA hf hL hF
    obtain ⟨t2, a1, b1⟩ := kk r u t T'.heap (locs ++ L) e1.symm (by rw [← e2]; exact X'.warmed.alike) hp hb k1 k2 k3 T' rfl X'
    exact ⟨t2, st t2 a1, b1⟩
  · obtain ⟨k1, k2, k3⟩ := vx_keep h0 e1 hS hAX hf hL hF
    obtain ⟨t2, a1, b1⟩ := kx E ce q u t T'.heap (locs ++ L) e1.symm (by rw [← e2]; exact X'.warmed.alike) hp hb k1 k2 k3 (by rw [e1]; exact hce) hcv hcl T' rfl X'
    exact ⟨t2, st.trans a1, b1⟩
theorem vx_calll {S SX : Type} {post : Int64 → S → Prop} {px : SX → Prop} {B : S → State → Prop} {BX : String → SX → State → Prop} {AX : Nat → Prop} (hr : vx_Run p l e R s m args below meth c H locs cells slots mc ms (F0 m pc ls st0) rest (va_Ql post B A1 a) (vx_X px BX AX) free) (hS : va_S A0 H0 H locs) (hA : ∀ q, q < H.size → A1 q → A0 q) (hf : ∀ q, free q → A0 q) (hAX : ∀ q, q < H.size → AX q → A0 q)
    (kx : ∀ (E : String) (ce : Cell) (q9 : Addr) (u : SX) (t : State) (H1 : Heap) (locs1 : List Loc), t.heap = H1 → s.vm.Alike t.vm → px u → BX E u t → H.size ≤ H1.size → (∀ q : Nat, q < H.size → ¬ AX q → H1[q]? = H[q]?) → va_S A0 H0 H1 locs1 → H1[q9]? = some ce → ce.vm = .none → s.vm.findClass E = some ce.cls → vx_W p l e R s m args below meth c H1 locs1 (cells + mc) (slots + ms) Q (F0 m pc ls rest) q9)
    (kk : ∀ (r : Int64) (u : S) (t : State) (H1 : Heap) (locs1 : List Loc), t.heap = H1 → s.vm.Alike t.vm → post r u → B u t → H.size ≤ H1.size → (∀ q : Nat, q < H.size → ¬ A1 q → H1[q]? = H[q]?) → va_S A0 H0 H1 locs1 → W p l e R s m args below meth c H1 locs1 (cells + mc) (slots + ms) Q (F0 m (pc + 3) ls (.long r :: rest))) : W p l e R s m args below meth c H locs cells slots Q (F0 m pc ls st0) := by
  intro T hT X
  rcases hr T hT X with ⟨v, st₀, t, T', L, h0, X', hL, e1, e2, ⟨⟨r, u, hv, hp, hb⟩, hF⟩, st⟩ | ⟨q, st₀, t, T', L, E, ce, h0, X', hL, e1, e2, ⟨u, hp, hb, hF⟩, hce, hcv, hcl, st⟩
  · cases hv
    obtain ⟨k1, k2, k3⟩ := vx_keep h0 e1 hS hA hf hL hF
    obtain ⟨t2, a1, b1⟩ := kk r u t T'.heap (locs ++ L) e1.symm (by rw [← e2]; exact X'.warmed.alike) hp hb k1 k2 k3 T' rfl X'
    exact ⟨t2, st t2 a1, b1⟩
  · obtain ⟨k1, k2, k3⟩ := vx_keep h0 e1 hS hAX hf hL hF
    obtain ⟨t2, a1, b1⟩ := kx E ce q u t T'.heap (locs ++ L) e1.symm (by rw [← e2]; exact X'.warmed.alike) hp hb k1 k2 k3 (by rw [e1]; exact hce) hcv hcl T' rfl X'
    exact ⟨t2, st.trans a1, b1⟩
theorem vx_callf {S SX : Type} {post : UInt32 → S → Prop} {px : SX → Prop} {B : S → State → Prop} {BX : String → SX → State → Prop} {AX : Nat → Prop} (hr : vx_Run p l e R s m args below meth c H locs cells slots mc ms (F0 m pc ls st0) rest (va_Qf post B A1 a) (vx_X px BX AX) free) (hS : va_S A0 H0 H locs) (hA : ∀ q, q < H.size → A1 q → A0 q) (hf : ∀ q, free q → A0 q) (hAX : ∀ q, q < H.size → AX q → A0 q)
    (kx : ∀ (E : String) (ce : Cell) (q9 : Addr) (u : SX) (t : State) (H1 : Heap) (locs1 : List Loc), t.heap = H1 → s.vm.Alike t.vm → px u → BX E u t → H.size ≤ H1.size → (∀ q : Nat, q < H.size → ¬ AX q → H1[q]? = H[q]?) → va_S A0 H0 H1 locs1 → H1[q9]? = some ce → ce.vm = .none → s.vm.findClass E = some ce.cls → vx_W p l e R s m args below meth c H1 locs1 (cells + mc) (slots + ms) Q (F0 m pc ls rest) q9)
    (kk : ∀ (r : UInt32) (u : S) (t : State) (H1 : Heap) (locs1 : List Loc), t.heap = H1 → s.vm.Alike t.vm → post r u → B u t → H.size ≤ H1.size → (∀ q : Nat, q < H.size → ¬ A1 q → H1[q]? = H[q]?) → va_S A0 H0 H1 locs1 → W p l e R s m args below meth c H1 locs1 (cells + mc) (slots + ms) Q (F0 m (pc + 3) ls (.float r :: rest))) : W p l e R s m args below meth c H locs cells slots Q (F0 m pc ls st0) := by
  intro T hT X
  rcases hr T hT X with ⟨v, st₀, t, T', L, h0, X', hL, e1, e2, ⟨⟨r, u, hv, hp, hb⟩, hF⟩, st⟩ | ⟨q, st₀, t, T', L, E, ce, h0, X', hL, e1, e2, ⟨u, hp, hb, hF⟩, hce, hcv, hcl, st⟩
  · cases hv
    obtain ⟨k1, k2, k3⟩ := vx_keep h0 e1 hS hA hf hL hF
    obtain ⟨t2, a1, b1⟩ := kk r u t T'.heap (locs ++ L) e1.symm (by rw [← e2]; exact X'.warmed.alike) hp hb k1 k2 k3 T' rfl X'
    exact ⟨t2, st t2 a1, b1⟩
  · obtain ⟨k1, k2, k3⟩ := vx_keep h0 e1 hS hAX hf hL hF
    obtain ⟨t2, a1, b1⟩ := kx E ce q u t T'.heap (locs ++ L) e1.symm (by rw [← e2]; exact X'.warmed.alike) hp hb k1 k2 k3 (by rw [e1]; exact hce) hcv hcl T' rfl X'
    exact ⟨t2, st.trans a1, b1⟩
theorem vx_calld {S SX : Type} {post : UInt64 → S → Prop} {px : SX → Prop} {B : S → State → Prop} {BX : String → SX → State → Prop} {AX : Nat → Prop} (hr : vx_Run p l e R s m args below meth c H locs cells slots mc ms (F0 m pc ls st0) rest (va_Qd post B A1 a) (vx_X px BX AX) free) (hS : va_S A0 H0 H locs) (hA : ∀ q, q < H.size → A1 q → A0 q) (hf : ∀ q, free q → A0 q) (hAX : ∀ q, q < H.size → AX q → A0 q)
    (kx : ∀ (E : String) (ce : Cell) (q9 : Addr) (u : SX) (t : State) (H1 : Heap) (locs1 : List Loc), t.heap = H1 → s.vm.Alike t.vm → px u → BX E u t → H.size ≤ H1.size → (∀ q : Nat, q < H.size → ¬ AX q → H1[q]? = H[q]?) → va_S A0 H0 H1 locs1 → H1[q9]? = some ce → ce.vm = .none → s.vm.findClass E = some ce.cls → vx_W p l e R s m args below meth c H1 locs1 (cells + mc) (slots + ms) Q (F0 m pc ls rest) q9)
    (kk : ∀ (r : UInt64) (u : S) (t : State) (H1 : Heap) (locs1 : List Loc), t.heap = H1 → s.vm.Alike t.vm → post r u → B u t → H.size ≤ H1.size → (∀ q : Nat, q < H.size → ¬ A1 q → H1[q]? = H[q]?) → va_S A0 H0 H1 locs1 → W p l e R s m args below meth c H1 locs1 (cells + mc) (slots + ms) Q (F0 m (pc + 3) ls (.double r :: rest))) : W p l e R s m args below meth c H locs cells slots Q (F0 m pc ls st0) := by
  intro T hT X
  rcases hr T hT X with ⟨v, st₀, t, T', L, h0, X', hL, e1, e2, ⟨⟨r, u, hv, hp, hb⟩, hF⟩, st⟩ | ⟨q, st₀, t, T', L, E, ce, h0, X', hL, e1, e2, ⟨u, hp, hb, hF⟩, hce, hcv, hcl, st⟩
  · cases hv
    obtain ⟨k1, k2, k3⟩ := vx_keep h0 e1 hS hA hf hL hF
    obtain ⟨t2, a1, b1⟩ := kk r u t T'.heap (locs ++ L) e1.symm (by rw [← e2]; exact X'.warmed.alike) hp hb k1 k2 k3 T' rfl X'
    exact ⟨t2, st t2 a1, b1⟩
  · obtain ⟨k1, k2, k3⟩ := vx_keep h0 e1 hS hAX hf hL hF
    obtain ⟨t2, a1, b1⟩ := kx E ce q u t T'.heap (locs ++ L) e1.symm (by rw [← e2]; exact X'.warmed.alike) hp hb k1 k2 k3 (by rw [e1]; exact hce) hcv hcl T' rfl X'
    exact ⟨t2, st.trans a1, b1⟩
theorem vx_callv {S SX : Type} {post : S → Prop} {px : SX → Prop} {B : S → State → Prop} {BX : String → SX → State → Prop} {AX : Nat → Prop} (hr : vx_Run p l e R s m args below meth c H locs cells slots mc ms (F0 m pc ls st0) rest (va_Qv post B A1 a) (vx_X px BX AX) free) (hS : va_S A0 H0 H locs) (hA : ∀ q, q < H.size → A1 q → A0 q) (hf : ∀ q, free q → A0 q) (hAX : ∀ q, q < H.size → AX q → A0 q)
    (kx : ∀ (E : String) (ce : Cell) (q9 : Addr) (u : SX) (t : State) (H1 : Heap) (locs1 : List Loc), t.heap = H1 → s.vm.Alike t.vm → px u → BX E u t → H.size ≤ H1.size → (∀ q : Nat, q < H.size → ¬ AX q → H1[q]? = H[q]?) → va_S A0 H0 H1 locs1 → H1[q9]? = some ce → ce.vm = .none → s.vm.findClass E = some ce.cls → vx_W p l e R s m args below meth c H1 locs1 (cells + mc) (slots + ms) Q (F0 m pc ls rest) q9)
    (kk : ∀ (u : S) (t : State) (H1 : Heap) (locs1 : List Loc), t.heap = H1 → s.vm.Alike t.vm → post u → B u t → H.size ≤ H1.size → (∀ q : Nat, q < H.size → ¬ A1 q → H1[q]? = H[q]?) → va_S A0 H0 H1 locs1 → W p l e R s m args below meth c H1 locs1 (cells + mc) (slots + ms) Q (F0 m (pc + 3) ls (rest))) : W p l e R s m args below meth c H locs cells slots Q (F0 m pc ls st0) := by
  intro T hT X
  rcases hr T hT X with ⟨v, st₀, t, T', L, h0, X', hL, e1, e2, ⟨⟨u, hv, hp, hb⟩, hF⟩, st⟩ | ⟨q, st₀, t, T', L, E, ce, h0, X', hL, e1, e2, ⟨u, hp, hb, hF⟩, hce, hcv, hcl, st⟩
  · cases hv
    obtain ⟨k1, k2, k3⟩ := vx_keep h0 e1 hS hA hf hL hF
    obtain ⟨t2, a1, b1⟩ := kk u t T'.heap (locs ++ L) e1.symm (by rw [← e2]; exact X'.warmed.alike) hp hb k1 k2 k3 T' rfl X'
    exact ⟨t2, st t2 a1, b1⟩
  · obtain ⟨k1, k2, k3⟩ := vx_keep h0 e1 hS hAX hf hL hF
    obtain ⟨t2, a1, b1⟩ := kx E ce q u t T'.heap (locs ++ L) e1.symm (by rw [← e2]; exact X'.warmed.alike) hp hb k1 k2 k3 (by rw [e1]; exact hce) hcv hcl T' rfl X'
    exact ⟨t2, st.trans a1, b1⟩
/-- caught by the row x of this method's table; the rows ahead don't take it -/
theorem vx_catch {own name : String} {E : String} {ce : Cell} {q : Addr} (hown : s.vm.findClass own = some m.cls) (pre : List ExceptionTableEntry) (x : ExceptionTableEntry) (suf : List ExceptionTableEntry) (hsplit : c.exceptionTable.toList = pre ++ x :: suf)
    (hpass : ∀ z ∈ pre, covers z pc = false ∨ (z.catchType ≠ 0 ∧ ∃ nm : String, (Cond.classLink own z.catchType nm).before args s = true ∧ va_Nc E nm s)) (hx : covers x pc = true) (h0 : x.catchType ≠ 0)
    (hlink : (Cond.classLink own x.catchType name).before args s = true) (hcast : (Cond.castable E name).before args s = true) (hcell : H[q]? = some ce) (hv : ce.vm = .none) (hcl : s.vm.findClass E = some ce.cls)
    (kk : W p l e R s m args below meth c H locs cells slots Q (F0 m x.handlerPc ls [.ref q])) : vx_W p l e R s m args below meth c H locs cells slots Q (F0 m pc ls rest) q := by
  intro T hT X
  have hpl : e.platform.magicAccessors = ({} : Platform).magicAccessors := by rw [X.admits.platform]
  obtain ⟨c3, c4, hc3, hc4, hasg⟩ := Cond.castable_spec hcast
  cases Option.some.inj (hc3.symm.trans hcl)
  obtain ⟨c5, hc5, hcl5⟩ := Cond.classLink_spec hown hlink e.platform hpl
  cases Option.some.inj (hc4.symm.trans hc5)
  obtain ⟨vm', X', st⟩ := X.thenCaughtThrough q (g := F0 m pc ls rest) rfl (Steps.refl _) (by rw [hT]; exact hcell) (by rw [hv]; rfl) (by obtain ⟨k9, h9, -⟩ := Vm.findClass_spec hcl; exact ⟨k9, h9⟩) pre x suf hsplit
    (fun z hz => by
      rcases hpass z hz with h | ⟨hz0, nm, hl1, hn1⟩
      · exact Or.inl h
      · obtain ⟨c6, hc6, hcl6⟩ := Cond.classLink_spec hown hl1 e.platform hpl
        obtain ⟨a8, b8, h1, h2, h3⟩ := hn1
        cases Option.some.inj (h1.symm.trans hcl)
        cases Option.some.inj (h2.symm.trans hc6)
        exact Or.inr ⟨hz0, _, hcl6, h3⟩) hx (Or.inr ⟨h0, c4, hcl5, hasg⟩)
  obtain ⟨t, a1, b1⟩ := kk (T.setVm vm') hT X'
  exact ⟨t, st.trans a1, b1⟩
end Rows
section Ends
variable {p : Program} {l : Launch} {e : Env} {R : Room} {s : State} {m : MethodId} {args : Array Value} {below : List Frame} {meth : Method} {c : Code} {H : Heap} {locs : List Loc} {cells slots : Nat} {Q : State → Prop}
variable {mc ms : Nat} {free : Addr → Prop} {A0 A1 : Nat → Prop} {H0 : Heap} {a : Array Value} {ls : Array Slot} {st0 rest : List Value}
variable {Qc : Array Value → State → Outcome → State → Prop} {XC : String → State → State → Prop}
/-- what a body that may throw owes at its end -/
def vx_MQ (below : List Frame) (Qc : Array Value → State → Outcome → State → Prop) (XC : String → State → State → Prop) (a : Array Value) (s : State) (mc ms : Nat) (free : Addr → Prop) : State → Prop := fun t =>
  ∃ o, t.status = .running ∧ Ended t below o ∧ vx_Q Qc XC mc ms free a s o t
theorem vx_ret {g : JFrame} {mc ms : Nat} (k : W p l e R s m args below meth c H locs cells slots (MQ below Qc args s mc ms free) g) : W p l e R s m args below meth c H locs cells slots (vx_MQ below Qc XC args s mc ms free) g := by
  intro T hT X
  obtain ⟨t, a1, o, b1, b2, b3, b4⟩ := k T hT X
  exact ⟨t, a1, o, b1, b2, Or.inl ⟨b3, b4⟩⟩
/-- not caught here: it goes on to the caller -/
theorem vx_widen {g : JFrame} {q : Addr} {k n : Nat} (h1 : cells ≤ k) (h2 : slots ≤ n) (kk : vx_W p l e R s m args below meth c H locs k n Q g q) : vx_W p l e R s m args below meth c H locs cells slots Q g q := fun T hT X => kk T hT (stand_widen X h1 h2)
theorem vx_out {pc : Nat} {E : String} {ce : Cell} {q : Addr} {mc ms : Nat} (hout : ∀ x ∈ c.exceptionTable.toList, covers x pc = false) (hlocks : meth.locks = false) (hcell : H[q]? = some ce) (hv : ce.vm = .none) (hcl : s.vm.findClass E = some ce.cls)
    (hx : ∀ t : State, t.heap = H → s.vm.Alike t.vm → XC E s t) (hf : ∀ z ∈ locs, free z.base) (hc : cells ≤ mc) (hs : slots ≤ ms) :
    vx_W p l e R s m args below meth c H locs cells slots (vx_MQ below Qc XC args s mc ms free) (F0 m pc ls rest) q := by
  intro T hT X
  obtain ⟨st1, hrun, hend, hW, hsm⟩ := X.leaveThrown q (g := F0 m pc ls rest) rfl rfl rfl hout hlocks
  have hcell9 : (T.setFrames (.throwing q :: below)).heap[q]? = some ce := by
    show T.heap[q]? = some ce
    rw [hT]; exact hcell
  exact ⟨_, st1, .threw q, hrun, hend, Or.inr ⟨q, rfl, E, ce, locs, hx _ hT hW.alike, hcell9, hv, hcl, hW, hsm.mono hc hs, hf⟩⟩
theorem vx_frame {U : State} {k n : Nat} (h : s.sameButNew ({ U with vm := s.vm } : State) locs k n) : s.heap.size ≤ U.heap.size ∧ ∀ q : Nat, q < s.heap.size → (∀ z ∈ locs, z.base ≠ q) → U.heap[q]? = s.heap[q]? := by
  obtain ⟨-, h2, -, -, -, h6⟩ := h
  refine ⟨h2, fun q hq hz => ?_⟩
  obtain ⟨c9, e1, e2, e3, e4⟩ := h6 q _ (Array.getElem?_eq_getElem hq)
  have hs : c9.slots = (s.heap[q]).slots := Array.ext_getElem? fun i => e4 i fun hm => hz _ hm rfl
  have h9 : c9 = s.heap[q] := by
    rw [hs] at e2
    exact e2
  have e5 : U.heap[q]? = some c9 := e1
  rw [e5, h9, Array.getElem?_eq_getElem hq]
/-- the words of a throw but the four that speak of the heap -/
def vx_no (w : Cond) : Bool := decide (w ≠ .isRef (.static Bundle.tN "UNASSIGNED_STACK" Bundle.steD)) && decide (w ≠ .isRef (.static Bundle.tN "SUPPRESSED_SENTINEL" Bundle.listD)) && decide (w ≠ .laysStatic Bundle.tN "UNASSIGNED_STACK" Bundle.steD) && decide (w ≠ .laysStatic Bundle.tN "SUPPRESSED_SENTINEL" Bundle.listD)
def vx_at0 (own : String) (ic : Nat) (X : String) (names : List String) : List Cond := (Bundle.ownAtoms0 own ic X names).filter vx_no
def vx_atS (own : String) (ic : Nat) (X : String) (names : List String) : List Cond := (Bundle.ownAtoms own ic X names).filter vx_no
/-- a word that the tables alone decide, or a good one -/
def vx_ot (w : Cond) : Bool := w.onTables || goodWord w
theorem vx_ot_at {args a' : Array Value} {s U : State} {w : Cond} (hW : s.WarmedH U.vm) (hvm : s.vm = U.vm) (hg : vx_ot w = true) (h : w.before args s = true) : w.before a' U = true := by
  simp only [vx_ot, Bool.or_eq_true] at hg
  rcases hg with hg | hg
  · exact va_tabs hg hvm h
  · exact word_at hW (good_of_word hg) h
/-- a list's words: the good ones out of the method's own list, the others by premises of their own -/
theorem vx_hat {args : Array Value} {s : State} {L B : List Cond} (h1 : ∀ w ∈ L.filter goodWord, w.before args s = true) (h2 : ∀ w ∈ L.filter (fun w => !goodWord w), w ∈ B) (h3 : ∀ w ∈ B, w.before args s = true) : ∀ w ∈ L, w.before args s = true := by
  intro w hw
  by_cases g : goodWord w = true
  · exact h1 w (List.mem_filter.mpr ⟨hw, g⟩)
  · refine h3 w (h2 w (List.mem_filter.mpr ⟨hw, ?_⟩))
    show (!goodWord w) = true
    cases hgw : goodWord w
    · rfl
    · exact absurd hgw g
theorem vx_c {args : Array Value} {s : State} {w : Cond} {B : List Cond} (h : w.before args s = true) (t : ∀ w ∈ B, w.before args s = true) : ∀ w' ∈ w :: B, w'.before args s = true := fun w' h' => (List.mem_cons.mp h').elim (fun e => by rw [e]; exact h) (t w')
theorem vx_n {args : Array Value} {s : State} : ∀ w ∈ ([] : List Cond), w.before args s = true := fun _ h => nomatch h
theorem vx_own {args : Array Value} {s : State} {L : List Cond} (h1 : ∀ w ∈ L.filter vx_no, w.before args s = true)
    (hU : (Cond.isRef (.static Bundle.tN "UNASSIGNED_STACK" Bundle.steD)).before args s = true) (hN : (Cond.isRef (.static Bundle.tN "SUPPRESSED_SENTINEL" Bundle.listD)).before args s = true)
    (lU : (Cond.laysStatic Bundle.tN "UNASSIGNED_STACK" Bundle.steD).before args s = true) (lN : (Cond.laysStatic Bundle.tN "SUPPRESSED_SENTINEL" Bundle.listD).before args s = true) : ∀ w ∈ L, w.before args s = true := by
  intro w hw
  by_cases e1 : w = .isRef (.static Bundle.tN "UNASSIGNED_STACK" Bundle.steD)
  · rw [e1]; exact hU
  · by_cases e2 : w = .isRef (.static Bundle.tN "SUPPRESSED_SENTINEL" Bundle.listD)
    · rw [e2]; exact hN
    · by_cases e3 : w = .laysStatic Bundle.tN "UNASSIGNED_STACK" Bundle.steD
      · rw [e3]; exact lU
      · by_cases e4 : w = .laysStatic Bundle.tN "SUPPRESSED_SENTINEL" Bundle.listD
        · rw [e4]; exact lN
        · exact h1 w (List.mem_filter.mpr ⟨hw, by unfold vx_no; rw [decide_eq_true e1, decide_eq_true e2, decide_eq_true e3, decide_eq_true e4]; rfl⟩)
/-- where a static field lies, its class's statics cell in H -/
def vx_L (C n d : String) (A : Nat → Prop) (U : State) (H : Heap) : Prop := ∃ (c : ClassId) (k : Class) (i : Nat) (f : Field) (a : Nat) (cell : Cell), U.vm.findClass C = some c ∧ U.fieldFound? C n d = some (c, k, i, f) ∧ f.isStatic = true ∧ k.statics = some a ∧ H[a]? = some cell ∧ cell.vm.isStatics = true ∧ cell.cls = c ∧ f.slot < cell.slots.size ∧ k.staticTypes[f.slot]? = some f.type ∧ ¬ A a
theorem vx_L.moved {C n d : String} {A : Nat → Prop} {u U : State} {H : Heap} (hvm : u.vm.Alike U.vm) (h : vx_L C n d A u H) : vx_L C n d A U H := by
  obtain ⟨c, k, i, f, a, cell, h1, h2, h3, h4, h5, h6, h7, h8, h9, h10⟩ := h
  obtain ⟨k', hi', he⟩ := State.fieldFound?_setVm hvm h2
  exact ⟨c, k', i, f, a, cell, by rw [hvm.findClass]; exact h1, hi', h3, by rw [he]; exact h4, h5, h6, h7, h8, by rw [he]; exact h9, h10⟩
theorem vx_L.kept {C n d : String} {A : Nat → Prop} {U : State} {H H1 : Heap} (h : vx_L C n d A U H) (hq : ∀ a : Nat, a < H.size → ¬ A a → H1[a]? = H[a]?) : vx_L C n d A U H1 := by
  obtain ⟨c, k, i, f, a, cell, h1, h2, h3, h4, h5, h6, h7, h8, h9, h10⟩ := h
  exact ⟨c, k, i, f, a, cell, h1, h2, h3, h4, by rw [hq a (Array.getElem?_eq_some_iff.mp h5).1 h10]; exact h5, h6, h7, h8, h9, h10⟩
theorem vx_L.narrow {C n d : String} {A B : Nat → Prop} {U : State} {H : Heap} (h : vx_L C n d A U H) (hAB : ∀ q, B q → A q) : vx_L C n d B U H := by
  obtain ⟨c, k, i, f, a, cell, h1, h2, h3, h4, h5, h6, h7, h8, h9, h10⟩ := h
  exact ⟨c, k, i, f, a, cell, h1, h2, h3, h4, h5, h6, h7, h8, h9, fun z => h10 (hAB _ z)⟩
theorem vx_L.word {C n d : String} {A : Nat → Prop} {s : State} {args : Array Value} (h : vx_L C n d A s s.heap) : (Cond.laysStatic C n d).before args s = true := by
  obtain ⟨c, k, i, f, a, cell, h1, h2, h3, h4, h5, h6, h7, h8, h9, -⟩ := h
  show (Cond.laysStatic C n d).holds args s none s [] = true
  exact Cond.laysStatic_of h1 h2 h3 h4 h5 h6 h7 h8 h9
/-- .. and what it holds: null or some reference -/
def vx_Zq (C n d : String) (A : Nat → Prop) (U : State) (H : Heap) : Prop := va_Zq C n d A U H ∧ vx_L C n d A U H
theorem vx_Zq.moved {C n d : String} {A : Nat → Prop} {u U : State} {H : Heap} (hvm : u.vm.Alike U.vm) (h : vx_Zq C n d A u H) : vx_Zq C n d A U H := ⟨va_Zq.moved hvm h.1, vx_L.moved hvm h.2⟩
theorem vx_Zq.kept {C n d : String} {A : Nat → Prop} {U : State} {H H1 : Heap} (h : vx_Zq C n d A U H) (hq : ∀ a : Nat, a < H.size → ¬ A a → H1[a]? = H[a]?) : vx_Zq C n d A U H1 := ⟨va_Zq.kept h.1 hq, vx_L.kept h.2 hq⟩
theorem vx_Zq.narrow {C n d : String} {A B : Nat → Prop} {U : State} {H : Heap} (h : vx_Zq C n d A U H) (hAB : ∀ q, B q → A q) : vx_Zq C n d B U H := ⟨va_Zq.narrow h.1 hAB, vx_L.narrow h.2 hAB⟩
theorem vx_Zqof {args : Array Value} {s : State} {C n d : String} {A : Nat → Prop} (hl : (Cond.laysStatic C n d).before args s = true) (hini : (Cond.initialized C).before args s = true) (h : (Cond.isRef (.static C n d)).before args s = true) (hA : ∀ a : Nat, a < s.heap.size → ¬ A a) : vx_Zq C n d A s s.heap := by
  refine ⟨va_Zqof hl hini h hA, ?_⟩
  obtain ⟨c, k, i, f, a, cell, h1, h2, h3, h4, h5, h6, h7, h8, h9⟩ := Cond.laysStatic_spec hl
  exact ⟨c, k, i, f, a, cell, h1, h2, h3, h4, h5, h6, h7, h8, h9, hA a (Array.getElem?_eq_some_iff.mp h5).1⟩
theorem vx_isRef {C n d : String} {v : Value} {A : Nat → Prop} {s : State} {args : Array Value} (h : va_Z C n d v A s s.heap) (hv : v.isRef = true) : (Cond.isRef (.static C n d)).before args s = true := by
  obtain ⟨cf, kf, fi, f, a, cell, h1, h2, h3, h4, h5, h6, h7, -⟩ := h
  have he : (Term.static C n d).eval args s none [] s = some v := by
    simp [Term.eval, State.fieldNamed?, h1, h2, h4, h5, h6, h7]
  simp only [Cond.before, Cond.holds, Cond.value, he]
  cases v <;> simp_all [Value.isRef]
theorem vx_isRefq {C n d : String} {A : Nat → Prop} {s : State} {args : Array Value} (h : va_Zq C n d A s s.heap) : (Cond.isRef (.static C n d)).before args s = true := by
  rcases h with h | ⟨t, h⟩
  · exact vx_isRef h rfl
  · exact vx_isRef h rfl
/-- the same frame, seen from here: as if the method were called anew in this heap -/
theorem vx_rebase {T : State} (X : Stand p l e R s m args below meth c T locs cells slots) {R' : Room} (hf : R'.frames ≤ R.frames) (hl : R'.locals ≤ R.locals) (hc : cells + R'.cells ≤ R.cells) (hs : slots + R'.slots ≤ R.slots) :
    Stand p l e R' ((T.setVm s.vm).setFrames (.invoking m args :: below)) m args below meth c T [] 0 0 := by
  have htop : (T.setVm s.vm).topJava?.isSome := X.here.top
  have hF : ((T.setVm s.vm).setFrames (.invoking m args :: below)).frames = .invoking m args :: below := State.frames_setFrames _ (State.cur_lt_of_top htop)
  obtain ⟨g₀, hg0⟩ := Option.isSome_iff_exists.mp htop
  obtain ⟨r, hr⟩ := State.topJava?_eq_some.mp hg0
  have hl9 : e.platform.stackLimits (T.setVm s.vm).me = e.platform.stackLimits s.me := X.limits
  have hb9 : (T.setVm s.vm).me.stackBytes = s.me.stackBytes := X.bytes
  refine ⟨X.admits, X.cas, X.clock, hF, ?_, X.hears, X.method, X.code, X.here, X.tail, X.warmed, ?_, ?_, ?_⟩
  · have h := X.room
    have hU : ((T.setVm s.vm).setFrames (.invoking m args :: below)).localsInUse = s.localsInUse := by
      rw [State.localsInUse_invoking hF (meth := meth) (c := c) X.method X.code, State.localsInUse_invoking X.frames X.method X.code]
    simp only [State.hasRoom, Bool.and_eq_true, decide_eq_true_eq] at h ⊢
    obtain ⟨⟨⟨⟨h1, h2, h3, h4, h5, h6⟩, h7⟩, h8⟩, h9⟩ := h
    rw [X.frames, List.length_cons] at h2 h3
    have q1 := X.heapSize
    have q2 := X.used
    simp only [hF, hU, List.length_cons, State.stackLimits_setFrames, State.stackBytes_setFrames, hl9, hb9]
    refine ⟨⟨⟨⟨by omega, by omega, by omega, by omega, by omega, h6⟩, ?_⟩, ?_⟩, X.book⟩
    · show T.heap.size + R'.cells ≤ e.platform.maxCells
      omega
    · show T.slotsUsed + R'.slots ≤ e.platform.maxSlots
      omega
  · rw [State.stackLimits_setFrames]; rfl
  · rw [State.stackBytes_setFrames]; rfl
  · refine ⟨?_, Nat.le_refl _, Nat.le_refl _, ?_, ?_, fun a c9 h9 => ⟨c9, h9, rfl, rfl, fun _ _ => rfl⟩⟩
    · obtain ⟨t, ht, -⟩ := State.frames_cons hr
      show T.setVm s.vm = { ((T.setVm s.vm).setFrames (.invoking m args :: below)).setFrames (T.setVm s.vm).frames with heap := T.heap, slotsUsed := T.slotsUsed }
      rw [State.setFrames_setFrames, State.setFrames_self ht]
      rfl
    · show T.slotsUsed = T.slotsUsed + ((T.heap.toList.drop T.heap.size).map (·.slots.size)).sum
      rw [List.drop_eq_nil_of_le (Nat.le_of_eq Array.length_toList)]
      rfl
    · show ((T.heap.toList.drop T.heap.size).map (·.slots.size)).sum ≤ 0
      rw [List.drop_eq_nil_of_le (Nat.le_of_eq Array.length_toList)]
      exact Nat.le_refl _
/-- 'throw new E()': new; dup; invokespecial; athrow -/
theorem vx_throw0 {cc : ByteArray} {pc : Nat} (hexec : p.tables.exec = Jvm.exec) (hb : c.code = cc) (hl : l.stackTraces = false) {own cls : String} {names : List String} {ik ic mc ms : Nat} {A : Nat → Prop}
    (hown : s.vm.findClass own = some m.cls) (hcls : Bundle.fit cls = true) (hnames : ∀ n ∈ names, Bundle.fit n = true)
    (hk : (Cond.classLink own ik cls).before args s = true) (hini : (Cond.initialized cls).before args s = true) (hat : ∀ w ∈ vx_at0 own ic cls names, w.before args s = true)
    (hgood : ∀ w ∈ Cond.classLink own ik cls :: Cond.initialized cls :: vx_at0 own ic cls names, vx_ot w = true)
    (hU : vx_Zq Bundle.tN "UNASSIGNED_STACK" Bundle.steD A s s.heap) (hN : vx_Zq Bundle.tN "SUPPRESSED_SENTINEL" Bundle.listD A s s.heap) (hS : va_S A s.heap H locs) (hsize : ls.size = c.maxLocals)
    (d0 : decode cc pc = .ok (.new ik, 3)) (d3 : decode cc (pc + 3) = .ok (.dup, 1)) (d4 : decode cc (pc + 4) = .ok (.invokespecial ic, 3)) (d7 : decode cc (pc + 7) = .ok (.athrow, 1))
    (hout : ∀ x ∈ c.exceptionTable.toList, covers x (pc + 7) = false)
    (hRframes : names.length + 3 < R.frames) (hRlocals : (rest.map fun v => v.category).sum + (13 * (names.length + 1) + 42) ≤ R.locals) (hRcells : cells + 1 ≤ R.cells) (hRslots : slots + 6 ≤ R.slots) (hlocks : meth.locks = false)
    (hx : ∀ t : State, s.vm.Alike t.vm → H.size ≤ t.heap.size → (∀ q : Nat, q < H.size → t.heap[q]? = H[q]?) → XC cls s t)
    (hf : ∀ z ∈ locs, free z.base) (hc : cells + 1 ≤ mc) (hs : slots + 6 ≤ ms) :
    W p l e R s m args below meth c H locs cells slots (vx_MQ below Qc XC args s mc ms free) (F0 m pc ls rest) := by
  intro T hT X
  have htr : e.platform.stackTraces = false := (show e.platform.stackTraces = l.stackTraces by rw [X.admits.platform]).trans hl
  have Y := vx_rebase X (R' := { frames := R.frames, locals := R.locals, cells := 1, slots := 6 }) (Nat.le_refl _) (Nat.le_refl _) hRcells hRslots
  obtain ⟨s', hA⟩ : ∃ z, z = (T.setVm s.vm).setFrames (.invoking m args :: below) := ⟨_, rfl⟩
  rw [← hA] at Y
  have hvm : s'.vm = s.vm := by rw [hA]; rfl
  have hhp : s'.heap = H := by rw [hA]; exact hT
  have hW0 : s.WarmedH s'.vm := by rw [hvm]; exact State.WarmedH.refl s
  have hat' : ∀ w ∈ vx_at0 own ic cls names, w.before args s' = true := fun w hw => vx_ot_at hW0 hvm.symm (hgood w (List.mem_cons_of_mem _ (List.mem_cons_of_mem _ hw))) (hat w hw)
  have hk' : (Cond.classLink own ik cls).before args s' = true := vx_ot_at hW0 hvm.symm (hgood _ List.mem_cons_self) hk
  have hini' : (Cond.initialized cls).before args s' = true := vx_ot_at hW0 hvm.symm (hgood _ (List.mem_cons_of_mem _ List.mem_cons_self)) hini
  have hU' : vx_Zq Bundle.tN "UNASSIGNED_STACK" Bundle.steD A s' s'.heap := by rw [hhp]; exact vx_Zq.moved hW0.alike (hU.kept hS.2.1)
  have hN' : vx_Zq Bundle.tN "SUPPRESSED_SENTINEL" Bundle.listD A s' s'.heap := by rw [hhp]; exact vx_Zq.moved hW0.alike (hN.kept hS.2.1)
  have h : ∀ w ∈ Bundle.ownAtoms0 own ic cls names, w.before args s' = true := vx_own hat' (vx_isRefq hU'.1) (vx_isRefq hN'.1) hU'.2.word hN'.2.word
  have hown' : s'.vm.findClass own = some m.cls := by rw [hvm]; exact hown
  have hins : (Cond.instantiable cls 6).before args s' = true := h _ (by simp [Bundle.ownAtoms0])
  obtain ⟨vm₁, cX, kX, hfX, hkX, -, -, X₁, st1⟩ := Y.newCold hexec (own := own) (C := cls) (index := ik) (n := 6) hown' hk' hins hini'
    (g := F0 m pc ls rest) rfl (by rw [hb]; exact d0) (Nat.le_refl _) (Nat.le_refl _)
  generalize hT1 : (T.setVm vm₁).pushCell { cls := cX, slots := kX.instanceTypes.map defaultValue, vm := .none } = T1 at X₁ st1
  have hcat : (Value.ref T.heap.size).category = 1 := rfl
  have hcellA : T1.heap[T.heap.size]? = some (freshCell cX kX) := by rw [← hT1]; exact State.heap_pushCell_size _ _
  have d3' : decode c.code (pc + 3) = .ok (.dup, 1) := by rw [hb]; exact d3
  obtain ⟨U, hsteps, hrun, hend, hW, hsame, ce, hce, hO⟩ := X₁.ctorThrow0 hexec htr (own := own) (cls := cls) (names := names) (ic := ic) hown' hcls hnames h (fun x hx => nomatch hx) hfX hkX hcellA (by rw [hhp, hT]; exact Nat.le_refl _)
    (g := { method := m, pc := pc + 4, locals := ls, stack := .ref T.heap.size :: .ref T.heap.size :: rest, locked := none }) rfl hsize rfl rfl (rest := rest) rfl
    (by rw [hb]; exact d4) (by rw [hb]; exact d7) hout hRframes (by simp only [List.map_cons, List.sum_cons, hcat]; omega) hlocks
  obtain ⟨f1, f2⟩ := vx_frame hsame
  rw [hhp] at f1 f2
  have hWs : s.WarmedH U.vm := State.WarmedH.trans hW0 hW
  have hcl : s.vm.findClass cls = some ce.cls := by
    have h9 := hO.cls
    rw [hvm] at h9
    exact h9
  have hall : s.sameButNew ({ U with vm := s.vm } : State) locs mc ms := by
    subst hA
    obtain ⟨e1, e2⟩ := hsame
    rw [State.setFrames_setFrames] at e1
    have h2 : (T.setVm s.vm).sameButNew ({ U with vm := s.vm } : State) [] (0 + 1) (0 + 6) := ⟨e1, e2⟩
    have h3 := X.same.trans h2
    rw [List.append_nil] at h3
    exact h3.mono hc hs
  refine ⟨U, ?_, .threw T.heap.size, hrun, hend, Or.inr ⟨T.heap.size, rfl, cls, ce, locs, hx U hWs.alike f1 (fun q hq => f2 q hq (fun z hz => nomatch hz)), hce, hO.vm, hcl, hWs, hall, hf⟩⟩
  refine st1 _ ?_
  show Steps p.tables e below (T1.setTop { method := m, pc := pc + 3, locals := ls, stack := .ref T.heap.size :: rest, locked := none }) _
  jvm_step X₁.here [X₁.here.top, hexec, d3', Value.category]
  exact hsteps
/-- 'throw new E("text")': new; dup; ldc; invokespecial; athrow -/
theorem vx_throwS {cc : ByteArray} {pc : Nat} (hexec : p.tables.exec = Jvm.exec) (hb : c.code = cc) (hl : l.stackTraces = false) {own cls text : String} {names : List String} {ik is ic mc ms sa : Nat} {A : Nat → Prop}
    (hown : s.vm.findClass own = some m.cls) (hcls : Bundle.fit cls = true) (hnames : ∀ n ∈ names, Bundle.fit n = true)
    (hk : (Cond.classLink own ik cls).before args s = true) (hini : (Cond.initialized cls).before args s = true) (hstr : vk_R own is text sa s) (hat : ∀ w ∈ vx_atS own ic cls names, w.before args s = true)
    (hgood : ∀ w ∈ Cond.classLink own ik cls :: Cond.initialized cls :: vx_atS own ic cls names, vx_ot w = true)
    (hU : vx_Zq Bundle.tN "UNASSIGNED_STACK" Bundle.steD A s s.heap) (hN : vx_Zq Bundle.tN "SUPPRESSED_SENTINEL" Bundle.listD A s s.heap) (hS : va_S A s.heap H locs) (hsize : ls.size = c.maxLocals)
    (d0 : decode cc pc = .ok (.new ik, 3)) (d3 : decode cc (pc + 3) = .ok (.dup, 1)) (d4 : decode cc (pc + 4) = .ok (.ldc is, 2)) (d6 : decode cc (pc + 6) = .ok (.invokespecial ic, 3)) (d9 : decode cc (pc + 9) = .ok (.athrow, 1))
    (hout : ∀ x ∈ c.exceptionTable.toList, covers x (pc + 9) = false)
    (hRframes : names.length + 3 < R.frames) (hRlocals : (rest.map fun v => v.category).sum + (13 * (names.length + 1) + 43) ≤ R.locals) (hRcells : cells + 1 ≤ R.cells) (hRslots : slots + 6 ≤ R.slots) (hlocks : meth.locks = false)
    (hx : ∀ t : State, s.vm.Alike t.vm → H.size ≤ t.heap.size → (∀ q : Nat, q < H.size → t.heap[q]? = H[q]?) → XC cls s t)
    (hf : ∀ z ∈ locs, free z.base) (hc : cells + 1 ≤ mc) (hs : slots + 6 ≤ ms) :
    W p l e R s m args below meth c H locs cells slots (vx_MQ below Qc XC args s mc ms free) (F0 m pc ls rest) := by
  intro T hT X
  have htr : e.platform.stackTraces = false := (show e.platform.stackTraces = l.stackTraces by rw [X.admits.platform]).trans hl
  have Y := vx_rebase X (R' := { frames := R.frames, locals := R.locals, cells := 1, slots := 6 }) (Nat.le_refl _) (Nat.le_refl _) hRcells hRslots
  obtain ⟨s', hA⟩ : ∃ z, z = (T.setVm s.vm).setFrames (.invoking m args :: below) := ⟨_, rfl⟩
  rw [← hA] at Y
  have hvm : s'.vm = s.vm := by rw [hA]; rfl
  have hhp : s'.heap = H := by rw [hA]; exact hT
  have hW0 : s.WarmedH s'.vm := by rw [hvm]; exact State.WarmedH.refl s
  have hat' : ∀ w ∈ vx_atS own ic cls names, w.before args s' = true := fun w hw => vx_ot_at hW0 hvm.symm (hgood w (List.mem_cons_of_mem _ (List.mem_cons_of_mem _ hw))) (hat w hw)
  have hk' : (Cond.classLink own ik cls).before args s' = true := vx_ot_at hW0 hvm.symm (hgood _ List.mem_cons_self) hk
  have hini' : (Cond.initialized cls).before args s' = true := vx_ot_at hW0 hvm.symm (hgood _ (List.mem_cons_of_mem _ List.mem_cons_self)) hini
  have hU' : vx_Zq Bundle.tN "UNASSIGNED_STACK" Bundle.steD A s' s'.heap := by rw [hhp]; exact vx_Zq.moved hW0.alike (hU.kept hS.2.1)
  have hN' : vx_Zq Bundle.tN "SUPPRESSED_SENTINEL" Bundle.listD A s' s'.heap := by rw [hhp]; exact vx_Zq.moved hW0.alike (hN.kept hS.2.1)
  have h : ∀ w ∈ Bundle.ownAtoms own ic cls names, w.before args s' = true := vx_own hat' (vx_isRefq hU'.1) (vx_isRefq hN'.1) hU'.2.word hN'.2.word
  have hown' : s'.vm.findClass own = some m.cls := by rw [hvm]; exact hown
  have hins : (Cond.instantiable cls 6).before args s' = true := h _ (by simp [Bundle.ownAtoms])
  obtain ⟨vm₁, cX, kX, hfX, hkX, -, -, X₁, st1⟩ := Y.newCold hexec (own := own) (C := cls) (index := ik) (n := 6) hown' hk' hins hini'
    (g := F0 m pc ls rest) rfl (by rw [hb]; exact d0) (Nat.le_refl _) (Nat.le_refl _)
  generalize hT1 : (T.setVm vm₁).pushCell { cls := cX, slots := kX.instanceTypes.map defaultValue, vm := .none } = T1 at X₁ st1
  have hcat : (Value.ref T.heap.size).category = 1 := rfl
  have hcellA : T1.heap[T.heap.size]? = some (freshCell cX kX) := by rw [← hT1]; exact State.heap_pushCell_size _ _
  have d3' : decode c.code (pc + 3) = .ok (.dup, 1) := by rw [hb]; exact d3
  have d4' : decode c.code (pc + 4) = .ok (.ldc is, 2) := by rw [hb]; exact d4
  have hstr' : vk_R own is text sa s' := vk_R.warm hW0 hstr
  obtain ⟨U, hsteps, hrun, hend, hW, hsame, ce, hce, hO⟩ := X₁.ctorThrowS hexec htr (own := own) (cls := cls) (names := names) (ic := ic) hown' hcls hnames h (fun x hx => nomatch hx) hfX hkX hcellA (by rw [hhp, hT]; exact Nat.le_refl _) (msg := .ref sa) rfl
    (g := { method := m, pc := pc + 6, locals := ls, stack := .ref sa :: .ref T.heap.size :: .ref T.heap.size :: rest, locked := none }) rfl hsize rfl rfl (rest := rest) rfl
    (by rw [hb]; exact d6) (by rw [hb]; exact d9) hout hRframes (by simp only [List.map_cons, List.sum_cons, hcat]; omega) hlocks
  obtain ⟨f1, f2⟩ := vx_frame hsame
  rw [hhp] at f1 f2
  have hWs : s.WarmedH U.vm := State.WarmedH.trans hW0 hW
  have hcl : s.vm.findClass cls = some ce.cls := by
    have h9 := hO.cls
    rw [hvm] at h9
    exact h9
  have hall : s.sameButNew ({ U with vm := s.vm } : State) locs mc ms := by
    subst hA
    obtain ⟨e1, e2⟩ := hsame
    rw [State.setFrames_setFrames] at e1
    have h2 : (T.setVm s.vm).sameButNew ({ U with vm := s.vm } : State) [] (0 + 1) (0 + 6) := ⟨e1, e2⟩
    have h3 := X.same.trans h2
    rw [List.append_nil] at h3
    exact h3.mono hc hs
  refine ⟨U, ?_, .threw T.heap.size, hrun, hend, Or.inr ⟨T.heap.size, rfl, cls, ce, locs, hx U hWs.alike f1 (fun q hq => f2 q hq (fun z hz => nomatch hz)), hce, hO.vm, hcl, hWs, hall, hf⟩⟩
  refine st1 _ ?_
  show Steps p.tables e below (T1.setTop { method := m, pc := pc + 3, locals := ls, stack := .ref T.heap.size :: rest, locked := none }) _
  jvm_step X₁.here [X₁.here.top, hexec, d3', Value.category]
  exact X₁.ldcString hexec (own := own) (text := text) (index := is) (a := sa) hown' hstr'.1 hstr'.2
    (g := { method := m, pc := pc + 4, locals := ls, stack := .ref T.heap.size :: .ref T.heap.size :: rest, locked := none }) rfl d4' _ hsteps
/-- 'throw new E("text")', the text by a wide index -/
theorem vx_throwSW {cc : ByteArray} {pc : Nat} (hexec : p.tables.exec = Jvm.exec) (hb : c.code = cc) (hl : l.stackTraces = false) {own cls text : String} {names : List String} {ik is ic mc ms sa : Nat} {A : Nat → Prop}
    (hown : s.vm.findClass own = some m.cls) (hcls : Bundle.fit cls = true) (hnames : ∀ n ∈ names, Bundle.fit n = true)
    (hk : (Cond.classLink own ik cls).before args s = true) (hini : (Cond.initialized cls).before args s = true) (hstr : vk_R own is text sa s) (hat : ∀ w ∈ vx_atS own ic cls names, w.before args s = true)
    (hgood : ∀ w ∈ Cond.classLink own ik cls :: Cond.initialized cls :: vx_atS own ic cls names, vx_ot w = true)
    (hU : vx_Zq Bundle.tN "UNASSIGNED_STACK" Bundle.steD A s s.heap) (hN : vx_Zq Bundle.tN "SUPPRESSED_SENTINEL" Bundle.listD A s s.heap) (hS : va_S A s.heap H locs) (hsize : ls.size = c.maxLocals)
    (d0 : decode cc pc = .ok (.new ik, 3)) (d3 : decode cc (pc + 3) = .ok (.dup, 1)) (d4 : decode cc (pc + 4) = .ok (.ldc_w is, 3)) (d7 : decode cc (pc + 7) = .ok (.invokespecial ic, 3)) (d10 : decode cc (pc + 10) = .ok (.athrow, 1))
    (hout : ∀ x ∈ c.exceptionTable.toList, covers x (pc + 10) = false)
    (hRframes : names.length + 3 < R.frames) (hRlocals : (rest.map fun v => v.category).sum + (13 * (names.length + 1) + 43) ≤ R.locals) (hRcells : cells + 1 ≤ R.cells) (hRslots : slots + 6 ≤ R.slots) (hlocks : meth.locks = false)
    (hx : ∀ t : State, s.vm.Alike t.vm → H.size ≤ t.heap.size → (∀ q : Nat, q < H.size → t.heap[q]? = H[q]?) → XC cls s t)
    (hf : ∀ z ∈ locs, free z.base) (hc : cells + 1 ≤ mc) (hs : slots + 6 ≤ ms) :
    W p l e R s m args below meth c H locs cells slots (vx_MQ below Qc XC args s mc ms free) (F0 m pc ls rest) := by
  intro T hT X
  have htr : e.platform.stackTraces = false := (show e.platform.stackTraces = l.stackTraces by rw [X.admits.platform]).trans hl
  have Y := vx_rebase X (R' := { frames := R.frames, locals := R.locals, cells := 1, slots := 6 }) (Nat.le_refl _) (Nat.le_refl _) hRcells hRslots
  obtain ⟨s', hA⟩ : ∃ z, z = (T.setVm s.vm).setFrames (.invoking m args :: below) := ⟨_, rfl⟩
  rw [← hA] at Y
  have hvm : s'.vm = s.vm := by rw [hA]; rfl
  have hhp : s'.heap = H := by rw [hA]; exact hT
  have hW0 : s.WarmedH s'.vm := by rw [hvm]; exact State.WarmedH.refl s
  have hat' : ∀ w ∈ vx_atS own ic cls names, w.before args s' = true := fun w hw => vx_ot_at hW0 hvm.symm (hgood w (List.mem_cons_of_mem _ (List.mem_cons_of_mem _ hw))) (hat w hw)
  have hk' : (Cond.classLink own ik cls).before args s' = true := vx_ot_at hW0 hvm.symm (hgood _ List.mem_cons_self) hk
  have hini' : (Cond.initialized cls).before args s' = true := vx_ot_at hW0 hvm.symm (hgood _ (List.mem_cons_of_mem _ List.mem_cons_self)) hini
  have hU' : vx_Zq Bundle.tN "UNASSIGNED_STACK" Bundle.steD A s' s'.heap := by rw [hhp]; exact vx_Zq.moved hW0.alike (hU.kept hS.2.1)
  have hN' : vx_Zq Bundle.tN "SUPPRESSED_SENTINEL" Bundle.listD A s' s'.heap := by rw [hhp]; exact vx_Zq.moved hW0.alike (hN.kept hS.2.1)
  have h : ∀ w ∈ Bundle.ownAtoms own ic cls names, w.before args s' = true := vx_own hat' (vx_isRefq hU'.1) (vx_isRefq hN'.1) hU'.2.word hN'.2.word
  have hown' : s'.vm.findClass own = some m.cls := by rw [hvm]; exact hown
  have hins : (Cond.instantiable cls 6).before args s' = true := h _ (by simp [Bundle.ownAtoms])
  obtain ⟨vm₁, cX, kX, hfX, hkX, -, -, X₁, st1⟩ := Y.newCold hexec (own := own) (C := cls) (index := ik) (n := 6) hown' hk' hins hini'
    (g := F0 m pc ls rest) rfl (by rw [hb]; exact d0) (Nat.le_refl _) (Nat.le_refl _)
  generalize hT1 : (T.setVm vm₁).pushCell { cls := cX, slots := kX.instanceTypes.map defaultValue, vm := .none } = T1 at X₁ st1
  have hcat : (Value.ref T.heap.size).category = 1 := rfl
  have hcellA : T1.heap[T.heap.size]? = some (freshCell cX kX) := by rw [← hT1]; exact State.heap_pushCell_size _ _
  have d3' : decode c.code (pc + 3) = .ok (.dup, 1) := by rw [hb]; exact d3
  have d4' : decode c.code (pc + 4) = .ok (.ldc_w is, 3) := by rw [hb]; exact d4
  have hstr' : vk_R own is text sa s' := vk_R.warm hW0 hstr
  obtain ⟨U, hsteps, hrun, hend, hW, hsame, ce, hce, hO⟩ := X₁.ctorThrowS hexec htr (own := own) (cls := cls) (names := names) (ic := ic) hown' hcls hnames h (fun x hx => nomatch hx) hfX hkX hcellA (by rw [hhp, hT]; exact Nat.le_refl _) (msg := .ref sa) rfl
    (g := { method := m, pc := pc + 7, locals := ls, stack := .ref sa :: .ref T.heap.size :: .ref T.heap.size :: rest, locked := none }) rfl hsize rfl rfl (rest := rest) rfl
    (by rw [hb]; exact d7) (by rw [hb]; exact d10) hout hRframes (by simp only [List.map_cons, List.sum_cons, hcat]; omega) hlocks
  obtain ⟨f1, f2⟩ := vx_frame hsame
  rw [hhp] at f1 f2
  have hWs : s.WarmedH U.vm := State.WarmedH.trans hW0 hW
  have hcl : s.vm.findClass cls = some ce.cls := by
    have h9 := hO.cls
    rw [hvm] at h9
    exact h9
  have hall : s.sameButNew ({ U with vm := s.vm } : State) locs mc ms := by
    subst hA
    obtain ⟨e1, e2⟩ := hsame
    rw [State.setFrames_setFrames] at e1
    have h2 : (T.setVm s.vm).sameButNew ({ U with vm := s.vm } : State) [] (0 + 1) (0 + 6) := ⟨e1, e2⟩
    have h3 := X.same.trans h2
    rw [List.append_nil] at h3
    exact h3.mono hc hs
  refine ⟨U, ?_, .threw T.heap.size, hrun, hend, Or.inr ⟨T.heap.size, rfl, cls, ce, locs, hx U hWs.alike f1 (fun q hq => f2 q hq (fun z hz => nomatch hz)), hce, hO.vm, hcl, hWs, hall, hf⟩⟩
  refine st1 _ ?_
  show Steps p.tables e below (T1.setTop { method := m, pc := pc + 3, locals := ls, stack := .ref T.heap.size :: rest, locked := none }) _
  jvm_step X₁.here [X₁.here.top, hexec, d3', Value.category]
  exact X₁.ldcStringW hexec (own := own) (text := text) (index := is) (a := sa) hown' hstr'.1 hstr'.2
    (g := { method := m, pc := pc + 4, locals := ls, stack := .ref T.heap.size :: .ref T.heap.size :: rest, locked := none }) rfl d4' _ hsteps
end Ends
section Bodies
variable {l : Launch}
theorem vx_ofW {y : MethodName} {ws ws' : List Cond} {rm : Room} {Pc : Array Value → State → Prop} {Qc : Array Value → State → Outcome → State → Prop} {XC : String → State → State → Prop} {mc ms : Nat} {free : Addr → Prop} {cc : ByteArray} {maxL : Nat} {ret : Option FieldType}
    (hy : plainName y.cls = true) (hw : ws = Cond.code y cc maxL ret :: ws')
    (body : ∀ p e s m args below meth c s₁, BodyLoose p l y (headSpec ws rm) cc maxL ret e s m args below meth c s₁ → c.maxLocals = maxL → (∀ x ∈ c.exceptionTable.toList, False) → Pc args s →
      W p l e (headSpec ws rm).room s m args below meth c s.heap [] 0 0 (vx_MQ below Qc XC args s mc ms free) (entryFrame m args maxL)) : vx_Met l y ws rm Pc Qc XC mc ms free := by
  refine MetFree.of_bodyS (code := cc) (maxLocals := maxL) (ret := ret) hy ?_ ?_
  · intro args s m h hn
    obtain ⟨meth, c, h1, h2, h3, h4, h5, h6, -, -⟩ := Cond.code_spec hn (atoms_spec (ws := ws) h _ (by rw [hw]; exact List.mem_cons_self))
    exact ⟨meth, c, h1, h2, h3, h4, h5, h6⟩
  · intro p e s m args below meth c s₁ B hml hP _
    have hh0 : s₁.heap = s.heap := by rw [B.state]; rfl
    have ht : ∀ x ∈ c.exceptionTable.toList, False := by
      obtain ⟨meth9, c9, h1, h2, -, -, -, -, h7, -⟩ := Cond.code_spec B.named (atoms_spec (ws := ws) B.pre _ (by rw [hw]; exact List.mem_cons_self))
      cases Option.some.inj (h1.symm.trans B.method)
      cases Option.some.inj (h2.symm.trans (Stand.of_body B).code)
      intro x hx
      rw [Array.isEmpty_iff.mp h7] at hx
      cases hx
    obtain ⟨t, a1, o, b1, b2, b3⟩ := body p e s m args below meth c s₁ B hml ht hP s₁ hh0 (Stand.of_body B)
    exact ⟨t, o, a1, b1, b2, b3⟩
/-- the table of a body with handlers -/
theorem vx_table {p : Program} {x y : MethodName} {S : Spec} {cc bytes : ByteArray} {maxL maxL' : Nat} {ret ret' : Option FieldType} {e : Env} {s s₁ : State} {m : MethodId} {args : Array Value} {below : List Frame} {meth : Method} {c : Code} {hh : List (Nat × Nat × Nat × Nat)}
    (B : BodyLoose p l y S cc maxL ret e s m args below meth c s₁) (h : (Cond.codeWith y bytes maxL' ret' hh).before args s = true) : c.exceptionTable.toList = tableOf hh := by
  obtain ⟨m9, meth9, c9, hn9, h1, h2, -, -, h6, -⟩ := Cond.codeWith_spec h
  cases Option.some.inj (hn9.symm.trans B.named)
  cases Option.some.inj (h1.symm.trans B.method)
  cases Option.some.inj (h2.symm.trans (Stand.of_body B).code)
  rw [← h6, table_eq]
end Bodies
end VXA
/-! ===== END ===== -/
/-! ===== BEGIN a static call of a method with an exception table ===== -/
section VXS
variable {p : Program} {l : Launch} {e : Env} {R : Room} {s : State} {m : MethodId} {args : Array Value} {below : List Frame} {meth : Method} {c : Code} {T : State} {H : Heap} {locs : List Loc} {cells slots : Nat}
abbrev vx_CSW (R : Room) (s : State) (args : Array Value) (own : String) (index : Nat) (y : MethodName) (bytes : ByteArray) (maxL : Nat) (ret : Option FieldType) (hh : List (Nat × Nat × Nat × Nat)) (ws : List Cond) (rm : Room) (mc ms n : Nat) : Prop :=
  (rm.cells = mc ∧ rm.slots = ms ∧ rm.frames + 1 ≤ R.frames ∧ 8 + (maxL + 11) + rm.locals ≤ R.locals ∧ (∀ w ∈ ws, ∀ (a' : Array Value) (U : State), s.WarmedH U.vm → w.before a' U = true) ∧ Cond.codeWith y bytes maxL ret hh ∈ ws) ∧
  (Cond.codeWith y bytes maxL ret hh).before args s = true ∧ (Cond.initialized y.cls).before args s = true ∧ (y.cls ≠ "java/lang/invoke/MethodHandle" ∧ y.cls ≠ "java/lang/invoke/VarHandle") ∧
  (∀ sig, parseMethodDescriptor y.desc = some sig → n = sig.parameters.length) ∧ (Cond.methodLink own index y).before args s = true ∧ (Cond.static y).before args s = true
theorem vx_cwSW {own : String} {index maxL mc ms : Nat} {y : MethodName} {bytes : ByteArray} {ret : Option FieldType} {hh : List (Nat × Nat × Nat × Nat)} {Ts ws ws' : List Cond} {rm : Room} (n : Nat) (ht : ∀ w ∈ Ts, w.before args s = true) (hT : GoodIn Ts (va_wsS own index y ws)) (hw : ws = Cond.codeWith y bytes maxL ret hh :: ws') (hrc : rm.cells = mc) (hrs : rm.slots = ms)
    (hd : y.cls ≠ "java/lang/invoke/MethodHandle" ∧ y.cls ≠ "java/lang/invoke/VarHandle" ∧ (parseMethodDescriptor y.desc).map (fun d => d.parameters.length) = some n) (hR : rm.frames + 1 ≤ R.frames ∧ 8 + (maxL + 11) + rm.locals ≤ R.locals) :
    vx_CSW R s args own index y bytes maxL ret hh ws rm mc ms n := by
  have ok : ∀ w ∈ va_wsS own index y ws, w.before args s = true := fun w h => ht w (hT w h).1
  have hG : GoodIn Ts ws := fun w h => hT w (by unfold va_wsS; exact List.mem_append_right _ h)
  have hc : Cond.codeWith y bytes maxL ret hh ∈ ws := by rw [hw]; exact List.mem_cons_self
  refine ⟨⟨hrc, hrs, hR.1, hR.2, pay_in ht hG, hc⟩, ht _ (hG _ hc).1, ok _ (by simp [va_wsS]), ⟨hd.1, hd.2.1⟩, fun sig h => ?_, ok _ (by simp [va_wsS]), ok _ (by simp [va_wsS])⟩
  have h2 := hd.2.2
  rw [h] at h2
  exact (Option.some.inj h2).symm
theorem vx_callSW (X : Stand p l e R s m args below meth c T locs cells slots) (hexec : p.tables.exec = Jvm.exec) {own : String} {index : Nat} {y : MethodName} {bytes : ByteArray} {maxL : Nat} {ret : Option FieldType} {hh : List (Nat × Nat × Nat × Nat)}
    (hown : s.vm.findClass own = some m.cls) (hlink : (Cond.methodLink own index y).before args s = true) (hstat : (Cond.static y).before args s = true) (hinit : (Cond.initialized y.cls).before args s = true)
    (hcode : (Cond.codeWith y bytes maxL ret hh).before args s = true) (hy : y.cls ≠ "java/lang/invoke/MethodHandle" ∧ y.cls ≠ "java/lang/invoke/VarHandle")
    {W9 : Nat} {Pre : Pt → Array Value → Prop} {Post : Pt → Array Value → Option Value → Pt → Prop} (hK : Back l R p e below s args y 3 W9 Pre Post)
    {g : JFrame} (hg : g.method = m) (hsize : g.locals.size = c.maxLocals) {argsL rest : List Value} (hlen : ∀ sig, parseMethodDescriptor y.desc = some sig → argsL.length = sig.parameters.length)
    (hstack : g.stack = argsL.reverse ++ rest) (hW : 2 * g.monitorRoom + (rest.map fun v => v.category).sum ≤ W9) (hdg : decode c.code g.pc = .ok (.invokestatic index, 3))
    (hpre : ∀ vm₁, s.WarmedH vm₁ → Pre ⟨T.setVm vm₁, locs, cells, slots⟩ argsL.toArray) :
    ∃ (v : Option Value) (vm₁ : Vm) (B : Pt), s.WarmedH vm₁ ∧ Stand p l e R s m args below meth c B.U B.locs B.cells B.slots ∧ Post ⟨T.setVm vm₁, locs, cells, slots⟩ argsL.toArray v B ∧
      ∀ target, Steps p.tables e below (B.U.setTop { g with pc := g.pc + 3, stack := v.toList ++ rest }) target → Steps p.tables e below (T.setTop g) target := by
  obtain ⟨mk, methM, cM, hnamed, hmethM, -, -, -, -, -, -, hsigM⟩ := Cond.codeWith_spec hcode
  have hstatic : methM.isStatic = true := Cond.static_spec hnamed hmethM hstat
  obtain ⟨kP, hkP, -⟩ := className_of_methodNamed hnamed
  have hinitP : kP.init = .initialized := Cond.initialized_spec (findClass_of_methodNamed hnamed) hkP hinit
  obtain ⟨vm₁, X₁, hstep₁⟩ := X.invokestatic hexec hown hlink hnamed hmethM hstatic hkP hinitP hy (g := g) hg (argsL := argsL) (rest := rest) (hlen _ hsigM) hstack hdg
  obtain ⟨v, B, X', hpost, hsteps⟩ := hK m meth c ⟨T.setVm vm₁, locs, cells, slots⟩ { g with stack := rest } (.invokestatic index) mk argsL.toArray X₁ hg hsize hdg hW (X₁.named hnamed) (hpre vm₁ X₁.warmed)
  exact ⟨v, vm₁, B, X₁.warmed, X', hpost, fun target h => hstep₁ _ fun acts => by rw [doInvoke_state]; exact hsteps.trans h⟩
theorem vx_runSW {y : MethodName} {bytes cc : ByteArray} {maxL nL mc ms n index : Nat} {ret : Option FieldType} {hh : List (Nat × Nat × Nat × Nat)} {ws : List Cond} {rm : Room} {Pc : Array Value → State → Prop} {Qc : Array Value → State → Outcome → State → Prop} {free : Addr → Prop} {Ts : List Cond} {own : String} {As rest : List Value} {g : JFrame}
    (S : CallFix p m c cc nL s args Ts own) (hM : Met l y ws rm Pc Qc mc ms free) (cw : vx_CSW R s args own index y bytes maxL ret hh ws rm mc ms n) (hp : PreS s H Pc As)
    (hg : g.method = m) (hn : As.length = n) (hsize : g.locals.size = nL) (hstack : g.stack = As.reverse ++ rest) (hW : 2 * g.monitorRoom + (rest.map fun v => v.category).sum ≤ 8) (hdg : decode cc g.pc = .ok (.invokestatic index, 3)) (hf : cells + mc ≤ R.cells ∧ slots + ms ≤ R.slots) :
    va_Run p l e R s m args below meth c H locs cells slots mc ms g rest (Qc As.toArray) (free) := by
  obtain ⟨⟨hrc, hrs, hfr, hlo, hws, hcw⟩, hcode, hini, hy, hlen, hl, hstt⟩ := cw
  have hK : Back l R p e below s args y 3 8 (PreOf R mc ms Pc) (PostOf Qc mc ms free) := va_backW (hh := hh) (bytes := bytes) (maxL := maxL) (ret := ret) hM hp.1 hrc hrs hfr hlo hws hcw (fun a' U hW => word_at hW (Or.inl (by first | rfl | simp [Cond.onTables, Cond.keeps, Cond.steady])) hini)
  obtain ⟨hx, hb, hml, ho, -⟩ := S
  intro T hT X
  obtain ⟨v, vm₁, ⟨U', l2, c2, s2⟩, hW₁, X', ⟨g', mk, t, L, e1, e2, hq, h1, hL, h2, h3⟩, st⟩ := vx_callSW X hx (hh := hh) (bytes := bytes) (maxL := maxL) (ret := ret) ho hl hstt hini hcode hy hK hg (hsize.trans hml.symm) (argsL := As) (rest := rest) (fun sig h => hn.trans (hlen sig h)) hstack hW (by rw [hb]; exact hdg)
    (fun vm₁ hW₁ => ⟨hf.1, hf.2, hp.2 (T.setVm vm₁) hT hW₁⟩)
  dsimp only [Pt.U, Pt.locs, Pt.cells, Pt.slots] at X' e1 e2 h1 h2 h3 st
  subst h1; subst h2; subst h3
  exact ⟨v, (T.setVm vm₁).calling g' mk As.toArray, t, U', L, hT, X', hL, e1, e2, hq, st⟩
/-- not caught here, past rows that name other classes: it goes on to the caller -/
theorem vx_outP {p : Program} {l : Launch} {e : Env} {R : Room} {s : State} {m : MethodId} {args : Array Value} {below : List Frame} {meth : Method} {c : Code} {H : Heap} {locs : List Loc} {cells slots : Nat} {free : Addr → Prop} {ls : Array Slot} {rest : List Value} {Qc : Array Value → State → Outcome → State → Prop} {XC : String → State → State → Prop}
    {pc : Nat} {own E : String} {ce : Cell} {q : Addr} {mc ms : Nat} (hown : s.vm.findClass own = some m.cls) (hlocks : meth.locks = false)
    (hpass : ∀ z ∈ c.exceptionTable.toList, covers z pc = false ∨ (z.catchType ≠ 0 ∧ ∃ nm : String, (Cond.classLink own z.catchType nm).before args s = true ∧ va_Nc E nm s)) (hcell : H[q]? = some ce) (hv : ce.vm = .none) (hcl : s.vm.findClass E = some ce.cls)
    (hx : ∀ t : State, t.heap = H → s.vm.Alike t.vm → XC E s t) (hf : ∀ z ∈ locs, free z.base) (hc : cells ≤ mc) (hs : slots ≤ ms) :
    vx_W p l e R s m args below meth c H locs cells slots (vx_MQ below Qc XC args s mc ms free) (F0 m pc ls rest) q := by
  intro T hT X
  have hpl : e.platform.magicAccessors = ({} : Platform).magicAccessors := by rw [X.admits.platform]
  obtain ⟨vm', hW', X', st⟩ := X.outThrough hlocks q (g := F0 m pc ls rest) rfl rfl rfl (cell := ce) (by rw [hT]; exact hcell) (by rw [hv]; rfl)
    (by obtain ⟨k9, h9, -⟩ := Vm.findClass_spec hcl; exact ⟨k9, h9⟩) (fun z hz => by
      rcases hpass z hz with h | ⟨hz0, nm, hl1, hn1⟩
      · exact Or.inl h
      · obtain ⟨c6, hc6, hcl6⟩ := Cond.classLink_spec hown hl1 e.platform hpl
        obtain ⟨a8, b8, h1, h2, h3⟩ := hn1
        cases Option.some.inj (h1.symm.trans hcl)
        cases Option.some.inj (h2.symm.trans hc6)
        exact Or.inr ⟨hz0, _, hcl6, h3⟩)
  obtain ⟨g₀, hfr⟩ := X'.frames_eq
  have hcell9 : ((T.setVm vm').setFrames (.throwing q :: below)).heap[q]? = some ce := by
    show T.heap[q]? = some ce
    rw [hT]; exact hcell
  have hend : Ended ((T.setVm vm').setFrames (.throwing q :: below)) below (.threw q) := State.frames_setFrames _ (State.cur_lt_of_frames hfr)
  refine ⟨(T.setVm vm').setFrames (.throwing q :: below), ?_, .threw q, X'.here.running, hend, Or.inr ⟨q, rfl, E, ce, locs, hx _ hT (X'.ends _).1.alike, hcell9, hv, hcl, (X'.ends _).1, (X'.ends _).2.mono hc hs, hf⟩⟩
  rw [X.pushThrowing_eq]
  exact st
/-- a thing of a world lies in the heap -/
theorem vx_lt {D : va_G} {cl : List vw_C} {ws : va_W} {H1 : Heap} (h : va_P D cl ws H1) {k : Nat} {q : Nat × va_E} (hk : ws[k]? = some q) : q.1 < H1.size := (h k q hk).lt
end VXS
/-! ===== END ===== -/
/-! ===== BEGIN methods with a table of their own: called by a name, returning or throwing ===== -/
section VXH
/-! vx_backW, vx_callVX, vx_callSX, vx_callVW, vx_runVW, vx_runVX, vx_runSX, vx_ofWH follow the same proofs as their sisters above (Free/Laws.lean, Shelf42/LK1.lean); vx_outP calls Shelf42/NT130.lean (outThrough). -/
section
variable {l : Launch} {R : Room} {p : Program} {e : Env} {below : List Frame} {s : State} {sargs : Array Value} {y : MethodName} {len W9 : Nat}
theorem vx_backW {ws : List Cond} {rm : Room} {Pc : Array Value → State → Prop} {Qc : Array Value → State → Outcome → State → Prop} {XC : String → State → State → Prop} {mc ms : Nat} {free : Addr → Prop} {bytes : ByteArray} {maxL : Nat} {ret : Option FieldType} {hh : List (Nat × Nat × Nat × Nat)}
    (hM : vx_Met l y ws rm Pc Qc XC mc ms free) (hblind : FrameBlind Pc) (hrc : rm.cells = mc) (hrs : rm.slots = ms)
    (hframes : rm.frames + 1 ≤ R.frames) (hlocals : W9 + (maxL + 11) + rm.locals ≤ R.locals)
    (hws : ∀ w ∈ ws, ∀ a' U, s.WarmedH U.vm → w.before a' U = true) (hcode : Cond.codeWith y bytes maxL ret hh ∈ ws) (hinit : ∀ a' U, s.WarmedH U.vm → (Cond.initialized y.cls).before a' U = true) :
    vx_Back l R p e below s sargs y len W9 (PreOf R mc ms Pc) (PostOf Qc mc ms free) (vx_Post XC mc ms free) := by
  intro m meth c A g ig mk a X hg hsize hdg hW hn hp
  have h1 : (headSpec ws rm).pre.before a A.U = true := atoms_intro fun w hw => hws w hw _ _ X.warmed
  have h2 : (Cond.codeWith y bytes maxL ret hh).before a A.U = true := hws _ hcode _ _ X.warmed
  have h3 : (Cond.initialized y.cls).before a A.U = true := hinit _ _ X.warmed
  have h4 : A.cells + (headSpec ws rm).room.cells ≤ R.cells := by rw [show (headSpec ws rm).room.cells = mc from hrc]; exact hp.1
  have h5 : A.slots + (headSpec ws rm).room.slots ≤ R.slots := by rw [show (headSpec ws rm).room.slots = ms from hrs]; exact hp.2.1
  have hPc : Pc a (A.U.calling g mk a) := hblind _ _ _ _ hp.2.2
  obtain ⟨U, Ls, c0, s0⟩ := A
  dsimp only [Pt.U, Pt.locs, Pt.cells, Pt.slots] at h1 h2 h3 h4 h5 X hn hPc ⊢
  obtain ⟨m9, methY, cY, hn9, hmY, hcY, -, hlY, -⟩ := Cond.codeWith_spec h2
  cases Option.some.inj (hn9.symm.trans hn)
  obtain ⟨kY, hkY, -⟩ := className_of_methodNamed hn
  have hinitY : kY.init = .initialized := Cond.initialized_spec (findClass_of_methodNamed hn) hkY h3
  have h : At U g.method c below := by rw [hg]; exact X.here
  have hlocals9 : W9 + (maxL + 11) + (headSpec ws rm).room.locals ≤ R.locals := hlocals
  have happ : (headSpec ws rm).appliesLoose y e.platform (U.calling g mk a) = true :=
    Spec.appliesLoose_calling (g := g) h hdg hn hkY hinitY
      (X.room_calling (g := g) (R' := (headSpec ws rm).room) hsize hmY hcY hframes (by rw [hlY]; omega) h4 h5) h1
  obtain ⟨mid, hmid⟩ := h.above
  have hfr : (U.setTop g).frames = (.java g :: mid) ++ below := by rw [State.frames_setTop' g h.top, hmid]; rfl
  obtain ⟨o, s₂, hsteps, -, hend, hq⟩ := Steps.callFree hM p X.admits X.cas X.clock (acts := []) hfr happ hPc trivial
  have hq' : vx_Q Qc XC mc ms free a (U.calling g mk a) o s₂ := hq
  rw [State.frames_setTop' g h.top] at hend
  obtain ⟨g₀, hg0⟩ := Option.isSome_iff_exists.mp h.top
  obtain ⟨r, hr⟩ := State.topJava?_eq_some.mp hg0
  have hr' : (({ U with heap := s₂.heap, slotsUsed := s₂.slotsUsed } : State).setVm s₂.vm).frames = .java g₀ :: r := hr
  rcases hq' with ⟨hqc, L, hfe, hL⟩ | ⟨q, rfl, E, ce, L, hx, hce, hcv, hcl, hW₂, hsm, hL⟩
  · obtain ⟨⟨v, rfl⟩, hW₂, e2, q2, q3, q4, q5, q6⟩ := id hfe
    have e3 : s₂ = ({ (U.calling g mk a).setFrames s₂.frames with heap := s₂.heap, slotsUsed := s₂.slotsUsed } : State).setVm s₂.vm := by
      have : s₂ = ({ s₂ with vm := (U.calling g mk a).vm } : State).setVm s₂.vm := rfl
      rw [e2] at this
      exact this
    obtain ⟨c₂, i₂, len₂, hc₂, hd₂, hf₂⟩ := hend
    have hW' : U.WarmedH s₂.vm := hW₂
    have hcc : c₂ = c := by
      have h1 : s₂.code? g.method = U.code? g.method := by
        rw [State.code?_eq, State.code?_eq, hW'.alike.method?]
      exact Option.some.inj (hc₂.symm.trans (h1.trans h.code))
    subst hcc
    have hlen : len₂ = len := by rw [hdg] at hd₂; cases hd₂; rfl
    subst hlen
    have hs₂ : s₂ = (({ U with heap := s₂.heap, slotsUsed := s₂.slotsUsed } : State).setVm s₂.vm).setTop { g with pc := g.pc + len₂, stack := v.toList ++ g.stack } := by
      refine e3.trans ?_
      rw [hf₂, State.calling_eq h.top, State.setFrames_setFrames, State.setTop_of_frames _ hr', hr]
      rfl
    have hsame : U.sameButNew ({ U with heap := s₂.heap, slotsUsed := s₂.slotsUsed } : State) L mc ms := by
      refine ⟨?_, q2, q3, q4, q5, q6⟩
      obtain ⟨t, ht, -⟩ := State.frames_cons hr
      show ({ U with heap := s₂.heap, slotsUsed := s₂.slotsUsed } : State) = { U.setFrames U.frames with heap := s₂.heap, slotsUsed := s₂.slotsUsed }
      rw [State.setFrames_self ht]
    subst hg
    refine Or.inl ⟨v, ⟨(({ U with heap := s₂.heap, slotsUsed := s₂.slotsUsed } : State).setVm s₂.vm), Ls ++ L, c0 + mc, s0 + ms⟩,
      ⟨X.admits, X.cas, X.clock, X.frames, X.room, X.hears, X.method, X.code, (X.here.setHeapUsed s₂.heap s₂.slotsUsed).setVm hW'.alike, X.tail, State.WarmedH.trans X.warmed hW', X.limits, X.bytes, X.same.trans (hsame.setVm s.vm)⟩,
      ⟨g, mk, s₂, L, rfl, rfl, hqc, rfl, hL, rfl, rfl⟩, ?_⟩
    show Steps p.tables e below _ ((({ U with heap := s₂.heap, slotsUsed := s₂.slotsUsed } : State).setVm s₂.vm).setTop { g with pc := g.pc + len₂, stack := v.toList ++ g.stack })
    rw [← hs₂]
    exact hsteps
  · obtain ⟨e2, q2, q3, q4, q5, q6⟩ := id hsm
    have e3 : s₂ = ({ (U.calling g mk a).setFrames s₂.frames with heap := s₂.heap, slotsUsed := s₂.slotsUsed } : State).setVm s₂.vm := by
      have : s₂ = ({ s₂ with vm := (U.calling g mk a).vm } : State).setVm s₂.vm := rfl
      rw [e2] at this
      exact this
    have hf₂ : s₂.frames = .throwing q :: .java g :: U.frames.tail := hend
    have hW' : U.WarmedH s₂.vm := hW₂
    have hs₂ : s₂ = ((({ U with heap := s₂.heap, slotsUsed := s₂.slotsUsed } : State).setVm s₂.vm).setTop g).pushFrame (.throwing q) := by
      refine e3.trans ?_
      rw [hf₂, State.calling_eq h.top, State.setFrames_setFrames, State.pushFrame, State.frames_setTop _ hr', State.setTop_of_frames _ hr', State.setFrames_setFrames, hr]
      rfl
    have hsame : U.sameButNew ({ U with heap := s₂.heap, slotsUsed := s₂.slotsUsed } : State) L mc ms := by
      refine ⟨?_, q2, q3, q4, q5, q6⟩
      obtain ⟨t, ht, -⟩ := State.frames_cons hr
      show ({ U with heap := s₂.heap, slotsUsed := s₂.slotsUsed } : State) = { U.setFrames U.frames with heap := s₂.heap, slotsUsed := s₂.slotsUsed }
      rw [State.setFrames_self ht]
    subst hg
    refine Or.inr ⟨q, ⟨(({ U with heap := s₂.heap, slotsUsed := s₂.slotsUsed } : State).setVm s₂.vm), Ls ++ L, c0 + mc, s0 + ms⟩,
      ⟨X.admits, X.cas, X.clock, X.frames, X.room, X.hears, X.method, X.code, (X.here.setHeapUsed s₂.heap s₂.slotsUsed).setVm hW'.alike, X.tail, State.WarmedH.trans X.warmed hW', X.limits, X.bytes, X.same.trans (hsame.setVm s.vm)⟩,
      ⟨g, mk, s₂, L, E, ce, rfl, rfl, hx, hce, hcv, hcl, rfl, hL, rfl, rfl⟩, ?_⟩
    show Steps p.tables e below _ (((({ U with heap := s₂.heap, slotsUsed := s₂.slotsUsed } : State).setVm s₂.vm).setTop g).pushFrame (.throwing q))
    rw [← hs₂]
    exact hsteps
end
variable {p : Program} {l : Launch} {e : Env} {R : Room} {s : State} {m : MethodId} {args : Array Value} {below : List Frame} {meth : Method} {c : Code} {T : State} {H : Heap} {locs : List Loc} {cells slots : Nat}
theorem vx_callVX (X : Stand p l e R s m args below meth c T locs cells slots) (hexec : p.tables.exec = Jvm.exec) {own C : String} {index : Nat} {y : MethodName} {bytes : ByteArray} {maxL : Nat} {ret : Option FieldType} {hh : List (Nat × Nat × Nat × Nat)}
    (hown : s.vm.findClass own = some m.cls) (hlink : (Cond.methodLink own index y).before args s = true) (hinst : (Cond.instanceMethod y).before args s = true) (hsel : (Cond.selects C y y).before args s = true)
    (hcode : (Cond.codeWith y bytes maxL ret hh).before args s = true) (hy : y.cls ≠ "java/lang/invoke/MethodHandle" ∧ y.cls ≠ "java/lang/invoke/VarHandle")
    {W9 : Nat} {Pre : Pt → Array Value → Prop} {Post : Pt → Array Value → Option Value → Pt → Prop} {PostX : Pt → Array Value → Addr → Pt → Prop} (hK : vx_Back l R p e below s args y 3 W9 Pre Post PostX)
    {b : Addr} {cellB : Cell} (hcell : T.heap[b]? = some cellB) (hobj : cellB.vm.isStatics = false) (hcls : s.vm.findClass C = some cellB.cls)
    {g : JFrame} (hg : g.method = m) (hsize : g.locals.size = c.maxLocals) {argsL rest : List Value} (hlen : ∀ sig, parseMethodDescriptor y.desc = some sig → argsL.length = sig.parameters.length)
    (hstack : g.stack = argsL.reverse ++ .ref b :: rest) (hW : 2 * g.monitorRoom + (rest.map fun v => v.category).sum ≤ W9) (hdg : decode c.code g.pc = .ok (.invokevirtual index, 3))
    (hpre : ∀ vm₁, s.WarmedH vm₁ → Pre ⟨T.setVm vm₁, locs, cells, slots⟩ (Value.ref b :: argsL).toArray) :
    (∃ (v : Option Value) (vm₁ : Vm) (B : Pt), s.WarmedH vm₁ ∧ Stand p l e R s m args below meth c B.U B.locs B.cells B.slots ∧ Post ⟨T.setVm vm₁, locs, cells, slots⟩ (Value.ref b :: argsL).toArray v B ∧
      ∀ target, Steps p.tables e below (B.U.setTop { g with pc := g.pc + 3, stack := v.toList ++ rest }) target → Steps p.tables e below (T.setTop g) target) ∨
    (∃ (q : Addr) (vm₁ : Vm) (B : Pt), s.WarmedH vm₁ ∧ Stand p l e R s m args below meth c B.U B.locs B.cells B.slots ∧ PostX ⟨T.setVm vm₁, locs, cells, slots⟩ (Value.ref b :: argsL).toArray q B ∧
      Steps p.tables e below (T.setTop g) ((B.U.setTop { g with stack := rest }).pushFrame (.throwing q))) := by
  obtain ⟨mk, methM, hnamed, hmethM, hstM, habM⟩ := Cond.instanceMethod_spec hinst
  obtain ⟨m8, methM', cM, hn8, hmethM', -, -, -, -, -, -, hsigM⟩ := Cond.codeWith_spec hcode
  cases Option.some.inj (hn8.symm.trans hnamed)
  cases hmethM.symm.trans hmethM'
  obtain ⟨c2, r2, m2, q1, q2, q3, q4, kP, hkP, hkPi⟩ := Cond.selects_spec hsel
  cases hcls.symm.trans q1
  cases (State.methodFound?_of_named hnamed hy).symm.trans q2
  cases hnamed.symm.trans q3
  have hselP : selectMethod e.platform s.vm cellB.cls mk = .method mk := by rw [Launch.admits_selectMethod X.admits]; exact q4
  obtain ⟨vm₁, X₁, hstep₁⟩ := X.invokevirtual hexec hown hlink hnamed hmethM hstM hkP hkPi hy (a := b) (cell := cellB) hcell
    (fun z h => by rw [h] at hobj; cases hobj) hselP hmethM habM hkP hkPi (g := g) hg (argsL := argsL) (rest := rest) (hlen _ hsigM) hstack hdg
  rcases hK m meth c ⟨T.setVm vm₁, locs, cells, slots⟩ { g with stack := rest } (.invokevirtual index) mk (Value.ref b :: argsL).toArray X₁ hg hsize hdg hW (X₁.named hnamed) (hpre vm₁ X₁.warmed) with ⟨v, B, X', hpost, hsteps⟩ | ⟨q, B, X', hpost, hsteps⟩
  · exact Or.inl ⟨v, vm₁, B, X₁.warmed, X', hpost, fun target h => hstep₁ _ fun acts => by rw [doInvoke_state]; exact hsteps.trans h⟩
  · exact Or.inr ⟨q, vm₁, B, X₁.warmed, X', hpost, hstep₁ _ fun acts => by rw [doInvoke_state]; exact hsteps⟩
theorem vx_callSX (X : Stand p l e R s m args below meth c T locs cells slots) (hexec : p.tables.exec = Jvm.exec) {own : String} {index : Nat} {y : MethodName} {bytes : ByteArray} {maxL : Nat} {ret : Option FieldType} {hh : List (Nat × Nat × Nat × Nat)}
    (hown : s.vm.findClass own = some m.cls) (hlink : (Cond.methodLink own index y).before args s = true) (hstat : (Cond.static y).before args s = true) (hinit : (Cond.initialized y.cls).before args s = true)
    (hcode : (Cond.codeWith y bytes maxL ret hh).before args s = true) (hy : y.cls ≠ "java/lang/invoke/MethodHandle" ∧ y.cls ≠ "java/lang/invoke/VarHandle")
    {W9 : Nat} {Pre : Pt → Array Value → Prop} {Post : Pt → Array Value → Option Value → Pt → Prop} {PostX : Pt → Array Value → Addr → Pt → Prop} (hK : vx_Back l R p e below s args y 3 W9 Pre Post PostX)
    {g : JFrame} (hg : g.method = m) (hsize : g.locals.size = c.maxLocals) {argsL rest : List Value} (hlen : ∀ sig, parseMethodDescriptor y.desc = some sig → argsL.length = sig.parameters.length)
    (hstack : g.stack = argsL.reverse ++ rest) (hW : 2 * g.monitorRoom + (rest.map fun v => v.category).sum ≤ W9) (hdg : decode c.code g.pc = .ok (.invokestatic index, 3))
    (hpre : ∀ vm₁, s.WarmedH vm₁ → Pre ⟨T.setVm vm₁, locs, cells, slots⟩ argsL.toArray) :
    (∃ (v : Option Value) (vm₁ : Vm) (B : Pt), s.WarmedH vm₁ ∧ Stand p l e R s m args below meth c B.U B.locs B.cells B.slots ∧ Post ⟨T.setVm vm₁, locs, cells, slots⟩ argsL.toArray v B ∧
      ∀ target, Steps p.tables e below (B.U.setTop { g with pc := g.pc + 3, stack := v.toList ++ rest }) target → Steps p.tables e below (T.setTop g) target) ∨
    (∃ (q : Addr) (vm₁ : Vm) (B : Pt), s.WarmedH vm₁ ∧ Stand p l e R s m args below meth c B.U B.locs B.cells B.slots ∧ PostX ⟨T.setVm vm₁, locs, cells, slots⟩ argsL.toArray q B ∧
      Steps p.tables e below (T.setTop g) ((B.U.setTop { g with stack := rest }).pushFrame (.throwing q))) := by
  obtain ⟨mk, methM, cM, hnamed, hmethM, -, -, -, -, -, -, hsigM⟩ := Cond.codeWith_spec hcode
  have hstatic : methM.isStatic = true := Cond.static_spec hnamed hmethM hstat
  obtain ⟨kP, hkP, -⟩ := className_of_methodNamed hnamed
  have hinitP : kP.init = .initialized := Cond.initialized_spec (findClass_of_methodNamed hnamed) hkP hinit
  obtain ⟨vm₁, X₁, hstep₁⟩ := X.invokestatic hexec hown hlink hnamed hmethM hstatic hkP hinitP hy (g := g) hg (argsL := argsL) (rest := rest) (hlen _ hsigM) hstack hdg
  rcases hK m meth c ⟨T.setVm vm₁, locs, cells, slots⟩ { g with stack := rest } (.invokestatic index) mk argsL.toArray X₁ hg hsize hdg hW (X₁.named hnamed) (hpre vm₁ X₁.warmed) with ⟨v, B, X', hpost, hsteps⟩ | ⟨q, B, X', hpost, hsteps⟩
  · exact Or.inl ⟨v, vm₁, B, X₁.warmed, X', hpost, fun target h => hstep₁ _ fun acts => by rw [doInvoke_state]; exact hsteps.trans h⟩
  · exact Or.inr ⟨q, vm₁, B, X₁.warmed, X', hpost, hstep₁ _ fun acts => by rw [doInvoke_state]; exact hsteps⟩
theorem vx_callVW (X : Stand p l e R s m args below meth c T locs cells slots) (hexec : p.tables.exec = Jvm.exec) {own C : String} {index : Nat} {y : MethodName} {bytes : ByteArray} {maxL : Nat} {ret : Option FieldType} {hh : List (Nat × Nat × Nat × Nat)}
    (hown : s.vm.findClass own = some m.cls) (hlink : (Cond.methodLink own index y).before args s = true) (hinst : (Cond.instanceMethod y).before args s = true) (hsel : (Cond.selects C y y).before args s = true)
    (hcode : (Cond.codeWith y bytes maxL ret hh).before args s = true) (hy : y.cls ≠ "java/lang/invoke/MethodHandle" ∧ y.cls ≠ "java/lang/invoke/VarHandle")
    {W9 : Nat} {Pre : Pt → Array Value → Prop} {Post : Pt → Array Value → Option Value → Pt → Prop} (hK : Back l R p e below s args y 3 W9 Pre Post)
    {b : Addr} {cellB : Cell} (hcell : T.heap[b]? = some cellB) (hobj : cellB.vm.isStatics = false) (hcls : s.vm.findClass C = some cellB.cls)
    {g : JFrame} (hg : g.method = m) (hsize : g.locals.size = c.maxLocals) {argsL rest : List Value} (hlen : ∀ sig, parseMethodDescriptor y.desc = some sig → argsL.length = sig.parameters.length)
    (hstack : g.stack = argsL.reverse ++ .ref b :: rest) (hW : 2 * g.monitorRoom + (rest.map fun v => v.category).sum ≤ W9) (hdg : decode c.code g.pc = .ok (.invokevirtual index, 3))
    (hpre : ∀ vm₁, s.WarmedH vm₁ → Pre ⟨T.setVm vm₁, locs, cells, slots⟩ (Value.ref b :: argsL).toArray) :
    ∃ (v : Option Value) (vm₁ : Vm) (B : Pt), s.WarmedH vm₁ ∧ Stand p l e R s m args below meth c B.U B.locs B.cells B.slots ∧ Post ⟨T.setVm vm₁, locs, cells, slots⟩ (Value.ref b :: argsL).toArray v B ∧
      ∀ target, Steps p.tables e below (B.U.setTop { g with pc := g.pc + 3, stack := v.toList ++ rest }) target → Steps p.tables e below (T.setTop g) target := by
  obtain ⟨mk, methM, hnamed, hmethM, hstM, habM⟩ := Cond.instanceMethod_spec hinst
  obtain ⟨m8, methM', cM, hn8, hmethM', -, -, -, -, -, -, hsigM⟩ := Cond.codeWith_spec hcode
  cases Option.some.inj (hn8.symm.trans hnamed)
  cases hmethM.symm.trans hmethM'
  obtain ⟨c2, r2, m2, q1, q2, q3, q4, kP, hkP, hkPi⟩ := Cond.selects_spec hsel
  cases hcls.symm.trans q1
  cases (State.methodFound?_of_named hnamed hy).symm.trans q2
  cases hnamed.symm.trans q3
  have hselP : selectMethod e.platform s.vm cellB.cls mk = .method mk := by rw [Launch.admits_selectMethod X.admits]; exact q4
  obtain ⟨vm₁, X₁, hstep₁⟩ := X.invokevirtual hexec hown hlink hnamed hmethM hstM hkP hkPi hy (a := b) (cell := cellB) hcell
    (fun z h => by rw [h] at hobj; cases hobj) hselP hmethM habM hkP hkPi (g := g) hg (argsL := argsL) (rest := rest) (hlen _ hsigM) hstack hdg
  obtain ⟨v, B, X', hpost, hsteps⟩ := hK m meth c ⟨T.setVm vm₁, locs, cells, slots⟩ { g with stack := rest } (.invokevirtual index) mk (Value.ref b :: argsL).toArray X₁ hg hsize hdg hW (X₁.named hnamed) (hpre vm₁ X₁.warmed)
  exact ⟨v, vm₁, B, X₁.warmed, X', hpost, fun target h => hstep₁ _ fun acts => by rw [doInvoke_state]; exact hsteps.trans h⟩
abbrev vx_CVW (R : Room) (s : State) (args : Array Value) (own C : String) (index : Nat) (y : MethodName) (bytes : ByteArray) (maxL : Nat) (ret : Option FieldType) (hh : List (Nat × Nat × Nat × Nat)) (ws : List Cond) (rm : Room) (mc ms n : Nat) : Prop :=
  (rm.cells = mc ∧ rm.slots = ms ∧ rm.frames + 1 ≤ R.frames ∧ 8 + (maxL + 11) + rm.locals ≤ R.locals ∧ (∀ w ∈ ws, ∀ (a' : Array Value) (U : State), s.WarmedH U.vm → w.before a' U = true) ∧ Cond.codeWith y bytes maxL ret hh ∈ ws) ∧
  (Cond.codeWith y bytes maxL ret hh).before args s = true ∧ (Cond.initialized y.cls).before args s = true ∧ (y.cls ≠ "java/lang/invoke/MethodHandle" ∧ y.cls ≠ "java/lang/invoke/VarHandle") ∧
  (∀ sig, parseMethodDescriptor y.desc = some sig → n = sig.parameters.length) ∧ (Cond.methodLink own index y).before args s = true ∧ (Cond.instanceMethod y).before args s = true ∧ (Cond.selects C y y).before args s = true
theorem vx_cwVW {own C : String} {index maxL mc ms : Nat} {y : MethodName} {bytes : ByteArray} {ret : Option FieldType} {hh : List (Nat × Nat × Nat × Nat)} {Ts ws ws' : List Cond} {rm : Room} (n : Nat) (ht : ∀ w ∈ Ts, w.before args s = true) (hT : GoodIn Ts (wsV own index C y ws)) (hw : ws = Cond.codeWith y bytes maxL ret hh :: ws') (hrc : rm.cells = mc) (hrs : rm.slots = ms)
    (hd : y.cls = C ∧ y.cls ≠ "java/lang/invoke/MethodHandle" ∧ y.cls ≠ "java/lang/invoke/VarHandle" ∧ (parseMethodDescriptor y.desc).map (fun d => d.parameters.length) = some n) (hR : rm.frames + 1 ≤ R.frames ∧ 8 + (maxL + 11) + rm.locals ≤ R.locals) :
    vx_CVW R s args own C index y bytes maxL ret hh ws rm mc ms n := by
  obtain ⟨hC, hd⟩ := hd
  subst hC
  have ok : ∀ w ∈ wsV own index y.cls y ws, w.before args s = true := fun w h => ht w (hT w h).1
  have hG : GoodIn Ts ws := fun w h => hT w (by unfold wsV; exact List.mem_append_right _ h)
  have hc : Cond.codeWith y bytes maxL ret hh ∈ ws := by rw [hw]; exact List.mem_cons_self
  refine ⟨⟨hrc, hrs, hR.1, hR.2, pay_in ht hG, hc⟩, ht _ (hG _ hc).1, ok _ (by simp [wsV]), ⟨hd.1, hd.2.1⟩, fun sig h => ?_, ok _ (by simp [wsV]), ok _ (by simp [wsV]), ok _ (by simp [wsV])⟩
  have h2 := hd.2.2
  rw [h] at h2
  exact (Option.some.inj h2).symm
theorem vx_runVW {y : MethodName} {bytes cc : ByteArray} {maxL nL mc ms n index : Nat} {ret : Option FieldType} {hh : List (Nat × Nat × Nat × Nat)} {ws : List Cond} {rm : Room} {Pc : Array Value → State → Prop} {Qc : Array Value → State → Outcome → State → Prop} {free : Addr → Prop} {Ts : List Cond} {own C : String} {b : Addr} {As rest : List Value} {g : JFrame}
    (S : CallFix p m c cc nL s args Ts own) (hM : Met l y ws rm Pc Qc mc ms free) (cw : vx_CVW R s args own C index y bytes maxL ret hh ws rm mc ms n) (hp : PreV s H C b Pc As)
    (hg : g.method = m) (hn : As.length = n) (hsize : g.locals.size = nL) (hstack : g.stack = As.reverse ++ .ref b :: rest) (hW : 2 * g.monitorRoom + (rest.map fun v => v.category).sum ≤ 8) (hdg : decode cc g.pc = .ok (.invokevirtual index, 3)) (hf : cells + mc ≤ R.cells ∧ slots + ms ≤ R.slots) :
    va_Run p l e R s m args below meth c H locs cells slots mc ms g rest (Qc (Value.ref b :: As).toArray) free := by
  obtain ⟨⟨hrc, hrs, hfr, hlo, hws, hcw⟩, hcode, hini, hy, hlen, hl, hin, hse⟩ := cw
  have hK : Back l R p e below s args y 3 8 (PreOf R mc ms Pc) (PostOf Qc mc ms free) := va_backW (hh := hh) (bytes := bytes) (maxL := maxL) (ret := ret) hM hp.1 hrc hrs hfr hlo hws hcw (fun a' U hW => word_at hW (Or.inl (by first | rfl | simp [Cond.onTables, Cond.keeps, Cond.steady])) hini)
  obtain ⟨hx, hb, hml, ho, -⟩ := S
  obtain ⟨-, ⟨cellB, hcB, hoB, hclB⟩, hPc⟩ := hp
  intro T hT X
  obtain ⟨v, vm₁, ⟨U', l2, c2, s2⟩, hW₁, X', ⟨g', mk, t, L, e1, e2, hq, h1, hL, h2, h3⟩, st⟩ := vx_callVW X hx (C := C) (hh := hh) (bytes := bytes) (maxL := maxL) (ret := ret) ho hl hin hse hcode hy hK (by rw [hT]; exact hcB) hoB hclB hg (hsize.trans hml.symm) (argsL := As) (rest := rest) (fun sig h => hn.trans (hlen sig h)) hstack hW (by rw [hb]; exact hdg)
    (fun vm₁ hW₁ => ⟨hf.1, hf.2, hPc (T.setVm vm₁) hT hW₁⟩)
  dsimp only [Pt.U, Pt.locs, Pt.cells, Pt.slots] at X' e1 e2 h1 h2 h3 st
  subst h1; subst h2; subst h3
  exact ⟨v, (T.setVm vm₁).calling g' mk (Value.ref b :: As).toArray, t, U', L, hT, X', hL, e1, e2, hq, st⟩
section
variable {y : MethodName} {bytes cc : ByteArray} {maxL nL mc ms n index : Nat} {ret : Option FieldType} {ws : List Cond} {rm : Room} {Pc : Array Value → State → Prop} {Qc : Array Value → State → Outcome → State → Prop} {XC : String → State → State → Prop} {free : Addr → Prop} {Ts : List Cond} {own C : String} {b : Addr} {As rest : List Value} {g : JFrame}
theorem vx_runVX {hh : List (Nat × Nat × Nat × Nat)} (S : CallFix p m c cc nL s args Ts own) (hM : vx_Met l y ws rm Pc Qc XC mc ms free) (cw : vx_CVW R s args own C index y bytes maxL ret hh ws rm mc ms n) (hp : PreV s H C b Pc As)
    (hg : g.method = m) (hn : As.length = n) (hsize : g.locals.size = nL) (hstack : g.stack = As.reverse ++ .ref b :: rest) (hW : 2 * g.monitorRoom + (rest.map fun v => v.category).sum ≤ 8) (hdg : decode cc g.pc = .ok (.invokevirtual index, 3)) (hf : cells + mc ≤ R.cells ∧ slots + ms ≤ R.slots) :
    vx_Run p l e R s m args below meth c H locs cells slots mc ms g rest (Qc (Value.ref b :: As).toArray) XC free := by
  obtain ⟨⟨hrc, hrs, hfr, hlo, hws, hcw⟩, hcode, hini, hy, hlen, hl, hin, hse⟩ := cw
  have hK : vx_Back l R p e below s args y 3 8 (PreOf R mc ms Pc) (PostOf Qc mc ms free) (vx_Post XC mc ms free) := vx_backW (hh := hh) (bytes := bytes) (maxL := maxL) (ret := ret) hM hp.1 hrc hrs hfr hlo hws hcw (fun a' U hW => word_at hW (Or.inl (by first | rfl | simp [Cond.onTables, Cond.keeps, Cond.steady])) hini)
  obtain ⟨hx, hb, hml, ho, -⟩ := S
  obtain ⟨-, ⟨cellB, hcB, hoB, hclB⟩, hPc⟩ := hp
  intro T hT X
  rcases vx_callVX X hx (C := C) (hh := hh) (bytes := bytes) (maxL := maxL) (ret := ret) ho hl hin hse hcode hy hK (by rw [hT]; exact hcB) hoB hclB hg (hsize.trans hml.symm) (argsL := As) (rest := rest) (fun sig h => hn.trans (hlen sig h)) hstack hW (by rw [hb]; exact hdg)
    (fun vm₁ hW₁ => ⟨hf.1, hf.2, hPc (T.setVm vm₁) hT hW₁⟩) with ⟨v, vm₁, ⟨U', l2, c2, s2⟩, hW₁, X', ⟨g', mk, t, L, e1, e2, hq, h1, hL, h2, h3⟩, st⟩ | ⟨q, vm₁, ⟨U', l2, c2, s2⟩, hW₁, X', ⟨g', mk, t, L, E, ce, e1, e2, hq, hce, hcv, hcl, h1, hL, h2, h3⟩, st⟩
  · dsimp only [Pt.U, Pt.locs, Pt.cells, Pt.slots] at X' e1 e2 h1 h2 h3 st
    subst h1; subst h2; subst h3
    exact Or.inl ⟨v, (T.setVm vm₁).calling g' mk (Value.ref b :: As).toArray, t, U', L, hT, X', hL, e1, e2, hq, st⟩
  · dsimp only [Pt.U, Pt.locs, Pt.cells, Pt.slots] at X' e1 e2 h1 h2 h3 st hcl
    subst h1; subst h2; subst h3
    exact Or.inr ⟨q, (T.setVm vm₁).calling g' mk (Value.ref b :: As).toArray, t, U', L, E, ce, hT, X', hL, e1, e2, hq, hce, hcv, vx_cls hW₁ hcl, st⟩
theorem vx_runSX {hh : List (Nat × Nat × Nat × Nat)} (S : CallFix p m c cc nL s args Ts own) (hM : vx_Met l y ws rm Pc Qc XC mc ms free) (cw : vx_CSW R s args own index y bytes maxL ret hh ws rm mc ms n) (hp : PreS s H Pc As)
    (hg : g.method = m) (hn : As.length = n) (hsize : g.locals.size = nL) (hstack : g.stack = As.reverse ++ rest) (hW : 2 * g.monitorRoom + (rest.map fun v => v.category).sum ≤ 8) (hdg : decode cc g.pc = .ok (.invokestatic index, 3)) (hf : cells + mc ≤ R.cells ∧ slots + ms ≤ R.slots) :
    vx_Run p l e R s m args below meth c H locs cells slots mc ms g rest (Qc As.toArray) XC free := by
  obtain ⟨⟨hrc, hrs, hfr, hlo, hws, hcw⟩, hcode, hini, hy, hlen, hl, hstt⟩ := cw
  have hK : vx_Back l R p e below s args y 3 8 (PreOf R mc ms Pc) (PostOf Qc mc ms free) (vx_Post XC mc ms free) := vx_backW (hh := hh) (bytes := bytes) (maxL := maxL) (ret := ret) hM hp.1 hrc hrs hfr hlo hws hcw (fun a' U hW => word_at hW (Or.inl (by first | rfl | simp [Cond.onTables, Cond.keeps, Cond.steady])) hini)
  obtain ⟨hx, hb, hml, ho, -⟩ := S
  intro T hT X
  rcases vx_callSX X hx (hh := hh) (bytes := bytes) (maxL := maxL) (ret := ret) ho hl hstt hini hcode hy hK hg (hsize.trans hml.symm) (argsL := As) (rest := rest) (fun sig h => hn.trans (hlen sig h)) hstack hW (by rw [hb]; exact hdg)
    (fun vm₁ hW₁ => ⟨hf.1, hf.2, hp.2 (T.setVm vm₁) hT hW₁⟩) with ⟨v, vm₁, ⟨U', l2, c2, s2⟩, hW₁, X', ⟨g', mk, t, L, e1, e2, hq, h1, hL, h2, h3⟩, st⟩ | ⟨q, vm₁, ⟨U', l2, c2, s2⟩, hW₁, X', ⟨g', mk, t, L, E, ce, e1, e2, hq, hce, hcv, hcl, h1, hL, h2, h3⟩, st⟩
  · dsimp only [Pt.U, Pt.locs, Pt.cells, Pt.slots] at X' e1 e2 h1 h2 h3 st
    subst h1; subst h2; subst h3
    exact Or.inl ⟨v, (T.setVm vm₁).calling g' mk As.toArray, t, U', L, hT, X', hL, e1, e2, hq, st⟩
  · dsimp only [Pt.U, Pt.locs, Pt.cells, Pt.slots] at X' e1 e2 h1 h2 h3 st hcl
    subst h1; subst h2; subst h3
    exact Or.inr ⟨q, (T.setVm vm₁).calling g' mk As.toArray, t, U', L, E, ce, hT, X', hL, e1, e2, hq, hce, hcv, vx_cls hW₁ hcl, st⟩
end
end VXH
theorem vx_ofWH {l : Launch} {y : MethodName} {ws ws' : List Cond} {rm : Room} {Pc : Array Value → State → Prop} {Qc : Array Value → State → Outcome → State → Prop} {XC : String → State → State → Prop} {mc ms : Nat} {free : Addr → Prop} {cc : ByteArray} {maxL : Nat} {ret : Option FieldType} {hh : List (Nat × Nat × Nat × Nat)}
    (hy : plainName y.cls = true) (hw : ws = Cond.codeWith y cc maxL ret hh :: ws')
    (body : ∀ p e s m args below meth c s₁, BodyLoose p l y (headSpec ws rm) cc maxL ret e s m args below meth c s₁ → c.maxLocals = maxL → Pc args s →
      W p l e (headSpec ws rm).room s m args below meth c s.heap [] 0 0 (vx_MQ below Qc XC args s mc ms free) (entryFrame m args maxL)) : vx_Met l y ws rm Pc Qc XC mc ms free := by
  refine MetFree.of_bodyS (code := cc) (maxLocals := maxL) (ret := ret) hy ?_ ?_
  · intro args s m h hn
    obtain ⟨m9, meth, c, hn9, h1, h2, h3, h4, -, h5, h6, -⟩ := Cond.codeWith_spec (atoms_spec (ws := ws) h _ (by rw [hw]; exact List.mem_cons_self))
    cases hn.symm.trans hn9
    exact ⟨meth, c, h1, h2, h3, h4, h5, h6⟩
  · intro p e s m args below meth c s₁ B hml hP _
    have hh0 : s₁.heap = s.heap := by rw [B.state]; rfl
    obtain ⟨t, a1, o, b1, b2, b3⟩ := body p e s m args below meth c s₁ B hml hP s₁ hh0 (Stand.of_body B)
    exact ⟨t, o, a1, b1, b2, b3⟩
/-! ===== END ===== -/
end
section
-- ===== PART A: goes FIRST, ahead of the names: the tables' words, and 'selects' of the private methods out of them =====
/-- a private method of a class that the tables say can be made, by its rows of tables_1 -/
def lw_okq (q : MethodName × Nat) : Prop := (q.1.cls ≠ "java/lang/invoke/MethodHandle" ∧ q.1.cls ≠ "java/lang/invoke/VarHandle") ∧ Cond.instantiable q.1.cls q.2 ∈ tables_1 ∧ Cond.privateMethod q.1 ∈ tables_1 ∧ Cond.instanceMethod q.1 ∈ tables_1
theorem lw_p0 : lw_okq (⟨"ChangeUntangler", "putTogether", "()V"⟩, 9) := ⟨⟨by decide +kernel, by decide +kernel⟩, List.mem_of_getElem? (i := 19) (by decide +kernel), List.mem_of_getElem? (i := 225) (by decide +kernel), List.mem_of_getElem? (i := 226) (by decide +kernel)⟩
theorem lw_p1 : lw_okq (⟨"ChangeUntangler$Evidence", "isNear", "(LChangeUntangler$Pieces;II)Z"⟩, 2) := ⟨⟨by decide +kernel, by decide +kernel⟩, List.mem_of_getElem? (i := 83) (by decide +kernel), List.mem_of_getElem? (i := 241) (by decide +kernel), List.mem_of_getElem? (i := 242) (by decide +kernel)⟩
theorem lw_p2 : lw_okq (⟨"ChangeUntangler$Groups", "joinWhatMust", "(ILChangeUntangler$Sayings;)V"⟩, 6) := ⟨⟨by decide +kernel, by decide +kernel⟩, List.mem_of_getElem? (i := 111) (by decide +kernel), List.mem_of_getElem? (i := 270) (by decide +kernel), List.mem_of_getElem? (i := 271) (by decide +kernel)⟩
theorem lw_p3 : lw_okq (⟨"ChangeUntangler$Groups", "joinNearest", "(LChangeUntangler$Sayings;)Z"⟩, 6) := ⟨⟨by decide +kernel, by decide +kernel⟩, List.mem_of_getElem? (i := 111) (by decide +kernel), List.mem_of_getElem? (i := 281) (by decide +kernel), List.mem_of_getElem? (i := 282) (by decide +kernel)⟩
theorem lw_p4 : lw_okq (⟨"ChangeUntangler$Groups", "join", "(II)V"⟩, 6) := ⟨⟨by decide +kernel, by decide +kernel⟩, List.mem_of_getElem? (i := 111) (by decide +kernel), List.mem_of_getElem? (i := 302) (by decide +kernel), List.mem_of_getElem? (i := 303) (by decide +kernel)⟩
theorem lw_p5 : lw_okq (⟨"ChangeUntangler$Parcels", "findNeeds", "(LChangeUntangler$Pieces;LChangeUntangler$Code;LChangeUntangler$Groups;)V"⟩, 4) := ⟨⟨by decide +kernel, by decide +kernel⟩, List.mem_of_getElem? (i := 144) (by decide +kernel), List.mem_of_getElem? (i := 310) (by decide +kernel), List.mem_of_getElem? (i := 311) (by decide +kernel)⟩
theorem lw_p6 : lw_okq (⟨"ChangeUntangler$Parcels", "needByWayOfOthers", "(I)V"⟩, 4) := ⟨⟨by decide +kernel, by decide +kernel⟩, List.mem_of_getElem? (i := 144) (by decide +kernel), List.mem_of_getElem? (i := 323) (by decide +kernel), List.mem_of_getElem? (i := 324) (by decide +kernel)⟩
theorem lw_p7 : lw_okq (⟨"ChangeUntangler$Parcels", "nextCircle", "(II)I"⟩, 4) := ⟨⟨by decide +kernel, by decide +kernel⟩, List.mem_of_getElem? (i := 144) (by decide +kernel), List.mem_of_getElem? (i := 328) (by decide +kernel), List.mem_of_getElem? (i := 329) (by decide +kernel)⟩
theorem lw_p8 : lw_okq (⟨"ChangeUntangler$Parcels", "circleOf", "(II)I"⟩, 4) := ⟨⟨by decide +kernel, by decide +kernel⟩, List.mem_of_getElem? (i := 144) (by decide +kernel), List.mem_of_getElem? (i := 332) (by decide +kernel), List.mem_of_getElem? (i := 333) (by decide +kernel)⟩
theorem lw_p9 : lw_okq (⟨"ChangeUntangler$Parcels", "append", "(ILChangeUntangler$Groups;)V"⟩, 4) := ⟨⟨by decide +kernel, by decide +kernel⟩, List.mem_of_getElem? (i := 144) (by decide +kernel), List.mem_of_getElem? (i := 336) (by decide +kernel), List.mem_of_getElem? (i := 337) (by decide +kernel)⟩
theorem lw_p10 : lw_okq (⟨"ChangeUntangler", "breakageInOrder", "()I"⟩, 9) := ⟨⟨by decide +kernel, by decide +kernel⟩, List.mem_of_getElem? (i := 19) (by decide +kernel), List.mem_of_getElem? (i := 357) (by decide +kernel), List.mem_of_getElem? (i := 358) (by decide +kernel)⟩
theorem lw_p11 : lw_okq (⟨"java/lang/Throwable", "fillInStackTrace", "(I)Ljava/lang/Throwable;"⟩, 6) := ⟨⟨by decide +kernel, by decide +kernel⟩, List.mem_of_getElem? (i := 451) (by decide +kernel), List.mem_of_getElem? (i := 449) (by decide +kernel), List.mem_of_getElem? (i := 450) (by decide +kernel)⟩
theorem lw_p12 : lw_okq (⟨"ChangeUntangler", "forgetResults", "()V"⟩, 9) := ⟨⟨by decide +kernel, by decide +kernel⟩, List.mem_of_getElem? (i := 19) (by decide +kernel), List.mem_of_getElem? (i := 498) (by decide +kernel), List.mem_of_getElem? (i := 499) (by decide +kernel)⟩
theorem lw_p13 : lw_okq (⟨"ChangeUntangler", "requireSet", "(II)V"⟩, 9) := ⟨⟨by decide +kernel, by decide +kernel⟩, List.mem_of_getElem? (i := 19) (by decide +kernel), List.mem_of_getElem? (i := 514) (by decide +kernel), List.mem_of_getElem? (i := 515) (by decide +kernel)⟩
theorem lw_p14 : lw_okq (⟨"ChangeUntangler", "requirePiece", "(I)V"⟩, 9) := ⟨⟨by decide +kernel, by decide +kernel⟩, List.mem_of_getElem? (i := 19) (by decide +kernel), List.mem_of_getElem? (i := 518) (by decide +kernel), List.mem_of_getElem? (i := 519) (by decide +kernel)⟩
theorem lw_p15 : lw_okq (⟨"ChangeUntangler$Sayings", "putOneWay", "(III)V"⟩, 2) := ⟨⟨by decide +kernel, by decide +kernel⟩, List.mem_of_getElem? (i := 98) (by decide +kernel), List.mem_of_getElem? (i := 587) (by decide +kernel), List.mem_of_getElem? (i := 588) (by decide +kernel)⟩
def lw_privs_1 : List (MethodName × Nat) := [(⟨"ChangeUntangler", "putTogether", "()V"⟩, 9), (⟨"ChangeUntangler$Evidence", "isNear", "(LChangeUntangler$Pieces;II)Z"⟩, 2), (⟨"ChangeUntangler$Groups", "joinWhatMust", "(ILChangeUntangler$Sayings;)V"⟩, 6), (⟨"ChangeUntangler$Groups", "joinNearest", "(LChangeUntangler$Sayings;)Z"⟩, 6), (⟨"ChangeUntangler$Groups", "join", "(II)V"⟩, 6), (⟨"ChangeUntangler$Parcels", "findNeeds", "(LChangeUntangler$Pieces;LChangeUntangler$Code;LChangeUntangler$Groups;)V"⟩, 4), (⟨"ChangeUntangler$Parcels", "needByWayOfOthers", "(I)V"⟩, 4), (⟨"ChangeUntangler$Parcels", "nextCircle", "(II)I"⟩, 4), (⟨"ChangeUntangler$Parcels", "circleOf", "(II)I"⟩, 4), (⟨"ChangeUntangler$Parcels", "append", "(ILChangeUntangler$Groups;)V"⟩, 4), (⟨"ChangeUntangler", "breakageInOrder", "()I"⟩, 9), (⟨"java/lang/Throwable", "fillInStackTrace", "(I)Ljava/lang/Throwable;"⟩, 6), (⟨"ChangeUntangler", "forgetResults", "()V"⟩, 9), (⟨"ChangeUntangler", "requireSet", "(II)V"⟩, 9), (⟨"ChangeUntangler", "requirePiece", "(I)V"⟩, 9), (⟨"ChangeUntangler$Sayings", "putOneWay", "(III)V"⟩, 2)]
theorem lw_r1 : ∀ q ∈ lw_privs_1, lw_okq q := List.forall_mem_cons.mpr ⟨lw_p0, List.forall_mem_cons.mpr ⟨lw_p1, List.forall_mem_cons.mpr ⟨lw_p2, List.forall_mem_cons.mpr ⟨lw_p3, List.forall_mem_cons.mpr ⟨lw_p4, List.forall_mem_cons.mpr ⟨lw_p5, List.forall_mem_cons.mpr ⟨lw_p6, List.forall_mem_cons.mpr ⟨lw_p7, List.forall_mem_cons.mpr ⟨lw_p8, List.forall_mem_cons.mpr ⟨lw_p9, List.forall_mem_cons.mpr ⟨lw_p10, List.forall_mem_cons.mpr ⟨lw_p11, List.forall_mem_cons.mpr ⟨lw_p12, List.forall_mem_cons.mpr ⟨lw_p13, List.forall_mem_cons.mpr ⟨lw_p14, List.forall_mem_cons.mpr ⟨lw_p15, fun _ h => absurd h List.not_mem_nil⟩⟩⟩⟩⟩⟩⟩⟩⟩⟩⟩⟩⟩⟩⟩⟩
theorem lw_p16 : lw_okq (⟨"ChangeUntangler", "requireGroup", "(I)V"⟩, 9) := ⟨⟨by decide +kernel, by decide +kernel⟩, List.mem_of_getElem? (i := 19) (by decide +kernel), List.mem_of_getElem? (i := 683) (by decide +kernel), List.mem_of_getElem? (i := 684) (by decide +kernel)⟩
theorem lw_p17 : lw_okq (⟨"ChangeUntangler", "requireParcel", "(I)V"⟩, 9) := ⟨⟨by decide +kernel, by decide +kernel⟩, List.mem_of_getElem? (i := 19) (by decide +kernel), List.mem_of_getElem? (i := 720) (by decide +kernel), List.mem_of_getElem? (i := 721) (by decide +kernel)⟩
theorem lw_p18 : lw_okq (⟨"ChangeUntangler", "findBest", "()V"⟩, 9) := ⟨⟨by decide +kernel, by decide +kernel⟩, List.mem_of_getElem? (i := 19) (by decide +kernel), List.mem_of_getElem? (i := 762) (by decide +kernel), List.mem_of_getElem? (i := 763) (by decide +kernel)⟩
theorem lw_p19 : lw_okq (⟨"ChangeUntangler$BestOrder", "nextAfter", "(I)I"⟩, 4) := ⟨⟨by decide +kernel, by decide +kernel⟩, List.mem_of_getElem? (i := 167) (by decide +kernel), List.mem_of_getElem? (i := 772) (by decide +kernel), List.mem_of_getElem? (i := 773) (by decide +kernel)⟩
theorem lw_p20 : lw_okq (⟨"ChangeUntangler$BestOrder", "walk", "()V"⟩, 4) := ⟨⟨by decide +kernel, by decide +kernel⟩, List.mem_of_getElem? (i := 167) (by decide +kernel), List.mem_of_getElem? (i := 784) (by decide +kernel), List.mem_of_getElem? (i := 785) (by decide +kernel)⟩
theorem lw_p21 : lw_okq (⟨"ChangeUntanglerModel", "no", "(I)I"⟩, 21) := ⟨⟨by decide +kernel, by decide +kernel⟩, List.mem_of_getElem? (i := 804) (by decide +kernel), List.mem_of_getElem? (i := 886) (by decide +kernel), List.mem_of_getElem? (i := 887) (by decide +kernel)⟩
theorem lw_p22 : lw_okq (⟨"ChangeUntanglerModel", "isPiece", "(I)Z"⟩, 21) := ⟨⟨by decide +kernel, by decide +kernel⟩, List.mem_of_getElem? (i := 804) (by decide +kernel), List.mem_of_getElem? (i := 894) (by decide +kernel), List.mem_of_getElem? (i := 895) (by decide +kernel)⟩
theorem lw_p23 : lw_okq (⟨"ChangeUntanglerModel", "namesOf", "(II)I"⟩, 21) := ⟨⟨by decide +kernel, by decide +kernel⟩, List.mem_of_getElem? (i := 804) (by decide +kernel), List.mem_of_getElem? (i := 902) (by decide +kernel), List.mem_of_getElem? (i := 903) (by decide +kernel)⟩
theorem lw_p24 : lw_okq (⟨"ChangeUntanglerModel", "arePieces", "(II)Z"⟩, 21) := ⟨⟨by decide +kernel, by decide +kernel⟩, List.mem_of_getElem? (i := 804) (by decide +kernel), List.mem_of_getElem? (i := 934) (by decide +kernel), List.mem_of_getElem? (i := 935) (by decide +kernel)⟩
theorem lw_p25 : lw_okq (⟨"ChangeUntanglerModel", "pointsOf", "(III)I"⟩, 21) := ⟨⟨by decide +kernel, by decide +kernel⟩, List.mem_of_getElem? (i := 804) (by decide +kernel), List.mem_of_getElem? (i := 938) (by decide +kernel), List.mem_of_getElem? (i := 939) (by decide +kernel)⟩
theorem lw_p26 : lw_okq (⟨"ChangeUntanglerModel", "common", "(IIII)I"⟩, 21) := ⟨⟨by decide +kernel, by decide +kernel⟩, List.mem_of_getElem? (i := 804) (by decide +kernel), List.mem_of_getElem? (i := 943) (by decide +kernel), List.mem_of_getElem? (i := 944) (by decide +kernel)⟩
theorem lw_p27 : lw_okq (⟨"ChangeUntanglerModel", "allNames", "(I)I"⟩, 21) := ⟨⟨by decide +kernel, by decide +kernel⟩, List.mem_of_getElem? (i := 804) (by decide +kernel), List.mem_of_getElem? (i := 948) (by decide +kernel), List.mem_of_getElem? (i := 949) (by decide +kernel)⟩
theorem lw_p28 : lw_okq (⟨"ChangeUntanglerModel", "affinityOf", "(II)I"⟩, 21) := ⟨⟨by decide +kernel, by decide +kernel⟩, List.mem_of_getElem? (i := 804) (by decide +kernel), List.mem_of_getElem? (i := 956) (by decide +kernel), List.mem_of_getElem? (i := 957) (by decide +kernel)⟩
theorem lw_p29 : lw_okq (⟨"ChangeUntanglerModel", "saidOf", "(II)I"⟩, 21) := ⟨⟨by decide +kernel, by decide +kernel⟩, List.mem_of_getElem? (i := 804) (by decide +kernel), List.mem_of_getElem? (i := 976) (by decide +kernel), List.mem_of_getElem? (i := 977) (by decide +kernel)⟩
theorem lw_p30 : lw_okq (⟨"ChangeUntanglerModel", "put", "(III)V"⟩, 21) := ⟨⟨by decide +kernel, by decide +kernel⟩, List.mem_of_getElem? (i := 804) (by decide +kernel), List.mem_of_getElem? (i := 980) (by decide +kernel), List.mem_of_getElem? (i := 981) (by decide +kernel)⟩
theorem lw_p31 : lw_okq (⟨"ChangeUntanglerModel", "startGroups", "()V"⟩, 21) := ⟨⟨by decide +kernel, by decide +kernel⟩, List.mem_of_getElem? (i := 804) (by decide +kernel), List.mem_of_getElem? (i := 984) (by decide +kernel), List.mem_of_getElem? (i := 985) (by decide +kernel)⟩
def lw_privs_2 : List (MethodName × Nat) := [(⟨"ChangeUntangler", "requireGroup", "(I)V"⟩, 9), (⟨"ChangeUntangler", "requireParcel", "(I)V"⟩, 9), (⟨"ChangeUntangler", "findBest", "()V"⟩, 9), (⟨"ChangeUntangler$BestOrder", "nextAfter", "(I)I"⟩, 4), (⟨"ChangeUntangler$BestOrder", "walk", "()V"⟩, 4), (⟨"ChangeUntanglerModel", "no", "(I)I"⟩, 21), (⟨"ChangeUntanglerModel", "isPiece", "(I)Z"⟩, 21), (⟨"ChangeUntanglerModel", "namesOf", "(II)I"⟩, 21), (⟨"ChangeUntanglerModel", "arePieces", "(II)Z"⟩, 21), (⟨"ChangeUntanglerModel", "pointsOf", "(III)I"⟩, 21), (⟨"ChangeUntanglerModel", "common", "(IIII)I"⟩, 21), (⟨"ChangeUntanglerModel", "allNames", "(I)I"⟩, 21), (⟨"ChangeUntanglerModel", "affinityOf", "(II)I"⟩, 21), (⟨"ChangeUntanglerModel", "saidOf", "(II)I"⟩, 21), (⟨"ChangeUntanglerModel", "put", "(III)V"⟩, 21), (⟨"ChangeUntanglerModel", "startGroups", "()V"⟩, 21)]
theorem lw_r2 : ∀ q ∈ lw_privs_2, lw_okq q := List.forall_mem_cons.mpr ⟨lw_p16, List.forall_mem_cons.mpr ⟨lw_p17, List.forall_mem_cons.mpr ⟨lw_p18, List.forall_mem_cons.mpr ⟨lw_p19, List.forall_mem_cons.mpr ⟨lw_p20, List.forall_mem_cons.mpr ⟨lw_p21, List.forall_mem_cons.mpr ⟨lw_p22, List.forall_mem_cons.mpr ⟨lw_p23, List.forall_mem_cons.mpr ⟨lw_p24, List.forall_mem_cons.mpr ⟨lw_p25, List.forall_mem_cons.mpr ⟨lw_p26, List.forall_mem_cons.mpr ⟨lw_p27, List.forall_mem_cons.mpr ⟨lw_p28, List.forall_mem_cons.mpr ⟨lw_p29, List.forall_mem_cons.mpr ⟨lw_p30, List.forall_mem_cons.mpr ⟨lw_p31, fun _ h => absurd h List.not_mem_nil⟩⟩⟩⟩⟩⟩⟩⟩⟩⟩⟩⟩⟩⟩⟩⟩
theorem lw_p32 : lw_okq (⟨"ChangeUntanglerModel", "joinHeads", "(II)V"⟩, 21) := ⟨⟨by decide +kernel, by decide +kernel⟩, List.mem_of_getElem? (i := 804) (by decide +kernel), List.mem_of_getElem? (i := 988) (by decide +kernel), List.mem_of_getElem? (i := 989) (by decide +kernel)⟩
theorem lw_p33 : lw_okq (⟨"ChangeUntanglerModel", "makeGroups", "()V"⟩, 21) := ⟨⟨by decide +kernel, by decide +kernel⟩, List.mem_of_getElem? (i := 804) (by decide +kernel), List.mem_of_getElem? (i := 998) (by decide +kernel), List.mem_of_getElem? (i := 999) (by decide +kernel)⟩
theorem lw_p34 : lw_okq (⟨"ChangeUntanglerModel", "areBarred", "(II)Z"⟩, 21) := ⟨⟨by decide +kernel, by decide +kernel⟩, List.mem_of_getElem? (i := 804) (by decide +kernel), List.mem_of_getElem? (i := 1002) (by decide +kernel), List.mem_of_getElem? (i := 1003) (by decide +kernel)⟩
theorem lw_p35 : lw_okq (⟨"ChangeUntanglerModel", "linkageOf", "(II)I"⟩, 21) := ⟨⟨by decide +kernel, by decide +kernel⟩, List.mem_of_getElem? (i := 804) (by decide +kernel), List.mem_of_getElem? (i := 1006) (by decide +kernel), List.mem_of_getElem? (i := 1007) (by decide +kernel)⟩
theorem lw_p36 : lw_okq (⟨"ChangeUntanglerModel", "countOf", "([I)I"⟩, 21) := ⟨⟨by decide +kernel, by decide +kernel⟩, List.mem_of_getElem? (i := 804) (by decide +kernel), List.mem_of_getElem? (i := 1010) (by decide +kernel), List.mem_of_getElem? (i := 1011) (by decide +kernel)⟩
theorem lw_p37 : lw_okq (⟨"ChangeUntanglerModel", "headAt", "([II)I"⟩, 21) := ⟨⟨by decide +kernel, by decide +kernel⟩, List.mem_of_getElem? (i := 804) (by decide +kernel), List.mem_of_getElem? (i := 1018) (by decide +kernel), List.mem_of_getElem? (i := 1019) (by decide +kernel)⟩
theorem lw_p38 : lw_okq (⟨"ChangeUntanglerModel", "setOf", "([II)I"⟩, 21) := ⟨⟨by decide +kernel, by decide +kernel⟩, List.mem_of_getElem? (i := 804) (by decide +kernel), List.mem_of_getElem? (i := 1022) (by decide +kernel), List.mem_of_getElem? (i := 1023) (by decide +kernel)⟩
theorem lw_p39 : lw_okq (⟨"ChangeUntanglerModel", "indexOf", "([II)I"⟩, 21) := ⟨⟨by decide +kernel, by decide +kernel⟩, List.mem_of_getElem? (i := 804) (by decide +kernel), List.mem_of_getElem? (i := 1030) (by decide +kernel), List.mem_of_getElem? (i := 1031) (by decide +kernel)⟩
theorem lw_p40 : lw_okq (⟨"ChangeUntanglerModel", "needsOf", "(II)Z"⟩, 21) := ⟨⟨by decide +kernel, by decide +kernel⟩, List.mem_of_getElem? (i := 804) (by decide +kernel), List.mem_of_getElem? (i := 1046) (by decide +kernel), List.mem_of_getElem? (i := 1047) (by decide +kernel)⟩
theorem lw_p41 : lw_okq (⟨"ChangeUntanglerModel", "undefined", "()I"⟩, 21) := ⟨⟨by decide +kernel, by decide +kernel⟩, List.mem_of_getElem? (i := 804) (by decide +kernel), List.mem_of_getElem? (i := 1050) (by decide +kernel), List.mem_of_getElem? (i := 1051) (by decide +kernel)⟩
theorem lw_p42 : lw_okq (⟨"ChangeUntanglerModel", "makeParcels", "()V"⟩, 21) := ⟨⟨by decide +kernel, by decide +kernel⟩, List.mem_of_getElem? (i := 804) (by decide +kernel), List.mem_of_getElem? (i := 1058) (by decide +kernel), List.mem_of_getElem? (i := 1059) (by decide +kernel)⟩
theorem lw_p43 : lw_okq (⟨"ChangeUntanglerModel", "isParcel", "(I)Z"⟩, 21) := ⟨⟨by decide +kernel, by decide +kernel⟩, List.mem_of_getElem? (i := 804) (by decide +kernel), List.mem_of_getElem? (i := 1069) (by decide +kernel), List.mem_of_getElem? (i := 1070) (by decide +kernel)⟩
theorem lw_p44 : lw_okq (⟨"ChangeUntanglerModel", "brokenBy", "(I)I"⟩, 21) := ⟨⟨by decide +kernel, by decide +kernel⟩, List.mem_of_getElem? (i := 804) (by decide +kernel), List.mem_of_getElem? (i := 1089) (by decide +kernel), List.mem_of_getElem? (i := 1090) (by decide +kernel)⟩
theorem lw_p45 : lw_okq (⟨"ChangeUntanglerModel", "isBroken", "(II)Z"⟩, 21) := ⟨⟨by decide +kernel, by decide +kernel⟩, List.mem_of_getElem? (i := 804) (by decide +kernel), List.mem_of_getElem? (i := 1093) (by decide +kernel), List.mem_of_getElem? (i := 1094) (by decide +kernel)⟩
theorem lw_p46 : lw_okq (⟨"ChangeUntanglerModel", "breakageOf", "()I"⟩, 21) := ⟨⟨by decide +kernel, by decide +kernel⟩, List.mem_of_getElem? (i := 804) (by decide +kernel), List.mem_of_getElem? (i := 1101) (by decide +kernel), List.mem_of_getElem? (i := 1102) (by decide +kernel)⟩
theorem lw_p47 : lw_okq (⟨"ChangeUntanglerModel", "piecesOf", "(I)I"⟩, 21) := ⟨⟨by decide +kernel, by decide +kernel⟩, List.mem_of_getElem? (i := 804) (by decide +kernel), List.mem_of_getElem? (i := 1105) (by decide +kernel), List.mem_of_getElem? (i := 1106) (by decide +kernel)⟩
def lw_privs_3 : List (MethodName × Nat) := [(⟨"ChangeUntanglerModel", "joinHeads", "(II)V"⟩, 21), (⟨"ChangeUntanglerModel", "makeGroups", "()V"⟩, 21), (⟨"ChangeUntanglerModel", "areBarred", "(II)Z"⟩, 21), (⟨"ChangeUntanglerModel", "linkageOf", "(II)I"⟩, 21), (⟨"ChangeUntanglerModel", "countOf", "([I)I"⟩, 21), (⟨"ChangeUntanglerModel", "headAt", "([II)I"⟩, 21), (⟨"ChangeUntanglerModel", "setOf", "([II)I"⟩, 21), (⟨"ChangeUntanglerModel", "indexOf", "([II)I"⟩, 21), (⟨"ChangeUntanglerModel", "needsOf", "(II)Z"⟩, 21), (⟨"ChangeUntanglerModel", "undefined", "()I"⟩, 21), (⟨"ChangeUntanglerModel", "makeParcels", "()V"⟩, 21), (⟨"ChangeUntanglerModel", "isParcel", "(I)Z"⟩, 21), (⟨"ChangeUntanglerModel", "brokenBy", "(I)I"⟩, 21), (⟨"ChangeUntanglerModel", "isBroken", "(II)Z"⟩, 21), (⟨"ChangeUntanglerModel", "breakageOf", "()I"⟩, 21), (⟨"ChangeUntanglerModel", "piecesOf", "(I)I"⟩, 21)]
theorem lw_r3 : ∀ q ∈ lw_privs_3, lw_okq q := List.forall_mem_cons.mpr ⟨lw_p32, List.forall_mem_cons.mpr ⟨lw_p33, List.forall_mem_cons.mpr ⟨lw_p34, List.forall_mem_cons.mpr ⟨lw_p35, List.forall_mem_cons.mpr ⟨lw_p36, List.forall_mem_cons.mpr ⟨lw_p37, List.forall_mem_cons.mpr ⟨lw_p38, List.forall_mem_cons.mpr ⟨lw_p39, List.forall_mem_cons.mpr ⟨lw_p40, List.forall_mem_cons.mpr ⟨lw_p41, List.forall_mem_cons.mpr ⟨lw_p42, List.forall_mem_cons.mpr ⟨lw_p43, List.forall_mem_cons.mpr ⟨lw_p44, List.forall_mem_cons.mpr ⟨lw_p45, List.forall_mem_cons.mpr ⟨lw_p46, List.forall_mem_cons.mpr ⟨lw_p47, fun _ h => absurd h List.not_mem_nil⟩⟩⟩⟩⟩⟩⟩⟩⟩⟩⟩⟩⟩⟩⟩⟩
theorem lw_p48 : lw_okq (⟨"ChangeUntanglerModel", "findLeast", "()V"⟩, 21) := ⟨⟨by decide +kernel, by decide +kernel⟩, List.mem_of_getElem? (i := 804) (by decide +kernel), List.mem_of_getElem? (i := 1113) (by decide +kernel), List.mem_of_getElem? (i := 1114) (by decide +kernel)⟩
def lw_privs_4 : List (MethodName × Nat) := [(⟨"ChangeUntanglerModel", "findLeast", "()V"⟩, 21)]
theorem lw_r4 : ∀ q ∈ lw_privs_4, lw_okq q := List.forall_mem_cons.mpr ⟨lw_p48, fun _ h => absurd h List.not_mem_nil⟩
def lw_privs : List (MethodName × Nat) := lw_privs_1 ++ (lw_privs_2 ++ (lw_privs_3 ++ (lw_privs_4)))
def lw_tbl : List Cond := k2_sels lw_privs ++ tables_1
theorem lw_privs_ok : ∀ q ∈ lw_privs, lw_okq q := by
  show ∀ q ∈ lw_privs_1 ++ (lw_privs_2 ++ (lw_privs_3 ++ (lw_privs_4))), lw_okq q
  exact List.forall_mem_append.mpr ⟨lw_r1, List.forall_mem_append.mpr ⟨lw_r2, List.forall_mem_append.mpr ⟨lw_r3, lw_r4⟩⟩⟩
/-- the streams that the claim lets the run draw from -/
abbrev lw_cs : List Choice := [Jvm.Choice.named "NaN.bits"]
theorem lw_bits : nanBits ∈ lw_cs := by first | decide | exact List.mem_cons_self | simp [lw_cs, nanBits]
-- ===== end of PART A; then your names; then what follows =====
end
section
def RX0 : String := "ChangeUntangler$BestOrder"
def TX0 : u_T := fun k => match k with
  | 0 => ("ChangeUntangler$BestOrder", "least", "I", false)
  | 1 => ("ChangeUntangler$BestOrder", "length", "I", false)
  | 2 => ("ChangeUntangler$BestOrder", "order", "[I", true)
  | _ => ("ChangeUntangler$BestOrder", "fromThen", "[I", true)
def tyX0 : Nat → FieldType := fun k => match k with
  | 0 => .int
  | 1 => .int
  | 2 => .array .int
  | _ => .array .int
abbrev wsX00 : List Cond := u_ws RX0 TX0 4
theorem nmX0 : ∀ a, a < 4 → ∀ b, b < 4 → a ≠ b → (TX0 a).2.1 ≠ (TX0 b).2.1 := by decide +kernel
theorem tyX0_ok : ∀ k, k < 4 → parseFieldDescriptor (TX0 k).2.2.1 = some (tyX0 k) := by decide +kernel
abbrev cX0_init : ByteArray := prog_2_method_1_code
def yX0_init : MethodName := ⟨RX0, "<init>", "()V"⟩
abbrev cX0_find : ByteArray := prog_2_method_2_code
def yX0_find : MethodName := ⟨RX0, "find", "(LChangeUntangler$Parcels;LChangeUntangler$Pieces;LChangeUntangler$Code;)V"⟩
abbrev cX0_walk : ByteArray := prog_2_method_3_code
def yX0_walk : MethodName := ⟨RX0, "walk", "()V"⟩
abbrev cX0_nextAfter : ByteArray := prog_2_method_4_code
def yX0_nextAfter : MethodName := ⟨RX0, "nextAfter", "(I)I"⟩
def RX1 : String := "ChangeUntangler$Code"
def TX1 : u_T := fun k => match k with
  | 0 => ("ChangeUntangler$Code", "definedNames", "I", false)
  | _ => ("ChangeUntangler$Code", "otherUses", "[I", true)
def tyX1 : Nat → FieldType := fun k => match k with
  | 0 => .int
  | _ => .array .int
abbrev wsX10 : List Cond := u_ws RX1 TX1 2
theorem nmX1 : ∀ a, a < 2 → ∀ b, b < 2 → a ≠ b → (TX1 a).2.1 ≠ (TX1 b).2.1 := by decide +kernel
theorem tyX1_ok : ∀ k, k < 2 → parseFieldDescriptor (TX1 k).2.2.1 = some (tyX1 k) := by decide +kernel
abbrev cX1_init : ByteArray := prog_3_method_1_code
def yX1_init : MethodName := ⟨RX1, "<init>", "()V"⟩
abbrev cX1_learn : ByteArray := prog_3_method_2_code
def yX1_learn : MethodName := ⟨RX1, "learn", "(IZI)Z"⟩
abbrev cX1_brokenBy : ByteArray := prog_3_method_3_code
def yX1_brokenBy : MethodName := ⟨RX1, "brokenBy", "(LChangeUntangler$Pieces;I)I"⟩
abbrev cX1_mixInto : ByteArray := prog_3_method_4_code
def yX1_mixInto : MethodName := ⟨RX1, "mixInto", "(J)J"⟩
def RX2 : String := "ChangeUntangler$Evidence"
def TX2 : u_T := fun k => match k with
  | 0 => ("ChangeUntangler$Evidence", "weights", "[I", true)
  | _ => ("ChangeUntangler$Evidence", "span", "I", false)
def tyX2 : Nat → FieldType := fun k => match k with
  | 0 => .array .int
  | _ => .int
abbrev wsX20 : List Cond := u_ws RX2 TX2 2
theorem nmX2 : ∀ a, a < 2 → ∀ b, b < 2 → a ≠ b → (TX2 a).2.1 ≠ (TX2 b).2.1 := by decide +kernel
theorem tyX2_ok : ∀ k, k < 2 → parseFieldDescriptor (TX2 k).2.2.1 = some (tyX2 k) := by decide +kernel
abbrev cX2_init : ByteArray := prog_4_method_1_code
def yX2_init : MethodName := ⟨RX2, "<init>", "()V"⟩
abbrev cX2_pointsBy : ByteArray := prog_4_method_2_code
def yX2_pointsBy : MethodName := ⟨RX2, "pointsBy", "(ILChangeUntangler$Pieces;II)I"⟩
abbrev cX2_sumOfPoints : ByteArray := prog_4_method_3_code
def yX2_sumOfPoints : MethodName := ⟨RX2, "sumOfPoints", "(LChangeUntangler$Pieces;II)I"⟩
abbrev cX2_isNear : ByteArray := prog_4_method_4_code
def yX2_isNear : MethodName := ⟨RX2, "isNear", "(LChangeUntangler$Pieces;II)Z"⟩
abbrev cX2_shareOf : ByteArray := prog_4_method_5_code
def yX2_shareOf : MethodName := ⟨RX2, "shareOf", "(III)I"⟩
def RX3 : String := "ChangeUntangler$Groups"
def TX3 : u_T := fun k => match k with
  | 0 => ("ChangeUntangler$Groups", "threshold", "I", false)
  | 1 => ("ChangeUntangler$Groups", "manner", "I", false)
  | 2 => ("ChangeUntangler$Groups", "count", "I", false)
  | 3 => ("ChangeUntangler$Groups", "linkageOfLastJoin", "I", false)
  | 4 => ("ChangeUntangler$Groups", "sets", "[I", true)
  | _ => ("ChangeUntangler$Groups", "affinities", "[[I", true)
def tyX3 : Nat → FieldType := fun k => match k with
  | 0 => .int
  | 1 => .int
  | 2 => .int
  | 3 => .int
  | 4 => .array .int
  | _ => .array (.array .int)
abbrev wsX30 : List Cond := u_ws RX3 TX3 6
theorem nmX3 : ∀ a, a < 6 → ∀ b, b < 6 → a ≠ b → (TX3 a).2.1 ≠ (TX3 b).2.1 := by decide +kernel
theorem tyX3_ok : ∀ k, k < 6 → parseFieldDescriptor (TX3 k).2.2.1 = some (tyX3 k) := by decide +kernel
abbrev cX3_init : ByteArray := prog_5_method_1_code
def yX3_init : MethodName := ⟨RX3, "<init>", "()V"⟩
abbrev cX3_weighAll : ByteArray := prog_5_method_2_code
def yX3_weighAll : MethodName := ⟨RX3, "weighAll", "(LChangeUntangler$Pieces;LChangeUntangler$Evidence;)V"⟩
abbrev cX3_build : ByteArray := prog_5_method_3_code
def yX3_build : MethodName := ⟨RX3, "build", "(ILChangeUntangler$Sayings;)V"⟩
abbrev cX3_joinWhatMust : ByteArray := prog_5_method_4_code
def yX3_joinWhatMust : MethodName := ⟨RX3, "joinWhatMust", "(ILChangeUntangler$Sayings;)V"⟩
abbrev cX3_joinNearest : ByteArray := prog_5_method_5_code
def yX3_joinNearest : MethodName := ⟨RX3, "joinNearest", "(LChangeUntangler$Sayings;)Z"⟩
abbrev cX3_join : ByteArray := prog_5_method_6_code
def yX3_join : MethodName := ⟨RX3, "join", "(II)V"⟩
abbrev cX3_linkageOf : ByteArray := prog_5_method_7_code
def yX3_linkageOf : MethodName := ⟨RX3, "linkageOf", "(II)I"⟩
abbrev cX3_isTogether : ByteArray := prog_5_method_8_code
def yX3_isTogether : MethodName := ⟨RX3, "isTogether", "(II)Z"⟩
def RX4 : String := "ChangeUntangler$Parcels"
def TX4 : u_T := fun k => match k with
  | 0 => ("ChangeUntangler$Parcels", "count", "I", false)
  | 1 => ("ChangeUntangler$Parcels", "knotCount", "I", false)
  | 2 => ("ChangeUntangler$Parcels", "sets", "[I", true)
  | _ => ("ChangeUntangler$Parcels", "needed", "[I", true)
def tyX4 : Nat → FieldType := fun k => match k with
  | 0 => .int
  | 1 => .int
  | 2 => .array .int
  | _ => .array .int
abbrev wsX40 : List Cond := u_ws RX4 TX4 4
theorem nmX4 : ∀ a, a < 4 → ∀ b, b < 4 → a ≠ b → (TX4 a).2.1 ≠ (TX4 b).2.1 := by decide +kernel
theorem tyX4_ok : ∀ k, k < 4 → parseFieldDescriptor (TX4 k).2.2.1 = some (tyX4 k) := by decide +kernel
abbrev cX4_init : ByteArray := prog_6_method_1_code
def yX4_init : MethodName := ⟨RX4, "<init>", "()V"⟩
abbrev cX4_build : ByteArray := prog_6_method_2_code
def yX4_build : MethodName := ⟨RX4, "build", "(LChangeUntangler$Pieces;LChangeUntangler$Code;LChangeUntangler$Groups;)V"⟩
abbrev cX4_findNeeds : ByteArray := prog_6_method_3_code
def yX4_findNeeds : MethodName := ⟨RX4, "findNeeds", "(LChangeUntangler$Pieces;LChangeUntangler$Code;LChangeUntangler$Groups;)V"⟩
abbrev cX4_needByWayOfOthers : ByteArray := prog_6_method_4_code
def yX4_needByWayOfOthers : MethodName := ⟨RX4, "needByWayOfOthers", "(I)V"⟩
abbrev cX4_nextCircle : ByteArray := prog_6_method_5_code
def yX4_nextCircle : MethodName := ⟨RX4, "nextCircle", "(II)I"⟩
abbrev cX4_circleOf : ByteArray := prog_6_method_6_code
def yX4_circleOf : MethodName := ⟨RX4, "circleOf", "(II)I"⟩
abbrev cX4_append : ByteArray := prog_6_method_7_code
def yX4_append : MethodName := ⟨RX4, "append", "(ILChangeUntangler$Groups;)V"⟩
abbrev cX4_piecesIn : ByteArray := prog_6_method_8_code
def yX4_piecesIn : MethodName := ⟨RX4, "piecesIn", "(I)I"⟩
def RX5 : String := "ChangeUntangler$Pieces"
def TX5 : u_T := fun k => match k with
  | 0 => ("ChangeUntangler$Pieces", "count", "I", false)
  | 1 => ("ChangeUntangler$Pieces", "files", "[I", true)
  | 2 => ("ChangeUntangler$Pieces", "startLines", "[I", true)
  | 3 => ("ChangeUntangler$Pieces", "added", "[I", true)
  | 4 => ("ChangeUntangler$Pieces", "taken", "[I", true)
  | 5 => ("ChangeUntangler$Pieces", "purposes", "[I", true)
  | 6 => ("ChangeUntangler$Pieces", "namesOf", "[[I", true)
  | _ => ("ChangeUntangler$Pieces", "piecesWith", "[[I", true)
def tyX5 : Nat → FieldType := fun k => match k with
  | 0 => .int
  | 1 => .array .int
  | 2 => .array .int
  | 3 => .array .int
  | 4 => .array .int
  | 5 => .array .int
  | 6 => .array (.array .int)
  | _ => .array (.array .int)
abbrev wsX50 : List Cond := u_ws RX5 TX5 8
theorem nmX5 : ∀ a, a < 8 → ∀ b, b < 8 → a ≠ b → (TX5 a).2.1 ≠ (TX5 b).2.1 := by decide +kernel
theorem tyX5_ok : ∀ k, k < 8 → parseFieldDescriptor (TX5 k).2.2.1 = some (tyX5 k) := by decide +kernel
abbrev cX5_init : ByteArray := prog_7_method_1_code
def yX5_init : MethodName := ⟨RX5, "<init>", "()V"⟩
abbrev cX5_has : ByteArray := prog_7_method_2_code
def yX5_has : MethodName := ⟨RX5, "has", "(I)Z"⟩
abbrev cX5_all : ByteArray := prog_7_method_3_code
def yX5_all : MethodName := ⟨RX5, "all", "()I"⟩
abbrev cX5_append : ByteArray := prog_7_method_4_code
def yX5_append : MethodName := ⟨RX5, "append", "(IIII)I"⟩
abbrev cX5_removeLast : ByteArray := prog_7_method_5_code
def yX5_removeLast : MethodName := ⟨RX5, "removeLast", "()V"⟩
abbrev cX5_replaceNames : ByteArray := prog_7_method_6_code
def yX5_replaceNames : MethodName := ⟨RX5, "replaceNames", "(III)I"⟩
abbrev cX5_everyNameOf : ByteArray := prog_7_method_7_code
def yX5_everyNameOf : MethodName := ⟨RX5, "everyNameOf", "(I)I"⟩
abbrev cX5_crossings : ByteArray := prog_7_method_8_code
def yX5_crossings : MethodName := ⟨RX5, "crossings", "(IIII)I"⟩
abbrev cX5_isNeeded : ByteArray := prog_7_method_9_code
def yX5_isNeeded : MethodName := ⟨RX5, "isNeeded", "(III)Z"⟩
abbrev cX5_neededBy : ByteArray := prog_7_method_10_code
def yX5_neededBy : MethodName := ⟨RX5, "neededBy", "(II)I"⟩
abbrev cX5_linesOf : ByteArray := prog_7_method_11_code
def yX5_linesOf : MethodName := ⟨RX5, "linesOf", "(I)I"⟩
abbrev cX5_mixInto : ByteArray := prog_7_method_12_code
def yX5_mixInto : MethodName := ⟨RX5, "mixInto", "(J)J"⟩
def RX6 : String := "ChangeUntangler$Sayings"
def TX6 : u_T := fun k => match k with
  | 0 => ("ChangeUntangler$Sayings", "must", "[I", true)
  | _ => ("ChangeUntangler$Sayings", "mustNot", "[I", true)
def tyX6 : Nat → FieldType := fun k => match k with
  | 0 => .array .int
  | _ => .array .int
abbrev wsX60 : List Cond := u_ws RX6 TX6 2
theorem nmX6 : ∀ a, a < 2 → ∀ b, b < 2 → a ≠ b → (TX6 a).2.1 ≠ (TX6 b).2.1 := by decide +kernel
theorem tyX6_ok : ∀ k, k < 2 → parseFieldDescriptor (TX6 k).2.2.1 = some (tyX6 k) := by decide +kernel
abbrev cX6_init : ByteArray := prog_8_method_1_code
def yX6_init : MethodName := ⟨RX6, "<init>", "()V"⟩
abbrev cX6_saidOf : ByteArray := prog_8_method_2_code
def yX6_saidOf : MethodName := ⟨RX6, "saidOf", "(II)I"⟩
abbrev cX6_put : ByteArray := prog_8_method_3_code
def yX6_put : MethodName := ⟨RX6, "put", "(III)V"⟩
abbrev cX6_putOneWay : ByteArray := prog_8_method_4_code
def yX6_putOneWay : MethodName := ⟨RX6, "putOneWay", "(III)V"⟩
abbrev cX6_forgetPiece : ByteArray := prog_8_method_5_code
def yX6_forgetPiece : MethodName := ⟨RX6, "forgetPiece", "(I)V"⟩
abbrev cX6_joinedTo : ByteArray := prog_8_method_6_code
def yX6_joinedTo : MethodName := ⟨RX6, "joinedTo", "(I)I"⟩
abbrev cX6_isContradiction : ByteArray := prog_8_method_7_code
def yX6_isContradiction : MethodName := ⟨RX6, "isContradiction", "()Z"⟩
abbrev cX6_isForbidden : ByteArray := prog_8_method_8_code
def yX6_isForbidden : MethodName := ⟨RX6, "isForbidden", "(II)Z"⟩
def RX7 : String := "ChangeUntangler"
def TX7 : u_T := fun k => match k with
  | 0 => ("ChangeUntangler", "pieces", "LChangeUntangler$Pieces;", true)
  | 1 => ("ChangeUntangler", "code", "LChangeUntangler$Code;", true)
  | 2 => ("ChangeUntangler", "evidence", "LChangeUntangler$Evidence;", true)
  | 3 => ("ChangeUntangler", "sayings", "LChangeUntangler$Sayings;", true)
  | 4 => ("ChangeUntangler", "groups", "LChangeUntangler$Groups;", true)
  | 5 => ("ChangeUntangler", "parcels", "LChangeUntangler$Parcels;", true)
  | 6 => ("ChangeUntangler", "bestOrder", "LChangeUntangler$BestOrder;", true)
  | 7 => ("ChangeUntangler", "isPutTogether", "Z", false)
  | _ => ("ChangeUntangler", "isBestKnown", "Z", false)
def tyX7 : Nat → FieldType := fun k => match k with
  | 0 => .object "ChangeUntangler$Pieces"
  | 1 => .object "ChangeUntangler$Code"
  | 2 => .object "ChangeUntangler$Evidence"
  | 3 => .object "ChangeUntangler$Sayings"
  | 4 => .object "ChangeUntangler$Groups"
  | 5 => .object "ChangeUntangler$Parcels"
  | 6 => .object "ChangeUntangler$BestOrder"
  | 7 => .boolean
  | _ => .boolean
abbrev wsX70 : List Cond := u_ws RX7 TX7 9
theorem nmX7 : ∀ a, a < 9 → ∀ b, b < 9 → a ≠ b → (TX7 a).2.1 ≠ (TX7 b).2.1 := by decide +kernel
theorem tyX7_ok : ∀ k, k < 9 → parseFieldDescriptor (TX7 k).2.2.1 = some (tyX7 k) := by decide +kernel
abbrev cX7_init : ByteArray := prog_1_method_1_code
def yX7_init : MethodName := ⟨RX7, "<init>", "()V"⟩
abbrev cX7_addPiece : ByteArray := prog_1_method_2_code
def yX7_addPiece : MethodName := ⟨RX7, "addPiece", "(IIII)I"⟩
abbrev cX7_setNames : ByteArray := prog_1_method_3_code
def yX7_setNames : MethodName := ⟨RX7, "setNames", "(III)I"⟩
abbrev cX7_names : ByteArray := prog_1_method_4_code
def yX7_names : MethodName := ⟨RX7, "names", "(II)I"⟩
abbrev cX7_setName : ByteArray := prog_1_method_5_code
def yX7_setName : MethodName := ⟨RX7, "setName", "(IZI)Z"⟩
abbrev cX7_dropPiece : ByteArray := prog_1_method_6_code
def yX7_dropPiece : MethodName := ⟨RX7, "dropPiece", "()I"⟩
abbrev cX7_pieceCount : ByteArray := prog_1_method_7_code
def yX7_pieceCount : MethodName := ⟨RX7, "pieceCount", "()I"⟩
abbrev cX7_setWeight : ByteArray := prog_1_method_8_code
def yX7_setWeight : MethodName := ⟨RX7, "setWeight", "(II)I"⟩
abbrev cX7_setSpan : ByteArray := prog_1_method_9_code
def yX7_setSpan : MethodName := ⟨RX7, "setSpan", "(I)I"⟩
abbrev cX7_points : ByteArray := prog_1_method_10_code
def yX7_points : MethodName := ⟨RX7, "points", "(III)I"⟩
abbrev cX7_affinity : ByteArray := prog_1_method_11_code
def yX7_affinity : MethodName := ⟨RX7, "affinity", "(II)I"⟩
abbrev cX7_closest : ByteArray := prog_1_method_12_code
def yX7_closest : MethodName := ⟨RX7, "closest", "(I)I"⟩
abbrev cX7_setThreshold : ByteArray := prog_1_method_13_code
def yX7_setThreshold : MethodName := ⟨RX7, "setThreshold", "(I)I"⟩
abbrev cX7_setManner : ByteArray := prog_1_method_14_code
def yX7_setManner : MethodName := ⟨RX7, "setManner", "(I)I"⟩
abbrev cX7_say : ByteArray := prog_1_method_15_code
def yX7_say : MethodName := ⟨RX7, "say", "(III)I"⟩
abbrev cX7_groupCount : ByteArray := prog_1_method_16_code
def yX7_groupCount : MethodName := ⟨RX7, "groupCount", "()I"⟩
abbrev cX7_group : ByteArray := prog_1_method_17_code
def yX7_group : MethodName := ⟨RX7, "group", "(I)I"⟩
abbrev cX7_groupOf : ByteArray := prog_1_method_18_code
def yX7_groupOf : MethodName := ⟨RX7, "groupOf", "(I)I"⟩
abbrev cX7_linkage : ByteArray := prog_1_method_19_code
def yX7_linkage : MethodName := ⟨RX7, "linkage", "(II)I"⟩
abbrev cX7_lastLinkage : ByteArray := prog_1_method_20_code
def yX7_lastLinkage : MethodName := ⟨RX7, "lastLinkage", "()I"⟩
abbrev cX7_needs : ByteArray := prog_1_method_21_code
def yX7_needs : MethodName := ⟨RX7, "needs", "(II)Z"⟩
abbrev cX7_parcelCount : ByteArray := prog_1_method_22_code
def yX7_parcelCount : MethodName := ⟨RX7, "parcelCount", "()I"⟩
abbrev cX7_parcel : ByteArray := prog_1_method_23_code
def yX7_parcel : MethodName := ⟨RX7, "parcel", "(I)I"⟩
abbrev cX7_parcelOf : ByteArray := prog_1_method_24_code
def yX7_parcelOf : MethodName := ⟨RX7, "parcelOf", "(I)I"⟩
abbrev cX7_knots : ByteArray := prog_1_method_25_code
def yX7_knots : MethodName := ⟨RX7, "knots", "()I"⟩
abbrev cX7_lines : ByteArray := prog_1_method_26_code
def yX7_lines : MethodName := ⟨RX7, "lines", "(I)I"⟩
abbrev cX7_broken : ByteArray := prog_1_method_27_code
def yX7_broken : MethodName := ⟨RX7, "broken", "(I)I"⟩
abbrev cX7_breakage : ByteArray := prog_1_method_28_code
def yX7_breakage : MethodName := ⟨RX7, "breakage", "()I"⟩
abbrev cX7_leastBreakage : ByteArray := prog_1_method_29_code
def yX7_leastBreakage : MethodName := ⟨RX7, "leastBreakage", "()I"⟩
abbrev cX7_best : ByteArray := prog_1_method_30_code
def yX7_best : MethodName := ⟨RX7, "best", "(I)I"⟩
abbrev cX7_setPurpose : ByteArray := prog_1_method_31_code
def yX7_setPurpose : MethodName := ⟨RX7, "setPurpose", "(II)I"⟩
abbrev cX7_agreement : ByteArray := prog_1_method_32_code
def yX7_agreement : MethodName := ⟨RX7, "agreement", "()D"⟩
abbrev cX7_digest : ByteArray := prog_1_method_33_code
def yX7_digest : MethodName := ⟨RX7, "digest", "()J"⟩
abbrev cX7_forgetResults : ByteArray := prog_1_method_34_code
def yX7_forgetResults : MethodName := ⟨RX7, "forgetResults", "()V"⟩
abbrev cX7_putTogether : ByteArray := prog_1_method_35_code
def yX7_putTogether : MethodName := ⟨RX7, "putTogether", "()V"⟩
abbrev cX7_breakageInOrder : ByteArray := prog_1_method_36_code
def yX7_breakageInOrder : MethodName := ⟨RX7, "breakageInOrder", "()I"⟩
abbrev cX7_findBest : ByteArray := prog_1_method_37_code
def yX7_findBest : MethodName := ⟨RX7, "findBest", "()V"⟩
abbrev cX7_requirePiece : ByteArray := prog_1_method_38_code
def yX7_requirePiece : MethodName := ⟨RX7, "requirePiece", "(I)V"⟩
abbrev cX7_requireSet : ByteArray := prog_1_method_39_code
def yX7_requireSet : MethodName := ⟨RX7, "requireSet", "(II)V"⟩
abbrev cX7_requireGroup : ByteArray := prog_1_method_40_code
def yX7_requireGroup : MethodName := ⟨RX7, "requireGroup", "(I)V"⟩
abbrev cX7_requireParcel : ByteArray := prog_1_method_41_code
def yX7_requireParcel : MethodName := ⟨RX7, "requireParcel", "(I)V"⟩
abbrev cX7_requireKind : ByteArray := prog_1_method_42_code
def yX7_requireKind : MethodName := ⟨RX7, "requireKind", "(I)V"⟩
abbrev cX7_requireDifferent : ByteArray := prog_1_method_43_code
def yX7_requireDifferent : MethodName := ⟨RX7, "requireDifferent", "(II)V"⟩
abbrev cX7_isUpTo : ByteArray := prog_1_method_44_code
def yX7_isUpTo : MethodName := ⟨RX7, "isUpTo", "(II)Z"⟩
abbrev cX7_isIn : ByteArray := prog_1_method_45_code
def yX7_isIn : MethodName := ⟨RX7, "isIn", "(II)Z"⟩
abbrev cX7_placeOf : ByteArray := prog_1_method_46_code
def yX7_placeOf : MethodName := ⟨RX7, "placeOf", "(I[II)I"⟩
abbrev cX7_mix : ByteArray := prog_1_method_47_code
def yX7_mix : MethodName := ⟨RX7, "mix", "(JJ)J"⟩
abbrev cX7_mixRow : ByteArray := prog_1_method_48_code
def yX7_mixRow : MethodName := ⟨RX7, "mixRow", "(J[II)J"⟩
def RX8 : String := "ChangeUntanglerModel"
def TX8 : u_T := fun k => match k with
  | 0 => ("ChangeUntanglerModel", "thrown", "I", false)
  | 1 => ("ChangeUntanglerModel", "pieces", "I", false)
  | 2 => ("ChangeUntanglerModel", "places", "[I", true)
  | 3 => ("ChangeUntanglerModel", "names", "[I", true)
  | 4 => ("ChangeUntanglerModel", "purposes", "[I", true)
  | 5 => ("ChangeUntanglerModel", "said", "[I", true)
  | 6 => ("ChangeUntanglerModel", "areDefined", "[Z", true)
  | 7 => ("ChangeUntanglerModel", "otherUses", "[I", true)
  | 8 => ("ChangeUntanglerModel", "weights", "[I", true)
  | 9 => ("ChangeUntanglerModel", "span", "I", false)
  | 10 => ("ChangeUntanglerModel", "threshold", "I", false)
  | 11 => ("ChangeUntanglerModel", "manner", "I", false)
  | 12 => ("ChangeUntanglerModel", "heads", "[I", true)
  | 13 => ("ChangeUntanglerModel", "last", "I", false)
  | 14 => ("ChangeUntanglerModel", "affinities", "[I", true)
  | 15 => ("ChangeUntanglerModel", "bundles", "[I", true)
  | 16 => ("ChangeUntanglerModel", "order", "[I", true)
  | 17 => ("ChangeUntanglerModel", "parcels", "I", false)
  | 18 => ("ChangeUntanglerModel", "far", "[I", true)
  | 19 => ("ChangeUntanglerModel", "counts", "[I", true)
  | _ => ("ChangeUntanglerModel", "rests", "[I", true)
def tyX8 : Nat → FieldType := fun k => match k with
  | 0 => .int
  | 1 => .int
  | 2 => .array .int
  | 3 => .array .int
  | 4 => .array .int
  | 5 => .array .int
  | 6 => .array .boolean
  | 7 => .array .int
  | 8 => .array .int
  | 9 => .int
  | 10 => .int
  | 11 => .int
  | 12 => .array .int
  | 13 => .int
  | 14 => .array .int
  | 15 => .array .int
  | 16 => .array .int
  | 17 => .int
  | 18 => .array .int
  | 19 => .array .int
  | _ => .array .int
abbrev wsX80 : List Cond := u_ws RX8 TX8 21
theorem nmX8 : ∀ a, a < 21 → ∀ b, b < 21 → a ≠ b → (TX8 a).2.1 ≠ (TX8 b).2.1 := by decide +kernel
theorem tyX8_ok : ∀ k, k < 21 → parseFieldDescriptor (TX8 k).2.2.1 = some (tyX8 k) := by decide +kernel
abbrev cX8_init : ByteArray := prog_10_method_1_code
def yX8_init : MethodName := ⟨RX8, "<init>", "()V"⟩
abbrev cX8_thrown : ByteArray := prog_10_method_2_code
def yX8_thrown : MethodName := ⟨RX8, "thrown", "()I"⟩
abbrev cX8_no : ByteArray := prog_10_method_3_code
def yX8_no : MethodName := ⟨RX8, "no", "(I)I"⟩
abbrev cX8_isIn : ByteArray := prog_10_method_4_code
def yX8_isIn : MethodName := ⟨RX8, "isIn", "(III)Z"⟩
abbrev cX8_has : ByteArray := prog_10_method_5_code
def yX8_has : MethodName := ⟨RX8, "has", "(II)Z"⟩
abbrev cX8_isPiece : ByteArray := prog_10_method_6_code
def yX8_isPiece : MethodName := ⟨RX8, "isPiece", "(I)Z"⟩
abbrev cX8_isKind : ByteArray := prog_10_method_7_code
def yX8_isKind : MethodName := ⟨RX8, "isKind", "(I)Z"⟩
abbrev cX8_namesOf : ByteArray := prog_10_method_8_code
def yX8_namesOf : MethodName := ⟨RX8, "namesOf", "(II)I"⟩
abbrev cX8_addPiece : ByteArray := prog_10_method_9_code
def yX8_addPiece : MethodName := ⟨RX8, "addPiece", "(IIII)I"⟩
abbrev cX8_setNames : ByteArray := prog_10_method_10_code
def yX8_setNames : MethodName := ⟨RX8, "setNames", "(III)I"⟩
abbrev cX8_names : ByteArray := prog_10_method_11_code
def yX8_names : MethodName := ⟨RX8, "names", "(II)I"⟩
abbrev cX8_setName : ByteArray := prog_10_method_12_code
def yX8_setName : MethodName := ⟨RX8, "setName", "(IZI)Z"⟩
abbrev cX8_dropPiece : ByteArray := prog_10_method_13_code
def yX8_dropPiece : MethodName := ⟨RX8, "dropPiece", "()I"⟩
abbrev cX8_pieceCount : ByteArray := prog_10_method_14_code
def yX8_pieceCount : MethodName := ⟨RX8, "pieceCount", "()I"⟩
abbrev cX8_setWeight : ByteArray := prog_10_method_15_code
def yX8_setWeight : MethodName := ⟨RX8, "setWeight", "(II)I"⟩
abbrev cX8_setSpan : ByteArray := prog_10_method_16_code
def yX8_setSpan : MethodName := ⟨RX8, "setSpan", "(I)I"⟩
abbrev cX8_common : ByteArray := prog_10_method_17_code
def yX8_common : MethodName := ⟨RX8, "common", "(IIII)I"⟩
abbrev cX8_allNames : ByteArray := prog_10_method_18_code
def yX8_allNames : MethodName := ⟨RX8, "allNames", "(I)I"⟩
abbrev cX8_pointsOf : ByteArray := prog_10_method_19_code
def yX8_pointsOf : MethodName := ⟨RX8, "pointsOf", "(III)I"⟩
abbrev cX8_affinityOf : ByteArray := prog_10_method_20_code
def yX8_affinityOf : MethodName := ⟨RX8, "affinityOf", "(II)I"⟩
abbrev cX8_arePieces : ByteArray := prog_10_method_21_code
def yX8_arePieces : MethodName := ⟨RX8, "arePieces", "(II)Z"⟩
abbrev cX8_points : ByteArray := prog_10_method_22_code
def yX8_points : MethodName := ⟨RX8, "points", "(III)I"⟩
abbrev cX8_affinity : ByteArray := prog_10_method_23_code
def yX8_affinity : MethodName := ⟨RX8, "affinity", "(II)I"⟩
abbrev cX8_closest : ByteArray := prog_10_method_24_code
def yX8_closest : MethodName := ⟨RX8, "closest", "(I)I"⟩
abbrev cX8_setThreshold : ByteArray := prog_10_method_25_code
def yX8_setThreshold : MethodName := ⟨RX8, "setThreshold", "(I)I"⟩
abbrev cX8_setManner : ByteArray := prog_10_method_26_code
def yX8_setManner : MethodName := ⟨RX8, "setManner", "(I)I"⟩
abbrev cX8_joinHeads : ByteArray := prog_10_method_27_code
def yX8_joinHeads : MethodName := ⟨RX8, "joinHeads", "(II)V"⟩
abbrev cX8_saidOf : ByteArray := prog_10_method_28_code
def yX8_saidOf : MethodName := ⟨RX8, "saidOf", "(II)I"⟩
abbrev cX8_startGroups : ByteArray := prog_10_method_29_code
def yX8_startGroups : MethodName := ⟨RX8, "startGroups", "()V"⟩
abbrev cX8_areBarred : ByteArray := prog_10_method_30_code
def yX8_areBarred : MethodName := ⟨RX8, "areBarred", "(II)Z"⟩
abbrev cX8_linkageOf : ByteArray := prog_10_method_31_code
def yX8_linkageOf : MethodName := ⟨RX8, "linkageOf", "(II)I"⟩
abbrev cX8_makeGroups : ByteArray := prog_10_method_32_code
def yX8_makeGroups : MethodName := ⟨RX8, "makeGroups", "()V"⟩
abbrev cX8_say : ByteArray := prog_10_method_33_code
def yX8_say : MethodName := ⟨RX8, "say", "(III)I"⟩
abbrev cX8_put : ByteArray := prog_10_method_34_code
def yX8_put : MethodName := ⟨RX8, "put", "(III)V"⟩
abbrev cX8_countOf : ByteArray := prog_10_method_35_code
def yX8_countOf : MethodName := ⟨RX8, "countOf", "([I)I"⟩
abbrev cX8_headAt : ByteArray := prog_10_method_36_code
def yX8_headAt : MethodName := ⟨RX8, "headAt", "([II)I"⟩
abbrev cX8_setOf : ByteArray := prog_10_method_37_code
def yX8_setOf : MethodName := ⟨RX8, "setOf", "([II)I"⟩
abbrev cX8_indexOf : ByteArray := prog_10_method_38_code
def yX8_indexOf : MethodName := ⟨RX8, "indexOf", "([II)I"⟩
abbrev cX8_groupCount : ByteArray := prog_10_method_39_code
def yX8_groupCount : MethodName := ⟨RX8, "groupCount", "()I"⟩
abbrev cX8_group : ByteArray := prog_10_method_40_code
def yX8_group : MethodName := ⟨RX8, "group", "(I)I"⟩
abbrev cX8_groupOf : ByteArray := prog_10_method_41_code
def yX8_groupOf : MethodName := ⟨RX8, "groupOf", "(I)I"⟩
abbrev cX8_linkage : ByteArray := prog_10_method_42_code
def yX8_linkage : MethodName := ⟨RX8, "linkage", "(II)I"⟩
abbrev cX8_lastLinkage : ByteArray := prog_10_method_43_code
def yX8_lastLinkage : MethodName := ⟨RX8, "lastLinkage", "()I"⟩
abbrev cX8_undefined : ByteArray := prog_10_method_44_code
def yX8_undefined : MethodName := ⟨RX8, "undefined", "()I"⟩
abbrev cX8_needsOf : ByteArray := prog_10_method_45_code
def yX8_needsOf : MethodName := ⟨RX8, "needsOf", "(II)Z"⟩
abbrev cX8_needs : ByteArray := prog_10_method_46_code
def yX8_needs : MethodName := ⟨RX8, "needs", "(II)Z"⟩
abbrev cX8_makeParcels : ByteArray := prog_10_method_47_code
def yX8_makeParcels : MethodName := ⟨RX8, "makeParcels", "()V"⟩
abbrev cX8_parcelCount : ByteArray := prog_10_method_48_code
def yX8_parcelCount : MethodName := ⟨RX8, "parcelCount", "()I"⟩
abbrev cX8_isParcel : ByteArray := prog_10_method_49_code
def yX8_isParcel : MethodName := ⟨RX8, "isParcel", "(I)Z"⟩
abbrev cX8_parcel : ByteArray := prog_10_method_50_code
def yX8_parcel : MethodName := ⟨RX8, "parcel", "(I)I"⟩
abbrev cX8_parcelOf : ByteArray := prog_10_method_51_code
def yX8_parcelOf : MethodName := ⟨RX8, "parcelOf", "(I)I"⟩
abbrev cX8_knots : ByteArray := prog_10_method_52_code
def yX8_knots : MethodName := ⟨RX8, "knots", "()I"⟩
abbrev cX8_lines : ByteArray := prog_10_method_53_code
def yX8_lines : MethodName := ⟨RX8, "lines", "(I)I"⟩
abbrev cX8_isBroken : ByteArray := prog_10_method_54_code
def yX8_isBroken : MethodName := ⟨RX8, "isBroken", "(II)Z"⟩
abbrev cX8_brokenBy : ByteArray := prog_10_method_55_code
def yX8_brokenBy : MethodName := ⟨RX8, "brokenBy", "(I)I"⟩
abbrev cX8_broken : ByteArray := prog_10_method_56_code
def yX8_broken : MethodName := ⟨RX8, "broken", "(I)I"⟩
abbrev cX8_piecesOf : ByteArray := prog_10_method_57_code
def yX8_piecesOf : MethodName := ⟨RX8, "piecesOf", "(I)I"⟩
abbrev cX8_breakageOf : ByteArray := prog_10_method_58_code
def yX8_breakageOf : MethodName := ⟨RX8, "breakageOf", "()I"⟩
abbrev cX8_breakage : ByteArray := prog_10_method_59_code
def yX8_breakage : MethodName := ⟨RX8, "breakage", "()I"⟩
abbrev cX8_findLeast : ByteArray := prog_10_method_60_code
def yX8_findLeast : MethodName := ⟨RX8, "findLeast", "()V"⟩
abbrev cX8_leastBreakage : ByteArray := prog_10_method_61_code
def yX8_leastBreakage : MethodName := ⟨RX8, "leastBreakage", "()I"⟩
abbrev cX8_best : ByteArray := prog_10_method_62_code
def yX8_best : MethodName := ⟨RX8, "best", "(I)I"⟩
abbrev cX8_setPurpose : ByteArray := prog_10_method_63_code
def yX8_setPurpose : MethodName := ⟨RX8, "setPurpose", "(II)I"⟩
abbrev cX8_agreement : ByteArray := prog_10_method_64_code
def yX8_agreement : MethodName := ⟨RX8, "agreement", "()D"⟩
abbrev cX8_digest : ByteArray := prog_10_method_65_code
def yX8_digest : MethodName := ⟨RX8, "digest", "()J"⟩
def RJ6 : String := "java/lang/Integer"
abbrev cJ6_bitCount_0f7a4 : ByteArray := prog_15_method_49_code
def yJ6_bitCount_0f7a4 : MethodName := ⟨RJ6, "bitCount", "(I)I"⟩
def RJ9 : String := "java/lang/Math"
abbrev cJ9_abs_0f7a4 : ByteArray := prog_16_method_59_code
def yJ9_abs_0f7a4 : MethodName := ⟨RJ9, "abs", "(I)I"⟩
abbrev cJ9_max_7cf53 : ByteArray := prog_16_method_65_code
def yJ9_max_7cf53 : MethodName := ⟨RJ9, "max", "(II)I"⟩
abbrev cJ9_min_7cf53 : ByteArray := prog_16_method_69_code
def yJ9_min_7cf53 : MethodName := ⟨RJ9, "min", "(II)I"⟩
def RJ0 : String := "java/lang/String"
def RL : String := "ChangeUntanglerLaw"
abbrev cL_addPiece : ByteArray := method_3_code
def yL_addPiece : MethodName := ⟨RL, "addPiece", "(LChangeUntangler;IIII[J)I"⟩
abbrev cL_setNames : ByteArray := method_4_code
def yL_setNames : MethodName := ⟨RL, "setNames", "(LChangeUntangler;III[J)I"⟩
abbrev cL_names : ByteArray := method_5_code
def yL_names : MethodName := ⟨RL, "names", "(LChangeUntangler;II[J)I"⟩
abbrev cL_setName : ByteArray := method_6_code
def yL_setName : MethodName := ⟨RL, "setName", "(LChangeUntangler;IZI[J)I"⟩
abbrev cL_dropPiece : ByteArray := method_7_code
def yL_dropPiece : MethodName := ⟨RL, "dropPiece", "(LChangeUntangler;[J)I"⟩
abbrev cL_setWeight : ByteArray := method_8_code
def yL_setWeight : MethodName := ⟨RL, "setWeight", "(LChangeUntangler;II[J)I"⟩
abbrev cL_setSpan : ByteArray := method_9_code
def yL_setSpan : MethodName := ⟨RL, "setSpan", "(LChangeUntangler;I[J)I"⟩
abbrev cL_points : ByteArray := method_10_code
def yL_points : MethodName := ⟨RL, "points", "(LChangeUntangler;III[J)I"⟩
abbrev cL_affinity : ByteArray := method_11_code
def yL_affinity : MethodName := ⟨RL, "affinity", "(LChangeUntangler;II[J)I"⟩
abbrev cL_closest : ByteArray := method_12_code
def yL_closest : MethodName := ⟨RL, "closest", "(LChangeUntangler;I[J)I"⟩
abbrev cL_setThreshold : ByteArray := method_13_code
def yL_setThreshold : MethodName := ⟨RL, "setThreshold", "(LChangeUntangler;I[J)I"⟩
abbrev cL_setManner : ByteArray := method_14_code
def yL_setManner : MethodName := ⟨RL, "setManner", "(LChangeUntangler;I[J)I"⟩
abbrev cL_say : ByteArray := method_15_code
def yL_say : MethodName := ⟨RL, "say", "(LChangeUntangler;III[J)I"⟩
abbrev cL_group : ByteArray := method_16_code
def yL_group : MethodName := ⟨RL, "group", "(LChangeUntangler;I[J)I"⟩
abbrev cL_groupOf : ByteArray := method_17_code
def yL_groupOf : MethodName := ⟨RL, "groupOf", "(LChangeUntangler;I[J)I"⟩
abbrev cL_linkage : ByteArray := method_18_code
def yL_linkage : MethodName := ⟨RL, "linkage", "(LChangeUntangler;II[J)I"⟩
abbrev cL_needs : ByteArray := method_19_code
def yL_needs : MethodName := ⟨RL, "needs", "(LChangeUntangler;II[J)I"⟩
abbrev cL_parcel : ByteArray := method_20_code
def yL_parcel : MethodName := ⟨RL, "parcel", "(LChangeUntangler;I[J)I"⟩
abbrev cL_parcelOf : ByteArray := method_21_code
def yL_parcelOf : MethodName := ⟨RL, "parcelOf", "(LChangeUntangler;I[J)I"⟩
abbrev cL_lines : ByteArray := method_22_code
def yL_lines : MethodName := ⟨RL, "lines", "(LChangeUntangler;I[J)I"⟩
abbrev cL_broken : ByteArray := method_23_code
def yL_broken : MethodName := ⟨RL, "broken", "(LChangeUntangler;I[J)I"⟩
abbrev cL_leastBreakage : ByteArray := method_24_code
def yL_leastBreakage : MethodName := ⟨RL, "leastBreakage", "(LChangeUntangler;[J)I"⟩
abbrev cL_best : ByteArray := method_25_code
def yL_best : MethodName := ⟨RL, "best", "(LChangeUntangler;I[J)I"⟩
abbrev cL_setPurpose : ByteArray := method_26_code
def yL_setPurpose : MethodName := ⟨RL, "setPurpose", "(LChangeUntangler;II[J)I"⟩
abbrev cL_law : ByteArray := code
def yL_law : MethodName := ⟨RL, "law", "([I)Z"⟩
abbrev zcl : List vw_C := [(RX0, TX0, 4), (RX1, TX1, 2), (RX2, TX2, 2), (RX3, TX3, 6), (RX4, TX4, 4), (RX5, TX5, 8), (RX6, TX6, 2), (RX7, TX7, 9), (RX8, TX8, 21)]
theorem z_in0 : ∀ w ∈ wsX00, w ∈ lw_tbl := by decide +kernel
theorem z_in1 : ∀ w ∈ wsX10, w ∈ lw_tbl := by decide +kernel
theorem z_in2 : ∀ w ∈ wsX20, w ∈ lw_tbl := by decide +kernel
theorem z_in3 : ∀ w ∈ wsX30, w ∈ lw_tbl := by decide +kernel
theorem z_in4 : ∀ w ∈ wsX40, w ∈ lw_tbl := by decide +kernel
theorem z_in5 : ∀ w ∈ wsX50, w ∈ lw_tbl := by decide +kernel
theorem z_in6 : ∀ w ∈ wsX60, w ∈ lw_tbl := by decide +kernel
theorem z_in7 : ∀ w ∈ wsX70, w ∈ lw_tbl := by decide +kernel
theorem z_in8 : ∀ w ∈ wsX80, w ∈ lw_tbl := by decide +kernel
end
section
def zz_nest : List (String × Nat × MethodName × String) := [("ChangeUntangler", 11, ⟨"ChangeUntangler$Pieces", "<init>", "()V"⟩, "ChangeUntangler"), ("ChangeUntangler", 18, ⟨"ChangeUntangler$Code", "<init>", "()V"⟩, "ChangeUntangler"), ("ChangeUntangler", 32, ⟨"ChangeUntangler$Sayings", "<init>", "()V"⟩, "ChangeUntangler"), ("ChangeUntangler", 39, ⟨"ChangeUntangler$Groups", "<init>", "()V"⟩, "ChangeUntangler"), ("ChangeUntangler", 46, ⟨"ChangeUntangler$Parcels", "<init>", "()V"⟩, "ChangeUntangler"), ("ChangeUntangler", 53, ⟨"ChangeUntangler$BestOrder", "<init>", "()V"⟩, "ChangeUntangler"), ("ChangeUntangler$Sayings", 18, ⟨"ChangeUntangler", "isIn", "(II)Z"⟩, "ChangeUntangler"), ("ChangeUntangler$Groups", 69, ⟨"ChangeUntangler", "isIn", "(II)Z"⟩, "ChangeUntangler"), ("ChangeUntangler$Pieces", 49, ⟨"ChangeUntangler", "isIn", "(II)Z"⟩, "ChangeUntangler"), ("ChangeUntangler$Parcels", 55, ⟨"ChangeUntangler", "isIn", "(II)Z"⟩, "ChangeUntangler"), ("ChangeUntangler$Groups", 85, ⟨"ChangeUntangler", "placeOf", "(I[II)I"⟩, "ChangeUntangler"), ("ChangeUntangler$Pieces", 57, ⟨"ChangeUntangler", "mix", "(JJ)J"⟩, "ChangeUntangler"), ("ChangeUntangler$Code", 35, ⟨"ChangeUntangler", "mix", "(JJ)J"⟩, "ChangeUntangler"), ("ChangeUntangler$Code", 19, ⟨"ChangeUntangler", "isIn", "(II)Z"⟩, "ChangeUntangler"), ("ChangeUntangler$BestOrder", 58, ⟨"ChangeUntangler", "isIn", "(II)Z"⟩, "ChangeUntangler")]
def zz_exc : List String := ["java/lang/IllegalArgumentException", "java/lang/IllegalStateException", "java/lang/IndexOutOfBoundsException"]
def zz_nocast : List (String × String) := [("java/lang/IllegalArgumentException", "java/lang/IllegalStateException"), ("java/lang/IllegalArgumentException", "java/lang/IndexOutOfBoundsException"), ("java/lang/IllegalStateException", "java/lang/IllegalArgumentException"), ("java/lang/IllegalStateException", "java/lang/IndexOutOfBoundsException"), ("java/lang/IndexOutOfBoundsException", "java/lang/IllegalArgumentException"), ("java/lang/IndexOutOfBoundsException", "java/lang/IllegalStateException")]
def zz_decl : List MethodName := [⟨"java/lang/RuntimeException", "<init>", "(Ljava/lang/String;)V"⟩, ⟨"java/lang/Exception", "<init>", "(Ljava/lang/String;)V"⟩, ⟨"java/lang/Throwable", "<init>", "(Ljava/lang/String;)V"⟩]
def zz_str : List (String × Nat × String) := [("ChangeUntangler", 64, "no such file or line"), ("ChangeUntangler", 69, "no such number of lines"), ("ChangeUntangler", 77, "no room for another piece"), ("ChangeUntangler", 300, "no such piece"), ("ChangeUntangler", 302, "no such set of names of a piece"), ("ChangeUntangler", 92, "no such set of names"), ("ChangeUntangler", 104, "no such name"), ("ChangeUntangler", 107, "no such number of uses"), ("ChangeUntangler", 113, "there is no piece"), ("ChangeUntangler", 308, "no such kind of evidence"), ("ChangeUntangler", 125, "no such weight"), ("ChangeUntangler", 131, "no such span"), ("ChangeUntangler", 310, "the same piece twice"), ("ChangeUntangler", 150, "no such threshold"), ("ChangeUntangler", 155, "no such manner"), ("ChangeUntangler", 160, "nothing that can be said"), ("ChangeUntangler", 174, "pieces would be joined that must not be together"), ("ChangeUntangler", 304, "no such group"), ("ChangeUntangler", 190, "the same group twice"), ("ChangeUntangler", 306, "no such parcel"), ("ChangeUntangler", 221, "not a set of pieces"), ("ChangeUntangler", 290, "too many parcels"), ("ChangeUntangler", 239, "no such place"), ("ChangeUntangler", 244, "no such purpose")]
/-! ===== the bundled judgement: a walk with everything static in one premise, and everything that moves in the goal ===== -/
/-- the numbers of the array classes: int[], long[], boolean[], int[][] -/
abbrev zz_U : Type := ClassId × ClassId × ClassId × ClassId
abbrev zz_tys (U : zz_U) : List (ClassId × FieldType) := [(U.1, .int), (U.2.1, .long), (U.2.2.1, .boolean), (U.2.2.2, .array .int)]
/-- what the tables say, and every warming of them keeps -/
def zz_F (V : State) : Prop := (∀ w ∈ lw_tbl, goodWord w = true → ∀ a, w.before a V = true) ∧ (∀ q ∈ zz_nest, va_Nw (.methodLinkNest q.1 q.2.1 q.2.2.1 q.2.2.2) V) ∧ (∀ E ∈ zz_exc, va_Nw (.castable E E) V) ∧ (∀ q ∈ zz_nocast, va_Nc q.1 q.2 V) ∧ (∀ q ∈ zz_str, ∃ a, vk_R q.1 q.2.1 q.2.2 a V) ∧ (∀ y ∈ zz_decl, va_Nw (.declares y) V)
theorem zz_warmD {y : MethodName} {s V : State} (hW : s.WarmedH V.vm) (h : va_Nw (.declares y) s) : va_Nw (.declares y) V := va_tabs rfl (rfl : (s.setVm V.vm).vm = V.vm) (by rw [Cond.declares_setVm hW.alike]; exact h)
theorem zz_F.warm {s V : State} (hW : s.WarmedH V.vm) (h : zz_F s) : zz_F V := by
  obtain ⟨h1, h2, h3, h4, h5, h6⟩ := h
  refine ⟨fun w hw hg a => word_at hW (good_of_word hg) (h1 w hw hg a), fun q hq => va_Nw.warmM hW (h2 q hq), fun E hE => va_Nw.warmC hW (h3 E hE), fun q hq => va_Nc.moved hW.alike (h4 q hq), fun q hq => ?_, fun y hy => zz_warmD hW (h6 y hy)⟩
  obtain ⟨a, ha⟩ := h5 q hq
  exact ⟨a, vk_R.warm hW ha⟩
theorem zz_F.same {u V : State} (hv : u.vm = V.vm) (h : zz_F u) : zz_F V := zz_F.warm (by rw [← hv]; exact State.WarmedH.refl u) h
/-- the two statics that every throwable reads -/
def zz_S (A : Nat → Prop) (V : State) (H : Heap) : Prop := vx_Zq Bundle.tN "UNASSIGNED_STACK" Bundle.steD A V H ∧ vx_Zq Bundle.tN "SUPPRESSED_SENTINEL" Bundle.listD A V H
/-- all that stays during a method's walk -/
def zz_C (p : Program) (l : Launch) (R : Room) (s : State) (m : MethodId) (meth : Method) (c : Code) (D : va_G) (U : zz_U) (A : Nat → Prop) (own : String) (cc : ByteArray) (nL : Nat) (ret : Option FieldType) (hh : List (Nat × Nat × Nat × Nat)) (d : Nat) : Prop :=
  p.tables.exec = Jvm.exec ∧ c.code = cc ∧ c.maxLocals = nL ∧ s.vm.findClass own = some m.cls ∧ zz_F s ∧ meth.locks = false ∧ l.stackTraces = false ∧ va_K D zcl (zz_tys U) s ∧ (∀ q, s.heap.size ≤ q → A q) ∧ zz_S A s s.heap ∧ d ≤ R.frames ∧ 36 * d ≤ R.locals ∧ meth.sig.returnType = ret ∧ c.exceptionTable.toList = tableOf hh
def zz_Z (p : Program) (l : Launch) (e : Env) (R : Room) (s : State) (m : MethodId) (args : Array Value) (below : List Frame) (meth : Method) (c : Code) (Q : State → Prop) (D : va_G) (A : Nat → Prop) (nL cells slots : Nat) (ws : va_W) (pc : Nat) (lv : List (Nat × Value)) (st : List Value) : Prop :=
  ∀ (H : Heap) (locs : List Loc) (ls : Array Slot), va_P D zcl ws H → va_D A ws → va_S A s.heap H locs → lv_has ls nL lv → W p l e R s m args below meth c H locs cells slots Q (F0 m pc ls st)
/-- .. with E thrown over the frame -/
def zz_X (p : Program) (l : Launch) (e : Env) (R : Room) (s : State) (m : MethodId) (args : Array Value) (below : List Frame) (meth : Method) (c : Code) (Q : State → Prop) (D : va_G) (A : Nat → Prop) (nL cells slots : Nat) (ws : va_W) (pc : Nat) (lv : List (Nat × Value)) (st : List Value) (E : String) : Prop :=
  ∀ (H : Heap) (locs : List Loc) (ls : Array Slot) (q : Addr) (ce : Cell), va_P D zcl ws H → va_D A ws → va_S A s.heap H locs → lv_has ls nL lv → H[q]? = some ce → ce.vm = .none → s.vm.findClass E = some ce.cls → vx_W p l e R s m args below meth c H locs cells slots Q (F0 m pc ls st) q
section ZZ
variable {p : Program} {l : Launch} {e : Env} {R : Room} {s : State} {m : MethodId} {args : Array Value} {below : List Frame} {meth : Method} {c : Code} {Q : State → Prop} {D : va_G} {U : zz_U} {A : Nat → Prop} {own : String} {cc : ByteArray} {nL d cells slots pc : Nat} {ret : Option FieldType} {hh : List (Nat × Nat × Nat × Nat)} {lv : List (Nat × Value)} {st : List Value} {ws : va_W}
theorem zz_C.x (C : zz_C p l R s m meth c D U A own cc nL ret hh d) : p.tables.exec = Jvm.exec := C.1
theorem zz_C.b (C : zz_C p l R s m meth c D U A own cc nL ret hh d) : c.code = cc := C.2.1
theorem zz_C.ml (C : zz_C p l R s m meth c D U A own cc nL ret hh d) : c.maxLocals = nL := C.2.2.1
theorem zz_C.ow (C : zz_C p l R s m meth c D U A own cc nL ret hh d) : s.vm.findClass own = some m.cls := C.2.2.2.1
theorem zz_C.F (C : zz_C p l R s m meth c D U A own cc nL ret hh d) : zz_F s := C.2.2.2.2.1
theorem zz_C.lk (C : zz_C p l R s m meth c D U A own cc nL ret hh d) : meth.locks = false := C.2.2.2.2.2.1
theorem zz_C.tr (C : zz_C p l R s m meth c D U A own cc nL ret hh d) : l.stackTraces = false := C.2.2.2.2.2.2.1
theorem zz_C.K (C : zz_C p l R s m meth c D U A own cc nL ret hh d) : va_K D zcl (zz_tys U) s := C.2.2.2.2.2.2.2.1
theorem zz_C.hA (C : zz_C p l R s m meth c D U A own cc nL ret hh d) : ∀ q, s.heap.size ≤ q → A q := C.2.2.2.2.2.2.2.2.1
theorem zz_C.S (C : zz_C p l R s m meth c D U A own cc nL ret hh d) : zz_S A s s.heap := C.2.2.2.2.2.2.2.2.2.1
theorem zz_C.fr (C : zz_C p l R s m meth c D U A own cc nL ret hh d) : d ≤ R.frames := C.2.2.2.2.2.2.2.2.2.2.1
theorem zz_C.lo (C : zz_C p l R s m meth c D U A own cc nL ret hh d) : 36 * d ≤ R.locals := C.2.2.2.2.2.2.2.2.2.2.2.1
theorem zz_C.r (C : zz_C p l R s m meth c D U A own cc nL ret hh d) : meth.sig.returnType = ret := C.2.2.2.2.2.2.2.2.2.2.2.2.1
theorem zz_C.t (C : zz_C p l R s m meth c D U A own cc nL ret hh d) : c.exceptionTable.toList = tableOf hh := C.2.2.2.2.2.2.2.2.2.2.2.2.2
/-- a good word of the tables -/
theorem zz_C.w (C : zz_C p l R s m meth c D U A own cc nL ret hh d) {w : Cond} (h : w ∈ lw_tbl ∧ goodWord w = true) {a : Array Value} : w.before a s = true := C.F.1 w h.1 h.2 a
theorem zz_ws (C : zz_C p l R s m meth c D U A own cc nL ret hh d) {L : List Cond} (h : ∀ w ∈ L, w ∈ lw_tbl) (h2 : L.all goodWord = true) {a : Array Value} : ∀ w ∈ L, w.before a s = true := fun w hw => C.F.1 w (h w hw) (List.all_eq_true.mp h2 w hw) a
/-- fewer locals -/
theorem zz_sub (ks : List Nat) {lv' : List (Nat × Value)} (h : lv_pick lv ks = lv') (k : zz_Z p l e R s m args below meth c Q D A nL cells slots ws pc lv' st) : zz_Z p l e R s m args below meth c Q D A nL cells slots ws pc lv st := fun H locs ls hP hD hS hl => k H locs ls hP hD hS (lv_sub hl ks h)
/-- the world by another name -/
theorem zz_ren {ws' : va_W} (h : ws = ws') (k : zz_Z p l e R s m args below meth c Q D A nL cells slots ws' pc lv st) : zz_Z p l e R s m args below meth c Q D A nL cells slots ws pc lv st := h ▸ k
theorem zz_widen {k n : Nat} (h1 : cells ≤ k) (h2 : slots ≤ n) (kk : zz_Z p l e R s m args below meth c Q D A nL k n ws pc lv st) : zz_Z p l e R s m args below meth c Q D A nL cells slots ws pc lv st := fun H locs ls hP hD hS hl => W.widen h1 h2 (kk H locs ls hP hD hS hl)
def zz_max (x y : Int32) : Int32 := if x < y then y else x
def zz_min (x y : Int32) : Int32 := if y < x then y else x
def zz_abs (x : Int32) : Int32 := if 0 ≤ x then x else 0 - x
def zz_ushr (x y : Int32) : Int32 := (x.toUInt32 >>> (y.toUInt32 &&& Int32.toUInt32 31)).toInt32
theorem zz_iconst (C : zz_C p l R s m meth c D U A own cc nL ret hh d) {n : Int} {v : Int32} (hdg : decode cc pc = .ok (.iconst n, 1)) (hv : Int32.ofInt n = v) (k : zz_Z p l e R s m args below meth c Q D A nL cells slots ws (pc + 1) lv (.int v :: st)) : zz_Z p l e R s m args below meth c Q D A nL cells slots ws (pc) lv (st) := fun H locs ls hP hD hS hl => lv_iconst C.x C.b hdg hv (k H locs ls hP hD hS hl)
theorem zz_bipush (C : zz_C p l R s m meth c D U A own cc nL ret hh d) {n : Int} {v : Int32} (hdg : decode cc pc = .ok (.bipush n, 2)) (hv : (Int8.ofInt n).toInt32 = v) (k : zz_Z p l e R s m args below meth c Q D A nL cells slots ws (pc + 2) lv (.int v :: st)) : zz_Z p l e R s m args below meth c Q D A nL cells slots ws (pc) lv (st) := fun H locs ls hP hD hS hl => lv_bipush C.x C.b hdg hv (k H locs ls hP hD hS hl)
theorem zz_sipush (C : zz_C p l R s m meth c D U A own cc nL ret hh d) {n : Int} {v : Int32} (hdg : decode cc pc = .ok (.sipush n, 3)) (hv : (Int16.ofInt n).toInt32 = v) (k : zz_Z p l e R s m args below meth c Q D A nL cells slots ws (pc + 3) lv (.int v :: st)) : zz_Z p l e R s m args below meth c Q D A nL cells slots ws (pc) lv (st) := fun H locs ls hP hD hS hl => lv_sipush C.x C.b hdg hv (k H locs ls hP hD hS hl)
theorem zz_lconst (C : zz_C p l R s m meth c D U A own cc nL ret hh d) {n : Fin 2} {v : Int64} (hdg : decode cc pc = .ok (.lconst n, 1)) (hv : Int64.ofNat (n : Nat) = v) (k : zz_Z p l e R s m args below meth c Q D A nL cells slots ws (pc + 1) lv (.long v :: st)) : zz_Z p l e R s m args below meth c Q D A nL cells slots ws (pc) lv (st) := fun H locs ls hP hD hS hl => lv_lconst C.x C.b hdg hv (k H locs ls hP hD hS hl)
theorem zz_iload_n (C : zz_C p l R s m meth c D U A own cc nL ret hh d) {q : Fin 4} {i : Nat} {x : Int32} (j : Nat) (hdg : decode cc pc = .ok (.iload_n q, 1)) (hi : (q : Nat) = i) (hk : lv[j]? = some (i, .int x)) (k : zz_Z p l e R s m args below meth c Q D A nL cells slots ws (pc + 1) lv (.int x :: st)) : zz_Z p l e R s m args below meth c Q D A nL cells slots ws (pc) lv (st) := fun H locs ls hP hD hS hl => lv_iload_n C.x C.b hdg hi (lv_at hl j hk) (k H locs ls hP hD hS hl)
theorem zz_iload (C : zz_C p l R s m meth c D U A own cc nL ret hh d) {i : Nat} {x : Int32} (j : Nat) (hdg : decode cc pc = .ok (.iload i, 2)) (hk : lv[j]? = some (i, .int x)) (k : zz_Z p l e R s m args below meth c Q D A nL cells slots ws (pc + 2) lv (.int x :: st)) : zz_Z p l e R s m args below meth c Q D A nL cells slots ws (pc) lv (st) := fun H locs ls hP hD hS hl => lv_iload C.x C.b hdg (lv_at hl j hk) (k H locs ls hP hD hS hl)
theorem zz_lload_n (C : zz_C p l R s m meth c D U A own cc nL ret hh d) {q : Fin 4} {i : Nat} {x : Int64} (j : Nat) (hdg : decode cc pc = .ok (.lload_n q, 1)) (hi : (q : Nat) = i) (hk : lv[j]? = some (i, .long x)) (k : zz_Z p l e R s m args below meth c Q D A nL cells slots ws (pc + 1) lv (.long x :: st)) : zz_Z p l e R s m args below meth c Q D A nL cells slots ws (pc) lv (st) := fun H locs ls hP hD hS hl => lv_lload_n C.x C.b hdg hi (lv_at hl j hk) (k H locs ls hP hD hS hl)
theorem zz_lload (C : zz_C p l R s m meth c D U A own cc nL ret hh d) {i : Nat} {x : Int64} (j : Nat) (hdg : decode cc pc = .ok (.lload i, 2)) (hk : lv[j]? = some (i, .long x)) (k : zz_Z p l e R s m args below meth c Q D A nL cells slots ws (pc + 2) lv (.long x :: st)) : zz_Z p l e R s m args below meth c Q D A nL cells slots ws (pc) lv (st) := fun H locs ls hP hD hS hl => lv_lload C.x C.b hdg (lv_at hl j hk) (k H locs ls hP hD hS hl)
theorem zz_aload_n (C : zz_C p l R s m meth c D U A own cc nL ret hh d) {q : Fin 4} {i : Nat} {x : Nat} (j : Nat) (hdg : decode cc pc = .ok (.aload_n q, 1)) (hi : (q : Nat) = i) (hk : lv[j]? = some (i, .ref x)) (k : zz_Z p l e R s m args below meth c Q D A nL cells slots ws (pc + 1) lv (.ref x :: st)) : zz_Z p l e R s m args below meth c Q D A nL cells slots ws (pc) lv (st) := fun H locs ls hP hD hS hl => lv_aload_n C.x C.b hdg hi (lv_at hl j hk) (k H locs ls hP hD hS hl)
theorem zz_aload (C : zz_C p l R s m meth c D U A own cc nL ret hh d) {i : Nat} {x : Nat} (j : Nat) (hdg : decode cc pc = .ok (.aload i, 2)) (hk : lv[j]? = some (i, .ref x)) (k : zz_Z p l e R s m args below meth c Q D A nL cells slots ws (pc + 2) lv (.ref x :: st)) : zz_Z p l e R s m args below meth c Q D A nL cells slots ws (pc) lv (st) := fun H locs ls hP hD hS hl => lv_aload C.x C.b hdg (lv_at hl j hk) (k H locs ls hP hD hS hl)
theorem zz_dload_n (C : zz_C p l R s m meth c D U A own cc nL ret hh d) {q : Fin 4} {i : Nat} {x : UInt64} (j : Nat) (hdg : decode cc pc = .ok (.dload_n q, 1)) (hi : (q : Nat) = i) (hk : lv[j]? = some (i, .double x)) (k : zz_Z p l e R s m args below meth c Q D A nL cells slots ws (pc + 1) lv (.double x :: st)) : zz_Z p l e R s m args below meth c Q D A nL cells slots ws (pc) lv (st) := fun H locs ls hP hD hS hl => lv_dload_n C.x C.b hdg hi (lv_at hl j hk) (k H locs ls hP hD hS hl)
theorem zz_dload (C : zz_C p l R s m meth c D U A own cc nL ret hh d) {i : Nat} {x : UInt64} (j : Nat) (hdg : decode cc pc = .ok (.dload i, 2)) (hk : lv[j]? = some (i, .double x)) (k : zz_Z p l e R s m args below meth c Q D A nL cells slots ws (pc + 2) lv (.double x :: st)) : zz_Z p l e R s m args below meth c Q D A nL cells slots ws (pc) lv (st) := fun H locs ls hP hD hS hl => lv_dload C.x C.b hdg (lv_at hl j hk) (k H locs ls hP hD hS hl)
theorem zz_istore_n (C : zz_C p l R s m meth c D U A own cc nL ret hh d) {q : Fin 4} {i : Nat} {x : Int32} {lv' : List (Nat × Value)} (hdg : decode cc pc = .ok (.istore_n q, 1)) (hi : (q : Nat) = i) (hn : i < nL) (hl : (i, Value.int x) :: lv.filter (fun q => !(q.1 == i) && !(q.1 + 1 == i && q.2.category == 2)) = lv') (k : zz_Z p l e R s m args below meth c Q D A nL cells slots ws (pc + 1) lv' (st)) : zz_Z p l e R s m args below meth c Q D A nL cells slots ws (pc) lv (.int x :: st) := fun H locs ls hP hD hS h9 => lv_istore_n C.x C.b hdg hi h9 hn hl (fun ls9 h8 => k H locs ls9 hP hD hS h8)
theorem zz_istore (C : zz_C p l R s m meth c D U A own cc nL ret hh d) {i : Nat} {x : Int32} {lv' : List (Nat × Value)} (hdg : decode cc pc = .ok (.istore i, 2)) (hn : i < nL) (hl : (i, Value.int x) :: lv.filter (fun q => !(q.1 == i) && !(q.1 + 1 == i && q.2.category == 2)) = lv') (k : zz_Z p l e R s m args below meth c Q D A nL cells slots ws (pc + 2) lv' (st)) : zz_Z p l e R s m args below meth c Q D A nL cells slots ws (pc) lv (.int x :: st) := fun H locs ls hP hD hS h9 => lv_istore C.x C.b hdg h9 hn hl (fun ls9 h8 => k H locs ls9 hP hD hS h8)
theorem zz_astore_n (C : zz_C p l R s m meth c D U A own cc nL ret hh d) {q : Fin 4} {i : Nat} {x : Nat} {lv' : List (Nat × Value)} (hdg : decode cc pc = .ok (.astore_n q, 1)) (hi : (q : Nat) = i) (hn : i < nL) (hl : (i, Value.ref x) :: lv.filter (fun q => !(q.1 == i) && !(q.1 + 1 == i && q.2.category == 2)) = lv') (k : zz_Z p l e R s m args below meth c Q D A nL cells slots ws (pc + 1) lv' (st)) : zz_Z p l e R s m args below meth c Q D A nL cells slots ws (pc) lv (.ref x :: st) := fun H locs ls hP hD hS h9 => lv_astore_n C.x C.b hdg hi h9 hn hl (fun ls9 h8 => k H locs ls9 hP hD hS h8)
theorem zz_astore (C : zz_C p l R s m meth c D U A own cc nL ret hh d) {i : Nat} {x : Nat} {lv' : List (Nat × Value)} (hdg : decode cc pc = .ok (.astore i, 2)) (hn : i < nL) (hl : (i, Value.ref x) :: lv.filter (fun q => !(q.1 == i) && !(q.1 + 1 == i && q.2.category == 2)) = lv') (k : zz_Z p l e R s m args below meth c Q D A nL cells slots ws (pc + 2) lv' (st)) : zz_Z p l e R s m args below meth c Q D A nL cells slots ws (pc) lv (.ref x :: st) := fun H locs ls hP hD hS h9 => lv_astore C.x C.b hdg h9 hn hl (fun ls9 h8 => k H locs ls9 hP hD hS h8)
theorem zz_lstore_n (C : zz_C p l R s m meth c D U A own cc nL ret hh d) {q : Fin 4} {i : Nat} {x : Int64} {lv' : List (Nat × Value)} (hdg : decode cc pc = .ok (.lstore_n q, 1)) (hi : (q : Nat) = i) (hn : i + 1 < nL) (hl : (i, Value.long x) :: lv.filter (fun q => !(q.1 == i) && (!(q.1 == i + 1) && !(q.1 + 1 == i && q.2.category == 2))) = lv') (k : zz_Z p l e R s m args below meth c Q D A nL cells slots ws (pc + 1) lv' (st)) : zz_Z p l e R s m args below meth c Q D A nL cells slots ws (pc) lv (.long x :: st) := fun H locs ls hP hD hS h9 => lv_lstore_n C.x C.b hdg hi h9 hn hl (fun ls9 h8 => k H locs ls9 hP hD hS h8)
theorem zz_lstore (C : zz_C p l R s m meth c D U A own cc nL ret hh d) {i : Nat} {x : Int64} {lv' : List (Nat × Value)} (hdg : decode cc pc = .ok (.lstore i, 2)) (hn : i + 1 < nL) (hl : (i, Value.long x) :: lv.filter (fun q => !(q.1 == i) && (!(q.1 == i + 1) && !(q.1 + 1 == i && q.2.category == 2))) = lv') (k : zz_Z p l e R s m args below meth c Q D A nL cells slots ws (pc + 2) lv' (st)) : zz_Z p l e R s m args below meth c Q D A nL cells slots ws (pc) lv (.long x :: st) := fun H locs ls hP hD hS h9 => lv_lstore C.x C.b hdg h9 hn hl (fun ls9 h8 => k H locs ls9 hP hD hS h8)
theorem zz_dstore_n (C : zz_C p l R s m meth c D U A own cc nL ret hh d) {q : Fin 4} {i : Nat} {x : UInt64} {lv' : List (Nat × Value)} (hdg : decode cc pc = .ok (.dstore_n q, 1)) (hi : (q : Nat) = i) (hn : i + 1 < nL) (hl : (i, Value.double x) :: lv.filter (fun q => !(q.1 == i) && (!(q.1 == i + 1) && !(q.1 + 1 == i && q.2.category == 2))) = lv') (k : zz_Z p l e R s m args below meth c Q D A nL cells slots ws (pc + 1) lv' (st)) : zz_Z p l e R s m args below meth c Q D A nL cells slots ws (pc) lv (.double x :: st) := fun H locs ls hP hD hS h9 => lv_dstore_n C.x C.b hdg hi h9 hn hl (fun ls9 h8 => k H locs ls9 hP hD hS h8)
theorem zz_dstore (C : zz_C p l R s m meth c D U A own cc nL ret hh d) {i : Nat} {x : UInt64} {lv' : List (Nat × Value)} (hdg : decode cc pc = .ok (.dstore i, 2)) (hn : i + 1 < nL) (hl : (i, Value.double x) :: lv.filter (fun q => !(q.1 == i) && (!(q.1 == i + 1) && !(q.1 + 1 == i && q.2.category == 2))) = lv') (k : zz_Z p l e R s m args below meth c Q D A nL cells slots ws (pc + 2) lv' (st)) : zz_Z p l e R s m args below meth c Q D A nL cells slots ws (pc) lv (.double x :: st) := fun H locs ls hP hD hS h9 => lv_dstore C.x C.b hdg h9 hn hl (fun ls9 h8 => k H locs ls9 hP hD hS h8)
theorem zz_iinc (C : zz_C p l R s m meth c D U A own cc nL ret hh d) {i : Nat} {n : Int} {x v : Int32} {lv' : List (Nat × Value)} (j : Nat) (hdg : decode cc pc = .ok (.iinc i n, 3)) (hk : lv[j]? = some (i, .int x)) (hv : x + Int32.ofInt n = v) (hn : i < nL) (hl : (i, Value.int v) :: lv.filter (fun q => !(q.1 == i) && !(q.1 + 1 == i && q.2.category == 2)) = lv') (k : zz_Z p l e R s m args below meth c Q D A nL cells slots ws (pc + 3) lv' (st)) : zz_Z p l e R s m args below meth c Q D A nL cells slots ws (pc) lv (st) := fun H locs ls hP hD hS h9 => lv_iinc C.x C.b hdg h9 hk hv hn hl (fun ls9 h8 => k H locs ls9 hP hD hS h8)
theorem zz_iadd (C : zz_C p l R s m meth c D U A own cc nL ret hh d) {x y : Int32} (hdg : decode cc pc = .ok (.iadd, 1)) (k : zz_Z p l e R s m args below meth c Q D A nL cells slots ws (pc + 1) lv (.int (x + y) :: st)) : zz_Z p l e R s m args below meth c Q D A nL cells slots ws (pc) lv (.int y :: .int x :: st) := fun H locs ls hP hD hS hl => lv_iadd C.x C.b hdg (k H locs ls hP hD hS hl)
theorem zz_isub (C : zz_C p l R s m meth c D U A own cc nL ret hh d) {x y : Int32} (hdg : decode cc pc = .ok (.isub, 1)) (k : zz_Z p l e R s m args below meth c Q D A nL cells slots ws (pc + 1) lv (.int (x - y) :: st)) : zz_Z p l e R s m args below meth c Q D A nL cells slots ws (pc) lv (.int y :: .int x :: st) := fun H locs ls hP hD hS hl => lv_isub C.x C.b hdg (k H locs ls hP hD hS hl)
theorem zz_imul (C : zz_C p l R s m meth c D U A own cc nL ret hh d) {x y : Int32} (hdg : decode cc pc = .ok (.imul, 1)) (k : zz_Z p l e R s m args below meth c Q D A nL cells slots ws (pc + 1) lv (.int (x * y) :: st)) : zz_Z p l e R s m args below meth c Q D A nL cells slots ws (pc) lv (.int y :: .int x :: st) := fun H locs ls hP hD hS hl => lv_imul C.x C.b hdg (k H locs ls hP hD hS hl)
theorem zz_iand (C : zz_C p l R s m meth c D U A own cc nL ret hh d) {x y : Int32} (hdg : decode cc pc = .ok (.iand, 1)) (k : zz_Z p l e R s m args below meth c Q D A nL cells slots ws (pc + 1) lv (.int (x &&& y) :: st)) : zz_Z p l e R s m args below meth c Q D A nL cells slots ws (pc) lv (.int y :: .int x :: st) := fun H locs ls hP hD hS hl => lv_iand C.x C.b hdg (k H locs ls hP hD hS hl)
theorem zz_ior (C : zz_C p l R s m meth c D U A own cc nL ret hh d) {x y : Int32} (hdg : decode cc pc = .ok (.ior, 1)) (k : zz_Z p l e R s m args below meth c Q D A nL cells slots ws (pc + 1) lv (.int (x ||| y) :: st)) : zz_Z p l e R s m args below meth c Q D A nL cells slots ws (pc) lv (.int y :: .int x :: st) := fun H locs ls hP hD hS hl => lv_ior C.x C.b hdg (k H locs ls hP hD hS hl)
theorem zz_ixor (C : zz_C p l R s m meth c D U A own cc nL ret hh d) {x y : Int32} (hdg : decode cc pc = .ok (.ixor, 1)) (k : zz_Z p l e R s m args below meth c Q D A nL cells slots ws (pc + 1) lv (.int (x ^^^ y) :: st)) : zz_Z p l e R s m args below meth c Q D A nL cells slots ws (pc) lv (.int y :: .int x :: st) := fun H locs ls hP hD hS hl => lv_ixor C.x C.b hdg (k H locs ls hP hD hS hl)
theorem zz_idiv (C : zz_C p l R s m meth c D U A own cc nL ret hh d) {x y : Int32} (hdg : decode cc pc = .ok (.idiv, 1)) (hne : ¬ y = 0) (k : zz_Z p l e R s m args below meth c Q D A nL cells slots ws (pc + 1) lv (.int (x / y) :: st)) : zz_Z p l e R s m args below meth c Q D A nL cells slots ws (pc) lv (.int y :: .int x :: st) := fun H locs ls hP hD hS hl => lv_idiv C.x C.b hdg hne (k H locs ls hP hD hS hl)
theorem zz_irem (C : zz_C p l R s m meth c D U A own cc nL ret hh d) {x y : Int32} (hdg : decode cc pc = .ok (.irem, 1)) (hne : ¬ y = 0) (k : zz_Z p l e R s m args below meth c Q D A nL cells slots ws (pc + 1) lv (.int (x - x / y * y) :: st)) : zz_Z p l e R s m args below meth c Q D A nL cells slots ws (pc) lv (.int y :: .int x :: st) := fun H locs ls hP hD hS hl => lv_irem C.x C.b hdg hne (k H locs ls hP hD hS hl)
theorem zz_ineg (C : zz_C p l R s m meth c D U A own cc nL ret hh d) {x : Int32} (hdg : decode cc pc = .ok (.ineg, 1)) (k : zz_Z p l e R s m args below meth c Q D A nL cells slots ws (pc + 1) lv (.int (-x) :: st)) : zz_Z p l e R s m args below meth c Q D A nL cells slots ws (pc) lv (.int x :: st) := fun H locs ls hP hD hS hl => lv_ineg C.x C.b hdg (k H locs ls hP hD hS hl)
theorem zz_ladd (C : zz_C p l R s m meth c D U A own cc nL ret hh d) {x y : Int64} (hdg : decode cc pc = .ok (.ladd, 1)) (k : zz_Z p l e R s m args below meth c Q D A nL cells slots ws (pc + 1) lv (.long (x + y) :: st)) : zz_Z p l e R s m args below meth c Q D A nL cells slots ws (pc) lv (.long y :: .long x :: st) := fun H locs ls hP hD hS hl => lv_ladd C.x C.b hdg (k H locs ls hP hD hS hl)
theorem zz_lsub (C : zz_C p l R s m meth c D U A own cc nL ret hh d) {x y : Int64} (hdg : decode cc pc = .ok (.lsub, 1)) (k : zz_Z p l e R s m args below meth c Q D A nL cells slots ws (pc + 1) lv (.long (x - y) :: st)) : zz_Z p l e R s m args below meth c Q D A nL cells slots ws (pc) lv (.long y :: .long x :: st) := fun H locs ls hP hD hS hl => lv_lsub C.x C.b hdg (k H locs ls hP hD hS hl)
theorem zz_lmul (C : zz_C p l R s m meth c D U A own cc nL ret hh d) {x y : Int64} (hdg : decode cc pc = .ok (.lmul, 1)) (k : zz_Z p l e R s m args below meth c Q D A nL cells slots ws (pc + 1) lv (.long (x * y) :: st)) : zz_Z p l e R s m args below meth c Q D A nL cells slots ws (pc) lv (.long y :: .long x :: st) := fun H locs ls hP hD hS hl => lv_lmul C.x C.b hdg (k H locs ls hP hD hS hl)
theorem zz_iushr (C : zz_C p l R s m meth c D U A own cc nL ret hh d) {x y : Int32} (hdg : decode cc pc = .ok (.iushr, 1)) (k : zz_Z p l e R s m args below meth c Q D A nL cells slots ws (pc + 1) lv (.int (zz_ushr x y) :: st)) : zz_Z p l e R s m args below meth c Q D A nL cells slots ws (pc) lv (.int y :: .int x :: st) := fun H locs ls hP hD hS hl => lv_iushr C.x C.b hdg rfl (k H locs ls hP hD hS hl)
theorem zz_ishl (C : zz_C p l R s m meth c D U A own cc nL ret hh d) {x y : Int32} (hdg : decode cc pc = .ok (.ishl, 1)) (k : zz_Z p l e R s m args below meth c Q D A nL cells slots ws (pc + 1) lv (.int (x <<< (y &&& 31)) :: st)) : zz_Z p l e R s m args below meth c Q D A nL cells slots ws (pc) lv (.int y :: .int x :: st) := fun H locs ls hP hD hS hl => lv_ishl C.x C.b hdg (k H locs ls hP hD hS hl)
theorem zz_ishr (C : zz_C p l R s m meth c D U A own cc nL ret hh d) {x y : Int32} (hdg : decode cc pc = .ok (.ishr, 1)) (k : zz_Z p l e R s m args below meth c Q D A nL cells slots ws (pc + 1) lv (.int (x >>> (y &&& 31)) :: st)) : zz_Z p l e R s m args below meth c Q D A nL cells slots ws (pc) lv (.int y :: .int x :: st) := fun H locs ls hP hD hS hl => lv_ishr C.x C.b hdg (k H locs ls hP hD hS hl)
theorem zz_i2l (C : zz_C p l R s m meth c D U A own cc nL ret hh d) {x : Int32} (hdg : decode cc pc = .ok (.i2l, 1)) (k : zz_Z p l e R s m args below meth c Q D A nL cells slots ws (pc + 1) lv (.long x.toInt64 :: st)) : zz_Z p l e R s m args below meth c Q D A nL cells slots ws (pc) lv (.int x :: st) := fun H locs ls hP hD hS hl => lv_i2l C.x C.b hdg rfl (k H locs ls hP hD hS hl)
theorem zz_i2d (C : zz_C p l R s m meth c D U A own cc nL ret hh d) {x : Int32} (hdg : decode cc pc = .ok (.i2d, 1)) (k : zz_Z p l e R s m args below meth c Q D A nL cells slots ws (pc + 1) lv (.double (FP.i2d x) :: st)) : zz_Z p l e R s m args below meth c Q D A nL cells slots ws (pc) lv (.int x :: st) := fun H locs ls hP hD hS hl => lv_i2d C.x C.b hdg (k H locs ls hP hD hS hl)
theorem zz_dconst0 (C : zz_C p l R s m meth c D U A own cc nL ret hh d)  (hdg : decode cc pc = .ok (.dconst 0, 1)) (k : zz_Z p l e R s m args below meth c Q D A nL cells slots ws (pc + 1) lv (.double FP.dconst0 :: st)) : zz_Z p l e R s m args below meth c Q D A nL cells slots ws (pc) lv (st) := fun H locs ls hP hD hS hl => lv_dconst0 C.x C.b hdg (k H locs ls hP hD hS hl)
theorem zz_dconst1 (C : zz_C p l R s m meth c D U A own cc nL ret hh d)  (hdg : decode cc pc = .ok (.dconst 1, 1)) (k : zz_Z p l e R s m args below meth c Q D A nL cells slots ws (pc + 1) lv (.double FP.dconst1 :: st)) : zz_Z p l e R s m args below meth c Q D A nL cells slots ws (pc) lv (st) := fun H locs ls hP hD hS hl => lv_dconst1 C.x C.b hdg (k H locs ls hP hD hS hl)
theorem zz_ddiv (C : zz_C p l R s m meth c D U A own cc nL ret hh d) {x y : UInt64} (hdg : decode cc pc = .ok (.ddiv, 1)) (hne : vf_n64 (FP.ddiv x y)) (k : zz_Z p l e R s m args below meth c Q D A nL cells slots ws (pc + 1) lv (.double (FP.ddiv x y) :: st)) : zz_Z p l e R s m args below meth c Q D A nL cells slots ws (pc) lv (.double y :: .double x :: st) := fun H locs ls hP hD hS hl => lv_ddiv C.x C.b hdg hne (k H locs ls hP hD hS hl)
theorem zz_dcmp (C : zz_C p l R s m meth c D U A own cc nL ret hh d) {x y : UInt64} {op : CmpOp} (hdg : decode cc pc = .ok (.dcmp op, 1)) (k : zz_Z p l e R s m args below meth c Q D A nL cells slots ws (pc + 1) lv (.int (Op.cmpValue (FP.dcmp x y) op) :: st)) : zz_Z p l e R s m args below meth c Q D A nL cells slots ws (pc) lv (.double y :: .double x :: st) := fun H locs ls hP hD hS hl => lv_dcmp C.x C.b hdg (k H locs ls hP hD hS hl)
theorem zz_dup (C : zz_C p l R s m meth c D U A own cc nL ret hh d) {va : Value} (hdg : decode cc pc = .ok (.dup, 1)) (hva : va.category = 1) (k : zz_Z p l e R s m args below meth c Q D A nL cells slots ws (pc + 1) lv (va :: va :: st)) : zz_Z p l e R s m args below meth c Q D A nL cells slots ws (pc) lv (va :: st) := fun H locs ls hP hD hS hl => lv_dup C.x C.b hdg hva (k H locs ls hP hD hS hl)
theorem zz_pop (C : zz_C p l R s m meth c D U A own cc nL ret hh d) {va : Value} (hdg : decode cc pc = .ok (.pop, 1)) (hva : va.category = 1) (k : zz_Z p l e R s m args below meth c Q D A nL cells slots ws (pc + 1) lv (st)) : zz_Z p l e R s m args below meth c Q D A nL cells slots ws (pc) lv (va :: st) := fun H locs ls hP hD hS hl => lv_pop C.x C.b hdg hva (k H locs ls hP hD hS hl)
theorem zz_dup2_11 (C : zz_C p l R s m meth c D U A own cc nL ret hh d) {va vb : Value} (hdg : decode cc pc = .ok (.dup2, 1)) (hva : va.category = 1) (hvb : vb.category = 1) (k : zz_Z p l e R s m args below meth c Q D A nL cells slots ws (pc + 1) lv (va :: vb :: va :: vb :: st)) : zz_Z p l e R s m args below meth c Q D A nL cells slots ws (pc) lv (va :: vb :: st) := fun H locs ls hP hD hS hl => lv_dup2_11 C.x C.b hdg hva hvb (k H locs ls hP hD hS hl)
theorem zz_lcmp (C : zz_C p l R s m meth c D U A own cc nL ret hh d) {x y : Int64} (hdg : decode cc pc = .ok (.lcmp, 1)) (k : zz_Z p l e R s m args below meth c Q D A nL cells slots ws (pc + 1) lv (.int (lg_cmp x y) :: st)) : zz_Z p l e R s m args below meth c Q D A nL cells slots ws (pc) lv (.long y :: .long x :: st) := fun H locs ls hP hD hS hl => W.lcmp C.x C.b hdg (k H locs ls hP hD hS hl)
theorem zz_if_eq (C : zz_C p l R s m meth c D U A own cc nL ret hh d) {x : Int32} {off : Int} {tgt : Nat} (hdg : decode cc pc = .ok (.ifCond .eq off, 3)) (ht : (pc : Int) + off = (tgt : Int)) (kt : x = 0 → zz_Z p l e R s m args below meth c Q D A nL cells slots ws (tgt) lv (st)) (kf : ¬ x = 0 → zz_Z p l e R s m args below meth c Q D A nL cells slots ws (pc + 3) lv (st)) : zz_Z p l e R s m args below meth c Q D A nL cells slots ws (pc) lv (.int x :: st) := fun H locs ls hP hD hS hl => lv_if_eq C.x C.b hdg ht (fun h9 => kt h9 H locs ls hP hD hS hl) (fun h9 => kf h9 H locs ls hP hD hS hl)
theorem zz_if_ne (C : zz_C p l R s m meth c D U A own cc nL ret hh d) {x : Int32} {off : Int} {tgt : Nat} (hdg : decode cc pc = .ok (.ifCond .ne off, 3)) (ht : (pc : Int) + off = (tgt : Int)) (kt : ¬ x = 0 → zz_Z p l e R s m args below meth c Q D A nL cells slots ws (tgt) lv (st)) (kf : x = 0 → zz_Z p l e R s m args below meth c Q D A nL cells slots ws (pc + 3) lv (st)) : zz_Z p l e R s m args below meth c Q D A nL cells slots ws (pc) lv (.int x :: st) := fun H locs ls hP hD hS hl => lv_if_ne C.x C.b hdg ht (fun h9 => kt h9 H locs ls hP hD hS hl) (fun h9 => kf h9 H locs ls hP hD hS hl)
theorem zz_if_lt (C : zz_C p l R s m meth c D U A own cc nL ret hh d) {x : Int32} {off : Int} {tgt : Nat} (hdg : decode cc pc = .ok (.ifCond .lt off, 3)) (ht : (pc : Int) + off = (tgt : Int)) (kt : x < 0 → zz_Z p l e R s m args below meth c Q D A nL cells slots ws (tgt) lv (st)) (kf : ¬ x < 0 → zz_Z p l e R s m args below meth c Q D A nL cells slots ws (pc + 3) lv (st)) : zz_Z p l e R s m args below meth c Q D A nL cells slots ws (pc) lv (.int x :: st) := fun H locs ls hP hD hS hl => lv_if_lt C.x C.b hdg ht (fun h9 => kt h9 H locs ls hP hD hS hl) (fun h9 => kf h9 H locs ls hP hD hS hl)
theorem zz_if_ge (C : zz_C p l R s m meth c D U A own cc nL ret hh d) {x : Int32} {off : Int} {tgt : Nat} (hdg : decode cc pc = .ok (.ifCond .ge off, 3)) (ht : (pc : Int) + off = (tgt : Int)) (kt : 0 ≤ x → zz_Z p l e R s m args below meth c Q D A nL cells slots ws (tgt) lv (st)) (kf : ¬ 0 ≤ x → zz_Z p l e R s m args below meth c Q D A nL cells slots ws (pc + 3) lv (st)) : zz_Z p l e R s m args below meth c Q D A nL cells slots ws (pc) lv (.int x :: st) := fun H locs ls hP hD hS hl => lv_if_ge C.x C.b hdg ht (fun h9 => kt h9 H locs ls hP hD hS hl) (fun h9 => kf h9 H locs ls hP hD hS hl)
theorem zz_if_gt (C : zz_C p l R s m meth c D U A own cc nL ret hh d) {x : Int32} {off : Int} {tgt : Nat} (hdg : decode cc pc = .ok (.ifCond .gt off, 3)) (ht : (pc : Int) + off = (tgt : Int)) (kt : 0 < x → zz_Z p l e R s m args below meth c Q D A nL cells slots ws (tgt) lv (st)) (kf : ¬ 0 < x → zz_Z p l e R s m args below meth c Q D A nL cells slots ws (pc + 3) lv (st)) : zz_Z p l e R s m args below meth c Q D A nL cells slots ws (pc) lv (.int x :: st) := fun H locs ls hP hD hS hl => lv_if_gt C.x C.b hdg ht (fun h9 => kt h9 H locs ls hP hD hS hl) (fun h9 => kf h9 H locs ls hP hD hS hl)
theorem zz_if_le (C : zz_C p l R s m meth c D U A own cc nL ret hh d) {x : Int32} {off : Int} {tgt : Nat} (hdg : decode cc pc = .ok (.ifCond .le off, 3)) (ht : (pc : Int) + off = (tgt : Int)) (kt : x ≤ 0 → zz_Z p l e R s m args below meth c Q D A nL cells slots ws (tgt) lv (st)) (kf : ¬ x ≤ 0 → zz_Z p l e R s m args below meth c Q D A nL cells slots ws (pc + 3) lv (st)) : zz_Z p l e R s m args below meth c Q D A nL cells slots ws (pc) lv (.int x :: st) := fun H locs ls hP hD hS hl => lv_if_le C.x C.b hdg ht (fun h9 => kt h9 H locs ls hP hD hS hl) (fun h9 => kf h9 H locs ls hP hD hS hl)
theorem zz_icmp_eq (C : zz_C p l R s m meth c D U A own cc nL ret hh d) {x y : Int32} {off : Int} {tgt : Nat} (hdg : decode cc pc = .ok (.if_icmp .eq off, 3)) (ht : (pc : Int) + off = (tgt : Int)) (kt : x = y → zz_Z p l e R s m args below meth c Q D A nL cells slots ws (tgt) lv (st)) (kf : ¬ x = y → zz_Z p l e R s m args below meth c Q D A nL cells slots ws (pc + 3) lv (st)) : zz_Z p l e R s m args below meth c Q D A nL cells slots ws (pc) lv (.int y :: .int x :: st) := fun H locs ls hP hD hS hl => lv_icmp_eq C.x C.b hdg ht (fun h9 => kt h9 H locs ls hP hD hS hl) (fun h9 => kf h9 H locs ls hP hD hS hl)
theorem zz_icmp_ne (C : zz_C p l R s m meth c D U A own cc nL ret hh d) {x y : Int32} {off : Int} {tgt : Nat} (hdg : decode cc pc = .ok (.if_icmp .ne off, 3)) (ht : (pc : Int) + off = (tgt : Int)) (kt : ¬ x = y → zz_Z p l e R s m args below meth c Q D A nL cells slots ws (tgt) lv (st)) (kf : x = y → zz_Z p l e R s m args below meth c Q D A nL cells slots ws (pc + 3) lv (st)) : zz_Z p l e R s m args below meth c Q D A nL cells slots ws (pc) lv (.int y :: .int x :: st) := fun H locs ls hP hD hS hl => lv_icmp_ne C.x C.b hdg ht (fun h9 => kt h9 H locs ls hP hD hS hl) (fun h9 => kf h9 H locs ls hP hD hS hl)
theorem zz_icmp_lt (C : zz_C p l R s m meth c D U A own cc nL ret hh d) {x y : Int32} {off : Int} {tgt : Nat} (hdg : decode cc pc = .ok (.if_icmp .lt off, 3)) (ht : (pc : Int) + off = (tgt : Int)) (kt : x < y → zz_Z p l e R s m args below meth c Q D A nL cells slots ws (tgt) lv (st)) (kf : ¬ x < y → zz_Z p l e R s m args below meth c Q D A nL cells slots ws (pc + 3) lv (st)) : zz_Z p l e R s m args below meth c Q D A nL cells slots ws (pc) lv (.int y :: .int x :: st) := fun H locs ls hP hD hS hl => lv_icmp_lt C.x C.b hdg ht (fun h9 => kt h9 H locs ls hP hD hS hl) (fun h9 => kf h9 H locs ls hP hD hS hl)
theorem zz_icmp_ge (C : zz_C p l R s m meth c D U A own cc nL ret hh d) {x y : Int32} {off : Int} {tgt : Nat} (hdg : decode cc pc = .ok (.if_icmp .ge off, 3)) (ht : (pc : Int) + off = (tgt : Int)) (kt : y ≤ x → zz_Z p l e R s m args below meth c Q D A nL cells slots ws (tgt) lv (st)) (kf : ¬ y ≤ x → zz_Z p l e R s m args below meth c Q D A nL cells slots ws (pc + 3) lv (st)) : zz_Z p l e R s m args below meth c Q D A nL cells slots ws (pc) lv (.int y :: .int x :: st) := fun H locs ls hP hD hS hl => lv_icmp_ge C.x C.b hdg ht (fun h9 => kt h9 H locs ls hP hD hS hl) (fun h9 => kf h9 H locs ls hP hD hS hl)
theorem zz_icmp_gt (C : zz_C p l R s m meth c D U A own cc nL ret hh d) {x y : Int32} {off : Int} {tgt : Nat} (hdg : decode cc pc = .ok (.if_icmp .gt off, 3)) (ht : (pc : Int) + off = (tgt : Int)) (kt : y < x → zz_Z p l e R s m args below meth c Q D A nL cells slots ws (tgt) lv (st)) (kf : ¬ y < x → zz_Z p l e R s m args below meth c Q D A nL cells slots ws (pc + 3) lv (st)) : zz_Z p l e R s m args below meth c Q D A nL cells slots ws (pc) lv (.int y :: .int x :: st) := fun H locs ls hP hD hS hl => lv_icmp_gt C.x C.b hdg ht (fun h9 => kt h9 H locs ls hP hD hS hl) (fun h9 => kf h9 H locs ls hP hD hS hl)
theorem zz_icmp_le (C : zz_C p l R s m meth c D U A own cc nL ret hh d) {x y : Int32} {off : Int} {tgt : Nat} (hdg : decode cc pc = .ok (.if_icmp .le off, 3)) (ht : (pc : Int) + off = (tgt : Int)) (kt : x ≤ y → zz_Z p l e R s m args below meth c Q D A nL cells slots ws (tgt) lv (st)) (kf : ¬ x ≤ y → zz_Z p l e R s m args below meth c Q D A nL cells slots ws (pc + 3) lv (st)) : zz_Z p l e R s m args below meth c Q D A nL cells slots ws (pc) lv (.int y :: .int x :: st) := fun H locs ls hP hD hS hl => lv_icmp_le C.x C.b hdg ht (fun h9 => kt h9 H locs ls hP hD hS hl) (fun h9 => kf h9 H locs ls hP hD hS hl)
theorem zz_goto (C : zz_C p l R s m meth c D U A own cc nL ret hh d) {off : Int} {tgt : Nat} (hdg : decode cc pc = .ok (.goto off, 3)) (ht : (pc : Int) + off = (tgt : Int)) (k : zz_Z p l e R s m args below meth c Q D A nL cells slots ws (tgt) lv (st)) : zz_Z p l e R s m args below meth c Q D A nL cells slots ws (pc) lv (st) := fun H locs ls hP hD hS hl => lv_goto C.x C.b hdg ht (k H locs ls hP hD hS hl)
theorem zz_ldc (C : zz_C p l R s m meth c D U A own cc nL ret hh d) {index : Nat} {v : Int32} (hdg : decode cc pc = .ok (.ldc index, 2)) (hw : Cond.constant own index v ∈ lw_tbl ∧ goodWord (Cond.constant own index v) = true) (k : zz_Z p l e R s m args below meth c Q D A nL cells slots ws (pc + 2) lv (.int v :: st)) : zz_Z p l e R s m args below meth c Q D A nL cells slots ws (pc) lv (st) := fun H locs ls hP hD hS hl => lv_ldc C.x C.b C.ow (C.w hw) hdg (k H locs ls hP hD hS hl)
theorem zz_ldcw (C : zz_C p l R s m meth c D U A own cc nL ret hh d) {index : Nat} {v : Int32} (hdg : decode cc pc = .ok (.ldc_w index, 3)) (hw : Cond.constant own index v ∈ lw_tbl ∧ goodWord (Cond.constant own index v) = true) (k : zz_Z p l e R s m args below meth c Q D A nL cells slots ws (pc + 3) lv (.int v :: st)) : zz_Z p l e R s m args below meth c Q D A nL cells slots ws (pc) lv (st) := fun H locs ls hP hD hS hl => lv_ldcw C.x C.b C.ow (C.w hw) hdg (k H locs ls hP hD hS hl)
theorem zz_ldc2 (C : zz_C p l R s m meth c D U A own cc nL ret hh d) {index : Nat} {v : Int64} (hdg : decode cc pc = .ok (.ldc2_w index, 3)) (hw : Cond.constantLong own index v ∈ lw_tbl ∧ goodWord (Cond.constantLong own index v) = true) (k : zz_Z p l e R s m args below meth c Q D A nL cells slots ws (pc + 3) lv (.long v :: st)) : zz_Z p l e R s m args below meth c Q D A nL cells slots ws (pc) lv (st) := fun H locs ls hP hD hS hl => lv_ldc2 C.x C.b C.ow (C.w hw) hdg (k H locs ls hP hD hS hl)
theorem zz_tableIn (C : zz_C p l R s m meth c D U A own cc nL ret hh d) {dflt lo hi : Int} {offs : Array Int} {len : Nat} {x : Int32} {off : Int} {tgt : Nat} (hdg : decode cc pc = .ok (.tableswitch dflt lo hi offs, len)) (h1 : ¬ x.toInt < lo) (h2 : ¬ hi < x.toInt) (ho : offs[(x.toInt - lo).toNat]? = some off) (ht : (pc : Int) + off = (tgt : Int)) (k : zz_Z p l e R s m args below meth c Q D A nL cells slots ws (tgt) lv (st)) : zz_Z p l e R s m args below meth c Q D A nL cells slots ws (pc) lv (.int x :: st) := fun H locs ls hP hD hS hl => lv_tableIn C.x C.b hdg h1 h2 ho ht (k H locs ls hP hD hS hl)
theorem zz_tableOut (C : zz_C p l R s m meth c D U A own cc nL ret hh d) {dflt lo hi : Int} {offs : Array Int} {len : Nat} {x : Int32} {tgt : Nat} (hdg : decode cc pc = .ok (.tableswitch dflt lo hi offs, len)) (h : x.toInt < lo ∨ hi < x.toInt) (ht : (pc : Int) + dflt = (tgt : Int)) (k : zz_Z p l e R s m args below meth c Q D A nL cells slots ws (tgt) lv (st)) : zz_Z p l e R s m args below meth c Q D A nL cells slots ws (pc) lv (.int x :: st) := fun H locs ls hP hD hS hl => lv_tableOut C.x C.b hdg h ht (k H locs ls hP hD hS hl)
theorem zz_get (C : zz_C p l R s m meth c D U A own cc nL ret hh d) {N ci index a : Nat} {Ck : String} {T : u_T} {fs : List Value} {v : Value} (q0 f : Nat) (hdg : decode cc pc = .ok (.getfield index, 3)) (he : ws[q0]? = some (a, .inr (ci, fs))) (hc : zcl[ci]? = some (Ck, T, N)) (hin : ∀ w ∈ u_ws Ck T N, w ∈ lw_tbl) (hg : (u_ws Ck T N).all goodWord = true) (hk : f < N) (hw : (Cond.fieldLink own index (T f).1 (T f).2.1 (T f).2.2.1) ∈ lw_tbl ∧ goodWord (Cond.fieldLink own index (T f).1 (T f).2.1 (T f).2.2.1) = true) (hv : fs[f]? = some v) (k : zz_Z p l e R s m args below meth c Q D A nL cells slots ws (pc + 3) lv (v :: st)) : zz_Z p l e R s m args below meth c Q D A nL cells slots ws (pc) lv (.ref a :: st) := fun H locs ls hP hD hS hl => va_get (Ts := u_ws Ck T N) C.x C.b (zz_ws C hin hg) (fun _ h => h) C.ow C.K hP q0 he hc f hk (C.w hw) (fun _ h9 => h9) hv hdg (k H locs ls hP hD hS hl)
theorem zz_put (C : zz_C p l R s m meth c D U A own cc nL ret hh d) {N ci index a : Nat} {Ck : String} {T : u_T} {fs : List Value} {v : Value} {ty : FieldType} {ty0 : Nat → FieldType} {ws1 : va_W} (q0 f : Nat) (hdg : decode cc pc = .ok (.putfield index, 3)) (he : ws[q0]? = some (a, .inr (ci, fs))) (hc : zcl[ci]? = some (Ck, T, N)) (hin : ∀ w ∈ u_ws Ck T N, w ∈ lw_tbl) (hg : (u_ws Ck T N).all goodWord = true) (hty : ∀ k, k < N → parseFieldDescriptor (T k).2.2.1 = some (ty0 k)) (hnm : ∀ a, a < N → ∀ b, b < N → a ≠ b → (T a).2.1 ≠ (T b).2.1) (hk : f < N) (hw : (Cond.fieldLink own index (T f).1 (T f).2.1 (T f).2.2.1) ∈ lw_tbl ∧ goodWord (Cond.fieldLink own index (T f).1 (T f).2.1 (T f).2.2.1) = true) (hfin : (T f).2.2.2 = false) (hd : parseFieldDescriptor (T f).2.2.1 = some ty) (hn : narrow ty v = v) (hfit : fits ty v = true) (hlen : f < fs.length) (hws : ws.set q0 (a, .inr (ci, fs.set f v)) = ws1) (k : zz_Z p l e R s m args below meth c Q D A nL cells slots ws1 (pc + 3) lv (st)) : zz_Z p l e R s m args below meth c Q D A nL cells slots ws (pc) lv (v :: .ref a :: st) := by
  subst hws
  exact fun H locs ls hP hD hS hl => va_put (Ts := u_ws Ck T N) C.x C.b (zz_ws C hin hg) (fun _ h => h) ty0 hty hnm C.ow C.K hP hD hS q0 he hc f hk (C.w hw) (fun _ h9 => h9) hfin hd hn hfit hlen hdg (fun H1 locs1 hP1 hD1 hS1 => k H1 locs1 ls hP1 hD1 hS1 hl)
theorem zz_putF (C : zz_C p l R s m meth c D U A own cc nL ret hh d) {N ci index a : Nat} {Ck : String} {T : u_T} {fs : List Value} {v : Value} {ty : FieldType} {ty0 : Nat → FieldType} {ws1 : va_W} (q0 f : Nat) (hdg : decode cc pc = .ok (.putfield index, 3)) (he : ws[q0]? = some (a, .inr (ci, fs))) (hc : zcl[ci]? = some (Ck, T, N)) (hin : ∀ w ∈ u_ws Ck T N, w ∈ lw_tbl) (hg : (u_ws Ck T N).all goodWord = true) (hty : ∀ k, k < N → parseFieldDescriptor (T k).2.2.1 = some (ty0 k)) (hnm : ∀ a, a < N → ∀ b, b < N → a ≠ b → (T a).2.1 ≠ (T b).2.1) (hk : f < N) (hw : (Cond.fieldLink own index (T f).1 (T f).2.1 (T f).2.2.1) ∈ lw_tbl ∧ goodWord (Cond.fieldLink own index (T f).1 (T f).2.1 (T f).2.2.1) = true) (hfin : (T f).2.2.2 = true) (hin2 : meth.name = "<init>") (hdecl : (T f).1 = own) (hd : parseFieldDescriptor (T f).2.2.1 = some ty) (hn : narrow ty v = v) (hfit : fits ty v = true) (hlen : f < fs.length) (hws : ws.set q0 (a, .inr (ci, fs.set f v)) = ws1) (k : zz_Z p l e R s m args below meth c Q D A nL cells slots ws1 (pc + 3) lv (st)) : zz_Z p l e R s m args below meth c Q D A nL cells slots ws (pc) lv (v :: .ref a :: st) := by
  subst hws
  exact fun H locs ls hP hD hS hl => va_putF (Ts := u_ws Ck T N) C.x C.b (zz_ws C hin hg) (fun _ h => h) ty0 hty hnm C.ow C.K hP hD hS q0 he hc f hk (C.w hw) (fun _ h9 => h9) hfin hin2 hdecl hd hn hfit hlen hdg (fun H1 locs1 hP1 hD1 hS1 => k H1 locs1 ls hP1 hD1 hS1 hl)
theorem zz_iald (C : zz_C p l R s m meth c D U A own cc nL ret hh d) {a n : Nat} {f : Nat → Int32} {i : Int32} (q0 : Nat) (hdg : decode cc pc = .ok (.iaload, 1)) (ha : ws[q0]? = some (a, .inl (U.1, n, .inl f))) (hin : vp_in i n) (k : zz_Z p l e R s m args below meth c Q D A nL cells slots ws (pc + 1) lv (.int (f i.toNatClampNeg) :: st)) : zz_Z p l e R s m args below meth c Q D A nL cells slots ws (pc) lv (.int i :: .ref a :: st) := fun H locs ls hP hD hS hl => va_iald C.x C.b C.K hP q0 0 ha rfl hin hdg (k H locs ls hP hD hS hl)
theorem zz_lald (C : zz_C p l R s m meth c D U A own cc nL ret hh d) {a n : Nat} {f : Nat → Int64} {i : Int32} (q0 : Nat) (hdg : decode cc pc = .ok (.laload, 1)) (ha : ws[q0]? = some (a, .inl (U.2.1, n, .inr (.inl f)))) (hin : vp_in i n) (k : zz_Z p l e R s m args below meth c Q D A nL cells slots ws (pc + 1) lv (.long (f i.toNatClampNeg) :: st)) : zz_Z p l e R s m args below meth c Q D A nL cells slots ws (pc) lv (.int i :: .ref a :: st) := fun H locs ls hP hD hS hl => va_lald C.x C.b C.K hP q0 1 ha rfl hin hdg (k H locs ls hP hD hS hl)
theorem zz_zald (C : zz_C p l R s m meth c D U A own cc nL ret hh d) {a n : Nat} {f : Nat → Int32} {i : Int32} (q0 : Nat) (hdg : decode cc pc = .ok (.baload, 1)) (ha : ws[q0]? = some (a, .inl (U.2.2.1, n, .inl f))) (hin : vp_in i n) (k : zz_Z p l e R s m args below meth c Q D A nL cells slots ws (pc + 1) lv (.int (f i.toNatClampNeg) :: st)) : zz_Z p l e R s m args below meth c Q D A nL cells slots ws (pc) lv (.int i :: .ref a :: st) := fun H locs ls hP hD hS hl => va_zald C.x C.b C.K hP q0 2 ha rfl hin hdg (k H locs ls hP hD hS hl)
theorem zz_iast (C : zz_C p l R s m meth c D U A own cc nL ret hh d) {a n : Nat} {f : Nat → Int32} {i : Int32} {x : Int32} {ws1 : va_W} (q0 : Nat) (hdg : decode cc pc = .ok (.iastore, 1)) (ha : ws[q0]? = some (a, .inl (U.1, n, .inl f))) (hin : vp_in i n) (hws : ws.set q0 (a, .inl (U.1, n, .inl (upd f i.toNatClampNeg x))) = ws1) (k : zz_Z p l e R s m args below meth c Q D A nL cells slots ws1 (pc + 1) lv (st)) : zz_Z p l e R s m args below meth c Q D A nL cells slots ws (pc) lv (.int x :: .int i :: .ref a :: st) := by
  subst hws
  exact fun H locs ls hP hD hS hl => va_iast C.x C.b C.K hP hD hS q0 0 ha rfl hin hdg (fun H1 locs1 hP1 hD1 hS1 => k H1 locs1 ls hP1 hD1 hS1 hl)
theorem zz_last (C : zz_C p l R s m meth c D U A own cc nL ret hh d) {a n : Nat} {f : Nat → Int64} {i : Int32} {x : Int64} {ws1 : va_W} (q0 : Nat) (hdg : decode cc pc = .ok (.lastore, 1)) (ha : ws[q0]? = some (a, .inl (U.2.1, n, .inr (.inl f)))) (hin : vp_in i n) (hws : ws.set q0 (a, .inl (U.2.1, n, .inr (.inl (vp_updL f i.toNatClampNeg x)))) = ws1) (k : zz_Z p l e R s m args below meth c Q D A nL cells slots ws1 (pc + 1) lv (st)) : zz_Z p l e R s m args below meth c Q D A nL cells slots ws (pc) lv (.long x :: .int i :: .ref a :: st) := by
  subst hws
  exact fun H locs ls hP hD hS hl => va_last C.x C.b C.K hP hD hS q0 1 ha rfl hin hdg (fun H1 locs1 hP1 hD1 hS1 => k H1 locs1 ls hP1 hD1 hS1 hl)
theorem zz_zast (C : zz_C p l R s m meth c D U A own cc nL ret hh d) {a n : Nat} {f : Nat → Int32} {i : Int32} {x : Int32} {ws1 : va_W} (q0 : Nat) (hdg : decode cc pc = .ok (.bastore, 1)) (ha : ws[q0]? = some (a, .inl (U.2.2.1, n, .inl f))) (hin : vp_in i n) (hws : ws.set q0 (a, .inl (U.2.2.1, n, .inl (upd f i.toNatClampNeg (vp_nar .boolean x)))) = ws1) (k : zz_Z p l e R s m args below meth c Q D A nL cells slots ws1 (pc + 1) lv (st)) : zz_Z p l e R s m args below meth c Q D A nL cells slots ws (pc) lv (.int x :: .int i :: .ref a :: st) := by
  subst hws
  exact fun H locs ls hP hD hS hl => va_zast C.x C.b C.K hP hD hS q0 2 ha rfl hin hdg (fun H1 locs1 hP1 hD1 hS1 => k H1 locs1 ls hP1 hD1 hS1 hl)
theorem zz_aald (C : zz_C p l R s m meth c D U A own cc nL ret hh d) {a n : Nat} {f : Nat → Option Nat} {i : Int32} {v : Value} (q0 : Nat) (hdg : decode cc pc = .ok (.aaload, 1)) (ha : ws[q0]? = some (a, .inl (U.2.2.2, n, .inr (.inr (.inr (.inr f)))))) (hin : vp_in i n) (hv : va_rf (f i.toNatClampNeg) = v) (k : zz_Z p l e R s m args below meth c Q D A nL cells slots ws (pc + 1) lv (v :: st)) : zz_Z p l e R s m args below meth c Q D A nL cells slots ws (pc) lv (.int i :: .ref a :: st) := by
  subst hv
  intro H locs ls hP hD hS hl
  have hlt : i.toNatClampNeg < n := Nat.not_le.mp fun q => hin (Or.inr q)
  exact W.aald (v := va_rf (f i.toNatClampNeg)) (ty := .array .int) C.x C.b (hP q0 _ ha) ((C.K.2 3 _ rfl).1 n (fun j => va_rf (f j))) rfl (fun q => by cases q) (by show ¬ (i < 0 ∨ (arrV _ _ _).slots.size ≤ _); rw [arrV_size]; exact hin) (by show (arrV _ _ _).slots[_]? = _; rw [arrV_read _ _ hlt]) rfl rfl hdg (k H locs ls hP hD hS hl)
theorem zz_alen (C : zz_C p l R s m meth c D U A own cc nL ret hh d) {a : Nat} {v : Int32} {cA : ClassId} {x : vp_A} {ty : FieldType} (q0 t0 : Nat) (hdg : decode cc pc = .ok (.arraylength, 1)) (ha : ws[q0]? = some (a, .inl (cA, x))) (ht : (zz_tys U)[t0]? = some (cA, ty)) (hv : Int32.ofNat x.1 = v) (k : zz_Z p l e R s m args below meth c Q D A nL cells slots ws (pc + 1) lv (.int v :: st)) : zz_Z p l e R s m args below meth c Q D A nL cells slots ws (pc) lv (.ref a :: st) := fun H locs ls hP hD hS hl => va_alen C.x C.b C.K hP q0 t0 ha ht hv hdg (k H locs ls hP hD hS hl)
theorem zz_mabs (C : zz_C p l R s m meth c D U A own cc nL ret hh d) {index : Nat} {x y : Int32} (hdg : decode cc pc = .ok (.invokestatic index, 3)) (h1 : Cond.methodLink own index Lib.Math.abs.name ∈ lw_tbl ∧ goodWord (Cond.methodLink own index Lib.Math.abs.name) = true) (h2 : Cond.static Lib.Math.abs.name ∈ lw_tbl ∧ goodWord (Cond.static Lib.Math.abs.name) = true) (h3 : Cond.initialized "java/lang/Math" ∈ lw_tbl ∧ goodWord (Cond.initialized "java/lang/Math") = true) (h4 : Cond.code Lib.Math.abs.name Lib.Math.abs.code 1 (some .int) ∈ lw_tbl ∧ goodWord (Cond.code Lib.Math.abs.name Lib.Math.abs.code 1 (some .int)) = true) (hd : 1 ≤ d) (hst : (st.map fun v => v.category).sum ≤ 8) (hc : cells ≤ R.cells) (hs : slots ≤ R.slots) (k : zz_Z p l e R s m args below meth c Q D A nL cells slots ws (pc + 3) lv (.int (zz_abs x) :: st)) : zz_Z p l e R s m args below meth c Q D A nL cells slots ws (pc) lv (.int x :: st) := fun H locs ls hP hD hS hl => va_mabs C.x C.b (by rw [C.ml]; exact hl.1.symm) C.ow (C.w h1) (C.w h2) (C.w h3) (C.w h4) (Nat.le_trans hd C.fr) (by have := C.lo; omega) hc hs hdg (k H locs ls hP hD hS hl)
theorem zz_mmax (C : zz_C p l R s m meth c D U A own cc nL ret hh d) {index : Nat} {x y : Int32} (hdg : decode cc pc = .ok (.invokestatic index, 3)) (h1 : Cond.methodLink own index Lib.Math.max.name ∈ lw_tbl ∧ goodWord (Cond.methodLink own index Lib.Math.max.name) = true) (h2 : Cond.static Lib.Math.max.name ∈ lw_tbl ∧ goodWord (Cond.static Lib.Math.max.name) = true) (h3 : Cond.initialized "java/lang/Math" ∈ lw_tbl ∧ goodWord (Cond.initialized "java/lang/Math") = true) (h4 : Cond.code Lib.Math.max.name Lib.Math.max.code 2 (some .int) ∈ lw_tbl ∧ goodWord (Cond.code Lib.Math.max.name Lib.Math.max.code 2 (some .int)) = true) (hd : 1 ≤ d) (hst : (st.map fun v => v.category).sum ≤ 8) (hc : cells ≤ R.cells) (hs : slots ≤ R.slots) (k : zz_Z p l e R s m args below meth c Q D A nL cells slots ws (pc + 3) lv (.int (zz_max x y) :: st)) : zz_Z p l e R s m args below meth c Q D A nL cells slots ws (pc) lv (.int y :: .int x :: st) := fun H locs ls hP hD hS hl => va_mmax C.x C.b (by rw [C.ml]; exact hl.1.symm) C.ow (C.w h1) (C.w h2) (C.w h3) (C.w h4) (Nat.le_trans hd C.fr) (by have := C.lo; omega) hc hs hdg (k H locs ls hP hD hS hl)
theorem zz_mmin (C : zz_C p l R s m meth c D U A own cc nL ret hh d) {index : Nat} {x y : Int32} (hdg : decode cc pc = .ok (.invokestatic index, 3)) (h1 : Cond.methodLink own index Lib.Math.min.name ∈ lw_tbl ∧ goodWord (Cond.methodLink own index Lib.Math.min.name) = true) (h2 : Cond.static Lib.Math.min.name ∈ lw_tbl ∧ goodWord (Cond.static Lib.Math.min.name) = true) (h3 : Cond.initialized "java/lang/Math" ∈ lw_tbl ∧ goodWord (Cond.initialized "java/lang/Math") = true) (h4 : Cond.code Lib.Math.min.name Lib.Math.min.code 2 (some .int) ∈ lw_tbl ∧ goodWord (Cond.code Lib.Math.min.name Lib.Math.min.code 2 (some .int)) = true) (hd : 1 ≤ d) (hst : (st.map fun v => v.category).sum ≤ 8) (hc : cells ≤ R.cells) (hs : slots ≤ R.slots) (k : zz_Z p l e R s m args below meth c Q D A nL cells slots ws (pc + 3) lv (.int (zz_min x y) :: st)) : zz_Z p l e R s m args below meth c Q D A nL cells slots ws (pc) lv (.int y :: .int x :: st) := fun H locs ls hP hD hS hl => va_mmin C.x C.b (by rw [C.ml]; exact hl.1.symm) C.ow (C.w h1) (C.w h2) (C.w h3) (C.w h4) (Nat.le_trans hd C.fr) (by have := C.lo; omega) hc hs hdg (k H locs ls hP hD hS hl)
end ZZ
end
section
/-! ===== contracts in one form, calls, ends, throws ===== -/
abbrev zz_g (w : Cond) : Prop := w ∈ lw_tbl ∧ goodWord w = true
/-- a method's start: its arguments, the world, the tables -/
def zz_Pc (D : va_G) (U : zz_U) (as : List Value) (ws : va_W) (sz : Nat) : Array Value → State → Prop := va_Pc as (fun V => V.heap.size = sz ∧ va_P D zcl ws V.heap ∧ va_K D zcl (zz_tys U) V ∧ va_D (fun _ => True) ws ∧ zz_F V ∧ zz_S (va_A ws sz) V V.heap)
def zz_Qc (D : va_G) (A : Nat → Prop) (Ψ : Option Value → va_W → Prop) : Array Value → State → Outcome → State → Prop := fun _ st o t => (∃ (v : Option Value) (ws' : va_W), o = .returned v ∧ Ψ v ws' ∧ va_P D zcl ws' t.heap ∧ va_D A ws') ∧ va_F A st t
def zz_XC (D : va_G) (A : Nat → Prop) (ΨX : String → va_W → Prop) : String → State → State → Prop := fun E st t => (∃ ws' : va_W, ΨX E ws' ∧ va_P D zcl ws' t.heap ∧ va_D A ws') ∧ va_F A st t
/-- the contract of a method at its arguments and its world -/
def zz_Met (y : MethodName) (w0 : Cond) (d mc ms : Nat) (D : va_G) (U : zz_U) (as : List Value) (ws : va_W) (Ψ : Option Value → va_W → Prop) (ΨX : String → va_W → Prop) : Prop :=
  ∀ (l : Launch) (sz : Nat), l.stackTraces = false → vx_Met l y [w0] ({ frames := d, cells := mc, slots := ms, locals := 36 * d } : Room) (zz_Pc D U as ws sz) (zz_Qc D (va_A ws sz) Ψ) (zz_XC D (va_A ws sz) ΨX) mc ms (va_A ws sz)
theorem zz_blind {D : va_G} {U : zz_U} {as : List Value} {ws : va_W} {sz : Nat} : FrameBlind (zz_Pc D U as ws sz) := by
  intro a V g mk q
  obtain ⟨q0, q1, qP, qK, qD, qF, qS⟩ := q
  exact ⟨q0, q1, qP, va_K.moved (u := V) (U := V.calling g mk a) (Vm.Alike.refl V.vm) qK, qD, zz_F.same (u := V) (V := V.calling g mk a) rfl qF, ⟨vx_Zq.moved (u := V) (U := V.calling g mk a) (Vm.Alike.refl V.vm) qS.1, vx_Zq.moved (u := V) (U := V.calling g mk a) (Vm.Alike.refl V.vm) qS.2⟩⟩
theorem zz_Met.noX {y : MethodName} {w0 : Cond} {d mc ms : Nat} {D : va_G} {U : zz_U} {as : List Value} {ws : va_W} {Ψ : Option Value → va_W → Prop} {ΨX : String → va_W → Prop} (h : zz_Met y w0 d mc ms D U as ws Ψ ΨX) (hX : ∀ E w, ¬ ΨX E w) {l : Launch} {sz : Nat} (hl : l.stackTraces = false) :
    Met l y [w0] ({ frames := d, cells := mc, slots := ms, locals := 36 * d } : Room) (zz_Pc D U as ws sz) (zz_Qc D (va_A ws sz) Ψ) mc ms (va_A ws sz) := by
  intro p e ha hc hk s m args below hf happ hP hK
  obtain ⟨n, o, h1, h2, h3, h4⟩ := h l sz hl p e ha hc hk s m args below hf happ hP hK
  refine ⟨n, o, h1, h2, h3, ?_⟩
  rcases h4 with h4 | ⟨q, -, E, ce, L, hx, -⟩
  · exact h4
  · obtain ⟨⟨w, hw, -⟩, -⟩ := hx
    exact absurd hw (hX E w)
section ZY
variable {p : Program} {l : Launch} {e : Env} {R : Room} {s : State} {m : MethodId} {args : Array Value} {below : List Frame} {meth : Method} {c : Code} {Q : State → Prop} {D : va_G} {U : zz_U} {A : Nat → Prop} {own : String} {cc : ByteArray} {nL d cells slots pc : Nat} {ret : Option FieldType} {hh : List (Nat × Nat × Nat × Nat)} {lv : List (Nat × Value)} {st : List Value} {ws : va_W}
variable {Ψ : Option Value → va_W → Prop} {ΨX : String → va_W → Prop} {mc ms : Nat}
theorem zz_in (C : zz_C p l R s m meth c D U A own cc nL ret hh d) {H : Heap} {locs : List Loc} (hD : va_D A ws) (hS : va_S A s.heap H locs) : ∀ q, va_A ws H.size q → A q := by
  intro q h
  rcases h with ⟨k, e, h⟩ | h
  · exact hD.2 k (q, e) h
  · exact C.hA q (Nat.le_trans hS.1 h)
theorem zz_pre (C : zz_C p l R s m meth c D U A own cc nL ret hh d) {H : Heap} {locs : List Loc} (as : List Value) (hP : va_P D zcl ws H) (hD : va_D A ws) (hS : va_S A s.heap H locs) : ∀ V : State, V.heap = H → s.WarmedH V.vm → zz_Pc D U as ws H.size as.toArray V := by
  intro V hV hW
  have hin := zz_in C hD hS
  refine ⟨rfl, by rw [hV], by rw [hV]; exact hP, va_K.moved hW.alike C.K, hD.weaken (fun _ _ _ _ => trivial), C.F.warm hW, ?_⟩
  rw [hV]
  exact ⟨vx_Zq.moved hW.alike (vx_Zq.narrow (vx_Zq.kept C.S.1 (fun q h1 h2 => hS.2.1 q h1 h2)) hin), vx_Zq.moved hW.alike (vx_Zq.narrow (vx_Zq.kept C.S.2 (fun q h1 h2 => hS.2.1 q h1 h2)) hin)⟩
/-- behind a call -/
theorem zz_back {H : Heap} {locs : List Loc} {ls : Array Slot} {st0 rest : List Value} {a : Array Value} {A1 : Nat → Prop} (hr : vx_Run p l e R s m args below meth c H locs cells slots mc ms (F0 m pc ls st0) rest (zz_Qc D A1 Ψ a) (zz_XC D A1 ΨX) A1) (hS : va_S A s.heap H locs) (hA1 : ∀ q, A1 q → A q)
    (kk : ∀ (v : Option Value) (ws' : va_W), Ψ v ws' → ∀ (H1 : Heap) (locs1 : List Loc), va_P D zcl ws' H1 → va_D A ws' → va_S A s.heap H1 locs1 → W p l e R s m args below meth c H1 locs1 (cells + mc) (slots + ms) Q (F0 m (pc + 3) ls (v.toList ++ rest)))
    (kx : ∀ (E : String) (ws' : va_W), ΨX E ws' → ∀ (H1 : Heap) (locs1 : List Loc) (q : Addr) (ce : Cell), va_P D zcl ws' H1 → va_D A ws' → va_S A s.heap H1 locs1 → H1[q]? = some ce → ce.vm = .none → s.vm.findClass E = some ce.cls → vx_W p l e R s m args below meth c H1 locs1 (cells + mc) (slots + ms) Q (F0 m pc ls rest) q) :
    W p l e R s m args below meth c H locs cells slots Q (F0 m pc ls st0) := by
  intro T hT X
  rcases hr T hT X with ⟨v, st₀, t, T', L, h0, X', hL, e1, e2, ⟨⟨v', ws', hv, hΨ, hP', hD'⟩, hF⟩, st⟩ | ⟨q, st₀, t, T', L, E, ce, h0, X', hL, e1, e2, ⟨⟨ws', hΨ, hP', hD'⟩, hF⟩, hce, hcv, hcl, st⟩
  · cases hv
    obtain ⟨k1, k2, k3⟩ := vx_keep h0 e1 hS (fun q _ h => hA1 q h) hA1 hL hF
    obtain ⟨t2, a1, b1⟩ := kk v ws' hΨ T'.heap (locs ++ L) (by rw [e1]; exact hP') (hD'.weaken (fun _ q _ h => hA1 q.1 h)) k3 T' rfl X'
    exact ⟨t2, st t2 a1, b1⟩
  · obtain ⟨k1, k2, k3⟩ := vx_keep h0 e1 hS (fun q _ h => hA1 q h) hA1 hL hF
    obtain ⟨t2, a1, b1⟩ := kx E ws' hΨ T'.heap (locs ++ L) q ce (by rw [e1]; exact hP') (hD'.weaken (fun _ q _ h => hA1 q.1 h)) k3 (by rw [e1]; exact hce) hcv hcl T' rfl X'
    exact ⟨t2, st.trans a1, b1⟩
theorem zz_backN {H : Heap} {locs : List Loc} {ls : Array Slot} {st0 rest : List Value} {a : Array Value} {A1 : Nat → Prop} (hr : va_Run p l e R s m args below meth c H locs cells slots mc ms (F0 m pc ls st0) rest (zz_Qc D A1 Ψ a) A1) (hS : va_S A s.heap H locs) (hA1 : ∀ q, A1 q → A q)
    (kk : ∀ (v : Option Value) (ws' : va_W), Ψ v ws' → ∀ (H1 : Heap) (locs1 : List Loc), va_P D zcl ws' H1 → va_D A ws' → va_S A s.heap H1 locs1 → W p l e R s m args below meth c H1 locs1 (cells + mc) (slots + ms) Q (F0 m (pc + 3) ls (v.toList ++ rest))) :
    W p l e R s m args below meth c H locs cells slots Q (F0 m pc ls st0) := by
  intro T hT X
  obtain ⟨v, st₀, t, T', L, h0, X', hL, e1, e2, ⟨⟨v', ws', hv, hΨ, hP', hD'⟩, hF⟩, st⟩ := hr T hT X
  cases hv
  obtain ⟨k1, k2, k3⟩ := vx_keep h0 e1 hS (fun q _ h => hA1 q h) hA1 hL hF
  obtain ⟨t2, a1, b1⟩ := kk v ws' hΨ T'.heap (locs ++ L) (by rw [e1]; exact hP') (hD'.weaken (fun _ q _ h => hA1 q.1 h)) k3 T' rfl X'
  exact ⟨t2, st t2 a1, b1⟩
/-- a method's own words: instance, static -/
def zz_YV (y : MethodName) (w0 : Cond) (n : Nat) : Prop := zz_g (.instanceMethod y) ∧ zz_g (.selects y.cls y y) ∧ zz_g w0 ∧ zz_g (.initialized y.cls) ∧ y.cls ≠ "java/lang/invoke/MethodHandle" ∧ y.cls ≠ "java/lang/invoke/VarHandle" ∧ (parseMethodDescriptor y.desc).map (fun d => d.parameters.length) = some n
def zz_YS (y : MethodName) (w0 : Cond) (n : Nat) : Prop := zz_g (.static y) ∧ zz_g w0 ∧ zz_g (.initialized y.cls) ∧ y.cls ≠ "java/lang/invoke/MethodHandle" ∧ y.cls ≠ "java/lang/invoke/VarHandle" ∧ (parseMethodDescriptor y.desc).map (fun d => d.parameters.length) = some n
def zz_YI (y : MethodName) (w0 : Cond) (n : Nat) : Prop := zz_g (.instanceMethod y) ∧ zz_g w0 ∧ zz_g (.initialized y.cls) ∧ y.cls ≠ "java/lang/invoke/MethodHandle" ∧ y.cls ≠ "java/lang/invoke/VarHandle" ∧ (parseMethodDescriptor y.desc).map (fun d => d.parameters.length) = some n
theorem zz_callB (C : zz_C p l R s m meth c D U A own cc nL ret hh d) {y : MethodName} {bytes : ByteArray} {maxL : Nat} {retY : Option FieldType} {d' n index : Nat} (w1 : zz_g (.methodLink own index y)) (w0 : zz_g (.code y bytes maxL retY)) (wi : zz_g (.initialized y.cls)) (hm : y.cls ≠ "java/lang/invoke/MethodHandle" ∧ y.cls ≠ "java/lang/invoke/VarHandle" ∧ (parseMethodDescriptor y.desc).map (fun d => d.parameters.length) = some n) (hd : d' + 1 ≤ d) (hmx : maxL ≤ 17) :
    CallB R s args own index y bytes maxL retY [.code y bytes maxL retY] ({ frames := d', cells := mc, slots := ms, locals := 36 * d' } : Room) mc ms n := by
  have h1 := C.fr
  have h2 := C.lo
  refine ⟨rfl, rfl, by show d' + 1 ≤ _; omega, by show 8 + (maxL + 11) + 36 * d' ≤ _; omega, fun w hw a' V hW => ?_, List.mem_cons_self, C.w w0, C.w wi, ⟨hm.1, hm.2.1⟩, fun sig h => ?_, C.w w1⟩
  · rw [List.mem_singleton] at hw
    subst hw
    exact word_at (args := a') hW (good_of_word w0.2) (C.w w0)
  · have h9 := hm.2.2
    rw [h] at h9
    exact (Option.some.inj h9).symm
theorem zz_callV (C : zz_C p l R s m meth c D U A own cc nL ret hh d) {y : MethodName} {bytes : ByteArray} {maxL : Nat} {retY : Option FieldType} {d' n index b ci N : Nat} {T : u_T} {fs As rest : List Value} (q0 : Nat) (hM : zz_Met y (.code y bytes maxL retY) d' mc ms D U (.ref b :: As) ws Ψ ΨX) (hdg : decode cc pc = .ok (.invokevirtual index, 3)) (hst : st = As.reverse ++ .ref b :: rest)
    (he : ws[q0]? = some (b, .inr (ci, fs))) (hc : zcl[ci]? = some (y.cls, T, N)) (w1 : zz_g (.methodLink own index y)) (wy : zz_YV y (.code y bytes maxL retY) n) (hn : As.length = n) (hd : d' + 1 ≤ d) (hmx : maxL ≤ 17) (hw : (rest.map fun v => v.category).sum ≤ 8) (hc1 : cells + mc ≤ R.cells) (hs1 : slots + ms ≤ R.slots)
    (kk : ∀ (v : Option Value) (ws' : va_W), Ψ v ws' → zz_Z p l e R s m args below meth c Q D A nL (cells + mc) (slots + ms) ws' (pc + 3) lv (v.toList ++ rest))
    (kx : ∀ (E : String) (ws' : va_W), ΨX E ws' → zz_X p l e R s m args below meth c Q D A nL (cells + mc) (slots + ms) ws' pc lv rest E) : zz_Z p l e R s m args below meth c Q D A nL cells slots ws pc lv st := by
  subst hst
  intro H locs ls hP hD hS hl
  obtain ⟨y1, y2, y3, y4, y5⟩ := wy
  have cw : CallW R s args own y.cls index y bytes maxL retY [.code y bytes maxL retY] ({ frames := d', cells := mc, slots := ms, locals := 36 * d' } : Room) mc ms n := ⟨zz_callB C w1 y3 y4 y5 hd hmx, C.w y1, C.w y2⟩
  have S : CallFix p m c cc nL s args [] own := ⟨C.x, C.b, C.ml, C.ow, fun _ h => nomatch h⟩
  have hpre : PreV s H y.cls b (zz_Pc D U (.ref b :: As) ws H.size) As := ⟨zz_blind, va_recv C.K hP hc he, zz_pre C (.ref b :: As) hP hD hS⟩
  exact zz_back (vx_runV S (hM l H.size C.tr) cw hpre rfl hn hl.1 rfl (lv_room hw) hdg ⟨hc1, hs1⟩) hS (zz_in C hD hS) (fun v ws' hv H1 locs1 hP1 hD1 hS1 => kk v ws' hv H1 locs1 ls hP1 hD1 hS1 hl) (fun E ws' hv H1 locs1 q ce hP1 hD1 hS1 h1 h2 h3 => kx E ws' hv H1 locs1 ls q ce hP1 hD1 hS1 hl h1 h2 h3)
theorem zz_callS (C : zz_C p l R s m meth c D U A own cc nL ret hh d) {y : MethodName} {bytes : ByteArray} {maxL : Nat} {retY : Option FieldType} {d' n index : Nat} {As rest : List Value} (hM : zz_Met y (.code y bytes maxL retY) d' mc ms D U As ws Ψ ΨX) (hdg : decode cc pc = .ok (.invokestatic index, 3)) (hst : st = As.reverse ++ rest)
    (w1 : zz_g (.methodLink own index y)) (wy : zz_YS y (.code y bytes maxL retY) n) (hn : As.length = n) (hd : d' + 1 ≤ d) (hmx : maxL ≤ 17) (hw : (rest.map fun v => v.category).sum ≤ 8) (hc1 : cells + mc ≤ R.cells) (hs1 : slots + ms ≤ R.slots)
    (kk : ∀ (v : Option Value) (ws' : va_W), Ψ v ws' → zz_Z p l e R s m args below meth c Q D A nL (cells + mc) (slots + ms) ws' (pc + 3) lv (v.toList ++ rest))
    (kx : ∀ (E : String) (ws' : va_W), ΨX E ws' → zz_X p l e R s m args below meth c Q D A nL (cells + mc) (slots + ms) ws' pc lv rest E) : zz_Z p l e R s m args below meth c Q D A nL cells slots ws pc lv st := by
  subst hst
  intro H locs ls hP hD hS hl
  obtain ⟨y1, y3, y4, y5⟩ := wy
  have S : CallFix p m c cc nL s args [] own := ⟨C.x, C.b, C.ml, C.ow, fun _ h => nomatch h⟩
  have hpre : PreS s H (zz_Pc D U As ws H.size) As := ⟨zz_blind, zz_pre C As hP hD hS⟩
  exact zz_back (vx_runS S (hM l H.size C.tr) ⟨zz_callB C w1 y3 y4 y5 hd hmx, C.w y1⟩ hpre rfl hn hl.1 rfl (lv_room hw) hdg ⟨hc1, hs1⟩) hS (zz_in C hD hS) (fun v ws' hv H1 locs1 hP1 hD1 hS1 => kk v ws' hv H1 locs1 ls hP1 hD1 hS1 hl) (fun E ws' hv H1 locs1 q ce hP1 hD1 hS1 h1 h2 h3 => kx E ws' hv H1 locs1 ls q ce hP1 hD1 hS1 hl h1 h2 h3)
/-- a private static method of a nest mate, which throws nothing -/
theorem zz_callSN (C : zz_C p l R s m meth c D U A own cc nL ret hh d) {y : MethodName} {bytes : ByteArray} {maxL : Nat} {retY : Option FieldType} {d' n index : Nat} {host : String} {As rest : List Value} (hM : zz_Met y (.code y bytes maxL retY) d' mc ms D U As ws Ψ ΨX) (hX : ∀ E w, ¬ ΨX E w) (hdg : decode cc pc = .ok (.invokestatic index, 3)) (hst : st = As.reverse ++ rest)
    (w1 : (own, index, y, host) ∈ zz_nest) (wy : zz_YS y (.code y bytes maxL retY) n) (hn : As.length = n) (hd : d' + 1 ≤ d) (hmx : maxL ≤ 17) (hw : (rest.map fun v => v.category).sum ≤ 8) (hc1 : cells + mc ≤ R.cells) (hs1 : slots + ms ≤ R.slots)
    (kk : ∀ (v : Option Value) (ws' : va_W), Ψ v ws' → zz_Z p l e R s m args below meth c Q D A nL (cells + mc) (slots + ms) ws' (pc + 3) lv (v.toList ++ rest)) : zz_Z p l e R s m args below meth c Q D A nL cells slots ws pc lv st := by
  subst hst
  intro H locs ls hP hD hS hl
  obtain ⟨y1, y3, y4, y5⟩ := wy
  have h1 := C.fr
  have h2 := C.lo
  have S : CallFix p m c cc nL s args [.code y bytes maxL retY] own := ⟨C.x, C.b, C.ml, C.ow, fun w h => by rw [List.mem_singleton] at h; subst h; exact C.w y3⟩
  have hpre : PreS s H (zz_Pc D U As ws H.size) As := ⟨zz_blind, zz_pre C As hP hD hS⟩
  have hG : GoodIn [.code y bytes maxL retY] [.code y bytes maxL retY] := fun w h => ⟨h, by rw [List.mem_singleton] at h; subst h; exact good_of_word y3.2⟩
  have cn : va_CN R s args own index y host bytes maxL retY [.code y bytes maxL retY] ({ frames := d', cells := mc, slots := ms, locals := 36 * d' } : Room) mc ms n := va_cnB (ws' := []) n S.2.2.2.2 hG rfl rfl rfl (C.F.2.1 _ w1) (C.w y4) y5 ⟨by show d' + 1 ≤ _; omega, by show 8 + (maxL + 11) + 36 * d' ≤ _; omega⟩
  exact zz_backN (va_runSN S (hM.noX hX C.tr) ⟨cn, C.w y1, trivial⟩ hpre rfl hn hl.1 rfl (lv_room hw) hdg ⟨hc1, hs1⟩) hS (zz_in C hD hS) (fun v ws' hv H1 locs1 hP1 hD1 hS1 => kk v ws' hv H1 locs1 ls hP1 hD1 hS1 hl)
/-- a constructor; of a nest mate -/
theorem zz_callI (C : zz_C p l R s m meth c D U A own cc nL ret hh d) {y : MethodName} {bytes : ByteArray} {maxL : Nat} {d' n index b : Nat} {As rest : List Value} (hM : zz_Met y (.code y bytes maxL none) d' mc ms D U (.ref b :: As) ws Ψ ΨX) (hX : ∀ E w, ¬ ΨX E w) (hdg : decode cc pc = .ok (.invokespecial index, 3)) (hst : st = As.reverse ++ .ref b :: rest) (hy1 : y.name = "<init>")
    (w1 : zz_g (.methodLink own index y)) (wy : zz_YI y (.code y bytes maxL none) n) (hn : As.length = n) (hd : d' + 1 ≤ d) (hmx : maxL ≤ 17) (hw : (rest.map fun v => v.category).sum ≤ 8) (hc1 : cells + mc ≤ R.cells) (hs1 : slots + ms ≤ R.slots)
    (kk : ∀ (v : Option Value) (ws' : va_W), Ψ v ws' → zz_Z p l e R s m args below meth c Q D A nL (cells + mc) (slots + ms) ws' (pc + 3) lv (v.toList ++ rest)) : zz_Z p l e R s m args below meth c Q D A nL cells slots ws pc lv st := by
  subst hst
  intro H locs ls hP hD hS hl
  obtain ⟨y1, y3, y4, y5⟩ := wy
  have S : CallFix p m c cc nL s args [] own := ⟨C.x, C.b, C.ml, C.ow, fun _ h => nomatch h⟩
  have hpre : PreS s H (zz_Pc D U (.ref b :: As) ws H.size) (.ref b :: As) := ⟨zz_blind, zz_pre C (.ref b :: As) hP hD hS⟩
  exact zz_backN (va_runI S (hM.noX hX C.tr) ⟨zz_callB C w1 y3 y4 y5 hd hmx, hy1, C.w y1⟩ hpre rfl hn hl.1 rfl (lv_room hw) hdg ⟨hc1, hs1⟩) hS (zz_in C hD hS) (fun v ws' hv H1 locs1 hP1 hD1 hS1 => kk v ws' hv H1 locs1 ls hP1 hD1 hS1 hl)
theorem zz_callIN (C : zz_C p l R s m meth c D U A own cc nL ret hh d) {y : MethodName} {bytes : ByteArray} {maxL : Nat} {d' n index b : Nat} {host : String} {As rest : List Value} (hM : zz_Met y (.code y bytes maxL none) d' mc ms D U (.ref b :: As) ws Ψ ΨX) (hX : ∀ E w, ¬ ΨX E w) (hdg : decode cc pc = .ok (.invokespecial index, 3)) (hst : st = As.reverse ++ .ref b :: rest) (hy1 : y.name = "<init>")
    (w1 : (own, index, y, host) ∈ zz_nest) (wy : zz_YI y (.code y bytes maxL none) n) (hn : As.length = n) (hd : d' + 1 ≤ d) (hmx : maxL ≤ 17) (hw : (rest.map fun v => v.category).sum ≤ 8) (hc1 : cells + mc ≤ R.cells) (hs1 : slots + ms ≤ R.slots)
    (kk : ∀ (v : Option Value) (ws' : va_W), Ψ v ws' → zz_Z p l e R s m args below meth c Q D A nL (cells + mc) (slots + ms) ws' (pc + 3) lv (v.toList ++ rest)) : zz_Z p l e R s m args below meth c Q D A nL cells slots ws pc lv st := by
  subst hst
  intro H locs ls hP hD hS hl
  obtain ⟨y1, y3, y4, y5⟩ := wy
  have h1 := C.fr
  have h2 := C.lo
  have S : CallFix p m c cc nL s args [.code y bytes maxL none] own := ⟨C.x, C.b, C.ml, C.ow, fun w h => by rw [List.mem_singleton] at h; subst h; exact C.w y3⟩
  have hpre : PreS s H (zz_Pc D U (.ref b :: As) ws H.size) (.ref b :: As) := ⟨zz_blind, zz_pre C (.ref b :: As) hP hD hS⟩
  have hG : GoodIn [.code y bytes maxL none] [.code y bytes maxL none] := fun w h => ⟨h, by rw [List.mem_singleton] at h; subst h; exact good_of_word y3.2⟩
  have cn : va_CN R s args own index y host bytes maxL none [.code y bytes maxL none] ({ frames := d', cells := mc, slots := ms, locals := 36 * d' } : Room) mc ms n := va_cnB (ws' := []) n S.2.2.2.2 hG rfl rfl rfl (C.F.2.1 _ w1) (C.w y4) y5 ⟨by show d' + 1 ≤ _; omega, by show 8 + (maxL + 11) + 36 * d' ≤ _; omega⟩
  exact zz_backN (va_runIN S (hM.noX hX C.tr) ⟨cn, hy1, C.w y1⟩ hpre rfl hn hl.1 rfl (lv_room hw) hdg ⟨hc1, hs1⟩) hS (zz_in C hD hS) (fun v ws' hv H1 locs1 hP1 hD1 hS1 => kk v ws' hv H1 locs1 ls hP1 hD1 hS1 hl)
/-- Object.<init> -/
theorem zz_objInit (C : zz_C p l R s m meth c D U A own cc nL ret hh d) {index a : Nat} {rest : List Value} (hdg : decode cc pc = .ok (.invokespecial index, 3)) (w1 : zz_g (.methodLink own index Lib.objectInit)) (w2 : zz_g (.instanceMethod Lib.objectInit)) (w3 : zz_g (.code Lib.objectInit ⟨#[0xb1]⟩ 1 none)) (hd : 1 ≤ d) (hw : (rest.map fun v => v.category).sum ≤ 8) (k : zz_Z p l e R s m args below meth c Q D A nL cells slots ws (pc + 3) lv rest) : zz_Z p l e R s m args below meth c Q D A nL cells slots ws pc lv (.ref a :: rest) := by
  intro H locs ls hP hD hS hl
  have h1 := C.fr
  have h2 := C.lo
  refine W.objInit C.x C.b C.ow (C.w w1) (C.w w2) (C.w w3) rfl (by rw [C.ml]; exact hl.1) rfl hdg (by omega) ?_ (k H locs ls hP hD hS hl)
  show 2 * (F0 m pc ls rest).monitorRoom + _ + 12 ≤ _
  have h3 := lv_room (m := m) (pc := pc) (ls := ls) (rest := rest) hw
  omega
/-- ends -/
theorem zz_iret (C : zz_C p l R s m meth c D U A own cc nL (some .int) hh d) {v : Int32} (hdg : decode cc pc = .ok (.ireturn, 1)) (hΨ : Ψ (some (.int v)) ws) (hc : cells ≤ mc) (hs : slots ≤ ms) : zz_Z p l e R s m args below meth c (vx_MQ below (zz_Qc D A Ψ) (zz_XC D A ΨX) args s mc ms A) D A nL cells slots ws pc lv [.int v] :=
  fun H locs ls hP hD hS hl => W.widen hc hs (vx_ret (W.iret C.x C.b C.r (fun t ht hW => ⟨⟨_, _, rfl, hΨ, by rw [ht]; exact hP, hD⟩, hS.F ht⟩) hS.2.2 hdg C.lk))
theorem zz_zret (C : zz_C p l R s m meth c D U A own cc nL (some .boolean) hh d) {v : Int32} (hdg : decode cc pc = .ok (.ireturn, 1)) (hv : v = 0 ∨ v = 1) (hΨ : Ψ (some (.int v)) ws) (hc : cells ≤ mc) (hs : slots ≤ ms) : zz_Z p l e R s m args below meth c (vx_MQ below (zz_Qc D A Ψ) (zz_XC D A ΨX) args s mc ms A) D A nL cells slots ws pc lv [.int v] :=
  fun H locs ls hP hD hS hl => W.widen hc hs (vx_ret (W.zret C.x C.b C.r (by rcases hv with rfl | rfl <;> rfl) (fun t ht hW => ⟨⟨_, _, rfl, hΨ, by rw [ht]; exact hP, hD⟩, hS.F ht⟩) hS.2.2 hdg C.lk))
theorem zz_lret (C : zz_C p l R s m meth c D U A own cc nL (some .long) hh d) {v : Int64} (hdg : decode cc pc = .ok (.lreturn, 1)) (hΨ : Ψ (some (.long v)) ws) (hc : cells ≤ mc) (hs : slots ≤ ms) : zz_Z p l e R s m args below meth c (vx_MQ below (zz_Qc D A Ψ) (zz_XC D A ΨX) args s mc ms A) D A nL cells slots ws pc lv [.long v] :=
  fun H locs ls hP hD hS hl => W.widen hc hs (vx_ret (W.lret C.x C.b C.r (fun t ht hW => ⟨⟨_, _, rfl, hΨ, by rw [ht]; exact hP, hD⟩, hS.F ht⟩) hS.2.2 hdg C.lk))
theorem zz_dret (C : zz_C p l R s m meth c D U A own cc nL (some .double) hh d) {v : UInt64} (hdg : decode cc pc = .ok (.dreturn, 1)) (hΨ : Ψ (some (.double v)) ws) (hc : cells ≤ mc) (hs : slots ≤ ms) : zz_Z p l e R s m args below meth c (vx_MQ below (zz_Qc D A Ψ) (zz_XC D A ΨX) args s mc ms A) D A nL cells slots ws pc lv [.double v] :=
  fun H locs ls hP hD hS hl => W.widen hc hs (vx_ret (W.dret C.x C.b C.r (fun t ht hW => ⟨⟨_, _, rfl, hΨ, by rw [ht]; exact hP, hD⟩, hS.F ht⟩) hS.2.2 hdg C.lk))
theorem zz_vret (C : zz_C p l R s m meth c D U A own cc nL none hh d) (hdg : decode cc pc = .ok (.return_, 1)) (hΨ : Ψ none ws) (hc : cells ≤ mc) (hs : slots ≤ ms) : zz_Z p l e R s m args below meth c (vx_MQ below (zz_Qc D A Ψ) (zz_XC D A ΨX) args s mc ms A) D A nL cells slots ws pc lv [] :=
  fun H locs ls hP hD hS hl => W.widen hc hs (vx_ret (W.vret C.x C.b C.r (fun t ht hW => ⟨⟨_, _, rfl, hΨ, by rw [ht]; exact hP, hD⟩, hS.F ht⟩) hS.2.2 hdg C.lk))
/-- thrown by a callee, not caught here -/
theorem zz_out (C : zz_C p l R s m meth c D U A own cc nL ret [] d) {E : String} (hΨ : ΨX E ws) (hc : cells ≤ mc) (hs : slots ≤ ms) : zz_X p l e R s m args below meth c (vx_MQ below (zz_Qc D A Ψ) (zz_XC D A ΨX) args s mc ms A) D A nL cells slots ws pc lv st E :=
  fun H locs ls q ce hP hD hS hl h1 h2 h3 => vx_out (fun x hx => by rw [C.t] at hx; exact nomatch hx) C.lk h1 h2 h3 (fun t ht hW => ⟨⟨_, hΨ, by rw [ht]; exact hP, hD⟩, hS.F ht⟩) hS.2.2 hc hs
/-- throw new E("text") -/
def zz_names : List String := ["java/lang/RuntimeException", "java/lang/Exception"]
def zz_thr (own : String) (ik ic : Nat) (cls : String) : Prop := (∀ w ∈ vx_atS own ic cls zz_names, zz_g w ∨ w = .castable cls cls ∨ ∃ y ∈ zz_decl, w = .declares y) ∧ (∀ w ∈ Cond.classLink own ik cls :: Cond.initialized cls :: vx_atS own ic cls zz_names, vx_ot w = true) ∧ zz_g (.classLink own ik cls) ∧ zz_g (.initialized cls) ∧ cls ∈ zz_exc
theorem zz_fit {cls : String} (h : cls ∈ zz_exc) : Bundle.fit cls = true := by
  have h9 : ∀ E ∈ zz_exc, Bundle.fit E = true := by decide +kernel
  exact h9 cls h
theorem zz_fitn : ∀ n ∈ zz_names, Bundle.fit n = true := by decide +kernel
theorem zz_hx (C : zz_C p l R s m meth c D U A own cc nL ret hh d) {H : Heap} {locs : List Loc} {E : String} (hΨ : ΨX E ws) (hP : va_P D zcl ws H) (hD : va_D A ws) (hS : va_S A s.heap H locs) : ∀ t : State, s.vm.Alike t.vm → H.size ≤ t.heap.size → (∀ q : Nat, q < H.size → t.heap[q]? = H[q]?) → zz_XC D A ΨX E s t := by
  intro t hvm hsz hk
  refine ⟨⟨_, hΨ, hP.kept (fun k q hq => hk q.1 ((hP k q hq).lt)), hD⟩, ⟨Nat.le_trans hS.1 hsz, fun q h1 h2 => ?_⟩⟩
  rw [hk q (Nat.lt_of_lt_of_le h1 hS.1)]
  exact hS.2.1 q h1 h2
theorem zz_throwS (C : zz_C p l R s m meth c D U A own cc nL ret [] d) {cls text : String} {ik is ic : Nat} (ht : zz_thr own ik ic cls) (hstr : (own, is, text) ∈ zz_str)
    (d0 : decode cc pc = .ok (.new ik, 3)) (d3 : decode cc (pc + 3) = .ok (.dup, 1)) (d4 : decode cc (pc + 4) = .ok (.ldc is, 2)) (d6 : decode cc (pc + 6) = .ok (.invokespecial ic, 3)) (d9 : decode cc (pc + 9) = .ok (.athrow, 1))
    (hd : 6 ≤ d) (hw : (st.map fun v => v.category).sum ≤ 8) (hc : cells + 1 ≤ R.cells) (hs : slots + 6 ≤ R.slots) (hc2 : cells + 1 ≤ mc) (hs2 : slots + 6 ≤ ms) (hΨ : ΨX cls ws) :
    zz_Z p l e R s m args below meth c (vx_MQ below (zz_Qc D A Ψ) (zz_XC D A ΨX) args s mc ms A) D A nL cells slots ws pc lv st := by
  intro H locs ls hP hD hS hl
  obtain ⟨t1, t2, t3, t4, t5⟩ := ht
  obtain ⟨sa, hsa⟩ := C.F.2.2.2.2.1 _ hstr
  have h1 := C.fr
  have h2 := C.lo
  exact vx_throwS (names := zz_names) (A := A) C.x C.b C.tr C.ow (zz_fit t5) zz_fitn (C.w t3) (C.w t4) hsa (fun w hw => by
      rcases t1 w hw with h | h | ⟨y, hy, h⟩
      · exact C.w h
      · rw [h]; exact va_Nw.use rfl (C.F.2.2.1 _ t5)
      · rw [h]; exact va_Nw.use rfl (C.F.2.2.2.2.2 _ hy)) t2 C.S.1 C.S.2 hS (by rw [C.ml]; exact hl.1) d0 d3 d4 d6 d9 (fun x hx => by rw [C.t] at hx; exact nomatch hx)
    (by show 2 + 3 < _; omega) (by show _ + (13 * (2 + 1) + 43) ≤ _; omega) hc hs C.lk (zz_hx C hΨ hP hD hS) hS.2.2 hc2 hs2
theorem zz_throwSW (C : zz_C p l R s m meth c D U A own cc nL ret [] d) {cls text : String} {ik is ic : Nat} (ht : zz_thr own ik ic cls) (hstr : (own, is, text) ∈ zz_str)
    (d0 : decode cc pc = .ok (.new ik, 3)) (d3 : decode cc (pc + 3) = .ok (.dup, 1)) (d4 : decode cc (pc + 4) = .ok (.ldc_w is, 3)) (d7 : decode cc (pc + 7) = .ok (.invokespecial ic, 3)) (d10 : decode cc (pc + 10) = .ok (.athrow, 1))
    (hd : 6 ≤ d) (hw : (st.map fun v => v.category).sum ≤ 8) (hc : cells + 1 ≤ R.cells) (hs : slots + 6 ≤ R.slots) (hc2 : cells + 1 ≤ mc) (hs2 : slots + 6 ≤ ms) (hΨ : ΨX cls ws) :
    zz_Z p l e R s m args below meth c (vx_MQ below (zz_Qc D A Ψ) (zz_XC D A ΨX) args s mc ms A) D A nL cells slots ws pc lv st := by
  intro H locs ls hP hD hS hl
  obtain ⟨t1, t2, t3, t4, t5⟩ := ht
  obtain ⟨sa, hsa⟩ := C.F.2.2.2.2.1 _ hstr
  have h1 := C.fr
  have h2 := C.lo
  exact vx_throwSW (names := zz_names) (A := A) C.x C.b C.tr C.ow (zz_fit t5) zz_fitn (C.w t3) (C.w t4) hsa (fun w hw => by
      rcases t1 w hw with h | h | ⟨y, hy, h⟩
      · exact C.w h
      · rw [h]; exact va_Nw.use rfl (C.F.2.2.1 _ t5)
      · rw [h]; exact va_Nw.use rfl (C.F.2.2.2.2.2 _ hy)) t2 C.S.1 C.S.2 hS (by rw [C.ml]; exact hl.1) d0 d3 d4 d7 d10 (fun x hx => by rw [C.t] at hx; exact nomatch hx)
    (by show 2 + 3 < _; omega) (by show _ + (13 * (2 + 1) + 43) ≤ _; omega) hc hs C.lk (zz_hx C hΨ hP hD hS) hS.2.2 hc2 hs2
/-- caught: pre, the rows ahead that name other classes -/
theorem zz_catch (C : zz_C p l R s m meth c D U A own cc nL ret hh d) {E : String} {lv0 : List (Nat × Value)} {h : Nat} (pre : List ExceptionTableEntry) (x : ExceptionTableEntry) (suf : List ExceptionTableEntry) (hsplit : tableOf hh = pre ++ x :: suf) (hpass : ∀ z ∈ pre, covers z pc = false ∨ (z.catchType ≠ 0 ∧ ∃ nm : String, zz_g (.classLink own z.catchType nm) ∧ (E, nm) ∈ zz_nocast)) (hx : covers x pc = true) (h0 : x.catchType ≠ 0)
    (w1 : zz_g (.classLink own x.catchType E)) (hE : E ∈ zz_exc) (hp : x.handlerPc = h) (k : ∀ q : Addr, zz_Z p l e R s m args below meth c Q D A nL cells slots ws h lv [.ref q]) : zz_X p l e R s m args below meth c Q D A nL cells slots ws pc lv st E :=
  fun H locs ls q ce hP hD hS hl h1 h2 h3 => vx_catch (args := args) C.ow pre x suf (C.t.trans hsplit) (fun z hz => (hpass z hz).imp id (fun ⟨g1, nm, g2, g3⟩ => ⟨g1, nm, C.w g2, C.F.2.2.2.1 _ g3⟩)) hx h0 (C.w w1) (va_Nw.use rfl (C.F.2.2.1 _ hE)) h1 h2 h3 (by rw [hp]; exact k q H locs ls hP hD hS hl)
end ZY
/-- the two ends of a contract, exactly -/
abbrev zz_ok (v0 : Option Value) (w0 : va_W) : Option Value → va_W → Prop := fun v w => v = v0 ∧ w = w0
abbrev zz_none : Option Value → va_W → Prop := fun _ _ => False
abbrev zz_th (E0 : String) (w0 : va_W) : String → va_W → Prop := fun E w => E = E0 ∧ w = w0
abbrev zz_noth : String → va_W → Prop := fun _ _ => False
section ZV
variable {p : Program} {l : Launch} {e : Env} {R : Room} {s : State} {m : MethodId} {args : Array Value} {below : List Frame} {meth : Method} {c : Code} {Q : State → Prop} {D : va_G} {U : zz_U} {A : Nat → Prop} {own : String} {cc : ByteArray} {nL d cells slots pc : Nat} {ret : Option FieldType} {hh : List (Nat × Nat × Nat × Nat)} {lv : List (Nat × Value)} {st : List Value} {ws w1 : va_W} {mc ms : Nat} {v0 : Option Value} {E0 : String}
variable {y : MethodName} {bytes : ByteArray} {maxL : Nat} {retY : Option FieldType} {d' n index b ci N : Nat} {T : u_T} {host : String} {fs As rest st1 : List Value}
theorem zz_callV1 (C : zz_C p l R s m meth c D U A own cc nL ret hh d) (q0 : Nat) (hM : zz_Met y (.code y bytes maxL retY) d' mc ms D U (.ref b :: As) ws (zz_ok v0 w1) zz_noth) (hdg : decode cc pc = .ok (.invokevirtual index, 3)) (hst : st = As.reverse ++ .ref b :: rest) (he : ws[q0]? = some (b, .inr (ci, fs))) (hc : zcl[ci]? = some (y.cls, T, N)) (w2 : zz_g (.methodLink own index y)) (wy : zz_YV y (.code y bytes maxL retY) n) (hn : As.length = n) (hd : d' + 1 ≤ d) (hmx : maxL ≤ 17) (hw : (rest.map fun v => v.category).sum ≤ 8) (hc1 : cells + mc ≤ R.cells) (hs1 : slots + ms ≤ R.slots) (hv : v0.toList ++ rest = st1) (k : zz_Z p l e R s m args below meth c Q D A nL (cells + mc) (slots + ms) w1 (pc + 3) lv (st1)) : zz_Z p l e R s m args below meth c Q D A nL cells slots ws (pc) lv (st) := zz_callV C q0 hM hdg hst he hc w2 wy hn hd hmx hw hc1 hs1 (fun v ws' h => by obtain ⟨rfl, rfl⟩ := h; rw [hv]; exact k) (fun _ _ h => h.elim)
theorem zz_callVx (C : zz_C p l R s m meth c D U A own cc nL ret hh d) (q0 : Nat) (hM : zz_Met y (.code y bytes maxL retY) d' mc ms D U (.ref b :: As) ws zz_none (zz_th E0 w1)) (hdg : decode cc pc = .ok (.invokevirtual index, 3)) (hst : st = As.reverse ++ .ref b :: rest) (he : ws[q0]? = some (b, .inr (ci, fs))) (hc : zcl[ci]? = some (y.cls, T, N)) (w2 : zz_g (.methodLink own index y)) (wy : zz_YV y (.code y bytes maxL retY) n) (hn : As.length = n) (hd : d' + 1 ≤ d) (hmx : maxL ≤ 17) (hw : (rest.map fun v => v.category).sum ≤ 8) (hc1 : cells + mc ≤ R.cells) (hs1 : slots + ms ≤ R.slots) (k : zz_X p l e R s m args below meth c Q D A nL (cells + mc) (slots + ms) w1 pc lv rest E0) : zz_Z p l e R s m args below meth c Q D A nL cells slots ws (pc) lv (st) := zz_callV C q0 hM hdg hst he hc w2 wy hn hd hmx hw hc1 hs1 (fun _ _ h => h.elim) (fun E ws' h => by obtain ⟨rfl, rfl⟩ := h; exact k)
theorem zz_callS1 (C : zz_C p l R s m meth c D U A own cc nL ret hh d) (hM : zz_Met y (.code y bytes maxL retY) d' mc ms D U As ws (zz_ok v0 w1) zz_noth) (hdg : decode cc pc = .ok (.invokestatic index, 3)) (hst : st = As.reverse ++ rest) (w2 : zz_g (.methodLink own index y)) (wy : zz_YS y (.code y bytes maxL retY) n) (hn : As.length = n) (hd : d' + 1 ≤ d) (hmx : maxL ≤ 17) (hw : (rest.map fun v => v.category).sum ≤ 8) (hc1 : cells + mc ≤ R.cells) (hs1 : slots + ms ≤ R.slots) (hv : v0.toList ++ rest = st1) (k : zz_Z p l e R s m args below meth c Q D A nL (cells + mc) (slots + ms) w1 (pc + 3) lv (st1)) : zz_Z p l e R s m args below meth c Q D A nL cells slots ws (pc) lv (st) := zz_callS C hM hdg hst w2 wy hn hd hmx hw hc1 hs1 (fun v ws' h => by obtain ⟨rfl, rfl⟩ := h; rw [hv]; exact k) (fun _ _ h => h.elim)
theorem zz_callSx (C : zz_C p l R s m meth c D U A own cc nL ret hh d) (hM : zz_Met y (.code y bytes maxL retY) d' mc ms D U As ws zz_none (zz_th E0 w1)) (hdg : decode cc pc = .ok (.invokestatic index, 3)) (hst : st = As.reverse ++ rest) (w2 : zz_g (.methodLink own index y)) (wy : zz_YS y (.code y bytes maxL retY) n) (hn : As.length = n) (hd : d' + 1 ≤ d) (hmx : maxL ≤ 17) (hw : (rest.map fun v => v.category).sum ≤ 8) (hc1 : cells + mc ≤ R.cells) (hs1 : slots + ms ≤ R.slots) (k : zz_X p l e R s m args below meth c Q D A nL (cells + mc) (slots + ms) w1 pc lv rest E0) : zz_Z p l e R s m args below meth c Q D A nL cells slots ws (pc) lv (st) := zz_callS C hM hdg hst w2 wy hn hd hmx hw hc1 hs1 (fun _ _ h => h.elim) (fun E ws' h => by obtain ⟨rfl, rfl⟩ := h; exact k)
theorem zz_callSN1 (C : zz_C p l R s m meth c D U A own cc nL ret hh d) (hM : zz_Met y (.code y bytes maxL retY) d' mc ms D U As ws (zz_ok v0 w1) zz_noth) (hdg : decode cc pc = .ok (.invokestatic index, 3)) (hst : st = As.reverse ++ rest) (w2 : (own, index, y, host) ∈ zz_nest) (wy : zz_YS y (.code y bytes maxL retY) n) (hn : As.length = n) (hd : d' + 1 ≤ d) (hmx : maxL ≤ 17) (hw : (rest.map fun v => v.category).sum ≤ 8) (hc1 : cells + mc ≤ R.cells) (hs1 : slots + ms ≤ R.slots) (hv : v0.toList ++ rest = st1) (k : zz_Z p l e R s m args below meth c Q D A nL (cells + mc) (slots + ms) w1 (pc + 3) lv (st1)) : zz_Z p l e R s m args below meth c Q D A nL cells slots ws (pc) lv (st) := zz_callSN C hM (fun _ _ h => h) hdg hst w2 wy hn hd hmx hw hc1 hs1 (fun v ws' h => by obtain ⟨rfl, rfl⟩ := h; rw [hv]; exact k)
end ZV
/-- a method's contract out of the walk of its body -/
theorem zz_method {y : MethodName} {cc : ByteArray} {maxL d mc ms : Nat} {ret : Option FieldType} {D : va_G} {U : zz_U} {as : List Value} {ws : va_W} {Ψ : Option Value → va_W → Prop} {ΨX : String → va_W → Prop} (own : String) (ho : y.cls = own) (hy : plainName own = true) (hlen : (lg_sl as).length ≤ maxL)
    (body : ∀ (p : Program) (l : Launch) (e : Env) (s : State) (m : MethodId) (args : Array Value) (below : List Frame) (meth : Method) (c : Code) (A : Nat → Prop), meth.name = y.name → zz_C p l ({ frames := d, cells := mc, slots := ms, locals := 36 * d } : Room) s m meth c D U A own cc maxL ret [] d →
      zz_Z p l e ({ frames := d, cells := mc, slots := ms, locals := 36 * d } : Room) s m args below meth c (vx_MQ below (zz_Qc D A Ψ) (zz_XC D A ΨX) args s mc ms A) D A maxL 0 0 ws 0 (lv_args 0 as) []) : zz_Met y (.code y cc maxL ret) d mc ms D U as ws Ψ ΨX := by
  subst ho
  intro l sz htr
  refine vx_ofW (cc := cc) (maxL := maxL) (ret := ret) (ws' := []) hy rfl ?_
  intro p e s m args below meth c s₁ B hml hno hv
  obtain ⟨rfl, hsz, hP, hK, hD0, hF, hS0⟩ := hv
  subst hsz
  have hD := hD0.self (sz := s.heap.size)
  have hl := lv_entry as (n := maxL) hlen
  rw [lg_entry_eq]
  have ht : c.exceptionTable.toList = tableOf [] := by
    show _ = []
    cases hq : c.exceptionTable.toList with
    | nil => rfl
    | cons z r => exact (hno z (by rw [hq]; exact List.mem_cons_self)).elim
  have hA : ∀ q : Nat, s.heap.size ≤ q → va_A ws s.heap.size q := fun q h => Or.inr h
  refine body p l e s m as.toArray below meth c (va_A ws s.heap.size) (name_of_methodNamed B.named B.method).1 ⟨B.exec, B.bytes, hml, findClass_of_methodNamed B.named, hF, B.notSynchronized, htr, hK, hA, hS0, Nat.le_refl _, Nat.le_refl _, B.returns, ht⟩ s.heap [] _ hP hD va_S.rf hl
end
section
/-- the ints of the world: by cell, by slot -/
abbrev zz_St : Type := Nat → Nat → Int32
def zz_u (σ : zz_St) (q j : Nat) (v : Int32) : zz_St := fun k => bif Nat.beq k q then upd (σ k) j v else σ k
def zz_cc (U : zz_U) (ad : Nat → Nat) (σ : zz_St) : va_W := [(ad 0, .inr (7, [.ref (ad 1), .ref (ad 17), .ref (ad 19), .ref (ad 21), .ref (ad 24), .ref (ad 41), .ref (ad 44), .int (σ 0 7), .int (σ 0 8)])), (ad 1, .inr (5, [.int (σ 1 0), .ref (ad 2), .ref (ad 3), .ref (ad 4), .ref (ad 5), .ref (ad 6), .ref (ad 7), .ref (ad 12)])), (ad 2, .inl (U.1, 14, .inl (σ 2))), (ad 3, .inl (U.1, 14, .inl (σ 3))), (ad 4, .inl (U.1, 14, .inl (σ 4))), (ad 5, .inl (U.1, 14, .inl (σ 5))), (ad 6, .inl (U.1, 14, .inl (σ 6))), (ad 7, .inl (U.2.2.2, 4, .inr (.inr (.inr (.inr (fun i => if i < 4 then some (ad (8 + i)) else none)))))), (ad 8, .inl (U.1, 14, .inl (σ 8))), (ad 9, .inl (U.1, 14, .inl (σ 9))), (ad 10, .inl (U.1, 14, .inl (σ 10))), (ad 11, .inl (U.1, 14, .inl (σ 11))), (ad 12, .inl (U.2.2.2, 4, .inr (.inr (.inr (.inr (fun i => if i < 4 then some (ad (13 + i)) else none)))))), (ad 13, .inl (U.1, 16, .inl (σ 13))), (ad 14, .inl (U.1, 16, .inl (σ 14))), (ad 15, .inl (U.1, 16, .inl (σ 15))), (ad 16, .inl (U.1, 16, .inl (σ 16))), (ad 17, .inr (1, [.int (σ 17 0), .ref (ad 18)])), (ad 18, .inl (U.1, 16, .inl (σ 18))), (ad 19, .inr (2, [.ref (ad 20), .int (σ 19 1)])), (ad 20, .inl (U.1, 4, .inl (σ 20))), (ad 21, .inr (6, [.ref (ad 22), .ref (ad 23)])), (ad 22, .inl (U.1, 14, .inl (σ 22))), (ad 23, .inl (U.1, 14, .inl (σ 23))), (ad 24, .inr (3, [.int (σ 24 0), .int (σ 24 1), .int (σ 24 2), .int (σ 24 3), .ref (ad 25), .ref (ad 26)])), (ad 25, .inl (U.1, 14, .inl (σ 25))), (ad 26, .inl (U.2.2.2, 14, .inr (.inr (.inr (.inr (fun i => if i < 14 then some (ad (27 + i)) else none)))))), (ad 27, .inl (U.1, 14, .inl (σ 27))), (ad 28, .inl (U.1, 14, .inl (σ 28))), (ad 29, .inl (U.1, 14, .inl (σ 29))), (ad 30, .inl (U.1, 14, .inl (σ 30))), (ad 31, .inl (U.1, 14, .inl (σ 31))), (ad 32, .inl (U.1, 14, .inl (σ 32))), (ad 33, .inl (U.1, 14, .inl (σ 33))), (ad 34, .inl (U.1, 14, .inl (σ 34))), (ad 35, .inl (U.1, 14, .inl (σ 35))), (ad 36, .inl (U.1, 14, .inl (σ 36))), (ad 37, .inl (U.1, 14, .inl (σ 37))), (ad 38, .inl (U.1, 14, .inl (σ 38))), (ad 39, .inl (U.1, 14, .inl (σ 39))), (ad 40, .inl (U.1, 14, .inl (σ 40))), (ad 41, .inr (4, [.int (σ 41 0), .int (σ 41 1), .ref (ad 42), .ref (ad 43)])), (ad 42, .inl (U.1, 14, .inl (σ 42))), (ad 43, .inl (U.1, 14, .inl (σ 43))), (ad 44, .inr (0, [.int (σ 44 0), .int (σ 44 1), .ref (ad 45), .ref (ad 46)])), (ad 45, .inl (U.1, 9, .inl (σ 45))), (ad 46, .inl (U.1, 512, .inl (σ 46)))]
/-- the class's cells, and any others behind -/
def zz_wc (U : zz_U) (ad : Nat → Nat) (σ : zz_St) (X : va_W) : va_W := zz_cc U ad σ ++ X
def zz_cm (U : zz_U) (ad : Nat → Nat) (σ : zz_St) : va_W := [(ad 47, .inr (8, [.int (σ 47 0), .int (σ 47 1), .ref (ad 48), .ref (ad 49), .ref (ad 50), .ref (ad 51), .ref (ad 52), .ref (ad 53), .ref (ad 54), .int (σ 47 9), .int (σ 47 10), .int (σ 47 11), .ref (ad 55), .int (σ 47 13), .ref (ad 56), .ref (ad 57), .ref (ad 58), .int (σ 47 17), .ref (ad 59), .ref (ad 60), .ref (ad 61)])), (ad 48, .inl (U.1, 56, .inl (σ 48))), (ad 49, .inl (U.1, 56, .inl (σ 49))), (ad 50, .inl (U.1, 14, .inl (σ 50))), (ad 51, .inl (U.1, 196, .inl (σ 51))), (ad 52, .inl (U.2.2.1, 16, .inl (σ 52))), (ad 53, .inl (U.1, 16, .inl (σ 53))), (ad 54, .inl (U.1, 4, .inl (σ 54))), (ad 55, .inl (U.1, 14, .inl (σ 55))), (ad 56, .inl (U.1, 196, .inl (σ 56))), (ad 57, .inl (U.1, 14, .inl (σ 57))), (ad 58, .inl (U.1, 14, .inl (σ 58))), (ad 59, .inl (U.1, 14, .inl (σ 59))), (ad 60, .inl (U.1, 512, .inl (σ 60))), (ad 61, .inl (U.1, 512, .inl (σ 61)))]
def zz_wm (U : zz_U) (ad : Nat → Nat) (ρ σ : zz_St) (X : va_W) : va_W := zz_cc U ad ρ ++ (zz_cm U ad σ ++ X)
def zz_ga (f : Nat → Int32) (n : Nat) (i : Int32) : Option Int32 := if i < 0 ∨ n ≤ i.toNatClampNeg then none else some (f i.toNatClampNeg)
def zz_pa (σ : zz_St) (q n : Nat) (i v : Int32) : Option zz_St := if i < 0 ∨ n ≤ i.toNatClampNeg then none else some (zz_u σ q i.toNatClampNeg v)
def zz_ix (n : Nat) (i : Int32) : Option Nat := if i < 0 ∨ n ≤ i.toNatClampNeg then none else some i.toNatClampNeg
def zz_dv (x y : Int32) : Option Int32 := if y = 0 then none else some (x / y)
def zz_bo (v : Int32) : Option Int32 := if v = 0 ∨ v = 1 then some v else none
def zz_bi (b : Bool) : Int32 := if b = true then 1 else 0
def zz_dd (x y : UInt64) : Option UInt64 := if FP.ddiv x y &&& 0x7fffffffffffffff ≤ 0x7ff0000000000000 then some (FP.ddiv x y) else none
theorem zz_ga_in {f : Nat → Int32} {n : Nat} {i x : Int32} (h : zz_ga f n i = some x) : vp_in i n ∧ f i.toNatClampNeg = x := by
  unfold zz_ga at h
  split at h
  · cases h
  · next g => exact ⟨g, Option.some.inj h⟩
theorem zz_pa_in {σ σ1 : zz_St} {q n : Nat} {i v : Int32} (h : zz_pa σ q n i v = some σ1) : vp_in i n ∧ zz_u σ q i.toNatClampNeg v = σ1 := by
  unfold zz_pa at h
  split at h
  · cases h
  · next g => exact ⟨g, Option.some.inj h⟩
theorem zz_ix_in {n k : Nat} {i : Int32} (h : zz_ix n i = some k) : vp_in i n ∧ i.toNatClampNeg = k ∧ k < n := by
  unfold zz_ix at h
  split at h
  · cases h
  · next g =>
    have e := Option.some.inj h
    exact ⟨g, e, by rw [← e]; exact Nat.not_le.mp (fun q => g (Or.inr q))⟩
theorem zz_dv_in {x y z : Int32} (h : zz_dv x y = some z) : ¬ y = 0 ∧ x / y = z := by
  unfold zz_dv at h
  split at h
  · cases h
  · next g => exact ⟨g, Option.some.inj h⟩
theorem zz_bo_in {v z : Int32} (h : zz_bo v = some z) : (v = 0 ∨ v = 1) ∧ v = z := by
  unfold zz_bo at h
  split at h
  · next g => exact ⟨g, Option.some.inj h⟩
  · cases h
theorem zz_dd_in {x y z : UInt64} (h : zz_dd x y = some z) : vf_n64 (FP.ddiv x y) ∧ FP.ddiv x y = z := by
  unfold zz_dd at h
  split at h
  · next g => exact ⟨g, Option.some.inj h⟩
  · cases h
theorem zz_bind {α β : Type} {o : Option α} {f : α → Option β} {r : β} (h : o.bind f = some r) : ∃ x, o = some x ∧ f x = some r := by
  cases o with
  | none => cases h
  | some x => exact ⟨x, rfl, h⟩
theorem zz_bi01 (b : Bool) : zz_bi b = 0 ∨ zz_bi b = 1 := by
  cases b
  · exact Or.inl rfl
  · exact Or.inr rfl
theorem zz_sw {x : Int32} (n : Nat) (k : Int32) (hk : k.toInt = (n : Int)) (h : ¬ x = k) : ¬ x.toInt = (n : Int) := fun q => h (Int32.toInt_inj.mp (q.trans hk.symm))
section ZW
variable {p : Program} {l : Launch} {e : Env} {R : Room} {s : State} {m : MethodId} {args : Array Value} {below : List Frame} {meth : Method} {c : Code} {Q : State → Prop} {D : va_G} {U : zz_U} {A : Nat → Prop} {own : String} {cc : ByteArray} {nL d cells slots pc index : Nat} {ret : Option FieldType} {hh : List (Nat × Nat × Nat × Nat)} {lv : List (Nat × Value)} {st : List Value} {ad : Nat → Nat} {σ ρ : zz_St} {X : va_W}
theorem zz_topi {x y : Int32} {ws : va_W} (h : x = y) (k : zz_Z p l e R s m args below meth c Q D A nL cells slots (ws) (pc) lv (.int y :: st)) : zz_Z p l e R s m args below meth c Q D A nL cells slots (ws) (pc) lv (.int x :: st) := h ▸ k
theorem zz_topl {x y : Int64} {ws : va_W} (h : x = y) (k : zz_Z p l e R s m args below meth c Q D A nL cells slots (ws) (pc) lv (.long y :: st)) : zz_Z p l e R s m args below meth c Q D A nL cells slots (ws) (pc) lv (.long x :: st) := h ▸ k
theorem zz_topd {x y : UInt64} {ws : va_W} (h : x = y) (k : zz_Z p l e R s m args below meth c Q D A nL cells slots (ws) (pc) lv (.double y :: st)) : zz_Z p l e R s m args below meth c Q D A nL cells slots (ws) (pc) lv (.double x :: st) := h ▸ k
theorem zz_cut {ws : va_W} (pc1 : Nat) (lv1 : List (Nat × Value)) (st1 : List Value) (ws1 : va_W) (h1 : zz_Z p l e R s m args below meth c Q D A nL cells slots ws1 pc1 lv1 st1) (h2 : zz_Z p l e R s m args below meth c Q D A nL cells slots ws1 pc1 lv1 st1 → zz_Z p l e R s m args below meth c Q D A nL cells slots ws pc lv st) : zz_Z p l e R s m args below meth c Q D A nL cells slots ws pc lv st := h2 h1
theorem zz_cutI {ws : va_W} {P : Prop} (pc1 : Nat) (lv1 : List (Nat × Value)) (st1 : List Value) (ws1 : va_W) (h1 : P → zz_Z p l e R s m args below meth c Q D A nL cells slots ws1 pc1 lv1 st1) (h2 : (P → zz_Z p l e R s m args below meth c Q D A nL cells slots ws1 pc1 lv1 st1) → zz_Z p l e R s m args below meth c Q D A nL cells slots ws pc lv st) : zz_Z p l e R s m args below meth c Q D A nL cells slots ws pc lv st := h2 h1
theorem zz_lvs {ws : va_W} {lv1 : List (Nat × Value)} (h : lv = lv1) (k : zz_Z p l e R s m args below meth c Q D A nL cells slots ws pc lv1 st) : zz_Z p l e R s m args below meth c Q D A nL cells slots ws pc lv st := h ▸ k
theorem zf7_pieces (C : zz_C p l R s m meth c D U A own cc nL ret hh d) (hdg : decode cc pc = .ok (.getfield index, 3)) (hw : zz_g (.fieldLink own index "ChangeUntangler" "pieces" "LChangeUntangler$Pieces;")) (k : zz_Z p l e R s m args below meth c Q D A nL cells slots (zz_wc U ad (σ) X) (pc + 3) lv (.ref (ad 1) :: st)) : zz_Z p l e R s m args below meth c Q D A nL cells slots (zz_wc U ad (σ) X) (pc) lv (.ref (ad 0) :: st) := zz_get (T := TX7) C 0 0 hdg rfl rfl z_in7 (by decide +kernel) (by decide) hw rfl k
theorem zf7_code (C : zz_C p l R s m meth c D U A own cc nL ret hh d) (hdg : decode cc pc = .ok (.getfield index, 3)) (hw : zz_g (.fieldLink own index "ChangeUntangler" "code" "LChangeUntangler$Code;")) (k : zz_Z p l e R s m args below meth c Q D A nL cells slots (zz_wc U ad (σ) X) (pc + 3) lv (.ref (ad 17) :: st)) : zz_Z p l e R s m args below meth c Q D A nL cells slots (zz_wc U ad (σ) X) (pc) lv (.ref (ad 0) :: st) := zz_get (T := TX7) C 0 1 hdg rfl rfl z_in7 (by decide +kernel) (by decide) hw rfl k
theorem zf7_evidence (C : zz_C p l R s m meth c D U A own cc nL ret hh d) (hdg : decode cc pc = .ok (.getfield index, 3)) (hw : zz_g (.fieldLink own index "ChangeUntangler" "evidence" "LChangeUntangler$Evidence;")) (k : zz_Z p l e R s m args below meth c Q D A nL cells slots (zz_wc U ad (σ) X) (pc + 3) lv (.ref (ad 19) :: st)) : zz_Z p l e R s m args below meth c Q D A nL cells slots (zz_wc U ad (σ) X) (pc) lv (.ref (ad 0) :: st) := zz_get (T := TX7) C 0 2 hdg rfl rfl z_in7 (by decide +kernel) (by decide) hw rfl k
theorem zf7_sayings (C : zz_C p l R s m meth c D U A own cc nL ret hh d) (hdg : decode cc pc = .ok (.getfield index, 3)) (hw : zz_g (.fieldLink own index "ChangeUntangler" "sayings" "LChangeUntangler$Sayings;")) (k : zz_Z p l e R s m args below meth c Q D A nL cells slots (zz_wc U ad (σ) X) (pc + 3) lv (.ref (ad 21) :: st)) : zz_Z p l e R s m args below meth c Q D A nL cells slots (zz_wc U ad (σ) X) (pc) lv (.ref (ad 0) :: st) := zz_get (T := TX7) C 0 3 hdg rfl rfl z_in7 (by decide +kernel) (by decide) hw rfl k
theorem zf7_groups (C : zz_C p l R s m meth c D U A own cc nL ret hh d) (hdg : decode cc pc = .ok (.getfield index, 3)) (hw : zz_g (.fieldLink own index "ChangeUntangler" "groups" "LChangeUntangler$Groups;")) (k : zz_Z p l e R s m args below meth c Q D A nL cells slots (zz_wc U ad (σ) X) (pc + 3) lv (.ref (ad 24) :: st)) : zz_Z p l e R s m args below meth c Q D A nL cells slots (zz_wc U ad (σ) X) (pc) lv (.ref (ad 0) :: st) := zz_get (T := TX7) C 0 4 hdg rfl rfl z_in7 (by decide +kernel) (by decide) hw rfl k
theorem zf7_parcels (C : zz_C p l R s m meth c D U A own cc nL ret hh d) (hdg : decode cc pc = .ok (.getfield index, 3)) (hw : zz_g (.fieldLink own index "ChangeUntangler" "parcels" "LChangeUntangler$Parcels;")) (k : zz_Z p l e R s m args below meth c Q D A nL cells slots (zz_wc U ad (σ) X) (pc + 3) lv (.ref (ad 41) :: st)) : zz_Z p l e R s m args below meth c Q D A nL cells slots (zz_wc U ad (σ) X) (pc) lv (.ref (ad 0) :: st) := zz_get (T := TX7) C 0 5 hdg rfl rfl z_in7 (by decide +kernel) (by decide) hw rfl k
theorem zf7_bestOrder (C : zz_C p l R s m meth c D U A own cc nL ret hh d) (hdg : decode cc pc = .ok (.getfield index, 3)) (hw : zz_g (.fieldLink own index "ChangeUntangler" "bestOrder" "LChangeUntangler$BestOrder;")) (k : zz_Z p l e R s m args below meth c Q D A nL cells slots (zz_wc U ad (σ) X) (pc + 3) lv (.ref (ad 44) :: st)) : zz_Z p l e R s m args below meth c Q D A nL cells slots (zz_wc U ad (σ) X) (pc) lv (.ref (ad 0) :: st) := zz_get (T := TX7) C 0 6 hdg rfl rfl z_in7 (by decide +kernel) (by decide) hw rfl k
theorem zf7_isPutTogether (C : zz_C p l R s m meth c D U A own cc nL ret hh d) (hdg : decode cc pc = .ok (.getfield index, 3)) (hw : zz_g (.fieldLink own index "ChangeUntangler" "isPutTogether" "Z")) (k : zz_Z p l e R s m args below meth c Q D A nL cells slots (zz_wc U ad (σ) X) (pc + 3) lv (.int (σ 0 7) :: st)) : zz_Z p l e R s m args below meth c Q D A nL cells slots (zz_wc U ad (σ) X) (pc) lv (.ref (ad 0) :: st) := zz_get (T := TX7) C 0 7 hdg rfl rfl z_in7 (by decide +kernel) (by decide) hw rfl k
theorem zp7_isPutTogether (C : zz_C p l R s m meth c D U A own cc nL ret hh d) {v : Int32} (hdg : decode cc pc = .ok (.putfield index, 3)) (hw : zz_g (.fieldLink own index "ChangeUntangler" "isPutTogether" "Z")) (hv : v = 0 ∨ v = 1) (k : zz_Z p l e R s m args below meth c Q D A nL cells slots (zz_wc U ad (zz_u σ 0 7 v) X) (pc + 3) lv (st)) : zz_Z p l e R s m args below meth c Q D A nL cells slots (zz_wc U ad (σ) X) (pc) lv (.int v :: .ref (ad 0) :: st) := zz_put (T := TX7) (v := .int v) (ty := .boolean) C 0 7 hdg rfl rfl z_in7 (by decide +kernel) tyX7_ok nmX7 (by decide) hw rfl (by decide +kernel) (by rcases hv with rfl | rfl <;> rfl) (by rcases hv with rfl | rfl <;> rfl) (Nat.le_of_ble_eq_true rfl) rfl k
theorem zf7_isBestKnown (C : zz_C p l R s m meth c D U A own cc nL ret hh d) (hdg : decode cc pc = .ok (.getfield index, 3)) (hw : zz_g (.fieldLink own index "ChangeUntangler" "isBestKnown" "Z")) (k : zz_Z p l e R s m args below meth c Q D A nL cells slots (zz_wc U ad (σ) X) (pc + 3) lv (.int (σ 0 8) :: st)) : zz_Z p l e R s m args below meth c Q D A nL cells slots (zz_wc U ad (σ) X) (pc) lv (.ref (ad 0) :: st) := zz_get (T := TX7) C 0 8 hdg rfl rfl z_in7 (by decide +kernel) (by decide) hw rfl k
theorem zp7_isBestKnown (C : zz_C p l R s m meth c D U A own cc nL ret hh d) {v : Int32} (hdg : decode cc pc = .ok (.putfield index, 3)) (hw : zz_g (.fieldLink own index "ChangeUntangler" "isBestKnown" "Z")) (hv : v = 0 ∨ v = 1) (k : zz_Z p l e R s m args below meth c Q D A nL cells slots (zz_wc U ad (zz_u σ 0 8 v) X) (pc + 3) lv (st)) : zz_Z p l e R s m args below meth c Q D A nL cells slots (zz_wc U ad (σ) X) (pc) lv (.int v :: .ref (ad 0) :: st) := zz_put (T := TX7) (v := .int v) (ty := .boolean) C 0 8 hdg rfl rfl z_in7 (by decide +kernel) tyX7_ok nmX7 (by decide) hw rfl (by decide +kernel) (by rcases hv with rfl | rfl <;> rfl) (by rcases hv with rfl | rfl <;> rfl) (Nat.le_of_ble_eq_true rfl) rfl k
theorem zf5_count (C : zz_C p l R s m meth c D U A own cc nL ret hh d) (hdg : decode cc pc = .ok (.getfield index, 3)) (hw : zz_g (.fieldLink own index "ChangeUntangler$Pieces" "count" "I")) (k : zz_Z p l e R s m args below meth c Q D A nL cells slots (zz_wc U ad (σ) X) (pc + 3) lv (.int (σ 1 0) :: st)) : zz_Z p l e R s m args below meth c Q D A nL cells slots (zz_wc U ad (σ) X) (pc) lv (.ref (ad 1) :: st) := zz_get (T := TX5) C 1 0 hdg rfl rfl z_in5 (by decide +kernel) (by decide) hw rfl k
theorem zp5_count (C : zz_C p l R s m meth c D U A own cc nL ret hh d) {v : Int32} (hdg : decode cc pc = .ok (.putfield index, 3)) (hw : zz_g (.fieldLink own index "ChangeUntangler$Pieces" "count" "I")) (k : zz_Z p l e R s m args below meth c Q D A nL cells slots (zz_wc U ad (zz_u σ 1 0 v) X) (pc + 3) lv (st)) : zz_Z p l e R s m args below meth c Q D A nL cells slots (zz_wc U ad (σ) X) (pc) lv (.int v :: .ref (ad 1) :: st) := zz_put (T := TX5) (v := .int v) (ty := .int) C 1 0 hdg rfl rfl z_in5 (by decide +kernel) tyX5_ok nmX5 (by decide) hw rfl (by decide +kernel) rfl rfl (Nat.le_of_ble_eq_true rfl) rfl k
theorem zf5_files (C : zz_C p l R s m meth c D U A own cc nL ret hh d) (hdg : decode cc pc = .ok (.getfield index, 3)) (hw : zz_g (.fieldLink own index "ChangeUntangler$Pieces" "files" "[I")) (k : zz_Z p l e R s m args below meth c Q D A nL cells slots (zz_wc U ad (σ) X) (pc + 3) lv (.ref (ad 2) :: st)) : zz_Z p l e R s m args below meth c Q D A nL cells slots (zz_wc U ad (σ) X) (pc) lv (.ref (ad 1) :: st) := zz_get (T := TX5) C 1 1 hdg rfl rfl z_in5 (by decide +kernel) (by decide) hw rfl k
theorem zf5_startLines (C : zz_C p l R s m meth c D U A own cc nL ret hh d) (hdg : decode cc pc = .ok (.getfield index, 3)) (hw : zz_g (.fieldLink own index "ChangeUntangler$Pieces" "startLines" "[I")) (k : zz_Z p l e R s m args below meth c Q D A nL cells slots (zz_wc U ad (σ) X) (pc + 3) lv (.ref (ad 3) :: st)) : zz_Z p l e R s m args below meth c Q D A nL cells slots (zz_wc U ad (σ) X) (pc) lv (.ref (ad 1) :: st) := zz_get (T := TX5) C 1 2 hdg rfl rfl z_in5 (by decide +kernel) (by decide) hw rfl k
theorem zf5_added (C : zz_C p l R s m meth c D U A own cc nL ret hh d) (hdg : decode cc pc = .ok (.getfield index, 3)) (hw : zz_g (.fieldLink own index "ChangeUntangler$Pieces" "added" "[I")) (k : zz_Z p l e R s m args below meth c Q D A nL cells slots (zz_wc U ad (σ) X) (pc + 3) lv (.ref (ad 4) :: st)) : zz_Z p l e R s m args below meth c Q D A nL cells slots (zz_wc U ad (σ) X) (pc) lv (.ref (ad 1) :: st) := zz_get (T := TX5) C 1 3 hdg rfl rfl z_in5 (by decide +kernel) (by decide) hw rfl k
theorem zf5_taken (C : zz_C p l R s m meth c D U A own cc nL ret hh d) (hdg : decode cc pc = .ok (.getfield index, 3)) (hw : zz_g (.fieldLink own index "ChangeUntangler$Pieces" "taken" "[I")) (k : zz_Z p l e R s m args below meth c Q D A nL cells slots (zz_wc U ad (σ) X) (pc + 3) lv (.ref (ad 5) :: st)) : zz_Z p l e R s m args below meth c Q D A nL cells slots (zz_wc U ad (σ) X) (pc) lv (.ref (ad 1) :: st) := zz_get (T := TX5) C 1 4 hdg rfl rfl z_in5 (by decide +kernel) (by decide) hw rfl k
theorem zf5_purposes (C : zz_C p l R s m meth c D U A own cc nL ret hh d) (hdg : decode cc pc = .ok (.getfield index, 3)) (hw : zz_g (.fieldLink own index "ChangeUntangler$Pieces" "purposes" "[I")) (k : zz_Z p l e R s m args below meth c Q D A nL cells slots (zz_wc U ad (σ) X) (pc + 3) lv (.ref (ad 6) :: st)) : zz_Z p l e R s m args below meth c Q D A nL cells slots (zz_wc U ad (σ) X) (pc) lv (.ref (ad 1) :: st) := zz_get (T := TX5) C 1 5 hdg rfl rfl z_in5 (by decide +kernel) (by decide) hw rfl k
theorem zf5_namesOf (C : zz_C p l R s m meth c D U A own cc nL ret hh d) (hdg : decode cc pc = .ok (.getfield index, 3)) (hw : zz_g (.fieldLink own index "ChangeUntangler$Pieces" "namesOf" "[[I")) (k : zz_Z p l e R s m args below meth c Q D A nL cells slots (zz_wc U ad (σ) X) (pc + 3) lv (.ref (ad 7) :: st)) : zz_Z p l e R s m args below meth c Q D A nL cells slots (zz_wc U ad (σ) X) (pc) lv (.ref (ad 1) :: st) := zz_get (T := TX5) C 1 6 hdg rfl rfl z_in5 (by decide +kernel) (by decide) hw rfl k
theorem zf5_piecesWith (C : zz_C p l R s m meth c D U A own cc nL ret hh d) (hdg : decode cc pc = .ok (.getfield index, 3)) (hw : zz_g (.fieldLink own index "ChangeUntangler$Pieces" "piecesWith" "[[I")) (k : zz_Z p l e R s m args below meth c Q D A nL cells slots (zz_wc U ad (σ) X) (pc + 3) lv (.ref (ad 12) :: st)) : zz_Z p l e R s m args below meth c Q D A nL cells slots (zz_wc U ad (σ) X) (pc) lv (.ref (ad 1) :: st) := zz_get (T := TX5) C 1 7 hdg rfl rfl z_in5 (by decide +kernel) (by decide) hw rfl k
theorem zl_2 (C : zz_C p l R s m meth c D U A own cc nL ret hh d) {i x : Int32} (hdg : decode cc pc = .ok (.iaload, 1)) (h : zz_ga (σ 2) 14 i = some x) (k : zz_Z p l e R s m args below meth c Q D A nL cells slots (zz_wc U ad (σ) X) (pc + 1) lv (.int x :: st)) : zz_Z p l e R s m args below meth c Q D A nL cells slots (zz_wc U ad (σ) X) (pc) lv (.int i :: .ref (ad 2) :: st) := zz_iald C 2 hdg rfl (zz_ga_in h).1 (by rw [(zz_ga_in h).2]; exact k)
theorem zs_2 (C : zz_C p l R s m meth c D U A own cc nL ret hh d) {i x : Int32} {σ1 : zz_St} (hdg : decode cc pc = .ok (.iastore, 1)) (h : zz_pa σ 2 14 i x = some σ1) (k : zz_Z p l e R s m args below meth c Q D A nL cells slots (zz_wc U ad (σ1) X) (pc + 1) lv (st)) : zz_Z p l e R s m args below meth c Q D A nL cells slots (zz_wc U ad (σ) X) (pc) lv (.int x :: .int i :: .ref (ad 2) :: st) := zz_iast C 2 hdg rfl (zz_pa_in h).1 (by rw [← (zz_pa_in h).2]; rfl) k
theorem zl_3 (C : zz_C p l R s m meth c D U A own cc nL ret hh d) {i x : Int32} (hdg : decode cc pc = .ok (.iaload, 1)) (h : zz_ga (σ 3) 14 i = some x) (k : zz_Z p l e R s m args below meth c Q D A nL cells slots (zz_wc U ad (σ) X) (pc + 1) lv (.int x :: st)) : zz_Z p l e R s m args below meth c Q D A nL cells slots (zz_wc U ad (σ) X) (pc) lv (.int i :: .ref (ad 3) :: st) := zz_iald C 3 hdg rfl (zz_ga_in h).1 (by rw [(zz_ga_in h).2]; exact k)
theorem zs_3 (C : zz_C p l R s m meth c D U A own cc nL ret hh d) {i x : Int32} {σ1 : zz_St} (hdg : decode cc pc = .ok (.iastore, 1)) (h : zz_pa σ 3 14 i x = some σ1) (k : zz_Z p l e R s m args below meth c Q D A nL cells slots (zz_wc U ad (σ1) X) (pc + 1) lv (st)) : zz_Z p l e R s m args below meth c Q D A nL cells slots (zz_wc U ad (σ) X) (pc) lv (.int x :: .int i :: .ref (ad 3) :: st) := zz_iast C 3 hdg rfl (zz_pa_in h).1 (by rw [← (zz_pa_in h).2]; rfl) k
theorem zl_4 (C : zz_C p l R s m meth c D U A own cc nL ret hh d) {i x : Int32} (hdg : decode cc pc = .ok (.iaload, 1)) (h : zz_ga (σ 4) 14 i = some x) (k : zz_Z p l e R s m args below meth c Q D A nL cells slots (zz_wc U ad (σ) X) (pc + 1) lv (.int x :: st)) : zz_Z p l e R s m args below meth c Q D A nL cells slots (zz_wc U ad (σ) X) (pc) lv (.int i :: .ref (ad 4) :: st) := zz_iald C 4 hdg rfl (zz_ga_in h).1 (by rw [(zz_ga_in h).2]; exact k)
theorem zs_4 (C : zz_C p l R s m meth c D U A own cc nL ret hh d) {i x : Int32} {σ1 : zz_St} (hdg : decode cc pc = .ok (.iastore, 1)) (h : zz_pa σ 4 14 i x = some σ1) (k : zz_Z p l e R s m args below meth c Q D A nL cells slots (zz_wc U ad (σ1) X) (pc + 1) lv (st)) : zz_Z p l e R s m args below meth c Q D A nL cells slots (zz_wc U ad (σ) X) (pc) lv (.int x :: .int i :: .ref (ad 4) :: st) := zz_iast C 4 hdg rfl (zz_pa_in h).1 (by rw [← (zz_pa_in h).2]; rfl) k
theorem zl_5 (C : zz_C p l R s m meth c D U A own cc nL ret hh d) {i x : Int32} (hdg : decode cc pc = .ok (.iaload, 1)) (h : zz_ga (σ 5) 14 i = some x) (k : zz_Z p l e R s m args below meth c Q D A nL cells slots (zz_wc U ad (σ) X) (pc + 1) lv (.int x :: st)) : zz_Z p l e R s m args below meth c Q D A nL cells slots (zz_wc U ad (σ) X) (pc) lv (.int i :: .ref (ad 5) :: st) := zz_iald C 5 hdg rfl (zz_ga_in h).1 (by rw [(zz_ga_in h).2]; exact k)
theorem zs_5 (C : zz_C p l R s m meth c D U A own cc nL ret hh d) {i x : Int32} {σ1 : zz_St} (hdg : decode cc pc = .ok (.iastore, 1)) (h : zz_pa σ 5 14 i x = some σ1) (k : zz_Z p l e R s m args below meth c Q D A nL cells slots (zz_wc U ad (σ1) X) (pc + 1) lv (st)) : zz_Z p l e R s m args below meth c Q D A nL cells slots (zz_wc U ad (σ) X) (pc) lv (.int x :: .int i :: .ref (ad 5) :: st) := zz_iast C 5 hdg rfl (zz_pa_in h).1 (by rw [← (zz_pa_in h).2]; rfl) k
theorem zl_6 (C : zz_C p l R s m meth c D U A own cc nL ret hh d) {i x : Int32} (hdg : decode cc pc = .ok (.iaload, 1)) (h : zz_ga (σ 6) 14 i = some x) (k : zz_Z p l e R s m args below meth c Q D A nL cells slots (zz_wc U ad (σ) X) (pc + 1) lv (.int x :: st)) : zz_Z p l e R s m args below meth c Q D A nL cells slots (zz_wc U ad (σ) X) (pc) lv (.int i :: .ref (ad 6) :: st) := zz_iald C 6 hdg rfl (zz_ga_in h).1 (by rw [(zz_ga_in h).2]; exact k)
theorem zs_6 (C : zz_C p l R s m meth c D U A own cc nL ret hh d) {i x : Int32} {σ1 : zz_St} (hdg : decode cc pc = .ok (.iastore, 1)) (h : zz_pa σ 6 14 i x = some σ1) (k : zz_Z p l e R s m args below meth c Q D A nL cells slots (zz_wc U ad (σ1) X) (pc + 1) lv (st)) : zz_Z p l e R s m args below meth c Q D A nL cells slots (zz_wc U ad (σ) X) (pc) lv (.int x :: .int i :: .ref (ad 6) :: st) := zz_iast C 6 hdg rfl (zz_pa_in h).1 (by rw [← (zz_pa_in h).2]; rfl) k
theorem zq_7 : ∀ (j : Nat), j < 4 → (zz_wc U ad (σ) X)[8 + j]? = some (ad (8 + j), .inl (U.1, 14, .inl (σ (8 + j))))
  | 0, _ => rfl
  | 1, _ => rfl
  | 2, _ => rfl
  | 3, _ => rfl
  | j + 4, h => absurd h (by omega)
theorem zv_7 {i : Nat} {v : Int32} : ∀ (j : Nat), j < 4 → (zz_wc U ad (σ) X).set (8 + j) (ad (8 + j), .inl (U.1, 14, .inl (upd (σ (8 + j)) i v))) = zz_wc U ad (zz_u σ (8 + j) i v) X
  | 0, _ => rfl
  | 1, _ => rfl
  | 2, _ => rfl
  | 3, _ => rfl
  | j + 4, h => absurd h (by omega)
theorem zr_7 (C : zz_C p l R s m meth c D U A own cc nL ret hh d) {i : Int32} {j : Nat} (hdg : decode cc pc = .ok (.aaload, 1)) (h : zz_ix 4 i = some j) (k : zz_Z p l e R s m args below meth c Q D A nL cells slots (zz_wc U ad (σ) X) (pc + 1) lv (.ref (ad (8 + j)) :: st)) : zz_Z p l e R s m args below meth c Q D A nL cells slots (zz_wc U ad (σ) X) (pc) lv (.int i :: .ref (ad 7) :: st) := zz_aald C 7 hdg rfl (zz_ix_in h).1 (by rw [(zz_ix_in h).2.1]; show va_rf (if j < 4 then some (ad (8 + j)) else none) = _; rw [if_pos (zz_ix_in h).2.2]; rfl) k
theorem zl_7 (C : zz_C p l R s m meth c D U A own cc nL ret hh d) {i i0 x : Int32} {j : Nat} (hdg : decode cc pc = .ok (.iaload, 1)) (h0 : zz_ix 4 i0 = some j) (h : zz_ga (σ (8 + j)) 14 i = some x) (k : zz_Z p l e R s m args below meth c Q D A nL cells slots (zz_wc U ad (σ) X) (pc + 1) lv (.int x :: st)) : zz_Z p l e R s m args below meth c Q D A nL cells slots (zz_wc U ad (σ) X) (pc) lv (.int i :: .ref (ad (8 + j)) :: st) := zz_iald C (8 + j) hdg (zq_7 j (zz_ix_in h0).2.2) (zz_ga_in h).1 (by rw [(zz_ga_in h).2]; exact k)
theorem zs_7 (C : zz_C p l R s m meth c D U A own cc nL ret hh d) {i i0 x : Int32} {j : Nat} {σ1 : zz_St} (hdg : decode cc pc = .ok (.iastore, 1)) (h0 : zz_ix 4 i0 = some j) (h : zz_pa σ (8 + j) 14 i x = some σ1) (k : zz_Z p l e R s m args below meth c Q D A nL cells slots (zz_wc U ad (σ1) X) (pc + 1) lv (st)) : zz_Z p l e R s m args below meth c Q D A nL cells slots (zz_wc U ad (σ) X) (pc) lv (.int x :: .int i :: .ref (ad (8 + j)) :: st) := zz_iast C (8 + j) hdg (zq_7 j (zz_ix_in h0).2.2) (zz_pa_in h).1 (by rw [← (zz_pa_in h).2]; exact zv_7 j (zz_ix_in h0).2.2) k
theorem zq_12 : ∀ (j : Nat), j < 4 → (zz_wc U ad (σ) X)[13 + j]? = some (ad (13 + j), .inl (U.1, 16, .inl (σ (13 + j))))
  | 0, _ => rfl
  | 1, _ => rfl
  | 2, _ => rfl
  | 3, _ => rfl
  | j + 4, h => absurd h (by omega)
theorem zv_12 {i : Nat} {v : Int32} : ∀ (j : Nat), j < 4 → (zz_wc U ad (σ) X).set (13 + j) (ad (13 + j), .inl (U.1, 16, .inl (upd (σ (13 + j)) i v))) = zz_wc U ad (zz_u σ (13 + j) i v) X
  | 0, _ => rfl
  | 1, _ => rfl
  | 2, _ => rfl
  | 3, _ => rfl
  | j + 4, h => absurd h (by omega)
theorem zr_12 (C : zz_C p l R s m meth c D U A own cc nL ret hh d) {i : Int32} {j : Nat} (hdg : decode cc pc = .ok (.aaload, 1)) (h : zz_ix 4 i = some j) (k : zz_Z p l e R s m args below meth c Q D A nL cells slots (zz_wc U ad (σ) X) (pc + 1) lv (.ref (ad (13 + j)) :: st)) : zz_Z p l e R s m args below meth c Q D A nL cells slots (zz_wc U ad (σ) X) (pc) lv (.int i :: .ref (ad 12) :: st) := zz_aald C 12 hdg rfl (zz_ix_in h).1 (by rw [(zz_ix_in h).2.1]; show va_rf (if j < 4 then some (ad (13 + j)) else none) = _; rw [if_pos (zz_ix_in h).2.2]; rfl) k
theorem zl_12 (C : zz_C p l R s m meth c D U A own cc nL ret hh d) {i i0 x : Int32} {j : Nat} (hdg : decode cc pc = .ok (.iaload, 1)) (h0 : zz_ix 4 i0 = some j) (h : zz_ga (σ (13 + j)) 16 i = some x) (k : zz_Z p l e R s m args below meth c Q D A nL cells slots (zz_wc U ad (σ) X) (pc + 1) lv (.int x :: st)) : zz_Z p l e R s m args below meth c Q D A nL cells slots (zz_wc U ad (σ) X) (pc) lv (.int i :: .ref (ad (13 + j)) :: st) := zz_iald C (13 + j) hdg (zq_12 j (zz_ix_in h0).2.2) (zz_ga_in h).1 (by rw [(zz_ga_in h).2]; exact k)
theorem zs_12 (C : zz_C p l R s m meth c D U A own cc nL ret hh d) {i i0 x : Int32} {j : Nat} {σ1 : zz_St} (hdg : decode cc pc = .ok (.iastore, 1)) (h0 : zz_ix 4 i0 = some j) (h : zz_pa σ (13 + j) 16 i x = some σ1) (k : zz_Z p l e R s m args below meth c Q D A nL cells slots (zz_wc U ad (σ1) X) (pc + 1) lv (st)) : zz_Z p l e R s m args below meth c Q D A nL cells slots (zz_wc U ad (σ) X) (pc) lv (.int x :: .int i :: .ref (ad (13 + j)) :: st) := zz_iast C (13 + j) hdg (zq_12 j (zz_ix_in h0).2.2) (zz_pa_in h).1 (by rw [← (zz_pa_in h).2]; exact zv_12 j (zz_ix_in h0).2.2) k
theorem zf1_definedNames (C : zz_C p l R s m meth c D U A own cc nL ret hh d) (hdg : decode cc pc = .ok (.getfield index, 3)) (hw : zz_g (.fieldLink own index "ChangeUntangler$Code" "definedNames" "I")) (k : zz_Z p l e R s m args below meth c Q D A nL cells slots (zz_wc U ad (σ) X) (pc + 3) lv (.int (σ 17 0) :: st)) : zz_Z p l e R s m args below meth c Q D A nL cells slots (zz_wc U ad (σ) X) (pc) lv (.ref (ad 17) :: st) := zz_get (T := TX1) C 17 0 hdg rfl rfl z_in1 (by decide +kernel) (by decide) hw rfl k
theorem zp1_definedNames (C : zz_C p l R s m meth c D U A own cc nL ret hh d) {v : Int32} (hdg : decode cc pc = .ok (.putfield index, 3)) (hw : zz_g (.fieldLink own index "ChangeUntangler$Code" "definedNames" "I")) (k : zz_Z p l e R s m args below meth c Q D A nL cells slots (zz_wc U ad (zz_u σ 17 0 v) X) (pc + 3) lv (st)) : zz_Z p l e R s m args below meth c Q D A nL cells slots (zz_wc U ad (σ) X) (pc) lv (.int v :: .ref (ad 17) :: st) := zz_put (T := TX1) (v := .int v) (ty := .int) C 17 0 hdg rfl rfl z_in1 (by decide +kernel) tyX1_ok nmX1 (by decide) hw rfl (by decide +kernel) rfl rfl (Nat.le_of_ble_eq_true rfl) rfl k
theorem zf1_otherUses (C : zz_C p l R s m meth c D U A own cc nL ret hh d) (hdg : decode cc pc = .ok (.getfield index, 3)) (hw : zz_g (.fieldLink own index "ChangeUntangler$Code" "otherUses" "[I")) (k : zz_Z p l e R s m args below meth c Q D A nL cells slots (zz_wc U ad (σ) X) (pc + 3) lv (.ref (ad 18) :: st)) : zz_Z p l e R s m args below meth c Q D A nL cells slots (zz_wc U ad (σ) X) (pc) lv (.ref (ad 17) :: st) := zz_get (T := TX1) C 17 1 hdg rfl rfl z_in1 (by decide +kernel) (by decide) hw rfl k
theorem zl_18 (C : zz_C p l R s m meth c D U A own cc nL ret hh d) {i x : Int32} (hdg : decode cc pc = .ok (.iaload, 1)) (h : zz_ga (σ 18) 16 i = some x) (k : zz_Z p l e R s m args below meth c Q D A nL cells slots (zz_wc U ad (σ) X) (pc + 1) lv (.int x :: st)) : zz_Z p l e R s m args below meth c Q D A nL cells slots (zz_wc U ad (σ) X) (pc) lv (.int i :: .ref (ad 18) :: st) := zz_iald C 18 hdg rfl (zz_ga_in h).1 (by rw [(zz_ga_in h).2]; exact k)
theorem zs_18 (C : zz_C p l R s m meth c D U A own cc nL ret hh d) {i x : Int32} {σ1 : zz_St} (hdg : decode cc pc = .ok (.iastore, 1)) (h : zz_pa σ 18 16 i x = some σ1) (k : zz_Z p l e R s m args below meth c Q D A nL cells slots (zz_wc U ad (σ1) X) (pc + 1) lv (st)) : zz_Z p l e R s m args below meth c Q D A nL cells slots (zz_wc U ad (σ) X) (pc) lv (.int x :: .int i :: .ref (ad 18) :: st) := zz_iast C 18 hdg rfl (zz_pa_in h).1 (by rw [← (zz_pa_in h).2]; rfl) k
theorem zf2_weights (C : zz_C p l R s m meth c D U A own cc nL ret hh d) (hdg : decode cc pc = .ok (.getfield index, 3)) (hw : zz_g (.fieldLink own index "ChangeUntangler$Evidence" "weights" "[I")) (k : zz_Z p l e R s m args below meth c Q D A nL cells slots (zz_wc U ad (σ) X) (pc + 3) lv (.ref (ad 20) :: st)) : zz_Z p l e R s m args below meth c Q D A nL cells slots (zz_wc U ad (σ) X) (pc) lv (.ref (ad 19) :: st) := zz_get (T := TX2) C 19 0 hdg rfl rfl z_in2 (by decide +kernel) (by decide) hw rfl k
theorem zf2_span (C : zz_C p l R s m meth c D U A own cc nL ret hh d) (hdg : decode cc pc = .ok (.getfield index, 3)) (hw : zz_g (.fieldLink own index "ChangeUntangler$Evidence" "span" "I")) (k : zz_Z p l e R s m args below meth c Q D A nL cells slots (zz_wc U ad (σ) X) (pc + 3) lv (.int (σ 19 1) :: st)) : zz_Z p l e R s m args below meth c Q D A nL cells slots (zz_wc U ad (σ) X) (pc) lv (.ref (ad 19) :: st) := zz_get (T := TX2) C 19 1 hdg rfl rfl z_in2 (by decide +kernel) (by decide) hw rfl k
theorem zp2_span (C : zz_C p l R s m meth c D U A own cc nL ret hh d) {v : Int32} (hdg : decode cc pc = .ok (.putfield index, 3)) (hw : zz_g (.fieldLink own index "ChangeUntangler$Evidence" "span" "I")) (k : zz_Z p l e R s m args below meth c Q D A nL cells slots (zz_wc U ad (zz_u σ 19 1 v) X) (pc + 3) lv (st)) : zz_Z p l e R s m args below meth c Q D A nL cells slots (zz_wc U ad (σ) X) (pc) lv (.int v :: .ref (ad 19) :: st) := zz_put (T := TX2) (v := .int v) (ty := .int) C 19 1 hdg rfl rfl z_in2 (by decide +kernel) tyX2_ok nmX2 (by decide) hw rfl (by decide +kernel) rfl rfl (Nat.le_of_ble_eq_true rfl) rfl k
theorem zl_20 (C : zz_C p l R s m meth c D U A own cc nL ret hh d) {i x : Int32} (hdg : decode cc pc = .ok (.iaload, 1)) (h : zz_ga (σ 20) 4 i = some x) (k : zz_Z p l e R s m args below meth c Q D A nL cells slots (zz_wc U ad (σ) X) (pc + 1) lv (.int x :: st)) : zz_Z p l e R s m args below meth c Q D A nL cells slots (zz_wc U ad (σ) X) (pc) lv (.int i :: .ref (ad 20) :: st) := zz_iald C 20 hdg rfl (zz_ga_in h).1 (by rw [(zz_ga_in h).2]; exact k)
theorem zs_20 (C : zz_C p l R s m meth c D U A own cc nL ret hh d) {i x : Int32} {σ1 : zz_St} (hdg : decode cc pc = .ok (.iastore, 1)) (h : zz_pa σ 20 4 i x = some σ1) (k : zz_Z p l e R s m args below meth c Q D A nL cells slots (zz_wc U ad (σ1) X) (pc + 1) lv (st)) : zz_Z p l e R s m args below meth c Q D A nL cells slots (zz_wc U ad (σ) X) (pc) lv (.int x :: .int i :: .ref (ad 20) :: st) := zz_iast C 20 hdg rfl (zz_pa_in h).1 (by rw [← (zz_pa_in h).2]; rfl) k
theorem zf6_must (C : zz_C p l R s m meth c D U A own cc nL ret hh d) (hdg : decode cc pc = .ok (.getfield index, 3)) (hw : zz_g (.fieldLink own index "ChangeUntangler$Sayings" "must" "[I")) (k : zz_Z p l e R s m args below meth c Q D A nL cells slots (zz_wc U ad (σ) X) (pc + 3) lv (.ref (ad 22) :: st)) : zz_Z p l e R s m args below meth c Q D A nL cells slots (zz_wc U ad (σ) X) (pc) lv (.ref (ad 21) :: st) := zz_get (T := TX6) C 21 0 hdg rfl rfl z_in6 (by decide +kernel) (by decide) hw rfl k
theorem zf6_mustNot (C : zz_C p l R s m meth c D U A own cc nL ret hh d) (hdg : decode cc pc = .ok (.getfield index, 3)) (hw : zz_g (.fieldLink own index "ChangeUntangler$Sayings" "mustNot" "[I")) (k : zz_Z p l e R s m args below meth c Q D A nL cells slots (zz_wc U ad (σ) X) (pc + 3) lv (.ref (ad 23) :: st)) : zz_Z p l e R s m args below meth c Q D A nL cells slots (zz_wc U ad (σ) X) (pc) lv (.ref (ad 21) :: st) := zz_get (T := TX6) C 21 1 hdg rfl rfl z_in6 (by decide +kernel) (by decide) hw rfl k
theorem zl_22 (C : zz_C p l R s m meth c D U A own cc nL ret hh d) {i x : Int32} (hdg : decode cc pc = .ok (.iaload, 1)) (h : zz_ga (σ 22) 14 i = some x) (k : zz_Z p l e R s m args below meth c Q D A nL cells slots (zz_wc U ad (σ) X) (pc + 1) lv (.int x :: st)) : zz_Z p l e R s m args below meth c Q D A nL cells slots (zz_wc U ad (σ) X) (pc) lv (.int i :: .ref (ad 22) :: st) := zz_iald C 22 hdg rfl (zz_ga_in h).1 (by rw [(zz_ga_in h).2]; exact k)
theorem zs_22 (C : zz_C p l R s m meth c D U A own cc nL ret hh d) {i x : Int32} {σ1 : zz_St} (hdg : decode cc pc = .ok (.iastore, 1)) (h : zz_pa σ 22 14 i x = some σ1) (k : zz_Z p l e R s m args below meth c Q D A nL cells slots (zz_wc U ad (σ1) X) (pc + 1) lv (st)) : zz_Z p l e R s m args below meth c Q D A nL cells slots (zz_wc U ad (σ) X) (pc) lv (.int x :: .int i :: .ref (ad 22) :: st) := zz_iast C 22 hdg rfl (zz_pa_in h).1 (by rw [← (zz_pa_in h).2]; rfl) k
theorem zl_23 (C : zz_C p l R s m meth c D U A own cc nL ret hh d) {i x : Int32} (hdg : decode cc pc = .ok (.iaload, 1)) (h : zz_ga (σ 23) 14 i = some x) (k : zz_Z p l e R s m args below meth c Q D A nL cells slots (zz_wc U ad (σ) X) (pc + 1) lv (.int x :: st)) : zz_Z p l e R s m args below meth c Q D A nL cells slots (zz_wc U ad (σ) X) (pc) lv (.int i :: .ref (ad 23) :: st) := zz_iald C 23 hdg rfl (zz_ga_in h).1 (by rw [(zz_ga_in h).2]; exact k)
theorem zs_23 (C : zz_C p l R s m meth c D U A own cc nL ret hh d) {i x : Int32} {σ1 : zz_St} (hdg : decode cc pc = .ok (.iastore, 1)) (h : zz_pa σ 23 14 i x = some σ1) (k : zz_Z p l e R s m args below meth c Q D A nL cells slots (zz_wc U ad (σ1) X) (pc + 1) lv (st)) : zz_Z p l e R s m args below meth c Q D A nL cells slots (zz_wc U ad (σ) X) (pc) lv (.int x :: .int i :: .ref (ad 23) :: st) := zz_iast C 23 hdg rfl (zz_pa_in h).1 (by rw [← (zz_pa_in h).2]; rfl) k
theorem zf3_threshold (C : zz_C p l R s m meth c D U A own cc nL ret hh d) (hdg : decode cc pc = .ok (.getfield index, 3)) (hw : zz_g (.fieldLink own index "ChangeUntangler$Groups" "threshold" "I")) (k : zz_Z p l e R s m args below meth c Q D A nL cells slots (zz_wc U ad (σ) X) (pc + 3) lv (.int (σ 24 0) :: st)) : zz_Z p l e R s m args below meth c Q D A nL cells slots (zz_wc U ad (σ) X) (pc) lv (.ref (ad 24) :: st) := zz_get (T := TX3) C 24 0 hdg rfl rfl z_in3 (by decide +kernel) (by decide) hw rfl k
theorem zp3_threshold (C : zz_C p l R s m meth c D U A own cc nL ret hh d) {v : Int32} (hdg : decode cc pc = .ok (.putfield index, 3)) (hw : zz_g (.fieldLink own index "ChangeUntangler$Groups" "threshold" "I")) (k : zz_Z p l e R s m args below meth c Q D A nL cells slots (zz_wc U ad (zz_u σ 24 0 v) X) (pc + 3) lv (st)) : zz_Z p l e R s m args below meth c Q D A nL cells slots (zz_wc U ad (σ) X) (pc) lv (.int v :: .ref (ad 24) :: st) := zz_put (T := TX3) (v := .int v) (ty := .int) C 24 0 hdg rfl rfl z_in3 (by decide +kernel) tyX3_ok nmX3 (by decide) hw rfl (by decide +kernel) rfl rfl (Nat.le_of_ble_eq_true rfl) rfl k
theorem zf3_manner (C : zz_C p l R s m meth c D U A own cc nL ret hh d) (hdg : decode cc pc = .ok (.getfield index, 3)) (hw : zz_g (.fieldLink own index "ChangeUntangler$Groups" "manner" "I")) (k : zz_Z p l e R s m args below meth c Q D A nL cells slots (zz_wc U ad (σ) X) (pc + 3) lv (.int (σ 24 1) :: st)) : zz_Z p l e R s m args below meth c Q D A nL cells slots (zz_wc U ad (σ) X) (pc) lv (.ref (ad 24) :: st) := zz_get (T := TX3) C 24 1 hdg rfl rfl z_in3 (by decide +kernel) (by decide) hw rfl k
theorem zp3_manner (C : zz_C p l R s m meth c D U A own cc nL ret hh d) {v : Int32} (hdg : decode cc pc = .ok (.putfield index, 3)) (hw : zz_g (.fieldLink own index "ChangeUntangler$Groups" "manner" "I")) (k : zz_Z p l e R s m args below meth c Q D A nL cells slots (zz_wc U ad (zz_u σ 24 1 v) X) (pc + 3) lv (st)) : zz_Z p l e R s m args below meth c Q D A nL cells slots (zz_wc U ad (σ) X) (pc) lv (.int v :: .ref (ad 24) :: st) := zz_put (T := TX3) (v := .int v) (ty := .int) C 24 1 hdg rfl rfl z_in3 (by decide +kernel) tyX3_ok nmX3 (by decide) hw rfl (by decide +kernel) rfl rfl (Nat.le_of_ble_eq_true rfl) rfl k
theorem zf3_count (C : zz_C p l R s m meth c D U A own cc nL ret hh d) (hdg : decode cc pc = .ok (.getfield index, 3)) (hw : zz_g (.fieldLink own index "ChangeUntangler$Groups" "count" "I")) (k : zz_Z p l e R s m args below meth c Q D A nL cells slots (zz_wc U ad (σ) X) (pc + 3) lv (.int (σ 24 2) :: st)) : zz_Z p l e R s m args below meth c Q D A nL cells slots (zz_wc U ad (σ) X) (pc) lv (.ref (ad 24) :: st) := zz_get (T := TX3) C 24 2 hdg rfl rfl z_in3 (by decide +kernel) (by decide) hw rfl k
theorem zp3_count (C : zz_C p l R s m meth c D U A own cc nL ret hh d) {v : Int32} (hdg : decode cc pc = .ok (.putfield index, 3)) (hw : zz_g (.fieldLink own index "ChangeUntangler$Groups" "count" "I")) (k : zz_Z p l e R s m args below meth c Q D A nL cells slots (zz_wc U ad (zz_u σ 24 2 v) X) (pc + 3) lv (st)) : zz_Z p l e R s m args below meth c Q D A nL cells slots (zz_wc U ad (σ) X) (pc) lv (.int v :: .ref (ad 24) :: st) := zz_put (T := TX3) (v := .int v) (ty := .int) C 24 2 hdg rfl rfl z_in3 (by decide +kernel) tyX3_ok nmX3 (by decide) hw rfl (by decide +kernel) rfl rfl (Nat.le_of_ble_eq_true rfl) rfl k
theorem zf3_linkageOfLastJoin (C : zz_C p l R s m meth c D U A own cc nL ret hh d) (hdg : decode cc pc = .ok (.getfield index, 3)) (hw : zz_g (.fieldLink own index "ChangeUntangler$Groups" "linkageOfLastJoin" "I")) (k : zz_Z p l e R s m args below meth c Q D A nL cells slots (zz_wc U ad (σ) X) (pc + 3) lv (.int (σ 24 3) :: st)) : zz_Z p l e R s m args below meth c Q D A nL cells slots (zz_wc U ad (σ) X) (pc) lv (.ref (ad 24) :: st) := zz_get (T := TX3) C 24 3 hdg rfl rfl z_in3 (by decide +kernel) (by decide) hw rfl k
theorem zp3_linkageOfLastJoin (C : zz_C p l R s m meth c D U A own cc nL ret hh d) {v : Int32} (hdg : decode cc pc = .ok (.putfield index, 3)) (hw : zz_g (.fieldLink own index "ChangeUntangler$Groups" "linkageOfLastJoin" "I")) (k : zz_Z p l e R s m args below meth c Q D A nL cells slots (zz_wc U ad (zz_u σ 24 3 v) X) (pc + 3) lv (st)) : zz_Z p l e R s m args below meth c Q D A nL cells slots (zz_wc U ad (σ) X) (pc) lv (.int v :: .ref (ad 24) :: st) := zz_put (T := TX3) (v := .int v) (ty := .int) C 24 3 hdg rfl rfl z_in3 (by decide +kernel) tyX3_ok nmX3 (by decide) hw rfl (by decide +kernel) rfl rfl (Nat.le_of_ble_eq_true rfl) rfl k
theorem zf3_sets (C : zz_C p l R s m meth c D U A own cc nL ret hh d) (hdg : decode cc pc = .ok (.getfield index, 3)) (hw : zz_g (.fieldLink own index "ChangeUntangler$Groups" "sets" "[I")) (k : zz_Z p l e R s m args below meth c Q D A nL cells slots (zz_wc U ad (σ) X) (pc + 3) lv (.ref (ad 25) :: st)) : zz_Z p l e R s m args below meth c Q D A nL cells slots (zz_wc U ad (σ) X) (pc) lv (.ref (ad 24) :: st) := zz_get (T := TX3) C 24 4 hdg rfl rfl z_in3 (by decide +kernel) (by decide) hw rfl k
theorem zf3_affinities (C : zz_C p l R s m meth c D U A own cc nL ret hh d) (hdg : decode cc pc = .ok (.getfield index, 3)) (hw : zz_g (.fieldLink own index "ChangeUntangler$Groups" "affinities" "[[I")) (k : zz_Z p l e R s m args below meth c Q D A nL cells slots (zz_wc U ad (σ) X) (pc + 3) lv (.ref (ad 26) :: st)) : zz_Z p l e R s m args below meth c Q D A nL cells slots (zz_wc U ad (σ) X) (pc) lv (.ref (ad 24) :: st) := zz_get (T := TX3) C 24 5 hdg rfl rfl z_in3 (by decide +kernel) (by decide) hw rfl k
theorem zl_25 (C : zz_C p l R s m meth c D U A own cc nL ret hh d) {i x : Int32} (hdg : decode cc pc = .ok (.iaload, 1)) (h : zz_ga (σ 25) 14 i = some x) (k : zz_Z p l e R s m args below meth c Q D A nL cells slots (zz_wc U ad (σ) X) (pc + 1) lv (.int x :: st)) : zz_Z p l e R s m args below meth c Q D A nL cells slots (zz_wc U ad (σ) X) (pc) lv (.int i :: .ref (ad 25) :: st) := zz_iald C 25 hdg rfl (zz_ga_in h).1 (by rw [(zz_ga_in h).2]; exact k)
theorem zs_25 (C : zz_C p l R s m meth c D U A own cc nL ret hh d) {i x : Int32} {σ1 : zz_St} (hdg : decode cc pc = .ok (.iastore, 1)) (h : zz_pa σ 25 14 i x = some σ1) (k : zz_Z p l e R s m args below meth c Q D A nL cells slots (zz_wc U ad (σ1) X) (pc + 1) lv (st)) : zz_Z p l e R s m args below meth c Q D A nL cells slots (zz_wc U ad (σ) X) (pc) lv (.int x :: .int i :: .ref (ad 25) :: st) := zz_iast C 25 hdg rfl (zz_pa_in h).1 (by rw [← (zz_pa_in h).2]; rfl) k
theorem zq_26 : ∀ (j : Nat), j < 14 → (zz_wc U ad (σ) X)[27 + j]? = some (ad (27 + j), .inl (U.1, 14, .inl (σ (27 + j))))
  | 0, _ => rfl
  | 1, _ => rfl
  | 2, _ => rfl
  | 3, _ => rfl
  | 4, _ => rfl
  | 5, _ => rfl
  | 6, _ => rfl
  | 7, _ => rfl
  | 8, _ => rfl
  | 9, _ => rfl
  | 10, _ => rfl
  | 11, _ => rfl
  | 12, _ => rfl
  | 13, _ => rfl
  | j + 14, h => absurd h (by omega)
theorem zv_26 {i : Nat} {v : Int32} : ∀ (j : Nat), j < 14 → (zz_wc U ad (σ) X).set (27 + j) (ad (27 + j), .inl (U.1, 14, .inl (upd (σ (27 + j)) i v))) = zz_wc U ad (zz_u σ (27 + j) i v) X
  | 0, _ => rfl
  | 1, _ => rfl
  | 2, _ => rfl
  | 3, _ => rfl
  | 4, _ => rfl
  | 5, _ => rfl
  | 6, _ => rfl
  | 7, _ => rfl
  | 8, _ => rfl
  | 9, _ => rfl
  | 10, _ => rfl
  | 11, _ => rfl
  | 12, _ => rfl
  | 13, _ => rfl
  | j + 14, h => absurd h (by omega)
theorem zr_26 (C : zz_C p l R s m meth c D U A own cc nL ret hh d) {i : Int32} {j : Nat} (hdg : decode cc pc = .ok (.aaload, 1)) (h : zz_ix 14 i = some j) (k : zz_Z p l e R s m args below meth c Q D A nL cells slots (zz_wc U ad (σ) X) (pc + 1) lv (.ref (ad (27 + j)) :: st)) : zz_Z p l e R s m args below meth c Q D A nL cells slots (zz_wc U ad (σ) X) (pc) lv (.int i :: .ref (ad 26) :: st) := zz_aald C 26 hdg rfl (zz_ix_in h).1 (by rw [(zz_ix_in h).2.1]; show va_rf (if j < 14 then some (ad (27 + j)) else none) = _; rw [if_pos (zz_ix_in h).2.2]; rfl) k
theorem zl_26 (C : zz_C p l R s m meth c D U A own cc nL ret hh d) {i i0 x : Int32} {j : Nat} (hdg : decode cc pc = .ok (.iaload, 1)) (h0 : zz_ix 14 i0 = some j) (h : zz_ga (σ (27 + j)) 14 i = some x) (k : zz_Z p l e R s m args below meth c Q D A nL cells slots (zz_wc U ad (σ) X) (pc + 1) lv (.int x :: st)) : zz_Z p l e R s m args below meth c Q D A nL cells slots (zz_wc U ad (σ) X) (pc) lv (.int i :: .ref (ad (27 + j)) :: st) := zz_iald C (27 + j) hdg (zq_26 j (zz_ix_in h0).2.2) (zz_ga_in h).1 (by rw [(zz_ga_in h).2]; exact k)
theorem zs_26 (C : zz_C p l R s m meth c D U A own cc nL ret hh d) {i i0 x : Int32} {j : Nat} {σ1 : zz_St} (hdg : decode cc pc = .ok (.iastore, 1)) (h0 : zz_ix 14 i0 = some j) (h : zz_pa σ (27 + j) 14 i x = some σ1) (k : zz_Z p l e R s m args below meth c Q D A nL cells slots (zz_wc U ad (σ1) X) (pc + 1) lv (st)) : zz_Z p l e R s m args below meth c Q D A nL cells slots (zz_wc U ad (σ) X) (pc) lv (.int x :: .int i :: .ref (ad (27 + j)) :: st) := zz_iast C (27 + j) hdg (zq_26 j (zz_ix_in h0).2.2) (zz_pa_in h).1 (by rw [← (zz_pa_in h).2]; exact zv_26 j (zz_ix_in h0).2.2) k
theorem zf4_count (C : zz_C p l R s m meth c D U A own cc nL ret hh d) (hdg : decode cc pc = .ok (.getfield index, 3)) (hw : zz_g (.fieldLink own index "ChangeUntangler$Parcels" "count" "I")) (k : zz_Z p l e R s m args below meth c Q D A nL cells slots (zz_wc U ad (σ) X) (pc + 3) lv (.int (σ 41 0) :: st)) : zz_Z p l e R s m args below meth c Q D A nL cells slots (zz_wc U ad (σ) X) (pc) lv (.ref (ad 41) :: st) := zz_get (T := TX4) C 41 0 hdg rfl rfl z_in4 (by decide +kernel) (by decide) hw rfl k
theorem zp4_count (C : zz_C p l R s m meth c D U A own cc nL ret hh d) {v : Int32} (hdg : decode cc pc = .ok (.putfield index, 3)) (hw : zz_g (.fieldLink own index "ChangeUntangler$Parcels" "count" "I")) (k : zz_Z p l e R s m args below meth c Q D A nL cells slots (zz_wc U ad (zz_u σ 41 0 v) X) (pc + 3) lv (st)) : zz_Z p l e R s m args below meth c Q D A nL cells slots (zz_wc U ad (σ) X) (pc) lv (.int v :: .ref (ad 41) :: st) := zz_put (T := TX4) (v := .int v) (ty := .int) C 41 0 hdg rfl rfl z_in4 (by decide +kernel) tyX4_ok nmX4 (by decide) hw rfl (by decide +kernel) rfl rfl (Nat.le_of_ble_eq_true rfl) rfl k
theorem zf4_knotCount (C : zz_C p l R s m meth c D U A own cc nL ret hh d) (hdg : decode cc pc = .ok (.getfield index, 3)) (hw : zz_g (.fieldLink own index "ChangeUntangler$Parcels" "knotCount" "I")) (k : zz_Z p l e R s m args below meth c Q D A nL cells slots (zz_wc U ad (σ) X) (pc + 3) lv (.int (σ 41 1) :: st)) : zz_Z p l e R s m args below meth c Q D A nL cells slots (zz_wc U ad (σ) X) (pc) lv (.ref (ad 41) :: st) := zz_get (T := TX4) C 41 1 hdg rfl rfl z_in4 (by decide +kernel) (by decide) hw rfl k
theorem zp4_knotCount (C : zz_C p l R s m meth c D U A own cc nL ret hh d) {v : Int32} (hdg : decode cc pc = .ok (.putfield index, 3)) (hw : zz_g (.fieldLink own index "ChangeUntangler$Parcels" "knotCount" "I")) (k : zz_Z p l e R s m args below meth c Q D A nL cells slots (zz_wc U ad (zz_u σ 41 1 v) X) (pc + 3) lv (st)) : zz_Z p l e R s m args below meth c Q D A nL cells slots (zz_wc U ad (σ) X) (pc) lv (.int v :: .ref (ad 41) :: st) := zz_put (T := TX4) (v := .int v) (ty := .int) C 41 1 hdg rfl rfl z_in4 (by decide +kernel) tyX4_ok nmX4 (by decide) hw rfl (by decide +kernel) rfl rfl (Nat.le_of_ble_eq_true rfl) rfl k
theorem zf4_sets (C : zz_C p l R s m meth c D U A own cc nL ret hh d) (hdg : decode cc pc = .ok (.getfield index, 3)) (hw : zz_g (.fieldLink own index "ChangeUntangler$Parcels" "sets" "[I")) (k : zz_Z p l e R s m args below meth c Q D A nL cells slots (zz_wc U ad (σ) X) (pc + 3) lv (.ref (ad 42) :: st)) : zz_Z p l e R s m args below meth c Q D A nL cells slots (zz_wc U ad (σ) X) (pc) lv (.ref (ad 41) :: st) := zz_get (T := TX4) C 41 2 hdg rfl rfl z_in4 (by decide +kernel) (by decide) hw rfl k
theorem zf4_needed (C : zz_C p l R s m meth c D U A own cc nL ret hh d) (hdg : decode cc pc = .ok (.getfield index, 3)) (hw : zz_g (.fieldLink own index "ChangeUntangler$Parcels" "needed" "[I")) (k : zz_Z p l e R s m args below meth c Q D A nL cells slots (zz_wc U ad (σ) X) (pc + 3) lv (.ref (ad 43) :: st)) : zz_Z p l e R s m args below meth c Q D A nL cells slots (zz_wc U ad (σ) X) (pc) lv (.ref (ad 41) :: st) := zz_get (T := TX4) C 41 3 hdg rfl rfl z_in4 (by decide +kernel) (by decide) hw rfl k
theorem zl_42 (C : zz_C p l R s m meth c D U A own cc nL ret hh d) {i x : Int32} (hdg : decode cc pc = .ok (.iaload, 1)) (h : zz_ga (σ 42) 14 i = some x) (k : zz_Z p l e R s m args below meth c Q D A nL cells slots (zz_wc U ad (σ) X) (pc + 1) lv (.int x :: st)) : zz_Z p l e R s m args below meth c Q D A nL cells slots (zz_wc U ad (σ) X) (pc) lv (.int i :: .ref (ad 42) :: st) := zz_iald C 42 hdg rfl (zz_ga_in h).1 (by rw [(zz_ga_in h).2]; exact k)
theorem zs_42 (C : zz_C p l R s m meth c D U A own cc nL ret hh d) {i x : Int32} {σ1 : zz_St} (hdg : decode cc pc = .ok (.iastore, 1)) (h : zz_pa σ 42 14 i x = some σ1) (k : zz_Z p l e R s m args below meth c Q D A nL cells slots (zz_wc U ad (σ1) X) (pc + 1) lv (st)) : zz_Z p l e R s m args below meth c Q D A nL cells slots (zz_wc U ad (σ) X) (pc) lv (.int x :: .int i :: .ref (ad 42) :: st) := zz_iast C 42 hdg rfl (zz_pa_in h).1 (by rw [← (zz_pa_in h).2]; rfl) k
theorem zl_43 (C : zz_C p l R s m meth c D U A own cc nL ret hh d) {i x : Int32} (hdg : decode cc pc = .ok (.iaload, 1)) (h : zz_ga (σ 43) 14 i = some x) (k : zz_Z p l e R s m args below meth c Q D A nL cells slots (zz_wc U ad (σ) X) (pc + 1) lv (.int x :: st)) : zz_Z p l e R s m args below meth c Q D A nL cells slots (zz_wc U ad (σ) X) (pc) lv (.int i :: .ref (ad 43) :: st) := zz_iald C 43 hdg rfl (zz_ga_in h).1 (by rw [(zz_ga_in h).2]; exact k)
theorem zs_43 (C : zz_C p l R s m meth c D U A own cc nL ret hh d) {i x : Int32} {σ1 : zz_St} (hdg : decode cc pc = .ok (.iastore, 1)) (h : zz_pa σ 43 14 i x = some σ1) (k : zz_Z p l e R s m args below meth c Q D A nL cells slots (zz_wc U ad (σ1) X) (pc + 1) lv (st)) : zz_Z p l e R s m args below meth c Q D A nL cells slots (zz_wc U ad (σ) X) (pc) lv (.int x :: .int i :: .ref (ad 43) :: st) := zz_iast C 43 hdg rfl (zz_pa_in h).1 (by rw [← (zz_pa_in h).2]; rfl) k
theorem zf0_least (C : zz_C p l R s m meth c D U A own cc nL ret hh d) (hdg : decode cc pc = .ok (.getfield index, 3)) (hw : zz_g (.fieldLink own index "ChangeUntangler$BestOrder" "least" "I")) (k : zz_Z p l e R s m args below meth c Q D A nL cells slots (zz_wc U ad (σ) X) (pc + 3) lv (.int (σ 44 0) :: st)) : zz_Z p l e R s m args below meth c Q D A nL cells slots (zz_wc U ad (σ) X) (pc) lv (.ref (ad 44) :: st) := zz_get (T := TX0) C 44 0 hdg rfl rfl z_in0 (by decide +kernel) (by decide) hw rfl k
theorem zp0_least (C : zz_C p l R s m meth c D U A own cc nL ret hh d) {v : Int32} (hdg : decode cc pc = .ok (.putfield index, 3)) (hw : zz_g (.fieldLink own index "ChangeUntangler$BestOrder" "least" "I")) (k : zz_Z p l e R s m args below meth c Q D A nL cells slots (zz_wc U ad (zz_u σ 44 0 v) X) (pc + 3) lv (st)) : zz_Z p l e R s m args below meth c Q D A nL cells slots (zz_wc U ad (σ) X) (pc) lv (.int v :: .ref (ad 44) :: st) := zz_put (T := TX0) (v := .int v) (ty := .int) C 44 0 hdg rfl rfl z_in0 (by decide +kernel) tyX0_ok nmX0 (by decide) hw rfl (by decide +kernel) rfl rfl (Nat.le_of_ble_eq_true rfl) rfl k
theorem zf0_length (C : zz_C p l R s m meth c D U A own cc nL ret hh d) (hdg : decode cc pc = .ok (.getfield index, 3)) (hw : zz_g (.fieldLink own index "ChangeUntangler$BestOrder" "length" "I")) (k : zz_Z p l e R s m args below meth c Q D A nL cells slots (zz_wc U ad (σ) X) (pc + 3) lv (.int (σ 44 1) :: st)) : zz_Z p l e R s m args below meth c Q D A nL cells slots (zz_wc U ad (σ) X) (pc) lv (.ref (ad 44) :: st) := zz_get (T := TX0) C 44 1 hdg rfl rfl z_in0 (by decide +kernel) (by decide) hw rfl k
theorem zp0_length (C : zz_C p l R s m meth c D U A own cc nL ret hh d) {v : Int32} (hdg : decode cc pc = .ok (.putfield index, 3)) (hw : zz_g (.fieldLink own index "ChangeUntangler$BestOrder" "length" "I")) (k : zz_Z p l e R s m args below meth c Q D A nL cells slots (zz_wc U ad (zz_u σ 44 1 v) X) (pc + 3) lv (st)) : zz_Z p l e R s m args below meth c Q D A nL cells slots (zz_wc U ad (σ) X) (pc) lv (.int v :: .ref (ad 44) :: st) := zz_put (T := TX0) (v := .int v) (ty := .int) C 44 1 hdg rfl rfl z_in0 (by decide +kernel) tyX0_ok nmX0 (by decide) hw rfl (by decide +kernel) rfl rfl (Nat.le_of_ble_eq_true rfl) rfl k
theorem zf0_order (C : zz_C p l R s m meth c D U A own cc nL ret hh d) (hdg : decode cc pc = .ok (.getfield index, 3)) (hw : zz_g (.fieldLink own index "ChangeUntangler$BestOrder" "order" "[I")) (k : zz_Z p l e R s m args below meth c Q D A nL cells slots (zz_wc U ad (σ) X) (pc + 3) lv (.ref (ad 45) :: st)) : zz_Z p l e R s m args below meth c Q D A nL cells slots (zz_wc U ad (σ) X) (pc) lv (.ref (ad 44) :: st) := zz_get (T := TX0) C 44 2 hdg rfl rfl z_in0 (by decide +kernel) (by decide) hw rfl k
theorem zf0_fromThen (C : zz_C p l R s m meth c D U A own cc nL ret hh d) (hdg : decode cc pc = .ok (.getfield index, 3)) (hw : zz_g (.fieldLink own index "ChangeUntangler$BestOrder" "fromThen" "[I")) (k : zz_Z p l e R s m args below meth c Q D A nL cells slots (zz_wc U ad (σ) X) (pc + 3) lv (.ref (ad 46) :: st)) : zz_Z p l e R s m args below meth c Q D A nL cells slots (zz_wc U ad (σ) X) (pc) lv (.ref (ad 44) :: st) := zz_get (T := TX0) C 44 3 hdg rfl rfl z_in0 (by decide +kernel) (by decide) hw rfl k
theorem zl_45 (C : zz_C p l R s m meth c D U A own cc nL ret hh d) {i x : Int32} (hdg : decode cc pc = .ok (.iaload, 1)) (h : zz_ga (σ 45) 9 i = some x) (k : zz_Z p l e R s m args below meth c Q D A nL cells slots (zz_wc U ad (σ) X) (pc + 1) lv (.int x :: st)) : zz_Z p l e R s m args below meth c Q D A nL cells slots (zz_wc U ad (σ) X) (pc) lv (.int i :: .ref (ad 45) :: st) := zz_iald C 45 hdg rfl (zz_ga_in h).1 (by rw [(zz_ga_in h).2]; exact k)
theorem zs_45 (C : zz_C p l R s m meth c D U A own cc nL ret hh d) {i x : Int32} {σ1 : zz_St} (hdg : decode cc pc = .ok (.iastore, 1)) (h : zz_pa σ 45 9 i x = some σ1) (k : zz_Z p l e R s m args below meth c Q D A nL cells slots (zz_wc U ad (σ1) X) (pc + 1) lv (st)) : zz_Z p l e R s m args below meth c Q D A nL cells slots (zz_wc U ad (σ) X) (pc) lv (.int x :: .int i :: .ref (ad 45) :: st) := zz_iast C 45 hdg rfl (zz_pa_in h).1 (by rw [← (zz_pa_in h).2]; rfl) k
theorem zl_46 (C : zz_C p l R s m meth c D U A own cc nL ret hh d) {i x : Int32} (hdg : decode cc pc = .ok (.iaload, 1)) (h : zz_ga (σ 46) 512 i = some x) (k : zz_Z p l e R s m args below meth c Q D A nL cells slots (zz_wc U ad (σ) X) (pc + 1) lv (.int x :: st)) : zz_Z p l e R s m args below meth c Q D A nL cells slots (zz_wc U ad (σ) X) (pc) lv (.int i :: .ref (ad 46) :: st) := zz_iald C 46 hdg rfl (zz_ga_in h).1 (by rw [(zz_ga_in h).2]; exact k)
theorem zs_46 (C : zz_C p l R s m meth c D U A own cc nL ret hh d) {i x : Int32} {σ1 : zz_St} (hdg : decode cc pc = .ok (.iastore, 1)) (h : zz_pa σ 46 512 i x = some σ1) (k : zz_Z p l e R s m args below meth c Q D A nL cells slots (zz_wc U ad (σ1) X) (pc + 1) lv (st)) : zz_Z p l e R s m args below meth c Q D A nL cells slots (zz_wc U ad (σ) X) (pc) lv (.int x :: .int i :: .ref (ad 46) :: st) := zz_iast C 46 hdg rfl (zz_pa_in h).1 (by rw [← (zz_pa_in h).2]; rfl) k
theorem zf8_thrown (C : zz_C p l R s m meth c D U A own cc nL ret hh d) (hdg : decode cc pc = .ok (.getfield index, 3)) (hw : zz_g (.fieldLink own index "ChangeUntanglerModel" "thrown" "I")) (k : zz_Z p l e R s m args below meth c Q D A nL cells slots (zz_wm U ad ρ (σ) X) (pc + 3) lv (.int (σ 47 0) :: st)) : zz_Z p l e R s m args below meth c Q D A nL cells slots (zz_wm U ad ρ (σ) X) (pc) lv (.ref (ad 47) :: st) := zz_get (T := TX8) C 47 0 hdg rfl rfl z_in8 (by decide +kernel) (by decide) hw rfl k
theorem zp8_thrown (C : zz_C p l R s m meth c D U A own cc nL ret hh d) {v : Int32} (hdg : decode cc pc = .ok (.putfield index, 3)) (hw : zz_g (.fieldLink own index "ChangeUntanglerModel" "thrown" "I")) (k : zz_Z p l e R s m args below meth c Q D A nL cells slots (zz_wm U ad ρ (zz_u σ 47 0 v) X) (pc + 3) lv (st)) : zz_Z p l e R s m args below meth c Q D A nL cells slots (zz_wm U ad ρ (σ) X) (pc) lv (.int v :: .ref (ad 47) :: st) := zz_put (T := TX8) (v := .int v) (ty := .int) C 47 0 hdg rfl rfl z_in8 (by decide +kernel) tyX8_ok nmX8 (by decide) hw rfl (by decide +kernel) rfl rfl (Nat.le_of_ble_eq_true rfl) rfl k
theorem zf8_pieces (C : zz_C p l R s m meth c D U A own cc nL ret hh d) (hdg : decode cc pc = .ok (.getfield index, 3)) (hw : zz_g (.fieldLink own index "ChangeUntanglerModel" "pieces" "I")) (k : zz_Z p l e R s m args below meth c Q D A nL cells slots (zz_wm U ad ρ (σ) X) (pc + 3) lv (.int (σ 47 1) :: st)) : zz_Z p l e R s m args below meth c Q D A nL cells slots (zz_wm U ad ρ (σ) X) (pc) lv (.ref (ad 47) :: st) := zz_get (T := TX8) C 47 1 hdg rfl rfl z_in8 (by decide +kernel) (by decide) hw rfl k
theorem zp8_pieces (C : zz_C p l R s m meth c D U A own cc nL ret hh d) {v : Int32} (hdg : decode cc pc = .ok (.putfield index, 3)) (hw : zz_g (.fieldLink own index "ChangeUntanglerModel" "pieces" "I")) (k : zz_Z p l e R s m args below meth c Q D A nL cells slots (zz_wm U ad ρ (zz_u σ 47 1 v) X) (pc + 3) lv (st)) : zz_Z p l e R s m args below meth c Q D A nL cells slots (zz_wm U ad ρ (σ) X) (pc) lv (.int v :: .ref (ad 47) :: st) := zz_put (T := TX8) (v := .int v) (ty := .int) C 47 1 hdg rfl rfl z_in8 (by decide +kernel) tyX8_ok nmX8 (by decide) hw rfl (by decide +kernel) rfl rfl (Nat.le_of_ble_eq_true rfl) rfl k
theorem zf8_places (C : zz_C p l R s m meth c D U A own cc nL ret hh d) (hdg : decode cc pc = .ok (.getfield index, 3)) (hw : zz_g (.fieldLink own index "ChangeUntanglerModel" "places" "[I")) (k : zz_Z p l e R s m args below meth c Q D A nL cells slots (zz_wm U ad ρ (σ) X) (pc + 3) lv (.ref (ad 48) :: st)) : zz_Z p l e R s m args below meth c Q D A nL cells slots (zz_wm U ad ρ (σ) X) (pc) lv (.ref (ad 47) :: st) := zz_get (T := TX8) C 47 2 hdg rfl rfl z_in8 (by decide +kernel) (by decide) hw rfl k
theorem zf8_names (C : zz_C p l R s m meth c D U A own cc nL ret hh d) (hdg : decode cc pc = .ok (.getfield index, 3)) (hw : zz_g (.fieldLink own index "ChangeUntanglerModel" "names" "[I")) (k : zz_Z p l e R s m args below meth c Q D A nL cells slots (zz_wm U ad ρ (σ) X) (pc + 3) lv (.ref (ad 49) :: st)) : zz_Z p l e R s m args below meth c Q D A nL cells slots (zz_wm U ad ρ (σ) X) (pc) lv (.ref (ad 47) :: st) := zz_get (T := TX8) C 47 3 hdg rfl rfl z_in8 (by decide +kernel) (by decide) hw rfl k
theorem zf8_purposes (C : zz_C p l R s m meth c D U A own cc nL ret hh d) (hdg : decode cc pc = .ok (.getfield index, 3)) (hw : zz_g (.fieldLink own index "ChangeUntanglerModel" "purposes" "[I")) (k : zz_Z p l e R s m args below meth c Q D A nL cells slots (zz_wm U ad ρ (σ) X) (pc + 3) lv (.ref (ad 50) :: st)) : zz_Z p l e R s m args below meth c Q D A nL cells slots (zz_wm U ad ρ (σ) X) (pc) lv (.ref (ad 47) :: st) := zz_get (T := TX8) C 47 4 hdg rfl rfl z_in8 (by decide +kernel) (by decide) hw rfl k
theorem zf8_said (C : zz_C p l R s m meth c D U A own cc nL ret hh d) (hdg : decode cc pc = .ok (.getfield index, 3)) (hw : zz_g (.fieldLink own index "ChangeUntanglerModel" "said" "[I")) (k : zz_Z p l e R s m args below meth c Q D A nL cells slots (zz_wm U ad ρ (σ) X) (pc + 3) lv (.ref (ad 51) :: st)) : zz_Z p l e R s m args below meth c Q D A nL cells slots (zz_wm U ad ρ (σ) X) (pc) lv (.ref (ad 47) :: st) := zz_get (T := TX8) C 47 5 hdg rfl rfl z_in8 (by decide +kernel) (by decide) hw rfl k
theorem zf8_areDefined (C : zz_C p l R s m meth c D U A own cc nL ret hh d) (hdg : decode cc pc = .ok (.getfield index, 3)) (hw : zz_g (.fieldLink own index "ChangeUntanglerModel" "areDefined" "[Z")) (k : zz_Z p l e R s m args below meth c Q D A nL cells slots (zz_wm U ad ρ (σ) X) (pc + 3) lv (.ref (ad 52) :: st)) : zz_Z p l e R s m args below meth c Q D A nL cells slots (zz_wm U ad ρ (σ) X) (pc) lv (.ref (ad 47) :: st) := zz_get (T := TX8) C 47 6 hdg rfl rfl z_in8 (by decide +kernel) (by decide) hw rfl k
theorem zf8_otherUses (C : zz_C p l R s m meth c D U A own cc nL ret hh d) (hdg : decode cc pc = .ok (.getfield index, 3)) (hw : zz_g (.fieldLink own index "ChangeUntanglerModel" "otherUses" "[I")) (k : zz_Z p l e R s m args below meth c Q D A nL cells slots (zz_wm U ad ρ (σ) X) (pc + 3) lv (.ref (ad 53) :: st)) : zz_Z p l e R s m args below meth c Q D A nL cells slots (zz_wm U ad ρ (σ) X) (pc) lv (.ref (ad 47) :: st) := zz_get (T := TX8) C 47 7 hdg rfl rfl z_in8 (by decide +kernel) (by decide) hw rfl k
theorem zf8_weights (C : zz_C p l R s m meth c D U A own cc nL ret hh d) (hdg : decode cc pc = .ok (.getfield index, 3)) (hw : zz_g (.fieldLink own index "ChangeUntanglerModel" "weights" "[I")) (k : zz_Z p l e R s m args below meth c Q D A nL cells slots (zz_wm U ad ρ (σ) X) (pc + 3) lv (.ref (ad 54) :: st)) : zz_Z p l e R s m args below meth c Q D A nL cells slots (zz_wm U ad ρ (σ) X) (pc) lv (.ref (ad 47) :: st) := zz_get (T := TX8) C 47 8 hdg rfl rfl z_in8 (by decide +kernel) (by decide) hw rfl k
theorem zf8_span (C : zz_C p l R s m meth c D U A own cc nL ret hh d) (hdg : decode cc pc = .ok (.getfield index, 3)) (hw : zz_g (.fieldLink own index "ChangeUntanglerModel" "span" "I")) (k : zz_Z p l e R s m args below meth c Q D A nL cells slots (zz_wm U ad ρ (σ) X) (pc + 3) lv (.int (σ 47 9) :: st)) : zz_Z p l e R s m args below meth c Q D A nL cells slots (zz_wm U ad ρ (σ) X) (pc) lv (.ref (ad 47) :: st) := zz_get (T := TX8) C 47 9 hdg rfl rfl z_in8 (by decide +kernel) (by decide) hw rfl k
theorem zp8_span (C : zz_C p l R s m meth c D U A own cc nL ret hh d) {v : Int32} (hdg : decode cc pc = .ok (.putfield index, 3)) (hw : zz_g (.fieldLink own index "ChangeUntanglerModel" "span" "I")) (k : zz_Z p l e R s m args below meth c Q D A nL cells slots (zz_wm U ad ρ (zz_u σ 47 9 v) X) (pc + 3) lv (st)) : zz_Z p l e R s m args below meth c Q D A nL cells slots (zz_wm U ad ρ (σ) X) (pc) lv (.int v :: .ref (ad 47) :: st) := zz_put (T := TX8) (v := .int v) (ty := .int) C 47 9 hdg rfl rfl z_in8 (by decide +kernel) tyX8_ok nmX8 (by decide) hw rfl (by decide +kernel) rfl rfl (Nat.le_of_ble_eq_true rfl) rfl k
theorem zf8_threshold (C : zz_C p l R s m meth c D U A own cc nL ret hh d) (hdg : decode cc pc = .ok (.getfield index, 3)) (hw : zz_g (.fieldLink own index "ChangeUntanglerModel" "threshold" "I")) (k : zz_Z p l e R s m args below meth c Q D A nL cells slots (zz_wm U ad ρ (σ) X) (pc + 3) lv (.int (σ 47 10) :: st)) : zz_Z p l e R s m args below meth c Q D A nL cells slots (zz_wm U ad ρ (σ) X) (pc) lv (.ref (ad 47) :: st) := zz_get (T := TX8) C 47 10 hdg rfl rfl z_in8 (by decide +kernel) (by decide) hw rfl k
theorem zp8_threshold (C : zz_C p l R s m meth c D U A own cc nL ret hh d) {v : Int32} (hdg : decode cc pc = .ok (.putfield index, 3)) (hw : zz_g (.fieldLink own index "ChangeUntanglerModel" "threshold" "I")) (k : zz_Z p l e R s m args below meth c Q D A nL cells slots (zz_wm U ad ρ (zz_u σ 47 10 v) X) (pc + 3) lv (st)) : zz_Z p l e R s m args below meth c Q D A nL cells slots (zz_wm U ad ρ (σ) X) (pc) lv (.int v :: .ref (ad 47) :: st) := zz_put (T := TX8) (v := .int v) (ty := .int) C 47 10 hdg rfl rfl z_in8 (by decide +kernel) tyX8_ok nmX8 (by decide) hw rfl (by decide +kernel) rfl rfl (Nat.le_of_ble_eq_true rfl) rfl k
theorem zf8_manner (C : zz_C p l R s m meth c D U A own cc nL ret hh d) (hdg : decode cc pc = .ok (.getfield index, 3)) (hw : zz_g (.fieldLink own index "ChangeUntanglerModel" "manner" "I")) (k : zz_Z p l e R s m args below meth c Q D A nL cells slots (zz_wm U ad ρ (σ) X) (pc + 3) lv (.int (σ 47 11) :: st)) : zz_Z p l e R s m args below meth c Q D A nL cells slots (zz_wm U ad ρ (σ) X) (pc) lv (.ref (ad 47) :: st) := zz_get (T := TX8) C 47 11 hdg rfl rfl z_in8 (by decide +kernel) (by decide) hw rfl k
theorem zp8_manner (C : zz_C p l R s m meth c D U A own cc nL ret hh d) {v : Int32} (hdg : decode cc pc = .ok (.putfield index, 3)) (hw : zz_g (.fieldLink own index "ChangeUntanglerModel" "manner" "I")) (k : zz_Z p l e R s m args below meth c Q D A nL cells slots (zz_wm U ad ρ (zz_u σ 47 11 v) X) (pc + 3) lv (st)) : zz_Z p l e R s m args below meth c Q D A nL cells slots (zz_wm U ad ρ (σ) X) (pc) lv (.int v :: .ref (ad 47) :: st) := zz_put (T := TX8) (v := .int v) (ty := .int) C 47 11 hdg rfl rfl z_in8 (by decide +kernel) tyX8_ok nmX8 (by decide) hw rfl (by decide +kernel) rfl rfl (Nat.le_of_ble_eq_true rfl) rfl k
theorem zf8_heads (C : zz_C p l R s m meth c D U A own cc nL ret hh d) (hdg : decode cc pc = .ok (.getfield index, 3)) (hw : zz_g (.fieldLink own index "ChangeUntanglerModel" "heads" "[I")) (k : zz_Z p l e R s m args below meth c Q D A nL cells slots (zz_wm U ad ρ (σ) X) (pc + 3) lv (.ref (ad 55) :: st)) : zz_Z p l e R s m args below meth c Q D A nL cells slots (zz_wm U ad ρ (σ) X) (pc) lv (.ref (ad 47) :: st) := zz_get (T := TX8) C 47 12 hdg rfl rfl z_in8 (by decide +kernel) (by decide) hw rfl k
theorem zf8_last (C : zz_C p l R s m meth c D U A own cc nL ret hh d) (hdg : decode cc pc = .ok (.getfield index, 3)) (hw : zz_g (.fieldLink own index "ChangeUntanglerModel" "last" "I")) (k : zz_Z p l e R s m args below meth c Q D A nL cells slots (zz_wm U ad ρ (σ) X) (pc + 3) lv (.int (σ 47 13) :: st)) : zz_Z p l e R s m args below meth c Q D A nL cells slots (zz_wm U ad ρ (σ) X) (pc) lv (.ref (ad 47) :: st) := zz_get (T := TX8) C 47 13 hdg rfl rfl z_in8 (by decide +kernel) (by decide) hw rfl k
theorem zp8_last (C : zz_C p l R s m meth c D U A own cc nL ret hh d) {v : Int32} (hdg : decode cc pc = .ok (.putfield index, 3)) (hw : zz_g (.fieldLink own index "ChangeUntanglerModel" "last" "I")) (k : zz_Z p l e R s m args below meth c Q D A nL cells slots (zz_wm U ad ρ (zz_u σ 47 13 v) X) (pc + 3) lv (st)) : zz_Z p l e R s m args below meth c Q D A nL cells slots (zz_wm U ad ρ (σ) X) (pc) lv (.int v :: .ref (ad 47) :: st) := zz_put (T := TX8) (v := .int v) (ty := .int) C 47 13 hdg rfl rfl z_in8 (by decide +kernel) tyX8_ok nmX8 (by decide) hw rfl (by decide +kernel) rfl rfl (Nat.le_of_ble_eq_true rfl) rfl k
theorem zf8_affinities (C : zz_C p l R s m meth c D U A own cc nL ret hh d) (hdg : decode cc pc = .ok (.getfield index, 3)) (hw : zz_g (.fieldLink own index "ChangeUntanglerModel" "affinities" "[I")) (k : zz_Z p l e R s m args below meth c Q D A nL cells slots (zz_wm U ad ρ (σ) X) (pc + 3) lv (.ref (ad 56) :: st)) : zz_Z p l e R s m args below meth c Q D A nL cells slots (zz_wm U ad ρ (σ) X) (pc) lv (.ref (ad 47) :: st) := zz_get (T := TX8) C 47 14 hdg rfl rfl z_in8 (by decide +kernel) (by decide) hw rfl k
theorem zf8_bundles (C : zz_C p l R s m meth c D U A own cc nL ret hh d) (hdg : decode cc pc = .ok (.getfield index, 3)) (hw : zz_g (.fieldLink own index "ChangeUntanglerModel" "bundles" "[I")) (k : zz_Z p l e R s m args below meth c Q D A nL cells slots (zz_wm U ad ρ (σ) X) (pc + 3) lv (.ref (ad 57) :: st)) : zz_Z p l e R s m args below meth c Q D A nL cells slots (zz_wm U ad ρ (σ) X) (pc) lv (.ref (ad 47) :: st) := zz_get (T := TX8) C 47 15 hdg rfl rfl z_in8 (by decide +kernel) (by decide) hw rfl k
theorem zf8_order (C : zz_C p l R s m meth c D U A own cc nL ret hh d) (hdg : decode cc pc = .ok (.getfield index, 3)) (hw : zz_g (.fieldLink own index "ChangeUntanglerModel" "order" "[I")) (k : zz_Z p l e R s m args below meth c Q D A nL cells slots (zz_wm U ad ρ (σ) X) (pc + 3) lv (.ref (ad 58) :: st)) : zz_Z p l e R s m args below meth c Q D A nL cells slots (zz_wm U ad ρ (σ) X) (pc) lv (.ref (ad 47) :: st) := zz_get (T := TX8) C 47 16 hdg rfl rfl z_in8 (by decide +kernel) (by decide) hw rfl k
theorem zf8_parcels (C : zz_C p l R s m meth c D U A own cc nL ret hh d) (hdg : decode cc pc = .ok (.getfield index, 3)) (hw : zz_g (.fieldLink own index "ChangeUntanglerModel" "parcels" "I")) (k : zz_Z p l e R s m args below meth c Q D A nL cells slots (zz_wm U ad ρ (σ) X) (pc + 3) lv (.int (σ 47 17) :: st)) : zz_Z p l e R s m args below meth c Q D A nL cells slots (zz_wm U ad ρ (σ) X) (pc) lv (.ref (ad 47) :: st) := zz_get (T := TX8) C 47 17 hdg rfl rfl z_in8 (by decide +kernel) (by decide) hw rfl k
theorem zp8_parcels (C : zz_C p l R s m meth c D U A own cc nL ret hh d) {v : Int32} (hdg : decode cc pc = .ok (.putfield index, 3)) (hw : zz_g (.fieldLink own index "ChangeUntanglerModel" "parcels" "I")) (k : zz_Z p l e R s m args below meth c Q D A nL cells slots (zz_wm U ad ρ (zz_u σ 47 17 v) X) (pc + 3) lv (st)) : zz_Z p l e R s m args below meth c Q D A nL cells slots (zz_wm U ad ρ (σ) X) (pc) lv (.int v :: .ref (ad 47) :: st) := zz_put (T := TX8) (v := .int v) (ty := .int) C 47 17 hdg rfl rfl z_in8 (by decide +kernel) tyX8_ok nmX8 (by decide) hw rfl (by decide +kernel) rfl rfl (Nat.le_of_ble_eq_true rfl) rfl k
theorem zf8_far (C : zz_C p l R s m meth c D U A own cc nL ret hh d) (hdg : decode cc pc = .ok (.getfield index, 3)) (hw : zz_g (.fieldLink own index "ChangeUntanglerModel" "far" "[I")) (k : zz_Z p l e R s m args below meth c Q D A nL cells slots (zz_wm U ad ρ (σ) X) (pc + 3) lv (.ref (ad 59) :: st)) : zz_Z p l e R s m args below meth c Q D A nL cells slots (zz_wm U ad ρ (σ) X) (pc) lv (.ref (ad 47) :: st) := zz_get (T := TX8) C 47 18 hdg rfl rfl z_in8 (by decide +kernel) (by decide) hw rfl k
theorem zf8_counts (C : zz_C p l R s m meth c D U A own cc nL ret hh d) (hdg : decode cc pc = .ok (.getfield index, 3)) (hw : zz_g (.fieldLink own index "ChangeUntanglerModel" "counts" "[I")) (k : zz_Z p l e R s m args below meth c Q D A nL cells slots (zz_wm U ad ρ (σ) X) (pc + 3) lv (.ref (ad 60) :: st)) : zz_Z p l e R s m args below meth c Q D A nL cells slots (zz_wm U ad ρ (σ) X) (pc) lv (.ref (ad 47) :: st) := zz_get (T := TX8) C 47 19 hdg rfl rfl z_in8 (by decide +kernel) (by decide) hw rfl k
theorem zf8_rests (C : zz_C p l R s m meth c D U A own cc nL ret hh d) (hdg : decode cc pc = .ok (.getfield index, 3)) (hw : zz_g (.fieldLink own index "ChangeUntanglerModel" "rests" "[I")) (k : zz_Z p l e R s m args below meth c Q D A nL cells slots (zz_wm U ad ρ (σ) X) (pc + 3) lv (.ref (ad 61) :: st)) : zz_Z p l e R s m args below meth c Q D A nL cells slots (zz_wm U ad ρ (σ) X) (pc) lv (.ref (ad 47) :: st) := zz_get (T := TX8) C 47 20 hdg rfl rfl z_in8 (by decide +kernel) (by decide) hw rfl k
theorem zl_48 (C : zz_C p l R s m meth c D U A own cc nL ret hh d) {i x : Int32} (hdg : decode cc pc = .ok (.iaload, 1)) (h : zz_ga (σ 48) 56 i = some x) (k : zz_Z p l e R s m args below meth c Q D A nL cells slots (zz_wm U ad ρ (σ) X) (pc + 1) lv (.int x :: st)) : zz_Z p l e R s m args below meth c Q D A nL cells slots (zz_wm U ad ρ (σ) X) (pc) lv (.int i :: .ref (ad 48) :: st) := zz_iald C 48 hdg rfl (zz_ga_in h).1 (by rw [(zz_ga_in h).2]; exact k)
theorem zs_48 (C : zz_C p l R s m meth c D U A own cc nL ret hh d) {i x : Int32} {σ1 : zz_St} (hdg : decode cc pc = .ok (.iastore, 1)) (h : zz_pa σ 48 56 i x = some σ1) (k : zz_Z p l e R s m args below meth c Q D A nL cells slots (zz_wm U ad ρ (σ1) X) (pc + 1) lv (st)) : zz_Z p l e R s m args below meth c Q D A nL cells slots (zz_wm U ad ρ (σ) X) (pc) lv (.int x :: .int i :: .ref (ad 48) :: st) := zz_iast C 48 hdg rfl (zz_pa_in h).1 (by rw [← (zz_pa_in h).2]; rfl) k
theorem zl_49 (C : zz_C p l R s m meth c D U A own cc nL ret hh d) {i x : Int32} (hdg : decode cc pc = .ok (.iaload, 1)) (h : zz_ga (σ 49) 56 i = some x) (k : zz_Z p l e R s m args below meth c Q D A nL cells slots (zz_wm U ad ρ (σ) X) (pc + 1) lv (.int x :: st)) : zz_Z p l e R s m args below meth c Q D A nL cells slots (zz_wm U ad ρ (σ) X) (pc) lv (.int i :: .ref (ad 49) :: st) := zz_iald C 49 hdg rfl (zz_ga_in h).1 (by rw [(zz_ga_in h).2]; exact k)
theorem zs_49 (C : zz_C p l R s m meth c D U A own cc nL ret hh d) {i x : Int32} {σ1 : zz_St} (hdg : decode cc pc = .ok (.iastore, 1)) (h : zz_pa σ 49 56 i x = some σ1) (k : zz_Z p l e R s m args below meth c Q D A nL cells slots (zz_wm U ad ρ (σ1) X) (pc + 1) lv (st)) : zz_Z p l e R s m args below meth c Q D A nL cells slots (zz_wm U ad ρ (σ) X) (pc) lv (.int x :: .int i :: .ref (ad 49) :: st) := zz_iast C 49 hdg rfl (zz_pa_in h).1 (by rw [← (zz_pa_in h).2]; rfl) k
theorem zl_50 (C : zz_C p l R s m meth c D U A own cc nL ret hh d) {i x : Int32} (hdg : decode cc pc = .ok (.iaload, 1)) (h : zz_ga (σ 50) 14 i = some x) (k : zz_Z p l e R s m args below meth c Q D A nL cells slots (zz_wm U ad ρ (σ) X) (pc + 1) lv (.int x :: st)) : zz_Z p l e R s m args below meth c Q D A nL cells slots (zz_wm U ad ρ (σ) X) (pc) lv (.int i :: .ref (ad 50) :: st) := zz_iald C 50 hdg rfl (zz_ga_in h).1 (by rw [(zz_ga_in h).2]; exact k)
theorem zs_50 (C : zz_C p l R s m meth c D U A own cc nL ret hh d) {i x : Int32} {σ1 : zz_St} (hdg : decode cc pc = .ok (.iastore, 1)) (h : zz_pa σ 50 14 i x = some σ1) (k : zz_Z p l e R s m args below meth c Q D A nL cells slots (zz_wm U ad ρ (σ1) X) (pc + 1) lv (st)) : zz_Z p l e R s m args below meth c Q D A nL cells slots (zz_wm U ad ρ (σ) X) (pc) lv (.int x :: .int i :: .ref (ad 50) :: st) := zz_iast C 50 hdg rfl (zz_pa_in h).1 (by rw [← (zz_pa_in h).2]; rfl) k
theorem zl_51 (C : zz_C p l R s m meth c D U A own cc nL ret hh d) {i x : Int32} (hdg : decode cc pc = .ok (.iaload, 1)) (h : zz_ga (σ 51) 196 i = some x) (k : zz_Z p l e R s m args below meth c Q D A nL cells slots (zz_wm U ad ρ (σ) X) (pc + 1) lv (.int x :: st)) : zz_Z p l e R s m args below meth c Q D A nL cells slots (zz_wm U ad ρ (σ) X) (pc) lv (.int i :: .ref (ad 51) :: st) := zz_iald C 51 hdg rfl (zz_ga_in h).1 (by rw [(zz_ga_in h).2]; exact k)
theorem zs_51 (C : zz_C p l R s m meth c D U A own cc nL ret hh d) {i x : Int32} {σ1 : zz_St} (hdg : decode cc pc = .ok (.iastore, 1)) (h : zz_pa σ 51 196 i x = some σ1) (k : zz_Z p l e R s m args below meth c Q D A nL cells slots (zz_wm U ad ρ (σ1) X) (pc + 1) lv (st)) : zz_Z p l e R s m args below meth c Q D A nL cells slots (zz_wm U ad ρ (σ) X) (pc) lv (.int x :: .int i :: .ref (ad 51) :: st) := zz_iast C 51 hdg rfl (zz_pa_in h).1 (by rw [← (zz_pa_in h).2]; rfl) k
theorem zl_52 (C : zz_C p l R s m meth c D U A own cc nL ret hh d) {i x : Int32} (hdg : decode cc pc = .ok (.baload, 1)) (h : zz_ga (σ 52) 16 i = some x) (k : zz_Z p l e R s m args below meth c Q D A nL cells slots (zz_wm U ad ρ (σ) X) (pc + 1) lv (.int x :: st)) : zz_Z p l e R s m args below meth c Q D A nL cells slots (zz_wm U ad ρ (σ) X) (pc) lv (.int i :: .ref (ad 52) :: st) := zz_zald C 52 hdg rfl (zz_ga_in h).1 (by rw [(zz_ga_in h).2]; exact k)
theorem zs_52 (C : zz_C p l R s m meth c D U A own cc nL ret hh d) {i x : Int32} {σ1 : zz_St} (hdg : decode cc pc = .ok (.bastore, 1)) (hv : x = 0 ∨ x = 1) (h : zz_pa σ 52 16 i x = some σ1) (k : zz_Z p l e R s m args below meth c Q D A nL cells slots (zz_wm U ad ρ (σ1) X) (pc + 1) lv (st)) : zz_Z p l e R s m args below meth c Q D A nL cells slots (zz_wm U ad ρ (σ) X) (pc) lv (.int x :: .int i :: .ref (ad 52) :: st) := zz_zast C 52 hdg rfl (zz_pa_in h).1 (by rw [← (zz_pa_in h).2, show vp_nar .boolean x = x by rcases hv with rfl | rfl <;> rfl]; rfl) k
theorem zl_53 (C : zz_C p l R s m meth c D U A own cc nL ret hh d) {i x : Int32} (hdg : decode cc pc = .ok (.iaload, 1)) (h : zz_ga (σ 53) 16 i = some x) (k : zz_Z p l e R s m args below meth c Q D A nL cells slots (zz_wm U ad ρ (σ) X) (pc + 1) lv (.int x :: st)) : zz_Z p l e R s m args below meth c Q D A nL cells slots (zz_wm U ad ρ (σ) X) (pc) lv (.int i :: .ref (ad 53) :: st) := zz_iald C 53 hdg rfl (zz_ga_in h).1 (by rw [(zz_ga_in h).2]; exact k)
theorem zs_53 (C : zz_C p l R s m meth c D U A own cc nL ret hh d) {i x : Int32} {σ1 : zz_St} (hdg : decode cc pc = .ok (.iastore, 1)) (h : zz_pa σ 53 16 i x = some σ1) (k : zz_Z p l e R s m args below meth c Q D A nL cells slots (zz_wm U ad ρ (σ1) X) (pc + 1) lv (st)) : zz_Z p l e R s m args below meth c Q D A nL cells slots (zz_wm U ad ρ (σ) X) (pc) lv (.int x :: .int i :: .ref (ad 53) :: st) := zz_iast C 53 hdg rfl (zz_pa_in h).1 (by rw [← (zz_pa_in h).2]; rfl) k
theorem zl_54 (C : zz_C p l R s m meth c D U A own cc nL ret hh d) {i x : Int32} (hdg : decode cc pc = .ok (.iaload, 1)) (h : zz_ga (σ 54) 4 i = some x) (k : zz_Z p l e R s m args below meth c Q D A nL cells slots (zz_wm U ad ρ (σ) X) (pc + 1) lv (.int x :: st)) : zz_Z p l e R s m args below meth c Q D A nL cells slots (zz_wm U ad ρ (σ) X) (pc) lv (.int i :: .ref (ad 54) :: st) := zz_iald C 54 hdg rfl (zz_ga_in h).1 (by rw [(zz_ga_in h).2]; exact k)
theorem zs_54 (C : zz_C p l R s m meth c D U A own cc nL ret hh d) {i x : Int32} {σ1 : zz_St} (hdg : decode cc pc = .ok (.iastore, 1)) (h : zz_pa σ 54 4 i x = some σ1) (k : zz_Z p l e R s m args below meth c Q D A nL cells slots (zz_wm U ad ρ (σ1) X) (pc + 1) lv (st)) : zz_Z p l e R s m args below meth c Q D A nL cells slots (zz_wm U ad ρ (σ) X) (pc) lv (.int x :: .int i :: .ref (ad 54) :: st) := zz_iast C 54 hdg rfl (zz_pa_in h).1 (by rw [← (zz_pa_in h).2]; rfl) k
theorem zl_55 (C : zz_C p l R s m meth c D U A own cc nL ret hh d) {i x : Int32} (hdg : decode cc pc = .ok (.iaload, 1)) (h : zz_ga (σ 55) 14 i = some x) (k : zz_Z p l e R s m args below meth c Q D A nL cells slots (zz_wm U ad ρ (σ) X) (pc + 1) lv (.int x :: st)) : zz_Z p l e R s m args below meth c Q D A nL cells slots (zz_wm U ad ρ (σ) X) (pc) lv (.int i :: .ref (ad 55) :: st) := zz_iald C 55 hdg rfl (zz_ga_in h).1 (by rw [(zz_ga_in h).2]; exact k)
theorem zs_55 (C : zz_C p l R s m meth c D U A own cc nL ret hh d) {i x : Int32} {σ1 : zz_St} (hdg : decode cc pc = .ok (.iastore, 1)) (h : zz_pa σ 55 14 i x = some σ1) (k : zz_Z p l e R s m args below meth c Q D A nL cells slots (zz_wm U ad ρ (σ1) X) (pc + 1) lv (st)) : zz_Z p l e R s m args below meth c Q D A nL cells slots (zz_wm U ad ρ (σ) X) (pc) lv (.int x :: .int i :: .ref (ad 55) :: st) := zz_iast C 55 hdg rfl (zz_pa_in h).1 (by rw [← (zz_pa_in h).2]; rfl) k
theorem zl_56 (C : zz_C p l R s m meth c D U A own cc nL ret hh d) {i x : Int32} (hdg : decode cc pc = .ok (.iaload, 1)) (h : zz_ga (σ 56) 196 i = some x) (k : zz_Z p l e R s m args below meth c Q D A nL cells slots (zz_wm U ad ρ (σ) X) (pc + 1) lv (.int x :: st)) : zz_Z p l e R s m args below meth c Q D A nL cells slots (zz_wm U ad ρ (σ) X) (pc) lv (.int i :: .ref (ad 56) :: st) := zz_iald C 56 hdg rfl (zz_ga_in h).1 (by rw [(zz_ga_in h).2]; exact k)
theorem zs_56 (C : zz_C p l R s m meth c D U A own cc nL ret hh d) {i x : Int32} {σ1 : zz_St} (hdg : decode cc pc = .ok (.iastore, 1)) (h : zz_pa σ 56 196 i x = some σ1) (k : zz_Z p l e R s m args below meth c Q D A nL cells slots (zz_wm U ad ρ (σ1) X) (pc + 1) lv (st)) : zz_Z p l e R s m args below meth c Q D A nL cells slots (zz_wm U ad ρ (σ) X) (pc) lv (.int x :: .int i :: .ref (ad 56) :: st) := zz_iast C 56 hdg rfl (zz_pa_in h).1 (by rw [← (zz_pa_in h).2]; rfl) k
theorem zl_57 (C : zz_C p l R s m meth c D U A own cc nL ret hh d) {i x : Int32} (hdg : decode cc pc = .ok (.iaload, 1)) (h : zz_ga (σ 57) 14 i = some x) (k : zz_Z p l e R s m args below meth c Q D A nL cells slots (zz_wm U ad ρ (σ) X) (pc + 1) lv (.int x :: st)) : zz_Z p l e R s m args below meth c Q D A nL cells slots (zz_wm U ad ρ (σ) X) (pc) lv (.int i :: .ref (ad 57) :: st) := zz_iald C 57 hdg rfl (zz_ga_in h).1 (by rw [(zz_ga_in h).2]; exact k)
theorem zs_57 (C : zz_C p l R s m meth c D U A own cc nL ret hh d) {i x : Int32} {σ1 : zz_St} (hdg : decode cc pc = .ok (.iastore, 1)) (h : zz_pa σ 57 14 i x = some σ1) (k : zz_Z p l e R s m args below meth c Q D A nL cells slots (zz_wm U ad ρ (σ1) X) (pc + 1) lv (st)) : zz_Z p l e R s m args below meth c Q D A nL cells slots (zz_wm U ad ρ (σ) X) (pc) lv (.int x :: .int i :: .ref (ad 57) :: st) := zz_iast C 57 hdg rfl (zz_pa_in h).1 (by rw [← (zz_pa_in h).2]; rfl) k
theorem zl_58 (C : zz_C p l R s m meth c D U A own cc nL ret hh d) {i x : Int32} (hdg : decode cc pc = .ok (.iaload, 1)) (h : zz_ga (σ 58) 14 i = some x) (k : zz_Z p l e R s m args below meth c Q D A nL cells slots (zz_wm U ad ρ (σ) X) (pc + 1) lv (.int x :: st)) : zz_Z p l e R s m args below meth c Q D A nL cells slots (zz_wm U ad ρ (σ) X) (pc) lv (.int i :: .ref (ad 58) :: st) := zz_iald C 58 hdg rfl (zz_ga_in h).1 (by rw [(zz_ga_in h).2]; exact k)
theorem zs_58 (C : zz_C p l R s m meth c D U A own cc nL ret hh d) {i x : Int32} {σ1 : zz_St} (hdg : decode cc pc = .ok (.iastore, 1)) (h : zz_pa σ 58 14 i x = some σ1) (k : zz_Z p l e R s m args below meth c Q D A nL cells slots (zz_wm U ad ρ (σ1) X) (pc + 1) lv (st)) : zz_Z p l e R s m args below meth c Q D A nL cells slots (zz_wm U ad ρ (σ) X) (pc) lv (.int x :: .int i :: .ref (ad 58) :: st) := zz_iast C 58 hdg rfl (zz_pa_in h).1 (by rw [← (zz_pa_in h).2]; rfl) k
theorem zl_59 (C : zz_C p l R s m meth c D U A own cc nL ret hh d) {i x : Int32} (hdg : decode cc pc = .ok (.iaload, 1)) (h : zz_ga (σ 59) 14 i = some x) (k : zz_Z p l e R s m args below meth c Q D A nL cells slots (zz_wm U ad ρ (σ) X) (pc + 1) lv (.int x :: st)) : zz_Z p l e R s m args below meth c Q D A nL cells slots (zz_wm U ad ρ (σ) X) (pc) lv (.int i :: .ref (ad 59) :: st) := zz_iald C 59 hdg rfl (zz_ga_in h).1 (by rw [(zz_ga_in h).2]; exact k)
theorem zs_59 (C : zz_C p l R s m meth c D U A own cc nL ret hh d) {i x : Int32} {σ1 : zz_St} (hdg : decode cc pc = .ok (.iastore, 1)) (h : zz_pa σ 59 14 i x = some σ1) (k : zz_Z p l e R s m args below meth c Q D A nL cells slots (zz_wm U ad ρ (σ1) X) (pc + 1) lv (st)) : zz_Z p l e R s m args below meth c Q D A nL cells slots (zz_wm U ad ρ (σ) X) (pc) lv (.int x :: .int i :: .ref (ad 59) :: st) := zz_iast C 59 hdg rfl (zz_pa_in h).1 (by rw [← (zz_pa_in h).2]; rfl) k
theorem zl_60 (C : zz_C p l R s m meth c D U A own cc nL ret hh d) {i x : Int32} (hdg : decode cc pc = .ok (.iaload, 1)) (h : zz_ga (σ 60) 512 i = some x) (k : zz_Z p l e R s m args below meth c Q D A nL cells slots (zz_wm U ad ρ (σ) X) (pc + 1) lv (.int x :: st)) : zz_Z p l e R s m args below meth c Q D A nL cells slots (zz_wm U ad ρ (σ) X) (pc) lv (.int i :: .ref (ad 60) :: st) := zz_iald C 60 hdg rfl (zz_ga_in h).1 (by rw [(zz_ga_in h).2]; exact k)
theorem zs_60 (C : zz_C p l R s m meth c D U A own cc nL ret hh d) {i x : Int32} {σ1 : zz_St} (hdg : decode cc pc = .ok (.iastore, 1)) (h : zz_pa σ 60 512 i x = some σ1) (k : zz_Z p l e R s m args below meth c Q D A nL cells slots (zz_wm U ad ρ (σ1) X) (pc + 1) lv (st)) : zz_Z p l e R s m args below meth c Q D A nL cells slots (zz_wm U ad ρ (σ) X) (pc) lv (.int x :: .int i :: .ref (ad 60) :: st) := zz_iast C 60 hdg rfl (zz_pa_in h).1 (by rw [← (zz_pa_in h).2]; rfl) k
theorem zl_61 (C : zz_C p l R s m meth c D U A own cc nL ret hh d) {i x : Int32} (hdg : decode cc pc = .ok (.iaload, 1)) (h : zz_ga (σ 61) 512 i = some x) (k : zz_Z p l e R s m args below meth c Q D A nL cells slots (zz_wm U ad ρ (σ) X) (pc + 1) lv (.int x :: st)) : zz_Z p l e R s m args below meth c Q D A nL cells slots (zz_wm U ad ρ (σ) X) (pc) lv (.int i :: .ref (ad 61) :: st) := zz_iald C 61 hdg rfl (zz_ga_in h).1 (by rw [(zz_ga_in h).2]; exact k)
theorem zs_61 (C : zz_C p l R s m meth c D U A own cc nL ret hh d) {i x : Int32} {σ1 : zz_St} (hdg : decode cc pc = .ok (.iastore, 1)) (h : zz_pa σ 61 512 i x = some σ1) (k : zz_Z p l e R s m args below meth c Q D A nL cells slots (zz_wm U ad ρ (σ1) X) (pc + 1) lv (st)) : zz_Z p l e R s m args below meth c Q D A nL cells slots (zz_wm U ad ρ (σ) X) (pc) lv (.int x :: .int i :: .ref (ad 61) :: st) := zz_iast C 61 hdg rfl (zz_pa_in h).1 (by rw [← (zz_pa_in h).2]; rfl) k
end ZW
end
section
theorem zw_0 : zz_g (.methodLink RX7 58 yX7_isUpTo) := ⟨List.mem_of_getElem? (i := 458) (by decide +kernel), by decide +kernel⟩
theorem zw_1 : zz_g (.fieldLink RX7 271 "ChangeUntangler" "isBestKnown" "Z") := ⟨List.mem_of_getElem? (i := 245) (by decide +kernel), by decide +kernel⟩
theorem zw_2 : zz_g (.fieldLink RX7 267 "ChangeUntangler" "isPutTogether" "Z") := ⟨List.mem_of_getElem? (i := 244) (by decide +kernel), by decide +kernel⟩
theorem zw_3 : zz_g (.fieldLink RX5 35 "ChangeUntangler$Pieces" "count" "I") := ⟨List.mem_of_getElem? (i := 84) (by decide +kernel), by decide +kernel⟩
theorem zw_4 : zz_g (.fieldLink RX5 24 "ChangeUntangler$Pieces" "purposes" "[I") := ⟨List.mem_of_getElem? (i := 92) (by decide +kernel), by decide +kernel⟩
theorem zw_5 : zz_g (.fieldLink RX5 21 "ChangeUntangler$Pieces" "taken" "[I") := ⟨List.mem_of_getElem? (i := 91) (by decide +kernel), by decide +kernel⟩
theorem zw_6 : zz_g (.fieldLink RX5 18 "ChangeUntangler$Pieces" "added" "[I") := ⟨List.mem_of_getElem? (i := 90) (by decide +kernel), by decide +kernel⟩
theorem zw_7 : zz_g (.fieldLink RX5 15 "ChangeUntangler$Pieces" "startLines" "[I") := ⟨List.mem_of_getElem? (i := 88) (by decide +kernel), by decide +kernel⟩
theorem zw_8 : zz_g (.fieldLink RX5 9 "ChangeUntangler$Pieces" "files" "[I") := ⟨List.mem_of_getElem? (i := 86) (by decide +kernel), by decide +kernel⟩
theorem zw_9 : zz_g (.methodLink RX7 83 yX5_append) := ⟨List.mem_of_getElem? (i := 550) (by decide +kernel), by decide +kernel⟩
theorem zw_10 : zz_g (.fieldLink RX7 12 "ChangeUntangler" "pieces" "LChangeUntangler$Pieces;") := ⟨List.mem_of_getElem? (i := 237) (by decide +kernel), by decide +kernel⟩
theorem zw_11 : zz_g (.methodLink RX7 80 yX7_forgetResults) := ⟨List.mem_of_getElem? (i := 546) (by decide +kernel), by decide +kernel⟩
theorem zw_12 : zz_g (.fieldLink RX7 71 "ChangeUntangler$Pieces" "count" "I") := ⟨List.mem_of_getElem? (i := 85) (by decide +kernel), by decide +kernel⟩
theorem zw_13 : zz_g (.methodLink RX7 296 yX5_has) := ⟨List.mem_of_getElem? (i := 570) (by decide +kernel), by decide +kernel⟩
theorem zw_14 : zz_g (.methodLink RX7 136 yX7_requirePiece) := ⟨List.mem_of_getElem? (i := 566) (by decide +kernel), by decide +kernel⟩
theorem zw_15 : zz_g (.constant RX7 91 (65535)) := ⟨List.mem_of_getElem? (i := 591) (by decide +kernel), by decide +kernel⟩
theorem zw_16 : zz_g (.fieldLink RX5 32 "ChangeUntangler$Pieces" "piecesWith" "[[I") := ⟨List.mem_of_getElem? (i := 96) (by decide +kernel), by decide +kernel⟩
theorem zw_17 : zz_g (.fieldLink RX5 29 "ChangeUntangler$Pieces" "namesOf" "[[I") := ⟨List.mem_of_getElem? (i := 94) (by decide +kernel), by decide +kernel⟩
theorem zw_18 : zz_g (.methodLink RX7 94 yX5_replaceNames) := ⟨List.mem_of_getElem? (i := 593) (by decide +kernel), by decide +kernel⟩
theorem zw_19 : zz_g (.methodLink RX7 87 yX7_requireSet) := ⟨List.mem_of_getElem? (i := 562) (by decide +kernel), by decide +kernel⟩
theorem zw_20 : zz_g (.fieldLink RX7 98 "ChangeUntangler$Pieces" "namesOf" "[[I") := ⟨List.mem_of_getElem? (i := 95) (by decide +kernel), by decide +kernel⟩
theorem zw_21 : zz_g (.fieldLink RX1 9 "ChangeUntangler$Code" "otherUses" "[I") := ⟨List.mem_of_getElem? (i := 125) (by decide +kernel), by decide +kernel⟩
theorem zw_22 : zz_g (.fieldLink RX1 15 "ChangeUntangler$Code" "definedNames" "I") := ⟨List.mem_of_getElem? (i := 122) (by decide +kernel), by decide +kernel⟩
theorem zw_23 : zz_g (.methodLink RX7 109 yX1_learn) := ⟨List.mem_of_getElem? (i := 613) (by decide +kernel), by decide +kernel⟩
theorem zw_24 : zz_g (.fieldLink RX7 19 "ChangeUntangler" "code" "LChangeUntangler$Code;") := ⟨List.mem_of_getElem? (i := 238) (by decide +kernel), by decide +kernel⟩
theorem zw_25 : zz_g (.methodLink RX5 39 yX5_replaceNames) := ⟨List.mem_of_getElem? (i := 630) (by decide +kernel), by decide +kernel⟩
theorem zw_26 : zz_g (.fieldLink RX6 15 "ChangeUntangler$Sayings" "mustNot" "[I") := ⟨List.mem_of_getElem? (i := 153) (by decide +kernel), by decide +kernel⟩
theorem zw_27 : zz_g (.fieldLink RX6 9 "ChangeUntangler$Sayings" "must" "[I") := ⟨List.mem_of_getElem? (i := 152) (by decide +kernel), by decide +kernel⟩
theorem zw_28 : zz_g (.methodLink RX6 22 yX6_putOneWay) := ⟨List.mem_of_getElem? (i := 635) (by decide +kernel), by decide +kernel⟩
theorem zw_29 : zz_g (.methodLink RX7 118 yX6_forgetPiece) := ⟨List.mem_of_getElem? (i := 631) (by decide +kernel), by decide +kernel⟩
theorem zw_30 : zz_g (.fieldLink RX7 33 "ChangeUntangler" "sayings" "LChangeUntangler$Sayings;") := ⟨List.mem_of_getElem? (i := 240) (by decide +kernel), by decide +kernel⟩
theorem zw_31 : zz_g (.methodLink RX7 115 yX5_removeLast) := ⟨List.mem_of_getElem? (i := 626) (by decide +kernel), by decide +kernel⟩
theorem zw_32 : zz_g (.fieldLink RX7 127 "ChangeUntangler$Evidence" "weights" "[I") := ⟨List.mem_of_getElem? (i := 138) (by decide +kernel), by decide +kernel⟩
theorem zw_33 : zz_g (.fieldLink RX7 26 "ChangeUntangler" "evidence" "LChangeUntangler$Evidence;") := ⟨List.mem_of_getElem? (i := 239) (by decide +kernel), by decide +kernel⟩
theorem zw_34 : zz_g (.methodLink RX7 122 yX7_requireKind) := ⟨List.mem_of_getElem? (i := 646) (by decide +kernel), by decide +kernel⟩
theorem zw_35 : zz_g (.fieldLink RX7 133 "ChangeUntangler$Evidence" "span" "I") := ⟨List.mem_of_getElem? (i := 140) (by decide +kernel), by decide +kernel⟩
theorem zw_36 : zz_g (.methodLink RX2 47 yJ9_abs_0f7a4) := ⟨List.mem_of_getElem? (i := 293) (by decide +kernel), by decide +kernel⟩
theorem zw_37 : zz_g (.fieldLink RX2 15 "ChangeUntangler$Evidence" "span" "I") := ⟨List.mem_of_getElem? (i := 139) (by decide +kernel), by decide +kernel⟩
theorem zw_38 : zz_g (.fieldLink RX2 44 "ChangeUntangler$Pieces" "startLines" "[I") := ⟨List.mem_of_getElem? (i := 89) (by decide +kernel), by decide +kernel⟩
theorem zw_39 : zz_g (.fieldLink RX2 41 "ChangeUntangler$Pieces" "files" "[I") := ⟨List.mem_of_getElem? (i := 87) (by decide +kernel), by decide +kernel⟩
theorem zw_40 : zz_g (.fieldLink RX2 9 "ChangeUntangler$Evidence" "weights" "[I") := ⟨List.mem_of_getElem? (i := 137) (by decide +kernel), by decide +kernel⟩
theorem zw_41 : zz_g (.methodLink RX2 19 yX2_isNear) := ⟨List.mem_of_getElem? (i := 289) (by decide +kernel), by decide +kernel⟩
theorem zw_42 : zz_g (.constant "java/lang/Integer" 265 (1431655765)) := ⟨List.mem_of_getElem? (i := 303) (by decide +kernel), by decide +kernel⟩
theorem zw_43 : zz_g (.constant "java/lang/Integer" 266 (858993459)) := ⟨List.mem_of_getElem? (i := 304) (by decide +kernel), by decide +kernel⟩
theorem zw_44 : zz_g (.constant "java/lang/Integer" 267 (252645135)) := ⟨List.mem_of_getElem? (i := 305) (by decide +kernel), by decide +kernel⟩
theorem zw_45 : zz_g (.methodLink RX5 43 yJ6_bitCount_0f7a4) := ⟨List.mem_of_getElem? (i := 300) (by decide +kernel), by decide +kernel⟩
theorem zw_46 : zz_g (.methodLink RX2 23 yX5_crossings) := ⟨List.mem_of_getElem? (i := 296) (by decide +kernel), by decide +kernel⟩
theorem zw_47 : zz_g (.methodLink RX2 52 yJ6_bitCount_0f7a4) := ⟨List.mem_of_getElem? (i := 313) (by decide +kernel), by decide +kernel⟩
theorem zw_48 : zz_g (.methodLink RX2 33 yX2_shareOf) := ⟨List.mem_of_getElem? (i := 310) (by decide +kernel), by decide +kernel⟩
theorem zw_49 : zz_g (.methodLink RX2 29 yX5_everyNameOf) := ⟨List.mem_of_getElem? (i := 306) (by decide +kernel), by decide +kernel⟩
theorem zw_50 : zz_g (.methodLink RX7 142 yX2_pointsBy) := ⟨List.mem_of_getElem? (i := 670) (by decide +kernel), by decide +kernel⟩
theorem zw_51 : zz_g (.methodLink RX7 139 yX7_requireDifferent) := ⟨List.mem_of_getElem? (i := 666) (by decide +kernel), by decide +kernel⟩
theorem zw_52 : zz_g (.methodLink RX2 37 yX2_pointsBy) := ⟨List.mem_of_getElem? (i := 285) (by decide +kernel), by decide +kernel⟩
theorem zw_53 : zz_g (.methodLink RX7 146 yX2_sumOfPoints) := ⟨List.mem_of_getElem? (i := 678) (by decide +kernel), by decide +kernel⟩
theorem zw_54 : zz_g (.fieldLink RX7 152 "ChangeUntangler$Groups" "threshold" "I") := ⟨List.mem_of_getElem? (i := 167) (by decide +kernel), by decide +kernel⟩
theorem zw_55 : zz_g (.fieldLink RX7 40 "ChangeUntangler" "groups" "LChangeUntangler$Groups;") := ⟨List.mem_of_getElem? (i := 241) (by decide +kernel), by decide +kernel⟩
theorem zw_56 : zz_g (.fieldLink RX7 157 "ChangeUntangler$Groups" "manner" "I") := ⟨List.mem_of_getElem? (i := 169) (by decide +kernel), by decide +kernel⟩
theorem zw_57 : zz_g (.methodLink RX6 26 yX6_joinedTo) := ⟨List.mem_of_getElem? (i := 722) (by decide +kernel), by decide +kernel⟩
theorem zw_58 : zz_g (.methodLink RX7 166 yX6_put) := ⟨List.mem_of_getElem? (i := 714) (by decide +kernel), by decide +kernel⟩
theorem zw_59 : zz_g (.methodLink RX7 170 yX6_isContradiction) := ⟨List.mem_of_getElem? (i := 718) (by decide +kernel), by decide +kernel⟩
theorem zw_60 : zz_g (.methodLink RX7 162 yX6_saidOf) := ⟨List.mem_of_getElem? (i := 710) (by decide +kernel), by decide +kernel⟩
theorem zw_61 : zz_g (.fieldLink RX3 24 "ChangeUntangler$Groups" "affinities" "[[I") := ⟨List.mem_of_getElem? (i := 178) (by decide +kernel), by decide +kernel⟩
theorem zw_62 : zz_g (.methodLink RX3 32 yX2_sumOfPoints) := ⟨List.mem_of_getElem? (i := 281) (by decide +kernel), by decide +kernel⟩
theorem zw_63 : zz_g (.fieldLink RX3 27 "ChangeUntangler$Pieces" "count" "I") := ⟨List.mem_of_getElem? (i := 83) (by decide +kernel), by decide +kernel⟩
theorem zw_64 : zz_g (.fieldLink RX3 49 "ChangeUntangler$Groups" "count" "I") := ⟨List.mem_of_getElem? (i := 171) (by decide +kernel), by decide +kernel⟩
theorem zw_65 : zz_g (.fieldLink RX3 18 "ChangeUntangler$Groups" "sets" "[I") := ⟨List.mem_of_getElem? (i := 175) (by decide +kernel), by decide +kernel⟩
theorem zw_66 : zz_g (.methodLink RX3 50 yX6_joinedTo) := ⟨List.mem_of_getElem? (i := 322) (by decide +kernel), by decide +kernel⟩
theorem zw_67 : zz_g (.constant RX3 68 (1000000)) := ⟨List.mem_of_getElem? (i := 341) (by decide +kernel), by decide +kernel⟩
theorem zw_68 : zz_g (.methodLink RX3 72 yJ9_max_7cf53) := ⟨List.mem_of_getElem? (i := 343) (by decide +kernel), by decide +kernel⟩
theorem zw_69 : zz_g (.methodLink RX3 77 yJ9_min_7cf53) := ⟨List.mem_of_getElem? (i := 346) (by decide +kernel), by decide +kernel⟩
theorem zw_70 : zz_g (.fieldLink RX3 15 "ChangeUntangler$Groups" "manner" "I") := ⟨List.mem_of_getElem? (i := 168) (by decide +kernel), by decide +kernel⟩
theorem zw_71 : zz_g (.methodLink RX3 80 yJ6_bitCount_0f7a4) := ⟨List.mem_of_getElem? (i := 349) (by decide +kernel), by decide +kernel⟩
theorem zw_72 : zz_g (.methodLink RX3 60 yX3_linkageOf) := ⟨List.mem_of_getElem? (i := 337) (by decide +kernel), by decide +kernel⟩
theorem zw_73 : zz_g (.methodLink RX3 56 yX6_isForbidden) := ⟨List.mem_of_getElem? (i := 333) (by decide +kernel), by decide +kernel⟩
theorem zw_74 : zz_g (.fieldLink RX3 42 "ChangeUntangler$Groups" "linkageOfLastJoin" "I") := ⟨List.mem_of_getElem? (i := 173) (by decide +kernel), by decide +kernel⟩
theorem zw_75 : zz_g (.methodLink RX3 64 yX3_join) := ⟨List.mem_of_getElem? (i := 350) (by decide +kernel), by decide +kernel⟩
theorem zw_76 : zz_g (.fieldLink RX3 9 "ChangeUntangler$Groups" "threshold" "I") := ⟨List.mem_of_getElem? (i := 166) (by decide +kernel), by decide +kernel⟩
theorem zw_77 : zz_g (.methodLink RX3 45 yX3_joinNearest) := ⟨List.mem_of_getElem? (i := 329) (by decide +kernel), by decide +kernel⟩
theorem zw_78 : zz_g (.methodLink RX3 38 yX3_joinWhatMust) := ⟨List.mem_of_getElem? (i := 318) (by decide +kernel), by decide +kernel⟩
theorem zw_79 : zz_g (.methodLink RX5 53 yX5_isNeeded) := ⟨List.mem_of_getElem? (i := 367) (by decide +kernel), by decide +kernel⟩
theorem zw_80 : zz_g (.fieldLink RX4 44 "ChangeUntangler$Groups" "sets" "[I") := ⟨List.mem_of_getElem? (i := 176) (by decide +kernel), by decide +kernel⟩
theorem zw_81 : zz_g (.fieldLink RX4 15 "ChangeUntangler$Parcels" "needed" "[I") := ⟨List.mem_of_getElem? (i := 205) (by decide +kernel), by decide +kernel⟩
theorem zw_82 : zz_g (.fieldLink RX4 22 "ChangeUntangler$Groups" "count" "I") := ⟨List.mem_of_getElem? (i := 170) (by decide +kernel), by decide +kernel⟩
theorem zw_83 : zz_g (.methodLink RX4 50 yX5_neededBy) := ⟨List.mem_of_getElem? (i := 362) (by decide +kernel), by decide +kernel⟩
theorem zw_84 : zz_g (.fieldLink RX4 45 "ChangeUntangler$Code" "definedNames" "I") := ⟨List.mem_of_getElem? (i := 123) (by decide +kernel), by decide +kernel⟩
theorem zw_85 : zz_g (.methodLink RX4 59 yX4_circleOf) := ⟨List.mem_of_getElem? (i := 380) (by decide +kernel), by decide +kernel⟩
theorem zw_86 : zz_g (.fieldLink RX4 32 "ChangeUntangler$Parcels" "count" "I") := ⟨List.mem_of_getElem? (i := 199) (by decide +kernel), by decide +kernel⟩
theorem zw_87 : zz_g (.fieldLink RX4 9 "ChangeUntangler$Parcels" "sets" "[I") := ⟨List.mem_of_getElem? (i := 203) (by decide +kernel), by decide +kernel⟩
theorem zw_88 : zz_g (.fieldLink RX4 33 "ChangeUntangler$Parcels" "knotCount" "I") := ⟨List.mem_of_getElem? (i := 201) (by decide +kernel), by decide +kernel⟩
theorem zw_89 : zz_g (.methodLink RX4 62 yJ6_bitCount_0f7a4) := ⟨List.mem_of_getElem? (i := 388) (by decide +kernel), by decide +kernel⟩
theorem zw_90 : zz_g (.methodLink RX4 40 yX4_append) := ⟨List.mem_of_getElem? (i := 384) (by decide +kernel), by decide +kernel⟩
theorem zw_91 : zz_g (.methodLink RX4 36 yX4_nextCircle) := ⟨List.mem_of_getElem? (i := 376) (by decide +kernel), by decide +kernel⟩
theorem zw_92 : zz_g (.methodLink RX4 28 yX4_needByWayOfOthers) := ⟨List.mem_of_getElem? (i := 371) (by decide +kernel), by decide +kernel⟩
theorem zw_93 : zz_g (.methodLink RX4 18 yX4_findNeeds) := ⟨List.mem_of_getElem? (i := 358) (by decide +kernel), by decide +kernel⟩
theorem zw_94 : zz_g (.methodLink RX7 282 yX4_build) := ⟨List.mem_of_getElem? (i := 354) (by decide +kernel), by decide +kernel⟩
theorem zw_95 : zz_g (.fieldLink RX7 47 "ChangeUntangler" "parcels" "LChangeUntangler$Parcels;") := ⟨List.mem_of_getElem? (i := 242) (by decide +kernel), by decide +kernel⟩
theorem zw_96 : zz_g (.methodLink RX7 278 yX3_build) := ⟨List.mem_of_getElem? (i := 314) (by decide +kernel), by decide +kernel⟩
theorem zw_97 : zz_g (.methodLink RX7 274 yX3_weighAll) := ⟨List.mem_of_getElem? (i := 277) (by decide +kernel), by decide +kernel⟩
theorem zw_98 : zz_g (.fieldLink RX7 179 "ChangeUntangler$Groups" "count" "I") := ⟨List.mem_of_getElem? (i := 172) (by decide +kernel), by decide +kernel⟩
theorem zw_99 : zz_g (.methodLink RX7 176 yX7_putTogether) := ⟨List.mem_of_getElem? (i := 273) (by decide +kernel), by decide +kernel⟩
theorem zw_100 : zz_g (.fieldLink RX7 183 "ChangeUntangler$Groups" "sets" "[I") := ⟨List.mem_of_getElem? (i := 177) (by decide +kernel), by decide +kernel⟩
theorem zw_101 : zz_g (.methodLink RX7 180 yX7_requireGroup) := ⟨List.mem_of_getElem? (i := 731) (by decide +kernel), by decide +kernel⟩
theorem zw_102 : zz_g (.methodLink RX7 312 yX7_isIn) := ⟨List.mem_of_getElem? (i := 426) (by decide +kernel), by decide +kernel⟩
theorem zw_103 : zz_g (.methodLink RX7 186 yX7_placeOf) := ⟨List.mem_of_getElem? (i := 743) (by decide +kernel), by decide +kernel⟩
theorem zw_104 : zz_g (.methodLink RX7 192 yX3_linkageOf) := ⟨List.mem_of_getElem? (i := 752) (by decide +kernel), by decide +kernel⟩
theorem zw_105 : zz_g (.fieldLink RX7 195 "ChangeUntangler$Groups" "linkageOfLastJoin" "I") := ⟨List.mem_of_getElem? (i := 174) (by decide +kernel), by decide +kernel⟩
theorem zw_106 : zz_g (.methodLink RX7 201 yX5_isNeeded) := ⟨List.mem_of_getElem? (i := 760) (by decide +kernel), by decide +kernel⟩
theorem zw_107 : zz_g (.fieldLink RX7 198 "ChangeUntangler$Code" "definedNames" "I") := ⟨List.mem_of_getElem? (i := 124) (by decide +kernel), by decide +kernel⟩
theorem zw_108 : zz_g (.fieldLink RX7 205 "ChangeUntangler$Parcels" "count" "I") := ⟨List.mem_of_getElem? (i := 200) (by decide +kernel), by decide +kernel⟩
theorem zw_109 : zz_g (.fieldLink RX7 209 "ChangeUntangler$Parcels" "sets" "[I") := ⟨List.mem_of_getElem? (i := 204) (by decide +kernel), by decide +kernel⟩
theorem zw_110 : zz_g (.methodLink RX7 206 yX7_requireParcel) := ⟨List.mem_of_getElem? (i := 768) (by decide +kernel), by decide +kernel⟩
theorem zw_111 : zz_g (.fieldLink RX7 210 "ChangeUntangler$Parcels" "knotCount" "I") := ⟨List.mem_of_getElem? (i := 202) (by decide +kernel), by decide +kernel⟩
theorem zw_112 : zz_g (.methodLink RX7 213 yX5_linesOf) := ⟨List.mem_of_getElem? (i := 787) (by decide +kernel), by decide +kernel⟩
theorem zw_113 : zz_g (.methodLink RX1 29 yJ6_bitCount_0f7a4) := ⟨List.mem_of_getElem? (i := 413) (by decide +kernel), by decide +kernel⟩
theorem zw_114 : zz_g (.fieldLink RX1 23 "ChangeUntangler$Pieces" "piecesWith" "[[I") := ⟨List.mem_of_getElem? (i := 97) (by decide +kernel), by decide +kernel⟩
theorem zw_115 : zz_g (.methodLink RX7 223 yX1_brokenBy) := ⟨List.mem_of_getElem? (i := 409) (by decide +kernel), by decide +kernel⟩
theorem zw_116 : zz_g (.methodLink RX7 217 yX5_all) := ⟨List.mem_of_getElem? (i := 798) (by decide +kernel), by decide +kernel⟩
theorem zw_117 : zz_g (.methodLink RX7 285 yJ6_bitCount_0f7a4) := ⟨List.mem_of_getElem? (i := 414) (by decide +kernel), by decide +kernel⟩
theorem zw_118 : zz_g (.methodLink RX7 227 yX7_breakageInOrder) := ⟨List.mem_of_getElem? (i := 405) (by decide +kernel), by decide +kernel⟩
theorem zw_119 : zz_g (.methodLink RX0 24 yJ9_min_7cf53) := ⟨List.mem_of_getElem? (i := 819) (by decide +kernel), by decide +kernel⟩
theorem zw_120 : zz_g (.constant RX0 57 (1000000)) := ⟨List.mem_of_getElem? (i := 824) (by decide +kernel), by decide +kernel⟩
theorem zw_121 : zz_g (.fieldLink RX0 15 "ChangeUntangler$BestOrder" "fromThen" "[I") := ⟨List.mem_of_getElem? (i := 227) (by decide +kernel), by decide +kernel⟩
theorem zw_122 : zz_g (.fieldLink RX0 30 "ChangeUntangler$BestOrder" "length" "I") := ⟨List.mem_of_getElem? (i := 223) (by decide +kernel), by decide +kernel⟩
theorem zw_123 : zz_g (.methodLink RX0 46 yJ6_bitCount_0f7a4) := ⟨List.mem_of_getElem? (i := 831) (by decide +kernel), by decide +kernel⟩
theorem zw_124 : zz_g (.methodLink RX0 40 yX1_brokenBy) := ⟨List.mem_of_getElem? (i := 830) (by decide +kernel), by decide +kernel⟩
theorem zw_125 : zz_g (.methodLink RX0 37 yX4_piecesIn) := ⟨List.mem_of_getElem? (i := 826) (by decide +kernel), by decide +kernel⟩
theorem zw_126 : zz_g (.methodLink RX0 33 yX0_nextAfter) := ⟨List.mem_of_getElem? (i := 820) (by decide +kernel), by decide +kernel⟩
theorem zw_127 : zz_g (.fieldLink RX0 9 "ChangeUntangler$BestOrder" "order" "[I") := ⟨List.mem_of_getElem? (i := 225) (by decide +kernel), by decide +kernel⟩
theorem zw_128 : zz_g (.methodLink RX0 54 yX0_walk) := ⟨List.mem_of_getElem? (i := 832) (by decide +kernel), by decide +kernel⟩
theorem zw_129 : zz_g (.fieldLink RX0 51 "ChangeUntangler$BestOrder" "least" "I") := ⟨List.mem_of_getElem? (i := 221) (by decide +kernel), by decide +kernel⟩
theorem zw_130 : zz_g (.fieldLink RX0 18 "ChangeUntangler$Parcels" "count" "I") := ⟨List.mem_of_getElem? (i := 198) (by decide +kernel), by decide +kernel⟩
theorem zw_131 : zz_g (.methodLink RX7 292 yX0_find) := ⟨List.mem_of_getElem? (i := 815) (by decide +kernel), by decide +kernel⟩
theorem zw_132 : zz_g (.fieldLink RX7 54 "ChangeUntangler" "bestOrder" "LChangeUntangler$BestOrder;") := ⟨List.mem_of_getElem? (i := 243) (by decide +kernel), by decide +kernel⟩
theorem zw_133 : zz_g (.fieldLink RX7 233 "ChangeUntangler$BestOrder" "least" "I") := ⟨List.mem_of_getElem? (i := 222) (by decide +kernel), by decide +kernel⟩
theorem zw_134 : zz_g (.methodLink RX7 230 yX7_findBest) := ⟨List.mem_of_getElem? (i := 810) (by decide +kernel), by decide +kernel⟩
theorem zw_135 : zz_g (.fieldLink RX7 236 "ChangeUntangler$BestOrder" "length" "I") := ⟨List.mem_of_getElem? (i := 224) (by decide +kernel), by decide +kernel⟩
theorem zw_136 : zz_g (.fieldLink RX7 241 "ChangeUntangler$BestOrder" "order" "[I") := ⟨List.mem_of_getElem? (i := 226) (by decide +kernel), by decide +kernel⟩
theorem zw_137 : zz_g (.fieldLink RX7 246 "ChangeUntangler$Pieces" "purposes" "[I") := ⟨List.mem_of_getElem? (i := 93) (by decide +kernel), by decide +kernel⟩
theorem zw_138 : zz_g (.methodLink RX7 249 yX3_isTogether) := ⟨List.mem_of_getElem? (i := 419) (by decide +kernel), by decide +kernel⟩
theorem zw_139 : zz_g (.constantLong RX7 252 (173)) := ⟨List.mem_of_getElem? (i := 431) (by decide +kernel), by decide +kernel⟩
theorem zw_140 : zz_g (.constantLong RX7 315 (31)) := ⟨List.mem_of_getElem? (i := 439) (by decide +kernel), by decide +kernel⟩
theorem zw_141 : zz_g (.methodLink RX7 262 yX7_mix) := ⟨List.mem_of_getElem? (i := 443) (by decide +kernel), by decide +kernel⟩
theorem zw_142 : zz_g (.methodLink RX7 258 yX7_mixRow) := ⟨List.mem_of_getElem? (i := 440) (by decide +kernel), by decide +kernel⟩
theorem zw_143 : zz_g (.methodLink RX7 266 yX1_mixInto) := ⟨List.mem_of_getElem? (i := 444) (by decide +kernel), by decide +kernel⟩
theorem zw_144 : zz_g (.methodLink RX7 254 yX5_mixInto) := ⟨List.mem_of_getElem? (i := 432) (by decide +kernel), by decide +kernel⟩
theorem zw_145 : zz_g (.fieldLink RX8 63 "ChangeUntanglerModel" "thrown" "I") := ⟨List.mem_of_getElem? (i := 858) (by decide +kernel), by decide +kernel⟩
theorem zw_146 : zz_g (.methodLink RX8 69 yX8_isIn) := ⟨List.mem_of_getElem? (i := 931) (by decide +kernel), by decide +kernel⟩
theorem zw_147 : zz_g (.methodLink RX8 73 yX8_no) := ⟨List.mem_of_getElem? (i := 934) (by decide +kernel), by decide +kernel⟩
theorem zw_148 : zz_g (.fieldLink RX8 66 "ChangeUntanglerModel" "pieces" "I") := ⟨List.mem_of_getElem? (i := 859) (by decide +kernel), by decide +kernel⟩
theorem zw_149 : zz_g (.fieldLink RX8 13 "ChangeUntanglerModel" "names" "[I") := ⟨List.mem_of_getElem? (i := 861) (by decide +kernel), by decide +kernel⟩
theorem zw_150 : zz_g (.fieldLink RX8 19 "ChangeUntanglerModel" "said" "[I") := ⟨List.mem_of_getElem? (i := 863) (by decide +kernel), by decide +kernel⟩
theorem zw_151 : zz_g (.fieldLink RX8 16 "ChangeUntanglerModel" "purposes" "[I") := ⟨List.mem_of_getElem? (i := 862) (by decide +kernel), by decide +kernel⟩
theorem zw_152 : zz_g (.fieldLink RX8 9 "ChangeUntanglerModel" "places" "[I") := ⟨List.mem_of_getElem? (i := 860) (by decide +kernel), by decide +kernel⟩
theorem zw_153 : zz_g (.methodLink RX8 81 yX8_isKind) := ⟨List.mem_of_getElem? (i := 946) (by decide +kernel), by decide +kernel⟩
theorem zw_154 : zz_g (.methodLink RX8 77 yX8_isPiece) := ⟨List.mem_of_getElem? (i := 942) (by decide +kernel), by decide +kernel⟩
theorem zw_155 : zz_g (.constant RX8 84 (65535)) := ⟨List.mem_of_getElem? (i := 949) (by decide +kernel), by decide +kernel⟩
theorem zw_156 : zz_g (.methodLink RX8 85 yX8_namesOf) := ⟨List.mem_of_getElem? (i := 950) (by decide +kernel), by decide +kernel⟩
theorem zw_157 : zz_g (.fieldLink RX8 26 "ChangeUntanglerModel" "otherUses" "[I") := ⟨List.mem_of_getElem? (i := 865) (by decide +kernel), by decide +kernel⟩
theorem zw_158 : zz_g (.fieldLink RX8 22 "ChangeUntanglerModel" "areDefined" "[Z") := ⟨List.mem_of_getElem? (i := 864) (by decide +kernel), by decide +kernel⟩
theorem zw_159 : zz_g (.fieldLink RX8 29 "ChangeUntanglerModel" "weights" "[I") := ⟨List.mem_of_getElem? (i := 866) (by decide +kernel), by decide +kernel⟩
theorem zw_160 : zz_g (.fieldLink RX8 32 "ChangeUntanglerModel" "span" "I") := ⟨List.mem_of_getElem? (i := 867) (by decide +kernel), by decide +kernel⟩
theorem zw_161 : zz_g (.methodLink RX8 89 yJ6_bitCount_0f7a4) := ⟨List.mem_of_getElem? (i := 995) (by decide +kernel), by decide +kernel⟩
theorem zw_162 : zz_g (.methodLink RX8 103 yX8_allNames) := ⟨List.mem_of_getElem? (i := 996) (by decide +kernel), by decide +kernel⟩
theorem zw_163 : zz_g (.methodLink RX8 99 yX8_common) := ⟨List.mem_of_getElem? (i := 991) (by decide +kernel), by decide +kernel⟩
theorem zw_164 : zz_g (.methodLink RX8 94 yJ9_abs_0f7a4) := ⟨List.mem_of_getElem? (i := 990) (by decide +kernel), by decide +kernel⟩
theorem zw_165 : zz_g (.methodLink RX8 106 yX8_pointsOf) := ⟨List.mem_of_getElem? (i := 986) (by decide +kernel), by decide +kernel⟩
theorem zw_166 : zz_g (.methodLink RX8 110 yX8_arePieces) := ⟨List.mem_of_getElem? (i := 982) (by decide +kernel), by decide +kernel⟩
theorem zw_167 : zz_g (.methodLink RX8 114 yX8_affinityOf) := ⟨List.mem_of_getElem? (i := 1004) (by decide +kernel), by decide +kernel⟩
theorem zw_168 : zz_g (.fieldLink RX8 36 "ChangeUntanglerModel" "threshold" "I") := ⟨List.mem_of_getElem? (i := 868) (by decide +kernel), by decide +kernel⟩
theorem zw_169 : zz_g (.fieldLink RX8 39 "ChangeUntanglerModel" "manner" "I") := ⟨List.mem_of_getElem? (i := 869) (by decide +kernel), by decide +kernel⟩
theorem zw_170 : zz_g (.fieldLink RX8 42 "ChangeUntanglerModel" "heads" "[I") := ⟨List.mem_of_getElem? (i := 870) (by decide +kernel), by decide +kernel⟩
theorem zw_171 : zz_g (.methodLink RX8 123 yX8_saidOf) := ⟨List.mem_of_getElem? (i := 1024) (by decide +kernel), by decide +kernel⟩
theorem zw_172 : zz_g (.methodLink RX8 117 yJ9_max_7cf53) := ⟨List.mem_of_getElem? (i := 1040) (by decide +kernel), by decide +kernel⟩
theorem zw_173 : zz_g (.methodLink RX8 120 yJ9_min_7cf53) := ⟨List.mem_of_getElem? (i := 1041) (by decide +kernel), by decide +kernel⟩
theorem zw_174 : zz_g (.methodLink RX8 126 yX8_joinHeads) := ⟨List.mem_of_getElem? (i := 1036) (by decide +kernel), by decide +kernel⟩
theorem zw_175 : zz_g (.methodLink RX8 142 yX8_put) := ⟨List.mem_of_getElem? (i := 1028) (by decide +kernel), by decide +kernel⟩
theorem zw_176 : zz_g (.methodLink RX8 130 yX8_startGroups) := ⟨List.mem_of_getElem? (i := 1032) (by decide +kernel), by decide +kernel⟩
theorem zw_177 : zz_g (.fieldLink RX8 45 "ChangeUntanglerModel" "affinities" "[I") := ⟨List.mem_of_getElem? (i := 872) (by decide +kernel), by decide +kernel⟩
theorem zw_178 : zz_g (.methodLink RX8 139 yX8_linkageOf) := ⟨List.mem_of_getElem? (i := 1054) (by decide +kernel), by decide +kernel⟩
theorem zw_179 : zz_g (.methodLink RX8 136 yX8_areBarred) := ⟨List.mem_of_getElem? (i := 1050) (by decide +kernel), by decide +kernel⟩
theorem zw_180 : zz_g (.fieldLink RX8 133 "ChangeUntanglerModel" "last" "I") := ⟨List.mem_of_getElem? (i := 871) (by decide +kernel), by decide +kernel⟩
theorem zw_181 : zz_g (.methodLink RX8 149 yX8_countOf) := ⟨List.mem_of_getElem? (i := 1058) (by decide +kernel), by decide +kernel⟩
theorem zw_182 : zz_g (.methodLink RX8 146 yX8_makeGroups) := ⟨List.mem_of_getElem? (i := 1046) (by decide +kernel), by decide +kernel⟩
theorem zw_183 : zz_g (.methodLink RX8 157 yX8_setOf) := ⟨List.mem_of_getElem? (i := 1070) (by decide +kernel), by decide +kernel⟩
theorem zw_184 : zz_g (.methodLink RX8 153 yX8_headAt) := ⟨List.mem_of_getElem? (i := 1066) (by decide +kernel), by decide +kernel⟩
theorem zw_185 : zz_g (.methodLink RX8 160 yX8_indexOf) := ⟨List.mem_of_getElem? (i := 1078) (by decide +kernel), by decide +kernel⟩
theorem zw_186 : zz_g (.methodLink RX8 163 yX8_undefined) := ⟨List.mem_of_getElem? (i := 1098) (by decide +kernel), by decide +kernel⟩
theorem zw_187 : zz_g (.methodLink RX8 167 yX8_needsOf) := ⟨List.mem_of_getElem? (i := 1094) (by decide +kernel), by decide +kernel⟩
theorem zw_188 : zz_g (.fieldLink RX8 54 "ChangeUntanglerModel" "far" "[I") := ⟨List.mem_of_getElem? (i := 876) (by decide +kernel), by decide +kernel⟩
theorem zw_189 : zz_g (.methodLink RX8 170 yX8_has) := ⟨List.mem_of_getElem? (i := 1110) (by decide +kernel), by decide +kernel⟩
theorem zw_190 : zz_g (.fieldLink RX8 48 "ChangeUntanglerModel" "bundles" "[I") := ⟨List.mem_of_getElem? (i := 873) (by decide +kernel), by decide +kernel⟩
theorem zw_191 : zz_g (.fieldLink RX8 173 "ChangeUntanglerModel" "parcels" "I") := ⟨List.mem_of_getElem? (i := 875) (by decide +kernel), by decide +kernel⟩
theorem zw_192 : zz_g (.fieldLink RX8 51 "ChangeUntanglerModel" "order" "[I") := ⟨List.mem_of_getElem? (i := 874) (by decide +kernel), by decide +kernel⟩
theorem zw_193 : zz_g (.methodLink RX8 176 yX8_makeParcels) := ⟨List.mem_of_getElem? (i := 1106) (by decide +kernel), by decide +kernel⟩
theorem zw_194 : zz_g (.methodLink RX8 179 yX8_isParcel) := ⟨List.mem_of_getElem? (i := 1117) (by decide +kernel), by decide +kernel⟩
theorem zw_195 : zz_g (.methodLink RX8 182 yX8_isBroken) := ⟨List.mem_of_getElem? (i := 1141) (by decide +kernel), by decide +kernel⟩
theorem zw_196 : zz_g (.methodLink RX8 185 yX8_brokenBy) := ⟨List.mem_of_getElem? (i := 1137) (by decide +kernel), by decide +kernel⟩
theorem zw_197 : zz_g (.methodLink RX8 188 yX8_piecesOf) := ⟨List.mem_of_getElem? (i := 1153) (by decide +kernel), by decide +kernel⟩
theorem zw_198 : zz_g (.methodLink RX8 191 yX8_breakageOf) := ⟨List.mem_of_getElem? (i := 1149) (by decide +kernel), by decide +kernel⟩
theorem zw_199 : zz_g (.constant RX8 194 (2147483647)) := ⟨List.mem_of_getElem? (i := 1165) (by decide +kernel), by decide +kernel⟩
theorem zw_200 : zz_g (.fieldLink RX8 60 "ChangeUntanglerModel" "rests" "[I") := ⟨List.mem_of_getElem? (i := 878) (by decide +kernel), by decide +kernel⟩
theorem zw_201 : zz_g (.fieldLink RX8 57 "ChangeUntanglerModel" "counts" "[I") := ⟨List.mem_of_getElem? (i := 877) (by decide +kernel), by decide +kernel⟩
theorem zw_202 : zz_g (.methodLink RX8 195 yX8_findLeast) := ⟨List.mem_of_getElem? (i := 1161) (by decide +kernel), by decide +kernel⟩
theorem zw_203 : zz_g (.constantLong RX8 198 (5363)) := ⟨List.mem_of_getElem? (i := 1182) (by decide +kernel), by decide +kernel⟩
theorem zw_204 : zz_g (.constantLong RX8 200 (31)) := ⟨List.mem_of_getElem? (i := 1183) (by decide +kernel), by decide +kernel⟩
theorem zw_205 : zz_g (.classLink RX7 62 "java/lang/IllegalArgumentException") := ⟨List.mem_of_getElem? (i := 461) (by decide +kernel), by decide +kernel⟩
theorem zw_206 : zz_g (.classLink RX7 75 "java/lang/IllegalStateException") := ⟨List.mem_of_getElem? (i := 530) (by decide +kernel), by decide +kernel⟩
theorem zw_207 : zz_g (.classLink RX7 102 "java/lang/IndexOutOfBoundsException") := ⟨List.mem_of_getElem? (i := 574) (by decide +kernel), by decide +kernel⟩
theorem zy_X7_isUpTo : zz_YS yX7_isUpTo (.code yX7_isUpTo cX7_isUpTo 2 (some .boolean)) 2 := ⟨⟨List.mem_of_getElem? (i := 459) (by decide +kernel), by decide +kernel⟩, ⟨List.mem_of_getElem? (i := 460) (by decide +kernel), by decide +kernel⟩, ⟨List.mem_of_getElem? (i := 50) (by decide +kernel), by decide +kernel⟩, by decide +kernel, by decide +kernel, by decide +kernel⟩
theorem zy_X7_forgetResults : zz_YV yX7_forgetResults (.code yX7_forgetResults cX7_forgetResults 1 none) 0 := ⟨⟨List.mem_of_getElem? (i := 548) (by decide +kernel), by decide +kernel⟩, ⟨List.mem_of_getElem? (i := 12) (by decide +kernel), by decide +kernel⟩, ⟨List.mem_of_getElem? (i := 549) (by decide +kernel), by decide +kernel⟩, ⟨List.mem_of_getElem? (i := 50) (by decide +kernel), by decide +kernel⟩, by decide +kernel, by decide +kernel, by decide +kernel⟩
theorem zy_X5_append : zz_YV yX5_append (.code yX5_append cX5_append 6 (some .int)) 4 := ⟨⟨List.mem_of_getElem? (i := 551) (by decide +kernel), by decide +kernel⟩, ⟨List.mem_of_getElem? (i := 552) (by decide +kernel), by decide +kernel⟩, ⟨List.mem_of_getElem? (i := 553) (by decide +kernel), by decide +kernel⟩, ⟨List.mem_of_getElem? (i := 51) (by decide +kernel), by decide +kernel⟩, by decide +kernel, by decide +kernel, by decide +kernel⟩
theorem zy_X7_addPiece : zz_YV yX7_addPiece (.code yX7_addPiece cX7_addPiece 5 (some .int)) 4 := ⟨⟨List.mem_of_getElem? (i := 455) (by decide +kernel), by decide +kernel⟩, ⟨List.mem_of_getElem? (i := 456) (by decide +kernel), by decide +kernel⟩, ⟨List.mem_of_getElem? (i := 457) (by decide +kernel), by decide +kernel⟩, ⟨List.mem_of_getElem? (i := 50) (by decide +kernel), by decide +kernel⟩, by decide +kernel, by decide +kernel, by decide +kernel⟩
theorem zy_X5_has : zz_YV yX5_has (.code yX5_has cX5_has 2 (some .boolean)) 1 := ⟨⟨List.mem_of_getElem? (i := 571) (by decide +kernel), by decide +kernel⟩, ⟨List.mem_of_getElem? (i := 572) (by decide +kernel), by decide +kernel⟩, ⟨List.mem_of_getElem? (i := 573) (by decide +kernel), by decide +kernel⟩, ⟨List.mem_of_getElem? (i := 51) (by decide +kernel), by decide +kernel⟩, by decide +kernel, by decide +kernel, by decide +kernel⟩
theorem zy_X7_requirePiece : zz_YV yX7_requirePiece (.code yX7_requirePiece cX7_requirePiece 2 none) 1 := ⟨⟨List.mem_of_getElem? (i := 568) (by decide +kernel), by decide +kernel⟩, ⟨List.mem_of_getElem? (i := 14) (by decide +kernel), by decide +kernel⟩, ⟨List.mem_of_getElem? (i := 569) (by decide +kernel), by decide +kernel⟩, ⟨List.mem_of_getElem? (i := 50) (by decide +kernel), by decide +kernel⟩, by decide +kernel, by decide +kernel, by decide +kernel⟩
theorem zy_X7_requireSet : zz_YV yX7_requireSet (.code yX7_requireSet cX7_requireSet 3 none) 2 := ⟨⟨List.mem_of_getElem? (i := 564) (by decide +kernel), by decide +kernel⟩, ⟨List.mem_of_getElem? (i := 13) (by decide +kernel), by decide +kernel⟩, ⟨List.mem_of_getElem? (i := 565) (by decide +kernel), by decide +kernel⟩, ⟨List.mem_of_getElem? (i := 50) (by decide +kernel), by decide +kernel⟩, by decide +kernel, by decide +kernel, by decide +kernel⟩
theorem zy_X5_replaceNames : zz_YV yX5_replaceNames (.code yX5_replaceNames cX5_replaceNames 7 (some .int)) 3 := ⟨⟨List.mem_of_getElem? (i := 594) (by decide +kernel), by decide +kernel⟩, ⟨List.mem_of_getElem? (i := 595) (by decide +kernel), by decide +kernel⟩, ⟨List.mem_of_getElem? (i := 596) (by decide +kernel), by decide +kernel⟩, ⟨List.mem_of_getElem? (i := 51) (by decide +kernel), by decide +kernel⟩, by decide +kernel, by decide +kernel, by decide +kernel⟩
theorem zy_X7_setNames : zz_YV yX7_setNames (.code yX7_setNames cX7_setNames 4 (some .int)) 3 := ⟨⟨List.mem_of_getElem? (i := 559) (by decide +kernel), by decide +kernel⟩, ⟨List.mem_of_getElem? (i := 560) (by decide +kernel), by decide +kernel⟩, ⟨List.mem_of_getElem? (i := 561) (by decide +kernel), by decide +kernel⟩, ⟨List.mem_of_getElem? (i := 50) (by decide +kernel), by decide +kernel⟩, by decide +kernel, by decide +kernel, by decide +kernel⟩
theorem zy_X7_names : zz_YV yX7_names (.code yX7_names cX7_names 3 (some .int)) 2 := ⟨⟨List.mem_of_getElem? (i := 601) (by decide +kernel), by decide +kernel⟩, ⟨List.mem_of_getElem? (i := 602) (by decide +kernel), by decide +kernel⟩, ⟨List.mem_of_getElem? (i := 603) (by decide +kernel), by decide +kernel⟩, ⟨List.mem_of_getElem? (i := 50) (by decide +kernel), by decide +kernel⟩, by decide +kernel, by decide +kernel, by decide +kernel⟩
theorem zy_X7_isIn : zz_YS yX7_isIn (.code yX7_isIn cX7_isIn 2 (some .boolean)) 2 := ⟨⟨List.mem_of_getElem? (i := 327) (by decide +kernel), by decide +kernel⟩, ⟨List.mem_of_getElem? (i := 328) (by decide +kernel), by decide +kernel⟩, ⟨List.mem_of_getElem? (i := 50) (by decide +kernel), by decide +kernel⟩, by decide +kernel, by decide +kernel, by decide +kernel⟩
theorem zy_X1_learn : zz_YV yX1_learn (.code yX1_learn cX1_learn 5 (some .boolean)) 3 := ⟨⟨List.mem_of_getElem? (i := 614) (by decide +kernel), by decide +kernel⟩, ⟨List.mem_of_getElem? (i := 615) (by decide +kernel), by decide +kernel⟩, ⟨List.mem_of_getElem? (i := 616) (by decide +kernel), by decide +kernel⟩, ⟨List.mem_of_getElem? (i := 52) (by decide +kernel), by decide +kernel⟩, by decide +kernel, by decide +kernel, by decide +kernel⟩
theorem zy_X7_setName : zz_YV yX7_setName (.code yX7_setName cX7_setName 4 (some .boolean)) 3 := ⟨⟨List.mem_of_getElem? (i := 608) (by decide +kernel), by decide +kernel⟩, ⟨List.mem_of_getElem? (i := 609) (by decide +kernel), by decide +kernel⟩, ⟨List.mem_of_getElem? (i := 610) (by decide +kernel), by decide +kernel⟩, ⟨List.mem_of_getElem? (i := 50) (by decide +kernel), by decide +kernel⟩, by decide +kernel, by decide +kernel, by decide +kernel⟩
theorem zy_X5_removeLast : zz_YV yX5_removeLast (.code yX5_removeLast cX5_removeLast 2 none) 0 := ⟨⟨List.mem_of_getElem? (i := 627) (by decide +kernel), by decide +kernel⟩, ⟨List.mem_of_getElem? (i := 628) (by decide +kernel), by decide +kernel⟩, ⟨List.mem_of_getElem? (i := 629) (by decide +kernel), by decide +kernel⟩, ⟨List.mem_of_getElem? (i := 51) (by decide +kernel), by decide +kernel⟩, by decide +kernel, by decide +kernel, by decide +kernel⟩
theorem zy_X6_putOneWay : zz_YV yX6_putOneWay (.code yX6_putOneWay cX6_putOneWay 5 none) 3 := ⟨⟨List.mem_of_getElem? (i := 637) (by decide +kernel), by decide +kernel⟩, ⟨List.mem_of_getElem? (i := 15) (by decide +kernel), by decide +kernel⟩, ⟨List.mem_of_getElem? (i := 638) (by decide +kernel), by decide +kernel⟩, ⟨List.mem_of_getElem? (i := 54) (by decide +kernel), by decide +kernel⟩, by decide +kernel, by decide +kernel, by decide +kernel⟩
theorem zy_X6_forgetPiece : zz_YV yX6_forgetPiece (.code yX6_forgetPiece cX6_forgetPiece 3 none) 1 := ⟨⟨List.mem_of_getElem? (i := 632) (by decide +kernel), by decide +kernel⟩, ⟨List.mem_of_getElem? (i := 633) (by decide +kernel), by decide +kernel⟩, ⟨List.mem_of_getElem? (i := 634) (by decide +kernel), by decide +kernel⟩, ⟨List.mem_of_getElem? (i := 54) (by decide +kernel), by decide +kernel⟩, by decide +kernel, by decide +kernel, by decide +kernel⟩
theorem zy_X7_dropPiece : zz_YV yX7_dropPiece (.code yX7_dropPiece cX7_dropPiece 1 (some .int)) 0 := ⟨⟨List.mem_of_getElem? (i := 622) (by decide +kernel), by decide +kernel⟩, ⟨List.mem_of_getElem? (i := 623) (by decide +kernel), by decide +kernel⟩, ⟨List.mem_of_getElem? (i := 624) (by decide +kernel), by decide +kernel⟩, ⟨List.mem_of_getElem? (i := 50) (by decide +kernel), by decide +kernel⟩, by decide +kernel, by decide +kernel, by decide +kernel⟩
theorem zy_X7_pieceCount : zz_YV yX7_pieceCount (.code yX7_pieceCount cX7_pieceCount 1 (some .int)) 0 := ⟨⟨List.mem_of_getElem? (i := 266) (by decide +kernel), by decide +kernel⟩, ⟨List.mem_of_getElem? (i := 267) (by decide +kernel), by decide +kernel⟩, ⟨List.mem_of_getElem? (i := 268) (by decide +kernel), by decide +kernel⟩, ⟨List.mem_of_getElem? (i := 50) (by decide +kernel), by decide +kernel⟩, by decide +kernel, by decide +kernel, by decide +kernel⟩
theorem zy_X7_requireKind : zz_YS yX7_requireKind (.code yX7_requireKind cX7_requireKind 1 none) 1 := ⟨⟨List.mem_of_getElem? (i := 647) (by decide +kernel), by decide +kernel⟩, ⟨List.mem_of_getElem? (i := 648) (by decide +kernel), by decide +kernel⟩, ⟨List.mem_of_getElem? (i := 50) (by decide +kernel), by decide +kernel⟩, by decide +kernel, by decide +kernel, by decide +kernel⟩
theorem zy_X7_setWeight : zz_YV yX7_setWeight (.code yX7_setWeight cX7_setWeight 4 (some .int)) 2 := ⟨⟨List.mem_of_getElem? (i := 643) (by decide +kernel), by decide +kernel⟩, ⟨List.mem_of_getElem? (i := 644) (by decide +kernel), by decide +kernel⟩, ⟨List.mem_of_getElem? (i := 645) (by decide +kernel), by decide +kernel⟩, ⟨List.mem_of_getElem? (i := 50) (by decide +kernel), by decide +kernel⟩, by decide +kernel, by decide +kernel, by decide +kernel⟩
theorem zy_X7_setSpan : zz_YV yX7_setSpan (.code yX7_setSpan cX7_setSpan 3 (some .int)) 1 := ⟨⟨List.mem_of_getElem? (i := 655) (by decide +kernel), by decide +kernel⟩, ⟨List.mem_of_getElem? (i := 656) (by decide +kernel), by decide +kernel⟩, ⟨List.mem_of_getElem? (i := 657) (by decide +kernel), by decide +kernel⟩, ⟨List.mem_of_getElem? (i := 50) (by decide +kernel), by decide +kernel⟩, by decide +kernel, by decide +kernel, by decide +kernel⟩
theorem zy_X7_requireDifferent : zz_YS yX7_requireDifferent (.code yX7_requireDifferent cX7_requireDifferent 2 none) 2 := ⟨⟨List.mem_of_getElem? (i := 667) (by decide +kernel), by decide +kernel⟩, ⟨List.mem_of_getElem? (i := 668) (by decide +kernel), by decide +kernel⟩, ⟨List.mem_of_getElem? (i := 50) (by decide +kernel), by decide +kernel⟩, by decide +kernel, by decide +kernel, by decide +kernel⟩
theorem zy_X2_isNear : zz_YV yX2_isNear (.code yX2_isNear cX2_isNear 4 (some .boolean)) 3 := ⟨⟨List.mem_of_getElem? (i := 291) (by decide +kernel), by decide +kernel⟩, ⟨List.mem_of_getElem? (i := 1) (by decide +kernel), by decide +kernel⟩, ⟨List.mem_of_getElem? (i := 292) (by decide +kernel), by decide +kernel⟩, ⟨List.mem_of_getElem? (i := 53) (by decide +kernel), by decide +kernel⟩, by decide +kernel, by decide +kernel, by decide +kernel⟩
theorem zy_J6_bitCount_0f7a4 : zz_YS yJ6_bitCount_0f7a4 (.code yJ6_bitCount_0f7a4 cJ6_bitCount_0f7a4 1 (some .int)) 1 := ⟨⟨List.mem_of_getElem? (i := 301) (by decide +kernel), by decide +kernel⟩, ⟨List.mem_of_getElem? (i := 302) (by decide +kernel), by decide +kernel⟩, ⟨List.mem_of_getElem? (i := 66) (by decide +kernel), by decide +kernel⟩, by decide +kernel, by decide +kernel, by decide +kernel⟩
theorem zy_X5_crossings : zz_YV yX5_crossings (.code yX5_crossings cX5_crossings 5 (some .int)) 4 := ⟨⟨List.mem_of_getElem? (i := 297) (by decide +kernel), by decide +kernel⟩, ⟨List.mem_of_getElem? (i := 298) (by decide +kernel), by decide +kernel⟩, ⟨List.mem_of_getElem? (i := 299) (by decide +kernel), by decide +kernel⟩, ⟨List.mem_of_getElem? (i := 51) (by decide +kernel), by decide +kernel⟩, by decide +kernel, by decide +kernel, by decide +kernel⟩
theorem zy_X5_everyNameOf : zz_YV yX5_everyNameOf (.code yX5_everyNameOf cX5_everyNameOf 2 (some .int)) 1 := ⟨⟨List.mem_of_getElem? (i := 307) (by decide +kernel), by decide +kernel⟩, ⟨List.mem_of_getElem? (i := 308) (by decide +kernel), by decide +kernel⟩, ⟨List.mem_of_getElem? (i := 309) (by decide +kernel), by decide +kernel⟩, ⟨List.mem_of_getElem? (i := 51) (by decide +kernel), by decide +kernel⟩, by decide +kernel, by decide +kernel, by decide +kernel⟩
theorem zy_X2_shareOf : zz_YS yX2_shareOf (.code yX2_shareOf cX2_shareOf 4 (some .int)) 3 := ⟨⟨List.mem_of_getElem? (i := 311) (by decide +kernel), by decide +kernel⟩, ⟨List.mem_of_getElem? (i := 312) (by decide +kernel), by decide +kernel⟩, ⟨List.mem_of_getElem? (i := 53) (by decide +kernel), by decide +kernel⟩, by decide +kernel, by decide +kernel, by decide +kernel⟩
theorem zy_X2_pointsBy : zz_YV yX2_pointsBy (.code yX2_pointsBy cX2_pointsBy 5 (some .int)) 4 := ⟨⟨List.mem_of_getElem? (i := 286) (by decide +kernel), by decide +kernel⟩, ⟨List.mem_of_getElem? (i := 287) (by decide +kernel), by decide +kernel⟩, ⟨List.mem_of_getElem? (i := 288) (by decide +kernel), by decide +kernel⟩, ⟨List.mem_of_getElem? (i := 53) (by decide +kernel), by decide +kernel⟩, by decide +kernel, by decide +kernel, by decide +kernel⟩
theorem zy_X7_points : zz_YV yX7_points (.code yX7_points cX7_points 4 (some .int)) 3 := ⟨⟨List.mem_of_getElem? (i := 663) (by decide +kernel), by decide +kernel⟩, ⟨List.mem_of_getElem? (i := 664) (by decide +kernel), by decide +kernel⟩, ⟨List.mem_of_getElem? (i := 665) (by decide +kernel), by decide +kernel⟩, ⟨List.mem_of_getElem? (i := 50) (by decide +kernel), by decide +kernel⟩, by decide +kernel, by decide +kernel, by decide +kernel⟩
theorem zy_X2_sumOfPoints : zz_YV yX2_sumOfPoints (.code yX2_sumOfPoints cX2_sumOfPoints 6 (some .int)) 3 := ⟨⟨List.mem_of_getElem? (i := 282) (by decide +kernel), by decide +kernel⟩, ⟨List.mem_of_getElem? (i := 283) (by decide +kernel), by decide +kernel⟩, ⟨List.mem_of_getElem? (i := 284) (by decide +kernel), by decide +kernel⟩, ⟨List.mem_of_getElem? (i := 53) (by decide +kernel), by decide +kernel⟩, by decide +kernel, by decide +kernel, by decide +kernel⟩
theorem zy_X7_affinity : zz_YV yX7_affinity (.code yX7_affinity cX7_affinity 3 (some .int)) 2 := ⟨⟨List.mem_of_getElem? (i := 675) (by decide +kernel), by decide +kernel⟩, ⟨List.mem_of_getElem? (i := 676) (by decide +kernel), by decide +kernel⟩, ⟨List.mem_of_getElem? (i := 677) (by decide +kernel), by decide +kernel⟩, ⟨List.mem_of_getElem? (i := 50) (by decide +kernel), by decide +kernel⟩, by decide +kernel, by decide +kernel, by decide +kernel⟩
theorem zy_X7_closest : zz_YV yX7_closest (.code yX7_closest cX7_closest 6 (some .int)) 1 := ⟨⟨List.mem_of_getElem? (i := 683) (by decide +kernel), by decide +kernel⟩, ⟨List.mem_of_getElem? (i := 684) (by decide +kernel), by decide +kernel⟩, ⟨List.mem_of_getElem? (i := 685) (by decide +kernel), by decide +kernel⟩, ⟨List.mem_of_getElem? (i := 50) (by decide +kernel), by decide +kernel⟩, by decide +kernel, by decide +kernel, by decide +kernel⟩
theorem zy_X7_setThreshold : zz_YV yX7_setThreshold (.code yX7_setThreshold cX7_setThreshold 3 (some .int)) 1 := ⟨⟨List.mem_of_getElem? (i := 690) (by decide +kernel), by decide +kernel⟩, ⟨List.mem_of_getElem? (i := 691) (by decide +kernel), by decide +kernel⟩, ⟨List.mem_of_getElem? (i := 692) (by decide +kernel), by decide +kernel⟩, ⟨List.mem_of_getElem? (i := 50) (by decide +kernel), by decide +kernel⟩, by decide +kernel, by decide +kernel, by decide +kernel⟩
theorem zy_X7_setManner : zz_YV yX7_setManner (.code yX7_setManner cX7_setManner 3 (some .int)) 1 := ⟨⟨List.mem_of_getElem? (i := 698) (by decide +kernel), by decide +kernel⟩, ⟨List.mem_of_getElem? (i := 699) (by decide +kernel), by decide +kernel⟩, ⟨List.mem_of_getElem? (i := 700) (by decide +kernel), by decide +kernel⟩, ⟨List.mem_of_getElem? (i := 50) (by decide +kernel), by decide +kernel⟩, by decide +kernel, by decide +kernel, by decide +kernel⟩
theorem zy_X6_saidOf : zz_YV yX6_saidOf (.code yX6_saidOf cX6_saidOf 3 (some .int)) 2 := ⟨⟨List.mem_of_getElem? (i := 711) (by decide +kernel), by decide +kernel⟩, ⟨List.mem_of_getElem? (i := 712) (by decide +kernel), by decide +kernel⟩, ⟨List.mem_of_getElem? (i := 713) (by decide +kernel), by decide +kernel⟩, ⟨List.mem_of_getElem? (i := 54) (by decide +kernel), by decide +kernel⟩, by decide +kernel, by decide +kernel, by decide +kernel⟩
theorem zy_X6_put : zz_YV yX6_put (.code yX6_put cX6_put 4 none) 3 := ⟨⟨List.mem_of_getElem? (i := 715) (by decide +kernel), by decide +kernel⟩, ⟨List.mem_of_getElem? (i := 716) (by decide +kernel), by decide +kernel⟩, ⟨List.mem_of_getElem? (i := 717) (by decide +kernel), by decide +kernel⟩, ⟨List.mem_of_getElem? (i := 54) (by decide +kernel), by decide +kernel⟩, by decide +kernel, by decide +kernel, by decide +kernel⟩
theorem zy_X6_joinedTo : zz_YV yX6_joinedTo (.code yX6_joinedTo cX6_joinedTo 6 (some .int)) 1 := ⟨⟨List.mem_of_getElem? (i := 323) (by decide +kernel), by decide +kernel⟩, ⟨List.mem_of_getElem? (i := 324) (by decide +kernel), by decide +kernel⟩, ⟨List.mem_of_getElem? (i := 325) (by decide +kernel), by decide +kernel⟩, ⟨List.mem_of_getElem? (i := 54) (by decide +kernel), by decide +kernel⟩, by decide +kernel, by decide +kernel, by decide +kernel⟩
theorem zy_X6_isContradiction : zz_YV yX6_isContradiction (.code yX6_isContradiction cX6_isContradiction 2 (some .boolean)) 0 := ⟨⟨List.mem_of_getElem? (i := 719) (by decide +kernel), by decide +kernel⟩, ⟨List.mem_of_getElem? (i := 720) (by decide +kernel), by decide +kernel⟩, ⟨List.mem_of_getElem? (i := 721) (by decide +kernel), by decide +kernel⟩, ⟨List.mem_of_getElem? (i := 54) (by decide +kernel), by decide +kernel⟩, by decide +kernel, by decide +kernel, by decide +kernel⟩
theorem zy_X7_say : zz_YV yX7_say (.code yX7_say cX7_say 5 (some .int)) 3 := ⟨⟨List.mem_of_getElem? (i := 706) (by decide +kernel), by decide +kernel⟩, ⟨List.mem_of_getElem? (i := 707) (by decide +kernel), by decide +kernel⟩, ⟨List.mem_of_getElem? (i := 708) (by decide +kernel), by decide +kernel⟩, ⟨List.mem_of_getElem? (i := 50) (by decide +kernel), by decide +kernel⟩, by decide +kernel, by decide +kernel, by decide +kernel⟩
theorem zy_X3_weighAll : zz_YV yX3_weighAll (.code yX3_weighAll cX3_weighAll 6 none) 2 := ⟨⟨List.mem_of_getElem? (i := 278) (by decide +kernel), by decide +kernel⟩, ⟨List.mem_of_getElem? (i := 279) (by decide +kernel), by decide +kernel⟩, ⟨List.mem_of_getElem? (i := 280) (by decide +kernel), by decide +kernel⟩, ⟨List.mem_of_getElem? (i := 55) (by decide +kernel), by decide +kernel⟩, by decide +kernel, by decide +kernel, by decide +kernel⟩
theorem zy_X3_joinWhatMust : zz_YV yX3_joinWhatMust (.code yX3_joinWhatMust cX3_joinWhatMust 6 none) 2 := ⟨⟨List.mem_of_getElem? (i := 320) (by decide +kernel), by decide +kernel⟩, ⟨List.mem_of_getElem? (i := 2) (by decide +kernel), by decide +kernel⟩, ⟨List.mem_of_getElem? (i := 321) (by decide +kernel), by decide +kernel⟩, ⟨List.mem_of_getElem? (i := 55) (by decide +kernel), by decide +kernel⟩, by decide +kernel, by decide +kernel, by decide +kernel⟩
theorem zy_X6_isForbidden : zz_YV yX6_isForbidden (.code yX6_isForbidden cX6_isForbidden 4 (some .boolean)) 2 := ⟨⟨List.mem_of_getElem? (i := 334) (by decide +kernel), by decide +kernel⟩, ⟨List.mem_of_getElem? (i := 335) (by decide +kernel), by decide +kernel⟩, ⟨List.mem_of_getElem? (i := 336) (by decide +kernel), by decide +kernel⟩, ⟨List.mem_of_getElem? (i := 54) (by decide +kernel), by decide +kernel⟩, by decide +kernel, by decide +kernel, by decide +kernel⟩
theorem zy_X3_linkageOf : zz_YV yX3_linkageOf (.code yX3_linkageOf cX3_linkageOf 8 (some .int)) 2 := ⟨⟨List.mem_of_getElem? (i := 338) (by decide +kernel), by decide +kernel⟩, ⟨List.mem_of_getElem? (i := 339) (by decide +kernel), by decide +kernel⟩, ⟨List.mem_of_getElem? (i := 340) (by decide +kernel), by decide +kernel⟩, ⟨List.mem_of_getElem? (i := 55) (by decide +kernel), by decide +kernel⟩, by decide +kernel, by decide +kernel, by decide +kernel⟩
theorem zy_X3_join : zz_YV yX3_join (.code yX3_join cX3_join 4 none) 2 := ⟨⟨List.mem_of_getElem? (i := 352) (by decide +kernel), by decide +kernel⟩, ⟨List.mem_of_getElem? (i := 4) (by decide +kernel), by decide +kernel⟩, ⟨List.mem_of_getElem? (i := 353) (by decide +kernel), by decide +kernel⟩, ⟨List.mem_of_getElem? (i := 55) (by decide +kernel), by decide +kernel⟩, by decide +kernel, by decide +kernel, by decide +kernel⟩
theorem zy_X3_joinNearest : zz_YV yX3_joinNearest (.code yX3_joinNearest cX3_joinNearest 8 (some .boolean)) 1 := ⟨⟨List.mem_of_getElem? (i := 331) (by decide +kernel), by decide +kernel⟩, ⟨List.mem_of_getElem? (i := 3) (by decide +kernel), by decide +kernel⟩, ⟨List.mem_of_getElem? (i := 332) (by decide +kernel), by decide +kernel⟩, ⟨List.mem_of_getElem? (i := 55) (by decide +kernel), by decide +kernel⟩, by decide +kernel, by decide +kernel, by decide +kernel⟩
theorem zy_X3_build : zz_YV yX3_build (.code yX3_build cX3_build 5 none) 2 := ⟨⟨List.mem_of_getElem? (i := 315) (by decide +kernel), by decide +kernel⟩, ⟨List.mem_of_getElem? (i := 316) (by decide +kernel), by decide +kernel⟩, ⟨List.mem_of_getElem? (i := 317) (by decide +kernel), by decide +kernel⟩, ⟨List.mem_of_getElem? (i := 55) (by decide +kernel), by decide +kernel⟩, by decide +kernel, by decide +kernel, by decide +kernel⟩
theorem zy_X5_isNeeded : zz_YV yX5_isNeeded (.code yX5_isNeeded cX5_isNeeded 7 (some .boolean)) 3 := ⟨⟨List.mem_of_getElem? (i := 368) (by decide +kernel), by decide +kernel⟩, ⟨List.mem_of_getElem? (i := 369) (by decide +kernel), by decide +kernel⟩, ⟨List.mem_of_getElem? (i := 370) (by decide +kernel), by decide +kernel⟩, ⟨List.mem_of_getElem? (i := 51) (by decide +kernel), by decide +kernel⟩, by decide +kernel, by decide +kernel, by decide +kernel⟩
theorem zy_X5_neededBy : zz_YV yX5_neededBy (.code yX5_neededBy cX5_neededBy 6 (some .int)) 2 := ⟨⟨List.mem_of_getElem? (i := 363) (by decide +kernel), by decide +kernel⟩, ⟨List.mem_of_getElem? (i := 364) (by decide +kernel), by decide +kernel⟩, ⟨List.mem_of_getElem? (i := 365) (by decide +kernel), by decide +kernel⟩, ⟨List.mem_of_getElem? (i := 51) (by decide +kernel), by decide +kernel⟩, by decide +kernel, by decide +kernel, by decide +kernel⟩
theorem zy_X4_findNeeds : zz_YV yX4_findNeeds (.code yX4_findNeeds cX4_findNeeds 7 none) 3 := ⟨⟨List.mem_of_getElem? (i := 360) (by decide +kernel), by decide +kernel⟩, ⟨List.mem_of_getElem? (i := 5) (by decide +kernel), by decide +kernel⟩, ⟨List.mem_of_getElem? (i := 361) (by decide +kernel), by decide +kernel⟩, ⟨List.mem_of_getElem? (i := 56) (by decide +kernel), by decide +kernel⟩, by decide +kernel, by decide +kernel, by decide +kernel⟩
theorem zy_X4_needByWayOfOthers : zz_YV yX4_needByWayOfOthers (.code yX4_needByWayOfOthers cX4_needByWayOfOthers 4 none) 1 := ⟨⟨List.mem_of_getElem? (i := 373) (by decide +kernel), by decide +kernel⟩, ⟨List.mem_of_getElem? (i := 6) (by decide +kernel), by decide +kernel⟩, ⟨List.mem_of_getElem? (i := 374) (by decide +kernel), by decide +kernel⟩, ⟨List.mem_of_getElem? (i := 56) (by decide +kernel), by decide +kernel⟩, by decide +kernel, by decide +kernel, by decide +kernel⟩
theorem zy_X4_circleOf : zz_YV yX4_circleOf (.code yX4_circleOf cX4_circleOf 5 (some .int)) 2 := ⟨⟨List.mem_of_getElem? (i := 382) (by decide +kernel), by decide +kernel⟩, ⟨List.mem_of_getElem? (i := 8) (by decide +kernel), by decide +kernel⟩, ⟨List.mem_of_getElem? (i := 383) (by decide +kernel), by decide +kernel⟩, ⟨List.mem_of_getElem? (i := 56) (by decide +kernel), by decide +kernel⟩, by decide +kernel, by decide +kernel, by decide +kernel⟩
theorem zy_X4_nextCircle : zz_YV yX4_nextCircle (.code yX4_nextCircle cX4_nextCircle 6 (some .int)) 2 := ⟨⟨List.mem_of_getElem? (i := 378) (by decide +kernel), by decide +kernel⟩, ⟨List.mem_of_getElem? (i := 7) (by decide +kernel), by decide +kernel⟩, ⟨List.mem_of_getElem? (i := 379) (by decide +kernel), by decide +kernel⟩, ⟨List.mem_of_getElem? (i := 56) (by decide +kernel), by decide +kernel⟩, by decide +kernel, by decide +kernel, by decide +kernel⟩
theorem zy_X4_append : zz_YV yX4_append (.code yX4_append cX4_append 4 none) 2 := ⟨⟨List.mem_of_getElem? (i := 386) (by decide +kernel), by decide +kernel⟩, ⟨List.mem_of_getElem? (i := 9) (by decide +kernel), by decide +kernel⟩, ⟨List.mem_of_getElem? (i := 387) (by decide +kernel), by decide +kernel⟩, ⟨List.mem_of_getElem? (i := 56) (by decide +kernel), by decide +kernel⟩, by decide +kernel, by decide +kernel, by decide +kernel⟩
theorem zy_X4_build : zz_YV yX4_build (.code yX4_build cX4_build 7 none) 3 := ⟨⟨List.mem_of_getElem? (i := 355) (by decide +kernel), by decide +kernel⟩, ⟨List.mem_of_getElem? (i := 356) (by decide +kernel), by decide +kernel⟩, ⟨List.mem_of_getElem? (i := 357) (by decide +kernel), by decide +kernel⟩, ⟨List.mem_of_getElem? (i := 56) (by decide +kernel), by decide +kernel⟩, by decide +kernel, by decide +kernel, by decide +kernel⟩
theorem zy_X7_putTogether : zz_YV yX7_putTogether (.code yX7_putTogether cX7_putTogether 1 none) 0 := ⟨⟨List.mem_of_getElem? (i := 275) (by decide +kernel), by decide +kernel⟩, ⟨List.mem_of_getElem? (i := 0) (by decide +kernel), by decide +kernel⟩, ⟨List.mem_of_getElem? (i := 276) (by decide +kernel), by decide +kernel⟩, ⟨List.mem_of_getElem? (i := 50) (by decide +kernel), by decide +kernel⟩, by decide +kernel, by decide +kernel, by decide +kernel⟩
theorem zy_X7_groupCount : zz_YV yX7_groupCount (.code yX7_groupCount cX7_groupCount 1 (some .int)) 0 := ⟨⟨List.mem_of_getElem? (i := 270) (by decide +kernel), by decide +kernel⟩, ⟨List.mem_of_getElem? (i := 271) (by decide +kernel), by decide +kernel⟩, ⟨List.mem_of_getElem? (i := 272) (by decide +kernel), by decide +kernel⟩, ⟨List.mem_of_getElem? (i := 50) (by decide +kernel), by decide +kernel⟩, by decide +kernel, by decide +kernel, by decide +kernel⟩
theorem zy_X7_requireGroup : zz_YV yX7_requireGroup (.code yX7_requireGroup cX7_requireGroup 2 none) 1 := ⟨⟨List.mem_of_getElem? (i := 733) (by decide +kernel), by decide +kernel⟩, ⟨List.mem_of_getElem? (i := 16) (by decide +kernel), by decide +kernel⟩, ⟨List.mem_of_getElem? (i := 734) (by decide +kernel), by decide +kernel⟩, ⟨List.mem_of_getElem? (i := 50) (by decide +kernel), by decide +kernel⟩, by decide +kernel, by decide +kernel, by decide +kernel⟩
theorem zy_X7_group : zz_YV yX7_group (.code yX7_group cX7_group 2 (some .int)) 1 := ⟨⟨List.mem_of_getElem? (i := 728) (by decide +kernel), by decide +kernel⟩, ⟨List.mem_of_getElem? (i := 729) (by decide +kernel), by decide +kernel⟩, ⟨List.mem_of_getElem? (i := 730) (by decide +kernel), by decide +kernel⟩, ⟨List.mem_of_getElem? (i := 50) (by decide +kernel), by decide +kernel⟩, by decide +kernel, by decide +kernel, by decide +kernel⟩
theorem zy_X7_placeOf : zz_YS yX7_placeOf (.code yX7_placeOf cX7_placeOf 4 (some .int)) 3 := ⟨⟨List.mem_of_getElem? (i := 424) (by decide +kernel), by decide +kernel⟩, ⟨List.mem_of_getElem? (i := 425) (by decide +kernel), by decide +kernel⟩, ⟨List.mem_of_getElem? (i := 50) (by decide +kernel), by decide +kernel⟩, by decide +kernel, by decide +kernel, by decide +kernel⟩
theorem zy_X7_groupOf : zz_YV yX7_groupOf (.code yX7_groupOf cX7_groupOf 2 (some .int)) 1 := ⟨⟨List.mem_of_getElem? (i := 740) (by decide +kernel), by decide +kernel⟩, ⟨List.mem_of_getElem? (i := 741) (by decide +kernel), by decide +kernel⟩, ⟨List.mem_of_getElem? (i := 742) (by decide +kernel), by decide +kernel⟩, ⟨List.mem_of_getElem? (i := 50) (by decide +kernel), by decide +kernel⟩, by decide +kernel, by decide +kernel, by decide +kernel⟩
theorem zy_X7_linkage : zz_YV yX7_linkage (.code yX7_linkage cX7_linkage 3 (some .int)) 2 := ⟨⟨List.mem_of_getElem? (i := 748) (by decide +kernel), by decide +kernel⟩, ⟨List.mem_of_getElem? (i := 749) (by decide +kernel), by decide +kernel⟩, ⟨List.mem_of_getElem? (i := 750) (by decide +kernel), by decide +kernel⟩, ⟨List.mem_of_getElem? (i := 50) (by decide +kernel), by decide +kernel⟩, by decide +kernel, by decide +kernel, by decide +kernel⟩
theorem zy_X7_lastLinkage : zz_YV yX7_lastLinkage (.code yX7_lastLinkage cX7_lastLinkage 1 (some .int)) 0 := ⟨⟨List.mem_of_getElem? (i := 390) (by decide +kernel), by decide +kernel⟩, ⟨List.mem_of_getElem? (i := 391) (by decide +kernel), by decide +kernel⟩, ⟨List.mem_of_getElem? (i := 392) (by decide +kernel), by decide +kernel⟩, ⟨List.mem_of_getElem? (i := 50) (by decide +kernel), by decide +kernel⟩, by decide +kernel, by decide +kernel, by decide +kernel⟩
theorem zy_X7_needs : zz_YV yX7_needs (.code yX7_needs cX7_needs 3 (some .boolean)) 2 := ⟨⟨List.mem_of_getElem? (i := 757) (by decide +kernel), by decide +kernel⟩, ⟨List.mem_of_getElem? (i := 758) (by decide +kernel), by decide +kernel⟩, ⟨List.mem_of_getElem? (i := 759) (by decide +kernel), by decide +kernel⟩, ⟨List.mem_of_getElem? (i := 50) (by decide +kernel), by decide +kernel⟩, by decide +kernel, by decide +kernel, by decide +kernel⟩
theorem zy_X7_parcelCount : zz_YV yX7_parcelCount (.code yX7_parcelCount cX7_parcelCount 1 (some .int)) 0 := ⟨⟨List.mem_of_getElem? (i := 394) (by decide +kernel), by decide +kernel⟩, ⟨List.mem_of_getElem? (i := 395) (by decide +kernel), by decide +kernel⟩, ⟨List.mem_of_getElem? (i := 396) (by decide +kernel), by decide +kernel⟩, ⟨List.mem_of_getElem? (i := 50) (by decide +kernel), by decide +kernel⟩, by decide +kernel, by decide +kernel, by decide +kernel⟩
theorem zy_X7_requireParcel : zz_YV yX7_requireParcel (.code yX7_requireParcel cX7_requireParcel 2 none) 1 := ⟨⟨List.mem_of_getElem? (i := 770) (by decide +kernel), by decide +kernel⟩, ⟨List.mem_of_getElem? (i := 17) (by decide +kernel), by decide +kernel⟩, ⟨List.mem_of_getElem? (i := 771) (by decide +kernel), by decide +kernel⟩, ⟨List.mem_of_getElem? (i := 50) (by decide +kernel), by decide +kernel⟩, by decide +kernel, by decide +kernel, by decide +kernel⟩
theorem zy_X7_parcel : zz_YV yX7_parcel (.code yX7_parcel cX7_parcel 2 (some .int)) 1 := ⟨⟨List.mem_of_getElem? (i := 765) (by decide +kernel), by decide +kernel⟩, ⟨List.mem_of_getElem? (i := 766) (by decide +kernel), by decide +kernel⟩, ⟨List.mem_of_getElem? (i := 767) (by decide +kernel), by decide +kernel⟩, ⟨List.mem_of_getElem? (i := 50) (by decide +kernel), by decide +kernel⟩, by decide +kernel, by decide +kernel, by decide +kernel⟩
theorem zy_X7_parcelOf : zz_YV yX7_parcelOf (.code yX7_parcelOf cX7_parcelOf 2 (some .int)) 1 := ⟨⟨List.mem_of_getElem? (i := 777) (by decide +kernel), by decide +kernel⟩, ⟨List.mem_of_getElem? (i := 778) (by decide +kernel), by decide +kernel⟩, ⟨List.mem_of_getElem? (i := 779) (by decide +kernel), by decide +kernel⟩, ⟨List.mem_of_getElem? (i := 50) (by decide +kernel), by decide +kernel⟩, by decide +kernel, by decide +kernel, by decide +kernel⟩
theorem zy_X7_knots : zz_YV yX7_knots (.code yX7_knots cX7_knots 1 (some .int)) 0 := ⟨⟨List.mem_of_getElem? (i := 398) (by decide +kernel), by decide +kernel⟩, ⟨List.mem_of_getElem? (i := 399) (by decide +kernel), by decide +kernel⟩, ⟨List.mem_of_getElem? (i := 400) (by decide +kernel), by decide +kernel⟩, ⟨List.mem_of_getElem? (i := 50) (by decide +kernel), by decide +kernel⟩, by decide +kernel, by decide +kernel, by decide +kernel⟩
theorem zy_X5_linesOf : zz_YV yX5_linesOf (.code yX5_linesOf cX5_linesOf 4 (some .int)) 1 := ⟨⟨List.mem_of_getElem? (i := 788) (by decide +kernel), by decide +kernel⟩, ⟨List.mem_of_getElem? (i := 789) (by decide +kernel), by decide +kernel⟩, ⟨List.mem_of_getElem? (i := 790) (by decide +kernel), by decide +kernel⟩, ⟨List.mem_of_getElem? (i := 51) (by decide +kernel), by decide +kernel⟩, by decide +kernel, by decide +kernel, by decide +kernel⟩
theorem zy_X7_lines : zz_YV yX7_lines (.code yX7_lines cX7_lines 2 (some .int)) 1 := ⟨⟨List.mem_of_getElem? (i := 784) (by decide +kernel), by decide +kernel⟩, ⟨List.mem_of_getElem? (i := 785) (by decide +kernel), by decide +kernel⟩, ⟨List.mem_of_getElem? (i := 786) (by decide +kernel), by decide +kernel⟩, ⟨List.mem_of_getElem? (i := 50) (by decide +kernel), by decide +kernel⟩, by decide +kernel, by decide +kernel, by decide +kernel⟩
theorem zy_X5_all : zz_YV yX5_all (.code yX5_all cX5_all 1 (some .int)) 0 := ⟨⟨List.mem_of_getElem? (i := 799) (by decide +kernel), by decide +kernel⟩, ⟨List.mem_of_getElem? (i := 800) (by decide +kernel), by decide +kernel⟩, ⟨List.mem_of_getElem? (i := 801) (by decide +kernel), by decide +kernel⟩, ⟨List.mem_of_getElem? (i := 51) (by decide +kernel), by decide +kernel⟩, by decide +kernel, by decide +kernel, by decide +kernel⟩
theorem zy_X1_brokenBy : zz_YV yX1_brokenBy (.code yX1_brokenBy cX1_brokenBy 7 (some .int)) 2 := ⟨⟨List.mem_of_getElem? (i := 410) (by decide +kernel), by decide +kernel⟩, ⟨List.mem_of_getElem? (i := 411) (by decide +kernel), by decide +kernel⟩, ⟨List.mem_of_getElem? (i := 412) (by decide +kernel), by decide +kernel⟩, ⟨List.mem_of_getElem? (i := 52) (by decide +kernel), by decide +kernel⟩, by decide +kernel, by decide +kernel, by decide +kernel⟩
theorem zy_X7_broken : zz_YV yX7_broken (.code yX7_broken cX7_broken 2 (some .int)) 1 := ⟨⟨List.mem_of_getElem? (i := 795) (by decide +kernel), by decide +kernel⟩, ⟨List.mem_of_getElem? (i := 796) (by decide +kernel), by decide +kernel⟩, ⟨List.mem_of_getElem? (i := 797) (by decide +kernel), by decide +kernel⟩, ⟨List.mem_of_getElem? (i := 50) (by decide +kernel), by decide +kernel⟩, by decide +kernel, by decide +kernel, by decide +kernel⟩
theorem zy_X7_breakageInOrder : zz_YV yX7_breakageInOrder (.code yX7_breakageInOrder cX7_breakageInOrder 4 (some .int)) 0 := ⟨⟨List.mem_of_getElem? (i := 407) (by decide +kernel), by decide +kernel⟩, ⟨List.mem_of_getElem? (i := 10) (by decide +kernel), by decide +kernel⟩, ⟨List.mem_of_getElem? (i := 408) (by decide +kernel), by decide +kernel⟩, ⟨List.mem_of_getElem? (i := 50) (by decide +kernel), by decide +kernel⟩, by decide +kernel, by decide +kernel, by decide +kernel⟩
theorem zy_X7_breakage : zz_YV yX7_breakage (.code yX7_breakage cX7_breakage 1 (some .int)) 0 := ⟨⟨List.mem_of_getElem? (i := 402) (by decide +kernel), by decide +kernel⟩, ⟨List.mem_of_getElem? (i := 403) (by decide +kernel), by decide +kernel⟩, ⟨List.mem_of_getElem? (i := 404) (by decide +kernel), by decide +kernel⟩, ⟨List.mem_of_getElem? (i := 50) (by decide +kernel), by decide +kernel⟩, by decide +kernel, by decide +kernel, by decide +kernel⟩
theorem zy_X0_nextAfter : zz_YV yX0_nextAfter (.code yX0_nextAfter cX0_nextAfter 5 (some .int)) 1 := ⟨⟨List.mem_of_getElem? (i := 822) (by decide +kernel), by decide +kernel⟩, ⟨List.mem_of_getElem? (i := 19) (by decide +kernel), by decide +kernel⟩, ⟨List.mem_of_getElem? (i := 823) (by decide +kernel), by decide +kernel⟩, ⟨List.mem_of_getElem? (i := 57) (by decide +kernel), by decide +kernel⟩, by decide +kernel, by decide +kernel, by decide +kernel⟩
theorem zy_X4_piecesIn : zz_YV yX4_piecesIn (.code yX4_piecesIn cX4_piecesIn 4 (some .int)) 1 := ⟨⟨List.mem_of_getElem? (i := 827) (by decide +kernel), by decide +kernel⟩, ⟨List.mem_of_getElem? (i := 828) (by decide +kernel), by decide +kernel⟩, ⟨List.mem_of_getElem? (i := 829) (by decide +kernel), by decide +kernel⟩, ⟨List.mem_of_getElem? (i := 56) (by decide +kernel), by decide +kernel⟩, by decide +kernel, by decide +kernel, by decide +kernel⟩
theorem zy_X0_walk : zz_YV yX0_walk (.code yX0_walk cX0_walk 4 none) 0 := ⟨⟨List.mem_of_getElem? (i := 834) (by decide +kernel), by decide +kernel⟩, ⟨List.mem_of_getElem? (i := 20) (by decide +kernel), by decide +kernel⟩, ⟨List.mem_of_getElem? (i := 835) (by decide +kernel), by decide +kernel⟩, ⟨List.mem_of_getElem? (i := 57) (by decide +kernel), by decide +kernel⟩, by decide +kernel, by decide +kernel, by decide +kernel⟩
theorem zy_X0_find : zz_YV yX0_find (.code yX0_find cX0_find 8 none) 3 := ⟨⟨List.mem_of_getElem? (i := 816) (by decide +kernel), by decide +kernel⟩, ⟨List.mem_of_getElem? (i := 817) (by decide +kernel), by decide +kernel⟩, ⟨List.mem_of_getElem? (i := 818) (by decide +kernel), by decide +kernel⟩, ⟨List.mem_of_getElem? (i := 57) (by decide +kernel), by decide +kernel⟩, by decide +kernel, by decide +kernel, by decide +kernel⟩
theorem zy_X7_findBest : zz_YV yX7_findBest (.code yX7_findBest cX7_findBest 1 none) 0 := ⟨⟨List.mem_of_getElem? (i := 812) (by decide +kernel), by decide +kernel⟩, ⟨List.mem_of_getElem? (i := 18) (by decide +kernel), by decide +kernel⟩, ⟨List.mem_of_getElem? (i := 813) (by decide +kernel), by decide +kernel⟩, ⟨List.mem_of_getElem? (i := 50) (by decide +kernel), by decide +kernel⟩, by decide +kernel, by decide +kernel, by decide +kernel⟩
theorem zy_X7_leastBreakage : zz_YV yX7_leastBreakage (.code yX7_leastBreakage cX7_leastBreakage 1 (some .int)) 0 := ⟨⟨List.mem_of_getElem? (i := 807) (by decide +kernel), by decide +kernel⟩, ⟨List.mem_of_getElem? (i := 808) (by decide +kernel), by decide +kernel⟩, ⟨List.mem_of_getElem? (i := 809) (by decide +kernel), by decide +kernel⟩, ⟨List.mem_of_getElem? (i := 50) (by decide +kernel), by decide +kernel⟩, by decide +kernel, by decide +kernel, by decide +kernel⟩
theorem zy_X7_best : zz_YV yX7_best (.code yX7_best cX7_best 2 (some .int)) 1 := ⟨⟨List.mem_of_getElem? (i := 840) (by decide +kernel), by decide +kernel⟩, ⟨List.mem_of_getElem? (i := 841) (by decide +kernel), by decide +kernel⟩, ⟨List.mem_of_getElem? (i := 842) (by decide +kernel), by decide +kernel⟩, ⟨List.mem_of_getElem? (i := 50) (by decide +kernel), by decide +kernel⟩, by decide +kernel, by decide +kernel, by decide +kernel⟩
theorem zy_X7_setPurpose : zz_YV yX7_setPurpose (.code yX7_setPurpose cX7_setPurpose 4 (some .int)) 2 := ⟨⟨List.mem_of_getElem? (i := 848) (by decide +kernel), by decide +kernel⟩, ⟨List.mem_of_getElem? (i := 849) (by decide +kernel), by decide +kernel⟩, ⟨List.mem_of_getElem? (i := 850) (by decide +kernel), by decide +kernel⟩, ⟨List.mem_of_getElem? (i := 50) (by decide +kernel), by decide +kernel⟩, by decide +kernel, by decide +kernel, by decide +kernel⟩
theorem zy_X3_isTogether : zz_YV yX3_isTogether (.code yX3_isTogether cX3_isTogether 3 (some .boolean)) 2 := ⟨⟨List.mem_of_getElem? (i := 420) (by decide +kernel), by decide +kernel⟩, ⟨List.mem_of_getElem? (i := 421) (by decide +kernel), by decide +kernel⟩, ⟨List.mem_of_getElem? (i := 422) (by decide +kernel), by decide +kernel⟩, ⟨List.mem_of_getElem? (i := 55) (by decide +kernel), by decide +kernel⟩, by decide +kernel, by decide +kernel, by decide +kernel⟩
theorem zy_X7_agreement : zz_YV yX7_agreement (.code yX7_agreement cX7_agreement 6 (some .double)) 0 := ⟨⟨List.mem_of_getElem? (i := 416) (by decide +kernel), by decide +kernel⟩, ⟨List.mem_of_getElem? (i := 417) (by decide +kernel), by decide +kernel⟩, ⟨List.mem_of_getElem? (i := 418) (by decide +kernel), by decide +kernel⟩, ⟨List.mem_of_getElem? (i := 50) (by decide +kernel), by decide +kernel⟩, by decide +kernel, by decide +kernel, by decide +kernel⟩
theorem zy_X7_mix : zz_YS yX7_mix (.code yX7_mix cX7_mix 4 (some .long)) 2 := ⟨⟨List.mem_of_getElem? (i := 437) (by decide +kernel), by decide +kernel⟩, ⟨List.mem_of_getElem? (i := 438) (by decide +kernel), by decide +kernel⟩, ⟨List.mem_of_getElem? (i := 50) (by decide +kernel), by decide +kernel⟩, by decide +kernel, by decide +kernel, by decide +kernel⟩
theorem zy_X5_mixInto : zz_YV yX5_mixInto (.code yX5_mixInto cX5_mixInto 7 (some .long)) 1 := ⟨⟨List.mem_of_getElem? (i := 433) (by decide +kernel), by decide +kernel⟩, ⟨List.mem_of_getElem? (i := 434) (by decide +kernel), by decide +kernel⟩, ⟨List.mem_of_getElem? (i := 435) (by decide +kernel), by decide +kernel⟩, ⟨List.mem_of_getElem? (i := 51) (by decide +kernel), by decide +kernel⟩, by decide +kernel, by decide +kernel, by decide +kernel⟩
theorem zy_X7_mixRow : zz_YS yX7_mixRow (.code yX7_mixRow cX7_mixRow 7 (some .long)) 3 := ⟨⟨List.mem_of_getElem? (i := 441) (by decide +kernel), by decide +kernel⟩, ⟨List.mem_of_getElem? (i := 442) (by decide +kernel), by decide +kernel⟩, ⟨List.mem_of_getElem? (i := 50) (by decide +kernel), by decide +kernel⟩, by decide +kernel, by decide +kernel, by decide +kernel⟩
theorem zy_X1_mixInto : zz_YV yX1_mixInto (.code yX1_mixInto cX1_mixInto 6 (some .long)) 1 := ⟨⟨List.mem_of_getElem? (i := 445) (by decide +kernel), by decide +kernel⟩, ⟨List.mem_of_getElem? (i := 446) (by decide +kernel), by decide +kernel⟩, ⟨List.mem_of_getElem? (i := 447) (by decide +kernel), by decide +kernel⟩, ⟨List.mem_of_getElem? (i := 52) (by decide +kernel), by decide +kernel⟩, by decide +kernel, by decide +kernel, by decide +kernel⟩
theorem zy_X7_digest : zz_YV yX7_digest (.code yX7_digest cX7_digest 3 (some .long)) 0 := ⟨⟨List.mem_of_getElem? (i := 428) (by decide +kernel), by decide +kernel⟩, ⟨List.mem_of_getElem? (i := 429) (by decide +kernel), by decide +kernel⟩, ⟨List.mem_of_getElem? (i := 430) (by decide +kernel), by decide +kernel⟩, ⟨List.mem_of_getElem? (i := 50) (by decide +kernel), by decide +kernel⟩, by decide +kernel, by decide +kernel, by decide +kernel⟩
theorem zy_X8_thrown : zz_YV yX8_thrown (.code yX8_thrown cX8_thrown 1 (some .int)) 0 := ⟨⟨List.mem_of_getElem? (i := 924) (by decide +kernel), by decide +kernel⟩, ⟨List.mem_of_getElem? (i := 925) (by decide +kernel), by decide +kernel⟩, ⟨List.mem_of_getElem? (i := 926) (by decide +kernel), by decide +kernel⟩, ⟨List.mem_of_getElem? (i := 58) (by decide +kernel), by decide +kernel⟩, by decide +kernel, by decide +kernel, by decide +kernel⟩
theorem zy_X8_isIn : zz_YS yX8_isIn (.code yX8_isIn cX8_isIn 3 (some .boolean)) 3 := ⟨⟨List.mem_of_getElem? (i := 932) (by decide +kernel), by decide +kernel⟩, ⟨List.mem_of_getElem? (i := 933) (by decide +kernel), by decide +kernel⟩, ⟨List.mem_of_getElem? (i := 58) (by decide +kernel), by decide +kernel⟩, by decide +kernel, by decide +kernel, by decide +kernel⟩
theorem zy_X8_no : zz_YV yX8_no (.code yX8_no cX8_no 2 (some .int)) 1 := ⟨⟨List.mem_of_getElem? (i := 936) (by decide +kernel), by decide +kernel⟩, ⟨List.mem_of_getElem? (i := 21) (by decide +kernel), by decide +kernel⟩, ⟨List.mem_of_getElem? (i := 937) (by decide +kernel), by decide +kernel⟩, ⟨List.mem_of_getElem? (i := 58) (by decide +kernel), by decide +kernel⟩, by decide +kernel, by decide +kernel, by decide +kernel⟩
theorem zy_X8_addPiece : zz_YV yX8_addPiece (.code yX8_addPiece cX8_addPiece 7 (some .int)) 4 := ⟨⟨List.mem_of_getElem? (i := 928) (by decide +kernel), by decide +kernel⟩, ⟨List.mem_of_getElem? (i := 929) (by decide +kernel), by decide +kernel⟩, ⟨List.mem_of_getElem? (i := 930) (by decide +kernel), by decide +kernel⟩, ⟨List.mem_of_getElem? (i := 58) (by decide +kernel), by decide +kernel⟩, by decide +kernel, by decide +kernel, by decide +kernel⟩
theorem zy_X8_isPiece : zz_YV yX8_isPiece (.code yX8_isPiece cX8_isPiece 2 (some .boolean)) 1 := ⟨⟨List.mem_of_getElem? (i := 944) (by decide +kernel), by decide +kernel⟩, ⟨List.mem_of_getElem? (i := 22) (by decide +kernel), by decide +kernel⟩, ⟨List.mem_of_getElem? (i := 945) (by decide +kernel), by decide +kernel⟩, ⟨List.mem_of_getElem? (i := 58) (by decide +kernel), by decide +kernel⟩, by decide +kernel, by decide +kernel, by decide +kernel⟩
theorem zy_X8_isKind : zz_YS yX8_isKind (.code yX8_isKind cX8_isKind 1 (some .boolean)) 1 := ⟨⟨List.mem_of_getElem? (i := 947) (by decide +kernel), by decide +kernel⟩, ⟨List.mem_of_getElem? (i := 948) (by decide +kernel), by decide +kernel⟩, ⟨List.mem_of_getElem? (i := 58) (by decide +kernel), by decide +kernel⟩, by decide +kernel, by decide +kernel, by decide +kernel⟩
theorem zy_X8_namesOf : zz_YV yX8_namesOf (.code yX8_namesOf cX8_namesOf 3 (some .int)) 2 := ⟨⟨List.mem_of_getElem? (i := 952) (by decide +kernel), by decide +kernel⟩, ⟨List.mem_of_getElem? (i := 23) (by decide +kernel), by decide +kernel⟩, ⟨List.mem_of_getElem? (i := 953) (by decide +kernel), by decide +kernel⟩, ⟨List.mem_of_getElem? (i := 58) (by decide +kernel), by decide +kernel⟩, by decide +kernel, by decide +kernel, by decide +kernel⟩
theorem zy_X8_setNames : zz_YV yX8_setNames (.code yX8_setNames cX8_setNames 5 (some .int)) 3 := ⟨⟨List.mem_of_getElem? (i := 939) (by decide +kernel), by decide +kernel⟩, ⟨List.mem_of_getElem? (i := 940) (by decide +kernel), by decide +kernel⟩, ⟨List.mem_of_getElem? (i := 941) (by decide +kernel), by decide +kernel⟩, ⟨List.mem_of_getElem? (i := 58) (by decide +kernel), by decide +kernel⟩, by decide +kernel, by decide +kernel, by decide +kernel⟩
theorem zy_X8_names : zz_YV yX8_names (.code yX8_names cX8_names 3 (some .int)) 2 := ⟨⟨List.mem_of_getElem? (i := 955) (by decide +kernel), by decide +kernel⟩, ⟨List.mem_of_getElem? (i := 956) (by decide +kernel), by decide +kernel⟩, ⟨List.mem_of_getElem? (i := 957) (by decide +kernel), by decide +kernel⟩, ⟨List.mem_of_getElem? (i := 58) (by decide +kernel), by decide +kernel⟩, by decide +kernel, by decide +kernel, by decide +kernel⟩
theorem zy_X8_setName : zz_YV yX8_setName (.code yX8_setName cX8_setName 5 (some .boolean)) 3 := ⟨⟨List.mem_of_getElem? (i := 959) (by decide +kernel), by decide +kernel⟩, ⟨List.mem_of_getElem? (i := 960) (by decide +kernel), by decide +kernel⟩, ⟨List.mem_of_getElem? (i := 961) (by decide +kernel), by decide +kernel⟩, ⟨List.mem_of_getElem? (i := 58) (by decide +kernel), by decide +kernel⟩, by decide +kernel, by decide +kernel, by decide +kernel⟩
theorem zy_X8_dropPiece : zz_YV yX8_dropPiece (.code yX8_dropPiece cX8_dropPiece 1 (some .int)) 0 := ⟨⟨List.mem_of_getElem? (i := 963) (by decide +kernel), by decide +kernel⟩, ⟨List.mem_of_getElem? (i := 964) (by decide +kernel), by decide +kernel⟩, ⟨List.mem_of_getElem? (i := 965) (by decide +kernel), by decide +kernel⟩, ⟨List.mem_of_getElem? (i := 58) (by decide +kernel), by decide +kernel⟩, by decide +kernel, by decide +kernel, by decide +kernel⟩
theorem zy_X8_pieceCount : zz_YV yX8_pieceCount (.code yX8_pieceCount cX8_pieceCount 1 (some .int)) 0 := ⟨⟨List.mem_of_getElem? (i := 967) (by decide +kernel), by decide +kernel⟩, ⟨List.mem_of_getElem? (i := 968) (by decide +kernel), by decide +kernel⟩, ⟨List.mem_of_getElem? (i := 969) (by decide +kernel), by decide +kernel⟩, ⟨List.mem_of_getElem? (i := 58) (by decide +kernel), by decide +kernel⟩, by decide +kernel, by decide +kernel, by decide +kernel⟩
theorem zy_X8_setWeight : zz_YV yX8_setWeight (.code yX8_setWeight cX8_setWeight 4 (some .int)) 2 := ⟨⟨List.mem_of_getElem? (i := 971) (by decide +kernel), by decide +kernel⟩, ⟨List.mem_of_getElem? (i := 972) (by decide +kernel), by decide +kernel⟩, ⟨List.mem_of_getElem? (i := 973) (by decide +kernel), by decide +kernel⟩, ⟨List.mem_of_getElem? (i := 58) (by decide +kernel), by decide +kernel⟩, by decide +kernel, by decide +kernel, by decide +kernel⟩
theorem zy_X8_setSpan : zz_YV yX8_setSpan (.code yX8_setSpan cX8_setSpan 3 (some .int)) 1 := ⟨⟨List.mem_of_getElem? (i := 975) (by decide +kernel), by decide +kernel⟩, ⟨List.mem_of_getElem? (i := 976) (by decide +kernel), by decide +kernel⟩, ⟨List.mem_of_getElem? (i := 977) (by decide +kernel), by decide +kernel⟩, ⟨List.mem_of_getElem? (i := 58) (by decide +kernel), by decide +kernel⟩, by decide +kernel, by decide +kernel, by decide +kernel⟩
theorem zy_X8_arePieces : zz_YV yX8_arePieces (.code yX8_arePieces cX8_arePieces 3 (some .boolean)) 2 := ⟨⟨List.mem_of_getElem? (i := 984) (by decide +kernel), by decide +kernel⟩, ⟨List.mem_of_getElem? (i := 24) (by decide +kernel), by decide +kernel⟩, ⟨List.mem_of_getElem? (i := 985) (by decide +kernel), by decide +kernel⟩, ⟨List.mem_of_getElem? (i := 58) (by decide +kernel), by decide +kernel⟩, by decide +kernel, by decide +kernel, by decide +kernel⟩
theorem zy_X8_allNames : zz_YV yX8_allNames (.code yX8_allNames cX8_allNames 4 (some .int)) 1 := ⟨⟨List.mem_of_getElem? (i := 998) (by decide +kernel), by decide +kernel⟩, ⟨List.mem_of_getElem? (i := 27) (by decide +kernel), by decide +kernel⟩, ⟨List.mem_of_getElem? (i := 999) (by decide +kernel), by decide +kernel⟩, ⟨List.mem_of_getElem? (i := 58) (by decide +kernel), by decide +kernel⟩, by decide +kernel, by decide +kernel, by decide +kernel⟩
theorem zy_X8_common : zz_YV yX8_common (.code yX8_common cX8_common 5 (some .int)) 4 := ⟨⟨List.mem_of_getElem? (i := 993) (by decide +kernel), by decide +kernel⟩, ⟨List.mem_of_getElem? (i := 26) (by decide +kernel), by decide +kernel⟩, ⟨List.mem_of_getElem? (i := 994) (by decide +kernel), by decide +kernel⟩, ⟨List.mem_of_getElem? (i := 58) (by decide +kernel), by decide +kernel⟩, by decide +kernel, by decide +kernel, by decide +kernel⟩
theorem zy_X8_pointsOf : zz_YV yX8_pointsOf (.code yX8_pointsOf cX8_pointsOf 6 (some .int)) 3 := ⟨⟨List.mem_of_getElem? (i := 988) (by decide +kernel), by decide +kernel⟩, ⟨List.mem_of_getElem? (i := 25) (by decide +kernel), by decide +kernel⟩, ⟨List.mem_of_getElem? (i := 989) (by decide +kernel), by decide +kernel⟩, ⟨List.mem_of_getElem? (i := 58) (by decide +kernel), by decide +kernel⟩, by decide +kernel, by decide +kernel, by decide +kernel⟩
theorem zy_X8_points : zz_YV yX8_points (.code yX8_points cX8_points 4 (some .int)) 3 := ⟨⟨List.mem_of_getElem? (i := 979) (by decide +kernel), by decide +kernel⟩, ⟨List.mem_of_getElem? (i := 980) (by decide +kernel), by decide +kernel⟩, ⟨List.mem_of_getElem? (i := 981) (by decide +kernel), by decide +kernel⟩, ⟨List.mem_of_getElem? (i := 58) (by decide +kernel), by decide +kernel⟩, by decide +kernel, by decide +kernel, by decide +kernel⟩
theorem zy_X8_affinityOf : zz_YV yX8_affinityOf (.code yX8_affinityOf cX8_affinityOf 5 (some .int)) 2 := ⟨⟨List.mem_of_getElem? (i := 1006) (by decide +kernel), by decide +kernel⟩, ⟨List.mem_of_getElem? (i := 28) (by decide +kernel), by decide +kernel⟩, ⟨List.mem_of_getElem? (i := 1007) (by decide +kernel), by decide +kernel⟩, ⟨List.mem_of_getElem? (i := 58) (by decide +kernel), by decide +kernel⟩, by decide +kernel, by decide +kernel, by decide +kernel⟩
theorem zy_X8_affinity : zz_YV yX8_affinity (.code yX8_affinity cX8_affinity 3 (some .int)) 2 := ⟨⟨List.mem_of_getElem? (i := 1001) (by decide +kernel), by decide +kernel⟩, ⟨List.mem_of_getElem? (i := 1002) (by decide +kernel), by decide +kernel⟩, ⟨List.mem_of_getElem? (i := 1003) (by decide +kernel), by decide +kernel⟩, ⟨List.mem_of_getElem? (i := 58) (by decide +kernel), by decide +kernel⟩, by decide +kernel, by decide +kernel, by decide +kernel⟩
theorem zy_X8_closest : zz_YV yX8_closest (.code yX8_closest cX8_closest 4 (some .int)) 1 := ⟨⟨List.mem_of_getElem? (i := 1009) (by decide +kernel), by decide +kernel⟩, ⟨List.mem_of_getElem? (i := 1010) (by decide +kernel), by decide +kernel⟩, ⟨List.mem_of_getElem? (i := 1011) (by decide +kernel), by decide +kernel⟩, ⟨List.mem_of_getElem? (i := 58) (by decide +kernel), by decide +kernel⟩, by decide +kernel, by decide +kernel, by decide +kernel⟩
theorem zy_X8_setThreshold : zz_YV yX8_setThreshold (.code yX8_setThreshold cX8_setThreshold 3 (some .int)) 1 := ⟨⟨List.mem_of_getElem? (i := 1013) (by decide +kernel), by decide +kernel⟩, ⟨List.mem_of_getElem? (i := 1014) (by decide +kernel), by decide +kernel⟩, ⟨List.mem_of_getElem? (i := 1015) (by decide +kernel), by decide +kernel⟩, ⟨List.mem_of_getElem? (i := 58) (by decide +kernel), by decide +kernel⟩, by decide +kernel, by decide +kernel, by decide +kernel⟩
theorem zy_X8_setManner : zz_YV yX8_setManner (.code yX8_setManner cX8_setManner 3 (some .int)) 1 := ⟨⟨List.mem_of_getElem? (i := 1017) (by decide +kernel), by decide +kernel⟩, ⟨List.mem_of_getElem? (i := 1018) (by decide +kernel), by decide +kernel⟩, ⟨List.mem_of_getElem? (i := 1019) (by decide +kernel), by decide +kernel⟩, ⟨List.mem_of_getElem? (i := 58) (by decide +kernel), by decide +kernel⟩, by decide +kernel, by decide +kernel, by decide +kernel⟩
theorem zy_X8_saidOf : zz_YV yX8_saidOf (.code yX8_saidOf cX8_saidOf 3 (some .int)) 2 := ⟨⟨List.mem_of_getElem? (i := 1026) (by decide +kernel), by decide +kernel⟩, ⟨List.mem_of_getElem? (i := 29) (by decide +kernel), by decide +kernel⟩, ⟨List.mem_of_getElem? (i := 1027) (by decide +kernel), by decide +kernel⟩, ⟨List.mem_of_getElem? (i := 58) (by decide +kernel), by decide +kernel⟩, by decide +kernel, by decide +kernel, by decide +kernel⟩
theorem zy_X8_put : zz_YV yX8_put (.code yX8_put cX8_put 4 none) 3 := ⟨⟨List.mem_of_getElem? (i := 1030) (by decide +kernel), by decide +kernel⟩, ⟨List.mem_of_getElem? (i := 30) (by decide +kernel), by decide +kernel⟩, ⟨List.mem_of_getElem? (i := 1031) (by decide +kernel), by decide +kernel⟩, ⟨List.mem_of_getElem? (i := 58) (by decide +kernel), by decide +kernel⟩, by decide +kernel, by decide +kernel, by decide +kernel⟩
theorem zy_X8_joinHeads : zz_YV yX8_joinHeads (.code yX8_joinHeads cX8_joinHeads 4 none) 2 := ⟨⟨List.mem_of_getElem? (i := 1038) (by decide +kernel), by decide +kernel⟩, ⟨List.mem_of_getElem? (i := 32) (by decide +kernel), by decide +kernel⟩, ⟨List.mem_of_getElem? (i := 1039) (by decide +kernel), by decide +kernel⟩, ⟨List.mem_of_getElem? (i := 58) (by decide +kernel), by decide +kernel⟩, by decide +kernel, by decide +kernel, by decide +kernel⟩
theorem zy_X8_startGroups : zz_YV yX8_startGroups (.code yX8_startGroups cX8_startGroups 3 none) 0 := ⟨⟨List.mem_of_getElem? (i := 1034) (by decide +kernel), by decide +kernel⟩, ⟨List.mem_of_getElem? (i := 31) (by decide +kernel), by decide +kernel⟩, ⟨List.mem_of_getElem? (i := 1035) (by decide +kernel), by decide +kernel⟩, ⟨List.mem_of_getElem? (i := 58) (by decide +kernel), by decide +kernel⟩, by decide +kernel, by decide +kernel, by decide +kernel⟩
theorem zy_X8_say : zz_YV yX8_say (.code yX8_say cX8_say 7 (some .int)) 3 := ⟨⟨List.mem_of_getElem? (i := 1021) (by decide +kernel), by decide +kernel⟩, ⟨List.mem_of_getElem? (i := 1022) (by decide +kernel), by decide +kernel⟩, ⟨List.mem_of_getElem? (i := 1023) (by decide +kernel), by decide +kernel⟩, ⟨List.mem_of_getElem? (i := 58) (by decide +kernel), by decide +kernel⟩, by decide +kernel, by decide +kernel, by decide +kernel⟩
theorem zy_X8_areBarred : zz_YV yX8_areBarred (.code yX8_areBarred cX8_areBarred 6 (some .boolean)) 2 := ⟨⟨List.mem_of_getElem? (i := 1052) (by decide +kernel), by decide +kernel⟩, ⟨List.mem_of_getElem? (i := 34) (by decide +kernel), by decide +kernel⟩, ⟨List.mem_of_getElem? (i := 1053) (by decide +kernel), by decide +kernel⟩, ⟨List.mem_of_getElem? (i := 58) (by decide +kernel), by decide +kernel⟩, by decide +kernel, by decide +kernel, by decide +kernel⟩
theorem zy_X8_linkageOf : zz_YV yX8_linkageOf (.code yX8_linkageOf cX8_linkageOf 10 (some .int)) 2 := ⟨⟨List.mem_of_getElem? (i := 1056) (by decide +kernel), by decide +kernel⟩, ⟨List.mem_of_getElem? (i := 35) (by decide +kernel), by decide +kernel⟩, ⟨List.mem_of_getElem? (i := 1057) (by decide +kernel), by decide +kernel⟩, ⟨List.mem_of_getElem? (i := 58) (by decide +kernel), by decide +kernel⟩, by decide +kernel, by decide +kernel, by decide +kernel⟩
theorem zy_X8_makeGroups : zz_YV yX8_makeGroups (.code yX8_makeGroups cX8_makeGroups 7 none) 0 := ⟨⟨List.mem_of_getElem? (i := 1048) (by decide +kernel), by decide +kernel⟩, ⟨List.mem_of_getElem? (i := 33) (by decide +kernel), by decide +kernel⟩, ⟨List.mem_of_getElem? (i := 1049) (by decide +kernel), by decide +kernel⟩, ⟨List.mem_of_getElem? (i := 58) (by decide +kernel), by decide +kernel⟩, by decide +kernel, by decide +kernel, by decide +kernel⟩
theorem zy_X8_countOf : zz_YV yX8_countOf (.code yX8_countOf cX8_countOf 4 (some .int)) 1 := ⟨⟨List.mem_of_getElem? (i := 1060) (by decide +kernel), by decide +kernel⟩, ⟨List.mem_of_getElem? (i := 36) (by decide +kernel), by decide +kernel⟩, ⟨List.mem_of_getElem? (i := 1061) (by decide +kernel), by decide +kernel⟩, ⟨List.mem_of_getElem? (i := 58) (by decide +kernel), by decide +kernel⟩, by decide +kernel, by decide +kernel, by decide +kernel⟩
theorem zy_X8_groupCount : zz_YV yX8_groupCount (.code yX8_groupCount cX8_groupCount 1 (some .int)) 0 := ⟨⟨List.mem_of_getElem? (i := 1043) (by decide +kernel), by decide +kernel⟩, ⟨List.mem_of_getElem? (i := 1044) (by decide +kernel), by decide +kernel⟩, ⟨List.mem_of_getElem? (i := 1045) (by decide +kernel), by decide +kernel⟩, ⟨List.mem_of_getElem? (i := 58) (by decide +kernel), by decide +kernel⟩, by decide +kernel, by decide +kernel, by decide +kernel⟩
theorem zy_X8_headAt : zz_YV yX8_headAt (.code yX8_headAt cX8_headAt 5 (some .int)) 2 := ⟨⟨List.mem_of_getElem? (i := 1068) (by decide +kernel), by decide +kernel⟩, ⟨List.mem_of_getElem? (i := 37) (by decide +kernel), by decide +kernel⟩, ⟨List.mem_of_getElem? (i := 1069) (by decide +kernel), by decide +kernel⟩, ⟨List.mem_of_getElem? (i := 58) (by decide +kernel), by decide +kernel⟩, by decide +kernel, by decide +kernel, by decide +kernel⟩
theorem zy_X8_setOf : zz_YV yX8_setOf (.code yX8_setOf cX8_setOf 5 (some .int)) 2 := ⟨⟨List.mem_of_getElem? (i := 1072) (by decide +kernel), by decide +kernel⟩, ⟨List.mem_of_getElem? (i := 38) (by decide +kernel), by decide +kernel⟩, ⟨List.mem_of_getElem? (i := 1073) (by decide +kernel), by decide +kernel⟩, ⟨List.mem_of_getElem? (i := 58) (by decide +kernel), by decide +kernel⟩, by decide +kernel, by decide +kernel, by decide +kernel⟩
theorem zy_X8_group : zz_YV yX8_group (.code yX8_group cX8_group 3 (some .int)) 1 := ⟨⟨List.mem_of_getElem? (i := 1063) (by decide +kernel), by decide +kernel⟩, ⟨List.mem_of_getElem? (i := 1064) (by decide +kernel), by decide +kernel⟩, ⟨List.mem_of_getElem? (i := 1065) (by decide +kernel), by decide +kernel⟩, ⟨List.mem_of_getElem? (i := 58) (by decide +kernel), by decide +kernel⟩, by decide +kernel, by decide +kernel, by decide +kernel⟩
theorem zy_X8_indexOf : zz_YV yX8_indexOf (.code yX8_indexOf cX8_indexOf 5 (some .int)) 2 := ⟨⟨List.mem_of_getElem? (i := 1080) (by decide +kernel), by decide +kernel⟩, ⟨List.mem_of_getElem? (i := 39) (by decide +kernel), by decide +kernel⟩, ⟨List.mem_of_getElem? (i := 1081) (by decide +kernel), by decide +kernel⟩, ⟨List.mem_of_getElem? (i := 58) (by decide +kernel), by decide +kernel⟩, by decide +kernel, by decide +kernel, by decide +kernel⟩
theorem zy_X8_groupOf : zz_YV yX8_groupOf (.code yX8_groupOf cX8_groupOf 2 (some .int)) 1 := ⟨⟨List.mem_of_getElem? (i := 1075) (by decide +kernel), by decide +kernel⟩, ⟨List.mem_of_getElem? (i := 1076) (by decide +kernel), by decide +kernel⟩, ⟨List.mem_of_getElem? (i := 1077) (by decide +kernel), by decide +kernel⟩, ⟨List.mem_of_getElem? (i := 58) (by decide +kernel), by decide +kernel⟩, by decide +kernel, by decide +kernel, by decide +kernel⟩
theorem zy_X8_linkage : zz_YV yX8_linkage (.code yX8_linkage cX8_linkage 5 (some .int)) 2 := ⟨⟨List.mem_of_getElem? (i := 1083) (by decide +kernel), by decide +kernel⟩, ⟨List.mem_of_getElem? (i := 1084) (by decide +kernel), by decide +kernel⟩, ⟨List.mem_of_getElem? (i := 1085) (by decide +kernel), by decide +kernel⟩, ⟨List.mem_of_getElem? (i := 58) (by decide +kernel), by decide +kernel⟩, by decide +kernel, by decide +kernel, by decide +kernel⟩
theorem zy_X8_lastLinkage : zz_YV yX8_lastLinkage (.code yX8_lastLinkage cX8_lastLinkage 1 (some .int)) 0 := ⟨⟨List.mem_of_getElem? (i := 1087) (by decide +kernel), by decide +kernel⟩, ⟨List.mem_of_getElem? (i := 1088) (by decide +kernel), by decide +kernel⟩, ⟨List.mem_of_getElem? (i := 1089) (by decide +kernel), by decide +kernel⟩, ⟨List.mem_of_getElem? (i := 58) (by decide +kernel), by decide +kernel⟩, by decide +kernel, by decide +kernel, by decide +kernel⟩
theorem zy_X8_undefined : zz_YV yX8_undefined (.code yX8_undefined cX8_undefined 3 (some .int)) 0 := ⟨⟨List.mem_of_getElem? (i := 1100) (by decide +kernel), by decide +kernel⟩, ⟨List.mem_of_getElem? (i := 41) (by decide +kernel), by decide +kernel⟩, ⟨List.mem_of_getElem? (i := 1101) (by decide +kernel), by decide +kernel⟩, ⟨List.mem_of_getElem? (i := 58) (by decide +kernel), by decide +kernel⟩, by decide +kernel, by decide +kernel, by decide +kernel⟩
theorem zy_X8_needsOf : zz_YV yX8_needsOf (.code yX8_needsOf cX8_needsOf 4 (some .boolean)) 2 := ⟨⟨List.mem_of_getElem? (i := 1096) (by decide +kernel), by decide +kernel⟩, ⟨List.mem_of_getElem? (i := 40) (by decide +kernel), by decide +kernel⟩, ⟨List.mem_of_getElem? (i := 1097) (by decide +kernel), by decide +kernel⟩, ⟨List.mem_of_getElem? (i := 58) (by decide +kernel), by decide +kernel⟩, by decide +kernel, by decide +kernel, by decide +kernel⟩
theorem zy_X8_needs : zz_YV yX8_needs (.code yX8_needs cX8_needs 3 (some .boolean)) 2 := ⟨⟨List.mem_of_getElem? (i := 1091) (by decide +kernel), by decide +kernel⟩, ⟨List.mem_of_getElem? (i := 1092) (by decide +kernel), by decide +kernel⟩, ⟨List.mem_of_getElem? (i := 1093) (by decide +kernel), by decide +kernel⟩, ⟨List.mem_of_getElem? (i := 58) (by decide +kernel), by decide +kernel⟩, by decide +kernel, by decide +kernel, by decide +kernel⟩
theorem zy_X8_has : zz_YS yX8_has (.code yX8_has cX8_has 2 (some .boolean)) 2 := ⟨⟨List.mem_of_getElem? (i := 1111) (by decide +kernel), by decide +kernel⟩, ⟨List.mem_of_getElem? (i := 1112) (by decide +kernel), by decide +kernel⟩, ⟨List.mem_of_getElem? (i := 58) (by decide +kernel), by decide +kernel⟩, by decide +kernel, by decide +kernel, by decide +kernel⟩
theorem zy_X8_makeParcels : zz_YV yX8_makeParcels (.code yX8_makeParcels cX8_makeParcels 4 none) 0 := ⟨⟨List.mem_of_getElem? (i := 1108) (by decide +kernel), by decide +kernel⟩, ⟨List.mem_of_getElem? (i := 42) (by decide +kernel), by decide +kernel⟩, ⟨List.mem_of_getElem? (i := 1109) (by decide +kernel), by decide +kernel⟩, ⟨List.mem_of_getElem? (i := 58) (by decide +kernel), by decide +kernel⟩, by decide +kernel, by decide +kernel, by decide +kernel⟩
theorem zy_X8_parcelCount : zz_YV yX8_parcelCount (.code yX8_parcelCount cX8_parcelCount 1 (some .int)) 0 := ⟨⟨List.mem_of_getElem? (i := 1103) (by decide +kernel), by decide +kernel⟩, ⟨List.mem_of_getElem? (i := 1104) (by decide +kernel), by decide +kernel⟩, ⟨List.mem_of_getElem? (i := 1105) (by decide +kernel), by decide +kernel⟩, ⟨List.mem_of_getElem? (i := 58) (by decide +kernel), by decide +kernel⟩, by decide +kernel, by decide +kernel, by decide +kernel⟩
theorem zy_X8_isParcel : zz_YV yX8_isParcel (.code yX8_isParcel cX8_isParcel 2 (some .boolean)) 1 := ⟨⟨List.mem_of_getElem? (i := 1119) (by decide +kernel), by decide +kernel⟩, ⟨List.mem_of_getElem? (i := 43) (by decide +kernel), by decide +kernel⟩, ⟨List.mem_of_getElem? (i := 1120) (by decide +kernel), by decide +kernel⟩, ⟨List.mem_of_getElem? (i := 58) (by decide +kernel), by decide +kernel⟩, by decide +kernel, by decide +kernel, by decide +kernel⟩
theorem zy_X8_parcel : zz_YV yX8_parcel (.code yX8_parcel cX8_parcel 2 (some .int)) 1 := ⟨⟨List.mem_of_getElem? (i := 1114) (by decide +kernel), by decide +kernel⟩, ⟨List.mem_of_getElem? (i := 1115) (by decide +kernel), by decide +kernel⟩, ⟨List.mem_of_getElem? (i := 1116) (by decide +kernel), by decide +kernel⟩, ⟨List.mem_of_getElem? (i := 58) (by decide +kernel), by decide +kernel⟩, by decide +kernel, by decide +kernel, by decide +kernel⟩
theorem zy_X8_parcelOf : zz_YV yX8_parcelOf (.code yX8_parcelOf cX8_parcelOf 3 (some .int)) 1 := ⟨⟨List.mem_of_getElem? (i := 1122) (by decide +kernel), by decide +kernel⟩, ⟨List.mem_of_getElem? (i := 1123) (by decide +kernel), by decide +kernel⟩, ⟨List.mem_of_getElem? (i := 1124) (by decide +kernel), by decide +kernel⟩, ⟨List.mem_of_getElem? (i := 58) (by decide +kernel), by decide +kernel⟩, by decide +kernel, by decide +kernel, by decide +kernel⟩
theorem zy_X8_knots : zz_YV yX8_knots (.code yX8_knots cX8_knots 3 (some .int)) 0 := ⟨⟨List.mem_of_getElem? (i := 1126) (by decide +kernel), by decide +kernel⟩, ⟨List.mem_of_getElem? (i := 1127) (by decide +kernel), by decide +kernel⟩, ⟨List.mem_of_getElem? (i := 1128) (by decide +kernel), by decide +kernel⟩, ⟨List.mem_of_getElem? (i := 58) (by decide +kernel), by decide +kernel⟩, by decide +kernel, by decide +kernel, by decide +kernel⟩
theorem zy_X8_lines : zz_YV yX8_lines (.code yX8_lines cX8_lines 4 (some .int)) 1 := ⟨⟨List.mem_of_getElem? (i := 1130) (by decide +kernel), by decide +kernel⟩, ⟨List.mem_of_getElem? (i := 1131) (by decide +kernel), by decide +kernel⟩, ⟨List.mem_of_getElem? (i := 1132) (by decide +kernel), by decide +kernel⟩, ⟨List.mem_of_getElem? (i := 58) (by decide +kernel), by decide +kernel⟩, by decide +kernel, by decide +kernel, by decide +kernel⟩
theorem zy_X8_isBroken : zz_YV yX8_isBroken (.code yX8_isBroken cX8_isBroken 6 (some .boolean)) 2 := ⟨⟨List.mem_of_getElem? (i := 1143) (by decide +kernel), by decide +kernel⟩, ⟨List.mem_of_getElem? (i := 45) (by decide +kernel), by decide +kernel⟩, ⟨List.mem_of_getElem? (i := 1144) (by decide +kernel), by decide +kernel⟩, ⟨List.mem_of_getElem? (i := 58) (by decide +kernel), by decide +kernel⟩, by decide +kernel, by decide +kernel, by decide +kernel⟩
theorem zy_X8_brokenBy : zz_YV yX8_brokenBy (.code yX8_brokenBy cX8_brokenBy 4 (some .int)) 1 := ⟨⟨List.mem_of_getElem? (i := 1139) (by decide +kernel), by decide +kernel⟩, ⟨List.mem_of_getElem? (i := 44) (by decide +kernel), by decide +kernel⟩, ⟨List.mem_of_getElem? (i := 1140) (by decide +kernel), by decide +kernel⟩, ⟨List.mem_of_getElem? (i := 58) (by decide +kernel), by decide +kernel⟩, by decide +kernel, by decide +kernel, by decide +kernel⟩
theorem zy_X8_broken : zz_YV yX8_broken (.code yX8_broken cX8_broken 2 (some .int)) 1 := ⟨⟨List.mem_of_getElem? (i := 1134) (by decide +kernel), by decide +kernel⟩, ⟨List.mem_of_getElem? (i := 1135) (by decide +kernel), by decide +kernel⟩, ⟨List.mem_of_getElem? (i := 1136) (by decide +kernel), by decide +kernel⟩, ⟨List.mem_of_getElem? (i := 58) (by decide +kernel), by decide +kernel⟩, by decide +kernel, by decide +kernel, by decide +kernel⟩
theorem zy_X8_piecesOf : zz_YV yX8_piecesOf (.code yX8_piecesOf cX8_piecesOf 4 (some .int)) 1 := ⟨⟨List.mem_of_getElem? (i := 1155) (by decide +kernel), by decide +kernel⟩, ⟨List.mem_of_getElem? (i := 47) (by decide +kernel), by decide +kernel⟩, ⟨List.mem_of_getElem? (i := 1156) (by decide +kernel), by decide +kernel⟩, ⟨List.mem_of_getElem? (i := 58) (by decide +kernel), by decide +kernel⟩, by decide +kernel, by decide +kernel, by decide +kernel⟩
theorem zy_X8_breakageOf : zz_YV yX8_breakageOf (.code yX8_breakageOf cX8_breakageOf 3 (some .int)) 0 := ⟨⟨List.mem_of_getElem? (i := 1151) (by decide +kernel), by decide +kernel⟩, ⟨List.mem_of_getElem? (i := 46) (by decide +kernel), by decide +kernel⟩, ⟨List.mem_of_getElem? (i := 1152) (by decide +kernel), by decide +kernel⟩, ⟨List.mem_of_getElem? (i := 58) (by decide +kernel), by decide +kernel⟩, by decide +kernel, by decide +kernel, by decide +kernel⟩
theorem zy_X8_breakage : zz_YV yX8_breakage (.code yX8_breakage cX8_breakage 1 (some .int)) 0 := ⟨⟨List.mem_of_getElem? (i := 1146) (by decide +kernel), by decide +kernel⟩, ⟨List.mem_of_getElem? (i := 1147) (by decide +kernel), by decide +kernel⟩, ⟨List.mem_of_getElem? (i := 1148) (by decide +kernel), by decide +kernel⟩, ⟨List.mem_of_getElem? (i := 58) (by decide +kernel), by decide +kernel⟩, by decide +kernel, by decide +kernel, by decide +kernel⟩
theorem zy_X8_findLeast : zz_YV yX8_findLeast (.code yX8_findLeast cX8_findLeast 4 none) 0 := ⟨⟨List.mem_of_getElem? (i := 1163) (by decide +kernel), by decide +kernel⟩, ⟨List.mem_of_getElem? (i := 48) (by decide +kernel), by decide +kernel⟩, ⟨List.mem_of_getElem? (i := 1164) (by decide +kernel), by decide +kernel⟩, ⟨List.mem_of_getElem? (i := 58) (by decide +kernel), by decide +kernel⟩, by decide +kernel, by decide +kernel, by decide +kernel⟩
theorem zy_X8_leastBreakage : zz_YV yX8_leastBreakage (.code yX8_leastBreakage cX8_leastBreakage 1 (some .int)) 0 := ⟨⟨List.mem_of_getElem? (i := 1158) (by decide +kernel), by decide +kernel⟩, ⟨List.mem_of_getElem? (i := 1159) (by decide +kernel), by decide +kernel⟩, ⟨List.mem_of_getElem? (i := 1160) (by decide +kernel), by decide +kernel⟩, ⟨List.mem_of_getElem? (i := 58) (by decide +kernel), by decide +kernel⟩, by decide +kernel, by decide +kernel, by decide +kernel⟩
theorem zy_X8_best : zz_YV yX8_best (.code yX8_best cX8_best 5 (some .int)) 1 := ⟨⟨List.mem_of_getElem? (i := 1167) (by decide +kernel), by decide +kernel⟩, ⟨List.mem_of_getElem? (i := 1168) (by decide +kernel), by decide +kernel⟩, ⟨List.mem_of_getElem? (i := 1169) (by decide +kernel), by decide +kernel⟩, ⟨List.mem_of_getElem? (i := 58) (by decide +kernel), by decide +kernel⟩, by decide +kernel, by decide +kernel, by decide +kernel⟩
theorem zy_X8_setPurpose : zz_YV yX8_setPurpose (.code yX8_setPurpose cX8_setPurpose 4 (some .int)) 2 := ⟨⟨List.mem_of_getElem? (i := 1171) (by decide +kernel), by decide +kernel⟩, ⟨List.mem_of_getElem? (i := 1172) (by decide +kernel), by decide +kernel⟩, ⟨List.mem_of_getElem? (i := 1173) (by decide +kernel), by decide +kernel⟩, ⟨List.mem_of_getElem? (i := 58) (by decide +kernel), by decide +kernel⟩, by decide +kernel, by decide +kernel, by decide +kernel⟩
theorem zy_X8_agreement : zz_YV yX8_agreement (.code yX8_agreement cX8_agreement 5 (some .double)) 0 := ⟨⟨List.mem_of_getElem? (i := 1175) (by decide +kernel), by decide +kernel⟩, ⟨List.mem_of_getElem? (i := 1176) (by decide +kernel), by decide +kernel⟩, ⟨List.mem_of_getElem? (i := 1177) (by decide +kernel), by decide +kernel⟩, ⟨List.mem_of_getElem? (i := 58) (by decide +kernel), by decide +kernel⟩, by decide +kernel, by decide +kernel, by decide +kernel⟩
theorem zy_X8_digest : zz_YV yX8_digest (.code yX8_digest cX8_digest 5 (some .long)) 0 := ⟨⟨List.mem_of_getElem? (i := 1179) (by decide +kernel), by decide +kernel⟩, ⟨List.mem_of_getElem? (i := 1180) (by decide +kernel), by decide +kernel⟩, ⟨List.mem_of_getElem? (i := 1181) (by decide +kernel), by decide +kernel⟩, ⟨List.mem_of_getElem? (i := 58) (by decide +kernel), by decide +kernel⟩, by decide +kernel, by decide +kernel, by decide +kernel⟩
theorem zt_0 : zz_thr RX7 62 66 "java/lang/IllegalArgumentException" := ⟨by decide +kernel, by decide +kernel, zw_205, ⟨List.mem_of_getElem? (i := 62) (by decide +kernel), by decide +kernel⟩, by decide +kernel⟩
theorem zt_1 : zz_thr RX7 75 79 "java/lang/IllegalStateException" := ⟨by decide +kernel, by decide +kernel, zw_206, ⟨List.mem_of_getElem? (i := 63) (by decide +kernel), by decide +kernel⟩, by decide +kernel⟩
theorem zt_2 : zz_thr RX7 102 106 "java/lang/IndexOutOfBoundsException" := ⟨by decide +kernel, by decide +kernel, zw_207, ⟨List.mem_of_getElem? (i := 64) (by decide +kernel), by decide +kernel⟩, by decide +kernel⟩
theorem zm_abs_1 : zz_g (.static Lib.Math.abs.name) := ⟨List.mem_of_getElem? (i := 294) (by decide +kernel), by decide +kernel⟩
theorem zm_abs_2 : zz_g (.initialized "java/lang/Math") := ⟨List.mem_of_getElem? (i := 65) (by decide +kernel), by decide +kernel⟩
theorem zm_abs_3 : zz_g (.code Lib.Math.abs.name Lib.Math.abs.code 1 (some .int)) := ⟨List.mem_of_getElem? (i := 295) (by decide +kernel), by decide +kernel⟩
theorem zm_max_1 : zz_g (.static Lib.Math.max.name) := ⟨List.mem_of_getElem? (i := 344) (by decide +kernel), by decide +kernel⟩
theorem zm_max_2 : zz_g (.initialized "java/lang/Math") := ⟨List.mem_of_getElem? (i := 65) (by decide +kernel), by decide +kernel⟩
theorem zm_max_3 : zz_g (.code Lib.Math.max.name Lib.Math.max.code 2 (some .int)) := ⟨List.mem_of_getElem? (i := 345) (by decide +kernel), by decide +kernel⟩
theorem zm_min_1 : zz_g (.static Lib.Math.min.name) := ⟨List.mem_of_getElem? (i := 347) (by decide +kernel), by decide +kernel⟩
theorem zm_min_2 : zz_g (.initialized "java/lang/Math") := ⟨List.mem_of_getElem? (i := 65) (by decide +kernel), by decide +kernel⟩
theorem zm_min_3 : zz_g (.code Lib.Math.min.name Lib.Math.min.code 2 (some .int)) := ⟨List.mem_of_getElem? (i := 348) (by decide +kernel), by decide +kernel⟩
end
section
/-! the functions of the classes, as their text has them (by program) -/
def fX7_isUpTo (σ : zz_St) (number_ : Int32) (greatest_ : Int32) : Option Int32 :=
  (if number_ < 0 then
    some false
  else
    if greatest_ < number_ then
      some false
    else
      some true).bind fun b1 =>
  some (zz_bi b1)

def fX7_forgetResults (σ : zz_St) : Option zz_St :=
  some (zz_u (zz_u σ 0 7 (0 : Int32)) 0 8 (0 : Int32))

def fX5_append (σ : zz_St) (file_ : Int32) (line_ : Int32) (linesAdded_ : Int32) (linesTaken_ : Int32) : Option (Int32 × zz_St) :=
  if (σ 1 0) < (14 : Int32) then
    (zz_pa σ 2 14 (σ 1 0) file_).bind fun σ2 =>
    (zz_pa σ2 3 14 (σ 1 0) line_).bind fun σ4 =>
    (zz_pa σ4 4 14 (σ 1 0) linesAdded_).bind fun σ6 =>
    (zz_pa σ6 5 14 (σ 1 0) linesTaken_).bind fun σ8 =>
    (zz_pa σ8 6 14 (σ 1 0) (0 : Int32)).bind fun σ10 =>
    some ((σ 1 0), (zz_u σ10 1 0 ((σ 1 0) + (1 : Int32))))
  else
    some ((-1 : Int32), σ)

def fX7_addPiece (σ : zz_St) (file_ : Int32) (line_ : Int32) (added_ : Int32) (taken_ : Int32) : Option ((Int32 ⊕ String) × zz_St) :=
  ((fX7_isUpTo σ file_ (9 : Int32)).bind fun x6 =>
  if x6 = 0 then
    some true
  else
    (fX7_isUpTo σ line_ (9999 : Int32)).bind fun x9 =>
    if x9 = 0 then
      some true
    else
      some false).bind fun b1 =>
  if b1 = true then
    some ((.inr "java/lang/IllegalArgumentException"), σ)
  else
    ((fX7_isUpTo σ added_ (999 : Int32)).bind fun x17 =>
    if x17 = 0 then
      some true
    else
      (fX7_isUpTo σ taken_ (999 : Int32)).bind fun x20 =>
      if x20 = 0 then
        some true
      else
        some false).bind fun b12 =>
    if b12 = true then
      some ((.inr "java/lang/IllegalArgumentException"), σ)
    else
      if (σ 1 0) < (14 : Int32) then
        (fX7_forgetResults σ).bind fun x24 =>
        (fX5_append x24 file_ line_ added_ taken_).bind fun x26 =>
        some ((.inl x26.1), x26.2)
      else
        some ((.inr "java/lang/IllegalStateException"), σ)

def fX5_has (σ : zz_St) (piece_ : Int32) : Option Int32 :=
  (if piece_ < 0 then
    some false
  else
    if (σ 1 0) ≤ piece_ then
      some false
    else
      some true).bind fun b1 =>
  some (zz_bi b1)

def fX7_requirePiece (σ : zz_St) (piece_ : Int32) : Option (Unit ⊕ String) :=
  (fX5_has σ piece_).bind fun x1 =>
  if x1 = 0 then
    some (.inr "java/lang/IndexOutOfBoundsException")
  else
    some (.inl ())

def fX7_requireSet (σ : zz_St) (piece_ : Int32) (what_ : Int32) : Option (Unit ⊕ String) :=
  (fX7_requirePiece σ piece_).bind fun x1 =>
  match x1 with
  | .inl x1 =>
    (if what_ < 0 then
      some true
    else
      if what_ < (4 : Int32) then
        some false
      else
        some true).bind fun b4 =>
    if b4 = true then
      some (.inr "java/lang/IndexOutOfBoundsException")
    else
      some (.inl ())
  | .inr E3 =>
    some (.inr E3)

def fX5_replaceNames_L1 (piece_ : Int32) (what_ : Int32) (names_ : Int32) (before_ : Int32) : Nat → Int32 → zz_St → Option (Int32 × zz_St)
  | 0, _, _ => none
  | n + 1, name_, σ =>
    if (16 : Int32) ≤ name_ then
      some (name_, σ)
    else
      (zz_ix 4 what_).bind fun x10 =>
      (zz_ga (σ (13 + x10)) 16 name_).bind fun x12 =>
      (some (x12 &&& (((1 : Int32) <<< (piece_ &&& 31)) ^^^ (-1 : Int32)))).bind fun x14 =>
      (zz_ix 4 what_).bind fun x16 =>
      (zz_pa σ (13 + x16) 16 name_ (x14 ||| (((names_ >>> (name_ &&& 31)) &&& (1 : Int32)) <<< (piece_ &&& 31)))).bind fun σ18 =>
      fX5_replaceNames_L1 piece_ what_ names_ before_ n (name_ + (1 : Int32)) σ18

def fX5_replaceNames (σ : zz_St) (piece_ : Int32) (what_ : Int32) (names_ : Int32) : Option (Int32 × zz_St) :=
  (zz_ix 4 what_).bind fun x1 =>
  (zz_ga (σ (8 + x1)) 14 piece_).bind fun x3 =>
  (zz_ix 4 what_).bind fun x5 =>
  (zz_pa σ (8 + x5) 14 piece_ names_).bind fun σ7 =>
  (fX5_replaceNames_L1 piece_ what_ names_ x3 1000 (0 : Int32) σ7).bind fun q20 =>
  some (x3, q20.2)

def fX7_setNames (σ : zz_St) (piece_ : Int32) (what_ : Int32) (names_ : Int32) : Option ((Int32 ⊕ String) × zz_St) :=
  (fX7_requireSet σ piece_ what_).bind fun x1 =>
  match x1 with
  | .inl x1 =>
    (fX7_isUpTo σ names_ (65535 : Int32)).bind fun x4 =>
    if x4 = 0 then
      some ((.inr "java/lang/IllegalArgumentException"), σ)
    else
      (fX7_forgetResults σ).bind fun x7 =>
      (fX5_replaceNames x7 piece_ what_ names_).bind fun x9 =>
      some ((.inl x9.1), x9.2)
  | .inr E3 =>
    some ((.inr E3), σ)

def fX7_names (σ : zz_St) (piece_ : Int32) (what_ : Int32) : Option (Int32 ⊕ String) :=
  (fX7_requireSet σ piece_ what_).bind fun x1 =>
  match x1 with
  | .inl x1 =>
    (zz_ix 4 what_).bind fun x4 =>
    (zz_ga (σ (8 + x4)) 14 piece_).bind fun x6 =>
    some (.inl x6)
  | .inr E3 =>
    some (.inr E3)

def fX7_isIn (σ : zz_St) (element_ : Int32) (set_ : Int32) : Option Int32 :=
  (if ((set_ >>> (element_ &&& 31)) &&& (1 : Int32)) = (1 : Int32) then
    some true
  else
    some false).bind fun b1 =>
  some (zz_bi b1)

def fX1_learn (σ : zz_St) (name_ : Int32) (isDefined_ : Int32) (uses_ : Int32) : Option (Int32 × zz_St) :=
  ((fX7_isIn σ name_ (σ 17 0)).bind fun x4 =>
  if isDefined_ = x4 then
    (zz_ga (σ 18) 16 name_).bind fun x7 =>
    if uses_ = x7 then
      some false
    else
      some true
  else
    some true).bind fun b1 =>
  (some (zz_bi b1)).bind fun x10 =>
  (if isDefined_ = 0 then
    some ((σ 17 0) &&& (((1 : Int32) <<< (name_ &&& 31)) ^^^ (-1 : Int32)))
  else
    some ((σ 17 0) ||| ((1 : Int32) <<< (name_ &&& 31)))).bind fun x12 =>
  (zz_pa (zz_u σ 17 0 x12) 18 16 name_ uses_).bind fun σ16 =>
  (zz_bo x10).bind fun x18 =>
  some (x18, σ16)

def fX7_setName (σ : zz_St) (name_ : Int32) (isDefined_ : Int32) (uses_ : Int32) : Option ((Int32 ⊕ String) × zz_St) :=
  (if name_ < 0 then
    some true
  else
    if name_ < (16 : Int32) then
      some false
    else
      some true).bind fun b1 =>
  if b1 = true then
    some ((.inr "java/lang/IndexOutOfBoundsException"), σ)
  else
    (fX7_isUpTo σ uses_ (9 : Int32)).bind fun x8 =>
    if x8 = 0 then
      some ((.inr "java/lang/IllegalArgumentException"), σ)
    else
      (fX7_forgetResults σ).bind fun x11 =>
      (fX1_learn x11 name_ isDefined_ uses_).bind fun x13 =>
      (zz_bo x13.1).bind fun x15 =>
      some ((.inl x15), x13.2)

def fX5_removeLast_L1 : Nat → Int32 → zz_St → Option (Int32 × zz_St)
  | 0, _, _ => none
  | n + 1, what_, σ =>
    if (4 : Int32) ≤ what_ then
      some (what_, σ)
    else
      (fX5_replaceNames σ ((σ 1 0) - (1 : Int32)) what_ (0 : Int32)).bind fun x3 =>
      fX5_removeLast_L1 n (what_ + (1 : Int32)) x3.2

def fX5_removeLast (σ : zz_St) : Option zz_St :=
  if 0 < (σ 1 0) then
    (fX5_removeLast_L1 1000 (0 : Int32) σ).bind fun q5 =>
    some (zz_u q5.2 1 0 ((q5.2 1 0) - (1 : Int32)))
  else
    some σ

def fX6_putOneWay (σ : zz_St) (from_ : Int32) (to_ : Int32) (what_ : Int32) : Option zz_St :=
  (some (((1 : Int32) <<< (to_ &&& 31)) ^^^ (-1 : Int32))).bind fun x1 =>
  (zz_ga (σ 22) 14 from_).bind fun x3 =>
  (if what_ = (1 : Int32) then
    some ((1 : Int32) <<< (to_ &&& 31))
  else
    some (0 : Int32)).bind fun x5 =>
  (zz_pa σ 22 14 from_ ((x3 &&& x1) ||| x5)).bind fun σ9 =>
  (zz_ga (σ9 23) 14 from_).bind fun x11 =>
  (if what_ = (2 : Int32) then
    some ((1 : Int32) <<< (to_ &&& 31))
  else
    some (0 : Int32)).bind fun x13 =>
  (zz_pa σ9 23 14 from_ ((x11 &&& x1) ||| x13)).bind fun σ17 =>
  some σ17

def fX6_forgetPiece_L1 (piece_ : Int32) : Nat → Int32 → zz_St → Option (Int32 × zz_St)
  | 0, _, _ => none
  | n + 1, other_, σ =>
    if (14 : Int32) ≤ other_ then
      some (other_, σ)
    else
      (fX6_putOneWay σ other_ piece_ (0 : Int32)).bind fun x2 =>
      (if other_ = piece_ then
        (zz_pa x2 22 14 other_ (0 : Int32)).bind fun σ8 =>
        (zz_pa σ8 23 14 other_ (0 : Int32)).bind fun σ10 =>
        some σ10
      else
        some x2).bind fun x4 =>
      fX6_forgetPiece_L1 piece_ n (other_ + (1 : Int32)) x4

def fX6_forgetPiece (σ : zz_St) (piece_ : Int32) : Option zz_St :=
  (fX6_forgetPiece_L1 piece_ 1000 (0 : Int32) σ).bind fun q12 =>
  some q12.2

def fX7_dropPiece (σ : zz_St) : Option ((Int32 ⊕ String) × zz_St) :=
  if 0 < (σ 1 0) then
    (fX7_forgetResults σ).bind fun x2 =>
    (fX5_removeLast x2).bind fun x4 =>
    (fX6_forgetPiece x4 (x4 1 0)).bind fun x6 =>
    some ((.inl (x6 1 0)), x6)
  else
    some ((.inr "java/lang/IllegalStateException"), σ)

def fX7_pieceCount (σ : zz_St) : Option Int32 :=
  some (σ 1 0)

def fX7_requireKind (σ : zz_St) (kind_ : Int32) : Option (Unit ⊕ String) :=
  (if kind_ < 0 then
    some true
  else
    if kind_ < (4 : Int32) then
      some false
    else
      some true).bind fun b1 =>
  if b1 = true then
    some (.inr "java/lang/IndexOutOfBoundsException")
  else
    some (.inl ())

def fX7_setWeight (σ : zz_St) (kind_ : Int32) (weight_ : Int32) : Option ((Int32 ⊕ String) × zz_St) :=
  (fX7_requireKind σ kind_).bind fun x1 =>
  match x1 with
  | .inl x1 =>
    (fX7_isUpTo σ weight_ (50 : Int32)).bind fun x4 =>
    if x4 = 0 then
      some ((.inr "java/lang/IllegalArgumentException"), σ)
    else
      (fX7_forgetResults σ).bind fun x7 =>
      (zz_ga (x7 20) 4 kind_).bind fun x9 =>
      (zz_pa x7 20 4 kind_ weight_).bind fun σ11 =>
      some ((.inl x9), σ11)
  | .inr E3 =>
    some ((.inr E3), σ)

def fX7_setSpan (σ : zz_St) (span_ : Int32) : Option ((Int32 ⊕ String) × zz_St) :=
  (fX7_isUpTo σ span_ (999 : Int32)).bind fun x1 =>
  if x1 = 0 then
    some ((.inr "java/lang/IllegalArgumentException"), σ)
  else
    (fX7_forgetResults σ).bind fun x4 =>
    (some (x4 19 1)).bind fun x6 =>
    some ((.inl x6), (zz_u x4 19 1 span_))

def fX7_requireDifferent (σ : zz_St) (a_ : Int32) (b_ : Int32) : Option (Unit ⊕ String) :=
  if a_ = b_ then
    some (.inr "java/lang/IllegalArgumentException")
  else
    some (.inl ())

def fX2_isNear (σ : zz_St) (a_ : Int32) (b_ : Int32) : Option Int32 :=
  ((zz_ga (σ 2) 14 a_).bind fun x4 =>
  (zz_ga (σ 2) 14 b_).bind fun x6 =>
  if x4 = x6 then
    (zz_ga (σ 3) 14 a_).bind fun x9 =>
    (zz_ga (σ 3) 14 b_).bind fun x11 =>
    if (σ 19 1) < (zz_abs (x9 - x11)) then
      some false
    else
      some true
  else
    some false).bind fun b1 =>
  some (zz_bi b1)

def fJ6_bitCount (i_ : Int32) : Option Int32 :=
  (some (i_ - ((zz_ushr i_ (1 : Int32)) &&& (1431655765 : Int32)))).bind fun x1 =>
  (some ((x1 &&& (858993459 : Int32)) + ((zz_ushr x1 (2 : Int32)) &&& (858993459 : Int32)))).bind fun x3 =>
  (some ((x3 + (zz_ushr x3 (4 : Int32))) &&& (252645135 : Int32))).bind fun x5 =>
  (some (x5 + (zz_ushr x5 (8 : Int32)))).bind fun x7 =>
  (some (x7 + (zz_ushr x7 (16 : Int32)))).bind fun x9 =>
  some (x9 &&& (63 : Int32))

def fX5_crossings (σ : zz_St) (a_ : Int32) (b_ : Int32) (what_ : Int32) (opposite_ : Int32) : Option Int32 :=
  (zz_ix 4 what_).bind fun x1 =>
  (zz_ga (σ (8 + x1)) 14 a_).bind fun x3 =>
  (zz_ix 4 opposite_).bind fun x5 =>
  (zz_ga (σ (8 + x5)) 14 b_).bind fun x7 =>
  (fJ6_bitCount (x3 &&& x7)).bind fun x9 =>
  (zz_ix 4 what_).bind fun x11 =>
  (zz_ga (σ (8 + x11)) 14 b_).bind fun x13 =>
  (zz_ix 4 opposite_).bind fun x15 =>
  (zz_ga (σ (8 + x15)) 14 a_).bind fun x17 =>
  (fJ6_bitCount (x13 &&& x17)).bind fun x19 =>
  some (x9 + x19)

def fX5_everyNameOf (σ : zz_St) (piece_ : Int32) : Option Int32 :=
  (zz_ix 4 (0 : Int32)).bind fun x1 =>
  (zz_ga (σ (8 + x1)) 14 piece_).bind fun x3 =>
  (zz_ix 4 (1 : Int32)).bind fun x5 =>
  (zz_ga (σ (8 + x5)) 14 piece_).bind fun x7 =>
  (zz_ix 4 (2 : Int32)).bind fun x9 =>
  (zz_ga (σ (8 + x9)) 14 piece_).bind fun x11 =>
  (zz_ix 4 (3 : Int32)).bind fun x13 =>
  (zz_ga (σ (8 + x13)) 14 piece_).bind fun x15 =>
  some (((x3 ||| x7) ||| x11) ||| x15)

def fX2_shareOf (σ : zz_St) (weight_ : Int32) (namesOfOne_ : Int32) (namesOfOther_ : Int32) : Option Int32 :=
  (fJ6_bitCount (namesOfOne_ ||| namesOfOther_)).bind fun x1 =>
  (if x1 = 0 then
    some (0 : Int32)
  else
    (fJ6_bitCount (namesOfOne_ &&& namesOfOther_)).bind fun x7 =>
    (zz_dv (weight_ * x7) x1).bind fun x9 =>
    some x9).bind fun x3 =>
  some x3

def fX2_pointsBy (σ : zz_St) (kind_ : Int32) (a_ : Int32) (b_ : Int32) : Option Int32 :=
  if kind_ = (0 : Int32) then
    ((fX2_isNear σ a_ b_).bind fun x5 =>
    if x5 = 0 then
      some (0 : Int32)
    else
      (zz_ga (σ 20) 4 (0 : Int32)).bind fun x8 =>
      some x8).bind fun x2 =>
    some x2
  else
    if kind_ = (1 : Int32) then
      (zz_ga (σ 20) 4 (1 : Int32)).bind fun x11 =>
      (fX5_crossings σ a_ b_ (0 : Int32) (2 : Int32)).bind fun x13 =>
      some (x11 * x13)
    else
      if kind_ = (2 : Int32) then
        (zz_ga (σ 20) 4 (2 : Int32)).bind fun x16 =>
        (fX5_crossings σ a_ b_ (1 : Int32) (0 : Int32)).bind fun x18 =>
        some (x16 * x18)
      else
        if kind_ = (3 : Int32) then
          (zz_ga (σ 20) 4 (3 : Int32)).bind fun x21 =>
          (fX5_everyNameOf σ a_).bind fun x23 =>
          (fX5_everyNameOf σ b_).bind fun x25 =>
          (fX2_shareOf σ x21 x23 x25).bind fun x27 =>
          some x27
        else
          some (0 : Int32)

def fX7_points (σ : zz_St) (a_ : Int32) (b_ : Int32) (kind_ : Int32) : Option (Int32 ⊕ String) :=
  (fX7_requirePiece σ a_).bind fun x1 =>
  match x1 with
  | .inl x1 =>
    (fX7_requirePiece σ b_).bind fun x4 =>
    match x4 with
    | .inl x4 =>
      (fX7_requireKind σ kind_).bind fun x7 =>
      match x7 with
      | .inl x7 =>
        (fX7_requireDifferent σ a_ b_).bind fun x10 =>
        match x10 with
        | .inl x10 =>
          (fX2_pointsBy σ kind_ a_ b_).bind fun x13 =>
          some (.inl x13)
        | .inr E12 =>
          some (.inr E12)
      | .inr E9 =>
        some (.inr E9)
    | .inr E6 =>
      some (.inr E6)
  | .inr E3 =>
    some (.inr E3)

def fX2_sumOfPoints_L1 (σ : zz_St) (a_ : Int32) (b_ : Int32) : Nat → Int32 → Int32 → Option (Int32 × Int32)
  | 0, _, _ => none
  | n + 1, sum_, kind_ =>
    if (4 : Int32) ≤ kind_ then
      some (sum_, kind_)
    else
      (fX2_pointsBy σ kind_ a_ b_).bind fun x2 =>
      (some (sum_ + x2)).bind fun x4 =>
      fX2_sumOfPoints_L1 σ a_ b_ n x4 (kind_ + (1 : Int32))

def fX2_sumOfPoints (σ : zz_St) (a_ : Int32) (b_ : Int32) : Option Int32 :=
  (fX2_sumOfPoints_L1 σ a_ b_ 1000 (0 : Int32) (0 : Int32)).bind fun q6 =>
  some q6.1

def fX7_affinity (σ : zz_St) (a_ : Int32) (b_ : Int32) : Option (Int32 ⊕ String) :=
  (fX7_requirePiece σ a_).bind fun x1 =>
  match x1 with
  | .inl x1 =>
    (fX7_requirePiece σ b_).bind fun x4 =>
    match x4 with
    | .inl x4 =>
      (fX7_requireDifferent σ a_ b_).bind fun x7 =>
      match x7 with
      | .inl x7 =>
        (fX2_sumOfPoints σ a_ b_).bind fun x10 =>
        some (.inl x10)
      | .inr E9 =>
        some (.inr E9)
    | .inr E6 =>
      some (.inr E6)
  | .inr E3 =>
    some (.inr E3)

def fX7_closest_L1 (σ : zz_St) (piece_ : Int32) : Nat → Int32 → Int32 → Int32 → Option (Int32 × Int32 × Int32)
  | 0, _, _, _ => none
  | n + 1, found_, greatest_, other_ =>
    if (σ 1 0) ≤ other_ then
      some (found_, greatest_, other_)
    else
      (if other_ = piece_ then
        some (-1 : Int32)
      else
        (fX2_sumOfPoints σ piece_ other_).bind fun x9 =>
        some x9).bind fun x5 =>
      (if x5 ≤ greatest_ then
        some (found_, greatest_)
      else
        some (other_, x5)).bind fun x11 =>
      fX7_closest_L1 σ piece_ n x11.1 x11.2 (other_ + (1 : Int32))

def fX7_closest (σ : zz_St) (piece_ : Int32) : Option (Int32 ⊕ String) :=
  (fX7_requirePiece σ piece_).bind fun x1 =>
  match x1 with
  | .inl x1 =>
    (fX7_closest_L1 σ piece_ 1000 (-1 : Int32) (-1 : Int32) (0 : Int32)).bind fun q15 =>
    some (.inl q15.1)
  | .inr E3 =>
    some (.inr E3)

def fX7_setThreshold (σ : zz_St) (threshold_ : Int32) : Option ((Int32 ⊕ String) × zz_St) :=
  (if threshold_ < (1 : Int32) then
    some true
  else
    if threshold_ ≤ (999 : Int32) then
      some false
    else
      some true).bind fun b1 =>
  if b1 = true then
    some ((.inr "java/lang/IllegalArgumentException"), σ)
  else
    (fX7_forgetResults σ).bind fun x8 =>
    (some (x8 24 0)).bind fun x10 =>
    some ((.inl x10), (zz_u x8 24 0 threshold_))

def fX7_setManner (σ : zz_St) (manner_ : Int32) : Option ((Int32 ⊕ String) × zz_St) :=
  (fX7_isUpTo σ manner_ (2 : Int32)).bind fun x1 =>
  if x1 = 0 then
    some ((.inr "java/lang/IllegalArgumentException"), σ)
  else
    (fX7_forgetResults σ).bind fun x4 =>
    (some (x4 24 1)).bind fun x6 =>
    some ((.inl x6), (zz_u x4 24 1 manner_))

def fX6_saidOf (σ : zz_St) (a_ : Int32) (b_ : Int32) : Option Int32 :=
  (zz_ga (σ 22) 14 a_).bind fun x1 =>
  (fX7_isIn σ b_ x1).bind fun x3 =>
  if x3 = 0 then
    ((zz_ga (σ 23) 14 a_).bind fun x9 =>
    (fX7_isIn σ b_ x9).bind fun x11 =>
    if x11 = 0 then
      some (0 : Int32)
    else
      some (2 : Int32)).bind fun x6 =>
    some x6
  else
    some (1 : Int32)

def fX6_put (σ : zz_St) (a_ : Int32) (b_ : Int32) (what_ : Int32) : Option zz_St :=
  (fX6_putOneWay σ a_ b_ what_).bind fun x1 =>
  (fX6_putOneWay x1 b_ a_ what_).bind fun x3 =>
  some x3

def fX6_joinedTo_L2 (σ : zz_St) (piece_ : Int32) (before_ : Int32) (round_ : Int32) : Nat → Int32 → Int32 → Option (Int32 × Int32)
  | 0, _, _ => none
  | n + 1, joined_, other_ =>
    if (14 : Int32) ≤ other_ then
      some (joined_, other_)
    else
      ((fX7_isIn σ other_ joined_).bind fun x14 =>
      if x14 = 0 then
        some (0 : Int32)
      else
        (zz_ga (σ 22) 14 other_).bind fun x17 =>
        some x17).bind fun x11 =>
      (some (joined_ ||| x11)).bind fun x19 =>
      fX6_joinedTo_L2 σ piece_ before_ round_ n x19 (other_ + (1 : Int32))

def fX6_joinedTo_L1 (σ : zz_St) (piece_ : Int32) : Nat → Int32 → Int32 → Int32 → Option (Int32 × Int32 × Int32)
  | 0, _, _, _ => none
  | n + 1, joined_, before_, round_ =>
    (if (14 : Int32) ≤ round_ then
      some false
    else
      if joined_ = before_ then
        some false
      else
        some true).bind fun b3 =>
    if b3 = true then
      (fX6_joinedTo_L2 σ piece_ joined_ round_ 1000 joined_ (0 : Int32)).bind fun q21 =>
      fX6_joinedTo_L1 σ piece_ n q21.1 joined_ (round_ + (1 : Int32))
    else
      some (joined_, before_, round_)

def fX6_joinedTo (σ : zz_St) (piece_ : Int32) : Option Int32 :=
  (some ((1 : Int32) <<< (piece_ &&& 31))).bind fun x1 =>
  (fX6_joinedTo_L1 σ piece_ 1000 x1 (0 : Int32) (0 : Int32)).bind fun q23 =>
  some q23.1

def fX6_isContradiction_L1 (σ : zz_St) : Nat → Int32 → Option (Int32 ⊕ (Int32))
  | 0, _ => none
  | n + 1, piece_ =>
    if (14 : Int32) ≤ piece_ then
      some (.inr piece_)
    else
      ((zz_ga (σ 23) 14 piece_).bind fun x7 =>
      if x7 = 0 then
        some false
      else
        (fX6_joinedTo σ piece_).bind fun x10 =>
        (zz_ga (σ 23) 14 piece_).bind fun x12 =>
        if (x10 &&& x12) = 0 then
          some false
        else
          some true).bind fun b2 =>
      if b2 = true then
        some (.inl (1 : Int32))
      else
        fX6_isContradiction_L1 σ n (piece_ + (1 : Int32))

def fX6_isContradiction (σ : zz_St) : Option Int32 :=
  (fX6_isContradiction_L1 σ 1000 (0 : Int32)).bind fun q15 =>
  match q15 with
  | .inl v17 =>
    (zz_bo v17).bind fun x20 =>
    some x20
  | .inr w18 =>
    some (0 : Int32)

def fX7_say (σ : zz_St) (a_ : Int32) (b_ : Int32) (what_ : Int32) : Option ((Int32 ⊕ String) × zz_St) :=
  (fX7_requirePiece σ a_).bind fun x1 =>
  match x1 with
  | .inl x1 =>
    (fX7_requirePiece σ b_).bind fun x4 =>
    match x4 with
    | .inl x4 =>
      (fX7_requireDifferent σ a_ b_).bind fun x7 =>
      match x7 with
      | .inl x7 =>
        (fX7_isUpTo σ what_ (2 : Int32)).bind fun x10 =>
        if x10 = 0 then
          some ((.inr "java/lang/IllegalArgumentException"), σ)
        else
          (fX6_saidOf σ a_ b_).bind fun x13 =>
          (fX6_put σ a_ b_ what_).bind fun x15 =>
          (fX6_isContradiction x15).bind fun x17 =>
          if x17 = 0 then
            (fX7_forgetResults x15).bind fun x20 =>
            some ((.inl x13), x20)
          else
            (fX6_put x15 a_ b_ x13).bind fun x22 =>
            some ((.inr "java/lang/IllegalStateException"), x22)
      | .inr E9 =>
        some ((.inr E9), σ)
    | .inr E6 =>
      some ((.inr E6), σ)
  | .inr E3 =>
    some ((.inr E3), σ)

def fX3_weighAll_L2 (b_ : Int32) : Nat → Int32 → zz_St → Option (Int32 × zz_St)
  | 0, _, _ => none
  | n + 1, a_, σ =>
    if b_ ≤ a_ then
      some (a_, σ)
    else
      (fX2_sumOfPoints σ a_ b_).bind fun x3 =>
      (zz_ix 14 a_).bind fun x5 =>
      (zz_pa σ (27 + x5) 14 b_ x3).bind fun σ7 =>
      (zz_ix 14 b_).bind fun x9 =>
      (zz_pa σ7 (27 + x9) 14 a_ x3).bind fun σ11 =>
      fX3_weighAll_L2 b_ n (a_ + (1 : Int32)) σ11

def fX3_weighAll_L1 : Nat → Int32 → zz_St → Option (Int32 × zz_St)
  | 0, _, _ => none
  | n + 1, b_, σ =>
    if (σ 1 0) ≤ b_ then
      some (b_, σ)
    else
      (fX3_weighAll_L2 b_ 1000 (0 : Int32) σ).bind fun q13 =>
      fX3_weighAll_L1 n (b_ + (1 : Int32)) q13.2

def fX3_weighAll (σ : zz_St) : Option zz_St :=
  (fX3_weighAll_L1 1000 (1 : Int32) σ).bind fun q15 =>
  some q15.2

def fX3_joinWhatMust_L1 (pieceTotal_ : Int32) : Nat → Int32 → zz_St → Option (Int32 × zz_St)
  | 0, _, _ => none
  | n + 1, piece_, σ =>
    (if pieceTotal_ ≤ piece_ then
      some false
    else
      if (14 : Int32) ≤ piece_ then
        some false
      else
        some true).bind fun b1 =>
    if b1 = true then
      (fX6_joinedTo σ piece_).bind fun x8 =>
      (if (x8 &&& (((1 : Int32) <<< (piece_ &&& 31)) - (1 : Int32))) = 0 then
        some true
      else
        some false).bind fun b10 =>
      (some (zz_bi b10)).bind fun x14 =>
      (if x14 = 0 then
        some σ
      else
        (zz_pa σ 25 14 (σ 24 2) x8).bind fun σ20 =>
        some (zz_u σ20 24 2 ((σ20 24 2) + (1 : Int32)))).bind fun x16 =>
      fX3_joinWhatMust_L1 pieceTotal_ n (piece_ + (1 : Int32)) x16
    else
      some (piece_, σ)

def fX3_joinWhatMust (σ : zz_St) (pieceTotal_ : Int32) : Option zz_St :=
  (fX3_joinWhatMust_L1 pieceTotal_ 1000 (0 : Int32) (zz_u σ 24 2 (0 : Int32))).bind fun q22 =>
  some q22.2

def fX6_isForbidden_L1 (σ : zz_St) (set_ : Int32) (otherSet_ : Int32) : Nat → Int32 → Option (Int32 ⊕ (Int32))
  | 0, _ => none
  | n + 1, piece_ =>
    if (14 : Int32) ≤ piece_ then
      some (.inr piece_)
    else
      ((fX7_isIn σ piece_ set_).bind fun x7 =>
      if x7 = 0 then
        some false
      else
        (zz_ga (σ 23) 14 piece_).bind fun x10 =>
        if (x10 &&& otherSet_) = 0 then
          some false
        else
          some true).bind fun b2 =>
      if b2 = true then
        some (.inl (1 : Int32))
      else
        fX6_isForbidden_L1 σ set_ otherSet_ n (piece_ + (1 : Int32))

def fX6_isForbidden (σ : zz_St) (set_ : Int32) (otherSet_ : Int32) : Option Int32 :=
  (fX6_isForbidden_L1 σ set_ otherSet_ 1000 (0 : Int32)).bind fun q13 =>
  match q13 with
  | .inl v15 =>
    (zz_bo v15).bind fun x18 =>
    some x18
  | .inr w16 =>
    some (0 : Int32)

def fX3_linkageOf_L2 (σ : zz_St) (set_ : Int32) (otherSet_ : Int32) (a_ : Int32) : Nat → Int32 → Int32 → Int32 → Int32 → Option (Int32 × Int32 × Int32 × Int32)
  | 0, _, _, _, _ => none
  | n + 1, greatest_, least_, sum_, b_ =>
    (if (14 : Int32) ≤ b_ then
      some false
    else
      (fX7_isIn σ a_ set_).bind fun x8 =>
      if x8 = 0 then
        some false
      else
        some true).bind fun b2 =>
    if b2 = true then
      ((fX7_isIn σ b_ otherSet_).bind fun x14 =>
      if x14 = 0 then
        some (greatest_, least_, sum_)
      else
        (zz_ix 14 a_).bind fun x17 =>
        (zz_ga (σ (27 + x17)) 14 b_).bind fun x19 =>
        (some (zz_max greatest_ x19)).bind fun x21 =>
        (zz_ix 14 a_).bind fun x23 =>
        (zz_ga (σ (27 + x23)) 14 b_).bind fun x25 =>
        (some (zz_min least_ x25)).bind fun x27 =>
        (zz_ix 14 a_).bind fun x29 =>
        (zz_ga (σ (27 + x29)) 14 b_).bind fun x31 =>
        (some (sum_ + x31)).bind fun x33 =>
        some (x21, x27, x33)).bind fun x11 =>
      fX3_linkageOf_L2 σ set_ otherSet_ a_ n x11.1 x11.2.1 x11.2.2 (b_ + (1 : Int32))
    else
      some (greatest_, least_, sum_, b_)

def fX3_linkageOf_L1 (σ : zz_St) (set_ : Int32) (otherSet_ : Int32) : Nat → Int32 → Int32 → Int32 → Int32 → Option (Int32 × Int32 × Int32 × Int32)
  | 0, _, _, _, _ => none
  | n + 1, greatest_, least_, sum_, a_ =>
    if (14 : Int32) ≤ a_ then
      some (greatest_, least_, sum_, a_)
    else
      (fX3_linkageOf_L2 σ set_ otherSet_ a_ 1000 greatest_ least_ sum_ (0 : Int32)).bind fun q35 =>
      fX3_linkageOf_L1 σ set_ otherSet_ n q35.1 q35.2.1 q35.2.2.1 (a_ + (1 : Int32))

def fX3_linkageOf (σ : zz_St) (set_ : Int32) (otherSet_ : Int32) : Option Int32 :=
  (fX3_linkageOf_L1 σ set_ otherSet_ 1000 (0 : Int32) (1000000 : Int32) (0 : Int32) (0 : Int32)).bind fun q37 =>
  (fJ6_bitCount set_).bind fun x39 =>
  (fJ6_bitCount otherSet_).bind fun x41 =>
  (some (x39 * x41)).bind fun x43 =>
  if x43 = 0 then
    some (0 : Int32)
  else
    if (σ 24 1) = (1 : Int32) then
      (zz_dv q37.2.2.1 x43).bind fun x51 =>
      some x51
    else
      (if (σ 24 1) = 0 then
        some q37.1
      else
        some q37.2.1).bind fun x47 =>
      some x47

def fX3_join_L1 (first_ : Int32) (second_ : Int32) : Nat → Int32 → zz_St → Option (Int32 × zz_St)
  | 0, _, _ => none
  | n + 1, later_, σ =>
    if (σ 24 2) ≤ later_ then
      some (later_, σ)
    else
      (zz_ga (σ 25) 14 later_).bind fun x10 =>
      (zz_pa σ 25 14 (later_ - (1 : Int32)) x10).bind fun σ12 =>
      fX3_join_L1 first_ second_ n (later_ + (1 : Int32)) σ12

def fX3_join (σ : zz_St) (first_ : Int32) (second_ : Int32) : Option zz_St :=
  (zz_ga (σ 25) 14 first_).bind fun x1 =>
  (zz_ga (σ 25) 14 second_).bind fun x3 =>
  (zz_pa σ 25 14 first_ (x1 ||| x3)).bind fun σ5 =>
  (some (second_ + (1 : Int32))).bind fun x7 =>
  (fX3_join_L1 first_ second_ 1000 x7 σ5).bind fun q14 =>
  some (zz_u q14.2 24 2 ((q14.2 24 2) - (1 : Int32)))

def fX3_joinNearest_L2 (σ : zz_St) (a_ : Int32) : Nat → Int32 → Int32 → Int32 → Int32 → Option (Int32 × Int32 × Int32 × Int32)
  | 0, _, _, _, _ => none
  | n + 1, greatest_, first_, second_, b_ =>
    if (σ 24 2) ≤ b_ then
      some (greatest_, first_, second_, b_)
    else
      ((zz_ga (σ 25) 14 a_).bind fun x8 =>
      (zz_ga (σ 25) 14 b_).bind fun x10 =>
      (fX6_isForbidden σ x8 x10).bind fun x12 =>
      if x12 = 0 then
        (zz_ga (σ 25) 14 a_).bind fun x15 =>
        (zz_ga (σ 25) 14 b_).bind fun x17 =>
        (fX3_linkageOf σ x15 x17).bind fun x19 =>
        some x19
      else
        some (-1 : Int32)).bind fun x5 =>
      (if x5 ≤ greatest_ then
        some (greatest_, first_, second_)
      else
        some (x5, a_, b_)).bind fun x21 =>
      fX3_joinNearest_L2 σ a_ n x21.1 x21.2.1 x21.2.2 (b_ + (1 : Int32))

def fX3_joinNearest_L1 (σ : zz_St) : Nat → Int32 → Int32 → Int32 → Int32 → Option (Int32 × Int32 × Int32 × Int32)
  | 0, _, _, _, _ => none
  | n + 1, greatest_, first_, second_, a_ =>
    if (σ 24 2) ≤ a_ then
      some (greatest_, first_, second_, a_)
    else
      (some (a_ + (1 : Int32))).bind fun x2 =>
      (fX3_joinNearest_L2 σ a_ 1000 greatest_ first_ second_ x2).bind fun q25 =>
      fX3_joinNearest_L1 σ n q25.1 q25.2.1 q25.2.2.1 (a_ + (1 : Int32))

def fX3_joinNearest (σ : zz_St) : Option (Int32 × zz_St) :=
  (fX3_joinNearest_L1 σ 1000 (-1 : Int32) (0 : Int32) (0 : Int32) (0 : Int32)).bind fun q27 =>
  if (σ 24 0) ≤ q27.1 then
    (fX3_join σ q27.2.1 q27.2.2.1).bind fun x30 =>
    some ((1 : Int32), (zz_u x30 24 3 q27.1))
  else
    some ((0 : Int32), σ)

def fX3_build_L1 (pieceTotal_ : Int32) : Nat → Int32 → Int32 → zz_St → Option (Int32 × Int32 × zz_St)
  | 0, _, _, _ => none
  | n + 1, isJoined_, round_, σ =>
    (if (14 : Int32) ≤ round_ then
      some false
    else
      if isJoined_ = 0 then
        some false
      else
        some true).bind fun b3 =>
    if b3 = true then
      (fX3_joinNearest σ).bind fun x10 =>
      fX3_build_L1 pieceTotal_ n x10.1 (round_ + (1 : Int32)) x10.2
    else
      some (isJoined_, round_, σ)

def fX3_build (σ : zz_St) (pieceTotal_ : Int32) : Option zz_St :=
  (fX3_joinWhatMust σ pieceTotal_).bind fun x1 =>
  (fX3_build_L1 pieceTotal_ 1000 (1 : Int32) (0 : Int32) (zz_u x1 24 3 (-1 : Int32))).bind fun q12 =>
  some q12.2.2

def fX5_isNeeded (σ : zz_St) (piece_ : Int32) (ahead_ : Int32) (definedNames_ : Int32) : Option Int32 :=
  (zz_ix 4 (2 : Int32)).bind fun x1 =>
  (zz_ga (σ (8 + x1)) 14 piece_).bind fun x3 =>
  (zz_ix 4 (0 : Int32)).bind fun x5 =>
  (zz_ga (σ (8 + x5)) 14 ahead_).bind fun x7 =>
  (some ((x3 &&& x7) &&& (definedNames_ ^^^ (-1 : Int32)))).bind fun x9 =>
  (zz_ix 4 (1 : Int32)).bind fun x11 =>
  (zz_ga (σ (8 + x11)) 14 piece_).bind fun x13 =>
  (zz_ix 4 (3 : Int32)).bind fun x15 =>
  (zz_ga (σ (8 + x15)) 14 ahead_).bind fun x17 =>
  (some (x13 &&& x17)).bind fun x19 =>
  (zz_ix 4 (0 : Int32)).bind fun x21 =>
  (zz_ga (σ (8 + x21)) 14 piece_).bind fun x23 =>
  (zz_ix 4 (1 : Int32)).bind fun x25 =>
  (zz_ga (σ (8 + x25)) 14 ahead_).bind fun x27 =>
  (some (x23 &&& x27)).bind fun x29 =>
  (if ((x9 ||| x19) ||| x29) = 0 then
    some false
  else
    some true).bind fun b31 =>
  some (zz_bi b31)

def fX5_neededBy_L2 (σ : zz_St) (set_ : Int32) (definedNames_ : Int32) (piece_ : Int32) : Nat → Int32 → Int32 → Option (Int32 × Int32)
  | 0, _, _ => none
  | n + 1, needed_, ahead_ =>
    (if (σ 1 0) ≤ ahead_ then
      some false
    else
      (fX7_isIn σ piece_ set_).bind fun x8 =>
      if x8 = 0 then
        some false
      else
        some true).bind fun b2 =>
    if b2 = true then
      ((if ahead_ = piece_ then
        some false
      else
        (fX5_isNeeded σ piece_ ahead_ definedNames_).bind fun x20 =>
        if x20 = 0 then
          some false
        else
          some true).bind fun b14 =>
      if b14 = true then
        (some (needed_ ||| ((1 : Int32) <<< (ahead_ &&& 31)))).bind fun x23 =>
        some x23
      else
        some needed_).bind fun x11 =>
      fX5_neededBy_L2 σ set_ definedNames_ piece_ n x11 (ahead_ + (1 : Int32))
    else
      some (needed_, ahead_)

def fX5_neededBy_L1 (σ : zz_St) (set_ : Int32) (definedNames_ : Int32) : Nat → Int32 → Int32 → Option (Int32 × Int32)
  | 0, _, _ => none
  | n + 1, needed_, piece_ =>
    if (σ 1 0) ≤ piece_ then
      some (needed_, piece_)
    else
      (fX5_neededBy_L2 σ set_ definedNames_ piece_ 1000 needed_ (0 : Int32)).bind fun q25 =>
      fX5_neededBy_L1 σ set_ definedNames_ n q25.1 (piece_ + (1 : Int32))

def fX5_neededBy (σ : zz_St) (set_ : Int32) (definedNames_ : Int32) : Option Int32 :=
  (fX5_neededBy_L1 σ set_ definedNames_ 1000 (0 : Int32) (0 : Int32)).bind fun q27 =>
  some q27.1

def fX4_findNeeds_L2 (group_ : Int32) (neededPieces_ : Int32) : Nat → Int32 → zz_St → Option (Int32 × zz_St)
  | 0, _, _ => none
  | n + 1, other_, σ =>
    if (σ 24 2) ≤ other_ then
      some (other_, σ)
    else
      ((if other_ = group_ then
        some false
      else
        (zz_ga (σ 25) 14 other_).bind fun x18 =>
        if (neededPieces_ &&& x18) = 0 then
          some false
        else
          some true).bind fun b12 =>
      if b12 = true then
        (zz_ga (σ 43) 14 group_).bind fun x21 =>
        (zz_pa σ 43 14 group_ (x21 ||| ((1 : Int32) <<< (other_ &&& 31)))).bind fun σ23 =>
        some σ23
      else
        some σ).bind fun x9 =>
      fX4_findNeeds_L2 group_ neededPieces_ n (other_ + (1 : Int32)) x9

def fX4_findNeeds_L1 : Nat → Int32 → zz_St → Option (Int32 × zz_St)
  | 0, _, _ => none
  | n + 1, group_, σ =>
    if (σ 24 2) ≤ group_ then
      some (group_, σ)
    else
      (zz_ga (σ 25) 14 group_).bind fun x2 =>
      (fX5_neededBy σ x2 (σ 17 0)).bind fun x4 =>
      (zz_pa σ 43 14 group_ (0 : Int32)).bind fun σ6 =>
      (fX4_findNeeds_L2 group_ x4 1000 (0 : Int32) σ6).bind fun q25 =>
      fX4_findNeeds_L1 n (group_ + (1 : Int32)) q25.2

def fX4_findNeeds (σ : zz_St) : Option zz_St :=
  (fX4_findNeeds_L1 1000 (0 : Int32) σ).bind fun q27 =>
  some q27.2

def fX4_needByWayOfOthers_L2 (groupTotal_ : Int32) (way_ : Int32) : Nat → Int32 → zz_St → Option (Int32 × zz_St)
  | 0, _, _ => none
  | n + 1, group_, σ =>
    if groupTotal_ ≤ group_ then
      some (group_, σ)
    else
      ((zz_ga (σ 43) 14 group_).bind fun x6 =>
      (fX7_isIn σ way_ x6).bind fun x8 =>
      if x8 = 0 then
        some σ
      else
        (zz_ga (σ 43) 14 group_).bind fun x11 =>
        (zz_ga (σ 43) 14 way_).bind fun x13 =>
        (zz_pa σ 43 14 group_ (x11 ||| x13)).bind fun σ15 =>
        some σ15).bind fun x3 =>
      fX4_needByWayOfOthers_L2 groupTotal_ way_ n (group_ + (1 : Int32)) x3

def fX4_needByWayOfOthers_L1 (groupTotal_ : Int32) : Nat → Int32 → zz_St → Option (Int32 × zz_St)
  | 0, _, _ => none
  | n + 1, way_, σ =>
    if groupTotal_ ≤ way_ then
      some (way_, σ)
    else
      (fX4_needByWayOfOthers_L2 groupTotal_ way_ 1000 (0 : Int32) σ).bind fun q17 =>
      fX4_needByWayOfOthers_L1 groupTotal_ n (way_ + (1 : Int32)) q17.2

def fX4_needByWayOfOthers (σ : zz_St) (groupTotal_ : Int32) : Option zz_St :=
  (fX4_needByWayOfOthers_L1 groupTotal_ 1000 (0 : Int32) σ).bind fun q19 =>
  some q19.2

def fX4_circleOf_L1 (σ : zz_St) (group_ : Int32) (groupTotal_ : Int32) : Nat → Int32 → Int32 → Option (Int32 × Int32)
  | 0, _, _ => none
  | n + 1, circle_, other_ =>
    if groupTotal_ ≤ other_ then
      some (circle_, other_)
    else
      (((zz_ga (σ 43) 14 group_).bind fun x12 =>
      (fX7_isIn σ other_ x12).bind fun x14 =>
      if x14 = 0 then
        some false
      else
        (zz_ga (σ 43) 14 other_).bind fun x17 =>
        (fX7_isIn σ group_ x17).bind fun x19 =>
        if x19 = 0 then
          some false
        else
          some true).bind fun b7 =>
      if b7 = true then
        (some (circle_ ||| ((1 : Int32) <<< (other_ &&& 31)))).bind fun x22 =>
        some x22
      else
        some circle_).bind fun x4 =>
      fX4_circleOf_L1 σ group_ groupTotal_ n x4 (other_ + (1 : Int32))

def fX4_circleOf (σ : zz_St) (group_ : Int32) (groupTotal_ : Int32) : Option Int32 :=
  (some ((1 : Int32) <<< (group_ &&& 31))).bind fun x1 =>
  (fX4_circleOf_L1 σ group_ groupTotal_ 1000 x1 (0 : Int32)).bind fun q24 =>
  some q24.1

def fX4_nextCircle_L1 (σ : zz_St) (groupTotal_ : Int32) (placed_ : Int32) : Nat → Int32 → Option (Int32 ⊕ (Int32))
  | 0, _ => none
  | n + 1, group_ =>
    if groupTotal_ ≤ group_ then
      some (.inr group_)
    else
      (fX4_circleOf σ group_ groupTotal_).bind fun x2 =>
      ((zz_ga (σ 43) 14 group_).bind fun x7 =>
      if ((x7 &&& (x2 ^^^ (-1 : Int32))) &&& (placed_ ^^^ (-1 : Int32))) = 0 then
        some true
      else
        some false).bind fun b4 =>
      (some (zz_bi b4)).bind fun x10 =>
      ((fX7_isIn σ group_ placed_).bind fun x17 =>
      if x17 = 0 then
        if x10 = 0 then
          some false
        else
          some true
      else
        some false).bind fun b12 =>
      if b12 = true then
        some (.inl x2)
      else
        fX4_nextCircle_L1 σ groupTotal_ placed_ n (group_ + (1 : Int32))

def fX4_nextCircle (σ : zz_St) (groupTotal_ : Int32) (placed_ : Int32) : Option Int32 :=
  (fX4_nextCircle_L1 σ groupTotal_ placed_ 1000 (0 : Int32)).bind fun q21 =>
  match q21 with
  | .inl v23 =>
    some v23
  | .inr w24 =>
    some (0 : Int32)

def fX4_append_L1 (circle_ : Int32) : Nat → Int32 → zz_St → Option (Int32 × zz_St)
  | 0, _, _ => none
  | n + 1, group_, σ =>
    if (σ 24 2) ≤ group_ then
      some (group_, σ)
    else
      (zz_ga (σ 42) 14 (σ 41 0)).bind fun x5 =>
      ((fX7_isIn σ group_ circle_).bind fun x10 =>
      if x10 = 0 then
        some (0 : Int32)
      else
        (zz_ga (σ 25) 14 group_).bind fun x13 =>
        some x13).bind fun x7 =>
      (zz_pa σ 42 14 (σ 41 0) (x5 ||| x7)).bind fun σ15 =>
      fX4_append_L1 circle_ n (group_ + (1 : Int32)) σ15

def fX4_append (σ : zz_St) (circle_ : Int32) : Option zz_St :=
  if (σ 41 0) < (14 : Int32) then
    (zz_pa σ 42 14 (σ 41 0) (0 : Int32)).bind fun σ2 =>
    (fX4_append_L1 circle_ 1000 (0 : Int32) σ2).bind fun q17 =>
    ((fJ6_bitCount circle_).bind fun x22 =>
    if x22 ≤ (1 : Int32) then
      some (zz_u q17.2 41 0 ((q17.2 41 0) + (1 : Int32)))
    else
      some (zz_u (zz_u q17.2 41 0 ((q17.2 41 0) + (1 : Int32))) 41 1 (((zz_u q17.2 41 0 ((q17.2 41 0) + (1 : Int32))) 41 1) + (1 : Int32)))).bind fun x19 =>
    some x19
  else
    some σ

def fX4_build_L1 : Nat → Int32 → Int32 → zz_St → Option (Int32 × Int32 × zz_St)
  | 0, _, _, _ => none
  | n + 1, placed_, round_, σ =>
    if (σ 24 2) ≤ round_ then
      some (placed_, round_, σ)
    else
      (fX4_nextCircle σ (σ 24 2) placed_).bind fun x6 =>
      (if x6 = 0 then
        some (placed_, σ)
      else
        (some (placed_ ||| x6)).bind fun x12 =>
        (fX4_append σ x6).bind fun x14 =>
        some (x12, x14)).bind fun x8 =>
      fX4_build_L1 n x8.1 (round_ + (1 : Int32)) x8.2

def fX4_build (σ : zz_St) : Option zz_St :=
  (fX4_findNeeds σ).bind fun x1 =>
  (fX4_needByWayOfOthers x1 (x1 24 2)).bind fun x3 =>
  (fX4_build_L1 1000 (0 : Int32) (0 : Int32) (zz_u (zz_u x3 41 0 (0 : Int32)) 41 1 (0 : Int32))).bind fun q16 =>
  some q16.2.2

def fX7_putTogether (σ : zz_St) : Option zz_St :=
  (if (σ 0 7) = 0 then
    (fX3_weighAll σ).bind fun x5 =>
    (fX3_build x5 (x5 1 0)).bind fun x7 =>
    (fX4_build x7).bind fun x9 =>
    some (zz_u x9 0 7 (1 : Int32))
  else
    some σ).bind fun x1 =>
  some x1

def fX7_groupCount (σ : zz_St) : Option (Int32 × zz_St) :=
  (fX7_putTogether σ).bind fun x1 =>
  some ((x1 24 2), x1)

def fX7_requireGroup (σ : zz_St) (group_ : Int32) : Option ((Unit ⊕ String) × zz_St) :=
  (fX7_putTogether σ).bind fun x1 =>
  (if group_ < 0 then
    some true
  else
    if group_ < (x1 24 2) then
      some false
    else
      some true).bind fun b3 =>
  if b3 = true then
    some ((.inr "java/lang/IndexOutOfBoundsException"), x1)
  else
    some ((.inl ()), x1)

def fX7_group (σ : zz_St) (group_ : Int32) : Option ((Int32 ⊕ String) × zz_St) :=
  (fX7_requireGroup σ group_).bind fun x1 =>
  match x1 with
  | (.inl x1, σ4) =>
    (zz_ga (σ4 25) 14 group_).bind fun x5 =>
    some ((.inl x5), σ4)
  | (.inr E3, σ4) =>
    some ((.inr E3), σ4)

def fX7_placeOf_a25_L1 (σ : zz_St) (piece_ : Int32) (count_ : Int32) : Nat → Int32 → Option (Int32 ⊕ (Int32))
  | 0, _ => none
  | n + 1, place_ =>
    (if count_ ≤ place_ then
      some false
    else
      if (14 : Int32) ≤ place_ then
        some false
      else
        some true).bind fun b1 =>
    if b1 = true then
      (zz_ga (σ 25) 14 place_).bind fun x8 =>
      (fX7_isIn σ piece_ x8).bind fun x10 =>
      if x10 = 0 then
        fX7_placeOf_a25_L1 σ piece_ count_ n (place_ + (1 : Int32))
      else
        some (.inl place_)
    else
      some (.inr place_)

def fX7_placeOf_a25 (σ : zz_St) (piece_ : Int32) (count_ : Int32) : Option Int32 :=
  (fX7_placeOf_a25_L1 σ piece_ count_ 1000 (0 : Int32)).bind fun q13 =>
  match q13 with
  | .inl v15 =>
    some v15
  | .inr w16 =>
    some (-1 : Int32)

def fX7_groupOf (σ : zz_St) (piece_ : Int32) : Option ((Int32 ⊕ String) × zz_St) :=
  (fX7_requirePiece σ piece_).bind fun x1 =>
  match x1 with
  | .inl x1 =>
    (fX7_putTogether σ).bind fun x4 =>
    (fX7_placeOf_a25 x4 piece_ (x4 24 2)).bind fun x6 =>
    some ((.inl x6), x4)
  | .inr E3 =>
    some ((.inr E3), σ)

def fX7_linkage (σ : zz_St) (a_ : Int32) (b_ : Int32) : Option ((Int32 ⊕ String) × zz_St) :=
  (fX7_requireGroup σ a_).bind fun x1 =>
  match x1 with
  | (.inl x1, σ4) =>
    (fX7_requireGroup σ4 b_).bind fun x5 =>
    match x5 with
    | (.inl x5, σ8) =>
      if a_ = b_ then
        some ((.inr "java/lang/IllegalArgumentException"), σ8)
      else
        (zz_ga (σ8 25) 14 a_).bind fun x10 =>
        (zz_ga (σ8 25) 14 b_).bind fun x12 =>
        (fX3_linkageOf σ8 x10 x12).bind fun x14 =>
        some ((.inl x14), σ8)
    | (.inr E7, σ8) =>
      some ((.inr E7), σ8)
  | (.inr E3, σ4) =>
    some ((.inr E3), σ4)

def fX7_lastLinkage (σ : zz_St) : Option (Int32 × zz_St) :=
  (fX7_putTogether σ).bind fun x1 =>
  some ((x1 24 3), x1)

def fX7_needs (σ : zz_St) (a_ : Int32) (b_ : Int32) : Option (Int32 ⊕ String) :=
  (fX7_requirePiece σ a_).bind fun x1 =>
  match x1 with
  | .inl x1 =>
    (fX7_requirePiece σ b_).bind fun x4 =>
    match x4 with
    | .inl x4 =>
      (fX7_requireDifferent σ a_ b_).bind fun x7 =>
      match x7 with
      | .inl x7 =>
        (fX5_isNeeded σ a_ b_ (σ 17 0)).bind fun x10 =>
        (zz_bo x10).bind fun x12 =>
        some (.inl x12)
      | .inr E9 =>
        some (.inr E9)
    | .inr E6 =>
      some (.inr E6)
  | .inr E3 =>
    some (.inr E3)

def fX7_parcelCount (σ : zz_St) : Option (Int32 × zz_St) :=
  (fX7_putTogether σ).bind fun x1 =>
  some ((x1 41 0), x1)

def fX7_requireParcel (σ : zz_St) (parcel_ : Int32) : Option ((Unit ⊕ String) × zz_St) :=
  (fX7_putTogether σ).bind fun x1 =>
  (if parcel_ < 0 then
    some true
  else
    if parcel_ < (x1 41 0) then
      some false
    else
      some true).bind fun b3 =>
  if b3 = true then
    some ((.inr "java/lang/IndexOutOfBoundsException"), x1)
  else
    some ((.inl ()), x1)

def fX7_parcel (σ : zz_St) (parcel_ : Int32) : Option ((Int32 ⊕ String) × zz_St) :=
  (fX7_requireParcel σ parcel_).bind fun x1 =>
  match x1 with
  | (.inl x1, σ4) =>
    (zz_ga (σ4 42) 14 parcel_).bind fun x5 =>
    some ((.inl x5), σ4)
  | (.inr E3, σ4) =>
    some ((.inr E3), σ4)

def fX7_placeOf_a42_L1 (σ : zz_St) (piece_ : Int32) (count_ : Int32) : Nat → Int32 → Option (Int32 ⊕ (Int32))
  | 0, _ => none
  | n + 1, place_ =>
    (if count_ ≤ place_ then
      some false
    else
      if (14 : Int32) ≤ place_ then
        some false
      else
        some true).bind fun b1 =>
    if b1 = true then
      (zz_ga (σ 42) 14 place_).bind fun x8 =>
      (fX7_isIn σ piece_ x8).bind fun x10 =>
      if x10 = 0 then
        fX7_placeOf_a42_L1 σ piece_ count_ n (place_ + (1 : Int32))
      else
        some (.inl place_)
    else
      some (.inr place_)

def fX7_placeOf_a42 (σ : zz_St) (piece_ : Int32) (count_ : Int32) : Option Int32 :=
  (fX7_placeOf_a42_L1 σ piece_ count_ 1000 (0 : Int32)).bind fun q13 =>
  match q13 with
  | .inl v15 =>
    some v15
  | .inr w16 =>
    some (-1 : Int32)

def fX7_parcelOf (σ : zz_St) (piece_ : Int32) : Option ((Int32 ⊕ String) × zz_St) :=
  (fX7_requirePiece σ piece_).bind fun x1 =>
  match x1 with
  | .inl x1 =>
    (fX7_putTogether σ).bind fun x4 =>
    (fX7_placeOf_a42 x4 piece_ (x4 41 0)).bind fun x6 =>
    some ((.inl x6), x4)
  | .inr E3 =>
    some ((.inr E3), σ)

def fX7_knots (σ : zz_St) : Option (Int32 × zz_St) :=
  (fX7_putTogether σ).bind fun x1 =>
  some ((x1 41 1), x1)

def fX5_linesOf_L1 (σ : zz_St) (set_ : Int32) : Nat → Int32 → Int32 → Option (Int32 × Int32)
  | 0, _, _ => none
  | n + 1, sum_, piece_ =>
    if (σ 1 0) ≤ piece_ then
      some (sum_, piece_)
    else
      ((fX7_isIn σ piece_ set_).bind fun x5 =>
      if x5 = 0 then
        some sum_
      else
        (zz_ga (σ 4) 14 piece_).bind fun x8 =>
        (zz_ga (σ 5) 14 piece_).bind fun x10 =>
        (some (sum_ + (x8 + x10))).bind fun x12 =>
        some x12).bind fun x2 =>
      fX5_linesOf_L1 σ set_ n x2 (piece_ + (1 : Int32))

def fX5_linesOf (σ : zz_St) (set_ : Int32) : Option Int32 :=
  (fX5_linesOf_L1 σ set_ 1000 (0 : Int32) (0 : Int32)).bind fun q14 =>
  some q14.1

def fX7_lines (σ : zz_St) (parcel_ : Int32) : Option ((Int32 ⊕ String) × zz_St) :=
  (fX7_requireParcel σ parcel_).bind fun x1 =>
  match x1 with
  | (.inl x1, σ4) =>
    (zz_ga (σ4 42) 14 parcel_).bind fun x5 =>
    (fX5_linesOf σ4 x5).bind fun x7 =>
    some ((.inl x7), σ4)
  | (.inr E3, σ4) =>
    some ((.inr E3), σ4)

def fX5_all (σ : zz_St) : Option Int32 :=
  some (((1 : Int32) <<< ((σ 1 0) &&& 31)) - (1 : Int32))

def fX1_brokenBy_L1 (σ : zz_St) (applied_ : Int32) : Nat → Int32 → Int32 → Option (Int32 × Int32)
  | 0, _, _ => none
  | n + 1, found_, name_ =>
    if (16 : Int32) ≤ name_ then
      some (found_, name_)
    else
      (zz_ix 4 (0 : Int32)).bind fun x2 =>
      (zz_ga (σ (13 + x2)) 16 name_).bind fun x4 =>
      (fJ6_bitCount (x4 &&& applied_)).bind fun x6 =>
      (zz_ix 4 (1 : Int32)).bind fun x8 =>
      (zz_ga (σ (13 + x8)) 16 name_).bind fun x10 =>
      (fJ6_bitCount (x10 &&& applied_)).bind fun x12 =>
      (some (((((σ 17 0) >>> (name_ &&& 31)) &&& (1 : Int32)) + x6) - x12)).bind fun x14 =>
      (zz_ga (σ 18) 16 name_).bind fun x16 =>
      (zz_ix 4 (2 : Int32)).bind fun x18 =>
      (zz_ga (σ (13 + x18)) 16 name_).bind fun x20 =>
      (fJ6_bitCount (x20 &&& applied_)).bind fun x22 =>
      (zz_ix 4 (3 : Int32)).bind fun x24 =>
      (zz_ga (σ (13 + x24)) 16 name_).bind fun x26 =>
      (fJ6_bitCount (x26 &&& applied_)).bind fun x28 =>
      (some ((x16 + x22) - x28)).bind fun x30 =>
      ((if (1 : Int32) < x14 then
        some true
      else
        if (1 : Int32) ≤ x14 then
          some false
        else
          if x30 < (1 : Int32) then
            some false
          else
            some true).bind fun b35 =>
      if b35 = true then
        (some (found_ ||| ((1 : Int32) <<< (name_ &&& 31)))).bind fun x43 =>
        some x43
      else
        some found_).bind fun x32 =>
      fX1_brokenBy_L1 σ applied_ n x32 (name_ + (1 : Int32))

def fX1_brokenBy (σ : zz_St) (applied_ : Int32) : Option Int32 :=
  (fX1_brokenBy_L1 σ applied_ 1000 (0 : Int32) (0 : Int32)).bind fun q45 =>
  some q45.1

def fX7_broken (σ : zz_St) (pieces_ : Int32) : Option (Int32 ⊕ String) :=
  (fX5_all σ).bind fun x1 =>
  if (pieces_ &&& (x1 ^^^ (-1 : Int32))) = 0 then
    (fX1_brokenBy σ pieces_).bind fun x4 =>
    some (.inl x4)
  else
    some (.inr "java/lang/IllegalArgumentException")

def fX7_breakageInOrder_L1 (σ : zz_St) : Nat → Int32 → Int32 → Int32 → Option (Int32 × Int32 × Int32)
  | 0, _, _, _ => none
  | n + 1, applied_, sum_, parcel_ =>
    if (σ 41 0) ≤ parcel_ then
      some (applied_, sum_, parcel_)
    else
      (zz_ga (σ 42) 14 parcel_).bind fun x2 =>
      (some (applied_ ||| x2)).bind fun x4 =>
      (fX1_brokenBy σ x4).bind fun x6 =>
      (fJ6_bitCount x6).bind fun x8 =>
      (some (sum_ + x8)).bind fun x10 =>
      fX7_breakageInOrder_L1 σ n x4 x10 (parcel_ + (1 : Int32))

def fX7_breakageInOrder (σ : zz_St) : Option Int32 :=
  (fX7_breakageInOrder_L1 σ 1000 (0 : Int32) (0 : Int32) (0 : Int32)).bind fun q12 =>
  some q12.2.1

def fX7_breakage (σ : zz_St) : Option (Int32 × zz_St) :=
  (fX7_putTogether σ).bind fun x1 =>
  (fX7_breakageInOrder x1).bind fun x3 =>
  some (x3, x1)

def fX0_nextAfter_L1 (σ : zz_St) (chosen_ : Int32) : Nat → Int32 → Int32 → Int32 → Option (Int32 × Int32 × Int32)
  | 0, _, _, _ => none
  | n + 1, found_, leastThen_, parcel_ =>
    if (σ 44 1) ≤ parcel_ then
      some (found_, leastThen_, parcel_)
    else
      (((fX7_isIn σ parcel_ chosen_).bind fun x10 =>
      if x10 = 0 then
        (zz_ga (σ 46) 512 (chosen_ ||| ((1 : Int32) <<< (parcel_ &&& 31)))).bind fun x13 =>
        if leastThen_ ≤ x13 then
          some false
        else
          some true
      else
        some false).bind fun b5 =>
      if b5 = true then
        (zz_ga (σ 46) 512 (chosen_ ||| ((1 : Int32) <<< (parcel_ &&& 31)))).bind fun x16 =>
        some (parcel_, x16)
      else
        some (found_, leastThen_)).bind fun x2 =>
      fX0_nextAfter_L1 σ chosen_ n x2.1 x2.2 (parcel_ + (1 : Int32))

def fX0_nextAfter (σ : zz_St) (chosen_ : Int32) : Option Int32 :=
  (fX0_nextAfter_L1 σ chosen_ 1000 (-1 : Int32) (1000000 : Int32) (0 : Int32)).bind fun q18 =>
  some q18.1

def fX4_piecesIn_L1 (σ : zz_St) (chosen_ : Int32) : Nat → Int32 → Int32 → Option (Int32 × Int32)
  | 0, _, _ => none
  | n + 1, set_, parcel_ =>
    if (σ 41 0) ≤ parcel_ then
      some (set_, parcel_)
    else
      ((fX7_isIn σ parcel_ chosen_).bind fun x5 =>
      if x5 = 0 then
        some (0 : Int32)
      else
        (zz_ga (σ 42) 14 parcel_).bind fun x8 =>
        some x8).bind fun x2 =>
      (some (set_ ||| x2)).bind fun x10 =>
      fX4_piecesIn_L1 σ chosen_ n x10 (parcel_ + (1 : Int32))

def fX4_piecesIn (σ : zz_St) (chosen_ : Int32) : Option Int32 :=
  (fX4_piecesIn_L1 σ chosen_ 1000 (0 : Int32) (0 : Int32)).bind fun q12 =>
  some q12.1

def fX0_walk_L1 : Nat → Int32 → Int32 → zz_St → Option (Int32 × Int32 × zz_St)
  | 0, _, _, _ => none
  | n + 1, chosen_, place_, σ =>
    if (σ 44 1) ≤ place_ then
      some (chosen_, place_, σ)
    else
      (fX0_nextAfter σ chosen_).bind fun x2 =>
      (if x2 < 0 then
        some (chosen_, σ)
      else
        (zz_pa σ 45 9 place_ x2).bind fun σ8 =>
        (some (chosen_ ||| ((1 : Int32) <<< (x2 &&& 31)))).bind fun x10 =>
        some (x10, σ8)).bind fun x4 =>
      fX0_walk_L1 n x4.1 (place_ + (1 : Int32)) x4.2

def fX0_walk (σ : zz_St) : Option zz_St :=
  (fX0_walk_L1 1000 (0 : Int32) (0 : Int32) σ).bind fun q12 =>
  some q12.2.2

def fX0_find_L1 : Nat → Int32 → zz_St → Option (Int32 × zz_St)
  | 0, _, _ => none
  | n + 1, chosen_, σ =>
    if chosen_ < 0 then
      some (chosen_, σ)
    else
      (fX0_nextAfter σ chosen_).bind fun x4 =>
      (if 0 ≤ x4 then
        (zz_ga (σ 46) 512 (chosen_ ||| ((1 : Int32) <<< (x4 &&& 31)))).bind fun x10 =>
        some x10
      else
        some (0 : Int32)).bind fun x6 =>
      (if chosen_ = 0 then
        some (0 : Int32)
      else
        (fX4_piecesIn σ chosen_).bind fun x16 =>
        (fX1_brokenBy σ x16).bind fun x18 =>
        (fJ6_bitCount x18).bind fun x20 =>
        some x20).bind fun x12 =>
      (zz_pa σ 46 512 chosen_ (x12 + x6)).bind fun σ22 =>
      fX0_find_L1 n (chosen_ + (-1 : Int32)) σ22

def fX0_find (σ : zz_St) : Option zz_St :=
  (some (((1 : Int32) <<< (((zz_u σ 44 1 (zz_min (σ 41 0) (9 : Int32))) 44 1) &&& 31)) - (1 : Int32))).bind fun x1 =>
  (fX0_find_L1 1000 x1 (zz_u σ 44 1 (zz_min (σ 41 0) (9 : Int32)))).bind fun q24 =>
  (zz_ga (q24.2 46) 512 (0 : Int32)).bind fun x26 =>
  (fX0_walk (zz_u q24.2 44 0 x26)).bind fun x28 =>
  some x28

def fX7_findBest (σ : zz_St) : Option ((Unit ⊕ String) × zz_St) :=
  (fX7_putTogether σ).bind fun x1 =>
  if (x1 41 0) ≤ (9 : Int32) then
    (if (x1 0 8) = 0 then
      (fX0_find x1).bind fun x8 =>
      some (zz_u x8 0 8 (1 : Int32))
    else
      some x1).bind fun x4 =>
    some ((.inl ()), x4)
  else
    some ((.inr "java/lang/IllegalStateException"), x1)

def fX7_leastBreakage (σ : zz_St) : Option ((Int32 ⊕ String) × zz_St) :=
  (fX7_findBest σ).bind fun x1 =>
  match x1 with
  | (.inl x1, σ4) =>
    some ((.inl (σ4 44 0)), σ4)
  | (.inr E3, σ4) =>
    some ((.inr E3), σ4)

def fX7_best (σ : zz_St) (place_ : Int32) : Option ((Int32 ⊕ String) × zz_St) :=
  (fX7_findBest σ).bind fun x1 =>
  match x1 with
  | (.inl x1, σ4) =>
    (if place_ < 0 then
      some true
    else
      if place_ < (σ4 44 1) then
        some false
      else
        some true).bind fun b5 =>
    if b5 = true then
      some ((.inr "java/lang/IndexOutOfBoundsException"), σ4)
    else
      (zz_ga (σ4 45) 9 place_).bind fun x12 =>
      some ((.inl x12), σ4)
  | (.inr E3, σ4) =>
    some ((.inr E3), σ4)

def fX7_setPurpose (σ : zz_St) (piece_ : Int32) (purpose_ : Int32) : Option ((Int32 ⊕ String) × zz_St) :=
  (fX7_requirePiece σ piece_).bind fun x1 =>
  match x1 with
  | .inl x1 =>
    (fX7_isUpTo σ purpose_ (9 : Int32)).bind fun x4 =>
    if x4 = 0 then
      some ((.inr "java/lang/IllegalArgumentException"), σ)
    else
      (zz_ga (σ 6) 14 piece_).bind fun x7 =>
      (zz_pa σ 6 14 piece_ purpose_).bind fun σ9 =>
      some ((.inl x7), σ9)
  | .inr E3 =>
    some ((.inr E3), σ)

def fX3_isTogether (σ : zz_St) (a_ : Int32) (b_ : Int32) : Option Int32 :=
  ((fX7_placeOf_a25 σ a_ (σ 24 2)).bind fun x4 =>
  (fX7_placeOf_a25 σ b_ (σ 24 2)).bind fun x6 =>
  if x4 = x6 then
    some true
  else
    some false).bind fun b1 =>
  some (zz_bi b1)

def fX7_agreement_L2 (σ : zz_St) (b_ : Int32) : Nat → Int32 → Int32 → Int32 → Option (Int32 × Int32 × Int32)
  | 0, _, _, _ => none
  | n + 1, pairs_, agreed_, a_ =>
    if b_ ≤ a_ then
      some (pairs_, agreed_, a_)
    else
      ((zz_ga (σ 6) 14 a_).bind fun x8 =>
      (zz_ga (σ 6) 14 b_).bind fun x10 =>
      if x8 = x10 then
        some true
      else
        some false).bind fun b5 =>
      (some (zz_bi b5)).bind fun x13 =>
      ((fX3_isTogether σ a_ b_).bind fun x18 =>
      if x13 = x18 then
        some (agreed_ + (1 : Int32))
      else
        some agreed_).bind fun x15 =>
      fX7_agreement_L2 σ b_ n (pairs_ + (1 : Int32)) x15 (a_ + (1 : Int32))

def fX7_agreement_L1 (σ : zz_St) : Nat → Int32 → Int32 → Int32 → Option (Int32 × Int32 × Int32)
  | 0, _, _, _ => none
  | n + 1, pairs_, agreed_, b_ =>
    if (σ 1 0) ≤ b_ then
      some (pairs_, agreed_, b_)
    else
      (fX7_agreement_L2 σ b_ 1000 pairs_ agreed_ (0 : Int32)).bind fun q21 =>
      fX7_agreement_L1 σ n q21.1 q21.2.1 (b_ + (1 : Int32))

def fX7_agreement (σ : zz_St) : Option (UInt64 × zz_St) :=
  (fX7_putTogether σ).bind fun x1 =>
  (fX7_agreement_L1 x1 1000 (0 : Int32) (0 : Int32) (1 : Int32)).bind fun q23 =>
  (if q23.1 = 0 then
    some FP.dconst1
  else
    (zz_dd (FP.i2d q23.2.1) (FP.i2d q23.1)).bind fun x29 =>
    some x29).bind fun x25 =>
  some (x25, x1)

def fX7_mix (σ : zz_St) (d_ : Int64) (x_ : Int64) : Option Int64 :=
  some ((d_ * (31 : Int64)) + x_)

def fX5_mixInto_L2 (σ : zz_St) (d_ : Int64) (piece_ : Int32) : Nat → Int64 → Int32 → Option (Int64 × Int32)
  | 0, _, _ => none
  | n + 1, mixed_, what_ =>
    if (4 : Int32) ≤ what_ then
      some (mixed_, what_)
    else
      (zz_ix 4 what_).bind fun x21 =>
      (zz_ga (σ (8 + x21)) 14 piece_).bind fun x23 =>
      (fX7_mix σ mixed_ x23.toInt64).bind fun x25 =>
      fX5_mixInto_L2 σ d_ piece_ n x25 (what_ + (1 : Int32))

def fX5_mixInto_L1 (σ : zz_St) (d_ : Int64) : Nat → Int64 → Int32 → Option (Int64 × Int32)
  | 0, _, _ => none
  | n + 1, mixed_, piece_ =>
    if (σ 1 0) ≤ piece_ then
      some (mixed_, piece_)
    else
      (zz_ga (σ 2) 14 piece_).bind fun x4 =>
      (fX7_mix σ mixed_ x4.toInt64).bind fun x6 =>
      (zz_ga (σ 3) 14 piece_).bind fun x8 =>
      (fX7_mix σ x6 x8.toInt64).bind fun x10 =>
      (zz_ga (σ 4) 14 piece_).bind fun x12 =>
      (fX7_mix σ x10 x12.toInt64).bind fun x14 =>
      (zz_ga (σ 5) 14 piece_).bind fun x16 =>
      (fX7_mix σ x14 x16.toInt64).bind fun x18 =>
      (fX5_mixInto_L2 σ d_ piece_ 1000 x18 (0 : Int32)).bind fun q27 =>
      (zz_ga (σ 6) 14 piece_).bind fun x29 =>
      (fX7_mix σ q27.1 x29.toInt64).bind fun x31 =>
      fX5_mixInto_L1 σ d_ n x31 (piece_ + (1 : Int32))

def fX5_mixInto (σ : zz_St) (d_ : Int64) : Option Int64 :=
  (fX7_mix σ d_ (((σ 1 0)).toInt64)).bind fun x1 =>
  (fX5_mixInto_L1 σ d_ 1000 x1 (0 : Int32)).bind fun q33 =>
  some q33.1

def fX7_mixRow_a20_L1 (σ : zz_St) (d_ : Int64) (count_ : Int32) : Nat → Int64 → Int32 → Option (Int64 × Int32)
  | 0, _, _ => none
  | n + 1, mixed_, k_ =>
    (if count_ ≤ k_ then
      some false
    else
      if (4 : Int32) ≤ k_ then
        some false
      else
        some true).bind fun b1 =>
    if b1 = true then
      (zz_ga (σ 20) 4 k_).bind fun x8 =>
      (fX7_mix σ mixed_ x8.toInt64).bind fun x10 =>
      fX7_mixRow_a20_L1 σ d_ count_ n x10 (k_ + (1 : Int32))
    else
      some (mixed_, k_)

def fX7_mixRow_a20 (σ : zz_St) (d_ : Int64) (count_ : Int32) : Option Int64 :=
  (fX7_mixRow_a20_L1 σ d_ count_ 1000 d_ (0 : Int32)).bind fun q12 =>
  some q12.1

def fX1_mixInto_L1 (σ : zz_St) (d_ : Int64) : Nat → Int64 → Int32 → Option (Int64 × Int32)
  | 0, _, _ => none
  | n + 1, mixed_, name_ =>
    if (16 : Int32) ≤ name_ then
      some (mixed_, name_)
    else
      (fX7_mix σ mixed_ (((((σ 17 0) >>> (name_ &&& 31)) &&& (1 : Int32))).toInt64)).bind fun x2 =>
      (zz_ga (σ 18) 16 name_).bind fun x4 =>
      (fX7_mix σ x2 x4.toInt64).bind fun x6 =>
      fX1_mixInto_L1 σ d_ n x6 (name_ + (1 : Int32))

def fX1_mixInto (σ : zz_St) (d_ : Int64) : Option Int64 :=
  (fX1_mixInto_L1 σ d_ 1000 d_ (0 : Int32)).bind fun q8 =>
  some q8.1

def fX7_mixRow_a25_L1 (σ : zz_St) (d_ : Int64) (count_ : Int32) : Nat → Int64 → Int32 → Option (Int64 × Int32)
  | 0, _, _ => none
  | n + 1, mixed_, k_ =>
    (if count_ ≤ k_ then
      some false
    else
      if (14 : Int32) ≤ k_ then
        some false
      else
        some true).bind fun b1 =>
    if b1 = true then
      (zz_ga (σ 25) 14 k_).bind fun x8 =>
      (fX7_mix σ mixed_ x8.toInt64).bind fun x10 =>
      fX7_mixRow_a25_L1 σ d_ count_ n x10 (k_ + (1 : Int32))
    else
      some (mixed_, k_)

def fX7_mixRow_a25 (σ : zz_St) (d_ : Int64) (count_ : Int32) : Option Int64 :=
  (fX7_mixRow_a25_L1 σ d_ count_ 1000 d_ (0 : Int32)).bind fun q12 =>
  some q12.1

def fX7_mixRow_a42_L1 (σ : zz_St) (d_ : Int64) (count_ : Int32) : Nat → Int64 → Int32 → Option (Int64 × Int32)
  | 0, _, _ => none
  | n + 1, mixed_, k_ =>
    (if count_ ≤ k_ then
      some false
    else
      if (14 : Int32) ≤ k_ then
        some false
      else
        some true).bind fun b1 =>
    if b1 = true then
      (zz_ga (σ 42) 14 k_).bind fun x8 =>
      (fX7_mix σ mixed_ x8.toInt64).bind fun x10 =>
      fX7_mixRow_a42_L1 σ d_ count_ n x10 (k_ + (1 : Int32))
    else
      some (mixed_, k_)

def fX7_mixRow_a42 (σ : zz_St) (d_ : Int64) (count_ : Int32) : Option Int64 :=
  (fX7_mixRow_a42_L1 σ d_ count_ 1000 d_ (0 : Int32)).bind fun q12 =>
  some q12.1

def fX7_digest (σ : zz_St) : Option (Int64 × zz_St) :=
  (fX7_putTogether σ).bind fun x1 =>
  (fX5_mixInto x1 (173 : Int64)).bind fun x3 =>
  (fX7_mixRow_a20 x1 x3 (4 : Int32)).bind fun x5 =>
  (fX7_mix x1 x5 (((x1 19 1)).toInt64)).bind fun x7 =>
  (fX7_mix x1 x7 (((x1 24 0)).toInt64)).bind fun x9 =>
  (fX7_mix x1 x9 (((x1 24 1)).toInt64)).bind fun x11 =>
  (fX1_mixInto x1 x11).bind fun x13 =>
  (fX7_mix x1 x13 (((x1 24 2)).toInt64)).bind fun x15 =>
  (fX7_mixRow_a25 x1 x15 (x1 24 2)).bind fun x17 =>
  (fX7_mix x1 x17 (((x1 41 0)).toInt64)).bind fun x19 =>
  (fX7_mixRow_a42 x1 x19 (x1 41 0)).bind fun x21 =>
  (fX7_breakageInOrder x1).bind fun x23 =>
  (fX7_mix x1 x21 x23.toInt64).bind fun x25 =>
  some (x25, x1)

def fX8_thrown (σ : zz_St) : Option Int32 :=
  some (σ 47 0)

def fX8_isIn (σ : zz_St) (v_ : Int32) (low_ : Int32) (high_ : Int32) : Option Int32 :=
  (if v_ < low_ then
    some false
  else
    if high_ < v_ then
      some false
    else
      some true).bind fun b1 =>
  some (zz_bi b1)

def fX8_no (σ : zz_St) (number_ : Int32) : Option (Int32 × zz_St) :=
  some ((0 : Int32), (zz_u σ 47 0 number_))

def fX8_addPiece_L1 (file_ : Int32) (line_ : Int32) (added_ : Int32) (taken_ : Int32) (at_ : Int32) : Nat → Int32 → zz_St → Option (Int32 × zz_St)
  | 0, _, _ => none
  | n + 1, what_, σ =>
    if (4 : Int32) ≤ what_ then
      some (what_, σ)
    else
      (zz_pa σ 49 56 (((4 : Int32) * (σ 47 1)) + what_) (0 : Int32)).bind fun σ32 =>
      fX8_addPiece_L1 file_ line_ added_ taken_ at_ n (what_ + (1 : Int32)) σ32

def fX8_addPiece_L2 (file_ : Int32) (line_ : Int32) (added_ : Int32) (taken_ : Int32) (at_ : Int32) : Nat → Int32 → zz_St → Option (Int32 × zz_St)
  | 0, _, _ => none
  | n + 1, other_, σ =>
    if (14 : Int32) ≤ other_ then
      some (other_, σ)
    else
      (zz_pa σ 51 196 (((14 : Int32) * (σ 47 1)) + other_) (0 : Int32)).bind fun σ37 =>
      (zz_pa σ37 51 196 (((14 : Int32) * other_) + (σ37 47 1)) (0 : Int32)).bind fun σ39 =>
      fX8_addPiece_L2 file_ line_ added_ taken_ at_ n (other_ + (1 : Int32)) σ39

def fX8_addPiece (σ : zz_St) (file_ : Int32) (line_ : Int32) (added_ : Int32) (taken_ : Int32) : Option (Int32 × zz_St) :=
  ((fX8_isIn (zz_u σ 47 0 (0 : Int32)) file_ (0 : Int32) (9 : Int32)).bind fun x6 =>
  if x6 = 0 then
    some true
  else
    (fX8_isIn (zz_u σ 47 0 (0 : Int32)) line_ (0 : Int32) (9999 : Int32)).bind fun x9 =>
    if x9 = 0 then
      some true
    else
      (fX8_isIn (zz_u σ 47 0 (0 : Int32)) added_ (0 : Int32) (999 : Int32)).bind fun x12 =>
      if x12 = 0 then
        some true
      else
        (fX8_isIn (zz_u σ 47 0 (0 : Int32)) taken_ (0 : Int32) (999 : Int32)).bind fun x15 =>
        if x15 = 0 then
          some true
        else
          some false).bind fun b1 =>
  if b1 = true then
    (fX8_no (zz_u σ 47 0 (0 : Int32)) (1 : Int32)).bind fun x18 =>
    some (x18.1, x18.2)
  else
    if ((zz_u σ 47 0 (0 : Int32)) 47 1) = (14 : Int32) then
      (fX8_no (zz_u σ 47 0 (0 : Int32)) (2 : Int32)).bind fun x45 =>
      some (x45.1, x45.2)
    else
      (some ((4 : Int32) * ((zz_u σ 47 0 (0 : Int32)) 47 1))).bind fun x21 =>
      (zz_pa (zz_u σ 47 0 (0 : Int32)) 48 56 x21 file_).bind fun σ23 =>
      (zz_pa σ23 48 56 (x21 + (1 : Int32)) line_).bind fun σ25 =>
      (zz_pa σ25 48 56 (x21 + (2 : Int32)) added_).bind fun σ27 =>
      (zz_pa σ27 48 56 (x21 + (3 : Int32)) taken_).bind fun σ29 =>
      (fX8_addPiece_L1 file_ line_ added_ taken_ x21 1000 (0 : Int32) σ29).bind fun q34 =>
      (fX8_addPiece_L2 file_ line_ added_ taken_ x21 1000 (0 : Int32) q34.2).bind fun q41 =>
      (zz_pa q41.2 50 14 (q41.2 47 1) (0 : Int32)).bind fun σ43 =>
      some ((((zz_u σ43 47 1 ((σ43 47 1) + (1 : Int32))) 47 1) - (1 : Int32)), (zz_u σ43 47 1 ((σ43 47 1) + (1 : Int32))))

def fX8_isPiece (σ : zz_St) (p_ : Int32) : Option Int32 :=
  (fX8_isIn σ p_ (0 : Int32) ((σ 47 1) - (1 : Int32))).bind fun x1 =>
  (zz_bo x1).bind fun x3 =>
  some x3

def fX8_isKind (σ : zz_St) (kind_ : Int32) : Option Int32 :=
  (fX8_isIn σ kind_ (0 : Int32) (3 : Int32)).bind fun x1 =>
  (zz_bo x1).bind fun x3 =>
  some x3

def fX8_namesOf (σ : zz_St) (piece_ : Int32) (what_ : Int32) : Option Int32 :=
  (zz_ga (σ 49) 56 (((4 : Int32) * piece_) + what_)).bind fun x1 =>
  some x1

def fX8_setNames (σ : zz_St) (piece_ : Int32) (what_ : Int32) (set_ : Int32) : Option (Int32 × zz_St) :=
  ((fX8_isPiece (zz_u σ 47 0 (0 : Int32)) piece_).bind fun x6 =>
  if x6 = 0 then
    some true
  else
    (fX8_isKind (zz_u σ 47 0 (0 : Int32)) what_).bind fun x9 =>
    if x9 = 0 then
      some true
    else
      some false).bind fun b1 =>
  if b1 = true then
    (fX8_no (zz_u σ 47 0 (0 : Int32)) (1 : Int32)).bind fun x12 =>
    some (x12.1, x12.2)
  else
    (fX8_isIn (zz_u σ 47 0 (0 : Int32)) set_ (0 : Int32) (65535 : Int32)).bind fun x14 =>
    if x14 = 0 then
      (fX8_no (zz_u σ 47 0 (0 : Int32)) (2 : Int32)).bind fun x21 =>
      some (x21.1, x21.2)
    else
      (fX8_namesOf (zz_u σ 47 0 (0 : Int32)) piece_ what_).bind fun x17 =>
      (zz_pa (zz_u σ 47 0 (0 : Int32)) 49 56 (((4 : Int32) * piece_) + what_) set_).bind fun σ19 =>
      some (x17, σ19)

def fX8_names (σ : zz_St) (piece_ : Int32) (what_ : Int32) : Option (Int32 × zz_St) :=
  (((fX8_isPiece (zz_u σ 47 0 (0 : Int32)) piece_).bind fun x9 =>
  if x9 = 0 then
    some false
  else
    (fX8_isKind (zz_u σ 47 0 (0 : Int32)) what_).bind fun x12 =>
    if x12 = 0 then
      some false
    else
      some true).bind fun b4 =>
  if b4 = true then
    (fX8_namesOf (zz_u σ 47 0 (0 : Int32)) piece_ what_).bind fun x15 =>
    some x15
  else
    (fX8_no (zz_u σ 47 0 (0 : Int32)) (1 : Int32)).bind fun x17 =>
    some x17.1).bind fun x1 =>
  some (x1, (zz_u σ 47 0 (0 : Int32)))

def fX8_setName (σ : zz_St) (name_ : Int32) (isDefined_ : Int32) (uses_ : Int32) : Option (Int32 × zz_St) :=
  ((fX8_isIn σ name_ (0 : Int32) (15 : Int32)).bind fun x4 =>
  if x4 = 0 then
    some (1 : Int32)
  else
    ((fX8_isIn σ uses_ (0 : Int32) (9 : Int32)).bind fun x10 =>
    if x10 = 0 then
      some (2 : Int32)
    else
      some (0 : Int32)).bind fun x7 =>
    some x7).bind fun x1 =>
  if ((zz_u σ 47 0 x1) 47 0) = 0 then
    ((zz_ga ((zz_u σ 47 0 x1) 52) 16 name_).bind fun x17 =>
    if x17 = isDefined_ then
      (zz_ga ((zz_u σ 47 0 x1) 53) 16 name_).bind fun x20 =>
      if x20 = uses_ then
        some false
      else
        some true
    else
      some true).bind fun b14 =>
    (some (zz_bi b14)).bind fun x23 =>
    (zz_bo isDefined_).bind fun x27 =>
    (zz_pa (zz_u σ 47 0 x1) 52 16 name_ x27).bind fun σ25 =>
    (zz_pa σ25 53 16 name_ uses_).bind fun σ29 =>
    (zz_bo x23).bind fun x31 =>
    some (x31, σ29)
  else
    some ((0 : Int32), (zz_u σ 47 0 x1))

def fX8_dropPiece (σ : zz_St) : Option (Int32 × zz_St) :=
  if ((zz_u σ 47 0 (0 : Int32)) 47 1) = 0 then
    (fX8_no (zz_u σ 47 0 (0 : Int32)) (1 : Int32)).bind fun x2 =>
    some (x2.1, x2.2)
  else
    some (((zz_u (zz_u σ 47 0 (0 : Int32)) 47 1 (((zz_u σ 47 0 (0 : Int32)) 47 1) - (1 : Int32))) 47 1), (zz_u (zz_u σ 47 0 (0 : Int32)) 47 1 (((zz_u σ 47 0 (0 : Int32)) 47 1) - (1 : Int32))))

def fX8_pieceCount (σ : zz_St) : Option (Int32 × zz_St) :=
  some (((zz_u σ 47 0 (0 : Int32)) 47 1), (zz_u σ 47 0 (0 : Int32)))

def fX8_setWeight (σ : zz_St) (kind_ : Int32) (weight_ : Int32) : Option (Int32 × zz_St) :=
  (fX8_isKind (zz_u σ 47 0 (0 : Int32)) kind_).bind fun x1 =>
  if x1 = 0 then
    (fX8_no (zz_u σ 47 0 (0 : Int32)) (1 : Int32)).bind fun x13 =>
    some (x13.1, x13.2)
  else
    (fX8_isIn (zz_u σ 47 0 (0 : Int32)) weight_ (0 : Int32) (50 : Int32)).bind fun x4 =>
    if x4 = 0 then
      (fX8_no (zz_u σ 47 0 (0 : Int32)) (2 : Int32)).bind fun x11 =>
      some (x11.1, x11.2)
    else
      (zz_ga ((zz_u σ 47 0 (0 : Int32)) 54) 4 kind_).bind fun x7 =>
      (zz_pa (zz_u σ 47 0 (0 : Int32)) 54 4 kind_ weight_).bind fun σ9 =>
      some (x7, σ9)

def fX8_setSpan (σ : zz_St) (newSpan_ : Int32) : Option (Int32 × zz_St) :=
  (fX8_isIn (zz_u σ 47 0 (0 : Int32)) newSpan_ (0 : Int32) (999 : Int32)).bind fun x1 =>
  if x1 = 0 then
    (fX8_no (zz_u σ 47 0 (0 : Int32)) (1 : Int32)).bind fun x6 =>
    some (x6.1, x6.2)
  else
    (some ((zz_u σ 47 0 (0 : Int32)) 47 9)).bind fun x4 =>
    some (x4, (zz_u (zz_u σ 47 0 (0 : Int32)) 47 9 newSpan_))

def fX8_arePieces (σ : zz_St) (a_ : Int32) (b_ : Int32) : Option (Int32 × zz_St) :=
  (((fX8_isPiece σ a_).bind fun x9 =>
  if x9 = 0 then
    some true
  else
    (fX8_isPiece σ b_).bind fun x12 =>
    if x12 = 0 then
      some true
    else
      some false).bind fun b4 =>
  if b4 = true then
    some (1 : Int32)
  else
    some (0 : Int32)).bind fun x1 =>
  (if ((zz_u σ 47 0 x1) 47 0) = 0 then
    some true
  else
    some false).bind fun b15 =>
  some ((zz_bi b15), (zz_u σ 47 0 x1))

def fX8_allNames_L1 (σ : zz_St) (piece_ : Int32) : Nat → Int32 → Int32 → Option (Int32 × Int32)
  | 0, _, _ => none
  | n + 1, set_, what_ =>
    if (4 : Int32) ≤ what_ then
      some (set_, what_)
    else
      (fX8_namesOf σ piece_ what_).bind fun x2 =>
      (some (set_ ||| x2)).bind fun x4 =>
      fX8_allNames_L1 σ piece_ n x4 (what_ + (1 : Int32))

def fX8_allNames (σ : zz_St) (piece_ : Int32) : Option Int32 :=
  (fX8_allNames_L1 σ piece_ 1000 (0 : Int32) (0 : Int32)).bind fun q6 =>
  some q6.1

def fX8_common (σ : zz_St) (a_ : Int32) (b_ : Int32) (what_ : Int32) (other_ : Int32) : Option Int32 :=
  (fX8_namesOf σ a_ what_).bind fun x1 =>
  (fX8_namesOf σ b_ other_).bind fun x3 =>
  (fJ6_bitCount (x1 &&& x3)).bind fun x5 =>
  (fX8_namesOf σ b_ what_).bind fun x7 =>
  (fX8_namesOf σ a_ other_).bind fun x9 =>
  (fJ6_bitCount (x7 &&& x9)).bind fun x11 =>
  some (x5 + x11)

def fX8_pointsOf (σ : zz_St) (a_ : Int32) (b_ : Int32) (kind_ : Int32) : Option Int32 :=
  (zz_ga (σ 54) 4 kind_).bind fun x1 =>
  if kind_ = 0 then
    (((zz_ga (σ 48) 56 ((4 : Int32) * a_)).bind fun x36 =>
    (zz_ga (σ 48) 56 ((4 : Int32) * b_)).bind fun x38 =>
    if x36 = x38 then
      (zz_ga (σ 48) 56 (((4 : Int32) * a_) + (1 : Int32))).bind fun x41 =>
      (zz_ga (σ 48) 56 (((4 : Int32) * b_) + (1 : Int32))).bind fun x43 =>
      if (σ 47 9) < (zz_abs (x41 - x43)) then
        some false
      else
        some true
    else
      some false).bind fun b31 =>
    if b31 = true then
      some x1
    else
      some (0 : Int32)).bind fun x28 =>
    some x28
  else
    if kind_ = (1 : Int32) then
      (fX8_common σ a_ b_ (0 : Int32) (2 : Int32)).bind fun x26 =>
      some (x1 * x26)
    else
      if kind_ = (2 : Int32) then
        (fX8_common σ a_ b_ (1 : Int32) (0 : Int32)).bind fun x24 =>
        some (x1 * x24)
      else
        (fX8_allNames σ a_).bind fun x6 =>
        (fX8_allNames σ b_).bind fun x8 =>
        (fJ6_bitCount (x6 ||| x8)).bind fun x10 =>
        (if x10 = 0 then
          some (0 : Int32)
        else
          (fX8_allNames σ a_).bind fun x16 =>
          (fX8_allNames σ b_).bind fun x18 =>
          (fJ6_bitCount (x16 &&& x18)).bind fun x20 =>
          (zz_dv (x1 * x20) x10).bind fun x22 =>
          some x22).bind fun x12 =>
        some x12

def fX8_points (σ : zz_St) (a_ : Int32) (b_ : Int32) (kind_ : Int32) : Option (Int32 × zz_St) :=
  (fX8_arePieces σ a_ b_).bind fun x1 =>
  if x1.1 = 0 then
    some ((0 : Int32), x1.2)
  else
    (fX8_isKind x1.2 kind_).bind fun x4 =>
    if x4 = 0 then
      (fX8_no x1.2 (1 : Int32)).bind fun x15 =>
      some (x15.1, x15.2)
    else
      (if a_ = b_ then
        (fX8_no x1.2 (2 : Int32)).bind fun x13 =>
        some x13.1
      else
        (fX8_pointsOf x1.2 a_ b_ kind_).bind fun x11 =>
        some x11).bind fun x7 =>
      some (x7, x1.2)

def fX8_affinityOf_L1 (σ : zz_St) (a_ : Int32) (b_ : Int32) : Nat → Int32 → Int32 → Option (Int32 × Int32)
  | 0, _, _ => none
  | n + 1, sum_, kind_ =>
    if (4 : Int32) ≤ kind_ then
      some (sum_, kind_)
    else
      (fX8_pointsOf σ a_ b_ kind_).bind fun x2 =>
      (some (sum_ + x2)).bind fun x4 =>
      fX8_affinityOf_L1 σ a_ b_ n x4 (kind_ + (1 : Int32))

def fX8_affinityOf (σ : zz_St) (a_ : Int32) (b_ : Int32) : Option Int32 :=
  (fX8_affinityOf_L1 σ a_ b_ 1000 (0 : Int32) (0 : Int32)).bind fun q6 =>
  some q6.1

def fX8_affinity (σ : zz_St) (a_ : Int32) (b_ : Int32) : Option (Int32 × zz_St) :=
  (fX8_arePieces σ a_ b_).bind fun x1 =>
  if x1.1 = 0 then
    some ((0 : Int32), x1.2)
  else
    (if a_ = b_ then
      (fX8_no x1.2 (2 : Int32)).bind fun x10 =>
      some x10.1
    else
      (fX8_affinityOf x1.2 a_ b_).bind fun x8 =>
      some x8).bind fun x4 =>
    some (x4, x1.2)

def fX8_closest_L1 (σ : zz_St) (piece_ : Int32) : Nat → Int32 → Int32 → Option (Int32 × Int32)
  | 0, _, _ => none
  | n + 1, best_, other_ =>
    if (σ 47 1) ≤ other_ then
      some (best_, other_)
    else
      ((if other_ = piece_ then
        some false
      else
        if best_ = (-1 : Int32) then
          some true
        else
          (fX8_affinityOf σ piece_ other_).bind fun x15 =>
          (fX8_affinityOf σ piece_ best_).bind fun x17 =>
          if x15 ≤ x17 then
            some false
          else
            some true).bind fun b8 =>
      if b8 = true then
        some other_
      else
        some best_).bind fun x5 =>
      fX8_closest_L1 σ piece_ n x5 (other_ + (1 : Int32))

def fX8_closest (σ : zz_St) (piece_ : Int32) : Option (Int32 × zz_St) :=
  (fX8_isPiece (zz_u σ 47 0 (0 : Int32)) piece_).bind fun x1 =>
  if x1 = 0 then
    (fX8_no (zz_u σ 47 0 (0 : Int32)) (1 : Int32)).bind fun x22 =>
    some (x22.1, x22.2)
  else
    (fX8_closest_L1 (zz_u σ 47 0 (0 : Int32)) piece_ 1000 (-1 : Int32) (0 : Int32)).bind fun q20 =>
    some (q20.1, (zz_u σ 47 0 (0 : Int32)))

def fX8_setThreshold (σ : zz_St) (newThreshold_ : Int32) : Option (Int32 × zz_St) :=
  (fX8_isIn (zz_u σ 47 0 (0 : Int32)) newThreshold_ (1 : Int32) (999 : Int32)).bind fun x1 =>
  if x1 = 0 then
    (fX8_no (zz_u σ 47 0 (0 : Int32)) (1 : Int32)).bind fun x6 =>
    some (x6.1, x6.2)
  else
    (some ((zz_u σ 47 0 (0 : Int32)) 47 10)).bind fun x4 =>
    some (x4, (zz_u (zz_u σ 47 0 (0 : Int32)) 47 10 newThreshold_))

def fX8_setManner (σ : zz_St) (newManner_ : Int32) : Option (Int32 × zz_St) :=
  (fX8_isIn (zz_u σ 47 0 (0 : Int32)) newManner_ (0 : Int32) (2 : Int32)).bind fun x1 =>
  if x1 = 0 then
    (fX8_no (zz_u σ 47 0 (0 : Int32)) (1 : Int32)).bind fun x6 =>
    some (x6.1, x6.2)
  else
    (some ((zz_u σ 47 0 (0 : Int32)) 47 11)).bind fun x4 =>
    some (x4, (zz_u (zz_u σ 47 0 (0 : Int32)) 47 11 newManner_))

def fX8_saidOf (σ : zz_St) (a_ : Int32) (b_ : Int32) : Option Int32 :=
  (zz_ga (σ 51) 196 (((14 : Int32) * a_) + b_)).bind fun x1 =>
  some x1

def fX8_put (σ : zz_St) (a_ : Int32) (b_ : Int32) (what_ : Int32) : Option zz_St :=
  (zz_pa σ 51 196 (((14 : Int32) * a_) + b_) what_).bind fun σ1 =>
  (zz_pa σ1 51 196 (((14 : Int32) * b_) + a_) what_).bind fun σ3 =>
  some σ3

def fX8_joinHeads_L1 (first_ : Int32) (second_ : Int32) : Nat → Int32 → zz_St → Option (Int32 × zz_St)
  | 0, _, _ => none
  | n + 1, p_, σ =>
    if (σ 47 1) ≤ p_ then
      some (p_, σ)
    else
      ((zz_ga (σ 55) 14 p_).bind fun x5 =>
      if x5 = (zz_max first_ second_) then
        (zz_pa σ 55 14 p_ (zz_min first_ second_)).bind fun σ8 =>
        some σ8
      else
        some σ).bind fun x2 =>
      fX8_joinHeads_L1 first_ second_ n (p_ + (1 : Int32)) x2

def fX8_joinHeads (σ : zz_St) (first_ : Int32) (second_ : Int32) : Option zz_St :=
  (fX8_joinHeads_L1 first_ second_ 1000 (0 : Int32) σ).bind fun q10 =>
  some q10.2

def fX8_startGroups_L1 : Nat → Int32 → zz_St → Option (Int32 × zz_St)
  | 0, _, _ => none
  | n + 1, p_, σ =>
    if (σ 47 1) ≤ p_ then
      some (p_, σ)
    else
      (zz_pa σ 55 14 p_ p_).bind fun σ2 =>
      fX8_startGroups_L1 n (p_ + (1 : Int32)) σ2

def fX8_startGroups_L3 (a_ : Int32) : Nat → Int32 → zz_St → Option (Int32 × zz_St)
  | 0, _, _ => none
  | n + 1, b_, σ =>
    if (σ 47 1) ≤ b_ then
      some (b_, σ)
    else
      (((fX8_saidOf σ a_ b_).bind fun x16 =>
      if x16 = (1 : Int32) then
        (zz_ga (σ 55) 14 a_).bind fun x19 =>
        (zz_ga (σ 55) 14 b_).bind fun x21 =>
        if x19 = x21 then
          some false
        else
          some true
      else
        some false).bind fun b11 =>
      if b11 = true then
        (zz_ga (σ 55) 14 a_).bind fun x24 =>
        (zz_ga (σ 55) 14 b_).bind fun x26 =>
        (fX8_joinHeads σ x24 x26).bind fun x28 =>
        some x28
      else
        some σ).bind fun x8 =>
      fX8_startGroups_L3 a_ n (b_ + (1 : Int32)) x8

def fX8_startGroups_L2 : Nat → Int32 → zz_St → Option (Int32 × zz_St)
  | 0, _, _ => none
  | n + 1, a_, σ =>
    if (σ 47 1) ≤ a_ then
      some (a_, σ)
    else
      (fX8_startGroups_L3 a_ 1000 (0 : Int32) σ).bind fun q30 =>
      fX8_startGroups_L2 n (a_ + (1 : Int32)) q30.2

def fX8_startGroups (σ : zz_St) : Option zz_St :=
  (fX8_startGroups_L1 1000 (0 : Int32) σ).bind fun q4 =>
  (fX8_startGroups_L2 1000 (0 : Int32) q4.2).bind fun q32 =>
  some q32.2

def fX8_say_L2 (a_ : Int32) (b_ : Int32) (what_ : Int32) (was_ : Int32) (p_ : Int32) : Nat → Int32 → zz_St → Option (Int32 × zz_St)
  | 0, _, _ => none
  | n + 1, q_, σ =>
    if (σ 47 1) ≤ q_ then
      some (q_, σ)
    else
      (((fX8_saidOf σ p_ q_).bind fun x31 =>
      if x31 = (2 : Int32) then
        (zz_ga (σ 55) 14 p_).bind fun x34 =>
        (zz_ga (σ 55) 14 q_).bind fun x36 =>
        if x34 = x36 then
          some true
        else
          some false
      else
        some false).bind fun b26 =>
      if b26 = true then
        some (zz_u σ 47 0 (3 : Int32))
      else
        some σ).bind fun x23 =>
      fX8_say_L2 a_ b_ what_ was_ p_ n (q_ + (1 : Int32)) x23

def fX8_say_L1 (a_ : Int32) (b_ : Int32) (what_ : Int32) (was_ : Int32) : Nat → Int32 → zz_St → Option (Int32 × zz_St)
  | 0, _, _ => none
  | n + 1, p_, σ =>
    if (σ 47 1) ≤ p_ then
      some (p_, σ)
    else
      (fX8_say_L2 a_ b_ what_ was_ p_ 1000 (0 : Int32) σ).bind fun q39 =>
      fX8_say_L1 a_ b_ what_ was_ n (p_ + (1 : Int32)) q39.2

def fX8_say (σ : zz_St) (a_ : Int32) (b_ : Int32) (what_ : Int32) : Option (Int32 × zz_St) :=
  (fX8_arePieces σ a_ b_).bind fun x1 =>
  if x1.1 = 0 then
    some ((0 : Int32), x1.2)
  else
    (if a_ = b_ then
      some true
    else
      (fX8_isIn x1.2 what_ (0 : Int32) (2 : Int32)).bind fun x10 =>
      if x10 = 0 then
        some true
      else
        some false).bind fun b4 =>
    if b4 = true then
      (fX8_no x1.2 (2 : Int32)).bind fun x13 =>
      some (x13.1, x13.2)
    else
      (fX8_saidOf x1.2 a_ b_).bind fun x15 =>
      (fX8_put x1.2 a_ b_ what_).bind fun x17 =>
      (fX8_startGroups x17).bind fun x19 =>
      (fX8_say_L1 a_ b_ what_ x15 1000 (0 : Int32) x19).bind fun q41 =>
      if (q41.2 47 0) = 0 then
        some (x15, q41.2)
      else
        (fX8_put q41.2 a_ b_ x15).bind fun x44 =>
        some ((0 : Int32), x44)

def fX8_areBarred_L2 (σ : zz_St) (first_ : Int32) (second_ : Int32) (a_ : Int32) : Nat → Int32 → Int32 → Option (Int32 × Int32)
  | 0, _, _ => none
  | n + 1, are_, b_ =>
    if (σ 47 1) ≤ b_ then
      some (are_, b_)
    else
      (if are_ = 0 then
        (zz_ga (σ 55) 14 a_).bind fun x7 =>
        if x7 = first_ then
          (zz_ga (σ 55) 14 b_).bind fun x10 =>
          if x10 = second_ then
            (fX8_saidOf σ a_ b_).bind fun x13 =>
            if x13 = (2 : Int32) then
              some true
            else
              some false
          else
            some false
        else
          some false
      else
        some true).bind fun b3 =>
      (some (zz_bi b3)).bind fun x16 =>
      fX8_areBarred_L2 σ first_ second_ a_ n x16 (b_ + (1 : Int32))

def fX8_areBarred_L1 (σ : zz_St) (first_ : Int32) (second_ : Int32) : Nat → Int32 → Int32 → Option (Int32 × Int32)
  | 0, _, _ => none
  | n + 1, are_, a_ =>
    if (σ 47 1) ≤ a_ then
      some (are_, a_)
    else
      (fX8_areBarred_L2 σ first_ second_ a_ 1000 are_ (0 : Int32)).bind fun q18 =>
      fX8_areBarred_L1 σ first_ second_ n q18.1 (a_ + (1 : Int32))

def fX8_areBarred (σ : zz_St) (first_ : Int32) (second_ : Int32) : Option Int32 :=
  (fX8_areBarred_L1 σ first_ second_ 1000 (0 : Int32) (0 : Int32)).bind fun q20 =>
  (zz_bo q20.1).bind fun x22 =>
  some x22

def fX8_linkageOf_L2 (σ : zz_St) (first_ : Int32) (second_ : Int32) (a_ : Int32) : Nat → Int32 → Int32 → Int32 → Int32 → Int32 → Option (Int32 × Int32 × Int32 × Int32 × Int32)
  | 0, _, _, _, _, _ => none
  | n + 1, most_, least_, sum_, many_, b_ =>
    if (σ 47 1) ≤ b_ then
      some (most_, least_, sum_, many_, b_)
    else
      ((zz_ga (σ 55) 14 a_).bind fun x8 =>
      if x8 = first_ then
        (zz_ga (σ 55) 14 b_).bind fun x11 =>
        if x11 = second_ then
          some false
        else
          some true
      else
        some true).bind fun b3 =>
      if b3 = true then
        fX8_linkageOf_L2 σ first_ second_ a_ n most_ least_ sum_ many_ (b_ + (1 : Int32))
      else
        (zz_ga (σ 56) 196 (((14 : Int32) * a_) + b_)).bind fun x14 =>
        (some (zz_max most_ x14)).bind fun x16 =>
        (if least_ = (-1 : Int32) then
          some x14
        else
          some (zz_min least_ x14)).bind fun x18 =>
        (some (sum_ + x14)).bind fun x22 =>
        fX8_linkageOf_L2 σ first_ second_ a_ n x16 x18 x22 (many_ + (1 : Int32)) (b_ + (1 : Int32))

def fX8_linkageOf_L1 (σ : zz_St) (first_ : Int32) (second_ : Int32) : Nat → Int32 → Int32 → Int32 → Int32 → Int32 → Option (Int32 × Int32 × Int32 × Int32 × Int32)
  | 0, _, _, _, _, _ => none
  | n + 1, most_, least_, sum_, many_, a_ =>
    if (σ 47 1) ≤ a_ then
      some (most_, least_, sum_, many_, a_)
    else
      (fX8_linkageOf_L2 σ first_ second_ a_ 1000 most_ least_ sum_ many_ (0 : Int32)).bind fun q24 =>
      fX8_linkageOf_L1 σ first_ second_ n q24.1 q24.2.1 q24.2.2.1 q24.2.2.2.1 (a_ + (1 : Int32))

def fX8_linkageOf (σ : zz_St) (first_ : Int32) (second_ : Int32) : Option Int32 :=
  (fX8_linkageOf_L1 σ first_ second_ 1000 (-1 : Int32) (-1 : Int32) (0 : Int32) (0 : Int32) (0 : Int32)).bind fun q26 =>
  (if (σ 47 11) = 0 then
    some q26.1
  else
    (if (σ 47 11) = (1 : Int32) then
      (zz_dv q26.2.2.1 q26.2.2.2.1).bind fun x36 =>
      some x36
    else
      some q26.2.1).bind fun x32 =>
    some x32).bind fun x28 =>
  some x28

def fX8_makeGroups_L2 (a_ : Int32) : Nat → Int32 → zz_St → Option (Int32 × zz_St)
  | 0, _, _ => none
  | n + 1, b_, σ =>
    if (σ 47 1) ≤ b_ then
      some (b_, σ)
    else
      (if a_ = b_ then
        some (0 : Int32)
      else
        (fX8_affinityOf σ a_ b_).bind fun x9 =>
        some x9).bind fun x5 =>
      (zz_pa σ 56 196 (((14 : Int32) * a_) + b_) x5).bind fun σ11 =>
      fX8_makeGroups_L2 a_ n (b_ + (1 : Int32)) σ11

def fX8_makeGroups_L1 : Nat → Int32 → zz_St → Option (Int32 × zz_St)
  | 0, _, _ => none
  | n + 1, a_, σ =>
    if (σ 47 1) ≤ a_ then
      some (a_, σ)
    else
      (fX8_makeGroups_L2 a_ 1000 (0 : Int32) σ).bind fun q13 =>
      fX8_makeGroups_L1 n (a_ + (1 : Int32)) q13.2

def fX8_makeGroups_L5 (σ : zz_St) (isMore_ : Int32) (first_ : Int32) : Nat → Int32 → Int32 → Int32 → Int32 → Option (Int32 × Int32 × Int32 × Int32)
  | 0, _, _, _, _ => none
  | n + 1, bestFirst_, bestSecond_, best_, second_ =>
    if (σ 47 1) ≤ second_ then
      some (bestFirst_, bestSecond_, best_, second_)
    else
      ((zz_ga (σ 55) 14 first_).bind fun x29 =>
      if x29 = first_ then
        (zz_ga (σ 55) 14 second_).bind fun x32 =>
        if x32 = second_ then
          (fX8_areBarred σ first_ second_).bind fun x35 =>
          if x35 = 0 then
            (fX8_linkageOf σ first_ second_).bind fun x38 =>
            if best_ < x38 then
              some false
            else
              some true
          else
            some true
        else
          some true
      else
        some true).bind fun b24 =>
      if b24 = true then
        fX8_makeGroups_L5 σ isMore_ first_ n bestFirst_ bestSecond_ best_ (second_ + (1 : Int32))
      else
        (fX8_linkageOf σ first_ second_).bind fun x41 =>
        fX8_makeGroups_L5 σ isMore_ first_ n first_ second_ x41 (second_ + (1 : Int32))

def fX8_makeGroups_L4 (σ : zz_St) (isMore_ : Int32) : Nat → Int32 → Int32 → Int32 → Int32 → Option (Int32 × Int32 × Int32 × Int32)
  | 0, _, _, _, _ => none
  | n + 1, bestFirst_, bestSecond_, best_, first_ =>
    if (σ 47 1) ≤ first_ then
      some (bestFirst_, bestSecond_, best_, first_)
    else
      (some (first_ + (1 : Int32))).bind fun x21 =>
      (fX8_makeGroups_L5 σ isMore_ first_ 1000 bestFirst_ bestSecond_ best_ x21).bind fun q43 =>
      fX8_makeGroups_L4 σ isMore_ n q43.1 q43.2.1 q43.2.2.1 (first_ + (1 : Int32))

def fX8_makeGroups_L3 : Nat → Int32 → zz_St → Option (Int32 × zz_St)
  | 0, _, _ => none
  | n + 1, isMore_, σ =>
    if isMore_ = 0 then
      some (isMore_, σ)
    else
      (some ((σ 47 10) - (1 : Int32))).bind fun x18 =>
      (fX8_makeGroups_L4 σ isMore_ 1000 (-1 : Int32) (-1 : Int32) x18 (0 : Int32)).bind fun q45 =>
      (if q45.1 = (-1 : Int32) then
        some false
      else
        some true).bind fun b47 =>
      (some (zz_bi b47)).bind fun x51 =>
      if x51 = 0 then
        fX8_makeGroups_L3 n x51 σ
      else
        (fX8_joinHeads (zz_u σ 47 13 q45.2.2.1) q45.1 q45.2.1).bind fun x54 =>
        fX8_makeGroups_L3 n x51 x54

def fX8_makeGroups (σ : zz_St) : Option zz_St :=
  (fX8_startGroups σ).bind fun x1 =>
  (fX8_makeGroups_L1 1000 (0 : Int32) x1).bind fun q15 =>
  (fX8_makeGroups_L3 1000 (1 : Int32) (zz_u q15.2 47 13 (-1 : Int32))).bind fun q56 =>
  some q56.2

def fX8_countOf_a55_L1 (σ : zz_St) : Nat → Int32 → Int32 → Option (Int32 × Int32)
  | 0, _, _ => none
  | n + 1, many_, p_ =>
    if (σ 47 1) ≤ p_ then
      some (many_, p_)
    else
      ((zz_ga (σ 55) 14 p_).bind fun x5 =>
      if x5 = p_ then
        some (1 : Int32)
      else
        some (0 : Int32)).bind fun x2 =>
      (some (many_ + x2)).bind fun x8 =>
      fX8_countOf_a55_L1 σ n x8 (p_ + (1 : Int32))

def fX8_countOf_a55 (σ : zz_St) : Option Int32 :=
  (fX8_countOf_a55_L1 σ 1000 (0 : Int32) (0 : Int32)).bind fun q10 =>
  some q10.1

def fX8_groupCount (σ : zz_St) : Option (Int32 × zz_St) :=
  (fX8_makeGroups (zz_u σ 47 0 (0 : Int32))).bind fun x1 =>
  (fX8_countOf_a55 x1).bind fun x3 =>
  some (x3, x1)

def fX8_headAt_a55_L1 (σ : zz_St) (index_ : Int32) : Nat → Int32 → Int32 → Option (Int32 ⊕ (Int32 × Int32))
  | 0, _, _ => none
  | n + 1, left_, p_ =>
    (if (σ 47 1) ≤ p_ then
      some false
    else
      if index_ < 0 then
        some false
      else
        some true).bind fun b1 =>
    if b1 = true then
      (zz_ga (σ 55) 14 p_).bind fun x8 =>
      if x8 = p_ then
        if left_ = 0 then
          some (.inl p_)
        else
          fX8_headAt_a55_L1 σ index_ n (left_ + (-1 : Int32)) (p_ + (1 : Int32))
      else
        fX8_headAt_a55_L1 σ index_ n left_ (p_ + (1 : Int32))
    else
      some (.inr (left_, p_))

def fX8_headAt_a55 (σ : zz_St) (index_ : Int32) : Option Int32 :=
  (fX8_headAt_a55_L1 σ index_ 1000 index_ (0 : Int32)).bind fun q12 =>
  match q12 with
  | .inl v14 =>
    some v14
  | .inr w15 =>
    some (-1 : Int32)

def fX8_setOf_a55_L1 (σ : zz_St) (head_ : Int32) : Nat → Int32 → Int32 → Option (Int32 × Int32)
  | 0, _, _ => none
  | n + 1, set_, p_ =>
    if (σ 47 1) ≤ p_ then
      some (set_, p_)
    else
      ((zz_ga (σ 55) 14 p_).bind fun x5 =>
      if x5 = head_ then
        (some (set_ ||| ((1 : Int32) <<< (p_ &&& 31)))).bind fun x8 =>
        some x8
      else
        some set_).bind fun x2 =>
      fX8_setOf_a55_L1 σ head_ n x2 (p_ + (1 : Int32))

def fX8_setOf_a55 (σ : zz_St) (head_ : Int32) : Option Int32 :=
  (fX8_setOf_a55_L1 σ head_ 1000 (0 : Int32) (0 : Int32)).bind fun q10 =>
  some q10.1

def fX8_group (σ : zz_St) (group_ : Int32) : Option (Int32 × zz_St) :=
  (fX8_makeGroups (zz_u σ 47 0 (0 : Int32))).bind fun x1 =>
  (fX8_headAt_a55 x1 group_).bind fun x3 =>
  (if x3 = (-1 : Int32) then
    (fX8_no x1 (1 : Int32)).bind fun x11 =>
    some x11.1
  else
    (fX8_setOf_a55 x1 x3).bind fun x9 =>
    some x9).bind fun x5 =>
  some (x5, x1)

def fX8_indexOf_a55_L1 (σ : zz_St) (head_ : Int32) : Nat → Int32 → Int32 → Option (Int32 × Int32)
  | 0, _, _ => none
  | n + 1, index_, p_ =>
    if head_ ≤ p_ then
      some (index_, p_)
    else
      ((zz_ga (σ 55) 14 p_).bind fun x5 =>
      if x5 = p_ then
        some (1 : Int32)
      else
        some (0 : Int32)).bind fun x2 =>
      (some (index_ + x2)).bind fun x8 =>
      fX8_indexOf_a55_L1 σ head_ n x8 (p_ + (1 : Int32))

def fX8_indexOf_a55 (σ : zz_St) (head_ : Int32) : Option Int32 :=
  (fX8_indexOf_a55_L1 σ head_ 1000 (0 : Int32) (0 : Int32)).bind fun q10 =>
  some q10.1

def fX8_groupOf (σ : zz_St) (piece_ : Int32) : Option (Int32 × zz_St) :=
  (fX8_isPiece (zz_u σ 47 0 (0 : Int32)) piece_).bind fun x1 =>
  if x1 = 0 then
    (fX8_no (zz_u σ 47 0 (0 : Int32)) (1 : Int32)).bind fun x10 =>
    some (x10.1, x10.2)
  else
    (fX8_makeGroups (zz_u σ 47 0 (0 : Int32))).bind fun x4 =>
    (zz_ga (x4 55) 14 piece_).bind fun x6 =>
    (fX8_indexOf_a55 x4 x6).bind fun x8 =>
    some (x8, x4)

def fX8_linkage (σ : zz_St) (a_ : Int32) (b_ : Int32) : Option (Int32 × zz_St) :=
  (fX8_makeGroups (zz_u σ 47 0 (0 : Int32))).bind fun x1 =>
  (fX8_headAt_a55 x1 a_).bind fun x3 =>
  (fX8_headAt_a55 x1 b_).bind fun x5 =>
  (if x3 = (-1 : Int32) then
    some true
  else
    if x5 = (-1 : Int32) then
      some true
    else
      some false).bind fun b7 =>
  if b7 = true then
    (fX8_no x1 (1 : Int32)).bind fun x14 =>
    some (x14.1, x14.2)
  else
    (if a_ = b_ then
      (fX8_no x1 (2 : Int32)).bind fun x22 =>
      some x22.1
    else
      (fX8_linkageOf x1 x3 x5).bind fun x20 =>
      some x20).bind fun x16 =>
    some (x16, x1)

def fX8_lastLinkage (σ : zz_St) : Option (Int32 × zz_St) :=
  (fX8_makeGroups (zz_u σ 47 0 (0 : Int32))).bind fun x1 =>
  some ((x1 47 13), x1)

def fX8_undefined_L1 (σ : zz_St) : Nat → Int32 → Int32 → Option (Int32 × Int32)
  | 0, _, _ => none
  | n + 1, set_, name_ =>
    if (16 : Int32) ≤ name_ then
      some (set_, name_)
    else
      ((zz_ga (σ 52) 16 name_).bind fun x5 =>
      if x5 = 0 then
        (some (set_ ||| ((1 : Int32) <<< (name_ &&& 31)))).bind fun x8 =>
        some x8
      else
        some set_).bind fun x2 =>
      fX8_undefined_L1 σ n x2 (name_ + (1 : Int32))

def fX8_undefined (σ : zz_St) : Option Int32 :=
  (fX8_undefined_L1 σ 1000 (0 : Int32) (0 : Int32)).bind fun q10 =>
  some q10.1

def fX8_needsOf (σ : zz_St) (a_ : Int32) (b_ : Int32) : Option Int32 :=
  (fX8_namesOf σ b_ (0 : Int32)).bind fun x1 =>
  (fX8_namesOf σ a_ (2 : Int32)).bind fun x3 =>
  (fX8_undefined σ).bind fun x5 =>
  (some ((x1 &&& x3) &&& x5)).bind fun x7 =>
  ((fX8_namesOf σ b_ (3 : Int32)).bind fun x12 =>
  (fX8_namesOf σ a_ (1 : Int32)).bind fun x14 =>
  (fX8_namesOf σ b_ (1 : Int32)).bind fun x16 =>
  (fX8_namesOf σ a_ (0 : Int32)).bind fun x18 =>
  if ((x7 ||| (x12 &&& x14)) ||| (x16 &&& x18)) = 0 then
    some false
  else
    some true).bind fun b9 =>
  some (zz_bi b9)

def fX8_needs (σ : zz_St) (a_ : Int32) (b_ : Int32) : Option (Int32 × zz_St) :=
  (fX8_arePieces σ a_ b_).bind fun x1 =>
  if x1.1 = 0 then
    some ((0 : Int32), x1.2)
  else
    (if a_ = b_ then
      some (2 : Int32)
    else
      some (0 : Int32)).bind fun x4 =>
    (if ((zz_u x1.2 47 0 x4) 47 0) = 0 then
      (fX8_needsOf (zz_u x1.2 47 0 x4) a_ b_).bind fun x12 =>
      if x12 = 0 then
        some false
      else
        some true
    else
      some false).bind fun b8 =>
    some ((zz_bi b8), (zz_u x1.2 47 0 x4))

def fX8_has (σ : zz_St) (set_ : Int32) (member_ : Int32) : Option Int32 :=
  (if ((set_ >>> (member_ &&& 31)) &&& (1 : Int32)) = (1 : Int32) then
    some true
  else
    some false).bind fun b1 =>
  some (zz_bi b1)

def fX8_setOf_a57_L1 (σ : zz_St) (head_ : Int32) : Nat → Int32 → Int32 → Option (Int32 × Int32)
  | 0, _, _ => none
  | n + 1, set_, p_ =>
    if (σ 47 1) ≤ p_ then
      some (set_, p_)
    else
      ((zz_ga (σ 57) 14 p_).bind fun x5 =>
      if x5 = head_ then
        (some (set_ ||| ((1 : Int32) <<< (p_ &&& 31)))).bind fun x8 =>
        some x8
      else
        some set_).bind fun x2 =>
      fX8_setOf_a57_L1 σ head_ n x2 (p_ + (1 : Int32))

def fX8_setOf_a57 (σ : zz_St) (head_ : Int32) : Option Int32 :=
  (fX8_setOf_a57_L1 σ head_ 1000 (0 : Int32) (0 : Int32)).bind fun q10 =>
  some q10.1

def fX8_makeParcels_L2 (a_ : Int32) : Nat → Int32 → zz_St → Option (Int32 × zz_St)
  | 0, _, _ => none
  | n + 1, b_, σ =>
    if (σ 47 1) ≤ b_ then
      some (b_, σ)
    else
      (((zz_ga (σ 55) 14 a_).bind fun x15 =>
      (zz_ga (σ 55) 14 b_).bind fun x17 =>
      if x15 = x17 then
        some true
      else
        (fX8_needsOf σ a_ b_).bind fun x20 =>
        if x20 = 0 then
          some false
        else
          some true).bind fun b10 =>
      if b10 = true then
        (zz_ga (σ 59) 14 a_).bind fun x23 =>
        (zz_pa σ 59 14 a_ (x23 ||| ((1 : Int32) <<< (b_ &&& 31)))).bind fun σ25 =>
        some σ25
      else
        some σ).bind fun x7 =>
      fX8_makeParcels_L2 a_ n (b_ + (1 : Int32)) x7

def fX8_makeParcels_L1 : Nat → Int32 → zz_St → Option (Int32 × zz_St)
  | 0, _, _ => none
  | n + 1, a_, σ =>
    if (σ 47 1) ≤ a_ then
      some (a_, σ)
    else
      (zz_pa σ 59 14 a_ (0 : Int32)).bind fun σ4 =>
      (fX8_makeParcels_L2 a_ 1000 (0 : Int32) σ4).bind fun q27 =>
      fX8_makeParcels_L1 n (a_ + (1 : Int32)) q27.2

def fX8_makeParcels_L4 (by_ : Int32) : Nat → Int32 → zz_St → Option (Int32 × zz_St)
  | 0, _, _ => none
  | n + 1, a_, σ =>
    if (σ 47 1) ≤ a_ then
      some (a_, σ)
    else
      ((zz_ga (σ 59) 14 a_).bind fun x36 =>
      (fX8_has σ x36 by_).bind fun x38 =>
      if x38 = 0 then
        some σ
      else
        (zz_ga (σ 59) 14 a_).bind fun x41 =>
        (zz_ga (σ 59) 14 by_).bind fun x43 =>
        (zz_pa σ 59 14 a_ (x41 ||| x43)).bind fun σ45 =>
        some σ45).bind fun x33 =>
      fX8_makeParcels_L4 by_ n (a_ + (1 : Int32)) x33

def fX8_makeParcels_L3 : Nat → Int32 → zz_St → Option (Int32 × zz_St)
  | 0, _, _ => none
  | n + 1, by_, σ =>
    if (σ 47 1) ≤ by_ then
      some (by_, σ)
    else
      (fX8_makeParcels_L4 by_ 1000 (0 : Int32) σ).bind fun q47 =>
      fX8_makeParcels_L3 n (by_ + (1 : Int32)) q47.2

def fX8_makeParcels_L6 (a_ : Int32) : Nat → Int32 → zz_St → Option (Int32 × zz_St)
  | 0, _, _ => none
  | n + 1, b_, σ =>
    if b_ < 0 then
      some (b_, σ)
    else
      (((zz_ga (σ 59) 14 a_).bind fun x63 =>
      (fX8_has σ x63 b_).bind fun x65 =>
      if x65 = 0 then
        some false
      else
        (zz_ga (σ 59) 14 b_).bind fun x68 =>
        (fX8_has σ x68 a_).bind fun x70 =>
        if x70 = 0 then
          some false
        else
          some true).bind fun b58 =>
      if b58 = true then
        (zz_pa σ 57 14 a_ b_).bind fun σ73 =>
        some σ73
      else
        some σ).bind fun x55 =>
      fX8_makeParcels_L6 a_ n (b_ + (-1 : Int32)) x55

def fX8_makeParcels_L5 : Nat → Int32 → zz_St → Option (Int32 × zz_St)
  | 0, _, _ => none
  | n + 1, a_, σ =>
    if (σ 47 1) ≤ a_ then
      some (a_, σ)
    else
      (zz_pa σ 57 14 a_ a_).bind fun σ52 =>
      (fX8_makeParcels_L6 a_ 1000 a_ σ52).bind fun q75 =>
      fX8_makeParcels_L5 n (a_ + (1 : Int32)) q75.2

def fX8_makeParcels_L8 (σ : zz_St) (done_ : Int32) (all_ : Int32) : Nat → Int32 → Option (Int32)
  | 0, _ => none
  | n + 1, next_ =>
    ((fX8_has σ done_ next_).bind fun x87 =>
    if x87 = 0 then
      (zz_ga (σ 59) 14 next_).bind fun x90 =>
      (zz_ga (σ 57) 14 next_).bind fun x92 =>
      (fX8_setOf_a57 σ x92).bind fun x94 =>
      if ((x90 &&& (done_ ^^^ (-1 : Int32))) &&& (x94 ^^^ (-1 : Int32))) = 0 then
        some false
      else
        some true
    else
      some true).bind fun b82 =>
    if b82 = true then
      fX8_makeParcels_L8 σ done_ all_ n (next_ + (1 : Int32))
    else
      some next_

def fX8_makeParcels_L7 (all_ : Int32) : Nat → Int32 → zz_St → Option (Int32 × zz_St)
  | 0, _, _ => none
  | n + 1, done_, σ =>
    if done_ = all_ then
      some (done_, σ)
    else
      (fX8_makeParcels_L8 σ done_ all_ 1000 (0 : Int32)).bind fun q97 =>
      (zz_ga (σ 57) 14 q97).bind fun x99 =>
      (zz_pa σ 58 14 (σ 47 17) x99).bind fun σ101 =>
      (zz_ga ((zz_u σ101 47 17 ((σ101 47 17) + (1 : Int32))) 57) 14 q97).bind fun x103 =>
      (fX8_setOf_a57 (zz_u σ101 47 17 ((σ101 47 17) + (1 : Int32))) x103).bind fun x105 =>
      (some (done_ ||| x105)).bind fun x107 =>
      fX8_makeParcels_L7 all_ n x107 (zz_u σ101 47 17 ((σ101 47 17) + (1 : Int32)))

def fX8_makeParcels (σ : zz_St) : Option zz_St :=
  (fX8_makeGroups σ).bind fun x1 =>
  (fX8_makeParcels_L1 1000 (0 : Int32) x1).bind fun q29 =>
  (fX8_makeParcels_L3 1000 (0 : Int32) q29.2).bind fun q49 =>
  (fX8_makeParcels_L5 1000 (0 : Int32) q49.2).bind fun q77 =>
  (some (((1 : Int32) <<< (((zz_u q77.2 47 17 (0 : Int32)) 47 1) &&& 31)) - (1 : Int32))).bind fun x79 =>
  (fX8_makeParcels_L7 x79 1000 (0 : Int32) (zz_u q77.2 47 17 (0 : Int32))).bind fun q109 =>
  some q109.2

def fX8_parcelCount (σ : zz_St) : Option (Int32 × zz_St) :=
  (fX8_makeParcels (zz_u σ 47 0 (0 : Int32))).bind fun x1 =>
  some ((x1 47 17), x1)

def fX8_isParcel (σ : zz_St) (parcel_ : Int32) : Option (Int32 × zz_St) :=
  (fX8_makeParcels σ).bind fun x1 =>
  (fX8_isIn x1 parcel_ (0 : Int32) ((x1 47 17) - (1 : Int32))).bind fun x3 =>
  (zz_bo x3).bind fun x5 =>
  some (x5, x1)

def fX8_parcel (σ : zz_St) (parcel_ : Int32) : Option (Int32 × zz_St) :=
  ((fX8_isParcel (zz_u σ 47 0 (0 : Int32)) parcel_).bind fun x4 =>
  if x4.1 = 0 then
    (fX8_no x4.2 (1 : Int32)).bind fun x7 =>
    some x7.1
  else
    (zz_ga (x4.2 58) 14 parcel_).bind fun x9 =>
    (fX8_setOf_a57 x4.2 x9).bind fun x11 =>
    some x11).bind fun x1 =>
  some (x1, (zz_u σ 47 0 (0 : Int32)))

def fX8_parcelOf_L1 (σ : zz_St) (piece_ : Int32) : Nat → Int32 → Option (Int32)
  | 0, _ => none
  | n + 1, parcel_ =>
    (zz_ga (σ 58) 14 parcel_).bind fun x6 =>
    (zz_ga (σ 57) 14 piece_).bind fun x8 =>
    if x6 = x8 then
      some parcel_
    else
      fX8_parcelOf_L1 σ piece_ n (parcel_ + (1 : Int32))

def fX8_parcelOf (σ : zz_St) (piece_ : Int32) : Option (Int32 × zz_St) :=
  (fX8_isPiece (zz_u σ 47 0 (0 : Int32)) piece_).bind fun x1 =>
  if x1 = 0 then
    (fX8_no (zz_u σ 47 0 (0 : Int32)) (1 : Int32)).bind fun x13 =>
    some (x13.1, x13.2)
  else
    (fX8_makeParcels (zz_u σ 47 0 (0 : Int32))).bind fun x4 =>
    (fX8_parcelOf_L1 x4 piece_ 1000 (0 : Int32)).bind fun q11 =>
    some (q11, x4)

def fX8_knots_L1 (σ : zz_St) : Nat → Int32 → Int32 → Option (Int32 × Int32)
  | 0, _, _ => none
  | n + 1, many_, k_ =>
    if (σ 47 17) ≤ k_ then
      some (many_, k_)
    else
      ((zz_ga (σ 58) 14 k_).bind fun x7 =>
      (fX8_setOf_a57 σ x7).bind fun x9 =>
      (zz_ga (σ 58) 14 k_).bind fun x11 =>
      (fX8_setOf_a55 σ x11).bind fun x13 =>
      if x9 = x13 then
        some (0 : Int32)
      else
        some (1 : Int32)).bind fun x4 =>
      (some (many_ + x4)).bind fun x16 =>
      fX8_knots_L1 σ n x16 (k_ + (1 : Int32))

def fX8_knots (σ : zz_St) : Option (Int32 × zz_St) :=
  (fX8_makeParcels (zz_u σ 47 0 (0 : Int32))).bind fun x1 =>
  (fX8_knots_L1 x1 1000 (0 : Int32) (0 : Int32)).bind fun q18 =>
  some (q18.1, x1)

def fX8_lines_L1 (σ : zz_St) (parcel_ : Int32) : Nat → Int32 → Int32 → Option (Int32 × Int32)
  | 0, _, _ => none
  | n + 1, sum_, p_ =>
    if (σ 47 1) ≤ p_ then
      some (sum_, p_)
    else
      ((zz_ga (σ 57) 14 p_).bind fun x8 =>
      (zz_ga (σ 58) 14 parcel_).bind fun x10 =>
      if x8 = x10 then
        (zz_ga (σ 48) 56 (((4 : Int32) * p_) + (2 : Int32))).bind fun x13 =>
        (zz_ga (σ 48) 56 (((4 : Int32) * p_) + (3 : Int32))).bind fun x15 =>
        some (x13 + x15)
      else
        some (0 : Int32)).bind fun x5 =>
      (some (sum_ + x5)).bind fun x17 =>
      fX8_lines_L1 σ parcel_ n x17 (p_ + (1 : Int32))

def fX8_lines (σ : zz_St) (parcel_ : Int32) : Option (Int32 × zz_St) :=
  (fX8_isParcel (zz_u σ 47 0 (0 : Int32)) parcel_).bind fun x1 =>
  if x1.1 = 0 then
    (fX8_no x1.2 (1 : Int32)).bind fun x21 =>
    some (x21.1, x21.2)
  else
    (fX8_lines_L1 x1.2 parcel_ 1000 (0 : Int32) (0 : Int32)).bind fun q19 =>
    some (q19.1, x1.2)

def fX8_isBroken_L1 (σ : zz_St) (name_ : Int32) (set_ : Int32) : Nat → Int32 → Int32 → Int32 → Option (Int32 × Int32 × Int32)
  | 0, _, _, _ => none
  | n + 1, definitions_, uses_, p_ =>
    if (σ 47 1) ≤ p_ then
      some (definitions_, uses_, p_)
    else
      (fX8_has σ set_ p_).bind fun x10 =>
      if x10 = 0 then
        fX8_isBroken_L1 σ name_ set_ n definitions_ uses_ (p_ + (1 : Int32))
      else
        (fX8_namesOf σ p_ (0 : Int32)).bind fun x13 =>
        (fX8_namesOf σ p_ (1 : Int32)).bind fun x15 =>
        (some (definitions_ + (((x13 >>> (name_ &&& 31)) &&& (1 : Int32)) - ((x15 >>> (name_ &&& 31)) &&& (1 : Int32))))).bind fun x17 =>
        (fX8_namesOf σ p_ (2 : Int32)).bind fun x19 =>
        (fX8_namesOf σ p_ (3 : Int32)).bind fun x21 =>
        (some (uses_ + (((x19 >>> (name_ &&& 31)) &&& (1 : Int32)) - ((x21 >>> (name_ &&& 31)) &&& (1 : Int32))))).bind fun x23 =>
        fX8_isBroken_L1 σ name_ set_ n x17 x23 (p_ + (1 : Int32))

def fX8_isBroken (σ : zz_St) (name_ : Int32) (set_ : Int32) : Option Int32 :=
  ((zz_ga (σ 52) 16 name_).bind fun x4 =>
  if x4 = 0 then
    some (0 : Int32)
  else
    some (1 : Int32)).bind fun x1 =>
  (zz_ga (σ 53) 16 name_).bind fun x7 =>
  (fX8_isBroken_L1 σ name_ set_ 1000 x1 x7 (0 : Int32)).bind fun q25 =>
  (if (1 : Int32) < q25.1 then
    some true
  else
    if (1 : Int32) ≤ q25.1 then
      some false
    else
      if q25.2.1 ≤ 0 then
        some false
      else
        some true).bind fun b27 =>
  some (zz_bi b27)

def fX8_brokenBy_L1 (σ : zz_St) (set_ : Int32) : Nat → Int32 → Int32 → Option (Int32 × Int32)
  | 0, _, _ => none
  | n + 1, found_, name_ =>
    if (16 : Int32) ≤ name_ then
      some (found_, name_)
    else
      ((fX8_isBroken σ name_ set_).bind fun x5 =>
      if x5 = 0 then
        some found_
      else
        (some (found_ ||| ((1 : Int32) <<< (name_ &&& 31)))).bind fun x8 =>
        some x8).bind fun x2 =>
      fX8_brokenBy_L1 σ set_ n x2 (name_ + (1 : Int32))

def fX8_brokenBy (σ : zz_St) (set_ : Int32) : Option Int32 :=
  (fX8_brokenBy_L1 σ set_ 1000 (0 : Int32) (0 : Int32)).bind fun q10 =>
  some q10.1

def fX8_broken (σ : zz_St) (set_ : Int32) : Option (Int32 × zz_St) :=
  ((fX8_isIn (zz_u σ 47 0 (0 : Int32)) set_ (0 : Int32) (((1 : Int32) <<< (((zz_u σ 47 0 (0 : Int32)) 47 1) &&& 31)) - (1 : Int32))).bind fun x4 =>
  if x4 = 0 then
    (fX8_no (zz_u σ 47 0 (0 : Int32)) (1 : Int32)).bind fun x7 =>
    some x7.1
  else
    (fX8_brokenBy (zz_u σ 47 0 (0 : Int32)) set_).bind fun x9 =>
    some x9).bind fun x1 =>
  some (x1, (zz_u σ 47 0 (0 : Int32)))

def fX8_piecesOf_L1 (σ : zz_St) (some_ : Int32) : Nat → Int32 → Int32 → Option (Int32 × Int32)
  | 0, _, _ => none
  | n + 1, set_, k_ =>
    if (σ 47 17) ≤ k_ then
      some (set_, k_)
    else
      ((fX8_has σ some_ k_).bind fun x5 =>
      if x5 = 0 then
        some set_
      else
        (zz_ga (σ 58) 14 k_).bind fun x8 =>
        (fX8_setOf_a57 σ x8).bind fun x10 =>
        (some (set_ ||| x10)).bind fun x12 =>
        some x12).bind fun x2 =>
      fX8_piecesOf_L1 σ some_ n x2 (k_ + (1 : Int32))

def fX8_piecesOf (σ : zz_St) (some_ : Int32) : Option Int32 :=
  (fX8_piecesOf_L1 σ some_ 1000 (0 : Int32) (0 : Int32)).bind fun q14 =>
  some q14.1

def fX8_breakageOf_L1 (σ : zz_St) : Nat → Int32 → Int32 → Option (Int32 × Int32)
  | 0, _, _ => none
  | n + 1, sum_, many_ =>
    if (σ 47 17) < many_ then
      some (sum_, many_)
    else
      (fX8_piecesOf σ (((1 : Int32) <<< (many_ &&& 31)) - (1 : Int32))).bind fun x4 =>
      (fX8_brokenBy σ x4).bind fun x6 =>
      (fJ6_bitCount x6).bind fun x8 =>
      (some (sum_ + x8)).bind fun x10 =>
      fX8_breakageOf_L1 σ n x10 (many_ + (1 : Int32))

def fX8_breakageOf (σ : zz_St) : Option (Int32 × zz_St) :=
  (fX8_makeParcels σ).bind fun x1 =>
  (fX8_breakageOf_L1 x1 1000 (0 : Int32) (1 : Int32)).bind fun q12 =>
  some (q12.1, x1)

def fX8_breakage (σ : zz_St) : Option (Int32 × zz_St) :=
  (fX8_breakageOf (zz_u σ 47 0 (0 : Int32))).bind fun x1 =>
  some (x1.1, x1.2)

def fX8_findLeast_L2 (all_ : Int32) (some_ : Int32) : Nat → Int32 → zz_St → Option (Int32 × zz_St)
  | 0, _, _ => none
  | n + 1, k_, σ =>
    if (σ 47 17) ≤ k_ then
      some (k_, σ)
    else
      ((fX8_has σ some_ k_).bind fun x22 =>
      if x22 = 0 then
        (zz_ga (σ 61) 512 some_).bind fun x25 =>
        (zz_ga (σ 60) 512 (some_ ||| ((1 : Int32) <<< (k_ &&& 31)))).bind fun x27 =>
        (zz_ga (σ 61) 512 (some_ ||| ((1 : Int32) <<< (k_ &&& 31)))).bind fun x29 =>
        (zz_pa σ 61 512 some_ (zz_min x25 (x27 + x29))).bind fun σ31 =>
        some σ31
      else
        some σ).bind fun x19 =>
      fX8_findLeast_L2 all_ some_ n (k_ + (1 : Int32)) x19

def fX8_findLeast_L1 (all_ : Int32) : Nat → Int32 → zz_St → Option (Int32 × zz_St)
  | 0, _, _ => none
  | n + 1, some_, σ =>
    if some_ < 0 then
      some (some_, σ)
    else
      (fX8_piecesOf σ some_).bind fun x4 =>
      (fX8_brokenBy σ x4).bind fun x6 =>
      (fJ6_bitCount x6).bind fun x8 =>
      (zz_pa σ 60 512 some_ x8).bind fun σ10 =>
      (if some_ = all_ then
        some (0 : Int32)
      else
        some (2147483647 : Int32)).bind fun x12 =>
      (zz_pa σ10 61 512 some_ x12).bind fun σ16 =>
      (fX8_findLeast_L2 all_ some_ 1000 (0 : Int32) σ16).bind fun q33 =>
      fX8_findLeast_L1 all_ n (some_ + (-1 : Int32)) q33.2

def fX8_findLeast (σ : zz_St) : Option zz_St :=
  (some (((1 : Int32) <<< ((σ 47 17) &&& 31)) - (1 : Int32))).bind fun x1 =>
  (fX8_findLeast_L1 x1 1000 x1 σ).bind fun q35 =>
  some q35.2

def fX8_leastBreakage (σ : zz_St) : Option (Int32 × zz_St) :=
  (fX8_makeParcels (zz_u σ 47 0 (0 : Int32))).bind fun x1 =>
  if (x1 47 17) ≤ (9 : Int32) then
    (fX8_findLeast x1).bind fun x4 =>
    (zz_ga (x4 61) 512 (0 : Int32)).bind fun x6 =>
    some (x6, x4)
  else
    (fX8_no x1 (1 : Int32)).bind fun x8 =>
    some (x8.1, x8.2)

def fX8_best_L2 (σ : zz_St) (place_ : Int32) (some_ : Int32) (k_ : Int32) : Nat → Int32 → Option (Int32)
  | 0, _ => none
  | n + 1, chosen_ =>
    ((fX8_has σ some_ chosen_).bind fun x15 =>
    if x15 = 0 then
      (zz_ga (σ 60) 512 (some_ ||| ((1 : Int32) <<< (chosen_ &&& 31)))).bind fun x18 =>
      (zz_ga (σ 61) 512 (some_ ||| ((1 : Int32) <<< (chosen_ &&& 31)))).bind fun x20 =>
      (zz_ga (σ 61) 512 some_).bind fun x22 =>
      if (x18 + x20) = x22 then
        some false
      else
        some true
    else
      some true).bind fun b10 =>
    if b10 = true then
      fX8_best_L2 σ place_ some_ k_ n (chosen_ + (1 : Int32))
    else
      some chosen_

def fX8_best_L1 (σ : zz_St) (place_ : Int32) : Nat → Int32 → Int32 → Int32 → Option (Int32 × Int32 × Int32)
  | 0, _, _, _ => none
  | n + 1, some_, chosen_, k_ =>
    if place_ < k_ then
      some (some_, chosen_, k_)
    else
      (fX8_best_L2 σ place_ some_ k_ 1000 (0 : Int32)).bind fun q25 =>
      (some (some_ ||| ((1 : Int32) <<< (q25 &&& 31)))).bind fun x27 =>
      fX8_best_L1 σ place_ n x27 q25 (k_ + (1 : Int32))

def fX8_best (σ : zz_St) (place_ : Int32) : Option (Int32 × zz_St) :=
  (fX8_makeParcels (zz_u σ 47 0 (0 : Int32))).bind fun x1 =>
  if (x1 47 17) ≤ (9 : Int32) then
    (fX8_isIn x1 place_ (0 : Int32) ((x1 47 17) - (1 : Int32))).bind fun x4 =>
    if x4 = 0 then
      (fX8_no x1 (2 : Int32)).bind fun x31 =>
      some (x31.1, x31.2)
    else
      (fX8_findLeast x1).bind fun x7 =>
      (fX8_best_L1 x7 place_ 1000 (0 : Int32) (0 : Int32) (0 : Int32)).bind fun q29 =>
      some (q29.2.1, x7)
  else
    (fX8_no x1 (1 : Int32)).bind fun x33 =>
    some (x33.1, x33.2)

def fX8_setPurpose (σ : zz_St) (piece_ : Int32) (purpose_ : Int32) : Option (Int32 × zz_St) :=
  (fX8_isPiece (zz_u σ 47 0 (0 : Int32)) piece_).bind fun x1 =>
  if x1 = 0 then
    (fX8_no (zz_u σ 47 0 (0 : Int32)) (1 : Int32)).bind fun x13 =>
    some (x13.1, x13.2)
  else
    (fX8_isIn (zz_u σ 47 0 (0 : Int32)) purpose_ (0 : Int32) (9 : Int32)).bind fun x4 =>
    if x4 = 0 then
      (fX8_no (zz_u σ 47 0 (0 : Int32)) (2 : Int32)).bind fun x11 =>
      some (x11.1, x11.2)
    else
      (zz_ga ((zz_u σ 47 0 (0 : Int32)) 50) 14 piece_).bind fun x7 =>
      (zz_pa (zz_u σ 47 0 (0 : Int32)) 50 14 piece_ purpose_).bind fun σ9 =>
      some (x7, σ9)

def fX8_agreement_L2 (σ : zz_St) (a_ : Int32) : Nat → Int32 → Int32 → Int32 → Option (Int32 × Int32 × Int32)
  | 0, _, _, _ => none
  | n + 1, all_, right_, b_ =>
    if (σ 47 1) ≤ b_ then
      some (all_, right_, b_)
    else
      (((zz_ga (σ 55) 14 a_).bind fun x13 =>
      (zz_ga (σ 55) 14 b_).bind fun x15 =>
      if x13 = x15 then
        some true
      else
        some false).bind fun b10 =>
      ((zz_ga (σ 50) 14 a_).bind fun x21 =>
      (zz_ga (σ 50) 14 b_).bind fun x23 =>
      if x21 = x23 then
        some true
      else
        some false).bind fun b18 =>
      if (zz_bi b10) = (zz_bi b18) then
        some (1 : Int32)
      else
        some (0 : Int32)).bind fun x7 =>
      (some (right_ + x7)).bind fun x27 =>
      fX8_agreement_L2 σ a_ n (all_ + (1 : Int32)) x27 (b_ + (1 : Int32))

def fX8_agreement_L1 (σ : zz_St) : Nat → Int32 → Int32 → Int32 → Option (Int32 × Int32 × Int32)
  | 0, _, _, _ => none
  | n + 1, all_, right_, a_ =>
    if (σ 47 1) ≤ a_ then
      some (all_, right_, a_)
    else
      (some (a_ + (1 : Int32))).bind fun x4 =>
      (fX8_agreement_L2 σ a_ 1000 all_ right_ x4).bind fun q29 =>
      fX8_agreement_L1 σ n q29.1 q29.2.1 (a_ + (1 : Int32))

def fX8_agreement (σ : zz_St) : Option (UInt64 × zz_St) :=
  (fX8_makeGroups (zz_u σ 47 0 (0 : Int32))).bind fun x1 =>
  (fX8_agreement_L1 x1 1000 (0 : Int32) (0 : Int32) (0 : Int32)).bind fun q31 =>
  (if q31.1 = 0 then
    some FP.dconst1
  else
    (zz_dd (FP.i2d q31.2.1) (FP.i2d q31.1)).bind fun x37 =>
    some x37).bind fun x33 =>
  some (x33, x1)

def fX8_digest_L2 (σ : zz_St) (p_ : Int32) : Nat → Int64 → Int32 → Option (Int64 × Int32)
  | 0, _, _ => none
  | n + 1, d_, k_ =>
    if (4 : Int32) ≤ k_ then
      some (d_, k_)
    else
      (zz_ga (σ 48) 56 (((4 : Int32) * p_) + k_)).bind fun x5 =>
      (some ((d_ * (31 : Int64)) + x5.toInt64)).bind fun x7 =>
      fX8_digest_L2 σ p_ n x7 (k_ + (1 : Int32))

def fX8_digest_L3 (σ : zz_St) (p_ : Int32) : Nat → Int64 → Int32 → Option (Int64 × Int32)
  | 0, _, _ => none
  | n + 1, d_, what_ =>
    if (4 : Int32) ≤ what_ then
      some (d_, what_)
    else
      (fX8_namesOf σ p_ what_).bind fun x12 =>
      (some ((d_ * (31 : Int64)) + x12.toInt64)).bind fun x14 =>
      fX8_digest_L3 σ p_ n x14 (what_ + (1 : Int32))

def fX8_digest_L1 (σ : zz_St) : Nat → Int64 → Int32 → Option (Int64 × Int32)
  | 0, _, _ => none
  | n + 1, d_, p_ =>
    if (σ 47 1) ≤ p_ then
      some (d_, p_)
    else
      (fX8_digest_L2 σ p_ 1000 d_ (0 : Int32)).bind fun q9 =>
      (fX8_digest_L3 σ p_ 1000 q9.1 (0 : Int32)).bind fun q16 =>
      (zz_ga (σ 50) 14 p_).bind fun x18 =>
      (some ((q16.1 * (31 : Int64)) + x18.toInt64)).bind fun x20 =>
      fX8_digest_L1 σ n x20 (p_ + (1 : Int32))

def fX8_digest_L4 (σ : zz_St) : Nat → Int64 → Int32 → Option (Int64 × Int32)
  | 0, _, _ => none
  | n + 1, d_, kind_ =>
    if (4 : Int32) ≤ kind_ then
      some (d_, kind_)
    else
      (zz_ga (σ 54) 4 kind_).bind fun x25 =>
      (some ((d_ * (31 : Int64)) + x25.toInt64)).bind fun x27 =>
      fX8_digest_L4 σ n x27 (kind_ + (1 : Int32))

def fX8_digest_L5 (σ : zz_St) : Nat → Int64 → Int32 → Option (Int64 × Int32)
  | 0, _, _ => none
  | n + 1, d_, name_ =>
    if (16 : Int32) ≤ name_ then
      some (d_, name_)
    else
      ((zz_ga (σ 52) 16 name_).bind fun x37 =>
      if x37 = 0 then
        some (0 : Int64)
      else
        some (1 : Int64)).bind fun x34 =>
      (zz_ga (σ 53) 16 name_).bind fun x40 =>
      (some ((((d_ * (31 : Int64)) + x34) * (31 : Int64)) + x40.toInt64)).bind fun x42 =>
      fX8_digest_L5 σ n x42 (name_ + (1 : Int32))

def fX8_digest_L6 (σ : zz_St) (breakage_ : Int32) : Nat → Int64 → Int32 → Option (Int64 × Int32)
  | 0, _, _ => none
  | n + 1, d_, p_ =>
    if (σ 47 1) ≤ p_ then
      some (d_, p_)
    else
      ((zz_ga (σ 55) 14 p_).bind fun x56 =>
      if x56 = p_ then
        (fX8_setOf_a55 σ p_).bind fun x59 =>
        (some ((d_ * (31 : Int64)) + x59.toInt64)).bind fun x61 =>
        some x61
      else
        some d_).bind fun x53 =>
      fX8_digest_L6 σ breakage_ n x53 (p_ + (1 : Int32))

def fX8_digest_L7 (σ : zz_St) (breakage_ : Int32) : Nat → Int64 → Int32 → Option (Int64 × Int32)
  | 0, _, _ => none
  | n + 1, d_, k_ =>
    if (σ 47 17) ≤ k_ then
      some (d_, k_)
    else
      (zz_ga (σ 58) 14 k_).bind fun x68 =>
      (fX8_setOf_a57 σ x68).bind fun x70 =>
      (some ((d_ * (31 : Int64)) + x70.toInt64)).bind fun x72 =>
      fX8_digest_L7 σ breakage_ n x72 (k_ + (1 : Int32))

def fX8_digest (σ : zz_St) : Option (Int64 × zz_St) :=
  (some ((5363 : Int64) + (((zz_u σ 47 0 (0 : Int32)) 47 1)).toInt64)).bind fun x1 =>
  (fX8_digest_L1 (zz_u σ 47 0 (0 : Int32)) 1000 x1 (0 : Int32)).bind fun q22 =>
  (fX8_digest_L4 (zz_u σ 47 0 (0 : Int32)) 1000 q22.1 (0 : Int32)).bind fun q29 =>
  (some ((((((q29.1 * (31 : Int64)) + (((zz_u σ 47 0 (0 : Int32)) 47 9)).toInt64) * (31 : Int64)) + (((zz_u σ 47 0 (0 : Int32)) 47 10)).toInt64) * (31 : Int64)) + (((zz_u σ 47 0 (0 : Int32)) 47 11)).toInt64)).bind fun x31 =>
  (fX8_digest_L5 (zz_u σ 47 0 (0 : Int32)) 1000 x31 (0 : Int32)).bind fun q44 =>
  (fX8_breakageOf (zz_u σ 47 0 (0 : Int32))).bind fun x46 =>
  (fX8_countOf_a55 x46.2).bind fun x48 =>
  (some ((q44.1 * (31 : Int64)) + x48.toInt64)).bind fun x50 =>
  (fX8_digest_L6 x46.2 x46.1 1000 x50 (0 : Int32)).bind fun q63 =>
  (some ((q63.1 * (31 : Int64)) + ((x46.2 47 17)).toInt64)).bind fun x65 =>
  (fX8_digest_L7 x46.2 x46.1 1000 x65 (0 : Int32)).bind fun q74 =>
  some (((q74.1 * (31 : Int64)) + x46.1.toInt64), x46.2)
end
