section
/-! ===== BEGIN words of one list among another's, by their places ===== -/
theorem goodIn_r {big : List Cond} (ws : List Cond) (ps : List Nat) (hp : ws = ps.filterMap (fun i => big[i]?)) (h : ws.all goodWord = true) : GoodIn big ws := by
  intro w hw
  have h1 := List.all_eq_true.mp h w hw
  rw [hp] at hw
  obtain ⟨i, -, hi⟩ := List.mem_filterMap.mp hw
  have hm : w ∈ big := by first | exact List.mem_of_getElem? hi | exact List.getElem?_mem hi
  exact ⟨hm, good_of_word h1⟩
theorem goodIn_app {big a b : List Cond} (ha : GoodIn big a) (hb : GoodIn big b) : GoodIn big (a ++ b) := fun w h => (List.mem_append.mp h).elim (ha w) (hb w)
theorem goodIn_ca {big a b : List Cond} {c : Cond} (ha : GoodIn big (c :: a)) (hb : GoodIn big b) : GoodIn big (c :: (a ++ b)) := fun w h => (List.mem_cons.mp h).elim (fun e => ha w (List.mem_cons.mpr (Or.inl e))) (fun h => (List.mem_append.mp h).elim (fun h => ha w (List.mem_cons.mpr (Or.inr h))) (hb w))
theorem goodIn_sub {big ws : List Cond} (hm : ∀ w ∈ ws, w ∈ big) (h : ws.all goodWord = true) : GoodIn big ws := fun w hw => ⟨hm w hw, good_of_word (List.all_eq_true.mp h w hw)⟩
/-! ===== END ===== -/

/-! ===== BEGIN new T[n][m]: the outer array a place, the inner ones among the pooled ===== -/
/-- f, but v at every address of l -/
def vr_up {α : Type} (f : Nat → α) (l : List Nat) (v : α) : Nat → α := fun a => if a ∈ l then v else f a
theorem vr_up_in {α : Type} {f : Nat → α} {l : List Nat} {v : α} {a : Nat} (h : a ∈ l) : vr_up f l v a = v := if_pos h
theorem vr_up_ne {α : Type} {f : Nat → α} {l : List Nat} {v : α} {a : Nat} (h : a ∉ l) : vr_up f l v a = f a := if_neg h
theorem vr_rows {L l : List Nat} {f : Nat → va_E} {e : va_E} (h : ∀ a, a ∈ l → a ∉ L) : va_pl L f ++ l.map (fun a => (a, e)) = va_pl (L ++ l) (vr_up f l e) := by
  unfold va_pl
  rw [List.map_append]
  congr 1
  · apply List.map_congr_left
    intro a ha
    rw [vr_up_ne (fun q => h a q ha)]
  · apply List.map_congr_left
    intro a ha
    rw [vr_up_in ha]
theorem vr_lay {X rows : va_W} {x : Nat × va_E} {pl : va_W} {D : va_G} {cl : List vw_C} {H : Heap} (hP : va_P D cl (((X ++ pl) ++ [x]) ++ rows) H) : va_P D cl ((X ++ [x]) ++ (pl ++ rows)) H := by
  rw [List.append_assoc (X ++ pl)] at hP
  have h := va_P.swap hP
  rw [← List.append_assoc X] at h
  have h2 := va_P.swap h
  rw [List.append_assoc (X ++ [x])] at h2
  exact h2
theorem vr_layD {X rows : va_W} {x : Nat × va_E} {pl : va_W} {A : Nat → Prop} (hD : va_D A (((X ++ pl) ++ [x]) ++ rows)) : va_D A ((X ++ [x]) ++ (pl ++ rows)) := by
  rw [List.append_assoc (X ++ pl)] at hD
  have h := va_D.swap hD
  rw [← List.append_assoc X] at h
  have h2 := va_D.swap h
  rw [List.append_assoc (X ++ [x])] at h2
  exact h2
theorem vr_outer (c : ClassId) (N h0 : Nat) : ∀ i : Nat, Jvm.Free.Multi.outerC c N h0 i = arrV c N (fun j => va_rf (if j < i then some (h0 + 1 + j) else none))
  | 0 => by
    show ({ cls := c, slots := Array.replicate N .null, vm := .none } : Cell) = _
    rw [arrV_new]
    refine congrArg (arrV c N) (funext fun j => ?_)
    simp [va_rf]
  | i + 1 => by
    show (Jvm.Free.Multi.outerC c N h0 i).setSlot i (.ref (h0 + 1 + i)) = _
    rw [vr_outer c N h0 i, arrV_store]
    refine congrArg (arrV c N) (funext fun j => ?_)
    by_cases e : j = i
    · subst e
      simp [updV, va_rf]
    · by_cases h : j < i
      · simp [updV, e, h, Nat.lt_succ_of_lt h]
      · simp [updV, e, h, show ¬ j < i + 1 by omega]
/-- (the printed names lack these three) -/
def va_AOA (ty : FieldType) (U : State) : Prop := (Cond.arrayOver (.array ty)).before #[] U = true
theorem va_AOA.of {ty : FieldType} {A : Array Value} {U : State} (h : (Cond.arrayOver (.array ty)).before A U = true) : va_AOA ty U := h
theorem va_AOA.use {ty : FieldType} {A : Array Value} {U : State} (h : va_AOA ty U) : (Cond.arrayOver (.array ty)).before A U = true := h
/-- (follows Words31c.lean, arrayOver_spec, and va_AO.moved of the kit) -/
theorem va_AOA.spec {u : State} (h : va_AOA .int u) : ∃ comp c k, u.vm.findClass (FieldType.array .int).toString = some comp ∧ (u.vm.classes.findIdx? fun x => match x.kind with | .array component _ => component == comp | _ => false) = some c ∧ u.vm.classes[c]? = some k ∧ k.kind = .array comp (.array .int) ∧ u.vm.findClass ("[" ++ (FieldType.array .int).toString) = some c := by
  unfold va_AOA Cond.before at h
  simp only [Cond.holds, Cond.value, beq_iff_eq] at h
  cases hc : u.vm.findClass (FieldType.array .int).toString with
  | none => simp [hc] at h
  | some comp =>
    simp only [hc, Option.bind_some, Option.bind_eq_some_iff, Option.map_eq_some_iff] at h
    obtain ⟨c, hi, k, hk, hb⟩ := h
    obtain ⟨hlt, hp, -⟩ := Array.findIdx?_eq_some_iff_getElem.mp hi
    have hkk : u.vm.classes[c] = k := (Array.getElem?_eq_some_iff.mp hk).2
    rw [hkk] at hp
    cases hkind : k.kind with
    | array component ty =>
      rw [hkind] at hb hp
      simp at hb hp
      exact ⟨comp, c, k, rfl, hi, hk, by rw [hkind, hp, hb.1], hb.2⟩
    | _ => rw [hkind] at hb; simp at hb
theorem va_AOA.moved {u U : State} (hvm : u.vm.Alike U.vm) (h : va_AOA .int u) : va_AOA .int U := by
  obtain ⟨comp, c, k, h1, h2, h3, h4, h5⟩ := va_AOA.spec h
  obtain ⟨k', hk', he⟩ := hvm.2.2 _ _ h3
  have hi : (U.vm.classes.findIdx? fun (x : Class) => match x.kind with | .array component _ => component == comp | _ => false) = some c := by
    refine Eq.trans (va_idx_bare U.vm comp).symm ?_
    have e : U.vm.bare = u.vm.bare := hvm.bare_eq
    rw [e]
    exact (va_idx_bare u.vm comp).trans h2
  have hkind : k'.kind = .array comp (.array .int) := by rw [he]; exact h4
  have f1 : U.vm.findClass (FieldType.array .int).toString = some comp := by rw [hvm.findClass]; exact h1
  have f2 : U.vm.findClass ("[" ++ (FieldType.array .int).toString) = some c := by rw [hvm.findClass]; exact h5
  unfold va_AOA Cond.before Cond.holds
  simp only [Cond.value]
  rw [f1, Option.bind_some]
  refine (congrArg (fun o : Option Nat => (o.bind (fun c => (U.vm.classes[c]?).map fun (k : Class) => match k.kind with | .array _ ty => decide (ty = FieldType.array .int) && decide (U.vm.findClass ("[" ++ (FieldType.array .int).toString) = some c) | _ => false) == some true)) hi).trans ?_
  simp [hk', hkind, f2]
section VGM
variable {p : Program} {l : Launch} {e : Env} {R : Room} {s : State} {m : MethodId} {args : Array Value} {below : List Frame} {meth : Method} {c : Code} {H : Heap} {locs : List Loc} {cells slots : Nat} {Q : State → Prop}
variable {cc : ByteArray} {pc : Nat} {ls : Array Slot} {rest : List Value} {D : va_G} {cl : List vw_C} {A : Nat → Prop} {a : Nat} {tys : List (ClassId × FieldType)} {ws : va_W} {H0 : Heap}
theorem va_mna {X : va_W} {L : List Nat} {f : Nat → va_E} {cc : ByteArray} (hexec : p.tables.exec = Jvm.exec) (hb : c.code = cc) {own : String} {index : Nat} {ty : FieldType} {cy : ClassId} (hown : s.vm.findClass own = some m.cls) (hclink : (Cond.classLink own index ("[" ++ (FieldType.array ty).toString)).before args s = true) (hover : va_AOA ty s) (harr : (Cond.arrayClass ty).before args s = true) (hcy : s.vm.findClass (FieldType.array ty).toString = some cy)
    (hK : va_K D cl tys s) (hP : va_P D cl (X ++ va_pl L f) H) (hD : va_D A (X ++ va_pl L f)) (hS : va_S A H0 H locs) (hA : ∀ q, H0.size ≤ q → A q) {n k : Int32} {N' K' : Nat} {z : vp_A} (hn : ¬ n < 0) (hk : ¬ k < 0) (hN : n.toNatClampNeg = N') (hM : k.toNatClampNeg = K')
    (hb1 : N' * 4 ≤ 536870912) (hb2 : K' * componentBytes ty ≤ 536870912) (hb3 : K' ≤ 536870912) (hdf : fits ty (defaultValue ty) = true) (hdd : (defaultValue ty).isDefault = true) (hcells : cells + (1 + N') ≤ R.cells) (hslots : slots + (N' + N' * K') ≤ R.slots) (hz : ∀ c : ClassId, Jvm.Free.Multi.innerC c K' (defaultValue ty) = vp_cell c z) (hdg : decode cc pc = .ok (.multianewarray index 2, 4))
    (kk : ∀ (q : Nat) (r : Nat → Nat) (cA : ClassId) (H1 : Heap), (∀ i j : Nat, i < N' → j < N' → r i = r j → i = j) → (∀ i : Nat, i < N' → r i ∉ L) → va_K D cl (tys ++ [(cA, .array ty)]) s →
      va_P D cl ((X ++ [(q, .inl (cA, N', .inr (.inr (.inr (.inr (fun i => if i < N' then some (r i) else none))))))]) ++ va_pl (L ++ (List.range N').map r) (vr_up f ((List.range N').map r) (.inl (cy, z)))) H1 → va_D A ((X ++ [(q, .inl (cA, N', .inr (.inr (.inr (.inr (fun i => if i < N' then some (r i) else none))))))]) ++ va_pl (L ++ (List.range N').map r) (vr_up f ((List.range N').map r) (.inl (cy, z)))) → va_S A H0 H1 locs →
      W p l e R s m args below meth c H1 locs (cells + 1 + N') (slots + N' + N' * K') Q (F0 m (pc + 4) ls (.ref q :: rest))) : W p l e R s m args below meth c H locs cells slots Q (F0 m pc ls (.int k :: .int n :: rest)) := by
  subst hN
  subst hM
  intro T hT Xs
  obtain ⟨vm₁, cA, comp, -, fA, fC, hO, -, X', step⟩ := Xs.multianewarray2F hexec hown hclink (va_AOA.use hover) harr (g := F0 m pc ls (.int k :: .int n :: rest)) rfl (by rw [hb]; exact hdg) rfl hn hk hb1 hb2 hb3 hdf hdd hcells hslots
  have ec : some cy = some comp := hcy.symm.trans fC
  cases ec
  generalize hF : Jvm.Free.Multi.fill (T.setVm vm₁) cA cy n.toNatClampNeg k.toNatClampNeg (defaultValue ty) n.toNatClampNeg = F at X' step
  have hTh : (T.setVm vm₁).heap = H := hT
  obtain ⟨f1, f2, -, -⟩ := Jvm.Free.Multi.fill_facts (T.setVm vm₁) cA cy n.toNatClampNeg k.toNatClampNeg (defaultValue ty) n.toNatClampNeg
  rw [hF, hTh] at f1 f2
  have hold : ∀ x : Nat, x < H.size → F.heap[x]? = H[x]? := fun x hx => by
    have := Jvm.Free.Multi.fill_old (T.setVm vm₁) cA cy n.toNatClampNeg k.toNatClampNeg (defaultValue ty) (a := x) (by rw [hTh]; exact hx) n.toNatClampNeg
    rw [hF, hTh] at this
    exact this
  have hrow : ∀ j : Nat, j < n.toNatClampNeg → F.heap[H.size + 1 + j]? = some (vp_cell cy z) := fun j hj => by
    have := Jvm.Free.Multi.fill_inner (T.setVm vm₁) cA cy n.toNatClampNeg k.toNatClampNeg (defaultValue ty) n.toNatClampNeg j hj
    rw [hF, hTh, hz] at this
    exact this
  have hout : Jvm.Free.Multi.outerC cA n.toNatClampNeg H.size n.toNatClampNeg = vp_cell cA (n.toNatClampNeg, .inr (.inr (.inr (.inr (fun i => if i < n.toNatClampNeg then some (H.size + 1 + i) else none))))) := by
    rw [vp_cell_q]
    exact vr_outer cA n.toNatClampNeg H.size n.toNatClampNeg
  rw [hout] at f2
  have hlt : ∀ a, a ∈ L → a < H.size := fun a ha => by
    obtain ⟨k9, hk9⟩ := va_pl_get (X := X) (f := f) ha
    exact (hP k9 _ hk9).lt
  have hnl : ∀ i : Nat, i < n.toNatClampNeg → H.size + 1 + i ∉ L := fun i _ h => by
    have := hlt _ h
    omega
  have hnm : ∀ a, a ∈ (List.range n.toNatClampNeg).map (fun i => H.size + 1 + i) → a ∉ L := fun a ha h => by
    obtain ⟨i, -, rfl⟩ := List.mem_map.mp ha
    have := hlt _ h
    omega
  have hP0 : va_P D cl (X ++ va_pl L f) F.heap := hP.kept (fun k9 x hx => hold x.1 ((hP k9 x hx).lt))
  have hP1 : va_P D cl ((X ++ va_pl L f) ++ [(H.size, .inl (cA, n.toNatClampNeg, .inr (.inr (.inr (.inr (fun i => if i < n.toNatClampNeg then some (H.size + 1 + i) else none))))))]) F.heap := hP0.app (fun k9 x hx => by
    have h0 : k9 < 1 := (List.getElem?_eq_some_iff.mp hx).1
    rw [show k9 = 0 by omega] at hx
    cases hx
    exact f2)
  have hP2 : va_P D cl (((X ++ va_pl L f) ++ [(H.size, .inl (cA, n.toNatClampNeg, .inr (.inr (.inr (.inr (fun i => if i < n.toNatClampNeg then some (H.size + 1 + i) else none))))))]) ++ ((List.range n.toNatClampNeg).map (fun i => H.size + 1 + i)).map (fun a => (a, .inl (cy, z)))) F.heap := hP1.app (fun k9 x hx => by
    obtain ⟨a, ha, rfl⟩ := List.mem_map.mp (List.mem_of_getElem? hx)
    obtain ⟨i, hi, rfl⟩ := List.mem_map.mp ha
    exact hrow i (List.mem_range.mp hi))
  have hD2 : va_D A (((X ++ va_pl L f) ++ [(H.size, .inl (cA, n.toNatClampNeg, .inr (.inr (.inr (.inr (fun i => if i < n.toNatClampNeg then some (H.size + 1 + i) else none))))))]) ++ ((List.range n.toNatClampNeg).map (fun i => H.size + 1 + i)).map (fun a => (a, .inl (cy, z)))) := by
    have hD1 := hD.push (e := .inl (cA, n.toNatClampNeg, .inr (.inr (.inr (.inr (fun i => if i < n.toNatClampNeg then some (H.size + 1 + i) else none)))))) hP rfl (hA _ hS.1)
    generalize hW1 : (X ++ va_pl L f) ++ [(H.size, .inl (cA, n.toNatClampNeg, .inr (.inr (.inr (.inr (fun i => if i < n.toNatClampNeg then some (H.size + 1 + i) else none))))))] = W1 at hD1 hP1 ⊢
    have hle : ∀ (k9 : Nat) (x : Nat × va_E), W1[k9]? = some x → x.1 ≤ H.size := fun k9 x hx => by
      rw [← hW1] at hx
      by_cases hl : k9 < (X ++ va_pl L f).length
      · rw [List.getElem?_append_left hl] at hx
        exact Nat.le_of_lt ((hP k9 x hx).lt)
      · rw [List.getElem?_append_right (by omega)] at hx
        have h0 : k9 - (X ++ va_pl L f).length < 1 := (List.getElem?_eq_some_iff.mp hx).1
        rw [show k9 - (X ++ va_pl L f).length = 0 by omega] at hx
        cases hx
        exact Nat.le_refl _
    have hr : ∀ (k9 : Nat) (x : Nat × va_E), (((List.range n.toNatClampNeg).map (fun i => H.size + 1 + i)).map (fun a => ((a, .inl (cy, z)) : Nat × va_E)))[k9]? = some x → x.1 = H.size + 1 + k9 := fun k9 x hx => by
      rw [List.getElem?_map, List.getElem?_map] at hx
      by_cases h9 : k9 < n.toNatClampNeg
      · rw [List.getElem?_range h9] at hx
        cases hx
        rfl
      · have hn0 : (List.range n.toNatClampNeg)[k9]? = none := List.getElem?_eq_none (by rw [List.length_range]; omega)
        rw [hn0] at hx
        cases hx
    refine ⟨fun i j x y hi hj hxy => ?_, fun k9 x hx => ?_⟩
    · by_cases h1 : i < W1.length <;> by_cases h2 : j < W1.length
      · rw [List.getElem?_append_left h1] at hi
        rw [List.getElem?_append_left h2] at hj
        exact hD1.1 i j x y hi hj hxy
      · rw [List.getElem?_append_left h1] at hi
        rw [List.getElem?_append_right (by omega)] at hj
        have := hle _ _ hi
        have := hr _ _ hj
        omega
      · rw [List.getElem?_append_right (by omega)] at hi
        rw [List.getElem?_append_left h2] at hj
        have := hle _ _ hj
        have := hr _ _ hi
        omega
      · rw [List.getElem?_append_right (by omega)] at hi hj
        have := hr _ _ hi
        have := hr _ _ hj
        omega
    · by_cases h1 : k9 < W1.length
      · rw [List.getElem?_append_left h1] at hx
        exact hD1.2 k9 x hx
      · rw [List.getElem?_append_right (by omega)] at hx
        have := hr _ _ hx
        exact hA _ (by have := hS.1; omega)
  have hAr : ArrOfT s cA (.array ty) := fun N9 z9 => by
    obtain ⟨-, k9, hk9, cm9, hkk9⟩ := (hO 0 0 0).1
    exact ⟨(fun q hq => by cases hq), k9, hk9, cm9, hkk9⟩
  have hK2 : va_K D cl (tys ++ [(cA, .array ty)]) s := ⟨hK.1, fun k9 x hx => by
    by_cases hl : k9 < tys.length
    · rw [List.getElem?_append_left hl] at hx
      exact hK.2 k9 x hx
    · rw [List.getElem?_append_right (by omega)] at hx
      have h0 : k9 - tys.length < 1 := (List.getElem?_eq_some_iff.mp hx).1
      rw [show k9 - tys.length = 0 by omega] at hx
      cases hx
      exact ⟨hAr, fA⟩⟩
  obtain ⟨t, a1, b1⟩ := kk H.size (fun i => H.size + 1 + i) cA F.heap (fun i j _ _ h => by have h9 : H.size + 1 + i = H.size + 1 + j := h; omega) hnl hK2 (by rw [← vr_rows hnm]; exact vr_lay hP2) (by rw [← vr_rows hnm]; exact vr_layD hD2) ⟨by rw [f1]; have := hS.1; omega, fun x h1 h2 => (hold x (Nat.lt_of_lt_of_le h1 hS.1)).trans (hS.2.1 x h1 h2), hS.2.2⟩ F rfl X'
  refine ⟨t, step t ?_, b1⟩
  have e : T.heap.size = H.size := by rw [hT]
  rw [e]
  exact a1
end VGM
/-! ===== END ===== -/

/-! ===== BEGIN exceptions that leave a method, and their catching by the caller (launches without stack traces) ===== -/
section VXA
/-! The laws vx_back, vx_callV, vx_callS, vx_callSW, vx_throw0, vx_throwS follow proofs of the library, with one case more: JvmDerived/Free/Laws.lean (Back.of_free), Shelf42/LK1.lean (callV, callS), Shelf/KitTraced.lean (throwNew0V, throwNewS). -/
/-- where a method has thrown q: the class by its name, the cell, what was written, the world -/
def vx_T (XC : String → State → State → Prop) (st : State) (q : Addr) (t : State) (mc ms : Nat) (free : Addr → Prop) : Prop :=
  ∃ (E : String) (ce : Cell) (L : List Loc), XC E st t ∧ t.heap[q]? = some ce ∧ ce.vm = .none ∧ st.vm.findClass E = some ce.cls ∧ st.WarmedH t.vm ∧ st.sameButNew ({ t with vm := st.vm } : State) L mc ms ∧ ∀ z ∈ L, free z.base
def vx_Q (Qc : Array Value → State → Outcome → State → Prop) (XC : String → State → State → Prop) (mc ms : Nat) (free : Addr → Prop) : Array Value → State → Outcome → State → Prop := fun a st o t =>
  (Qc a st o t ∧ ∃ L, FrameEnd st o t L mc ms ∧ ∀ q ∈ L, free q.base) ∨ ∃ q, o = .threw q ∧ vx_T XC st q t mc ms free
/-- a callee that returns or throws -/
def vx_Met (l : Launch) (y : MethodName) (ws : List Cond) (rm : Room) (Pc : Array Value → State → Prop) (Qc : Array Value → State → Outcome → State → Prop) (XC : String → State → State → Prop) (mc ms : Nat) (free : Addr → Prop) : Prop :=
  MetFree l y (headSpec ws rm) Pc (fun _ _ _ _ _ => True) (vx_Q Qc XC mc ms free)
def vx_Post (XC : String → State → State → Prop) (mc ms : Nat) (free : Addr → Prop) : Pt → Array Value → Addr → Pt → Prop := fun A a q B =>
  ∃ (g : JFrame) (mk : MethodId) (t : State) (L : List Loc) (E : String) (ce : Cell), B.U.heap = t.heap ∧ B.U.vm = t.vm ∧ XC E (A.U.calling g mk a) t ∧ t.heap[q]? = some ce ∧ ce.vm = .none ∧ A.U.vm.findClass E = some ce.cls ∧ B.locs = A.locs ++ L ∧ (∀ z ∈ L, free z.base) ∧ B.cells = A.cells + mc ∧ B.slots = A.slots + ms
def vx_Back (l : Launch) (R : Room) (p : Program) (e : Env) (below : List Frame) (s : State) (sargs : Array Value) (y : MethodName) (len W9 : Nat)
    (Pre : Pt → Array Value → Prop) (Post : Pt → Array Value → Option Value → Pt → Prop) (PostX : Pt → Array Value → Addr → Pt → Prop) : Prop :=
  ∀ (m : MethodId) (meth : Method) (c : Code) (A : Pt) (g : JFrame) (ig : Instr) (mk : MethodId) (a : Array Value),
    Stand p l e R s m sargs below meth c A.U A.locs A.cells A.slots → g.method = m → g.locals.size = c.maxLocals → decode c.code g.pc = .ok (ig, len) →
    2 * g.monitorRoom + (g.stack.map fun v => v.category).sum ≤ W9 → A.U.methodNamed? y = some mk → Pre A a →
    (∃ (v : Option Value) (B : Pt), Stand p l e R s m sargs below meth c B.U B.locs B.cells B.slots ∧ Post A a v B ∧
      Steps p.tables e below (doInvoke e (A.U.setTop g) [] mk a).1 (B.U.setTop { g with pc := g.pc + len, stack := v.toList ++ g.stack })) ∨
    (∃ (q : Addr) (B : Pt), Stand p l e R s m sargs below meth c B.U B.locs B.cells B.slots ∧ PostX A a q B ∧
      Steps p.tables e below (doInvoke e (A.U.setTop g) [] mk a).1 ((B.U.setTop g).pushFrame (.throwing q)))
section Payer
variable {l : Launch} {R : Room} {p : Program} {e : Env} {below : List Frame} {s : State} {sargs : Array Value} {y : MethodName} {len W9 : Nat}
theorem vx_back {ws : List Cond} {rm : Room} {Pc : Array Value → State → Prop} {Qc : Array Value → State → Outcome → State → Prop} {XC : String → State → State → Prop} {mc ms : Nat} {free : Addr → Prop} {bytes : ByteArray} {maxL : Nat} {ret : Option FieldType}
    (hM : vx_Met l y ws rm Pc Qc XC mc ms free) (hblind : FrameBlind Pc) (hrc : rm.cells = mc) (hrs : rm.slots = ms)
    (hframes : rm.frames + 1 ≤ R.frames) (hlocals : W9 + (maxL + 11) + rm.locals ≤ R.locals)
    (hws : ∀ w ∈ ws, ∀ a' U, s.WarmedH U.vm → w.before a' U = true) (hcode : Cond.code y bytes maxL ret ∈ ws) (hinit : ∀ a' U, s.WarmedH U.vm → (Cond.initialized y.cls).before a' U = true) :
    vx_Back l R p e below s sargs y len W9 (PreOf R mc ms Pc) (PostOf Qc mc ms free) (vx_Post XC mc ms free) := by
  intro m meth c A g ig mk a X hg hsize hdg hW hn hp
  have h1 : (headSpec ws rm).pre.before a A.U = true := atoms_intro fun w hw => hws w hw _ _ X.warmed
  have h2 : (Cond.code y bytes maxL ret).before a A.U = true := hws _ hcode _ _ X.warmed
  have h3 : (Cond.initialized y.cls).before a A.U = true := hinit _ _ X.warmed
  have h4 : A.cells + (headSpec ws rm).room.cells ≤ R.cells := by rw [show (headSpec ws rm).room.cells = mc from hrc]; exact hp.1
  have h5 : A.slots + (headSpec ws rm).room.slots ≤ R.slots := by rw [show (headSpec ws rm).room.slots = ms from hrs]; exact hp.2.1
  have hPc : Pc a (A.U.calling g mk a) := hblind _ _ _ _ hp.2.2
  obtain ⟨U, Ls, c0, s0⟩ := A
  dsimp only [Pt.U, Pt.locs, Pt.cells, Pt.slots] at h1 h2 h3 h4 h5 X hn hPc ⊢
  obtain ⟨methY, cY, hmY, hcY, -, hlY, -, -, -, -⟩ := Cond.code_spec hn h2
  obtain ⟨kY, hkY, -⟩ := className_of_methodNamed hn
  have hinitY : kY.init = .initialized := Cond.initialized_spec (findClass_of_methodNamed hn) hkY h3
  have h : At U g.method c below := by rw [hg]; exact X.here
  have hlocals9 : W9 + (maxL + 11) + (headSpec ws rm).room.locals ≤ R.locals := hlocals
  have happ : (headSpec ws rm).appliesLoose y e.platform (U.calling g mk a) = true :=
    Spec.appliesLoose_calling (g := g) h hdg hn hkY hinitY
      (X.room_calling (g := g) (R' := (headSpec ws rm).room) hsize hmY hcY hframes (by rw [hlY]; omega) h4 h5) h1
  obtain ⟨mid, hmid⟩ := h.above
  have hfr : (U.setTop g).frames = (.java g :: mid) ++ below := by rw [State.frames_setTop' g h.top, hmid]; rfl
  obtain ⟨o, s₂, hsteps, -, hend, hq⟩ := Steps.callFree hM p X.admits X.cas X.clock (acts := []) hfr happ hPc trivial
  have hq' : vx_Q Qc XC mc ms free a (U.calling g mk a) o s₂ := hq
  rw [State.frames_setTop' g h.top] at hend
  obtain ⟨g₀, hg0⟩ := Option.isSome_iff_exists.mp h.top
  obtain ⟨r, hr⟩ := State.topJava?_eq_some.mp hg0
  have hr' : (({ U with heap := s₂.heap, slotsUsed := s₂.slotsUsed } : State).setVm s₂.vm).frames = .java g₀ :: r := hr
  rcases hq' with ⟨hqc, L, hfe, hL⟩ | ⟨q, rfl, E, ce, L, hx, hce, hcv, hcl, hW₂, hsm, hL⟩
  · obtain ⟨⟨v, rfl⟩, hW₂, e2, q2, q3, q4, q5, q6⟩ := id hfe
    have e3 : s₂ = ({ (U.calling g mk a).setFrames s₂.frames with heap := s₂.heap, slotsUsed := s₂.slotsUsed } : State).setVm s₂.vm := by
      have : s₂ = ({ s₂ with vm := (U.calling g mk a).vm } : State).setVm s₂.vm := rfl
      rw [e2] at this
      exact this
    obtain ⟨c₂, i₂, len₂, hc₂, hd₂, hf₂⟩ := hend
    have hW' : U.WarmedH s₂.vm := hW₂
    have hcc : c₂ = c := by
      have h1 : s₂.code? g.method = U.code? g.method := by
        rw [State.code?_eq, State.code?_eq, hW'.alike.method?]
      exact Option.some.inj (hc₂.symm.trans (h1.trans h.code))
    subst hcc
    have hlen : len₂ = len := by rw [hdg] at hd₂; cases hd₂; rfl
    subst hlen
    have hs₂ : s₂ = (({ U with heap := s₂.heap, slotsUsed := s₂.slotsUsed } : State).setVm s₂.vm).setTop { g with pc := g.pc + len₂, stack := v.toList ++ g.stack } := by
      refine e3.trans ?_
      rw [hf₂, State.calling_eq h.top, State.setFrames_setFrames, State.setTop_of_frames _ hr', hr]
      rfl
    have hsame : U.sameButNew ({ U with heap := s₂.heap, slotsUsed := s₂.slotsUsed } : State) L mc ms := by
      refine ⟨?_, q2, q3, q4, q5, q6⟩
      obtain ⟨t, ht, -⟩ := State.frames_cons hr
      show ({ U with heap := s₂.heap, slotsUsed := s₂.slotsUsed } : State) = { U.setFrames U.frames with heap := s₂.heap, slotsUsed := s₂.slotsUsed }
      rw [State.setFrames_self ht]
    subst hg
    refine Or.inl ⟨v, ⟨(({ U with heap := s₂.heap, slotsUsed := s₂.slotsUsed } : State).setVm s₂.vm), Ls ++ L, c0 + mc, s0 + ms⟩,
      ⟨X.admits, X.cas, X.clock, X.frames, X.room, X.hears, X.method, X.code, (X.here.setHeapUsed s₂.heap s₂.slotsUsed).setVm hW'.alike, X.tail, State.WarmedH.trans X.warmed hW', X.limits, X.bytes, X.same.trans (hsame.setVm s.vm)⟩,
      ⟨g, mk, s₂, L, rfl, rfl, hqc, rfl, hL, rfl, rfl⟩, ?_⟩
    show Steps p.tables e below _ ((({ U with heap := s₂.heap, slotsUsed := s₂.slotsUsed } : State).setVm s₂.vm).setTop { g with pc := g.pc + len₂, stack := v.toList ++ g.stack })
    rw [← hs₂]
    exact hsteps
  · obtain ⟨e2, q2, q3, q4, q5, q6⟩ := id hsm
    have e3 : s₂ = ({ (U.calling g mk a).setFrames s₂.frames with heap := s₂.heap, slotsUsed := s₂.slotsUsed } : State).setVm s₂.vm := by
      have : s₂ = ({ s₂ with vm := (U.calling g mk a).vm } : State).setVm s₂.vm := rfl
      rw [e2] at this
      exact this
    have hf₂ : s₂.frames = .throwing q :: .java g :: U.frames.tail := hend
    have hW' : U.WarmedH s₂.vm := hW₂
    have hs₂ : s₂ = ((({ U with heap := s₂.heap, slotsUsed := s₂.slotsUsed } : State).setVm s₂.vm).setTop g).pushFrame (.throwing q) := by
      refine e3.trans ?_
      rw [hf₂, State.calling_eq h.top, State.setFrames_setFrames, State.pushFrame, State.frames_setTop _ hr', State.setTop_of_frames _ hr', State.setFrames_setFrames, hr]
      rfl
    have hsame : U.sameButNew ({ U with heap := s₂.heap, slotsUsed := s₂.slotsUsed } : State) L mc ms := by
      refine ⟨?_, q2, q3, q4, q5, q6⟩
      obtain ⟨t, ht, -⟩ := State.frames_cons hr
      show ({ U with heap := s₂.heap, slotsUsed := s₂.slotsUsed } : State) = { U.setFrames U.frames with heap := s₂.heap, slotsUsed := s₂.slotsUsed }
      rw [State.setFrames_self ht]
    subst hg
    refine Or.inr ⟨q, ⟨(({ U with heap := s₂.heap, slotsUsed := s₂.slotsUsed } : State).setVm s₂.vm), Ls ++ L, c0 + mc, s0 + ms⟩,
      ⟨X.admits, X.cas, X.clock, X.frames, X.room, X.hears, X.method, X.code, (X.here.setHeapUsed s₂.heap s₂.slotsUsed).setVm hW'.alike, X.tail, State.WarmedH.trans X.warmed hW', X.limits, X.bytes, X.same.trans (hsame.setVm s.vm)⟩,
      ⟨g, mk, s₂, L, E, ce, rfl, rfl, hx, hce, hcv, hcl, rfl, hL, rfl, rfl⟩, ?_⟩
    show Steps p.tables e below _ (((({ U with heap := s₂.heap, slotsUsed := s₂.slotsUsed } : State).setVm s₂.vm).setTop g).pushFrame (.throwing q))
    rw [← hs₂]
    exact hsteps
end Payer
section Calls
variable {p : Program} {l : Launch} {e : Env} {R : Room} {s : State} {m : MethodId} {args : Array Value} {below : List Frame} {meth : Method} {c : Code} {T : State} {locs : List Loc} {cells slots : Nat}
theorem vx_callV (X : Stand p l e R s m args below meth c T locs cells slots) (hexec : p.tables.exec = Jvm.exec) {own C : String} {index : Nat} {y : MethodName} {bytes : ByteArray} {maxL : Nat} {ret : Option FieldType}
    (hown : s.vm.findClass own = some m.cls) (hlink : (Cond.methodLink own index y).before args s = true) (hinst : (Cond.instanceMethod y).before args s = true) (hsel : (Cond.selects C y y).before args s = true)
    (hcode : (Cond.code y bytes maxL ret).before args s = true) (hy : y.cls ≠ "java/lang/invoke/MethodHandle" ∧ y.cls ≠ "java/lang/invoke/VarHandle")
    {W9 : Nat} {Pre : Pt → Array Value → Prop} {Post : Pt → Array Value → Option Value → Pt → Prop} {PostX : Pt → Array Value → Addr → Pt → Prop} (hK : vx_Back l R p e below s args y 3 W9 Pre Post PostX)
    {b : Addr} {cellB : Cell} (hcell : T.heap[b]? = some cellB) (hobj : cellB.vm.isStatics = false) (hcls : s.vm.findClass C = some cellB.cls)
    {g : JFrame} (hg : g.method = m) (hsize : g.locals.size = c.maxLocals) {argsL rest : List Value} (hlen : ∀ sig, parseMethodDescriptor y.desc = some sig → argsL.length = sig.parameters.length)
    (hstack : g.stack = argsL.reverse ++ .ref b :: rest) (hW : 2 * g.monitorRoom + (rest.map fun v => v.category).sum ≤ W9) (hdg : decode c.code g.pc = .ok (.invokevirtual index, 3))
    (hpre : ∀ vm₁, s.WarmedH vm₁ → Pre ⟨T.setVm vm₁, locs, cells, slots⟩ (Value.ref b :: argsL).toArray) :
    (∃ (v : Option Value) (vm₁ : Vm) (B : Pt), s.WarmedH vm₁ ∧ Stand p l e R s m args below meth c B.U B.locs B.cells B.slots ∧ Post ⟨T.setVm vm₁, locs, cells, slots⟩ (Value.ref b :: argsL).toArray v B ∧
      ∀ target, Steps p.tables e below (B.U.setTop { g with pc := g.pc + 3, stack := v.toList ++ rest }) target → Steps p.tables e below (T.setTop g) target) ∨
    (∃ (q : Addr) (vm₁ : Vm) (B : Pt), s.WarmedH vm₁ ∧ Stand p l e R s m args below meth c B.U B.locs B.cells B.slots ∧ PostX ⟨T.setVm vm₁, locs, cells, slots⟩ (Value.ref b :: argsL).toArray q B ∧
      Steps p.tables e below (T.setTop g) ((B.U.setTop { g with stack := rest }).pushFrame (.throwing q))) := by
  obtain ⟨mk, methM, hnamed, hmethM, hstM, habM⟩ := Cond.instanceMethod_spec hinst
  obtain ⟨methM', cM, hmethM', -, -, -, -, -, -, hsigM⟩ := Cond.code_spec hnamed hcode
  cases hmethM.symm.trans hmethM'
  obtain ⟨c2, r2, m2, q1, q2, q3, q4, kP, hkP, hkPi⟩ := Cond.selects_spec hsel
  cases hcls.symm.trans q1
  cases (State.methodFound?_of_named hnamed hy).symm.trans q2
  cases hnamed.symm.trans q3
  have hselP : selectMethod e.platform s.vm cellB.cls mk = .method mk := by rw [Launch.admits_selectMethod X.admits]; exact q4
  obtain ⟨vm₁, X₁, hstep₁⟩ := X.invokevirtual hexec hown hlink hnamed hmethM hstM hkP hkPi hy (a := b) (cell := cellB) hcell
    (fun z h => by rw [h] at hobj; cases hobj) hselP hmethM habM hkP hkPi (g := g) hg (argsL := argsL) (rest := rest) (hlen _ hsigM) hstack hdg
  rcases hK m meth c ⟨T.setVm vm₁, locs, cells, slots⟩ { g with stack := rest } (.invokevirtual index) mk (Value.ref b :: argsL).toArray X₁ hg hsize hdg hW (X₁.named hnamed) (hpre vm₁ X₁.warmed) with ⟨v, B, X', hpost, hsteps⟩ | ⟨q, B, X', hpost, hsteps⟩
  · exact Or.inl ⟨v, vm₁, B, X₁.warmed, X', hpost, fun target h => hstep₁ _ fun acts => by rw [doInvoke_state]; exact hsteps.trans h⟩
  · exact Or.inr ⟨q, vm₁, B, X₁.warmed, X', hpost, hstep₁ _ fun acts => by rw [doInvoke_state]; exact hsteps⟩
theorem vx_callS (X : Stand p l e R s m args below meth c T locs cells slots) (hexec : p.tables.exec = Jvm.exec) {own : String} {index : Nat} {y : MethodName} {bytes : ByteArray} {maxL : Nat} {ret : Option FieldType}
    (hown : s.vm.findClass own = some m.cls) (hlink : (Cond.methodLink own index y).before args s = true) (hstat : (Cond.static y).before args s = true) (hinit : (Cond.initialized y.cls).before args s = true)
    (hcode : (Cond.code y bytes maxL ret).before args s = true) (hy : y.cls ≠ "java/lang/invoke/MethodHandle" ∧ y.cls ≠ "java/lang/invoke/VarHandle")
    {W9 : Nat} {Pre : Pt → Array Value → Prop} {Post : Pt → Array Value → Option Value → Pt → Prop} {PostX : Pt → Array Value → Addr → Pt → Prop} (hK : vx_Back l R p e below s args y 3 W9 Pre Post PostX)
    {g : JFrame} (hg : g.method = m) (hsize : g.locals.size = c.maxLocals) {argsL rest : List Value} (hlen : ∀ sig, parseMethodDescriptor y.desc = some sig → argsL.length = sig.parameters.length)
    (hstack : g.stack = argsL.reverse ++ rest) (hW : 2 * g.monitorRoom + (rest.map fun v => v.category).sum ≤ W9) (hdg : decode c.code g.pc = .ok (.invokestatic index, 3))
    (hpre : ∀ vm₁, s.WarmedH vm₁ → Pre ⟨T.setVm vm₁, locs, cells, slots⟩ argsL.toArray) :
    (∃ (v : Option Value) (vm₁ : Vm) (B : Pt), s.WarmedH vm₁ ∧ Stand p l e R s m args below meth c B.U B.locs B.cells B.slots ∧ Post ⟨T.setVm vm₁, locs, cells, slots⟩ argsL.toArray v B ∧
      ∀ target, Steps p.tables e below (B.U.setTop { g with pc := g.pc + 3, stack := v.toList ++ rest }) target → Steps p.tables e below (T.setTop g) target) ∨
    (∃ (q : Addr) (vm₁ : Vm) (B : Pt), s.WarmedH vm₁ ∧ Stand p l e R s m args below meth c B.U B.locs B.cells B.slots ∧ PostX ⟨T.setVm vm₁, locs, cells, slots⟩ argsL.toArray q B ∧
      Steps p.tables e below (T.setTop g) ((B.U.setTop { g with stack := rest }).pushFrame (.throwing q))) := by
  obtain ⟨mk, hnamed⟩ := Cond.code_named hcode
  obtain ⟨methM, cM, hmethM, -, -, -, -, -, -, hsigM⟩ := Cond.code_spec hnamed hcode
  have hstatic : methM.isStatic = true := Cond.static_spec hnamed hmethM hstat
  obtain ⟨kP, hkP, -⟩ := className_of_methodNamed hnamed
  have hinitP : kP.init = .initialized := Cond.initialized_spec (findClass_of_methodNamed hnamed) hkP hinit
  obtain ⟨vm₁, X₁, hstep₁⟩ := X.invokestatic hexec hown hlink hnamed hmethM hstatic hkP hinitP hy (g := g) hg (argsL := argsL) (rest := rest) (hlen _ hsigM) hstack hdg
  rcases hK m meth c ⟨T.setVm vm₁, locs, cells, slots⟩ { g with stack := rest } (.invokestatic index) mk argsL.toArray X₁ hg hsize hdg hW (X₁.named hnamed) (hpre vm₁ X₁.warmed) with ⟨v, B, X', hpost, hsteps⟩ | ⟨q, B, X', hpost, hsteps⟩
  · exact Or.inl ⟨v, vm₁, B, X₁.warmed, X', hpost, fun target h => hstep₁ _ fun acts => by rw [doInvoke_state]; exact hsteps.trans h⟩
  · exact Or.inr ⟨q, vm₁, B, X₁.warmed, X', hpost, hstep₁ _ fun acts => by rw [doInvoke_state]; exact hsteps⟩
end Calls
theorem vx_cls {s : State} {T : State} {vm₁ : Vm} {E : String} {k : ClassId} (hW : s.WarmedH vm₁) (h : (T.setVm vm₁).vm.findClass E = some k) : s.vm.findClass E = some k := by
  have h1 : vm₁.findClass E = some k := h
  rw [hW.alike.findClass] at h1
  exact h1
/-- the method's frame g, with q thrown over it -/
def vx_W (p : Program) (l : Launch) (e : Env) (R : Room) (s : State) (m : MethodId) (args : Array Value) (below : List Frame) (meth : Method) (c : Code) (H : Heap) (locs : List Loc) (cells slots : Nat) (Q : State → Prop) (g : JFrame) (q : Addr) : Prop :=
  ∀ T : State, T.heap = H → Stand p l e R s m args below meth c T locs cells slots → ∃ t, Steps p.tables e below ((T.setTop g).pushFrame (.throwing q)) t ∧ Q t
def vx_Run (p : Program) (l : Launch) (e : Env) (R : Room) (s : State) (m : MethodId) (args : Array Value) (below : List Frame) (meth : Method) (c : Code) (H : Heap) (locs : List Loc) (cells slots mc ms : Nat) (g : JFrame) (rest : List Value) (Qa : State → Outcome → State → Prop) (XC : String → State → State → Prop) (free : Addr → Prop) : Prop :=
  ∀ T : State, T.heap = H → Stand p l e R s m args below meth c T locs cells slots →
    (∃ (v : Option Value) (st₀ t T' : State) (L : List Loc), st₀.heap = H ∧ Stand p l e R s m args below meth c T' (locs ++ L) (cells + mc) (slots + ms) ∧ (∀ q ∈ L, free q.base) ∧ T'.heap = t.heap ∧ T'.vm = t.vm ∧ Qa st₀ (.returned v) t ∧
      Goes p e below T g T' { g with pc := g.pc + 3, stack := v.toList ++ rest }) ∨
    (∃ (q : Addr) (st₀ t T' : State) (L : List Loc) (E : String) (ce : Cell), st₀.heap = H ∧ Stand p l e R s m args below meth c T' (locs ++ L) (cells + mc) (slots + ms) ∧ (∀ z ∈ L, free z.base) ∧ T'.heap = t.heap ∧ T'.vm = t.vm ∧ XC E st₀ t ∧ t.heap[q]? = some ce ∧ ce.vm = .none ∧ s.vm.findClass E = some ce.cls ∧
      Steps p.tables e below (T.setTop g) ((T'.setTop { g with stack := rest }).pushFrame (.throwing q)))
def vx_X {S : Type} (px : S → Prop) (B : String → S → State → Prop) (A : Nat → Prop) : String → State → State → Prop := fun E st t => ∃ u : S, px u ∧ B E u t ∧ va_F A st t
section Runs
variable {p : Program} {l : Launch} {e : Env} {R : Room} {s : State} {m : MethodId} {args : Array Value} {below : List Frame} {meth : Method} {c : Code} {H : Heap} {locs : List Loc} {cells slots : Nat}
variable {y : MethodName} {bytes cc : ByteArray} {maxL nL mc ms n index : Nat} {ret : Option FieldType} {ws : List Cond} {rm : Room} {Pc : Array Value → State → Prop} {Qc : Array Value → State → Outcome → State → Prop} {XC : String → State → State → Prop} {free : Addr → Prop} {Ts : List Cond} {own C : String} {b : Addr} {As rest : List Value} {g : JFrame}
theorem vx_callBack (cb : CallB R s args own index y bytes maxL ret ws rm mc ms n) (hM : vx_Met l y ws rm Pc Qc XC mc ms free) (hbl : FrameBlind Pc) : vx_Back l R p e below s args y 3 8 (PreOf R mc ms Pc) (PostOf Qc mc ms free) (vx_Post XC mc ms free) := by
  obtain ⟨hrc, hrs, hfr, hlo, hws, hcw, -, hini, -⟩ := cb
  exact vx_back (bytes := bytes) (maxL := maxL) (ret := ret) hM hbl hrc hrs hfr hlo hws hcw (fun a' U hW => word_at hW (Or.inl (by first | rfl | simp [Cond.onTables, Cond.keeps, Cond.steady])) hini)
theorem vx_runV (S : CallFix p m c cc nL s args Ts own) (hM : vx_Met l y ws rm Pc Qc XC mc ms free) (cw : CallW R s args own C index y bytes maxL ret ws rm mc ms n) (hp : PreV s H C b Pc As)
    (hg : g.method = m) (hn : As.length = n) (hsize : g.locals.size = nL) (hstack : g.stack = As.reverse ++ .ref b :: rest) (hW : 2 * g.monitorRoom + (rest.map fun v => v.category).sum ≤ 8) (hdg : decode cc g.pc = .ok (.invokevirtual index, 3)) (hf : cells + mc ≤ R.cells ∧ slots + ms ≤ R.slots) :
    vx_Run p l e R s m args below meth c H locs cells slots mc ms g rest (Qc (Value.ref b :: As).toArray) XC free := by
  have hK : vx_Back l R p e below s args y 3 8 (PreOf R mc ms Pc) (PostOf Qc mc ms free) (vx_Post XC mc ms free) := vx_callBack cw.1 hM hp.1
  obtain ⟨⟨-, -, -, -, -, -, hcode, -, hy, hlen, hl⟩, hin, hse⟩ := cw
  obtain ⟨hx, hb, hml, ho, -⟩ := S
  obtain ⟨-, ⟨cellB, hcB, hoB, hclB⟩, hPc⟩ := hp
  intro T hT X
  rcases vx_callV X hx (C := C) (bytes := bytes) (maxL := maxL) (ret := ret) ho hl hin hse hcode hy hK (by rw [hT]; exact hcB) hoB hclB hg (hsize.trans hml.symm) (argsL := As) (rest := rest) (fun sig h => hn.trans (hlen sig h)) hstack hW (by rw [hb]; exact hdg)
    (fun vm₁ hW₁ => ⟨hf.1, hf.2, hPc (T.setVm vm₁) hT hW₁⟩) with ⟨v, vm₁, ⟨U', l2, c2, s2⟩, hW₁, X', ⟨g', mk, t, L, e1, e2, hq, h1, hL, h2, h3⟩, st⟩ | ⟨q, vm₁, ⟨U', l2, c2, s2⟩, hW₁, X', ⟨g', mk, t, L, E, ce, e1, e2, hq, hce, hcv, hcl, h1, hL, h2, h3⟩, st⟩
  · dsimp only [Pt.U, Pt.locs, Pt.cells, Pt.slots] at X' e1 e2 h1 h2 h3 st
    subst h1; subst h2; subst h3
    exact Or.inl ⟨v, (T.setVm vm₁).calling g' mk (Value.ref b :: As).toArray, t, U', L, hT, X', hL, e1, e2, hq, st⟩
  · dsimp only [Pt.U, Pt.locs, Pt.cells, Pt.slots] at X' e1 e2 h1 h2 h3 st hcl
    subst h1; subst h2; subst h3
    exact Or.inr ⟨q, (T.setVm vm₁).calling g' mk (Value.ref b :: As).toArray, t, U', L, E, ce, hT, X', hL, e1, e2, hq, hce, hcv, vx_cls hW₁ hcl, st⟩
theorem vx_runS (S : CallFix p m c cc nL s args Ts own) (hM : vx_Met l y ws rm Pc Qc XC mc ms free) (cw : CallB R s args own index y bytes maxL ret ws rm mc ms n ∧ (Cond.static y).before args s = true) (hp : PreS s H Pc As)
    (hg : g.method = m) (hn : As.length = n) (hsize : g.locals.size = nL) (hstack : g.stack = As.reverse ++ rest) (hW : 2 * g.monitorRoom + (rest.map fun v => v.category).sum ≤ 8) (hdg : decode cc g.pc = .ok (.invokestatic index, 3)) (hf : cells + mc ≤ R.cells ∧ slots + ms ≤ R.slots) :
    vx_Run p l e R s m args below meth c H locs cells slots mc ms g rest (Qc As.toArray) XC free := by
  have hK : vx_Back l R p e below s args y 3 8 (PreOf R mc ms Pc) (PostOf Qc mc ms free) (vx_Post XC mc ms free) := vx_callBack cw.1 hM hp.1
  obtain ⟨⟨-, -, -, -, -, -, hcode, hini, hy, hlen, hl⟩, hstt⟩ := cw
  obtain ⟨hx, hb, hml, ho, -⟩ := S
  intro T hT X
  rcases vx_callS X hx (bytes := bytes) (maxL := maxL) (ret := ret) ho hl hstt hini hcode hy hK hg (hsize.trans hml.symm) (argsL := As) (rest := rest) (fun sig h => hn.trans (hlen sig h)) hstack hW (by rw [hb]; exact hdg)
    (fun vm₁ hW₁ => ⟨hf.1, hf.2, hp.2 (T.setVm vm₁) hT hW₁⟩) with ⟨v, vm₁, ⟨U', l2, c2, s2⟩, hW₁, X', ⟨g', mk, t, L, e1, e2, hq, h1, hL, h2, h3⟩, st⟩ | ⟨q, vm₁, ⟨U', l2, c2, s2⟩, hW₁, X', ⟨g', mk, t, L, E, ce, e1, e2, hq, hce, hcv, hcl, h1, hL, h2, h3⟩, st⟩
  · dsimp only [Pt.U, Pt.locs, Pt.cells, Pt.slots] at X' e1 e2 h1 h2 h3 st
    subst h1; subst h2; subst h3
    exact Or.inl ⟨v, (T.setVm vm₁).calling g' mk As.toArray, t, U', L, hT, X', hL, e1, e2, hq, st⟩
  · dsimp only [Pt.U, Pt.locs, Pt.cells, Pt.slots] at X' e1 e2 h1 h2 h3 st hcl
    subst h1; subst h2; subst h3
    exact Or.inr ⟨q, (T.setVm vm₁).calling g' mk As.toArray, t, U', L, E, ce, hT, X', hL, e1, e2, hq, hce, hcv, vx_cls hW₁ hcl, st⟩
end Runs
section Rows
variable {p : Program} {l : Launch} {e : Env} {R : Room} {s : State} {m : MethodId} {args : Array Value} {below : List Frame} {meth : Method} {c : Code} {H : Heap} {locs : List Loc} {cells slots : Nat} {Q : State → Prop}
variable {mc ms : Nat} {free : Addr → Prop} {A0 A1 : Nat → Prop} {H0 : Heap} {a : Array Value} {pc : Nat} {ls : Array Slot} {st0 rest : List Value}
theorem vx_keep {st₀ t T' : State} {L : List Loc} (h0 : st₀.heap = H) (e1 : T'.heap = t.heap) (hS : va_S A0 H0 H locs) (hA : ∀ q, q < H.size → A1 q → A0 q) (hf : ∀ q, free q → A0 q) (hL : ∀ q ∈ L, free q.base) (hF : va_F A1 st₀ t) :
    H.size ≤ T'.heap.size ∧ (∀ q : Nat, q < H.size → ¬ A1 q → T'.heap[q]? = H[q]?) ∧ va_S A0 H0 T'.heap (locs ++ L) := by
  obtain ⟨hz, hk⟩ := hF
  rw [h0] at hz hk
  exact ⟨by rw [e1]; exact hz, fun q h1 h2 => by rw [e1]; exact hk q h1 h2,
    ⟨Nat.le_trans hS.1 (by rw [e1]; exact hz), fun q h1 h2 => by rw [e1, hk q (Nat.lt_of_lt_of_le h1 hS.1) (fun z => h2 (hA q (Nat.lt_of_lt_of_le h1 hS.1) z))]; exact hS.2.1 q h1 h2, fun q hq => by
      rcases List.mem_append.mp hq with h | h
      · exact hS.2.2 q h
      · exact hf _ (hL q h)⟩⟩
theorem vx_calli {S SX : Type} {post : Int32 → S → Prop} {px : SX → Prop} {B : S → State → Prop} {BX : String → SX → State → Prop} {AX : Nat → Prop} (hr : vx_Run p l e R s m args below meth c H locs cells slots mc ms (F0 m pc ls st0) rest (va_Qi post B A1 a) (vx_X px BX AX) free) (hS : va_S A0 H0 H locs) (hA : ∀ q, q < H.size → A1 q → A0 q) (hf : ∀ q, free q → A0 q) (hAX : ∀ q, q < H.size → AX q → A0 q)
    (kx : ∀ (E : String) (ce : Cell) (q9 : Addr) (u : SX) (t : State) (H1 : Heap) (locs1 : List Loc), t.heap = H1 → s.vm.Alike t.vm → px u → BX E u t → H.size ≤ H1.size → (∀ q : Nat, q < H.size → ¬ AX q → H1[q]? = H[q]?) → va_S A0 H0 H1 locs1 → H1[q9]? = some ce → ce.vm = .none → s.vm.findClass E = some ce.cls → vx_W p l e R s m args below meth c H1 locs1 (cells + mc) (slots + ms) Q (F0 m pc ls rest) q9)
    (kk : ∀ (r : Int32) (u : S) (t : State) (H1 : Heap) (locs1 : List Loc), t.heap = H1 → s.vm.Alike t.vm → post r u → B u t → H.size ≤ H1.size → (∀ q : Nat, q < H.size → ¬ A1 q → H1[q]? = H[q]?) → va_S A0 H0 H1 locs1 → W p l e R s m args below meth c H1 locs1 (cells + mc) (slots + ms) Q (F0 m (pc + 3) ls (.int r :: rest))) : W p l e R s m args below meth c H locs cells slots Q (F0 m pc ls st0) := by
  intro T hT X
  rcases hr T hT X with ⟨v, st₀, t, T', L, h0, X', hL, e1, e2, ⟨⟨r, u, hv, hp, hb⟩, hF⟩, st⟩ | ⟨q, st₀, t, T', L, E, ce, h0, X', hL, e1, e2, ⟨u, hp, hb, hF⟩, hce, hcv, hcl, st⟩
  · cases hv
    obtain ⟨k1, k2, k3⟩ := vx_keep h0 e1 hS hA hf hL hF
    obtain ⟨t2, a1, b1⟩ := kk r u t T'.heap (locs ++ L) e1.symm (by rw [← e2]; exact X'.warmed.alike) hp hb k1 k2 k3 T' rfl X'
    exact ⟨t2, st t2 a1, b1⟩
  · obtain ⟨k1, k2, k3⟩ := vx_keep h0 e1 hS hAX hf hL hF
    obtain ⟨t2, a1, b1⟩ := kx E ce q u t T'.heap (locs ++ L) e1.symm (by rw [← e2]; exact X'.warmed.alike) hp hb k1 k2 k3 (by rw [e1]; exact hce) hcv hcl T' rfl X'
    exact ⟨t2, st.trans a1, b1⟩
theorem vx_calll {S SX : Type} {post : Int64 → S → Prop} {px : SX → Prop} {B : S → State → Prop} {BX : String → SX → State → Prop} {AX : Nat → Prop} (hr : vx_Run p l e R s m args below meth c H locs cells slots mc ms (F0 m pc ls st0) rest (va_Ql post B A1 a) (vx_X px BX AX) free) (hS : va_S A0 H0 H locs) (hA : ∀ q, q < H.size → A1 q → A0 q) (hf : ∀ q, free q → A0 q) (hAX : ∀ q, q < H.size → AX q → A0 q)
    (kx : ∀ (E : String) (ce : Cell) (q9 : Addr) (u : SX) (t : State) (H1 : Heap) (locs1 : List Loc), t.heap = H1 → s.vm.Alike t.vm → px u → BX E u t → H.size ≤ H1.size → (∀ q : Nat, q < H.size → ¬ AX q → H1[q]? = H[q]?) → va_S A0 H0 H1 locs1 → H1[q9]? = some ce → ce.vm = .none → s.vm.findClass E = some ce.cls → vx_W p l e R s m args below meth c H1 locs1 (cells + mc) (slots + ms) Q (F0 m pc ls rest) q9)
    (kk : ∀ (r : Int64) (u : S) (t : State) (H1 : Heap) (locs1 : List Loc), t.heap = H1 → s.vm.Alike t.vm → post r u → B u t → H.size ≤ H1.size → (∀ q : Nat, q < H.size → ¬ A1 q → H1[q]? = H[q]?) → va_S A0 H0 H1 locs1 → W p l e R s m args below meth c H1 locs1 (cells + mc) (slots + ms) Q (F0 m (pc + 3) ls (.long r :: rest))) : W p l e R s m args below meth c H locs cells slots Q (F0 m pc ls st0) := by
  intro T hT X
  rcases hr T hT X with ⟨v, st₀, t, T', L, h0, X', hL, e1, e2, ⟨⟨r, u, hv, hp, hb⟩, hF⟩, st⟩ | ⟨q, st₀, t, T', L, E, ce, h0, X', hL, e1, e2, ⟨u, hp, hb, hF⟩, hce, hcv, hcl, st⟩
  · cases hv
    obtain ⟨k1, k2, k3⟩ := vx_keep h0 e1 hS hA hf hL hF
    obtain ⟨t2, a1, b1⟩ := kk r u t T'.heap (locs ++ L) e1.symm (by rw [← e2]; exact X'.warmed.alike) hp hb k1 k2 k3 T' rfl X'
    exact ⟨t2, st t2 a1, b1⟩
  · obtain ⟨k1, k2, k3⟩ := vx_keep h0 e1 hS hAX hf hL hF
    obtain ⟨t2, a1, b1⟩ := kx E ce q u t T'.heap (locs ++ L) e1.symm (by rw [← e2]; exact X'.warmed.alike) hp hb k1 k2 k3 (by rw [e1]; exact hce) hcv hcl T' rfl X'
    exact ⟨t2, st.trans a1, b1⟩
theorem vx_callf {S SX : Type} {post : UInt32 → S → Prop} {px : SX → Prop} {B : S → State → Prop} {BX : String → SX → State → Prop} {AX : Nat → Prop} (hr : vx_Run p l e R s m args below meth c H locs cells slots mc ms (F0 m pc ls st0) rest (va_Qf post B A1 a) (vx_X px BX AX) free) (hS : va_S A0 H0 H locs) (hA : ∀ q, q < H.size → A1 q → A0 q) (hf : ∀ q, free q → A0 q) (hAX : ∀ q, q < H.size → AX q → A0 q)
    (kx : ∀ (E : String) (ce : Cell) (q9 : Addr) (u : SX) (t : State) (H1 : Heap) (locs1 : List Loc), t.heap = H1 → s.vm.Alike t.vm → px u → BX E u t → H.size ≤ H1.size → (∀ q : Nat, q < H.size → ¬ AX q → H1[q]? = H[q]?) → va_S A0 H0 H1 locs1 → H1[q9]? = some ce → ce.vm = .none → s.vm.findClass E = some ce.cls → vx_W p l e R s m args below meth c H1 locs1 (cells + mc) (slots + ms) Q (F0 m pc ls rest) q9)
    (kk : ∀ (r : UInt32) (u : S) (t : State) (H1 : Heap) (locs1 : List Loc), t.heap = H1 → s.vm.Alike t.vm → post r u → B u t → H.size ≤ H1.size → (∀ q : Nat, q < H.size → ¬ A1 q → H1[q]? = H[q]?) → va_S A0 H0 H1 locs1 → W p l e R s m args below meth c H1 locs1 (cells + mc) (slots + ms) Q (F0 m (pc + 3) ls (.float r :: rest))) : W p l e R s m args below meth c H locs cells slots Q (F0 m pc ls st0) := by
  intro T hT X
  rcases hr T hT X with ⟨v, st₀, t, T', L, h0, X', hL, e1, e2, ⟨⟨r, u, hv, hp, hb⟩, hF⟩, st⟩ | ⟨q, st₀, t, T', L, E, ce, h0, X', hL, e1, e2, ⟨u, hp, hb, hF⟩, hce, hcv, hcl, st⟩
  · cases hv
    obtain ⟨k1, k2, k3⟩ := vx_keep h0 e1 hS hA hf hL hF
    obtain ⟨t2, a1, b1⟩ := kk r u t T'.heap (locs ++ L) e1.symm (by rw [← e2]; exact X'.warmed.alike) hp hb k1 k2 k3 T' rfl X'
    exact ⟨t2, st t2 a1, b1⟩
  · obtain ⟨k1, k2, k3⟩ := vx_keep h0 e1 hS hAX hf hL hF
    obtain ⟨t2, a1, b1⟩ := kx E ce q u t T'.heap (locs ++ L) e1.symm (by rw [← e2]; exact X'.warmed.alike) hp hb k1 k2 k3 (by rw [e1]; exact hce) hcv hcl T' rfl X'
    exact ⟨t2, st.trans a1, b1⟩
theorem vx_calld {S SX : Type} {post : UInt64 → S → Prop} {px : SX → Prop} {B : S → State → Prop} {BX : String → SX → State → Prop} {AX : Nat → Prop} (hr : vx_Run p l e R s m args below meth c H locs cells slots mc ms (F0 m pc ls st0) rest (va_Qd post B A1 a) (vx_X px BX AX) free) (hS : va_S A0 H0 H locs) (hA : ∀ q, q < H.size → A1 q → A0 q) (hf : ∀ q, free q → A0 q) (hAX : ∀ q, q < H.size → AX q → A0 q)
    (kx : ∀ (E : String) (ce : Cell) (q9 : Addr) (u : SX) (t : State) (H1 : Heap) (locs1 : List Loc), t.heap = H1 → s.vm.Alike t.vm → px u → BX E u t → H.size ≤ H1.size → (∀ q : Nat, q < H.size → ¬ AX q → H1[q]? = H[q]?) → va_S A0 H0 H1 locs1 → H1[q9]? = some ce → ce.vm = .none → s.vm.findClass E = some ce.cls → vx_W p l e R s m args below meth c H1 locs1 (cells + mc) (slots + ms) Q (F0 m pc ls rest) q9)
    (kk : ∀ (r : UInt64) (u : S) (t : State) (H1 : Heap) (locs1 : List Loc), t.heap = H1 → s.vm.Alike t.vm → post r u → B u t → H.size ≤ H1.size → (∀ q : Nat, q < H.size → ¬ A1 q → H1[q]? = H[q]?) → va_S A0 H0 H1 locs1 → W p l e R s m args below meth c H1 locs1 (cells + mc) (slots + ms) Q (F0 m (pc + 3) ls (.double r :: rest))) : W p l e R s m args below meth c H locs cells slots Q (F0 m pc ls st0) := by
  intro T hT X
  rcases hr T hT X with ⟨v, st₀, t, T', L, h0, X', hL, e1, e2, ⟨⟨r, u, hv, hp, hb⟩, hF⟩, st⟩ | ⟨q, st₀, t, T', L, E, ce, h0, X', hL, e1, e2, ⟨u, hp, hb, hF⟩, hce, hcv, hcl, st⟩
  · cases hv
    obtain ⟨k1, k2, k3⟩ := vx_keep h0 e1 hS hA hf hL hF
    obtain ⟨t2, a1, b1⟩ := kk r u t T'.heap (locs ++ L) e1.symm (by rw [← e2]; exact X'.warmed.alike) hp hb k1 k2 k3 T' rfl X'
    exact ⟨t2, st t2 a1, b1⟩
  · obtain ⟨k1, k2, k3⟩ := vx_keep h0 e1 hS hAX hf hL hF
    obtain ⟨t2, a1, b1⟩ := kx E ce q u t T'.heap (locs ++ L) e1.symm (by rw [← e2]; exact X'.warmed.alike) hp hb k1 k2 k3 (by rw [e1]; exact hce) hcv hcl T' rfl X'
    exact ⟨t2, st.trans a1, b1⟩
theorem vx_callv {S SX : Type} {post : S → Prop} {px : SX → Prop} {B : S → State → Prop} {BX : String → SX → State → Prop} {AX : Nat → Prop} (hr : vx_Run p l e R s m args below meth c H locs cells slots mc ms (F0 m pc ls st0) rest (va_Qv post B A1 a) (vx_X px BX AX) free) (hS : va_S A0 H0 H locs) (hA : ∀ q, q < H.size → A1 q → A0 q) (hf : ∀ q, free q → A0 q) (hAX : ∀ q, q < H.size → AX q → A0 q)
    (kx : ∀ (E : String) (ce : Cell) (q9 : Addr) (u : SX) (t : State) (H1 : Heap) (locs1 : List Loc), t.heap = H1 → s.vm.Alike t.vm → px u → BX E u t → H.size ≤ H1.size → (∀ q : Nat, q < H.size → ¬ AX q → H1[q]? = H[q]?) → va_S A0 H0 H1 locs1 → H1[q9]? = some ce → ce.vm = .none → s.vm.findClass E = some ce.cls → vx_W p l e R s m args below meth c H1 locs1 (cells + mc) (slots + ms) Q (F0 m pc ls rest) q9)
    (kk : ∀ (u : S) (t : State) (H1 : Heap) (locs1 : List Loc), t.heap = H1 → s.vm.Alike t.vm → post u → B u t → H.size ≤ H1.size → (∀ q : Nat, q < H.size → ¬ A1 q → H1[q]? = H[q]?) → va_S A0 H0 H1 locs1 → W p l e R s m args below meth c H1 locs1 (cells + mc) (slots + ms) Q (F0 m (pc + 3) ls (rest))) : W p l e R s m args below meth c H locs cells slots Q (F0 m pc ls st0) := by
  intro T hT X
  rcases hr T hT X with ⟨v, st₀, t, T', L, h0, X', hL, e1, e2, ⟨⟨u, hv, hp, hb⟩, hF⟩, st⟩ | ⟨q, st₀, t, T', L, E, ce, h0, X', hL, e1, e2, ⟨u, hp, hb, hF⟩, hce, hcv, hcl, st⟩
  · cases hv
    obtain ⟨k1, k2, k3⟩ := vx_keep h0 e1 hS hA hf hL hF
    obtain ⟨t2, a1, b1⟩ := kk u t T'.heap (locs ++ L) e1.symm (by rw [← e2]; exact X'.warmed.alike) hp hb k1 k2 k3 T' rfl X'
    exact ⟨t2, st t2 a1, b1⟩
  · obtain ⟨k1, k2, k3⟩ := vx_keep h0 e1 hS hAX hf hL hF
    obtain ⟨t2, a1, b1⟩ := kx E ce q u t T'.heap (locs ++ L) e1.symm (by rw [← e2]; exact X'.warmed.alike) hp hb k1 k2 k3 (by rw [e1]; exact hce) hcv hcl T' rfl X'
    exact ⟨t2, st.trans a1, b1⟩
/-- caught by the row x of this method's table; the rows ahead don't take it -/
theorem vx_catch {own name : String} {E : String} {ce : Cell} {q : Addr} (hown : s.vm.findClass own = some m.cls) (pre : List ExceptionTableEntry) (x : ExceptionTableEntry) (suf : List ExceptionTableEntry) (hsplit : c.exceptionTable.toList = pre ++ x :: suf)
    (hpass : ∀ z ∈ pre, covers z pc = false ∨ (z.catchType ≠ 0 ∧ ∃ nm : String, (Cond.classLink own z.catchType nm).before args s = true ∧ va_Nc E nm s)) (hx : covers x pc = true) (h0 : x.catchType ≠ 0)
    (hlink : (Cond.classLink own x.catchType name).before args s = true) (hcast : (Cond.castable E name).before args s = true) (hcell : H[q]? = some ce) (hv : ce.vm = .none) (hcl : s.vm.findClass E = some ce.cls)
    (kk : W p l e R s m args below meth c H locs cells slots Q (F0 m x.handlerPc ls [.ref q])) : vx_W p l e R s m args below meth c H locs cells slots Q (F0 m pc ls rest) q := by
  intro T hT X
  have hpl : e.platform.magicAccessors = ({} : Platform).magicAccessors := by rw [X.admits.platform]
  obtain ⟨c3, c4, hc3, hc4, hasg⟩ := Cond.castable_spec hcast
  cases Option.some.inj (hc3.symm.trans hcl)
  obtain ⟨c5, hc5, hcl5⟩ := Cond.classLink_spec hown hlink e.platform hpl
  cases Option.some.inj (hc4.symm.trans hc5)
  obtain ⟨vm', X', st⟩ := X.thenCaughtThrough q (g := F0 m pc ls rest) rfl (Steps.refl _) (by rw [hT]; exact hcell) (by rw [hv]; rfl) (by obtain ⟨k9, h9, -⟩ := Vm.findClass_spec hcl; exact ⟨k9, h9⟩) pre x suf hsplit
    (fun z hz => by
      rcases hpass z hz with h | ⟨hz0, nm, hl1, hn1⟩
      · exact Or.inl h
      · obtain ⟨c6, hc6, hcl6⟩ := Cond.classLink_spec hown hl1 e.platform hpl
        obtain ⟨a8, b8, h1, h2, h3⟩ := hn1
        cases Option.some.inj (h1.symm.trans hcl)
        cases Option.some.inj (h2.symm.trans hc6)
        exact Or.inr ⟨hz0, _, hcl6, h3⟩) hx (Or.inr ⟨h0, c4, hcl5, hasg⟩)
  obtain ⟨t, a1, b1⟩ := kk (T.setVm vm') hT X'
  exact ⟨t, st.trans a1, b1⟩
end Rows
section Ends
variable {p : Program} {l : Launch} {e : Env} {R : Room} {s : State} {m : MethodId} {args : Array Value} {below : List Frame} {meth : Method} {c : Code} {H : Heap} {locs : List Loc} {cells slots : Nat} {Q : State → Prop}
variable {mc ms : Nat} {free : Addr → Prop} {A0 A1 : Nat → Prop} {H0 : Heap} {a : Array Value} {ls : Array Slot} {st0 rest : List Value}
variable {Qc : Array Value → State → Outcome → State → Prop} {XC : String → State → State → Prop}
/-- what a body that may throw owes at its end -/
def vx_MQ (below : List Frame) (Qc : Array Value → State → Outcome → State → Prop) (XC : String → State → State → Prop) (a : Array Value) (s : State) (mc ms : Nat) (free : Addr → Prop) : State → Prop := fun t =>
  ∃ o, t.status = .running ∧ Ended t below o ∧ vx_Q Qc XC mc ms free a s o t
theorem vx_ret {g : JFrame} {mc ms : Nat} (k : W p l e R s m args below meth c H locs cells slots (MQ below Qc args s mc ms free) g) : W p l e R s m args below meth c H locs cells slots (vx_MQ below Qc XC args s mc ms free) g := by
  intro T hT X
  obtain ⟨t, a1, o, b1, b2, b3, b4⟩ := k T hT X
  exact ⟨t, a1, o, b1, b2, Or.inl ⟨b3, b4⟩⟩
/-- not caught here: it goes on to the caller -/
theorem vx_widen {g : JFrame} {q : Addr} {k n : Nat} (h1 : cells ≤ k) (h2 : slots ≤ n) (kk : vx_W p l e R s m args below meth c H locs k n Q g q) : vx_W p l e R s m args below meth c H locs cells slots Q g q := fun T hT X => kk T hT (stand_widen X h1 h2)
theorem vx_out {pc : Nat} {E : String} {ce : Cell} {q : Addr} {mc ms : Nat} (hout : ∀ x ∈ c.exceptionTable.toList, covers x pc = false) (hlocks : meth.locks = false) (hcell : H[q]? = some ce) (hv : ce.vm = .none) (hcl : s.vm.findClass E = some ce.cls)
    (hx : ∀ t : State, t.heap = H → s.vm.Alike t.vm → XC E s t) (hf : ∀ z ∈ locs, free z.base) (hc : cells ≤ mc) (hs : slots ≤ ms) :
    vx_W p l e R s m args below meth c H locs cells slots (vx_MQ below Qc XC args s mc ms free) (F0 m pc ls rest) q := by
  intro T hT X
  obtain ⟨st1, hrun, hend, hW, hsm⟩ := X.leaveThrown q (g := F0 m pc ls rest) rfl rfl rfl hout hlocks
  have hcell9 : (T.setFrames (.throwing q :: below)).heap[q]? = some ce := by
    show T.heap[q]? = some ce
    rw [hT]; exact hcell
  exact ⟨_, st1, .threw q, hrun, hend, Or.inr ⟨q, rfl, E, ce, locs, hx _ hT hW.alike, hcell9, hv, hcl, hW, hsm.mono hc hs, hf⟩⟩
theorem vx_frame {U : State} {k n : Nat} (h : s.sameButNew ({ U with vm := s.vm } : State) locs k n) : s.heap.size ≤ U.heap.size ∧ ∀ q : Nat, q < s.heap.size → (∀ z ∈ locs, z.base ≠ q) → U.heap[q]? = s.heap[q]? := by
  obtain ⟨-, h2, -, -, -, h6⟩ := h
  refine ⟨h2, fun q hq hz => ?_⟩
  obtain ⟨c9, e1, e2, e3, e4⟩ := h6 q _ (Array.getElem?_eq_getElem hq)
  have hs : c9.slots = (s.heap[q]).slots := Array.ext_getElem? fun i => e4 i fun hm => hz _ hm rfl
  have h9 : c9 = s.heap[q] := by
    rw [hs] at e2
    exact e2
  have e5 : U.heap[q]? = some c9 := e1
  rw [e5, h9, Array.getElem?_eq_getElem hq]
/-- the words of a throw but the four that speak of the heap -/
def vx_no (w : Cond) : Bool := decide (w ≠ .isRef (.static Bundle.tN "UNASSIGNED_STACK" Bundle.steD)) && decide (w ≠ .isRef (.static Bundle.tN "SUPPRESSED_SENTINEL" Bundle.listD)) && decide (w ≠ .laysStatic Bundle.tN "UNASSIGNED_STACK" Bundle.steD) && decide (w ≠ .laysStatic Bundle.tN "SUPPRESSED_SENTINEL" Bundle.listD)
def vx_at0 (own : String) (ic : Nat) (X : String) (names : List String) : List Cond := (Bundle.ownAtoms0 own ic X names).filter vx_no
def vx_atS (own : String) (ic : Nat) (X : String) (names : List String) : List Cond := (Bundle.ownAtoms own ic X names).filter vx_no
/-- a word that the tables alone decide, or a good one -/
def vx_ot (w : Cond) : Bool := w.onTables || goodWord w
theorem vx_ot_at {args a' : Array Value} {s U : State} {w : Cond} (hW : s.WarmedH U.vm) (hvm : s.vm = U.vm) (hg : vx_ot w = true) (h : w.before args s = true) : w.before a' U = true := by
  simp only [vx_ot, Bool.or_eq_true] at hg
  rcases hg with hg | hg
  · exact va_tabs hg hvm h
  · exact word_at hW (good_of_word hg) h
/-- a list's words: the good ones out of the method's own list, the others by premises of their own -/
theorem vx_hat {args : Array Value} {s : State} {L B : List Cond} (h1 : ∀ w ∈ L.filter goodWord, w.before args s = true) (h2 : ∀ w ∈ L.filter (fun w => !goodWord w), w ∈ B) (h3 : ∀ w ∈ B, w.before args s = true) : ∀ w ∈ L, w.before args s = true := by
  intro w hw
  by_cases g : goodWord w = true
  · exact h1 w (List.mem_filter.mpr ⟨hw, g⟩)
  · refine h3 w (h2 w (List.mem_filter.mpr ⟨hw, ?_⟩))
    show (!goodWord w) = true
    cases hgw : goodWord w
    · rfl
    · exact absurd hgw g
theorem vx_c {args : Array Value} {s : State} {w : Cond} {B : List Cond} (h : w.before args s = true) (t : ∀ w ∈ B, w.before args s = true) : ∀ w' ∈ w :: B, w'.before args s = true := fun w' h' => (List.mem_cons.mp h').elim (fun e => by rw [e]; exact h) (t w')
theorem vx_n {args : Array Value} {s : State} : ∀ w ∈ ([] : List Cond), w.before args s = true := fun _ h => nomatch h
theorem vx_own {args : Array Value} {s : State} {L : List Cond} (h1 : ∀ w ∈ L.filter vx_no, w.before args s = true)
    (hU : (Cond.isRef (.static Bundle.tN "UNASSIGNED_STACK" Bundle.steD)).before args s = true) (hN : (Cond.isRef (.static Bundle.tN "SUPPRESSED_SENTINEL" Bundle.listD)).before args s = true)
    (lU : (Cond.laysStatic Bundle.tN "UNASSIGNED_STACK" Bundle.steD).before args s = true) (lN : (Cond.laysStatic Bundle.tN "SUPPRESSED_SENTINEL" Bundle.listD).before args s = true) : ∀ w ∈ L, w.before args s = true := by
  intro w hw
  by_cases e1 : w = .isRef (.static Bundle.tN "UNASSIGNED_STACK" Bundle.steD)
  · rw [e1]; exact hU
  · by_cases e2 : w = .isRef (.static Bundle.tN "SUPPRESSED_SENTINEL" Bundle.listD)
    · rw [e2]; exact hN
    · by_cases e3 : w = .laysStatic Bundle.tN "UNASSIGNED_STACK" Bundle.steD
      · rw [e3]; exact lU
      · by_cases e4 : w = .laysStatic Bundle.tN "SUPPRESSED_SENTINEL" Bundle.listD
        · rw [e4]; exact lN
        · exact h1 w (List.mem_filter.mpr ⟨hw, by unfold vx_no; rw [decide_eq_true e1, decide_eq_true e2, decide_eq_true e3, decide_eq_true e4]; rfl⟩)
/-- where a static field lies, its class's statics cell in H -/
def vx_L (C n d : String) (A : Nat → Prop) (U : State) (H : Heap) : Prop := ∃ (c : ClassId) (k : Class) (i : Nat) (f : Field) (a : Nat) (cell : Cell), U.vm.findClass C = some c ∧ U.fieldFound? C n d = some (c, k, i, f) ∧ f.isStatic = true ∧ k.statics = some a ∧ H[a]? = some cell ∧ cell.vm.isStatics = true ∧ cell.cls = c ∧ f.slot < cell.slots.size ∧ k.staticTypes[f.slot]? = some f.type ∧ ¬ A a
theorem vx_L.moved {C n d : String} {A : Nat → Prop} {u U : State} {H : Heap} (hvm : u.vm.Alike U.vm) (h : vx_L C n d A u H) : vx_L C n d A U H := by
  obtain ⟨c, k, i, f, a, cell, h1, h2, h3, h4, h5, h6, h7, h8, h9, h10⟩ := h
  obtain ⟨k', hi', he⟩ := State.fieldFound?_setVm hvm h2
  exact ⟨c, k', i, f, a, cell, by rw [hvm.findClass]; exact h1, hi', h3, by rw [he]; exact h4, h5, h6, h7, h8, by rw [he]; exact h9, h10⟩
theorem vx_L.kept {C n d : String} {A : Nat → Prop} {U : State} {H H1 : Heap} (h : vx_L C n d A U H) (hq : ∀ a : Nat, a < H.size → ¬ A a → H1[a]? = H[a]?) : vx_L C n d A U H1 := by
  obtain ⟨c, k, i, f, a, cell, h1, h2, h3, h4, h5, h6, h7, h8, h9, h10⟩ := h
  exact ⟨c, k, i, f, a, cell, h1, h2, h3, h4, by rw [hq a (Array.getElem?_eq_some_iff.mp h5).1 h10]; exact h5, h6, h7, h8, h9, h10⟩
theorem vx_L.narrow {C n d : String} {A B : Nat → Prop} {U : State} {H : Heap} (h : vx_L C n d A U H) (hAB : ∀ q, B q → A q) : vx_L C n d B U H := by
  obtain ⟨c, k, i, f, a, cell, h1, h2, h3, h4, h5, h6, h7, h8, h9, h10⟩ := h
  exact ⟨c, k, i, f, a, cell, h1, h2, h3, h4, h5, h6, h7, h8, h9, fun z => h10 (hAB _ z)⟩
theorem vx_L.word {C n d : String} {A : Nat → Prop} {s : State} {args : Array Value} (h : vx_L C n d A s s.heap) : (Cond.laysStatic C n d).before args s = true := by
  obtain ⟨c, k, i, f, a, cell, h1, h2, h3, h4, h5, h6, h7, h8, h9, -⟩ := h
  show (Cond.laysStatic C n d).holds args s none s [] = true
  exact Cond.laysStatic_of h1 h2 h3 h4 h5 h6 h7 h8 h9
/-- .. and what it holds: null or some reference -/
def vx_Zq (C n d : String) (A : Nat → Prop) (U : State) (H : Heap) : Prop := va_Zq C n d A U H ∧ vx_L C n d A U H
theorem vx_Zq.moved {C n d : String} {A : Nat → Prop} {u U : State} {H : Heap} (hvm : u.vm.Alike U.vm) (h : vx_Zq C n d A u H) : vx_Zq C n d A U H := ⟨va_Zq.moved hvm h.1, vx_L.moved hvm h.2⟩
theorem vx_Zq.kept {C n d : String} {A : Nat → Prop} {U : State} {H H1 : Heap} (h : vx_Zq C n d A U H) (hq : ∀ a : Nat, a < H.size → ¬ A a → H1[a]? = H[a]?) : vx_Zq C n d A U H1 := ⟨va_Zq.kept h.1 hq, vx_L.kept h.2 hq⟩
theorem vx_Zq.narrow {C n d : String} {A B : Nat → Prop} {U : State} {H : Heap} (h : vx_Zq C n d A U H) (hAB : ∀ q, B q → A q) : vx_Zq C n d B U H := ⟨va_Zq.narrow h.1 hAB, vx_L.narrow h.2 hAB⟩
theorem vx_Zqof {args : Array Value} {s : State} {C n d : String} {A : Nat → Prop} (hl : (Cond.laysStatic C n d).before args s = true) (hini : (Cond.initialized C).before args s = true) (h : (Cond.isRef (.static C n d)).before args s = true) (hA : ∀ a : Nat, a < s.heap.size → ¬ A a) : vx_Zq C n d A s s.heap := by
  refine ⟨va_Zqof hl hini h hA, ?_⟩
  obtain ⟨c, k, i, f, a, cell, h1, h2, h3, h4, h5, h6, h7, h8, h9⟩ := Cond.laysStatic_spec hl
  exact ⟨c, k, i, f, a, cell, h1, h2, h3, h4, h5, h6, h7, h8, h9, hA a (Array.getElem?_eq_some_iff.mp h5).1⟩
theorem vx_isRef {C n d : String} {v : Value} {A : Nat → Prop} {s : State} {args : Array Value} (h : va_Z C n d v A s s.heap) (hv : v.isRef = true) : (Cond.isRef (.static C n d)).before args s = true := by
  obtain ⟨cf, kf, fi, f, a, cell, h1, h2, h3, h4, h5, h6, h7, -⟩ := h
  have he : (Term.static C n d).eval args s none [] s = some v := by
    simp [Term.eval, State.fieldNamed?, h1, h2, h4, h5, h6, h7]
  simp only [Cond.before, Cond.holds, Cond.value, he]
  cases v <;> simp_all [Value.isRef]
theorem vx_isRefq {C n d : String} {A : Nat → Prop} {s : State} {args : Array Value} (h : va_Zq C n d A s s.heap) : (Cond.isRef (.static C n d)).before args s = true := by
  rcases h with h | ⟨t, h⟩
  · exact vx_isRef h rfl
  · exact vx_isRef h rfl
/-- the same frame, seen from here: as if the method were called anew in this heap -/
theorem vx_rebase {T : State} (X : Stand p l e R s m args below meth c T locs cells slots) {R' : Room} (hf : R'.frames ≤ R.frames) (hl : R'.locals ≤ R.locals) (hc : cells + R'.cells ≤ R.cells) (hs : slots + R'.slots ≤ R.slots) :
    Stand p l e R' ((T.setVm s.vm).setFrames (.invoking m args :: below)) m args below meth c T [] 0 0 := by
  have htop : (T.setVm s.vm).topJava?.isSome := X.here.top
  have hF : ((T.setVm s.vm).setFrames (.invoking m args :: below)).frames = .invoking m args :: below := State.frames_setFrames _ (State.cur_lt_of_top htop)
  obtain ⟨g₀, hg0⟩ := Option.isSome_iff_exists.mp htop
  obtain ⟨r, hr⟩ := State.topJava?_eq_some.mp hg0
  have hl9 : e.platform.stackLimits (T.setVm s.vm).me = e.platform.stackLimits s.me := X.limits
  have hb9 : (T.setVm s.vm).me.stackBytes = s.me.stackBytes := X.bytes
  refine ⟨X.admits, X.cas, X.clock, hF, ?_, X.hears, X.method, X.code, X.here, X.tail, X.warmed, ?_, ?_, ?_⟩
  · have h := X.room
    have hU : ((T.setVm s.vm).setFrames (.invoking m args :: below)).localsInUse = s.localsInUse := by
      rw [State.localsInUse_invoking hF (meth := meth) (c := c) X.method X.code, State.localsInUse_invoking X.frames X.method X.code]
    simp only [State.hasRoom, Bool.and_eq_true, decide_eq_true_eq] at h ⊢
    obtain ⟨⟨⟨⟨h1, h2, h3, h4, h5, h6⟩, h7⟩, h8⟩, h9⟩ := h
    rw [X.frames, List.length_cons] at h2 h3
    have q1 := X.heapSize
    have q2 := X.used
    simp only [hF, hU, List.length_cons, State.stackLimits_setFrames, State.stackBytes_setFrames, hl9, hb9]
    refine ⟨⟨⟨⟨by omega, by omega, by omega, by omega, by omega, h6⟩, ?_⟩, ?_⟩, X.book⟩
    · show T.heap.size + R'.cells ≤ e.platform.maxCells
      omega
    · show T.slotsUsed + R'.slots ≤ e.platform.maxSlots
      omega
  · rw [State.stackLimits_setFrames]; rfl
  · rw [State.stackBytes_setFrames]; rfl
  · refine ⟨?_, Nat.le_refl _, Nat.le_refl _, ?_, ?_, fun a c9 h9 => ⟨c9, h9, rfl, rfl, fun _ _ => rfl⟩⟩
    · obtain ⟨t, ht, -⟩ := State.frames_cons hr
      show T.setVm s.vm = { ((T.setVm s.vm).setFrames (.invoking m args :: below)).setFrames (T.setVm s.vm).frames with heap := T.heap, slotsUsed := T.slotsUsed }
      rw [State.setFrames_setFrames, State.setFrames_self ht]
      rfl
    · show T.slotsUsed = T.slotsUsed + ((T.heap.toList.drop T.heap.size).map (·.slots.size)).sum
      rw [List.drop_eq_nil_of_le (Nat.le_of_eq Array.length_toList)]
      rfl
    · show ((T.heap.toList.drop T.heap.size).map (·.slots.size)).sum ≤ 0
      rw [List.drop_eq_nil_of_le (Nat.le_of_eq Array.length_toList)]
      exact Nat.le_refl _
/-- 'throw new E()': new; dup; invokespecial; athrow -/
theorem vx_throw0 {cc : ByteArray} {pc : Nat} (hexec : p.tables.exec = Jvm.exec) (hb : c.code = cc) (hl : l.stackTraces = false) {own cls : String} {names : List String} {ik ic mc ms : Nat} {A : Nat → Prop}
    (hown : s.vm.findClass own = some m.cls) (hcls : Bundle.fit cls = true) (hnames : ∀ n ∈ names, Bundle.fit n = true)
    (hk : (Cond.classLink own ik cls).before args s = true) (hini : (Cond.initialized cls).before args s = true) (hat : ∀ w ∈ vx_at0 own ic cls names, w.before args s = true)
    (hgood : ∀ w ∈ Cond.classLink own ik cls :: Cond.initialized cls :: vx_at0 own ic cls names, vx_ot w = true)
    (hU : vx_Zq Bundle.tN "UNASSIGNED_STACK" Bundle.steD A s s.heap) (hN : vx_Zq Bundle.tN "SUPPRESSED_SENTINEL" Bundle.listD A s s.heap) (hS : va_S A s.heap H locs) (hsize : ls.size = c.maxLocals)
    (d0 : decode cc pc = .ok (.new ik, 3)) (d3 : decode cc (pc + 3) = .ok (.dup, 1)) (d4 : decode cc (pc + 4) = .ok (.invokespecial ic, 3)) (d7 : decode cc (pc + 7) = .ok (.athrow, 1))
    (hout : ∀ x ∈ c.exceptionTable.toList, covers x (pc + 7) = false)
    (hRframes : names.length + 3 < R.frames) (hRlocals : (rest.map fun v => v.category).sum + (13 * (names.length + 1) + 42) ≤ R.locals) (hRcells : cells + 1 ≤ R.cells) (hRslots : slots + 6 ≤ R.slots) (hlocks : meth.locks = false)
    (hx : ∀ t : State, s.vm.Alike t.vm → H.size ≤ t.heap.size → (∀ q : Nat, q < H.size → t.heap[q]? = H[q]?) → XC cls s t)
    (hf : ∀ z ∈ locs, free z.base) (hc : cells + 1 ≤ mc) (hs : slots + 6 ≤ ms) :
    W p l e R s m args below meth c H locs cells slots (vx_MQ below Qc XC args s mc ms free) (F0 m pc ls rest) := by
  intro T hT X
  have htr : e.platform.stackTraces = false := (show e.platform.stackTraces = l.stackTraces by rw [X.admits.platform]).trans hl
  have Y := vx_rebase X (R' := { frames := R.frames, locals := R.locals, cells := 1, slots := 6 }) (Nat.le_refl _) (Nat.le_refl _) hRcells hRslots
  obtain ⟨s', hA⟩ : ∃ z, z = (T.setVm s.vm).setFrames (.invoking m args :: below) := ⟨_, rfl⟩
  rw [← hA] at Y
  have hvm : s'.vm = s.vm := by rw [hA]; rfl
  have hhp : s'.heap = H := by rw [hA]; exact hT
  have hW0 : s.WarmedH s'.vm := by rw [hvm]; exact State.WarmedH.refl s
  have hat' : ∀ w ∈ vx_at0 own ic cls names, w.before args s' = true := fun w hw => vx_ot_at hW0 hvm.symm (hgood w (List.mem_cons_of_mem _ (List.mem_cons_of_mem _ hw))) (hat w hw)
  have hk' : (Cond.classLink own ik cls).before args s' = true := vx_ot_at hW0 hvm.symm (hgood _ List.mem_cons_self) hk
  have hini' : (Cond.initialized cls).before args s' = true := vx_ot_at hW0 hvm.symm (hgood _ (List.mem_cons_of_mem _ List.mem_cons_self)) hini
  have hU' : vx_Zq Bundle.tN "UNASSIGNED_STACK" Bundle.steD A s' s'.heap := by rw [hhp]; exact vx_Zq.moved hW0.alike (hU.kept hS.2.1)
  have hN' : vx_Zq Bundle.tN "SUPPRESSED_SENTINEL" Bundle.listD A s' s'.heap := by rw [hhp]; exact vx_Zq.moved hW0.alike (hN.kept hS.2.1)
  have h : ∀ w ∈ Bundle.ownAtoms0 own ic cls names, w.before args s' = true := vx_own hat' (vx_isRefq hU'.1) (vx_isRefq hN'.1) hU'.2.word hN'.2.word
  have hown' : s'.vm.findClass own = some m.cls := by rw [hvm]; exact hown
  have hins : (Cond.instantiable cls 6).before args s' = true := h _ (by simp [Bundle.ownAtoms0])
  obtain ⟨vm₁, cX, kX, hfX, hkX, -, -, X₁, st1⟩ := Y.newCold hexec (own := own) (C := cls) (index := ik) (n := 6) hown' hk' hins hini'
    (g := F0 m pc ls rest) rfl (by rw [hb]; exact d0) (Nat.le_refl _) (Nat.le_refl _)
  generalize hT1 : (T.setVm vm₁).pushCell { cls := cX, slots := kX.instanceTypes.map defaultValue, vm := .none } = T1 at X₁ st1
  have hcat : (Value.ref T.heap.size).category = 1 := rfl
  have hcellA : T1.heap[T.heap.size]? = some (freshCell cX kX) := by rw [← hT1]; exact State.heap_pushCell_size _ _
  have d3' : decode c.code (pc + 3) = .ok (.dup, 1) := by rw [hb]; exact d3
  obtain ⟨U, hsteps, hrun, hend, hW, hsame, ce, hce, hO⟩ := X₁.ctorThrow0 hexec htr (own := own) (cls := cls) (names := names) (ic := ic) hown' hcls hnames h (fun x hx => nomatch hx) hfX hkX hcellA (by rw [hhp, hT]; exact Nat.le_refl _)
    (g := { method := m, pc := pc + 4, locals := ls, stack := .ref T.heap.size :: .ref T.heap.size :: rest, locked := none }) rfl hsize rfl rfl (rest := rest) rfl
    (by rw [hb]; exact d4) (by rw [hb]; exact d7) hout hRframes (by simp only [List.map_cons, List.sum_cons, hcat]; omega) hlocks
  obtain ⟨f1, f2⟩ := vx_frame hsame
  rw [hhp] at f1 f2
  have hWs : s.WarmedH U.vm := State.WarmedH.trans hW0 hW
  have hcl : s.vm.findClass cls = some ce.cls := by
    have h9 := hO.cls
    rw [hvm] at h9
    exact h9
  have hall : s.sameButNew ({ U with vm := s.vm } : State) locs mc ms := by
    subst hA
    obtain ⟨e1, e2⟩ := hsame
    rw [State.setFrames_setFrames] at e1
    have h2 : (T.setVm s.vm).sameButNew ({ U with vm := s.vm } : State) [] (0 + 1) (0 + 6) := ⟨e1, e2⟩
    have h3 := X.same.trans h2
    rw [List.append_nil] at h3
    exact h3.mono hc hs
  refine ⟨U, ?_, .threw T.heap.size, hrun, hend, Or.inr ⟨T.heap.size, rfl, cls, ce, locs, hx U hWs.alike f1 (fun q hq => f2 q hq (fun z hz => nomatch hz)), hce, hO.vm, hcl, hWs, hall, hf⟩⟩
  refine st1 _ ?_
  show Steps p.tables e below (T1.setTop { method := m, pc := pc + 3, locals := ls, stack := .ref T.heap.size :: rest, locked := none }) _
  jvm_step X₁.here [X₁.here.top, hexec, d3', Value.category]
  exact hsteps
/-- 'throw new E("text")': new; dup; ldc; invokespecial; athrow -/
theorem vx_throwS {cc : ByteArray} {pc : Nat} (hexec : p.tables.exec = Jvm.exec) (hb : c.code = cc) (hl : l.stackTraces = false) {own cls text : String} {names : List String} {ik is ic mc ms sa : Nat} {A : Nat → Prop}
    (hown : s.vm.findClass own = some m.cls) (hcls : Bundle.fit cls = true) (hnames : ∀ n ∈ names, Bundle.fit n = true)
    (hk : (Cond.classLink own ik cls).before args s = true) (hini : (Cond.initialized cls).before args s = true) (hstr : vk_R own is text sa s) (hat : ∀ w ∈ vx_atS own ic cls names, w.before args s = true)
    (hgood : ∀ w ∈ Cond.classLink own ik cls :: Cond.initialized cls :: vx_atS own ic cls names, vx_ot w = true)
    (hU : vx_Zq Bundle.tN "UNASSIGNED_STACK" Bundle.steD A s s.heap) (hN : vx_Zq Bundle.tN "SUPPRESSED_SENTINEL" Bundle.listD A s s.heap) (hS : va_S A s.heap H locs) (hsize : ls.size = c.maxLocals)
    (d0 : decode cc pc = .ok (.new ik, 3)) (d3 : decode cc (pc + 3) = .ok (.dup, 1)) (d4 : decode cc (pc + 4) = .ok (.ldc is, 2)) (d6 : decode cc (pc + 6) = .ok (.invokespecial ic, 3)) (d9 : decode cc (pc + 9) = .ok (.athrow, 1))
    (hout : ∀ x ∈ c.exceptionTable.toList, covers x (pc + 9) = false)
    (hRframes : names.length + 3 < R.frames) (hRlocals : (rest.map fun v => v.category).sum + (13 * (names.length + 1) + 43) ≤ R.locals) (hRcells : cells + 1 ≤ R.cells) (hRslots : slots + 6 ≤ R.slots) (hlocks : meth.locks = false)
    (hx : ∀ t : State, s.vm.Alike t.vm → H.size ≤ t.heap.size → (∀ q : Nat, q < H.size → t.heap[q]? = H[q]?) → XC cls s t)
    (hf : ∀ z ∈ locs, free z.base) (hc : cells + 1 ≤ mc) (hs : slots + 6 ≤ ms) :
    W p l e R s m args below meth c H locs cells slots (vx_MQ below Qc XC args s mc ms free) (F0 m pc ls rest) := by
  intro T hT X
  have htr : e.platform.stackTraces = false := (show e.platform.stackTraces = l.stackTraces by rw [X.admits.platform]).trans hl
  have Y := vx_rebase X (R' := { frames := R.frames, locals := R.locals, cells := 1, slots := 6 }) (Nat.le_refl _) (Nat.le_refl _) hRcells hRslots
  obtain ⟨s', hA⟩ : ∃ z, z = (T.setVm s.vm).setFrames (.invoking m args :: below) := ⟨_, rfl⟩
  rw [← hA] at Y
  have hvm : s'.vm = s.vm := by rw [hA]; rfl
  have hhp : s'.heap = H := by rw [hA]; exact hT
  have hW0 : s.WarmedH s'.vm := by rw [hvm]; exact State.WarmedH.refl s
  have hat' : ∀ w ∈ vx_atS own ic cls names, w.before args s' = true := fun w hw => vx_ot_at hW0 hvm.symm (hgood w (List.mem_cons_of_mem _ (List.mem_cons_of_mem _ hw))) (hat w hw)
  have hk' : (Cond.classLink own ik cls).before args s' = true := vx_ot_at hW0 hvm.symm (hgood _ List.mem_cons_self) hk
  have hini' : (Cond.initialized cls).before args s' = true := vx_ot_at hW0 hvm.symm (hgood _ (List.mem_cons_of_mem _ List.mem_cons_self)) hini
  have hU' : vx_Zq Bundle.tN "UNASSIGNED_STACK" Bundle.steD A s' s'.heap := by rw [hhp]; exact vx_Zq.moved hW0.alike (hU.kept hS.2.1)
  have hN' : vx_Zq Bundle.tN "SUPPRESSED_SENTINEL" Bundle.listD A s' s'.heap := by rw [hhp]; exact vx_Zq.moved hW0.alike (hN.kept hS.2.1)
  have h : ∀ w ∈ Bundle.ownAtoms own ic cls names, w.before args s' = true := vx_own hat' (vx_isRefq hU'.1) (vx_isRefq hN'.1) hU'.2.word hN'.2.word
  have hown' : s'.vm.findClass own = some m.cls := by rw [hvm]; exact hown
  have hins : (Cond.instantiable cls 6).before args s' = true := h _ (by simp [Bundle.ownAtoms])
  obtain ⟨vm₁, cX, kX, hfX, hkX, -, -, X₁, st1⟩ := Y.newCold hexec (own := own) (C := cls) (index := ik) (n := 6) hown' hk' hins hini'
    (g := F0 m pc ls rest) rfl (by rw [hb]; exact d0) (Nat.le_refl _) (Nat.le_refl _)
  generalize hT1 : (T.setVm vm₁).pushCell { cls := cX, slots := kX.instanceTypes.map defaultValue, vm := .none } = T1 at X₁ st1
  have hcat : (Value.ref T.heap.size).category = 1 := rfl
  have hcellA : T1.heap[T.heap.size]? = some (freshCell cX kX) := by rw [← hT1]; exact State.heap_pushCell_size _ _
  have d3' : decode c.code (pc + 3) = .ok (.dup, 1) := by rw [hb]; exact d3
  have d4' : decode c.code (pc + 4) = .ok (.ldc is, 2) := by rw [hb]; exact d4
  have hstr' : vk_R own is text sa s' := vk_R.warm hW0 hstr
  obtain ⟨U, hsteps, hrun, hend, hW, hsame, ce, hce, hO⟩ := X₁.ctorThrowS hexec htr (own := own) (cls := cls) (names := names) (ic := ic) hown' hcls hnames h (fun x hx => nomatch hx) hfX hkX hcellA (by rw [hhp, hT]; exact Nat.le_refl _) (msg := .ref sa) rfl
    (g := { method := m, pc := pc + 6, locals := ls, stack := .ref sa :: .ref T.heap.size :: .ref T.heap.size :: rest, locked := none }) rfl hsize rfl rfl (rest := rest) rfl
    (by rw [hb]; exact d6) (by rw [hb]; exact d9) hout hRframes (by simp only [List.map_cons, List.sum_cons, hcat]; omega) hlocks
  obtain ⟨f1, f2⟩ := vx_frame hsame
  rw [hhp] at f1 f2
  have hWs : s.WarmedH U.vm := State.WarmedH.trans hW0 hW
  have hcl : s.vm.findClass cls = some ce.cls := by
    have h9 := hO.cls
    rw [hvm] at h9
    exact h9
  have hall : s.sameButNew ({ U with vm := s.vm } : State) locs mc ms := by
    subst hA
    obtain ⟨e1, e2⟩ := hsame
    rw [State.setFrames_setFrames] at e1
    have h2 : (T.setVm s.vm).sameButNew ({ U with vm := s.vm } : State) [] (0 + 1) (0 + 6) := ⟨e1, e2⟩
    have h3 := X.same.trans h2
    rw [List.append_nil] at h3
    exact h3.mono hc hs
  refine ⟨U, ?_, .threw T.heap.size, hrun, hend, Or.inr ⟨T.heap.size, rfl, cls, ce, locs, hx U hWs.alike f1 (fun q hq => f2 q hq (fun z hz => nomatch hz)), hce, hO.vm, hcl, hWs, hall, hf⟩⟩
  refine st1 _ ?_
  show Steps p.tables e below (T1.setTop { method := m, pc := pc + 3, locals := ls, stack := .ref T.heap.size :: rest, locked := none }) _
  jvm_step X₁.here [X₁.here.top, hexec, d3', Value.category]
  exact X₁.ldcString hexec (own := own) (text := text) (index := is) (a := sa) hown' hstr'.1 hstr'.2
    (g := { method := m, pc := pc + 4, locals := ls, stack := .ref T.heap.size :: .ref T.heap.size :: rest, locked := none }) rfl d4' _ hsteps
/-- 'throw new E("text")', the text by a wide index -/
theorem vx_throwSW {cc : ByteArray} {pc : Nat} (hexec : p.tables.exec = Jvm.exec) (hb : c.code = cc) (hl : l.stackTraces = false) {own cls text : String} {names : List String} {ik is ic mc ms sa : Nat} {A : Nat → Prop}
    (hown : s.vm.findClass own = some m.cls) (hcls : Bundle.fit cls = true) (hnames : ∀ n ∈ names, Bundle.fit n = true)
    (hk : (Cond.classLink own ik cls).before args s = true) (hini : (Cond.initialized cls).before args s = true) (hstr : vk_R own is text sa s) (hat : ∀ w ∈ vx_atS own ic cls names, w.before args s = true)
    (hgood : ∀ w ∈ Cond.classLink own ik cls :: Cond.initialized cls :: vx_atS own ic cls names, vx_ot w = true)
    (hU : vx_Zq Bundle.tN "UNASSIGNED_STACK" Bundle.steD A s s.heap) (hN : vx_Zq Bundle.tN "SUPPRESSED_SENTINEL" Bundle.listD A s s.heap) (hS : va_S A s.heap H locs) (hsize : ls.size = c.maxLocals)
    (d0 : decode cc pc = .ok (.new ik, 3)) (d3 : decode cc (pc + 3) = .ok (.dup, 1)) (d4 : decode cc (pc + 4) = .ok (.ldc_w is, 3)) (d7 : decode cc (pc + 7) = .ok (.invokespecial ic, 3)) (d10 : decode cc (pc + 10) = .ok (.athrow, 1))
    (hout : ∀ x ∈ c.exceptionTable.toList, covers x (pc + 10) = false)
    (hRframes : names.length + 3 < R.frames) (hRlocals : (rest.map fun v => v.category).sum + (13 * (names.length + 1) + 43) ≤ R.locals) (hRcells : cells + 1 ≤ R.cells) (hRslots : slots + 6 ≤ R.slots) (hlocks : meth.locks = false)
    (hx : ∀ t : State, s.vm.Alike t.vm → H.size ≤ t.heap.size → (∀ q : Nat, q < H.size → t.heap[q]? = H[q]?) → XC cls s t)
    (hf : ∀ z ∈ locs, free z.base) (hc : cells + 1 ≤ mc) (hs : slots + 6 ≤ ms) :
    W p l e R s m args below meth c H locs cells slots (vx_MQ below Qc XC args s mc ms free) (F0 m pc ls rest) := by
  intro T hT X
  have htr : e.platform.stackTraces = false := (show e.platform.stackTraces = l.stackTraces by rw [X.admits.platform]).trans hl
  have Y := vx_rebase X (R' := { frames := R.frames, locals := R.locals, cells := 1, slots := 6 }) (Nat.le_refl _) (Nat.le_refl _) hRcells hRslots
  obtain ⟨s', hA⟩ : ∃ z, z = (T.setVm s.vm).setFrames (.invoking m args :: below) := ⟨_, rfl⟩
  rw [← hA] at Y
  have hvm : s'.vm = s.vm := by rw [hA]; rfl
  have hhp : s'.heap = H := by rw [hA]; exact hT
  have hW0 : s.WarmedH s'.vm := by rw [hvm]; exact State.WarmedH.refl s
  have hat' : ∀ w ∈ vx_atS own ic cls names, w.before args s' = true := fun w hw => vx_ot_at hW0 hvm.symm (hgood w (List.mem_cons_of_mem _ (List.mem_cons_of_mem _ hw))) (hat w hw)
  have hk' : (Cond.classLink own ik cls).before args s' = true := vx_ot_at hW0 hvm.symm (hgood _ List.mem_cons_self) hk
  have hini' : (Cond.initialized cls).before args s' = true := vx_ot_at hW0 hvm.symm (hgood _ (List.mem_cons_of_mem _ List.mem_cons_self)) hini
  have hU' : vx_Zq Bundle.tN "UNASSIGNED_STACK" Bundle.steD A s' s'.heap := by rw [hhp]; exact vx_Zq.moved hW0.alike (hU.kept hS.2.1)
  have hN' : vx_Zq Bundle.tN "SUPPRESSED_SENTINEL" Bundle.listD A s' s'.heap := by rw [hhp]; exact vx_Zq.moved hW0.alike (hN.kept hS.2.1)
  have h : ∀ w ∈ Bundle.ownAtoms own ic cls names, w.before args s' = true := vx_own hat' (vx_isRefq hU'.1) (vx_isRefq hN'.1) hU'.2.word hN'.2.word
  have hown' : s'.vm.findClass own = some m.cls := by rw [hvm]; exact hown
  have hins : (Cond.instantiable cls 6).before args s' = true := h _ (by simp [Bundle.ownAtoms])
  obtain ⟨vm₁, cX, kX, hfX, hkX, -, -, X₁, st1⟩ := Y.newCold hexec (own := own) (C := cls) (index := ik) (n := 6) hown' hk' hins hini'
    (g := F0 m pc ls rest) rfl (by rw [hb]; exact d0) (Nat.le_refl _) (Nat.le_refl _)
  generalize hT1 : (T.setVm vm₁).pushCell { cls := cX, slots := kX.instanceTypes.map defaultValue, vm := .none } = T1 at X₁ st1
  have hcat : (Value.ref T.heap.size).category = 1 := rfl
  have hcellA : T1.heap[T.heap.size]? = some (freshCell cX kX) := by rw [← hT1]; exact State.heap_pushCell_size _ _
  have d3' : decode c.code (pc + 3) = .ok (.dup, 1) := by rw [hb]; exact d3
  have d4' : decode c.code (pc + 4) = .ok (.ldc_w is, 3) := by rw [hb]; exact d4
  have hstr' : vk_R own is text sa s' := vk_R.warm hW0 hstr
  obtain ⟨U, hsteps, hrun, hend, hW, hsame, ce, hce, hO⟩ := X₁.ctorThrowS hexec htr (own := own) (cls := cls) (names := names) (ic := ic) hown' hcls hnames h (fun x hx => nomatch hx) hfX hkX hcellA (by rw [hhp, hT]; exact Nat.le_refl _) (msg := .ref sa) rfl
    (g := { method := m, pc := pc + 7, locals := ls, stack := .ref sa :: .ref T.heap.size :: .ref T.heap.size :: rest, locked := none }) rfl hsize rfl rfl (rest := rest) rfl
    (by rw [hb]; exact d7) (by rw [hb]; exact d10) hout hRframes (by simp only [List.map_cons, List.sum_cons, hcat]; omega) hlocks
  obtain ⟨f1, f2⟩ := vx_frame hsame
  rw [hhp] at f1 f2
  have hWs : s.WarmedH U.vm := State.WarmedH.trans hW0 hW
  have hcl : s.vm.findClass cls = some ce.cls := by
    have h9 := hO.cls
    rw [hvm] at h9
    exact h9
  have hall : s.sameButNew ({ U with vm := s.vm } : State) locs mc ms := by
    subst hA
    obtain ⟨e1, e2⟩ := hsame
    rw [State.setFrames_setFrames] at e1
    have h2 : (T.setVm s.vm).sameButNew ({ U with vm := s.vm } : State) [] (0 + 1) (0 + 6) := ⟨e1, e2⟩
    have h3 := X.same.trans h2
    rw [List.append_nil] at h3
    exact h3.mono hc hs
  refine ⟨U, ?_, .threw T.heap.size, hrun, hend, Or.inr ⟨T.heap.size, rfl, cls, ce, locs, hx U hWs.alike f1 (fun q hq => f2 q hq (fun z hz => nomatch hz)), hce, hO.vm, hcl, hWs, hall, hf⟩⟩
  refine st1 _ ?_
  show Steps p.tables e below (T1.setTop { method := m, pc := pc + 3, locals := ls, stack := .ref T.heap.size :: rest, locked := none }) _
  jvm_step X₁.here [X₁.here.top, hexec, d3', Value.category]
  exact X₁.ldcStringW hexec (own := own) (text := text) (index := is) (a := sa) hown' hstr'.1 hstr'.2
    (g := { method := m, pc := pc + 4, locals := ls, stack := .ref T.heap.size :: .ref T.heap.size :: rest, locked := none }) rfl d4' _ hsteps
end Ends
section Bodies
variable {l : Launch}
theorem vx_ofW {y : MethodName} {ws ws' : List Cond} {rm : Room} {Pc : Array Value → State → Prop} {Qc : Array Value → State → Outcome → State → Prop} {XC : String → State → State → Prop} {mc ms : Nat} {free : Addr → Prop} {cc : ByteArray} {maxL : Nat} {ret : Option FieldType}
    (hy : plainName y.cls = true) (hw : ws = Cond.code y cc maxL ret :: ws')
    (body : ∀ p e s m args below meth c s₁, BodyLoose p l y (headSpec ws rm) cc maxL ret e s m args below meth c s₁ → c.maxLocals = maxL → (∀ x ∈ c.exceptionTable.toList, False) → Pc args s →
      W p l e (headSpec ws rm).room s m args below meth c s.heap [] 0 0 (vx_MQ below Qc XC args s mc ms free) (entryFrame m args maxL)) : vx_Met l y ws rm Pc Qc XC mc ms free := by
  refine MetFree.of_bodyS (code := cc) (maxLocals := maxL) (ret := ret) hy ?_ ?_
  · intro args s m h hn
    obtain ⟨meth, c, h1, h2, h3, h4, h5, h6, -, -⟩ := Cond.code_spec hn (atoms_spec (ws := ws) h _ (by rw [hw]; exact List.mem_cons_self))
    exact ⟨meth, c, h1, h2, h3, h4, h5, h6⟩
  · intro p e s m args below meth c s₁ B hml hP _
    have hh0 : s₁.heap = s.heap := by rw [B.state]; rfl
    have ht : ∀ x ∈ c.exceptionTable.toList, False := by
      obtain ⟨meth9, c9, h1, h2, -, -, -, -, h7, -⟩ := Cond.code_spec B.named (atoms_spec (ws := ws) B.pre _ (by rw [hw]; exact List.mem_cons_self))
      cases Option.some.inj (h1.symm.trans B.method)
      cases Option.some.inj (h2.symm.trans (Stand.of_body B).code)
      intro x hx
      rw [Array.isEmpty_iff.mp h7] at hx
      cases hx
    obtain ⟨t, a1, o, b1, b2, b3⟩ := body p e s m args below meth c s₁ B hml ht hP s₁ hh0 (Stand.of_body B)
    exact ⟨t, o, a1, b1, b2, b3⟩
/-- the table of a body with handlers -/
theorem vx_table {p : Program} {x y : MethodName} {S : Spec} {cc bytes : ByteArray} {maxL maxL' : Nat} {ret ret' : Option FieldType} {e : Env} {s s₁ : State} {m : MethodId} {args : Array Value} {below : List Frame} {meth : Method} {c : Code} {hh : List (Nat × Nat × Nat × Nat)}
    (B : BodyLoose p l y S cc maxL ret e s m args below meth c s₁) (h : (Cond.codeWith y bytes maxL' ret' hh).before args s = true) : c.exceptionTable.toList = tableOf hh := by
  obtain ⟨m9, meth9, c9, hn9, h1, h2, -, -, h6, -⟩ := Cond.codeWith_spec h
  cases Option.some.inj (hn9.symm.trans B.named)
  cases Option.some.inj (h1.symm.trans B.method)
  cases Option.some.inj (h2.symm.trans (Stand.of_body B).code)
  rw [← h6, table_eq]
end Bodies
end VXA
/-! ===== END ===== -/
/-! ===== BEGIN a static call of a method with an exception table ===== -/
section VXS
variable {p : Program} {l : Launch} {e : Env} {R : Room} {s : State} {m : MethodId} {args : Array Value} {below : List Frame} {meth : Method} {c : Code} {T : State} {H : Heap} {locs : List Loc} {cells slots : Nat}
abbrev vx_CSW (R : Room) (s : State) (args : Array Value) (own : String) (index : Nat) (y : MethodName) (bytes : ByteArray) (maxL : Nat) (ret : Option FieldType) (hh : List (Nat × Nat × Nat × Nat)) (ws : List Cond) (rm : Room) (mc ms n : Nat) : Prop :=
  (rm.cells = mc ∧ rm.slots = ms ∧ rm.frames + 1 ≤ R.frames ∧ 8 + (maxL + 11) + rm.locals ≤ R.locals ∧ (∀ w ∈ ws, ∀ (a' : Array Value) (U : State), s.WarmedH U.vm → w.before a' U = true) ∧ Cond.codeWith y bytes maxL ret hh ∈ ws) ∧
  (Cond.codeWith y bytes maxL ret hh).before args s = true ∧ (Cond.initialized y.cls).before args s = true ∧ (y.cls ≠ "java/lang/invoke/MethodHandle" ∧ y.cls ≠ "java/lang/invoke/VarHandle") ∧
  (∀ sig, parseMethodDescriptor y.desc = some sig → n = sig.parameters.length) ∧ (Cond.methodLink own index y).before args s = true ∧ (Cond.static y).before args s = true
theorem vx_cwSW {own : String} {index maxL mc ms : Nat} {y : MethodName} {bytes : ByteArray} {ret : Option FieldType} {hh : List (Nat × Nat × Nat × Nat)} {Ts ws ws' : List Cond} {rm : Room} (n : Nat) (ht : ∀ w ∈ Ts, w.before args s = true) (hT : GoodIn Ts (va_wsS own index y ws)) (hw : ws = Cond.codeWith y bytes maxL ret hh :: ws') (hrc : rm.cells = mc) (hrs : rm.slots = ms)
    (hd : y.cls ≠ "java/lang/invoke/MethodHandle" ∧ y.cls ≠ "java/lang/invoke/VarHandle" ∧ (parseMethodDescriptor y.desc).map (fun d => d.parameters.length) = some n) (hR : rm.frames + 1 ≤ R.frames ∧ 8 + (maxL + 11) + rm.locals ≤ R.locals) :
    vx_CSW R s args own index y bytes maxL ret hh ws rm mc ms n := by
  have ok : ∀ w ∈ va_wsS own index y ws, w.before args s = true := fun w h => ht w (hT w h).1
  have hG : GoodIn Ts ws := fun w h => hT w (by unfold va_wsS; exact List.mem_append_right _ h)
  have hc : Cond.codeWith y bytes maxL ret hh ∈ ws := by rw [hw]; exact List.mem_cons_self
  refine ⟨⟨hrc, hrs, hR.1, hR.2, pay_in ht hG, hc⟩, ht _ (hG _ hc).1, ok _ (by simp [va_wsS]), ⟨hd.1, hd.2.1⟩, fun sig h => ?_, ok _ (by simp [va_wsS]), ok _ (by simp [va_wsS])⟩
  have h2 := hd.2.2
  rw [h] at h2
  exact (Option.some.inj h2).symm
theorem vx_callSW (X : Stand p l e R s m args below meth c T locs cells slots) (hexec : p.tables.exec = Jvm.exec) {own : String} {index : Nat} {y : MethodName} {bytes : ByteArray} {maxL : Nat} {ret : Option FieldType} {hh : List (Nat × Nat × Nat × Nat)}
    (hown : s.vm.findClass own = some m.cls) (hlink : (Cond.methodLink own index y).before args s = true) (hstat : (Cond.static y).before args s = true) (hinit : (Cond.initialized y.cls).before args s = true)
    (hcode : (Cond.codeWith y bytes maxL ret hh).before args s = true) (hy : y.cls ≠ "java/lang/invoke/MethodHandle" ∧ y.cls ≠ "java/lang/invoke/VarHandle")
    {W9 : Nat} {Pre : Pt → Array Value → Prop} {Post : Pt → Array Value → Option Value → Pt → Prop} (hK : Back l R p e below s args y 3 W9 Pre Post)
    {g : JFrame} (hg : g.method = m) (hsize : g.locals.size = c.maxLocals) {argsL rest : List Value} (hlen : ∀ sig, parseMethodDescriptor y.desc = some sig → argsL.length = sig.parameters.length)
    (hstack : g.stack = argsL.reverse ++ rest) (hW : 2 * g.monitorRoom + (rest.map fun v => v.category).sum ≤ W9) (hdg : decode c.code g.pc = .ok (.invokestatic index, 3))
    (hpre : ∀ vm₁, s.WarmedH vm₁ → Pre ⟨T.setVm vm₁, locs, cells, slots⟩ argsL.toArray) :
    ∃ (v : Option Value) (vm₁ : Vm) (B : Pt), s.WarmedH vm₁ ∧ Stand p l e R s m args below meth c B.U B.locs B.cells B.slots ∧ Post ⟨T.setVm vm₁, locs, cells, slots⟩ argsL.toArray v B ∧
      ∀ target, Steps p.tables e below (B.U.setTop { g with pc := g.pc + 3, stack := v.toList ++ rest }) target → Steps p.tables e below (T.setTop g) target := by
  obtain ⟨mk, methM, cM, hnamed, hmethM, -, -, -, -, -, -, hsigM⟩ := Cond.codeWith_spec hcode
  have hstatic : methM.isStatic = true := Cond.static_spec hnamed hmethM hstat
  obtain ⟨kP, hkP, -⟩ := className_of_methodNamed hnamed
  have hinitP : kP.init = .initialized := Cond.initialized_spec (findClass_of_methodNamed hnamed) hkP hinit
  obtain ⟨vm₁, X₁, hstep₁⟩ := X.invokestatic hexec hown hlink hnamed hmethM hstatic hkP hinitP hy (g := g) hg (argsL := argsL) (rest := rest) (hlen _ hsigM) hstack hdg
  obtain ⟨v, B, X', hpost, hsteps⟩ := hK m meth c ⟨T.setVm vm₁, locs, cells, slots⟩ { g with stack := rest } (.invokestatic index) mk argsL.toArray X₁ hg hsize hdg hW (X₁.named hnamed) (hpre vm₁ X₁.warmed)
  exact ⟨v, vm₁, B, X₁.warmed, X', hpost, fun target h => hstep₁ _ fun acts => by rw [doInvoke_state]; exact hsteps.trans h⟩
theorem vx_runSW {y : MethodName} {bytes cc : ByteArray} {maxL nL mc ms n index : Nat} {ret : Option FieldType} {hh : List (Nat × Nat × Nat × Nat)} {ws : List Cond} {rm : Room} {Pc : Array Value → State → Prop} {Qc : Array Value → State → Outcome → State → Prop} {free : Addr → Prop} {Ts : List Cond} {own : String} {As rest : List Value} {g : JFrame}
    (S : CallFix p m c cc nL s args Ts own) (hM : Met l y ws rm Pc Qc mc ms free) (cw : vx_CSW R s args own index y bytes maxL ret hh ws rm mc ms n) (hp : PreS s H Pc As)
    (hg : g.method = m) (hn : As.length = n) (hsize : g.locals.size = nL) (hstack : g.stack = As.reverse ++ rest) (hW : 2 * g.monitorRoom + (rest.map fun v => v.category).sum ≤ 8) (hdg : decode cc g.pc = .ok (.invokestatic index, 3)) (hf : cells + mc ≤ R.cells ∧ slots + ms ≤ R.slots) :
    va_Run p l e R s m args below meth c H locs cells slots mc ms g rest (Qc As.toArray) (free) := by
  obtain ⟨⟨hrc, hrs, hfr, hlo, hws, hcw⟩, hcode, hini, hy, hlen, hl, hstt⟩ := cw
  have hK : Back l R p e below s args y 3 8 (PreOf R mc ms Pc) (PostOf Qc mc ms free) := va_backW (hh := hh) (bytes := bytes) (maxL := maxL) (ret := ret) hM hp.1 hrc hrs hfr hlo hws hcw (fun a' U hW => word_at hW (Or.inl (by first | rfl | simp [Cond.onTables, Cond.keeps, Cond.steady])) hini)
  obtain ⟨hx, hb, hml, ho, -⟩ := S
  intro T hT X
  obtain ⟨v, vm₁, ⟨U', l2, c2, s2⟩, hW₁, X', ⟨g', mk, t, L, e1, e2, hq, h1, hL, h2, h3⟩, st⟩ := vx_callSW X hx (hh := hh) (bytes := bytes) (maxL := maxL) (ret := ret) ho hl hstt hini hcode hy hK hg (hsize.trans hml.symm) (argsL := As) (rest := rest) (fun sig h => hn.trans (hlen sig h)) hstack hW (by rw [hb]; exact hdg)
    (fun vm₁ hW₁ => ⟨hf.1, hf.2, hp.2 (T.setVm vm₁) hT hW₁⟩)
  dsimp only [Pt.U, Pt.locs, Pt.cells, Pt.slots] at X' e1 e2 h1 h2 h3 st
  subst h1; subst h2; subst h3
  exact ⟨v, (T.setVm vm₁).calling g' mk As.toArray, t, U', L, hT, X', hL, e1, e2, hq, st⟩
/-- not caught here, past rows that name other classes: it goes on to the caller -/
theorem vx_outP {p : Program} {l : Launch} {e : Env} {R : Room} {s : State} {m : MethodId} {args : Array Value} {below : List Frame} {meth : Method} {c : Code} {H : Heap} {locs : List Loc} {cells slots : Nat} {free : Addr → Prop} {ls : Array Slot} {rest : List Value} {Qc : Array Value → State → Outcome → State → Prop} {XC : String → State → State → Prop}
    {pc : Nat} {own E : String} {ce : Cell} {q : Addr} {mc ms : Nat} (hown : s.vm.findClass own = some m.cls) (hlocks : meth.locks = false)
    (hpass : ∀ z ∈ c.exceptionTable.toList, covers z pc = false ∨ (z.catchType ≠ 0 ∧ ∃ nm : String, (Cond.classLink own z.catchType nm).before args s = true ∧ va_Nc E nm s)) (hcell : H[q]? = some ce) (hv : ce.vm = .none) (hcl : s.vm.findClass E = some ce.cls)
    (hx : ∀ t : State, t.heap = H → s.vm.Alike t.vm → XC E s t) (hf : ∀ z ∈ locs, free z.base) (hc : cells ≤ mc) (hs : slots ≤ ms) :
    vx_W p l e R s m args below meth c H locs cells slots (vx_MQ below Qc XC args s mc ms free) (F0 m pc ls rest) q := by
  intro T hT X
  have hpl : e.platform.magicAccessors = ({} : Platform).magicAccessors := by rw [X.admits.platform]
  obtain ⟨vm', hW', X', st⟩ := X.outThrough hlocks q (g := F0 m pc ls rest) rfl rfl rfl (cell := ce) (by rw [hT]; exact hcell) (by rw [hv]; rfl)
    (by obtain ⟨k9, h9, -⟩ := Vm.findClass_spec hcl; exact ⟨k9, h9⟩) (fun z hz => by
      rcases hpass z hz with h | ⟨hz0, nm, hl1, hn1⟩
      · exact Or.inl h
      · obtain ⟨c6, hc6, hcl6⟩ := Cond.classLink_spec hown hl1 e.platform hpl
        obtain ⟨a8, b8, h1, h2, h3⟩ := hn1
        cases Option.some.inj (h1.symm.trans hcl)
        cases Option.some.inj (h2.symm.trans hc6)
        exact Or.inr ⟨hz0, _, hcl6, h3⟩)
  obtain ⟨g₀, hfr⟩ := X'.frames_eq
  have hcell9 : ((T.setVm vm').setFrames (.throwing q :: below)).heap[q]? = some ce := by
    show T.heap[q]? = some ce
    rw [hT]; exact hcell
  have hend : Ended ((T.setVm vm').setFrames (.throwing q :: below)) below (.threw q) := State.frames_setFrames _ (State.cur_lt_of_frames hfr)
  refine ⟨(T.setVm vm').setFrames (.throwing q :: below), ?_, .threw q, X'.here.running, hend, Or.inr ⟨q, rfl, E, ce, locs, hx _ hT (X'.ends _).1.alike, hcell9, hv, hcl, (X'.ends _).1, (X'.ends _).2.mono hc hs, hf⟩⟩
  rw [X.pushThrowing_eq]
  exact st
/-- a thing of a world lies in the heap -/
theorem vx_lt {D : va_G} {cl : List vw_C} {ws : va_W} {H1 : Heap} (h : va_P D cl ws H1) {k : Nat} {q : Nat × va_E} (hk : ws[k]? = some q) : q.1 < H1.size := (h k q hk).lt
end VXS
/-! ===== END ===== -/
/-! ===== BEGIN methods with a table of their own: called by a name, returning or throwing ===== -/
section VXH
/-! vx_backW, vx_callVX, vx_callSX, vx_callVW, vx_runVW, vx_runVX, vx_runSX, vx_ofWH follow the same proofs as their sisters above (Free/Laws.lean, Shelf42/LK1.lean); vx_outP calls Shelf42/NT130.lean (outThrough). -/
section
variable {l : Launch} {R : Room} {p : Program} {e : Env} {below : List Frame} {s : State} {sargs : Array Value} {y : MethodName} {len W9 : Nat}
theorem vx_backW {ws : List Cond} {rm : Room} {Pc : Array Value → State → Prop} {Qc : Array Value → State → Outcome → State → Prop} {XC : String → State → State → Prop} {mc ms : Nat} {free : Addr → Prop} {bytes : ByteArray} {maxL : Nat} {ret : Option FieldType} {hh : List (Nat × Nat × Nat × Nat)}
    (hM : vx_Met l y ws rm Pc Qc XC mc ms free) (hblind : FrameBlind Pc) (hrc : rm.cells = mc) (hrs : rm.slots = ms)
    (hframes : rm.frames + 1 ≤ R.frames) (hlocals : W9 + (maxL + 11) + rm.locals ≤ R.locals)
    (hws : ∀ w ∈ ws, ∀ a' U, s.WarmedH U.vm → w.before a' U = true) (hcode : Cond.codeWith y bytes maxL ret hh ∈ ws) (hinit : ∀ a' U, s.WarmedH U.vm → (Cond.initialized y.cls).before a' U = true) :
    vx_Back l R p e below s sargs y len W9 (PreOf R mc ms Pc) (PostOf Qc mc ms free) (vx_Post XC mc ms free) := by
  intro m meth c A g ig mk a X hg hsize hdg hW hn hp
  have h1 : (headSpec ws rm).pre.before a A.U = true := atoms_intro fun w hw => hws w hw _ _ X.warmed
  have h2 : (Cond.codeWith y bytes maxL ret hh).before a A.U = true := hws _ hcode _ _ X.warmed
  have h3 : (Cond.initialized y.cls).before a A.U = true := hinit _ _ X.warmed
  have h4 : A.cells + (headSpec ws rm).room.cells ≤ R.cells := by rw [show (headSpec ws rm).room.cells = mc from hrc]; exact hp.1
  have h5 : A.slots + (headSpec ws rm).room.slots ≤ R.slots := by rw [show (headSpec ws rm).room.slots = ms from hrs]; exact hp.2.1
  have hPc : Pc a (A.U.calling g mk a) := hblind _ _ _ _ hp.2.2
  obtain ⟨U, Ls, c0, s0⟩ := A
  dsimp only [Pt.U, Pt.locs, Pt.cells, Pt.slots] at h1 h2 h3 h4 h5 X hn hPc ⊢
  obtain ⟨m9, methY, cY, hn9, hmY, hcY, -, hlY, -⟩ := Cond.codeWith_spec h2
  cases Option.some.inj (hn9.symm.trans hn)
  obtain ⟨kY, hkY, -⟩ := className_of_methodNamed hn
  have hinitY : kY.init = .initialized := Cond.initialized_spec (findClass_of_methodNamed hn) hkY h3
  have h : At U g.method c below := by rw [hg]; exact X.here
  have hlocals9 : W9 + (maxL + 11) + (headSpec ws rm).room.locals ≤ R.locals := hlocals
  have happ : (headSpec ws rm).appliesLoose y e.platform (U.calling g mk a) = true :=
    Spec.appliesLoose_calling (g := g) h hdg hn hkY hinitY
      (X.room_calling (g := g) (R' := (headSpec ws rm).room) hsize hmY hcY hframes (by rw [hlY]; omega) h4 h5) h1
  obtain ⟨mid, hmid⟩ := h.above
  have hfr : (U.setTop g).frames = (.java g :: mid) ++ below := by rw [State.frames_setTop' g h.top, hmid]; rfl
  obtain ⟨o, s₂, hsteps, -, hend, hq⟩ := Steps.callFree hM p X.admits X.cas X.clock (acts := []) hfr happ hPc trivial
  have hq' : vx_Q Qc XC mc ms free a (U.calling g mk a) o s₂ := hq
  rw [State.frames_setTop' g h.top] at hend
  obtain ⟨g₀, hg0⟩ := Option.isSome_iff_exists.mp h.top
  obtain ⟨r, hr⟩ := State.topJava?_eq_some.mp hg0
  have hr' : (({ U with heap := s₂.heap, slotsUsed := s₂.slotsUsed } : State).setVm s₂.vm).frames = .java g₀ :: r := hr
  rcases hq' with ⟨hqc, L, hfe, hL⟩ | ⟨q, rfl, E, ce, L, hx, hce, hcv, hcl, hW₂, hsm, hL⟩
  · obtain ⟨⟨v, rfl⟩, hW₂, e2, q2, q3, q4, q5, q6⟩ := id hfe
    have e3 : s₂ = ({ (U.calling g mk a).setFrames s₂.frames with heap := s₂.heap, slotsUsed := s₂.slotsUsed } : State).setVm s₂.vm := by
      have : s₂ = ({ s₂ with vm := (U.calling g mk a).vm } : State).setVm s₂.vm := rfl
      rw [e2] at this
      exact this
    obtain ⟨c₂, i₂, len₂, hc₂, hd₂, hf₂⟩ := hend
    have hW' : U.WarmedH s₂.vm := hW₂
    have hcc : c₂ = c := by
      have h1 : s₂.code? g.method = U.code? g.method := by
        rw [State.code?_eq, State.code?_eq, hW'.alike.method?]
      exact Option.some.inj (hc₂.symm.trans (h1.trans h.code))
    subst hcc
    have hlen : len₂ = len := by rw [hdg] at hd₂; cases hd₂; rfl
    subst hlen
    have hs₂ : s₂ = (({ U with heap := s₂.heap, slotsUsed := s₂.slotsUsed } : State).setVm s₂.vm).setTop { g with pc := g.pc + len₂, stack := v.toList ++ g.stack } := by
      refine e3.trans ?_
      rw [hf₂, State.calling_eq h.top, State.setFrames_setFrames, State.setTop_of_frames _ hr', hr]
      rfl
    have hsame : U.sameButNew ({ U with heap := s₂.heap, slotsUsed := s₂.slotsUsed } : State) L mc ms := by
      refine ⟨?_, q2, q3, q4, q5, q6⟩
      obtain ⟨t, ht, -⟩ := State.frames_cons hr
      show ({ U with heap := s₂.heap, slotsUsed := s₂.slotsUsed } : State) = { U.setFrames U.frames with heap := s₂.heap, slotsUsed := s₂.slotsUsed }
      rw [State.setFrames_self ht]
    subst hg
    refine Or.inl ⟨v, ⟨(({ U with heap := s₂.heap, slotsUsed := s₂.slotsUsed } : State).setVm s₂.vm), Ls ++ L, c0 + mc, s0 + ms⟩,
      ⟨X.admits, X.cas, X.clock, X.frames, X.room, X.hears, X.method, X.code, (X.here.setHeapUsed s₂.heap s₂.slotsUsed).setVm hW'.alike, X.tail, State.WarmedH.trans X.warmed hW', X.limits, X.bytes, X.same.trans (hsame.setVm s.vm)⟩,
      ⟨g, mk, s₂, L, rfl, rfl, hqc, rfl, hL, rfl, rfl⟩, ?_⟩
    show Steps p.tables e below _ ((({ U with heap := s₂.heap, slotsUsed := s₂.slotsUsed } : State).setVm s₂.vm).setTop { g with pc := g.pc + len₂, stack := v.toList ++ g.stack })
    rw [← hs₂]
    exact hsteps
  · obtain ⟨e2, q2, q3, q4, q5, q6⟩ := id hsm
    have e3 : s₂ = ({ (U.calling g mk a).setFrames s₂.frames with heap := s₂.heap, slotsUsed := s₂.slotsUsed } : State).setVm s₂.vm := by
      have : s₂ = ({ s₂ with vm := (U.calling g mk a).vm } : State).setVm s₂.vm := rfl
      rw [e2] at this
      exact this
    have hf₂ : s₂.frames = .throwing q :: .java g :: U.frames.tail := hend
    have hW' : U.WarmedH s₂.vm := hW₂
    have hs₂ : s₂ = ((({ U with heap := s₂.heap, slotsUsed := s₂.slotsUsed } : State).setVm s₂.vm).setTop g).pushFrame (.throwing q) := by
      refine e3.trans ?_
      rw [hf₂, State.calling_eq h.top, State.setFrames_setFrames, State.pushFrame, State.frames_setTop _ hr', State.setTop_of_frames _ hr', State.setFrames_setFrames, hr]
      rfl
    have hsame : U.sameButNew ({ U with heap := s₂.heap, slotsUsed := s₂.slotsUsed } : State) L mc ms := by
      refine ⟨?_, q2, q3, q4, q5, q6⟩
      obtain ⟨t, ht, -⟩ := State.frames_cons hr
      show ({ U with heap := s₂.heap, slotsUsed := s₂.slotsUsed } : State) = { U.setFrames U.frames with heap := s₂.heap, slotsUsed := s₂.slotsUsed }
      rw [State.setFrames_self ht]
    subst hg
    refine Or.inr ⟨q, ⟨(({ U with heap := s₂.heap, slotsUsed := s₂.slotsUsed } : State).setVm s₂.vm), Ls ++ L, c0 + mc, s0 + ms⟩,
      ⟨X.admits, X.cas, X.clock, X.frames, X.room, X.hears, X.method, X.code, (X.here.setHeapUsed s₂.heap s₂.slotsUsed).setVm hW'.alike, X.tail, State.WarmedH.trans X.warmed hW', X.limits, X.bytes, X.same.trans (hsame.setVm s.vm)⟩,
      ⟨g, mk, s₂, L, E, ce, rfl, rfl, hx, hce, hcv, hcl, rfl, hL, rfl, rfl⟩, ?_⟩
    show Steps p.tables e below _ (((({ U with heap := s₂.heap, slotsUsed := s₂.slotsUsed } : State).setVm s₂.vm).setTop g).pushFrame (.throwing q))
    rw [← hs₂]
    exact hsteps
end
variable {p : Program} {l : Launch} {e : Env} {R : Room} {s : State} {m : MethodId} {args : Array Value} {below : List Frame} {meth : Method} {c : Code} {T : State} {H : Heap} {locs : List Loc} {cells slots : Nat}
theorem vx_callVX (X : Stand p l e R s m args below meth c T locs cells slots) (hexec : p.tables.exec = Jvm.exec) {own C : String} {index : Nat} {y : MethodName} {bytes : ByteArray} {maxL : Nat} {ret : Option FieldType} {hh : List (Nat × Nat × Nat × Nat)}
    (hown : s.vm.findClass own = some m.cls) (hlink : (Cond.methodLink own index y).before args s = true) (hinst : (Cond.instanceMethod y).before args s = true) (hsel : (Cond.selects C y y).before args s = true)
    (hcode : (Cond.codeWith y bytes maxL ret hh).before args s = true) (hy : y.cls ≠ "java/lang/invoke/MethodHandle" ∧ y.cls ≠ "java/lang/invoke/VarHandle")
    {W9 : Nat} {Pre : Pt → Array Value → Prop} {Post : Pt → Array Value → Option Value → Pt → Prop} {PostX : Pt → Array Value → Addr → Pt → Prop} (hK : vx_Back l R p e below s args y 3 W9 Pre Post PostX)
    {b : Addr} {cellB : Cell} (hcell : T.heap[b]? = some cellB) (hobj : cellB.vm.isStatics = false) (hcls : s.vm.findClass C = some cellB.cls)
    {g : JFrame} (hg : g.method = m) (hsize : g.locals.size = c.maxLocals) {argsL rest : List Value} (hlen : ∀ sig, parseMethodDescriptor y.desc = some sig → argsL.length = sig.parameters.length)
    (hstack : g.stack = argsL.reverse ++ .ref b :: rest) (hW : 2 * g.monitorRoom + (rest.map fun v => v.category).sum ≤ W9) (hdg : decode c.code g.pc = .ok (.invokevirtual index, 3))
    (hpre : ∀ vm₁, s.WarmedH vm₁ → Pre ⟨T.setVm vm₁, locs, cells, slots⟩ (Value.ref b :: argsL).toArray) :
    (∃ (v : Option Value) (vm₁ : Vm) (B : Pt), s.WarmedH vm₁ ∧ Stand p l e R s m args below meth c B.U B.locs B.cells B.slots ∧ Post ⟨T.setVm vm₁, locs, cells, slots⟩ (Value.ref b :: argsL).toArray v B ∧
      ∀ target, Steps p.tables e below (B.U.setTop { g with pc := g.pc + 3, stack := v.toList ++ rest }) target → Steps p.tables e below (T.setTop g) target) ∨
    (∃ (q : Addr) (vm₁ : Vm) (B : Pt), s.WarmedH vm₁ ∧ Stand p l e R s m args below meth c B.U B.locs B.cells B.slots ∧ PostX ⟨T.setVm vm₁, locs, cells, slots⟩ (Value.ref b :: argsL).toArray q B ∧
      Steps p.tables e below (T.setTop g) ((B.U.setTop { g with stack := rest }).pushFrame (.throwing q))) := by
  obtain ⟨mk, methM, hnamed, hmethM, hstM, habM⟩ := Cond.instanceMethod_spec hinst
  obtain ⟨m8, methM', cM, hn8, hmethM', -, -, -, -, -, -, hsigM⟩ := Cond.codeWith_spec hcode
  cases Option.some.inj (hn8.symm.trans hnamed)
  cases hmethM.symm.trans hmethM'
  obtain ⟨c2, r2, m2, q1, q2, q3, q4, kP, hkP, hkPi⟩ := Cond.selects_spec hsel
  cases hcls.symm.trans q1
  cases (State.methodFound?_of_named hnamed hy).symm.trans q2
  cases hnamed.symm.trans q3
  have hselP : selectMethod e.platform s.vm cellB.cls mk = .method mk := by rw [Launch.admits_selectMethod X.admits]; exact q4
  obtain ⟨vm₁, X₁, hstep₁⟩ := X.invokevirtual hexec hown hlink hnamed hmethM hstM hkP hkPi hy (a := b) (cell := cellB) hcell
    (fun z h => by rw [h] at hobj; cases hobj) hselP hmethM habM hkP hkPi (g := g) hg (argsL := argsL) (rest := rest) (hlen _ hsigM) hstack hdg
  rcases hK m meth c ⟨T.setVm vm₁, locs, cells, slots⟩ { g with stack := rest } (.invokevirtual index) mk (Value.ref b :: argsL).toArray X₁ hg hsize hdg hW (X₁.named hnamed) (hpre vm₁ X₁.warmed) with ⟨v, B, X', hpost, hsteps⟩ | ⟨q, B, X', hpost, hsteps⟩
  · exact Or.inl ⟨v, vm₁, B, X₁.warmed, X', hpost, fun target h => hstep₁ _ fun acts => by rw [doInvoke_state]; exact hsteps.trans h⟩
  · exact Or.inr ⟨q, vm₁, B, X₁.warmed, X', hpost, hstep₁ _ fun acts => by rw [doInvoke_state]; exact hsteps⟩
theorem vx_callSX (X : Stand p l e R s m args below meth c T locs cells slots) (hexec : p.tables.exec = Jvm.exec) {own : String} {index : Nat} {y : MethodName} {bytes : ByteArray} {maxL : Nat} {ret : Option FieldType} {hh : List (Nat × Nat × Nat × Nat)}
    (hown : s.vm.findClass own = some m.cls) (hlink : (Cond.methodLink own index y).before args s = true) (hstat : (Cond.static y).before args s = true) (hinit : (Cond.initialized y.cls).before args s = true)
    (hcode : (Cond.codeWith y bytes maxL ret hh).before args s = true) (hy : y.cls ≠ "java/lang/invoke/MethodHandle" ∧ y.cls ≠ "java/lang/invoke/VarHandle")
    {W9 : Nat} {Pre : Pt → Array Value → Prop} {Post : Pt → Array Value → Option Value → Pt → Prop} {PostX : Pt → Array Value → Addr → Pt → Prop} (hK : vx_Back l R p e below s args y 3 W9 Pre Post PostX)
    {g : JFrame} (hg : g.method = m) (hsize : g.locals.size = c.maxLocals) {argsL rest : List Value} (hlen : ∀ sig, parseMethodDescriptor y.desc = some sig → argsL.length = sig.parameters.length)
    (hstack : g.stack = argsL.reverse ++ rest) (hW : 2 * g.monitorRoom + (rest.map fun v => v.category).sum ≤ W9) (hdg : decode c.code g.pc = .ok (.invokestatic index, 3))
    (hpre : ∀ vm₁, s.WarmedH vm₁ → Pre ⟨T.setVm vm₁, locs, cells, slots⟩ argsL.toArray) :
    (∃ (v : Option Value) (vm₁ : Vm) (B : Pt), s.WarmedH vm₁ ∧ Stand p l e R s m args below meth c B.U B.locs B.cells B.slots ∧ Post ⟨T.setVm vm₁, locs, cells, slots⟩ argsL.toArray v B ∧
      ∀ target, Steps p.tables e below (B.U.setTop { g with pc := g.pc + 3, stack := v.toList ++ rest }) target → Steps p.tables e below (T.setTop g) target) ∨
    (∃ (q : Addr) (vm₁ : Vm) (B : Pt), s.WarmedH vm₁ ∧ Stand p l e R s m args below meth c B.U B.locs B.cells B.slots ∧ PostX ⟨T.setVm vm₁, locs, cells, slots⟩ argsL.toArray q B ∧
      Steps p.tables e below (T.setTop g) ((B.U.setTop { g with stack := rest }).pushFrame (.throwing q))) := by
  obtain ⟨mk, methM, cM, hnamed, hmethM, -, -, -, -, -, -, hsigM⟩ := Cond.codeWith_spec hcode
  have hstatic : methM.isStatic = true := Cond.static_spec hnamed hmethM hstat
  obtain ⟨kP, hkP, -⟩ := className_of_methodNamed hnamed
  have hinitP : kP.init = .initialized := Cond.initialized_spec (findClass_of_methodNamed hnamed) hkP hinit
  obtain ⟨vm₁, X₁, hstep₁⟩ := X.invokestatic hexec hown hlink hnamed hmethM hstatic hkP hinitP hy (g := g) hg (argsL := argsL) (rest := rest) (hlen _ hsigM) hstack hdg
  rcases hK m meth c ⟨T.setVm vm₁, locs, cells, slots⟩ { g with stack := rest } (.invokestatic index) mk argsL.toArray X₁ hg hsize hdg hW (X₁.named hnamed) (hpre vm₁ X₁.warmed) with ⟨v, B, X', hpost, hsteps⟩ | ⟨q, B, X', hpost, hsteps⟩
  · exact Or.inl ⟨v, vm₁, B, X₁.warmed, X', hpost, fun target h => hstep₁ _ fun acts => by rw [doInvoke_state]; exact hsteps.trans h⟩
  · exact Or.inr ⟨q, vm₁, B, X₁.warmed, X', hpost, hstep₁ _ fun acts => by rw [doInvoke_state]; exact hsteps⟩
theorem vx_callVW (X : Stand p l e R s m args below meth c T locs cells slots) (hexec : p.tables.exec = Jvm.exec) {own C : String} {index : Nat} {y : MethodName} {bytes : ByteArray} {maxL : Nat} {ret : Option FieldType} {hh : List (Nat × Nat × Nat × Nat)}
    (hown : s.vm.findClass own = some m.cls) (hlink : (Cond.methodLink own index y).before args s = true) (hinst : (Cond.instanceMethod y).before args s = true) (hsel : (Cond.selects C y y).before args s = true)
    (hcode : (Cond.codeWith y bytes maxL ret hh).before args s = true) (hy : y.cls ≠ "java/lang/invoke/MethodHandle" ∧ y.cls ≠ "java/lang/invoke/VarHandle")
    {W9 : Nat} {Pre : Pt → Array Value → Prop} {Post : Pt → Array Value → Option Value → Pt → Prop} (hK : Back l R p e below s args y 3 W9 Pre Post)
    {b : Addr} {cellB : Cell} (hcell : T.heap[b]? = some cellB) (hobj : cellB.vm.isStatics = false) (hcls : s.vm.findClass C = some cellB.cls)
    {g : JFrame} (hg : g.method = m) (hsize : g.locals.size = c.maxLocals) {argsL rest : List Value} (hlen : ∀ sig, parseMethodDescriptor y.desc = some sig → argsL.length = sig.parameters.length)
    (hstack : g.stack = argsL.reverse ++ .ref b :: rest) (hW : 2 * g.monitorRoom + (rest.map fun v => v.category).sum ≤ W9) (hdg : decode c.code g.pc = .ok (.invokevirtual index, 3))
    (hpre : ∀ vm₁, s.WarmedH vm₁ → Pre ⟨T.setVm vm₁, locs, cells, slots⟩ (Value.ref b :: argsL).toArray) :
    ∃ (v : Option Value) (vm₁ : Vm) (B : Pt), s.WarmedH vm₁ ∧ Stand p l e R s m args below meth c B.U B.locs B.cells B.slots ∧ Post ⟨T.setVm vm₁, locs, cells, slots⟩ (Value.ref b :: argsL).toArray v B ∧
      ∀ target, Steps p.tables e below (B.U.setTop { g with pc := g.pc + 3, stack := v.toList ++ rest }) target → Steps p.tables e below (T.setTop g) target := by
  obtain ⟨mk, methM, hnamed, hmethM, hstM, habM⟩ := Cond.instanceMethod_spec hinst
  obtain ⟨m8, methM', cM, hn8, hmethM', -, -, -, -, -, -, hsigM⟩ := Cond.codeWith_spec hcode
  cases Option.some.inj (hn8.symm.trans hnamed)
  cases hmethM.symm.trans hmethM'
  obtain ⟨c2, r2, m2, q1, q2, q3, q4, kP, hkP, hkPi⟩ := Cond.selects_spec hsel
  cases hcls.symm.trans q1
  cases (State.methodFound?_of_named hnamed hy).symm.trans q2
  cases hnamed.symm.trans q3
  have hselP : selectMethod e.platform s.vm cellB.cls mk = .method mk := by rw [Launch.admits_selectMethod X.admits]; exact q4
  obtain ⟨vm₁, X₁, hstep₁⟩ := X.invokevirtual hexec hown hlink hnamed hmethM hstM hkP hkPi hy (a := b) (cell := cellB) hcell
    (fun z h => by rw [h] at hobj; cases hobj) hselP hmethM habM hkP hkPi (g := g) hg (argsL := argsL) (rest := rest) (hlen _ hsigM) hstack hdg
  obtain ⟨v, B, X', hpost, hsteps⟩ := hK m meth c ⟨T.setVm vm₁, locs, cells, slots⟩ { g with stack := rest } (.invokevirtual index) mk (Value.ref b :: argsL).toArray X₁ hg hsize hdg hW (X₁.named hnamed) (hpre vm₁ X₁.warmed)
  exact ⟨v, vm₁, B, X₁.warmed, X', hpost, fun target h => hstep₁ _ fun acts => by rw [doInvoke_state]; exact hsteps.trans h⟩
abbrev vx_CVW (R : Room) (s : State) (args : Array Value) (own C : String) (index : Nat) (y : MethodName) (bytes : ByteArray) (maxL : Nat) (ret : Option FieldType) (hh : List (Nat × Nat × Nat × Nat)) (ws : List Cond) (rm : Room) (mc ms n : Nat) : Prop :=
  (rm.cells = mc ∧ rm.slots = ms ∧ rm.frames + 1 ≤ R.frames ∧ 8 + (maxL + 11) + rm.locals ≤ R.locals ∧ (∀ w ∈ ws, ∀ (a' : Array Value) (U : State), s.WarmedH U.vm → w.before a' U = true) ∧ Cond.codeWith y bytes maxL ret hh ∈ ws) ∧
  (Cond.codeWith y bytes maxL ret hh).before args s = true ∧ (Cond.initialized y.cls).before args s = true ∧ (y.cls ≠ "java/lang/invoke/MethodHandle" ∧ y.cls ≠ "java/lang/invoke/VarHandle") ∧
  (∀ sig, parseMethodDescriptor y.desc = some sig → n = sig.parameters.length) ∧ (Cond.methodLink own index y).before args s = true ∧ (Cond.instanceMethod y).before args s = true ∧ (Cond.selects C y y).before args s = true
theorem vx_cwVW {own C : String} {index maxL mc ms : Nat} {y : MethodName} {bytes : ByteArray} {ret : Option FieldType} {hh : List (Nat × Nat × Nat × Nat)} {Ts ws ws' : List Cond} {rm : Room} (n : Nat) (ht : ∀ w ∈ Ts, w.before args s = true) (hT : GoodIn Ts (wsV own index C y ws)) (hw : ws = Cond.codeWith y bytes maxL ret hh :: ws') (hrc : rm.cells = mc) (hrs : rm.slots = ms)
    (hd : y.cls = C ∧ y.cls ≠ "java/lang/invoke/MethodHandle" ∧ y.cls ≠ "java/lang/invoke/VarHandle" ∧ (parseMethodDescriptor y.desc).map (fun d => d.parameters.length) = some n) (hR : rm.frames + 1 ≤ R.frames ∧ 8 + (maxL + 11) + rm.locals ≤ R.locals) :
    vx_CVW R s args own C index y bytes maxL ret hh ws rm mc ms n := by
  obtain ⟨hC, hd⟩ := hd
  subst hC
  have ok : ∀ w ∈ wsV own index y.cls y ws, w.before args s = true := fun w h => ht w (hT w h).1
  have hG : GoodIn Ts ws := fun w h => hT w (by unfold wsV; exact List.mem_append_right _ h)
  have hc : Cond.codeWith y bytes maxL ret hh ∈ ws := by rw [hw]; exact List.mem_cons_self
  refine ⟨⟨hrc, hrs, hR.1, hR.2, pay_in ht hG, hc⟩, ht _ (hG _ hc).1, ok _ (by simp [wsV]), ⟨hd.1, hd.2.1⟩, fun sig h => ?_, ok _ (by simp [wsV]), ok _ (by simp [wsV]), ok _ (by simp [wsV])⟩
  have h2 := hd.2.2
  rw [h] at h2
  exact (Option.some.inj h2).symm
theorem vx_runVW {y : MethodName} {bytes cc : ByteArray} {maxL nL mc ms n index : Nat} {ret : Option FieldType} {hh : List (Nat × Nat × Nat × Nat)} {ws : List Cond} {rm : Room} {Pc : Array Value → State → Prop} {Qc : Array Value → State → Outcome → State → Prop} {free : Addr → Prop} {Ts : List Cond} {own C : String} {b : Addr} {As rest : List Value} {g : JFrame}
    (S : CallFix p m c cc nL s args Ts own) (hM : Met l y ws rm Pc Qc mc ms free) (cw : vx_CVW R s args own C index y bytes maxL ret hh ws rm mc ms n) (hp : PreV s H C b Pc As)
    (hg : g.method = m) (hn : As.length = n) (hsize : g.locals.size = nL) (hstack : g.stack = As.reverse ++ .ref b :: rest) (hW : 2 * g.monitorRoom + (rest.map fun v => v.category).sum ≤ 8) (hdg : decode cc g.pc = .ok (.invokevirtual index, 3)) (hf : cells + mc ≤ R.cells ∧ slots + ms ≤ R.slots) :
    va_Run p l e R s m args below meth c H locs cells slots mc ms g rest (Qc (Value.ref b :: As).toArray) free := by
  obtain ⟨⟨hrc, hrs, hfr, hlo, hws, hcw⟩, hcode, hini, hy, hlen, hl, hin, hse⟩ := cw
  have hK : Back l R p e below s args y 3 8 (PreOf R mc ms Pc) (PostOf Qc mc ms free) := va_backW (hh := hh) (bytes := bytes) (maxL := maxL) (ret := ret) hM hp.1 hrc hrs hfr hlo hws hcw (fun a' U hW => word_at hW (Or.inl (by first | rfl | simp [Cond.onTables, Cond.keeps, Cond.steady])) hini)
  obtain ⟨hx, hb, hml, ho, -⟩ := S
  obtain ⟨-, ⟨cellB, hcB, hoB, hclB⟩, hPc⟩ := hp
  intro T hT X
  obtain ⟨v, vm₁, ⟨U', l2, c2, s2⟩, hW₁, X', ⟨g', mk, t, L, e1, e2, hq, h1, hL, h2, h3⟩, st⟩ := vx_callVW X hx (C := C) (hh := hh) (bytes := bytes) (maxL := maxL) (ret := ret) ho hl hin hse hcode hy hK (by rw [hT]; exact hcB) hoB hclB hg (hsize.trans hml.symm) (argsL := As) (rest := rest) (fun sig h => hn.trans (hlen sig h)) hstack hW (by rw [hb]; exact hdg)
    (fun vm₁ hW₁ => ⟨hf.1, hf.2, hPc (T.setVm vm₁) hT hW₁⟩)
  dsimp only [Pt.U, Pt.locs, Pt.cells, Pt.slots] at X' e1 e2 h1 h2 h3 st
  subst h1; subst h2; subst h3
  exact ⟨v, (T.setVm vm₁).calling g' mk (Value.ref b :: As).toArray, t, U', L, hT, X', hL, e1, e2, hq, st⟩
section
variable {y : MethodName} {bytes cc : ByteArray} {maxL nL mc ms n index : Nat} {ret : Option FieldType} {ws : List Cond} {rm : Room} {Pc : Array Value → State → Prop} {Qc : Array Value → State → Outcome → State → Prop} {XC : String → State → State → Prop} {free : Addr → Prop} {Ts : List Cond} {own C : String} {b : Addr} {As rest : List Value} {g : JFrame}
theorem vx_runVX {hh : List (Nat × Nat × Nat × Nat)} (S : CallFix p m c cc nL s args Ts own) (hM : vx_Met l y ws rm Pc Qc XC mc ms free) (cw : vx_CVW R s args own C index y bytes maxL ret hh ws rm mc ms n) (hp : PreV s H C b Pc As)
    (hg : g.method = m) (hn : As.length = n) (hsize : g.locals.size = nL) (hstack : g.stack = As.reverse ++ .ref b :: rest) (hW : 2 * g.monitorRoom + (rest.map fun v => v.category).sum ≤ 8) (hdg : decode cc g.pc = .ok (.invokevirtual index, 3)) (hf : cells + mc ≤ R.cells ∧ slots + ms ≤ R.slots) :
    vx_Run p l e R s m args below meth c H locs cells slots mc ms g rest (Qc (Value.ref b :: As).toArray) XC free := by
  obtain ⟨⟨hrc, hrs, hfr, hlo, hws, hcw⟩, hcode, hini, hy, hlen, hl, hin, hse⟩ := cw
  have hK : vx_Back l R p e below s args y 3 8 (PreOf R mc ms Pc) (PostOf Qc mc ms free) (vx_Post XC mc ms free) := vx_backW (hh := hh) (bytes := bytes) (maxL := maxL) (ret := ret) hM hp.1 hrc hrs hfr hlo hws hcw (fun a' U hW => word_at hW (Or.inl (by first | rfl | simp [Cond.onTables, Cond.keeps, Cond.steady])) hini)
  obtain ⟨hx, hb, hml, ho, -⟩ := S
  obtain ⟨-, ⟨cellB, hcB, hoB, hclB⟩, hPc⟩ := hp
  intro T hT X
  rcases vx_callVX X hx (C := C) (hh := hh) (bytes := bytes) (maxL := maxL) (ret := ret) ho hl hin hse hcode hy hK (by rw [hT]; exact hcB) hoB hclB hg (hsize.trans hml.symm) (argsL := As) (rest := rest) (fun sig h => hn.trans (hlen sig h)) hstack hW (by rw [hb]; exact hdg)
    (fun vm₁ hW₁ => ⟨hf.1, hf.2, hPc (T.setVm vm₁) hT hW₁⟩) with ⟨v, vm₁, ⟨U', l2, c2, s2⟩, hW₁, X', ⟨g', mk, t, L, e1, e2, hq, h1, hL, h2, h3⟩, st⟩ | ⟨q, vm₁, ⟨U', l2, c2, s2⟩, hW₁, X', ⟨g', mk, t, L, E, ce, e1, e2, hq, hce, hcv, hcl, h1, hL, h2, h3⟩, st⟩
  · dsimp only [Pt.U, Pt.locs, Pt.cells, Pt.slots] at X' e1 e2 h1 h2 h3 st
    subst h1; subst h2; subst h3
    exact Or.inl ⟨v, (T.setVm vm₁).calling g' mk (Value.ref b :: As).toArray, t, U', L, hT, X', hL, e1, e2, hq, st⟩
  · dsimp only [Pt.U, Pt.locs, Pt.cells, Pt.slots] at X' e1 e2 h1 h2 h3 st hcl
    subst h1; subst h2; subst h3
    exact Or.inr ⟨q, (T.setVm vm₁).calling g' mk (Value.ref b :: As).toArray, t, U', L, E, ce, hT, X', hL, e1, e2, hq, hce, hcv, vx_cls hW₁ hcl, st⟩
theorem vx_runSX {hh : List (Nat × Nat × Nat × Nat)} (S : CallFix p m c cc nL s args Ts own) (hM : vx_Met l y ws rm Pc Qc XC mc ms free) (cw : vx_CSW R s args own index y bytes maxL ret hh ws rm mc ms n) (hp : PreS s H Pc As)
    (hg : g.method = m) (hn : As.length = n) (hsize : g.locals.size = nL) (hstack : g.stack = As.reverse ++ rest) (hW : 2 * g.monitorRoom + (rest.map fun v => v.category).sum ≤ 8) (hdg : decode cc g.pc = .ok (.invokestatic index, 3)) (hf : cells + mc ≤ R.cells ∧ slots + ms ≤ R.slots) :
    vx_Run p l e R s m args below meth c H locs cells slots mc ms g rest (Qc As.toArray) XC free := by
  obtain ⟨⟨hrc, hrs, hfr, hlo, hws, hcw⟩, hcode, hini, hy, hlen, hl, hstt⟩ := cw
  have hK : vx_Back l R p e below s args y 3 8 (PreOf R mc ms Pc) (PostOf Qc mc ms free) (vx_Post XC mc ms free) := vx_backW (hh := hh) (bytes := bytes) (maxL := maxL) (ret := ret) hM hp.1 hrc hrs hfr hlo hws hcw (fun a' U hW => word_at hW (Or.inl (by first | rfl | simp [Cond.onTables, Cond.keeps, Cond.steady])) hini)
  obtain ⟨hx, hb, hml, ho, -⟩ := S
  intro T hT X
  rcases vx_callSX X hx (hh := hh) (bytes := bytes) (maxL := maxL) (ret := ret) ho hl hstt hini hcode hy hK hg (hsize.trans hml.symm) (argsL := As) (rest := rest) (fun sig h => hn.trans (hlen sig h)) hstack hW (by rw [hb]; exact hdg)
    (fun vm₁ hW₁ => ⟨hf.1, hf.2, hp.2 (T.setVm vm₁) hT hW₁⟩) with ⟨v, vm₁, ⟨U', l2, c2, s2⟩, hW₁, X', ⟨g', mk, t, L, e1, e2, hq, h1, hL, h2, h3⟩, st⟩ | ⟨q, vm₁, ⟨U', l2, c2, s2⟩, hW₁, X', ⟨g', mk, t, L, E, ce, e1, e2, hq, hce, hcv, hcl, h1, hL, h2, h3⟩, st⟩
  · dsimp only [Pt.U, Pt.locs, Pt.cells, Pt.slots] at X' e1 e2 h1 h2 h3 st
    subst h1; subst h2; subst h3
    exact Or.inl ⟨v, (T.setVm vm₁).calling g' mk As.toArray, t, U', L, hT, X', hL, e1, e2, hq, st⟩
  · dsimp only [Pt.U, Pt.locs, Pt.cells, Pt.slots] at X' e1 e2 h1 h2 h3 st hcl
    subst h1; subst h2; subst h3
    exact Or.inr ⟨q, (T.setVm vm₁).calling g' mk As.toArray, t, U', L, E, ce, hT, X', hL, e1, e2, hq, hce, hcv, vx_cls hW₁ hcl, st⟩
end
end VXH
theorem vx_ofWH {l : Launch} {y : MethodName} {ws ws' : List Cond} {rm : Room} {Pc : Array Value → State → Prop} {Qc : Array Value → State → Outcome → State → Prop} {XC : String → State → State → Prop} {mc ms : Nat} {free : Addr → Prop} {cc : ByteArray} {maxL : Nat} {ret : Option FieldType} {hh : List (Nat × Nat × Nat × Nat)}
    (hy : plainName y.cls = true) (hw : ws = Cond.codeWith y cc maxL ret hh :: ws')
    (body : ∀ p e s m args below meth c s₁, BodyLoose p l y (headSpec ws rm) cc maxL ret e s m args below meth c s₁ → c.maxLocals = maxL → Pc args s →
      W p l e (headSpec ws rm).room s m args below meth c s.heap [] 0 0 (vx_MQ below Qc XC args s mc ms free) (entryFrame m args maxL)) : vx_Met l y ws rm Pc Qc XC mc ms free := by
  refine MetFree.of_bodyS (code := cc) (maxLocals := maxL) (ret := ret) hy ?_ ?_
  · intro args s m h hn
    obtain ⟨m9, meth, c, hn9, h1, h2, h3, h4, -, h5, h6, -⟩ := Cond.codeWith_spec (atoms_spec (ws := ws) h _ (by rw [hw]; exact List.mem_cons_self))
    cases hn.symm.trans hn9
    exact ⟨meth, c, h1, h2, h3, h4, h5, h6⟩
  · intro p e s m args below meth c s₁ B hml hP _
    have hh0 : s₁.heap = s.heap := by rw [B.state]; rfl
    obtain ⟨t, a1, o, b1, b2, b3⟩ := body p e s m args below meth c s₁ B hml hP s₁ hh0 (Stand.of_body B)
    exact ⟨t, o, a1, b1, b2, b3⟩
/-! ===== END ===== -/
end
section
-- ===== PART A: goes FIRST, ahead of the names: the tables' words, and 'selects' of the private methods out of them =====
/-- a private method of a class that the tables say can be made, by its rows of tables_1 -/
def lw_okq (q : MethodName × Nat) : Prop := (q.1.cls ≠ "java/lang/invoke/MethodHandle" ∧ q.1.cls ≠ "java/lang/invoke/VarHandle") ∧ Cond.instantiable q.1.cls q.2 ∈ tables_1 ∧ Cond.privateMethod q.1 ∈ tables_1 ∧ Cond.instanceMethod q.1 ∈ tables_1
theorem lw_p0 : lw_okq (⟨"java/lang/Throwable", "fillInStackTrace", "(I)Ljava/lang/Throwable;"⟩, 6) := ⟨⟨by decide +kernel, by decide +kernel⟩, List.mem_of_getElem? (i := 254) (by decide +kernel), List.mem_of_getElem? (i := 252) (by decide +kernel), List.mem_of_getElem? (i := 253) (by decide +kernel)⟩
theorem lw_p1 : lw_okq (⟨"ChangeUntangler", "forgetResults", "()V"⟩, 9) := ⟨⟨by decide +kernel, by decide +kernel⟩, List.mem_of_getElem? (i := 18) (by decide +kernel), List.mem_of_getElem? (i := 284) (by decide +kernel), List.mem_of_getElem? (i := 285) (by decide +kernel)⟩
theorem lw_p2 : lw_okq (⟨"ChangeUntangler", "putTogether", "()V"⟩, 9) := ⟨⟨by decide +kernel, by decide +kernel⟩, List.mem_of_getElem? (i := 18) (by decide +kernel), List.mem_of_getElem? (i := 300) (by decide +kernel), List.mem_of_getElem? (i := 301) (by decide +kernel)⟩
theorem lw_p3 : lw_okq (⟨"ChangeUntangler$Evidence", "isNear", "(LChangeUntangler$Pieces;II)Z"⟩, 2) := ⟨⟨by decide +kernel, by decide +kernel⟩, List.mem_of_getElem? (i := 80) (by decide +kernel), List.mem_of_getElem? (i := 316) (by decide +kernel), List.mem_of_getElem? (i := 317) (by decide +kernel)⟩
theorem lw_p4 : lw_okq (⟨"ChangeUntangler$Groups", "joinWhatMust", "(ILChangeUntangler$Sayings;)V"⟩, 6) := ⟨⟨by decide +kernel, by decide +kernel⟩, List.mem_of_getElem? (i := 106) (by decide +kernel), List.mem_of_getElem? (i := 345) (by decide +kernel), List.mem_of_getElem? (i := 346) (by decide +kernel)⟩
theorem lw_p5 : lw_okq (⟨"ChangeUntangler$Groups", "joinNearest", "(LChangeUntangler$Sayings;)Z"⟩, 6) := ⟨⟨by decide +kernel, by decide +kernel⟩, List.mem_of_getElem? (i := 106) (by decide +kernel), List.mem_of_getElem? (i := 356) (by decide +kernel), List.mem_of_getElem? (i := 357) (by decide +kernel)⟩
theorem lw_p6 : lw_okq (⟨"ChangeUntangler$Groups", "join", "(II)V"⟩, 6) := ⟨⟨by decide +kernel, by decide +kernel⟩, List.mem_of_getElem? (i := 106) (by decide +kernel), List.mem_of_getElem? (i := 377) (by decide +kernel), List.mem_of_getElem? (i := 378) (by decide +kernel)⟩
theorem lw_p7 : lw_okq (⟨"ChangeUntangler$Parcels", "findNeeds", "(LChangeUntangler$Pieces;LChangeUntangler$Code;LChangeUntangler$Groups;)V"⟩, 4) := ⟨⟨by decide +kernel, by decide +kernel⟩, List.mem_of_getElem? (i := 139) (by decide +kernel), List.mem_of_getElem? (i := 385) (by decide +kernel), List.mem_of_getElem? (i := 386) (by decide +kernel)⟩
theorem lw_p8 : lw_okq (⟨"ChangeUntangler$Parcels", "needByWayOfOthers", "(I)V"⟩, 4) := ⟨⟨by decide +kernel, by decide +kernel⟩, List.mem_of_getElem? (i := 139) (by decide +kernel), List.mem_of_getElem? (i := 398) (by decide +kernel), List.mem_of_getElem? (i := 399) (by decide +kernel)⟩
theorem lw_p9 : lw_okq (⟨"ChangeUntangler$Parcels", "nextCircle", "(II)I"⟩, 4) := ⟨⟨by decide +kernel, by decide +kernel⟩, List.mem_of_getElem? (i := 139) (by decide +kernel), List.mem_of_getElem? (i := 403) (by decide +kernel), List.mem_of_getElem? (i := 404) (by decide +kernel)⟩
theorem lw_p10 : lw_okq (⟨"ChangeUntangler$Parcels", "circleOf", "(II)I"⟩, 4) := ⟨⟨by decide +kernel, by decide +kernel⟩, List.mem_of_getElem? (i := 139) (by decide +kernel), List.mem_of_getElem? (i := 407) (by decide +kernel), List.mem_of_getElem? (i := 408) (by decide +kernel)⟩
theorem lw_p11 : lw_okq (⟨"ChangeUntangler$Parcels", "append", "(ILChangeUntangler$Groups;)V"⟩, 4) := ⟨⟨by decide +kernel, by decide +kernel⟩, List.mem_of_getElem? (i := 139) (by decide +kernel), List.mem_of_getElem? (i := 411) (by decide +kernel), List.mem_of_getElem? (i := 412) (by decide +kernel)⟩
theorem lw_p12 : lw_okq (⟨"ChangeUntangler", "requireGroup", "(I)V"⟩, 9) := ⟨⟨by decide +kernel, by decide +kernel⟩, List.mem_of_getElem? (i := 18) (by decide +kernel), List.mem_of_getElem? (i := 420) (by decide +kernel), List.mem_of_getElem? (i := 421) (by decide +kernel)⟩
theorem lw_p13 : lw_okq (⟨"ChangeUntangler", "requirePiece", "(I)V"⟩, 9) := ⟨⟨by decide +kernel, by decide +kernel⟩, List.mem_of_getElem? (i := 18) (by decide +kernel), List.mem_of_getElem? (i := 444) (by decide +kernel), List.mem_of_getElem? (i := 445) (by decide +kernel)⟩
theorem lw_p14 : lw_okq (⟨"ChangeUntangler", "requireParcel", "(I)V"⟩, 9) := ⟨⟨by decide +kernel, by decide +kernel⟩, List.mem_of_getElem? (i := 18) (by decide +kernel), List.mem_of_getElem? (i := 484) (by decide +kernel), List.mem_of_getElem? (i := 485) (by decide +kernel)⟩
theorem lw_p15 : lw_okq (⟨"ChangeUntangler", "breakageInOrder", "()I"⟩, 9) := ⟨⟨by decide +kernel, by decide +kernel⟩, List.mem_of_getElem? (i := 18) (by decide +kernel), List.mem_of_getElem? (i := 523) (by decide +kernel), List.mem_of_getElem? (i := 524) (by decide +kernel)⟩
def lw_privs_1 : List (MethodName × Nat) := [(⟨"java/lang/Throwable", "fillInStackTrace", "(I)Ljava/lang/Throwable;"⟩, 6), (⟨"ChangeUntangler", "forgetResults", "()V"⟩, 9), (⟨"ChangeUntangler", "putTogether", "()V"⟩, 9), (⟨"ChangeUntangler$Evidence", "isNear", "(LChangeUntangler$Pieces;II)Z"⟩, 2), (⟨"ChangeUntangler$Groups", "joinWhatMust", "(ILChangeUntangler$Sayings;)V"⟩, 6), (⟨"ChangeUntangler$Groups", "joinNearest", "(LChangeUntangler$Sayings;)Z"⟩, 6), (⟨"ChangeUntangler$Groups", "join", "(II)V"⟩, 6), (⟨"ChangeUntangler$Parcels", "findNeeds", "(LChangeUntangler$Pieces;LChangeUntangler$Code;LChangeUntangler$Groups;)V"⟩, 4), (⟨"ChangeUntangler$Parcels", "needByWayOfOthers", "(I)V"⟩, 4), (⟨"ChangeUntangler$Parcels", "nextCircle", "(II)I"⟩, 4), (⟨"ChangeUntangler$Parcels", "circleOf", "(II)I"⟩, 4), (⟨"ChangeUntangler$Parcels", "append", "(ILChangeUntangler$Groups;)V"⟩, 4), (⟨"ChangeUntangler", "requireGroup", "(I)V"⟩, 9), (⟨"ChangeUntangler", "requirePiece", "(I)V"⟩, 9), (⟨"ChangeUntangler", "requireParcel", "(I)V"⟩, 9), (⟨"ChangeUntangler", "breakageInOrder", "()I"⟩, 9)]
theorem lw_r1 : ∀ q ∈ lw_privs_1, lw_okq q := List.forall_mem_cons.mpr ⟨lw_p0, List.forall_mem_cons.mpr ⟨lw_p1, List.forall_mem_cons.mpr ⟨lw_p2, List.forall_mem_cons.mpr ⟨lw_p3, List.forall_mem_cons.mpr ⟨lw_p4, List.forall_mem_cons.mpr ⟨lw_p5, List.forall_mem_cons.mpr ⟨lw_p6, List.forall_mem_cons.mpr ⟨lw_p7, List.forall_mem_cons.mpr ⟨lw_p8, List.forall_mem_cons.mpr ⟨lw_p9, List.forall_mem_cons.mpr ⟨lw_p10, List.forall_mem_cons.mpr ⟨lw_p11, List.forall_mem_cons.mpr ⟨lw_p12, List.forall_mem_cons.mpr ⟨lw_p13, List.forall_mem_cons.mpr ⟨lw_p14, List.forall_mem_cons.mpr ⟨lw_p15, fun _ h => absurd h List.not_mem_nil⟩⟩⟩⟩⟩⟩⟩⟩⟩⟩⟩⟩⟩⟩⟩⟩
theorem lw_p16 : lw_okq (⟨"ChangeUntangler", "findBest", "()V"⟩, 9) := ⟨⟨by decide +kernel, by decide +kernel⟩, List.mem_of_getElem? (i := 18) (by decide +kernel), List.mem_of_getElem? (i := 532) (by decide +kernel), List.mem_of_getElem? (i := 533) (by decide +kernel)⟩
theorem lw_p17 : lw_okq (⟨"ChangeUntangler$BestOrder", "nextAfter", "(I)I"⟩, 4) := ⟨⟨by decide +kernel, by decide +kernel⟩, List.mem_of_getElem? (i := 162) (by decide +kernel), List.mem_of_getElem? (i := 557) (by decide +kernel), List.mem_of_getElem? (i := 558) (by decide +kernel)⟩
theorem lw_p18 : lw_okq (⟨"ChangeUntangler$BestOrder", "walk", "()V"⟩, 4) := ⟨⟨by decide +kernel, by decide +kernel⟩, List.mem_of_getElem? (i := 162) (by decide +kernel), List.mem_of_getElem? (i := 569) (by decide +kernel), List.mem_of_getElem? (i := 570) (by decide +kernel)⟩
theorem lw_p19 : lw_okq (⟨"ChangeUntangler", "requireSet", "(II)V"⟩, 9) := ⟨⟨by decide +kernel, by decide +kernel⟩, List.mem_of_getElem? (i := 18) (by decide +kernel), List.mem_of_getElem? (i := 604) (by decide +kernel), List.mem_of_getElem? (i := 605) (by decide +kernel)⟩
theorem lw_p20 : lw_okq (⟨"ChangeUntangler$Sayings", "putOneWay", "(III)V"⟩, 2) := ⟨⟨by decide +kernel, by decide +kernel⟩, List.mem_of_getElem? (i := 93) (by decide +kernel), List.mem_of_getElem? (i := 651) (by decide +kernel), List.mem_of_getElem? (i := 652) (by decide +kernel)⟩
def lw_privs_2 : List (MethodName × Nat) := [(⟨"ChangeUntangler", "findBest", "()V"⟩, 9), (⟨"ChangeUntangler$BestOrder", "nextAfter", "(I)I"⟩, 4), (⟨"ChangeUntangler$BestOrder", "walk", "()V"⟩, 4), (⟨"ChangeUntangler", "requireSet", "(II)V"⟩, 9), (⟨"ChangeUntangler$Sayings", "putOneWay", "(III)V"⟩, 2)]
theorem lw_r2 : ∀ q ∈ lw_privs_2, lw_okq q := List.forall_mem_cons.mpr ⟨lw_p16, List.forall_mem_cons.mpr ⟨lw_p17, List.forall_mem_cons.mpr ⟨lw_p18, List.forall_mem_cons.mpr ⟨lw_p19, List.forall_mem_cons.mpr ⟨lw_p20, fun _ h => absurd h List.not_mem_nil⟩⟩⟩⟩⟩
def lw_privs : List (MethodName × Nat) := lw_privs_1 ++ (lw_privs_2)
def lw_tbl : List Cond := k2_sels lw_privs ++ tables_1
theorem lw_privs_ok : ∀ q ∈ lw_privs, lw_okq q := by
  show ∀ q ∈ lw_privs_1 ++ (lw_privs_2), lw_okq q
  exact List.forall_mem_append.mpr ⟨lw_r1, lw_r2⟩
end
section
def RX0 : String := "ChangeUntangler$BestOrder"
def TX0 : u_T := fun k => match k with
  | 0 => ("ChangeUntangler$BestOrder", "least", "I", false)
  | 1 => ("ChangeUntangler$BestOrder", "length", "I", false)
  | 2 => ("ChangeUntangler$BestOrder", "order", "[I", true)
  | _ => ("ChangeUntangler$BestOrder", "fromThen", "[I", true)
def tyX0 : Nat → FieldType := fun k => match k with
  | 0 => .int
  | 1 => .int
  | 2 => .array .int
  | _ => .array .int
abbrev wsX00 : List Cond := u_ws RX0 TX0 4
theorem nmX0 : ∀ a, a < 4 → ∀ b, b < 4 → a ≠ b → (TX0 a).2.1 ≠ (TX0 b).2.1 := by decide +kernel
theorem tyX0_ok : ∀ k, k < 4 → parseFieldDescriptor (TX0 k).2.2.1 = some (tyX0 k) := by decide +kernel
abbrev cX0_init : ByteArray := prog_2_method_1_code
def yX0_init : MethodName := ⟨RX0, "<init>", "()V"⟩
abbrev cX0_find : ByteArray := prog_2_method_2_code
def yX0_find : MethodName := ⟨RX0, "find", "(LChangeUntangler$Parcels;LChangeUntangler$Pieces;LChangeUntangler$Code;)V"⟩
abbrev cX0_walk : ByteArray := prog_2_method_3_code
def yX0_walk : MethodName := ⟨RX0, "walk", "()V"⟩
abbrev cX0_nextAfter : ByteArray := prog_2_method_4_code
def yX0_nextAfter : MethodName := ⟨RX0, "nextAfter", "(I)I"⟩
def RX1 : String := "ChangeUntangler$Code"
def TX1 : u_T := fun k => match k with
  | 0 => ("ChangeUntangler$Code", "definedNames", "I", false)
  | _ => ("ChangeUntangler$Code", "otherUses", "[I", true)
def tyX1 : Nat → FieldType := fun k => match k with
  | 0 => .int
  | _ => .array .int
abbrev wsX10 : List Cond := u_ws RX1 TX1 2
theorem nmX1 : ∀ a, a < 2 → ∀ b, b < 2 → a ≠ b → (TX1 a).2.1 ≠ (TX1 b).2.1 := by decide +kernel
theorem tyX1_ok : ∀ k, k < 2 → parseFieldDescriptor (TX1 k).2.2.1 = some (tyX1 k) := by decide +kernel
abbrev cX1_init : ByteArray := prog_3_method_1_code
def yX1_init : MethodName := ⟨RX1, "<init>", "()V"⟩
abbrev cX1_learn : ByteArray := prog_3_method_2_code
def yX1_learn : MethodName := ⟨RX1, "learn", "(IZI)Z"⟩
abbrev cX1_brokenBy : ByteArray := prog_3_method_3_code
def yX1_brokenBy : MethodName := ⟨RX1, "brokenBy", "(LChangeUntangler$Pieces;I)I"⟩
def RX2 : String := "ChangeUntangler$Evidence"
def TX2 : u_T := fun k => match k with
  | 0 => ("ChangeUntangler$Evidence", "weights", "[I", true)
  | _ => ("ChangeUntangler$Evidence", "span", "I", false)
def tyX2 : Nat → FieldType := fun k => match k with
  | 0 => .array .int
  | _ => .int
abbrev wsX20 : List Cond := u_ws RX2 TX2 2
theorem nmX2 : ∀ a, a < 2 → ∀ b, b < 2 → a ≠ b → (TX2 a).2.1 ≠ (TX2 b).2.1 := by decide +kernel
theorem tyX2_ok : ∀ k, k < 2 → parseFieldDescriptor (TX2 k).2.2.1 = some (tyX2 k) := by decide +kernel
abbrev cX2_init : ByteArray := prog_4_method_1_code
def yX2_init : MethodName := ⟨RX2, "<init>", "()V"⟩
abbrev cX2_pointsBy : ByteArray := prog_4_method_2_code
def yX2_pointsBy : MethodName := ⟨RX2, "pointsBy", "(ILChangeUntangler$Pieces;II)I"⟩
abbrev cX2_sumOfPoints : ByteArray := prog_4_method_3_code
def yX2_sumOfPoints : MethodName := ⟨RX2, "sumOfPoints", "(LChangeUntangler$Pieces;II)I"⟩
abbrev cX2_isNear : ByteArray := prog_4_method_4_code
def yX2_isNear : MethodName := ⟨RX2, "isNear", "(LChangeUntangler$Pieces;II)Z"⟩
abbrev cX2_shareOf : ByteArray := prog_4_method_5_code
def yX2_shareOf : MethodName := ⟨RX2, "shareOf", "(III)I"⟩
def RX3 : String := "ChangeUntangler$Groups"
def TX3 : u_T := fun k => match k with
  | 0 => ("ChangeUntangler$Groups", "threshold", "I", false)
  | 1 => ("ChangeUntangler$Groups", "manner", "I", false)
  | 2 => ("ChangeUntangler$Groups", "count", "I", false)
  | 3 => ("ChangeUntangler$Groups", "linkageOfLastJoin", "I", false)
  | 4 => ("ChangeUntangler$Groups", "sets", "[I", true)
  | _ => ("ChangeUntangler$Groups", "affinities", "[[I", true)
def tyX3 : Nat → FieldType := fun k => match k with
  | 0 => .int
  | 1 => .int
  | 2 => .int
  | 3 => .int
  | 4 => .array .int
  | _ => .array (.array .int)
abbrev wsX30 : List Cond := u_ws RX3 TX3 6
theorem nmX3 : ∀ a, a < 6 → ∀ b, b < 6 → a ≠ b → (TX3 a).2.1 ≠ (TX3 b).2.1 := by decide +kernel
theorem tyX3_ok : ∀ k, k < 6 → parseFieldDescriptor (TX3 k).2.2.1 = some (tyX3 k) := by decide +kernel
abbrev cX3_init : ByteArray := prog_5_method_1_code
def yX3_init : MethodName := ⟨RX3, "<init>", "()V"⟩
abbrev cX3_weighAll : ByteArray := prog_5_method_2_code
def yX3_weighAll : MethodName := ⟨RX3, "weighAll", "(LChangeUntangler$Pieces;LChangeUntangler$Evidence;)V"⟩
abbrev cX3_build : ByteArray := prog_5_method_3_code
def yX3_build : MethodName := ⟨RX3, "build", "(ILChangeUntangler$Sayings;)V"⟩
abbrev cX3_joinWhatMust : ByteArray := prog_5_method_4_code
def yX3_joinWhatMust : MethodName := ⟨RX3, "joinWhatMust", "(ILChangeUntangler$Sayings;)V"⟩
abbrev cX3_joinNearest : ByteArray := prog_5_method_5_code
def yX3_joinNearest : MethodName := ⟨RX3, "joinNearest", "(LChangeUntangler$Sayings;)Z"⟩
abbrev cX3_join : ByteArray := prog_5_method_6_code
def yX3_join : MethodName := ⟨RX3, "join", "(II)V"⟩
abbrev cX3_linkageOf : ByteArray := prog_5_method_7_code
def yX3_linkageOf : MethodName := ⟨RX3, "linkageOf", "(II)I"⟩
def RX4 : String := "ChangeUntangler$Parcels"
def TX4 : u_T := fun k => match k with
  | 0 => ("ChangeUntangler$Parcels", "count", "I", false)
  | 1 => ("ChangeUntangler$Parcels", "knotCount", "I", false)
  | 2 => ("ChangeUntangler$Parcels", "sets", "[I", true)
  | _ => ("ChangeUntangler$Parcels", "needed", "[I", true)
def tyX4 : Nat → FieldType := fun k => match k with
  | 0 => .int
  | 1 => .int
  | 2 => .array .int
  | _ => .array .int
abbrev wsX40 : List Cond := u_ws RX4 TX4 4
theorem nmX4 : ∀ a, a < 4 → ∀ b, b < 4 → a ≠ b → (TX4 a).2.1 ≠ (TX4 b).2.1 := by decide +kernel
theorem tyX4_ok : ∀ k, k < 4 → parseFieldDescriptor (TX4 k).2.2.1 = some (tyX4 k) := by decide +kernel
abbrev cX4_init : ByteArray := prog_6_method_1_code
def yX4_init : MethodName := ⟨RX4, "<init>", "()V"⟩
abbrev cX4_build : ByteArray := prog_6_method_2_code
def yX4_build : MethodName := ⟨RX4, "build", "(LChangeUntangler$Pieces;LChangeUntangler$Code;LChangeUntangler$Groups;)V"⟩
abbrev cX4_findNeeds : ByteArray := prog_6_method_3_code
def yX4_findNeeds : MethodName := ⟨RX4, "findNeeds", "(LChangeUntangler$Pieces;LChangeUntangler$Code;LChangeUntangler$Groups;)V"⟩
abbrev cX4_needByWayOfOthers : ByteArray := prog_6_method_4_code
def yX4_needByWayOfOthers : MethodName := ⟨RX4, "needByWayOfOthers", "(I)V"⟩
abbrev cX4_nextCircle : ByteArray := prog_6_method_5_code
def yX4_nextCircle : MethodName := ⟨RX4, "nextCircle", "(II)I"⟩
abbrev cX4_circleOf : ByteArray := prog_6_method_6_code
def yX4_circleOf : MethodName := ⟨RX4, "circleOf", "(II)I"⟩
abbrev cX4_append : ByteArray := prog_6_method_7_code
def yX4_append : MethodName := ⟨RX4, "append", "(ILChangeUntangler$Groups;)V"⟩
abbrev cX4_piecesIn : ByteArray := prog_6_method_8_code
def yX4_piecesIn : MethodName := ⟨RX4, "piecesIn", "(I)I"⟩
def RX5 : String := "ChangeUntangler$Pieces"
def TX5 : u_T := fun k => match k with
  | 0 => ("ChangeUntangler$Pieces", "count", "I", false)
  | 1 => ("ChangeUntangler$Pieces", "files", "[I", true)
  | 2 => ("ChangeUntangler$Pieces", "startLines", "[I", true)
  | 3 => ("ChangeUntangler$Pieces", "added", "[I", true)
  | 4 => ("ChangeUntangler$Pieces", "taken", "[I", true)
  | 5 => ("ChangeUntangler$Pieces", "purposes", "[I", true)
  | 6 => ("ChangeUntangler$Pieces", "namesOf", "[[I", true)
  | _ => ("ChangeUntangler$Pieces", "piecesWith", "[[I", true)
def tyX5 : Nat → FieldType := fun k => match k with
  | 0 => .int
  | 1 => .array .int
  | 2 => .array .int
  | 3 => .array .int
  | 4 => .array .int
  | 5 => .array .int
  | 6 => .array (.array .int)
  | _ => .array (.array .int)
abbrev wsX50 : List Cond := u_ws RX5 TX5 8
theorem nmX5 : ∀ a, a < 8 → ∀ b, b < 8 → a ≠ b → (TX5 a).2.1 ≠ (TX5 b).2.1 := by decide +kernel
theorem tyX5_ok : ∀ k, k < 8 → parseFieldDescriptor (TX5 k).2.2.1 = some (tyX5 k) := by decide +kernel
abbrev cX5_init : ByteArray := prog_7_method_1_code
def yX5_init : MethodName := ⟨RX5, "<init>", "()V"⟩
abbrev cX5_has : ByteArray := prog_7_method_2_code
def yX5_has : MethodName := ⟨RX5, "has", "(I)Z"⟩
abbrev cX5_all : ByteArray := prog_7_method_3_code
def yX5_all : MethodName := ⟨RX5, "all", "()I"⟩
abbrev cX5_append : ByteArray := prog_7_method_4_code
def yX5_append : MethodName := ⟨RX5, "append", "(IIII)I"⟩
abbrev cX5_replaceNames : ByteArray := prog_7_method_6_code
def yX5_replaceNames : MethodName := ⟨RX5, "replaceNames", "(III)I"⟩
abbrev cX5_everyNameOf : ByteArray := prog_7_method_7_code
def yX5_everyNameOf : MethodName := ⟨RX5, "everyNameOf", "(I)I"⟩
abbrev cX5_crossings : ByteArray := prog_7_method_8_code
def yX5_crossings : MethodName := ⟨RX5, "crossings", "(IIII)I"⟩
abbrev cX5_isNeeded : ByteArray := prog_7_method_9_code
def yX5_isNeeded : MethodName := ⟨RX5, "isNeeded", "(III)Z"⟩
abbrev cX5_neededBy : ByteArray := prog_7_method_10_code
def yX5_neededBy : MethodName := ⟨RX5, "neededBy", "(II)I"⟩
abbrev cX5_linesOf : ByteArray := prog_7_method_11_code
def yX5_linesOf : MethodName := ⟨RX5, "linesOf", "(I)I"⟩
def RX6 : String := "ChangeUntangler$Sayings"
def TX6 : u_T := fun k => match k with
  | 0 => ("ChangeUntangler$Sayings", "must", "[I", true)
  | _ => ("ChangeUntangler$Sayings", "mustNot", "[I", true)
def tyX6 : Nat → FieldType := fun k => match k with
  | 0 => .array .int
  | _ => .array .int
abbrev wsX60 : List Cond := u_ws RX6 TX6 2
theorem nmX6 : ∀ a, a < 2 → ∀ b, b < 2 → a ≠ b → (TX6 a).2.1 ≠ (TX6 b).2.1 := by decide +kernel
theorem tyX6_ok : ∀ k, k < 2 → parseFieldDescriptor (TX6 k).2.2.1 = some (tyX6 k) := by decide +kernel
abbrev cX6_init : ByteArray := prog_8_method_1_code
def yX6_init : MethodName := ⟨RX6, "<init>", "()V"⟩
abbrev cX6_saidOf : ByteArray := prog_8_method_2_code
def yX6_saidOf : MethodName := ⟨RX6, "saidOf", "(II)I"⟩
abbrev cX6_put : ByteArray := prog_8_method_3_code
def yX6_put : MethodName := ⟨RX6, "put", "(III)V"⟩
abbrev cX6_putOneWay : ByteArray := prog_8_method_4_code
def yX6_putOneWay : MethodName := ⟨RX6, "putOneWay", "(III)V"⟩
abbrev cX6_joinedTo : ByteArray := prog_8_method_6_code
def yX6_joinedTo : MethodName := ⟨RX6, "joinedTo", "(I)I"⟩
abbrev cX6_isContradiction : ByteArray := prog_8_method_7_code
def yX6_isContradiction : MethodName := ⟨RX6, "isContradiction", "()Z"⟩
abbrev cX6_isForbidden : ByteArray := prog_8_method_8_code
def yX6_isForbidden : MethodName := ⟨RX6, "isForbidden", "(II)Z"⟩
def RX7 : String := "ChangeUntangler"
def TX7 : u_T := fun k => match k with
  | 0 => ("ChangeUntangler", "pieces", "LChangeUntangler$Pieces;", true)
  | 1 => ("ChangeUntangler", "code", "LChangeUntangler$Code;", true)
  | 2 => ("ChangeUntangler", "evidence", "LChangeUntangler$Evidence;", true)
  | 3 => ("ChangeUntangler", "sayings", "LChangeUntangler$Sayings;", true)
  | 4 => ("ChangeUntangler", "groups", "LChangeUntangler$Groups;", true)
  | 5 => ("ChangeUntangler", "parcels", "LChangeUntangler$Parcels;", true)
  | 6 => ("ChangeUntangler", "bestOrder", "LChangeUntangler$BestOrder;", true)
  | 7 => ("ChangeUntangler", "isPutTogether", "Z", false)
  | _ => ("ChangeUntangler", "isBestKnown", "Z", false)
def tyX7 : Nat → FieldType := fun k => match k with
  | 0 => .object "ChangeUntangler$Pieces"
  | 1 => .object "ChangeUntangler$Code"
  | 2 => .object "ChangeUntangler$Evidence"
  | 3 => .object "ChangeUntangler$Sayings"
  | 4 => .object "ChangeUntangler$Groups"
  | 5 => .object "ChangeUntangler$Parcels"
  | 6 => .object "ChangeUntangler$BestOrder"
  | 7 => .boolean
  | _ => .boolean
abbrev wsX70 : List Cond := u_ws RX7 TX7 9
theorem nmX7 : ∀ a, a < 9 → ∀ b, b < 9 → a ≠ b → (TX7 a).2.1 ≠ (TX7 b).2.1 := by decide +kernel
theorem tyX7_ok : ∀ k, k < 9 → parseFieldDescriptor (TX7 k).2.2.1 = some (tyX7 k) := by decide +kernel
abbrev cX7_init : ByteArray := prog_1_method_1_code
def yX7_init : MethodName := ⟨RX7, "<init>", "()V"⟩
abbrev cX7_addPiece : ByteArray := prog_1_method_2_code
def yX7_addPiece : MethodName := ⟨RX7, "addPiece", "(IIII)I"⟩
abbrev cX7_setNames : ByteArray := prog_1_method_3_code
def yX7_setNames : MethodName := ⟨RX7, "setNames", "(III)I"⟩
abbrev cX7_setName : ByteArray := prog_1_method_5_code
def yX7_setName : MethodName := ⟨RX7, "setName", "(IZI)Z"⟩
abbrev cX7_pieceCount : ByteArray := prog_1_method_7_code
def yX7_pieceCount : MethodName := ⟨RX7, "pieceCount", "()I"⟩
abbrev cX7_setThreshold : ByteArray := prog_1_method_13_code
def yX7_setThreshold : MethodName := ⟨RX7, "setThreshold", "(I)I"⟩
abbrev cX7_setManner : ByteArray := prog_1_method_14_code
def yX7_setManner : MethodName := ⟨RX7, "setManner", "(I)I"⟩
abbrev cX7_say : ByteArray := prog_1_method_15_code
def yX7_say : MethodName := ⟨RX7, "say", "(III)I"⟩
abbrev cX7_groupCount : ByteArray := prog_1_method_16_code
def yX7_groupCount : MethodName := ⟨RX7, "groupCount", "()I"⟩
abbrev cX7_group : ByteArray := prog_1_method_17_code
def yX7_group : MethodName := ⟨RX7, "group", "(I)I"⟩
abbrev cX7_groupOf : ByteArray := prog_1_method_18_code
def yX7_groupOf : MethodName := ⟨RX7, "groupOf", "(I)I"⟩
abbrev cX7_linkage : ByteArray := prog_1_method_19_code
def yX7_linkage : MethodName := ⟨RX7, "linkage", "(II)I"⟩
abbrev cX7_lastLinkage : ByteArray := prog_1_method_20_code
def yX7_lastLinkage : MethodName := ⟨RX7, "lastLinkage", "()I"⟩
abbrev cX7_needs : ByteArray := prog_1_method_21_code
def yX7_needs : MethodName := ⟨RX7, "needs", "(II)Z"⟩
abbrev cX7_parcelCount : ByteArray := prog_1_method_22_code
def yX7_parcelCount : MethodName := ⟨RX7, "parcelCount", "()I"⟩
abbrev cX7_parcel : ByteArray := prog_1_method_23_code
def yX7_parcel : MethodName := ⟨RX7, "parcel", "(I)I"⟩
abbrev cX7_parcelOf : ByteArray := prog_1_method_24_code
def yX7_parcelOf : MethodName := ⟨RX7, "parcelOf", "(I)I"⟩
abbrev cX7_knots : ByteArray := prog_1_method_25_code
def yX7_knots : MethodName := ⟨RX7, "knots", "()I"⟩
abbrev cX7_lines : ByteArray := prog_1_method_26_code
def yX7_lines : MethodName := ⟨RX7, "lines", "(I)I"⟩
abbrev cX7_broken : ByteArray := prog_1_method_27_code
def yX7_broken : MethodName := ⟨RX7, "broken", "(I)I"⟩
abbrev cX7_breakage : ByteArray := prog_1_method_28_code
def yX7_breakage : MethodName := ⟨RX7, "breakage", "()I"⟩
abbrev cX7_leastBreakage : ByteArray := prog_1_method_29_code
def yX7_leastBreakage : MethodName := ⟨RX7, "leastBreakage", "()I"⟩
abbrev cX7_best : ByteArray := prog_1_method_30_code
def yX7_best : MethodName := ⟨RX7, "best", "(I)I"⟩
abbrev cX7_forgetResults : ByteArray := prog_1_method_34_code
def yX7_forgetResults : MethodName := ⟨RX7, "forgetResults", "()V"⟩
abbrev cX7_putTogether : ByteArray := prog_1_method_35_code
def yX7_putTogether : MethodName := ⟨RX7, "putTogether", "()V"⟩
abbrev cX7_breakageInOrder : ByteArray := prog_1_method_36_code
def yX7_breakageInOrder : MethodName := ⟨RX7, "breakageInOrder", "()I"⟩
abbrev cX7_findBest : ByteArray := prog_1_method_37_code
def yX7_findBest : MethodName := ⟨RX7, "findBest", "()V"⟩
abbrev cX7_requirePiece : ByteArray := prog_1_method_38_code
def yX7_requirePiece : MethodName := ⟨RX7, "requirePiece", "(I)V"⟩
abbrev cX7_requireSet : ByteArray := prog_1_method_39_code
def yX7_requireSet : MethodName := ⟨RX7, "requireSet", "(II)V"⟩
abbrev cX7_requireGroup : ByteArray := prog_1_method_40_code
def yX7_requireGroup : MethodName := ⟨RX7, "requireGroup", "(I)V"⟩
abbrev cX7_requireParcel : ByteArray := prog_1_method_41_code
def yX7_requireParcel : MethodName := ⟨RX7, "requireParcel", "(I)V"⟩
abbrev cX7_requireDifferent : ByteArray := prog_1_method_43_code
def yX7_requireDifferent : MethodName := ⟨RX7, "requireDifferent", "(II)V"⟩
abbrev cX7_isUpTo : ByteArray := prog_1_method_44_code
def yX7_isUpTo : MethodName := ⟨RX7, "isUpTo", "(II)Z"⟩
abbrev cX7_isIn : ByteArray := prog_1_method_45_code
def yX7_isIn : MethodName := ⟨RX7, "isIn", "(II)Z"⟩
abbrev cX7_placeOf : ByteArray := prog_1_method_46_code
def yX7_placeOf : MethodName := ⟨RX7, "placeOf", "(I[II)I"⟩
def RX8 : String := "ChangeUntanglerModel"
def TX8 : u_T := fun k => match k with
  | _ => ("", "", "", false)
def tyX8 : Nat → FieldType := fun k => match k with
  | _ => .int
abbrev wsX80 : List Cond := u_ws RX8 TX8 0
theorem nmX8 : ∀ a, a < 0 → ∀ b, b < 0 → a ≠ b → (TX8 a).2.1 ≠ (TX8 b).2.1 := by decide +kernel
theorem tyX8_ok : ∀ k, k < 0 → parseFieldDescriptor (TX8 k).2.2.1 = some (tyX8 k) := by decide +kernel
def RJ6 : String := "java/lang/Integer"
abbrev cJ6_numberOfTrailingZeros_0f7a4 : ByteArray := prog_15_method_48_code
def yJ6_numberOfTrailingZeros_0f7a4 : MethodName := ⟨RJ6, "numberOfTrailingZeros", "(I)I"⟩
abbrev cJ6_bitCount_0f7a4 : ByteArray := prog_15_method_49_code
def yJ6_bitCount_0f7a4 : MethodName := ⟨RJ6, "bitCount", "(I)I"⟩
def RJ9 : String := "java/lang/Math"
abbrev cJ9_abs_0f7a4 : ByteArray := prog_16_method_59_code
def yJ9_abs_0f7a4 : MethodName := ⟨RJ9, "abs", "(I)I"⟩
abbrev cJ9_max_7cf53 : ByteArray := prog_16_method_65_code
def yJ9_max_7cf53 : MethodName := ⟨RJ9, "max", "(II)I"⟩
abbrev cJ9_min_7cf53 : ByteArray := prog_16_method_69_code
def yJ9_min_7cf53 : MethodName := ⟨RJ9, "min", "(II)I"⟩
def RJ0 : String := "java/lang/String"
def RL : String := "ChangeUntanglerLaw"
abbrev cL_below : ByteArray := method_2_code
def yL_below : MethodName := ⟨RL, "below", "(II)I"⟩
abbrev cL_cell : ByteArray := method_3_code
def yL_cell : MethodName := ⟨RL, "cell", "([II)I"⟩
abbrev cL_build : ByteArray := method_4_code
def yL_build : MethodName := ⟨RL, "build", "(LChangeUntangler;[III[I[I)I"⟩
abbrev cL_speak : ByteArray := method_5_code
def yL_speak : MethodName := ⟨RL, "speak", "(LChangeUntangler;[III[I)Z"⟩
abbrev cL_classes : ByteArray := method_6_code
def yL_classes : MethodName := ⟨RL, "classes", "(I[I)[I"⟩
abbrev cL_law : ByteArray := code
def yL_law : MethodName := ⟨RL, "law", "([I)Z"⟩
abbrev zcl : List vw_C := [(RX0, TX0, 4), (RX1, TX1, 2), (RX2, TX2, 2), (RX3, TX3, 6), (RX4, TX4, 4), (RX5, TX5, 8), (RX6, TX6, 2), (RX7, TX7, 9), (RX8, TX8, 0)]
theorem z_in0 : ∀ w ∈ wsX00, w ∈ lw_tbl := by decide +kernel
theorem z_in1 : ∀ w ∈ wsX10, w ∈ lw_tbl := by decide +kernel
theorem z_in2 : ∀ w ∈ wsX20, w ∈ lw_tbl := by decide +kernel
theorem z_in3 : ∀ w ∈ wsX30, w ∈ lw_tbl := by decide +kernel
theorem z_in4 : ∀ w ∈ wsX40, w ∈ lw_tbl := by decide +kernel
theorem z_in5 : ∀ w ∈ wsX50, w ∈ lw_tbl := by decide +kernel
theorem z_in6 : ∀ w ∈ wsX60, w ∈ lw_tbl := by decide +kernel
theorem z_in7 : ∀ w ∈ wsX70, w ∈ lw_tbl := by decide +kernel
theorem z_in8 : ∀ w ∈ wsX80, w ∈ lw_tbl := by decide +kernel
end
section
def zz_nest : List (String × Nat × MethodName × String) := [("ChangeUntangler", 11, ⟨"ChangeUntangler$Pieces", "<init>", "()V"⟩, "ChangeUntangler"), ("ChangeUntangler", 18, ⟨"ChangeUntangler$Code", "<init>", "()V"⟩, "ChangeUntangler"), ("ChangeUntangler", 32, ⟨"ChangeUntangler$Sayings", "<init>", "()V"⟩, "ChangeUntangler"), ("ChangeUntangler", 39, ⟨"ChangeUntangler$Groups", "<init>", "()V"⟩, "ChangeUntangler"), ("ChangeUntangler", 46, ⟨"ChangeUntangler$Parcels", "<init>", "()V"⟩, "ChangeUntangler"), ("ChangeUntangler", 53, ⟨"ChangeUntangler$BestOrder", "<init>", "()V"⟩, "ChangeUntangler"), ("ChangeUntangler$Sayings", 18, ⟨"ChangeUntangler", "isIn", "(II)Z"⟩, "ChangeUntangler"), ("ChangeUntangler$Groups", 69, ⟨"ChangeUntangler", "isIn", "(II)Z"⟩, "ChangeUntangler"), ("ChangeUntangler$Pieces", 49, ⟨"ChangeUntangler", "isIn", "(II)Z"⟩, "ChangeUntangler"), ("ChangeUntangler$Parcels", 55, ⟨"ChangeUntangler", "isIn", "(II)Z"⟩, "ChangeUntangler"), ("ChangeUntangler$BestOrder", 58, ⟨"ChangeUntangler", "isIn", "(II)Z"⟩, "ChangeUntangler"), ("ChangeUntangler$Code", 19, ⟨"ChangeUntangler", "isIn", "(II)Z"⟩, "ChangeUntangler")]
def zz_exc : List String := ["java/lang/IllegalArgumentException", "java/lang/IllegalStateException", "java/lang/IndexOutOfBoundsException"]
def zz_nocast : List (String × String) := [("java/lang/IllegalArgumentException", "java/lang/IllegalStateException"), ("java/lang/IndexOutOfBoundsException", "java/lang/IllegalStateException")]
def zz_decl : List MethodName := [⟨"java/lang/RuntimeException", "<init>", "(Ljava/lang/String;)V"⟩, ⟨"java/lang/Exception", "<init>", "(Ljava/lang/String;)V"⟩, ⟨"java/lang/Throwable", "<init>", "(Ljava/lang/String;)V"⟩]
def zz_str : List (String × Nat × String) := [("ChangeUntangler", 150, "no such threshold"), ("ChangeUntangler", 155, "no such manner"), ("ChangeUntangler", 304, "no such group"), ("ChangeUntangler", 300, "no such piece"), ("ChangeUntangler", 190, "the same group twice"), ("ChangeUntangler", 310, "the same piece twice"), ("ChangeUntangler", 306, "no such parcel"), ("ChangeUntangler", 221, "not a set of pieces"), ("ChangeUntangler", 290, "too many parcels"), ("ChangeUntangler", 239, "no such place"), ("ChangeUntangler", 64, "no such file or line"), ("ChangeUntangler", 69, "no such number of lines"), ("ChangeUntangler", 77, "no room for another piece"), ("ChangeUntangler", 302, "no such set of names of a piece"), ("ChangeUntangler", 92, "no such set of names"), ("ChangeUntangler", 104, "no such name"), ("ChangeUntangler", 107, "no such number of uses"), ("ChangeUntangler", 160, "nothing that can be said"), ("ChangeUntangler", 174, "pieces would be joined that must not be together")]
/-! ===== the bundled judgement: a walk with everything static in one premise, and everything that moves in the goal ===== -/
/-- the numbers of the array classes: int[], long[], boolean[], int[][] -/
abbrev zz_U : Type := ClassId × ClassId × ClassId × ClassId
abbrev zz_tys (U : zz_U) : List (ClassId × FieldType) := [(U.1, .int), (U.2.2.2, .array .int)]
/-- what the tables say, and every warming of them keeps -/
def zz_F (V : State) : Prop := (∀ w ∈ lw_tbl, goodWord w = true → ∀ a, w.before a V = true) ∧ (∀ q ∈ zz_nest, va_Nw (.methodLinkNest q.1 q.2.1 q.2.2.1 q.2.2.2) V) ∧ (∀ E ∈ zz_exc, va_Nw (.castable E E) V) ∧ (∀ q ∈ zz_nocast, va_Nc q.1 q.2 V) ∧ (∀ q ∈ zz_str, ∃ a, vk_R q.1 q.2.1 q.2.2 a V) ∧ (∀ y ∈ zz_decl, va_Nw (.declares y) V) ∧ va_AOA .int V
theorem zz_warmD {y : MethodName} {s V : State} (hW : s.WarmedH V.vm) (h : va_Nw (.declares y) s) : va_Nw (.declares y) V := va_tabs rfl (rfl : (s.setVm V.vm).vm = V.vm) (by rw [Cond.declares_setVm hW.alike]; exact h)
theorem zz_F.warm {s V : State} (hW : s.WarmedH V.vm) (h : zz_F s) : zz_F V := by
  obtain ⟨h1, h2, h3, h4, h5, h6, h7⟩ := h
  refine ⟨fun w hw hg a => word_at hW (good_of_word hg) (h1 w hw hg a), fun q hq => va_Nw.warmM hW (h2 q hq), fun E hE => va_Nw.warmC hW (h3 E hE), fun q hq => va_Nc.moved hW.alike (h4 q hq), fun q hq => ?_, fun y hy => zz_warmD hW (h6 y hy), va_AOA.moved hW.alike h7⟩
  obtain ⟨a, ha⟩ := h5 q hq
  exact ⟨a, vk_R.warm hW ha⟩
theorem zz_F.same {u V : State} (hv : u.vm = V.vm) (h : zz_F u) : zz_F V := zz_F.warm (by rw [← hv]; exact State.WarmedH.refl u) h
/-- the two statics that every throwable reads -/
def zz_S (A : Nat → Prop) (V : State) (H : Heap) : Prop := vx_Zq Bundle.tN "UNASSIGNED_STACK" Bundle.steD A V H ∧ vx_Zq Bundle.tN "SUPPRESSED_SENTINEL" Bundle.listD A V H
/-- all that stays during a method's walk -/
def zz_C (p : Program) (l : Launch) (R : Room) (s : State) (m : MethodId) (meth : Method) (c : Code) (D : va_G) (U : zz_U) (A : Nat → Prop) (own : String) (cc : ByteArray) (nL : Nat) (ret : Option FieldType) (hh : List (Nat × Nat × Nat × Nat)) (d : Nat) : Prop :=
  p.tables.exec = Jvm.exec ∧ c.code = cc ∧ c.maxLocals = nL ∧ s.vm.findClass own = some m.cls ∧ zz_F s ∧ meth.locks = false ∧ l.stackTraces = false ∧ va_K D zcl (zz_tys U) s ∧ (∀ q, s.heap.size ≤ q → A q) ∧ zz_S A s s.heap ∧ d ≤ R.frames ∧ 36 * d ≤ R.locals ∧ meth.sig.returnType = ret ∧ c.exceptionTable.toList = tableOf hh
def zz_Z (p : Program) (l : Launch) (e : Env) (R : Room) (s : State) (m : MethodId) (args : Array Value) (below : List Frame) (meth : Method) (c : Code) (Q : State → Prop) (D : va_G) (A : Nat → Prop) (nL cells slots : Nat) (ws : va_W) (pc : Nat) (lv : List (Nat × Value)) (st : List Value) : Prop :=
  ∀ (H : Heap) (locs : List Loc) (ls : Array Slot), va_P D zcl ws H → va_D A ws → va_S A s.heap H locs → lv_has ls nL lv → W p l e R s m args below meth c H locs cells slots Q (F0 m pc ls st)
/-- .. with E thrown over the frame -/
def zz_X (p : Program) (l : Launch) (e : Env) (R : Room) (s : State) (m : MethodId) (args : Array Value) (below : List Frame) (meth : Method) (c : Code) (Q : State → Prop) (D : va_G) (A : Nat → Prop) (nL cells slots : Nat) (ws : va_W) (pc : Nat) (lv : List (Nat × Value)) (st : List Value) (E : String) : Prop :=
  ∀ (H : Heap) (locs : List Loc) (ls : Array Slot) (q : Addr) (ce : Cell), va_P D zcl ws H → va_D A ws → va_S A s.heap H locs → lv_has ls nL lv → H[q]? = some ce → ce.vm = .none → s.vm.findClass E = some ce.cls → vx_W p l e R s m args below meth c H locs cells slots Q (F0 m pc ls st) q
section ZZ
variable {p : Program} {l : Launch} {e : Env} {R : Room} {s : State} {m : MethodId} {args : Array Value} {below : List Frame} {meth : Method} {c : Code} {Q : State → Prop} {D : va_G} {U : zz_U} {A : Nat → Prop} {own : String} {cc : ByteArray} {nL d cells slots pc : Nat} {ret : Option FieldType} {hh : List (Nat × Nat × Nat × Nat)} {lv : List (Nat × Value)} {st : List Value} {ws : va_W}
theorem zz_C.x (C : zz_C p l R s m meth c D U A own cc nL ret hh d) : p.tables.exec = Jvm.exec := C.1
theorem zz_C.b (C : zz_C p l R s m meth c D U A own cc nL ret hh d) : c.code = cc := C.2.1
theorem zz_C.ml (C : zz_C p l R s m meth c D U A own cc nL ret hh d) : c.maxLocals = nL := C.2.2.1
theorem zz_C.ow (C : zz_C p l R s m meth c D U A own cc nL ret hh d) : s.vm.findClass own = some m.cls := C.2.2.2.1
theorem zz_C.F (C : zz_C p l R s m meth c D U A own cc nL ret hh d) : zz_F s := C.2.2.2.2.1
theorem zz_C.lk (C : zz_C p l R s m meth c D U A own cc nL ret hh d) : meth.locks = false := C.2.2.2.2.2.1
theorem zz_C.tr (C : zz_C p l R s m meth c D U A own cc nL ret hh d) : l.stackTraces = false := C.2.2.2.2.2.2.1
theorem zz_C.K (C : zz_C p l R s m meth c D U A own cc nL ret hh d) : va_K D zcl (zz_tys U) s := C.2.2.2.2.2.2.2.1
theorem zz_C.hA (C : zz_C p l R s m meth c D U A own cc nL ret hh d) : ∀ q, s.heap.size ≤ q → A q := C.2.2.2.2.2.2.2.2.1
theorem zz_C.S (C : zz_C p l R s m meth c D U A own cc nL ret hh d) : zz_S A s s.heap := C.2.2.2.2.2.2.2.2.2.1
theorem zz_C.fr (C : zz_C p l R s m meth c D U A own cc nL ret hh d) : d ≤ R.frames := C.2.2.2.2.2.2.2.2.2.2.1
theorem zz_C.lo (C : zz_C p l R s m meth c D U A own cc nL ret hh d) : 36 * d ≤ R.locals := C.2.2.2.2.2.2.2.2.2.2.2.1
theorem zz_C.r (C : zz_C p l R s m meth c D U A own cc nL ret hh d) : meth.sig.returnType = ret := C.2.2.2.2.2.2.2.2.2.2.2.2.1
theorem zz_C.t (C : zz_C p l R s m meth c D U A own cc nL ret hh d) : c.exceptionTable.toList = tableOf hh := C.2.2.2.2.2.2.2.2.2.2.2.2.2
/-- a good word of the tables -/
theorem zz_C.w (C : zz_C p l R s m meth c D U A own cc nL ret hh d) {w : Cond} (h : w ∈ lw_tbl ∧ goodWord w = true) {a : Array Value} : w.before a s = true := C.F.1 w h.1 h.2 a
theorem zz_ws (C : zz_C p l R s m meth c D U A own cc nL ret hh d) {L : List Cond} (h : ∀ w ∈ L, w ∈ lw_tbl) (h2 : L.all goodWord = true) {a : Array Value} : ∀ w ∈ L, w.before a s = true := fun w hw => C.F.1 w (h w hw) (List.all_eq_true.mp h2 w hw) a
/-- fewer locals -/
theorem zz_sub (ks : List Nat) {lv' : List (Nat × Value)} (h : lv_pick lv ks = lv') (k : zz_Z p l e R s m args below meth c Q D A nL cells slots ws pc lv' st) : zz_Z p l e R s m args below meth c Q D A nL cells slots ws pc lv st := fun H locs ls hP hD hS hl => k H locs ls hP hD hS (lv_sub hl ks h)
/-- the world by another name -/
theorem zz_ren {ws' : va_W} (h : ws = ws') (k : zz_Z p l e R s m args below meth c Q D A nL cells slots ws' pc lv st) : zz_Z p l e R s m args below meth c Q D A nL cells slots ws pc lv st := h ▸ k
theorem zz_widen {k n : Nat} (h1 : cells ≤ k) (h2 : slots ≤ n) (kk : zz_Z p l e R s m args below meth c Q D A nL k n ws pc lv st) : zz_Z p l e R s m args below meth c Q D A nL cells slots ws pc lv st := fun H locs ls hP hD hS hl => W.widen h1 h2 (kk H locs ls hP hD hS hl)
def zz_max (x y : Int32) : Int32 := if x < y then y else x
def zz_min (x y : Int32) : Int32 := if y < x then y else x
def zz_abs (x : Int32) : Int32 := if 0 ≤ x then x else 0 - x
def zz_ushr (x y : Int32) : Int32 := (x.toUInt32 >>> (y.toUInt32 &&& Int32.toUInt32 31)).toInt32
theorem zz_iconst (C : zz_C p l R s m meth c D U A own cc nL ret hh d) {n : Int} {v : Int32} (hdg : decode cc pc = .ok (.iconst n, 1)) (hv : Int32.ofInt n = v) (k : zz_Z p l e R s m args below meth c Q D A nL cells slots ws (pc + 1) lv (.int v :: st)) : zz_Z p l e R s m args below meth c Q D A nL cells slots ws (pc) lv (st) := fun H locs ls hP hD hS hl => lv_iconst C.x C.b hdg hv (k H locs ls hP hD hS hl)
theorem zz_bipush (C : zz_C p l R s m meth c D U A own cc nL ret hh d) {n : Int} {v : Int32} (hdg : decode cc pc = .ok (.bipush n, 2)) (hv : (Int8.ofInt n).toInt32 = v) (k : zz_Z p l e R s m args below meth c Q D A nL cells slots ws (pc + 2) lv (.int v :: st)) : zz_Z p l e R s m args below meth c Q D A nL cells slots ws (pc) lv (st) := fun H locs ls hP hD hS hl => lv_bipush C.x C.b hdg hv (k H locs ls hP hD hS hl)
theorem zz_sipush (C : zz_C p l R s m meth c D U A own cc nL ret hh d) {n : Int} {v : Int32} (hdg : decode cc pc = .ok (.sipush n, 3)) (hv : (Int16.ofInt n).toInt32 = v) (k : zz_Z p l e R s m args below meth c Q D A nL cells slots ws (pc + 3) lv (.int v :: st)) : zz_Z p l e R s m args below meth c Q D A nL cells slots ws (pc) lv (st) := fun H locs ls hP hD hS hl => lv_sipush C.x C.b hdg hv (k H locs ls hP hD hS hl)
theorem zz_lconst (C : zz_C p l R s m meth c D U A own cc nL ret hh d) {n : Fin 2} {v : Int64} (hdg : decode cc pc = .ok (.lconst n, 1)) (hv : Int64.ofNat (n : Nat) = v) (k : zz_Z p l e R s m args below meth c Q D A nL cells slots ws (pc + 1) lv (.long v :: st)) : zz_Z p l e R s m args below meth c Q D A nL cells slots ws (pc) lv (st) := fun H locs ls hP hD hS hl => lv_lconst C.x C.b hdg hv (k H locs ls hP hD hS hl)
theorem zz_iload_n (C : zz_C p l R s m meth c D U A own cc nL ret hh d) {q : Fin 4} {i : Nat} {x : Int32} (j : Nat) (hdg : decode cc pc = .ok (.iload_n q, 1)) (hi : (q : Nat) = i) (hk : lv[j]? = some (i, .int x)) (k : zz_Z p l e R s m args below meth c Q D A nL cells slots ws (pc + 1) lv (.int x :: st)) : zz_Z p l e R s m args below meth c Q D A nL cells slots ws (pc) lv (st) := fun H locs ls hP hD hS hl => lv_iload_n C.x C.b hdg hi (lv_at hl j hk) (k H locs ls hP hD hS hl)
theorem zz_iload (C : zz_C p l R s m meth c D U A own cc nL ret hh d) {i : Nat} {x : Int32} (j : Nat) (hdg : decode cc pc = .ok (.iload i, 2)) (hk : lv[j]? = some (i, .int x)) (k : zz_Z p l e R s m args below meth c Q D A nL cells slots ws (pc + 2) lv (.int x :: st)) : zz_Z p l e R s m args below meth c Q D A nL cells slots ws (pc) lv (st) := fun H locs ls hP hD hS hl => lv_iload C.x C.b hdg (lv_at hl j hk) (k H locs ls hP hD hS hl)
theorem zz_lload_n (C : zz_C p l R s m meth c D U A own cc nL ret hh d) {q : Fin 4} {i : Nat} {x : Int64} (j : Nat) (hdg : decode cc pc = .ok (.lload_n q, 1)) (hi : (q : Nat) = i) (hk : lv[j]? = some (i, .long x)) (k : zz_Z p l e R s m args below meth c Q D A nL cells slots ws (pc + 1) lv (.long x :: st)) : zz_Z p l e R s m args below meth c Q D A nL cells slots ws (pc) lv (st) := fun H locs ls hP hD hS hl => lv_lload_n C.x C.b hdg hi (lv_at hl j hk) (k H locs ls hP hD hS hl)
theorem zz_lload (C : zz_C p l R s m meth c D U A own cc nL ret hh d) {i : Nat} {x : Int64} (j : Nat) (hdg : decode cc pc = .ok (.lload i, 2)) (hk : lv[j]? = some (i, .long x)) (k : zz_Z p l e R s m args below meth c Q D A nL cells slots ws (pc + 2) lv (.long x :: st)) : zz_Z p l e R s m args below meth c Q D A nL cells slots ws (pc) lv (st) := fun H locs ls hP hD hS hl => lv_lload C.x C.b hdg (lv_at hl j hk) (k H locs ls hP hD hS hl)
theorem zz_aload_n (C : zz_C p l R s m meth c D U A own cc nL ret hh d) {q : Fin 4} {i : Nat} {x : Nat} (j : Nat) (hdg : decode cc pc = .ok (.aload_n q, 1)) (hi : (q : Nat) = i) (hk : lv[j]? = some (i, .ref x)) (k : zz_Z p l e R s m args below meth c Q D A nL cells slots ws (pc + 1) lv (.ref x :: st)) : zz_Z p l e R s m args below meth c Q D A nL cells slots ws (pc) lv (st) := fun H locs ls hP hD hS hl => lv_aload_n C.x C.b hdg hi (lv_at hl j hk) (k H locs ls hP hD hS hl)
theorem zz_aload (C : zz_C p l R s m meth c D U A own cc nL ret hh d) {i : Nat} {x : Nat} (j : Nat) (hdg : decode cc pc = .ok (.aload i, 2)) (hk : lv[j]? = some (i, .ref x)) (k : zz_Z p l e R s m args below meth c Q D A nL cells slots ws (pc + 2) lv (.ref x :: st)) : zz_Z p l e R s m args below meth c Q D A nL cells slots ws (pc) lv (st) := fun H locs ls hP hD hS hl => lv_aload C.x C.b hdg (lv_at hl j hk) (k H locs ls hP hD hS hl)
theorem zz_dload_n (C : zz_C p l R s m meth c D U A own cc nL ret hh d) {q : Fin 4} {i : Nat} {x : UInt64} (j : Nat) (hdg : decode cc pc = .ok (.dload_n q, 1)) (hi : (q : Nat) = i) (hk : lv[j]? = some (i, .double x)) (k : zz_Z p l e R s m args below meth c Q D A nL cells slots ws (pc + 1) lv (.double x :: st)) : zz_Z p l e R s m args below meth c Q D A nL cells slots ws (pc) lv (st) := fun H locs ls hP hD hS hl => lv_dload_n C.x C.b hdg hi (lv_at hl j hk) (k H locs ls hP hD hS hl)
theorem zz_dload (C : zz_C p l R s m meth c D U A own cc nL ret hh d) {i : Nat} {x : UInt64} (j : Nat) (hdg : decode cc pc = .ok (.dload i, 2)) (hk : lv[j]? = some (i, .double x)) (k : zz_Z p l e R s m args below meth c Q D A nL cells slots ws (pc + 2) lv (.double x :: st)) : zz_Z p l e R s m args below meth c Q D A nL cells slots ws (pc) lv (st) := fun H locs ls hP hD hS hl => lv_dload C.x C.b hdg (lv_at hl j hk) (k H locs ls hP hD hS hl)
theorem zz_istore_n (C : zz_C p l R s m meth c D U A own cc nL ret hh d) {q : Fin 4} {i : Nat} {x : Int32} {lv' : List (Nat × Value)} (hdg : decode cc pc = .ok (.istore_n q, 1)) (hi : (q : Nat) = i) (hn : i < nL) (hl : (i, Value.int x) :: lv.filter (fun q => !(q.1 == i) && !(q.1 + 1 == i && q.2.category == 2)) = lv') (k : zz_Z p l e R s m args below meth c Q D A nL cells slots ws (pc + 1) lv' (st)) : zz_Z p l e R s m args below meth c Q D A nL cells slots ws (pc) lv (.int x :: st) := fun H locs ls hP hD hS h9 => lv_istore_n C.x C.b hdg hi h9 hn hl (fun ls9 h8 => k H locs ls9 hP hD hS h8)
theorem zz_istore (C : zz_C p l R s m meth c D U A own cc nL ret hh d) {i : Nat} {x : Int32} {lv' : List (Nat × Value)} (hdg : decode cc pc = .ok (.istore i, 2)) (hn : i < nL) (hl : (i, Value.int x) :: lv.filter (fun q => !(q.1 == i) && !(q.1 + 1 == i && q.2.category == 2)) = lv') (k : zz_Z p l e R s m args below meth c Q D A nL cells slots ws (pc + 2) lv' (st)) : zz_Z p l e R s m args below meth c Q D A nL cells slots ws (pc) lv (.int x :: st) := fun H locs ls hP hD hS h9 => lv_istore C.x C.b hdg h9 hn hl (fun ls9 h8 => k H locs ls9 hP hD hS h8)
theorem zz_astore_n (C : zz_C p l R s m meth c D U A own cc nL ret hh d) {q : Fin 4} {i : Nat} {x : Nat} {lv' : List (Nat × Value)} (hdg : decode cc pc = .ok (.astore_n q, 1)) (hi : (q : Nat) = i) (hn : i < nL) (hl : (i, Value.ref x) :: lv.filter (fun q => !(q.1 == i) && !(q.1 + 1 == i && q.2.category == 2)) = lv') (k : zz_Z p l e R s m args below meth c Q D A nL cells slots ws (pc + 1) lv' (st)) : zz_Z p l e R s m args below meth c Q D A nL cells slots ws (pc) lv (.ref x :: st) := fun H locs ls hP hD hS h9 => lv_astore_n C.x C.b hdg hi h9 hn hl (fun ls9 h8 => k H locs ls9 hP hD hS h8)
theorem zz_astore (C : zz_C p l R s m meth c D U A own cc nL ret hh d) {i : Nat} {x : Nat} {lv' : List (Nat × Value)} (hdg : decode cc pc = .ok (.astore i, 2)) (hn : i < nL) (hl : (i, Value.ref x) :: lv.filter (fun q => !(q.1 == i) && !(q.1 + 1 == i && q.2.category == 2)) = lv') (k : zz_Z p l e R s m args below meth c Q D A nL cells slots ws (pc + 2) lv' (st)) : zz_Z p l e R s m args below meth c Q D A nL cells slots ws (pc) lv (.ref x :: st) := fun H locs ls hP hD hS h9 => lv_astore C.x C.b hdg h9 hn hl (fun ls9 h8 => k H locs ls9 hP hD hS h8)
theorem zz_lstore_n (C : zz_C p l R s m meth c D U A own cc nL ret hh d) {q : Fin 4} {i : Nat} {x : Int64} {lv' : List (Nat × Value)} (hdg : decode cc pc = .ok (.lstore_n q, 1)) (hi : (q : Nat) = i) (hn : i + 1 < nL) (hl : (i, Value.long x) :: lv.filter (fun q => !(q.1 == i) && (!(q.1 == i + 1) && !(q.1 + 1 == i && q.2.category == 2))) = lv') (k : zz_Z p l e R s m args below meth c Q D A nL cells slots ws (pc + 1) lv' (st)) : zz_Z p l e R s m args below meth c Q D A nL cells slots ws (pc) lv (.long x :: st) := fun H locs ls hP hD hS h9 => lv_lstore_n C.x C.b hdg hi h9 hn hl (fun ls9 h8 => k H locs ls9 hP hD hS h8)
theorem zz_lstore (C : zz_C p l R s m meth c D U A own cc nL ret hh d) {i : Nat} {x : Int64} {lv' : List (Nat × Value)} (hdg : decode cc pc = .ok (.lstore i, 2)) (hn : i + 1 < nL) (hl : (i, Value.long x) :: lv.filter (fun q => !(q.1 == i) && (!(q.1 == i + 1) && !(q.1 + 1 == i && q.2.category == 2))) = lv') (k : zz_Z p l e R s m args below meth c Q D A nL cells slots ws (pc + 2) lv' (st)) : zz_Z p l e R s m args below meth c Q D A nL cells slots ws (pc) lv (.long x :: st) := fun H locs ls hP hD hS h9 => lv_lstore C.x C.b hdg h9 hn hl (fun ls9 h8 => k H locs ls9 hP hD hS h8)
theorem zz_dstore_n (C : zz_C p l R s m meth c D U A own cc nL ret hh d) {q : Fin 4} {i : Nat} {x : UInt64} {lv' : List (Nat × Value)} (hdg : decode cc pc = .ok (.dstore_n q, 1)) (hi : (q : Nat) = i) (hn : i + 1 < nL) (hl : (i, Value.double x) :: lv.filter (fun q => !(q.1 == i) && (!(q.1 == i + 1) && !(q.1 + 1 == i && q.2.category == 2))) = lv') (k : zz_Z p l e R s m args below meth c Q D A nL cells slots ws (pc + 1) lv' (st)) : zz_Z p l e R s m args below meth c Q D A nL cells slots ws (pc) lv (.double x :: st) := fun H locs ls hP hD hS h9 => lv_dstore_n C.x C.b hdg hi h9 hn hl (fun ls9 h8 => k H locs ls9 hP hD hS h8)
theorem zz_dstore (C : zz_C p l R s m meth c D U A own cc nL ret hh d) {i : Nat} {x : UInt64} {lv' : List (Nat × Value)} (hdg : decode cc pc = .ok (.dstore i, 2)) (hn : i + 1 < nL) (hl : (i, Value.double x) :: lv.filter (fun q => !(q.1 == i) && (!(q.1 == i + 1) && !(q.1 + 1 == i && q.2.category == 2))) = lv') (k : zz_Z p l e R s m args below meth c Q D A nL cells slots ws (pc + 2) lv' (st)) : zz_Z p l e R s m args below meth c Q D A nL cells slots ws (pc) lv (.double x :: st) := fun H locs ls hP hD hS h9 => lv_dstore C.x C.b hdg h9 hn hl (fun ls9 h8 => k H locs ls9 hP hD hS h8)
theorem zz_iinc (C : zz_C p l R s m meth c D U A own cc nL ret hh d) {i : Nat} {n : Int} {x v : Int32} {lv' : List (Nat × Value)} (j : Nat) (hdg : decode cc pc = .ok (.iinc i n, 3)) (hk : lv[j]? = some (i, .int x)) (hv : x + Int32.ofInt n = v) (hn : i < nL) (hl : (i, Value.int v) :: lv.filter (fun q => !(q.1 == i) && !(q.1 + 1 == i && q.2.category == 2)) = lv') (k : zz_Z p l e R s m args below meth c Q D A nL cells slots ws (pc + 3) lv' (st)) : zz_Z p l e R s m args below meth c Q D A nL cells slots ws (pc) lv (st) := fun H locs ls hP hD hS h9 => lv_iinc C.x C.b hdg h9 hk hv hn hl (fun ls9 h8 => k H locs ls9 hP hD hS h8)
theorem zz_iadd (C : zz_C p l R s m meth c D U A own cc nL ret hh d) {x y : Int32} (hdg : decode cc pc = .ok (.iadd, 1)) (k : zz_Z p l e R s m args below meth c Q D A nL cells slots ws (pc + 1) lv (.int (x + y) :: st)) : zz_Z p l e R s m args below meth c Q D A nL cells slots ws (pc) lv (.int y :: .int x :: st) := fun H locs ls hP hD hS hl => lv_iadd C.x C.b hdg (k H locs ls hP hD hS hl)
theorem zz_isub (C : zz_C p l R s m meth c D U A own cc nL ret hh d) {x y : Int32} (hdg : decode cc pc = .ok (.isub, 1)) (k : zz_Z p l e R s m args below meth c Q D A nL cells slots ws (pc + 1) lv (.int (x - y) :: st)) : zz_Z p l e R s m args below meth c Q D A nL cells slots ws (pc) lv (.int y :: .int x :: st) := fun H locs ls hP hD hS hl => lv_isub C.x C.b hdg (k H locs ls hP hD hS hl)
theorem zz_imul (C : zz_C p l R s m meth c D U A own cc nL ret hh d) {x y : Int32} (hdg : decode cc pc = .ok (.imul, 1)) (k : zz_Z p l e R s m args below meth c Q D A nL cells slots ws (pc + 1) lv (.int (x * y) :: st)) : zz_Z p l e R s m args below meth c Q D A nL cells slots ws (pc) lv (.int y :: .int x :: st) := fun H locs ls hP hD hS hl => lv_imul C.x C.b hdg (k H locs ls hP hD hS hl)
theorem zz_iand (C : zz_C p l R s m meth c D U A own cc nL ret hh d) {x y : Int32} (hdg : decode cc pc = .ok (.iand, 1)) (k : zz_Z p l e R s m args below meth c Q D A nL cells slots ws (pc + 1) lv (.int (x &&& y) :: st)) : zz_Z p l e R s m args below meth c Q D A nL cells slots ws (pc) lv (.int y :: .int x :: st) := fun H locs ls hP hD hS hl => lv_iand C.x C.b hdg (k H locs ls hP hD hS hl)
theorem zz_ior (C : zz_C p l R s m meth c D U A own cc nL ret hh d) {x y : Int32} (hdg : decode cc pc = .ok (.ior, 1)) (k : zz_Z p l e R s m args below meth c Q D A nL cells slots ws (pc + 1) lv (.int (x ||| y) :: st)) : zz_Z p l e R s m args below meth c Q D A nL cells slots ws (pc) lv (.int y :: .int x :: st) := fun H locs ls hP hD hS hl => lv_ior C.x C.b hdg (k H locs ls hP hD hS hl)
theorem zz_ixor (C : zz_C p l R s m meth c D U A own cc nL ret hh d) {x y : Int32} (hdg : decode cc pc = .ok (.ixor, 1)) (k : zz_Z p l e R s m args below meth c Q D A nL cells slots ws (pc + 1) lv (.int (x ^^^ y) :: st)) : zz_Z p l e R s m args below meth c Q D A nL cells slots ws (pc) lv (.int y :: .int x :: st) := fun H locs ls hP hD hS hl => lv_ixor C.x C.b hdg (k H locs ls hP hD hS hl)
theorem zz_idiv (C : zz_C p l R s m meth c D U A own cc nL ret hh d) {x y : Int32} (hdg : decode cc pc = .ok (.idiv, 1)) (hne : ¬ y = 0) (k : zz_Z p l e R s m args below meth c Q D A nL cells slots ws (pc + 1) lv (.int (x / y) :: st)) : zz_Z p l e R s m args below meth c Q D A nL cells slots ws (pc) lv (.int y :: .int x :: st) := fun H locs ls hP hD hS hl => lv_idiv C.x C.b hdg hne (k H locs ls hP hD hS hl)
theorem zz_irem (C : zz_C p l R s m meth c D U A own cc nL ret hh d) {x y : Int32} (hdg : decode cc pc = .ok (.irem, 1)) (hne : ¬ y = 0) (k : zz_Z p l e R s m args below meth c Q D A nL cells slots ws (pc + 1) lv (.int (x - x / y * y) :: st)) : zz_Z p l e R s m args below meth c Q D A nL cells slots ws (pc) lv (.int y :: .int x :: st) := fun H locs ls hP hD hS hl => lv_irem C.x C.b hdg hne (k H locs ls hP hD hS hl)
theorem zz_ineg (C : zz_C p l R s m meth c D U A own cc nL ret hh d) {x : Int32} (hdg : decode cc pc = .ok (.ineg, 1)) (k : zz_Z p l e R s m args below meth c Q D A nL cells slots ws (pc + 1) lv (.int (-x) :: st)) : zz_Z p l e R s m args below meth c Q D A nL cells slots ws (pc) lv (.int x :: st) := fun H locs ls hP hD hS hl => lv_ineg C.x C.b hdg (k H locs ls hP hD hS hl)
theorem zz_ladd (C : zz_C p l R s m meth c D U A own cc nL ret hh d) {x y : Int64} (hdg : decode cc pc = .ok (.ladd, 1)) (k : zz_Z p l e R s m args below meth c Q D A nL cells slots ws (pc + 1) lv (.long (x + y) :: st)) : zz_Z p l e R s m args below meth c Q D A nL cells slots ws (pc) lv (.long y :: .long x :: st) := fun H locs ls hP hD hS hl => lv_ladd C.x C.b hdg (k H locs ls hP hD hS hl)
theorem zz_lsub (C : zz_C p l R s m meth c D U A own cc nL ret hh d) {x y : Int64} (hdg : decode cc pc = .ok (.lsub, 1)) (k : zz_Z p l e R s m args below meth c Q D A nL cells slots ws (pc + 1) lv (.long (x - y) :: st)) : zz_Z p l e R s m args below meth c Q D A nL cells slots ws (pc) lv (.long y :: .long x :: st) := fun H locs ls hP hD hS hl => lv_lsub C.x C.b hdg (k H locs ls hP hD hS hl)
theorem zz_lmul (C : zz_C p l R s m meth c D U A own cc nL ret hh d) {x y : Int64} (hdg : decode cc pc = .ok (.lmul, 1)) (k : zz_Z p l e R s m args below meth c Q D A nL cells slots ws (pc + 1) lv (.long (x * y) :: st)) : zz_Z p l e R s m args below meth c Q D A nL cells slots ws (pc) lv (.long y :: .long x :: st) := fun H locs ls hP hD hS hl => lv_lmul C.x C.b hdg (k H locs ls hP hD hS hl)
theorem zz_iushr (C : zz_C p l R s m meth c D U A own cc nL ret hh d) {x y : Int32} (hdg : decode cc pc = .ok (.iushr, 1)) (k : zz_Z p l e R s m args below meth c Q D A nL cells slots ws (pc + 1) lv (.int (zz_ushr x y) :: st)) : zz_Z p l e R s m args below meth c Q D A nL cells slots ws (pc) lv (.int y :: .int x :: st) := fun H locs ls hP hD hS hl => lv_iushr C.x C.b hdg rfl (k H locs ls hP hD hS hl)
theorem zz_ishl (C : zz_C p l R s m meth c D U A own cc nL ret hh d) {x y : Int32} (hdg : decode cc pc = .ok (.ishl, 1)) (k : zz_Z p l e R s m args below meth c Q D A nL cells slots ws (pc + 1) lv (.int (x <<< (y &&& 31)) :: st)) : zz_Z p l e R s m args below meth c Q D A nL cells slots ws (pc) lv (.int y :: .int x :: st) := fun H locs ls hP hD hS hl => lv_ishl C.x C.b hdg (k H locs ls hP hD hS hl)
theorem zz_ishr (C : zz_C p l R s m meth c D U A own cc nL ret hh d) {x y : Int32} (hdg : decode cc pc = .ok (.ishr, 1)) (k : zz_Z p l e R s m args below meth c Q D A nL cells slots ws (pc + 1) lv (.int (x >>> (y &&& 31)) :: st)) : zz_Z p l e R s m args below meth c Q D A nL cells slots ws (pc) lv (.int y :: .int x :: st) := fun H locs ls hP hD hS hl => lv_ishr C.x C.b hdg (k H locs ls hP hD hS hl)
theorem zz_i2l (C : zz_C p l R s m meth c D U A own cc nL ret hh d) {x : Int32} (hdg : decode cc pc = .ok (.i2l, 1)) (k : zz_Z p l e R s m args below meth c Q D A nL cells slots ws (pc + 1) lv (.long x.toInt64 :: st)) : zz_Z p l e R s m args below meth c Q D A nL cells slots ws (pc) lv (.int x :: st) := fun H locs ls hP hD hS hl => lv_i2l C.x C.b hdg rfl (k H locs ls hP hD hS hl)
theorem zz_i2d (C : zz_C p l R s m meth c D U A own cc nL ret hh d) {x : Int32} (hdg : decode cc pc = .ok (.i2d, 1)) (k : zz_Z p l e R s m args below meth c Q D A nL cells slots ws (pc + 1) lv (.double (FP.i2d x) :: st)) : zz_Z p l e R s m args below meth c Q D A nL cells slots ws (pc) lv (.int x :: st) := fun H locs ls hP hD hS hl => lv_i2d C.x C.b hdg (k H locs ls hP hD hS hl)
theorem zz_dconst0 (C : zz_C p l R s m meth c D U A own cc nL ret hh d)  (hdg : decode cc pc = .ok (.dconst 0, 1)) (k : zz_Z p l e R s m args below meth c Q D A nL cells slots ws (pc + 1) lv (.double FP.dconst0 :: st)) : zz_Z p l e R s m args below meth c Q D A nL cells slots ws (pc) lv (st) := fun H locs ls hP hD hS hl => lv_dconst0 C.x C.b hdg (k H locs ls hP hD hS hl)
theorem zz_dconst1 (C : zz_C p l R s m meth c D U A own cc nL ret hh d)  (hdg : decode cc pc = .ok (.dconst 1, 1)) (k : zz_Z p l e R s m args below meth c Q D A nL cells slots ws (pc + 1) lv (.double FP.dconst1 :: st)) : zz_Z p l e R s m args below meth c Q D A nL cells slots ws (pc) lv (st) := fun H locs ls hP hD hS hl => lv_dconst1 C.x C.b hdg (k H locs ls hP hD hS hl)
theorem zz_ddiv (C : zz_C p l R s m meth c D U A own cc nL ret hh d) {x y : UInt64} (hdg : decode cc pc = .ok (.ddiv, 1)) (hne : vf_n64 (FP.ddiv x y)) (k : zz_Z p l e R s m args below meth c Q D A nL cells slots ws (pc + 1) lv (.double (FP.ddiv x y) :: st)) : zz_Z p l e R s m args below meth c Q D A nL cells slots ws (pc) lv (.double y :: .double x :: st) := fun H locs ls hP hD hS hl => lv_ddiv C.x C.b hdg hne (k H locs ls hP hD hS hl)
theorem zz_dcmp (C : zz_C p l R s m meth c D U A own cc nL ret hh d) {x y : UInt64} {op : CmpOp} (hdg : decode cc pc = .ok (.dcmp op, 1)) (k : zz_Z p l e R s m args below meth c Q D A nL cells slots ws (pc + 1) lv (.int (Op.cmpValue (FP.dcmp x y) op) :: st)) : zz_Z p l e R s m args below meth c Q D A nL cells slots ws (pc) lv (.double y :: .double x :: st) := fun H locs ls hP hD hS hl => lv_dcmp C.x C.b hdg (k H locs ls hP hD hS hl)
theorem zz_dup (C : zz_C p l R s m meth c D U A own cc nL ret hh d) {va : Value} (hdg : decode cc pc = .ok (.dup, 1)) (hva : va.category = 1) (k : zz_Z p l e R s m args below meth c Q D A nL cells slots ws (pc + 1) lv (va :: va :: st)) : zz_Z p l e R s m args below meth c Q D A nL cells slots ws (pc) lv (va :: st) := fun H locs ls hP hD hS hl => lv_dup C.x C.b hdg hva (k H locs ls hP hD hS hl)
theorem zz_pop (C : zz_C p l R s m meth c D U A own cc nL ret hh d) {va : Value} (hdg : decode cc pc = .ok (.pop, 1)) (hva : va.category = 1) (k : zz_Z p l e R s m args below meth c Q D A nL cells slots ws (pc + 1) lv (st)) : zz_Z p l e R s m args below meth c Q D A nL cells slots ws (pc) lv (va :: st) := fun H locs ls hP hD hS hl => lv_pop C.x C.b hdg hva (k H locs ls hP hD hS hl)
theorem zz_dup2_11 (C : zz_C p l R s m meth c D U A own cc nL ret hh d) {va vb : Value} (hdg : decode cc pc = .ok (.dup2, 1)) (hva : va.category = 1) (hvb : vb.category = 1) (k : zz_Z p l e R s m args below meth c Q D A nL cells slots ws (pc + 1) lv (va :: vb :: va :: vb :: st)) : zz_Z p l e R s m args below meth c Q D A nL cells slots ws (pc) lv (va :: vb :: st) := fun H locs ls hP hD hS hl => lv_dup2_11 C.x C.b hdg hva hvb (k H locs ls hP hD hS hl)
theorem zz_lcmp (C : zz_C p l R s m meth c D U A own cc nL ret hh d) {x y : Int64} (hdg : decode cc pc = .ok (.lcmp, 1)) (k : zz_Z p l e R s m args below meth c Q D A nL cells slots ws (pc + 1) lv (.int (lg_cmp x y) :: st)) : zz_Z p l e R s m args below meth c Q D A nL cells slots ws (pc) lv (.long y :: .long x :: st) := fun H locs ls hP hD hS hl => W.lcmp C.x C.b hdg (k H locs ls hP hD hS hl)
theorem zz_if_eq (C : zz_C p l R s m meth c D U A own cc nL ret hh d) {x : Int32} {off : Int} {tgt : Nat} (hdg : decode cc pc = .ok (.ifCond .eq off, 3)) (ht : (pc : Int) + off = (tgt : Int)) (kt : x = 0 → zz_Z p l e R s m args below meth c Q D A nL cells slots ws (tgt) lv (st)) (kf : ¬ x = 0 → zz_Z p l e R s m args below meth c Q D A nL cells slots ws (pc + 3) lv (st)) : zz_Z p l e R s m args below meth c Q D A nL cells slots ws (pc) lv (.int x :: st) := fun H locs ls hP hD hS hl => lv_if_eq C.x C.b hdg ht (fun h9 => kt h9 H locs ls hP hD hS hl) (fun h9 => kf h9 H locs ls hP hD hS hl)
theorem zz_if_ne (C : zz_C p l R s m meth c D U A own cc nL ret hh d) {x : Int32} {off : Int} {tgt : Nat} (hdg : decode cc pc = .ok (.ifCond .ne off, 3)) (ht : (pc : Int) + off = (tgt : Int)) (kt : ¬ x = 0 → zz_Z p l e R s m args below meth c Q D A nL cells slots ws (tgt) lv (st)) (kf : x = 0 → zz_Z p l e R s m args below meth c Q D A nL cells slots ws (pc + 3) lv (st)) : zz_Z p l e R s m args below meth c Q D A nL cells slots ws (pc) lv (.int x :: st) := fun H locs ls hP hD hS hl => lv_if_ne C.x C.b hdg ht (fun h9 => kt h9 H locs ls hP hD hS hl) (fun h9 => kf h9 H locs ls hP hD hS hl)
theorem zz_if_lt (C : zz_C p l R s m meth c D U A own cc nL ret hh d) {x : Int32} {off : Int} {tgt : Nat} (hdg : decode cc pc = .ok (.ifCond .lt off, 3)) (ht : (pc : Int) + off = (tgt : Int)) (kt : x < 0 → zz_Z p l e R s m args below meth c Q D A nL cells slots ws (tgt) lv (st)) (kf : ¬ x < 0 → zz_Z p l e R s m args below meth c Q D A nL cells slots ws (pc + 3) lv (st)) : zz_Z p l e R s m args below meth c Q D A nL cells slots ws (pc) lv (.int x :: st) := fun H locs ls hP hD hS hl => lv_if_lt C.x C.b hdg ht (fun h9 => kt h9 H locs ls hP hD hS hl) (fun h9 => kf h9 H locs ls hP hD hS hl)
theorem zz_if_ge (C : zz_C p l R s m meth c D U A own cc nL ret hh d) {x : Int32} {off : Int} {tgt : Nat} (hdg : decode cc pc = .ok (.ifCond .ge off, 3)) (ht : (pc : Int) + off = (tgt : Int)) (kt : 0 ≤ x → zz_Z p l e R s m args below meth c Q D A nL cells slots ws (tgt) lv (st)) (kf : ¬ 0 ≤ x → zz_Z p l e R s m args below meth c Q D A nL cells slots ws (pc + 3) lv (st)) : zz_Z p l e R s m args below meth c Q D A nL cells slots ws (pc) lv (.int x :: st) := fun H locs ls hP hD hS hl => lv_if_ge C.x C.b hdg ht (fun h9 => kt h9 H locs ls hP hD hS hl) (fun h9 => kf h9 H locs ls hP hD hS hl)
theorem zz_if_gt (C : zz_C p l R s m meth c D U A own cc nL ret hh d) {x : Int32} {off : Int} {tgt : Nat} (hdg : decode cc pc = .ok (.ifCond .gt off, 3)) (ht : (pc : Int) + off = (tgt : Int)) (kt : 0 < x → zz_Z p l e R s m args below meth c Q D A nL cells slots ws (tgt) lv (st)) (kf : ¬ 0 < x → zz_Z p l e R s m args below meth c Q D A nL cells slots ws (pc + 3) lv (st)) : zz_Z p l e R s m args below meth c Q D A nL cells slots ws (pc) lv (.int x :: st) := fun H locs ls hP hD hS hl => lv_if_gt C.x C.b hdg ht (fun h9 => kt h9 H locs ls hP hD hS hl) (fun h9 => kf h9 H locs ls hP hD hS hl)
theorem zz_if_le (C : zz_C p l R s m meth c D U A own cc nL ret hh d) {x : Int32} {off : Int} {tgt : Nat} (hdg : decode cc pc = .ok (.ifCond .le off, 3)) (ht : (pc : Int) + off = (tgt : Int)) (kt : x ≤ 0 → zz_Z p l e R s m args below meth c Q D A nL cells slots ws (tgt) lv (st)) (kf : ¬ x ≤ 0 → zz_Z p l e R s m args below meth c Q D A nL cells slots ws (pc + 3) lv (st)) : zz_Z p l e R s m args below meth c Q D A nL cells slots ws (pc) lv (.int x :: st) := fun H locs ls hP hD hS hl => lv_if_le C.x C.b hdg ht (fun h9 => kt h9 H locs ls hP hD hS hl) (fun h9 => kf h9 H locs ls hP hD hS hl)
theorem zz_icmp_eq (C : zz_C p l R s m meth c D U A own cc nL ret hh d) {x y : Int32} {off : Int} {tgt : Nat} (hdg : decode cc pc = .ok (.if_icmp .eq off, 3)) (ht : (pc : Int) + off = (tgt : Int)) (kt : x = y → zz_Z p l e R s m args below meth c Q D A nL cells slots ws (tgt) lv (st)) (kf : ¬ x = y → zz_Z p l e R s m args below meth c Q D A nL cells slots ws (pc + 3) lv (st)) : zz_Z p l e R s m args below meth c Q D A nL cells slots ws (pc) lv (.int y :: .int x :: st) := fun H locs ls hP hD hS hl => lv_icmp_eq C.x C.b hdg ht (fun h9 => kt h9 H locs ls hP hD hS hl) (fun h9 => kf h9 H locs ls hP hD hS hl)
theorem zz_icmp_ne (C : zz_C p l R s m meth c D U A own cc nL ret hh d) {x y : Int32} {off : Int} {tgt : Nat} (hdg : decode cc pc = .ok (.if_icmp .ne off, 3)) (ht : (pc : Int) + off = (tgt : Int)) (kt : ¬ x = y → zz_Z p l e R s m args below meth c Q D A nL cells slots ws (tgt) lv (st)) (kf : x = y → zz_Z p l e R s m args below meth c Q D A nL cells slots ws (pc + 3) lv (st)) : zz_Z p l e R s m args below meth c Q D A nL cells slots ws (pc) lv (.int y :: .int x :: st) := fun H locs ls hP hD hS hl => lv_icmp_ne C.x C.b hdg ht (fun h9 => kt h9 H locs ls hP hD hS hl) (fun h9 => kf h9 H locs ls hP hD hS hl)
theorem zz_icmp_lt (C : zz_C p l R s m meth c D U A own cc nL ret hh d) {x y : Int32} {off : Int} {tgt : Nat} (hdg : decode cc pc = .ok (.if_icmp .lt off, 3)) (ht : (pc : Int) + off = (tgt : Int)) (kt : x < y → zz_Z p l e R s m args below meth c Q D A nL cells slots ws (tgt) lv (st)) (kf : ¬ x < y → zz_Z p l e R s m args below meth c Q D A nL cells slots ws (pc + 3) lv (st)) : zz_Z p l e R s m args below meth c Q D A nL cells slots ws (pc) lv (.int y :: .int x :: st) := fun H locs ls hP hD hS hl => lv_icmp_lt C.x C.b hdg ht (fun h9 => kt h9 H locs ls hP hD hS hl) (fun h9 => kf h9 H locs ls hP hD hS hl)
theorem zz_icmp_ge (C : zz_C p l R s m meth c D U A own cc nL ret hh d) {x y : Int32} {off : Int} {tgt : Nat} (hdg : decode cc pc = .ok (.if_icmp .ge off, 3)) (ht : (pc : Int) + off = (tgt : Int)) (kt : y ≤ x → zz_Z p l e R s m args below meth c Q D A nL cells slots ws (tgt) lv (st)) (kf : ¬ y ≤ x → zz_Z p l e R s m args below meth c Q D A nL cells slots ws (pc + 3) lv (st)) : zz_Z p l e R s m args below meth c Q D A nL cells slots ws (pc) lv (.int y :: .int x :: st) := fun H locs ls hP hD hS hl => lv_icmp_ge C.x C.b hdg ht (fun h9 => kt h9 H locs ls hP hD hS hl) (fun h9 => kf h9 H locs ls hP hD hS hl)
theorem zz_icmp_gt (C : zz_C p l R s m meth c D U A own cc nL ret hh d) {x y : Int32} {off : Int} {tgt : Nat} (hdg : decode cc pc = .ok (.if_icmp .gt off, 3)) (ht : (pc : Int) + off = (tgt : Int)) (kt : y < x → zz_Z p l e R s m args below meth c Q D A nL cells slots ws (tgt) lv (st)) (kf : ¬ y < x → zz_Z p l e R s m args below meth c Q D A nL cells slots ws (pc + 3) lv (st)) : zz_Z p l e R s m args below meth c Q D A nL cells slots ws (pc) lv (.int y :: .int x :: st) := fun H locs ls hP hD hS hl => lv_icmp_gt C.x C.b hdg ht (fun h9 => kt h9 H locs ls hP hD hS hl) (fun h9 => kf h9 H locs ls hP hD hS hl)
theorem zz_icmp_le (C : zz_C p l R s m meth c D U A own cc nL ret hh d) {x y : Int32} {off : Int} {tgt : Nat} (hdg : decode cc pc = .ok (.if_icmp .le off, 3)) (ht : (pc : Int) + off = (tgt : Int)) (kt : x ≤ y → zz_Z p l e R s m args below meth c Q D A nL cells slots ws (tgt) lv (st)) (kf : ¬ x ≤ y → zz_Z p l e R s m args below meth c Q D A nL cells slots ws (pc + 3) lv (st)) : zz_Z p l e R s m args below meth c Q D A nL cells slots ws (pc) lv (.int y :: .int x :: st) := fun H locs ls hP hD hS hl => lv_icmp_le C.x C.b hdg ht (fun h9 => kt h9 H locs ls hP hD hS hl) (fun h9 => kf h9 H locs ls hP hD hS hl)
theorem zz_goto (C : zz_C p l R s m meth c D U A own cc nL ret hh d) {off : Int} {tgt : Nat} (hdg : decode cc pc = .ok (.goto off, 3)) (ht : (pc : Int) + off = (tgt : Int)) (k : zz_Z p l e R s m args below meth c Q D A nL cells slots ws (tgt) lv (st)) : zz_Z p l e R s m args below meth c Q D A nL cells slots ws (pc) lv (st) := fun H locs ls hP hD hS hl => lv_goto C.x C.b hdg ht (k H locs ls hP hD hS hl)
theorem zz_ldc (C : zz_C p l R s m meth c D U A own cc nL ret hh d) {index : Nat} {v : Int32} (hdg : decode cc pc = .ok (.ldc index, 2)) (hw : Cond.constant own index v ∈ lw_tbl ∧ goodWord (Cond.constant own index v) = true) (k : zz_Z p l e R s m args below meth c Q D A nL cells slots ws (pc + 2) lv (.int v :: st)) : zz_Z p l e R s m args below meth c Q D A nL cells slots ws (pc) lv (st) := fun H locs ls hP hD hS hl => lv_ldc C.x C.b C.ow (C.w hw) hdg (k H locs ls hP hD hS hl)
theorem zz_ldcw (C : zz_C p l R s m meth c D U A own cc nL ret hh d) {index : Nat} {v : Int32} (hdg : decode cc pc = .ok (.ldc_w index, 3)) (hw : Cond.constant own index v ∈ lw_tbl ∧ goodWord (Cond.constant own index v) = true) (k : zz_Z p l e R s m args below meth c Q D A nL cells slots ws (pc + 3) lv (.int v :: st)) : zz_Z p l e R s m args below meth c Q D A nL cells slots ws (pc) lv (st) := fun H locs ls hP hD hS hl => lv_ldcw C.x C.b C.ow (C.w hw) hdg (k H locs ls hP hD hS hl)
theorem zz_ldc2 (C : zz_C p l R s m meth c D U A own cc nL ret hh d) {index : Nat} {v : Int64} (hdg : decode cc pc = .ok (.ldc2_w index, 3)) (hw : Cond.constantLong own index v ∈ lw_tbl ∧ goodWord (Cond.constantLong own index v) = true) (k : zz_Z p l e R s m args below meth c Q D A nL cells slots ws (pc + 3) lv (.long v :: st)) : zz_Z p l e R s m args below meth c Q D A nL cells slots ws (pc) lv (st) := fun H locs ls hP hD hS hl => lv_ldc2 C.x C.b C.ow (C.w hw) hdg (k H locs ls hP hD hS hl)
theorem zz_tableIn (C : zz_C p l R s m meth c D U A own cc nL ret hh d) {dflt lo hi : Int} {offs : Array Int} {len : Nat} {x : Int32} {off : Int} {tgt : Nat} (hdg : decode cc pc = .ok (.tableswitch dflt lo hi offs, len)) (h1 : ¬ x.toInt < lo) (h2 : ¬ hi < x.toInt) (ho : offs[(x.toInt - lo).toNat]? = some off) (ht : (pc : Int) + off = (tgt : Int)) (k : zz_Z p l e R s m args below meth c Q D A nL cells slots ws (tgt) lv (st)) : zz_Z p l e R s m args below meth c Q D A nL cells slots ws (pc) lv (.int x :: st) := fun H locs ls hP hD hS hl => lv_tableIn C.x C.b hdg h1 h2 ho ht (k H locs ls hP hD hS hl)
theorem zz_tableOut (C : zz_C p l R s m meth c D U A own cc nL ret hh d) {dflt lo hi : Int} {offs : Array Int} {len : Nat} {x : Int32} {tgt : Nat} (hdg : decode cc pc = .ok (.tableswitch dflt lo hi offs, len)) (h : x.toInt < lo ∨ hi < x.toInt) (ht : (pc : Int) + dflt = (tgt : Int)) (k : zz_Z p l e R s m args below meth c Q D A nL cells slots ws (tgt) lv (st)) : zz_Z p l e R s m args below meth c Q D A nL cells slots ws (pc) lv (.int x :: st) := fun H locs ls hP hD hS hl => lv_tableOut C.x C.b hdg h ht (k H locs ls hP hD hS hl)
theorem zz_get (C : zz_C p l R s m meth c D U A own cc nL ret hh d) {N ci index a : Nat} {Ck : String} {T : u_T} {fs : List Value} {v : Value} (q0 f : Nat) (hdg : decode cc pc = .ok (.getfield index, 3)) (he : ws[q0]? = some (a, .inr (ci, fs))) (hc : zcl[ci]? = some (Ck, T, N)) (hin : ∀ w ∈ u_ws Ck T N, w ∈ lw_tbl) (hg : (u_ws Ck T N).all goodWord = true) (hk : f < N) (hw : (Cond.fieldLink own index (T f).1 (T f).2.1 (T f).2.2.1) ∈ lw_tbl ∧ goodWord (Cond.fieldLink own index (T f).1 (T f).2.1 (T f).2.2.1) = true) (hv : fs[f]? = some v) (k : zz_Z p l e R s m args below meth c Q D A nL cells slots ws (pc + 3) lv (v :: st)) : zz_Z p l e R s m args below meth c Q D A nL cells slots ws (pc) lv (.ref a :: st) := fun H locs ls hP hD hS hl => va_get (Ts := u_ws Ck T N) C.x C.b (zz_ws C hin hg) (fun _ h => h) C.ow C.K hP q0 he hc f hk (C.w hw) (fun _ h9 => h9) hv hdg (k H locs ls hP hD hS hl)
theorem zz_put (C : zz_C p l R s m meth c D U A own cc nL ret hh d) {N ci index a : Nat} {Ck : String} {T : u_T} {fs : List Value} {v : Value} {ty : FieldType} {ty0 : Nat → FieldType} {ws1 : va_W} (q0 f : Nat) (hdg : decode cc pc = .ok (.putfield index, 3)) (he : ws[q0]? = some (a, .inr (ci, fs))) (hc : zcl[ci]? = some (Ck, T, N)) (hin : ∀ w ∈ u_ws Ck T N, w ∈ lw_tbl) (hg : (u_ws Ck T N).all goodWord = true) (hty : ∀ k, k < N → parseFieldDescriptor (T k).2.2.1 = some (ty0 k)) (hnm : ∀ a, a < N → ∀ b, b < N → a ≠ b → (T a).2.1 ≠ (T b).2.1) (hk : f < N) (hw : (Cond.fieldLink own index (T f).1 (T f).2.1 (T f).2.2.1) ∈ lw_tbl ∧ goodWord (Cond.fieldLink own index (T f).1 (T f).2.1 (T f).2.2.1) = true) (hfin : (T f).2.2.2 = false) (hd : parseFieldDescriptor (T f).2.2.1 = some ty) (hn : narrow ty v = v) (hfit : fits ty v = true) (hlen : f < fs.length) (hws : ws.set q0 (a, .inr (ci, fs.set f v)) = ws1) (k : zz_Z p l e R s m args below meth c Q D A nL cells slots ws1 (pc + 3) lv (st)) : zz_Z p l e R s m args below meth c Q D A nL cells slots ws (pc) lv (v :: .ref a :: st) := by
  subst hws
  exact fun H locs ls hP hD hS hl => va_put (Ts := u_ws Ck T N) C.x C.b (zz_ws C hin hg) (fun _ h => h) ty0 hty hnm C.ow C.K hP hD hS q0 he hc f hk (C.w hw) (fun _ h9 => h9) hfin hd hn hfit hlen hdg (fun H1 locs1 hP1 hD1 hS1 => k H1 locs1 ls hP1 hD1 hS1 hl)
theorem zz_putF (C : zz_C p l R s m meth c D U A own cc nL ret hh d) {N ci index a : Nat} {Ck : String} {T : u_T} {fs : List Value} {v : Value} {ty : FieldType} {ty0 : Nat → FieldType} {ws1 : va_W} (q0 f : Nat) (hdg : decode cc pc = .ok (.putfield index, 3)) (he : ws[q0]? = some (a, .inr (ci, fs))) (hc : zcl[ci]? = some (Ck, T, N)) (hin : ∀ w ∈ u_ws Ck T N, w ∈ lw_tbl) (hg : (u_ws Ck T N).all goodWord = true) (hty : ∀ k, k < N → parseFieldDescriptor (T k).2.2.1 = some (ty0 k)) (hnm : ∀ a, a < N → ∀ b, b < N → a ≠ b → (T a).2.1 ≠ (T b).2.1) (hk : f < N) (hw : (Cond.fieldLink own index (T f).1 (T f).2.1 (T f).2.2.1) ∈ lw_tbl ∧ goodWord (Cond.fieldLink own index (T f).1 (T f).2.1 (T f).2.2.1) = true) (hfin : (T f).2.2.2 = true) (hin2 : meth.name = "<init>") (hdecl : (T f).1 = own) (hd : parseFieldDescriptor (T f).2.2.1 = some ty) (hn : narrow ty v = v) (hfit : fits ty v = true) (hlen : f < fs.length) (hws : ws.set q0 (a, .inr (ci, fs.set f v)) = ws1) (k : zz_Z p l e R s m args below meth c Q D A nL cells slots ws1 (pc + 3) lv (st)) : zz_Z p l e R s m args below meth c Q D A nL cells slots ws (pc) lv (v :: .ref a :: st) := by
  subst hws
  exact fun H locs ls hP hD hS hl => va_putF (Ts := u_ws Ck T N) C.x C.b (zz_ws C hin hg) (fun _ h => h) ty0 hty hnm C.ow C.K hP hD hS q0 he hc f hk (C.w hw) (fun _ h9 => h9) hfin hin2 hdecl hd hn hfit hlen hdg (fun H1 locs1 hP1 hD1 hS1 => k H1 locs1 ls hP1 hD1 hS1 hl)
theorem zz_iald (C : zz_C p l R s m meth c D U A own cc nL ret hh d) {a n : Nat} {f : Nat → Int32} {i : Int32} (q0 : Nat) (hdg : decode cc pc = .ok (.iaload, 1)) (ha : ws[q0]? = some (a, .inl (U.1, n, .inl f))) (hin : vp_in i n) (k : zz_Z p l e R s m args below meth c Q D A nL cells slots ws (pc + 1) lv (.int (f i.toNatClampNeg) :: st)) : zz_Z p l e R s m args below meth c Q D A nL cells slots ws (pc) lv (.int i :: .ref a :: st) := fun H locs ls hP hD hS hl => va_iald C.x C.b C.K hP q0 0 ha rfl hin hdg (k H locs ls hP hD hS hl)
theorem zz_iast (C : zz_C p l R s m meth c D U A own cc nL ret hh d) {a n : Nat} {f : Nat → Int32} {i : Int32} {x : Int32} {ws1 : va_W} (q0 : Nat) (hdg : decode cc pc = .ok (.iastore, 1)) (ha : ws[q0]? = some (a, .inl (U.1, n, .inl f))) (hin : vp_in i n) (hws : ws.set q0 (a, .inl (U.1, n, .inl (upd f i.toNatClampNeg x))) = ws1) (k : zz_Z p l e R s m args below meth c Q D A nL cells slots ws1 (pc + 1) lv (st)) : zz_Z p l e R s m args below meth c Q D A nL cells slots ws (pc) lv (.int x :: .int i :: .ref a :: st) := by
  subst hws
  exact fun H locs ls hP hD hS hl => va_iast C.x C.b C.K hP hD hS q0 0 ha rfl hin hdg (fun H1 locs1 hP1 hD1 hS1 => k H1 locs1 ls hP1 hD1 hS1 hl)
theorem zz_aald (C : zz_C p l R s m meth c D U A own cc nL ret hh d) {a n : Nat} {f : Nat → Option Nat} {i : Int32} {v : Value} (q0 : Nat) (hdg : decode cc pc = .ok (.aaload, 1)) (ha : ws[q0]? = some (a, .inl (U.2.2.2, n, .inr (.inr (.inr (.inr f)))))) (hin : vp_in i n) (hv : va_rf (f i.toNatClampNeg) = v) (k : zz_Z p l e R s m args below meth c Q D A nL cells slots ws (pc + 1) lv (v :: st)) : zz_Z p l e R s m args below meth c Q D A nL cells slots ws (pc) lv (.int i :: .ref a :: st) := by
  subst hv
  intro H locs ls hP hD hS hl
  have hlt : i.toNatClampNeg < n := Nat.not_le.mp fun q => hin (Or.inr q)
  exact W.aald (v := va_rf (f i.toNatClampNeg)) (ty := .array .int) C.x C.b (hP q0 _ ha) ((C.K.2 1 _ rfl).1 n (fun j => va_rf (f j))) rfl (fun q => by cases q) (by show ¬ (i < 0 ∨ (arrV _ _ _).slots.size ≤ _); rw [arrV_size]; exact hin) (by show (arrV _ _ _).slots[_]? = _; rw [arrV_read _ _ hlt]) rfl rfl hdg (k H locs ls hP hD hS hl)
theorem zz_alen (C : zz_C p l R s m meth c D U A own cc nL ret hh d) {a : Nat} {v : Int32} {cA : ClassId} {x : vp_A} {ty : FieldType} (q0 t0 : Nat) (hdg : decode cc pc = .ok (.arraylength, 1)) (ha : ws[q0]? = some (a, .inl (cA, x))) (ht : (zz_tys U)[t0]? = some (cA, ty)) (hv : Int32.ofNat x.1 = v) (k : zz_Z p l e R s m args below meth c Q D A nL cells slots ws (pc + 1) lv (.int v :: st)) : zz_Z p l e R s m args below meth c Q D A nL cells slots ws (pc) lv (.ref a :: st) := fun H locs ls hP hD hS hl => va_alen C.x C.b C.K hP q0 t0 ha ht hv hdg (k H locs ls hP hD hS hl)
theorem zz_mabs (C : zz_C p l R s m meth c D U A own cc nL ret hh d) {index : Nat} {x y : Int32} (hdg : decode cc pc = .ok (.invokestatic index, 3)) (h1 : Cond.methodLink own index Lib.Math.abs.name ∈ lw_tbl ∧ goodWord (Cond.methodLink own index Lib.Math.abs.name) = true) (h2 : Cond.static Lib.Math.abs.name ∈ lw_tbl ∧ goodWord (Cond.static Lib.Math.abs.name) = true) (h3 : Cond.initialized "java/lang/Math" ∈ lw_tbl ∧ goodWord (Cond.initialized "java/lang/Math") = true) (h4 : Cond.code Lib.Math.abs.name Lib.Math.abs.code 1 (some .int) ∈ lw_tbl ∧ goodWord (Cond.code Lib.Math.abs.name Lib.Math.abs.code 1 (some .int)) = true) (hd : 1 ≤ d) (hst : (st.map fun v => v.category).sum ≤ 8) (hc : cells ≤ R.cells) (hs : slots ≤ R.slots) (k : zz_Z p l e R s m args below meth c Q D A nL cells slots ws (pc + 3) lv (.int (zz_abs x) :: st)) : zz_Z p l e R s m args below meth c Q D A nL cells slots ws (pc) lv (.int x :: st) := fun H locs ls hP hD hS hl => va_mabs C.x C.b (by rw [C.ml]; exact hl.1.symm) C.ow (C.w h1) (C.w h2) (C.w h3) (C.w h4) (Nat.le_trans hd C.fr) (by have := C.lo; omega) hc hs hdg (k H locs ls hP hD hS hl)
theorem zz_mmax (C : zz_C p l R s m meth c D U A own cc nL ret hh d) {index : Nat} {x y : Int32} (hdg : decode cc pc = .ok (.invokestatic index, 3)) (h1 : Cond.methodLink own index Lib.Math.max.name ∈ lw_tbl ∧ goodWord (Cond.methodLink own index Lib.Math.max.name) = true) (h2 : Cond.static Lib.Math.max.name ∈ lw_tbl ∧ goodWord (Cond.static Lib.Math.max.name) = true) (h3 : Cond.initialized "java/lang/Math" ∈ lw_tbl ∧ goodWord (Cond.initialized "java/lang/Math") = true) (h4 : Cond.code Lib.Math.max.name Lib.Math.max.code 2 (some .int) ∈ lw_tbl ∧ goodWord (Cond.code Lib.Math.max.name Lib.Math.max.code 2 (some .int)) = true) (hd : 1 ≤ d) (hst : (st.map fun v => v.category).sum ≤ 8) (hc : cells ≤ R.cells) (hs : slots ≤ R.slots) (k : zz_Z p l e R s m args below meth c Q D A nL cells slots ws (pc + 3) lv (.int (zz_max x y) :: st)) : zz_Z p l e R s m args below meth c Q D A nL cells slots ws (pc) lv (.int y :: .int x :: st) := fun H locs ls hP hD hS hl => va_mmax C.x C.b (by rw [C.ml]; exact hl.1.symm) C.ow (C.w h1) (C.w h2) (C.w h3) (C.w h4) (Nat.le_trans hd C.fr) (by have := C.lo; omega) hc hs hdg (k H locs ls hP hD hS hl)
theorem zz_mmin (C : zz_C p l R s m meth c D U A own cc nL ret hh d) {index : Nat} {x y : Int32} (hdg : decode cc pc = .ok (.invokestatic index, 3)) (h1 : Cond.methodLink own index Lib.Math.min.name ∈ lw_tbl ∧ goodWord (Cond.methodLink own index Lib.Math.min.name) = true) (h2 : Cond.static Lib.Math.min.name ∈ lw_tbl ∧ goodWord (Cond.static Lib.Math.min.name) = true) (h3 : Cond.initialized "java/lang/Math" ∈ lw_tbl ∧ goodWord (Cond.initialized "java/lang/Math") = true) (h4 : Cond.code Lib.Math.min.name Lib.Math.min.code 2 (some .int) ∈ lw_tbl ∧ goodWord (Cond.code Lib.Math.min.name Lib.Math.min.code 2 (some .int)) = true) (hd : 1 ≤ d) (hst : (st.map fun v => v.category).sum ≤ 8) (hc : cells ≤ R.cells) (hs : slots ≤ R.slots) (k : zz_Z p l e R s m args below meth c Q D A nL cells slots ws (pc + 3) lv (.int (zz_min x y) :: st)) : zz_Z p l e R s m args below meth c Q D A nL cells slots ws (pc) lv (.int y :: .int x :: st) := fun H locs ls hP hD hS hl => va_mmin C.x C.b (by rw [C.ml]; exact hl.1.symm) C.ow (C.w h1) (C.w h2) (C.w h3) (C.w h4) (Nat.le_trans hd C.fr) (by have := C.lo; omega) hc hs hdg (k H locs ls hP hD hS hl)
end ZZ
end
section
/-! ===== contracts in one form, calls, ends, throws ===== -/
abbrev zz_g (w : Cond) : Prop := w ∈ lw_tbl ∧ goodWord w = true
/-- a method's start: its arguments, the world, the tables -/
def zz_Pc (D : va_G) (U : zz_U) (as : List Value) (ws : va_W) (sz : Nat) : Array Value → State → Prop := va_Pc as (fun V => V.heap.size = sz ∧ va_P D zcl ws V.heap ∧ va_K D zcl (zz_tys U) V ∧ va_D (fun _ => True) ws ∧ zz_F V ∧ zz_S (va_A ws sz) V V.heap)
def zz_Qc (D : va_G) (A : Nat → Prop) (Ψ : Option Value → va_W → Prop) : Array Value → State → Outcome → State → Prop := fun _ st o t => (∃ (v : Option Value) (ws' : va_W), o = .returned v ∧ Ψ v ws' ∧ va_P D zcl ws' t.heap ∧ va_D A ws') ∧ va_F A st t
def zz_XC (D : va_G) (A : Nat → Prop) (ΨX : String → va_W → Prop) : String → State → State → Prop := fun E st t => (∃ ws' : va_W, ΨX E ws' ∧ va_P D zcl ws' t.heap ∧ va_D A ws') ∧ va_F A st t
/-- the contract of a method at its arguments and its world -/
def zz_Met (y : MethodName) (w0 : Cond) (d mc ms : Nat) (D : va_G) (U : zz_U) (as : List Value) (ws : va_W) (Ψ : Option Value → va_W → Prop) (ΨX : String → va_W → Prop) : Prop :=
  ∀ (l : Launch) (sz : Nat), l.stackTraces = false → vx_Met l y [w0] ({ frames := d, cells := mc, slots := ms, locals := 36 * d } : Room) (zz_Pc D U as ws sz) (zz_Qc D (va_A ws sz) Ψ) (zz_XC D (va_A ws sz) ΨX) mc ms (va_A ws sz)
theorem zz_blind {D : va_G} {U : zz_U} {as : List Value} {ws : va_W} {sz : Nat} : FrameBlind (zz_Pc D U as ws sz) := by
  intro a V g mk q
  obtain ⟨q0, q1, qP, qK, qD, qF, qS⟩ := q
  exact ⟨q0, q1, qP, va_K.moved (u := V) (U := V.calling g mk a) (Vm.Alike.refl V.vm) qK, qD, zz_F.same (u := V) (V := V.calling g mk a) rfl qF, ⟨vx_Zq.moved (u := V) (U := V.calling g mk a) (Vm.Alike.refl V.vm) qS.1, vx_Zq.moved (u := V) (U := V.calling g mk a) (Vm.Alike.refl V.vm) qS.2⟩⟩
theorem zz_Met.noX {y : MethodName} {w0 : Cond} {d mc ms : Nat} {D : va_G} {U : zz_U} {as : List Value} {ws : va_W} {Ψ : Option Value → va_W → Prop} {ΨX : String → va_W → Prop} (h : zz_Met y w0 d mc ms D U as ws Ψ ΨX) (hX : ∀ E w, ¬ ΨX E w) {l : Launch} {sz : Nat} (hl : l.stackTraces = false) :
    Met l y [w0] ({ frames := d, cells := mc, slots := ms, locals := 36 * d } : Room) (zz_Pc D U as ws sz) (zz_Qc D (va_A ws sz) Ψ) mc ms (va_A ws sz) := by
  intro p e ha hc hk s m args below hf happ hP hK
  obtain ⟨n, o, h1, h2, h3, h4⟩ := h l sz hl p e ha hc hk s m args below hf happ hP hK
  refine ⟨n, o, h1, h2, h3, ?_⟩
  rcases h4 with h4 | ⟨q, -, E, ce, L, hx, -⟩
  · exact h4
  · obtain ⟨⟨w, hw, -⟩, -⟩ := hx
    exact absurd hw (hX E w)
section ZY
variable {p : Program} {l : Launch} {e : Env} {R : Room} {s : State} {m : MethodId} {args : Array Value} {below : List Frame} {meth : Method} {c : Code} {Q : State → Prop} {D : va_G} {U : zz_U} {A : Nat → Prop} {own : String} {cc : ByteArray} {nL d cells slots pc : Nat} {ret : Option FieldType} {hh : List (Nat × Nat × Nat × Nat)} {lv : List (Nat × Value)} {st : List Value} {ws : va_W}
variable {Ψ : Option Value → va_W → Prop} {ΨX : String → va_W → Prop} {mc ms : Nat}
theorem zz_in (C : zz_C p l R s m meth c D U A own cc nL ret hh d) {H : Heap} {locs : List Loc} (hD : va_D A ws) (hS : va_S A s.heap H locs) : ∀ q, va_A ws H.size q → A q := by
  intro q h
  rcases h with ⟨k, e, h⟩ | h
  · exact hD.2 k (q, e) h
  · exact C.hA q (Nat.le_trans hS.1 h)
theorem zz_pre (C : zz_C p l R s m meth c D U A own cc nL ret hh d) {H : Heap} {locs : List Loc} (as : List Value) (hP : va_P D zcl ws H) (hD : va_D A ws) (hS : va_S A s.heap H locs) : ∀ V : State, V.heap = H → s.WarmedH V.vm → zz_Pc D U as ws H.size as.toArray V := by
  intro V hV hW
  have hin := zz_in C hD hS
  refine ⟨rfl, by rw [hV], by rw [hV]; exact hP, va_K.moved hW.alike C.K, hD.weaken (fun _ _ _ _ => trivial), C.F.warm hW, ?_⟩
  rw [hV]
  exact ⟨vx_Zq.moved hW.alike (vx_Zq.narrow (vx_Zq.kept C.S.1 (fun q h1 h2 => hS.2.1 q h1 h2)) hin), vx_Zq.moved hW.alike (vx_Zq.narrow (vx_Zq.kept C.S.2 (fun q h1 h2 => hS.2.1 q h1 h2)) hin)⟩
/-- behind a call -/
theorem zz_back {H : Heap} {locs : List Loc} {ls : Array Slot} {st0 rest : List Value} {a : Array Value} {A1 : Nat → Prop} (hr : vx_Run p l e R s m args below meth c H locs cells slots mc ms (F0 m pc ls st0) rest (zz_Qc D A1 Ψ a) (zz_XC D A1 ΨX) A1) (hS : va_S A s.heap H locs) (hA1 : ∀ q, A1 q → A q)
    (kk : ∀ (v : Option Value) (ws' : va_W), Ψ v ws' → ∀ (H1 : Heap) (locs1 : List Loc), va_P D zcl ws' H1 → va_D A ws' → va_S A s.heap H1 locs1 → W p l e R s m args below meth c H1 locs1 (cells + mc) (slots + ms) Q (F0 m (pc + 3) ls (v.toList ++ rest)))
    (kx : ∀ (E : String) (ws' : va_W), ΨX E ws' → ∀ (H1 : Heap) (locs1 : List Loc) (q : Addr) (ce : Cell), va_P D zcl ws' H1 → va_D A ws' → va_S A s.heap H1 locs1 → H1[q]? = some ce → ce.vm = .none → s.vm.findClass E = some ce.cls → vx_W p l e R s m args below meth c H1 locs1 (cells + mc) (slots + ms) Q (F0 m pc ls rest) q) :
    W p l e R s m args below meth c H locs cells slots Q (F0 m pc ls st0) := by
  intro T hT X
  rcases hr T hT X with ⟨v, st₀, t, T', L, h0, X', hL, e1, e2, ⟨⟨v', ws', hv, hΨ, hP', hD'⟩, hF⟩, st⟩ | ⟨q, st₀, t, T', L, E, ce, h0, X', hL, e1, e2, ⟨⟨ws', hΨ, hP', hD'⟩, hF⟩, hce, hcv, hcl, st⟩
  · cases hv
    obtain ⟨k1, k2, k3⟩ := vx_keep h0 e1 hS (fun q _ h => hA1 q h) hA1 hL hF
    obtain ⟨t2, a1, b1⟩ := kk v ws' hΨ T'.heap (locs ++ L) (by rw [e1]; exact hP') (hD'.weaken (fun _ q _ h => hA1 q.1 h)) k3 T' rfl X'
    exact ⟨t2, st t2 a1, b1⟩
  · obtain ⟨k1, k2, k3⟩ := vx_keep h0 e1 hS (fun q _ h => hA1 q h) hA1 hL hF
    obtain ⟨t2, a1, b1⟩ := kx E ws' hΨ T'.heap (locs ++ L) q ce (by rw [e1]; exact hP') (hD'.weaken (fun _ q _ h => hA1 q.1 h)) k3 (by rw [e1]; exact hce) hcv hcl T' rfl X'
    exact ⟨t2, st.trans a1, b1⟩
theorem zz_backN {H : Heap} {locs : List Loc} {ls : Array Slot} {st0 rest : List Value} {a : Array Value} {A1 : Nat → Prop} (hr : va_Run p l e R s m args below meth c H locs cells slots mc ms (F0 m pc ls st0) rest (zz_Qc D A1 Ψ a) A1) (hS : va_S A s.heap H locs) (hA1 : ∀ q, A1 q → A q)
    (kk : ∀ (v : Option Value) (ws' : va_W), Ψ v ws' → ∀ (H1 : Heap) (locs1 : List Loc), va_P D zcl ws' H1 → va_D A ws' → va_S A s.heap H1 locs1 → W p l e R s m args below meth c H1 locs1 (cells + mc) (slots + ms) Q (F0 m (pc + 3) ls (v.toList ++ rest))) :
    W p l e R s m args below meth c H locs cells slots Q (F0 m pc ls st0) := by
  intro T hT X
  obtain ⟨v, st₀, t, T', L, h0, X', hL, e1, e2, ⟨⟨v', ws', hv, hΨ, hP', hD'⟩, hF⟩, st⟩ := hr T hT X
  cases hv
  obtain ⟨k1, k2, k3⟩ := vx_keep h0 e1 hS (fun q _ h => hA1 q h) hA1 hL hF
  obtain ⟨t2, a1, b1⟩ := kk v ws' hΨ T'.heap (locs ++ L) (by rw [e1]; exact hP') (hD'.weaken (fun _ q _ h => hA1 q.1 h)) k3 T' rfl X'
  exact ⟨t2, st t2 a1, b1⟩
/-- a method's own words: instance, static -/
def zz_YV (y : MethodName) (w0 : Cond) (n : Nat) : Prop := zz_g (.instanceMethod y) ∧ zz_g (.selects y.cls y y) ∧ zz_g w0 ∧ zz_g (.initialized y.cls) ∧ y.cls ≠ "java/lang/invoke/MethodHandle" ∧ y.cls ≠ "java/lang/invoke/VarHandle" ∧ (parseMethodDescriptor y.desc).map (fun d => d.parameters.length) = some n
def zz_YS (y : MethodName) (w0 : Cond) (n : Nat) : Prop := zz_g (.static y) ∧ zz_g w0 ∧ zz_g (.initialized y.cls) ∧ y.cls ≠ "java/lang/invoke/MethodHandle" ∧ y.cls ≠ "java/lang/invoke/VarHandle" ∧ (parseMethodDescriptor y.desc).map (fun d => d.parameters.length) = some n
def zz_YI (y : MethodName) (w0 : Cond) (n : Nat) : Prop := zz_g (.instanceMethod y) ∧ zz_g w0 ∧ zz_g (.initialized y.cls) ∧ y.cls ≠ "java/lang/invoke/MethodHandle" ∧ y.cls ≠ "java/lang/invoke/VarHandle" ∧ (parseMethodDescriptor y.desc).map (fun d => d.parameters.length) = some n
theorem zz_callB (C : zz_C p l R s m meth c D U A own cc nL ret hh d) {y : MethodName} {bytes : ByteArray} {maxL : Nat} {retY : Option FieldType} {d' n index : Nat} (w1 : zz_g (.methodLink own index y)) (w0 : zz_g (.code y bytes maxL retY)) (wi : zz_g (.initialized y.cls)) (hm : y.cls ≠ "java/lang/invoke/MethodHandle" ∧ y.cls ≠ "java/lang/invoke/VarHandle" ∧ (parseMethodDescriptor y.desc).map (fun d => d.parameters.length) = some n) (hd : d' + 1 ≤ d) (hmx : maxL ≤ 17) :
    CallB R s args own index y bytes maxL retY [.code y bytes maxL retY] ({ frames := d', cells := mc, slots := ms, locals := 36 * d' } : Room) mc ms n := by
  have h1 := C.fr
  have h2 := C.lo
  refine ⟨rfl, rfl, by show d' + 1 ≤ _; omega, by show 8 + (maxL + 11) + 36 * d' ≤ _; omega, fun w hw a' V hW => ?_, List.mem_cons_self, C.w w0, C.w wi, ⟨hm.1, hm.2.1⟩, fun sig h => ?_, C.w w1⟩
  · rw [List.mem_singleton] at hw
    subst hw
    exact word_at (args := a') hW (good_of_word w0.2) (C.w w0)
  · have h9 := hm.2.2
    rw [h] at h9
    exact (Option.some.inj h9).symm
theorem zz_callV (C : zz_C p l R s m meth c D U A own cc nL ret hh d) {y : MethodName} {bytes : ByteArray} {maxL : Nat} {retY : Option FieldType} {d' n index b ci N : Nat} {T : u_T} {fs As rest : List Value} (q0 : Nat) (hM : zz_Met y (.code y bytes maxL retY) d' mc ms D U (.ref b :: As) ws Ψ ΨX) (hdg : decode cc pc = .ok (.invokevirtual index, 3)) (hst : st = As.reverse ++ .ref b :: rest)
    (he : ws[q0]? = some (b, .inr (ci, fs))) (hc : zcl[ci]? = some (y.cls, T, N)) (w1 : zz_g (.methodLink own index y)) (wy : zz_YV y (.code y bytes maxL retY) n) (hn : As.length = n) (hd : d' + 1 ≤ d) (hmx : maxL ≤ 17) (hw : (rest.map fun v => v.category).sum ≤ 8) (hc1 : cells + mc ≤ R.cells) (hs1 : slots + ms ≤ R.slots)
    (kk : ∀ (v : Option Value) (ws' : va_W), Ψ v ws' → zz_Z p l e R s m args below meth c Q D A nL (cells + mc) (slots + ms) ws' (pc + 3) lv (v.toList ++ rest))
    (kx : ∀ (E : String) (ws' : va_W), ΨX E ws' → zz_X p l e R s m args below meth c Q D A nL (cells + mc) (slots + ms) ws' pc lv rest E) : zz_Z p l e R s m args below meth c Q D A nL cells slots ws pc lv st := by
  subst hst
  intro H locs ls hP hD hS hl
  obtain ⟨y1, y2, y3, y4, y5⟩ := wy
  have cw : CallW R s args own y.cls index y bytes maxL retY [.code y bytes maxL retY] ({ frames := d', cells := mc, slots := ms, locals := 36 * d' } : Room) mc ms n := ⟨zz_callB C w1 y3 y4 y5 hd hmx, C.w y1, C.w y2⟩
  have S : CallFix p m c cc nL s args [] own := ⟨C.x, C.b, C.ml, C.ow, fun _ h => nomatch h⟩
  have hpre : PreV s H y.cls b (zz_Pc D U (.ref b :: As) ws H.size) As := ⟨zz_blind, va_recv C.K hP hc he, zz_pre C (.ref b :: As) hP hD hS⟩
  exact zz_back (vx_runV S (hM l H.size C.tr) cw hpre rfl hn hl.1 rfl (lv_room hw) hdg ⟨hc1, hs1⟩) hS (zz_in C hD hS) (fun v ws' hv H1 locs1 hP1 hD1 hS1 => kk v ws' hv H1 locs1 ls hP1 hD1 hS1 hl) (fun E ws' hv H1 locs1 q ce hP1 hD1 hS1 h1 h2 h3 => kx E ws' hv H1 locs1 ls q ce hP1 hD1 hS1 hl h1 h2 h3)
theorem zz_callS (C : zz_C p l R s m meth c D U A own cc nL ret hh d) {y : MethodName} {bytes : ByteArray} {maxL : Nat} {retY : Option FieldType} {d' n index : Nat} {As rest : List Value} (hM : zz_Met y (.code y bytes maxL retY) d' mc ms D U As ws Ψ ΨX) (hdg : decode cc pc = .ok (.invokestatic index, 3)) (hst : st = As.reverse ++ rest)
    (w1 : zz_g (.methodLink own index y)) (wy : zz_YS y (.code y bytes maxL retY) n) (hn : As.length = n) (hd : d' + 1 ≤ d) (hmx : maxL ≤ 17) (hw : (rest.map fun v => v.category).sum ≤ 8) (hc1 : cells + mc ≤ R.cells) (hs1 : slots + ms ≤ R.slots)
    (kk : ∀ (v : Option Value) (ws' : va_W), Ψ v ws' → zz_Z p l e R s m args below meth c Q D A nL (cells + mc) (slots + ms) ws' (pc + 3) lv (v.toList ++ rest))
    (kx : ∀ (E : String) (ws' : va_W), ΨX E ws' → zz_X p l e R s m args below meth c Q D A nL (cells + mc) (slots + ms) ws' pc lv rest E) : zz_Z p l e R s m args below meth c Q D A nL cells slots ws pc lv st := by
  subst hst
  intro H locs ls hP hD hS hl
  obtain ⟨y1, y3, y4, y5⟩ := wy
  have S : CallFix p m c cc nL s args [] own := ⟨C.x, C.b, C.ml, C.ow, fun _ h => nomatch h⟩
  have hpre : PreS s H (zz_Pc D U As ws H.size) As := ⟨zz_blind, zz_pre C As hP hD hS⟩
  exact zz_back (vx_runS S (hM l H.size C.tr) ⟨zz_callB C w1 y3 y4 y5 hd hmx, C.w y1⟩ hpre rfl hn hl.1 rfl (lv_room hw) hdg ⟨hc1, hs1⟩) hS (zz_in C hD hS) (fun v ws' hv H1 locs1 hP1 hD1 hS1 => kk v ws' hv H1 locs1 ls hP1 hD1 hS1 hl) (fun E ws' hv H1 locs1 q ce hP1 hD1 hS1 h1 h2 h3 => kx E ws' hv H1 locs1 ls q ce hP1 hD1 hS1 hl h1 h2 h3)
/-- a private static method of a nest mate, which throws nothing -/
theorem zz_callSN (C : zz_C p l R s m meth c D U A own cc nL ret hh d) {y : MethodName} {bytes : ByteArray} {maxL : Nat} {retY : Option FieldType} {d' n index : Nat} {host : String} {As rest : List Value} (hM : zz_Met y (.code y bytes maxL retY) d' mc ms D U As ws Ψ ΨX) (hX : ∀ E w, ¬ ΨX E w) (hdg : decode cc pc = .ok (.invokestatic index, 3)) (hst : st = As.reverse ++ rest)
    (w1 : (own, index, y, host) ∈ zz_nest) (wy : zz_YS y (.code y bytes maxL retY) n) (hn : As.length = n) (hd : d' + 1 ≤ d) (hmx : maxL ≤ 17) (hw : (rest.map fun v => v.category).sum ≤ 8) (hc1 : cells + mc ≤ R.cells) (hs1 : slots + ms ≤ R.slots)
    (kk : ∀ (v : Option Value) (ws' : va_W), Ψ v ws' → zz_Z p l e R s m args below meth c Q D A nL (cells + mc) (slots + ms) ws' (pc + 3) lv (v.toList ++ rest)) : zz_Z p l e R s m args below meth c Q D A nL cells slots ws pc lv st := by
  subst hst
  intro H locs ls hP hD hS hl
  obtain ⟨y1, y3, y4, y5⟩ := wy
  have h1 := C.fr
  have h2 := C.lo
  have S : CallFix p m c cc nL s args [.code y bytes maxL retY] own := ⟨C.x, C.b, C.ml, C.ow, fun w h => by rw [List.mem_singleton] at h; subst h; exact C.w y3⟩
  have hpre : PreS s H (zz_Pc D U As ws H.size) As := ⟨zz_blind, zz_pre C As hP hD hS⟩
  have hG : GoodIn [.code y bytes maxL retY] [.code y bytes maxL retY] := fun w h => ⟨h, by rw [List.mem_singleton] at h; subst h; exact good_of_word y3.2⟩
  have cn : va_CN R s args own index y host bytes maxL retY [.code y bytes maxL retY] ({ frames := d', cells := mc, slots := ms, locals := 36 * d' } : Room) mc ms n := va_cnB (ws' := []) n S.2.2.2.2 hG rfl rfl rfl (C.F.2.1 _ w1) (C.w y4) y5 ⟨by show d' + 1 ≤ _; omega, by show 8 + (maxL + 11) + 36 * d' ≤ _; omega⟩
  exact zz_backN (va_runSN S (hM.noX hX C.tr) ⟨cn, C.w y1, trivial⟩ hpre rfl hn hl.1 rfl (lv_room hw) hdg ⟨hc1, hs1⟩) hS (zz_in C hD hS) (fun v ws' hv H1 locs1 hP1 hD1 hS1 => kk v ws' hv H1 locs1 ls hP1 hD1 hS1 hl)
/-- a constructor; of a nest mate -/
theorem zz_callI (C : zz_C p l R s m meth c D U A own cc nL ret hh d) {y : MethodName} {bytes : ByteArray} {maxL : Nat} {d' n index b : Nat} {As rest : List Value} (hM : zz_Met y (.code y bytes maxL none) d' mc ms D U (.ref b :: As) ws Ψ ΨX) (hX : ∀ E w, ¬ ΨX E w) (hdg : decode cc pc = .ok (.invokespecial index, 3)) (hst : st = As.reverse ++ .ref b :: rest) (hy1 : y.name = "<init>")
    (w1 : zz_g (.methodLink own index y)) (wy : zz_YI y (.code y bytes maxL none) n) (hn : As.length = n) (hd : d' + 1 ≤ d) (hmx : maxL ≤ 17) (hw : (rest.map fun v => v.category).sum ≤ 8) (hc1 : cells + mc ≤ R.cells) (hs1 : slots + ms ≤ R.slots)
    (kk : ∀ (v : Option Value) (ws' : va_W), Ψ v ws' → zz_Z p l e R s m args below meth c Q D A nL (cells + mc) (slots + ms) ws' (pc + 3) lv (v.toList ++ rest)) : zz_Z p l e R s m args below meth c Q D A nL cells slots ws pc lv st := by
  subst hst
  intro H locs ls hP hD hS hl
  obtain ⟨y1, y3, y4, y5⟩ := wy
  have S : CallFix p m c cc nL s args [] own := ⟨C.x, C.b, C.ml, C.ow, fun _ h => nomatch h⟩
  have hpre : PreS s H (zz_Pc D U (.ref b :: As) ws H.size) (.ref b :: As) := ⟨zz_blind, zz_pre C (.ref b :: As) hP hD hS⟩
  exact zz_backN (va_runI S (hM.noX hX C.tr) ⟨zz_callB C w1 y3 y4 y5 hd hmx, hy1, C.w y1⟩ hpre rfl hn hl.1 rfl (lv_room hw) hdg ⟨hc1, hs1⟩) hS (zz_in C hD hS) (fun v ws' hv H1 locs1 hP1 hD1 hS1 => kk v ws' hv H1 locs1 ls hP1 hD1 hS1 hl)
theorem zz_callIN (C : zz_C p l R s m meth c D U A own cc nL ret hh d) {y : MethodName} {bytes : ByteArray} {maxL : Nat} {d' n index b : Nat} {host : String} {As rest : List Value} (hM : zz_Met y (.code y bytes maxL none) d' mc ms D U (.ref b :: As) ws Ψ ΨX) (hX : ∀ E w, ¬ ΨX E w) (hdg : decode cc pc = .ok (.invokespecial index, 3)) (hst : st = As.reverse ++ .ref b :: rest) (hy1 : y.name = "<init>")
    (w1 : (own, index, y, host) ∈ zz_nest) (wy : zz_YI y (.code y bytes maxL none) n) (hn : As.length = n) (hd : d' + 1 ≤ d) (hmx : maxL ≤ 17) (hw : (rest.map fun v => v.category).sum ≤ 8) (hc1 : cells + mc ≤ R.cells) (hs1 : slots + ms ≤ R.slots)
    (kk : ∀ (v : Option Value) (ws' : va_W), Ψ v ws' → zz_Z p l e R s m args below meth c Q D A nL (cells + mc) (slots + ms) ws' (pc + 3) lv (v.toList ++ rest)) : zz_Z p l e R s m args below meth c Q D A nL cells slots ws pc lv st := by
  subst hst
  intro H locs ls hP hD hS hl
  obtain ⟨y1, y3, y4, y5⟩ := wy
  have h1 := C.fr
  have h2 := C.lo
  have S : CallFix p m c cc nL s args [.code y bytes maxL none] own := ⟨C.x, C.b, C.ml, C.ow, fun w h => by rw [List.mem_singleton] at h; subst h; exact C.w y3⟩
  have hpre : PreS s H (zz_Pc D U (.ref b :: As) ws H.size) (.ref b :: As) := ⟨zz_blind, zz_pre C (.ref b :: As) hP hD hS⟩
  have hG : GoodIn [.code y bytes maxL none] [.code y bytes maxL none] := fun w h => ⟨h, by rw [List.mem_singleton] at h; subst h; exact good_of_word y3.2⟩
  have cn : va_CN R s args own index y host bytes maxL none [.code y bytes maxL none] ({ frames := d', cells := mc, slots := ms, locals := 36 * d' } : Room) mc ms n := va_cnB (ws' := []) n S.2.2.2.2 hG rfl rfl rfl (C.F.2.1 _ w1) (C.w y4) y5 ⟨by show d' + 1 ≤ _; omega, by show 8 + (maxL + 11) + 36 * d' ≤ _; omega⟩
  exact zz_backN (va_runIN S (hM.noX hX C.tr) ⟨cn, hy1, C.w y1⟩ hpre rfl hn hl.1 rfl (lv_room hw) hdg ⟨hc1, hs1⟩) hS (zz_in C hD hS) (fun v ws' hv H1 locs1 hP1 hD1 hS1 => kk v ws' hv H1 locs1 ls hP1 hD1 hS1 hl)
/-- Object.<init> -/
theorem zz_objInit (C : zz_C p l R s m meth c D U A own cc nL ret hh d) {index a : Nat} {rest : List Value} (hdg : decode cc pc = .ok (.invokespecial index, 3)) (w1 : zz_g (.methodLink own index Lib.objectInit)) (w2 : zz_g (.instanceMethod Lib.objectInit)) (w3 : zz_g (.code Lib.objectInit ⟨#[0xb1]⟩ 1 none)) (hd : 1 ≤ d) (hw : (rest.map fun v => v.category).sum ≤ 8) (k : zz_Z p l e R s m args below meth c Q D A nL cells slots ws (pc + 3) lv rest) : zz_Z p l e R s m args below meth c Q D A nL cells slots ws pc lv (.ref a :: rest) := by
  intro H locs ls hP hD hS hl
  have h1 := C.fr
  have h2 := C.lo
  refine W.objInit C.x C.b C.ow (C.w w1) (C.w w2) (C.w w3) rfl (by rw [C.ml]; exact hl.1) rfl hdg (by omega) ?_ (k H locs ls hP hD hS hl)
  show 2 * (F0 m pc ls rest).monitorRoom + _ + 12 ≤ _
  have h3 := lv_room (m := m) (pc := pc) (ls := ls) (rest := rest) hw
  omega
/-- ends -/
theorem zz_iret (C : zz_C p l R s m meth c D U A own cc nL (some .int) hh d) {v : Int32} (hdg : decode cc pc = .ok (.ireturn, 1)) (hΨ : Ψ (some (.int v)) ws) (hc : cells ≤ mc) (hs : slots ≤ ms) : zz_Z p l e R s m args below meth c (vx_MQ below (zz_Qc D A Ψ) (zz_XC D A ΨX) args s mc ms A) D A nL cells slots ws pc lv [.int v] :=
  fun H locs ls hP hD hS hl => W.widen hc hs (vx_ret (W.iret C.x C.b C.r (fun t ht hW => ⟨⟨_, _, rfl, hΨ, by rw [ht]; exact hP, hD⟩, hS.F ht⟩) hS.2.2 hdg C.lk))
theorem zz_zret (C : zz_C p l R s m meth c D U A own cc nL (some .boolean) hh d) {v : Int32} (hdg : decode cc pc = .ok (.ireturn, 1)) (hv : v = 0 ∨ v = 1) (hΨ : Ψ (some (.int v)) ws) (hc : cells ≤ mc) (hs : slots ≤ ms) : zz_Z p l e R s m args below meth c (vx_MQ below (zz_Qc D A Ψ) (zz_XC D A ΨX) args s mc ms A) D A nL cells slots ws pc lv [.int v] :=
  fun H locs ls hP hD hS hl => W.widen hc hs (vx_ret (W.zret C.x C.b C.r (by rcases hv with rfl | rfl <;> rfl) (fun t ht hW => ⟨⟨_, _, rfl, hΨ, by rw [ht]; exact hP, hD⟩, hS.F ht⟩) hS.2.2 hdg C.lk))
theorem zz_lret (C : zz_C p l R s m meth c D U A own cc nL (some .long) hh d) {v : Int64} (hdg : decode cc pc = .ok (.lreturn, 1)) (hΨ : Ψ (some (.long v)) ws) (hc : cells ≤ mc) (hs : slots ≤ ms) : zz_Z p l e R s m args below meth c (vx_MQ below (zz_Qc D A Ψ) (zz_XC D A ΨX) args s mc ms A) D A nL cells slots ws pc lv [.long v] :=
  fun H locs ls hP hD hS hl => W.widen hc hs (vx_ret (W.lret C.x C.b C.r (fun t ht hW => ⟨⟨_, _, rfl, hΨ, by rw [ht]; exact hP, hD⟩, hS.F ht⟩) hS.2.2 hdg C.lk))
theorem zz_dret (C : zz_C p l R s m meth c D U A own cc nL (some .double) hh d) {v : UInt64} (hdg : decode cc pc = .ok (.dreturn, 1)) (hΨ : Ψ (some (.double v)) ws) (hc : cells ≤ mc) (hs : slots ≤ ms) : zz_Z p l e R s m args below meth c (vx_MQ below (zz_Qc D A Ψ) (zz_XC D A ΨX) args s mc ms A) D A nL cells slots ws pc lv [.double v] :=
  fun H locs ls hP hD hS hl => W.widen hc hs (vx_ret (W.dret C.x C.b C.r (fun t ht hW => ⟨⟨_, _, rfl, hΨ, by rw [ht]; exact hP, hD⟩, hS.F ht⟩) hS.2.2 hdg C.lk))
theorem zz_vret (C : zz_C p l R s m meth c D U A own cc nL none hh d) (hdg : decode cc pc = .ok (.return_, 1)) (hΨ : Ψ none ws) (hc : cells ≤ mc) (hs : slots ≤ ms) : zz_Z p l e R s m args below meth c (vx_MQ below (zz_Qc D A Ψ) (zz_XC D A ΨX) args s mc ms A) D A nL cells slots ws pc lv [] :=
  fun H locs ls hP hD hS hl => W.widen hc hs (vx_ret (W.vret C.x C.b C.r (fun t ht hW => ⟨⟨_, _, rfl, hΨ, by rw [ht]; exact hP, hD⟩, hS.F ht⟩) hS.2.2 hdg C.lk))
/-- thrown by a callee, not caught here -/
theorem zz_out (C : zz_C p l R s m meth c D U A own cc nL ret [] d) {E : String} (hΨ : ΨX E ws) (hc : cells ≤ mc) (hs : slots ≤ ms) : zz_X p l e R s m args below meth c (vx_MQ below (zz_Qc D A Ψ) (zz_XC D A ΨX) args s mc ms A) D A nL cells slots ws pc lv st E :=
  fun H locs ls q ce hP hD hS hl h1 h2 h3 => vx_out (fun x hx => by rw [C.t] at hx; exact nomatch hx) C.lk h1 h2 h3 (fun t ht hW => ⟨⟨_, hΨ, by rw [ht]; exact hP, hD⟩, hS.F ht⟩) hS.2.2 hc hs
/-- throw new E("text") -/
def zz_names : List String := ["java/lang/RuntimeException", "java/lang/Exception"]
def zz_thr (own : String) (ik ic : Nat) (cls : String) : Prop := (∀ w ∈ vx_atS own ic cls zz_names, zz_g w ∨ w = .castable cls cls ∨ ∃ y ∈ zz_decl, w = .declares y) ∧ (∀ w ∈ Cond.classLink own ik cls :: Cond.initialized cls :: vx_atS own ic cls zz_names, vx_ot w = true) ∧ zz_g (.classLink own ik cls) ∧ zz_g (.initialized cls) ∧ cls ∈ zz_exc
theorem zz_fit {cls : String} (h : cls ∈ zz_exc) : Bundle.fit cls = true := by
  have h9 : ∀ E ∈ zz_exc, Bundle.fit E = true := by decide +kernel
  exact h9 cls h
theorem zz_fitn : ∀ n ∈ zz_names, Bundle.fit n = true := by decide +kernel
theorem zz_hx (C : zz_C p l R s m meth c D U A own cc nL ret hh d) {H : Heap} {locs : List Loc} {E : String} (hΨ : ΨX E ws) (hP : va_P D zcl ws H) (hD : va_D A ws) (hS : va_S A s.heap H locs) : ∀ t : State, s.vm.Alike t.vm → H.size ≤ t.heap.size → (∀ q : Nat, q < H.size → t.heap[q]? = H[q]?) → zz_XC D A ΨX E s t := by
  intro t hvm hsz hk
  refine ⟨⟨_, hΨ, hP.kept (fun k q hq => hk q.1 ((hP k q hq).lt)), hD⟩, ⟨Nat.le_trans hS.1 hsz, fun q h1 h2 => ?_⟩⟩
  rw [hk q (Nat.lt_of_lt_of_le h1 hS.1)]
  exact hS.2.1 q h1 h2
theorem zz_throwS (C : zz_C p l R s m meth c D U A own cc nL ret [] d) {cls text : String} {ik is ic : Nat} (ht : zz_thr own ik ic cls) (hstr : (own, is, text) ∈ zz_str)
    (d0 : decode cc pc = .ok (.new ik, 3)) (d3 : decode cc (pc + 3) = .ok (.dup, 1)) (d4 : decode cc (pc + 4) = .ok (.ldc is, 2)) (d6 : decode cc (pc + 6) = .ok (.invokespecial ic, 3)) (d9 : decode cc (pc + 9) = .ok (.athrow, 1))
    (hd : 6 ≤ d) (hw : (st.map fun v => v.category).sum ≤ 8) (hc : cells + 1 ≤ R.cells) (hs : slots + 6 ≤ R.slots) (hc2 : cells + 1 ≤ mc) (hs2 : slots + 6 ≤ ms) (hΨ : ΨX cls ws) :
    zz_Z p l e R s m args below meth c (vx_MQ below (zz_Qc D A Ψ) (zz_XC D A ΨX) args s mc ms A) D A nL cells slots ws pc lv st := by
  intro H locs ls hP hD hS hl
  obtain ⟨t1, t2, t3, t4, t5⟩ := ht
  obtain ⟨sa, hsa⟩ := C.F.2.2.2.2.1 _ hstr
  have h1 := C.fr
  have h2 := C.lo
  exact vx_throwS (names := zz_names) (A := A) C.x C.b C.tr C.ow (zz_fit t5) zz_fitn (C.w t3) (C.w t4) hsa (fun w hw => by
      rcases t1 w hw with h | h | ⟨y, hy, h⟩
      · exact C.w h
      · rw [h]; exact va_Nw.use rfl (C.F.2.2.1 _ t5)
      · rw [h]; exact va_Nw.use rfl (C.F.2.2.2.2.2.1 _ hy)) t2 C.S.1 C.S.2 hS (by rw [C.ml]; exact hl.1) d0 d3 d4 d6 d9 (fun x hx => by rw [C.t] at hx; exact nomatch hx)
    (by show 2 + 3 < _; omega) (by show _ + (13 * (2 + 1) + 43) ≤ _; omega) hc hs C.lk (zz_hx C hΨ hP hD hS) hS.2.2 hc2 hs2
theorem zz_throwSW (C : zz_C p l R s m meth c D U A own cc nL ret [] d) {cls text : String} {ik is ic : Nat} (ht : zz_thr own ik ic cls) (hstr : (own, is, text) ∈ zz_str)
    (d0 : decode cc pc = .ok (.new ik, 3)) (d3 : decode cc (pc + 3) = .ok (.dup, 1)) (d4 : decode cc (pc + 4) = .ok (.ldc_w is, 3)) (d7 : decode cc (pc + 7) = .ok (.invokespecial ic, 3)) (d10 : decode cc (pc + 10) = .ok (.athrow, 1))
    (hd : 6 ≤ d) (hw : (st.map fun v => v.category).sum ≤ 8) (hc : cells + 1 ≤ R.cells) (hs : slots + 6 ≤ R.slots) (hc2 : cells + 1 ≤ mc) (hs2 : slots + 6 ≤ ms) (hΨ : ΨX cls ws) :
    zz_Z p l e R s m args below meth c (vx_MQ below (zz_Qc D A Ψ) (zz_XC D A ΨX) args s mc ms A) D A nL cells slots ws pc lv st := by
  intro H locs ls hP hD hS hl
  obtain ⟨t1, t2, t3, t4, t5⟩ := ht
  obtain ⟨sa, hsa⟩ := C.F.2.2.2.2.1 _ hstr
  have h1 := C.fr
  have h2 := C.lo
  exact vx_throwSW (names := zz_names) (A := A) C.x C.b C.tr C.ow (zz_fit t5) zz_fitn (C.w t3) (C.w t4) hsa (fun w hw => by
      rcases t1 w hw with h | h | ⟨y, hy, h⟩
      · exact C.w h
      · rw [h]; exact va_Nw.use rfl (C.F.2.2.1 _ t5)
      · rw [h]; exact va_Nw.use rfl (C.F.2.2.2.2.2.1 _ hy)) t2 C.S.1 C.S.2 hS (by rw [C.ml]; exact hl.1) d0 d3 d4 d7 d10 (fun x hx => by rw [C.t] at hx; exact nomatch hx)
    (by show 2 + 3 < _; omega) (by show _ + (13 * (2 + 1) + 43) ≤ _; omega) hc hs C.lk (zz_hx C hΨ hP hD hS) hS.2.2 hc2 hs2
/-- caught: pre, the rows ahead that name other classes -/
theorem zz_catch (C : zz_C p l R s m meth c D U A own cc nL ret hh d) {E : String} {lv0 : List (Nat × Value)} {h : Nat} (pre : List ExceptionTableEntry) (x : ExceptionTableEntry) (suf : List ExceptionTableEntry) (hsplit : tableOf hh = pre ++ x :: suf) (hpass : ∀ z ∈ pre, covers z pc = false ∨ (z.catchType ≠ 0 ∧ ∃ nm : String, zz_g (.classLink own z.catchType nm) ∧ (E, nm) ∈ zz_nocast)) (hx : covers x pc = true) (h0 : x.catchType ≠ 0)
    (w1 : zz_g (.classLink own x.catchType E)) (hE : E ∈ zz_exc) (hp : x.handlerPc = h) (k : ∀ q : Addr, zz_Z p l e R s m args below meth c Q D A nL cells slots ws h lv [.ref q]) : zz_X p l e R s m args below meth c Q D A nL cells slots ws pc lv st E :=
  fun H locs ls q ce hP hD hS hl h1 h2 h3 => vx_catch (args := args) C.ow pre x suf (C.t.trans hsplit) (fun z hz => (hpass z hz).imp id (fun ⟨g1, nm, g2, g3⟩ => ⟨g1, nm, C.w g2, C.F.2.2.2.1 _ g3⟩)) hx h0 (C.w w1) (va_Nw.use rfl (C.F.2.2.1 _ hE)) h1 h2 h3 (by rw [hp]; exact k q H locs ls hP hD hS hl)
end ZY
/-- the two ends of a contract, exactly -/
abbrev zz_ok (v0 : Option Value) (w0 : va_W) : Option Value → va_W → Prop := fun v w => v = v0 ∧ w = w0
abbrev zz_none : Option Value → va_W → Prop := fun _ _ => False
abbrev zz_th (E0 : String) (w0 : va_W) : String → va_W → Prop := fun E w => E = E0 ∧ w = w0
abbrev zz_noth : String → va_W → Prop := fun _ _ => False
section ZV
variable {p : Program} {l : Launch} {e : Env} {R : Room} {s : State} {m : MethodId} {args : Array Value} {below : List Frame} {meth : Method} {c : Code} {Q : State → Prop} {D : va_G} {U : zz_U} {A : Nat → Prop} {own : String} {cc : ByteArray} {nL d cells slots pc : Nat} {ret : Option FieldType} {hh : List (Nat × Nat × Nat × Nat)} {lv : List (Nat × Value)} {st : List Value} {ws w1 : va_W} {mc ms : Nat} {v0 : Option Value} {E0 : String}
variable {y : MethodName} {bytes : ByteArray} {maxL : Nat} {retY : Option FieldType} {d' n index b ci N : Nat} {T : u_T} {host : String} {fs As rest st1 : List Value}
theorem zz_callV1 (C : zz_C p l R s m meth c D U A own cc nL ret hh d) (q0 : Nat) (hM : zz_Met y (.code y bytes maxL retY) d' mc ms D U (.ref b :: As) ws (zz_ok v0 w1) zz_noth) (hdg : decode cc pc = .ok (.invokevirtual index, 3)) (hst : st = As.reverse ++ .ref b :: rest) (he : ws[q0]? = some (b, .inr (ci, fs))) (hc : zcl[ci]? = some (y.cls, T, N)) (w2 : zz_g (.methodLink own index y)) (wy : zz_YV y (.code y bytes maxL retY) n) (hn : As.length = n) (hd : d' + 1 ≤ d) (hmx : maxL ≤ 17) (hw : (rest.map fun v => v.category).sum ≤ 8) (hc1 : cells + mc ≤ R.cells) (hs1 : slots + ms ≤ R.slots) (hv : v0.toList ++ rest = st1) (k : zz_Z p l e R s m args below meth c Q D A nL (cells + mc) (slots + ms) w1 (pc + 3) lv (st1)) : zz_Z p l e R s m args below meth c Q D A nL cells slots ws (pc) lv (st) := zz_callV C q0 hM hdg hst he hc w2 wy hn hd hmx hw hc1 hs1 (fun v ws' h => by obtain ⟨rfl, rfl⟩ := h; rw [hv]; exact k) (fun _ _ h => h.elim)
theorem zz_callVx (C : zz_C p l R s m meth c D U A own cc nL ret hh d) (q0 : Nat) (hM : zz_Met y (.code y bytes maxL retY) d' mc ms D U (.ref b :: As) ws zz_none (zz_th E0 w1)) (hdg : decode cc pc = .ok (.invokevirtual index, 3)) (hst : st = As.reverse ++ .ref b :: rest) (he : ws[q0]? = some (b, .inr (ci, fs))) (hc : zcl[ci]? = some (y.cls, T, N)) (w2 : zz_g (.methodLink own index y)) (wy : zz_YV y (.code y bytes maxL retY) n) (hn : As.length = n) (hd : d' + 1 ≤ d) (hmx : maxL ≤ 17) (hw : (rest.map fun v => v.category).sum ≤ 8) (hc1 : cells + mc ≤ R.cells) (hs1 : slots + ms ≤ R.slots) (k : zz_X p l e R s m args below meth c Q D A nL (cells + mc) (slots + ms) w1 pc lv rest E0) : zz_Z p l e R s m args below meth c Q D A nL cells slots ws (pc) lv (st) := zz_callV C q0 hM hdg hst he hc w2 wy hn hd hmx hw hc1 hs1 (fun _ _ h => h.elim) (fun E ws' h => by obtain ⟨rfl, rfl⟩ := h; exact k)
theorem zz_callS1 (C : zz_C p l R s m meth c D U A own cc nL ret hh d) (hM : zz_Met y (.code y bytes maxL retY) d' mc ms D U As ws (zz_ok v0 w1) zz_noth) (hdg : decode cc pc = .ok (.invokestatic index, 3)) (hst : st = As.reverse ++ rest) (w2 : zz_g (.methodLink own index y)) (wy : zz_YS y (.code y bytes maxL retY) n) (hn : As.length = n) (hd : d' + 1 ≤ d) (hmx : maxL ≤ 17) (hw : (rest.map fun v => v.category).sum ≤ 8) (hc1 : cells + mc ≤ R.cells) (hs1 : slots + ms ≤ R.slots) (hv : v0.toList ++ rest = st1) (k : zz_Z p l e R s m args below meth c Q D A nL (cells + mc) (slots + ms) w1 (pc + 3) lv (st1)) : zz_Z p l e R s m args below meth c Q D A nL cells slots ws (pc) lv (st) := zz_callS C hM hdg hst w2 wy hn hd hmx hw hc1 hs1 (fun v ws' h => by obtain ⟨rfl, rfl⟩ := h; rw [hv]; exact k) (fun _ _ h => h.elim)
theorem zz_callSx (C : zz_C p l R s m meth c D U A own cc nL ret hh d) (hM : zz_Met y (.code y bytes maxL retY) d' mc ms D U As ws zz_none (zz_th E0 w1)) (hdg : decode cc pc = .ok (.invokestatic index, 3)) (hst : st = As.reverse ++ rest) (w2 : zz_g (.methodLink own index y)) (wy : zz_YS y (.code y bytes maxL retY) n) (hn : As.length = n) (hd : d' + 1 ≤ d) (hmx : maxL ≤ 17) (hw : (rest.map fun v => v.category).sum ≤ 8) (hc1 : cells + mc ≤ R.cells) (hs1 : slots + ms ≤ R.slots) (k : zz_X p l e R s m args below meth c Q D A nL (cells + mc) (slots + ms) w1 pc lv rest E0) : zz_Z p l e R s m args below meth c Q D A nL cells slots ws (pc) lv (st) := zz_callS C hM hdg hst w2 wy hn hd hmx hw hc1 hs1 (fun _ _ h => h.elim) (fun E ws' h => by obtain ⟨rfl, rfl⟩ := h; exact k)
theorem zz_callSN1 (C : zz_C p l R s m meth c D U A own cc nL ret hh d) (hM : zz_Met y (.code y bytes maxL retY) d' mc ms D U As ws (zz_ok v0 w1) zz_noth) (hdg : decode cc pc = .ok (.invokestatic index, 3)) (hst : st = As.reverse ++ rest) (w2 : (own, index, y, host) ∈ zz_nest) (wy : zz_YS y (.code y bytes maxL retY) n) (hn : As.length = n) (hd : d' + 1 ≤ d) (hmx : maxL ≤ 17) (hw : (rest.map fun v => v.category).sum ≤ 8) (hc1 : cells + mc ≤ R.cells) (hs1 : slots + ms ≤ R.slots) (hv : v0.toList ++ rest = st1) (k : zz_Z p l e R s m args below meth c Q D A nL (cells + mc) (slots + ms) w1 (pc + 3) lv (st1)) : zz_Z p l e R s m args below meth c Q D A nL cells slots ws (pc) lv (st) := zz_callSN C hM (fun _ _ h => h) hdg hst w2 wy hn hd hmx hw hc1 hs1 (fun v ws' h => by obtain ⟨rfl, rfl⟩ := h; rw [hv]; exact k)
end ZV
/-- a method's contract out of the walk of its body -/
theorem zz_method {y : MethodName} {cc : ByteArray} {maxL d mc ms : Nat} {ret : Option FieldType} {D : va_G} {U : zz_U} {as : List Value} {ws : va_W} {Ψ : Option Value → va_W → Prop} {ΨX : String → va_W → Prop} (own : String) (ho : y.cls = own) (hy : plainName own = true) (hlen : (lg_sl as).length ≤ maxL)
    (body : ∀ (p : Program) (l : Launch) (e : Env) (s : State) (m : MethodId) (args : Array Value) (below : List Frame) (meth : Method) (c : Code) (A : Nat → Prop), meth.name = y.name → zz_C p l ({ frames := d, cells := mc, slots := ms, locals := 36 * d } : Room) s m meth c D U A own cc maxL ret [] d →
      zz_Z p l e ({ frames := d, cells := mc, slots := ms, locals := 36 * d } : Room) s m args below meth c (vx_MQ below (zz_Qc D A Ψ) (zz_XC D A ΨX) args s mc ms A) D A maxL 0 0 ws 0 (lv_args 0 as) []) : zz_Met y (.code y cc maxL ret) d mc ms D U as ws Ψ ΨX := by
  subst ho
  intro l sz htr
  refine vx_ofW (cc := cc) (maxL := maxL) (ret := ret) (ws' := []) hy rfl ?_
  intro p e s m args below meth c s₁ B hml hno hv
  obtain ⟨rfl, hsz, hP, hK, hD0, hF, hS0⟩ := hv
  subst hsz
  have hD := hD0.self (sz := s.heap.size)
  have hl := lv_entry as (n := maxL) hlen
  rw [lg_entry_eq]
  have ht : c.exceptionTable.toList = tableOf [] := by
    show _ = []
    cases hq : c.exceptionTable.toList with
    | nil => rfl
    | cons z r => exact (hno z (by rw [hq]; exact List.mem_cons_self)).elim
  have hA : ∀ q : Nat, s.heap.size ≤ q → va_A ws s.heap.size q := fun q h => Or.inr h
  refine body p l e s m as.toArray below meth c (va_A ws s.heap.size) (name_of_methodNamed B.named B.method).1 ⟨B.exec, B.bytes, hml, findClass_of_methodNamed B.named, hF, B.notSynchronized, htr, hK, hA, hS0, Nat.le_refl _, Nat.le_refl _, B.returns, ht⟩ s.heap [] _ hP hD va_S.rf hl
end
section
/-- the ints of the world: by cell, by slot -/
abbrev zz_St : Type := Nat → Nat → Int32
def zz_u (σ : zz_St) (q j : Nat) (v : Int32) : zz_St := fun k => bif Nat.beq k q then upd (σ k) j v else σ k
def zz_cc (U : zz_U) (ad : Nat → Nat) (σ : zz_St) : va_W := [(ad 0, .inr (7, [.ref (ad 1), .ref (ad 17), .ref (ad 19), .ref (ad 21), .ref (ad 24), .ref (ad 41), .ref (ad 44), .int (σ 0 7), .int (σ 0 8)])), (ad 1, .inr (5, [.int (σ 1 0), .ref (ad 2), .ref (ad 3), .ref (ad 4), .ref (ad 5), .ref (ad 6), .ref (ad 7), .ref (ad 12)])), (ad 2, .inl (U.1, 14, .inl (σ 2))), (ad 3, .inl (U.1, 14, .inl (σ 3))), (ad 4, .inl (U.1, 14, .inl (σ 4))), (ad 5, .inl (U.1, 14, .inl (σ 5))), (ad 6, .inl (U.1, 14, .inl (σ 6))), (ad 7, .inl (U.2.2.2, 4, .inr (.inr (.inr (.inr (fun i => if i < 4 then some (ad (8 + i)) else none)))))), (ad 8, .inl (U.1, 14, .inl (σ 8))), (ad 9, .inl (U.1, 14, .inl (σ 9))), (ad 10, .inl (U.1, 14, .inl (σ 10))), (ad 11, .inl (U.1, 14, .inl (σ 11))), (ad 12, .inl (U.2.2.2, 4, .inr (.inr (.inr (.inr (fun i => if i < 4 then some (ad (13 + i)) else none)))))), (ad 13, .inl (U.1, 16, .inl (σ 13))), (ad 14, .inl (U.1, 16, .inl (σ 14))), (ad 15, .inl (U.1, 16, .inl (σ 15))), (ad 16, .inl (U.1, 16, .inl (σ 16))), (ad 17, .inr (1, [.int (σ 17 0), .ref (ad 18)])), (ad 18, .inl (U.1, 16, .inl (σ 18))), (ad 19, .inr (2, [.ref (ad 20), .int (σ 19 1)])), (ad 20, .inl (U.1, 4, .inl (σ 20))), (ad 21, .inr (6, [.ref (ad 22), .ref (ad 23)])), (ad 22, .inl (U.1, 14, .inl (σ 22))), (ad 23, .inl (U.1, 14, .inl (σ 23))), (ad 24, .inr (3, [.int (σ 24 0), .int (σ 24 1), .int (σ 24 2), .int (σ 24 3), .ref (ad 25), .ref (ad 26)])), (ad 25, .inl (U.1, 14, .inl (σ 25))), (ad 26, .inl (U.2.2.2, 14, .inr (.inr (.inr (.inr (fun i => if i < 14 then some (ad (27 + i)) else none)))))), (ad 27, .inl (U.1, 14, .inl (σ 27))), (ad 28, .inl (U.1, 14, .inl (σ 28))), (ad 29, .inl (U.1, 14, .inl (σ 29))), (ad 30, .inl (U.1, 14, .inl (σ 30))), (ad 31, .inl (U.1, 14, .inl (σ 31))), (ad 32, .inl (U.1, 14, .inl (σ 32))), (ad 33, .inl (U.1, 14, .inl (σ 33))), (ad 34, .inl (U.1, 14, .inl (σ 34))), (ad 35, .inl (U.1, 14, .inl (σ 35))), (ad 36, .inl (U.1, 14, .inl (σ 36))), (ad 37, .inl (U.1, 14, .inl (σ 37))), (ad 38, .inl (U.1, 14, .inl (σ 38))), (ad 39, .inl (U.1, 14, .inl (σ 39))), (ad 40, .inl (U.1, 14, .inl (σ 40))), (ad 41, .inr (4, [.int (σ 41 0), .int (σ 41 1), .ref (ad 42), .ref (ad 43)])), (ad 42, .inl (U.1, 14, .inl (σ 42))), (ad 43, .inl (U.1, 14, .inl (σ 43))), (ad 44, .inr (0, [.int (σ 44 0), .int (σ 44 1), .ref (ad 45), .ref (ad 46)])), (ad 45, .inl (U.1, 9, .inl (σ 45))), (ad 46, .inl (U.1, 512, .inl (σ 46)))]
/-- the class's cells, and any others behind -/
def zz_wc (U : zz_U) (ad : Nat → Nat) (σ : zz_St) (X : va_W) : va_W := zz_cc U ad σ ++ X
def zz_ga (f : Nat → Int32) (n : Nat) (i : Int32) : Option Int32 := if i < 0 ∨ n ≤ i.toNatClampNeg then none else some (f i.toNatClampNeg)
def zz_pa (σ : zz_St) (q n : Nat) (i v : Int32) : Option zz_St := if i < 0 ∨ n ≤ i.toNatClampNeg then none else some (zz_u σ q i.toNatClampNeg v)
def zz_ix (n : Nat) (i : Int32) : Option Nat := if i < 0 ∨ n ≤ i.toNatClampNeg then none else some i.toNatClampNeg
def zz_dv (x y : Int32) : Option Int32 := if y = 0 then none else some (x / y)
def zz_bo (v : Int32) : Option Int32 := if v = 0 ∨ v = 1 then some v else none
def zz_bi (b : Bool) : Int32 := if b = true then 1 else 0
def zz_dd (x y : UInt64) : Option UInt64 := if FP.ddiv x y &&& 0x7fffffffffffffff ≤ 0x7ff0000000000000 then some (FP.ddiv x y) else none
theorem zz_ga_in {f : Nat → Int32} {n : Nat} {i x : Int32} (h : zz_ga f n i = some x) : vp_in i n ∧ f i.toNatClampNeg = x := by
  unfold zz_ga at h
  split at h
  · cases h
  · next g => exact ⟨g, Option.some.inj h⟩
theorem zz_pa_in {σ σ1 : zz_St} {q n : Nat} {i v : Int32} (h : zz_pa σ q n i v = some σ1) : vp_in i n ∧ zz_u σ q i.toNatClampNeg v = σ1 := by
  unfold zz_pa at h
  split at h
  · cases h
  · next g => exact ⟨g, Option.some.inj h⟩
theorem zz_ix_in {n k : Nat} {i : Int32} (h : zz_ix n i = some k) : vp_in i n ∧ i.toNatClampNeg = k ∧ k < n := by
  unfold zz_ix at h
  split at h
  · cases h
  · next g =>
    have e := Option.some.inj h
    exact ⟨g, e, by rw [← e]; exact Nat.not_le.mp (fun q => g (Or.inr q))⟩
theorem zz_dv_in {x y z : Int32} (h : zz_dv x y = some z) : ¬ y = 0 ∧ x / y = z := by
  unfold zz_dv at h
  split at h
  · cases h
  · next g => exact ⟨g, Option.some.inj h⟩
theorem zz_bo_in {v z : Int32} (h : zz_bo v = some z) : (v = 0 ∨ v = 1) ∧ v = z := by
  unfold zz_bo at h
  split at h
  · next g => exact ⟨g, Option.some.inj h⟩
  · cases h
theorem zz_dd_in {x y z : UInt64} (h : zz_dd x y = some z) : vf_n64 (FP.ddiv x y) ∧ FP.ddiv x y = z := by
  unfold zz_dd at h
  split at h
  · next g => exact ⟨g, Option.some.inj h⟩
  · cases h
theorem zz_bind {α β : Type} {o : Option α} {f : α → Option β} {r : β} (h : o.bind f = some r) : ∃ x, o = some x ∧ f x = some r := by
  cases o with
  | none => cases h
  | some x => exact ⟨x, rfl, h⟩
theorem zz_bi01 (b : Bool) : zz_bi b = 0 ∨ zz_bi b = 1 := by
  cases b
  · exact Or.inl rfl
  · exact Or.inr rfl
theorem zz_sw {x : Int32} (n : Nat) (k : Int32) (hk : k.toInt = (n : Int)) (h : ¬ x = k) : ¬ x.toInt = (n : Int) := fun q => h (Int32.toInt_inj.mp (q.trans hk.symm))
section ZW
variable {p : Program} {l : Launch} {e : Env} {R : Room} {s : State} {m : MethodId} {args : Array Value} {below : List Frame} {meth : Method} {c : Code} {Q : State → Prop} {D : va_G} {U : zz_U} {A : Nat → Prop} {own : String} {cc : ByteArray} {nL d cells slots pc index : Nat} {ret : Option FieldType} {hh : List (Nat × Nat × Nat × Nat)} {lv : List (Nat × Value)} {st : List Value} {ad : Nat → Nat} {σ ρ : zz_St} {X : va_W}
theorem zz_topi {x y : Int32} {ws : va_W} (h : x = y) (k : zz_Z p l e R s m args below meth c Q D A nL cells slots (ws) (pc) lv (.int y :: st)) : zz_Z p l e R s m args below meth c Q D A nL cells slots (ws) (pc) lv (.int x :: st) := h ▸ k
theorem zz_topl {x y : Int64} {ws : va_W} (h : x = y) (k : zz_Z p l e R s m args below meth c Q D A nL cells slots (ws) (pc) lv (.long y :: st)) : zz_Z p l e R s m args below meth c Q D A nL cells slots (ws) (pc) lv (.long x :: st) := h ▸ k
theorem zz_topd {x y : UInt64} {ws : va_W} (h : x = y) (k : zz_Z p l e R s m args below meth c Q D A nL cells slots (ws) (pc) lv (.double y :: st)) : zz_Z p l e R s m args below meth c Q D A nL cells slots (ws) (pc) lv (.double x :: st) := h ▸ k
theorem zz_cut {ws : va_W} (pc1 : Nat) (lv1 : List (Nat × Value)) (st1 : List Value) (ws1 : va_W) (h1 : zz_Z p l e R s m args below meth c Q D A nL cells slots ws1 pc1 lv1 st1) (h2 : zz_Z p l e R s m args below meth c Q D A nL cells slots ws1 pc1 lv1 st1 → zz_Z p l e R s m args below meth c Q D A nL cells slots ws pc lv st) : zz_Z p l e R s m args below meth c Q D A nL cells slots ws pc lv st := h2 h1
theorem zz_cutI {ws : va_W} {P : Prop} (pc1 : Nat) (lv1 : List (Nat × Value)) (st1 : List Value) (ws1 : va_W) (h1 : P → zz_Z p l e R s m args below meth c Q D A nL cells slots ws1 pc1 lv1 st1) (h2 : (P → zz_Z p l e R s m args below meth c Q D A nL cells slots ws1 pc1 lv1 st1) → zz_Z p l e R s m args below meth c Q D A nL cells slots ws pc lv st) : zz_Z p l e R s m args below meth c Q D A nL cells slots ws pc lv st := h2 h1
theorem zz_lvs {ws : va_W} {lv1 : List (Nat × Value)} (h : lv = lv1) (k : zz_Z p l e R s m args below meth c Q D A nL cells slots ws pc lv1 st) : zz_Z p l e R s m args below meth c Q D A nL cells slots ws pc lv st := h ▸ k
theorem zf7_pieces (C : zz_C p l R s m meth c D U A own cc nL ret hh d) (hdg : decode cc pc = .ok (.getfield index, 3)) (hw : zz_g (.fieldLink own index "ChangeUntangler" "pieces" "LChangeUntangler$Pieces;")) (k : zz_Z p l e R s m args below meth c Q D A nL cells slots (zz_wc U ad (σ) X) (pc + 3) lv (.ref (ad 1) :: st)) : zz_Z p l e R s m args below meth c Q D A nL cells slots (zz_wc U ad (σ) X) (pc) lv (.ref (ad 0) :: st) := zz_get (T := TX7) C 0 0 hdg rfl rfl z_in7 (by decide +kernel) (by decide) hw rfl k
theorem zf7_code (C : zz_C p l R s m meth c D U A own cc nL ret hh d) (hdg : decode cc pc = .ok (.getfield index, 3)) (hw : zz_g (.fieldLink own index "ChangeUntangler" "code" "LChangeUntangler$Code;")) (k : zz_Z p l e R s m args below meth c Q D A nL cells slots (zz_wc U ad (σ) X) (pc + 3) lv (.ref (ad 17) :: st)) : zz_Z p l e R s m args below meth c Q D A nL cells slots (zz_wc U ad (σ) X) (pc) lv (.ref (ad 0) :: st) := zz_get (T := TX7) C 0 1 hdg rfl rfl z_in7 (by decide +kernel) (by decide) hw rfl k
theorem zf7_evidence (C : zz_C p l R s m meth c D U A own cc nL ret hh d) (hdg : decode cc pc = .ok (.getfield index, 3)) (hw : zz_g (.fieldLink own index "ChangeUntangler" "evidence" "LChangeUntangler$Evidence;")) (k : zz_Z p l e R s m args below meth c Q D A nL cells slots (zz_wc U ad (σ) X) (pc + 3) lv (.ref (ad 19) :: st)) : zz_Z p l e R s m args below meth c Q D A nL cells slots (zz_wc U ad (σ) X) (pc) lv (.ref (ad 0) :: st) := zz_get (T := TX7) C 0 2 hdg rfl rfl z_in7 (by decide +kernel) (by decide) hw rfl k
theorem zf7_sayings (C : zz_C p l R s m meth c D U A own cc nL ret hh d) (hdg : decode cc pc = .ok (.getfield index, 3)) (hw : zz_g (.fieldLink own index "ChangeUntangler" "sayings" "LChangeUntangler$Sayings;")) (k : zz_Z p l e R s m args below meth c Q D A nL cells slots (zz_wc U ad (σ) X) (pc + 3) lv (.ref (ad 21) :: st)) : zz_Z p l e R s m args below meth c Q D A nL cells slots (zz_wc U ad (σ) X) (pc) lv (.ref (ad 0) :: st) := zz_get (T := TX7) C 0 3 hdg rfl rfl z_in7 (by decide +kernel) (by decide) hw rfl k
theorem zf7_groups (C : zz_C p l R s m meth c D U A own cc nL ret hh d) (hdg : decode cc pc = .ok (.getfield index, 3)) (hw : zz_g (.fieldLink own index "ChangeUntangler" "groups" "LChangeUntangler$Groups;")) (k : zz_Z p l e R s m args below meth c Q D A nL cells slots (zz_wc U ad (σ) X) (pc + 3) lv (.ref (ad 24) :: st)) : zz_Z p l e R s m args below meth c Q D A nL cells slots (zz_wc U ad (σ) X) (pc) lv (.ref (ad 0) :: st) := zz_get (T := TX7) C 0 4 hdg rfl rfl z_in7 (by decide +kernel) (by decide) hw rfl k
theorem zf7_parcels (C : zz_C p l R s m meth c D U A own cc nL ret hh d) (hdg : decode cc pc = .ok (.getfield index, 3)) (hw : zz_g (.fieldLink own index "ChangeUntangler" "parcels" "LChangeUntangler$Parcels;")) (k : zz_Z p l e R s m args below meth c Q D A nL cells slots (zz_wc U ad (σ) X) (pc + 3) lv (.ref (ad 41) :: st)) : zz_Z p l e R s m args below meth c Q D A nL cells slots (zz_wc U ad (σ) X) (pc) lv (.ref (ad 0) :: st) := zz_get (T := TX7) C 0 5 hdg rfl rfl z_in7 (by decide +kernel) (by decide) hw rfl k
theorem zf7_bestOrder (C : zz_C p l R s m meth c D U A own cc nL ret hh d) (hdg : decode cc pc = .ok (.getfield index, 3)) (hw : zz_g (.fieldLink own index "ChangeUntangler" "bestOrder" "LChangeUntangler$BestOrder;")) (k : zz_Z p l e R s m args below meth c Q D A nL cells slots (zz_wc U ad (σ) X) (pc + 3) lv (.ref (ad 44) :: st)) : zz_Z p l e R s m args below meth c Q D A nL cells slots (zz_wc U ad (σ) X) (pc) lv (.ref (ad 0) :: st) := zz_get (T := TX7) C 0 6 hdg rfl rfl z_in7 (by decide +kernel) (by decide) hw rfl k
theorem zf7_isPutTogether (C : zz_C p l R s m meth c D U A own cc nL ret hh d) (hdg : decode cc pc = .ok (.getfield index, 3)) (hw : zz_g (.fieldLink own index "ChangeUntangler" "isPutTogether" "Z")) (k : zz_Z p l e R s m args below meth c Q D A nL cells slots (zz_wc U ad (σ) X) (pc + 3) lv (.int (σ 0 7) :: st)) : zz_Z p l e R s m args below meth c Q D A nL cells slots (zz_wc U ad (σ) X) (pc) lv (.ref (ad 0) :: st) := zz_get (T := TX7) C 0 7 hdg rfl rfl z_in7 (by decide +kernel) (by decide) hw rfl k
theorem zp7_isPutTogether (C : zz_C p l R s m meth c D U A own cc nL ret hh d) {v : Int32} (hdg : decode cc pc = .ok (.putfield index, 3)) (hw : zz_g (.fieldLink own index "ChangeUntangler" "isPutTogether" "Z")) (hv : v = 0 ∨ v = 1) (k : zz_Z p l e R s m args below meth c Q D A nL cells slots (zz_wc U ad (zz_u σ 0 7 v) X) (pc + 3) lv (st)) : zz_Z p l e R s m args below meth c Q D A nL cells slots (zz_wc U ad (σ) X) (pc) lv (.int v :: .ref (ad 0) :: st) := zz_put (T := TX7) (v := .int v) (ty := .boolean) C 0 7 hdg rfl rfl z_in7 (by decide +kernel) tyX7_ok nmX7 (by decide) hw rfl (by decide +kernel) (by rcases hv with rfl | rfl <;> rfl) (by rcases hv with rfl | rfl <;> rfl) (Nat.le_of_ble_eq_true rfl) rfl k
theorem zf7_isBestKnown (C : zz_C p l R s m meth c D U A own cc nL ret hh d) (hdg : decode cc pc = .ok (.getfield index, 3)) (hw : zz_g (.fieldLink own index "ChangeUntangler" "isBestKnown" "Z")) (k : zz_Z p l e R s m args below meth c Q D A nL cells slots (zz_wc U ad (σ) X) (pc + 3) lv (.int (σ 0 8) :: st)) : zz_Z p l e R s m args below meth c Q D A nL cells slots (zz_wc U ad (σ) X) (pc) lv (.ref (ad 0) :: st) := zz_get (T := TX7) C 0 8 hdg rfl rfl z_in7 (by decide +kernel) (by decide) hw rfl k
theorem zp7_isBestKnown (C : zz_C p l R s m meth c D U A own cc nL ret hh d) {v : Int32} (hdg : decode cc pc = .ok (.putfield index, 3)) (hw : zz_g (.fieldLink own index "ChangeUntangler" "isBestKnown" "Z")) (hv : v = 0 ∨ v = 1) (k : zz_Z p l e R s m args below meth c Q D A nL cells slots (zz_wc U ad (zz_u σ 0 8 v) X) (pc + 3) lv (st)) : zz_Z p l e R s m args below meth c Q D A nL cells slots (zz_wc U ad (σ) X) (pc) lv (.int v :: .ref (ad 0) :: st) := zz_put (T := TX7) (v := .int v) (ty := .boolean) C 0 8 hdg rfl rfl z_in7 (by decide +kernel) tyX7_ok nmX7 (by decide) hw rfl (by decide +kernel) (by rcases hv with rfl | rfl <;> rfl) (by rcases hv with rfl | rfl <;> rfl) (Nat.le_of_ble_eq_true rfl) rfl k
theorem zf5_count (C : zz_C p l R s m meth c D U A own cc nL ret hh d) (hdg : decode cc pc = .ok (.getfield index, 3)) (hw : zz_g (.fieldLink own index "ChangeUntangler$Pieces" "count" "I")) (k : zz_Z p l e R s m args below meth c Q D A nL cells slots (zz_wc U ad (σ) X) (pc + 3) lv (.int (σ 1 0) :: st)) : zz_Z p l e R s m args below meth c Q D A nL cells slots (zz_wc U ad (σ) X) (pc) lv (.ref (ad 1) :: st) := zz_get (T := TX5) C 1 0 hdg rfl rfl z_in5 (by decide +kernel) (by decide) hw rfl k
theorem zp5_count (C : zz_C p l R s m meth c D U A own cc nL ret hh d) {v : Int32} (hdg : decode cc pc = .ok (.putfield index, 3)) (hw : zz_g (.fieldLink own index "ChangeUntangler$Pieces" "count" "I")) (k : zz_Z p l e R s m args below meth c Q D A nL cells slots (zz_wc U ad (zz_u σ 1 0 v) X) (pc + 3) lv (st)) : zz_Z p l e R s m args below meth c Q D A nL cells slots (zz_wc U ad (σ) X) (pc) lv (.int v :: .ref (ad 1) :: st) := zz_put (T := TX5) (v := .int v) (ty := .int) C 1 0 hdg rfl rfl z_in5 (by decide +kernel) tyX5_ok nmX5 (by decide) hw rfl (by decide +kernel) rfl rfl (Nat.le_of_ble_eq_true rfl) rfl k
theorem zf5_files (C : zz_C p l R s m meth c D U A own cc nL ret hh d) (hdg : decode cc pc = .ok (.getfield index, 3)) (hw : zz_g (.fieldLink own index "ChangeUntangler$Pieces" "files" "[I")) (k : zz_Z p l e R s m args below meth c Q D A nL cells slots (zz_wc U ad (σ) X) (pc + 3) lv (.ref (ad 2) :: st)) : zz_Z p l e R s m args below meth c Q D A nL cells slots (zz_wc U ad (σ) X) (pc) lv (.ref (ad 1) :: st) := zz_get (T := TX5) C 1 1 hdg rfl rfl z_in5 (by decide +kernel) (by decide) hw rfl k
theorem zf5_startLines (C : zz_C p l R s m meth c D U A own cc nL ret hh d) (hdg : decode cc pc = .ok (.getfield index, 3)) (hw : zz_g (.fieldLink own index "ChangeUntangler$Pieces" "startLines" "[I")) (k : zz_Z p l e R s m args below meth c Q D A nL cells slots (zz_wc U ad (σ) X) (pc + 3) lv (.ref (ad 3) :: st)) : zz_Z p l e R s m args below meth c Q D A nL cells slots (zz_wc U ad (σ) X) (pc) lv (.ref (ad 1) :: st) := zz_get (T := TX5) C 1 2 hdg rfl rfl z_in5 (by decide +kernel) (by decide) hw rfl k
theorem zf5_added (C : zz_C p l R s m meth c D U A own cc nL ret hh d) (hdg : decode cc pc = .ok (.getfield index, 3)) (hw : zz_g (.fieldLink own index "ChangeUntangler$Pieces" "added" "[I")) (k : zz_Z p l e R s m args below meth c Q D A nL cells slots (zz_wc U ad (σ) X) (pc + 3) lv (.ref (ad 4) :: st)) : zz_Z p l e R s m args below meth c Q D A nL cells slots (zz_wc U ad (σ) X) (pc) lv (.ref (ad 1) :: st) := zz_get (T := TX5) C 1 3 hdg rfl rfl z_in5 (by decide +kernel) (by decide) hw rfl k
theorem zf5_taken (C : zz_C p l R s m meth c D U A own cc nL ret hh d) (hdg : decode cc pc = .ok (.getfield index, 3)) (hw : zz_g (.fieldLink own index "ChangeUntangler$Pieces" "taken" "[I")) (k : zz_Z p l e R s m args below meth c Q D A nL cells slots (zz_wc U ad (σ) X) (pc + 3) lv (.ref (ad 5) :: st)) : zz_Z p l e R s m args below meth c Q D A nL cells slots (zz_wc U ad (σ) X) (pc) lv (.ref (ad 1) :: st) := zz_get (T := TX5) C 1 4 hdg rfl rfl z_in5 (by decide +kernel) (by decide) hw rfl k
theorem zf5_purposes (C : zz_C p l R s m meth c D U A own cc nL ret hh d) (hdg : decode cc pc = .ok (.getfield index, 3)) (hw : zz_g (.fieldLink own index "ChangeUntangler$Pieces" "purposes" "[I")) (k : zz_Z p l e R s m args below meth c Q D A nL cells slots (zz_wc U ad (σ) X) (pc + 3) lv (.ref (ad 6) :: st)) : zz_Z p l e R s m args below meth c Q D A nL cells slots (zz_wc U ad (σ) X) (pc) lv (.ref (ad 1) :: st) := zz_get (T := TX5) C 1 5 hdg rfl rfl z_in5 (by decide +kernel) (by decide) hw rfl k
theorem zf5_namesOf (C : zz_C p l R s m meth c D U A own cc nL ret hh d) (hdg : decode cc pc = .ok (.getfield index, 3)) (hw : zz_g (.fieldLink own index "ChangeUntangler$Pieces" "namesOf" "[[I")) (k : zz_Z p l e R s m args below meth c Q D A nL cells slots (zz_wc U ad (σ) X) (pc + 3) lv (.ref (ad 7) :: st)) : zz_Z p l e R s m args below meth c Q D A nL cells slots (zz_wc U ad (σ) X) (pc) lv (.ref (ad 1) :: st) := zz_get (T := TX5) C 1 6 hdg rfl rfl z_in5 (by decide +kernel) (by decide) hw rfl k
theorem zf5_piecesWith (C : zz_C p l R s m meth c D U A own cc nL ret hh d) (hdg : decode cc pc = .ok (.getfield index, 3)) (hw : zz_g (.fieldLink own index "ChangeUntangler$Pieces" "piecesWith" "[[I")) (k : zz_Z p l e R s m args below meth c Q D A nL cells slots (zz_wc U ad (σ) X) (pc + 3) lv (.ref (ad 12) :: st)) : zz_Z p l e R s m args below meth c Q D A nL cells slots (zz_wc U ad (σ) X) (pc) lv (.ref (ad 1) :: st) := zz_get (T := TX5) C 1 7 hdg rfl rfl z_in5 (by decide +kernel) (by decide) hw rfl k
theorem zl_2 (C : zz_C p l R s m meth c D U A own cc nL ret hh d) {i x : Int32} (hdg : decode cc pc = .ok (.iaload, 1)) (h : zz_ga (σ 2) 14 i = some x) (k : zz_Z p l e R s m args below meth c Q D A nL cells slots (zz_wc U ad (σ) X) (pc + 1) lv (.int x :: st)) : zz_Z p l e R s m args below meth c Q D A nL cells slots (zz_wc U ad (σ) X) (pc) lv (.int i :: .ref (ad 2) :: st) := zz_iald C 2 hdg rfl (zz_ga_in h).1 (by rw [(zz_ga_in h).2]; exact k)
theorem zs_2 (C : zz_C p l R s m meth c D U A own cc nL ret hh d) {i x : Int32} {σ1 : zz_St} (hdg : decode cc pc = .ok (.iastore, 1)) (h : zz_pa σ 2 14 i x = some σ1) (k : zz_Z p l e R s m args below meth c Q D A nL cells slots (zz_wc U ad (σ1) X) (pc + 1) lv (st)) : zz_Z p l e R s m args below meth c Q D A nL cells slots (zz_wc U ad (σ) X) (pc) lv (.int x :: .int i :: .ref (ad 2) :: st) := zz_iast C 2 hdg rfl (zz_pa_in h).1 (by rw [← (zz_pa_in h).2]; rfl) k
theorem zl_3 (C : zz_C p l R s m meth c D U A own cc nL ret hh d) {i x : Int32} (hdg : decode cc pc = .ok (.iaload, 1)) (h : zz_ga (σ 3) 14 i = some x) (k : zz_Z p l e R s m args below meth c Q D A nL cells slots (zz_wc U ad (σ) X) (pc + 1) lv (.int x :: st)) : zz_Z p l e R s m args below meth c Q D A nL cells slots (zz_wc U ad (σ) X) (pc) lv (.int i :: .ref (ad 3) :: st) := zz_iald C 3 hdg rfl (zz_ga_in h).1 (by rw [(zz_ga_in h).2]; exact k)
theorem zs_3 (C : zz_C p l R s m meth c D U A own cc nL ret hh d) {i x : Int32} {σ1 : zz_St} (hdg : decode cc pc = .ok (.iastore, 1)) (h : zz_pa σ 3 14 i x = some σ1) (k : zz_Z p l e R s m args below meth c Q D A nL cells slots (zz_wc U ad (σ1) X) (pc + 1) lv (st)) : zz_Z p l e R s m args below meth c Q D A nL cells slots (zz_wc U ad (σ) X) (pc) lv (.int x :: .int i :: .ref (ad 3) :: st) := zz_iast C 3 hdg rfl (zz_pa_in h).1 (by rw [← (zz_pa_in h).2]; rfl) k
theorem zl_4 (C : zz_C p l R s m meth c D U A own cc nL ret hh d) {i x : Int32} (hdg : decode cc pc = .ok (.iaload, 1)) (h : zz_ga (σ 4) 14 i = some x) (k : zz_Z p l e R s m args below meth c Q D A nL cells slots (zz_wc U ad (σ) X) (pc + 1) lv (.int x :: st)) : zz_Z p l e R s m args below meth c Q D A nL cells slots (zz_wc U ad (σ) X) (pc) lv (.int i :: .ref (ad 4) :: st) := zz_iald C 4 hdg rfl (zz_ga_in h).1 (by rw [(zz_ga_in h).2]; exact k)
theorem zs_4 (C : zz_C p l R s m meth c D U A own cc nL ret hh d) {i x : Int32} {σ1 : zz_St} (hdg : decode cc pc = .ok (.iastore, 1)) (h : zz_pa σ 4 14 i x = some σ1) (k : zz_Z p l e R s m args below meth c Q D A nL cells slots (zz_wc U ad (σ1) X) (pc + 1) lv (st)) : zz_Z p l e R s m args below meth c Q D A nL cells slots (zz_wc U ad (σ) X) (pc) lv (.int x :: .int i :: .ref (ad 4) :: st) := zz_iast C 4 hdg rfl (zz_pa_in h).1 (by rw [← (zz_pa_in h).2]; rfl) k
theorem zl_5 (C : zz_C p l R s m meth c D U A own cc nL ret hh d) {i x : Int32} (hdg : decode cc pc = .ok (.iaload, 1)) (h : zz_ga (σ 5) 14 i = some x) (k : zz_Z p l e R s m args below meth c Q D A nL cells slots (zz_wc U ad (σ) X) (pc + 1) lv (.int x :: st)) : zz_Z p l e R s m args below meth c Q D A nL cells slots (zz_wc U ad (σ) X) (pc) lv (.int i :: .ref (ad 5) :: st) := zz_iald C 5 hdg rfl (zz_ga_in h).1 (by rw [(zz_ga_in h).2]; exact k)
theorem zs_5 (C : zz_C p l R s m meth c D U A own cc nL ret hh d) {i x : Int32} {σ1 : zz_St} (hdg : decode cc pc = .ok (.iastore, 1)) (h : zz_pa σ 5 14 i x = some σ1) (k : zz_Z p l e R s m args below meth c Q D A nL cells slots (zz_wc U ad (σ1) X) (pc + 1) lv (st)) : zz_Z p l e R s m args below meth c Q D A nL cells slots (zz_wc U ad (σ) X) (pc) lv (.int x :: .int i :: .ref (ad 5) :: st) := zz_iast C 5 hdg rfl (zz_pa_in h).1 (by rw [← (zz_pa_in h).2]; rfl) k
theorem zl_6 (C : zz_C p l R s m meth c D U A own cc nL ret hh d) {i x : Int32} (hdg : decode cc pc = .ok (.iaload, 1)) (h : zz_ga (σ 6) 14 i = some x) (k : zz_Z p l e R s m args below meth c Q D A nL cells slots (zz_wc U ad (σ) X) (pc + 1) lv (.int x :: st)) : zz_Z p l e R s m args below meth c Q D A nL cells slots (zz_wc U ad (σ) X) (pc) lv (.int i :: .ref (ad 6) :: st) := zz_iald C 6 hdg rfl (zz_ga_in h).1 (by rw [(zz_ga_in h).2]; exact k)
theorem zs_6 (C : zz_C p l R s m meth c D U A own cc nL ret hh d) {i x : Int32} {σ1 : zz_St} (hdg : decode cc pc = .ok (.iastore, 1)) (h : zz_pa σ 6 14 i x = some σ1) (k : zz_Z p l e R s m args below meth c Q D A nL cells slots (zz_wc U ad (σ1) X) (pc + 1) lv (st)) : zz_Z p l e R s m args below meth c Q D A nL cells slots (zz_wc U ad (σ) X) (pc) lv (.int x :: .int i :: .ref (ad 6) :: st) := zz_iast C 6 hdg rfl (zz_pa_in h).1 (by rw [← (zz_pa_in h).2]; rfl) k
theorem zq_7 : ∀ (j : Nat), j < 4 → (zz_wc U ad (σ) X)[8 + j]? = some (ad (8 + j), .inl (U.1, 14, .inl (σ (8 + j))))
  | 0, _ => rfl
  | 1, _ => rfl
  | 2, _ => rfl
  | 3, _ => rfl
  | j + 4, h => absurd h (by omega)
theorem zv_7 {i : Nat} {v : Int32} : ∀ (j : Nat), j < 4 → (zz_wc U ad (σ) X).set (8 + j) (ad (8 + j), .inl (U.1, 14, .inl (upd (σ (8 + j)) i v))) = zz_wc U ad (zz_u σ (8 + j) i v) X
  | 0, _ => rfl
  | 1, _ => rfl
  | 2, _ => rfl
  | 3, _ => rfl
  | j + 4, h => absurd h (by omega)
theorem zr_7 (C : zz_C p l R s m meth c D U A own cc nL ret hh d) {i : Int32} {j : Nat} (hdg : decode cc pc = .ok (.aaload, 1)) (h : zz_ix 4 i = some j) (k : zz_Z p l e R s m args below meth c Q D A nL cells slots (zz_wc U ad (σ) X) (pc + 1) lv (.ref (ad (8 + j)) :: st)) : zz_Z p l e R s m args below meth c Q D A nL cells slots (zz_wc U ad (σ) X) (pc) lv (.int i :: .ref (ad 7) :: st) := zz_aald C 7 hdg rfl (zz_ix_in h).1 (by rw [(zz_ix_in h).2.1]; show va_rf (if j < 4 then some (ad (8 + j)) else none) = _; rw [if_pos (zz_ix_in h).2.2]; rfl) k
theorem zl_7 (C : zz_C p l R s m meth c D U A own cc nL ret hh d) {i i0 x : Int32} {j : Nat} (hdg : decode cc pc = .ok (.iaload, 1)) (h0 : zz_ix 4 i0 = some j) (h : zz_ga (σ (8 + j)) 14 i = some x) (k : zz_Z p l e R s m args below meth c Q D A nL cells slots (zz_wc U ad (σ) X) (pc + 1) lv (.int x :: st)) : zz_Z p l e R s m args below meth c Q D A nL cells slots (zz_wc U ad (σ) X) (pc) lv (.int i :: .ref (ad (8 + j)) :: st) := zz_iald C (8 + j) hdg (zq_7 j (zz_ix_in h0).2.2) (zz_ga_in h).1 (by rw [(zz_ga_in h).2]; exact k)
theorem zs_7 (C : zz_C p l R s m meth c D U A own cc nL ret hh d) {i i0 x : Int32} {j : Nat} {σ1 : zz_St} (hdg : decode cc pc = .ok (.iastore, 1)) (h0 : zz_ix 4 i0 = some j) (h : zz_pa σ (8 + j) 14 i x = some σ1) (k : zz_Z p l e R s m args below meth c Q D A nL cells slots (zz_wc U ad (σ1) X) (pc + 1) lv (st)) : zz_Z p l e R s m args below meth c Q D A nL cells slots (zz_wc U ad (σ) X) (pc) lv (.int x :: .int i :: .ref (ad (8 + j)) :: st) := zz_iast C (8 + j) hdg (zq_7 j (zz_ix_in h0).2.2) (zz_pa_in h).1 (by rw [← (zz_pa_in h).2]; exact zv_7 j (zz_ix_in h0).2.2) k
theorem zq_12 : ∀ (j : Nat), j < 4 → (zz_wc U ad (σ) X)[13 + j]? = some (ad (13 + j), .inl (U.1, 16, .inl (σ (13 + j))))
  | 0, _ => rfl
  | 1, _ => rfl
  | 2, _ => rfl
  | 3, _ => rfl
  | j + 4, h => absurd h (by omega)
theorem zv_12 {i : Nat} {v : Int32} : ∀ (j : Nat), j < 4 → (zz_wc U ad (σ) X).set (13 + j) (ad (13 + j), .inl (U.1, 16, .inl (upd (σ (13 + j)) i v))) = zz_wc U ad (zz_u σ (13 + j) i v) X
  | 0, _ => rfl
  | 1, _ => rfl
  | 2, _ => rfl
  | 3, _ => rfl
  | j + 4, h => absurd h (by omega)
theorem zr_12 (C : zz_C p l R s m meth c D U A own cc nL ret hh d) {i : Int32} {j : Nat} (hdg : decode cc pc = .ok (.aaload, 1)) (h : zz_ix 4 i = some j) (k : zz_Z p l e R s m args below meth c Q D A nL cells slots (zz_wc U ad (σ) X) (pc + 1) lv (.ref (ad (13 + j)) :: st)) : zz_Z p l e R s m args below meth c Q D A nL cells slots (zz_wc U ad (σ) X) (pc) lv (.int i :: .ref (ad 12) :: st) := zz_aald C 12 hdg rfl (zz_ix_in h).1 (by rw [(zz_ix_in h).2.1]; show va_rf (if j < 4 then some (ad (13 + j)) else none) = _; rw [if_pos (zz_ix_in h).2.2]; rfl) k
theorem zl_12 (C : zz_C p l R s m meth c D U A own cc nL ret hh d) {i i0 x : Int32} {j : Nat} (hdg : decode cc pc = .ok (.iaload, 1)) (h0 : zz_ix 4 i0 = some j) (h : zz_ga (σ (13 + j)) 16 i = some x) (k : zz_Z p l e R s m args below meth c Q D A nL cells slots (zz_wc U ad (σ) X) (pc + 1) lv (.int x :: st)) : zz_Z p l e R s m args below meth c Q D A nL cells slots (zz_wc U ad (σ) X) (pc) lv (.int i :: .ref (ad (13 + j)) :: st) := zz_iald C (13 + j) hdg (zq_12 j (zz_ix_in h0).2.2) (zz_ga_in h).1 (by rw [(zz_ga_in h).2]; exact k)
theorem zs_12 (C : zz_C p l R s m meth c D U A own cc nL ret hh d) {i i0 x : Int32} {j : Nat} {σ1 : zz_St} (hdg : decode cc pc = .ok (.iastore, 1)) (h0 : zz_ix 4 i0 = some j) (h : zz_pa σ (13 + j) 16 i x = some σ1) (k : zz_Z p l e R s m args below meth c Q D A nL cells slots (zz_wc U ad (σ1) X) (pc + 1) lv (st)) : zz_Z p l e R s m args below meth c Q D A nL cells slots (zz_wc U ad (σ) X) (pc) lv (.int x :: .int i :: .ref (ad (13 + j)) :: st) := zz_iast C (13 + j) hdg (zq_12 j (zz_ix_in h0).2.2) (zz_pa_in h).1 (by rw [← (zz_pa_in h).2]; exact zv_12 j (zz_ix_in h0).2.2) k
theorem zf1_definedNames (C : zz_C p l R s m meth c D U A own cc nL ret hh d) (hdg : decode cc pc = .ok (.getfield index, 3)) (hw : zz_g (.fieldLink own index "ChangeUntangler$Code" "definedNames" "I")) (k : zz_Z p l e R s m args below meth c Q D A nL cells slots (zz_wc U ad (σ) X) (pc + 3) lv (.int (σ 17 0) :: st)) : zz_Z p l e R s m args below meth c Q D A nL cells slots (zz_wc U ad (σ) X) (pc) lv (.ref (ad 17) :: st) := zz_get (T := TX1) C 17 0 hdg rfl rfl z_in1 (by decide +kernel) (by decide) hw rfl k
theorem zp1_definedNames (C : zz_C p l R s m meth c D U A own cc nL ret hh d) {v : Int32} (hdg : decode cc pc = .ok (.putfield index, 3)) (hw : zz_g (.fieldLink own index "ChangeUntangler$Code" "definedNames" "I")) (k : zz_Z p l e R s m args below meth c Q D A nL cells slots (zz_wc U ad (zz_u σ 17 0 v) X) (pc + 3) lv (st)) : zz_Z p l e R s m args below meth c Q D A nL cells slots (zz_wc U ad (σ) X) (pc) lv (.int v :: .ref (ad 17) :: st) := zz_put (T := TX1) (v := .int v) (ty := .int) C 17 0 hdg rfl rfl z_in1 (by decide +kernel) tyX1_ok nmX1 (by decide) hw rfl (by decide +kernel) rfl rfl (Nat.le_of_ble_eq_true rfl) rfl k
theorem zf1_otherUses (C : zz_C p l R s m meth c D U A own cc nL ret hh d) (hdg : decode cc pc = .ok (.getfield index, 3)) (hw : zz_g (.fieldLink own index "ChangeUntangler$Code" "otherUses" "[I")) (k : zz_Z p l e R s m args below meth c Q D A nL cells slots (zz_wc U ad (σ) X) (pc + 3) lv (.ref (ad 18) :: st)) : zz_Z p l e R s m args below meth c Q D A nL cells slots (zz_wc U ad (σ) X) (pc) lv (.ref (ad 17) :: st) := zz_get (T := TX1) C 17 1 hdg rfl rfl z_in1 (by decide +kernel) (by decide) hw rfl k
theorem zl_18 (C : zz_C p l R s m meth c D U A own cc nL ret hh d) {i x : Int32} (hdg : decode cc pc = .ok (.iaload, 1)) (h : zz_ga (σ 18) 16 i = some x) (k : zz_Z p l e R s m args below meth c Q D A nL cells slots (zz_wc U ad (σ) X) (pc + 1) lv (.int x :: st)) : zz_Z p l e R s m args below meth c Q D A nL cells slots (zz_wc U ad (σ) X) (pc) lv (.int i :: .ref (ad 18) :: st) := zz_iald C 18 hdg rfl (zz_ga_in h).1 (by rw [(zz_ga_in h).2]; exact k)
theorem zs_18 (C : zz_C p l R s m meth c D U A own cc nL ret hh d) {i x : Int32} {σ1 : zz_St} (hdg : decode cc pc = .ok (.iastore, 1)) (h : zz_pa σ 18 16 i x = some σ1) (k : zz_Z p l e R s m args below meth c Q D A nL cells slots (zz_wc U ad (σ1) X) (pc + 1) lv (st)) : zz_Z p l e R s m args below meth c Q D A nL cells slots (zz_wc U ad (σ) X) (pc) lv (.int x :: .int i :: .ref (ad 18) :: st) := zz_iast C 18 hdg rfl (zz_pa_in h).1 (by rw [← (zz_pa_in h).2]; rfl) k
theorem zf2_weights (C : zz_C p l R s m meth c D U A own cc nL ret hh d) (hdg : decode cc pc = .ok (.getfield index, 3)) (hw : zz_g (.fieldLink own index "ChangeUntangler$Evidence" "weights" "[I")) (k : zz_Z p l e R s m args below meth c Q D A nL cells slots (zz_wc U ad (σ) X) (pc + 3) lv (.ref (ad 20) :: st)) : zz_Z p l e R s m args below meth c Q D A nL cells slots (zz_wc U ad (σ) X) (pc) lv (.ref (ad 19) :: st) := zz_get (T := TX2) C 19 0 hdg rfl rfl z_in2 (by decide +kernel) (by decide) hw rfl k
theorem zf2_span (C : zz_C p l R s m meth c D U A own cc nL ret hh d) (hdg : decode cc pc = .ok (.getfield index, 3)) (hw : zz_g (.fieldLink own index "ChangeUntangler$Evidence" "span" "I")) (k : zz_Z p l e R s m args below meth c Q D A nL cells slots (zz_wc U ad (σ) X) (pc + 3) lv (.int (σ 19 1) :: st)) : zz_Z p l e R s m args below meth c Q D A nL cells slots (zz_wc U ad (σ) X) (pc) lv (.ref (ad 19) :: st) := zz_get (T := TX2) C 19 1 hdg rfl rfl z_in2 (by decide +kernel) (by decide) hw rfl k
theorem zp2_span (C : zz_C p l R s m meth c D U A own cc nL ret hh d) {v : Int32} (hdg : decode cc pc = .ok (.putfield index, 3)) (hw : zz_g (.fieldLink own index "ChangeUntangler$Evidence" "span" "I")) (k : zz_Z p l e R s m args below meth c Q D A nL cells slots (zz_wc U ad (zz_u σ 19 1 v) X) (pc + 3) lv (st)) : zz_Z p l e R s m args below meth c Q D A nL cells slots (zz_wc U ad (σ) X) (pc) lv (.int v :: .ref (ad 19) :: st) := zz_put (T := TX2) (v := .int v) (ty := .int) C 19 1 hdg rfl rfl z_in2 (by decide +kernel) tyX2_ok nmX2 (by decide) hw rfl (by decide +kernel) rfl rfl (Nat.le_of_ble_eq_true rfl) rfl k
theorem zl_20 (C : zz_C p l R s m meth c D U A own cc nL ret hh d) {i x : Int32} (hdg : decode cc pc = .ok (.iaload, 1)) (h : zz_ga (σ 20) 4 i = some x) (k : zz_Z p l e R s m args below meth c Q D A nL cells slots (zz_wc U ad (σ) X) (pc + 1) lv (.int x :: st)) : zz_Z p l e R s m args below meth c Q D A nL cells slots (zz_wc U ad (σ) X) (pc) lv (.int i :: .ref (ad 20) :: st) := zz_iald C 20 hdg rfl (zz_ga_in h).1 (by rw [(zz_ga_in h).2]; exact k)
theorem zs_20 (C : zz_C p l R s m meth c D U A own cc nL ret hh d) {i x : Int32} {σ1 : zz_St} (hdg : decode cc pc = .ok (.iastore, 1)) (h : zz_pa σ 20 4 i x = some σ1) (k : zz_Z p l e R s m args below meth c Q D A nL cells slots (zz_wc U ad (σ1) X) (pc + 1) lv (st)) : zz_Z p l e R s m args below meth c Q D A nL cells slots (zz_wc U ad (σ) X) (pc) lv (.int x :: .int i :: .ref (ad 20) :: st) := zz_iast C 20 hdg rfl (zz_pa_in h).1 (by rw [← (zz_pa_in h).2]; rfl) k
theorem zf6_must (C : zz_C p l R s m meth c D U A own cc nL ret hh d) (hdg : decode cc pc = .ok (.getfield index, 3)) (hw : zz_g (.fieldLink own index "ChangeUntangler$Sayings" "must" "[I")) (k : zz_Z p l e R s m args below meth c Q D A nL cells slots (zz_wc U ad (σ) X) (pc + 3) lv (.ref (ad 22) :: st)) : zz_Z p l e R s m args below meth c Q D A nL cells slots (zz_wc U ad (σ) X) (pc) lv (.ref (ad 21) :: st) := zz_get (T := TX6) C 21 0 hdg rfl rfl z_in6 (by decide +kernel) (by decide) hw rfl k
theorem zf6_mustNot (C : zz_C p l R s m meth c D U A own cc nL ret hh d) (hdg : decode cc pc = .ok (.getfield index, 3)) (hw : zz_g (.fieldLink own index "ChangeUntangler$Sayings" "mustNot" "[I")) (k : zz_Z p l e R s m args below meth c Q D A nL cells slots (zz_wc U ad (σ) X) (pc + 3) lv (.ref (ad 23) :: st)) : zz_Z p l e R s m args below meth c Q D A nL cells slots (zz_wc U ad (σ) X) (pc) lv (.ref (ad 21) :: st) := zz_get (T := TX6) C 21 1 hdg rfl rfl z_in6 (by decide +kernel) (by decide) hw rfl k
theorem zl_22 (C : zz_C p l R s m meth c D U A own cc nL ret hh d) {i x : Int32} (hdg : decode cc pc = .ok (.iaload, 1)) (h : zz_ga (σ 22) 14 i = some x) (k : zz_Z p l e R s m args below meth c Q D A nL cells slots (zz_wc U ad (σ) X) (pc + 1) lv (.int x :: st)) : zz_Z p l e R s m args below meth c Q D A nL cells slots (zz_wc U ad (σ) X) (pc) lv (.int i :: .ref (ad 22) :: st) := zz_iald C 22 hdg rfl (zz_ga_in h).1 (by rw [(zz_ga_in h).2]; exact k)
theorem zs_22 (C : zz_C p l R s m meth c D U A own cc nL ret hh d) {i x : Int32} {σ1 : zz_St} (hdg : decode cc pc = .ok (.iastore, 1)) (h : zz_pa σ 22 14 i x = some σ1) (k : zz_Z p l e R s m args below meth c Q D A nL cells slots (zz_wc U ad (σ1) X) (pc + 1) lv (st)) : zz_Z p l e R s m args below meth c Q D A nL cells slots (zz_wc U ad (σ) X) (pc) lv (.int x :: .int i :: .ref (ad 22) :: st) := zz_iast C 22 hdg rfl (zz_pa_in h).1 (by rw [← (zz_pa_in h).2]; rfl) k
theorem zl_23 (C : zz_C p l R s m meth c D U A own cc nL ret hh d) {i x : Int32} (hdg : decode cc pc = .ok (.iaload, 1)) (h : zz_ga (σ 23) 14 i = some x) (k : zz_Z p l e R s m args below meth c Q D A nL cells slots (zz_wc U ad (σ) X) (pc + 1) lv (.int x :: st)) : zz_Z p l e R s m args below meth c Q D A nL cells slots (zz_wc U ad (σ) X) (pc) lv (.int i :: .ref (ad 23) :: st) := zz_iald C 23 hdg rfl (zz_ga_in h).1 (by rw [(zz_ga_in h).2]; exact k)
theorem zs_23 (C : zz_C p l R s m meth c D U A own cc nL ret hh d) {i x : Int32} {σ1 : zz_St} (hdg : decode cc pc = .ok (.iastore, 1)) (h : zz_pa σ 23 14 i x = some σ1) (k : zz_Z p l e R s m args below meth c Q D A nL cells slots (zz_wc U ad (σ1) X) (pc + 1) lv (st)) : zz_Z p l e R s m args below meth c Q D A nL cells slots (zz_wc U ad (σ) X) (pc) lv (.int x :: .int i :: .ref (ad 23) :: st) := zz_iast C 23 hdg rfl (zz_pa_in h).1 (by rw [← (zz_pa_in h).2]; rfl) k
theorem zf3_threshold (C : zz_C p l R s m meth c D U A own cc nL ret hh d) (hdg : decode cc pc = .ok (.getfield index, 3)) (hw : zz_g (.fieldLink own index "ChangeUntangler$Groups" "threshold" "I")) (k : zz_Z p l e R s m args below meth c Q D A nL cells slots (zz_wc U ad (σ) X) (pc + 3) lv (.int (σ 24 0) :: st)) : zz_Z p l e R s m args below meth c Q D A nL cells slots (zz_wc U ad (σ) X) (pc) lv (.ref (ad 24) :: st) := zz_get (T := TX3) C 24 0 hdg rfl rfl z_in3 (by decide +kernel) (by decide) hw rfl k
theorem zp3_threshold (C : zz_C p l R s m meth c D U A own cc nL ret hh d) {v : Int32} (hdg : decode cc pc = .ok (.putfield index, 3)) (hw : zz_g (.fieldLink own index "ChangeUntangler$Groups" "threshold" "I")) (k : zz_Z p l e R s m args below meth c Q D A nL cells slots (zz_wc U ad (zz_u σ 24 0 v) X) (pc + 3) lv (st)) : zz_Z p l e R s m args below meth c Q D A nL cells slots (zz_wc U ad (σ) X) (pc) lv (.int v :: .ref (ad 24) :: st) := zz_put (T := TX3) (v := .int v) (ty := .int) C 24 0 hdg rfl rfl z_in3 (by decide +kernel) tyX3_ok nmX3 (by decide) hw rfl (by decide +kernel) rfl rfl (Nat.le_of_ble_eq_true rfl) rfl k
theorem zf3_manner (C : zz_C p l R s m meth c D U A own cc nL ret hh d) (hdg : decode cc pc = .ok (.getfield index, 3)) (hw : zz_g (.fieldLink own index "ChangeUntangler$Groups" "manner" "I")) (k : zz_Z p l e R s m args below meth c Q D A nL cells slots (zz_wc U ad (σ) X) (pc + 3) lv (.int (σ 24 1) :: st)) : zz_Z p l e R s m args below meth c Q D A nL cells slots (zz_wc U ad (σ) X) (pc) lv (.ref (ad 24) :: st) := zz_get (T := TX3) C 24 1 hdg rfl rfl z_in3 (by decide +kernel) (by decide) hw rfl k
theorem zp3_manner (C : zz_C p l R s m meth c D U A own cc nL ret hh d) {v : Int32} (hdg : decode cc pc = .ok (.putfield index, 3)) (hw : zz_g (.fieldLink own index "ChangeUntangler$Groups" "manner" "I")) (k : zz_Z p l e R s m args below meth c Q D A nL cells slots (zz_wc U ad (zz_u σ 24 1 v) X) (pc + 3) lv (st)) : zz_Z p l e R s m args below meth c Q D A nL cells slots (zz_wc U ad (σ) X) (pc) lv (.int v :: .ref (ad 24) :: st) := zz_put (T := TX3) (v := .int v) (ty := .int) C 24 1 hdg rfl rfl z_in3 (by decide +kernel) tyX3_ok nmX3 (by decide) hw rfl (by decide +kernel) rfl rfl (Nat.le_of_ble_eq_true rfl) rfl k
theorem zf3_count (C : zz_C p l R s m meth c D U A own cc nL ret hh d) (hdg : decode cc pc = .ok (.getfield index, 3)) (hw : zz_g (.fieldLink own index "ChangeUntangler$Groups" "count" "I")) (k : zz_Z p l e R s m args below meth c Q D A nL cells slots (zz_wc U ad (σ) X) (pc + 3) lv (.int (σ 24 2) :: st)) : zz_Z p l e R s m args below meth c Q D A nL cells slots (zz_wc U ad (σ) X) (pc) lv (.ref (ad 24) :: st) := zz_get (T := TX3) C 24 2 hdg rfl rfl z_in3 (by decide +kernel) (by decide) hw rfl k
theorem zp3_count (C : zz_C p l R s m meth c D U A own cc nL ret hh d) {v : Int32} (hdg : decode cc pc = .ok (.putfield index, 3)) (hw : zz_g (.fieldLink own index "ChangeUntangler$Groups" "count" "I")) (k : zz_Z p l e R s m args below meth c Q D A nL cells slots (zz_wc U ad (zz_u σ 24 2 v) X) (pc + 3) lv (st)) : zz_Z p l e R s m args below meth c Q D A nL cells slots (zz_wc U ad (σ) X) (pc) lv (.int v :: .ref (ad 24) :: st) := zz_put (T := TX3) (v := .int v) (ty := .int) C 24 2 hdg rfl rfl z_in3 (by decide +kernel) tyX3_ok nmX3 (by decide) hw rfl (by decide +kernel) rfl rfl (Nat.le_of_ble_eq_true rfl) rfl k
theorem zf3_linkageOfLastJoin (C : zz_C p l R s m meth c D U A own cc nL ret hh d) (hdg : decode cc pc = .ok (.getfield index, 3)) (hw : zz_g (.fieldLink own index "ChangeUntangler$Groups" "linkageOfLastJoin" "I")) (k : zz_Z p l e R s m args below meth c Q D A nL cells slots (zz_wc U ad (σ) X) (pc + 3) lv (.int (σ 24 3) :: st)) : zz_Z p l e R s m args below meth c Q D A nL cells slots (zz_wc U ad (σ) X) (pc) lv (.ref (ad 24) :: st) := zz_get (T := TX3) C 24 3 hdg rfl rfl z_in3 (by decide +kernel) (by decide) hw rfl k
theorem zp3_linkageOfLastJoin (C : zz_C p l R s m meth c D U A own cc nL ret hh d) {v : Int32} (hdg : decode cc pc = .ok (.putfield index, 3)) (hw : zz_g (.fieldLink own index "ChangeUntangler$Groups" "linkageOfLastJoin" "I")) (k : zz_Z p l e R s m args below meth c Q D A nL cells slots (zz_wc U ad (zz_u σ 24 3 v) X) (pc + 3) lv (st)) : zz_Z p l e R s m args below meth c Q D A nL cells slots (zz_wc U ad (σ) X) (pc) lv (.int v :: .ref (ad 24) :: st) := zz_put (T := TX3) (v := .int v) (ty := .int) C 24 3 hdg rfl rfl z_in3 (by decide +kernel) tyX3_ok nmX3 (by decide) hw rfl (by decide +kernel) rfl rfl (Nat.le_of_ble_eq_true rfl) rfl k
theorem zf3_sets (C : zz_C p l R s m meth c D U A own cc nL ret hh d) (hdg : decode cc pc = .ok (.getfield index, 3)) (hw : zz_g (.fieldLink own index "ChangeUntangler$Groups" "sets" "[I")) (k : zz_Z p l e R s m args below meth c Q D A nL cells slots (zz_wc U ad (σ) X) (pc + 3) lv (.ref (ad 25) :: st)) : zz_Z p l e R s m args below meth c Q D A nL cells slots (zz_wc U ad (σ) X) (pc) lv (.ref (ad 24) :: st) := zz_get (T := TX3) C 24 4 hdg rfl rfl z_in3 (by decide +kernel) (by decide) hw rfl k
theorem zf3_affinities (C : zz_C p l R s m meth c D U A own cc nL ret hh d) (hdg : decode cc pc = .ok (.getfield index, 3)) (hw : zz_g (.fieldLink own index "ChangeUntangler$Groups" "affinities" "[[I")) (k : zz_Z p l e R s m args below meth c Q D A nL cells slots (zz_wc U ad (σ) X) (pc + 3) lv (.ref (ad 26) :: st)) : zz_Z p l e R s m args below meth c Q D A nL cells slots (zz_wc U ad (σ) X) (pc) lv (.ref (ad 24) :: st) := zz_get (T := TX3) C 24 5 hdg rfl rfl z_in3 (by decide +kernel) (by decide) hw rfl k
theorem zl_25 (C : zz_C p l R s m meth c D U A own cc nL ret hh d) {i x : Int32} (hdg : decode cc pc = .ok (.iaload, 1)) (h : zz_ga (σ 25) 14 i = some x) (k : zz_Z p l e R s m args below meth c Q D A nL cells slots (zz_wc U ad (σ) X) (pc + 1) lv (.int x :: st)) : zz_Z p l e R s m args below meth c Q D A nL cells slots (zz_wc U ad (σ) X) (pc) lv (.int i :: .ref (ad 25) :: st) := zz_iald C 25 hdg rfl (zz_ga_in h).1 (by rw [(zz_ga_in h).2]; exact k)
theorem zs_25 (C : zz_C p l R s m meth c D U A own cc nL ret hh d) {i x : Int32} {σ1 : zz_St} (hdg : decode cc pc = .ok (.iastore, 1)) (h : zz_pa σ 25 14 i x = some σ1) (k : zz_Z p l e R s m args below meth c Q D A nL cells slots (zz_wc U ad (σ1) X) (pc + 1) lv (st)) : zz_Z p l e R s m args below meth c Q D A nL cells slots (zz_wc U ad (σ) X) (pc) lv (.int x :: .int i :: .ref (ad 25) :: st) := zz_iast C 25 hdg rfl (zz_pa_in h).1 (by rw [← (zz_pa_in h).2]; rfl) k
theorem zq_26 : ∀ (j : Nat), j < 14 → (zz_wc U ad (σ) X)[27 + j]? = some (ad (27 + j), .inl (U.1, 14, .inl (σ (27 + j))))
  | 0, _ => rfl
  | 1, _ => rfl
  | 2, _ => rfl
  | 3, _ => rfl
  | 4, _ => rfl
  | 5, _ => rfl
  | 6, _ => rfl
  | 7, _ => rfl
  | 8, _ => rfl
  | 9, _ => rfl
  | 10, _ => rfl
  | 11, _ => rfl
  | 12, _ => rfl
  | 13, _ => rfl
  | j + 14, h => absurd h (by omega)
theorem zv_26 {i : Nat} {v : Int32} : ∀ (j : Nat), j < 14 → (zz_wc U ad (σ) X).set (27 + j) (ad (27 + j), .inl (U.1, 14, .inl (upd (σ (27 + j)) i v))) = zz_wc U ad (zz_u σ (27 + j) i v) X
  | 0, _ => rfl
  | 1, _ => rfl
  | 2, _ => rfl
  | 3, _ => rfl
  | 4, _ => rfl
  | 5, _ => rfl
  | 6, _ => rfl
  | 7, _ => rfl
  | 8, _ => rfl
  | 9, _ => rfl
  | 10, _ => rfl
  | 11, _ => rfl
  | 12, _ => rfl
  | 13, _ => rfl
  | j + 14, h => absurd h (by omega)
theorem zr_26 (C : zz_C p l R s m meth c D U A own cc nL ret hh d) {i : Int32} {j : Nat} (hdg : decode cc pc = .ok (.aaload, 1)) (h : zz_ix 14 i = some j) (k : zz_Z p l e R s m args below meth c Q D A nL cells slots (zz_wc U ad (σ) X) (pc + 1) lv (.ref (ad (27 + j)) :: st)) : zz_Z p l e R s m args below meth c Q D A nL cells slots (zz_wc U ad (σ) X) (pc) lv (.int i :: .ref (ad 26) :: st) := zz_aald C 26 hdg rfl (zz_ix_in h).1 (by rw [(zz_ix_in h).2.1]; show va_rf (if j < 14 then some (ad (27 + j)) else none) = _; rw [if_pos (zz_ix_in h).2.2]; rfl) k
theorem zl_26 (C : zz_C p l R s m meth c D U A own cc nL ret hh d) {i i0 x : Int32} {j : Nat} (hdg : decode cc pc = .ok (.iaload, 1)) (h0 : zz_ix 14 i0 = some j) (h : zz_ga (σ (27 + j)) 14 i = some x) (k : zz_Z p l e R s m args below meth c Q D A nL cells slots (zz_wc U ad (σ) X) (pc + 1) lv (.int x :: st)) : zz_Z p l e R s m args below meth c Q D A nL cells slots (zz_wc U ad (σ) X) (pc) lv (.int i :: .ref (ad (27 + j)) :: st) := zz_iald C (27 + j) hdg (zq_26 j (zz_ix_in h0).2.2) (zz_ga_in h).1 (by rw [(zz_ga_in h).2]; exact k)
theorem zs_26 (C : zz_C p l R s m meth c D U A own cc nL ret hh d) {i i0 x : Int32} {j : Nat} {σ1 : zz_St} (hdg : decode cc pc = .ok (.iastore, 1)) (h0 : zz_ix 14 i0 = some j) (h : zz_pa σ (27 + j) 14 i x = some σ1) (k : zz_Z p l e R s m args below meth c Q D A nL cells slots (zz_wc U ad (σ1) X) (pc + 1) lv (st)) : zz_Z p l e R s m args below meth c Q D A nL cells slots (zz_wc U ad (σ) X) (pc) lv (.int x :: .int i :: .ref (ad (27 + j)) :: st) := zz_iast C (27 + j) hdg (zq_26 j (zz_ix_in h0).2.2) (zz_pa_in h).1 (by rw [← (zz_pa_in h).2]; exact zv_26 j (zz_ix_in h0).2.2) k
theorem zf4_count (C : zz_C p l R s m meth c D U A own cc nL ret hh d) (hdg : decode cc pc = .ok (.getfield index, 3)) (hw : zz_g (.fieldLink own index "ChangeUntangler$Parcels" "count" "I")) (k : zz_Z p l e R s m args below meth c Q D A nL cells slots (zz_wc U ad (σ) X) (pc + 3) lv (.int (σ 41 0) :: st)) : zz_Z p l e R s m args below meth c Q D A nL cells slots (zz_wc U ad (σ) X) (pc) lv (.ref (ad 41) :: st) := zz_get (T := TX4) C 41 0 hdg rfl rfl z_in4 (by decide +kernel) (by decide) hw rfl k
theorem zp4_count (C : zz_C p l R s m meth c D U A own cc nL ret hh d) {v : Int32} (hdg : decode cc pc = .ok (.putfield index, 3)) (hw : zz_g (.fieldLink own index "ChangeUntangler$Parcels" "count" "I")) (k : zz_Z p l e R s m args below meth c Q D A nL cells slots (zz_wc U ad (zz_u σ 41 0 v) X) (pc + 3) lv (st)) : zz_Z p l e R s m args below meth c Q D A nL cells slots (zz_wc U ad (σ) X) (pc) lv (.int v :: .ref (ad 41) :: st) := zz_put (T := TX4) (v := .int v) (ty := .int) C 41 0 hdg rfl rfl z_in4 (by decide +kernel) tyX4_ok nmX4 (by decide) hw rfl (by decide +kernel) rfl rfl (Nat.le_of_ble_eq_true rfl) rfl k
theorem zf4_knotCount (C : zz_C p l R s m meth c D U A own cc nL ret hh d) (hdg : decode cc pc = .ok (.getfield index, 3)) (hw : zz_g (.fieldLink own index "ChangeUntangler$Parcels" "knotCount" "I")) (k : zz_Z p l e R s m args below meth c Q D A nL cells slots (zz_wc U ad (σ) X) (pc + 3) lv (.int (σ 41 1) :: st)) : zz_Z p l e R s m args below meth c Q D A nL cells slots (zz_wc U ad (σ) X) (pc) lv (.ref (ad 41) :: st) := zz_get (T := TX4) C 41 1 hdg rfl rfl z_in4 (by decide +kernel) (by decide) hw rfl k
theorem zp4_knotCount (C : zz_C p l R s m meth c D U A own cc nL ret hh d) {v : Int32} (hdg : decode cc pc = .ok (.putfield index, 3)) (hw : zz_g (.fieldLink own index "ChangeUntangler$Parcels" "knotCount" "I")) (k : zz_Z p l e R s m args below meth c Q D A nL cells slots (zz_wc U ad (zz_u σ 41 1 v) X) (pc + 3) lv (st)) : zz_Z p l e R s m args below meth c Q D A nL cells slots (zz_wc U ad (σ) X) (pc) lv (.int v :: .ref (ad 41) :: st) := zz_put (T := TX4) (v := .int v) (ty := .int) C 41 1 hdg rfl rfl z_in4 (by decide +kernel) tyX4_ok nmX4 (by decide) hw rfl (by decide +kernel) rfl rfl (Nat.le_of_ble_eq_true rfl) rfl k
theorem zf4_sets (C : zz_C p l R s m meth c D U A own cc nL ret hh d) (hdg : decode cc pc = .ok (.getfield index, 3)) (hw : zz_g (.fieldLink own index "ChangeUntangler$Parcels" "sets" "[I")) (k : zz_Z p l e R s m args below meth c Q D A nL cells slots (zz_wc U ad (σ) X) (pc + 3) lv (.ref (ad 42) :: st)) : zz_Z p l e R s m args below meth c Q D A nL cells slots (zz_wc U ad (σ) X) (pc) lv (.ref (ad 41) :: st) := zz_get (T := TX4) C 41 2 hdg rfl rfl z_in4 (by decide +kernel) (by decide) hw rfl k
theorem zf4_needed (C : zz_C p l R s m meth c D U A own cc nL ret hh d) (hdg : decode cc pc = .ok (.getfield index, 3)) (hw : zz_g (.fieldLink own index "ChangeUntangler$Parcels" "needed" "[I")) (k : zz_Z p l e R s m args below meth c Q D A nL cells slots (zz_wc U ad (σ) X) (pc + 3) lv (.ref (ad 43) :: st)) : zz_Z p l e R s m args below meth c Q D A nL cells slots (zz_wc U ad (σ) X) (pc) lv (.ref (ad 41) :: st) := zz_get (T := TX4) C 41 3 hdg rfl rfl z_in4 (by decide +kernel) (by decide) hw rfl k
theorem zl_42 (C : zz_C p l R s m meth c D U A own cc nL ret hh d) {i x : Int32} (hdg : decode cc pc = .ok (.iaload, 1)) (h : zz_ga (σ 42) 14 i = some x) (k : zz_Z p l e R s m args below meth c Q D A nL cells slots (zz_wc U ad (σ) X) (pc + 1) lv (.int x :: st)) : zz_Z p l e R s m args below meth c Q D A nL cells slots (zz_wc U ad (σ) X) (pc) lv (.int i :: .ref (ad 42) :: st) := zz_iald C 42 hdg rfl (zz_ga_in h).1 (by rw [(zz_ga_in h).2]; exact k)
theorem zs_42 (C : zz_C p l R s m meth c D U A own cc nL ret hh d) {i x : Int32} {σ1 : zz_St} (hdg : decode cc pc = .ok (.iastore, 1)) (h : zz_pa σ 42 14 i x = some σ1) (k : zz_Z p l e R s m args below meth c Q D A nL cells slots (zz_wc U ad (σ1) X) (pc + 1) lv (st)) : zz_Z p l e R s m args below meth c Q D A nL cells slots (zz_wc U ad (σ) X) (pc) lv (.int x :: .int i :: .ref (ad 42) :: st) := zz_iast C 42 hdg rfl (zz_pa_in h).1 (by rw [← (zz_pa_in h).2]; rfl) k
theorem zl_43 (C : zz_C p l R s m meth c D U A own cc nL ret hh d) {i x : Int32} (hdg : decode cc pc = .ok (.iaload, 1)) (h : zz_ga (σ 43) 14 i = some x) (k : zz_Z p l e R s m args below meth c Q D A nL cells slots (zz_wc U ad (σ) X) (pc + 1) lv (.int x :: st)) : zz_Z p l e R s m args below meth c Q D A nL cells slots (zz_wc U ad (σ) X) (pc) lv (.int i :: .ref (ad 43) :: st) := zz_iald C 43 hdg rfl (zz_ga_in h).1 (by rw [(zz_ga_in h).2]; exact k)
theorem zs_43 (C : zz_C p l R s m meth c D U A own cc nL ret hh d) {i x : Int32} {σ1 : zz_St} (hdg : decode cc pc = .ok (.iastore, 1)) (h : zz_pa σ 43 14 i x = some σ1) (k : zz_Z p l e R s m args below meth c Q D A nL cells slots (zz_wc U ad (σ1) X) (pc + 1) lv (st)) : zz_Z p l e R s m args below meth c Q D A nL cells slots (zz_wc U ad (σ) X) (pc) lv (.int x :: .int i :: .ref (ad 43) :: st) := zz_iast C 43 hdg rfl (zz_pa_in h).1 (by rw [← (zz_pa_in h).2]; rfl) k
theorem zf0_least (C : zz_C p l R s m meth c D U A own cc nL ret hh d) (hdg : decode cc pc = .ok (.getfield index, 3)) (hw : zz_g (.fieldLink own index "ChangeUntangler$BestOrder" "least" "I")) (k : zz_Z p l e R s m args below meth c Q D A nL cells slots (zz_wc U ad (σ) X) (pc + 3) lv (.int (σ 44 0) :: st)) : zz_Z p l e R s m args below meth c Q D A nL cells slots (zz_wc U ad (σ) X) (pc) lv (.ref (ad 44) :: st) := zz_get (T := TX0) C 44 0 hdg rfl rfl z_in0 (by decide +kernel) (by decide) hw rfl k
theorem zp0_least (C : zz_C p l R s m meth c D U A own cc nL ret hh d) {v : Int32} (hdg : decode cc pc = .ok (.putfield index, 3)) (hw : zz_g (.fieldLink own index "ChangeUntangler$BestOrder" "least" "I")) (k : zz_Z p l e R s m args below meth c Q D A nL cells slots (zz_wc U ad (zz_u σ 44 0 v) X) (pc + 3) lv (st)) : zz_Z p l e R s m args below meth c Q D A nL cells slots (zz_wc U ad (σ) X) (pc) lv (.int v :: .ref (ad 44) :: st) := zz_put (T := TX0) (v := .int v) (ty := .int) C 44 0 hdg rfl rfl z_in0 (by decide +kernel) tyX0_ok nmX0 (by decide) hw rfl (by decide +kernel) rfl rfl (Nat.le_of_ble_eq_true rfl) rfl k
theorem zf0_length (C : zz_C p l R s m meth c D U A own cc nL ret hh d) (hdg : decode cc pc = .ok (.getfield index, 3)) (hw : zz_g (.fieldLink own index "ChangeUntangler$BestOrder" "length" "I")) (k : zz_Z p l e R s m args below meth c Q D A nL cells slots (zz_wc U ad (σ) X) (pc + 3) lv (.int (σ 44 1) :: st)) : zz_Z p l e R s m args below meth c Q D A nL cells slots (zz_wc U ad (σ) X) (pc) lv (.ref (ad 44) :: st) := zz_get (T := TX0) C 44 1 hdg rfl rfl z_in0 (by decide +kernel) (by decide) hw rfl k
theorem zp0_length (C : zz_C p l R s m meth c D U A own cc nL ret hh d) {v : Int32} (hdg : decode cc pc = .ok (.putfield index, 3)) (hw : zz_g (.fieldLink own index "ChangeUntangler$BestOrder" "length" "I")) (k : zz_Z p l e R s m args below meth c Q D A nL cells slots (zz_wc U ad (zz_u σ 44 1 v) X) (pc + 3) lv (st)) : zz_Z p l e R s m args below meth c Q D A nL cells slots (zz_wc U ad (σ) X) (pc) lv (.int v :: .ref (ad 44) :: st) := zz_put (T := TX0) (v := .int v) (ty := .int) C 44 1 hdg rfl rfl z_in0 (by decide +kernel) tyX0_ok nmX0 (by decide) hw rfl (by decide +kernel) rfl rfl (Nat.le_of_ble_eq_true rfl) rfl k
theorem zf0_order (C : zz_C p l R s m meth c D U A own cc nL ret hh d) (hdg : decode cc pc = .ok (.getfield index, 3)) (hw : zz_g (.fieldLink own index "ChangeUntangler$BestOrder" "order" "[I")) (k : zz_Z p l e R s m args below meth c Q D A nL cells slots (zz_wc U ad (σ) X) (pc + 3) lv (.ref (ad 45) :: st)) : zz_Z p l e R s m args below meth c Q D A nL cells slots (zz_wc U ad (σ) X) (pc) lv (.ref (ad 44) :: st) := zz_get (T := TX0) C 44 2 hdg rfl rfl z_in0 (by decide +kernel) (by decide) hw rfl k
theorem zf0_fromThen (C : zz_C p l R s m meth c D U A own cc nL ret hh d) (hdg : decode cc pc = .ok (.getfield index, 3)) (hw : zz_g (.fieldLink own index "ChangeUntangler$BestOrder" "fromThen" "[I")) (k : zz_Z p l e R s m args below meth c Q D A nL cells slots (zz_wc U ad (σ) X) (pc + 3) lv (.ref (ad 46) :: st)) : zz_Z p l e R s m args below meth c Q D A nL cells slots (zz_wc U ad (σ) X) (pc) lv (.ref (ad 44) :: st) := zz_get (T := TX0) C 44 3 hdg rfl rfl z_in0 (by decide +kernel) (by decide) hw rfl k
theorem zl_45 (C : zz_C p l R s m meth c D U A own cc nL ret hh d) {i x : Int32} (hdg : decode cc pc = .ok (.iaload, 1)) (h : zz_ga (σ 45) 9 i = some x) (k : zz_Z p l e R s m args below meth c Q D A nL cells slots (zz_wc U ad (σ) X) (pc + 1) lv (.int x :: st)) : zz_Z p l e R s m args below meth c Q D A nL cells slots (zz_wc U ad (σ) X) (pc) lv (.int i :: .ref (ad 45) :: st) := zz_iald C 45 hdg rfl (zz_ga_in h).1 (by rw [(zz_ga_in h).2]; exact k)
theorem zs_45 (C : zz_C p l R s m meth c D U A own cc nL ret hh d) {i x : Int32} {σ1 : zz_St} (hdg : decode cc pc = .ok (.iastore, 1)) (h : zz_pa σ 45 9 i x = some σ1) (k : zz_Z p l e R s m args below meth c Q D A nL cells slots (zz_wc U ad (σ1) X) (pc + 1) lv (st)) : zz_Z p l e R s m args below meth c Q D A nL cells slots (zz_wc U ad (σ) X) (pc) lv (.int x :: .int i :: .ref (ad 45) :: st) := zz_iast C 45 hdg rfl (zz_pa_in h).1 (by rw [← (zz_pa_in h).2]; rfl) k
theorem zl_46 (C : zz_C p l R s m meth c D U A own cc nL ret hh d) {i x : Int32} (hdg : decode cc pc = .ok (.iaload, 1)) (h : zz_ga (σ 46) 512 i = some x) (k : zz_Z p l e R s m args below meth c Q D A nL cells slots (zz_wc U ad (σ) X) (pc + 1) lv (.int x :: st)) : zz_Z p l e R s m args below meth c Q D A nL cells slots (zz_wc U ad (σ) X) (pc) lv (.int i :: .ref (ad 46) :: st) := zz_iald C 46 hdg rfl (zz_ga_in h).1 (by rw [(zz_ga_in h).2]; exact k)
theorem zs_46 (C : zz_C p l R s m meth c D U A own cc nL ret hh d) {i x : Int32} {σ1 : zz_St} (hdg : decode cc pc = .ok (.iastore, 1)) (h : zz_pa σ 46 512 i x = some σ1) (k : zz_Z p l e R s m args below meth c Q D A nL cells slots (zz_wc U ad (σ1) X) (pc + 1) lv (st)) : zz_Z p l e R s m args below meth c Q D A nL cells slots (zz_wc U ad (σ) X) (pc) lv (.int x :: .int i :: .ref (ad 46) :: st) := zz_iast C 46 hdg rfl (zz_pa_in h).1 (by rw [← (zz_pa_in h).2]; rfl) k
end ZW
end
section
theorem zw_0 : zz_g (.methodLink RX7 58 yX7_isUpTo) := ⟨List.mem_of_getElem? (i := 312) (by decide +kernel), by decide +kernel⟩
theorem zw_1 : zz_g (.fieldLink RX7 271 "ChangeUntangler" "isBestKnown" "Z") := ⟨List.mem_of_getElem? (i := 212) (by decide +kernel), by decide +kernel⟩
theorem zw_2 : zz_g (.fieldLink RX7 267 "ChangeUntangler" "isPutTogether" "Z") := ⟨List.mem_of_getElem? (i := 211) (by decide +kernel), by decide +kernel⟩
theorem zw_3 : zz_g (.fieldLink RX5 35 "ChangeUntangler$Pieces" "count" "I") := ⟨List.mem_of_getElem? (i := 55) (by decide +kernel), by decide +kernel⟩
theorem zw_4 : zz_g (.fieldLink RX5 24 "ChangeUntangler$Pieces" "purposes" "[I") := ⟨List.mem_of_getElem? (i := 63) (by decide +kernel), by decide +kernel⟩
theorem zw_5 : zz_g (.fieldLink RX5 21 "ChangeUntangler$Pieces" "taken" "[I") := ⟨List.mem_of_getElem? (i := 62) (by decide +kernel), by decide +kernel⟩
theorem zw_6 : zz_g (.fieldLink RX5 18 "ChangeUntangler$Pieces" "added" "[I") := ⟨List.mem_of_getElem? (i := 61) (by decide +kernel), by decide +kernel⟩
theorem zw_7 : zz_g (.fieldLink RX5 15 "ChangeUntangler$Pieces" "startLines" "[I") := ⟨List.mem_of_getElem? (i := 59) (by decide +kernel), by decide +kernel⟩
theorem zw_8 : zz_g (.fieldLink RX5 9 "ChangeUntangler$Pieces" "files" "[I") := ⟨List.mem_of_getElem? (i := 57) (by decide +kernel), by decide +kernel⟩
theorem zw_9 : zz_g (.methodLink RX7 83 yX5_append) := ⟨List.mem_of_getElem? (i := 616) (by decide +kernel), by decide +kernel⟩
theorem zw_10 : zz_g (.fieldLink RX7 12 "ChangeUntangler" "pieces" "LChangeUntangler$Pieces;") := ⟨List.mem_of_getElem? (i := 204) (by decide +kernel), by decide +kernel⟩
theorem zw_11 : zz_g (.methodLink RX7 80 yX7_forgetResults) := ⟨List.mem_of_getElem? (i := 304) (by decide +kernel), by decide +kernel⟩
theorem zw_12 : zz_g (.fieldLink RX7 71 "ChangeUntangler$Pieces" "count" "I") := ⟨List.mem_of_getElem? (i := 56) (by decide +kernel), by decide +kernel⟩
theorem zw_13 : zz_g (.methodLink RX7 296 yX5_has) := ⟨List.mem_of_getElem? (i := 468) (by decide +kernel), by decide +kernel⟩
theorem zw_14 : zz_g (.methodLink RX7 136 yX7_requirePiece) := ⟨List.mem_of_getElem? (i := 464) (by decide +kernel), by decide +kernel⟩
theorem zw_15 : zz_g (.constant RX7 91 (65535)) := ⟨List.mem_of_getElem? (i := 629) (by decide +kernel), by decide +kernel⟩
theorem zw_16 : zz_g (.fieldLink RX5 32 "ChangeUntangler$Pieces" "piecesWith" "[[I") := ⟨List.mem_of_getElem? (i := 65) (by decide +kernel), by decide +kernel⟩
theorem zw_17 : zz_g (.fieldLink RX5 29 "ChangeUntangler$Pieces" "namesOf" "[[I") := ⟨List.mem_of_getElem? (i := 64) (by decide +kernel), by decide +kernel⟩
theorem zw_18 : zz_g (.methodLink RX7 94 yX5_replaceNames) := ⟨List.mem_of_getElem? (i := 631) (by decide +kernel), by decide +kernel⟩
theorem zw_19 : zz_g (.methodLink RX7 87 yX7_requireSet) := ⟨List.mem_of_getElem? (i := 624) (by decide +kernel), by decide +kernel⟩
theorem zw_20 : zz_g (.fieldLink RX1 9 "ChangeUntangler$Code" "otherUses" "[I") := ⟨List.mem_of_getElem? (i := 94) (by decide +kernel), by decide +kernel⟩
theorem zw_21 : zz_g (.fieldLink RX1 15 "ChangeUntangler$Code" "definedNames" "I") := ⟨List.mem_of_getElem? (i := 91) (by decide +kernel), by decide +kernel⟩
theorem zw_22 : zz_g (.methodLink RX7 109 yX1_learn) := ⟨List.mem_of_getElem? (i := 641) (by decide +kernel), by decide +kernel⟩
theorem zw_23 : zz_g (.fieldLink RX7 19 "ChangeUntangler" "code" "LChangeUntangler$Code;") := ⟨List.mem_of_getElem? (i := 205) (by decide +kernel), by decide +kernel⟩
theorem zw_24 : zz_g (.fieldLink RX7 152 "ChangeUntangler$Groups" "threshold" "I") := ⟨List.mem_of_getElem? (i := 134) (by decide +kernel), by decide +kernel⟩
theorem zw_25 : zz_g (.fieldLink RX7 40 "ChangeUntangler" "groups" "LChangeUntangler$Groups;") := ⟨List.mem_of_getElem? (i := 208) (by decide +kernel), by decide +kernel⟩
theorem zw_26 : zz_g (.fieldLink RX7 157 "ChangeUntangler$Groups" "manner" "I") := ⟨List.mem_of_getElem? (i := 136) (by decide +kernel), by decide +kernel⟩
theorem zw_27 : zz_g (.fieldLink RX6 15 "ChangeUntangler$Sayings" "mustNot" "[I") := ⟨List.mem_of_getElem? (i := 120) (by decide +kernel), by decide +kernel⟩
theorem zw_28 : zz_g (.fieldLink RX6 9 "ChangeUntangler$Sayings" "must" "[I") := ⟨List.mem_of_getElem? (i := 119) (by decide +kernel), by decide +kernel⟩
theorem zw_29 : zz_g (.methodLink RX6 22 yX6_putOneWay) := ⟨List.mem_of_getElem? (i := 671) (by decide +kernel), by decide +kernel⟩
theorem zw_30 : zz_g (.methodLink RX6 26 yX6_joinedTo) := ⟨List.mem_of_getElem? (i := 679) (by decide +kernel), by decide +kernel⟩
theorem zw_31 : zz_g (.methodLink RX7 166 yX6_put) := ⟨List.mem_of_getElem? (i := 667) (by decide +kernel), by decide +kernel⟩
theorem zw_32 : zz_g (.fieldLink RX7 33 "ChangeUntangler" "sayings" "LChangeUntangler$Sayings;") := ⟨List.mem_of_getElem? (i := 207) (by decide +kernel), by decide +kernel⟩
theorem zw_33 : zz_g (.methodLink RX7 170 yX6_isContradiction) := ⟨List.mem_of_getElem? (i := 675) (by decide +kernel), by decide +kernel⟩
theorem zw_34 : zz_g (.methodLink RX7 162 yX6_saidOf) := ⟨List.mem_of_getElem? (i := 663) (by decide +kernel), by decide +kernel⟩
theorem zw_35 : zz_g (.methodLink RX7 139 yX7_requireDifferent) := ⟨List.mem_of_getElem? (i := 491) (by decide +kernel), by decide +kernel⟩
theorem zw_36 : zz_g (.methodLink RX2 47 yJ9_abs_0f7a4) := ⟨List.mem_of_getElem? (i := 340) (by decide +kernel), by decide +kernel⟩
theorem zw_37 : zz_g (.fieldLink RX2 15 "ChangeUntangler$Evidence" "span" "I") := ⟨List.mem_of_getElem? (i := 107) (by decide +kernel), by decide +kernel⟩
theorem zw_38 : zz_g (.fieldLink RX2 44 "ChangeUntangler$Pieces" "startLines" "[I") := ⟨List.mem_of_getElem? (i := 60) (by decide +kernel), by decide +kernel⟩
theorem zw_39 : zz_g (.fieldLink RX2 41 "ChangeUntangler$Pieces" "files" "[I") := ⟨List.mem_of_getElem? (i := 58) (by decide +kernel), by decide +kernel⟩
theorem zw_40 : zz_g (.fieldLink RX2 9 "ChangeUntangler$Evidence" "weights" "[I") := ⟨List.mem_of_getElem? (i := 106) (by decide +kernel), by decide +kernel⟩
theorem zw_41 : zz_g (.methodLink RX2 19 yX2_isNear) := ⟨List.mem_of_getElem? (i := 336) (by decide +kernel), by decide +kernel⟩
theorem zw_42 : zz_g (.constant "java/lang/Integer" 265 (1431655765)) := ⟨List.mem_of_getElem? (i := 350) (by decide +kernel), by decide +kernel⟩
theorem zw_43 : zz_g (.constant "java/lang/Integer" 266 (858993459)) := ⟨List.mem_of_getElem? (i := 351) (by decide +kernel), by decide +kernel⟩
theorem zw_44 : zz_g (.constant "java/lang/Integer" 267 (252645135)) := ⟨List.mem_of_getElem? (i := 352) (by decide +kernel), by decide +kernel⟩
theorem zw_45 : zz_g (.methodLink RX5 43 yJ6_bitCount_0f7a4) := ⟨List.mem_of_getElem? (i := 347) (by decide +kernel), by decide +kernel⟩
theorem zw_46 : zz_g (.methodLink RX2 23 yX5_crossings) := ⟨List.mem_of_getElem? (i := 343) (by decide +kernel), by decide +kernel⟩
theorem zw_47 : zz_g (.methodLink RX2 52 yJ6_bitCount_0f7a4) := ⟨List.mem_of_getElem? (i := 360) (by decide +kernel), by decide +kernel⟩
theorem zw_48 : zz_g (.methodLink RX2 33 yX2_shareOf) := ⟨List.mem_of_getElem? (i := 357) (by decide +kernel), by decide +kernel⟩
theorem zw_49 : zz_g (.methodLink RX2 29 yX5_everyNameOf) := ⟨List.mem_of_getElem? (i := 353) (by decide +kernel), by decide +kernel⟩
theorem zw_50 : zz_g (.methodLink RX2 37 yX2_pointsBy) := ⟨List.mem_of_getElem? (i := 332) (by decide +kernel), by decide +kernel⟩
theorem zw_51 : zz_g (.fieldLink RX3 24 "ChangeUntangler$Groups" "affinities" "[[I") := ⟨List.mem_of_getElem? (i := 145) (by decide +kernel), by decide +kernel⟩
theorem zw_52 : zz_g (.methodLink RX3 32 yX2_sumOfPoints) := ⟨List.mem_of_getElem? (i := 328) (by decide +kernel), by decide +kernel⟩
theorem zw_53 : zz_g (.fieldLink RX3 27 "ChangeUntangler$Pieces" "count" "I") := ⟨List.mem_of_getElem? (i := 54) (by decide +kernel), by decide +kernel⟩
theorem zw_54 : zz_g (.fieldLink RX3 49 "ChangeUntangler$Groups" "count" "I") := ⟨List.mem_of_getElem? (i := 138) (by decide +kernel), by decide +kernel⟩
theorem zw_55 : zz_g (.fieldLink RX3 18 "ChangeUntangler$Groups" "sets" "[I") := ⟨List.mem_of_getElem? (i := 142) (by decide +kernel), by decide +kernel⟩
theorem zw_56 : zz_g (.methodLink RX3 50 yX6_joinedTo) := ⟨List.mem_of_getElem? (i := 369) (by decide +kernel), by decide +kernel⟩
theorem zw_57 : zz_g (.constant RX3 68 (1000000)) := ⟨List.mem_of_getElem? (i := 388) (by decide +kernel), by decide +kernel⟩
theorem zw_58 : zz_g (.methodLink RX3 72 yJ9_max_7cf53) := ⟨List.mem_of_getElem? (i := 390) (by decide +kernel), by decide +kernel⟩
theorem zw_59 : zz_g (.methodLink RX3 77 yJ9_min_7cf53) := ⟨List.mem_of_getElem? (i := 393) (by decide +kernel), by decide +kernel⟩
theorem zw_60 : zz_g (.fieldLink RX3 15 "ChangeUntangler$Groups" "manner" "I") := ⟨List.mem_of_getElem? (i := 135) (by decide +kernel), by decide +kernel⟩
theorem zw_61 : zz_g (.methodLink RX3 80 yJ6_bitCount_0f7a4) := ⟨List.mem_of_getElem? (i := 396) (by decide +kernel), by decide +kernel⟩
theorem zw_62 : zz_g (.methodLink RX3 60 yX3_linkageOf) := ⟨List.mem_of_getElem? (i := 384) (by decide +kernel), by decide +kernel⟩
theorem zw_63 : zz_g (.methodLink RX3 56 yX6_isForbidden) := ⟨List.mem_of_getElem? (i := 380) (by decide +kernel), by decide +kernel⟩
theorem zw_64 : zz_g (.fieldLink RX3 42 "ChangeUntangler$Groups" "linkageOfLastJoin" "I") := ⟨List.mem_of_getElem? (i := 140) (by decide +kernel), by decide +kernel⟩
theorem zw_65 : zz_g (.methodLink RX3 64 yX3_join) := ⟨List.mem_of_getElem? (i := 397) (by decide +kernel), by decide +kernel⟩
theorem zw_66 : zz_g (.fieldLink RX3 9 "ChangeUntangler$Groups" "threshold" "I") := ⟨List.mem_of_getElem? (i := 133) (by decide +kernel), by decide +kernel⟩
theorem zw_67 : zz_g (.methodLink RX3 45 yX3_joinNearest) := ⟨List.mem_of_getElem? (i := 376) (by decide +kernel), by decide +kernel⟩
theorem zw_68 : zz_g (.methodLink RX3 38 yX3_joinWhatMust) := ⟨List.mem_of_getElem? (i := 365) (by decide +kernel), by decide +kernel⟩
theorem zw_69 : zz_g (.methodLink RX5 53 yX5_isNeeded) := ⟨List.mem_of_getElem? (i := 414) (by decide +kernel), by decide +kernel⟩
theorem zw_70 : zz_g (.fieldLink RX4 44 "ChangeUntangler$Groups" "sets" "[I") := ⟨List.mem_of_getElem? (i := 143) (by decide +kernel), by decide +kernel⟩
theorem zw_71 : zz_g (.fieldLink RX4 15 "ChangeUntangler$Parcels" "needed" "[I") := ⟨List.mem_of_getElem? (i := 172) (by decide +kernel), by decide +kernel⟩
theorem zw_72 : zz_g (.fieldLink RX4 22 "ChangeUntangler$Groups" "count" "I") := ⟨List.mem_of_getElem? (i := 137) (by decide +kernel), by decide +kernel⟩
theorem zw_73 : zz_g (.methodLink RX4 50 yX5_neededBy) := ⟨List.mem_of_getElem? (i := 409) (by decide +kernel), by decide +kernel⟩
theorem zw_74 : zz_g (.fieldLink RX4 45 "ChangeUntangler$Code" "definedNames" "I") := ⟨List.mem_of_getElem? (i := 92) (by decide +kernel), by decide +kernel⟩
theorem zw_75 : zz_g (.methodLink RX4 59 yX4_circleOf) := ⟨List.mem_of_getElem? (i := 427) (by decide +kernel), by decide +kernel⟩
theorem zw_76 : zz_g (.fieldLink RX4 32 "ChangeUntangler$Parcels" "count" "I") := ⟨List.mem_of_getElem? (i := 166) (by decide +kernel), by decide +kernel⟩
theorem zw_77 : zz_g (.fieldLink RX4 9 "ChangeUntangler$Parcels" "sets" "[I") := ⟨List.mem_of_getElem? (i := 170) (by decide +kernel), by decide +kernel⟩
theorem zw_78 : zz_g (.fieldLink RX4 33 "ChangeUntangler$Parcels" "knotCount" "I") := ⟨List.mem_of_getElem? (i := 168) (by decide +kernel), by decide +kernel⟩
theorem zw_79 : zz_g (.methodLink RX4 62 yJ6_bitCount_0f7a4) := ⟨List.mem_of_getElem? (i := 435) (by decide +kernel), by decide +kernel⟩
theorem zw_80 : zz_g (.methodLink RX4 40 yX4_append) := ⟨List.mem_of_getElem? (i := 431) (by decide +kernel), by decide +kernel⟩
theorem zw_81 : zz_g (.methodLink RX4 36 yX4_nextCircle) := ⟨List.mem_of_getElem? (i := 423) (by decide +kernel), by decide +kernel⟩
theorem zw_82 : zz_g (.methodLink RX4 28 yX4_needByWayOfOthers) := ⟨List.mem_of_getElem? (i := 418) (by decide +kernel), by decide +kernel⟩
theorem zw_83 : zz_g (.methodLink RX4 18 yX4_findNeeds) := ⟨List.mem_of_getElem? (i := 405) (by decide +kernel), by decide +kernel⟩
theorem zw_84 : zz_g (.methodLink RX7 282 yX4_build) := ⟨List.mem_of_getElem? (i := 401) (by decide +kernel), by decide +kernel⟩
theorem zw_85 : zz_g (.fieldLink RX7 47 "ChangeUntangler" "parcels" "LChangeUntangler$Parcels;") := ⟨List.mem_of_getElem? (i := 209) (by decide +kernel), by decide +kernel⟩
theorem zw_86 : zz_g (.methodLink RX7 278 yX3_build) := ⟨List.mem_of_getElem? (i := 361) (by decide +kernel), by decide +kernel⟩
theorem zw_87 : zz_g (.methodLink RX7 274 yX3_weighAll) := ⟨List.mem_of_getElem? (i := 324) (by decide +kernel), by decide +kernel⟩
theorem zw_88 : zz_g (.fieldLink RX7 26 "ChangeUntangler" "evidence" "LChangeUntangler$Evidence;") := ⟨List.mem_of_getElem? (i := 206) (by decide +kernel), by decide +kernel⟩
theorem zw_89 : zz_g (.fieldLink RX7 179 "ChangeUntangler$Groups" "count" "I") := ⟨List.mem_of_getElem? (i := 139) (by decide +kernel), by decide +kernel⟩
theorem zw_90 : zz_g (.methodLink RX7 176 yX7_putTogether) := ⟨List.mem_of_getElem? (i := 320) (by decide +kernel), by decide +kernel⟩
theorem zw_91 : zz_g (.fieldLink RX7 183 "ChangeUntangler$Groups" "sets" "[I") := ⟨List.mem_of_getElem? (i := 144) (by decide +kernel), by decide +kernel⟩
theorem zw_92 : zz_g (.methodLink RX7 180 yX7_requireGroup) := ⟨List.mem_of_getElem? (i := 440) (by decide +kernel), by decide +kernel⟩
theorem zw_93 : zz_g (.methodLink RX7 312 yX7_isIn) := ⟨List.mem_of_getElem? (i := 476) (by decide +kernel), by decide +kernel⟩
theorem zw_94 : zz_g (.methodLink RX7 186 yX7_placeOf) := ⟨List.mem_of_getElem? (i := 473) (by decide +kernel), by decide +kernel⟩
theorem zw_95 : zz_g (.methodLink RX7 192 yX3_linkageOf) := ⟨List.mem_of_getElem? (i := 482) (by decide +kernel), by decide +kernel⟩
theorem zw_96 : zz_g (.fieldLink RX7 195 "ChangeUntangler$Groups" "linkageOfLastJoin" "I") := ⟨List.mem_of_getElem? (i := 141) (by decide +kernel), by decide +kernel⟩
theorem zw_97 : zz_g (.methodLink RX7 201 yX5_isNeeded) := ⟨List.mem_of_getElem? (i := 495) (by decide +kernel), by decide +kernel⟩
theorem zw_98 : zz_g (.fieldLink RX7 198 "ChangeUntangler$Code" "definedNames" "I") := ⟨List.mem_of_getElem? (i := 93) (by decide +kernel), by decide +kernel⟩
theorem zw_99 : zz_g (.fieldLink RX7 205 "ChangeUntangler$Parcels" "count" "I") := ⟨List.mem_of_getElem? (i := 167) (by decide +kernel), by decide +kernel⟩
theorem zw_100 : zz_g (.fieldLink RX7 209 "ChangeUntangler$Parcels" "sets" "[I") := ⟨List.mem_of_getElem? (i := 171) (by decide +kernel), by decide +kernel⟩
theorem zw_101 : zz_g (.methodLink RX7 206 yX7_requireParcel) := ⟨List.mem_of_getElem? (i := 504) (by decide +kernel), by decide +kernel⟩
theorem zw_102 : zz_g (.fieldLink RX7 210 "ChangeUntangler$Parcels" "knotCount" "I") := ⟨List.mem_of_getElem? (i := 169) (by decide +kernel), by decide +kernel⟩
theorem zw_103 : zz_g (.methodLink RX7 213 yX5_linesOf) := ⟨List.mem_of_getElem? (i := 521) (by decide +kernel), by decide +kernel⟩
theorem zw_104 : zz_g (.methodLink RX1 29 yJ6_bitCount_0f7a4) := ⟨List.mem_of_getElem? (i := 538) (by decide +kernel), by decide +kernel⟩
theorem zw_105 : zz_g (.fieldLink RX1 23 "ChangeUntangler$Pieces" "piecesWith" "[[I") := ⟨List.mem_of_getElem? (i := 66) (by decide +kernel), by decide +kernel⟩
theorem zw_106 : zz_g (.methodLink RX7 223 yX1_brokenBy) := ⟨List.mem_of_getElem? (i := 534) (by decide +kernel), by decide +kernel⟩
theorem zw_107 : zz_g (.methodLink RX7 217 yX5_all) := ⟨List.mem_of_getElem? (i := 529) (by decide +kernel), by decide +kernel⟩
theorem zw_108 : zz_g (.methodLink RX7 285 yJ6_bitCount_0f7a4) := ⟨List.mem_of_getElem? (i := 547) (by decide +kernel), by decide +kernel⟩
theorem zw_109 : zz_g (.methodLink RX7 227 yX7_breakageInOrder) := ⟨List.mem_of_getElem? (i := 543) (by decide +kernel), by decide +kernel⟩
theorem zw_110 : zz_g (.methodLink RX0 24 yJ9_min_7cf53) := ⟨List.mem_of_getElem? (i := 576) (by decide +kernel), by decide +kernel⟩
theorem zw_111 : zz_g (.constant RX0 57 (1000000)) := ⟨List.mem_of_getElem? (i := 581) (by decide +kernel), by decide +kernel⟩
theorem zw_112 : zz_g (.fieldLink RX0 15 "ChangeUntangler$BestOrder" "fromThen" "[I") := ⟨List.mem_of_getElem? (i := 194) (by decide +kernel), by decide +kernel⟩
theorem zw_113 : zz_g (.fieldLink RX0 30 "ChangeUntangler$BestOrder" "length" "I") := ⟨List.mem_of_getElem? (i := 190) (by decide +kernel), by decide +kernel⟩
theorem zw_114 : zz_g (.methodLink RX0 46 yJ6_bitCount_0f7a4) := ⟨List.mem_of_getElem? (i := 588) (by decide +kernel), by decide +kernel⟩
theorem zw_115 : zz_g (.methodLink RX0 40 yX1_brokenBy) := ⟨List.mem_of_getElem? (i := 587) (by decide +kernel), by decide +kernel⟩
theorem zw_116 : zz_g (.methodLink RX0 37 yX4_piecesIn) := ⟨List.mem_of_getElem? (i := 583) (by decide +kernel), by decide +kernel⟩
theorem zw_117 : zz_g (.methodLink RX0 33 yX0_nextAfter) := ⟨List.mem_of_getElem? (i := 577) (by decide +kernel), by decide +kernel⟩
theorem zw_118 : zz_g (.fieldLink RX0 9 "ChangeUntangler$BestOrder" "order" "[I") := ⟨List.mem_of_getElem? (i := 192) (by decide +kernel), by decide +kernel⟩
theorem zw_119 : zz_g (.methodLink RX0 54 yX0_walk) := ⟨List.mem_of_getElem? (i := 589) (by decide +kernel), by decide +kernel⟩
theorem zw_120 : zz_g (.fieldLink RX0 51 "ChangeUntangler$BestOrder" "least" "I") := ⟨List.mem_of_getElem? (i := 188) (by decide +kernel), by decide +kernel⟩
theorem zw_121 : zz_g (.fieldLink RX0 18 "ChangeUntangler$Parcels" "count" "I") := ⟨List.mem_of_getElem? (i := 165) (by decide +kernel), by decide +kernel⟩
theorem zw_122 : zz_g (.methodLink RX7 292 yX0_find) := ⟨List.mem_of_getElem? (i := 572) (by decide +kernel), by decide +kernel⟩
theorem zw_123 : zz_g (.fieldLink RX7 54 "ChangeUntangler" "bestOrder" "LChangeUntangler$BestOrder;") := ⟨List.mem_of_getElem? (i := 210) (by decide +kernel), by decide +kernel⟩
theorem zw_124 : zz_g (.fieldLink RX7 233 "ChangeUntangler$BestOrder" "least" "I") := ⟨List.mem_of_getElem? (i := 189) (by decide +kernel), by decide +kernel⟩
theorem zw_125 : zz_g (.methodLink RX7 230 yX7_findBest) := ⟨List.mem_of_getElem? (i := 552) (by decide +kernel), by decide +kernel⟩
theorem zw_126 : zz_g (.fieldLink RX7 236 "ChangeUntangler$BestOrder" "length" "I") := ⟨List.mem_of_getElem? (i := 191) (by decide +kernel), by decide +kernel⟩
theorem zw_127 : zz_g (.fieldLink RX7 241 "ChangeUntangler$BestOrder" "order" "[I") := ⟨List.mem_of_getElem? (i := 193) (by decide +kernel), by decide +kernel⟩
theorem zw_128 : zz_g (.constant "java/lang/Integer" 264 (65536)) := ⟨List.mem_of_getElem? (i := 684) (by decide +kernel), by decide +kernel⟩
theorem zw_129 : zz_g (.classLink RX7 62 "java/lang/IllegalArgumentException") := ⟨List.mem_of_getElem? (i := 236) (by decide +kernel), by decide +kernel⟩
theorem zw_130 : zz_g (.classLink RX7 75 "java/lang/IllegalStateException") := ⟨List.mem_of_getElem? (i := 556) (by decide +kernel), by decide +kernel⟩
theorem zw_131 : zz_g (.classLink RX7 102 "java/lang/IndexOutOfBoundsException") := ⟨List.mem_of_getElem? (i := 444) (by decide +kernel), by decide +kernel⟩
theorem zy_X7_isUpTo : zz_YS yX7_isUpTo (.code yX7_isUpTo cX7_isUpTo 2 (some .boolean)) 2 := ⟨⟨List.mem_of_getElem? (i := 313) (by decide +kernel), by decide +kernel⟩, ⟨List.mem_of_getElem? (i := 314) (by decide +kernel), by decide +kernel⟩, ⟨List.mem_of_getElem? (i := 22) (by decide +kernel), by decide +kernel⟩, by decide +kernel, by decide +kernel, by decide +kernel⟩
theorem zy_X7_forgetResults : zz_YV yX7_forgetResults (.code yX7_forgetResults cX7_forgetResults 1 none) 0 := ⟨⟨List.mem_of_getElem? (i := 306) (by decide +kernel), by decide +kernel⟩, ⟨List.mem_of_getElem? (i := 1) (by decide +kernel), by decide +kernel⟩, ⟨List.mem_of_getElem? (i := 307) (by decide +kernel), by decide +kernel⟩, ⟨List.mem_of_getElem? (i := 22) (by decide +kernel), by decide +kernel⟩, by decide +kernel, by decide +kernel, by decide +kernel⟩
theorem zy_X5_append : zz_YV yX5_append (.code yX5_append cX5_append 6 (some .int)) 4 := ⟨⟨List.mem_of_getElem? (i := 617) (by decide +kernel), by decide +kernel⟩, ⟨List.mem_of_getElem? (i := 618) (by decide +kernel), by decide +kernel⟩, ⟨List.mem_of_getElem? (i := 619) (by decide +kernel), by decide +kernel⟩, ⟨List.mem_of_getElem? (i := 23) (by decide +kernel), by decide +kernel⟩, by decide +kernel, by decide +kernel, by decide +kernel⟩
theorem zy_X7_addPiece : zz_YV yX7_addPiece (.code yX7_addPiece cX7_addPiece 5 (some .int)) 4 := ⟨⟨List.mem_of_getElem? (i := 610) (by decide +kernel), by decide +kernel⟩, ⟨List.mem_of_getElem? (i := 611) (by decide +kernel), by decide +kernel⟩, ⟨List.mem_of_getElem? (i := 612) (by decide +kernel), by decide +kernel⟩, ⟨List.mem_of_getElem? (i := 22) (by decide +kernel), by decide +kernel⟩, by decide +kernel, by decide +kernel, by decide +kernel⟩
theorem zy_X5_has : zz_YV yX5_has (.code yX5_has cX5_has 2 (some .boolean)) 1 := ⟨⟨List.mem_of_getElem? (i := 469) (by decide +kernel), by decide +kernel⟩, ⟨List.mem_of_getElem? (i := 470) (by decide +kernel), by decide +kernel⟩, ⟨List.mem_of_getElem? (i := 471) (by decide +kernel), by decide +kernel⟩, ⟨List.mem_of_getElem? (i := 23) (by decide +kernel), by decide +kernel⟩, by decide +kernel, by decide +kernel, by decide +kernel⟩
theorem zy_X7_requirePiece : zz_YV yX7_requirePiece (.code yX7_requirePiece cX7_requirePiece 2 none) 1 := ⟨⟨List.mem_of_getElem? (i := 466) (by decide +kernel), by decide +kernel⟩, ⟨List.mem_of_getElem? (i := 13) (by decide +kernel), by decide +kernel⟩, ⟨List.mem_of_getElem? (i := 467) (by decide +kernel), by decide +kernel⟩, ⟨List.mem_of_getElem? (i := 22) (by decide +kernel), by decide +kernel⟩, by decide +kernel, by decide +kernel, by decide +kernel⟩
theorem zy_X7_requireSet : zz_YV yX7_requireSet (.code yX7_requireSet cX7_requireSet 3 none) 2 := ⟨⟨List.mem_of_getElem? (i := 626) (by decide +kernel), by decide +kernel⟩, ⟨List.mem_of_getElem? (i := 19) (by decide +kernel), by decide +kernel⟩, ⟨List.mem_of_getElem? (i := 627) (by decide +kernel), by decide +kernel⟩, ⟨List.mem_of_getElem? (i := 22) (by decide +kernel), by decide +kernel⟩, by decide +kernel, by decide +kernel, by decide +kernel⟩
theorem zy_X5_replaceNames : zz_YV yX5_replaceNames (.code yX5_replaceNames cX5_replaceNames 7 (some .int)) 3 := ⟨⟨List.mem_of_getElem? (i := 632) (by decide +kernel), by decide +kernel⟩, ⟨List.mem_of_getElem? (i := 633) (by decide +kernel), by decide +kernel⟩, ⟨List.mem_of_getElem? (i := 634) (by decide +kernel), by decide +kernel⟩, ⟨List.mem_of_getElem? (i := 23) (by decide +kernel), by decide +kernel⟩, by decide +kernel, by decide +kernel, by decide +kernel⟩
theorem zy_X7_setNames : zz_YV yX7_setNames (.code yX7_setNames cX7_setNames 4 (some .int)) 3 := ⟨⟨List.mem_of_getElem? (i := 621) (by decide +kernel), by decide +kernel⟩, ⟨List.mem_of_getElem? (i := 622) (by decide +kernel), by decide +kernel⟩, ⟨List.mem_of_getElem? (i := 623) (by decide +kernel), by decide +kernel⟩, ⟨List.mem_of_getElem? (i := 22) (by decide +kernel), by decide +kernel⟩, by decide +kernel, by decide +kernel, by decide +kernel⟩
theorem zy_X7_isIn : zz_YS yX7_isIn (.code yX7_isIn cX7_isIn 2 (some .boolean)) 2 := ⟨⟨List.mem_of_getElem? (i := 374) (by decide +kernel), by decide +kernel⟩, ⟨List.mem_of_getElem? (i := 375) (by decide +kernel), by decide +kernel⟩, ⟨List.mem_of_getElem? (i := 22) (by decide +kernel), by decide +kernel⟩, by decide +kernel, by decide +kernel, by decide +kernel⟩
theorem zy_X1_learn : zz_YV yX1_learn (.code yX1_learn cX1_learn 5 (some .boolean)) 3 := ⟨⟨List.mem_of_getElem? (i := 642) (by decide +kernel), by decide +kernel⟩, ⟨List.mem_of_getElem? (i := 643) (by decide +kernel), by decide +kernel⟩, ⟨List.mem_of_getElem? (i := 644) (by decide +kernel), by decide +kernel⟩, ⟨List.mem_of_getElem? (i := 24) (by decide +kernel), by decide +kernel⟩, by decide +kernel, by decide +kernel, by decide +kernel⟩
theorem zy_X7_setName : zz_YV yX7_setName (.code yX7_setName cX7_setName 4 (some .boolean)) 3 := ⟨⟨List.mem_of_getElem? (i := 636) (by decide +kernel), by decide +kernel⟩, ⟨List.mem_of_getElem? (i := 637) (by decide +kernel), by decide +kernel⟩, ⟨List.mem_of_getElem? (i := 638) (by decide +kernel), by decide +kernel⟩, ⟨List.mem_of_getElem? (i := 22) (by decide +kernel), by decide +kernel⟩, by decide +kernel, by decide +kernel, by decide +kernel⟩
theorem zy_X7_pieceCount : zz_YV yX7_pieceCount (.code yX7_pieceCount cX7_pieceCount 1 (some .int)) 0 := ⟨⟨List.mem_of_getElem? (i := 647) (by decide +kernel), by decide +kernel⟩, ⟨List.mem_of_getElem? (i := 648) (by decide +kernel), by decide +kernel⟩, ⟨List.mem_of_getElem? (i := 649) (by decide +kernel), by decide +kernel⟩, ⟨List.mem_of_getElem? (i := 22) (by decide +kernel), by decide +kernel⟩, by decide +kernel, by decide +kernel, by decide +kernel⟩
theorem zy_X7_setThreshold : zz_YV yX7_setThreshold (.code yX7_setThreshold cX7_setThreshold 3 (some .int)) 1 := ⟨⟨List.mem_of_getElem? (i := 233) (by decide +kernel), by decide +kernel⟩, ⟨List.mem_of_getElem? (i := 234) (by decide +kernel), by decide +kernel⟩, ⟨List.mem_of_getElem? (i := 235) (by decide +kernel), by decide +kernel⟩, ⟨List.mem_of_getElem? (i := 22) (by decide +kernel), by decide +kernel⟩, by decide +kernel, by decide +kernel, by decide +kernel⟩
theorem zy_X7_setManner : zz_YV yX7_setManner (.code yX7_setManner cX7_setManner 3 (some .int)) 1 := ⟨⟨List.mem_of_getElem? (i := 309) (by decide +kernel), by decide +kernel⟩, ⟨List.mem_of_getElem? (i := 310) (by decide +kernel), by decide +kernel⟩, ⟨List.mem_of_getElem? (i := 311) (by decide +kernel), by decide +kernel⟩, ⟨List.mem_of_getElem? (i := 22) (by decide +kernel), by decide +kernel⟩, by decide +kernel, by decide +kernel, by decide +kernel⟩
theorem zy_X7_requireDifferent : zz_YS yX7_requireDifferent (.code yX7_requireDifferent cX7_requireDifferent 2 none) 2 := ⟨⟨List.mem_of_getElem? (i := 492) (by decide +kernel), by decide +kernel⟩, ⟨List.mem_of_getElem? (i := 493) (by decide +kernel), by decide +kernel⟩, ⟨List.mem_of_getElem? (i := 22) (by decide +kernel), by decide +kernel⟩, by decide +kernel, by decide +kernel, by decide +kernel⟩
theorem zy_X6_saidOf : zz_YV yX6_saidOf (.code yX6_saidOf cX6_saidOf 3 (some .int)) 2 := ⟨⟨List.mem_of_getElem? (i := 664) (by decide +kernel), by decide +kernel⟩, ⟨List.mem_of_getElem? (i := 665) (by decide +kernel), by decide +kernel⟩, ⟨List.mem_of_getElem? (i := 666) (by decide +kernel), by decide +kernel⟩, ⟨List.mem_of_getElem? (i := 26) (by decide +kernel), by decide +kernel⟩, by decide +kernel, by decide +kernel, by decide +kernel⟩
theorem zy_X6_putOneWay : zz_YV yX6_putOneWay (.code yX6_putOneWay cX6_putOneWay 5 none) 3 := ⟨⟨List.mem_of_getElem? (i := 673) (by decide +kernel), by decide +kernel⟩, ⟨List.mem_of_getElem? (i := 20) (by decide +kernel), by decide +kernel⟩, ⟨List.mem_of_getElem? (i := 674) (by decide +kernel), by decide +kernel⟩, ⟨List.mem_of_getElem? (i := 26) (by decide +kernel), by decide +kernel⟩, by decide +kernel, by decide +kernel, by decide +kernel⟩
theorem zy_X6_put : zz_YV yX6_put (.code yX6_put cX6_put 4 none) 3 := ⟨⟨List.mem_of_getElem? (i := 668) (by decide +kernel), by decide +kernel⟩, ⟨List.mem_of_getElem? (i := 669) (by decide +kernel), by decide +kernel⟩, ⟨List.mem_of_getElem? (i := 670) (by decide +kernel), by decide +kernel⟩, ⟨List.mem_of_getElem? (i := 26) (by decide +kernel), by decide +kernel⟩, by decide +kernel, by decide +kernel, by decide +kernel⟩
theorem zy_X6_joinedTo : zz_YV yX6_joinedTo (.code yX6_joinedTo cX6_joinedTo 6 (some .int)) 1 := ⟨⟨List.mem_of_getElem? (i := 370) (by decide +kernel), by decide +kernel⟩, ⟨List.mem_of_getElem? (i := 371) (by decide +kernel), by decide +kernel⟩, ⟨List.mem_of_getElem? (i := 372) (by decide +kernel), by decide +kernel⟩, ⟨List.mem_of_getElem? (i := 26) (by decide +kernel), by decide +kernel⟩, by decide +kernel, by decide +kernel, by decide +kernel⟩
theorem zy_X6_isContradiction : zz_YV yX6_isContradiction (.code yX6_isContradiction cX6_isContradiction 2 (some .boolean)) 0 := ⟨⟨List.mem_of_getElem? (i := 676) (by decide +kernel), by decide +kernel⟩, ⟨List.mem_of_getElem? (i := 677) (by decide +kernel), by decide +kernel⟩, ⟨List.mem_of_getElem? (i := 678) (by decide +kernel), by decide +kernel⟩, ⟨List.mem_of_getElem? (i := 26) (by decide +kernel), by decide +kernel⟩, by decide +kernel, by decide +kernel, by decide +kernel⟩
theorem zy_X7_say : zz_YV yX7_say (.code yX7_say cX7_say 5 (some .int)) 3 := ⟨⟨List.mem_of_getElem? (i := 659) (by decide +kernel), by decide +kernel⟩, ⟨List.mem_of_getElem? (i := 660) (by decide +kernel), by decide +kernel⟩, ⟨List.mem_of_getElem? (i := 661) (by decide +kernel), by decide +kernel⟩, ⟨List.mem_of_getElem? (i := 22) (by decide +kernel), by decide +kernel⟩, by decide +kernel, by decide +kernel, by decide +kernel⟩
theorem zy_X2_isNear : zz_YV yX2_isNear (.code yX2_isNear cX2_isNear 4 (some .boolean)) 3 := ⟨⟨List.mem_of_getElem? (i := 338) (by decide +kernel), by decide +kernel⟩, ⟨List.mem_of_getElem? (i := 3) (by decide +kernel), by decide +kernel⟩, ⟨List.mem_of_getElem? (i := 339) (by decide +kernel), by decide +kernel⟩, ⟨List.mem_of_getElem? (i := 25) (by decide +kernel), by decide +kernel⟩, by decide +kernel, by decide +kernel, by decide +kernel⟩
theorem zy_J6_bitCount_0f7a4 : zz_YS yJ6_bitCount_0f7a4 (.code yJ6_bitCount_0f7a4 cJ6_bitCount_0f7a4 1 (some .int)) 1 := ⟨⟨List.mem_of_getElem? (i := 348) (by decide +kernel), by decide +kernel⟩, ⟨List.mem_of_getElem? (i := 349) (by decide +kernel), by decide +kernel⟩, ⟨List.mem_of_getElem? (i := 37) (by decide +kernel), by decide +kernel⟩, by decide +kernel, by decide +kernel, by decide +kernel⟩
theorem zy_X5_crossings : zz_YV yX5_crossings (.code yX5_crossings cX5_crossings 5 (some .int)) 4 := ⟨⟨List.mem_of_getElem? (i := 344) (by decide +kernel), by decide +kernel⟩, ⟨List.mem_of_getElem? (i := 345) (by decide +kernel), by decide +kernel⟩, ⟨List.mem_of_getElem? (i := 346) (by decide +kernel), by decide +kernel⟩, ⟨List.mem_of_getElem? (i := 23) (by decide +kernel), by decide +kernel⟩, by decide +kernel, by decide +kernel, by decide +kernel⟩
theorem zy_X5_everyNameOf : zz_YV yX5_everyNameOf (.code yX5_everyNameOf cX5_everyNameOf 2 (some .int)) 1 := ⟨⟨List.mem_of_getElem? (i := 354) (by decide +kernel), by decide +kernel⟩, ⟨List.mem_of_getElem? (i := 355) (by decide +kernel), by decide +kernel⟩, ⟨List.mem_of_getElem? (i := 356) (by decide +kernel), by decide +kernel⟩, ⟨List.mem_of_getElem? (i := 23) (by decide +kernel), by decide +kernel⟩, by decide +kernel, by decide +kernel, by decide +kernel⟩
theorem zy_X2_shareOf : zz_YS yX2_shareOf (.code yX2_shareOf cX2_shareOf 4 (some .int)) 3 := ⟨⟨List.mem_of_getElem? (i := 358) (by decide +kernel), by decide +kernel⟩, ⟨List.mem_of_getElem? (i := 359) (by decide +kernel), by decide +kernel⟩, ⟨List.mem_of_getElem? (i := 25) (by decide +kernel), by decide +kernel⟩, by decide +kernel, by decide +kernel, by decide +kernel⟩
theorem zy_X2_pointsBy : zz_YV yX2_pointsBy (.code yX2_pointsBy cX2_pointsBy 5 (some .int)) 4 := ⟨⟨List.mem_of_getElem? (i := 333) (by decide +kernel), by decide +kernel⟩, ⟨List.mem_of_getElem? (i := 334) (by decide +kernel), by decide +kernel⟩, ⟨List.mem_of_getElem? (i := 335) (by decide +kernel), by decide +kernel⟩, ⟨List.mem_of_getElem? (i := 25) (by decide +kernel), by decide +kernel⟩, by decide +kernel, by decide +kernel, by decide +kernel⟩
theorem zy_X2_sumOfPoints : zz_YV yX2_sumOfPoints (.code yX2_sumOfPoints cX2_sumOfPoints 6 (some .int)) 3 := ⟨⟨List.mem_of_getElem? (i := 329) (by decide +kernel), by decide +kernel⟩, ⟨List.mem_of_getElem? (i := 330) (by decide +kernel), by decide +kernel⟩, ⟨List.mem_of_getElem? (i := 331) (by decide +kernel), by decide +kernel⟩, ⟨List.mem_of_getElem? (i := 25) (by decide +kernel), by decide +kernel⟩, by decide +kernel, by decide +kernel, by decide +kernel⟩
theorem zy_X3_weighAll : zz_YV yX3_weighAll (.code yX3_weighAll cX3_weighAll 6 none) 2 := ⟨⟨List.mem_of_getElem? (i := 325) (by decide +kernel), by decide +kernel⟩, ⟨List.mem_of_getElem? (i := 326) (by decide +kernel), by decide +kernel⟩, ⟨List.mem_of_getElem? (i := 327) (by decide +kernel), by decide +kernel⟩, ⟨List.mem_of_getElem? (i := 27) (by decide +kernel), by decide +kernel⟩, by decide +kernel, by decide +kernel, by decide +kernel⟩
theorem zy_X3_joinWhatMust : zz_YV yX3_joinWhatMust (.code yX3_joinWhatMust cX3_joinWhatMust 6 none) 2 := ⟨⟨List.mem_of_getElem? (i := 367) (by decide +kernel), by decide +kernel⟩, ⟨List.mem_of_getElem? (i := 4) (by decide +kernel), by decide +kernel⟩, ⟨List.mem_of_getElem? (i := 368) (by decide +kernel), by decide +kernel⟩, ⟨List.mem_of_getElem? (i := 27) (by decide +kernel), by decide +kernel⟩, by decide +kernel, by decide +kernel, by decide +kernel⟩
theorem zy_X6_isForbidden : zz_YV yX6_isForbidden (.code yX6_isForbidden cX6_isForbidden 4 (some .boolean)) 2 := ⟨⟨List.mem_of_getElem? (i := 381) (by decide +kernel), by decide +kernel⟩, ⟨List.mem_of_getElem? (i := 382) (by decide +kernel), by decide +kernel⟩, ⟨List.mem_of_getElem? (i := 383) (by decide +kernel), by decide +kernel⟩, ⟨List.mem_of_getElem? (i := 26) (by decide +kernel), by decide +kernel⟩, by decide +kernel, by decide +kernel, by decide +kernel⟩
theorem zy_X3_linkageOf : zz_YV yX3_linkageOf (.code yX3_linkageOf cX3_linkageOf 8 (some .int)) 2 := ⟨⟨List.mem_of_getElem? (i := 385) (by decide +kernel), by decide +kernel⟩, ⟨List.mem_of_getElem? (i := 386) (by decide +kernel), by decide +kernel⟩, ⟨List.mem_of_getElem? (i := 387) (by decide +kernel), by decide +kernel⟩, ⟨List.mem_of_getElem? (i := 27) (by decide +kernel), by decide +kernel⟩, by decide +kernel, by decide +kernel, by decide +kernel⟩
theorem zy_X3_join : zz_YV yX3_join (.code yX3_join cX3_join 4 none) 2 := ⟨⟨List.mem_of_getElem? (i := 399) (by decide +kernel), by decide +kernel⟩, ⟨List.mem_of_getElem? (i := 6) (by decide +kernel), by decide +kernel⟩, ⟨List.mem_of_getElem? (i := 400) (by decide +kernel), by decide +kernel⟩, ⟨List.mem_of_getElem? (i := 27) (by decide +kernel), by decide +kernel⟩, by decide +kernel, by decide +kernel, by decide +kernel⟩
theorem zy_X3_joinNearest : zz_YV yX3_joinNearest (.code yX3_joinNearest cX3_joinNearest 8 (some .boolean)) 1 := ⟨⟨List.mem_of_getElem? (i := 378) (by decide +kernel), by decide +kernel⟩, ⟨List.mem_of_getElem? (i := 5) (by decide +kernel), by decide +kernel⟩, ⟨List.mem_of_getElem? (i := 379) (by decide +kernel), by decide +kernel⟩, ⟨List.mem_of_getElem? (i := 27) (by decide +kernel), by decide +kernel⟩, by decide +kernel, by decide +kernel, by decide +kernel⟩
theorem zy_X3_build : zz_YV yX3_build (.code yX3_build cX3_build 5 none) 2 := ⟨⟨List.mem_of_getElem? (i := 362) (by decide +kernel), by decide +kernel⟩, ⟨List.mem_of_getElem? (i := 363) (by decide +kernel), by decide +kernel⟩, ⟨List.mem_of_getElem? (i := 364) (by decide +kernel), by decide +kernel⟩, ⟨List.mem_of_getElem? (i := 27) (by decide +kernel), by decide +kernel⟩, by decide +kernel, by decide +kernel, by decide +kernel⟩
theorem zy_X5_isNeeded : zz_YV yX5_isNeeded (.code yX5_isNeeded cX5_isNeeded 7 (some .boolean)) 3 := ⟨⟨List.mem_of_getElem? (i := 415) (by decide +kernel), by decide +kernel⟩, ⟨List.mem_of_getElem? (i := 416) (by decide +kernel), by decide +kernel⟩, ⟨List.mem_of_getElem? (i := 417) (by decide +kernel), by decide +kernel⟩, ⟨List.mem_of_getElem? (i := 23) (by decide +kernel), by decide +kernel⟩, by decide +kernel, by decide +kernel, by decide +kernel⟩
theorem zy_X5_neededBy : zz_YV yX5_neededBy (.code yX5_neededBy cX5_neededBy 6 (some .int)) 2 := ⟨⟨List.mem_of_getElem? (i := 410) (by decide +kernel), by decide +kernel⟩, ⟨List.mem_of_getElem? (i := 411) (by decide +kernel), by decide +kernel⟩, ⟨List.mem_of_getElem? (i := 412) (by decide +kernel), by decide +kernel⟩, ⟨List.mem_of_getElem? (i := 23) (by decide +kernel), by decide +kernel⟩, by decide +kernel, by decide +kernel, by decide +kernel⟩
theorem zy_X4_findNeeds : zz_YV yX4_findNeeds (.code yX4_findNeeds cX4_findNeeds 7 none) 3 := ⟨⟨List.mem_of_getElem? (i := 407) (by decide +kernel), by decide +kernel⟩, ⟨List.mem_of_getElem? (i := 7) (by decide +kernel), by decide +kernel⟩, ⟨List.mem_of_getElem? (i := 408) (by decide +kernel), by decide +kernel⟩, ⟨List.mem_of_getElem? (i := 28) (by decide +kernel), by decide +kernel⟩, by decide +kernel, by decide +kernel, by decide +kernel⟩
theorem zy_X4_needByWayOfOthers : zz_YV yX4_needByWayOfOthers (.code yX4_needByWayOfOthers cX4_needByWayOfOthers 4 none) 1 := ⟨⟨List.mem_of_getElem? (i := 420) (by decide +kernel), by decide +kernel⟩, ⟨List.mem_of_getElem? (i := 8) (by decide +kernel), by decide +kernel⟩, ⟨List.mem_of_getElem? (i := 421) (by decide +kernel), by decide +kernel⟩, ⟨List.mem_of_getElem? (i := 28) (by decide +kernel), by decide +kernel⟩, by decide +kernel, by decide +kernel, by decide +kernel⟩
theorem zy_X4_circleOf : zz_YV yX4_circleOf (.code yX4_circleOf cX4_circleOf 5 (some .int)) 2 := ⟨⟨List.mem_of_getElem? (i := 429) (by decide +kernel), by decide +kernel⟩, ⟨List.mem_of_getElem? (i := 10) (by decide +kernel), by decide +kernel⟩, ⟨List.mem_of_getElem? (i := 430) (by decide +kernel), by decide +kernel⟩, ⟨List.mem_of_getElem? (i := 28) (by decide +kernel), by decide +kernel⟩, by decide +kernel, by decide +kernel, by decide +kernel⟩
theorem zy_X4_nextCircle : zz_YV yX4_nextCircle (.code yX4_nextCircle cX4_nextCircle 6 (some .int)) 2 := ⟨⟨List.mem_of_getElem? (i := 425) (by decide +kernel), by decide +kernel⟩, ⟨List.mem_of_getElem? (i := 9) (by decide +kernel), by decide +kernel⟩, ⟨List.mem_of_getElem? (i := 426) (by decide +kernel), by decide +kernel⟩, ⟨List.mem_of_getElem? (i := 28) (by decide +kernel), by decide +kernel⟩, by decide +kernel, by decide +kernel, by decide +kernel⟩
theorem zy_X4_append : zz_YV yX4_append (.code yX4_append cX4_append 4 none) 2 := ⟨⟨List.mem_of_getElem? (i := 433) (by decide +kernel), by decide +kernel⟩, ⟨List.mem_of_getElem? (i := 11) (by decide +kernel), by decide +kernel⟩, ⟨List.mem_of_getElem? (i := 434) (by decide +kernel), by decide +kernel⟩, ⟨List.mem_of_getElem? (i := 28) (by decide +kernel), by decide +kernel⟩, by decide +kernel, by decide +kernel, by decide +kernel⟩
theorem zy_X4_build : zz_YV yX4_build (.code yX4_build cX4_build 7 none) 3 := ⟨⟨List.mem_of_getElem? (i := 402) (by decide +kernel), by decide +kernel⟩, ⟨List.mem_of_getElem? (i := 403) (by decide +kernel), by decide +kernel⟩, ⟨List.mem_of_getElem? (i := 404) (by decide +kernel), by decide +kernel⟩, ⟨List.mem_of_getElem? (i := 28) (by decide +kernel), by decide +kernel⟩, by decide +kernel, by decide +kernel, by decide +kernel⟩
theorem zy_X7_putTogether : zz_YV yX7_putTogether (.code yX7_putTogether cX7_putTogether 1 none) 0 := ⟨⟨List.mem_of_getElem? (i := 322) (by decide +kernel), by decide +kernel⟩, ⟨List.mem_of_getElem? (i := 2) (by decide +kernel), by decide +kernel⟩, ⟨List.mem_of_getElem? (i := 323) (by decide +kernel), by decide +kernel⟩, ⟨List.mem_of_getElem? (i := 22) (by decide +kernel), by decide +kernel⟩, by decide +kernel, by decide +kernel, by decide +kernel⟩
theorem zy_X7_groupCount : zz_YV yX7_groupCount (.code yX7_groupCount cX7_groupCount 1 (some .int)) 0 := ⟨⟨List.mem_of_getElem? (i := 317) (by decide +kernel), by decide +kernel⟩, ⟨List.mem_of_getElem? (i := 318) (by decide +kernel), by decide +kernel⟩, ⟨List.mem_of_getElem? (i := 319) (by decide +kernel), by decide +kernel⟩, ⟨List.mem_of_getElem? (i := 22) (by decide +kernel), by decide +kernel⟩, by decide +kernel, by decide +kernel, by decide +kernel⟩
theorem zy_X7_requireGroup : zz_YV yX7_requireGroup (.code yX7_requireGroup cX7_requireGroup 2 none) 1 := ⟨⟨List.mem_of_getElem? (i := 442) (by decide +kernel), by decide +kernel⟩, ⟨List.mem_of_getElem? (i := 12) (by decide +kernel), by decide +kernel⟩, ⟨List.mem_of_getElem? (i := 443) (by decide +kernel), by decide +kernel⟩, ⟨List.mem_of_getElem? (i := 22) (by decide +kernel), by decide +kernel⟩, by decide +kernel, by decide +kernel, by decide +kernel⟩
theorem zy_X7_group : zz_YV yX7_group (.code yX7_group cX7_group 2 (some .int)) 1 := ⟨⟨List.mem_of_getElem? (i := 437) (by decide +kernel), by decide +kernel⟩, ⟨List.mem_of_getElem? (i := 438) (by decide +kernel), by decide +kernel⟩, ⟨List.mem_of_getElem? (i := 439) (by decide +kernel), by decide +kernel⟩, ⟨List.mem_of_getElem? (i := 22) (by decide +kernel), by decide +kernel⟩, by decide +kernel, by decide +kernel, by decide +kernel⟩
theorem zy_X7_placeOf : zz_YS yX7_placeOf (.code yX7_placeOf cX7_placeOf 4 (some .int)) 3 := ⟨⟨List.mem_of_getElem? (i := 474) (by decide +kernel), by decide +kernel⟩, ⟨List.mem_of_getElem? (i := 475) (by decide +kernel), by decide +kernel⟩, ⟨List.mem_of_getElem? (i := 22) (by decide +kernel), by decide +kernel⟩, by decide +kernel, by decide +kernel, by decide +kernel⟩
theorem zy_X7_groupOf : zz_YV yX7_groupOf (.code yX7_groupOf cX7_groupOf 2 (some .int)) 1 := ⟨⟨List.mem_of_getElem? (i := 461) (by decide +kernel), by decide +kernel⟩, ⟨List.mem_of_getElem? (i := 462) (by decide +kernel), by decide +kernel⟩, ⟨List.mem_of_getElem? (i := 463) (by decide +kernel), by decide +kernel⟩, ⟨List.mem_of_getElem? (i := 22) (by decide +kernel), by decide +kernel⟩, by decide +kernel, by decide +kernel, by decide +kernel⟩
theorem zy_X7_linkage : zz_YV yX7_linkage (.code yX7_linkage cX7_linkage 3 (some .int)) 2 := ⟨⟨List.mem_of_getElem? (i := 478) (by decide +kernel), by decide +kernel⟩, ⟨List.mem_of_getElem? (i := 479) (by decide +kernel), by decide +kernel⟩, ⟨List.mem_of_getElem? (i := 480) (by decide +kernel), by decide +kernel⟩, ⟨List.mem_of_getElem? (i := 22) (by decide +kernel), by decide +kernel⟩, by decide +kernel, by decide +kernel, by decide +kernel⟩
theorem zy_X7_lastLinkage : zz_YV yX7_lastLinkage (.code yX7_lastLinkage cX7_lastLinkage 1 (some .int)) 0 := ⟨⟨List.mem_of_getElem? (i := 484) (by decide +kernel), by decide +kernel⟩, ⟨List.mem_of_getElem? (i := 485) (by decide +kernel), by decide +kernel⟩, ⟨List.mem_of_getElem? (i := 486) (by decide +kernel), by decide +kernel⟩, ⟨List.mem_of_getElem? (i := 22) (by decide +kernel), by decide +kernel⟩, by decide +kernel, by decide +kernel, by decide +kernel⟩
theorem zy_X7_needs : zz_YV yX7_needs (.code yX7_needs cX7_needs 3 (some .boolean)) 2 := ⟨⟨List.mem_of_getElem? (i := 488) (by decide +kernel), by decide +kernel⟩, ⟨List.mem_of_getElem? (i := 489) (by decide +kernel), by decide +kernel⟩, ⟨List.mem_of_getElem? (i := 490) (by decide +kernel), by decide +kernel⟩, ⟨List.mem_of_getElem? (i := 22) (by decide +kernel), by decide +kernel⟩, by decide +kernel, by decide +kernel, by decide +kernel⟩
theorem zy_X7_parcelCount : zz_YV yX7_parcelCount (.code yX7_parcelCount cX7_parcelCount 1 (some .int)) 0 := ⟨⟨List.mem_of_getElem? (i := 497) (by decide +kernel), by decide +kernel⟩, ⟨List.mem_of_getElem? (i := 498) (by decide +kernel), by decide +kernel⟩, ⟨List.mem_of_getElem? (i := 499) (by decide +kernel), by decide +kernel⟩, ⟨List.mem_of_getElem? (i := 22) (by decide +kernel), by decide +kernel⟩, by decide +kernel, by decide +kernel, by decide +kernel⟩
theorem zy_X7_requireParcel : zz_YV yX7_requireParcel (.code yX7_requireParcel cX7_requireParcel 2 none) 1 := ⟨⟨List.mem_of_getElem? (i := 506) (by decide +kernel), by decide +kernel⟩, ⟨List.mem_of_getElem? (i := 14) (by decide +kernel), by decide +kernel⟩, ⟨List.mem_of_getElem? (i := 507) (by decide +kernel), by decide +kernel⟩, ⟨List.mem_of_getElem? (i := 22) (by decide +kernel), by decide +kernel⟩, by decide +kernel, by decide +kernel, by decide +kernel⟩
theorem zy_X7_parcel : zz_YV yX7_parcel (.code yX7_parcel cX7_parcel 2 (some .int)) 1 := ⟨⟨List.mem_of_getElem? (i := 501) (by decide +kernel), by decide +kernel⟩, ⟨List.mem_of_getElem? (i := 502) (by decide +kernel), by decide +kernel⟩, ⟨List.mem_of_getElem? (i := 503) (by decide +kernel), by decide +kernel⟩, ⟨List.mem_of_getElem? (i := 22) (by decide +kernel), by decide +kernel⟩, by decide +kernel, by decide +kernel, by decide +kernel⟩
theorem zy_X7_parcelOf : zz_YV yX7_parcelOf (.code yX7_parcelOf cX7_parcelOf 2 (some .int)) 1 := ⟨⟨List.mem_of_getElem? (i := 510) (by decide +kernel), by decide +kernel⟩, ⟨List.mem_of_getElem? (i := 511) (by decide +kernel), by decide +kernel⟩, ⟨List.mem_of_getElem? (i := 512) (by decide +kernel), by decide +kernel⟩, ⟨List.mem_of_getElem? (i := 22) (by decide +kernel), by decide +kernel⟩, by decide +kernel, by decide +kernel, by decide +kernel⟩
theorem zy_X7_knots : zz_YV yX7_knots (.code yX7_knots cX7_knots 1 (some .int)) 0 := ⟨⟨List.mem_of_getElem? (i := 514) (by decide +kernel), by decide +kernel⟩, ⟨List.mem_of_getElem? (i := 515) (by decide +kernel), by decide +kernel⟩, ⟨List.mem_of_getElem? (i := 516) (by decide +kernel), by decide +kernel⟩, ⟨List.mem_of_getElem? (i := 22) (by decide +kernel), by decide +kernel⟩, by decide +kernel, by decide +kernel, by decide +kernel⟩
theorem zy_X5_linesOf : zz_YV yX5_linesOf (.code yX5_linesOf cX5_linesOf 4 (some .int)) 1 := ⟨⟨List.mem_of_getElem? (i := 522) (by decide +kernel), by decide +kernel⟩, ⟨List.mem_of_getElem? (i := 523) (by decide +kernel), by decide +kernel⟩, ⟨List.mem_of_getElem? (i := 524) (by decide +kernel), by decide +kernel⟩, ⟨List.mem_of_getElem? (i := 23) (by decide +kernel), by decide +kernel⟩, by decide +kernel, by decide +kernel, by decide +kernel⟩
theorem zy_X7_lines : zz_YV yX7_lines (.code yX7_lines cX7_lines 2 (some .int)) 1 := ⟨⟨List.mem_of_getElem? (i := 518) (by decide +kernel), by decide +kernel⟩, ⟨List.mem_of_getElem? (i := 519) (by decide +kernel), by decide +kernel⟩, ⟨List.mem_of_getElem? (i := 520) (by decide +kernel), by decide +kernel⟩, ⟨List.mem_of_getElem? (i := 22) (by decide +kernel), by decide +kernel⟩, by decide +kernel, by decide +kernel, by decide +kernel⟩
theorem zy_X5_all : zz_YV yX5_all (.code yX5_all cX5_all 1 (some .int)) 0 := ⟨⟨List.mem_of_getElem? (i := 530) (by decide +kernel), by decide +kernel⟩, ⟨List.mem_of_getElem? (i := 531) (by decide +kernel), by decide +kernel⟩, ⟨List.mem_of_getElem? (i := 532) (by decide +kernel), by decide +kernel⟩, ⟨List.mem_of_getElem? (i := 23) (by decide +kernel), by decide +kernel⟩, by decide +kernel, by decide +kernel, by decide +kernel⟩
theorem zy_X1_brokenBy : zz_YV yX1_brokenBy (.code yX1_brokenBy cX1_brokenBy 7 (some .int)) 2 := ⟨⟨List.mem_of_getElem? (i := 535) (by decide +kernel), by decide +kernel⟩, ⟨List.mem_of_getElem? (i := 536) (by decide +kernel), by decide +kernel⟩, ⟨List.mem_of_getElem? (i := 537) (by decide +kernel), by decide +kernel⟩, ⟨List.mem_of_getElem? (i := 24) (by decide +kernel), by decide +kernel⟩, by decide +kernel, by decide +kernel, by decide +kernel⟩
theorem zy_X7_broken : zz_YV yX7_broken (.code yX7_broken cX7_broken 2 (some .int)) 1 := ⟨⟨List.mem_of_getElem? (i := 526) (by decide +kernel), by decide +kernel⟩, ⟨List.mem_of_getElem? (i := 527) (by decide +kernel), by decide +kernel⟩, ⟨List.mem_of_getElem? (i := 528) (by decide +kernel), by decide +kernel⟩, ⟨List.mem_of_getElem? (i := 22) (by decide +kernel), by decide +kernel⟩, by decide +kernel, by decide +kernel, by decide +kernel⟩
theorem zy_X7_breakageInOrder : zz_YV yX7_breakageInOrder (.code yX7_breakageInOrder cX7_breakageInOrder 4 (some .int)) 0 := ⟨⟨List.mem_of_getElem? (i := 545) (by decide +kernel), by decide +kernel⟩, ⟨List.mem_of_getElem? (i := 15) (by decide +kernel), by decide +kernel⟩, ⟨List.mem_of_getElem? (i := 546) (by decide +kernel), by decide +kernel⟩, ⟨List.mem_of_getElem? (i := 22) (by decide +kernel), by decide +kernel⟩, by decide +kernel, by decide +kernel, by decide +kernel⟩
theorem zy_X7_breakage : zz_YV yX7_breakage (.code yX7_breakage cX7_breakage 1 (some .int)) 0 := ⟨⟨List.mem_of_getElem? (i := 540) (by decide +kernel), by decide +kernel⟩, ⟨List.mem_of_getElem? (i := 541) (by decide +kernel), by decide +kernel⟩, ⟨List.mem_of_getElem? (i := 542) (by decide +kernel), by decide +kernel⟩, ⟨List.mem_of_getElem? (i := 22) (by decide +kernel), by decide +kernel⟩, by decide +kernel, by decide +kernel, by decide +kernel⟩
theorem zy_X0_nextAfter : zz_YV yX0_nextAfter (.code yX0_nextAfter cX0_nextAfter 5 (some .int)) 1 := ⟨⟨List.mem_of_getElem? (i := 579) (by decide +kernel), by decide +kernel⟩, ⟨List.mem_of_getElem? (i := 17) (by decide +kernel), by decide +kernel⟩, ⟨List.mem_of_getElem? (i := 580) (by decide +kernel), by decide +kernel⟩, ⟨List.mem_of_getElem? (i := 29) (by decide +kernel), by decide +kernel⟩, by decide +kernel, by decide +kernel, by decide +kernel⟩
theorem zy_X4_piecesIn : zz_YV yX4_piecesIn (.code yX4_piecesIn cX4_piecesIn 4 (some .int)) 1 := ⟨⟨List.mem_of_getElem? (i := 584) (by decide +kernel), by decide +kernel⟩, ⟨List.mem_of_getElem? (i := 585) (by decide +kernel), by decide +kernel⟩, ⟨List.mem_of_getElem? (i := 586) (by decide +kernel), by decide +kernel⟩, ⟨List.mem_of_getElem? (i := 28) (by decide +kernel), by decide +kernel⟩, by decide +kernel, by decide +kernel, by decide +kernel⟩
theorem zy_X0_walk : zz_YV yX0_walk (.code yX0_walk cX0_walk 4 none) 0 := ⟨⟨List.mem_of_getElem? (i := 591) (by decide +kernel), by decide +kernel⟩, ⟨List.mem_of_getElem? (i := 18) (by decide +kernel), by decide +kernel⟩, ⟨List.mem_of_getElem? (i := 592) (by decide +kernel), by decide +kernel⟩, ⟨List.mem_of_getElem? (i := 29) (by decide +kernel), by decide +kernel⟩, by decide +kernel, by decide +kernel, by decide +kernel⟩
theorem zy_X0_find : zz_YV yX0_find (.code yX0_find cX0_find 8 none) 3 := ⟨⟨List.mem_of_getElem? (i := 573) (by decide +kernel), by decide +kernel⟩, ⟨List.mem_of_getElem? (i := 574) (by decide +kernel), by decide +kernel⟩, ⟨List.mem_of_getElem? (i := 575) (by decide +kernel), by decide +kernel⟩, ⟨List.mem_of_getElem? (i := 29) (by decide +kernel), by decide +kernel⟩, by decide +kernel, by decide +kernel, by decide +kernel⟩
theorem zy_X7_findBest : zz_YV yX7_findBest (.code yX7_findBest cX7_findBest 1 none) 0 := ⟨⟨List.mem_of_getElem? (i := 554) (by decide +kernel), by decide +kernel⟩, ⟨List.mem_of_getElem? (i := 16) (by decide +kernel), by decide +kernel⟩, ⟨List.mem_of_getElem? (i := 555) (by decide +kernel), by decide +kernel⟩, ⟨List.mem_of_getElem? (i := 22) (by decide +kernel), by decide +kernel⟩, by decide +kernel, by decide +kernel, by decide +kernel⟩
theorem zy_X7_leastBreakage : zz_YV yX7_leastBreakage (.code yX7_leastBreakage cX7_leastBreakage 1 (some .int)) 0 := ⟨⟨List.mem_of_getElem? (i := 549) (by decide +kernel), by decide +kernel⟩, ⟨List.mem_of_getElem? (i := 550) (by decide +kernel), by decide +kernel⟩, ⟨List.mem_of_getElem? (i := 551) (by decide +kernel), by decide +kernel⟩, ⟨List.mem_of_getElem? (i := 22) (by decide +kernel), by decide +kernel⟩, by decide +kernel, by decide +kernel, by decide +kernel⟩
theorem zy_X7_best : zz_YV yX7_best (.code yX7_best cX7_best 2 (some .int)) 1 := ⟨⟨List.mem_of_getElem? (i := 594) (by decide +kernel), by decide +kernel⟩, ⟨List.mem_of_getElem? (i := 595) (by decide +kernel), by decide +kernel⟩, ⟨List.mem_of_getElem? (i := 596) (by decide +kernel), by decide +kernel⟩, ⟨List.mem_of_getElem? (i := 22) (by decide +kernel), by decide +kernel⟩, by decide +kernel, by decide +kernel, by decide +kernel⟩
theorem zy_J6_numberOfTrailingZeros_0f7a4 : zz_YS yJ6_numberOfTrailingZeros_0f7a4 (.code yJ6_numberOfTrailingZeros_0f7a4 cJ6_numberOfTrailingZeros_0f7a4 2 (some .int)) 1 := ⟨⟨List.mem_of_getElem? (i := 682) (by decide +kernel), by decide +kernel⟩, ⟨List.mem_of_getElem? (i := 683) (by decide +kernel), by decide +kernel⟩, ⟨List.mem_of_getElem? (i := 37) (by decide +kernel), by decide +kernel⟩, by decide +kernel, by decide +kernel, by decide +kernel⟩
theorem zt_0 : zz_thr RX7 62 66 "java/lang/IllegalArgumentException" := ⟨by decide +kernel, by decide +kernel, zw_129, ⟨List.mem_of_getElem? (i := 33) (by decide +kernel), by decide +kernel⟩, by decide +kernel⟩
theorem zt_1 : zz_thr RX7 75 79 "java/lang/IllegalStateException" := ⟨by decide +kernel, by decide +kernel, zw_130, ⟨List.mem_of_getElem? (i := 34) (by decide +kernel), by decide +kernel⟩, by decide +kernel⟩
theorem zt_2 : zz_thr RX7 102 106 "java/lang/IndexOutOfBoundsException" := ⟨by decide +kernel, by decide +kernel, zw_131, ⟨List.mem_of_getElem? (i := 35) (by decide +kernel), by decide +kernel⟩, by decide +kernel⟩
theorem zm_abs_1 : zz_g (.static Lib.Math.abs.name) := ⟨List.mem_of_getElem? (i := 341) (by decide +kernel), by decide +kernel⟩
theorem zm_abs_2 : zz_g (.initialized "java/lang/Math") := ⟨List.mem_of_getElem? (i := 36) (by decide +kernel), by decide +kernel⟩
theorem zm_abs_3 : zz_g (.code Lib.Math.abs.name Lib.Math.abs.code 1 (some .int)) := ⟨List.mem_of_getElem? (i := 342) (by decide +kernel), by decide +kernel⟩
theorem zm_max_1 : zz_g (.static Lib.Math.max.name) := ⟨List.mem_of_getElem? (i := 391) (by decide +kernel), by decide +kernel⟩
theorem zm_max_2 : zz_g (.initialized "java/lang/Math") := ⟨List.mem_of_getElem? (i := 36) (by decide +kernel), by decide +kernel⟩
theorem zm_max_3 : zz_g (.code Lib.Math.max.name Lib.Math.max.code 2 (some .int)) := ⟨List.mem_of_getElem? (i := 392) (by decide +kernel), by decide +kernel⟩
theorem zm_min_1 : zz_g (.static Lib.Math.min.name) := ⟨List.mem_of_getElem? (i := 394) (by decide +kernel), by decide +kernel⟩
theorem zm_min_2 : zz_g (.initialized "java/lang/Math") := ⟨List.mem_of_getElem? (i := 36) (by decide +kernel), by decide +kernel⟩
theorem zm_min_3 : zz_g (.code Lib.Math.min.name Lib.Math.min.code 2 (some .int)) := ⟨List.mem_of_getElem? (i := 395) (by decide +kernel), by decide +kernel⟩
end
section
/-! the functions of the classes, as their text has them (by program) -/
def fX7_isUpTo (σ : zz_St) (number_ : Int32) (greatest_ : Int32) : Option Int32 :=
  (if number_ < 0 then
    some false
  else
    if greatest_ < number_ then
      some false
    else
      some true).bind fun b1 =>
  some (zz_bi b1)

def fX7_forgetResults (σ : zz_St) : Option zz_St :=
  some (zz_u (zz_u σ 0 7 (0 : Int32)) 0 8 (0 : Int32))

def fX5_append (σ : zz_St) (file_ : Int32) (line_ : Int32) (linesAdded_ : Int32) (linesTaken_ : Int32) : Option (Int32 × zz_St) :=
  if (σ 1 0) < (14 : Int32) then
    (zz_pa σ 2 14 (σ 1 0) file_).bind fun σ2 =>
    (zz_pa σ2 3 14 (σ 1 0) line_).bind fun σ4 =>
    (zz_pa σ4 4 14 (σ 1 0) linesAdded_).bind fun σ6 =>
    (zz_pa σ6 5 14 (σ 1 0) linesTaken_).bind fun σ8 =>
    (zz_pa σ8 6 14 (σ 1 0) (0 : Int32)).bind fun σ10 =>
    some ((σ 1 0), (zz_u σ10 1 0 ((σ 1 0) + (1 : Int32))))
  else
    some ((-1 : Int32), σ)

def fX7_addPiece (σ : zz_St) (file_ : Int32) (line_ : Int32) (added_ : Int32) (taken_ : Int32) : Option ((Int32 ⊕ String) × zz_St) :=
  ((fX7_isUpTo σ file_ (9 : Int32)).bind fun x6 =>
  if x6 = 0 then
    some true
  else
    (fX7_isUpTo σ line_ (9999 : Int32)).bind fun x9 =>
    if x9 = 0 then
      some true
    else
      some false).bind fun b1 =>
  if b1 = true then
    some ((.inr "java/lang/IllegalArgumentException"), σ)
  else
    ((fX7_isUpTo σ added_ (999 : Int32)).bind fun x17 =>
    if x17 = 0 then
      some true
    else
      (fX7_isUpTo σ taken_ (999 : Int32)).bind fun x20 =>
      if x20 = 0 then
        some true
      else
        some false).bind fun b12 =>
    if b12 = true then
      some ((.inr "java/lang/IllegalArgumentException"), σ)
    else
      if (σ 1 0) < (14 : Int32) then
        (fX7_forgetResults σ).bind fun x24 =>
        (fX5_append x24 file_ line_ added_ taken_).bind fun x26 =>
        some ((.inl x26.1), x26.2)
      else
        some ((.inr "java/lang/IllegalStateException"), σ)

def fX5_has (σ : zz_St) (piece_ : Int32) : Option Int32 :=
  (if piece_ < 0 then
    some false
  else
    if (σ 1 0) ≤ piece_ then
      some false
    else
      some true).bind fun b1 =>
  some (zz_bi b1)

def fX7_requirePiece (σ : zz_St) (piece_ : Int32) : Option (Unit ⊕ String) :=
  (fX5_has σ piece_).bind fun x1 =>
  if x1 = 0 then
    some (.inr "java/lang/IndexOutOfBoundsException")
  else
    some (.inl ())

def fX7_requireSet (σ : zz_St) (piece_ : Int32) (what_ : Int32) : Option (Unit ⊕ String) :=
  (fX7_requirePiece σ piece_).bind fun x1 =>
  match x1 with
  | .inl x1 =>
    (if what_ < 0 then
      some true
    else
      if what_ < (4 : Int32) then
        some false
      else
        some true).bind fun b4 =>
    if b4 = true then
      some (.inr "java/lang/IndexOutOfBoundsException")
    else
      some (.inl ())
  | .inr E3 =>
    some (.inr E3)

def fX5_replaceNames_L1 (piece_ : Int32) (what_ : Int32) (names_ : Int32) (before_ : Int32) : Nat → Int32 → zz_St → Option (Int32 × zz_St)
  | 0, _, _ => none
  | n + 1, name_, σ =>
    if (16 : Int32) ≤ name_ then
      some (name_, σ)
    else
      (zz_ix 4 what_).bind fun x10 =>
      (zz_ga (σ (13 + x10)) 16 name_).bind fun x12 =>
      (some (x12 &&& (((1 : Int32) <<< (piece_ &&& 31)) ^^^ (-1 : Int32)))).bind fun x14 =>
      (zz_ix 4 what_).bind fun x16 =>
      (zz_pa σ (13 + x16) 16 name_ (x14 ||| (((names_ >>> (name_ &&& 31)) &&& (1 : Int32)) <<< (piece_ &&& 31)))).bind fun σ18 =>
      fX5_replaceNames_L1 piece_ what_ names_ before_ n (name_ + (1 : Int32)) σ18

def fX5_replaceNames (σ : zz_St) (piece_ : Int32) (what_ : Int32) (names_ : Int32) : Option (Int32 × zz_St) :=
  (zz_ix 4 what_).bind fun x1 =>
  (zz_ga (σ (8 + x1)) 14 piece_).bind fun x3 =>
  (zz_ix 4 what_).bind fun x5 =>
  (zz_pa σ (8 + x5) 14 piece_ names_).bind fun σ7 =>
  (fX5_replaceNames_L1 piece_ what_ names_ x3 1000 (0 : Int32) σ7).bind fun q20 =>
  some (x3, q20.2)

def fX7_setNames (σ : zz_St) (piece_ : Int32) (what_ : Int32) (names_ : Int32) : Option ((Int32 ⊕ String) × zz_St) :=
  (fX7_requireSet σ piece_ what_).bind fun x1 =>
  match x1 with
  | .inl x1 =>
    (fX7_isUpTo σ names_ (65535 : Int32)).bind fun x4 =>
    if x4 = 0 then
      some ((.inr "java/lang/IllegalArgumentException"), σ)
    else
      (fX7_forgetResults σ).bind fun x7 =>
      (fX5_replaceNames x7 piece_ what_ names_).bind fun x9 =>
      some ((.inl x9.1), x9.2)
  | .inr E3 =>
    some ((.inr E3), σ)

def fX7_isIn (σ : zz_St) (element_ : Int32) (set_ : Int32) : Option Int32 :=
  (if ((set_ >>> (element_ &&& 31)) &&& (1 : Int32)) = (1 : Int32) then
    some true
  else
    some false).bind fun b1 =>
  some (zz_bi b1)

def fX1_learn (σ : zz_St) (name_ : Int32) (isDefined_ : Int32) (uses_ : Int32) : Option (Int32 × zz_St) :=
  ((fX7_isIn σ name_ (σ 17 0)).bind fun x4 =>
  if isDefined_ = x4 then
    (zz_ga (σ 18) 16 name_).bind fun x7 =>
    if uses_ = x7 then
      some false
    else
      some true
  else
    some true).bind fun b1 =>
  (some (zz_bi b1)).bind fun x10 =>
  (if isDefined_ = 0 then
    some ((σ 17 0) &&& (((1 : Int32) <<< (name_ &&& 31)) ^^^ (-1 : Int32)))
  else
    some ((σ 17 0) ||| ((1 : Int32) <<< (name_ &&& 31)))).bind fun x12 =>
  (zz_pa (zz_u σ 17 0 x12) 18 16 name_ uses_).bind fun σ16 =>
  (zz_bo x10).bind fun x18 =>
  some (x18, σ16)

def fX7_setName (σ : zz_St) (name_ : Int32) (isDefined_ : Int32) (uses_ : Int32) : Option ((Int32 ⊕ String) × zz_St) :=
  (if name_ < 0 then
    some true
  else
    if name_ < (16 : Int32) then
      some false
    else
      some true).bind fun b1 =>
  if b1 = true then
    some ((.inr "java/lang/IndexOutOfBoundsException"), σ)
  else
    (fX7_isUpTo σ uses_ (9 : Int32)).bind fun x8 =>
    if x8 = 0 then
      some ((.inr "java/lang/IllegalArgumentException"), σ)
    else
      (fX7_forgetResults σ).bind fun x11 =>
      (fX1_learn x11 name_ isDefined_ uses_).bind fun x13 =>
      (zz_bo x13.1).bind fun x15 =>
      some ((.inl x15), x13.2)

def fX7_pieceCount (σ : zz_St) : Option Int32 :=
  some (σ 1 0)

def fX7_setThreshold (σ : zz_St) (threshold_ : Int32) : Option ((Int32 ⊕ String) × zz_St) :=
  (if threshold_ < (1 : Int32) then
    some true
  else
    if threshold_ ≤ (999 : Int32) then
      some false
    else
      some true).bind fun b1 =>
  if b1 = true then
    some ((.inr "java/lang/IllegalArgumentException"), σ)
  else
    (fX7_forgetResults σ).bind fun x8 =>
    (some (x8 24 0)).bind fun x10 =>
    some ((.inl x10), (zz_u x8 24 0 threshold_))

def fX7_setManner (σ : zz_St) (manner_ : Int32) : Option ((Int32 ⊕ String) × zz_St) :=
  (fX7_isUpTo σ manner_ (2 : Int32)).bind fun x1 =>
  if x1 = 0 then
    some ((.inr "java/lang/IllegalArgumentException"), σ)
  else
    (fX7_forgetResults σ).bind fun x4 =>
    (some (x4 24 1)).bind fun x6 =>
    some ((.inl x6), (zz_u x4 24 1 manner_))

def fX7_requireDifferent (σ : zz_St) (a_ : Int32) (b_ : Int32) : Option (Unit ⊕ String) :=
  if a_ = b_ then
    some (.inr "java/lang/IllegalArgumentException")
  else
    some (.inl ())

def fX6_saidOf (σ : zz_St) (a_ : Int32) (b_ : Int32) : Option Int32 :=
  (zz_ga (σ 22) 14 a_).bind fun x1 =>
  (fX7_isIn σ b_ x1).bind fun x3 =>
  if x3 = 0 then
    ((zz_ga (σ 23) 14 a_).bind fun x9 =>
    (fX7_isIn σ b_ x9).bind fun x11 =>
    if x11 = 0 then
      some (0 : Int32)
    else
      some (2 : Int32)).bind fun x6 =>
    some x6
  else
    some (1 : Int32)

def fX6_putOneWay (σ : zz_St) (from_ : Int32) (to_ : Int32) (what_ : Int32) : Option zz_St :=
  (some (((1 : Int32) <<< (to_ &&& 31)) ^^^ (-1 : Int32))).bind fun x1 =>
  (zz_ga (σ 22) 14 from_).bind fun x3 =>
  (if what_ = (1 : Int32) then
    some ((1 : Int32) <<< (to_ &&& 31))
  else
    some (0 : Int32)).bind fun x5 =>
  (zz_pa σ 22 14 from_ ((x3 &&& x1) ||| x5)).bind fun σ9 =>
  (zz_ga (σ9 23) 14 from_).bind fun x11 =>
  (if what_ = (2 : Int32) then
    some ((1 : Int32) <<< (to_ &&& 31))
  else
    some (0 : Int32)).bind fun x13 =>
  (zz_pa σ9 23 14 from_ ((x11 &&& x1) ||| x13)).bind fun σ17 =>
  some σ17

def fX6_put (σ : zz_St) (a_ : Int32) (b_ : Int32) (what_ : Int32) : Option zz_St :=
  (fX6_putOneWay σ a_ b_ what_).bind fun x1 =>
  (fX6_putOneWay x1 b_ a_ what_).bind fun x3 =>
  some x3

def fX6_joinedTo_L2 (σ : zz_St) (piece_ : Int32) (before_ : Int32) (round_ : Int32) : Nat → Int32 → Int32 → Option (Int32 × Int32)
  | 0, _, _ => none
  | n + 1, joined_, other_ =>
    if (14 : Int32) ≤ other_ then
      some (joined_, other_)
    else
      ((fX7_isIn σ other_ joined_).bind fun x14 =>
      if x14 = 0 then
        some (0 : Int32)
      else
        (zz_ga (σ 22) 14 other_).bind fun x17 =>
        some x17).bind fun x11 =>
      (some (joined_ ||| x11)).bind fun x19 =>
      fX6_joinedTo_L2 σ piece_ before_ round_ n x19 (other_ + (1 : Int32))

def fX6_joinedTo_L1 (σ : zz_St) (piece_ : Int32) : Nat → Int32 → Int32 → Int32 → Option (Int32 × Int32 × Int32)
  | 0, _, _, _ => none
  | n + 1, joined_, before_, round_ =>
    (if (14 : Int32) ≤ round_ then
      some false
    else
      if joined_ = before_ then
        some false
      else
        some true).bind fun b3 =>
    if b3 = true then
      (fX6_joinedTo_L2 σ piece_ joined_ round_ 1000 joined_ (0 : Int32)).bind fun q21 =>
      fX6_joinedTo_L1 σ piece_ n q21.1 joined_ (round_ + (1 : Int32))
    else
      some (joined_, before_, round_)

def fX6_joinedTo (σ : zz_St) (piece_ : Int32) : Option Int32 :=
  (some ((1 : Int32) <<< (piece_ &&& 31))).bind fun x1 =>
  (fX6_joinedTo_L1 σ piece_ 1000 x1 (0 : Int32) (0 : Int32)).bind fun q23 =>
  some q23.1

def fX6_isContradiction_L1 (σ : zz_St) : Nat → Int32 → Option (Int32 ⊕ (Int32))
  | 0, _ => none
  | n + 1, piece_ =>
    if (14 : Int32) ≤ piece_ then
      some (.inr piece_)
    else
      ((zz_ga (σ 23) 14 piece_).bind fun x7 =>
      if x7 = 0 then
        some false
      else
        (fX6_joinedTo σ piece_).bind fun x10 =>
        (zz_ga (σ 23) 14 piece_).bind fun x12 =>
        if (x10 &&& x12) = 0 then
          some false
        else
          some true).bind fun b2 =>
      if b2 = true then
        some (.inl (1 : Int32))
      else
        fX6_isContradiction_L1 σ n (piece_ + (1 : Int32))

def fX6_isContradiction (σ : zz_St) : Option Int32 :=
  (fX6_isContradiction_L1 σ 1000 (0 : Int32)).bind fun q15 =>
  match q15 with
  | .inl v17 =>
    (zz_bo v17).bind fun x20 =>
    some x20
  | .inr w18 =>
    some (0 : Int32)

def fX7_say (σ : zz_St) (a_ : Int32) (b_ : Int32) (what_ : Int32) : Option ((Int32 ⊕ String) × zz_St) :=
  (fX7_requirePiece σ a_).bind fun x1 =>
  match x1 with
  | .inl x1 =>
    (fX7_requirePiece σ b_).bind fun x4 =>
    match x4 with
    | .inl x4 =>
      (fX7_requireDifferent σ a_ b_).bind fun x7 =>
      match x7 with
      | .inl x7 =>
        (fX7_isUpTo σ what_ (2 : Int32)).bind fun x10 =>
        if x10 = 0 then
          some ((.inr "java/lang/IllegalArgumentException"), σ)
        else
          (fX6_saidOf σ a_ b_).bind fun x13 =>
          (fX6_put σ a_ b_ what_).bind fun x15 =>
          (fX6_isContradiction x15).bind fun x17 =>
          if x17 = 0 then
            (fX7_forgetResults x15).bind fun x20 =>
            some ((.inl x13), x20)
          else
            (fX6_put x15 a_ b_ x13).bind fun x22 =>
            some ((.inr "java/lang/IllegalStateException"), x22)
      | .inr E9 =>
        some ((.inr E9), σ)
    | .inr E6 =>
      some ((.inr E6), σ)
  | .inr E3 =>
    some ((.inr E3), σ)

def fX2_isNear (σ : zz_St) (a_ : Int32) (b_ : Int32) : Option Int32 :=
  ((zz_ga (σ 2) 14 a_).bind fun x4 =>
  (zz_ga (σ 2) 14 b_).bind fun x6 =>
  if x4 = x6 then
    (zz_ga (σ 3) 14 a_).bind fun x9 =>
    (zz_ga (σ 3) 14 b_).bind fun x11 =>
    if (σ 19 1) < (zz_abs (x9 - x11)) then
      some false
    else
      some true
  else
    some false).bind fun b1 =>
  some (zz_bi b1)

def fJ6_bitCount (i_ : Int32) : Option Int32 :=
  (some (i_ - ((zz_ushr i_ (1 : Int32)) &&& (1431655765 : Int32)))).bind fun x1 =>
  (some ((x1 &&& (858993459 : Int32)) + ((zz_ushr x1 (2 : Int32)) &&& (858993459 : Int32)))).bind fun x3 =>
  (some ((x3 + (zz_ushr x3 (4 : Int32))) &&& (252645135 : Int32))).bind fun x5 =>
  (some (x5 + (zz_ushr x5 (8 : Int32)))).bind fun x7 =>
  (some (x7 + (zz_ushr x7 (16 : Int32)))).bind fun x9 =>
  some (x9 &&& (63 : Int32))

def fX5_crossings (σ : zz_St) (a_ : Int32) (b_ : Int32) (what_ : Int32) (opposite_ : Int32) : Option Int32 :=
  (zz_ix 4 what_).bind fun x1 =>
  (zz_ga (σ (8 + x1)) 14 a_).bind fun x3 =>
  (zz_ix 4 opposite_).bind fun x5 =>
  (zz_ga (σ (8 + x5)) 14 b_).bind fun x7 =>
  (fJ6_bitCount (x3 &&& x7)).bind fun x9 =>
  (zz_ix 4 what_).bind fun x11 =>
  (zz_ga (σ (8 + x11)) 14 b_).bind fun x13 =>
  (zz_ix 4 opposite_).bind fun x15 =>
  (zz_ga (σ (8 + x15)) 14 a_).bind fun x17 =>
  (fJ6_bitCount (x13 &&& x17)).bind fun x19 =>
  some (x9 + x19)

def fX5_everyNameOf (σ : zz_St) (piece_ : Int32) : Option Int32 :=
  (zz_ix 4 (0 : Int32)).bind fun x1 =>
  (zz_ga (σ (8 + x1)) 14 piece_).bind fun x3 =>
  (zz_ix 4 (1 : Int32)).bind fun x5 =>
  (zz_ga (σ (8 + x5)) 14 piece_).bind fun x7 =>
  (zz_ix 4 (2 : Int32)).bind fun x9 =>
  (zz_ga (σ (8 + x9)) 14 piece_).bind fun x11 =>
  (zz_ix 4 (3 : Int32)).bind fun x13 =>
  (zz_ga (σ (8 + x13)) 14 piece_).bind fun x15 =>
  some (((x3 ||| x7) ||| x11) ||| x15)

def fX2_shareOf (σ : zz_St) (weight_ : Int32) (namesOfOne_ : Int32) (namesOfOther_ : Int32) : Option Int32 :=
  (fJ6_bitCount (namesOfOne_ ||| namesOfOther_)).bind fun x1 =>
  (if x1 = 0 then
    some (0 : Int32)
  else
    (fJ6_bitCount (namesOfOne_ &&& namesOfOther_)).bind fun x7 =>
    (zz_dv (weight_ * x7) x1).bind fun x9 =>
    some x9).bind fun x3 =>
  some x3

def fX2_pointsBy (σ : zz_St) (kind_ : Int32) (a_ : Int32) (b_ : Int32) : Option Int32 :=
  if kind_ = (0 : Int32) then
    ((fX2_isNear σ a_ b_).bind fun x5 =>
    if x5 = 0 then
      some (0 : Int32)
    else
      (zz_ga (σ 20) 4 (0 : Int32)).bind fun x8 =>
      some x8).bind fun x2 =>
    some x2
  else
    if kind_ = (1 : Int32) then
      (zz_ga (σ 20) 4 (1 : Int32)).bind fun x11 =>
      (fX5_crossings σ a_ b_ (0 : Int32) (2 : Int32)).bind fun x13 =>
      some (x11 * x13)
    else
      if kind_ = (2 : Int32) then
        (zz_ga (σ 20) 4 (2 : Int32)).bind fun x16 =>
        (fX5_crossings σ a_ b_ (1 : Int32) (0 : Int32)).bind fun x18 =>
        some (x16 * x18)
      else
        if kind_ = (3 : Int32) then
          (zz_ga (σ 20) 4 (3 : Int32)).bind fun x21 =>
          (fX5_everyNameOf σ a_).bind fun x23 =>
          (fX5_everyNameOf σ b_).bind fun x25 =>
          (fX2_shareOf σ x21 x23 x25).bind fun x27 =>
          some x27
        else
          some (0 : Int32)

def fX2_sumOfPoints_L1 (σ : zz_St) (a_ : Int32) (b_ : Int32) : Nat → Int32 → Int32 → Option (Int32 × Int32)
  | 0, _, _ => none
  | n + 1, sum_, kind_ =>
    if (4 : Int32) ≤ kind_ then
      some (sum_, kind_)
    else
      (fX2_pointsBy σ kind_ a_ b_).bind fun x2 =>
      (some (sum_ + x2)).bind fun x4 =>
      fX2_sumOfPoints_L1 σ a_ b_ n x4 (kind_ + (1 : Int32))

def fX2_sumOfPoints (σ : zz_St) (a_ : Int32) (b_ : Int32) : Option Int32 :=
  (fX2_sumOfPoints_L1 σ a_ b_ 1000 (0 : Int32) (0 : Int32)).bind fun q6 =>
  some q6.1

def fX3_weighAll_L2 (b_ : Int32) : Nat → Int32 → zz_St → Option (Int32 × zz_St)
  | 0, _, _ => none
  | n + 1, a_, σ =>
    if b_ ≤ a_ then
      some (a_, σ)
    else
      (fX2_sumOfPoints σ a_ b_).bind fun x3 =>
      (zz_ix 14 a_).bind fun x5 =>
      (zz_pa σ (27 + x5) 14 b_ x3).bind fun σ7 =>
      (zz_ix 14 b_).bind fun x9 =>
      (zz_pa σ7 (27 + x9) 14 a_ x3).bind fun σ11 =>
      fX3_weighAll_L2 b_ n (a_ + (1 : Int32)) σ11

def fX3_weighAll_L1 : Nat → Int32 → zz_St → Option (Int32 × zz_St)
  | 0, _, _ => none
  | n + 1, b_, σ =>
    if (σ 1 0) ≤ b_ then
      some (b_, σ)
    else
      (fX3_weighAll_L2 b_ 1000 (0 : Int32) σ).bind fun q13 =>
      fX3_weighAll_L1 n (b_ + (1 : Int32)) q13.2

def fX3_weighAll (σ : zz_St) : Option zz_St :=
  (fX3_weighAll_L1 1000 (1 : Int32) σ).bind fun q15 =>
  some q15.2

def fX3_joinWhatMust_L1 (pieceTotal_ : Int32) : Nat → Int32 → zz_St → Option (Int32 × zz_St)
  | 0, _, _ => none
  | n + 1, piece_, σ =>
    (if pieceTotal_ ≤ piece_ then
      some false
    else
      if (14 : Int32) ≤ piece_ then
        some false
      else
        some true).bind fun b1 =>
    if b1 = true then
      (fX6_joinedTo σ piece_).bind fun x8 =>
      (if (x8 &&& (((1 : Int32) <<< (piece_ &&& 31)) - (1 : Int32))) = 0 then
        some true
      else
        some false).bind fun b10 =>
      (some (zz_bi b10)).bind fun x14 =>
      (if x14 = 0 then
        some σ
      else
        (zz_pa σ 25 14 (σ 24 2) x8).bind fun σ20 =>
        some (zz_u σ20 24 2 ((σ20 24 2) + (1 : Int32)))).bind fun x16 =>
      fX3_joinWhatMust_L1 pieceTotal_ n (piece_ + (1 : Int32)) x16
    else
      some (piece_, σ)

def fX3_joinWhatMust (σ : zz_St) (pieceTotal_ : Int32) : Option zz_St :=
  (fX3_joinWhatMust_L1 pieceTotal_ 1000 (0 : Int32) (zz_u σ 24 2 (0 : Int32))).bind fun q22 =>
  some q22.2

def fX6_isForbidden_L1 (σ : zz_St) (set_ : Int32) (otherSet_ : Int32) : Nat → Int32 → Option (Int32 ⊕ (Int32))
  | 0, _ => none
  | n + 1, piece_ =>
    if (14 : Int32) ≤ piece_ then
      some (.inr piece_)
    else
      ((fX7_isIn σ piece_ set_).bind fun x7 =>
      if x7 = 0 then
        some false
      else
        (zz_ga (σ 23) 14 piece_).bind fun x10 =>
        if (x10 &&& otherSet_) = 0 then
          some false
        else
          some true).bind fun b2 =>
      if b2 = true then
        some (.inl (1 : Int32))
      else
        fX6_isForbidden_L1 σ set_ otherSet_ n (piece_ + (1 : Int32))

def fX6_isForbidden (σ : zz_St) (set_ : Int32) (otherSet_ : Int32) : Option Int32 :=
  (fX6_isForbidden_L1 σ set_ otherSet_ 1000 (0 : Int32)).bind fun q13 =>
  match q13 with
  | .inl v15 =>
    (zz_bo v15).bind fun x18 =>
    some x18
  | .inr w16 =>
    some (0 : Int32)

def fX3_linkageOf_L2 (σ : zz_St) (set_ : Int32) (otherSet_ : Int32) (a_ : Int32) : Nat → Int32 → Int32 → Int32 → Int32 → Option (Int32 × Int32 × Int32 × Int32)
  | 0, _, _, _, _ => none
  | n + 1, greatest_, least_, sum_, b_ =>
    (if (14 : Int32) ≤ b_ then
      some false
    else
      (fX7_isIn σ a_ set_).bind fun x8 =>
      if x8 = 0 then
        some false
      else
        some true).bind fun b2 =>
    if b2 = true then
      ((fX7_isIn σ b_ otherSet_).bind fun x14 =>
      if x14 = 0 then
        some (greatest_, least_, sum_)
      else
        (zz_ix 14 a_).bind fun x17 =>
        (zz_ga (σ (27 + x17)) 14 b_).bind fun x19 =>
        (some (zz_max greatest_ x19)).bind fun x21 =>
        (zz_ix 14 a_).bind fun x23 =>
        (zz_ga (σ (27 + x23)) 14 b_).bind fun x25 =>
        (some (zz_min least_ x25)).bind fun x27 =>
        (zz_ix 14 a_).bind fun x29 =>
        (zz_ga (σ (27 + x29)) 14 b_).bind fun x31 =>
        (some (sum_ + x31)).bind fun x33 =>
        some (x21, x27, x33)).bind fun x11 =>
      fX3_linkageOf_L2 σ set_ otherSet_ a_ n x11.1 x11.2.1 x11.2.2 (b_ + (1 : Int32))
    else
      some (greatest_, least_, sum_, b_)

def fX3_linkageOf_L1 (σ : zz_St) (set_ : Int32) (otherSet_ : Int32) : Nat → Int32 → Int32 → Int32 → Int32 → Option (Int32 × Int32 × Int32 × Int32)
  | 0, _, _, _, _ => none
  | n + 1, greatest_, least_, sum_, a_ =>
    if (14 : Int32) ≤ a_ then
      some (greatest_, least_, sum_, a_)
    else
      (fX3_linkageOf_L2 σ set_ otherSet_ a_ 1000 greatest_ least_ sum_ (0 : Int32)).bind fun q35 =>
      fX3_linkageOf_L1 σ set_ otherSet_ n q35.1 q35.2.1 q35.2.2.1 (a_ + (1 : Int32))

def fX3_linkageOf (σ : zz_St) (set_ : Int32) (otherSet_ : Int32) : Option Int32 :=
  (fX3_linkageOf_L1 σ set_ otherSet_ 1000 (0 : Int32) (1000000 : Int32) (0 : Int32) (0 : Int32)).bind fun q37 =>
  (fJ6_bitCount set_).bind fun x39 =>
  (fJ6_bitCount otherSet_).bind fun x41 =>
  (some (x39 * x41)).bind fun x43 =>
  if x43 = 0 then
    some (0 : Int32)
  else
    if (σ 24 1) = (1 : Int32) then
      (zz_dv q37.2.2.1 x43).bind fun x51 =>
      some x51
    else
      (if (σ 24 1) = 0 then
        some q37.1
      else
        some q37.2.1).bind fun x47 =>
      some x47

def fX3_join_L1 (first_ : Int32) (second_ : Int32) : Nat → Int32 → zz_St → Option (Int32 × zz_St)
  | 0, _, _ => none
  | n + 1, later_, σ =>
    if (σ 24 2) ≤ later_ then
      some (later_, σ)
    else
      (zz_ga (σ 25) 14 later_).bind fun x10 =>
      (zz_pa σ 25 14 (later_ - (1 : Int32)) x10).bind fun σ12 =>
      fX3_join_L1 first_ second_ n (later_ + (1 : Int32)) σ12

def fX3_join (σ : zz_St) (first_ : Int32) (second_ : Int32) : Option zz_St :=
  (zz_ga (σ 25) 14 first_).bind fun x1 =>
  (zz_ga (σ 25) 14 second_).bind fun x3 =>
  (zz_pa σ 25 14 first_ (x1 ||| x3)).bind fun σ5 =>
  (some (second_ + (1 : Int32))).bind fun x7 =>
  (fX3_join_L1 first_ second_ 1000 x7 σ5).bind fun q14 =>
  some (zz_u q14.2 24 2 ((q14.2 24 2) - (1 : Int32)))

def fX3_joinNearest_L2 (σ : zz_St) (a_ : Int32) : Nat → Int32 → Int32 → Int32 → Int32 → Option (Int32 × Int32 × Int32 × Int32)
  | 0, _, _, _, _ => none
  | n + 1, greatest_, first_, second_, b_ =>
    if (σ 24 2) ≤ b_ then
      some (greatest_, first_, second_, b_)
    else
      ((zz_ga (σ 25) 14 a_).bind fun x8 =>
      (zz_ga (σ 25) 14 b_).bind fun x10 =>
      (fX6_isForbidden σ x8 x10).bind fun x12 =>
      if x12 = 0 then
        (zz_ga (σ 25) 14 a_).bind fun x15 =>
        (zz_ga (σ 25) 14 b_).bind fun x17 =>
        (fX3_linkageOf σ x15 x17).bind fun x19 =>
        some x19
      else
        some (-1 : Int32)).bind fun x5 =>
      (if x5 ≤ greatest_ then
        some (greatest_, first_, second_)
      else
        some (x5, a_, b_)).bind fun x21 =>
      fX3_joinNearest_L2 σ a_ n x21.1 x21.2.1 x21.2.2 (b_ + (1 : Int32))

def fX3_joinNearest_L1 (σ : zz_St) : Nat → Int32 → Int32 → Int32 → Int32 → Option (Int32 × Int32 × Int32 × Int32)
  | 0, _, _, _, _ => none
  | n + 1, greatest_, first_, second_, a_ =>
    if (σ 24 2) ≤ a_ then
      some (greatest_, first_, second_, a_)
    else
      (some (a_ + (1 : Int32))).bind fun x2 =>
      (fX3_joinNearest_L2 σ a_ 1000 greatest_ first_ second_ x2).bind fun q25 =>
      fX3_joinNearest_L1 σ n q25.1 q25.2.1 q25.2.2.1 (a_ + (1 : Int32))

def fX3_joinNearest (σ : zz_St) : Option (Int32 × zz_St) :=
  (fX3_joinNearest_L1 σ 1000 (-1 : Int32) (0 : Int32) (0 : Int32) (0 : Int32)).bind fun q27 =>
  if (σ 24 0) ≤ q27.1 then
    (fX3_join σ q27.2.1 q27.2.2.1).bind fun x30 =>
    some ((1 : Int32), (zz_u x30 24 3 q27.1))
  else
    some ((0 : Int32), σ)

def fX3_build_L1 (pieceTotal_ : Int32) : Nat → Int32 → Int32 → zz_St → Option (Int32 × Int32 × zz_St)
  | 0, _, _, _ => none
  | n + 1, isJoined_, round_, σ =>
    (if (14 : Int32) ≤ round_ then
      some false
    else
      if isJoined_ = 0 then
        some false
      else
        some true).bind fun b3 =>
    if b3 = true then
      (fX3_joinNearest σ).bind fun x10 =>
      fX3_build_L1 pieceTotal_ n x10.1 (round_ + (1 : Int32)) x10.2
    else
      some (isJoined_, round_, σ)

def fX3_build (σ : zz_St) (pieceTotal_ : Int32) : Option zz_St :=
  (fX3_joinWhatMust σ pieceTotal_).bind fun x1 =>
  (fX3_build_L1 pieceTotal_ 1000 (1 : Int32) (0 : Int32) (zz_u x1 24 3 (-1 : Int32))).bind fun q12 =>
  some q12.2.2

def fX5_isNeeded (σ : zz_St) (piece_ : Int32) (ahead_ : Int32) (definedNames_ : Int32) : Option Int32 :=
  (zz_ix 4 (2 : Int32)).bind fun x1 =>
  (zz_ga (σ (8 + x1)) 14 piece_).bind fun x3 =>
  (zz_ix 4 (0 : Int32)).bind fun x5 =>
  (zz_ga (σ (8 + x5)) 14 ahead_).bind fun x7 =>
  (some ((x3 &&& x7) &&& (definedNames_ ^^^ (-1 : Int32)))).bind fun x9 =>
  (zz_ix 4 (1 : Int32)).bind fun x11 =>
  (zz_ga (σ (8 + x11)) 14 piece_).bind fun x13 =>
  (zz_ix 4 (3 : Int32)).bind fun x15 =>
  (zz_ga (σ (8 + x15)) 14 ahead_).bind fun x17 =>
  (some (x13 &&& x17)).bind fun x19 =>
  (zz_ix 4 (0 : Int32)).bind fun x21 =>
  (zz_ga (σ (8 + x21)) 14 piece_).bind fun x23 =>
  (zz_ix 4 (1 : Int32)).bind fun x25 =>
  (zz_ga (σ (8 + x25)) 14 ahead_).bind fun x27 =>
  (some (x23 &&& x27)).bind fun x29 =>
  (if ((x9 ||| x19) ||| x29) = 0 then
    some false
  else
    some true).bind fun b31 =>
  some (zz_bi b31)

def fX5_neededBy_L2 (σ : zz_St) (set_ : Int32) (definedNames_ : Int32) (piece_ : Int32) : Nat → Int32 → Int32 → Option (Int32 × Int32)
  | 0, _, _ => none
  | n + 1, needed_, ahead_ =>
    (if (σ 1 0) ≤ ahead_ then
      some false
    else
      (fX7_isIn σ piece_ set_).bind fun x8 =>
      if x8 = 0 then
        some false
      else
        some true).bind fun b2 =>
    if b2 = true then
      ((if ahead_ = piece_ then
        some false
      else
        (fX5_isNeeded σ piece_ ahead_ definedNames_).bind fun x20 =>
        if x20 = 0 then
          some false
        else
          some true).bind fun b14 =>
      if b14 = true then
        (some (needed_ ||| ((1 : Int32) <<< (ahead_ &&& 31)))).bind fun x23 =>
        some x23
      else
        some needed_).bind fun x11 =>
      fX5_neededBy_L2 σ set_ definedNames_ piece_ n x11 (ahead_ + (1 : Int32))
    else
      some (needed_, ahead_)

def fX5_neededBy_L1 (σ : zz_St) (set_ : Int32) (definedNames_ : Int32) : Nat → Int32 → Int32 → Option (Int32 × Int32)
  | 0, _, _ => none
  | n + 1, needed_, piece_ =>
    if (σ 1 0) ≤ piece_ then
      some (needed_, piece_)
    else
      (fX5_neededBy_L2 σ set_ definedNames_ piece_ 1000 needed_ (0 : Int32)).bind fun q25 =>
      fX5_neededBy_L1 σ set_ definedNames_ n q25.1 (piece_ + (1 : Int32))

def fX5_neededBy (σ : zz_St) (set_ : Int32) (definedNames_ : Int32) : Option Int32 :=
  (fX5_neededBy_L1 σ set_ definedNames_ 1000 (0 : Int32) (0 : Int32)).bind fun q27 =>
  some q27.1

def fX4_findNeeds_L2 (group_ : Int32) (neededPieces_ : Int32) : Nat → Int32 → zz_St → Option (Int32 × zz_St)
  | 0, _, _ => none
  | n + 1, other_, σ =>
    if (σ 24 2) ≤ other_ then
      some (other_, σ)
    else
      ((if other_ = group_ then
        some false
      else
        (zz_ga (σ 25) 14 other_).bind fun x18 =>
        if (neededPieces_ &&& x18) = 0 then
          some false
        else
          some true).bind fun b12 =>
      if b12 = true then
        (zz_ga (σ 43) 14 group_).bind fun x21 =>
        (zz_pa σ 43 14 group_ (x21 ||| ((1 : Int32) <<< (other_ &&& 31)))).bind fun σ23 =>
        some σ23
      else
        some σ).bind fun x9 =>
      fX4_findNeeds_L2 group_ neededPieces_ n (other_ + (1 : Int32)) x9

def fX4_findNeeds_L1 : Nat → Int32 → zz_St → Option (Int32 × zz_St)
  | 0, _, _ => none
  | n + 1, group_, σ =>
    if (σ 24 2) ≤ group_ then
      some (group_, σ)
    else
      (zz_ga (σ 25) 14 group_).bind fun x2 =>
      (fX5_neededBy σ x2 (σ 17 0)).bind fun x4 =>
      (zz_pa σ 43 14 group_ (0 : Int32)).bind fun σ6 =>
      (fX4_findNeeds_L2 group_ x4 1000 (0 : Int32) σ6).bind fun q25 =>
      fX4_findNeeds_L1 n (group_ + (1 : Int32)) q25.2

def fX4_findNeeds (σ : zz_St) : Option zz_St :=
  (fX4_findNeeds_L1 1000 (0 : Int32) σ).bind fun q27 =>
  some q27.2

def fX4_needByWayOfOthers_L2 (groupTotal_ : Int32) (way_ : Int32) : Nat → Int32 → zz_St → Option (Int32 × zz_St)
  | 0, _, _ => none
  | n + 1, group_, σ =>
    if groupTotal_ ≤ group_ then
      some (group_, σ)
    else
      ((zz_ga (σ 43) 14 group_).bind fun x6 =>
      (fX7_isIn σ way_ x6).bind fun x8 =>
      if x8 = 0 then
        some σ
      else
        (zz_ga (σ 43) 14 group_).bind fun x11 =>
        (zz_ga (σ 43) 14 way_).bind fun x13 =>
        (zz_pa σ 43 14 group_ (x11 ||| x13)).bind fun σ15 =>
        some σ15).bind fun x3 =>
      fX4_needByWayOfOthers_L2 groupTotal_ way_ n (group_ + (1 : Int32)) x3

def fX4_needByWayOfOthers_L1 (groupTotal_ : Int32) : Nat → Int32 → zz_St → Option (Int32 × zz_St)
  | 0, _, _ => none
  | n + 1, way_, σ =>
    if groupTotal_ ≤ way_ then
      some (way_, σ)
    else
      (fX4_needByWayOfOthers_L2 groupTotal_ way_ 1000 (0 : Int32) σ).bind fun q17 =>
      fX4_needByWayOfOthers_L1 groupTotal_ n (way_ + (1 : Int32)) q17.2

def fX4_needByWayOfOthers (σ : zz_St) (groupTotal_ : Int32) : Option zz_St :=
  (fX4_needByWayOfOthers_L1 groupTotal_ 1000 (0 : Int32) σ).bind fun q19 =>
  some q19.2

def fX4_circleOf_L1 (σ : zz_St) (group_ : Int32) (groupTotal_ : Int32) : Nat → Int32 → Int32 → Option (Int32 × Int32)
  | 0, _, _ => none
  | n + 1, circle_, other_ =>
    if groupTotal_ ≤ other_ then
      some (circle_, other_)
    else
      (((zz_ga (σ 43) 14 group_).bind fun x12 =>
      (fX7_isIn σ other_ x12).bind fun x14 =>
      if x14 = 0 then
        some false
      else
        (zz_ga (σ 43) 14 other_).bind fun x17 =>
        (fX7_isIn σ group_ x17).bind fun x19 =>
        if x19 = 0 then
          some false
        else
          some true).bind fun b7 =>
      if b7 = true then
        (some (circle_ ||| ((1 : Int32) <<< (other_ &&& 31)))).bind fun x22 =>
        some x22
      else
        some circle_).bind fun x4 =>
      fX4_circleOf_L1 σ group_ groupTotal_ n x4 (other_ + (1 : Int32))

def fX4_circleOf (σ : zz_St) (group_ : Int32) (groupTotal_ : Int32) : Option Int32 :=
  (some ((1 : Int32) <<< (group_ &&& 31))).bind fun x1 =>
  (fX4_circleOf_L1 σ group_ groupTotal_ 1000 x1 (0 : Int32)).bind fun q24 =>
  some q24.1

def fX4_nextCircle_L1 (σ : zz_St) (groupTotal_ : Int32) (placed_ : Int32) : Nat → Int32 → Option (Int32 ⊕ (Int32))
  | 0, _ => none
  | n + 1, group_ =>
    if groupTotal_ ≤ group_ then
      some (.inr group_)
    else
      (fX4_circleOf σ group_ groupTotal_).bind fun x2 =>
      ((zz_ga (σ 43) 14 group_).bind fun x7 =>
      if ((x7 &&& (x2 ^^^ (-1 : Int32))) &&& (placed_ ^^^ (-1 : Int32))) = 0 then
        some true
      else
        some false).bind fun b4 =>
      (some (zz_bi b4)).bind fun x10 =>
      ((fX7_isIn σ group_ placed_).bind fun x17 =>
      if x17 = 0 then
        if x10 = 0 then
          some false
        else
          some true
      else
        some false).bind fun b12 =>
      if b12 = true then
        some (.inl x2)
      else
        fX4_nextCircle_L1 σ groupTotal_ placed_ n (group_ + (1 : Int32))

def fX4_nextCircle (σ : zz_St) (groupTotal_ : Int32) (placed_ : Int32) : Option Int32 :=
  (fX4_nextCircle_L1 σ groupTotal_ placed_ 1000 (0 : Int32)).bind fun q21 =>
  match q21 with
  | .inl v23 =>
    some v23
  | .inr w24 =>
    some (0 : Int32)

def fX4_append_L1 (circle_ : Int32) : Nat → Int32 → zz_St → Option (Int32 × zz_St)
  | 0, _, _ => none
  | n + 1, group_, σ =>
    if (σ 24 2) ≤ group_ then
      some (group_, σ)
    else
      (zz_ga (σ 42) 14 (σ 41 0)).bind fun x5 =>
      ((fX7_isIn σ group_ circle_).bind fun x10 =>
      if x10 = 0 then
        some (0 : Int32)
      else
        (zz_ga (σ 25) 14 group_).bind fun x13 =>
        some x13).bind fun x7 =>
      (zz_pa σ 42 14 (σ 41 0) (x5 ||| x7)).bind fun σ15 =>
      fX4_append_L1 circle_ n (group_ + (1 : Int32)) σ15

def fX4_append (σ : zz_St) (circle_ : Int32) : Option zz_St :=
  if (σ 41 0) < (14 : Int32) then
    (zz_pa σ 42 14 (σ 41 0) (0 : Int32)).bind fun σ2 =>
    (fX4_append_L1 circle_ 1000 (0 : Int32) σ2).bind fun q17 =>
    ((fJ6_bitCount circle_).bind fun x22 =>
    if x22 ≤ (1 : Int32) then
      some (zz_u q17.2 41 0 ((q17.2 41 0) + (1 : Int32)))
    else
      some (zz_u (zz_u q17.2 41 0 ((q17.2 41 0) + (1 : Int32))) 41 1 (((zz_u q17.2 41 0 ((q17.2 41 0) + (1 : Int32))) 41 1) + (1 : Int32)))).bind fun x19 =>
    some x19
  else
    some σ

def fX4_build_L1 : Nat → Int32 → Int32 → zz_St → Option (Int32 × Int32 × zz_St)
  | 0, _, _, _ => none
  | n + 1, placed_, round_, σ =>
    if (σ 24 2) ≤ round_ then
      some (placed_, round_, σ)
    else
      (fX4_nextCircle σ (σ 24 2) placed_).bind fun x6 =>
      (if x6 = 0 then
        some (placed_, σ)
      else
        (some (placed_ ||| x6)).bind fun x12 =>
        (fX4_append σ x6).bind fun x14 =>
        some (x12, x14)).bind fun x8 =>
      fX4_build_L1 n x8.1 (round_ + (1 : Int32)) x8.2

def fX4_build (σ : zz_St) : Option zz_St :=
  (fX4_findNeeds σ).bind fun x1 =>
  (fX4_needByWayOfOthers x1 (x1 24 2)).bind fun x3 =>
  (fX4_build_L1 1000 (0 : Int32) (0 : Int32) (zz_u (zz_u x3 41 0 (0 : Int32)) 41 1 (0 : Int32))).bind fun q16 =>
  some q16.2.2

def fX7_putTogether (σ : zz_St) : Option zz_St :=
  (if (σ 0 7) = 0 then
    (fX3_weighAll σ).bind fun x5 =>
    (fX3_build x5 (x5 1 0)).bind fun x7 =>
    (fX4_build x7).bind fun x9 =>
    some (zz_u x9 0 7 (1 : Int32))
  else
    some σ).bind fun x1 =>
  some x1

def fX7_groupCount (σ : zz_St) : Option (Int32 × zz_St) :=
  (fX7_putTogether σ).bind fun x1 =>
  some ((x1 24 2), x1)

def fX7_requireGroup (σ : zz_St) (group_ : Int32) : Option ((Unit ⊕ String) × zz_St) :=
  (fX7_putTogether σ).bind fun x1 =>
  (if group_ < 0 then
    some true
  else
    if group_ < (x1 24 2) then
      some false
    else
      some true).bind fun b3 =>
  if b3 = true then
    some ((.inr "java/lang/IndexOutOfBoundsException"), x1)
  else
    some ((.inl ()), x1)

def fX7_group (σ : zz_St) (group_ : Int32) : Option ((Int32 ⊕ String) × zz_St) :=
  (fX7_requireGroup σ group_).bind fun x1 =>
  match x1 with
  | (.inl x1, σ4) =>
    (zz_ga (σ4 25) 14 group_).bind fun x5 =>
    some ((.inl x5), σ4)
  | (.inr E3, σ4) =>
    some ((.inr E3), σ4)

def fX7_placeOf_a25_L1 (σ : zz_St) (piece_ : Int32) (count_ : Int32) : Nat → Int32 → Option (Int32 ⊕ (Int32))
  | 0, _ => none
  | n + 1, place_ =>
    (if count_ ≤ place_ then
      some false
    else
      if (14 : Int32) ≤ place_ then
        some false
      else
        some true).bind fun b1 =>
    if b1 = true then
      (zz_ga (σ 25) 14 place_).bind fun x8 =>
      (fX7_isIn σ piece_ x8).bind fun x10 =>
      if x10 = 0 then
        fX7_placeOf_a25_L1 σ piece_ count_ n (place_ + (1 : Int32))
      else
        some (.inl place_)
    else
      some (.inr place_)

def fX7_placeOf_a25 (σ : zz_St) (piece_ : Int32) (count_ : Int32) : Option Int32 :=
  (fX7_placeOf_a25_L1 σ piece_ count_ 1000 (0 : Int32)).bind fun q13 =>
  match q13 with
  | .inl v15 =>
    some v15
  | .inr w16 =>
    some (-1 : Int32)

def fX7_groupOf (σ : zz_St) (piece_ : Int32) : Option ((Int32 ⊕ String) × zz_St) :=
  (fX7_requirePiece σ piece_).bind fun x1 =>
  match x1 with
  | .inl x1 =>
    (fX7_putTogether σ).bind fun x4 =>
    (fX7_placeOf_a25 x4 piece_ (x4 24 2)).bind fun x6 =>
    some ((.inl x6), x4)
  | .inr E3 =>
    some ((.inr E3), σ)

def fX7_linkage (σ : zz_St) (a_ : Int32) (b_ : Int32) : Option ((Int32 ⊕ String) × zz_St) :=
  (fX7_requireGroup σ a_).bind fun x1 =>
  match x1 with
  | (.inl x1, σ4) =>
    (fX7_requireGroup σ4 b_).bind fun x5 =>
    match x5 with
    | (.inl x5, σ8) =>
      if a_ = b_ then
        some ((.inr "java/lang/IllegalArgumentException"), σ8)
      else
        (zz_ga (σ8 25) 14 a_).bind fun x10 =>
        (zz_ga (σ8 25) 14 b_).bind fun x12 =>
        (fX3_linkageOf σ8 x10 x12).bind fun x14 =>
        some ((.inl x14), σ8)
    | (.inr E7, σ8) =>
      some ((.inr E7), σ8)
  | (.inr E3, σ4) =>
    some ((.inr E3), σ4)

def fX7_lastLinkage (σ : zz_St) : Option (Int32 × zz_St) :=
  (fX7_putTogether σ).bind fun x1 =>
  some ((x1 24 3), x1)

def fX7_needs (σ : zz_St) (a_ : Int32) (b_ : Int32) : Option (Int32 ⊕ String) :=
  (fX7_requirePiece σ a_).bind fun x1 =>
  match x1 with
  | .inl x1 =>
    (fX7_requirePiece σ b_).bind fun x4 =>
    match x4 with
    | .inl x4 =>
      (fX7_requireDifferent σ a_ b_).bind fun x7 =>
      match x7 with
      | .inl x7 =>
        (fX5_isNeeded σ a_ b_ (σ 17 0)).bind fun x10 =>
        (zz_bo x10).bind fun x12 =>
        some (.inl x12)
      | .inr E9 =>
        some (.inr E9)
    | .inr E6 =>
      some (.inr E6)
  | .inr E3 =>
    some (.inr E3)

def fX7_parcelCount (σ : zz_St) : Option (Int32 × zz_St) :=
  (fX7_putTogether σ).bind fun x1 =>
  some ((x1 41 0), x1)

def fX7_requireParcel (σ : zz_St) (parcel_ : Int32) : Option ((Unit ⊕ String) × zz_St) :=
  (fX7_putTogether σ).bind fun x1 =>
  (if parcel_ < 0 then
    some true
  else
    if parcel_ < (x1 41 0) then
      some false
    else
      some true).bind fun b3 =>
  if b3 = true then
    some ((.inr "java/lang/IndexOutOfBoundsException"), x1)
  else
    some ((.inl ()), x1)

def fX7_parcel (σ : zz_St) (parcel_ : Int32) : Option ((Int32 ⊕ String) × zz_St) :=
  (fX7_requireParcel σ parcel_).bind fun x1 =>
  match x1 with
  | (.inl x1, σ4) =>
    (zz_ga (σ4 42) 14 parcel_).bind fun x5 =>
    some ((.inl x5), σ4)
  | (.inr E3, σ4) =>
    some ((.inr E3), σ4)

def fX7_placeOf_a42_L1 (σ : zz_St) (piece_ : Int32) (count_ : Int32) : Nat → Int32 → Option (Int32 ⊕ (Int32))
  | 0, _ => none
  | n + 1, place_ =>
    (if count_ ≤ place_ then
      some false
    else
      if (14 : Int32) ≤ place_ then
        some false
      else
        some true).bind fun b1 =>
    if b1 = true then
      (zz_ga (σ 42) 14 place_).bind fun x8 =>
      (fX7_isIn σ piece_ x8).bind fun x10 =>
      if x10 = 0 then
        fX7_placeOf_a42_L1 σ piece_ count_ n (place_ + (1 : Int32))
      else
        some (.inl place_)
    else
      some (.inr place_)

def fX7_placeOf_a42 (σ : zz_St) (piece_ : Int32) (count_ : Int32) : Option Int32 :=
  (fX7_placeOf_a42_L1 σ piece_ count_ 1000 (0 : Int32)).bind fun q13 =>
  match q13 with
  | .inl v15 =>
    some v15
  | .inr w16 =>
    some (-1 : Int32)

def fX7_parcelOf (σ : zz_St) (piece_ : Int32) : Option ((Int32 ⊕ String) × zz_St) :=
  (fX7_requirePiece σ piece_).bind fun x1 =>
  match x1 with
  | .inl x1 =>
    (fX7_putTogether σ).bind fun x4 =>
    (fX7_placeOf_a42 x4 piece_ (x4 41 0)).bind fun x6 =>
    some ((.inl x6), x4)
  | .inr E3 =>
    some ((.inr E3), σ)

def fX7_knots (σ : zz_St) : Option (Int32 × zz_St) :=
  (fX7_putTogether σ).bind fun x1 =>
  some ((x1 41 1), x1)

def fX5_linesOf_L1 (σ : zz_St) (set_ : Int32) : Nat → Int32 → Int32 → Option (Int32 × Int32)
  | 0, _, _ => none
  | n + 1, sum_, piece_ =>
    if (σ 1 0) ≤ piece_ then
      some (sum_, piece_)
    else
      ((fX7_isIn σ piece_ set_).bind fun x5 =>
      if x5 = 0 then
        some sum_
      else
        (zz_ga (σ 4) 14 piece_).bind fun x8 =>
        (zz_ga (σ 5) 14 piece_).bind fun x10 =>
        (some (sum_ + (x8 + x10))).bind fun x12 =>
        some x12).bind fun x2 =>
      fX5_linesOf_L1 σ set_ n x2 (piece_ + (1 : Int32))

def fX5_linesOf (σ : zz_St) (set_ : Int32) : Option Int32 :=
  (fX5_linesOf_L1 σ set_ 1000 (0 : Int32) (0 : Int32)).bind fun q14 =>
  some q14.1

def fX7_lines (σ : zz_St) (parcel_ : Int32) : Option ((Int32 ⊕ String) × zz_St) :=
  (fX7_requireParcel σ parcel_).bind fun x1 =>
  match x1 with
  | (.inl x1, σ4) =>
    (zz_ga (σ4 42) 14 parcel_).bind fun x5 =>
    (fX5_linesOf σ4 x5).bind fun x7 =>
    some ((.inl x7), σ4)
  | (.inr E3, σ4) =>
    some ((.inr E3), σ4)

def fX5_all (σ : zz_St) : Option Int32 :=
  some (((1 : Int32) <<< ((σ 1 0) &&& 31)) - (1 : Int32))

def fX1_brokenBy_L1 (σ : zz_St) (applied_ : Int32) : Nat → Int32 → Int32 → Option (Int32 × Int32)
  | 0, _, _ => none
  | n + 1, found_, name_ =>
    if (16 : Int32) ≤ name_ then
      some (found_, name_)
    else
      (zz_ix 4 (0 : Int32)).bind fun x2 =>
      (zz_ga (σ (13 + x2)) 16 name_).bind fun x4 =>
      (fJ6_bitCount (x4 &&& applied_)).bind fun x6 =>
      (zz_ix 4 (1 : Int32)).bind fun x8 =>
      (zz_ga (σ (13 + x8)) 16 name_).bind fun x10 =>
      (fJ6_bitCount (x10 &&& applied_)).bind fun x12 =>
      (some (((((σ 17 0) >>> (name_ &&& 31)) &&& (1 : Int32)) + x6) - x12)).bind fun x14 =>
      (zz_ga (σ 18) 16 name_).bind fun x16 =>
      (zz_ix 4 (2 : Int32)).bind fun x18 =>
      (zz_ga (σ (13 + x18)) 16 name_).bind fun x20 =>
      (fJ6_bitCount (x20 &&& applied_)).bind fun x22 =>
      (zz_ix 4 (3 : Int32)).bind fun x24 =>
      (zz_ga (σ (13 + x24)) 16 name_).bind fun x26 =>
      (fJ6_bitCount (x26 &&& applied_)).bind fun x28 =>
      (some ((x16 + x22) - x28)).bind fun x30 =>
      ((if (1 : Int32) < x14 then
        some true
      else
        if (1 : Int32) ≤ x14 then
          some false
        else
          if x30 < (1 : Int32) then
            some false
          else
            some true).bind fun b35 =>
      if b35 = true then
        (some (found_ ||| ((1 : Int32) <<< (name_ &&& 31)))).bind fun x43 =>
        some x43
      else
        some found_).bind fun x32 =>
      fX1_brokenBy_L1 σ applied_ n x32 (name_ + (1 : Int32))

def fX1_brokenBy (σ : zz_St) (applied_ : Int32) : Option Int32 :=
  (fX1_brokenBy_L1 σ applied_ 1000 (0 : Int32) (0 : Int32)).bind fun q45 =>
  some q45.1

def fX7_broken (σ : zz_St) (pieces_ : Int32) : Option (Int32 ⊕ String) :=
  (fX5_all σ).bind fun x1 =>
  if (pieces_ &&& (x1 ^^^ (-1 : Int32))) = 0 then
    (fX1_brokenBy σ pieces_).bind fun x4 =>
    some (.inl x4)
  else
    some (.inr "java/lang/IllegalArgumentException")

def fX7_breakageInOrder_L1 (σ : zz_St) : Nat → Int32 → Int32 → Int32 → Option (Int32 × Int32 × Int32)
  | 0, _, _, _ => none
  | n + 1, applied_, sum_, parcel_ =>
    if (σ 41 0) ≤ parcel_ then
      some (applied_, sum_, parcel_)
    else
      (zz_ga (σ 42) 14 parcel_).bind fun x2 =>
      (some (applied_ ||| x2)).bind fun x4 =>
      (fX1_brokenBy σ x4).bind fun x6 =>
      (fJ6_bitCount x6).bind fun x8 =>
      (some (sum_ + x8)).bind fun x10 =>
      fX7_breakageInOrder_L1 σ n x4 x10 (parcel_ + (1 : Int32))

def fX7_breakageInOrder (σ : zz_St) : Option Int32 :=
  (fX7_breakageInOrder_L1 σ 1000 (0 : Int32) (0 : Int32) (0 : Int32)).bind fun q12 =>
  some q12.2.1

def fX7_breakage (σ : zz_St) : Option (Int32 × zz_St) :=
  (fX7_putTogether σ).bind fun x1 =>
  (fX7_breakageInOrder x1).bind fun x3 =>
  some (x3, x1)

def fX0_nextAfter_L1 (σ : zz_St) (chosen_ : Int32) : Nat → Int32 → Int32 → Int32 → Option (Int32 × Int32 × Int32)
  | 0, _, _, _ => none
  | n + 1, found_, leastThen_, parcel_ =>
    if (σ 44 1) ≤ parcel_ then
      some (found_, leastThen_, parcel_)
    else
      (((fX7_isIn σ parcel_ chosen_).bind fun x10 =>
      if x10 = 0 then
        (zz_ga (σ 46) 512 (chosen_ ||| ((1 : Int32) <<< (parcel_ &&& 31)))).bind fun x13 =>
        if leastThen_ ≤ x13 then
          some false
        else
          some true
      else
        some false).bind fun b5 =>
      if b5 = true then
        (zz_ga (σ 46) 512 (chosen_ ||| ((1 : Int32) <<< (parcel_ &&& 31)))).bind fun x16 =>
        some (parcel_, x16)
      else
        some (found_, leastThen_)).bind fun x2 =>
      fX0_nextAfter_L1 σ chosen_ n x2.1 x2.2 (parcel_ + (1 : Int32))

def fX0_nextAfter (σ : zz_St) (chosen_ : Int32) : Option Int32 :=
  (fX0_nextAfter_L1 σ chosen_ 1000 (-1 : Int32) (1000000 : Int32) (0 : Int32)).bind fun q18 =>
  some q18.1

def fX4_piecesIn_L1 (σ : zz_St) (chosen_ : Int32) : Nat → Int32 → Int32 → Option (Int32 × Int32)
  | 0, _, _ => none
  | n + 1, set_, parcel_ =>
    if (σ 41 0) ≤ parcel_ then
      some (set_, parcel_)
    else
      ((fX7_isIn σ parcel_ chosen_).bind fun x5 =>
      if x5 = 0 then
        some (0 : Int32)
      else
        (zz_ga (σ 42) 14 parcel_).bind fun x8 =>
        some x8).bind fun x2 =>
      (some (set_ ||| x2)).bind fun x10 =>
      fX4_piecesIn_L1 σ chosen_ n x10 (parcel_ + (1 : Int32))

def fX4_piecesIn (σ : zz_St) (chosen_ : Int32) : Option Int32 :=
  (fX4_piecesIn_L1 σ chosen_ 1000 (0 : Int32) (0 : Int32)).bind fun q12 =>
  some q12.1

def fX0_walk_L1 : Nat → Int32 → Int32 → zz_St → Option (Int32 × Int32 × zz_St)
  | 0, _, _, _ => none
  | n + 1, chosen_, place_, σ =>
    if (σ 44 1) ≤ place_ then
      some (chosen_, place_, σ)
    else
      (fX0_nextAfter σ chosen_).bind fun x2 =>
      (if x2 < 0 then
        some (chosen_, σ)
      else
        (zz_pa σ 45 9 place_ x2).bind fun σ8 =>
        (some (chosen_ ||| ((1 : Int32) <<< (x2 &&& 31)))).bind fun x10 =>
        some (x10, σ8)).bind fun x4 =>
      fX0_walk_L1 n x4.1 (place_ + (1 : Int32)) x4.2

def fX0_walk (σ : zz_St) : Option zz_St :=
  (fX0_walk_L1 1000 (0 : Int32) (0 : Int32) σ).bind fun q12 =>
  some q12.2.2

def fX0_find_L1 : Nat → Int32 → zz_St → Option (Int32 × zz_St)
  | 0, _, _ => none
  | n + 1, chosen_, σ =>
    if chosen_ < 0 then
      some (chosen_, σ)
    else
      (fX0_nextAfter σ chosen_).bind fun x4 =>
      (if 0 ≤ x4 then
        (zz_ga (σ 46) 512 (chosen_ ||| ((1 : Int32) <<< (x4 &&& 31)))).bind fun x10 =>
        some x10
      else
        some (0 : Int32)).bind fun x6 =>
      (if chosen_ = 0 then
        some (0 : Int32)
      else
        (fX4_piecesIn σ chosen_).bind fun x16 =>
        (fX1_brokenBy σ x16).bind fun x18 =>
        (fJ6_bitCount x18).bind fun x20 =>
        some x20).bind fun x12 =>
      (zz_pa σ 46 512 chosen_ (x12 + x6)).bind fun σ22 =>
      fX0_find_L1 n (chosen_ + (-1 : Int32)) σ22

def fX0_find (σ : zz_St) : Option zz_St :=
  (some (((1 : Int32) <<< (((zz_u σ 44 1 (zz_min (σ 41 0) (9 : Int32))) 44 1) &&& 31)) - (1 : Int32))).bind fun x1 =>
  (fX0_find_L1 1000 x1 (zz_u σ 44 1 (zz_min (σ 41 0) (9 : Int32)))).bind fun q24 =>
  (zz_ga (q24.2 46) 512 (0 : Int32)).bind fun x26 =>
  (fX0_walk (zz_u q24.2 44 0 x26)).bind fun x28 =>
  some x28

def fX7_findBest (σ : zz_St) : Option ((Unit ⊕ String) × zz_St) :=
  (fX7_putTogether σ).bind fun x1 =>
  if (x1 41 0) ≤ (9 : Int32) then
    (if (x1 0 8) = 0 then
      (fX0_find x1).bind fun x8 =>
      some (zz_u x8 0 8 (1 : Int32))
    else
      some x1).bind fun x4 =>
    some ((.inl ()), x4)
  else
    some ((.inr "java/lang/IllegalStateException"), x1)

def fX7_leastBreakage (σ : zz_St) : Option ((Int32 ⊕ String) × zz_St) :=
  (fX7_findBest σ).bind fun x1 =>
  match x1 with
  | (.inl x1, σ4) =>
    some ((.inl (σ4 44 0)), σ4)
  | (.inr E3, σ4) =>
    some ((.inr E3), σ4)

def fX7_best (σ : zz_St) (place_ : Int32) : Option ((Int32 ⊕ String) × zz_St) :=
  (fX7_findBest σ).bind fun x1 =>
  match x1 with
  | (.inl x1, σ4) =>
    (if place_ < 0 then
      some true
    else
      if place_ < (σ4 44 1) then
        some false
      else
        some true).bind fun b5 =>
    if b5 = true then
      some ((.inr "java/lang/IndexOutOfBoundsException"), σ4)
    else
      (zz_ga (σ4 45) 9 place_).bind fun x12 =>
      some ((.inl x12), σ4)
  | (.inr E3, σ4) =>
    some ((.inr E3), σ4)

def fJ6_numberOfTrailingZeros (i_ : Int32) : Option Int32 :=
  (some ((i_ ^^^ (-1 : Int32)) &&& (i_ - (1 : Int32)))).bind fun x1 =>
  if 0 < x1 then
    (if x1 ≤ (65536 : Int32) then
      some (x1, (1 : Int32))
    else
      (some (zz_ushr x1 (16 : Int32))).bind fun x8 =>
      some (x8, ((1 : Int32) + (16 : Int32)))).bind fun x4 =>
    (if x4.1 ≤ (256 : Int32) then
      some (x4.1, x4.2)
    else
      (some (zz_ushr x4.1 (8 : Int32))).bind fun x14 =>
      some (x14, (x4.2 + (8 : Int32)))).bind fun x10 =>
    (if x10.1 ≤ (16 : Int32) then
      some (x10.1, x10.2)
    else
      (some (zz_ushr x10.1 (4 : Int32))).bind fun x20 =>
      some (x20, (x10.2 + (4 : Int32)))).bind fun x16 =>
    (if x16.1 ≤ (4 : Int32) then
      some (x16.1, x16.2)
    else
      (some (zz_ushr x16.1 (2 : Int32))).bind fun x26 =>
      some (x26, (x16.2 + (2 : Int32)))).bind fun x22 =>
    some (x22.2 + (zz_ushr x22.1 (1 : Int32)))
  else
    some (x1 &&& (32 : Int32))
end
section
theorem dX7_isUpTo_0 : decode cX7_isUpTo 0 = .ok (.iload_n 0, 1) := by decide +kernel
theorem dX7_isUpTo_1 : decode cX7_isUpTo 1 = .ok (.ifCond .lt 12, 3) := by decide +kernel
theorem dX7_isUpTo_4 : decode cX7_isUpTo 4 = .ok (.iload_n 0, 1) := by decide +kernel
theorem dX7_isUpTo_5 : decode cX7_isUpTo 5 = .ok (.iload_n 1, 1) := by decide +kernel
theorem dX7_isUpTo_6 : decode cX7_isUpTo 6 = .ok (.if_icmp .gt 7, 3) := by decide +kernel
theorem dX7_isUpTo_9 : decode cX7_isUpTo 9 = .ok (.iconst 1, 1) := by decide +kernel
theorem dX7_isUpTo_10 : decode cX7_isUpTo 10 = .ok (.goto 4, 3) := by decide +kernel
theorem dX7_isUpTo_13 : decode cX7_isUpTo 13 = .ok (.iconst 0, 1) := by decide +kernel
theorem dX7_isUpTo_14 : decode cX7_isUpTo 14 = .ok (.ireturn, 1) := by decide +kernel
set_option maxHeartbeats 4000000 in
set_option maxRecDepth 100000 in
theorem mX7_isUpTo {D : va_G} {U : zz_U} {ad : Nat → Nat} {X : va_W} (σ : zz_St) (number_ : Int32) (greatest_ : Int32) (r : Int32) (hf : fX7_isUpTo σ number_ greatest_ = some r) : zz_Met yX7_isUpTo (.code yX7_isUpTo cX7_isUpTo 2 (some .boolean)) 0 0 0 D U [.int number_, .int greatest_] (zz_wc U ad σ X) (zz_ok (some (.int r)) (zz_wc U ad σ X)) zz_noth := by
  unfold fX7_isUpTo at hf
  refine zz_method RX7 rfl (by decide +kernel) (Nat.le_of_ble_eq_true rfl) ?_
  intro p l e s m args below meth c A _ C
  refine zz_lvs (lv1 := [(0, .int number_), (1, .int greatest_)]) rfl ?_
  obtain ⟨b1, h2, hf⟩ := zz_bind hf
  refine zz_cut 14 [(0, .int number_), (1, .int greatest_)] [.int (zz_bi b1)] (zz_wc U ad σ X) ?_ (fun J3 => ?_)
  · cases hf
    exact zz_zret C dX7_isUpTo_14 (zz_bi01 _) (And.intro rfl rfl) (Nat.le_of_ble_eq_true rfl) (Nat.le_of_ble_eq_true rfl)
  refine zz_iload_n C 0 dX7_isUpTo_0 rfl rfl ?_
  refine zz_if_lt (tgt := 13) C dX7_isUpTo_1 (by decide) (fun g4 => ?_) (fun g4 => ?_)
  · rw [if_pos g4] at h2
    refine zz_iconst (v := 0) C dX7_isUpTo_13 (by decide) ?_
    cases h2
    exact J3
  · rw [if_neg g4] at h2
    refine zz_iload_n C 0 dX7_isUpTo_4 rfl rfl ?_
    refine zz_iload_n C 1 dX7_isUpTo_5 rfl rfl ?_
    refine zz_icmp_gt (tgt := 13) C dX7_isUpTo_6 (by decide) (fun g5 => ?_) (fun g5 => ?_)
    · rw [if_pos g5] at h2
      refine zz_iconst (v := 0) C dX7_isUpTo_13 (by decide) ?_
      cases h2
      exact J3
    · rw [if_neg g5] at h2
      refine zz_iconst (v := 1) C dX7_isUpTo_9 (by decide) ?_
      refine zz_goto (tgt := 14) C dX7_isUpTo_10 (by decide) ?_
      cases h2
      exact J3
theorem dX7_forgetResults_0 : decode cX7_forgetResults 0 = .ok (.aload_n 0, 1) := by decide +kernel
theorem dX7_forgetResults_1 : decode cX7_forgetResults 1 = .ok (.iconst 0, 1) := by decide +kernel
theorem dX7_forgetResults_2 : decode cX7_forgetResults 2 = .ok (.putfield 267, 3) := by decide +kernel
theorem dX7_forgetResults_5 : decode cX7_forgetResults 5 = .ok (.aload_n 0, 1) := by decide +kernel
theorem dX7_forgetResults_6 : decode cX7_forgetResults 6 = .ok (.iconst 0, 1) := by decide +kernel
theorem dX7_forgetResults_7 : decode cX7_forgetResults 7 = .ok (.putfield 271, 3) := by decide +kernel
theorem dX7_forgetResults_10 : decode cX7_forgetResults 10 = .ok (.return_, 1) := by decide +kernel
set_option maxHeartbeats 4000000 in
set_option maxRecDepth 100000 in
theorem mX7_forgetResults {D : va_G} {U : zz_U} {ad : Nat → Nat} {X : va_W} (σ : zz_St) (r : zz_St) (hf : fX7_forgetResults σ = some r) : zz_Met yX7_forgetResults (.code yX7_forgetResults cX7_forgetResults 1 none) 0 0 0 D U [.ref (ad 0)] (zz_wc U ad σ X) (zz_ok none (zz_wc U ad r X)) zz_noth := by
  unfold fX7_forgetResults at hf
  refine zz_method RX7 rfl (by decide +kernel) (Nat.le_of_ble_eq_true rfl) ?_
  intro p l e s m args below meth c A _ C
  refine zz_lvs (lv1 := [(0, .ref (ad 0))]) rfl ?_
  refine zz_aload_n C 0 dX7_forgetResults_0 rfl rfl ?_
  refine zz_iconst (v := (0 : Int32)) C dX7_forgetResults_1 (by decide) ?_
  refine zp7_isPutTogether C dX7_forgetResults_2 zw_2 (Or.inl rfl) ?_
  refine zz_aload_n C 0 dX7_forgetResults_5 rfl rfl ?_
  refine zz_iconst (v := (0 : Int32)) C dX7_forgetResults_6 (by decide) ?_
  refine zp7_isBestKnown C dX7_forgetResults_7 zw_1 (Or.inl rfl) ?_
  cases hf
  exact zz_vret C dX7_forgetResults_10 (And.intro rfl rfl) (Nat.le_of_ble_eq_true rfl) (Nat.le_of_ble_eq_true rfl)
theorem dX5_append_0 : decode cX5_append 0 = .ok (.aload_n 0, 1) := by decide +kernel
theorem dX5_append_1 : decode cX5_append 1 = .ok (.getfield 35, 3) := by decide +kernel
theorem dX5_append_4 : decode cX5_append 4 = .ok (.istore 5, 2) := by decide +kernel
theorem dX5_append_6 : decode cX5_append 6 = .ok (.iload 5, 2) := by decide +kernel
theorem dX5_append_8 : decode cX5_append 8 = .ok (.bipush 14, 2) := by decide +kernel
theorem dX5_append_10 : decode cX5_append 10 = .ok (.if_icmp .lt 5, 3) := by decide +kernel
theorem dX5_append_13 : decode cX5_append 13 = .ok (.iconst (-1), 1) := by decide +kernel
theorem dX5_append_14 : decode cX5_append 14 = .ok (.ireturn, 1) := by decide +kernel
theorem dX5_append_15 : decode cX5_append 15 = .ok (.aload_n 0, 1) := by decide +kernel
theorem dX5_append_16 : decode cX5_append 16 = .ok (.getfield 9, 3) := by decide +kernel
theorem dX5_append_19 : decode cX5_append 19 = .ok (.iload 5, 2) := by decide +kernel
theorem dX5_append_21 : decode cX5_append 21 = .ok (.iload_n 1, 1) := by decide +kernel
theorem dX5_append_22 : decode cX5_append 22 = .ok (.iastore, 1) := by decide +kernel
theorem dX5_append_23 : decode cX5_append 23 = .ok (.aload_n 0, 1) := by decide +kernel
theorem dX5_append_24 : decode cX5_append 24 = .ok (.getfield 15, 3) := by decide +kernel
theorem dX5_append_27 : decode cX5_append 27 = .ok (.iload 5, 2) := by decide +kernel
theorem dX5_append_29 : decode cX5_append 29 = .ok (.iload_n 2, 1) := by decide +kernel
theorem dX5_append_30 : decode cX5_append 30 = .ok (.iastore, 1) := by decide +kernel
theorem dX5_append_31 : decode cX5_append 31 = .ok (.aload_n 0, 1) := by decide +kernel
theorem dX5_append_32 : decode cX5_append 32 = .ok (.getfield 18, 3) := by decide +kernel
theorem dX5_append_35 : decode cX5_append 35 = .ok (.iload 5, 2) := by decide +kernel
theorem dX5_append_37 : decode cX5_append 37 = .ok (.iload_n 3, 1) := by decide +kernel
theorem dX5_append_38 : decode cX5_append 38 = .ok (.iastore, 1) := by decide +kernel
theorem dX5_append_39 : decode cX5_append 39 = .ok (.aload_n 0, 1) := by decide +kernel
theorem dX5_append_40 : decode cX5_append 40 = .ok (.getfield 21, 3) := by decide +kernel
theorem dX5_append_43 : decode cX5_append 43 = .ok (.iload 5, 2) := by decide +kernel
theorem dX5_append_45 : decode cX5_append 45 = .ok (.iload 4, 2) := by decide +kernel
theorem dX5_append_47 : decode cX5_append 47 = .ok (.iastore, 1) := by decide +kernel
theorem dX5_append_48 : decode cX5_append 48 = .ok (.aload_n 0, 1) := by decide +kernel
theorem dX5_append_49 : decode cX5_append 49 = .ok (.getfield 24, 3) := by decide +kernel
theorem dX5_append_52 : decode cX5_append 52 = .ok (.iload 5, 2) := by decide +kernel
theorem dX5_append_54 : decode cX5_append 54 = .ok (.iconst 0, 1) := by decide +kernel
theorem dX5_append_55 : decode cX5_append 55 = .ok (.iastore, 1) := by decide +kernel
theorem dX5_append_56 : decode cX5_append 56 = .ok (.aload_n 0, 1) := by decide +kernel
theorem dX5_append_57 : decode cX5_append 57 = .ok (.iload 5, 2) := by decide +kernel
theorem dX5_append_59 : decode cX5_append 59 = .ok (.iconst 1, 1) := by decide +kernel
theorem dX5_append_60 : decode cX5_append 60 = .ok (.iadd, 1) := by decide +kernel
theorem dX5_append_61 : decode cX5_append 61 = .ok (.putfield 35, 3) := by decide +kernel
theorem dX5_append_64 : decode cX5_append 64 = .ok (.iload 5, 2) := by decide +kernel
theorem dX5_append_66 : decode cX5_append 66 = .ok (.ireturn, 1) := by decide +kernel
set_option maxHeartbeats 4000000 in
set_option maxRecDepth 100000 in
theorem mX5_append {D : va_G} {U : zz_U} {ad : Nat → Nat} {X : va_W} (σ : zz_St) (file_ : Int32) (line_ : Int32) (linesAdded_ : Int32) (linesTaken_ : Int32) (r : (Int32 × zz_St)) (hf : fX5_append σ file_ line_ linesAdded_ linesTaken_ = some r) : zz_Met yX5_append (.code yX5_append cX5_append 6 (some .int)) 0 0 0 D U [.ref (ad 1), .int file_, .int line_, .int linesAdded_, .int linesTaken_] (zz_wc U ad σ X) (zz_ok (some (.int r.1)) (zz_wc U ad r.2 X)) zz_noth := by
  unfold fX5_append at hf
  refine zz_method RX5 rfl (by decide +kernel) (Nat.le_of_ble_eq_true rfl) ?_
  intro p l e s m args below meth c A _ C
  refine zz_lvs (lv1 := [(0, .ref (ad 1)), (1, .int file_), (2, .int line_), (3, .int linesAdded_), (4, .int linesTaken_)]) rfl ?_
  refine zz_aload_n C 0 dX5_append_0 rfl rfl ?_
  refine zf5_count C dX5_append_1 zw_3 ?_
  refine zz_istore C dX5_append_4 (by decide) (lv' := [(5, .int (σ 1 0)), (0, .ref (ad 1)), (1, .int file_), (2, .int line_), (3, .int linesAdded_), (4, .int linesTaken_)]) rfl ?_
  refine zz_iload C 0 dX5_append_6 rfl ?_
  refine zz_bipush (v := (14 : Int32)) C dX5_append_8 (by decide) ?_
  refine zz_icmp_lt (tgt := 15) C dX5_append_10 (by decide) (fun g1 => ?_) (fun g1 => ?_)
  · rw [if_pos g1] at hf
    refine zz_aload_n C 1 dX5_append_15 rfl rfl ?_
    refine zf5_files C dX5_append_16 zw_8 ?_
    refine zz_iload C 0 dX5_append_19 rfl ?_
    refine zz_iload_n C 2 dX5_append_21 rfl rfl ?_
    obtain ⟨σ2, h3, hf⟩ := zz_bind hf
    refine zs_2 C dX5_append_22 h3 ?_
    refine zz_aload_n C 1 dX5_append_23 rfl rfl ?_
    refine zf5_startLines C dX5_append_24 zw_7 ?_
    refine zz_iload C 0 dX5_append_27 rfl ?_
    refine zz_iload_n C 3 dX5_append_29 rfl rfl ?_
    obtain ⟨σ4, h5, hf⟩ := zz_bind hf
    refine zs_3 C dX5_append_30 h5 ?_
    refine zz_aload_n C 1 dX5_append_31 rfl rfl ?_
    refine zf5_added C dX5_append_32 zw_6 ?_
    refine zz_iload C 0 dX5_append_35 rfl ?_
    refine zz_iload_n C 4 dX5_append_37 rfl rfl ?_
    obtain ⟨σ6, h7, hf⟩ := zz_bind hf
    refine zs_4 C dX5_append_38 h7 ?_
    refine zz_aload_n C 1 dX5_append_39 rfl rfl ?_
    refine zf5_taken C dX5_append_40 zw_5 ?_
    refine zz_iload C 0 dX5_append_43 rfl ?_
    refine zz_iload C 5 dX5_append_45 rfl ?_
    obtain ⟨σ8, h9, hf⟩ := zz_bind hf
    refine zs_5 C dX5_append_47 h9 ?_
    refine zz_aload_n C 1 dX5_append_48 rfl rfl ?_
    refine zf5_purposes C dX5_append_49 zw_4 ?_
    refine zz_iload C 0 dX5_append_52 rfl ?_
    refine zz_iconst (v := (0 : Int32)) C dX5_append_54 (by decide) ?_
    obtain ⟨σ10, h11, hf⟩ := zz_bind hf
    refine zs_6 C dX5_append_55 h11 ?_
    refine zz_aload_n C 1 dX5_append_56 rfl rfl ?_
    refine zz_iload C 0 dX5_append_57 rfl ?_
    refine zz_iconst (v := (1 : Int32)) C dX5_append_59 (by decide) ?_
    refine zz_iadd C dX5_append_60 ?_
    refine zp5_count C dX5_append_61 zw_3 ?_
    refine zz_iload C 0 dX5_append_64 rfl ?_
    cases hf
    exact zz_iret C dX5_append_66 (And.intro rfl rfl) (Nat.le_of_ble_eq_true rfl) (Nat.le_of_ble_eq_true rfl)
  · rw [if_neg g1] at hf
    refine zz_iconst (v := (-1 : Int32)) C dX5_append_13 (by decide) ?_
    cases hf
    exact zz_iret C dX5_append_14 (And.intro rfl rfl) (Nat.le_of_ble_eq_true rfl) (Nat.le_of_ble_eq_true rfl)
theorem dX7_addPiece_0 : decode cX7_addPiece 0 = .ok (.iload_n 1, 1) := by decide +kernel
theorem dX7_addPiece_1 : decode cX7_addPiece 1 = .ok (.bipush 9, 2) := by decide +kernel
theorem dX7_addPiece_3 : decode cX7_addPiece 3 = .ok (.invokestatic 58, 3) := by decide +kernel
theorem dX7_addPiece_6 : decode cX7_addPiece 6 = .ok (.ifCond .eq 13, 3) := by decide +kernel
theorem dX7_addPiece_9 : decode cX7_addPiece 9 = .ok (.iload_n 2, 1) := by decide +kernel
theorem dX7_addPiece_10 : decode cX7_addPiece 10 = .ok (.sipush 9999, 3) := by decide +kernel
theorem dX7_addPiece_13 : decode cX7_addPiece 13 = .ok (.invokestatic 58, 3) := by decide +kernel
theorem dX7_addPiece_16 : decode cX7_addPiece 16 = .ok (.ifCond .ne 13, 3) := by decide +kernel
theorem dX7_addPiece_19 : decode cX7_addPiece 19 = .ok (.new 62, 3) := by decide +kernel
theorem dX7_addPiece_22 : decode cX7_addPiece 22 = .ok (.dup, 1) := by decide +kernel
theorem dX7_addPiece_23 : decode cX7_addPiece 23 = .ok (.ldc 64, 2) := by decide +kernel
theorem dX7_addPiece_25 : decode cX7_addPiece 25 = .ok (.invokespecial 66, 3) := by decide +kernel
theorem dX7_addPiece_28 : decode cX7_addPiece 28 = .ok (.athrow, 1) := by decide +kernel
theorem dX7_addPiece_29 : decode cX7_addPiece 29 = .ok (.iload_n 3, 1) := by decide +kernel
theorem dX7_addPiece_30 : decode cX7_addPiece 30 = .ok (.sipush 999, 3) := by decide +kernel
theorem dX7_addPiece_33 : decode cX7_addPiece 33 = .ok (.invokestatic 58, 3) := by decide +kernel
theorem dX7_addPiece_36 : decode cX7_addPiece 36 = .ok (.ifCond .eq 14, 3) := by decide +kernel
theorem dX7_addPiece_39 : decode cX7_addPiece 39 = .ok (.iload 4, 2) := by decide +kernel
theorem dX7_addPiece_41 : decode cX7_addPiece 41 = .ok (.sipush 999, 3) := by decide +kernel
theorem dX7_addPiece_44 : decode cX7_addPiece 44 = .ok (.invokestatic 58, 3) := by decide +kernel
theorem dX7_addPiece_47 : decode cX7_addPiece 47 = .ok (.ifCond .ne 13, 3) := by decide +kernel
theorem dX7_addPiece_50 : decode cX7_addPiece 50 = .ok (.new 62, 3) := by decide +kernel
theorem dX7_addPiece_53 : decode cX7_addPiece 53 = .ok (.dup, 1) := by decide +kernel
theorem dX7_addPiece_54 : decode cX7_addPiece 54 = .ok (.ldc 69, 2) := by decide +kernel
theorem dX7_addPiece_56 : decode cX7_addPiece 56 = .ok (.invokespecial 66, 3) := by decide +kernel
theorem dX7_addPiece_59 : decode cX7_addPiece 59 = .ok (.athrow, 1) := by decide +kernel
theorem dX7_addPiece_60 : decode cX7_addPiece 60 = .ok (.aload_n 0, 1) := by decide +kernel
theorem dX7_addPiece_61 : decode cX7_addPiece 61 = .ok (.getfield 12, 3) := by decide +kernel
theorem dX7_addPiece_64 : decode cX7_addPiece 64 = .ok (.getfield 71, 3) := by decide +kernel
theorem dX7_addPiece_67 : decode cX7_addPiece 67 = .ok (.bipush 14, 2) := by decide +kernel
theorem dX7_addPiece_69 : decode cX7_addPiece 69 = .ok (.if_icmp .lt 13, 3) := by decide +kernel
theorem dX7_addPiece_72 : decode cX7_addPiece 72 = .ok (.new 75, 3) := by decide +kernel
theorem dX7_addPiece_75 : decode cX7_addPiece 75 = .ok (.dup, 1) := by decide +kernel
theorem dX7_addPiece_76 : decode cX7_addPiece 76 = .ok (.ldc 77, 2) := by decide +kernel
theorem dX7_addPiece_78 : decode cX7_addPiece 78 = .ok (.invokespecial 79, 3) := by decide +kernel
theorem dX7_addPiece_81 : decode cX7_addPiece 81 = .ok (.athrow, 1) := by decide +kernel
theorem dX7_addPiece_82 : decode cX7_addPiece 82 = .ok (.aload_n 0, 1) := by decide +kernel
theorem dX7_addPiece_83 : decode cX7_addPiece 83 = .ok (.invokevirtual 80, 3) := by decide +kernel
theorem dX7_addPiece_86 : decode cX7_addPiece 86 = .ok (.aload_n 0, 1) := by decide +kernel
theorem dX7_addPiece_87 : decode cX7_addPiece 87 = .ok (.getfield 12, 3) := by decide +kernel
theorem dX7_addPiece_90 : decode cX7_addPiece 90 = .ok (.iload_n 1, 1) := by decide +kernel
theorem dX7_addPiece_91 : decode cX7_addPiece 91 = .ok (.iload_n 2, 1) := by decide +kernel
theorem dX7_addPiece_92 : decode cX7_addPiece 92 = .ok (.iload_n 3, 1) := by decide +kernel
theorem dX7_addPiece_93 : decode cX7_addPiece 93 = .ok (.iload 4, 2) := by decide +kernel
theorem dX7_addPiece_95 : decode cX7_addPiece 95 = .ok (.invokevirtual 83, 3) := by decide +kernel
theorem dX7_addPiece_98 : decode cX7_addPiece 98 = .ok (.ireturn, 1) := by decide +kernel
set_option maxHeartbeats 4000000 in
set_option maxRecDepth 100000 in
theorem mX7_addPiece {D : va_G} {U : zz_U} {ad : Nat → Nat} {X : va_W} (σ : zz_St) (file_ : Int32) (line_ : Int32) (added_ : Int32) (taken_ : Int32) (r : ((Int32 ⊕ String) × zz_St)) (hf : fX7_addPiece σ file_ line_ added_ taken_ = some r) : zz_Met yX7_addPiece (.code yX7_addPiece cX7_addPiece 5 (some .int)) 6 1 6 D U [.ref (ad 0), .int file_, .int line_, .int added_, .int taken_] (zz_wc U ad σ X) (match r.1 with | .inl x => zz_ok (some (.int x)) (zz_wc U ad r.2 X) | .inr _ => zz_none) (match r.1 with | .inl _ => zz_noth | .inr E => zz_th E (zz_wc U ad r.2 X)) := by
  unfold fX7_addPiece at hf
  refine zz_method RX7 rfl (by decide +kernel) (Nat.le_of_ble_eq_true rfl) ?_
  intro p l e s m args below meth c A _ C
  refine zz_lvs (lv1 := [(0, .ref (ad 0)), (1, .int file_), (2, .int line_), (3, .int added_), (4, .int taken_)]) rfl ?_
  obtain ⟨b1, h2, hf⟩ := zz_bind hf
  refine zz_cutI (P := b1 = true) 19 [(0, .ref (ad 0)), (1, .int file_), (2, .int line_), (3, .int added_), (4, .int taken_)] [] (zz_wc U ad σ X) (fun g5 => ?_) (fun J3 => ?_)
  · rw [if_pos g5] at hf
    cases hf
    exact zz_throwS (cls := "java/lang/IllegalArgumentException") (text := "no such file or line") C zt_0 (by decide +kernel) dX7_addPiece_19 dX7_addPiece_22 dX7_addPiece_23 dX7_addPiece_25 dX7_addPiece_28 (by decide) (Nat.le_of_ble_eq_true rfl) (Nat.le_of_ble_eq_true rfl) (Nat.le_of_ble_eq_true rfl) (Nat.le_of_ble_eq_true rfl) (Nat.le_of_ble_eq_true rfl) (And.intro rfl rfl)
  refine zz_cutI (P := b1 = false) 29 [(0, .ref (ad 0)), (1, .int file_), (2, .int line_), (3, .int added_), (4, .int taken_)] [] (zz_wc U ad σ X) (fun g5 => ?_) (fun J4 => ?_)
  · rw [if_neg (show ¬ b1 = true by rw [g5]; decide)] at hf
    obtain ⟨b12, h13, hf⟩ := zz_bind hf
    refine zz_cutI (P := b12 = true) 50 [(0, .ref (ad 0)), (1, .int file_), (2, .int line_), (3, .int added_), (4, .int taken_)] [] (zz_wc U ad σ X) (fun g16 => ?_) (fun J14 => ?_)
    · rw [if_pos g16] at hf
      cases hf
      exact zz_throwS (cls := "java/lang/IllegalArgumentException") (text := "no such number of lines") C zt_0 (by decide +kernel) dX7_addPiece_50 dX7_addPiece_53 dX7_addPiece_54 dX7_addPiece_56 dX7_addPiece_59 (by decide) (Nat.le_of_ble_eq_true rfl) (Nat.le_of_ble_eq_true rfl) (Nat.le_of_ble_eq_true rfl) (Nat.le_of_ble_eq_true rfl) (Nat.le_of_ble_eq_true rfl) (And.intro rfl rfl)
    refine zz_cutI (P := b12 = false) 60 [(0, .ref (ad 0)), (1, .int file_), (2, .int line_), (3, .int added_), (4, .int taken_)] [] (zz_wc U ad σ X) (fun g16 => ?_) (fun J15 => ?_)
    · rw [if_neg (show ¬ b12 = true by rw [g16]; decide)] at hf
      refine zz_aload_n C 0 dX7_addPiece_60 rfl rfl ?_
      refine zf7_pieces C dX7_addPiece_61 zw_10 ?_
      refine zf5_count C dX7_addPiece_64 zw_12 ?_
      refine zz_bipush (v := (14 : Int32)) C dX7_addPiece_67 (by decide) ?_
      refine zz_icmp_lt (tgt := 82) C dX7_addPiece_69 (by decide) (fun g23 => ?_) (fun g23 => ?_)
      · rw [if_pos g23] at hf
        refine zz_aload_n C 0 dX7_addPiece_82 rfl rfl ?_
        obtain ⟨x24, h25, hf⟩ := zz_bind hf
        refine zz_callV1 (As := []) (rest := []) C 0 (mX7_forgetResults σ x24 h25) dX7_addPiece_83 rfl rfl rfl zw_11 zy_X7_forgetResults rfl (by decide) (by decide) (Nat.le_of_ble_eq_true rfl) (Nat.le_of_ble_eq_true rfl) (Nat.le_of_ble_eq_true rfl) rfl ?_
        refine zz_aload_n C 0 dX7_addPiece_86 rfl rfl ?_
        refine zf7_pieces C dX7_addPiece_87 zw_10 ?_
        refine zz_iload_n C 1 dX7_addPiece_90 rfl rfl ?_
        refine zz_iload_n C 2 dX7_addPiece_91 rfl rfl ?_
        refine zz_iload_n C 3 dX7_addPiece_92 rfl rfl ?_
        refine zz_iload C 4 dX7_addPiece_93 rfl ?_
        obtain ⟨x26, h27, hf⟩ := zz_bind hf
        refine zz_callV1 (As := [.int file_, .int line_, .int added_, .int taken_]) (rest := []) C 1 (mX5_append x24 file_ line_ added_ taken_ x26 h27) dX7_addPiece_95 rfl rfl rfl zw_9 zy_X5_append rfl (by decide) (by decide) (Nat.le_of_ble_eq_true rfl) (Nat.le_of_ble_eq_true rfl) (Nat.le_of_ble_eq_true rfl) rfl ?_
        cases hf
        exact zz_iret C dX7_addPiece_98 (And.intro rfl rfl) (Nat.le_of_ble_eq_true rfl) (Nat.le_of_ble_eq_true rfl)
      · rw [if_neg g23] at hf
        cases hf
        exact zz_throwS (cls := "java/lang/IllegalStateException") (text := "no room for another piece") C zt_1 (by decide +kernel) dX7_addPiece_72 dX7_addPiece_75 dX7_addPiece_76 dX7_addPiece_78 dX7_addPiece_81 (by decide) (Nat.le_of_ble_eq_true rfl) (Nat.le_of_ble_eq_true rfl) (Nat.le_of_ble_eq_true rfl) (Nat.le_of_ble_eq_true rfl) (Nat.le_of_ble_eq_true rfl) (And.intro rfl rfl)
    refine zz_iload_n C 3 dX7_addPiece_29 rfl rfl ?_
    refine zz_sipush (v := (999 : Int32)) C dX7_addPiece_30 (by decide) ?_
    obtain ⟨x17, h18, h13⟩ := zz_bind h13
    refine zz_callS1 (As := [.int added_, .int (999 : Int32)]) (rest := []) C (mX7_isUpTo σ added_ (999 : Int32) x17 h18) dX7_addPiece_33 rfl zw_0 zy_X7_isUpTo rfl (by decide) (by decide) (Nat.le_of_ble_eq_true rfl) (Nat.le_of_ble_eq_true rfl) (Nat.le_of_ble_eq_true rfl) rfl ?_
    refine zz_if_eq (tgt := 50) C dX7_addPiece_36 (by decide) (fun g19 => ?_) (fun g19 => ?_)
    · rw [if_pos g19] at h13
      cases h13
      exact J14 rfl
    · rw [if_neg g19] at h13
      refine zz_iload C 4 dX7_addPiece_39 rfl ?_
      refine zz_sipush (v := (999 : Int32)) C dX7_addPiece_41 (by decide) ?_
      obtain ⟨x20, h21, h13⟩ := zz_bind h13
      refine zz_callS1 (As := [.int taken_, .int (999 : Int32)]) (rest := []) C (mX7_isUpTo σ taken_ (999 : Int32) x20 h21) dX7_addPiece_44 rfl zw_0 zy_X7_isUpTo rfl (by decide) (by decide) (Nat.le_of_ble_eq_true rfl) (Nat.le_of_ble_eq_true rfl) (Nat.le_of_ble_eq_true rfl) rfl ?_
      refine zz_if_ne (tgt := 60) C dX7_addPiece_47 (by decide) (fun g22 => ?_) (fun g22 => ?_)
      · rw [if_neg g22] at h13
        cases h13
        exact J15 rfl
      · rw [if_pos g22] at h13
        cases h13
        exact J14 rfl
  refine zz_iload_n C 1 dX7_addPiece_0 rfl rfl ?_
  refine zz_bipush (v := (9 : Int32)) C dX7_addPiece_1 (by decide) ?_
  obtain ⟨x6, h7, h2⟩ := zz_bind h2
  refine zz_callS1 (As := [.int file_, .int (9 : Int32)]) (rest := []) C (mX7_isUpTo σ file_ (9 : Int32) x6 h7) dX7_addPiece_3 rfl zw_0 zy_X7_isUpTo rfl (by decide) (by decide) (Nat.le_of_ble_eq_true rfl) (Nat.le_of_ble_eq_true rfl) (Nat.le_of_ble_eq_true rfl) rfl ?_
  refine zz_if_eq (tgt := 19) C dX7_addPiece_6 (by decide) (fun g8 => ?_) (fun g8 => ?_)
  · rw [if_pos g8] at h2
    cases h2
    exact J3 rfl
  · rw [if_neg g8] at h2
    refine zz_iload_n C 2 dX7_addPiece_9 rfl rfl ?_
    refine zz_sipush (v := (9999 : Int32)) C dX7_addPiece_10 (by decide) ?_
    obtain ⟨x9, h10, h2⟩ := zz_bind h2
    refine zz_callS1 (As := [.int line_, .int (9999 : Int32)]) (rest := []) C (mX7_isUpTo σ line_ (9999 : Int32) x9 h10) dX7_addPiece_13 rfl zw_0 zy_X7_isUpTo rfl (by decide) (by decide) (Nat.le_of_ble_eq_true rfl) (Nat.le_of_ble_eq_true rfl) (Nat.le_of_ble_eq_true rfl) rfl ?_
    refine zz_if_ne (tgt := 29) C dX7_addPiece_16 (by decide) (fun g11 => ?_) (fun g11 => ?_)
    · rw [if_neg g11] at h2
      cases h2
      exact J4 rfl
    · rw [if_pos g11] at h2
      cases h2
      exact J3 rfl
theorem mX7_addPiece_r {D : va_G} {U : zz_U} {ad : Nat → Nat} {X : va_W} (σ : zz_St) (file_ : Int32) (line_ : Int32) (added_ : Int32) (taken_ : Int32) (x : Int32) (σ1 : zz_St) (hf : fX7_addPiece σ file_ line_ added_ taken_ = some (.inl x, σ1)) : zz_Met yX7_addPiece (.code yX7_addPiece cX7_addPiece 5 (some .int)) 6 1 6 D U [.ref (ad 0), .int file_, .int line_, .int added_, .int taken_] (zz_wc U ad σ X) (zz_ok (some (.int x)) (zz_wc U ad σ1 X)) zz_noth := mX7_addPiece σ file_ line_ added_ taken_ (.inl x, σ1) hf
theorem mX7_addPiece_x {D : va_G} {U : zz_U} {ad : Nat → Nat} {X : va_W} (σ : zz_St) (file_ : Int32) (line_ : Int32) (added_ : Int32) (taken_ : Int32) (x : String) (σ1 : zz_St) (hf : fX7_addPiece σ file_ line_ added_ taken_ = some (.inr x, σ1)) : zz_Met yX7_addPiece (.code yX7_addPiece cX7_addPiece 5 (some .int)) 6 1 6 D U [.ref (ad 0), .int file_, .int line_, .int added_, .int taken_] (zz_wc U ad σ X) zz_none (zz_th x (zz_wc U ad σ1 X)) := mX7_addPiece σ file_ line_ added_ taken_ (.inr x, σ1) hf
theorem dX5_has_0 : decode cX5_has 0 = .ok (.iload_n 1, 1) := by decide +kernel
theorem dX5_has_1 : decode cX5_has 1 = .ok (.ifCond .lt 15, 3) := by decide +kernel
theorem dX5_has_4 : decode cX5_has 4 = .ok (.iload_n 1, 1) := by decide +kernel
theorem dX5_has_5 : decode cX5_has 5 = .ok (.aload_n 0, 1) := by decide +kernel
theorem dX5_has_6 : decode cX5_has 6 = .ok (.getfield 35, 3) := by decide +kernel
theorem dX5_has_9 : decode cX5_has 9 = .ok (.if_icmp .ge 7, 3) := by decide +kernel
theorem dX5_has_12 : decode cX5_has 12 = .ok (.iconst 1, 1) := by decide +kernel
theorem dX5_has_13 : decode cX5_has 13 = .ok (.goto 4, 3) := by decide +kernel
theorem dX5_has_16 : decode cX5_has 16 = .ok (.iconst 0, 1) := by decide +kernel
theorem dX5_has_17 : decode cX5_has 17 = .ok (.ireturn, 1) := by decide +kernel
set_option maxHeartbeats 4000000 in
set_option maxRecDepth 100000 in
theorem mX5_has {D : va_G} {U : zz_U} {ad : Nat → Nat} {X : va_W} (σ : zz_St) (piece_ : Int32) (r : Int32) (hf : fX5_has σ piece_ = some r) : zz_Met yX5_has (.code yX5_has cX5_has 2 (some .boolean)) 0 0 0 D U [.ref (ad 1), .int piece_] (zz_wc U ad σ X) (zz_ok (some (.int r)) (zz_wc U ad σ X)) zz_noth := by
  unfold fX5_has at hf
  refine zz_method RX5 rfl (by decide +kernel) (Nat.le_of_ble_eq_true rfl) ?_
  intro p l e s m args below meth c A _ C
  refine zz_lvs (lv1 := [(0, .ref (ad 1)), (1, .int piece_)]) rfl ?_
  obtain ⟨b1, h2, hf⟩ := zz_bind hf
  refine zz_cut 17 [(0, .ref (ad 1)), (1, .int piece_)] [.int (zz_bi b1)] (zz_wc U ad σ X) ?_ (fun J3 => ?_)
  · cases hf
    exact zz_zret C dX5_has_17 (zz_bi01 _) (And.intro rfl rfl) (Nat.le_of_ble_eq_true rfl) (Nat.le_of_ble_eq_true rfl)
  refine zz_iload_n C 1 dX5_has_0 rfl rfl ?_
  refine zz_if_lt (tgt := 16) C dX5_has_1 (by decide) (fun g4 => ?_) (fun g4 => ?_)
  · rw [if_pos g4] at h2
    refine zz_iconst (v := 0) C dX5_has_16 (by decide) ?_
    cases h2
    exact J3
  · rw [if_neg g4] at h2
    refine zz_iload_n C 1 dX5_has_4 rfl rfl ?_
    refine zz_aload_n C 0 dX5_has_5 rfl rfl ?_
    refine zf5_count C dX5_has_6 zw_3 ?_
    refine zz_icmp_ge (tgt := 16) C dX5_has_9 (by decide) (fun g5 => ?_) (fun g5 => ?_)
    · rw [if_pos g5] at h2
      refine zz_iconst (v := 0) C dX5_has_16 (by decide) ?_
      cases h2
      exact J3
    · rw [if_neg g5] at h2
      refine zz_iconst (v := 1) C dX5_has_12 (by decide) ?_
      refine zz_goto (tgt := 17) C dX5_has_13 (by decide) ?_
      cases h2
      exact J3
theorem dX7_requirePiece_0 : decode cX7_requirePiece 0 = .ok (.aload_n 0, 1) := by decide +kernel
theorem dX7_requirePiece_1 : decode cX7_requirePiece 1 = .ok (.getfield 12, 3) := by decide +kernel
theorem dX7_requirePiece_4 : decode cX7_requirePiece 4 = .ok (.iload_n 1, 1) := by decide +kernel
theorem dX7_requirePiece_5 : decode cX7_requirePiece 5 = .ok (.invokevirtual 296, 3) := by decide +kernel
theorem dX7_requirePiece_8 : decode cX7_requirePiece 8 = .ok (.ifCond .ne 14, 3) := by decide +kernel
theorem dX7_requirePiece_11 : decode cX7_requirePiece 11 = .ok (.new 102, 3) := by decide +kernel
theorem dX7_requirePiece_14 : decode cX7_requirePiece 14 = .ok (.dup, 1) := by decide +kernel
theorem dX7_requirePiece_15 : decode cX7_requirePiece 15 = .ok (.ldc_w 300, 3) := by decide +kernel
theorem dX7_requirePiece_18 : decode cX7_requirePiece 18 = .ok (.invokespecial 106, 3) := by decide +kernel
theorem dX7_requirePiece_21 : decode cX7_requirePiece 21 = .ok (.athrow, 1) := by decide +kernel
theorem dX7_requirePiece_22 : decode cX7_requirePiece 22 = .ok (.return_, 1) := by decide +kernel
set_option maxHeartbeats 4000000 in
set_option maxRecDepth 100000 in
theorem mX7_requirePiece {D : va_G} {U : zz_U} {ad : Nat → Nat} {X : va_W} (σ : zz_St) (piece_ : Int32) (r : (Unit ⊕ String)) (hf : fX7_requirePiece σ piece_ = some r) : zz_Met yX7_requirePiece (.code yX7_requirePiece cX7_requirePiece 2 none) 6 1 6 D U [.ref (ad 0), .int piece_] (zz_wc U ad σ X) (match r with | .inl _ => zz_ok none (zz_wc U ad σ X) | .inr _ => zz_none) (match r with | .inl _ => zz_noth | .inr E => zz_th E (zz_wc U ad σ X)) := by
  unfold fX7_requirePiece at hf
  refine zz_method RX7 rfl (by decide +kernel) (Nat.le_of_ble_eq_true rfl) ?_
  intro p l e s m args below meth c A _ C
  refine zz_lvs (lv1 := [(0, .ref (ad 0)), (1, .int piece_)]) rfl ?_
  refine zz_aload_n C 0 dX7_requirePiece_0 rfl rfl ?_
  refine zf7_pieces C dX7_requirePiece_1 zw_10 ?_
  refine zz_iload_n C 1 dX7_requirePiece_4 rfl rfl ?_
  obtain ⟨x1, h2, hf⟩ := zz_bind hf
  refine zz_callV1 (As := [.int piece_]) (rest := []) C 1 (mX5_has σ piece_ x1 h2) dX7_requirePiece_5 rfl rfl rfl zw_13 zy_X5_has rfl (by decide) (by decide) (Nat.le_of_ble_eq_true rfl) (Nat.le_of_ble_eq_true rfl) (Nat.le_of_ble_eq_true rfl) rfl ?_
  refine zz_if_ne (tgt := 22) C dX7_requirePiece_8 (by decide) (fun g3 => ?_) (fun g3 => ?_)
  · rw [if_neg g3] at hf
    cases hf
    exact zz_vret C dX7_requirePiece_22 (And.intro rfl rfl) (Nat.le_of_ble_eq_true rfl) (Nat.le_of_ble_eq_true rfl)
  · rw [if_pos g3] at hf
    cases hf
    exact zz_throwSW (cls := "java/lang/IndexOutOfBoundsException") (text := "no such piece") C zt_2 (by decide +kernel) dX7_requirePiece_11 dX7_requirePiece_14 dX7_requirePiece_15 dX7_requirePiece_18 dX7_requirePiece_21 (by decide) (Nat.le_of_ble_eq_true rfl) (Nat.le_of_ble_eq_true rfl) (Nat.le_of_ble_eq_true rfl) (Nat.le_of_ble_eq_true rfl) (Nat.le_of_ble_eq_true rfl) (And.intro rfl rfl)
theorem mX7_requirePiece_r {D : va_G} {U : zz_U} {ad : Nat → Nat} {X : va_W} (σ : zz_St) (piece_ : Int32) (x : Unit) (hf : fX7_requirePiece σ piece_ = some (.inl x)) : zz_Met yX7_requirePiece (.code yX7_requirePiece cX7_requirePiece 2 none) 6 1 6 D U [.ref (ad 0), .int piece_] (zz_wc U ad σ X) (zz_ok none (zz_wc U ad σ X)) zz_noth := mX7_requirePiece σ piece_ (.inl x) hf
theorem mX7_requirePiece_x {D : va_G} {U : zz_U} {ad : Nat → Nat} {X : va_W} (σ : zz_St) (piece_ : Int32) (E : String) (hf : fX7_requirePiece σ piece_ = some (.inr E)) : zz_Met yX7_requirePiece (.code yX7_requirePiece cX7_requirePiece 2 none) 6 1 6 D U [.ref (ad 0), .int piece_] (zz_wc U ad σ X) zz_none (zz_th E (zz_wc U ad σ X)) := mX7_requirePiece σ piece_ (.inr E) hf
theorem dX7_requireSet_0 : decode cX7_requireSet 0 = .ok (.aload_n 0, 1) := by decide +kernel
theorem dX7_requireSet_1 : decode cX7_requireSet 1 = .ok (.iload_n 1, 1) := by decide +kernel
theorem dX7_requireSet_2 : decode cX7_requireSet 2 = .ok (.invokevirtual 136, 3) := by decide +kernel
theorem dX7_requireSet_5 : decode cX7_requireSet 5 = .ok (.iload_n 2, 1) := by decide +kernel
theorem dX7_requireSet_6 : decode cX7_requireSet 6 = .ok (.ifCond .lt 8, 3) := by decide +kernel
theorem dX7_requireSet_9 : decode cX7_requireSet 9 = .ok (.iload_n 2, 1) := by decide +kernel
theorem dX7_requireSet_10 : decode cX7_requireSet 10 = .ok (.iconst 4, 1) := by decide +kernel
theorem dX7_requireSet_11 : decode cX7_requireSet 11 = .ok (.if_icmp .lt 14, 3) := by decide +kernel
theorem dX7_requireSet_14 : decode cX7_requireSet 14 = .ok (.new 102, 3) := by decide +kernel
theorem dX7_requireSet_17 : decode cX7_requireSet 17 = .ok (.dup, 1) := by decide +kernel
theorem dX7_requireSet_18 : decode cX7_requireSet 18 = .ok (.ldc_w 302, 3) := by decide +kernel
theorem dX7_requireSet_21 : decode cX7_requireSet 21 = .ok (.invokespecial 106, 3) := by decide +kernel
theorem dX7_requireSet_24 : decode cX7_requireSet 24 = .ok (.athrow, 1) := by decide +kernel
theorem dX7_requireSet_25 : decode cX7_requireSet 25 = .ok (.return_, 1) := by decide +kernel
set_option maxHeartbeats 4000000 in
set_option maxRecDepth 100000 in
theorem mX7_requireSet {D : va_G} {U : zz_U} {ad : Nat → Nat} {X : va_W} (σ : zz_St) (piece_ : Int32) (what_ : Int32) (r : (Unit ⊕ String)) (hf : fX7_requireSet σ piece_ what_ = some r) : zz_Met yX7_requireSet (.code yX7_requireSet cX7_requireSet 3 none) 7 2 12 D U [.ref (ad 0), .int piece_, .int what_] (zz_wc U ad σ X) (match r with | .inl _ => zz_ok none (zz_wc U ad σ X) | .inr _ => zz_none) (match r with | .inl _ => zz_noth | .inr E => zz_th E (zz_wc U ad σ X)) := by
  unfold fX7_requireSet at hf
  refine zz_method RX7 rfl (by decide +kernel) (Nat.le_of_ble_eq_true rfl) ?_
  intro p l e s m args below meth c A _ C
  refine zz_lvs (lv1 := [(0, .ref (ad 0)), (1, .int piece_), (2, .int what_)]) rfl ?_
  refine zz_aload_n C 0 dX7_requireSet_0 rfl rfl ?_
  refine zz_iload_n C 1 dX7_requireSet_1 rfl rfl ?_
  obtain ⟨x1, h2, hf⟩ := zz_bind hf
  rcases x1 with x1 | E3
  · refine zz_callV1 (As := [.int piece_]) (rest := []) C 0 (mX7_requirePiece_r σ piece_ x1 h2) dX7_requireSet_2 rfl rfl rfl zw_14 zy_X7_requirePiece rfl (by decide) (by decide) (Nat.le_of_ble_eq_true rfl) (Nat.le_of_ble_eq_true rfl) (Nat.le_of_ble_eq_true rfl) rfl ?_
    obtain ⟨b4, h5, hf⟩ := zz_bind hf
    refine zz_cutI (P := b4 = true) 14 [(0, .ref (ad 0)), (1, .int piece_), (2, .int what_)] [] (zz_wc U ad σ X) (fun g8 => ?_) (fun J6 => ?_)
    · rw [if_pos g8] at hf
      cases hf
      exact zz_throwSW (cls := "java/lang/IndexOutOfBoundsException") (text := "no such set of names of a piece") C zt_2 (by decide +kernel) dX7_requireSet_14 dX7_requireSet_17 dX7_requireSet_18 dX7_requireSet_21 dX7_requireSet_24 (by decide) (Nat.le_of_ble_eq_true rfl) (Nat.le_of_ble_eq_true rfl) (Nat.le_of_ble_eq_true rfl) (Nat.le_of_ble_eq_true rfl) (Nat.le_of_ble_eq_true rfl) (And.intro rfl rfl)
    refine zz_cutI (P := b4 = false) 25 [(0, .ref (ad 0)), (1, .int piece_), (2, .int what_)] [] (zz_wc U ad σ X) (fun g8 => ?_) (fun J7 => ?_)
    · rw [if_neg (show ¬ b4 = true by rw [g8]; decide)] at hf
      cases hf
      exact zz_vret C dX7_requireSet_25 (And.intro rfl rfl) (Nat.le_of_ble_eq_true rfl) (Nat.le_of_ble_eq_true rfl)
    refine zz_iload_n C 2 dX7_requireSet_5 rfl rfl ?_
    refine zz_if_lt (tgt := 14) C dX7_requireSet_6 (by decide) (fun g9 => ?_) (fun g9 => ?_)
    · rw [if_pos g9] at h5
      cases h5
      exact J6 rfl
    · rw [if_neg g9] at h5
      refine zz_iload_n C 2 dX7_requireSet_9 rfl rfl ?_
      refine zz_iconst (v := (4 : Int32)) C dX7_requireSet_10 (by decide) ?_
      refine zz_icmp_lt (tgt := 25) C dX7_requireSet_11 (by decide) (fun g10 => ?_) (fun g10 => ?_)
      · rw [if_pos g10] at h5
        cases h5
        exact J7 rfl
      · rw [if_neg g10] at h5
        cases h5
        exact J6 rfl
  · refine zz_callVx (As := [.int piece_]) (rest := []) C 0 (mX7_requirePiece_x σ piece_ E3 h2) dX7_requireSet_2 rfl rfl rfl zw_14 zy_X7_requirePiece rfl (by decide) (by decide) (Nat.le_of_ble_eq_true rfl) (Nat.le_of_ble_eq_true rfl) (Nat.le_of_ble_eq_true rfl) ?_
    cases hf
    exact zz_out C (And.intro rfl rfl) (Nat.le_of_ble_eq_true rfl) (Nat.le_of_ble_eq_true rfl)
theorem mX7_requireSet_r {D : va_G} {U : zz_U} {ad : Nat → Nat} {X : va_W} (σ : zz_St) (piece_ : Int32) (what_ : Int32) (x : Unit) (hf : fX7_requireSet σ piece_ what_ = some (.inl x)) : zz_Met yX7_requireSet (.code yX7_requireSet cX7_requireSet 3 none) 7 2 12 D U [.ref (ad 0), .int piece_, .int what_] (zz_wc U ad σ X) (zz_ok none (zz_wc U ad σ X)) zz_noth := mX7_requireSet σ piece_ what_ (.inl x) hf
theorem mX7_requireSet_x {D : va_G} {U : zz_U} {ad : Nat → Nat} {X : va_W} (σ : zz_St) (piece_ : Int32) (what_ : Int32) (E : String) (hf : fX7_requireSet σ piece_ what_ = some (.inr E)) : zz_Met yX7_requireSet (.code yX7_requireSet cX7_requireSet 3 none) 7 2 12 D U [.ref (ad 0), .int piece_, .int what_] (zz_wc U ad σ X) zz_none (zz_th E (zz_wc U ad σ X)) := mX7_requireSet σ piece_ what_ (.inr E) hf
theorem dX5_replaceNames_0 : decode cX5_replaceNames 0 = .ok (.aload_n 0, 1) := by decide +kernel
theorem dX5_replaceNames_1 : decode cX5_replaceNames 1 = .ok (.getfield 29, 3) := by decide +kernel
theorem dX5_replaceNames_4 : decode cX5_replaceNames 4 = .ok (.iload_n 2, 1) := by decide +kernel
theorem dX5_replaceNames_5 : decode cX5_replaceNames 5 = .ok (.aaload, 1) := by decide +kernel
theorem dX5_replaceNames_6 : decode cX5_replaceNames 6 = .ok (.iload_n 1, 1) := by decide +kernel
theorem dX5_replaceNames_7 : decode cX5_replaceNames 7 = .ok (.iaload, 1) := by decide +kernel
theorem dX5_replaceNames_8 : decode cX5_replaceNames 8 = .ok (.istore 4, 2) := by decide +kernel
theorem dX5_replaceNames_10 : decode cX5_replaceNames 10 = .ok (.aload_n 0, 1) := by decide +kernel
theorem dX5_replaceNames_11 : decode cX5_replaceNames 11 = .ok (.getfield 29, 3) := by decide +kernel
theorem dX5_replaceNames_14 : decode cX5_replaceNames 14 = .ok (.iload_n 2, 1) := by decide +kernel
theorem dX5_replaceNames_15 : decode cX5_replaceNames 15 = .ok (.aaload, 1) := by decide +kernel
theorem dX5_replaceNames_16 : decode cX5_replaceNames 16 = .ok (.iload_n 1, 1) := by decide +kernel
theorem dX5_replaceNames_17 : decode cX5_replaceNames 17 = .ok (.iload_n 3, 1) := by decide +kernel
theorem dX5_replaceNames_18 : decode cX5_replaceNames 18 = .ok (.iastore, 1) := by decide +kernel
theorem dX5_replaceNames_19 : decode cX5_replaceNames 19 = .ok (.iconst 0, 1) := by decide +kernel
theorem dX5_replaceNames_20 : decode cX5_replaceNames 20 = .ok (.istore 5, 2) := by decide +kernel
theorem dX5_replaceNames_22 : decode cX5_replaceNames 22 = .ok (.iload 5, 2) := by decide +kernel
theorem dX5_replaceNames_24 : decode cX5_replaceNames 24 = .ok (.bipush 16, 2) := by decide +kernel
theorem dX5_replaceNames_26 : decode cX5_replaceNames 26 = .ok (.if_icmp .ge 46, 3) := by decide +kernel
theorem dX5_replaceNames_29 : decode cX5_replaceNames 29 = .ok (.aload_n 0, 1) := by decide +kernel
theorem dX5_replaceNames_30 : decode cX5_replaceNames 30 = .ok (.getfield 32, 3) := by decide +kernel
theorem dX5_replaceNames_33 : decode cX5_replaceNames 33 = .ok (.iload_n 2, 1) := by decide +kernel
theorem dX5_replaceNames_34 : decode cX5_replaceNames 34 = .ok (.aaload, 1) := by decide +kernel
theorem dX5_replaceNames_35 : decode cX5_replaceNames 35 = .ok (.iload 5, 2) := by decide +kernel
theorem dX5_replaceNames_37 : decode cX5_replaceNames 37 = .ok (.iaload, 1) := by decide +kernel
theorem dX5_replaceNames_38 : decode cX5_replaceNames 38 = .ok (.iconst 1, 1) := by decide +kernel
theorem dX5_replaceNames_39 : decode cX5_replaceNames 39 = .ok (.iload_n 1, 1) := by decide +kernel
theorem dX5_replaceNames_40 : decode cX5_replaceNames 40 = .ok (.ishl, 1) := by decide +kernel
theorem dX5_replaceNames_41 : decode cX5_replaceNames 41 = .ok (.iconst (-1), 1) := by decide +kernel
theorem dX5_replaceNames_42 : decode cX5_replaceNames 42 = .ok (.ixor, 1) := by decide +kernel
theorem dX5_replaceNames_43 : decode cX5_replaceNames 43 = .ok (.iand, 1) := by decide +kernel
theorem dX5_replaceNames_44 : decode cX5_replaceNames 44 = .ok (.istore 6, 2) := by decide +kernel
theorem dX5_replaceNames_46 : decode cX5_replaceNames 46 = .ok (.aload_n 0, 1) := by decide +kernel
theorem dX5_replaceNames_47 : decode cX5_replaceNames 47 = .ok (.getfield 32, 3) := by decide +kernel
theorem dX5_replaceNames_50 : decode cX5_replaceNames 50 = .ok (.iload_n 2, 1) := by decide +kernel
theorem dX5_replaceNames_51 : decode cX5_replaceNames 51 = .ok (.aaload, 1) := by decide +kernel
theorem dX5_replaceNames_52 : decode cX5_replaceNames 52 = .ok (.iload 5, 2) := by decide +kernel
theorem dX5_replaceNames_54 : decode cX5_replaceNames 54 = .ok (.iload 6, 2) := by decide +kernel
theorem dX5_replaceNames_56 : decode cX5_replaceNames 56 = .ok (.iload_n 3, 1) := by decide +kernel
theorem dX5_replaceNames_57 : decode cX5_replaceNames 57 = .ok (.iload 5, 2) := by decide +kernel
theorem dX5_replaceNames_59 : decode cX5_replaceNames 59 = .ok (.ishr, 1) := by decide +kernel
theorem dX5_replaceNames_60 : decode cX5_replaceNames 60 = .ok (.iconst 1, 1) := by decide +kernel
theorem dX5_replaceNames_61 : decode cX5_replaceNames 61 = .ok (.iand, 1) := by decide +kernel
theorem dX5_replaceNames_62 : decode cX5_replaceNames 62 = .ok (.iload_n 1, 1) := by decide +kernel
theorem dX5_replaceNames_63 : decode cX5_replaceNames 63 = .ok (.ishl, 1) := by decide +kernel
theorem dX5_replaceNames_64 : decode cX5_replaceNames 64 = .ok (.ior, 1) := by decide +kernel
theorem dX5_replaceNames_65 : decode cX5_replaceNames 65 = .ok (.iastore, 1) := by decide +kernel
theorem dX5_replaceNames_66 : decode cX5_replaceNames 66 = .ok (.iinc 5 1, 3) := by decide +kernel
theorem dX5_replaceNames_69 : decode cX5_replaceNames 69 = .ok (.goto (-47), 3) := by decide +kernel
theorem dX5_replaceNames_72 : decode cX5_replaceNames 72 = .ok (.iload 4, 2) := by decide +kernel
theorem dX5_replaceNames_74 : decode cX5_replaceNames 74 = .ok (.ireturn, 1) := by decide +kernel
set_option maxHeartbeats 4000000 in
set_option maxRecDepth 100000 in
theorem mX5_replaceNames_L1 {p : Program} {l : Launch} {e : Env} {R : Room} {s : State} {m : MethodId} {args : Array Value} {below : List Frame} {meth : Method} {c : Code} {Q : State → Prop} {D : va_G} {U : zz_U} {A : Nat → Prop} {cells slots : Nat} {ad : Nat → Nat} {X : va_W} (C : zz_C p l R s m meth c D U A RX5 cX5_replaceNames 7 (some .int) [] 0) (hcR : cells ≤ R.cells) (hsR : slots ≤ R.slots) (piece_ : Int32) (what_ : Int32) (names_ : Int32) (before_ : Int32) : ∀ (n : Nat) (name_ : Int32) (σ : zz_St) (q : (Int32 × zz_St)), fX5_replaceNames_L1 piece_ what_ names_ before_ n name_ σ = some q → (zz_Z p l e R s m args below meth c Q D A 7 cells slots (zz_wc U ad q.2 X) 72 [(0, .ref (ad 1)), (1, .int piece_), (2, .int what_), (3, .int names_), (4, .int before_), (5, .int q.1)] []) → zz_Z p l e R s m args below meth c Q D A 7 cells slots (zz_wc U ad σ X) 22 [(0, .ref (ad 1)), (1, .int piece_), (2, .int what_), (3, .int names_), (4, .int before_), (5, .int name_)] [] := by
  intro n
  induction n with
  | zero => intro name_ σ q hf; rw [fX5_replaceNames_L1] at hf; cases hf
  | succ n ih =>
    intro name_ σ q hf kx
    rw [fX5_replaceNames_L1] at hf
    refine zz_iload C 5 dX5_replaceNames_22 rfl ?_
    refine zz_bipush (v := (16 : Int32)) C dX5_replaceNames_24 (by decide) ?_
    refine zz_icmp_ge (tgt := 72) C dX5_replaceNames_26 (by decide) (fun g9 => ?_) (fun g9 => ?_)
    · rw [if_pos g9] at hf
      cases hf
      exact kx
    · rw [if_neg g9] at hf
      refine zz_aload_n C 0 dX5_replaceNames_29 rfl rfl ?_
      refine zf5_piecesWith C dX5_replaceNames_30 zw_16 ?_
      refine zz_iload_n C 2 dX5_replaceNames_33 rfl rfl ?_
      obtain ⟨x10, h11, hf⟩ := zz_bind hf
      refine zr_12 C dX5_replaceNames_34 h11 ?_
      refine zz_iload C 5 dX5_replaceNames_35 rfl ?_
      obtain ⟨x12, h13, hf⟩ := zz_bind hf
      refine zl_12 C dX5_replaceNames_37 h11 h13 ?_
      refine zz_iconst (v := (1 : Int32)) C dX5_replaceNames_38 (by decide) ?_
      refine zz_iload_n C 1 dX5_replaceNames_39 rfl rfl ?_
      refine zz_ishl C dX5_replaceNames_40 ?_
      refine zz_iconst (v := (-1 : Int32)) C dX5_replaceNames_41 (by decide) ?_
      refine zz_ixor C dX5_replaceNames_42 ?_
      refine zz_iand C dX5_replaceNames_43 ?_
      obtain ⟨x14, h15, hf⟩ := zz_bind hf
      refine zz_topi (Option.some.inj h15) ?_
      refine zz_istore C dX5_replaceNames_44 (by decide) (lv' := [(6, .int x14), (0, .ref (ad 1)), (1, .int piece_), (2, .int what_), (3, .int names_), (4, .int before_), (5, .int name_)]) rfl ?_
      refine zz_aload_n C 1 dX5_replaceNames_46 rfl rfl ?_
      refine zf5_piecesWith C dX5_replaceNames_47 zw_16 ?_
      refine zz_iload_n C 3 dX5_replaceNames_50 rfl rfl ?_
      obtain ⟨x16, h17, hf⟩ := zz_bind hf
      refine zr_12 C dX5_replaceNames_51 h17 ?_
      refine zz_iload C 6 dX5_replaceNames_52 rfl ?_
      refine zz_iload C 0 dX5_replaceNames_54 rfl ?_
      refine zz_iload_n C 4 dX5_replaceNames_56 rfl rfl ?_
      refine zz_iload C 6 dX5_replaceNames_57 rfl ?_
      refine zz_ishr C dX5_replaceNames_59 ?_
      refine zz_iconst (v := (1 : Int32)) C dX5_replaceNames_60 (by decide) ?_
      refine zz_iand C dX5_replaceNames_61 ?_
      refine zz_iload_n C 2 dX5_replaceNames_62 rfl rfl ?_
      refine zz_ishl C dX5_replaceNames_63 ?_
      refine zz_ior C dX5_replaceNames_64 ?_
      obtain ⟨σ18, h19, hf⟩ := zz_bind hf
      refine zs_12 C dX5_replaceNames_65 h17 h19 ?_
      refine zz_iinc (v := (name_ + (1 : Int32))) C 6 dX5_replaceNames_66 rfl (by rfl) (by decide) (lv' := [(5, .int (name_ + (1 : Int32))), (6, .int x14), (0, .ref (ad 1)), (1, .int piece_), (2, .int what_), (3, .int names_), (4, .int before_)]) rfl ?_
      refine zz_goto (tgt := 22) C dX5_replaceNames_69 (by decide) ?_
      refine zz_sub [2, 3, 4, 5, 6, 0] rfl ?_
      exact ih (name_ + (1 : Int32)) σ18 _ hf kx
set_option maxHeartbeats 4000000 in
set_option maxRecDepth 100000 in
theorem mX5_replaceNames {D : va_G} {U : zz_U} {ad : Nat → Nat} {X : va_W} (σ : zz_St) (piece_ : Int32) (what_ : Int32) (names_ : Int32) (r : (Int32 × zz_St)) (hf : fX5_replaceNames σ piece_ what_ names_ = some r) : zz_Met yX5_replaceNames (.code yX5_replaceNames cX5_replaceNames 7 (some .int)) 0 0 0 D U [.ref (ad 1), .int piece_, .int what_, .int names_] (zz_wc U ad σ X) (zz_ok (some (.int r.1)) (zz_wc U ad r.2 X)) zz_noth := by
  unfold fX5_replaceNames at hf
  refine zz_method RX5 rfl (by decide +kernel) (Nat.le_of_ble_eq_true rfl) ?_
  intro p l e s m args below meth c A _ C
  refine zz_lvs (lv1 := [(0, .ref (ad 1)), (1, .int piece_), (2, .int what_), (3, .int names_)]) rfl ?_
  refine zz_aload_n C 0 dX5_replaceNames_0 rfl rfl ?_
  refine zf5_namesOf C dX5_replaceNames_1 zw_17 ?_
  refine zz_iload_n C 2 dX5_replaceNames_4 rfl rfl ?_
  obtain ⟨x1, h2, hf⟩ := zz_bind hf
  refine zr_7 C dX5_replaceNames_5 h2 ?_
  refine zz_iload_n C 1 dX5_replaceNames_6 rfl rfl ?_
  obtain ⟨x3, h4, hf⟩ := zz_bind hf
  refine zl_7 C dX5_replaceNames_7 h2 h4 ?_
  refine zz_istore C dX5_replaceNames_8 (by decide) (lv' := [(4, .int x3), (0, .ref (ad 1)), (1, .int piece_), (2, .int what_), (3, .int names_)]) rfl ?_
  refine zz_aload_n C 1 dX5_replaceNames_10 rfl rfl ?_
  refine zf5_namesOf C dX5_replaceNames_11 zw_17 ?_
  refine zz_iload_n C 3 dX5_replaceNames_14 rfl rfl ?_
  obtain ⟨x5, h6, hf⟩ := zz_bind hf
  refine zr_7 C dX5_replaceNames_15 h6 ?_
  refine zz_iload_n C 2 dX5_replaceNames_16 rfl rfl ?_
  refine zz_iload_n C 4 dX5_replaceNames_17 rfl rfl ?_
  obtain ⟨σ7, h8, hf⟩ := zz_bind hf
  refine zs_7 C dX5_replaceNames_18 h6 h8 ?_
  refine zz_iconst (v := (0 : Int32)) C dX5_replaceNames_19 (by decide) ?_
  refine zz_istore C dX5_replaceNames_20 (by decide) (lv' := [(5, .int (0 : Int32)), (4, .int x3), (0, .ref (ad 1)), (1, .int piece_), (2, .int what_), (3, .int names_)]) rfl ?_
  obtain ⟨q20, h21, hf⟩ := zz_bind hf
  refine zz_sub [2, 3, 4, 5, 1, 0] rfl ?_
  refine mX5_replaceNames_L1 C (Nat.le_of_ble_eq_true rfl) (Nat.le_of_ble_eq_true rfl) piece_ what_ names_ x3 1000 (0 : Int32) σ7 q20 h21 ?_
  refine zz_iload C 4 dX5_replaceNames_72 rfl ?_
  cases hf
  exact zz_iret C dX5_replaceNames_74 (And.intro rfl rfl) (Nat.le_of_ble_eq_true rfl) (Nat.le_of_ble_eq_true rfl)
theorem dX7_setNames_0 : decode cX7_setNames 0 = .ok (.aload_n 0, 1) := by decide +kernel
theorem dX7_setNames_1 : decode cX7_setNames 1 = .ok (.iload_n 1, 1) := by decide +kernel
theorem dX7_setNames_2 : decode cX7_setNames 2 = .ok (.iload_n 2, 1) := by decide +kernel
theorem dX7_setNames_3 : decode cX7_setNames 3 = .ok (.invokevirtual 87, 3) := by decide +kernel
theorem dX7_setNames_6 : decode cX7_setNames 6 = .ok (.iload_n 3, 1) := by decide +kernel
theorem dX7_setNames_7 : decode cX7_setNames 7 = .ok (.ldc 91, 2) := by decide +kernel
theorem dX7_setNames_9 : decode cX7_setNames 9 = .ok (.invokestatic 58, 3) := by decide +kernel
theorem dX7_setNames_12 : decode cX7_setNames 12 = .ok (.ifCond .ne 13, 3) := by decide +kernel
theorem dX7_setNames_15 : decode cX7_setNames 15 = .ok (.new 62, 3) := by decide +kernel
theorem dX7_setNames_18 : decode cX7_setNames 18 = .ok (.dup, 1) := by decide +kernel
theorem dX7_setNames_19 : decode cX7_setNames 19 = .ok (.ldc 92, 2) := by decide +kernel
theorem dX7_setNames_21 : decode cX7_setNames 21 = .ok (.invokespecial 66, 3) := by decide +kernel
theorem dX7_setNames_24 : decode cX7_setNames 24 = .ok (.athrow, 1) := by decide +kernel
theorem dX7_setNames_25 : decode cX7_setNames 25 = .ok (.aload_n 0, 1) := by decide +kernel
theorem dX7_setNames_26 : decode cX7_setNames 26 = .ok (.invokevirtual 80, 3) := by decide +kernel
theorem dX7_setNames_29 : decode cX7_setNames 29 = .ok (.aload_n 0, 1) := by decide +kernel
theorem dX7_setNames_30 : decode cX7_setNames 30 = .ok (.getfield 12, 3) := by decide +kernel
theorem dX7_setNames_33 : decode cX7_setNames 33 = .ok (.iload_n 1, 1) := by decide +kernel
theorem dX7_setNames_34 : decode cX7_setNames 34 = .ok (.iload_n 2, 1) := by decide +kernel
theorem dX7_setNames_35 : decode cX7_setNames 35 = .ok (.iload_n 3, 1) := by decide +kernel
theorem dX7_setNames_36 : decode cX7_setNames 36 = .ok (.invokevirtual 94, 3) := by decide +kernel
theorem dX7_setNames_39 : decode cX7_setNames 39 = .ok (.ireturn, 1) := by decide +kernel
set_option maxHeartbeats 4000000 in
set_option maxRecDepth 100000 in
theorem mX7_setNames {D : va_G} {U : zz_U} {ad : Nat → Nat} {X : va_W} (σ : zz_St) (piece_ : Int32) (what_ : Int32) (names_ : Int32) (r : ((Int32 ⊕ String) × zz_St)) (hf : fX7_setNames σ piece_ what_ names_ = some r) : zz_Met yX7_setNames (.code yX7_setNames cX7_setNames 4 (some .int)) 8 3 18 D U [.ref (ad 0), .int piece_, .int what_, .int names_] (zz_wc U ad σ X) (match r.1 with | .inl x => zz_ok (some (.int x)) (zz_wc U ad r.2 X) | .inr _ => zz_none) (match r.1 with | .inl _ => zz_noth | .inr E => zz_th E (zz_wc U ad r.2 X)) := by
  unfold fX7_setNames at hf
  refine zz_method RX7 rfl (by decide +kernel) (Nat.le_of_ble_eq_true rfl) ?_
  intro p l e s m args below meth c A _ C
  refine zz_lvs (lv1 := [(0, .ref (ad 0)), (1, .int piece_), (2, .int what_), (3, .int names_)]) rfl ?_
  refine zz_aload_n C 0 dX7_setNames_0 rfl rfl ?_
  refine zz_iload_n C 1 dX7_setNames_1 rfl rfl ?_
  refine zz_iload_n C 2 dX7_setNames_2 rfl rfl ?_
  obtain ⟨x1, h2, hf⟩ := zz_bind hf
  rcases x1 with x1 | E3
  · refine zz_callV1 (As := [.int piece_, .int what_]) (rest := []) C 0 (mX7_requireSet_r σ piece_ what_ x1 h2) dX7_setNames_3 rfl rfl rfl zw_19 zy_X7_requireSet rfl (by decide) (by decide) (Nat.le_of_ble_eq_true rfl) (Nat.le_of_ble_eq_true rfl) (Nat.le_of_ble_eq_true rfl) rfl ?_
    refine zz_iload_n C 3 dX7_setNames_6 rfl rfl ?_
    refine zz_ldc (v := (65535 : Int32)) C dX7_setNames_7 zw_15 ?_
    obtain ⟨x4, h5, hf⟩ := zz_bind hf
    refine zz_callS1 (As := [.int names_, .int (65535 : Int32)]) (rest := []) C (mX7_isUpTo σ names_ (65535 : Int32) x4 h5) dX7_setNames_9 rfl zw_0 zy_X7_isUpTo rfl (by decide) (by decide) (Nat.le_of_ble_eq_true rfl) (Nat.le_of_ble_eq_true rfl) (Nat.le_of_ble_eq_true rfl) rfl ?_
    refine zz_if_ne (tgt := 25) C dX7_setNames_12 (by decide) (fun g6 => ?_) (fun g6 => ?_)
    · rw [if_neg g6] at hf
      refine zz_aload_n C 0 dX7_setNames_25 rfl rfl ?_
      obtain ⟨x7, h8, hf⟩ := zz_bind hf
      refine zz_callV1 (As := []) (rest := []) C 0 (mX7_forgetResults σ x7 h8) dX7_setNames_26 rfl rfl rfl zw_11 zy_X7_forgetResults rfl (by decide) (by decide) (Nat.le_of_ble_eq_true rfl) (Nat.le_of_ble_eq_true rfl) (Nat.le_of_ble_eq_true rfl) rfl ?_
      refine zz_aload_n C 0 dX7_setNames_29 rfl rfl ?_
      refine zf7_pieces C dX7_setNames_30 zw_10 ?_
      refine zz_iload_n C 1 dX7_setNames_33 rfl rfl ?_
      refine zz_iload_n C 2 dX7_setNames_34 rfl rfl ?_
      refine zz_iload_n C 3 dX7_setNames_35 rfl rfl ?_
      obtain ⟨x9, h10, hf⟩ := zz_bind hf
      refine zz_callV1 (As := [.int piece_, .int what_, .int names_]) (rest := []) C 1 (mX5_replaceNames x7 piece_ what_ names_ x9 h10) dX7_setNames_36 rfl rfl rfl zw_18 zy_X5_replaceNames rfl (by decide) (by decide) (Nat.le_of_ble_eq_true rfl) (Nat.le_of_ble_eq_true rfl) (Nat.le_of_ble_eq_true rfl) rfl ?_
      cases hf
      exact zz_iret C dX7_setNames_39 (And.intro rfl rfl) (Nat.le_of_ble_eq_true rfl) (Nat.le_of_ble_eq_true rfl)
    · rw [if_pos g6] at hf
      cases hf
      exact zz_throwS (cls := "java/lang/IllegalArgumentException") (text := "no such set of names") C zt_0 (by decide +kernel) dX7_setNames_15 dX7_setNames_18 dX7_setNames_19 dX7_setNames_21 dX7_setNames_24 (by decide) (Nat.le_of_ble_eq_true rfl) (Nat.le_of_ble_eq_true rfl) (Nat.le_of_ble_eq_true rfl) (Nat.le_of_ble_eq_true rfl) (Nat.le_of_ble_eq_true rfl) (And.intro rfl rfl)
  · refine zz_callVx (As := [.int piece_, .int what_]) (rest := []) C 0 (mX7_requireSet_x σ piece_ what_ E3 h2) dX7_setNames_3 rfl rfl rfl zw_19 zy_X7_requireSet rfl (by decide) (by decide) (Nat.le_of_ble_eq_true rfl) (Nat.le_of_ble_eq_true rfl) (Nat.le_of_ble_eq_true rfl) ?_
    cases hf
    exact zz_out C (And.intro rfl rfl) (Nat.le_of_ble_eq_true rfl) (Nat.le_of_ble_eq_true rfl)
theorem mX7_setNames_r {D : va_G} {U : zz_U} {ad : Nat → Nat} {X : va_W} (σ : zz_St) (piece_ : Int32) (what_ : Int32) (names_ : Int32) (x : Int32) (σ1 : zz_St) (hf : fX7_setNames σ piece_ what_ names_ = some (.inl x, σ1)) : zz_Met yX7_setNames (.code yX7_setNames cX7_setNames 4 (some .int)) 8 3 18 D U [.ref (ad 0), .int piece_, .int what_, .int names_] (zz_wc U ad σ X) (zz_ok (some (.int x)) (zz_wc U ad σ1 X)) zz_noth := mX7_setNames σ piece_ what_ names_ (.inl x, σ1) hf
theorem mX7_setNames_x {D : va_G} {U : zz_U} {ad : Nat → Nat} {X : va_W} (σ : zz_St) (piece_ : Int32) (what_ : Int32) (names_ : Int32) (x : String) (σ1 : zz_St) (hf : fX7_setNames σ piece_ what_ names_ = some (.inr x, σ1)) : zz_Met yX7_setNames (.code yX7_setNames cX7_setNames 4 (some .int)) 8 3 18 D U [.ref (ad 0), .int piece_, .int what_, .int names_] (zz_wc U ad σ X) zz_none (zz_th x (zz_wc U ad σ1 X)) := mX7_setNames σ piece_ what_ names_ (.inr x, σ1) hf
theorem dX7_isIn_0 : decode cX7_isIn 0 = .ok (.iload_n 1, 1) := by decide +kernel
theorem dX7_isIn_1 : decode cX7_isIn 1 = .ok (.iload_n 0, 1) := by decide +kernel
theorem dX7_isIn_2 : decode cX7_isIn 2 = .ok (.ishr, 1) := by decide +kernel
theorem dX7_isIn_3 : decode cX7_isIn 3 = .ok (.iconst 1, 1) := by decide +kernel
theorem dX7_isIn_4 : decode cX7_isIn 4 = .ok (.iand, 1) := by decide +kernel
theorem dX7_isIn_5 : decode cX7_isIn 5 = .ok (.iconst 1, 1) := by decide +kernel
theorem dX7_isIn_6 : decode cX7_isIn 6 = .ok (.if_icmp .ne 7, 3) := by decide +kernel
theorem dX7_isIn_9 : decode cX7_isIn 9 = .ok (.iconst 1, 1) := by decide +kernel
theorem dX7_isIn_10 : decode cX7_isIn 10 = .ok (.goto 4, 3) := by decide +kernel
theorem dX7_isIn_13 : decode cX7_isIn 13 = .ok (.iconst 0, 1) := by decide +kernel
theorem dX7_isIn_14 : decode cX7_isIn 14 = .ok (.ireturn, 1) := by decide +kernel
set_option maxHeartbeats 4000000 in
set_option maxRecDepth 100000 in
theorem mX7_isIn {D : va_G} {U : zz_U} {ad : Nat → Nat} {X : va_W} (σ : zz_St) (element_ : Int32) (set_ : Int32) (r : Int32) (hf : fX7_isIn σ element_ set_ = some r) : zz_Met yX7_isIn (.code yX7_isIn cX7_isIn 2 (some .boolean)) 0 0 0 D U [.int element_, .int set_] (zz_wc U ad σ X) (zz_ok (some (.int r)) (zz_wc U ad σ X)) zz_noth := by
  unfold fX7_isIn at hf
  refine zz_method RX7 rfl (by decide +kernel) (Nat.le_of_ble_eq_true rfl) ?_
  intro p l e s m args below meth c A _ C
  refine zz_lvs (lv1 := [(0, .int element_), (1, .int set_)]) rfl ?_
  obtain ⟨b1, h2, hf⟩ := zz_bind hf
  refine zz_cut 14 [(0, .int element_), (1, .int set_)] [.int (zz_bi b1)] (zz_wc U ad σ X) ?_ (fun J3 => ?_)
  · cases hf
    exact zz_zret C dX7_isIn_14 (zz_bi01 _) (And.intro rfl rfl) (Nat.le_of_ble_eq_true rfl) (Nat.le_of_ble_eq_true rfl)
  refine zz_iload_n C 1 dX7_isIn_0 rfl rfl ?_
  refine zz_iload_n C 0 dX7_isIn_1 rfl rfl ?_
  refine zz_ishr C dX7_isIn_2 ?_
  refine zz_iconst (v := (1 : Int32)) C dX7_isIn_3 (by decide) ?_
  refine zz_iand C dX7_isIn_4 ?_
  refine zz_iconst (v := (1 : Int32)) C dX7_isIn_5 (by decide) ?_
  refine zz_icmp_ne (tgt := 13) C dX7_isIn_6 (by decide) (fun g4 => ?_) (fun g4 => ?_)
  · rw [if_neg g4] at h2
    refine zz_iconst (v := 0) C dX7_isIn_13 (by decide) ?_
    cases h2
    exact J3
  · rw [if_pos g4] at h2
    refine zz_iconst (v := 1) C dX7_isIn_9 (by decide) ?_
    refine zz_goto (tgt := 14) C dX7_isIn_10 (by decide) ?_
    cases h2
    exact J3
theorem dX1_learn_0 : decode cX1_learn 0 = .ok (.iload_n 2, 1) := by decide +kernel
theorem dX1_learn_1 : decode cX1_learn 1 = .ok (.iload_n 1, 1) := by decide +kernel
theorem dX1_learn_2 : decode cX1_learn 2 = .ok (.aload_n 0, 1) := by decide +kernel
theorem dX1_learn_3 : decode cX1_learn 3 = .ok (.getfield 15, 3) := by decide +kernel
theorem dX1_learn_6 : decode cX1_learn 6 = .ok (.invokestatic 19, 3) := by decide +kernel
theorem dX1_learn_9 : decode cX1_learn 9 = .ok (.if_icmp .ne 13, 3) := by decide +kernel
theorem dX1_learn_12 : decode cX1_learn 12 = .ok (.iload_n 3, 1) := by decide +kernel
theorem dX1_learn_13 : decode cX1_learn 13 = .ok (.aload_n 0, 1) := by decide +kernel
theorem dX1_learn_14 : decode cX1_learn 14 = .ok (.getfield 9, 3) := by decide +kernel
theorem dX1_learn_17 : decode cX1_learn 17 = .ok (.iload_n 1, 1) := by decide +kernel
theorem dX1_learn_18 : decode cX1_learn 18 = .ok (.iaload, 1) := by decide +kernel
theorem dX1_learn_19 : decode cX1_learn 19 = .ok (.if_icmp .eq 7, 3) := by decide +kernel
theorem dX1_learn_22 : decode cX1_learn 22 = .ok (.iconst 1, 1) := by decide +kernel
theorem dX1_learn_23 : decode cX1_learn 23 = .ok (.goto 4, 3) := by decide +kernel
theorem dX1_learn_26 : decode cX1_learn 26 = .ok (.iconst 0, 1) := by decide +kernel
theorem dX1_learn_27 : decode cX1_learn 27 = .ok (.istore 4, 2) := by decide +kernel
theorem dX1_learn_29 : decode cX1_learn 29 = .ok (.aload_n 0, 1) := by decide +kernel
theorem dX1_learn_30 : decode cX1_learn 30 = .ok (.iload_n 2, 1) := by decide +kernel
theorem dX1_learn_31 : decode cX1_learn 31 = .ok (.ifCond .eq 14, 3) := by decide +kernel
theorem dX1_learn_34 : decode cX1_learn 34 = .ok (.aload_n 0, 1) := by decide +kernel
theorem dX1_learn_35 : decode cX1_learn 35 = .ok (.getfield 15, 3) := by decide +kernel
theorem dX1_learn_38 : decode cX1_learn 38 = .ok (.iconst 1, 1) := by decide +kernel
theorem dX1_learn_39 : decode cX1_learn 39 = .ok (.iload_n 1, 1) := by decide +kernel
theorem dX1_learn_40 : decode cX1_learn 40 = .ok (.ishl, 1) := by decide +kernel
theorem dX1_learn_41 : decode cX1_learn 41 = .ok (.ior, 1) := by decide +kernel
theorem dX1_learn_42 : decode cX1_learn 42 = .ok (.goto 13, 3) := by decide +kernel
theorem dX1_learn_45 : decode cX1_learn 45 = .ok (.aload_n 0, 1) := by decide +kernel
theorem dX1_learn_46 : decode cX1_learn 46 = .ok (.getfield 15, 3) := by decide +kernel
theorem dX1_learn_49 : decode cX1_learn 49 = .ok (.iconst 1, 1) := by decide +kernel
theorem dX1_learn_50 : decode cX1_learn 50 = .ok (.iload_n 1, 1) := by decide +kernel
theorem dX1_learn_51 : decode cX1_learn 51 = .ok (.ishl, 1) := by decide +kernel
theorem dX1_learn_52 : decode cX1_learn 52 = .ok (.iconst (-1), 1) := by decide +kernel
theorem dX1_learn_53 : decode cX1_learn 53 = .ok (.ixor, 1) := by decide +kernel
theorem dX1_learn_54 : decode cX1_learn 54 = .ok (.iand, 1) := by decide +kernel
theorem dX1_learn_55 : decode cX1_learn 55 = .ok (.putfield 15, 3) := by decide +kernel
theorem dX1_learn_58 : decode cX1_learn 58 = .ok (.aload_n 0, 1) := by decide +kernel
theorem dX1_learn_59 : decode cX1_learn 59 = .ok (.getfield 9, 3) := by decide +kernel
theorem dX1_learn_62 : decode cX1_learn 62 = .ok (.iload_n 1, 1) := by decide +kernel
theorem dX1_learn_63 : decode cX1_learn 63 = .ok (.iload_n 3, 1) := by decide +kernel
theorem dX1_learn_64 : decode cX1_learn 64 = .ok (.iastore, 1) := by decide +kernel
theorem dX1_learn_65 : decode cX1_learn 65 = .ok (.iload 4, 2) := by decide +kernel
theorem dX1_learn_67 : decode cX1_learn 67 = .ok (.ireturn, 1) := by decide +kernel
set_option maxHeartbeats 4000000 in
set_option maxRecDepth 100000 in
theorem mX1_learn {D : va_G} {U : zz_U} {ad : Nat → Nat} {X : va_W} (σ : zz_St) (name_ : Int32) (isDefined_ : Int32) (uses_ : Int32) (r : (Int32 × zz_St)) (hf : fX1_learn σ name_ isDefined_ uses_ = some r) : zz_Met yX1_learn (.code yX1_learn cX1_learn 5 (some .boolean)) 1 0 0 D U [.ref (ad 17), .int name_, .int isDefined_, .int uses_] (zz_wc U ad σ X) (zz_ok (some (.int r.1)) (zz_wc U ad r.2 X)) zz_noth := by
  unfold fX1_learn at hf
  refine zz_method RX1 rfl (by decide +kernel) (Nat.le_of_ble_eq_true rfl) ?_
  intro p l e s m args below meth c A _ C
  refine zz_lvs (lv1 := [(0, .ref (ad 17)), (1, .int name_), (2, .int isDefined_), (3, .int uses_)]) rfl ?_
  obtain ⟨b1, h2, hf⟩ := zz_bind hf
  refine zz_cut 27 [(0, .ref (ad 17)), (1, .int name_), (2, .int isDefined_), (3, .int uses_)] [.int (zz_bi b1)] (zz_wc U ad σ X) ?_ (fun J3 => ?_)
  · obtain ⟨x10, h11, hf⟩ := zz_bind hf
    refine zz_topi (Option.some.inj h11) ?_
    refine zz_istore C dX1_learn_27 (by decide) (lv' := [(4, .int x10), (0, .ref (ad 17)), (1, .int name_), (2, .int isDefined_), (3, .int uses_)]) rfl ?_
    refine zz_aload_n C 1 dX1_learn_29 rfl rfl ?_
    obtain ⟨x12, h13, hf⟩ := zz_bind hf
    refine zz_cut 55 [(4, .int x10), (0, .ref (ad 17)), (1, .int name_), (2, .int isDefined_), (3, .int uses_)] [.int x12, .ref (ad 17)] (zz_wc U ad σ X) ?_ (fun J14 => ?_)
    · refine zp1_definedNames C dX1_learn_55 zw_21 ?_
      refine zz_aload_n C 1 dX1_learn_58 rfl rfl ?_
      refine zf1_otherUses C dX1_learn_59 zw_20 ?_
      refine zz_iload_n C 2 dX1_learn_62 rfl rfl ?_
      refine zz_iload_n C 4 dX1_learn_63 rfl rfl ?_
      obtain ⟨σ16, h17, hf⟩ := zz_bind hf
      refine zs_18 C dX1_learn_64 h17 ?_
      refine zz_iload C 0 dX1_learn_65 rfl ?_
      obtain ⟨x18, h19, hf⟩ := zz_bind hf
      refine zz_topi (zz_bo_in h19).2 ?_
      cases hf
      exact zz_zret C dX1_learn_67 (by rw [← (zz_bo_in h19).2]; exact (zz_bo_in h19).1) (And.intro rfl rfl) (Nat.le_of_ble_eq_true rfl) (Nat.le_of_ble_eq_true rfl)
    refine zz_iload_n C 3 dX1_learn_30 rfl rfl ?_
    refine zz_if_eq (tgt := 45) C dX1_learn_31 (by decide) (fun g15 => ?_) (fun g15 => ?_)
    · rw [if_pos g15] at h13
      refine zz_aload_n C 1 dX1_learn_45 rfl rfl ?_
      refine zf1_definedNames C dX1_learn_46 zw_21 ?_
      refine zz_iconst (v := (1 : Int32)) C dX1_learn_49 (by decide) ?_
      refine zz_iload_n C 2 dX1_learn_50 rfl rfl ?_
      refine zz_ishl C dX1_learn_51 ?_
      refine zz_iconst (v := (-1 : Int32)) C dX1_learn_52 (by decide) ?_
      refine zz_ixor C dX1_learn_53 ?_
      refine zz_iand C dX1_learn_54 ?_
      cases h13
      exact J14
    · rw [if_neg g15] at h13
      refine zz_aload_n C 1 dX1_learn_34 rfl rfl ?_
      refine zf1_definedNames C dX1_learn_35 zw_21 ?_
      refine zz_iconst (v := (1 : Int32)) C dX1_learn_38 (by decide) ?_
      refine zz_iload_n C 2 dX1_learn_39 rfl rfl ?_
      refine zz_ishl C dX1_learn_40 ?_
      refine zz_ior C dX1_learn_41 ?_
      refine zz_goto (tgt := 55) C dX1_learn_42 (by decide) ?_
      cases h13
      exact J14
  refine zz_iload_n C 2 dX1_learn_0 rfl rfl ?_
  refine zz_iload_n C 1 dX1_learn_1 rfl rfl ?_
  refine zz_aload_n C 0 dX1_learn_2 rfl rfl ?_
  refine zf1_definedNames C dX1_learn_3 zw_21 ?_
  obtain ⟨x4, h5, h2⟩ := zz_bind h2
  refine zz_callSN1 (host := "ChangeUntangler") (As := [.int name_, .int (σ 17 0)]) (rest := [.int isDefined_]) C (mX7_isIn σ name_ (σ 17 0) x4 h5) dX1_learn_6 rfl (by decide +kernel) zy_X7_isIn rfl (by decide) (by decide) (Nat.le_of_ble_eq_true rfl) (Nat.le_of_ble_eq_true rfl) (Nat.le_of_ble_eq_true rfl) rfl ?_
  refine zz_icmp_ne (tgt := 22) C dX1_learn_9 (by decide) (fun g6 => ?_) (fun g6 => ?_)
  · rw [if_neg g6] at h2
    refine zz_iconst (v := 1) C dX1_learn_22 (by decide) ?_
    refine zz_goto (tgt := 27) C dX1_learn_23 (by decide) ?_
    cases h2
    exact J3
  · rw [if_pos g6] at h2
    refine zz_iload_n C 3 dX1_learn_12 rfl rfl ?_
    refine zz_aload_n C 0 dX1_learn_13 rfl rfl ?_
    refine zf1_otherUses C dX1_learn_14 zw_20 ?_
    refine zz_iload_n C 1 dX1_learn_17 rfl rfl ?_
    obtain ⟨x7, h8, h2⟩ := zz_bind h2
    refine zl_18 C dX1_learn_18 h8 ?_
    refine zz_icmp_eq (tgt := 26) C dX1_learn_19 (by decide) (fun g9 => ?_) (fun g9 => ?_)
    · rw [if_pos g9] at h2
      refine zz_iconst (v := 0) C dX1_learn_26 (by decide) ?_
      cases h2
      exact J3
    · rw [if_neg g9] at h2
      refine zz_iconst (v := 1) C dX1_learn_22 (by decide) ?_
      refine zz_goto (tgt := 27) C dX1_learn_23 (by decide) ?_
      cases h2
      exact J3
theorem dX7_setName_0 : decode cX7_setName 0 = .ok (.iload_n 1, 1) := by decide +kernel
theorem dX7_setName_1 : decode cX7_setName 1 = .ok (.ifCond .lt 9, 3) := by decide +kernel
theorem dX7_setName_4 : decode cX7_setName 4 = .ok (.iload_n 1, 1) := by decide +kernel
theorem dX7_setName_5 : decode cX7_setName 5 = .ok (.bipush 16, 2) := by decide +kernel
theorem dX7_setName_7 : decode cX7_setName 7 = .ok (.if_icmp .lt 13, 3) := by decide +kernel
theorem dX7_setName_10 : decode cX7_setName 10 = .ok (.new 102, 3) := by decide +kernel
theorem dX7_setName_13 : decode cX7_setName 13 = .ok (.dup, 1) := by decide +kernel
theorem dX7_setName_14 : decode cX7_setName 14 = .ok (.ldc 104, 2) := by decide +kernel
theorem dX7_setName_16 : decode cX7_setName 16 = .ok (.invokespecial 106, 3) := by decide +kernel
theorem dX7_setName_19 : decode cX7_setName 19 = .ok (.athrow, 1) := by decide +kernel
theorem dX7_setName_20 : decode cX7_setName 20 = .ok (.iload_n 3, 1) := by decide +kernel
theorem dX7_setName_21 : decode cX7_setName 21 = .ok (.bipush 9, 2) := by decide +kernel
theorem dX7_setName_23 : decode cX7_setName 23 = .ok (.invokestatic 58, 3) := by decide +kernel
theorem dX7_setName_26 : decode cX7_setName 26 = .ok (.ifCond .ne 13, 3) := by decide +kernel
theorem dX7_setName_29 : decode cX7_setName 29 = .ok (.new 62, 3) := by decide +kernel
theorem dX7_setName_32 : decode cX7_setName 32 = .ok (.dup, 1) := by decide +kernel
theorem dX7_setName_33 : decode cX7_setName 33 = .ok (.ldc 107, 2) := by decide +kernel
theorem dX7_setName_35 : decode cX7_setName 35 = .ok (.invokespecial 66, 3) := by decide +kernel
theorem dX7_setName_38 : decode cX7_setName 38 = .ok (.athrow, 1) := by decide +kernel
theorem dX7_setName_39 : decode cX7_setName 39 = .ok (.aload_n 0, 1) := by decide +kernel
theorem dX7_setName_40 : decode cX7_setName 40 = .ok (.invokevirtual 80, 3) := by decide +kernel
theorem dX7_setName_43 : decode cX7_setName 43 = .ok (.aload_n 0, 1) := by decide +kernel
theorem dX7_setName_44 : decode cX7_setName 44 = .ok (.getfield 19, 3) := by decide +kernel
theorem dX7_setName_47 : decode cX7_setName 47 = .ok (.iload_n 1, 1) := by decide +kernel
theorem dX7_setName_48 : decode cX7_setName 48 = .ok (.iload_n 2, 1) := by decide +kernel
theorem dX7_setName_49 : decode cX7_setName 49 = .ok (.iload_n 3, 1) := by decide +kernel
theorem dX7_setName_50 : decode cX7_setName 50 = .ok (.invokevirtual 109, 3) := by decide +kernel
theorem dX7_setName_53 : decode cX7_setName 53 = .ok (.ireturn, 1) := by decide +kernel
set_option maxHeartbeats 4000000 in
set_option maxRecDepth 100000 in
theorem mX7_setName {D : va_G} {U : zz_U} {ad : Nat → Nat} {X : va_W} (σ : zz_St) (name_ : Int32) (isDefined_ : Int32) (uses_ : Int32) (r : ((Int32 ⊕ String) × zz_St)) (hf : fX7_setName σ name_ isDefined_ uses_ = some r) : zz_Met yX7_setName (.code yX7_setName cX7_setName 4 (some .boolean)) 6 1 6 D U [.ref (ad 0), .int name_, .int isDefined_, .int uses_] (zz_wc U ad σ X) (match r.1 with | .inl x => zz_ok (some (.int x)) (zz_wc U ad r.2 X) | .inr _ => zz_none) (match r.1 with | .inl _ => zz_noth | .inr E => zz_th E (zz_wc U ad r.2 X)) := by
  unfold fX7_setName at hf
  refine zz_method RX7 rfl (by decide +kernel) (Nat.le_of_ble_eq_true rfl) ?_
  intro p l e s m args below meth c A _ C
  refine zz_lvs (lv1 := [(0, .ref (ad 0)), (1, .int name_), (2, .int isDefined_), (3, .int uses_)]) rfl ?_
  obtain ⟨b1, h2, hf⟩ := zz_bind hf
  refine zz_cutI (P := b1 = true) 10 [(0, .ref (ad 0)), (1, .int name_), (2, .int isDefined_), (3, .int uses_)] [] (zz_wc U ad σ X) (fun g5 => ?_) (fun J3 => ?_)
  · rw [if_pos g5] at hf
    cases hf
    exact zz_throwS (cls := "java/lang/IndexOutOfBoundsException") (text := "no such name") C zt_2 (by decide +kernel) dX7_setName_10 dX7_setName_13 dX7_setName_14 dX7_setName_16 dX7_setName_19 (by decide) (Nat.le_of_ble_eq_true rfl) (Nat.le_of_ble_eq_true rfl) (Nat.le_of_ble_eq_true rfl) (Nat.le_of_ble_eq_true rfl) (Nat.le_of_ble_eq_true rfl) (And.intro rfl rfl)
  refine zz_cutI (P := b1 = false) 20 [(0, .ref (ad 0)), (1, .int name_), (2, .int isDefined_), (3, .int uses_)] [] (zz_wc U ad σ X) (fun g5 => ?_) (fun J4 => ?_)
  · rw [if_neg (show ¬ b1 = true by rw [g5]; decide)] at hf
    refine zz_iload_n C 3 dX7_setName_20 rfl rfl ?_
    refine zz_bipush (v := (9 : Int32)) C dX7_setName_21 (by decide) ?_
    obtain ⟨x8, h9, hf⟩ := zz_bind hf
    refine zz_callS1 (As := [.int uses_, .int (9 : Int32)]) (rest := []) C (mX7_isUpTo σ uses_ (9 : Int32) x8 h9) dX7_setName_23 rfl zw_0 zy_X7_isUpTo rfl (by decide) (by decide) (Nat.le_of_ble_eq_true rfl) (Nat.le_of_ble_eq_true rfl) (Nat.le_of_ble_eq_true rfl) rfl ?_
    refine zz_if_ne (tgt := 39) C dX7_setName_26 (by decide) (fun g10 => ?_) (fun g10 => ?_)
    · rw [if_neg g10] at hf
      refine zz_aload_n C 0 dX7_setName_39 rfl rfl ?_
      obtain ⟨x11, h12, hf⟩ := zz_bind hf
      refine zz_callV1 (As := []) (rest := []) C 0 (mX7_forgetResults σ x11 h12) dX7_setName_40 rfl rfl rfl zw_11 zy_X7_forgetResults rfl (by decide) (by decide) (Nat.le_of_ble_eq_true rfl) (Nat.le_of_ble_eq_true rfl) (Nat.le_of_ble_eq_true rfl) rfl ?_
      refine zz_aload_n C 0 dX7_setName_43 rfl rfl ?_
      refine zf7_code C dX7_setName_44 zw_23 ?_
      refine zz_iload_n C 1 dX7_setName_47 rfl rfl ?_
      refine zz_iload_n C 2 dX7_setName_48 rfl rfl ?_
      refine zz_iload_n C 3 dX7_setName_49 rfl rfl ?_
      obtain ⟨x13, h14, hf⟩ := zz_bind hf
      refine zz_callV1 (As := [.int name_, .int isDefined_, .int uses_]) (rest := []) C 17 (mX1_learn x11 name_ isDefined_ uses_ x13 h14) dX7_setName_50 rfl rfl rfl zw_22 zy_X1_learn rfl (by decide) (by decide) (Nat.le_of_ble_eq_true rfl) (Nat.le_of_ble_eq_true rfl) (Nat.le_of_ble_eq_true rfl) rfl ?_
      obtain ⟨x15, h16, hf⟩ := zz_bind hf
      refine zz_topi (zz_bo_in h16).2 ?_
      cases hf
      exact zz_zret C dX7_setName_53 (by rw [← (zz_bo_in h16).2]; exact (zz_bo_in h16).1) (And.intro rfl rfl) (Nat.le_of_ble_eq_true rfl) (Nat.le_of_ble_eq_true rfl)
    · rw [if_pos g10] at hf
      cases hf
      exact zz_throwS (cls := "java/lang/IllegalArgumentException") (text := "no such number of uses") C zt_0 (by decide +kernel) dX7_setName_29 dX7_setName_32 dX7_setName_33 dX7_setName_35 dX7_setName_38 (by decide) (Nat.le_of_ble_eq_true rfl) (Nat.le_of_ble_eq_true rfl) (Nat.le_of_ble_eq_true rfl) (Nat.le_of_ble_eq_true rfl) (Nat.le_of_ble_eq_true rfl) (And.intro rfl rfl)
  refine zz_iload_n C 1 dX7_setName_0 rfl rfl ?_
  refine zz_if_lt (tgt := 10) C dX7_setName_1 (by decide) (fun g6 => ?_) (fun g6 => ?_)
  · rw [if_pos g6] at h2
    cases h2
    exact J3 rfl
  · rw [if_neg g6] at h2
    refine zz_iload_n C 1 dX7_setName_4 rfl rfl ?_
    refine zz_bipush (v := (16 : Int32)) C dX7_setName_5 (by decide) ?_
    refine zz_icmp_lt (tgt := 20) C dX7_setName_7 (by decide) (fun g7 => ?_) (fun g7 => ?_)
    · rw [if_pos g7] at h2
      cases h2
      exact J4 rfl
    · rw [if_neg g7] at h2
      cases h2
      exact J3 rfl
theorem mX7_setName_r {D : va_G} {U : zz_U} {ad : Nat → Nat} {X : va_W} (σ : zz_St) (name_ : Int32) (isDefined_ : Int32) (uses_ : Int32) (x : Int32) (σ1 : zz_St) (hf : fX7_setName σ name_ isDefined_ uses_ = some (.inl x, σ1)) : zz_Met yX7_setName (.code yX7_setName cX7_setName 4 (some .boolean)) 6 1 6 D U [.ref (ad 0), .int name_, .int isDefined_, .int uses_] (zz_wc U ad σ X) (zz_ok (some (.int x)) (zz_wc U ad σ1 X)) zz_noth := mX7_setName σ name_ isDefined_ uses_ (.inl x, σ1) hf
theorem mX7_setName_x {D : va_G} {U : zz_U} {ad : Nat → Nat} {X : va_W} (σ : zz_St) (name_ : Int32) (isDefined_ : Int32) (uses_ : Int32) (x : String) (σ1 : zz_St) (hf : fX7_setName σ name_ isDefined_ uses_ = some (.inr x, σ1)) : zz_Met yX7_setName (.code yX7_setName cX7_setName 4 (some .boolean)) 6 1 6 D U [.ref (ad 0), .int name_, .int isDefined_, .int uses_] (zz_wc U ad σ X) zz_none (zz_th x (zz_wc U ad σ1 X)) := mX7_setName σ name_ isDefined_ uses_ (.inr x, σ1) hf
theorem dX7_pieceCount_0 : decode cX7_pieceCount 0 = .ok (.aload_n 0, 1) := by decide +kernel
theorem dX7_pieceCount_1 : decode cX7_pieceCount 1 = .ok (.getfield 12, 3) := by decide +kernel
theorem dX7_pieceCount_4 : decode cX7_pieceCount 4 = .ok (.getfield 71, 3) := by decide +kernel
theorem dX7_pieceCount_7 : decode cX7_pieceCount 7 = .ok (.ireturn, 1) := by decide +kernel
set_option maxHeartbeats 4000000 in
set_option maxRecDepth 100000 in
theorem mX7_pieceCount {D : va_G} {U : zz_U} {ad : Nat → Nat} {X : va_W} (σ : zz_St) (r : Int32) (hf : fX7_pieceCount σ = some r) : zz_Met yX7_pieceCount (.code yX7_pieceCount cX7_pieceCount 1 (some .int)) 0 0 0 D U [.ref (ad 0)] (zz_wc U ad σ X) (zz_ok (some (.int r)) (zz_wc U ad σ X)) zz_noth := by
  unfold fX7_pieceCount at hf
  refine zz_method RX7 rfl (by decide +kernel) (Nat.le_of_ble_eq_true rfl) ?_
  intro p l e s m args below meth c A _ C
  refine zz_lvs (lv1 := [(0, .ref (ad 0))]) rfl ?_
  refine zz_aload_n C 0 dX7_pieceCount_0 rfl rfl ?_
  refine zf7_pieces C dX7_pieceCount_1 zw_10 ?_
  refine zf5_count C dX7_pieceCount_4 zw_12 ?_
  cases hf
  exact zz_iret C dX7_pieceCount_7 (And.intro rfl rfl) (Nat.le_of_ble_eq_true rfl) (Nat.le_of_ble_eq_true rfl)
theorem dX7_setThreshold_0 : decode cX7_setThreshold 0 = .ok (.iload_n 1, 1) := by decide +kernel
theorem dX7_setThreshold_1 : decode cX7_setThreshold 1 = .ok (.iconst 1, 1) := by decide +kernel
theorem dX7_setThreshold_2 : decode cX7_setThreshold 2 = .ok (.if_icmp .lt 10, 3) := by decide +kernel
theorem dX7_setThreshold_5 : decode cX7_setThreshold 5 = .ok (.iload_n 1, 1) := by decide +kernel
theorem dX7_setThreshold_6 : decode cX7_setThreshold 6 = .ok (.sipush 999, 3) := by decide +kernel
theorem dX7_setThreshold_9 : decode cX7_setThreshold 9 = .ok (.if_icmp .le 13, 3) := by decide +kernel
theorem dX7_setThreshold_12 : decode cX7_setThreshold 12 = .ok (.new 62, 3) := by decide +kernel
theorem dX7_setThreshold_15 : decode cX7_setThreshold 15 = .ok (.dup, 1) := by decide +kernel
theorem dX7_setThreshold_16 : decode cX7_setThreshold 16 = .ok (.ldc 150, 2) := by decide +kernel
theorem dX7_setThreshold_18 : decode cX7_setThreshold 18 = .ok (.invokespecial 66, 3) := by decide +kernel
theorem dX7_setThreshold_21 : decode cX7_setThreshold 21 = .ok (.athrow, 1) := by decide +kernel
theorem dX7_setThreshold_22 : decode cX7_setThreshold 22 = .ok (.aload_n 0, 1) := by decide +kernel
theorem dX7_setThreshold_23 : decode cX7_setThreshold 23 = .ok (.invokevirtual 80, 3) := by decide +kernel
theorem dX7_setThreshold_26 : decode cX7_setThreshold 26 = .ok (.aload_n 0, 1) := by decide +kernel
theorem dX7_setThreshold_27 : decode cX7_setThreshold 27 = .ok (.getfield 40, 3) := by decide +kernel
theorem dX7_setThreshold_30 : decode cX7_setThreshold 30 = .ok (.getfield 152, 3) := by decide +kernel
theorem dX7_setThreshold_33 : decode cX7_setThreshold 33 = .ok (.istore_n 2, 1) := by decide +kernel
theorem dX7_setThreshold_34 : decode cX7_setThreshold 34 = .ok (.aload_n 0, 1) := by decide +kernel
theorem dX7_setThreshold_35 : decode cX7_setThreshold 35 = .ok (.getfield 40, 3) := by decide +kernel
theorem dX7_setThreshold_38 : decode cX7_setThreshold 38 = .ok (.iload_n 1, 1) := by decide +kernel
theorem dX7_setThreshold_39 : decode cX7_setThreshold 39 = .ok (.putfield 152, 3) := by decide +kernel
theorem dX7_setThreshold_42 : decode cX7_setThreshold 42 = .ok (.iload_n 2, 1) := by decide +kernel
theorem dX7_setThreshold_43 : decode cX7_setThreshold 43 = .ok (.ireturn, 1) := by decide +kernel
set_option maxHeartbeats 4000000 in
set_option maxRecDepth 100000 in
theorem mX7_setThreshold {D : va_G} {U : zz_U} {ad : Nat → Nat} {X : va_W} (σ : zz_St) (threshold_ : Int32) (r : ((Int32 ⊕ String) × zz_St)) (hf : fX7_setThreshold σ threshold_ = some r) : zz_Met yX7_setThreshold (.code yX7_setThreshold cX7_setThreshold 3 (some .int)) 6 1 6 D U [.ref (ad 0), .int threshold_] (zz_wc U ad σ X) (match r.1 with | .inl x => zz_ok (some (.int x)) (zz_wc U ad r.2 X) | .inr _ => zz_none) (match r.1 with | .inl _ => zz_noth | .inr E => zz_th E (zz_wc U ad r.2 X)) := by
  unfold fX7_setThreshold at hf
  refine zz_method RX7 rfl (by decide +kernel) (Nat.le_of_ble_eq_true rfl) ?_
  intro p l e s m args below meth c A _ C
  refine zz_lvs (lv1 := [(0, .ref (ad 0)), (1, .int threshold_)]) rfl ?_
  obtain ⟨b1, h2, hf⟩ := zz_bind hf
  refine zz_cutI (P := b1 = true) 12 [(0, .ref (ad 0)), (1, .int threshold_)] [] (zz_wc U ad σ X) (fun g5 => ?_) (fun J3 => ?_)
  · rw [if_pos g5] at hf
    cases hf
    exact zz_throwS (cls := "java/lang/IllegalArgumentException") (text := "no such threshold") C zt_0 (by decide +kernel) dX7_setThreshold_12 dX7_setThreshold_15 dX7_setThreshold_16 dX7_setThreshold_18 dX7_setThreshold_21 (by decide) (Nat.le_of_ble_eq_true rfl) (Nat.le_of_ble_eq_true rfl) (Nat.le_of_ble_eq_true rfl) (Nat.le_of_ble_eq_true rfl) (Nat.le_of_ble_eq_true rfl) (And.intro rfl rfl)
  refine zz_cutI (P := b1 = false) 22 [(0, .ref (ad 0)), (1, .int threshold_)] [] (zz_wc U ad σ X) (fun g5 => ?_) (fun J4 => ?_)
  · rw [if_neg (show ¬ b1 = true by rw [g5]; decide)] at hf
    refine zz_aload_n C 0 dX7_setThreshold_22 rfl rfl ?_
    obtain ⟨x8, h9, hf⟩ := zz_bind hf
    refine zz_callV1 (As := []) (rest := []) C 0 (mX7_forgetResults σ x8 h9) dX7_setThreshold_23 rfl rfl rfl zw_11 zy_X7_forgetResults rfl (by decide) (by decide) (Nat.le_of_ble_eq_true rfl) (Nat.le_of_ble_eq_true rfl) (Nat.le_of_ble_eq_true rfl) rfl ?_
    refine zz_aload_n C 0 dX7_setThreshold_26 rfl rfl ?_
    refine zf7_groups C dX7_setThreshold_27 zw_25 ?_
    refine zf3_threshold C dX7_setThreshold_30 zw_24 ?_
    obtain ⟨x10, h11, hf⟩ := zz_bind hf
    refine zz_topi (Option.some.inj h11) ?_
    refine zz_istore_n C dX7_setThreshold_33 rfl (by decide) (lv' := [(2, .int x10), (0, .ref (ad 0)), (1, .int threshold_)]) rfl ?_
    refine zz_aload_n C 1 dX7_setThreshold_34 rfl rfl ?_
    refine zf7_groups C dX7_setThreshold_35 zw_25 ?_
    refine zz_iload_n C 2 dX7_setThreshold_38 rfl rfl ?_
    refine zp3_threshold C dX7_setThreshold_39 zw_24 ?_
    refine zz_iload_n C 0 dX7_setThreshold_42 rfl rfl ?_
    cases hf
    exact zz_iret C dX7_setThreshold_43 (And.intro rfl rfl) (Nat.le_of_ble_eq_true rfl) (Nat.le_of_ble_eq_true rfl)
  refine zz_iload_n C 1 dX7_setThreshold_0 rfl rfl ?_
  refine zz_iconst (v := (1 : Int32)) C dX7_setThreshold_1 (by decide) ?_
  refine zz_icmp_lt (tgt := 12) C dX7_setThreshold_2 (by decide) (fun g6 => ?_) (fun g6 => ?_)
  · rw [if_pos g6] at h2
    cases h2
    exact J3 rfl
  · rw [if_neg g6] at h2
    refine zz_iload_n C 1 dX7_setThreshold_5 rfl rfl ?_
    refine zz_sipush (v := (999 : Int32)) C dX7_setThreshold_6 (by decide) ?_
    refine zz_icmp_le (tgt := 22) C dX7_setThreshold_9 (by decide) (fun g7 => ?_) (fun g7 => ?_)
    · rw [if_pos g7] at h2
      cases h2
      exact J4 rfl
    · rw [if_neg g7] at h2
      cases h2
      exact J3 rfl
theorem mX7_setThreshold_r {D : va_G} {U : zz_U} {ad : Nat → Nat} {X : va_W} (σ : zz_St) (threshold_ : Int32) (x : Int32) (σ1 : zz_St) (hf : fX7_setThreshold σ threshold_ = some (.inl x, σ1)) : zz_Met yX7_setThreshold (.code yX7_setThreshold cX7_setThreshold 3 (some .int)) 6 1 6 D U [.ref (ad 0), .int threshold_] (zz_wc U ad σ X) (zz_ok (some (.int x)) (zz_wc U ad σ1 X)) zz_noth := mX7_setThreshold σ threshold_ (.inl x, σ1) hf
theorem mX7_setThreshold_x {D : va_G} {U : zz_U} {ad : Nat → Nat} {X : va_W} (σ : zz_St) (threshold_ : Int32) (x : String) (σ1 : zz_St) (hf : fX7_setThreshold σ threshold_ = some (.inr x, σ1)) : zz_Met yX7_setThreshold (.code yX7_setThreshold cX7_setThreshold 3 (some .int)) 6 1 6 D U [.ref (ad 0), .int threshold_] (zz_wc U ad σ X) zz_none (zz_th x (zz_wc U ad σ1 X)) := mX7_setThreshold σ threshold_ (.inr x, σ1) hf
theorem dX7_setManner_0 : decode cX7_setManner 0 = .ok (.iload_n 1, 1) := by decide +kernel
theorem dX7_setManner_1 : decode cX7_setManner 1 = .ok (.iconst 2, 1) := by decide +kernel
theorem dX7_setManner_2 : decode cX7_setManner 2 = .ok (.invokestatic 58, 3) := by decide +kernel
theorem dX7_setManner_5 : decode cX7_setManner 5 = .ok (.ifCond .ne 13, 3) := by decide +kernel
theorem dX7_setManner_8 : decode cX7_setManner 8 = .ok (.new 62, 3) := by decide +kernel
theorem dX7_setManner_11 : decode cX7_setManner 11 = .ok (.dup, 1) := by decide +kernel
theorem dX7_setManner_12 : decode cX7_setManner 12 = .ok (.ldc 155, 2) := by decide +kernel
theorem dX7_setManner_14 : decode cX7_setManner 14 = .ok (.invokespecial 66, 3) := by decide +kernel
theorem dX7_setManner_17 : decode cX7_setManner 17 = .ok (.athrow, 1) := by decide +kernel
theorem dX7_setManner_18 : decode cX7_setManner 18 = .ok (.aload_n 0, 1) := by decide +kernel
theorem dX7_setManner_19 : decode cX7_setManner 19 = .ok (.invokevirtual 80, 3) := by decide +kernel
theorem dX7_setManner_22 : decode cX7_setManner 22 = .ok (.aload_n 0, 1) := by decide +kernel
theorem dX7_setManner_23 : decode cX7_setManner 23 = .ok (.getfield 40, 3) := by decide +kernel
theorem dX7_setManner_26 : decode cX7_setManner 26 = .ok (.getfield 157, 3) := by decide +kernel
theorem dX7_setManner_29 : decode cX7_setManner 29 = .ok (.istore_n 2, 1) := by decide +kernel
theorem dX7_setManner_30 : decode cX7_setManner 30 = .ok (.aload_n 0, 1) := by decide +kernel
theorem dX7_setManner_31 : decode cX7_setManner 31 = .ok (.getfield 40, 3) := by decide +kernel
theorem dX7_setManner_34 : decode cX7_setManner 34 = .ok (.iload_n 1, 1) := by decide +kernel
theorem dX7_setManner_35 : decode cX7_setManner 35 = .ok (.putfield 157, 3) := by decide +kernel
theorem dX7_setManner_38 : decode cX7_setManner 38 = .ok (.iload_n 2, 1) := by decide +kernel
theorem dX7_setManner_39 : decode cX7_setManner 39 = .ok (.ireturn, 1) := by decide +kernel
set_option maxHeartbeats 4000000 in
set_option maxRecDepth 100000 in
theorem mX7_setManner {D : va_G} {U : zz_U} {ad : Nat → Nat} {X : va_W} (σ : zz_St) (manner_ : Int32) (r : ((Int32 ⊕ String) × zz_St)) (hf : fX7_setManner σ manner_ = some r) : zz_Met yX7_setManner (.code yX7_setManner cX7_setManner 3 (some .int)) 6 1 6 D U [.ref (ad 0), .int manner_] (zz_wc U ad σ X) (match r.1 with | .inl x => zz_ok (some (.int x)) (zz_wc U ad r.2 X) | .inr _ => zz_none) (match r.1 with | .inl _ => zz_noth | .inr E => zz_th E (zz_wc U ad r.2 X)) := by
  unfold fX7_setManner at hf
  refine zz_method RX7 rfl (by decide +kernel) (Nat.le_of_ble_eq_true rfl) ?_
  intro p l e s m args below meth c A _ C
  refine zz_lvs (lv1 := [(0, .ref (ad 0)), (1, .int manner_)]) rfl ?_
  refine zz_iload_n C 1 dX7_setManner_0 rfl rfl ?_
  refine zz_iconst (v := (2 : Int32)) C dX7_setManner_1 (by decide) ?_
  obtain ⟨x1, h2, hf⟩ := zz_bind hf
  refine zz_callS1 (As := [.int manner_, .int (2 : Int32)]) (rest := []) C (mX7_isUpTo σ manner_ (2 : Int32) x1 h2) dX7_setManner_2 rfl zw_0 zy_X7_isUpTo rfl (by decide) (by decide) (Nat.le_of_ble_eq_true rfl) (Nat.le_of_ble_eq_true rfl) (Nat.le_of_ble_eq_true rfl) rfl ?_
  refine zz_if_ne (tgt := 18) C dX7_setManner_5 (by decide) (fun g3 => ?_) (fun g3 => ?_)
  · rw [if_neg g3] at hf
    refine zz_aload_n C 0 dX7_setManner_18 rfl rfl ?_
    obtain ⟨x4, h5, hf⟩ := zz_bind hf
    refine zz_callV1 (As := []) (rest := []) C 0 (mX7_forgetResults σ x4 h5) dX7_setManner_19 rfl rfl rfl zw_11 zy_X7_forgetResults rfl (by decide) (by decide) (Nat.le_of_ble_eq_true rfl) (Nat.le_of_ble_eq_true rfl) (Nat.le_of_ble_eq_true rfl) rfl ?_
    refine zz_aload_n C 0 dX7_setManner_22 rfl rfl ?_
    refine zf7_groups C dX7_setManner_23 zw_25 ?_
    refine zf3_manner C dX7_setManner_26 zw_26 ?_
    obtain ⟨x6, h7, hf⟩ := zz_bind hf
    refine zz_topi (Option.some.inj h7) ?_
    refine zz_istore_n C dX7_setManner_29 rfl (by decide) (lv' := [(2, .int x6), (0, .ref (ad 0)), (1, .int manner_)]) rfl ?_
    refine zz_aload_n C 1 dX7_setManner_30 rfl rfl ?_
    refine zf7_groups C dX7_setManner_31 zw_25 ?_
    refine zz_iload_n C 2 dX7_setManner_34 rfl rfl ?_
    refine zp3_manner C dX7_setManner_35 zw_26 ?_
    refine zz_iload_n C 0 dX7_setManner_38 rfl rfl ?_
    cases hf
    exact zz_iret C dX7_setManner_39 (And.intro rfl rfl) (Nat.le_of_ble_eq_true rfl) (Nat.le_of_ble_eq_true rfl)
  · rw [if_pos g3] at hf
    cases hf
    exact zz_throwS (cls := "java/lang/IllegalArgumentException") (text := "no such manner") C zt_0 (by decide +kernel) dX7_setManner_8 dX7_setManner_11 dX7_setManner_12 dX7_setManner_14 dX7_setManner_17 (by decide) (Nat.le_of_ble_eq_true rfl) (Nat.le_of_ble_eq_true rfl) (Nat.le_of_ble_eq_true rfl) (Nat.le_of_ble_eq_true rfl) (Nat.le_of_ble_eq_true rfl) (And.intro rfl rfl)
theorem mX7_setManner_r {D : va_G} {U : zz_U} {ad : Nat → Nat} {X : va_W} (σ : zz_St) (manner_ : Int32) (x : Int32) (σ1 : zz_St) (hf : fX7_setManner σ manner_ = some (.inl x, σ1)) : zz_Met yX7_setManner (.code yX7_setManner cX7_setManner 3 (some .int)) 6 1 6 D U [.ref (ad 0), .int manner_] (zz_wc U ad σ X) (zz_ok (some (.int x)) (zz_wc U ad σ1 X)) zz_noth := mX7_setManner σ manner_ (.inl x, σ1) hf
theorem mX7_setManner_x {D : va_G} {U : zz_U} {ad : Nat → Nat} {X : va_W} (σ : zz_St) (manner_ : Int32) (x : String) (σ1 : zz_St) (hf : fX7_setManner σ manner_ = some (.inr x, σ1)) : zz_Met yX7_setManner (.code yX7_setManner cX7_setManner 3 (some .int)) 6 1 6 D U [.ref (ad 0), .int manner_] (zz_wc U ad σ X) zz_none (zz_th x (zz_wc U ad σ1 X)) := mX7_setManner σ manner_ (.inr x, σ1) hf
theorem dX7_requireDifferent_0 : decode cX7_requireDifferent 0 = .ok (.iload_n 0, 1) := by decide +kernel
theorem dX7_requireDifferent_1 : decode cX7_requireDifferent 1 = .ok (.iload_n 1, 1) := by decide +kernel
theorem dX7_requireDifferent_2 : decode cX7_requireDifferent 2 = .ok (.if_icmp .ne 14, 3) := by decide +kernel
theorem dX7_requireDifferent_5 : decode cX7_requireDifferent 5 = .ok (.new 62, 3) := by decide +kernel
theorem dX7_requireDifferent_8 : decode cX7_requireDifferent 8 = .ok (.dup, 1) := by decide +kernel
theorem dX7_requireDifferent_9 : decode cX7_requireDifferent 9 = .ok (.ldc_w 310, 3) := by decide +kernel
theorem dX7_requireDifferent_12 : decode cX7_requireDifferent 12 = .ok (.invokespecial 66, 3) := by decide +kernel
theorem dX7_requireDifferent_15 : decode cX7_requireDifferent 15 = .ok (.athrow, 1) := by decide +kernel
theorem dX7_requireDifferent_16 : decode cX7_requireDifferent 16 = .ok (.return_, 1) := by decide +kernel
set_option maxHeartbeats 4000000 in
set_option maxRecDepth 100000 in
theorem mX7_requireDifferent {D : va_G} {U : zz_U} {ad : Nat → Nat} {X : va_W} (σ : zz_St) (a_ : Int32) (b_ : Int32) (r : (Unit ⊕ String)) (hf : fX7_requireDifferent σ a_ b_ = some r) : zz_Met yX7_requireDifferent (.code yX7_requireDifferent cX7_requireDifferent 2 none) 6 1 6 D U [.int a_, .int b_] (zz_wc U ad σ X) (match r with | .inl _ => zz_ok none (zz_wc U ad σ X) | .inr _ => zz_none) (match r with | .inl _ => zz_noth | .inr E => zz_th E (zz_wc U ad σ X)) := by
  unfold fX7_requireDifferent at hf
  refine zz_method RX7 rfl (by decide +kernel) (Nat.le_of_ble_eq_true rfl) ?_
  intro p l e s m args below meth c A _ C
  refine zz_lvs (lv1 := [(0, .int a_), (1, .int b_)]) rfl ?_
  refine zz_iload_n C 0 dX7_requireDifferent_0 rfl rfl ?_
  refine zz_iload_n C 1 dX7_requireDifferent_1 rfl rfl ?_
  refine zz_icmp_ne (tgt := 16) C dX7_requireDifferent_2 (by decide) (fun g1 => ?_) (fun g1 => ?_)
  · rw [if_neg g1] at hf
    cases hf
    exact zz_vret C dX7_requireDifferent_16 (And.intro rfl rfl) (Nat.le_of_ble_eq_true rfl) (Nat.le_of_ble_eq_true rfl)
  · rw [if_pos g1] at hf
    cases hf
    exact zz_throwSW (cls := "java/lang/IllegalArgumentException") (text := "the same piece twice") C zt_0 (by decide +kernel) dX7_requireDifferent_5 dX7_requireDifferent_8 dX7_requireDifferent_9 dX7_requireDifferent_12 dX7_requireDifferent_15 (by decide) (Nat.le_of_ble_eq_true rfl) (Nat.le_of_ble_eq_true rfl) (Nat.le_of_ble_eq_true rfl) (Nat.le_of_ble_eq_true rfl) (Nat.le_of_ble_eq_true rfl) (And.intro rfl rfl)
theorem mX7_requireDifferent_r {D : va_G} {U : zz_U} {ad : Nat → Nat} {X : va_W} (σ : zz_St) (a_ : Int32) (b_ : Int32) (x : Unit) (hf : fX7_requireDifferent σ a_ b_ = some (.inl x)) : zz_Met yX7_requireDifferent (.code yX7_requireDifferent cX7_requireDifferent 2 none) 6 1 6 D U [.int a_, .int b_] (zz_wc U ad σ X) (zz_ok none (zz_wc U ad σ X)) zz_noth := mX7_requireDifferent σ a_ b_ (.inl x) hf
theorem mX7_requireDifferent_x {D : va_G} {U : zz_U} {ad : Nat → Nat} {X : va_W} (σ : zz_St) (a_ : Int32) (b_ : Int32) (E : String) (hf : fX7_requireDifferent σ a_ b_ = some (.inr E)) : zz_Met yX7_requireDifferent (.code yX7_requireDifferent cX7_requireDifferent 2 none) 6 1 6 D U [.int a_, .int b_] (zz_wc U ad σ X) zz_none (zz_th E (zz_wc U ad σ X)) := mX7_requireDifferent σ a_ b_ (.inr E) hf
theorem dX6_saidOf_0 : decode cX6_saidOf 0 = .ok (.iload_n 2, 1) := by decide +kernel
theorem dX6_saidOf_1 : decode cX6_saidOf 1 = .ok (.aload_n 0, 1) := by decide +kernel
theorem dX6_saidOf_2 : decode cX6_saidOf 2 = .ok (.getfield 9, 3) := by decide +kernel
theorem dX6_saidOf_5 : decode cX6_saidOf 5 = .ok (.iload_n 1, 1) := by decide +kernel
theorem dX6_saidOf_6 : decode cX6_saidOf 6 = .ok (.iaload, 1) := by decide +kernel
theorem dX6_saidOf_7 : decode cX6_saidOf 7 = .ok (.invokestatic 18, 3) := by decide +kernel
theorem dX6_saidOf_10 : decode cX6_saidOf 10 = .ok (.ifCond .eq 5, 3) := by decide +kernel
theorem dX6_saidOf_13 : decode cX6_saidOf 13 = .ok (.iconst 1, 1) := by decide +kernel
theorem dX6_saidOf_14 : decode cX6_saidOf 14 = .ok (.ireturn, 1) := by decide +kernel
theorem dX6_saidOf_15 : decode cX6_saidOf 15 = .ok (.iload_n 2, 1) := by decide +kernel
theorem dX6_saidOf_16 : decode cX6_saidOf 16 = .ok (.aload_n 0, 1) := by decide +kernel
theorem dX6_saidOf_17 : decode cX6_saidOf 17 = .ok (.getfield 15, 3) := by decide +kernel
theorem dX6_saidOf_20 : decode cX6_saidOf 20 = .ok (.iload_n 1, 1) := by decide +kernel
theorem dX6_saidOf_21 : decode cX6_saidOf 21 = .ok (.iaload, 1) := by decide +kernel
theorem dX6_saidOf_22 : decode cX6_saidOf 22 = .ok (.invokestatic 18, 3) := by decide +kernel
theorem dX6_saidOf_25 : decode cX6_saidOf 25 = .ok (.ifCond .eq 7, 3) := by decide +kernel
theorem dX6_saidOf_28 : decode cX6_saidOf 28 = .ok (.iconst 2, 1) := by decide +kernel
theorem dX6_saidOf_29 : decode cX6_saidOf 29 = .ok (.goto 4, 3) := by decide +kernel
theorem dX6_saidOf_32 : decode cX6_saidOf 32 = .ok (.iconst 0, 1) := by decide +kernel
theorem dX6_saidOf_33 : decode cX6_saidOf 33 = .ok (.ireturn, 1) := by decide +kernel
set_option maxHeartbeats 4000000 in
set_option maxRecDepth 100000 in
theorem mX6_saidOf {D : va_G} {U : zz_U} {ad : Nat → Nat} {X : va_W} (σ : zz_St) (a_ : Int32) (b_ : Int32) (r : Int32) (hf : fX6_saidOf σ a_ b_ = some r) : zz_Met yX6_saidOf (.code yX6_saidOf cX6_saidOf 3 (some .int)) 1 0 0 D U [.ref (ad 21), .int a_, .int b_] (zz_wc U ad σ X) (zz_ok (some (.int r)) (zz_wc U ad σ X)) zz_noth := by
  unfold fX6_saidOf at hf
  refine zz_method RX6 rfl (by decide +kernel) (Nat.le_of_ble_eq_true rfl) ?_
  intro p l e s m args below meth c A _ C
  refine zz_lvs (lv1 := [(0, .ref (ad 21)), (1, .int a_), (2, .int b_)]) rfl ?_
  refine zz_iload_n C 2 dX6_saidOf_0 rfl rfl ?_
  refine zz_aload_n C 0 dX6_saidOf_1 rfl rfl ?_
  refine zf6_must C dX6_saidOf_2 zw_28 ?_
  refine zz_iload_n C 1 dX6_saidOf_5 rfl rfl ?_
  obtain ⟨x1, h2, hf⟩ := zz_bind hf
  refine zl_22 C dX6_saidOf_6 h2 ?_
  obtain ⟨x3, h4, hf⟩ := zz_bind hf
  refine zz_callSN1 (host := "ChangeUntangler") (As := [.int b_, .int x1]) (rest := []) C (mX7_isIn σ b_ x1 x3 h4) dX6_saidOf_7 rfl (by decide +kernel) zy_X7_isIn rfl (by decide) (by decide) (Nat.le_of_ble_eq_true rfl) (Nat.le_of_ble_eq_true rfl) (Nat.le_of_ble_eq_true rfl) rfl ?_
  refine zz_if_eq (tgt := 15) C dX6_saidOf_10 (by decide) (fun g5 => ?_) (fun g5 => ?_)
  · rw [if_pos g5] at hf
    obtain ⟨x6, h7, hf⟩ := zz_bind hf
    refine zz_cut 33 [(0, .ref (ad 21)), (1, .int a_), (2, .int b_)] [.int x6] (zz_wc U ad σ X) ?_ (fun J8 => ?_)
    · cases hf
      exact zz_iret C dX6_saidOf_33 (And.intro rfl rfl) (Nat.le_of_ble_eq_true rfl) (Nat.le_of_ble_eq_true rfl)
    refine zz_iload_n C 2 dX6_saidOf_15 rfl rfl ?_
    refine zz_aload_n C 0 dX6_saidOf_16 rfl rfl ?_
    refine zf6_mustNot C dX6_saidOf_17 zw_27 ?_
    refine zz_iload_n C 1 dX6_saidOf_20 rfl rfl ?_
    obtain ⟨x9, h10, h7⟩ := zz_bind h7
    refine zl_23 C dX6_saidOf_21 h10 ?_
    obtain ⟨x11, h12, h7⟩ := zz_bind h7
    refine zz_callSN1 (host := "ChangeUntangler") (As := [.int b_, .int x9]) (rest := []) C (mX7_isIn σ b_ x9 x11 h12) dX6_saidOf_22 rfl (by decide +kernel) zy_X7_isIn rfl (by decide) (by decide) (Nat.le_of_ble_eq_true rfl) (Nat.le_of_ble_eq_true rfl) (Nat.le_of_ble_eq_true rfl) rfl ?_
    refine zz_if_eq (tgt := 32) C dX6_saidOf_25 (by decide) (fun g13 => ?_) (fun g13 => ?_)
    · rw [if_pos g13] at h7
      refine zz_iconst (v := (0 : Int32)) C dX6_saidOf_32 (by decide) ?_
      cases h7
      exact J8
    · rw [if_neg g13] at h7
      refine zz_iconst (v := (2 : Int32)) C dX6_saidOf_28 (by decide) ?_
      refine zz_goto (tgt := 33) C dX6_saidOf_29 (by decide) ?_
      cases h7
      exact J8
  · rw [if_neg g5] at hf
    refine zz_iconst (v := (1 : Int32)) C dX6_saidOf_13 (by decide) ?_
    cases hf
    exact zz_iret C dX6_saidOf_14 (And.intro rfl rfl) (Nat.le_of_ble_eq_true rfl) (Nat.le_of_ble_eq_true rfl)
theorem dX6_putOneWay_0 : decode cX6_putOneWay 0 = .ok (.iconst 1, 1) := by decide +kernel
theorem dX6_putOneWay_1 : decode cX6_putOneWay 1 = .ok (.iload_n 2, 1) := by decide +kernel
theorem dX6_putOneWay_2 : decode cX6_putOneWay 2 = .ok (.ishl, 1) := by decide +kernel
theorem dX6_putOneWay_3 : decode cX6_putOneWay 3 = .ok (.iconst (-1), 1) := by decide +kernel
theorem dX6_putOneWay_4 : decode cX6_putOneWay 4 = .ok (.ixor, 1) := by decide +kernel
theorem dX6_putOneWay_5 : decode cX6_putOneWay 5 = .ok (.istore 4, 2) := by decide +kernel
theorem dX6_putOneWay_7 : decode cX6_putOneWay 7 = .ok (.aload_n 0, 1) := by decide +kernel
theorem dX6_putOneWay_8 : decode cX6_putOneWay 8 = .ok (.getfield 9, 3) := by decide +kernel
theorem dX6_putOneWay_11 : decode cX6_putOneWay 11 = .ok (.iload_n 1, 1) := by decide +kernel
theorem dX6_putOneWay_12 : decode cX6_putOneWay 12 = .ok (.aload_n 0, 1) := by decide +kernel
theorem dX6_putOneWay_13 : decode cX6_putOneWay 13 = .ok (.getfield 9, 3) := by decide +kernel
theorem dX6_putOneWay_16 : decode cX6_putOneWay 16 = .ok (.iload_n 1, 1) := by decide +kernel
theorem dX6_putOneWay_17 : decode cX6_putOneWay 17 = .ok (.iaload, 1) := by decide +kernel
theorem dX6_putOneWay_18 : decode cX6_putOneWay 18 = .ok (.iload 4, 2) := by decide +kernel
theorem dX6_putOneWay_20 : decode cX6_putOneWay 20 = .ok (.iand, 1) := by decide +kernel
theorem dX6_putOneWay_21 : decode cX6_putOneWay 21 = .ok (.iload_n 3, 1) := by decide +kernel
theorem dX6_putOneWay_22 : decode cX6_putOneWay 22 = .ok (.iconst 1, 1) := by decide +kernel
theorem dX6_putOneWay_23 : decode cX6_putOneWay 23 = .ok (.if_icmp .ne 9, 3) := by decide +kernel
theorem dX6_putOneWay_26 : decode cX6_putOneWay 26 = .ok (.iconst 1, 1) := by decide +kernel
theorem dX6_putOneWay_27 : decode cX6_putOneWay 27 = .ok (.iload_n 2, 1) := by decide +kernel
theorem dX6_putOneWay_28 : decode cX6_putOneWay 28 = .ok (.ishl, 1) := by decide +kernel
theorem dX6_putOneWay_29 : decode cX6_putOneWay 29 = .ok (.goto 4, 3) := by decide +kernel
theorem dX6_putOneWay_32 : decode cX6_putOneWay 32 = .ok (.iconst 0, 1) := by decide +kernel
theorem dX6_putOneWay_33 : decode cX6_putOneWay 33 = .ok (.ior, 1) := by decide +kernel
theorem dX6_putOneWay_34 : decode cX6_putOneWay 34 = .ok (.iastore, 1) := by decide +kernel
theorem dX6_putOneWay_35 : decode cX6_putOneWay 35 = .ok (.aload_n 0, 1) := by decide +kernel
theorem dX6_putOneWay_36 : decode cX6_putOneWay 36 = .ok (.getfield 15, 3) := by decide +kernel
theorem dX6_putOneWay_39 : decode cX6_putOneWay 39 = .ok (.iload_n 1, 1) := by decide +kernel
theorem dX6_putOneWay_40 : decode cX6_putOneWay 40 = .ok (.aload_n 0, 1) := by decide +kernel
theorem dX6_putOneWay_41 : decode cX6_putOneWay 41 = .ok (.getfield 15, 3) := by decide +kernel
theorem dX6_putOneWay_44 : decode cX6_putOneWay 44 = .ok (.iload_n 1, 1) := by decide +kernel
theorem dX6_putOneWay_45 : decode cX6_putOneWay 45 = .ok (.iaload, 1) := by decide +kernel
theorem dX6_putOneWay_46 : decode cX6_putOneWay 46 = .ok (.iload 4, 2) := by decide +kernel
theorem dX6_putOneWay_48 : decode cX6_putOneWay 48 = .ok (.iand, 1) := by decide +kernel
theorem dX6_putOneWay_49 : decode cX6_putOneWay 49 = .ok (.iload_n 3, 1) := by decide +kernel
theorem dX6_putOneWay_50 : decode cX6_putOneWay 50 = .ok (.iconst 2, 1) := by decide +kernel
theorem dX6_putOneWay_51 : decode cX6_putOneWay 51 = .ok (.if_icmp .ne 9, 3) := by decide +kernel
theorem dX6_putOneWay_54 : decode cX6_putOneWay 54 = .ok (.iconst 1, 1) := by decide +kernel
theorem dX6_putOneWay_55 : decode cX6_putOneWay 55 = .ok (.iload_n 2, 1) := by decide +kernel
theorem dX6_putOneWay_56 : decode cX6_putOneWay 56 = .ok (.ishl, 1) := by decide +kernel
theorem dX6_putOneWay_57 : decode cX6_putOneWay 57 = .ok (.goto 4, 3) := by decide +kernel
theorem dX6_putOneWay_60 : decode cX6_putOneWay 60 = .ok (.iconst 0, 1) := by decide +kernel
theorem dX6_putOneWay_61 : decode cX6_putOneWay 61 = .ok (.ior, 1) := by decide +kernel
theorem dX6_putOneWay_62 : decode cX6_putOneWay 62 = .ok (.iastore, 1) := by decide +kernel
theorem dX6_putOneWay_63 : decode cX6_putOneWay 63 = .ok (.return_, 1) := by decide +kernel
set_option maxHeartbeats 4000000 in
set_option maxRecDepth 100000 in
theorem mX6_putOneWay {D : va_G} {U : zz_U} {ad : Nat → Nat} {X : va_W} (σ : zz_St) (from_ : Int32) (to_ : Int32) (what_ : Int32) (r : zz_St) (hf : fX6_putOneWay σ from_ to_ what_ = some r) : zz_Met yX6_putOneWay (.code yX6_putOneWay cX6_putOneWay 5 none) 0 0 0 D U [.ref (ad 21), .int from_, .int to_, .int what_] (zz_wc U ad σ X) (zz_ok none (zz_wc U ad r X)) zz_noth := by
  unfold fX6_putOneWay at hf
  refine zz_method RX6 rfl (by decide +kernel) (Nat.le_of_ble_eq_true rfl) ?_
  intro p l e s m args below meth c A _ C
  refine zz_lvs (lv1 := [(0, .ref (ad 21)), (1, .int from_), (2, .int to_), (3, .int what_)]) rfl ?_
  refine zz_iconst (v := (1 : Int32)) C dX6_putOneWay_0 (by decide) ?_
  refine zz_iload_n C 2 dX6_putOneWay_1 rfl rfl ?_
  refine zz_ishl C dX6_putOneWay_2 ?_
  refine zz_iconst (v := (-1 : Int32)) C dX6_putOneWay_3 (by decide) ?_
  refine zz_ixor C dX6_putOneWay_4 ?_
  obtain ⟨x1, h2, hf⟩ := zz_bind hf
  refine zz_topi (Option.some.inj h2) ?_
  refine zz_istore C dX6_putOneWay_5 (by decide) (lv' := [(4, .int x1), (0, .ref (ad 21)), (1, .int from_), (2, .int to_), (3, .int what_)]) rfl ?_
  refine zz_aload_n C 1 dX6_putOneWay_7 rfl rfl ?_
  refine zf6_must C dX6_putOneWay_8 zw_28 ?_
  refine zz_iload_n C 2 dX6_putOneWay_11 rfl rfl ?_
  refine zz_aload_n C 1 dX6_putOneWay_12 rfl rfl ?_
  refine zf6_must C dX6_putOneWay_13 zw_28 ?_
  refine zz_iload_n C 2 dX6_putOneWay_16 rfl rfl ?_
  obtain ⟨x3, h4, hf⟩ := zz_bind hf
  refine zl_22 C dX6_putOneWay_17 h4 ?_
  refine zz_iload C 0 dX6_putOneWay_18 rfl ?_
  refine zz_iand C dX6_putOneWay_20 ?_
  obtain ⟨x5, h6, hf⟩ := zz_bind hf
  refine zz_cut 33 [(4, .int x1), (0, .ref (ad 21)), (1, .int from_), (2, .int to_), (3, .int what_)] [.int x5, .int (x3 &&& x1), .int from_, .ref (ad 22)] (zz_wc U ad σ X) ?_ (fun J7 => ?_)
  · refine zz_ior C dX6_putOneWay_33 ?_
    obtain ⟨σ9, h10, hf⟩ := zz_bind hf
    refine zs_22 C dX6_putOneWay_34 h10 ?_
    refine zz_aload_n C 1 dX6_putOneWay_35 rfl rfl ?_
    refine zf6_mustNot C dX6_putOneWay_36 zw_27 ?_
    refine zz_iload_n C 2 dX6_putOneWay_39 rfl rfl ?_
    refine zz_aload_n C 1 dX6_putOneWay_40 rfl rfl ?_
    refine zf6_mustNot C dX6_putOneWay_41 zw_27 ?_
    refine zz_iload_n C 2 dX6_putOneWay_44 rfl rfl ?_
    obtain ⟨x11, h12, hf⟩ := zz_bind hf
    refine zl_23 C dX6_putOneWay_45 h12 ?_
    refine zz_iload C 0 dX6_putOneWay_46 rfl ?_
    refine zz_iand C dX6_putOneWay_48 ?_
    obtain ⟨x13, h14, hf⟩ := zz_bind hf
    refine zz_cut 61 [(4, .int x1), (0, .ref (ad 21)), (1, .int from_), (2, .int to_), (3, .int what_)] [.int x13, .int (x11 &&& x1), .int from_, .ref (ad 23)] (zz_wc U ad σ9 X) ?_ (fun J15 => ?_)
    · refine zz_ior C dX6_putOneWay_61 ?_
      obtain ⟨σ17, h18, hf⟩ := zz_bind hf
      refine zs_23 C dX6_putOneWay_62 h18 ?_
      cases hf
      exact zz_vret C dX6_putOneWay_63 (And.intro rfl rfl) (Nat.le_of_ble_eq_true rfl) (Nat.le_of_ble_eq_true rfl)
    refine zz_iload_n C 4 dX6_putOneWay_49 rfl rfl ?_
    refine zz_iconst (v := (2 : Int32)) C dX6_putOneWay_50 (by decide) ?_
    refine zz_icmp_ne (tgt := 60) C dX6_putOneWay_51 (by decide) (fun g16 => ?_) (fun g16 => ?_)
    · rw [if_neg g16] at h14
      refine zz_iconst (v := (0 : Int32)) C dX6_putOneWay_60 (by decide) ?_
      cases h14
      exact J15
    · rw [if_pos g16] at h14
      refine zz_iconst (v := (1 : Int32)) C dX6_putOneWay_54 (by decide) ?_
      refine zz_iload_n C 3 dX6_putOneWay_55 rfl rfl ?_
      refine zz_ishl C dX6_putOneWay_56 ?_
      refine zz_goto (tgt := 61) C dX6_putOneWay_57 (by decide) ?_
      cases h14
      exact J15
  refine zz_iload_n C 4 dX6_putOneWay_21 rfl rfl ?_
  refine zz_iconst (v := (1 : Int32)) C dX6_putOneWay_22 (by decide) ?_
  refine zz_icmp_ne (tgt := 32) C dX6_putOneWay_23 (by decide) (fun g8 => ?_) (fun g8 => ?_)
  · rw [if_neg g8] at h6
    refine zz_iconst (v := (0 : Int32)) C dX6_putOneWay_32 (by decide) ?_
    cases h6
    exact J7
  · rw [if_pos g8] at h6
    refine zz_iconst (v := (1 : Int32)) C dX6_putOneWay_26 (by decide) ?_
    refine zz_iload_n C 3 dX6_putOneWay_27 rfl rfl ?_
    refine zz_ishl C dX6_putOneWay_28 ?_
    refine zz_goto (tgt := 33) C dX6_putOneWay_29 (by decide) ?_
    cases h6
    exact J7
theorem dX6_put_0 : decode cX6_put 0 = .ok (.aload_n 0, 1) := by decide +kernel
theorem dX6_put_1 : decode cX6_put 1 = .ok (.iload_n 1, 1) := by decide +kernel
theorem dX6_put_2 : decode cX6_put 2 = .ok (.iload_n 2, 1) := by decide +kernel
theorem dX6_put_3 : decode cX6_put 3 = .ok (.iload_n 3, 1) := by decide +kernel
theorem dX6_put_4 : decode cX6_put 4 = .ok (.invokevirtual 22, 3) := by decide +kernel
theorem dX6_put_7 : decode cX6_put 7 = .ok (.aload_n 0, 1) := by decide +kernel
theorem dX6_put_8 : decode cX6_put 8 = .ok (.iload_n 2, 1) := by decide +kernel
theorem dX6_put_9 : decode cX6_put 9 = .ok (.iload_n 1, 1) := by decide +kernel
theorem dX6_put_10 : decode cX6_put 10 = .ok (.iload_n 3, 1) := by decide +kernel
theorem dX6_put_11 : decode cX6_put 11 = .ok (.invokevirtual 22, 3) := by decide +kernel
theorem dX6_put_14 : decode cX6_put 14 = .ok (.return_, 1) := by decide +kernel
set_option maxHeartbeats 4000000 in
set_option maxRecDepth 100000 in
theorem mX6_put {D : va_G} {U : zz_U} {ad : Nat → Nat} {X : va_W} (σ : zz_St) (a_ : Int32) (b_ : Int32) (what_ : Int32) (r : zz_St) (hf : fX6_put σ a_ b_ what_ = some r) : zz_Met yX6_put (.code yX6_put cX6_put 4 none) 1 0 0 D U [.ref (ad 21), .int a_, .int b_, .int what_] (zz_wc U ad σ X) (zz_ok none (zz_wc U ad r X)) zz_noth := by
  unfold fX6_put at hf
  refine zz_method RX6 rfl (by decide +kernel) (Nat.le_of_ble_eq_true rfl) ?_
  intro p l e s m args below meth c A _ C
  refine zz_lvs (lv1 := [(0, .ref (ad 21)), (1, .int a_), (2, .int b_), (3, .int what_)]) rfl ?_
  refine zz_aload_n C 0 dX6_put_0 rfl rfl ?_
  refine zz_iload_n C 1 dX6_put_1 rfl rfl ?_
  refine zz_iload_n C 2 dX6_put_2 rfl rfl ?_
  refine zz_iload_n C 3 dX6_put_3 rfl rfl ?_
  obtain ⟨x1, h2, hf⟩ := zz_bind hf
  refine zz_callV1 (As := [.int a_, .int b_, .int what_]) (rest := []) C 21 (mX6_putOneWay σ a_ b_ what_ x1 h2) dX6_put_4 rfl rfl rfl zw_29 zy_X6_putOneWay rfl (by decide) (by decide) (Nat.le_of_ble_eq_true rfl) (Nat.le_of_ble_eq_true rfl) (Nat.le_of_ble_eq_true rfl) rfl ?_
  refine zz_aload_n C 0 dX6_put_7 rfl rfl ?_
  refine zz_iload_n C 2 dX6_put_8 rfl rfl ?_
  refine zz_iload_n C 1 dX6_put_9 rfl rfl ?_
  refine zz_iload_n C 3 dX6_put_10 rfl rfl ?_
  obtain ⟨x3, h4, hf⟩ := zz_bind hf
  refine zz_callV1 (As := [.int b_, .int a_, .int what_]) (rest := []) C 21 (mX6_putOneWay x1 b_ a_ what_ x3 h4) dX6_put_11 rfl rfl rfl zw_29 zy_X6_putOneWay rfl (by decide) (by decide) (Nat.le_of_ble_eq_true rfl) (Nat.le_of_ble_eq_true rfl) (Nat.le_of_ble_eq_true rfl) rfl ?_
  cases hf
  exact zz_vret C dX6_put_14 (And.intro rfl rfl) (Nat.le_of_ble_eq_true rfl) (Nat.le_of_ble_eq_true rfl)
theorem dX6_joinedTo_0 : decode cX6_joinedTo 0 = .ok (.iconst 1, 1) := by decide +kernel
theorem dX6_joinedTo_1 : decode cX6_joinedTo 1 = .ok (.iload_n 1, 1) := by decide +kernel
theorem dX6_joinedTo_2 : decode cX6_joinedTo 2 = .ok (.ishl, 1) := by decide +kernel
theorem dX6_joinedTo_3 : decode cX6_joinedTo 3 = .ok (.istore_n 2, 1) := by decide +kernel
theorem dX6_joinedTo_4 : decode cX6_joinedTo 4 = .ok (.iconst 0, 1) := by decide +kernel
theorem dX6_joinedTo_5 : decode cX6_joinedTo 5 = .ok (.istore_n 3, 1) := by decide +kernel
theorem dX6_joinedTo_6 : decode cX6_joinedTo 6 = .ok (.iconst 0, 1) := by decide +kernel
theorem dX6_joinedTo_7 : decode cX6_joinedTo 7 = .ok (.istore 4, 2) := by decide +kernel
theorem dX6_joinedTo_9 : decode cX6_joinedTo 9 = .ok (.iload 4, 2) := by decide +kernel
theorem dX6_joinedTo_11 : decode cX6_joinedTo 11 = .ok (.bipush 14, 2) := by decide +kernel
theorem dX6_joinedTo_13 : decode cX6_joinedTo 13 = .ok (.if_icmp .ge 55, 3) := by decide +kernel
theorem dX6_joinedTo_16 : decode cX6_joinedTo 16 = .ok (.iload_n 2, 1) := by decide +kernel
theorem dX6_joinedTo_17 : decode cX6_joinedTo 17 = .ok (.iload_n 3, 1) := by decide +kernel
theorem dX6_joinedTo_18 : decode cX6_joinedTo 18 = .ok (.if_icmp .eq 50, 3) := by decide +kernel
theorem dX6_joinedTo_21 : decode cX6_joinedTo 21 = .ok (.iload_n 2, 1) := by decide +kernel
theorem dX6_joinedTo_22 : decode cX6_joinedTo 22 = .ok (.istore_n 3, 1) := by decide +kernel
theorem dX6_joinedTo_23 : decode cX6_joinedTo 23 = .ok (.iconst 0, 1) := by decide +kernel
theorem dX6_joinedTo_24 : decode cX6_joinedTo 24 = .ok (.istore 5, 2) := by decide +kernel
theorem dX6_joinedTo_26 : decode cX6_joinedTo 26 = .ok (.iload 5, 2) := by decide +kernel
theorem dX6_joinedTo_28 : decode cX6_joinedTo 28 = .ok (.bipush 14, 2) := by decide +kernel
theorem dX6_joinedTo_30 : decode cX6_joinedTo 30 = .ok (.if_icmp .ge 32, 3) := by decide +kernel
theorem dX6_joinedTo_33 : decode cX6_joinedTo 33 = .ok (.iload_n 2, 1) := by decide +kernel
theorem dX6_joinedTo_34 : decode cX6_joinedTo 34 = .ok (.iload 5, 2) := by decide +kernel
theorem dX6_joinedTo_36 : decode cX6_joinedTo 36 = .ok (.iload_n 2, 1) := by decide +kernel
theorem dX6_joinedTo_37 : decode cX6_joinedTo 37 = .ok (.invokestatic 18, 3) := by decide +kernel
theorem dX6_joinedTo_40 : decode cX6_joinedTo 40 = .ok (.ifCond .eq 13, 3) := by decide +kernel
theorem dX6_joinedTo_43 : decode cX6_joinedTo 43 = .ok (.aload_n 0, 1) := by decide +kernel
theorem dX6_joinedTo_44 : decode cX6_joinedTo 44 = .ok (.getfield 9, 3) := by decide +kernel
theorem dX6_joinedTo_47 : decode cX6_joinedTo 47 = .ok (.iload 5, 2) := by decide +kernel
theorem dX6_joinedTo_49 : decode cX6_joinedTo 49 = .ok (.iaload, 1) := by decide +kernel
theorem dX6_joinedTo_50 : decode cX6_joinedTo 50 = .ok (.goto 4, 3) := by decide +kernel
theorem dX6_joinedTo_53 : decode cX6_joinedTo 53 = .ok (.iconst 0, 1) := by decide +kernel
theorem dX6_joinedTo_54 : decode cX6_joinedTo 54 = .ok (.ior, 1) := by decide +kernel
theorem dX6_joinedTo_55 : decode cX6_joinedTo 55 = .ok (.istore_n 2, 1) := by decide +kernel
theorem dX6_joinedTo_56 : decode cX6_joinedTo 56 = .ok (.iinc 5 1, 3) := by decide +kernel
theorem dX6_joinedTo_59 : decode cX6_joinedTo 59 = .ok (.goto (-33), 3) := by decide +kernel
theorem dX6_joinedTo_62 : decode cX6_joinedTo 62 = .ok (.iinc 4 1, 3) := by decide +kernel
theorem dX6_joinedTo_65 : decode cX6_joinedTo 65 = .ok (.goto (-56), 3) := by decide +kernel
theorem dX6_joinedTo_68 : decode cX6_joinedTo 68 = .ok (.iload_n 2, 1) := by decide +kernel
theorem dX6_joinedTo_69 : decode cX6_joinedTo 69 = .ok (.ireturn, 1) := by decide +kernel
set_option maxHeartbeats 4000000 in
set_option maxRecDepth 100000 in
theorem mX6_joinedTo_L2 {p : Program} {l : Launch} {e : Env} {R : Room} {s : State} {m : MethodId} {args : Array Value} {below : List Frame} {meth : Method} {c : Code} {Q : State → Prop} {D : va_G} {U : zz_U} {A : Nat → Prop} {cells slots : Nat} {ad : Nat → Nat} {X : va_W} (C : zz_C p l R s m meth c D U A RX6 cX6_joinedTo 6 (some .int) [] 1) (hcR : cells ≤ R.cells) (hsR : slots ≤ R.slots) (σ : zz_St) (piece_ : Int32) (before_ : Int32) (round_ : Int32) : ∀ (n : Nat) (joined_ : Int32) (other_ : Int32) (q : (Int32 × Int32)), fX6_joinedTo_L2 σ piece_ before_ round_ n joined_ other_ = some q → (zz_Z p l e R s m args below meth c Q D A 6 cells slots (zz_wc U ad σ X) 62 [(0, .ref (ad 21)), (1, .int piece_), (2, .int q.1), (3, .int before_), (4, .int round_), (5, .int q.2)] []) → zz_Z p l e R s m args below meth c Q D A 6 cells slots (zz_wc U ad σ X) 26 [(0, .ref (ad 21)), (1, .int piece_), (2, .int joined_), (3, .int before_), (4, .int round_), (5, .int other_)] [] := by
  intro n
  induction n with
  | zero => intro joined_ other_ q hf; rw [fX6_joinedTo_L2] at hf; cases hf
  | succ n ih =>
    intro joined_ other_ q hf kx
    rw [fX6_joinedTo_L2] at hf
    refine zz_iload C 5 dX6_joinedTo_26 rfl ?_
    refine zz_bipush (v := (14 : Int32)) C dX6_joinedTo_28 (by decide) ?_
    refine zz_icmp_ge (tgt := 62) C dX6_joinedTo_30 (by decide) (fun g10 => ?_) (fun g10 => ?_)
    · rw [if_pos g10] at hf
      cases hf
      exact kx
    · rw [if_neg g10] at hf
      refine zz_iload_n C 2 dX6_joinedTo_33 rfl rfl ?_
      obtain ⟨x11, h12, hf⟩ := zz_bind hf
      refine zz_cut 54 [(0, .ref (ad 21)), (1, .int piece_), (2, .int joined_), (3, .int before_), (4, .int round_), (5, .int other_)] [.int x11, .int joined_] (zz_wc U ad σ X) ?_ (fun J13 => ?_)
      · refine zz_ior C dX6_joinedTo_54 ?_
        obtain ⟨x19, h20, hf⟩ := zz_bind hf
        refine zz_topi (Option.some.inj h20) ?_
        refine zz_istore_n C dX6_joinedTo_55 rfl (by decide) (lv' := [(2, .int x19), (0, .ref (ad 21)), (1, .int piece_), (3, .int before_), (4, .int round_), (5, .int other_)]) rfl ?_
        refine zz_iinc (v := (other_ + (1 : Int32))) C 5 dX6_joinedTo_56 rfl (by rfl) (by decide) (lv' := [(5, .int (other_ + (1 : Int32))), (2, .int x19), (0, .ref (ad 21)), (1, .int piece_), (3, .int before_), (4, .int round_)]) rfl ?_
        refine zz_goto (tgt := 26) C dX6_joinedTo_59 (by decide) ?_
        refine zz_sub [2, 3, 1, 4, 5, 0] rfl ?_
        exact ih x19 (other_ + (1 : Int32)) _ hf kx
      refine zz_iload C 5 dX6_joinedTo_34 rfl ?_
      refine zz_iload_n C 2 dX6_joinedTo_36 rfl rfl ?_
      obtain ⟨x14, h15, h12⟩ := zz_bind h12
      refine zz_callSN1 (host := "ChangeUntangler") (As := [.int other_, .int joined_]) (rest := [.int joined_]) C (mX7_isIn σ other_ joined_ x14 h15) dX6_joinedTo_37 rfl (by decide +kernel) zy_X7_isIn rfl (by decide) (by decide) (Nat.le_of_ble_eq_true rfl) hcR hsR rfl ?_
      refine zz_if_eq (tgt := 53) C dX6_joinedTo_40 (by decide) (fun g16 => ?_) (fun g16 => ?_)
      · rw [if_pos g16] at h12
        refine zz_iconst (v := (0 : Int32)) C dX6_joinedTo_53 (by decide) ?_
        cases h12
        exact J13
      · rw [if_neg g16] at h12
        refine zz_aload_n C 0 dX6_joinedTo_43 rfl rfl ?_
        refine zf6_must C dX6_joinedTo_44 zw_28 ?_
        refine zz_iload C 5 dX6_joinedTo_47 rfl ?_
        obtain ⟨x17, h18, h12⟩ := zz_bind h12
        refine zl_22 C dX6_joinedTo_49 h18 ?_
        refine zz_goto (tgt := 54) C dX6_joinedTo_50 (by decide) ?_
        cases h12
        exact J13
set_option maxHeartbeats 4000000 in
set_option maxRecDepth 100000 in
theorem mX6_joinedTo_L1 {p : Program} {l : Launch} {e : Env} {R : Room} {s : State} {m : MethodId} {args : Array Value} {below : List Frame} {meth : Method} {c : Code} {Q : State → Prop} {D : va_G} {U : zz_U} {A : Nat → Prop} {cells slots : Nat} {ad : Nat → Nat} {X : va_W} (C : zz_C p l R s m meth c D U A RX6 cX6_joinedTo 6 (some .int) [] 1) (hcR : cells ≤ R.cells) (hsR : slots ≤ R.slots) (σ : zz_St) (piece_ : Int32) : ∀ (n : Nat) (joined_ : Int32) (before_ : Int32) (round_ : Int32) (q : (Int32 × Int32 × Int32)), fX6_joinedTo_L1 σ piece_ n joined_ before_ round_ = some q → (zz_Z p l e R s m args below meth c Q D A 6 cells slots (zz_wc U ad σ X) 68 [(0, .ref (ad 21)), (1, .int piece_), (2, .int q.1), (3, .int q.2.1), (4, .int q.2.2)] []) → zz_Z p l e R s m args below meth c Q D A 6 cells slots (zz_wc U ad σ X) 9 [(0, .ref (ad 21)), (1, .int piece_), (2, .int joined_), (3, .int before_), (4, .int round_)] [] := by
  intro n
  induction n with
  | zero => intro joined_ before_ round_ q hf; rw [fX6_joinedTo_L1] at hf; cases hf
  | succ n ih =>
    intro joined_ before_ round_ q hf kx
    rw [fX6_joinedTo_L1] at hf
    obtain ⟨b3, h4, hf⟩ := zz_bind hf
    refine zz_cutI (P := b3 = true) 21 [(0, .ref (ad 21)), (1, .int piece_), (2, .int joined_), (3, .int before_), (4, .int round_)] [] (zz_wc U ad σ X) (fun g7 => ?_) (fun J5 => ?_)
    · rw [if_pos g7] at hf
      refine zz_iload_n C 2 dX6_joinedTo_21 rfl rfl ?_
      refine zz_istore_n C dX6_joinedTo_22 rfl (by decide) (lv' := [(3, .int joined_), (0, .ref (ad 21)), (1, .int piece_), (2, .int joined_), (4, .int round_)]) rfl ?_
      refine zz_iconst (v := (0 : Int32)) C dX6_joinedTo_23 (by decide) ?_
      refine zz_istore C dX6_joinedTo_24 (by decide) (lv' := [(5, .int (0 : Int32)), (3, .int joined_), (0, .ref (ad 21)), (1, .int piece_), (2, .int joined_), (4, .int round_)]) rfl ?_
      obtain ⟨q21, h22, hf⟩ := zz_bind hf
      refine zz_sub [2, 3, 4, 1, 5, 0] rfl ?_
      refine mX6_joinedTo_L2 C hcR hsR σ piece_ joined_ round_ 1000 joined_ (0 : Int32) q21 h22 ?_
      refine zz_iinc (v := (round_ + (1 : Int32))) C 4 dX6_joinedTo_62 rfl (by rfl) (by decide) (lv' := [(4, .int (round_ + (1 : Int32))), (0, .ref (ad 21)), (1, .int piece_), (2, .int q21.1), (3, .int joined_), (5, .int q21.2)]) rfl ?_
      refine zz_goto (tgt := 9) C dX6_joinedTo_65 (by decide) ?_
      refine zz_sub [1, 2, 3, 4, 0] rfl ?_
      exact ih q21.1 joined_ (round_ + (1 : Int32)) _ hf kx
    refine zz_cutI (P := b3 = false) 68 [(0, .ref (ad 21)), (1, .int piece_), (2, .int joined_), (3, .int before_), (4, .int round_)] [] (zz_wc U ad σ X) (fun g7 => ?_) (fun J6 => ?_)
    · rw [if_neg (show ¬ b3 = true by rw [g7]; decide)] at hf
      cases hf
      exact kx
    refine zz_iload C 4 dX6_joinedTo_9 rfl ?_
    refine zz_bipush (v := (14 : Int32)) C dX6_joinedTo_11 (by decide) ?_
    refine zz_icmp_ge (tgt := 68) C dX6_joinedTo_13 (by decide) (fun g8 => ?_) (fun g8 => ?_)
    · rw [if_pos g8] at h4
      cases h4
      exact J6 rfl
    · rw [if_neg g8] at h4
      refine zz_iload_n C 2 dX6_joinedTo_16 rfl rfl ?_
      refine zz_iload_n C 3 dX6_joinedTo_17 rfl rfl ?_
      refine zz_icmp_eq (tgt := 68) C dX6_joinedTo_18 (by decide) (fun g9 => ?_) (fun g9 => ?_)
      · rw [if_pos g9] at h4
        cases h4
        exact J6 rfl
      · rw [if_neg g9] at h4
        cases h4
        exact J5 rfl
set_option maxHeartbeats 4000000 in
set_option maxRecDepth 100000 in
theorem mX6_joinedTo {D : va_G} {U : zz_U} {ad : Nat → Nat} {X : va_W} (σ : zz_St) (piece_ : Int32) (r : Int32) (hf : fX6_joinedTo σ piece_ = some r) : zz_Met yX6_joinedTo (.code yX6_joinedTo cX6_joinedTo 6 (some .int)) 1 0 0 D U [.ref (ad 21), .int piece_] (zz_wc U ad σ X) (zz_ok (some (.int r)) (zz_wc U ad σ X)) zz_noth := by
  unfold fX6_joinedTo at hf
  refine zz_method RX6 rfl (by decide +kernel) (Nat.le_of_ble_eq_true rfl) ?_
  intro p l e s m args below meth c A _ C
  refine zz_lvs (lv1 := [(0, .ref (ad 21)), (1, .int piece_)]) rfl ?_
  refine zz_iconst (v := (1 : Int32)) C dX6_joinedTo_0 (by decide) ?_
  refine zz_iload_n C 1 dX6_joinedTo_1 rfl rfl ?_
  refine zz_ishl C dX6_joinedTo_2 ?_
  obtain ⟨x1, h2, hf⟩ := zz_bind hf
  refine zz_topi (Option.some.inj h2) ?_
  refine zz_istore_n C dX6_joinedTo_3 rfl (by decide) (lv' := [(2, .int x1), (0, .ref (ad 21)), (1, .int piece_)]) rfl ?_
  refine zz_iconst (v := (0 : Int32)) C dX6_joinedTo_4 (by decide) ?_
  refine zz_istore_n C dX6_joinedTo_5 rfl (by decide) (lv' := [(3, .int (0 : Int32)), (2, .int x1), (0, .ref (ad 21)), (1, .int piece_)]) rfl ?_
  refine zz_iconst (v := (0 : Int32)) C dX6_joinedTo_6 (by decide) ?_
  refine zz_istore C dX6_joinedTo_7 (by decide) (lv' := [(4, .int (0 : Int32)), (3, .int (0 : Int32)), (2, .int x1), (0, .ref (ad 21)), (1, .int piece_)]) rfl ?_
  obtain ⟨q23, h24, hf⟩ := zz_bind hf
  refine zz_sub [3, 4, 2, 1, 0] rfl ?_
  refine mX6_joinedTo_L1 C (Nat.le_of_ble_eq_true rfl) (Nat.le_of_ble_eq_true rfl) σ piece_ 1000 x1 (0 : Int32) (0 : Int32) q23 h24 ?_
  refine zz_iload_n C 2 dX6_joinedTo_68 rfl rfl ?_
  cases hf
  exact zz_iret C dX6_joinedTo_69 (And.intro rfl rfl) (Nat.le_of_ble_eq_true rfl) (Nat.le_of_ble_eq_true rfl)
theorem dX6_isContradiction_0 : decode cX6_isContradiction 0 = .ok (.iconst 0, 1) := by decide +kernel
theorem dX6_isContradiction_1 : decode cX6_isContradiction 1 = .ok (.istore_n 1, 1) := by decide +kernel
theorem dX6_isContradiction_2 : decode cX6_isContradiction 2 = .ok (.iload_n 1, 1) := by decide +kernel
theorem dX6_isContradiction_3 : decode cX6_isContradiction 3 = .ok (.bipush 14, 2) := by decide +kernel
theorem dX6_isContradiction_5 : decode cX6_isContradiction 5 = .ok (.if_icmp .ge 35, 3) := by decide +kernel
theorem dX6_isContradiction_8 : decode cX6_isContradiction 8 = .ok (.aload_n 0, 1) := by decide +kernel
theorem dX6_isContradiction_9 : decode cX6_isContradiction 9 = .ok (.getfield 15, 3) := by decide +kernel
theorem dX6_isContradiction_12 : decode cX6_isContradiction 12 = .ok (.iload_n 1, 1) := by decide +kernel
theorem dX6_isContradiction_13 : decode cX6_isContradiction 13 = .ok (.iaload, 1) := by decide +kernel
theorem dX6_isContradiction_14 : decode cX6_isContradiction 14 = .ok (.ifCond .eq 20, 3) := by decide +kernel
theorem dX6_isContradiction_17 : decode cX6_isContradiction 17 = .ok (.aload_n 0, 1) := by decide +kernel
theorem dX6_isContradiction_18 : decode cX6_isContradiction 18 = .ok (.iload_n 1, 1) := by decide +kernel
theorem dX6_isContradiction_19 : decode cX6_isContradiction 19 = .ok (.invokevirtual 26, 3) := by decide +kernel
theorem dX6_isContradiction_22 : decode cX6_isContradiction 22 = .ok (.aload_n 0, 1) := by decide +kernel
theorem dX6_isContradiction_23 : decode cX6_isContradiction 23 = .ok (.getfield 15, 3) := by decide +kernel
theorem dX6_isContradiction_26 : decode cX6_isContradiction 26 = .ok (.iload_n 1, 1) := by decide +kernel
theorem dX6_isContradiction_27 : decode cX6_isContradiction 27 = .ok (.iaload, 1) := by decide +kernel
theorem dX6_isContradiction_28 : decode cX6_isContradiction 28 = .ok (.iand, 1) := by decide +kernel
theorem dX6_isContradiction_29 : decode cX6_isContradiction 29 = .ok (.ifCond .eq 5, 3) := by decide +kernel
theorem dX6_isContradiction_32 : decode cX6_isContradiction 32 = .ok (.iconst 1, 1) := by decide +kernel
theorem dX6_isContradiction_33 : decode cX6_isContradiction 33 = .ok (.ireturn, 1) := by decide +kernel
theorem dX6_isContradiction_34 : decode cX6_isContradiction 34 = .ok (.iinc 1 1, 3) := by decide +kernel
theorem dX6_isContradiction_37 : decode cX6_isContradiction 37 = .ok (.goto (-35), 3) := by decide +kernel
theorem dX6_isContradiction_40 : decode cX6_isContradiction 40 = .ok (.iconst 0, 1) := by decide +kernel
theorem dX6_isContradiction_41 : decode cX6_isContradiction 41 = .ok (.ireturn, 1) := by decide +kernel
set_option maxHeartbeats 4000000 in
set_option maxRecDepth 100000 in
theorem mX6_isContradiction_L1 {p : Program} {l : Launch} {e : Env} {R : Room} {s : State} {m : MethodId} {args : Array Value} {below : List Frame} {meth : Method} {c : Code} {Q : State → Prop} {D : va_G} {U : zz_U} {A : Nat → Prop} {cells slots : Nat} {ad : Nat → Nat} {X : va_W} (C : zz_C p l R s m meth c D U A RX6 cX6_isContradiction 2 (some .boolean) [] 2) (hcR : cells ≤ R.cells) (hsR : slots ≤ R.slots) (σ : zz_St) : ∀ (n : Nat) (piece_ : Int32) (q : (Int32 ⊕ (Int32))), fX6_isContradiction_L1 σ n piece_ = some q → (∀ v : Int32, q = .inl v → zz_Z p l e R s m args below meth c Q D A 2 cells slots (zz_wc U ad σ X) 33 [] [.int v]) → (∀ w : Int32, q = .inr w → zz_Z p l e R s m args below meth c Q D A 2 cells slots (zz_wc U ad σ X) 40 [(0, .ref (ad 21)), (1, .int w)] []) → zz_Z p l e R s m args below meth c Q D A 2 cells slots (zz_wc U ad σ X) 2 [(0, .ref (ad 21)), (1, .int piece_)] [] := by
  intro n
  induction n with
  | zero => intro piece_ q hf; rw [fX6_isContradiction_L1] at hf; cases hf
  | succ n ih =>
    intro piece_ q hf kr kx
    rw [fX6_isContradiction_L1] at hf
    refine zz_iload_n C 1 dX6_isContradiction_2 rfl rfl ?_
    refine zz_bipush (v := (14 : Int32)) C dX6_isContradiction_3 (by decide) ?_
    refine zz_icmp_ge (tgt := 40) C dX6_isContradiction_5 (by decide) (fun g1 => ?_) (fun g1 => ?_)
    · rw [if_pos g1] at hf
      cases hf
      exact kx _ rfl
    · rw [if_neg g1] at hf
      obtain ⟨b2, h3, hf⟩ := zz_bind hf
      refine zz_cutI (P := b2 = true) 32 [(0, .ref (ad 21)), (1, .int piece_)] [] (zz_wc U ad σ X) (fun g6 => ?_) (fun J4 => ?_)
      · rw [if_pos g6] at hf
        refine zz_iconst (v := (1 : Int32)) C dX6_isContradiction_32 (by decide) ?_
        cases hf
        refine zz_sub [] rfl ?_
        exact kr _ rfl
      refine zz_cutI (P := b2 = false) 34 [(0, .ref (ad 21)), (1, .int piece_)] [] (zz_wc U ad σ X) (fun g6 => ?_) (fun J5 => ?_)
      · rw [if_neg (show ¬ b2 = true by rw [g6]; decide)] at hf
        refine zz_iinc (v := (piece_ + (1 : Int32))) C 1 dX6_isContradiction_34 rfl (by rfl) (by decide) (lv' := [(1, .int (piece_ + (1 : Int32))), (0, .ref (ad 21))]) rfl ?_
        refine zz_goto (tgt := 2) C dX6_isContradiction_37 (by decide) ?_
        refine zz_sub [1, 0] rfl ?_
        exact ih (piece_ + (1 : Int32)) _ hf kr kx
      refine zz_aload_n C 0 dX6_isContradiction_8 rfl rfl ?_
      refine zf6_mustNot C dX6_isContradiction_9 zw_27 ?_
      refine zz_iload_n C 1 dX6_isContradiction_12 rfl rfl ?_
      obtain ⟨x7, h8, h3⟩ := zz_bind h3
      refine zl_23 C dX6_isContradiction_13 h8 ?_
      refine zz_if_eq (tgt := 34) C dX6_isContradiction_14 (by decide) (fun g9 => ?_) (fun g9 => ?_)
      · rw [if_pos g9] at h3
        cases h3
        exact J5 rfl
      · rw [if_neg g9] at h3
        refine zz_aload_n C 0 dX6_isContradiction_17 rfl rfl ?_
        refine zz_iload_n C 1 dX6_isContradiction_18 rfl rfl ?_
        obtain ⟨x10, h11, h3⟩ := zz_bind h3
        refine zz_callV1 (As := [.int piece_]) (rest := []) C 21 (mX6_joinedTo σ piece_ x10 h11) dX6_isContradiction_19 rfl rfl rfl zw_30 zy_X6_joinedTo rfl (by decide) (by decide) (Nat.le_of_ble_eq_true rfl) hcR hsR rfl ?_
        refine zz_aload_n C 0 dX6_isContradiction_22 rfl rfl ?_
        refine zf6_mustNot C dX6_isContradiction_23 zw_27 ?_
        refine zz_iload_n C 1 dX6_isContradiction_26 rfl rfl ?_
        obtain ⟨x12, h13, h3⟩ := zz_bind h3
        refine zl_23 C dX6_isContradiction_27 h13 ?_
        refine zz_iand C dX6_isContradiction_28 ?_
        refine zz_if_eq (tgt := 34) C dX6_isContradiction_29 (by decide) (fun g14 => ?_) (fun g14 => ?_)
        · rw [if_pos g14] at h3
          cases h3
          exact J5 rfl
        · rw [if_neg g14] at h3
          cases h3
          exact J4 rfl
set_option maxHeartbeats 4000000 in
set_option maxRecDepth 100000 in
theorem mX6_isContradiction {D : va_G} {U : zz_U} {ad : Nat → Nat} {X : va_W} (σ : zz_St) (r : Int32) (hf : fX6_isContradiction σ = some r) : zz_Met yX6_isContradiction (.code yX6_isContradiction cX6_isContradiction 2 (some .boolean)) 2 0 0 D U [.ref (ad 21)] (zz_wc U ad σ X) (zz_ok (some (.int r)) (zz_wc U ad σ X)) zz_noth := by
  unfold fX6_isContradiction at hf
  refine zz_method RX6 rfl (by decide +kernel) (Nat.le_of_ble_eq_true rfl) ?_
  intro p l e s m args below meth c A _ C
  refine zz_lvs (lv1 := [(0, .ref (ad 21))]) rfl ?_
  refine zz_iconst (v := (0 : Int32)) C dX6_isContradiction_0 (by decide) ?_
  refine zz_istore_n C dX6_isContradiction_1 rfl (by decide) (lv' := [(1, .int (0 : Int32)), (0, .ref (ad 21))]) rfl ?_
  obtain ⟨q15, h16, hf⟩ := zz_bind hf
  refine zz_sub [1, 0] rfl ?_
  refine mX6_isContradiction_L1 C (Nat.le_of_ble_eq_true rfl) (Nat.le_of_ble_eq_true rfl) σ 1000 (0 : Int32) q15 h16 (fun v17 h19 => ?_) (fun w18 h19 => ?_)
  · subst h19
    obtain ⟨x20, h21, hf⟩ := zz_bind hf
    refine zz_topi (zz_bo_in h21).2 ?_
    cases hf
    exact zz_zret C dX6_isContradiction_33 (by rw [← (zz_bo_in h21).2]; exact (zz_bo_in h21).1) (And.intro rfl rfl) (Nat.le_of_ble_eq_true rfl) (Nat.le_of_ble_eq_true rfl)
  · subst h19
    refine zz_iconst (v := (0 : Int32)) C dX6_isContradiction_40 (by decide) ?_
    cases hf
    exact zz_zret C dX6_isContradiction_41 (Or.inl rfl) (And.intro rfl rfl) (Nat.le_of_ble_eq_true rfl) (Nat.le_of_ble_eq_true rfl)
theorem dX7_say_0 : decode cX7_say 0 = .ok (.aload_n 0, 1) := by decide +kernel
theorem dX7_say_1 : decode cX7_say 1 = .ok (.iload_n 1, 1) := by decide +kernel
theorem dX7_say_2 : decode cX7_say 2 = .ok (.invokevirtual 136, 3) := by decide +kernel
theorem dX7_say_5 : decode cX7_say 5 = .ok (.aload_n 0, 1) := by decide +kernel
theorem dX7_say_6 : decode cX7_say 6 = .ok (.iload_n 2, 1) := by decide +kernel
theorem dX7_say_7 : decode cX7_say 7 = .ok (.invokevirtual 136, 3) := by decide +kernel
theorem dX7_say_10 : decode cX7_say 10 = .ok (.iload_n 1, 1) := by decide +kernel
theorem dX7_say_11 : decode cX7_say 11 = .ok (.iload_n 2, 1) := by decide +kernel
theorem dX7_say_12 : decode cX7_say 12 = .ok (.invokestatic 139, 3) := by decide +kernel
theorem dX7_say_15 : decode cX7_say 15 = .ok (.iload_n 3, 1) := by decide +kernel
theorem dX7_say_16 : decode cX7_say 16 = .ok (.iconst 2, 1) := by decide +kernel
theorem dX7_say_17 : decode cX7_say 17 = .ok (.invokestatic 58, 3) := by decide +kernel
theorem dX7_say_20 : decode cX7_say 20 = .ok (.ifCond .ne 13, 3) := by decide +kernel
theorem dX7_say_23 : decode cX7_say 23 = .ok (.new 62, 3) := by decide +kernel
theorem dX7_say_26 : decode cX7_say 26 = .ok (.dup, 1) := by decide +kernel
theorem dX7_say_27 : decode cX7_say 27 = .ok (.ldc 160, 2) := by decide +kernel
theorem dX7_say_29 : decode cX7_say 29 = .ok (.invokespecial 66, 3) := by decide +kernel
theorem dX7_say_32 : decode cX7_say 32 = .ok (.athrow, 1) := by decide +kernel
theorem dX7_say_33 : decode cX7_say 33 = .ok (.aload_n 0, 1) := by decide +kernel
theorem dX7_say_34 : decode cX7_say 34 = .ok (.getfield 33, 3) := by decide +kernel
theorem dX7_say_37 : decode cX7_say 37 = .ok (.iload_n 1, 1) := by decide +kernel
theorem dX7_say_38 : decode cX7_say 38 = .ok (.iload_n 2, 1) := by decide +kernel
theorem dX7_say_39 : decode cX7_say 39 = .ok (.invokevirtual 162, 3) := by decide +kernel
theorem dX7_say_42 : decode cX7_say 42 = .ok (.istore 4, 2) := by decide +kernel
theorem dX7_say_44 : decode cX7_say 44 = .ok (.aload_n 0, 1) := by decide +kernel
theorem dX7_say_45 : decode cX7_say 45 = .ok (.getfield 33, 3) := by decide +kernel
theorem dX7_say_48 : decode cX7_say 48 = .ok (.iload_n 1, 1) := by decide +kernel
theorem dX7_say_49 : decode cX7_say 49 = .ok (.iload_n 2, 1) := by decide +kernel
theorem dX7_say_50 : decode cX7_say 50 = .ok (.iload_n 3, 1) := by decide +kernel
theorem dX7_say_51 : decode cX7_say 51 = .ok (.invokevirtual 166, 3) := by decide +kernel
theorem dX7_say_54 : decode cX7_say 54 = .ok (.aload_n 0, 1) := by decide +kernel
theorem dX7_say_55 : decode cX7_say 55 = .ok (.getfield 33, 3) := by decide +kernel
theorem dX7_say_58 : decode cX7_say 58 = .ok (.invokevirtual 170, 3) := by decide +kernel
theorem dX7_say_61 : decode cX7_say 61 = .ok (.ifCond .eq 24, 3) := by decide +kernel
theorem dX7_say_64 : decode cX7_say 64 = .ok (.aload_n 0, 1) := by decide +kernel
theorem dX7_say_65 : decode cX7_say 65 = .ok (.getfield 33, 3) := by decide +kernel
theorem dX7_say_68 : decode cX7_say 68 = .ok (.iload_n 1, 1) := by decide +kernel
theorem dX7_say_69 : decode cX7_say 69 = .ok (.iload_n 2, 1) := by decide +kernel
theorem dX7_say_70 : decode cX7_say 70 = .ok (.iload 4, 2) := by decide +kernel
theorem dX7_say_72 : decode cX7_say 72 = .ok (.invokevirtual 166, 3) := by decide +kernel
theorem dX7_say_75 : decode cX7_say 75 = .ok (.new 75, 3) := by decide +kernel
theorem dX7_say_78 : decode cX7_say 78 = .ok (.dup, 1) := by decide +kernel
theorem dX7_say_79 : decode cX7_say 79 = .ok (.ldc 174, 2) := by decide +kernel
theorem dX7_say_81 : decode cX7_say 81 = .ok (.invokespecial 79, 3) := by decide +kernel
theorem dX7_say_84 : decode cX7_say 84 = .ok (.athrow, 1) := by decide +kernel
theorem dX7_say_85 : decode cX7_say 85 = .ok (.aload_n 0, 1) := by decide +kernel
theorem dX7_say_86 : decode cX7_say 86 = .ok (.invokevirtual 80, 3) := by decide +kernel
theorem dX7_say_89 : decode cX7_say 89 = .ok (.iload 4, 2) := by decide +kernel
theorem dX7_say_91 : decode cX7_say 91 = .ok (.ireturn, 1) := by decide +kernel
set_option maxHeartbeats 4000000 in
set_option maxRecDepth 100000 in
theorem mX7_say {D : va_G} {U : zz_U} {ad : Nat → Nat} {X : va_W} (σ : zz_St) (a_ : Int32) (b_ : Int32) (what_ : Int32) (r : ((Int32 ⊕ String) × zz_St)) (hf : fX7_say σ a_ b_ what_ = some r) : zz_Met yX7_say (.code yX7_say cX7_say 5 (some .int)) 7 4 24 D U [.ref (ad 0), .int a_, .int b_, .int what_] (zz_wc U ad σ X) (match r.1 with | .inl x => zz_ok (some (.int x)) (zz_wc U ad r.2 X) | .inr _ => zz_none) (match r.1 with | .inl _ => zz_noth | .inr E => zz_th E (zz_wc U ad r.2 X)) := by
  unfold fX7_say at hf
  refine zz_method RX7 rfl (by decide +kernel) (Nat.le_of_ble_eq_true rfl) ?_
  intro p l e s m args below meth c A _ C
  refine zz_lvs (lv1 := [(0, .ref (ad 0)), (1, .int a_), (2, .int b_), (3, .int what_)]) rfl ?_
  refine zz_aload_n C 0 dX7_say_0 rfl rfl ?_
  refine zz_iload_n C 1 dX7_say_1 rfl rfl ?_
  obtain ⟨x1, h2, hf⟩ := zz_bind hf
  rcases x1 with x1 | E3
  · refine zz_callV1 (As := [.int a_]) (rest := []) C 0 (mX7_requirePiece_r σ a_ x1 h2) dX7_say_2 rfl rfl rfl zw_14 zy_X7_requirePiece rfl (by decide) (by decide) (Nat.le_of_ble_eq_true rfl) (Nat.le_of_ble_eq_true rfl) (Nat.le_of_ble_eq_true rfl) rfl ?_
    refine zz_aload_n C 0 dX7_say_5 rfl rfl ?_
    refine zz_iload_n C 2 dX7_say_6 rfl rfl ?_
    obtain ⟨x4, h5, hf⟩ := zz_bind hf
    rcases x4 with x4 | E6
    · refine zz_callV1 (As := [.int b_]) (rest := []) C 0 (mX7_requirePiece_r σ b_ x4 h5) dX7_say_7 rfl rfl rfl zw_14 zy_X7_requirePiece rfl (by decide) (by decide) (Nat.le_of_ble_eq_true rfl) (Nat.le_of_ble_eq_true rfl) (Nat.le_of_ble_eq_true rfl) rfl ?_
      refine zz_iload_n C 1 dX7_say_10 rfl rfl ?_
      refine zz_iload_n C 2 dX7_say_11 rfl rfl ?_
      obtain ⟨x7, h8, hf⟩ := zz_bind hf
      rcases x7 with x7 | E9
      · refine zz_callS1 (As := [.int a_, .int b_]) (rest := []) C (mX7_requireDifferent_r σ a_ b_ x7 h8) dX7_say_12 rfl zw_35 zy_X7_requireDifferent rfl (by decide) (by decide) (Nat.le_of_ble_eq_true rfl) (Nat.le_of_ble_eq_true rfl) (Nat.le_of_ble_eq_true rfl) rfl ?_
        refine zz_iload_n C 3 dX7_say_15 rfl rfl ?_
        refine zz_iconst (v := (2 : Int32)) C dX7_say_16 (by decide) ?_
        obtain ⟨x10, h11, hf⟩ := zz_bind hf
        refine zz_callS1 (As := [.int what_, .int (2 : Int32)]) (rest := []) C (mX7_isUpTo σ what_ (2 : Int32) x10 h11) dX7_say_17 rfl zw_0 zy_X7_isUpTo rfl (by decide) (by decide) (Nat.le_of_ble_eq_true rfl) (Nat.le_of_ble_eq_true rfl) (Nat.le_of_ble_eq_true rfl) rfl ?_
        refine zz_if_ne (tgt := 33) C dX7_say_20 (by decide) (fun g12 => ?_) (fun g12 => ?_)
        · rw [if_neg g12] at hf
          refine zz_aload_n C 0 dX7_say_33 rfl rfl ?_
          refine zf7_sayings C dX7_say_34 zw_32 ?_
          refine zz_iload_n C 1 dX7_say_37 rfl rfl ?_
          refine zz_iload_n C 2 dX7_say_38 rfl rfl ?_
          obtain ⟨x13, h14, hf⟩ := zz_bind hf
          refine zz_callV1 (As := [.int a_, .int b_]) (rest := []) C 21 (mX6_saidOf σ a_ b_ x13 h14) dX7_say_39 rfl rfl rfl zw_34 zy_X6_saidOf rfl (by decide) (by decide) (Nat.le_of_ble_eq_true rfl) (Nat.le_of_ble_eq_true rfl) (Nat.le_of_ble_eq_true rfl) rfl ?_
          refine zz_istore C dX7_say_42 (by decide) (lv' := [(4, .int x13), (0, .ref (ad 0)), (1, .int a_), (2, .int b_), (3, .int what_)]) rfl ?_
          refine zz_aload_n C 1 dX7_say_44 rfl rfl ?_
          refine zf7_sayings C dX7_say_45 zw_32 ?_
          refine zz_iload_n C 2 dX7_say_48 rfl rfl ?_
          refine zz_iload_n C 3 dX7_say_49 rfl rfl ?_
          refine zz_iload_n C 4 dX7_say_50 rfl rfl ?_
          obtain ⟨x15, h16, hf⟩ := zz_bind hf
          refine zz_callV1 (As := [.int a_, .int b_, .int what_]) (rest := []) C 21 (mX6_put σ a_ b_ what_ x15 h16) dX7_say_51 rfl rfl rfl zw_31 zy_X6_put rfl (by decide) (by decide) (Nat.le_of_ble_eq_true rfl) (Nat.le_of_ble_eq_true rfl) (Nat.le_of_ble_eq_true rfl) rfl ?_
          refine zz_aload_n C 1 dX7_say_54 rfl rfl ?_
          refine zf7_sayings C dX7_say_55 zw_32 ?_
          obtain ⟨x17, h18, hf⟩ := zz_bind hf
          refine zz_callV1 (As := []) (rest := []) C 21 (mX6_isContradiction x15 x17 h18) dX7_say_58 rfl rfl rfl zw_33 zy_X6_isContradiction rfl (by decide) (by decide) (Nat.le_of_ble_eq_true rfl) (Nat.le_of_ble_eq_true rfl) (Nat.le_of_ble_eq_true rfl) rfl ?_
          refine zz_if_eq (tgt := 85) C dX7_say_61 (by decide) (fun g19 => ?_) (fun g19 => ?_)
          · rw [if_pos g19] at hf
            refine zz_aload_n C 1 dX7_say_85 rfl rfl ?_
            obtain ⟨x20, h21, hf⟩ := zz_bind hf
            refine zz_callV1 (As := []) (rest := []) C 0 (mX7_forgetResults x15 x20 h21) dX7_say_86 rfl rfl rfl zw_11 zy_X7_forgetResults rfl (by decide) (by decide) (Nat.le_of_ble_eq_true rfl) (Nat.le_of_ble_eq_true rfl) (Nat.le_of_ble_eq_true rfl) rfl ?_
            refine zz_iload C 0 dX7_say_89 rfl ?_
            cases hf
            exact zz_iret C dX7_say_91 (And.intro rfl rfl) (Nat.le_of_ble_eq_true rfl) (Nat.le_of_ble_eq_true rfl)
          · rw [if_neg g19] at hf
            refine zz_aload_n C 1 dX7_say_64 rfl rfl ?_
            refine zf7_sayings C dX7_say_65 zw_32 ?_
            refine zz_iload_n C 2 dX7_say_68 rfl rfl ?_
            refine zz_iload_n C 3 dX7_say_69 rfl rfl ?_
            refine zz_iload C 0 dX7_say_70 rfl ?_
            obtain ⟨x22, h23, hf⟩ := zz_bind hf
            refine zz_callV1 (As := [.int a_, .int b_, .int x13]) (rest := []) C 21 (mX6_put x15 a_ b_ x13 x22 h23) dX7_say_72 rfl rfl rfl zw_31 zy_X6_put rfl (by decide) (by decide) (Nat.le_of_ble_eq_true rfl) (Nat.le_of_ble_eq_true rfl) (Nat.le_of_ble_eq_true rfl) rfl ?_
            cases hf
            exact zz_throwS (cls := "java/lang/IllegalStateException") (text := "pieces would be joined that must not be together") C zt_1 (by decide +kernel) dX7_say_75 dX7_say_78 dX7_say_79 dX7_say_81 dX7_say_84 (by decide) (Nat.le_of_ble_eq_true rfl) (Nat.le_of_ble_eq_true rfl) (Nat.le_of_ble_eq_true rfl) (Nat.le_of_ble_eq_true rfl) (Nat.le_of_ble_eq_true rfl) (And.intro rfl rfl)
        · rw [if_pos g12] at hf
          cases hf
          exact zz_throwS (cls := "java/lang/IllegalArgumentException") (text := "nothing that can be said") C zt_0 (by decide +kernel) dX7_say_23 dX7_say_26 dX7_say_27 dX7_say_29 dX7_say_32 (by decide) (Nat.le_of_ble_eq_true rfl) (Nat.le_of_ble_eq_true rfl) (Nat.le_of_ble_eq_true rfl) (Nat.le_of_ble_eq_true rfl) (Nat.le_of_ble_eq_true rfl) (And.intro rfl rfl)
      · refine zz_callSx (As := [.int a_, .int b_]) (rest := []) C (mX7_requireDifferent_x σ a_ b_ E9 h8) dX7_say_12 rfl zw_35 zy_X7_requireDifferent rfl (by decide) (by decide) (Nat.le_of_ble_eq_true rfl) (Nat.le_of_ble_eq_true rfl) (Nat.le_of_ble_eq_true rfl) ?_
        cases hf
        exact zz_out C (And.intro rfl rfl) (Nat.le_of_ble_eq_true rfl) (Nat.le_of_ble_eq_true rfl)
    · refine zz_callVx (As := [.int b_]) (rest := []) C 0 (mX7_requirePiece_x σ b_ E6 h5) dX7_say_7 rfl rfl rfl zw_14 zy_X7_requirePiece rfl (by decide) (by decide) (Nat.le_of_ble_eq_true rfl) (Nat.le_of_ble_eq_true rfl) (Nat.le_of_ble_eq_true rfl) ?_
      cases hf
      exact zz_out C (And.intro rfl rfl) (Nat.le_of_ble_eq_true rfl) (Nat.le_of_ble_eq_true rfl)
  · refine zz_callVx (As := [.int a_]) (rest := []) C 0 (mX7_requirePiece_x σ a_ E3 h2) dX7_say_2 rfl rfl rfl zw_14 zy_X7_requirePiece rfl (by decide) (by decide) (Nat.le_of_ble_eq_true rfl) (Nat.le_of_ble_eq_true rfl) (Nat.le_of_ble_eq_true rfl) ?_
    cases hf
    exact zz_out C (And.intro rfl rfl) (Nat.le_of_ble_eq_true rfl) (Nat.le_of_ble_eq_true rfl)
theorem mX7_say_r {D : va_G} {U : zz_U} {ad : Nat → Nat} {X : va_W} (σ : zz_St) (a_ : Int32) (b_ : Int32) (what_ : Int32) (x : Int32) (σ1 : zz_St) (hf : fX7_say σ a_ b_ what_ = some (.inl x, σ1)) : zz_Met yX7_say (.code yX7_say cX7_say 5 (some .int)) 7 4 24 D U [.ref (ad 0), .int a_, .int b_, .int what_] (zz_wc U ad σ X) (zz_ok (some (.int x)) (zz_wc U ad σ1 X)) zz_noth := mX7_say σ a_ b_ what_ (.inl x, σ1) hf
theorem mX7_say_x {D : va_G} {U : zz_U} {ad : Nat → Nat} {X : va_W} (σ : zz_St) (a_ : Int32) (b_ : Int32) (what_ : Int32) (x : String) (σ1 : zz_St) (hf : fX7_say σ a_ b_ what_ = some (.inr x, σ1)) : zz_Met yX7_say (.code yX7_say cX7_say 5 (some .int)) 7 4 24 D U [.ref (ad 0), .int a_, .int b_, .int what_] (zz_wc U ad σ X) zz_none (zz_th x (zz_wc U ad σ1 X)) := mX7_say σ a_ b_ what_ (.inr x, σ1) hf
theorem dX2_isNear_0 : decode cX2_isNear 0 = .ok (.aload_n 1, 1) := by decide +kernel
theorem dX2_isNear_1 : decode cX2_isNear 1 = .ok (.getfield 41, 3) := by decide +kernel
theorem dX2_isNear_4 : decode cX2_isNear 4 = .ok (.iload_n 2, 1) := by decide +kernel
theorem dX2_isNear_5 : decode cX2_isNear 5 = .ok (.iaload, 1) := by decide +kernel
theorem dX2_isNear_6 : decode cX2_isNear 6 = .ok (.aload_n 1, 1) := by decide +kernel
theorem dX2_isNear_7 : decode cX2_isNear 7 = .ok (.getfield 41, 3) := by decide +kernel
theorem dX2_isNear_10 : decode cX2_isNear 10 = .ok (.iload_n 3, 1) := by decide +kernel
theorem dX2_isNear_11 : decode cX2_isNear 11 = .ok (.iaload, 1) := by decide +kernel
theorem dX2_isNear_12 : decode cX2_isNear 12 = .ok (.if_icmp .ne 30, 3) := by decide +kernel
theorem dX2_isNear_15 : decode cX2_isNear 15 = .ok (.aload_n 1, 1) := by decide +kernel
theorem dX2_isNear_16 : decode cX2_isNear 16 = .ok (.getfield 44, 3) := by decide +kernel
theorem dX2_isNear_19 : decode cX2_isNear 19 = .ok (.iload_n 2, 1) := by decide +kernel
theorem dX2_isNear_20 : decode cX2_isNear 20 = .ok (.iaload, 1) := by decide +kernel
theorem dX2_isNear_21 : decode cX2_isNear 21 = .ok (.aload_n 1, 1) := by decide +kernel
theorem dX2_isNear_22 : decode cX2_isNear 22 = .ok (.getfield 44, 3) := by decide +kernel
theorem dX2_isNear_25 : decode cX2_isNear 25 = .ok (.iload_n 3, 1) := by decide +kernel
theorem dX2_isNear_26 : decode cX2_isNear 26 = .ok (.iaload, 1) := by decide +kernel
theorem dX2_isNear_27 : decode cX2_isNear 27 = .ok (.isub, 1) := by decide +kernel
theorem dX2_isNear_28 : decode cX2_isNear 28 = .ok (.invokestatic 47, 3) := by decide +kernel
theorem dX2_isNear_31 : decode cX2_isNear 31 = .ok (.aload_n 0, 1) := by decide +kernel
theorem dX2_isNear_32 : decode cX2_isNear 32 = .ok (.getfield 15, 3) := by decide +kernel
theorem dX2_isNear_35 : decode cX2_isNear 35 = .ok (.if_icmp .gt 7, 3) := by decide +kernel
theorem dX2_isNear_38 : decode cX2_isNear 38 = .ok (.iconst 1, 1) := by decide +kernel
theorem dX2_isNear_39 : decode cX2_isNear 39 = .ok (.goto 4, 3) := by decide +kernel
theorem dX2_isNear_42 : decode cX2_isNear 42 = .ok (.iconst 0, 1) := by decide +kernel
theorem dX2_isNear_43 : decode cX2_isNear 43 = .ok (.ireturn, 1) := by decide +kernel
set_option maxHeartbeats 4000000 in
set_option maxRecDepth 100000 in
theorem mX2_isNear {D : va_G} {U : zz_U} {ad : Nat → Nat} {X : va_W} (σ : zz_St) (a_ : Int32) (b_ : Int32) (r : Int32) (hf : fX2_isNear σ a_ b_ = some r) : zz_Met yX2_isNear (.code yX2_isNear cX2_isNear 4 (some .boolean)) 1 0 0 D U [.ref (ad 19), .ref (ad 1), .int a_, .int b_] (zz_wc U ad σ X) (zz_ok (some (.int r)) (zz_wc U ad σ X)) zz_noth := by
  unfold fX2_isNear at hf
  refine zz_method RX2 rfl (by decide +kernel) (Nat.le_of_ble_eq_true rfl) ?_
  intro p l e s m args below meth c A _ C
  refine zz_lvs (lv1 := [(0, .ref (ad 19)), (1, .ref (ad 1)), (2, .int a_), (3, .int b_)]) rfl ?_
  obtain ⟨b1, h2, hf⟩ := zz_bind hf
  refine zz_cut 43 [(0, .ref (ad 19)), (1, .ref (ad 1)), (2, .int a_), (3, .int b_)] [.int (zz_bi b1)] (zz_wc U ad σ X) ?_ (fun J3 => ?_)
  · cases hf
    exact zz_zret C dX2_isNear_43 (zz_bi01 _) (And.intro rfl rfl) (Nat.le_of_ble_eq_true rfl) (Nat.le_of_ble_eq_true rfl)
  refine zz_aload_n C 1 dX2_isNear_0 rfl rfl ?_
  refine zf5_files C dX2_isNear_1 zw_39 ?_
  refine zz_iload_n C 2 dX2_isNear_4 rfl rfl ?_
  obtain ⟨x4, h5, h2⟩ := zz_bind h2
  refine zl_2 C dX2_isNear_5 h5 ?_
  refine zz_aload_n C 1 dX2_isNear_6 rfl rfl ?_
  refine zf5_files C dX2_isNear_7 zw_39 ?_
  refine zz_iload_n C 3 dX2_isNear_10 rfl rfl ?_
  obtain ⟨x6, h7, h2⟩ := zz_bind h2
  refine zl_2 C dX2_isNear_11 h7 ?_
  refine zz_icmp_ne (tgt := 42) C dX2_isNear_12 (by decide) (fun g8 => ?_) (fun g8 => ?_)
  · rw [if_neg g8] at h2
    refine zz_iconst (v := 0) C dX2_isNear_42 (by decide) ?_
    cases h2
    exact J3
  · rw [if_pos g8] at h2
    refine zz_aload_n C 1 dX2_isNear_15 rfl rfl ?_
    refine zf5_startLines C dX2_isNear_16 zw_38 ?_
    refine zz_iload_n C 2 dX2_isNear_19 rfl rfl ?_
    obtain ⟨x9, h10, h2⟩ := zz_bind h2
    refine zl_3 C dX2_isNear_20 h10 ?_
    refine zz_aload_n C 1 dX2_isNear_21 rfl rfl ?_
    refine zf5_startLines C dX2_isNear_22 zw_38 ?_
    refine zz_iload_n C 3 dX2_isNear_25 rfl rfl ?_
    obtain ⟨x11, h12, h2⟩ := zz_bind h2
    refine zl_3 C dX2_isNear_26 h12 ?_
    refine zz_isub C dX2_isNear_27 ?_
    refine zz_mabs (y := 0) C dX2_isNear_28 zw_36 zm_abs_1 zm_abs_2 zm_abs_3 (by decide) (Nat.le_of_ble_eq_true rfl) (Nat.le_of_ble_eq_true rfl) (Nat.le_of_ble_eq_true rfl) ?_
    refine zz_aload_n C 0 dX2_isNear_31 rfl rfl ?_
    refine zf2_span C dX2_isNear_32 zw_37 ?_
    refine zz_icmp_gt (tgt := 42) C dX2_isNear_35 (by decide) (fun g13 => ?_) (fun g13 => ?_)
    · rw [if_pos g13] at h2
      refine zz_iconst (v := 0) C dX2_isNear_42 (by decide) ?_
      cases h2
      exact J3
    · rw [if_neg g13] at h2
      refine zz_iconst (v := 1) C dX2_isNear_38 (by decide) ?_
      refine zz_goto (tgt := 43) C dX2_isNear_39 (by decide) ?_
      cases h2
      exact J3
theorem dJ6_bitCount_0f7a4_0 : decode cJ6_bitCount_0f7a4 0 = .ok (.iload_n 0, 1) := by decide +kernel
theorem dJ6_bitCount_0f7a4_1 : decode cJ6_bitCount_0f7a4 1 = .ok (.iload_n 0, 1) := by decide +kernel
theorem dJ6_bitCount_0f7a4_2 : decode cJ6_bitCount_0f7a4 2 = .ok (.iconst 1, 1) := by decide +kernel
theorem dJ6_bitCount_0f7a4_3 : decode cJ6_bitCount_0f7a4 3 = .ok (.iushr, 1) := by decide +kernel
theorem dJ6_bitCount_0f7a4_4 : decode cJ6_bitCount_0f7a4 4 = .ok (.ldc_w 265, 3) := by decide +kernel
theorem dJ6_bitCount_0f7a4_7 : decode cJ6_bitCount_0f7a4 7 = .ok (.iand, 1) := by decide +kernel
theorem dJ6_bitCount_0f7a4_8 : decode cJ6_bitCount_0f7a4 8 = .ok (.isub, 1) := by decide +kernel
theorem dJ6_bitCount_0f7a4_9 : decode cJ6_bitCount_0f7a4 9 = .ok (.istore_n 0, 1) := by decide +kernel
theorem dJ6_bitCount_0f7a4_10 : decode cJ6_bitCount_0f7a4 10 = .ok (.iload_n 0, 1) := by decide +kernel
theorem dJ6_bitCount_0f7a4_11 : decode cJ6_bitCount_0f7a4 11 = .ok (.ldc_w 266, 3) := by decide +kernel
theorem dJ6_bitCount_0f7a4_14 : decode cJ6_bitCount_0f7a4 14 = .ok (.iand, 1) := by decide +kernel
theorem dJ6_bitCount_0f7a4_15 : decode cJ6_bitCount_0f7a4 15 = .ok (.iload_n 0, 1) := by decide +kernel
theorem dJ6_bitCount_0f7a4_16 : decode cJ6_bitCount_0f7a4 16 = .ok (.iconst 2, 1) := by decide +kernel
theorem dJ6_bitCount_0f7a4_17 : decode cJ6_bitCount_0f7a4 17 = .ok (.iushr, 1) := by decide +kernel
theorem dJ6_bitCount_0f7a4_18 : decode cJ6_bitCount_0f7a4 18 = .ok (.ldc_w 266, 3) := by decide +kernel
theorem dJ6_bitCount_0f7a4_21 : decode cJ6_bitCount_0f7a4 21 = .ok (.iand, 1) := by decide +kernel
theorem dJ6_bitCount_0f7a4_22 : decode cJ6_bitCount_0f7a4 22 = .ok (.iadd, 1) := by decide +kernel
theorem dJ6_bitCount_0f7a4_23 : decode cJ6_bitCount_0f7a4 23 = .ok (.istore_n 0, 1) := by decide +kernel
theorem dJ6_bitCount_0f7a4_24 : decode cJ6_bitCount_0f7a4 24 = .ok (.iload_n 0, 1) := by decide +kernel
theorem dJ6_bitCount_0f7a4_25 : decode cJ6_bitCount_0f7a4 25 = .ok (.iload_n 0, 1) := by decide +kernel
theorem dJ6_bitCount_0f7a4_26 : decode cJ6_bitCount_0f7a4 26 = .ok (.iconst 4, 1) := by decide +kernel
theorem dJ6_bitCount_0f7a4_27 : decode cJ6_bitCount_0f7a4 27 = .ok (.iushr, 1) := by decide +kernel
theorem dJ6_bitCount_0f7a4_28 : decode cJ6_bitCount_0f7a4 28 = .ok (.iadd, 1) := by decide +kernel
theorem dJ6_bitCount_0f7a4_29 : decode cJ6_bitCount_0f7a4 29 = .ok (.ldc_w 267, 3) := by decide +kernel
theorem dJ6_bitCount_0f7a4_32 : decode cJ6_bitCount_0f7a4 32 = .ok (.iand, 1) := by decide +kernel
theorem dJ6_bitCount_0f7a4_33 : decode cJ6_bitCount_0f7a4 33 = .ok (.istore_n 0, 1) := by decide +kernel
theorem dJ6_bitCount_0f7a4_34 : decode cJ6_bitCount_0f7a4 34 = .ok (.iload_n 0, 1) := by decide +kernel
theorem dJ6_bitCount_0f7a4_35 : decode cJ6_bitCount_0f7a4 35 = .ok (.iload_n 0, 1) := by decide +kernel
theorem dJ6_bitCount_0f7a4_36 : decode cJ6_bitCount_0f7a4 36 = .ok (.bipush 8, 2) := by decide +kernel
theorem dJ6_bitCount_0f7a4_38 : decode cJ6_bitCount_0f7a4 38 = .ok (.iushr, 1) := by decide +kernel
theorem dJ6_bitCount_0f7a4_39 : decode cJ6_bitCount_0f7a4 39 = .ok (.iadd, 1) := by decide +kernel
theorem dJ6_bitCount_0f7a4_40 : decode cJ6_bitCount_0f7a4 40 = .ok (.istore_n 0, 1) := by decide +kernel
theorem dJ6_bitCount_0f7a4_41 : decode cJ6_bitCount_0f7a4 41 = .ok (.iload_n 0, 1) := by decide +kernel
theorem dJ6_bitCount_0f7a4_42 : decode cJ6_bitCount_0f7a4 42 = .ok (.iload_n 0, 1) := by decide +kernel
theorem dJ6_bitCount_0f7a4_43 : decode cJ6_bitCount_0f7a4 43 = .ok (.bipush 16, 2) := by decide +kernel
theorem dJ6_bitCount_0f7a4_45 : decode cJ6_bitCount_0f7a4 45 = .ok (.iushr, 1) := by decide +kernel
theorem dJ6_bitCount_0f7a4_46 : decode cJ6_bitCount_0f7a4 46 = .ok (.iadd, 1) := by decide +kernel
theorem dJ6_bitCount_0f7a4_47 : decode cJ6_bitCount_0f7a4 47 = .ok (.istore_n 0, 1) := by decide +kernel
theorem dJ6_bitCount_0f7a4_48 : decode cJ6_bitCount_0f7a4 48 = .ok (.iload_n 0, 1) := by decide +kernel
theorem dJ6_bitCount_0f7a4_49 : decode cJ6_bitCount_0f7a4 49 = .ok (.bipush 63, 2) := by decide +kernel
theorem dJ6_bitCount_0f7a4_51 : decode cJ6_bitCount_0f7a4 51 = .ok (.iand, 1) := by decide +kernel
theorem dJ6_bitCount_0f7a4_52 : decode cJ6_bitCount_0f7a4 52 = .ok (.ireturn, 1) := by decide +kernel
set_option maxHeartbeats 4000000 in
set_option maxRecDepth 100000 in
theorem mJ6_bitCount {D : va_G} {U : zz_U} {ws : va_W} (i_ : Int32) (r : Int32) (hf : fJ6_bitCount i_ = some r) : zz_Met yJ6_bitCount_0f7a4 (.code yJ6_bitCount_0f7a4 cJ6_bitCount_0f7a4 1 (some .int)) 0 0 0 D U [.int i_] ws (zz_ok (some (.int r)) ws) zz_noth := by
  unfold fJ6_bitCount at hf
  refine zz_method RJ6 rfl (by decide +kernel) (Nat.le_of_ble_eq_true rfl) ?_
  intro p l e s m args below meth c A _ C
  refine zz_lvs (lv1 := [(0, .int i_)]) rfl ?_
  refine zz_iload_n C 0 dJ6_bitCount_0f7a4_0 rfl rfl ?_
  refine zz_iload_n C 0 dJ6_bitCount_0f7a4_1 rfl rfl ?_
  refine zz_iconst (v := (1 : Int32)) C dJ6_bitCount_0f7a4_2 (by decide) ?_
  refine zz_iushr C dJ6_bitCount_0f7a4_3 ?_
  refine zz_ldcw (v := (1431655765 : Int32)) C dJ6_bitCount_0f7a4_4 zw_42 ?_
  refine zz_iand C dJ6_bitCount_0f7a4_7 ?_
  refine zz_isub C dJ6_bitCount_0f7a4_8 ?_
  obtain ⟨x1, h2, hf⟩ := zz_bind hf
  refine zz_topi (Option.some.inj h2) ?_
  refine zz_istore_n C dJ6_bitCount_0f7a4_9 rfl (by decide) (lv' := [(0, .int x1)]) rfl ?_
  refine zz_iload_n C 0 dJ6_bitCount_0f7a4_10 rfl rfl ?_
  refine zz_ldcw (v := (858993459 : Int32)) C dJ6_bitCount_0f7a4_11 zw_43 ?_
  refine zz_iand C dJ6_bitCount_0f7a4_14 ?_
  refine zz_iload_n C 0 dJ6_bitCount_0f7a4_15 rfl rfl ?_
  refine zz_iconst (v := (2 : Int32)) C dJ6_bitCount_0f7a4_16 (by decide) ?_
  refine zz_iushr C dJ6_bitCount_0f7a4_17 ?_
  refine zz_ldcw (v := (858993459 : Int32)) C dJ6_bitCount_0f7a4_18 zw_43 ?_
  refine zz_iand C dJ6_bitCount_0f7a4_21 ?_
  refine zz_iadd C dJ6_bitCount_0f7a4_22 ?_
  obtain ⟨x3, h4, hf⟩ := zz_bind hf
  refine zz_topi (Option.some.inj h4) ?_
  refine zz_istore_n C dJ6_bitCount_0f7a4_23 rfl (by decide) (lv' := [(0, .int x3)]) rfl ?_
  refine zz_iload_n C 0 dJ6_bitCount_0f7a4_24 rfl rfl ?_
  refine zz_iload_n C 0 dJ6_bitCount_0f7a4_25 rfl rfl ?_
  refine zz_iconst (v := (4 : Int32)) C dJ6_bitCount_0f7a4_26 (by decide) ?_
  refine zz_iushr C dJ6_bitCount_0f7a4_27 ?_
  refine zz_iadd C dJ6_bitCount_0f7a4_28 ?_
  refine zz_ldcw (v := (252645135 : Int32)) C dJ6_bitCount_0f7a4_29 zw_44 ?_
  refine zz_iand C dJ6_bitCount_0f7a4_32 ?_
  obtain ⟨x5, h6, hf⟩ := zz_bind hf
  refine zz_topi (Option.some.inj h6) ?_
  refine zz_istore_n C dJ6_bitCount_0f7a4_33 rfl (by decide) (lv' := [(0, .int x5)]) rfl ?_
  refine zz_iload_n C 0 dJ6_bitCount_0f7a4_34 rfl rfl ?_
  refine zz_iload_n C 0 dJ6_bitCount_0f7a4_35 rfl rfl ?_
  refine zz_bipush (v := (8 : Int32)) C dJ6_bitCount_0f7a4_36 (by decide) ?_
  refine zz_iushr C dJ6_bitCount_0f7a4_38 ?_
  refine zz_iadd C dJ6_bitCount_0f7a4_39 ?_
  obtain ⟨x7, h8, hf⟩ := zz_bind hf
  refine zz_topi (Option.some.inj h8) ?_
  refine zz_istore_n C dJ6_bitCount_0f7a4_40 rfl (by decide) (lv' := [(0, .int x7)]) rfl ?_
  refine zz_iload_n C 0 dJ6_bitCount_0f7a4_41 rfl rfl ?_
  refine zz_iload_n C 0 dJ6_bitCount_0f7a4_42 rfl rfl ?_
  refine zz_bipush (v := (16 : Int32)) C dJ6_bitCount_0f7a4_43 (by decide) ?_
  refine zz_iushr C dJ6_bitCount_0f7a4_45 ?_
  refine zz_iadd C dJ6_bitCount_0f7a4_46 ?_
  obtain ⟨x9, h10, hf⟩ := zz_bind hf
  refine zz_topi (Option.some.inj h10) ?_
  refine zz_istore_n C dJ6_bitCount_0f7a4_47 rfl (by decide) (lv' := [(0, .int x9)]) rfl ?_
  refine zz_iload_n C 0 dJ6_bitCount_0f7a4_48 rfl rfl ?_
  refine zz_bipush (v := (63 : Int32)) C dJ6_bitCount_0f7a4_49 (by decide) ?_
  refine zz_iand C dJ6_bitCount_0f7a4_51 ?_
  cases hf
  exact zz_iret C dJ6_bitCount_0f7a4_52 (And.intro rfl rfl) (Nat.le_of_ble_eq_true rfl) (Nat.le_of_ble_eq_true rfl)
theorem dX5_crossings_0 : decode cX5_crossings 0 = .ok (.aload_n 0, 1) := by decide +kernel
theorem dX5_crossings_1 : decode cX5_crossings 1 = .ok (.getfield 29, 3) := by decide +kernel
theorem dX5_crossings_4 : decode cX5_crossings 4 = .ok (.iload_n 3, 1) := by decide +kernel
theorem dX5_crossings_5 : decode cX5_crossings 5 = .ok (.aaload, 1) := by decide +kernel
theorem dX5_crossings_6 : decode cX5_crossings 6 = .ok (.iload_n 1, 1) := by decide +kernel
theorem dX5_crossings_7 : decode cX5_crossings 7 = .ok (.iaload, 1) := by decide +kernel
theorem dX5_crossings_8 : decode cX5_crossings 8 = .ok (.aload_n 0, 1) := by decide +kernel
theorem dX5_crossings_9 : decode cX5_crossings 9 = .ok (.getfield 29, 3) := by decide +kernel
theorem dX5_crossings_12 : decode cX5_crossings 12 = .ok (.iload 4, 2) := by decide +kernel
theorem dX5_crossings_14 : decode cX5_crossings 14 = .ok (.aaload, 1) := by decide +kernel
theorem dX5_crossings_15 : decode cX5_crossings 15 = .ok (.iload_n 2, 1) := by decide +kernel
theorem dX5_crossings_16 : decode cX5_crossings 16 = .ok (.iaload, 1) := by decide +kernel
theorem dX5_crossings_17 : decode cX5_crossings 17 = .ok (.iand, 1) := by decide +kernel
theorem dX5_crossings_18 : decode cX5_crossings 18 = .ok (.invokestatic 43, 3) := by decide +kernel
theorem dX5_crossings_21 : decode cX5_crossings 21 = .ok (.aload_n 0, 1) := by decide +kernel
theorem dX5_crossings_22 : decode cX5_crossings 22 = .ok (.getfield 29, 3) := by decide +kernel
theorem dX5_crossings_25 : decode cX5_crossings 25 = .ok (.iload_n 3, 1) := by decide +kernel
theorem dX5_crossings_26 : decode cX5_crossings 26 = .ok (.aaload, 1) := by decide +kernel
theorem dX5_crossings_27 : decode cX5_crossings 27 = .ok (.iload_n 2, 1) := by decide +kernel
theorem dX5_crossings_28 : decode cX5_crossings 28 = .ok (.iaload, 1) := by decide +kernel
theorem dX5_crossings_29 : decode cX5_crossings 29 = .ok (.aload_n 0, 1) := by decide +kernel
theorem dX5_crossings_30 : decode cX5_crossings 30 = .ok (.getfield 29, 3) := by decide +kernel
theorem dX5_crossings_33 : decode cX5_crossings 33 = .ok (.iload 4, 2) := by decide +kernel
theorem dX5_crossings_35 : decode cX5_crossings 35 = .ok (.aaload, 1) := by decide +kernel
theorem dX5_crossings_36 : decode cX5_crossings 36 = .ok (.iload_n 1, 1) := by decide +kernel
theorem dX5_crossings_37 : decode cX5_crossings 37 = .ok (.iaload, 1) := by decide +kernel
theorem dX5_crossings_38 : decode cX5_crossings 38 = .ok (.iand, 1) := by decide +kernel
theorem dX5_crossings_39 : decode cX5_crossings 39 = .ok (.invokestatic 43, 3) := by decide +kernel
theorem dX5_crossings_42 : decode cX5_crossings 42 = .ok (.iadd, 1) := by decide +kernel
theorem dX5_crossings_43 : decode cX5_crossings 43 = .ok (.ireturn, 1) := by decide +kernel
set_option maxHeartbeats 4000000 in
set_option maxRecDepth 100000 in
theorem mX5_crossings {D : va_G} {U : zz_U} {ad : Nat → Nat} {X : va_W} (σ : zz_St) (a_ : Int32) (b_ : Int32) (what_ : Int32) (opposite_ : Int32) (r : Int32) (hf : fX5_crossings σ a_ b_ what_ opposite_ = some r) : zz_Met yX5_crossings (.code yX5_crossings cX5_crossings 5 (some .int)) 1 0 0 D U [.ref (ad 1), .int a_, .int b_, .int what_, .int opposite_] (zz_wc U ad σ X) (zz_ok (some (.int r)) (zz_wc U ad σ X)) zz_noth := by
  unfold fX5_crossings at hf
  refine zz_method RX5 rfl (by decide +kernel) (Nat.le_of_ble_eq_true rfl) ?_
  intro p l e s m args below meth c A _ C
  refine zz_lvs (lv1 := [(0, .ref (ad 1)), (1, .int a_), (2, .int b_), (3, .int what_), (4, .int opposite_)]) rfl ?_
  refine zz_aload_n C 0 dX5_crossings_0 rfl rfl ?_
  refine zf5_namesOf C dX5_crossings_1 zw_17 ?_
  refine zz_iload_n C 3 dX5_crossings_4 rfl rfl ?_
  obtain ⟨x1, h2, hf⟩ := zz_bind hf
  refine zr_7 C dX5_crossings_5 h2 ?_
  refine zz_iload_n C 1 dX5_crossings_6 rfl rfl ?_
  obtain ⟨x3, h4, hf⟩ := zz_bind hf
  refine zl_7 C dX5_crossings_7 h2 h4 ?_
  refine zz_aload_n C 0 dX5_crossings_8 rfl rfl ?_
  refine zf5_namesOf C dX5_crossings_9 zw_17 ?_
  refine zz_iload C 4 dX5_crossings_12 rfl ?_
  obtain ⟨x5, h6, hf⟩ := zz_bind hf
  refine zr_7 C dX5_crossings_14 h6 ?_
  refine zz_iload_n C 2 dX5_crossings_15 rfl rfl ?_
  obtain ⟨x7, h8, hf⟩ := zz_bind hf
  refine zl_7 C dX5_crossings_16 h6 h8 ?_
  refine zz_iand C dX5_crossings_17 ?_
  obtain ⟨x9, h10, hf⟩ := zz_bind hf
  refine zz_callS1 (As := [.int (x3 &&& x7)]) (rest := []) C (mJ6_bitCount (x3 &&& x7) x9 h10) dX5_crossings_18 rfl zw_45 zy_J6_bitCount_0f7a4 rfl (by decide) (by decide) (Nat.le_of_ble_eq_true rfl) (Nat.le_of_ble_eq_true rfl) (Nat.le_of_ble_eq_true rfl) rfl ?_
  refine zz_aload_n C 0 dX5_crossings_21 rfl rfl ?_
  refine zf5_namesOf C dX5_crossings_22 zw_17 ?_
  refine zz_iload_n C 3 dX5_crossings_25 rfl rfl ?_
  obtain ⟨x11, h12, hf⟩ := zz_bind hf
  refine zr_7 C dX5_crossings_26 h12 ?_
  refine zz_iload_n C 2 dX5_crossings_27 rfl rfl ?_
  obtain ⟨x13, h14, hf⟩ := zz_bind hf
  refine zl_7 C dX5_crossings_28 h12 h14 ?_
  refine zz_aload_n C 0 dX5_crossings_29 rfl rfl ?_
  refine zf5_namesOf C dX5_crossings_30 zw_17 ?_
  refine zz_iload C 4 dX5_crossings_33 rfl ?_
  obtain ⟨x15, h16, hf⟩ := zz_bind hf
  refine zr_7 C dX5_crossings_35 h16 ?_
  refine zz_iload_n C 1 dX5_crossings_36 rfl rfl ?_
  obtain ⟨x17, h18, hf⟩ := zz_bind hf
  refine zl_7 C dX5_crossings_37 h16 h18 ?_
  refine zz_iand C dX5_crossings_38 ?_
  obtain ⟨x19, h20, hf⟩ := zz_bind hf
  refine zz_callS1 (As := [.int (x13 &&& x17)]) (rest := [.int x9]) C (mJ6_bitCount (x13 &&& x17) x19 h20) dX5_crossings_39 rfl zw_45 zy_J6_bitCount_0f7a4 rfl (by decide) (by decide) (Nat.le_of_ble_eq_true rfl) (Nat.le_of_ble_eq_true rfl) (Nat.le_of_ble_eq_true rfl) rfl ?_
  refine zz_iadd C dX5_crossings_42 ?_
  cases hf
  exact zz_iret C dX5_crossings_43 (And.intro rfl rfl) (Nat.le_of_ble_eq_true rfl) (Nat.le_of_ble_eq_true rfl)
theorem dX5_everyNameOf_0 : decode cX5_everyNameOf 0 = .ok (.aload_n 0, 1) := by decide +kernel
theorem dX5_everyNameOf_1 : decode cX5_everyNameOf 1 = .ok (.getfield 29, 3) := by decide +kernel
theorem dX5_everyNameOf_4 : decode cX5_everyNameOf 4 = .ok (.iconst 0, 1) := by decide +kernel
theorem dX5_everyNameOf_5 : decode cX5_everyNameOf 5 = .ok (.aaload, 1) := by decide +kernel
theorem dX5_everyNameOf_6 : decode cX5_everyNameOf 6 = .ok (.iload_n 1, 1) := by decide +kernel
theorem dX5_everyNameOf_7 : decode cX5_everyNameOf 7 = .ok (.iaload, 1) := by decide +kernel
theorem dX5_everyNameOf_8 : decode cX5_everyNameOf 8 = .ok (.aload_n 0, 1) := by decide +kernel
theorem dX5_everyNameOf_9 : decode cX5_everyNameOf 9 = .ok (.getfield 29, 3) := by decide +kernel
theorem dX5_everyNameOf_12 : decode cX5_everyNameOf 12 = .ok (.iconst 1, 1) := by decide +kernel
theorem dX5_everyNameOf_13 : decode cX5_everyNameOf 13 = .ok (.aaload, 1) := by decide +kernel
theorem dX5_everyNameOf_14 : decode cX5_everyNameOf 14 = .ok (.iload_n 1, 1) := by decide +kernel
theorem dX5_everyNameOf_15 : decode cX5_everyNameOf 15 = .ok (.iaload, 1) := by decide +kernel
theorem dX5_everyNameOf_16 : decode cX5_everyNameOf 16 = .ok (.ior, 1) := by decide +kernel
theorem dX5_everyNameOf_17 : decode cX5_everyNameOf 17 = .ok (.aload_n 0, 1) := by decide +kernel
theorem dX5_everyNameOf_18 : decode cX5_everyNameOf 18 = .ok (.getfield 29, 3) := by decide +kernel
theorem dX5_everyNameOf_21 : decode cX5_everyNameOf 21 = .ok (.iconst 2, 1) := by decide +kernel
theorem dX5_everyNameOf_22 : decode cX5_everyNameOf 22 = .ok (.aaload, 1) := by decide +kernel
theorem dX5_everyNameOf_23 : decode cX5_everyNameOf 23 = .ok (.iload_n 1, 1) := by decide +kernel
theorem dX5_everyNameOf_24 : decode cX5_everyNameOf 24 = .ok (.iaload, 1) := by decide +kernel
theorem dX5_everyNameOf_25 : decode cX5_everyNameOf 25 = .ok (.ior, 1) := by decide +kernel
theorem dX5_everyNameOf_26 : decode cX5_everyNameOf 26 = .ok (.aload_n 0, 1) := by decide +kernel
theorem dX5_everyNameOf_27 : decode cX5_everyNameOf 27 = .ok (.getfield 29, 3) := by decide +kernel
theorem dX5_everyNameOf_30 : decode cX5_everyNameOf 30 = .ok (.iconst 3, 1) := by decide +kernel
theorem dX5_everyNameOf_31 : decode cX5_everyNameOf 31 = .ok (.aaload, 1) := by decide +kernel
theorem dX5_everyNameOf_32 : decode cX5_everyNameOf 32 = .ok (.iload_n 1, 1) := by decide +kernel
theorem dX5_everyNameOf_33 : decode cX5_everyNameOf 33 = .ok (.iaload, 1) := by decide +kernel
theorem dX5_everyNameOf_34 : decode cX5_everyNameOf 34 = .ok (.ior, 1) := by decide +kernel
theorem dX5_everyNameOf_35 : decode cX5_everyNameOf 35 = .ok (.ireturn, 1) := by decide +kernel
set_option maxHeartbeats 4000000 in
set_option maxRecDepth 100000 in
theorem mX5_everyNameOf {D : va_G} {U : zz_U} {ad : Nat → Nat} {X : va_W} (σ : zz_St) (piece_ : Int32) (r : Int32) (hf : fX5_everyNameOf σ piece_ = some r) : zz_Met yX5_everyNameOf (.code yX5_everyNameOf cX5_everyNameOf 2 (some .int)) 0 0 0 D U [.ref (ad 1), .int piece_] (zz_wc U ad σ X) (zz_ok (some (.int r)) (zz_wc U ad σ X)) zz_noth := by
  unfold fX5_everyNameOf at hf
  refine zz_method RX5 rfl (by decide +kernel) (Nat.le_of_ble_eq_true rfl) ?_
  intro p l e s m args below meth c A _ C
  refine zz_lvs (lv1 := [(0, .ref (ad 1)), (1, .int piece_)]) rfl ?_
  refine zz_aload_n C 0 dX5_everyNameOf_0 rfl rfl ?_
  refine zf5_namesOf C dX5_everyNameOf_1 zw_17 ?_
  refine zz_iconst (v := (0 : Int32)) C dX5_everyNameOf_4 (by decide) ?_
  obtain ⟨x1, h2, hf⟩ := zz_bind hf
  refine zr_7 C dX5_everyNameOf_5 h2 ?_
  refine zz_iload_n C 1 dX5_everyNameOf_6 rfl rfl ?_
  obtain ⟨x3, h4, hf⟩ := zz_bind hf
  refine zl_7 C dX5_everyNameOf_7 h2 h4 ?_
  refine zz_aload_n C 0 dX5_everyNameOf_8 rfl rfl ?_
  refine zf5_namesOf C dX5_everyNameOf_9 zw_17 ?_
  refine zz_iconst (v := (1 : Int32)) C dX5_everyNameOf_12 (by decide) ?_
  obtain ⟨x5, h6, hf⟩ := zz_bind hf
  refine zr_7 C dX5_everyNameOf_13 h6 ?_
  refine zz_iload_n C 1 dX5_everyNameOf_14 rfl rfl ?_
  obtain ⟨x7, h8, hf⟩ := zz_bind hf
  refine zl_7 C dX5_everyNameOf_15 h6 h8 ?_
  refine zz_ior C dX5_everyNameOf_16 ?_
  refine zz_aload_n C 0 dX5_everyNameOf_17 rfl rfl ?_
  refine zf5_namesOf C dX5_everyNameOf_18 zw_17 ?_
  refine zz_iconst (v := (2 : Int32)) C dX5_everyNameOf_21 (by decide) ?_
  obtain ⟨x9, h10, hf⟩ := zz_bind hf
  refine zr_7 C dX5_everyNameOf_22 h10 ?_
  refine zz_iload_n C 1 dX5_everyNameOf_23 rfl rfl ?_
  obtain ⟨x11, h12, hf⟩ := zz_bind hf
  refine zl_7 C dX5_everyNameOf_24 h10 h12 ?_
  refine zz_ior C dX5_everyNameOf_25 ?_
  refine zz_aload_n C 0 dX5_everyNameOf_26 rfl rfl ?_
  refine zf5_namesOf C dX5_everyNameOf_27 zw_17 ?_
  refine zz_iconst (v := (3 : Int32)) C dX5_everyNameOf_30 (by decide) ?_
  obtain ⟨x13, h14, hf⟩ := zz_bind hf
  refine zr_7 C dX5_everyNameOf_31 h14 ?_
  refine zz_iload_n C 1 dX5_everyNameOf_32 rfl rfl ?_
  obtain ⟨x15, h16, hf⟩ := zz_bind hf
  refine zl_7 C dX5_everyNameOf_33 h14 h16 ?_
  refine zz_ior C dX5_everyNameOf_34 ?_
  cases hf
  exact zz_iret C dX5_everyNameOf_35 (And.intro rfl rfl) (Nat.le_of_ble_eq_true rfl) (Nat.le_of_ble_eq_true rfl)
theorem dX2_shareOf_0 : decode cX2_shareOf 0 = .ok (.iload_n 1, 1) := by decide +kernel
theorem dX2_shareOf_1 : decode cX2_shareOf 1 = .ok (.iload_n 2, 1) := by decide +kernel
theorem dX2_shareOf_2 : decode cX2_shareOf 2 = .ok (.ior, 1) := by decide +kernel
theorem dX2_shareOf_3 : decode cX2_shareOf 3 = .ok (.invokestatic 52, 3) := by decide +kernel
theorem dX2_shareOf_6 : decode cX2_shareOf 6 = .ok (.istore_n 3, 1) := by decide +kernel
theorem dX2_shareOf_7 : decode cX2_shareOf 7 = .ok (.iload_n 3, 1) := by decide +kernel
theorem dX2_shareOf_8 : decode cX2_shareOf 8 = .ok (.ifCond .ne 7, 3) := by decide +kernel
theorem dX2_shareOf_11 : decode cX2_shareOf 11 = .ok (.iconst 0, 1) := by decide +kernel
theorem dX2_shareOf_12 : decode cX2_shareOf 12 = .ok (.goto 13, 3) := by decide +kernel
theorem dX2_shareOf_15 : decode cX2_shareOf 15 = .ok (.iload_n 0, 1) := by decide +kernel
theorem dX2_shareOf_16 : decode cX2_shareOf 16 = .ok (.iload_n 1, 1) := by decide +kernel
theorem dX2_shareOf_17 : decode cX2_shareOf 17 = .ok (.iload_n 2, 1) := by decide +kernel
theorem dX2_shareOf_18 : decode cX2_shareOf 18 = .ok (.iand, 1) := by decide +kernel
theorem dX2_shareOf_19 : decode cX2_shareOf 19 = .ok (.invokestatic 52, 3) := by decide +kernel
theorem dX2_shareOf_22 : decode cX2_shareOf 22 = .ok (.imul, 1) := by decide +kernel
theorem dX2_shareOf_23 : decode cX2_shareOf 23 = .ok (.iload_n 3, 1) := by decide +kernel
theorem dX2_shareOf_24 : decode cX2_shareOf 24 = .ok (.idiv, 1) := by decide +kernel
theorem dX2_shareOf_25 : decode cX2_shareOf 25 = .ok (.ireturn, 1) := by decide +kernel
set_option maxHeartbeats 4000000 in
set_option maxRecDepth 100000 in
theorem mX2_shareOf {D : va_G} {U : zz_U} {ad : Nat → Nat} {X : va_W} (σ : zz_St) (weight_ : Int32) (namesOfOne_ : Int32) (namesOfOther_ : Int32) (r : Int32) (hf : fX2_shareOf σ weight_ namesOfOne_ namesOfOther_ = some r) : zz_Met yX2_shareOf (.code yX2_shareOf cX2_shareOf 4 (some .int)) 1 0 0 D U [.int weight_, .int namesOfOne_, .int namesOfOther_] (zz_wc U ad σ X) (zz_ok (some (.int r)) (zz_wc U ad σ X)) zz_noth := by
  unfold fX2_shareOf at hf
  refine zz_method RX2 rfl (by decide +kernel) (Nat.le_of_ble_eq_true rfl) ?_
  intro p l e s m args below meth c A _ C
  refine zz_lvs (lv1 := [(0, .int weight_), (1, .int namesOfOne_), (2, .int namesOfOther_)]) rfl ?_
  refine zz_iload_n C 1 dX2_shareOf_0 rfl rfl ?_
  refine zz_iload_n C 2 dX2_shareOf_1 rfl rfl ?_
  refine zz_ior C dX2_shareOf_2 ?_
  obtain ⟨x1, h2, hf⟩ := zz_bind hf
  refine zz_callS1 (As := [.int (namesOfOne_ ||| namesOfOther_)]) (rest := []) C (mJ6_bitCount (namesOfOne_ ||| namesOfOther_) x1 h2) dX2_shareOf_3 rfl zw_47 zy_J6_bitCount_0f7a4 rfl (by decide) (by decide) (Nat.le_of_ble_eq_true rfl) (Nat.le_of_ble_eq_true rfl) (Nat.le_of_ble_eq_true rfl) rfl ?_
  refine zz_istore_n C dX2_shareOf_6 rfl (by decide) (lv' := [(3, .int x1), (0, .int weight_), (1, .int namesOfOne_), (2, .int namesOfOther_)]) rfl ?_
  obtain ⟨x3, h4, hf⟩ := zz_bind hf
  refine zz_cut 25 [(3, .int x1), (0, .int weight_), (1, .int namesOfOne_), (2, .int namesOfOther_)] [.int x3] (zz_wc U ad σ X) ?_ (fun J5 => ?_)
  · cases hf
    exact zz_iret C dX2_shareOf_25 (And.intro rfl rfl) (Nat.le_of_ble_eq_true rfl) (Nat.le_of_ble_eq_true rfl)
  refine zz_iload_n C 0 dX2_shareOf_7 rfl rfl ?_
  refine zz_if_ne (tgt := 15) C dX2_shareOf_8 (by decide) (fun g6 => ?_) (fun g6 => ?_)
  · rw [if_neg g6] at h4
    refine zz_iload_n C 1 dX2_shareOf_15 rfl rfl ?_
    refine zz_iload_n C 2 dX2_shareOf_16 rfl rfl ?_
    refine zz_iload_n C 3 dX2_shareOf_17 rfl rfl ?_
    refine zz_iand C dX2_shareOf_18 ?_
    obtain ⟨x7, h8, h4⟩ := zz_bind h4
    refine zz_callS1 (As := [.int (namesOfOne_ &&& namesOfOther_)]) (rest := [.int weight_]) C (mJ6_bitCount (namesOfOne_ &&& namesOfOther_) x7 h8) dX2_shareOf_19 rfl zw_47 zy_J6_bitCount_0f7a4 rfl (by decide) (by decide) (Nat.le_of_ble_eq_true rfl) (Nat.le_of_ble_eq_true rfl) (Nat.le_of_ble_eq_true rfl) rfl ?_
    refine zz_imul C dX2_shareOf_22 ?_
    refine zz_iload_n C 0 dX2_shareOf_23 rfl rfl ?_
    obtain ⟨x9, h10, h4⟩ := zz_bind h4
    refine zz_idiv C dX2_shareOf_24 (zz_dv_in h10).1 ?_
    refine zz_topi (zz_dv_in h10).2 ?_
    cases h4
    exact J5
  · rw [if_pos g6] at h4
    refine zz_iconst (v := (0 : Int32)) C dX2_shareOf_11 (by decide) ?_
    refine zz_goto (tgt := 25) C dX2_shareOf_12 (by decide) ?_
    cases h4
    exact J5
theorem dX2_pointsBy_0 : decode cX2_pointsBy 0 = .ok (.iload_n 1, 1) := by decide +kernel
theorem dX2_pointsBy_1 : decode cX2_pointsBy 1 = .ok (.tableswitch 108 0 3 #[31, 53, 70, 87], 31) := by decide +kernel
theorem dX2_pointsBy_32 : decode cX2_pointsBy 32 = .ok (.aload_n 0, 1) := by decide +kernel
theorem dX2_pointsBy_33 : decode cX2_pointsBy 33 = .ok (.aload_n 2, 1) := by decide +kernel
theorem dX2_pointsBy_34 : decode cX2_pointsBy 34 = .ok (.iload_n 3, 1) := by decide +kernel
theorem dX2_pointsBy_35 : decode cX2_pointsBy 35 = .ok (.iload 4, 2) := by decide +kernel
theorem dX2_pointsBy_37 : decode cX2_pointsBy 37 = .ok (.invokevirtual 19, 3) := by decide +kernel
theorem dX2_pointsBy_40 : decode cX2_pointsBy 40 = .ok (.ifCond .eq 12, 3) := by decide +kernel
theorem dX2_pointsBy_43 : decode cX2_pointsBy 43 = .ok (.aload_n 0, 1) := by decide +kernel
theorem dX2_pointsBy_44 : decode cX2_pointsBy 44 = .ok (.getfield 9, 3) := by decide +kernel
theorem dX2_pointsBy_47 : decode cX2_pointsBy 47 = .ok (.iconst 0, 1) := by decide +kernel
theorem dX2_pointsBy_48 : decode cX2_pointsBy 48 = .ok (.iaload, 1) := by decide +kernel
theorem dX2_pointsBy_49 : decode cX2_pointsBy 49 = .ok (.goto 4, 3) := by decide +kernel
theorem dX2_pointsBy_52 : decode cX2_pointsBy 52 = .ok (.iconst 0, 1) := by decide +kernel
theorem dX2_pointsBy_53 : decode cX2_pointsBy 53 = .ok (.ireturn, 1) := by decide +kernel
theorem dX2_pointsBy_54 : decode cX2_pointsBy 54 = .ok (.aload_n 0, 1) := by decide +kernel
theorem dX2_pointsBy_55 : decode cX2_pointsBy 55 = .ok (.getfield 9, 3) := by decide +kernel
theorem dX2_pointsBy_58 : decode cX2_pointsBy 58 = .ok (.iconst 1, 1) := by decide +kernel
theorem dX2_pointsBy_59 : decode cX2_pointsBy 59 = .ok (.iaload, 1) := by decide +kernel
theorem dX2_pointsBy_60 : decode cX2_pointsBy 60 = .ok (.aload_n 2, 1) := by decide +kernel
theorem dX2_pointsBy_61 : decode cX2_pointsBy 61 = .ok (.iload_n 3, 1) := by decide +kernel
theorem dX2_pointsBy_62 : decode cX2_pointsBy 62 = .ok (.iload 4, 2) := by decide +kernel
theorem dX2_pointsBy_64 : decode cX2_pointsBy 64 = .ok (.iconst 0, 1) := by decide +kernel
theorem dX2_pointsBy_65 : decode cX2_pointsBy 65 = .ok (.iconst 2, 1) := by decide +kernel
theorem dX2_pointsBy_66 : decode cX2_pointsBy 66 = .ok (.invokevirtual 23, 3) := by decide +kernel
theorem dX2_pointsBy_69 : decode cX2_pointsBy 69 = .ok (.imul, 1) := by decide +kernel
theorem dX2_pointsBy_70 : decode cX2_pointsBy 70 = .ok (.ireturn, 1) := by decide +kernel
theorem dX2_pointsBy_71 : decode cX2_pointsBy 71 = .ok (.aload_n 0, 1) := by decide +kernel
theorem dX2_pointsBy_72 : decode cX2_pointsBy 72 = .ok (.getfield 9, 3) := by decide +kernel
theorem dX2_pointsBy_75 : decode cX2_pointsBy 75 = .ok (.iconst 2, 1) := by decide +kernel
theorem dX2_pointsBy_76 : decode cX2_pointsBy 76 = .ok (.iaload, 1) := by decide +kernel
theorem dX2_pointsBy_77 : decode cX2_pointsBy 77 = .ok (.aload_n 2, 1) := by decide +kernel
theorem dX2_pointsBy_78 : decode cX2_pointsBy 78 = .ok (.iload_n 3, 1) := by decide +kernel
theorem dX2_pointsBy_79 : decode cX2_pointsBy 79 = .ok (.iload 4, 2) := by decide +kernel
theorem dX2_pointsBy_81 : decode cX2_pointsBy 81 = .ok (.iconst 1, 1) := by decide +kernel
theorem dX2_pointsBy_82 : decode cX2_pointsBy 82 = .ok (.iconst 0, 1) := by decide +kernel
theorem dX2_pointsBy_83 : decode cX2_pointsBy 83 = .ok (.invokevirtual 23, 3) := by decide +kernel
theorem dX2_pointsBy_86 : decode cX2_pointsBy 86 = .ok (.imul, 1) := by decide +kernel
theorem dX2_pointsBy_87 : decode cX2_pointsBy 87 = .ok (.ireturn, 1) := by decide +kernel
theorem dX2_pointsBy_88 : decode cX2_pointsBy 88 = .ok (.aload_n 0, 1) := by decide +kernel
theorem dX2_pointsBy_89 : decode cX2_pointsBy 89 = .ok (.getfield 9, 3) := by decide +kernel
theorem dX2_pointsBy_92 : decode cX2_pointsBy 92 = .ok (.iconst 3, 1) := by decide +kernel
theorem dX2_pointsBy_93 : decode cX2_pointsBy 93 = .ok (.iaload, 1) := by decide +kernel
theorem dX2_pointsBy_94 : decode cX2_pointsBy 94 = .ok (.aload_n 2, 1) := by decide +kernel
theorem dX2_pointsBy_95 : decode cX2_pointsBy 95 = .ok (.iload_n 3, 1) := by decide +kernel
theorem dX2_pointsBy_96 : decode cX2_pointsBy 96 = .ok (.invokevirtual 29, 3) := by decide +kernel
theorem dX2_pointsBy_99 : decode cX2_pointsBy 99 = .ok (.aload_n 2, 1) := by decide +kernel
theorem dX2_pointsBy_100 : decode cX2_pointsBy 100 = .ok (.iload 4, 2) := by decide +kernel
theorem dX2_pointsBy_102 : decode cX2_pointsBy 102 = .ok (.invokevirtual 29, 3) := by decide +kernel
theorem dX2_pointsBy_105 : decode cX2_pointsBy 105 = .ok (.invokestatic 33, 3) := by decide +kernel
theorem dX2_pointsBy_108 : decode cX2_pointsBy 108 = .ok (.ireturn, 1) := by decide +kernel
theorem dX2_pointsBy_109 : decode cX2_pointsBy 109 = .ok (.iconst 0, 1) := by decide +kernel
theorem dX2_pointsBy_110 : decode cX2_pointsBy 110 = .ok (.ireturn, 1) := by decide +kernel
set_option maxHeartbeats 4000000 in
set_option maxRecDepth 100000 in
theorem mX2_pointsBy {D : va_G} {U : zz_U} {ad : Nat → Nat} {X : va_W} (σ : zz_St) (kind_ : Int32) (a_ : Int32) (b_ : Int32) (r : Int32) (hf : fX2_pointsBy σ kind_ a_ b_ = some r) : zz_Met yX2_pointsBy (.code yX2_pointsBy cX2_pointsBy 5 (some .int)) 2 0 0 D U [.ref (ad 19), .int kind_, .ref (ad 1), .int a_, .int b_] (zz_wc U ad σ X) (zz_ok (some (.int r)) (zz_wc U ad σ X)) zz_noth := by
  unfold fX2_pointsBy at hf
  refine zz_method RX2 rfl (by decide +kernel) (Nat.le_of_ble_eq_true rfl) ?_
  intro p l e s m args below meth c A _ C
  refine zz_lvs (lv1 := [(0, .ref (ad 19)), (1, .int kind_), (2, .ref (ad 1)), (3, .int a_), (4, .int b_)]) rfl ?_
  refine zz_iload_n C 1 dX2_pointsBy_0 rfl rfl ?_
  by_cases g1 : kind_ = (0 : Int32)
  · rw [if_pos g1] at hf
    refine zz_tableIn (off := 31) (tgt := 32) C dX2_pointsBy_1 (by rw [g1]; decide) (by rw [g1]; decide) (by rw [g1]; rfl) (by decide) ?_
    obtain ⟨x2, h3, hf⟩ := zz_bind hf
    refine zz_cut 53 [(0, .ref (ad 19)), (1, .int kind_), (2, .ref (ad 1)), (3, .int a_), (4, .int b_)] [.int x2] (zz_wc U ad σ X) ?_ (fun J4 => ?_)
    · cases hf
      exact zz_iret C dX2_pointsBy_53 (And.intro rfl rfl) (Nat.le_of_ble_eq_true rfl) (Nat.le_of_ble_eq_true rfl)
    refine zz_aload_n C 0 dX2_pointsBy_32 rfl rfl ?_
    refine zz_aload_n C 2 dX2_pointsBy_33 rfl rfl ?_
    refine zz_iload_n C 3 dX2_pointsBy_34 rfl rfl ?_
    refine zz_iload C 4 dX2_pointsBy_35 rfl ?_
    obtain ⟨x5, h6, h3⟩ := zz_bind h3
    refine zz_callV1 (As := [.ref (ad 1), .int a_, .int b_]) (rest := []) C 19 (mX2_isNear σ a_ b_ x5 h6) dX2_pointsBy_37 rfl rfl rfl zw_41 zy_X2_isNear rfl (by decide) (by decide) (Nat.le_of_ble_eq_true rfl) (Nat.le_of_ble_eq_true rfl) (Nat.le_of_ble_eq_true rfl) rfl ?_
    refine zz_if_eq (tgt := 52) C dX2_pointsBy_40 (by decide) (fun g7 => ?_) (fun g7 => ?_)
    · rw [if_pos g7] at h3
      refine zz_iconst (v := (0 : Int32)) C dX2_pointsBy_52 (by decide) ?_
      cases h3
      exact J4
    · rw [if_neg g7] at h3
      refine zz_aload_n C 0 dX2_pointsBy_43 rfl rfl ?_
      refine zf2_weights C dX2_pointsBy_44 zw_40 ?_
      refine zz_iconst (v := (0 : Int32)) C dX2_pointsBy_47 (by decide) ?_
      obtain ⟨x8, h9, h3⟩ := zz_bind h3
      refine zl_20 C dX2_pointsBy_48 h9 ?_
      refine zz_goto (tgt := 53) C dX2_pointsBy_49 (by decide) ?_
      cases h3
      exact J4
  · rw [if_neg g1] at hf
    by_cases g10 : kind_ = (1 : Int32)
    · rw [if_pos g10] at hf
      refine zz_tableIn (off := 53) (tgt := 54) C dX2_pointsBy_1 (by rw [g10]; decide) (by rw [g10]; decide) (by rw [g10]; rfl) (by decide) ?_
      refine zz_aload_n C 0 dX2_pointsBy_54 rfl rfl ?_
      refine zf2_weights C dX2_pointsBy_55 zw_40 ?_
      refine zz_iconst (v := (1 : Int32)) C dX2_pointsBy_58 (by decide) ?_
      obtain ⟨x11, h12, hf⟩ := zz_bind hf
      refine zl_20 C dX2_pointsBy_59 h12 ?_
      refine zz_aload_n C 2 dX2_pointsBy_60 rfl rfl ?_
      refine zz_iload_n C 3 dX2_pointsBy_61 rfl rfl ?_
      refine zz_iload C 4 dX2_pointsBy_62 rfl ?_
      refine zz_iconst (v := (0 : Int32)) C dX2_pointsBy_64 (by decide) ?_
      refine zz_iconst (v := (2 : Int32)) C dX2_pointsBy_65 (by decide) ?_
      obtain ⟨x13, h14, hf⟩ := zz_bind hf
      refine zz_callV1 (As := [.int a_, .int b_, .int (0 : Int32), .int (2 : Int32)]) (rest := [.int x11]) C 1 (mX5_crossings σ a_ b_ (0 : Int32) (2 : Int32) x13 h14) dX2_pointsBy_66 rfl rfl rfl zw_46 zy_X5_crossings rfl (by decide) (by decide) (Nat.le_of_ble_eq_true rfl) (Nat.le_of_ble_eq_true rfl) (Nat.le_of_ble_eq_true rfl) rfl ?_
      refine zz_imul C dX2_pointsBy_69 ?_
      cases hf
      exact zz_iret C dX2_pointsBy_70 (And.intro rfl rfl) (Nat.le_of_ble_eq_true rfl) (Nat.le_of_ble_eq_true rfl)
    · rw [if_neg g10] at hf
      by_cases g15 : kind_ = (2 : Int32)
      · rw [if_pos g15] at hf
        refine zz_tableIn (off := 70) (tgt := 71) C dX2_pointsBy_1 (by rw [g15]; decide) (by rw [g15]; decide) (by rw [g15]; rfl) (by decide) ?_
        refine zz_aload_n C 0 dX2_pointsBy_71 rfl rfl ?_
        refine zf2_weights C dX2_pointsBy_72 zw_40 ?_
        refine zz_iconst (v := (2 : Int32)) C dX2_pointsBy_75 (by decide) ?_
        obtain ⟨x16, h17, hf⟩ := zz_bind hf
        refine zl_20 C dX2_pointsBy_76 h17 ?_
        refine zz_aload_n C 2 dX2_pointsBy_77 rfl rfl ?_
        refine zz_iload_n C 3 dX2_pointsBy_78 rfl rfl ?_
        refine zz_iload C 4 dX2_pointsBy_79 rfl ?_
        refine zz_iconst (v := (1 : Int32)) C dX2_pointsBy_81 (by decide) ?_
        refine zz_iconst (v := (0 : Int32)) C dX2_pointsBy_82 (by decide) ?_
        obtain ⟨x18, h19, hf⟩ := zz_bind hf
        refine zz_callV1 (As := [.int a_, .int b_, .int (1 : Int32), .int (0 : Int32)]) (rest := [.int x16]) C 1 (mX5_crossings σ a_ b_ (1 : Int32) (0 : Int32) x18 h19) dX2_pointsBy_83 rfl rfl rfl zw_46 zy_X5_crossings rfl (by decide) (by decide) (Nat.le_of_ble_eq_true rfl) (Nat.le_of_ble_eq_true rfl) (Nat.le_of_ble_eq_true rfl) rfl ?_
        refine zz_imul C dX2_pointsBy_86 ?_
        cases hf
        exact zz_iret C dX2_pointsBy_87 (And.intro rfl rfl) (Nat.le_of_ble_eq_true rfl) (Nat.le_of_ble_eq_true rfl)
      · rw [if_neg g15] at hf
        by_cases g20 : kind_ = (3 : Int32)
        · rw [if_pos g20] at hf
          refine zz_tableIn (off := 87) (tgt := 88) C dX2_pointsBy_1 (by rw [g20]; decide) (by rw [g20]; decide) (by rw [g20]; rfl) (by decide) ?_
          refine zz_aload_n C 0 dX2_pointsBy_88 rfl rfl ?_
          refine zf2_weights C dX2_pointsBy_89 zw_40 ?_
          refine zz_iconst (v := (3 : Int32)) C dX2_pointsBy_92 (by decide) ?_
          obtain ⟨x21, h22, hf⟩ := zz_bind hf
          refine zl_20 C dX2_pointsBy_93 h22 ?_
          refine zz_aload_n C 2 dX2_pointsBy_94 rfl rfl ?_
          refine zz_iload_n C 3 dX2_pointsBy_95 rfl rfl ?_
          obtain ⟨x23, h24, hf⟩ := zz_bind hf
          refine zz_callV1 (As := [.int a_]) (rest := [.int x21]) C 1 (mX5_everyNameOf σ a_ x23 h24) dX2_pointsBy_96 rfl rfl rfl zw_49 zy_X5_everyNameOf rfl (by decide) (by decide) (Nat.le_of_ble_eq_true rfl) (Nat.le_of_ble_eq_true rfl) (Nat.le_of_ble_eq_true rfl) rfl ?_
          refine zz_aload_n C 2 dX2_pointsBy_99 rfl rfl ?_
          refine zz_iload C 4 dX2_pointsBy_100 rfl ?_
          obtain ⟨x25, h26, hf⟩ := zz_bind hf
          refine zz_callV1 (As := [.int b_]) (rest := [.int x23, .int x21]) C 1 (mX5_everyNameOf σ b_ x25 h26) dX2_pointsBy_102 rfl rfl rfl zw_49 zy_X5_everyNameOf rfl (by decide) (by decide) (Nat.le_of_ble_eq_true rfl) (Nat.le_of_ble_eq_true rfl) (Nat.le_of_ble_eq_true rfl) rfl ?_
          obtain ⟨x27, h28, hf⟩ := zz_bind hf
          refine zz_callS1 (As := [.int x21, .int x23, .int x25]) (rest := []) C (mX2_shareOf σ x21 x23 x25 x27 h28) dX2_pointsBy_105 rfl zw_48 zy_X2_shareOf rfl (by decide) (by decide) (Nat.le_of_ble_eq_true rfl) (Nat.le_of_ble_eq_true rfl) (Nat.le_of_ble_eq_true rfl) rfl ?_
          cases hf
          exact zz_iret C dX2_pointsBy_108 (And.intro rfl rfl) (Nat.le_of_ble_eq_true rfl) (Nat.le_of_ble_eq_true rfl)
        · rw [if_neg g20] at hf
          refine zz_tableOut (tgt := 109) C dX2_pointsBy_1 (by have q0 := zz_sw 0 (0 : Int32) (by decide) g1; have q1 := zz_sw 1 (1 : Int32) (by decide) g10; have q2 := zz_sw 2 (2 : Int32) (by decide) g15; have q3 := zz_sw 3 (3 : Int32) (by decide) g20; omega) (by decide) ?_
          refine zz_iconst (v := (0 : Int32)) C dX2_pointsBy_109 (by decide) ?_
          cases hf
          exact zz_iret C dX2_pointsBy_110 (And.intro rfl rfl) (Nat.le_of_ble_eq_true rfl) (Nat.le_of_ble_eq_true rfl)
theorem dX2_sumOfPoints_0 : decode cX2_sumOfPoints 0 = .ok (.iconst 0, 1) := by decide +kernel
theorem dX2_sumOfPoints_1 : decode cX2_sumOfPoints 1 = .ok (.istore 4, 2) := by decide +kernel
theorem dX2_sumOfPoints_3 : decode cX2_sumOfPoints 3 = .ok (.iconst 0, 1) := by decide +kernel
theorem dX2_sumOfPoints_4 : decode cX2_sumOfPoints 4 = .ok (.istore 5, 2) := by decide +kernel
theorem dX2_sumOfPoints_6 : decode cX2_sumOfPoints 6 = .ok (.iload 5, 2) := by decide +kernel
theorem dX2_sumOfPoints_8 : decode cX2_sumOfPoints 8 = .ok (.iconst 4, 1) := by decide +kernel
theorem dX2_sumOfPoints_9 : decode cX2_sumOfPoints 9 = .ok (.if_icmp .ge 23, 3) := by decide +kernel
theorem dX2_sumOfPoints_12 : decode cX2_sumOfPoints 12 = .ok (.iload 4, 2) := by decide +kernel
theorem dX2_sumOfPoints_14 : decode cX2_sumOfPoints 14 = .ok (.aload_n 0, 1) := by decide +kernel
theorem dX2_sumOfPoints_15 : decode cX2_sumOfPoints 15 = .ok (.iload 5, 2) := by decide +kernel
theorem dX2_sumOfPoints_17 : decode cX2_sumOfPoints 17 = .ok (.aload_n 1, 1) := by decide +kernel
theorem dX2_sumOfPoints_18 : decode cX2_sumOfPoints 18 = .ok (.iload_n 2, 1) := by decide +kernel
theorem dX2_sumOfPoints_19 : decode cX2_sumOfPoints 19 = .ok (.iload_n 3, 1) := by decide +kernel
theorem dX2_sumOfPoints_20 : decode cX2_sumOfPoints 20 = .ok (.invokevirtual 37, 3) := by decide +kernel
theorem dX2_sumOfPoints_23 : decode cX2_sumOfPoints 23 = .ok (.iadd, 1) := by decide +kernel
theorem dX2_sumOfPoints_24 : decode cX2_sumOfPoints 24 = .ok (.istore 4, 2) := by decide +kernel
theorem dX2_sumOfPoints_26 : decode cX2_sumOfPoints 26 = .ok (.iinc 5 1, 3) := by decide +kernel
theorem dX2_sumOfPoints_29 : decode cX2_sumOfPoints 29 = .ok (.goto (-23), 3) := by decide +kernel
theorem dX2_sumOfPoints_32 : decode cX2_sumOfPoints 32 = .ok (.iload 4, 2) := by decide +kernel
theorem dX2_sumOfPoints_34 : decode cX2_sumOfPoints 34 = .ok (.ireturn, 1) := by decide +kernel
set_option maxHeartbeats 4000000 in
set_option maxRecDepth 100000 in
theorem mX2_sumOfPoints_L1 {p : Program} {l : Launch} {e : Env} {R : Room} {s : State} {m : MethodId} {args : Array Value} {below : List Frame} {meth : Method} {c : Code} {Q : State → Prop} {D : va_G} {U : zz_U} {A : Nat → Prop} {cells slots : Nat} {ad : Nat → Nat} {X : va_W} (C : zz_C p l R s m meth c D U A RX2 cX2_sumOfPoints 6 (some .int) [] 3) (hcR : cells ≤ R.cells) (hsR : slots ≤ R.slots) (σ : zz_St) (a_ : Int32) (b_ : Int32) : ∀ (n : Nat) (sum_ : Int32) (kind_ : Int32) (q : (Int32 × Int32)), fX2_sumOfPoints_L1 σ a_ b_ n sum_ kind_ = some q → (zz_Z p l e R s m args below meth c Q D A 6 cells slots (zz_wc U ad σ X) 32 [(0, .ref (ad 19)), (1, .ref (ad 1)), (2, .int a_), (3, .int b_), (4, .int q.1), (5, .int q.2)] []) → zz_Z p l e R s m args below meth c Q D A 6 cells slots (zz_wc U ad σ X) 6 [(0, .ref (ad 19)), (1, .ref (ad 1)), (2, .int a_), (3, .int b_), (4, .int sum_), (5, .int kind_)] [] := by
  intro n
  induction n with
  | zero => intro sum_ kind_ q hf; rw [fX2_sumOfPoints_L1] at hf; cases hf
  | succ n ih =>
    intro sum_ kind_ q hf kx
    rw [fX2_sumOfPoints_L1] at hf
    refine zz_iload C 5 dX2_sumOfPoints_6 rfl ?_
    refine zz_iconst (v := (4 : Int32)) C dX2_sumOfPoints_8 (by decide) ?_
    refine zz_icmp_ge (tgt := 32) C dX2_sumOfPoints_9 (by decide) (fun g1 => ?_) (fun g1 => ?_)
    · rw [if_pos g1] at hf
      cases hf
      exact kx
    · rw [if_neg g1] at hf
      refine zz_iload C 4 dX2_sumOfPoints_12 rfl ?_
      refine zz_aload_n C 0 dX2_sumOfPoints_14 rfl rfl ?_
      refine zz_iload C 5 dX2_sumOfPoints_15 rfl ?_
      refine zz_aload_n C 1 dX2_sumOfPoints_17 rfl rfl ?_
      refine zz_iload_n C 2 dX2_sumOfPoints_18 rfl rfl ?_
      refine zz_iload_n C 3 dX2_sumOfPoints_19 rfl rfl ?_
      obtain ⟨x2, h3, hf⟩ := zz_bind hf
      refine zz_callV1 (As := [.int kind_, .ref (ad 1), .int a_, .int b_]) (rest := [.int sum_]) C 19 (mX2_pointsBy σ kind_ a_ b_ x2 h3) dX2_sumOfPoints_20 rfl rfl rfl zw_50 zy_X2_pointsBy rfl (by decide) (by decide) (Nat.le_of_ble_eq_true rfl) hcR hsR rfl ?_
      refine zz_iadd C dX2_sumOfPoints_23 ?_
      obtain ⟨x4, h5, hf⟩ := zz_bind hf
      refine zz_topi (Option.some.inj h5) ?_
      refine zz_istore C dX2_sumOfPoints_24 (by decide) (lv' := [(4, .int x4), (0, .ref (ad 19)), (1, .ref (ad 1)), (2, .int a_), (3, .int b_), (5, .int kind_)]) rfl ?_
      refine zz_iinc (v := (kind_ + (1 : Int32))) C 5 dX2_sumOfPoints_26 rfl (by rfl) (by decide) (lv' := [(5, .int (kind_ + (1 : Int32))), (4, .int x4), (0, .ref (ad 19)), (1, .ref (ad 1)), (2, .int a_), (3, .int b_)]) rfl ?_
      refine zz_goto (tgt := 6) C dX2_sumOfPoints_29 (by decide) ?_
      refine zz_sub [2, 3, 4, 5, 1, 0] rfl ?_
      exact ih x4 (kind_ + (1 : Int32)) _ hf kx
set_option maxHeartbeats 4000000 in
set_option maxRecDepth 100000 in
theorem mX2_sumOfPoints {D : va_G} {U : zz_U} {ad : Nat → Nat} {X : va_W} (σ : zz_St) (a_ : Int32) (b_ : Int32) (r : Int32) (hf : fX2_sumOfPoints σ a_ b_ = some r) : zz_Met yX2_sumOfPoints (.code yX2_sumOfPoints cX2_sumOfPoints 6 (some .int)) 3 0 0 D U [.ref (ad 19), .ref (ad 1), .int a_, .int b_] (zz_wc U ad σ X) (zz_ok (some (.int r)) (zz_wc U ad σ X)) zz_noth := by
  unfold fX2_sumOfPoints at hf
  refine zz_method RX2 rfl (by decide +kernel) (Nat.le_of_ble_eq_true rfl) ?_
  intro p l e s m args below meth c A _ C
  refine zz_lvs (lv1 := [(0, .ref (ad 19)), (1, .ref (ad 1)), (2, .int a_), (3, .int b_)]) rfl ?_
  refine zz_iconst (v := (0 : Int32)) C dX2_sumOfPoints_0 (by decide) ?_
  refine zz_istore C dX2_sumOfPoints_1 (by decide) (lv' := [(4, .int (0 : Int32)), (0, .ref (ad 19)), (1, .ref (ad 1)), (2, .int a_), (3, .int b_)]) rfl ?_
  refine zz_iconst (v := (0 : Int32)) C dX2_sumOfPoints_3 (by decide) ?_
  refine zz_istore C dX2_sumOfPoints_4 (by decide) (lv' := [(5, .int (0 : Int32)), (4, .int (0 : Int32)), (0, .ref (ad 19)), (1, .ref (ad 1)), (2, .int a_), (3, .int b_)]) rfl ?_
  obtain ⟨q6, h7, hf⟩ := zz_bind hf
  refine zz_sub [2, 3, 4, 5, 1, 0] rfl ?_
  refine mX2_sumOfPoints_L1 C (Nat.le_of_ble_eq_true rfl) (Nat.le_of_ble_eq_true rfl) σ a_ b_ 1000 (0 : Int32) (0 : Int32) q6 h7 ?_
  refine zz_iload C 4 dX2_sumOfPoints_32 rfl ?_
  cases hf
  exact zz_iret C dX2_sumOfPoints_34 (And.intro rfl rfl) (Nat.le_of_ble_eq_true rfl) (Nat.le_of_ble_eq_true rfl)
theorem dX3_weighAll_0 : decode cX3_weighAll 0 = .ok (.iconst 1, 1) := by decide +kernel
theorem dX3_weighAll_1 : decode cX3_weighAll 1 = .ok (.istore_n 3, 1) := by decide +kernel
theorem dX3_weighAll_2 : decode cX3_weighAll 2 = .ok (.iload_n 3, 1) := by decide +kernel
theorem dX3_weighAll_3 : decode cX3_weighAll 3 = .ok (.aload_n 1, 1) := by decide +kernel
theorem dX3_weighAll_4 : decode cX3_weighAll 4 = .ok (.getfield 27, 3) := by decide +kernel
theorem dX3_weighAll_7 : decode cX3_weighAll 7 = .ok (.if_icmp .ge 56, 3) := by decide +kernel
theorem dX3_weighAll_10 : decode cX3_weighAll 10 = .ok (.iconst 0, 1) := by decide +kernel
theorem dX3_weighAll_11 : decode cX3_weighAll 11 = .ok (.istore 4, 2) := by decide +kernel
theorem dX3_weighAll_13 : decode cX3_weighAll 13 = .ok (.iload 4, 2) := by decide +kernel
theorem dX3_weighAll_15 : decode cX3_weighAll 15 = .ok (.iload_n 3, 1) := by decide +kernel
theorem dX3_weighAll_16 : decode cX3_weighAll 16 = .ok (.if_icmp .ge 41, 3) := by decide +kernel
theorem dX3_weighAll_19 : decode cX3_weighAll 19 = .ok (.aload_n 2, 1) := by decide +kernel
theorem dX3_weighAll_20 : decode cX3_weighAll 20 = .ok (.aload_n 1, 1) := by decide +kernel
theorem dX3_weighAll_21 : decode cX3_weighAll 21 = .ok (.iload 4, 2) := by decide +kernel
theorem dX3_weighAll_23 : decode cX3_weighAll 23 = .ok (.iload_n 3, 1) := by decide +kernel
theorem dX3_weighAll_24 : decode cX3_weighAll 24 = .ok (.invokevirtual 32, 3) := by decide +kernel
theorem dX3_weighAll_27 : decode cX3_weighAll 27 = .ok (.istore 5, 2) := by decide +kernel
theorem dX3_weighAll_29 : decode cX3_weighAll 29 = .ok (.aload_n 0, 1) := by decide +kernel
theorem dX3_weighAll_30 : decode cX3_weighAll 30 = .ok (.getfield 24, 3) := by decide +kernel
theorem dX3_weighAll_33 : decode cX3_weighAll 33 = .ok (.iload 4, 2) := by decide +kernel
theorem dX3_weighAll_35 : decode cX3_weighAll 35 = .ok (.aaload, 1) := by decide +kernel
theorem dX3_weighAll_36 : decode cX3_weighAll 36 = .ok (.iload_n 3, 1) := by decide +kernel
theorem dX3_weighAll_37 : decode cX3_weighAll 37 = .ok (.iload 5, 2) := by decide +kernel
theorem dX3_weighAll_39 : decode cX3_weighAll 39 = .ok (.iastore, 1) := by decide +kernel
theorem dX3_weighAll_40 : decode cX3_weighAll 40 = .ok (.aload_n 0, 1) := by decide +kernel
theorem dX3_weighAll_41 : decode cX3_weighAll 41 = .ok (.getfield 24, 3) := by decide +kernel
theorem dX3_weighAll_44 : decode cX3_weighAll 44 = .ok (.iload_n 3, 1) := by decide +kernel
theorem dX3_weighAll_45 : decode cX3_weighAll 45 = .ok (.aaload, 1) := by decide +kernel
theorem dX3_weighAll_46 : decode cX3_weighAll 46 = .ok (.iload 4, 2) := by decide +kernel
theorem dX3_weighAll_48 : decode cX3_weighAll 48 = .ok (.iload 5, 2) := by decide +kernel
theorem dX3_weighAll_50 : decode cX3_weighAll 50 = .ok (.iastore, 1) := by decide +kernel
theorem dX3_weighAll_51 : decode cX3_weighAll 51 = .ok (.iinc 4 1, 3) := by decide +kernel
theorem dX3_weighAll_54 : decode cX3_weighAll 54 = .ok (.goto (-41), 3) := by decide +kernel
theorem dX3_weighAll_57 : decode cX3_weighAll 57 = .ok (.iinc 3 1, 3) := by decide +kernel
theorem dX3_weighAll_60 : decode cX3_weighAll 60 = .ok (.goto (-58), 3) := by decide +kernel
theorem dX3_weighAll_63 : decode cX3_weighAll 63 = .ok (.return_, 1) := by decide +kernel
set_option maxHeartbeats 4000000 in
set_option maxRecDepth 100000 in
theorem mX3_weighAll_L2 {p : Program} {l : Launch} {e : Env} {R : Room} {s : State} {m : MethodId} {args : Array Value} {below : List Frame} {meth : Method} {c : Code} {Q : State → Prop} {D : va_G} {U : zz_U} {A : Nat → Prop} {cells slots : Nat} {ad : Nat → Nat} {X : va_W} (C : zz_C p l R s m meth c D U A RX3 cX3_weighAll 6 none [] 4) (hcR : cells ≤ R.cells) (hsR : slots ≤ R.slots) (b_ : Int32) : ∀ (n : Nat) (a_ : Int32) (σ : zz_St) (q : (Int32 × zz_St)), fX3_weighAll_L2 b_ n a_ σ = some q → (zz_Z p l e R s m args below meth c Q D A 6 cells slots (zz_wc U ad q.2 X) 57 [(0, .ref (ad 24)), (1, .ref (ad 1)), (2, .ref (ad 19)), (3, .int b_), (4, .int q.1)] []) → zz_Z p l e R s m args below meth c Q D A 6 cells slots (zz_wc U ad σ X) 13 [(0, .ref (ad 24)), (1, .ref (ad 1)), (2, .ref (ad 19)), (3, .int b_), (4, .int a_)] [] := by
  intro n
  induction n with
  | zero => intro a_ σ q hf; rw [fX3_weighAll_L2] at hf; cases hf
  | succ n ih =>
    intro a_ σ q hf kx
    rw [fX3_weighAll_L2] at hf
    refine zz_iload C 4 dX3_weighAll_13 rfl ?_
    refine zz_iload_n C 3 dX3_weighAll_15 rfl rfl ?_
    refine zz_icmp_ge (tgt := 57) C dX3_weighAll_16 (by decide) (fun g2 => ?_) (fun g2 => ?_)
    · rw [if_pos g2] at hf
      cases hf
      exact kx
    · rw [if_neg g2] at hf
      refine zz_aload_n C 2 dX3_weighAll_19 rfl rfl ?_
      refine zz_aload_n C 1 dX3_weighAll_20 rfl rfl ?_
      refine zz_iload C 4 dX3_weighAll_21 rfl ?_
      refine zz_iload_n C 3 dX3_weighAll_23 rfl rfl ?_
      obtain ⟨x3, h4, hf⟩ := zz_bind hf
      refine zz_callV1 (As := [.ref (ad 1), .int a_, .int b_]) (rest := []) C 19 (mX2_sumOfPoints σ a_ b_ x3 h4) dX3_weighAll_24 rfl rfl rfl zw_52 zy_X2_sumOfPoints rfl (by decide) (by decide) (Nat.le_of_ble_eq_true rfl) hcR hsR rfl ?_
      refine zz_istore C dX3_weighAll_27 (by decide) (lv' := [(5, .int x3), (0, .ref (ad 24)), (1, .ref (ad 1)), (2, .ref (ad 19)), (3, .int b_), (4, .int a_)]) rfl ?_
      refine zz_aload_n C 1 dX3_weighAll_29 rfl rfl ?_
      refine zf3_affinities C dX3_weighAll_30 zw_51 ?_
      refine zz_iload C 5 dX3_weighAll_33 rfl ?_
      obtain ⟨x5, h6, hf⟩ := zz_bind hf
      refine zr_26 C dX3_weighAll_35 h6 ?_
      refine zz_iload_n C 4 dX3_weighAll_36 rfl rfl ?_
      refine zz_iload C 0 dX3_weighAll_37 rfl ?_
      obtain ⟨σ7, h8, hf⟩ := zz_bind hf
      refine zs_26 C dX3_weighAll_39 h6 h8 ?_
      refine zz_aload_n C 1 dX3_weighAll_40 rfl rfl ?_
      refine zf3_affinities C dX3_weighAll_41 zw_51 ?_
      refine zz_iload_n C 4 dX3_weighAll_44 rfl rfl ?_
      obtain ⟨x9, h10, hf⟩ := zz_bind hf
      refine zr_26 C dX3_weighAll_45 h10 ?_
      refine zz_iload C 5 dX3_weighAll_46 rfl ?_
      refine zz_iload C 0 dX3_weighAll_48 rfl ?_
      obtain ⟨σ11, h12, hf⟩ := zz_bind hf
      refine zs_26 C dX3_weighAll_50 h10 h12 ?_
      refine zz_iinc (v := (a_ + (1 : Int32))) C 5 dX3_weighAll_51 rfl (by rfl) (by decide) (lv' := [(4, .int (a_ + (1 : Int32))), (5, .int x3), (0, .ref (ad 24)), (1, .ref (ad 1)), (2, .ref (ad 19)), (3, .int b_)]) rfl ?_
      refine zz_goto (tgt := 13) C dX3_weighAll_54 (by decide) ?_
      refine zz_sub [2, 3, 4, 5, 0] rfl ?_
      exact ih (a_ + (1 : Int32)) σ11 _ hf kx
set_option maxHeartbeats 4000000 in
set_option maxRecDepth 100000 in
theorem mX3_weighAll_L1 {p : Program} {l : Launch} {e : Env} {R : Room} {s : State} {m : MethodId} {args : Array Value} {below : List Frame} {meth : Method} {c : Code} {Q : State → Prop} {D : va_G} {U : zz_U} {A : Nat → Prop} {cells slots : Nat} {ad : Nat → Nat} {X : va_W} (C : zz_C p l R s m meth c D U A RX3 cX3_weighAll 6 none [] 4) (hcR : cells ≤ R.cells) (hsR : slots ≤ R.slots) : ∀ (n : Nat) (b_ : Int32) (σ : zz_St) (q : (Int32 × zz_St)), fX3_weighAll_L1 n b_ σ = some q → (zz_Z p l e R s m args below meth c Q D A 6 cells slots (zz_wc U ad q.2 X) 63 [(0, .ref (ad 24)), (1, .ref (ad 1)), (2, .ref (ad 19)), (3, .int q.1)] []) → zz_Z p l e R s m args below meth c Q D A 6 cells slots (zz_wc U ad σ X) 2 [(0, .ref (ad 24)), (1, .ref (ad 1)), (2, .ref (ad 19)), (3, .int b_)] [] := by
  intro n
  induction n with
  | zero => intro b_ σ q hf; rw [fX3_weighAll_L1] at hf; cases hf
  | succ n ih =>
    intro b_ σ q hf kx
    rw [fX3_weighAll_L1] at hf
    refine zz_iload_n C 3 dX3_weighAll_2 rfl rfl ?_
    refine zz_aload_n C 1 dX3_weighAll_3 rfl rfl ?_
    refine zf5_count C dX3_weighAll_4 zw_53 ?_
    refine zz_icmp_ge (tgt := 63) C dX3_weighAll_7 (by decide) (fun g1 => ?_) (fun g1 => ?_)
    · rw [if_pos g1] at hf
      cases hf
      exact kx
    · rw [if_neg g1] at hf
      refine zz_iconst (v := (0 : Int32)) C dX3_weighAll_10 (by decide) ?_
      refine zz_istore C dX3_weighAll_11 (by decide) (lv' := [(4, .int (0 : Int32)), (0, .ref (ad 24)), (1, .ref (ad 1)), (2, .ref (ad 19)), (3, .int b_)]) rfl ?_
      obtain ⟨q13, h14, hf⟩ := zz_bind hf
      refine zz_sub [1, 2, 3, 4, 0] rfl ?_
      refine mX3_weighAll_L2 C hcR hsR b_ 1000 (0 : Int32) σ q13 h14 ?_
      refine zz_iinc (v := (b_ + (1 : Int32))) C 3 dX3_weighAll_57 rfl (by rfl) (by decide) (lv' := [(3, .int (b_ + (1 : Int32))), (0, .ref (ad 24)), (1, .ref (ad 1)), (2, .ref (ad 19)), (4, .int q13.1)]) rfl ?_
      refine zz_goto (tgt := 2) C dX3_weighAll_60 (by decide) ?_
      refine zz_sub [1, 2, 3, 0] rfl ?_
      exact ih (b_ + (1 : Int32)) q13.2 _ hf kx
set_option maxHeartbeats 4000000 in
set_option maxRecDepth 100000 in
theorem mX3_weighAll {D : va_G} {U : zz_U} {ad : Nat → Nat} {X : va_W} (σ : zz_St) (r : zz_St) (hf : fX3_weighAll σ = some r) : zz_Met yX3_weighAll (.code yX3_weighAll cX3_weighAll 6 none) 4 0 0 D U [.ref (ad 24), .ref (ad 1), .ref (ad 19)] (zz_wc U ad σ X) (zz_ok none (zz_wc U ad r X)) zz_noth := by
  unfold fX3_weighAll at hf
  refine zz_method RX3 rfl (by decide +kernel) (Nat.le_of_ble_eq_true rfl) ?_
  intro p l e s m args below meth c A _ C
  refine zz_lvs (lv1 := [(0, .ref (ad 24)), (1, .ref (ad 1)), (2, .ref (ad 19))]) rfl ?_
  refine zz_iconst (v := (1 : Int32)) C dX3_weighAll_0 (by decide) ?_
  refine zz_istore_n C dX3_weighAll_1 rfl (by decide) (lv' := [(3, .int (1 : Int32)), (0, .ref (ad 24)), (1, .ref (ad 1)), (2, .ref (ad 19))]) rfl ?_
  obtain ⟨q15, h16, hf⟩ := zz_bind hf
  refine zz_sub [1, 2, 3, 0] rfl ?_
  refine mX3_weighAll_L1 C (Nat.le_of_ble_eq_true rfl) (Nat.le_of_ble_eq_true rfl) 1000 (1 : Int32) σ q15 h16 ?_
  cases hf
  exact zz_vret C dX3_weighAll_63 (And.intro rfl rfl) (Nat.le_of_ble_eq_true rfl) (Nat.le_of_ble_eq_true rfl)
end
section
theorem dX3_joinWhatMust_0 : decode cX3_joinWhatMust 0 = .ok (.aload_n 0, 1) := by decide +kernel
theorem dX3_joinWhatMust_1 : decode cX3_joinWhatMust 1 = .ok (.iconst 0, 1) := by decide +kernel
theorem dX3_joinWhatMust_2 : decode cX3_joinWhatMust 2 = .ok (.putfield 49, 3) := by decide +kernel
theorem dX3_joinWhatMust_5 : decode cX3_joinWhatMust 5 = .ok (.iconst 0, 1) := by decide +kernel
theorem dX3_joinWhatMust_6 : decode cX3_joinWhatMust 6 = .ok (.istore_n 3, 1) := by decide +kernel
theorem dX3_joinWhatMust_7 : decode cX3_joinWhatMust 7 = .ok (.iload_n 3, 1) := by decide +kernel
theorem dX3_joinWhatMust_8 : decode cX3_joinWhatMust 8 = .ok (.iload_n 1, 1) := by decide +kernel
theorem dX3_joinWhatMust_9 : decode cX3_joinWhatMust 9 = .ok (.if_icmp .ge 66, 3) := by decide +kernel
theorem dX3_joinWhatMust_12 : decode cX3_joinWhatMust 12 = .ok (.iload_n 3, 1) := by decide +kernel
theorem dX3_joinWhatMust_13 : decode cX3_joinWhatMust 13 = .ok (.bipush 14, 2) := by decide +kernel
theorem dX3_joinWhatMust_15 : decode cX3_joinWhatMust 15 = .ok (.if_icmp .ge 60, 3) := by decide +kernel
theorem dX3_joinWhatMust_18 : decode cX3_joinWhatMust 18 = .ok (.aload_n 2, 1) := by decide +kernel
theorem dX3_joinWhatMust_19 : decode cX3_joinWhatMust 19 = .ok (.iload_n 3, 1) := by decide +kernel
theorem dX3_joinWhatMust_20 : decode cX3_joinWhatMust 20 = .ok (.invokevirtual 50, 3) := by decide +kernel
theorem dX3_joinWhatMust_23 : decode cX3_joinWhatMust 23 = .ok (.istore 4, 2) := by decide +kernel
theorem dX3_joinWhatMust_25 : decode cX3_joinWhatMust 25 = .ok (.iload 4, 2) := by decide +kernel
theorem dX3_joinWhatMust_27 : decode cX3_joinWhatMust 27 = .ok (.iconst 1, 1) := by decide +kernel
theorem dX3_joinWhatMust_28 : decode cX3_joinWhatMust 28 = .ok (.iload_n 3, 1) := by decide +kernel
theorem dX3_joinWhatMust_29 : decode cX3_joinWhatMust 29 = .ok (.ishl, 1) := by decide +kernel
theorem dX3_joinWhatMust_30 : decode cX3_joinWhatMust 30 = .ok (.iconst 1, 1) := by decide +kernel
theorem dX3_joinWhatMust_31 : decode cX3_joinWhatMust 31 = .ok (.isub, 1) := by decide +kernel
theorem dX3_joinWhatMust_32 : decode cX3_joinWhatMust 32 = .ok (.iand, 1) := by decide +kernel
theorem dX3_joinWhatMust_33 : decode cX3_joinWhatMust 33 = .ok (.ifCond .ne 7, 3) := by decide +kernel
theorem dX3_joinWhatMust_36 : decode cX3_joinWhatMust 36 = .ok (.iconst 1, 1) := by decide +kernel
theorem dX3_joinWhatMust_37 : decode cX3_joinWhatMust 37 = .ok (.goto 4, 3) := by decide +kernel
theorem dX3_joinWhatMust_40 : decode cX3_joinWhatMust 40 = .ok (.iconst 0, 1) := by decide +kernel
theorem dX3_joinWhatMust_41 : decode cX3_joinWhatMust 41 = .ok (.istore 5, 2) := by decide +kernel
theorem dX3_joinWhatMust_43 : decode cX3_joinWhatMust 43 = .ok (.iload 5, 2) := by decide +kernel
theorem dX3_joinWhatMust_45 : decode cX3_joinWhatMust 45 = .ok (.ifCond .eq 24, 3) := by decide +kernel
theorem dX3_joinWhatMust_48 : decode cX3_joinWhatMust 48 = .ok (.aload_n 0, 1) := by decide +kernel
theorem dX3_joinWhatMust_49 : decode cX3_joinWhatMust 49 = .ok (.getfield 18, 3) := by decide +kernel
theorem dX3_joinWhatMust_52 : decode cX3_joinWhatMust 52 = .ok (.aload_n 0, 1) := by decide +kernel
theorem dX3_joinWhatMust_53 : decode cX3_joinWhatMust 53 = .ok (.getfield 49, 3) := by decide +kernel
theorem dX3_joinWhatMust_56 : decode cX3_joinWhatMust 56 = .ok (.iload 4, 2) := by decide +kernel
theorem dX3_joinWhatMust_58 : decode cX3_joinWhatMust 58 = .ok (.iastore, 1) := by decide +kernel
theorem dX3_joinWhatMust_59 : decode cX3_joinWhatMust 59 = .ok (.aload_n 0, 1) := by decide +kernel
theorem dX3_joinWhatMust_60 : decode cX3_joinWhatMust 60 = .ok (.dup, 1) := by decide +kernel
theorem dX3_joinWhatMust_61 : decode cX3_joinWhatMust 61 = .ok (.getfield 49, 3) := by decide +kernel
theorem dX3_joinWhatMust_64 : decode cX3_joinWhatMust 64 = .ok (.iconst 1, 1) := by decide +kernel
theorem dX3_joinWhatMust_65 : decode cX3_joinWhatMust 65 = .ok (.iadd, 1) := by decide +kernel
theorem dX3_joinWhatMust_66 : decode cX3_joinWhatMust 66 = .ok (.putfield 49, 3) := by decide +kernel
theorem dX3_joinWhatMust_69 : decode cX3_joinWhatMust 69 = .ok (.iinc 3 1, 3) := by decide +kernel
theorem dX3_joinWhatMust_72 : decode cX3_joinWhatMust 72 = .ok (.goto (-65), 3) := by decide +kernel
theorem dX3_joinWhatMust_75 : decode cX3_joinWhatMust 75 = .ok (.return_, 1) := by decide +kernel
set_option maxHeartbeats 4000000 in
set_option maxRecDepth 100000 in
theorem mX3_joinWhatMust_L1 {p : Program} {l : Launch} {e : Env} {R : Room} {s : State} {m : MethodId} {args : Array Value} {below : List Frame} {meth : Method} {c : Code} {Q : State → Prop} {D : va_G} {U : zz_U} {A : Nat → Prop} {cells slots : Nat} {ad : Nat → Nat} {X : va_W} (C : zz_C p l R s m meth c D U A RX3 cX3_joinWhatMust 6 none [] 2) (hcR : cells ≤ R.cells) (hsR : slots ≤ R.slots) (pieceTotal_ : Int32) : ∀ (n : Nat) (piece_ : Int32) (σ : zz_St) (q : (Int32 × zz_St)), fX3_joinWhatMust_L1 pieceTotal_ n piece_ σ = some q → (zz_Z p l e R s m args below meth c Q D A 6 cells slots (zz_wc U ad q.2 X) 75 [(0, .ref (ad 24)), (1, .int pieceTotal_), (2, .ref (ad 21)), (3, .int q.1)] []) → zz_Z p l e R s m args below meth c Q D A 6 cells slots (zz_wc U ad σ X) 7 [(0, .ref (ad 24)), (1, .int pieceTotal_), (2, .ref (ad 21)), (3, .int piece_)] [] := by
  intro n
  induction n with
  | zero => intro piece_ σ q hf; rw [fX3_joinWhatMust_L1] at hf; cases hf
  | succ n ih =>
    intro piece_ σ q hf kx
    rw [fX3_joinWhatMust_L1] at hf
    obtain ⟨b1, h2, hf⟩ := zz_bind hf
    refine zz_cutI (P := b1 = true) 18 [(0, .ref (ad 24)), (1, .int pieceTotal_), (2, .ref (ad 21)), (3, .int piece_)] [] (zz_wc U ad σ X) (fun g5 => ?_) (fun J3 => ?_)
    · rw [if_pos g5] at hf
      refine zz_aload_n C 2 dX3_joinWhatMust_18 rfl rfl ?_
      refine zz_iload_n C 3 dX3_joinWhatMust_19 rfl rfl ?_
      obtain ⟨x8, h9, hf⟩ := zz_bind hf
      refine zz_callV1 (As := [.int piece_]) (rest := []) C 21 (mX6_joinedTo σ piece_ x8 h9) dX3_joinWhatMust_20 rfl rfl rfl zw_56 zy_X6_joinedTo rfl (by decide) (by decide) (Nat.le_of_ble_eq_true rfl) hcR hsR rfl ?_
      refine zz_istore C dX3_joinWhatMust_23 (by decide) (lv' := [(4, .int x8), (0, .ref (ad 24)), (1, .int pieceTotal_), (2, .ref (ad 21)), (3, .int piece_)]) rfl ?_
      obtain ⟨b10, h11, hf⟩ := zz_bind hf
      refine zz_cut 41 [(4, .int x8), (0, .ref (ad 24)), (1, .int pieceTotal_), (2, .ref (ad 21)), (3, .int piece_)] [.int (zz_bi b10)] (zz_wc U ad σ X) ?_ (fun J12 => ?_)
      · obtain ⟨x14, h15, hf⟩ := zz_bind hf
        refine zz_topi (Option.some.inj h15) ?_
        refine zz_istore C dX3_joinWhatMust_41 (by decide) (lv' := [(5, .int x14), (4, .int x8), (0, .ref (ad 24)), (1, .int pieceTotal_), (2, .ref (ad 21)), (3, .int piece_)]) rfl ?_
        obtain ⟨x16, h17, hf⟩ := zz_bind hf
        refine zz_cut 69 [(0, .ref (ad 24)), (1, .int pieceTotal_), (2, .ref (ad 21)), (3, .int piece_), (4, .int x8), (5, .int x14)] [] (zz_wc U ad x16 X) ?_ (fun J18 => ?_)
        · refine zz_iinc (v := (piece_ + (1 : Int32))) C 3 dX3_joinWhatMust_69 rfl (by rfl) (by decide) (lv' := [(3, .int (piece_ + (1 : Int32))), (0, .ref (ad 24)), (1, .int pieceTotal_), (2, .ref (ad 21)), (4, .int x8), (5, .int x14)]) rfl ?_
          refine zz_goto (tgt := 7) C dX3_joinWhatMust_72 (by decide) ?_
          refine zz_sub [1, 2, 3, 0] rfl ?_
          exact ih (piece_ + (1 : Int32)) x16 _ hf kx
        refine zz_iload C 0 dX3_joinWhatMust_43 rfl ?_
        refine zz_if_eq (tgt := 69) C dX3_joinWhatMust_45 (by decide) (fun g19 => ?_) (fun g19 => ?_)
        · rw [if_pos g19] at h17
          refine zz_sub [2, 3, 4, 5, 1, 0] rfl ?_
          cases h17
          exact J18
        · rw [if_neg g19] at h17
          refine zz_aload_n C 2 dX3_joinWhatMust_48 rfl rfl ?_
          refine zf3_sets C dX3_joinWhatMust_49 zw_55 ?_
          refine zz_aload_n C 2 dX3_joinWhatMust_52 rfl rfl ?_
          refine zf3_count C dX3_joinWhatMust_53 zw_54 ?_
          refine zz_iload C 1 dX3_joinWhatMust_56 rfl ?_
          obtain ⟨σ20, h21, h17⟩ := zz_bind h17
          refine zs_25 C dX3_joinWhatMust_58 h21 ?_
          refine zz_aload_n C 2 dX3_joinWhatMust_59 rfl rfl ?_
          refine zz_dup C dX3_joinWhatMust_60 rfl ?_
          refine zf3_count C dX3_joinWhatMust_61 zw_54 ?_
          refine zz_iconst (v := (1 : Int32)) C dX3_joinWhatMust_64 (by decide) ?_
          refine zz_iadd C dX3_joinWhatMust_65 ?_
          refine zp3_count C dX3_joinWhatMust_66 zw_54 ?_
          refine zz_sub [2, 3, 4, 5, 1, 0] rfl ?_
          cases h17
          exact J18
      refine zz_iload C 0 dX3_joinWhatMust_25 rfl ?_
      refine zz_iconst (v := (1 : Int32)) C dX3_joinWhatMust_27 (by decide) ?_
      refine zz_iload_n C 4 dX3_joinWhatMust_28 rfl rfl ?_
      refine zz_ishl C dX3_joinWhatMust_29 ?_
      refine zz_iconst (v := (1 : Int32)) C dX3_joinWhatMust_30 (by decide) ?_
      refine zz_isub C dX3_joinWhatMust_31 ?_
      refine zz_iand C dX3_joinWhatMust_32 ?_
      refine zz_if_ne (tgt := 40) C dX3_joinWhatMust_33 (by decide) (fun g13 => ?_) (fun g13 => ?_)
      · rw [if_neg g13] at h11
        refine zz_iconst (v := 0) C dX3_joinWhatMust_40 (by decide) ?_
        cases h11
        exact J12
      · rw [if_pos g13] at h11
        refine zz_iconst (v := 1) C dX3_joinWhatMust_36 (by decide) ?_
        refine zz_goto (tgt := 41) C dX3_joinWhatMust_37 (by decide) ?_
        cases h11
        exact J12
    refine zz_cutI (P := b1 = false) 75 [(0, .ref (ad 24)), (1, .int pieceTotal_), (2, .ref (ad 21)), (3, .int piece_)] [] (zz_wc U ad σ X) (fun g5 => ?_) (fun J4 => ?_)
    · rw [if_neg (show ¬ b1 = true by rw [g5]; decide)] at hf
      cases hf
      exact kx
    refine zz_iload_n C 3 dX3_joinWhatMust_7 rfl rfl ?_
    refine zz_iload_n C 1 dX3_joinWhatMust_8 rfl rfl ?_
    refine zz_icmp_ge (tgt := 75) C dX3_joinWhatMust_9 (by decide) (fun g6 => ?_) (fun g6 => ?_)
    · rw [if_pos g6] at h2
      cases h2
      exact J4 rfl
    · rw [if_neg g6] at h2
      refine zz_iload_n C 3 dX3_joinWhatMust_12 rfl rfl ?_
      refine zz_bipush (v := (14 : Int32)) C dX3_joinWhatMust_13 (by decide) ?_
      refine zz_icmp_ge (tgt := 75) C dX3_joinWhatMust_15 (by decide) (fun g7 => ?_) (fun g7 => ?_)
      · rw [if_pos g7] at h2
        cases h2
        exact J4 rfl
      · rw [if_neg g7] at h2
        cases h2
        exact J3 rfl
set_option maxHeartbeats 4000000 in
set_option maxRecDepth 100000 in
theorem mX3_joinWhatMust {D : va_G} {U : zz_U} {ad : Nat → Nat} {X : va_W} (σ : zz_St) (pieceTotal_ : Int32) (r : zz_St) (hf : fX3_joinWhatMust σ pieceTotal_ = some r) : zz_Met yX3_joinWhatMust (.code yX3_joinWhatMust cX3_joinWhatMust 6 none) 2 0 0 D U [.ref (ad 24), .int pieceTotal_, .ref (ad 21)] (zz_wc U ad σ X) (zz_ok none (zz_wc U ad r X)) zz_noth := by
  unfold fX3_joinWhatMust at hf
  refine zz_method RX3 rfl (by decide +kernel) (Nat.le_of_ble_eq_true rfl) ?_
  intro p l e s m args below meth c A _ C
  refine zz_lvs (lv1 := [(0, .ref (ad 24)), (1, .int pieceTotal_), (2, .ref (ad 21))]) rfl ?_
  refine zz_aload_n C 0 dX3_joinWhatMust_0 rfl rfl ?_
  refine zz_iconst (v := (0 : Int32)) C dX3_joinWhatMust_1 (by decide) ?_
  refine zp3_count C dX3_joinWhatMust_2 zw_54 ?_
  refine zz_iconst (v := (0 : Int32)) C dX3_joinWhatMust_5 (by decide) ?_
  refine zz_istore_n C dX3_joinWhatMust_6 rfl (by decide) (lv' := [(3, .int (0 : Int32)), (0, .ref (ad 24)), (1, .int pieceTotal_), (2, .ref (ad 21))]) rfl ?_
  obtain ⟨q22, h23, hf⟩ := zz_bind hf
  refine zz_sub [1, 2, 3, 0] rfl ?_
  refine mX3_joinWhatMust_L1 C (Nat.le_of_ble_eq_true rfl) (Nat.le_of_ble_eq_true rfl) pieceTotal_ 1000 (0 : Int32) (zz_u σ 24 2 (0 : Int32)) q22 h23 ?_
  cases hf
  exact zz_vret C dX3_joinWhatMust_75 (And.intro rfl rfl) (Nat.le_of_ble_eq_true rfl) (Nat.le_of_ble_eq_true rfl)
theorem dX6_isForbidden_0 : decode cX6_isForbidden 0 = .ok (.iconst 0, 1) := by decide +kernel
theorem dX6_isForbidden_1 : decode cX6_isForbidden 1 = .ok (.istore_n 3, 1) := by decide +kernel
theorem dX6_isForbidden_2 : decode cX6_isForbidden 2 = .ok (.iload_n 3, 1) := by decide +kernel
theorem dX6_isForbidden_3 : decode cX6_isForbidden 3 = .ok (.bipush 14, 2) := by decide +kernel
theorem dX6_isForbidden_5 : decode cX6_isForbidden 5 = .ok (.if_icmp .ge 30, 3) := by decide +kernel
theorem dX6_isForbidden_8 : decode cX6_isForbidden 8 = .ok (.iload_n 3, 1) := by decide +kernel
theorem dX6_isForbidden_9 : decode cX6_isForbidden 9 = .ok (.iload_n 1, 1) := by decide +kernel
theorem dX6_isForbidden_10 : decode cX6_isForbidden 10 = .ok (.invokestatic 18, 3) := by decide +kernel
theorem dX6_isForbidden_13 : decode cX6_isForbidden 13 = .ok (.ifCond .eq 16, 3) := by decide +kernel
theorem dX6_isForbidden_16 : decode cX6_isForbidden 16 = .ok (.aload_n 0, 1) := by decide +kernel
theorem dX6_isForbidden_17 : decode cX6_isForbidden 17 = .ok (.getfield 15, 3) := by decide +kernel
theorem dX6_isForbidden_20 : decode cX6_isForbidden 20 = .ok (.iload_n 3, 1) := by decide +kernel
theorem dX6_isForbidden_21 : decode cX6_isForbidden 21 = .ok (.iaload, 1) := by decide +kernel
theorem dX6_isForbidden_22 : decode cX6_isForbidden 22 = .ok (.iload_n 2, 1) := by decide +kernel
theorem dX6_isForbidden_23 : decode cX6_isForbidden 23 = .ok (.iand, 1) := by decide +kernel
theorem dX6_isForbidden_24 : decode cX6_isForbidden 24 = .ok (.ifCond .eq 5, 3) := by decide +kernel
theorem dX6_isForbidden_27 : decode cX6_isForbidden 27 = .ok (.iconst 1, 1) := by decide +kernel
theorem dX6_isForbidden_28 : decode cX6_isForbidden 28 = .ok (.ireturn, 1) := by decide +kernel
theorem dX6_isForbidden_29 : decode cX6_isForbidden 29 = .ok (.iinc 3 1, 3) := by decide +kernel
theorem dX6_isForbidden_32 : decode cX6_isForbidden 32 = .ok (.goto (-30), 3) := by decide +kernel
theorem dX6_isForbidden_35 : decode cX6_isForbidden 35 = .ok (.iconst 0, 1) := by decide +kernel
theorem dX6_isForbidden_36 : decode cX6_isForbidden 36 = .ok (.ireturn, 1) := by decide +kernel
set_option maxHeartbeats 4000000 in
set_option maxRecDepth 100000 in
theorem mX6_isForbidden_L1 {p : Program} {l : Launch} {e : Env} {R : Room} {s : State} {m : MethodId} {args : Array Value} {below : List Frame} {meth : Method} {c : Code} {Q : State → Prop} {D : va_G} {U : zz_U} {A : Nat → Prop} {cells slots : Nat} {ad : Nat → Nat} {X : va_W} (C : zz_C p l R s m meth c D U A RX6 cX6_isForbidden 4 (some .boolean) [] 1) (hcR : cells ≤ R.cells) (hsR : slots ≤ R.slots) (σ : zz_St) (set_ : Int32) (otherSet_ : Int32) : ∀ (n : Nat) (piece_ : Int32) (q : (Int32 ⊕ (Int32))), fX6_isForbidden_L1 σ set_ otherSet_ n piece_ = some q → (∀ v : Int32, q = .inl v → zz_Z p l e R s m args below meth c Q D A 4 cells slots (zz_wc U ad σ X) 28 [] [.int v]) → (∀ w : Int32, q = .inr w → zz_Z p l e R s m args below meth c Q D A 4 cells slots (zz_wc U ad σ X) 35 [(0, .ref (ad 21)), (1, .int set_), (2, .int otherSet_), (3, .int w)] []) → zz_Z p l e R s m args below meth c Q D A 4 cells slots (zz_wc U ad σ X) 2 [(0, .ref (ad 21)), (1, .int set_), (2, .int otherSet_), (3, .int piece_)] [] := by
  intro n
  induction n with
  | zero => intro piece_ q hf; rw [fX6_isForbidden_L1] at hf; cases hf
  | succ n ih =>
    intro piece_ q hf kr kx
    rw [fX6_isForbidden_L1] at hf
    refine zz_iload_n C 3 dX6_isForbidden_2 rfl rfl ?_
    refine zz_bipush (v := (14 : Int32)) C dX6_isForbidden_3 (by decide) ?_
    refine zz_icmp_ge (tgt := 35) C dX6_isForbidden_5 (by decide) (fun g1 => ?_) (fun g1 => ?_)
    · rw [if_pos g1] at hf
      cases hf
      exact kx _ rfl
    · rw [if_neg g1] at hf
      obtain ⟨b2, h3, hf⟩ := zz_bind hf
      refine zz_cutI (P := b2 = true) 27 [(0, .ref (ad 21)), (1, .int set_), (2, .int otherSet_), (3, .int piece_)] [] (zz_wc U ad σ X) (fun g6 => ?_) (fun J4 => ?_)
      · rw [if_pos g6] at hf
        refine zz_iconst (v := (1 : Int32)) C dX6_isForbidden_27 (by decide) ?_
        cases hf
        refine zz_sub [] rfl ?_
        exact kr _ rfl
      refine zz_cutI (P := b2 = false) 29 [(0, .ref (ad 21)), (1, .int set_), (2, .int otherSet_), (3, .int piece_)] [] (zz_wc U ad σ X) (fun g6 => ?_) (fun J5 => ?_)
      · rw [if_neg (show ¬ b2 = true by rw [g6]; decide)] at hf
        refine zz_iinc (v := (piece_ + (1 : Int32))) C 3 dX6_isForbidden_29 rfl (by rfl) (by decide) (lv' := [(3, .int (piece_ + (1 : Int32))), (0, .ref (ad 21)), (1, .int set_), (2, .int otherSet_)]) rfl ?_
        refine zz_goto (tgt := 2) C dX6_isForbidden_32 (by decide) ?_
        refine zz_sub [1, 2, 3, 0] rfl ?_
        exact ih (piece_ + (1 : Int32)) _ hf kr kx
      refine zz_iload_n C 3 dX6_isForbidden_8 rfl rfl ?_
      refine zz_iload_n C 1 dX6_isForbidden_9 rfl rfl ?_
      obtain ⟨x7, h8, h3⟩ := zz_bind h3
      refine zz_callSN1 (host := "ChangeUntangler") (As := [.int piece_, .int set_]) (rest := []) C (mX7_isIn σ piece_ set_ x7 h8) dX6_isForbidden_10 rfl (by decide +kernel) zy_X7_isIn rfl (by decide) (by decide) (Nat.le_of_ble_eq_true rfl) hcR hsR rfl ?_
      refine zz_if_eq (tgt := 29) C dX6_isForbidden_13 (by decide) (fun g9 => ?_) (fun g9 => ?_)
      · rw [if_pos g9] at h3
        cases h3
        exact J5 rfl
      · rw [if_neg g9] at h3
        refine zz_aload_n C 0 dX6_isForbidden_16 rfl rfl ?_
        refine zf6_mustNot C dX6_isForbidden_17 zw_27 ?_
        refine zz_iload_n C 3 dX6_isForbidden_20 rfl rfl ?_
        obtain ⟨x10, h11, h3⟩ := zz_bind h3
        refine zl_23 C dX6_isForbidden_21 h11 ?_
        refine zz_iload_n C 2 dX6_isForbidden_22 rfl rfl ?_
        refine zz_iand C dX6_isForbidden_23 ?_
        refine zz_if_eq (tgt := 29) C dX6_isForbidden_24 (by decide) (fun g12 => ?_) (fun g12 => ?_)
        · rw [if_pos g12] at h3
          cases h3
          exact J5 rfl
        · rw [if_neg g12] at h3
          cases h3
          exact J4 rfl
set_option maxHeartbeats 4000000 in
set_option maxRecDepth 100000 in
theorem mX6_isForbidden {D : va_G} {U : zz_U} {ad : Nat → Nat} {X : va_W} (σ : zz_St) (set_ : Int32) (otherSet_ : Int32) (r : Int32) (hf : fX6_isForbidden σ set_ otherSet_ = some r) : zz_Met yX6_isForbidden (.code yX6_isForbidden cX6_isForbidden 4 (some .boolean)) 1 0 0 D U [.ref (ad 21), .int set_, .int otherSet_] (zz_wc U ad σ X) (zz_ok (some (.int r)) (zz_wc U ad σ X)) zz_noth := by
  unfold fX6_isForbidden at hf
  refine zz_method RX6 rfl (by decide +kernel) (Nat.le_of_ble_eq_true rfl) ?_
  intro p l e s m args below meth c A _ C
  refine zz_lvs (lv1 := [(0, .ref (ad 21)), (1, .int set_), (2, .int otherSet_)]) rfl ?_
  refine zz_iconst (v := (0 : Int32)) C dX6_isForbidden_0 (by decide) ?_
  refine zz_istore_n C dX6_isForbidden_1 rfl (by decide) (lv' := [(3, .int (0 : Int32)), (0, .ref (ad 21)), (1, .int set_), (2, .int otherSet_)]) rfl ?_
  obtain ⟨q13, h14, hf⟩ := zz_bind hf
  refine zz_sub [1, 2, 3, 0] rfl ?_
  refine mX6_isForbidden_L1 C (Nat.le_of_ble_eq_true rfl) (Nat.le_of_ble_eq_true rfl) σ set_ otherSet_ 1000 (0 : Int32) q13 h14 (fun v15 h17 => ?_) (fun w16 h17 => ?_)
  · subst h17
    obtain ⟨x18, h19, hf⟩ := zz_bind hf
    refine zz_topi (zz_bo_in h19).2 ?_
    cases hf
    exact zz_zret C dX6_isForbidden_28 (by rw [← (zz_bo_in h19).2]; exact (zz_bo_in h19).1) (And.intro rfl rfl) (Nat.le_of_ble_eq_true rfl) (Nat.le_of_ble_eq_true rfl)
  · subst h17
    refine zz_iconst (v := (0 : Int32)) C dX6_isForbidden_35 (by decide) ?_
    cases hf
    exact zz_zret C dX6_isForbidden_36 (Or.inl rfl) (And.intro rfl rfl) (Nat.le_of_ble_eq_true rfl) (Nat.le_of_ble_eq_true rfl)
theorem dX3_linkageOf_0 : decode cX3_linkageOf 0 = .ok (.iconst 0, 1) := by decide +kernel
theorem dX3_linkageOf_1 : decode cX3_linkageOf 1 = .ok (.istore_n 3, 1) := by decide +kernel
theorem dX3_linkageOf_2 : decode cX3_linkageOf 2 = .ok (.ldc 68, 2) := by decide +kernel
theorem dX3_linkageOf_4 : decode cX3_linkageOf 4 = .ok (.istore 4, 2) := by decide +kernel
theorem dX3_linkageOf_6 : decode cX3_linkageOf 6 = .ok (.iconst 0, 1) := by decide +kernel
theorem dX3_linkageOf_7 : decode cX3_linkageOf 7 = .ok (.istore 5, 2) := by decide +kernel
theorem dX3_linkageOf_9 : decode cX3_linkageOf 9 = .ok (.iconst 0, 1) := by decide +kernel
theorem dX3_linkageOf_10 : decode cX3_linkageOf 10 = .ok (.istore 6, 2) := by decide +kernel
theorem dX3_linkageOf_12 : decode cX3_linkageOf 12 = .ok (.iload 6, 2) := by decide +kernel
theorem dX3_linkageOf_14 : decode cX3_linkageOf 14 = .ok (.bipush 14, 2) := by decide +kernel
theorem dX3_linkageOf_16 : decode cX3_linkageOf 16 = .ok (.if_icmp .ge 90, 3) := by decide +kernel
theorem dX3_linkageOf_19 : decode cX3_linkageOf 19 = .ok (.iconst 0, 1) := by decide +kernel
theorem dX3_linkageOf_20 : decode cX3_linkageOf 20 = .ok (.istore 7, 2) := by decide +kernel
theorem dX3_linkageOf_22 : decode cX3_linkageOf 22 = .ok (.iload 7, 2) := by decide +kernel
theorem dX3_linkageOf_24 : decode cX3_linkageOf 24 = .ok (.bipush 14, 2) := by decide +kernel
theorem dX3_linkageOf_26 : decode cX3_linkageOf 26 = .ok (.if_icmp .ge 74, 3) := by decide +kernel
theorem dX3_linkageOf_29 : decode cX3_linkageOf 29 = .ok (.iload 6, 2) := by decide +kernel
theorem dX3_linkageOf_31 : decode cX3_linkageOf 31 = .ok (.iload_n 1, 1) := by decide +kernel
theorem dX3_linkageOf_32 : decode cX3_linkageOf 32 = .ok (.invokestatic 69, 3) := by decide +kernel
theorem dX3_linkageOf_35 : decode cX3_linkageOf 35 = .ok (.ifCond .eq 65, 3) := by decide +kernel
theorem dX3_linkageOf_38 : decode cX3_linkageOf 38 = .ok (.iload 7, 2) := by decide +kernel
theorem dX3_linkageOf_40 : decode cX3_linkageOf 40 = .ok (.iload_n 2, 1) := by decide +kernel
theorem dX3_linkageOf_41 : decode cX3_linkageOf 41 = .ok (.invokestatic 69, 3) := by decide +kernel
theorem dX3_linkageOf_44 : decode cX3_linkageOf 44 = .ok (.ifCond .eq 50, 3) := by decide +kernel
theorem dX3_linkageOf_47 : decode cX3_linkageOf 47 = .ok (.iload_n 3, 1) := by decide +kernel
theorem dX3_linkageOf_48 : decode cX3_linkageOf 48 = .ok (.aload_n 0, 1) := by decide +kernel
theorem dX3_linkageOf_49 : decode cX3_linkageOf 49 = .ok (.getfield 24, 3) := by decide +kernel
theorem dX3_linkageOf_52 : decode cX3_linkageOf 52 = .ok (.iload 6, 2) := by decide +kernel
theorem dX3_linkageOf_54 : decode cX3_linkageOf 54 = .ok (.aaload, 1) := by decide +kernel
theorem dX3_linkageOf_55 : decode cX3_linkageOf 55 = .ok (.iload 7, 2) := by decide +kernel
theorem dX3_linkageOf_57 : decode cX3_linkageOf 57 = .ok (.iaload, 1) := by decide +kernel
theorem dX3_linkageOf_58 : decode cX3_linkageOf 58 = .ok (.invokestatic 72, 3) := by decide +kernel
theorem dX3_linkageOf_61 : decode cX3_linkageOf 61 = .ok (.istore_n 3, 1) := by decide +kernel
theorem dX3_linkageOf_62 : decode cX3_linkageOf 62 = .ok (.iload 4, 2) := by decide +kernel
theorem dX3_linkageOf_64 : decode cX3_linkageOf 64 = .ok (.aload_n 0, 1) := by decide +kernel
theorem dX3_linkageOf_65 : decode cX3_linkageOf 65 = .ok (.getfield 24, 3) := by decide +kernel
theorem dX3_linkageOf_68 : decode cX3_linkageOf 68 = .ok (.iload 6, 2) := by decide +kernel
theorem dX3_linkageOf_70 : decode cX3_linkageOf 70 = .ok (.aaload, 1) := by decide +kernel
theorem dX3_linkageOf_71 : decode cX3_linkageOf 71 = .ok (.iload 7, 2) := by decide +kernel
theorem dX3_linkageOf_73 : decode cX3_linkageOf 73 = .ok (.iaload, 1) := by decide +kernel
theorem dX3_linkageOf_74 : decode cX3_linkageOf 74 = .ok (.invokestatic 77, 3) := by decide +kernel
theorem dX3_linkageOf_77 : decode cX3_linkageOf 77 = .ok (.istore 4, 2) := by decide +kernel
theorem dX3_linkageOf_79 : decode cX3_linkageOf 79 = .ok (.iload 5, 2) := by decide +kernel
theorem dX3_linkageOf_81 : decode cX3_linkageOf 81 = .ok (.aload_n 0, 1) := by decide +kernel
theorem dX3_linkageOf_82 : decode cX3_linkageOf 82 = .ok (.getfield 24, 3) := by decide +kernel
theorem dX3_linkageOf_85 : decode cX3_linkageOf 85 = .ok (.iload 6, 2) := by decide +kernel
theorem dX3_linkageOf_87 : decode cX3_linkageOf 87 = .ok (.aaload, 1) := by decide +kernel
theorem dX3_linkageOf_88 : decode cX3_linkageOf 88 = .ok (.iload 7, 2) := by decide +kernel
theorem dX3_linkageOf_90 : decode cX3_linkageOf 90 = .ok (.iaload, 1) := by decide +kernel
theorem dX3_linkageOf_91 : decode cX3_linkageOf 91 = .ok (.iadd, 1) := by decide +kernel
theorem dX3_linkageOf_92 : decode cX3_linkageOf 92 = .ok (.istore 5, 2) := by decide +kernel
theorem dX3_linkageOf_94 : decode cX3_linkageOf 94 = .ok (.iinc 7 1, 3) := by decide +kernel
theorem dX3_linkageOf_97 : decode cX3_linkageOf 97 = .ok (.goto (-75), 3) := by decide +kernel
theorem dX3_linkageOf_100 : decode cX3_linkageOf 100 = .ok (.iinc 6 1, 3) := by decide +kernel
theorem dX3_linkageOf_103 : decode cX3_linkageOf 103 = .ok (.goto (-91), 3) := by decide +kernel
theorem dX3_linkageOf_106 : decode cX3_linkageOf 106 = .ok (.iload_n 1, 1) := by decide +kernel
theorem dX3_linkageOf_107 : decode cX3_linkageOf 107 = .ok (.invokestatic 80, 3) := by decide +kernel
theorem dX3_linkageOf_110 : decode cX3_linkageOf 110 = .ok (.iload_n 2, 1) := by decide +kernel
theorem dX3_linkageOf_111 : decode cX3_linkageOf 111 = .ok (.invokestatic 80, 3) := by decide +kernel
theorem dX3_linkageOf_114 : decode cX3_linkageOf 114 = .ok (.imul, 1) := by decide +kernel
theorem dX3_linkageOf_115 : decode cX3_linkageOf 115 = .ok (.istore 6, 2) := by decide +kernel
theorem dX3_linkageOf_117 : decode cX3_linkageOf 117 = .ok (.iload 6, 2) := by decide +kernel
theorem dX3_linkageOf_119 : decode cX3_linkageOf 119 = .ok (.ifCond .ne 5, 3) := by decide +kernel
theorem dX3_linkageOf_122 : decode cX3_linkageOf 122 = .ok (.iconst 0, 1) := by decide +kernel
theorem dX3_linkageOf_123 : decode cX3_linkageOf 123 = .ok (.ireturn, 1) := by decide +kernel
theorem dX3_linkageOf_124 : decode cX3_linkageOf 124 = .ok (.aload_n 0, 1) := by decide +kernel
theorem dX3_linkageOf_125 : decode cX3_linkageOf 125 = .ok (.getfield 15, 3) := by decide +kernel
theorem dX3_linkageOf_128 : decode cX3_linkageOf 128 = .ok (.iconst 1, 1) := by decide +kernel
theorem dX3_linkageOf_129 : decode cX3_linkageOf 129 = .ok (.if_icmp .ne 9, 3) := by decide +kernel
theorem dX3_linkageOf_132 : decode cX3_linkageOf 132 = .ok (.iload 5, 2) := by decide +kernel
theorem dX3_linkageOf_134 : decode cX3_linkageOf 134 = .ok (.iload 6, 2) := by decide +kernel
theorem dX3_linkageOf_136 : decode cX3_linkageOf 136 = .ok (.idiv, 1) := by decide +kernel
theorem dX3_linkageOf_137 : decode cX3_linkageOf 137 = .ok (.ireturn, 1) := by decide +kernel
theorem dX3_linkageOf_138 : decode cX3_linkageOf 138 = .ok (.aload_n 0, 1) := by decide +kernel
theorem dX3_linkageOf_139 : decode cX3_linkageOf 139 = .ok (.getfield 15, 3) := by decide +kernel
theorem dX3_linkageOf_142 : decode cX3_linkageOf 142 = .ok (.ifCond .ne 7, 3) := by decide +kernel
theorem dX3_linkageOf_145 : decode cX3_linkageOf 145 = .ok (.iload_n 3, 1) := by decide +kernel
theorem dX3_linkageOf_146 : decode cX3_linkageOf 146 = .ok (.goto 5, 3) := by decide +kernel
theorem dX3_linkageOf_149 : decode cX3_linkageOf 149 = .ok (.iload 4, 2) := by decide +kernel
theorem dX3_linkageOf_151 : decode cX3_linkageOf 151 = .ok (.ireturn, 1) := by decide +kernel
set_option maxHeartbeats 4000000 in
set_option maxRecDepth 100000 in
theorem mX3_linkageOf_L2 {p : Program} {l : Launch} {e : Env} {R : Room} {s : State} {m : MethodId} {args : Array Value} {below : List Frame} {meth : Method} {c : Code} {Q : State → Prop} {D : va_G} {U : zz_U} {A : Nat → Prop} {cells slots : Nat} {ad : Nat → Nat} {X : va_W} (C : zz_C p l R s m meth c D U A RX3 cX3_linkageOf 8 (some .int) [] 1) (hcR : cells ≤ R.cells) (hsR : slots ≤ R.slots) (σ : zz_St) (set_ : Int32) (otherSet_ : Int32) (a_ : Int32) : ∀ (n : Nat) (greatest_ : Int32) (least_ : Int32) (sum_ : Int32) (b_ : Int32) (q : (Int32 × Int32 × Int32 × Int32)), fX3_linkageOf_L2 σ set_ otherSet_ a_ n greatest_ least_ sum_ b_ = some q → (zz_Z p l e R s m args below meth c Q D A 8 cells slots (zz_wc U ad σ X) 100 [(0, .ref (ad 24)), (1, .int set_), (2, .int otherSet_), (3, .int q.1), (4, .int q.2.1), (5, .int q.2.2.1), (6, .int a_), (7, .int q.2.2.2)] []) → zz_Z p l e R s m args below meth c Q D A 8 cells slots (zz_wc U ad σ X) 22 [(0, .ref (ad 24)), (1, .int set_), (2, .int otherSet_), (3, .int greatest_), (4, .int least_), (5, .int sum_), (6, .int a_), (7, .int b_)] [] := by
  intro n
  induction n with
  | zero => intro greatest_ least_ sum_ b_ q hf; rw [fX3_linkageOf_L2] at hf; cases hf
  | succ n ih =>
    intro greatest_ least_ sum_ b_ q hf kx
    rw [fX3_linkageOf_L2] at hf
    obtain ⟨b2, h3, hf⟩ := zz_bind hf
    refine zz_cutI (P := b2 = true) 38 [(0, .ref (ad 24)), (1, .int set_), (2, .int otherSet_), (3, .int greatest_), (4, .int least_), (5, .int sum_), (6, .int a_), (7, .int b_)] [] (zz_wc U ad σ X) (fun g6 => ?_) (fun J4 => ?_)
    · rw [if_pos g6] at hf
      obtain ⟨x11, h12, hf⟩ := zz_bind hf
      refine zz_cut 94 [(0, .ref (ad 24)), (1, .int set_), (2, .int otherSet_), (3, .int x11.1), (4, .int x11.2.1), (5, .int x11.2.2), (6, .int a_), (7, .int b_)] [] (zz_wc U ad σ X) ?_ (fun J13 => ?_)
      · refine zz_iinc (v := (b_ + (1 : Int32))) C 7 dX3_linkageOf_94 rfl (by rfl) (by decide) (lv' := [(7, .int (b_ + (1 : Int32))), (0, .ref (ad 24)), (1, .int set_), (2, .int otherSet_), (3, .int x11.1), (4, .int x11.2.1), (5, .int x11.2.2), (6, .int a_)]) rfl ?_
        refine zz_goto (tgt := 22) C dX3_linkageOf_97 (by decide) ?_
        refine zz_sub [1, 2, 3, 4, 5, 6, 7, 0] rfl ?_
        exact ih x11.1 x11.2.1 x11.2.2 (b_ + (1 : Int32)) _ hf kx
      refine zz_iload C 7 dX3_linkageOf_38 rfl ?_
      refine zz_iload_n C 2 dX3_linkageOf_40 rfl rfl ?_
      obtain ⟨x14, h15, h12⟩ := zz_bind h12
      refine zz_callSN1 (host := "ChangeUntangler") (As := [.int b_, .int otherSet_]) (rest := []) C (mX7_isIn σ b_ otherSet_ x14 h15) dX3_linkageOf_41 rfl (by decide +kernel) zy_X7_isIn rfl (by decide) (by decide) (Nat.le_of_ble_eq_true rfl) hcR hsR rfl ?_
      refine zz_if_eq (tgt := 94) C dX3_linkageOf_44 (by decide) (fun g16 => ?_) (fun g16 => ?_)
      · rw [if_pos g16] at h12
        cases h12
        exact J13
      · rw [if_neg g16] at h12
        refine zz_iload_n C 3 dX3_linkageOf_47 rfl rfl ?_
        refine zz_aload_n C 0 dX3_linkageOf_48 rfl rfl ?_
        refine zf3_affinities C dX3_linkageOf_49 zw_51 ?_
        refine zz_iload C 6 dX3_linkageOf_52 rfl ?_
        obtain ⟨x17, h18, h12⟩ := zz_bind h12
        refine zr_26 C dX3_linkageOf_54 h18 ?_
        refine zz_iload C 7 dX3_linkageOf_55 rfl ?_
        obtain ⟨x19, h20, h12⟩ := zz_bind h12
        refine zl_26 C dX3_linkageOf_57 h18 h20 ?_
        refine zz_mmax C dX3_linkageOf_58 zw_58 zm_max_1 zm_max_2 zm_max_3 (by decide) (Nat.le_of_ble_eq_true rfl) hcR hsR ?_
        obtain ⟨x21, h22, h12⟩ := zz_bind h12
        refine zz_topi (Option.some.inj h22) ?_
        refine zz_istore_n C dX3_linkageOf_61 rfl (by decide) (lv' := [(3, .int x21), (0, .ref (ad 24)), (1, .int set_), (2, .int otherSet_), (4, .int least_), (5, .int sum_), (6, .int a_), (7, .int b_)]) rfl ?_
        refine zz_iload C 4 dX3_linkageOf_62 rfl ?_
        refine zz_aload_n C 1 dX3_linkageOf_64 rfl rfl ?_
        refine zf3_affinities C dX3_linkageOf_65 zw_51 ?_
        refine zz_iload C 6 dX3_linkageOf_68 rfl ?_
        obtain ⟨x23, h24, h12⟩ := zz_bind h12
        refine zr_26 C dX3_linkageOf_70 h24 ?_
        refine zz_iload C 7 dX3_linkageOf_71 rfl ?_
        obtain ⟨x25, h26, h12⟩ := zz_bind h12
        refine zl_26 C dX3_linkageOf_73 h24 h26 ?_
        refine zz_mmin C dX3_linkageOf_74 zw_59 zm_min_1 zm_min_2 zm_min_3 (by decide) (Nat.le_of_ble_eq_true rfl) hcR hsR ?_
        obtain ⟨x27, h28, h12⟩ := zz_bind h12
        refine zz_topi (Option.some.inj h28) ?_
        refine zz_istore C dX3_linkageOf_77 (by decide) (lv' := [(4, .int x27), (3, .int x21), (0, .ref (ad 24)), (1, .int set_), (2, .int otherSet_), (5, .int sum_), (6, .int a_), (7, .int b_)]) rfl ?_
        refine zz_iload C 5 dX3_linkageOf_79 rfl ?_
        refine zz_aload_n C 2 dX3_linkageOf_81 rfl rfl ?_
        refine zf3_affinities C dX3_linkageOf_82 zw_51 ?_
        refine zz_iload C 6 dX3_linkageOf_85 rfl ?_
        obtain ⟨x29, h30, h12⟩ := zz_bind h12
        refine zr_26 C dX3_linkageOf_87 h30 ?_
        refine zz_iload C 7 dX3_linkageOf_88 rfl ?_
        obtain ⟨x31, h32, h12⟩ := zz_bind h12
        refine zl_26 C dX3_linkageOf_90 h30 h32 ?_
        refine zz_iadd C dX3_linkageOf_91 ?_
        obtain ⟨x33, h34, h12⟩ := zz_bind h12
        refine zz_topi (Option.some.inj h34) ?_
        refine zz_istore C dX3_linkageOf_92 (by decide) (lv' := [(5, .int x33), (4, .int x27), (3, .int x21), (0, .ref (ad 24)), (1, .int set_), (2, .int otherSet_), (6, .int a_), (7, .int b_)]) rfl ?_
        refine zz_sub [3, 4, 5, 2, 1, 0, 6, 7] rfl ?_
        cases h12
        exact J13
    refine zz_cutI (P := b2 = false) 100 [(0, .ref (ad 24)), (1, .int set_), (2, .int otherSet_), (3, .int greatest_), (4, .int least_), (5, .int sum_), (6, .int a_), (7, .int b_)] [] (zz_wc U ad σ X) (fun g6 => ?_) (fun J5 => ?_)
    · rw [if_neg (show ¬ b2 = true by rw [g6]; decide)] at hf
      cases hf
      exact kx
    refine zz_iload C 7 dX3_linkageOf_22 rfl ?_
    refine zz_bipush (v := (14 : Int32)) C dX3_linkageOf_24 (by decide) ?_
    refine zz_icmp_ge (tgt := 100) C dX3_linkageOf_26 (by decide) (fun g7 => ?_) (fun g7 => ?_)
    · rw [if_pos g7] at h3
      cases h3
      exact J5 rfl
    · rw [if_neg g7] at h3
      refine zz_iload C 6 dX3_linkageOf_29 rfl ?_
      refine zz_iload_n C 1 dX3_linkageOf_31 rfl rfl ?_
      obtain ⟨x8, h9, h3⟩ := zz_bind h3
      refine zz_callSN1 (host := "ChangeUntangler") (As := [.int a_, .int set_]) (rest := []) C (mX7_isIn σ a_ set_ x8 h9) dX3_linkageOf_32 rfl (by decide +kernel) zy_X7_isIn rfl (by decide) (by decide) (Nat.le_of_ble_eq_true rfl) hcR hsR rfl ?_
      refine zz_if_eq (tgt := 100) C dX3_linkageOf_35 (by decide) (fun g10 => ?_) (fun g10 => ?_)
      · rw [if_pos g10] at h3
        cases h3
        exact J5 rfl
      · rw [if_neg g10] at h3
        cases h3
        exact J4 rfl
set_option maxHeartbeats 4000000 in
set_option maxRecDepth 100000 in
theorem mX3_linkageOf_L1 {p : Program} {l : Launch} {e : Env} {R : Room} {s : State} {m : MethodId} {args : Array Value} {below : List Frame} {meth : Method} {c : Code} {Q : State → Prop} {D : va_G} {U : zz_U} {A : Nat → Prop} {cells slots : Nat} {ad : Nat → Nat} {X : va_W} (C : zz_C p l R s m meth c D U A RX3 cX3_linkageOf 8 (some .int) [] 1) (hcR : cells ≤ R.cells) (hsR : slots ≤ R.slots) (σ : zz_St) (set_ : Int32) (otherSet_ : Int32) : ∀ (n : Nat) (greatest_ : Int32) (least_ : Int32) (sum_ : Int32) (a_ : Int32) (q : (Int32 × Int32 × Int32 × Int32)), fX3_linkageOf_L1 σ set_ otherSet_ n greatest_ least_ sum_ a_ = some q → (zz_Z p l e R s m args below meth c Q D A 8 cells slots (zz_wc U ad σ X) 106 [(0, .ref (ad 24)), (1, .int set_), (2, .int otherSet_), (3, .int q.1), (4, .int q.2.1), (5, .int q.2.2.1), (6, .int q.2.2.2)] []) → zz_Z p l e R s m args below meth c Q D A 8 cells slots (zz_wc U ad σ X) 12 [(0, .ref (ad 24)), (1, .int set_), (2, .int otherSet_), (3, .int greatest_), (4, .int least_), (5, .int sum_), (6, .int a_)] [] := by
  intro n
  induction n with
  | zero => intro greatest_ least_ sum_ a_ q hf; rw [fX3_linkageOf_L1] at hf; cases hf
  | succ n ih =>
    intro greatest_ least_ sum_ a_ q hf kx
    rw [fX3_linkageOf_L1] at hf
    refine zz_iload C 6 dX3_linkageOf_12 rfl ?_
    refine zz_bipush (v := (14 : Int32)) C dX3_linkageOf_14 (by decide) ?_
    refine zz_icmp_ge (tgt := 106) C dX3_linkageOf_16 (by decide) (fun g1 => ?_) (fun g1 => ?_)
    · rw [if_pos g1] at hf
      cases hf
      exact kx
    · rw [if_neg g1] at hf
      refine zz_iconst (v := (0 : Int32)) C dX3_linkageOf_19 (by decide) ?_
      refine zz_istore C dX3_linkageOf_20 (by decide) (lv' := [(7, .int (0 : Int32)), (0, .ref (ad 24)), (1, .int set_), (2, .int otherSet_), (3, .int greatest_), (4, .int least_), (5, .int sum_), (6, .int a_)]) rfl ?_
      obtain ⟨q35, h36, hf⟩ := zz_bind hf
      refine zz_sub [1, 2, 3, 4, 5, 6, 7, 0] rfl ?_
      refine mX3_linkageOf_L2 C hcR hsR σ set_ otherSet_ a_ 1000 greatest_ least_ sum_ (0 : Int32) q35 h36 ?_
      refine zz_iinc (v := (a_ + (1 : Int32))) C 6 dX3_linkageOf_100 rfl (by rfl) (by decide) (lv' := [(6, .int (a_ + (1 : Int32))), (0, .ref (ad 24)), (1, .int set_), (2, .int otherSet_), (3, .int q35.1), (4, .int q35.2.1), (5, .int q35.2.2.1), (7, .int q35.2.2.2)]) rfl ?_
      refine zz_goto (tgt := 12) C dX3_linkageOf_103 (by decide) ?_
      refine zz_sub [1, 2, 3, 4, 5, 6, 0] rfl ?_
      exact ih q35.1 q35.2.1 q35.2.2.1 (a_ + (1 : Int32)) _ hf kx
set_option maxHeartbeats 4000000 in
set_option maxRecDepth 100000 in
theorem mX3_linkageOf {D : va_G} {U : zz_U} {ad : Nat → Nat} {X : va_W} (σ : zz_St) (set_ : Int32) (otherSet_ : Int32) (r : Int32) (hf : fX3_linkageOf σ set_ otherSet_ = some r) : zz_Met yX3_linkageOf (.code yX3_linkageOf cX3_linkageOf 8 (some .int)) 1 0 0 D U [.ref (ad 24), .int set_, .int otherSet_] (zz_wc U ad σ X) (zz_ok (some (.int r)) (zz_wc U ad σ X)) zz_noth := by
  unfold fX3_linkageOf at hf
  refine zz_method RX3 rfl (by decide +kernel) (Nat.le_of_ble_eq_true rfl) ?_
  intro p l e s m args below meth c A _ C
  refine zz_lvs (lv1 := [(0, .ref (ad 24)), (1, .int set_), (2, .int otherSet_)]) rfl ?_
  refine zz_iconst (v := (0 : Int32)) C dX3_linkageOf_0 (by decide) ?_
  refine zz_istore_n C dX3_linkageOf_1 rfl (by decide) (lv' := [(3, .int (0 : Int32)), (0, .ref (ad 24)), (1, .int set_), (2, .int otherSet_)]) rfl ?_
  refine zz_ldc (v := (1000000 : Int32)) C dX3_linkageOf_2 zw_57 ?_
  refine zz_istore C dX3_linkageOf_4 (by decide) (lv' := [(4, .int (1000000 : Int32)), (3, .int (0 : Int32)), (0, .ref (ad 24)), (1, .int set_), (2, .int otherSet_)]) rfl ?_
  refine zz_iconst (v := (0 : Int32)) C dX3_linkageOf_6 (by decide) ?_
  refine zz_istore C dX3_linkageOf_7 (by decide) (lv' := [(5, .int (0 : Int32)), (4, .int (1000000 : Int32)), (3, .int (0 : Int32)), (0, .ref (ad 24)), (1, .int set_), (2, .int otherSet_)]) rfl ?_
  refine zz_iconst (v := (0 : Int32)) C dX3_linkageOf_9 (by decide) ?_
  refine zz_istore C dX3_linkageOf_10 (by decide) (lv' := [(6, .int (0 : Int32)), (5, .int (0 : Int32)), (4, .int (1000000 : Int32)), (3, .int (0 : Int32)), (0, .ref (ad 24)), (1, .int set_), (2, .int otherSet_)]) rfl ?_
  obtain ⟨q37, h38, hf⟩ := zz_bind hf
  refine zz_sub [4, 5, 6, 3, 2, 1, 0] rfl ?_
  refine mX3_linkageOf_L1 C (Nat.le_of_ble_eq_true rfl) (Nat.le_of_ble_eq_true rfl) σ set_ otherSet_ 1000 (0 : Int32) (1000000 : Int32) (0 : Int32) (0 : Int32) q37 h38 ?_
  refine zz_iload_n C 1 dX3_linkageOf_106 rfl rfl ?_
  obtain ⟨x39, h40, hf⟩ := zz_bind hf
  refine zz_callS1 (As := [.int set_]) (rest := []) C (mJ6_bitCount set_ x39 h40) dX3_linkageOf_107 rfl zw_61 zy_J6_bitCount_0f7a4 rfl (by decide) (by decide) (Nat.le_of_ble_eq_true rfl) (Nat.le_of_ble_eq_true rfl) (Nat.le_of_ble_eq_true rfl) rfl ?_
  refine zz_iload_n C 2 dX3_linkageOf_110 rfl rfl ?_
  obtain ⟨x41, h42, hf⟩ := zz_bind hf
  refine zz_callS1 (As := [.int otherSet_]) (rest := [.int x39]) C (mJ6_bitCount otherSet_ x41 h42) dX3_linkageOf_111 rfl zw_61 zy_J6_bitCount_0f7a4 rfl (by decide) (by decide) (Nat.le_of_ble_eq_true rfl) (Nat.le_of_ble_eq_true rfl) (Nat.le_of_ble_eq_true rfl) rfl ?_
  refine zz_imul C dX3_linkageOf_114 ?_
  obtain ⟨x43, h44, hf⟩ := zz_bind hf
  refine zz_topi (Option.some.inj h44) ?_
  refine zz_istore C dX3_linkageOf_115 (by decide) (lv' := [(6, .int x43), (0, .ref (ad 24)), (1, .int set_), (2, .int otherSet_), (3, .int q37.1), (4, .int q37.2.1), (5, .int q37.2.2.1)]) rfl ?_
  refine zz_iload C 0 dX3_linkageOf_117 rfl ?_
  refine zz_if_ne (tgt := 124) C dX3_linkageOf_119 (by decide) (fun g45 => ?_) (fun g45 => ?_)
  · rw [if_neg g45] at hf
    refine zz_aload_n C 1 dX3_linkageOf_124 rfl rfl ?_
    refine zf3_manner C dX3_linkageOf_125 zw_60 ?_
    refine zz_iconst (v := (1 : Int32)) C dX3_linkageOf_128 (by decide) ?_
    refine zz_icmp_ne (tgt := 138) C dX3_linkageOf_129 (by decide) (fun g46 => ?_) (fun g46 => ?_)
    · rw [if_neg g46] at hf
      obtain ⟨x47, h48, hf⟩ := zz_bind hf
      refine zz_cut 151 [(6, .int x43), (0, .ref (ad 24)), (1, .int set_), (2, .int otherSet_), (3, .int q37.1), (4, .int q37.2.1), (5, .int q37.2.2.1)] [.int x47] (zz_wc U ad σ X) ?_ (fun J49 => ?_)
      · cases hf
        exact zz_iret C dX3_linkageOf_151 (And.intro rfl rfl) (Nat.le_of_ble_eq_true rfl) (Nat.le_of_ble_eq_true rfl)
      refine zz_aload_n C 1 dX3_linkageOf_138 rfl rfl ?_
      refine zf3_manner C dX3_linkageOf_139 zw_60 ?_
      refine zz_if_ne (tgt := 149) C dX3_linkageOf_142 (by decide) (fun g50 => ?_) (fun g50 => ?_)
      · rw [if_neg g50] at h48
        refine zz_iload C 5 dX3_linkageOf_149 rfl ?_
        cases h48
        exact J49
      · rw [if_pos g50] at h48
        refine zz_iload_n C 4 dX3_linkageOf_145 rfl rfl ?_
        refine zz_goto (tgt := 151) C dX3_linkageOf_146 (by decide) ?_
        cases h48
        exact J49
    · rw [if_pos g46] at hf
      refine zz_iload C 6 dX3_linkageOf_132 rfl ?_
      refine zz_iload C 0 dX3_linkageOf_134 rfl ?_
      obtain ⟨x51, h52, hf⟩ := zz_bind hf
      refine zz_idiv C dX3_linkageOf_136 (zz_dv_in h52).1 ?_
      refine zz_topi (zz_dv_in h52).2 ?_
      cases hf
      exact zz_iret C dX3_linkageOf_137 (And.intro rfl rfl) (Nat.le_of_ble_eq_true rfl) (Nat.le_of_ble_eq_true rfl)
  · rw [if_pos g45] at hf
    refine zz_iconst (v := (0 : Int32)) C dX3_linkageOf_122 (by decide) ?_
    cases hf
    exact zz_iret C dX3_linkageOf_123 (And.intro rfl rfl) (Nat.le_of_ble_eq_true rfl) (Nat.le_of_ble_eq_true rfl)
theorem dX3_join_0 : decode cX3_join 0 = .ok (.aload_n 0, 1) := by decide +kernel
theorem dX3_join_1 : decode cX3_join 1 = .ok (.getfield 18, 3) := by decide +kernel
theorem dX3_join_4 : decode cX3_join 4 = .ok (.iload_n 1, 1) := by decide +kernel
theorem dX3_join_5 : decode cX3_join 5 = .ok (.dup2, 1) := by decide +kernel
theorem dX3_join_6 : decode cX3_join 6 = .ok (.iaload, 1) := by decide +kernel
theorem dX3_join_7 : decode cX3_join 7 = .ok (.aload_n 0, 1) := by decide +kernel
theorem dX3_join_8 : decode cX3_join 8 = .ok (.getfield 18, 3) := by decide +kernel
theorem dX3_join_11 : decode cX3_join 11 = .ok (.iload_n 2, 1) := by decide +kernel
theorem dX3_join_12 : decode cX3_join 12 = .ok (.iaload, 1) := by decide +kernel
theorem dX3_join_13 : decode cX3_join 13 = .ok (.ior, 1) := by decide +kernel
theorem dX3_join_14 : decode cX3_join 14 = .ok (.iastore, 1) := by decide +kernel
theorem dX3_join_15 : decode cX3_join 15 = .ok (.iload_n 2, 1) := by decide +kernel
theorem dX3_join_16 : decode cX3_join 16 = .ok (.iconst 1, 1) := by decide +kernel
theorem dX3_join_17 : decode cX3_join 17 = .ok (.iadd, 1) := by decide +kernel
theorem dX3_join_18 : decode cX3_join 18 = .ok (.istore_n 3, 1) := by decide +kernel
theorem dX3_join_19 : decode cX3_join 19 = .ok (.iload_n 3, 1) := by decide +kernel
theorem dX3_join_20 : decode cX3_join 20 = .ok (.aload_n 0, 1) := by decide +kernel
theorem dX3_join_21 : decode cX3_join 21 = .ok (.getfield 49, 3) := by decide +kernel
theorem dX3_join_24 : decode cX3_join 24 = .ok (.if_icmp .ge 23, 3) := by decide +kernel
theorem dX3_join_27 : decode cX3_join 27 = .ok (.aload_n 0, 1) := by decide +kernel
theorem dX3_join_28 : decode cX3_join 28 = .ok (.getfield 18, 3) := by decide +kernel
theorem dX3_join_31 : decode cX3_join 31 = .ok (.iload_n 3, 1) := by decide +kernel
theorem dX3_join_32 : decode cX3_join 32 = .ok (.iconst 1, 1) := by decide +kernel
theorem dX3_join_33 : decode cX3_join 33 = .ok (.isub, 1) := by decide +kernel
theorem dX3_join_34 : decode cX3_join 34 = .ok (.aload_n 0, 1) := by decide +kernel
theorem dX3_join_35 : decode cX3_join 35 = .ok (.getfield 18, 3) := by decide +kernel
theorem dX3_join_38 : decode cX3_join 38 = .ok (.iload_n 3, 1) := by decide +kernel
theorem dX3_join_39 : decode cX3_join 39 = .ok (.iaload, 1) := by decide +kernel
theorem dX3_join_40 : decode cX3_join 40 = .ok (.iastore, 1) := by decide +kernel
theorem dX3_join_41 : decode cX3_join 41 = .ok (.iinc 3 1, 3) := by decide +kernel
theorem dX3_join_44 : decode cX3_join 44 = .ok (.goto (-25), 3) := by decide +kernel
theorem dX3_join_47 : decode cX3_join 47 = .ok (.aload_n 0, 1) := by decide +kernel
theorem dX3_join_48 : decode cX3_join 48 = .ok (.dup, 1) := by decide +kernel
theorem dX3_join_49 : decode cX3_join 49 = .ok (.getfield 49, 3) := by decide +kernel
theorem dX3_join_52 : decode cX3_join 52 = .ok (.iconst 1, 1) := by decide +kernel
theorem dX3_join_53 : decode cX3_join 53 = .ok (.isub, 1) := by decide +kernel
theorem dX3_join_54 : decode cX3_join 54 = .ok (.putfield 49, 3) := by decide +kernel
theorem dX3_join_57 : decode cX3_join 57 = .ok (.return_, 1) := by decide +kernel
set_option maxHeartbeats 4000000 in
set_option maxRecDepth 100000 in
theorem mX3_join_L1 {p : Program} {l : Launch} {e : Env} {R : Room} {s : State} {m : MethodId} {args : Array Value} {below : List Frame} {meth : Method} {c : Code} {Q : State → Prop} {D : va_G} {U : zz_U} {A : Nat → Prop} {cells slots : Nat} {ad : Nat → Nat} {X : va_W} (C : zz_C p l R s m meth c D U A RX3 cX3_join 4 none [] 0) (hcR : cells ≤ R.cells) (hsR : slots ≤ R.slots) (first_ : Int32) (second_ : Int32) : ∀ (n : Nat) (later_ : Int32) (σ : zz_St) (q : (Int32 × zz_St)), fX3_join_L1 first_ second_ n later_ σ = some q → (zz_Z p l e R s m args below meth c Q D A 4 cells slots (zz_wc U ad q.2 X) 47 [(0, .ref (ad 24)), (1, .int first_), (2, .int second_), (3, .int q.1)] []) → zz_Z p l e R s m args below meth c Q D A 4 cells slots (zz_wc U ad σ X) 19 [(0, .ref (ad 24)), (1, .int first_), (2, .int second_), (3, .int later_)] [] := by
  intro n
  induction n with
  | zero => intro later_ σ q hf; rw [fX3_join_L1] at hf; cases hf
  | succ n ih =>
    intro later_ σ q hf kx
    rw [fX3_join_L1] at hf
    refine zz_iload_n C 3 dX3_join_19 rfl rfl ?_
    refine zz_aload_n C 0 dX3_join_20 rfl rfl ?_
    refine zf3_count C dX3_join_21 zw_54 ?_
    refine zz_icmp_ge (tgt := 47) C dX3_join_24 (by decide) (fun g9 => ?_) (fun g9 => ?_)
    · rw [if_pos g9] at hf
      cases hf
      exact kx
    · rw [if_neg g9] at hf
      refine zz_aload_n C 0 dX3_join_27 rfl rfl ?_
      refine zf3_sets C dX3_join_28 zw_55 ?_
      refine zz_iload_n C 3 dX3_join_31 rfl rfl ?_
      refine zz_iconst (v := (1 : Int32)) C dX3_join_32 (by decide) ?_
      refine zz_isub C dX3_join_33 ?_
      refine zz_aload_n C 0 dX3_join_34 rfl rfl ?_
      refine zf3_sets C dX3_join_35 zw_55 ?_
      refine zz_iload_n C 3 dX3_join_38 rfl rfl ?_
      obtain ⟨x10, h11, hf⟩ := zz_bind hf
      refine zl_25 C dX3_join_39 h11 ?_
      obtain ⟨σ12, h13, hf⟩ := zz_bind hf
      refine zs_25 C dX3_join_40 h13 ?_
      refine zz_iinc (v := (later_ + (1 : Int32))) C 3 dX3_join_41 rfl (by rfl) (by decide) (lv' := [(3, .int (later_ + (1 : Int32))), (0, .ref (ad 24)), (1, .int first_), (2, .int second_)]) rfl ?_
      refine zz_goto (tgt := 19) C dX3_join_44 (by decide) ?_
      refine zz_sub [1, 2, 3, 0] rfl ?_
      exact ih (later_ + (1 : Int32)) σ12 _ hf kx
set_option maxHeartbeats 4000000 in
set_option maxRecDepth 100000 in
theorem mX3_join {D : va_G} {U : zz_U} {ad : Nat → Nat} {X : va_W} (σ : zz_St) (first_ : Int32) (second_ : Int32) (r : zz_St) (hf : fX3_join σ first_ second_ = some r) : zz_Met yX3_join (.code yX3_join cX3_join 4 none) 0 0 0 D U [.ref (ad 24), .int first_, .int second_] (zz_wc U ad σ X) (zz_ok none (zz_wc U ad r X)) zz_noth := by
  unfold fX3_join at hf
  refine zz_method RX3 rfl (by decide +kernel) (Nat.le_of_ble_eq_true rfl) ?_
  intro p l e s m args below meth c A _ C
  refine zz_lvs (lv1 := [(0, .ref (ad 24)), (1, .int first_), (2, .int second_)]) rfl ?_
  refine zz_aload_n C 0 dX3_join_0 rfl rfl ?_
  refine zf3_sets C dX3_join_1 zw_55 ?_
  refine zz_iload_n C 1 dX3_join_4 rfl rfl ?_
  refine zz_dup2_11 C dX3_join_5 rfl rfl ?_
  obtain ⟨x1, h2, hf⟩ := zz_bind hf
  refine zl_25 C dX3_join_6 h2 ?_
  refine zz_aload_n C 0 dX3_join_7 rfl rfl ?_
  refine zf3_sets C dX3_join_8 zw_55 ?_
  refine zz_iload_n C 2 dX3_join_11 rfl rfl ?_
  obtain ⟨x3, h4, hf⟩ := zz_bind hf
  refine zl_25 C dX3_join_12 h4 ?_
  refine zz_ior C dX3_join_13 ?_
  obtain ⟨σ5, h6, hf⟩ := zz_bind hf
  refine zs_25 C dX3_join_14 h6 ?_
  refine zz_iload_n C 2 dX3_join_15 rfl rfl ?_
  refine zz_iconst (v := (1 : Int32)) C dX3_join_16 (by decide) ?_
  refine zz_iadd C dX3_join_17 ?_
  obtain ⟨x7, h8, hf⟩ := zz_bind hf
  refine zz_topi (Option.some.inj h8) ?_
  refine zz_istore_n C dX3_join_18 rfl (by decide) (lv' := [(3, .int x7), (0, .ref (ad 24)), (1, .int first_), (2, .int second_)]) rfl ?_
  obtain ⟨q14, h15, hf⟩ := zz_bind hf
  refine zz_sub [1, 2, 3, 0] rfl ?_
  refine mX3_join_L1 C (Nat.le_of_ble_eq_true rfl) (Nat.le_of_ble_eq_true rfl) first_ second_ 1000 x7 σ5 q14 h15 ?_
  refine zz_aload_n C 0 dX3_join_47 rfl rfl ?_
  refine zz_dup C dX3_join_48 rfl ?_
  refine zf3_count C dX3_join_49 zw_54 ?_
  refine zz_iconst (v := (1 : Int32)) C dX3_join_52 (by decide) ?_
  refine zz_isub C dX3_join_53 ?_
  refine zp3_count C dX3_join_54 zw_54 ?_
  cases hf
  exact zz_vret C dX3_join_57 (And.intro rfl rfl) (Nat.le_of_ble_eq_true rfl) (Nat.le_of_ble_eq_true rfl)
theorem dX3_joinNearest_0 : decode cX3_joinNearest 0 = .ok (.iconst (-1), 1) := by decide +kernel
theorem dX3_joinNearest_1 : decode cX3_joinNearest 1 = .ok (.istore_n 2, 1) := by decide +kernel
theorem dX3_joinNearest_2 : decode cX3_joinNearest 2 = .ok (.iconst 0, 1) := by decide +kernel
theorem dX3_joinNearest_3 : decode cX3_joinNearest 3 = .ok (.istore_n 3, 1) := by decide +kernel
theorem dX3_joinNearest_4 : decode cX3_joinNearest 4 = .ok (.iconst 0, 1) := by decide +kernel
theorem dX3_joinNearest_5 : decode cX3_joinNearest 5 = .ok (.istore 4, 2) := by decide +kernel
theorem dX3_joinNearest_7 : decode cX3_joinNearest 7 = .ok (.iconst 0, 1) := by decide +kernel
theorem dX3_joinNearest_8 : decode cX3_joinNearest 8 = .ok (.istore 5, 2) := by decide +kernel
theorem dX3_joinNearest_10 : decode cX3_joinNearest 10 = .ok (.iload 5, 2) := by decide +kernel
theorem dX3_joinNearest_12 : decode cX3_joinNearest 12 = .ok (.aload_n 0, 1) := by decide +kernel
theorem dX3_joinNearest_13 : decode cX3_joinNearest 13 = .ok (.getfield 49, 3) := by decide +kernel
theorem dX3_joinNearest_16 : decode cX3_joinNearest 16 = .ok (.if_icmp .ge 91, 3) := by decide +kernel
theorem dX3_joinNearest_19 : decode cX3_joinNearest 19 = .ok (.iload 5, 2) := by decide +kernel
theorem dX3_joinNearest_21 : decode cX3_joinNearest 21 = .ok (.iconst 1, 1) := by decide +kernel
theorem dX3_joinNearest_22 : decode cX3_joinNearest 22 = .ok (.iadd, 1) := by decide +kernel
theorem dX3_joinNearest_23 : decode cX3_joinNearest 23 = .ok (.istore 6, 2) := by decide +kernel
theorem dX3_joinNearest_25 : decode cX3_joinNearest 25 = .ok (.iload 6, 2) := by decide +kernel
theorem dX3_joinNearest_27 : decode cX3_joinNearest 27 = .ok (.aload_n 0, 1) := by decide +kernel
theorem dX3_joinNearest_28 : decode cX3_joinNearest 28 = .ok (.getfield 49, 3) := by decide +kernel
theorem dX3_joinNearest_31 : decode cX3_joinNearest 31 = .ok (.if_icmp .ge 70, 3) := by decide +kernel
theorem dX3_joinNearest_34 : decode cX3_joinNearest 34 = .ok (.aload_n 1, 1) := by decide +kernel
theorem dX3_joinNearest_35 : decode cX3_joinNearest 35 = .ok (.aload_n 0, 1) := by decide +kernel
theorem dX3_joinNearest_36 : decode cX3_joinNearest 36 = .ok (.getfield 18, 3) := by decide +kernel
theorem dX3_joinNearest_39 : decode cX3_joinNearest 39 = .ok (.iload 5, 2) := by decide +kernel
theorem dX3_joinNearest_41 : decode cX3_joinNearest 41 = .ok (.iaload, 1) := by decide +kernel
theorem dX3_joinNearest_42 : decode cX3_joinNearest 42 = .ok (.aload_n 0, 1) := by decide +kernel
theorem dX3_joinNearest_43 : decode cX3_joinNearest 43 = .ok (.getfield 18, 3) := by decide +kernel
theorem dX3_joinNearest_46 : decode cX3_joinNearest 46 = .ok (.iload 6, 2) := by decide +kernel
theorem dX3_joinNearest_48 : decode cX3_joinNearest 48 = .ok (.iaload, 1) := by decide +kernel
theorem dX3_joinNearest_49 : decode cX3_joinNearest 49 = .ok (.invokevirtual 56, 3) := by decide +kernel
theorem dX3_joinNearest_52 : decode cX3_joinNearest 52 = .ok (.ifCond .eq 7, 3) := by decide +kernel
theorem dX3_joinNearest_55 : decode cX3_joinNearest 55 = .ok (.iconst (-1), 1) := by decide +kernel
theorem dX3_joinNearest_56 : decode cX3_joinNearest 56 = .ok (.goto 21, 3) := by decide +kernel
theorem dX3_joinNearest_59 : decode cX3_joinNearest 59 = .ok (.aload_n 0, 1) := by decide +kernel
theorem dX3_joinNearest_60 : decode cX3_joinNearest 60 = .ok (.aload_n 0, 1) := by decide +kernel
theorem dX3_joinNearest_61 : decode cX3_joinNearest 61 = .ok (.getfield 18, 3) := by decide +kernel
theorem dX3_joinNearest_64 : decode cX3_joinNearest 64 = .ok (.iload 5, 2) := by decide +kernel
theorem dX3_joinNearest_66 : decode cX3_joinNearest 66 = .ok (.iaload, 1) := by decide +kernel
theorem dX3_joinNearest_67 : decode cX3_joinNearest 67 = .ok (.aload_n 0, 1) := by decide +kernel
theorem dX3_joinNearest_68 : decode cX3_joinNearest 68 = .ok (.getfield 18, 3) := by decide +kernel
theorem dX3_joinNearest_71 : decode cX3_joinNearest 71 = .ok (.iload 6, 2) := by decide +kernel
theorem dX3_joinNearest_73 : decode cX3_joinNearest 73 = .ok (.iaload, 1) := by decide +kernel
theorem dX3_joinNearest_74 : decode cX3_joinNearest 74 = .ok (.invokevirtual 60, 3) := by decide +kernel
theorem dX3_joinNearest_77 : decode cX3_joinNearest 77 = .ok (.istore 7, 2) := by decide +kernel
theorem dX3_joinNearest_79 : decode cX3_joinNearest 79 = .ok (.iload 7, 2) := by decide +kernel
theorem dX3_joinNearest_81 : decode cX3_joinNearest 81 = .ok (.iload_n 2, 1) := by decide +kernel
theorem dX3_joinNearest_82 : decode cX3_joinNearest 82 = .ok (.if_icmp .le 13, 3) := by decide +kernel
theorem dX3_joinNearest_85 : decode cX3_joinNearest 85 = .ok (.iload 7, 2) := by decide +kernel
theorem dX3_joinNearest_87 : decode cX3_joinNearest 87 = .ok (.istore_n 2, 1) := by decide +kernel
theorem dX3_joinNearest_88 : decode cX3_joinNearest 88 = .ok (.iload 5, 2) := by decide +kernel
theorem dX3_joinNearest_90 : decode cX3_joinNearest 90 = .ok (.istore_n 3, 1) := by decide +kernel
theorem dX3_joinNearest_91 : decode cX3_joinNearest 91 = .ok (.iload 6, 2) := by decide +kernel
theorem dX3_joinNearest_93 : decode cX3_joinNearest 93 = .ok (.istore 4, 2) := by decide +kernel
theorem dX3_joinNearest_95 : decode cX3_joinNearest 95 = .ok (.iinc 6 1, 3) := by decide +kernel
theorem dX3_joinNearest_98 : decode cX3_joinNearest 98 = .ok (.goto (-73), 3) := by decide +kernel
theorem dX3_joinNearest_101 : decode cX3_joinNearest 101 = .ok (.iinc 5 1, 3) := by decide +kernel
theorem dX3_joinNearest_104 : decode cX3_joinNearest 104 = .ok (.goto (-94), 3) := by decide +kernel
theorem dX3_joinNearest_107 : decode cX3_joinNearest 107 = .ok (.iload_n 2, 1) := by decide +kernel
theorem dX3_joinNearest_108 : decode cX3_joinNearest 108 = .ok (.aload_n 0, 1) := by decide +kernel
theorem dX3_joinNearest_109 : decode cX3_joinNearest 109 = .ok (.getfield 9, 3) := by decide +kernel
theorem dX3_joinNearest_112 : decode cX3_joinNearest 112 = .ok (.if_icmp .ge 5, 3) := by decide +kernel
theorem dX3_joinNearest_115 : decode cX3_joinNearest 115 = .ok (.iconst 0, 1) := by decide +kernel
theorem dX3_joinNearest_116 : decode cX3_joinNearest 116 = .ok (.ireturn, 1) := by decide +kernel
theorem dX3_joinNearest_117 : decode cX3_joinNearest 117 = .ok (.aload_n 0, 1) := by decide +kernel
theorem dX3_joinNearest_118 : decode cX3_joinNearest 118 = .ok (.iload_n 3, 1) := by decide +kernel
theorem dX3_joinNearest_119 : decode cX3_joinNearest 119 = .ok (.iload 4, 2) := by decide +kernel
theorem dX3_joinNearest_121 : decode cX3_joinNearest 121 = .ok (.invokevirtual 64, 3) := by decide +kernel
theorem dX3_joinNearest_124 : decode cX3_joinNearest 124 = .ok (.aload_n 0, 1) := by decide +kernel
theorem dX3_joinNearest_125 : decode cX3_joinNearest 125 = .ok (.iload_n 2, 1) := by decide +kernel
theorem dX3_joinNearest_126 : decode cX3_joinNearest 126 = .ok (.putfield 42, 3) := by decide +kernel
theorem dX3_joinNearest_129 : decode cX3_joinNearest 129 = .ok (.iconst 1, 1) := by decide +kernel
theorem dX3_joinNearest_130 : decode cX3_joinNearest 130 = .ok (.ireturn, 1) := by decide +kernel
set_option maxHeartbeats 4000000 in
set_option maxRecDepth 100000 in
theorem mX3_joinNearest_L2 {p : Program} {l : Launch} {e : Env} {R : Room} {s : State} {m : MethodId} {args : Array Value} {below : List Frame} {meth : Method} {c : Code} {Q : State → Prop} {D : va_G} {U : zz_U} {A : Nat → Prop} {cells slots : Nat} {ad : Nat → Nat} {X : va_W} (C : zz_C p l R s m meth c D U A RX3 cX3_joinNearest 8 (some .boolean) [] 2) (hcR : cells ≤ R.cells) (hsR : slots ≤ R.slots) (σ : zz_St) (a_ : Int32) : ∀ (n : Nat) (greatest_ : Int32) (first_ : Int32) (second_ : Int32) (b_ : Int32) (q : (Int32 × Int32 × Int32 × Int32)), fX3_joinNearest_L2 σ a_ n greatest_ first_ second_ b_ = some q → (zz_Z p l e R s m args below meth c Q D A 8 cells slots (zz_wc U ad σ X) 101 [(0, .ref (ad 24)), (1, .ref (ad 21)), (2, .int q.1), (3, .int q.2.1), (4, .int q.2.2.1), (5, .int a_), (6, .int q.2.2.2)] []) → zz_Z p l e R s m args below meth c Q D A 8 cells slots (zz_wc U ad σ X) 25 [(0, .ref (ad 24)), (1, .ref (ad 21)), (2, .int greatest_), (3, .int first_), (4, .int second_), (5, .int a_), (6, .int b_)] [] := by
  intro n
  induction n with
  | zero => intro greatest_ first_ second_ b_ q hf; rw [fX3_joinNearest_L2] at hf; cases hf
  | succ n ih =>
    intro greatest_ first_ second_ b_ q hf kx
    rw [fX3_joinNearest_L2] at hf
    refine zz_iload C 6 dX3_joinNearest_25 rfl ?_
    refine zz_aload_n C 0 dX3_joinNearest_27 rfl rfl ?_
    refine zf3_count C dX3_joinNearest_28 zw_54 ?_
    refine zz_icmp_ge (tgt := 101) C dX3_joinNearest_31 (by decide) (fun g4 => ?_) (fun g4 => ?_)
    · rw [if_pos g4] at hf
      cases hf
      exact kx
    · rw [if_neg g4] at hf
      obtain ⟨x5, h6, hf⟩ := zz_bind hf
      refine zz_cut 77 [(0, .ref (ad 24)), (1, .ref (ad 21)), (2, .int greatest_), (3, .int first_), (4, .int second_), (5, .int a_), (6, .int b_)] [.int x5] (zz_wc U ad σ X) ?_ (fun J7 => ?_)
      · refine zz_istore C dX3_joinNearest_77 (by decide) (lv' := [(7, .int x5), (0, .ref (ad 24)), (1, .ref (ad 21)), (2, .int greatest_), (3, .int first_), (4, .int second_), (5, .int a_), (6, .int b_)]) rfl ?_
        obtain ⟨x21, h22, hf⟩ := zz_bind hf
        refine zz_cut 95 [(0, .ref (ad 24)), (1, .ref (ad 21)), (2, .int x21.1), (3, .int x21.2.1), (4, .int x21.2.2), (5, .int a_), (6, .int b_), (7, .int x5)] [] (zz_wc U ad σ X) ?_ (fun J23 => ?_)
        · refine zz_iinc (v := (b_ + (1 : Int32))) C 6 dX3_joinNearest_95 rfl (by rfl) (by decide) (lv' := [(6, .int (b_ + (1 : Int32))), (0, .ref (ad 24)), (1, .ref (ad 21)), (2, .int x21.1), (3, .int x21.2.1), (4, .int x21.2.2), (5, .int a_), (7, .int x5)]) rfl ?_
          refine zz_goto (tgt := 25) C dX3_joinNearest_98 (by decide) ?_
          refine zz_sub [1, 2, 3, 4, 5, 6, 0] rfl ?_
          exact ih x21.1 x21.2.1 x21.2.2 (b_ + (1 : Int32)) _ hf kx
        refine zz_iload C 0 dX3_joinNearest_79 rfl ?_
        refine zz_iload_n C 3 dX3_joinNearest_81 rfl rfl ?_
        refine zz_icmp_le (tgt := 95) C dX3_joinNearest_82 (by decide) (fun g24 => ?_) (fun g24 => ?_)
        · rw [if_pos g24] at h22
          refine zz_sub [1, 2, 3, 4, 5, 6, 7, 0] rfl ?_
          cases h22
          exact J23
        · rw [if_neg g24] at h22
          refine zz_iload C 0 dX3_joinNearest_85 rfl ?_
          refine zz_istore_n C dX3_joinNearest_87 rfl (by decide) (lv' := [(2, .int x5), (7, .int x5), (0, .ref (ad 24)), (1, .ref (ad 21)), (3, .int first_), (4, .int second_), (5, .int a_), (6, .int b_)]) rfl ?_
          refine zz_iload C 6 dX3_joinNearest_88 rfl ?_
          refine zz_istore_n C dX3_joinNearest_90 rfl (by decide) (lv' := [(3, .int a_), (2, .int x5), (7, .int x5), (0, .ref (ad 24)), (1, .ref (ad 21)), (4, .int second_), (5, .int a_), (6, .int b_)]) rfl ?_
          refine zz_iload C 7 dX3_joinNearest_91 rfl ?_
          refine zz_istore C dX3_joinNearest_93 (by decide) (lv' := [(4, .int b_), (3, .int a_), (2, .int x5), (7, .int x5), (0, .ref (ad 24)), (1, .ref (ad 21)), (5, .int a_), (6, .int b_)]) rfl ?_
          refine zz_sub [4, 5, 2, 1, 0, 6, 7, 3] rfl ?_
          cases h22
          exact J23
      refine zz_aload_n C 1 dX3_joinNearest_34 rfl rfl ?_
      refine zz_aload_n C 0 dX3_joinNearest_35 rfl rfl ?_
      refine zf3_sets C dX3_joinNearest_36 zw_55 ?_
      refine zz_iload C 5 dX3_joinNearest_39 rfl ?_
      obtain ⟨x8, h9, h6⟩ := zz_bind h6
      refine zl_25 C dX3_joinNearest_41 h9 ?_
      refine zz_aload_n C 0 dX3_joinNearest_42 rfl rfl ?_
      refine zf3_sets C dX3_joinNearest_43 zw_55 ?_
      refine zz_iload C 6 dX3_joinNearest_46 rfl ?_
      obtain ⟨x10, h11, h6⟩ := zz_bind h6
      refine zl_25 C dX3_joinNearest_48 h11 ?_
      obtain ⟨x12, h13, h6⟩ := zz_bind h6
      refine zz_callV1 (As := [.int x8, .int x10]) (rest := []) C 21 (mX6_isForbidden σ x8 x10 x12 h13) dX3_joinNearest_49 rfl rfl rfl zw_63 zy_X6_isForbidden rfl (by decide) (by decide) (Nat.le_of_ble_eq_true rfl) hcR hsR rfl ?_
      refine zz_if_eq (tgt := 59) C dX3_joinNearest_52 (by decide) (fun g14 => ?_) (fun g14 => ?_)
      · rw [if_pos g14] at h6
        refine zz_aload_n C 0 dX3_joinNearest_59 rfl rfl ?_
        refine zz_aload_n C 0 dX3_joinNearest_60 rfl rfl ?_
        refine zf3_sets C dX3_joinNearest_61 zw_55 ?_
        refine zz_iload C 5 dX3_joinNearest_64 rfl ?_
        obtain ⟨x15, h16, h6⟩ := zz_bind h6
        refine zl_25 C dX3_joinNearest_66 h16 ?_
        refine zz_aload_n C 0 dX3_joinNearest_67 rfl rfl ?_
        refine zf3_sets C dX3_joinNearest_68 zw_55 ?_
        refine zz_iload C 6 dX3_joinNearest_71 rfl ?_
        obtain ⟨x17, h18, h6⟩ := zz_bind h6
        refine zl_25 C dX3_joinNearest_73 h18 ?_
        obtain ⟨x19, h20, h6⟩ := zz_bind h6
        refine zz_callV1 (As := [.int x15, .int x17]) (rest := []) C 24 (mX3_linkageOf σ x15 x17 x19 h20) dX3_joinNearest_74 rfl rfl rfl zw_62 zy_X3_linkageOf rfl (by decide) (by decide) (Nat.le_of_ble_eq_true rfl) hcR hsR rfl ?_
        cases h6
        exact J7
      · rw [if_neg g14] at h6
        refine zz_iconst (v := (-1 : Int32)) C dX3_joinNearest_55 (by decide) ?_
        refine zz_goto (tgt := 77) C dX3_joinNearest_56 (by decide) ?_
        cases h6
        exact J7
set_option maxHeartbeats 4000000 in
set_option maxRecDepth 100000 in
theorem mX3_joinNearest_L1 {p : Program} {l : Launch} {e : Env} {R : Room} {s : State} {m : MethodId} {args : Array Value} {below : List Frame} {meth : Method} {c : Code} {Q : State → Prop} {D : va_G} {U : zz_U} {A : Nat → Prop} {cells slots : Nat} {ad : Nat → Nat} {X : va_W} (C : zz_C p l R s m meth c D U A RX3 cX3_joinNearest 8 (some .boolean) [] 2) (hcR : cells ≤ R.cells) (hsR : slots ≤ R.slots) (σ : zz_St) : ∀ (n : Nat) (greatest_ : Int32) (first_ : Int32) (second_ : Int32) (a_ : Int32) (q : (Int32 × Int32 × Int32 × Int32)), fX3_joinNearest_L1 σ n greatest_ first_ second_ a_ = some q → (zz_Z p l e R s m args below meth c Q D A 8 cells slots (zz_wc U ad σ X) 107 [(0, .ref (ad 24)), (1, .ref (ad 21)), (2, .int q.1), (3, .int q.2.1), (4, .int q.2.2.1), (5, .int q.2.2.2)] []) → zz_Z p l e R s m args below meth c Q D A 8 cells slots (zz_wc U ad σ X) 10 [(0, .ref (ad 24)), (1, .ref (ad 21)), (2, .int greatest_), (3, .int first_), (4, .int second_), (5, .int a_)] [] := by
  intro n
  induction n with
  | zero => intro greatest_ first_ second_ a_ q hf; rw [fX3_joinNearest_L1] at hf; cases hf
  | succ n ih =>
    intro greatest_ first_ second_ a_ q hf kx
    rw [fX3_joinNearest_L1] at hf
    refine zz_iload C 5 dX3_joinNearest_10 rfl ?_
    refine zz_aload_n C 0 dX3_joinNearest_12 rfl rfl ?_
    refine zf3_count C dX3_joinNearest_13 zw_54 ?_
    refine zz_icmp_ge (tgt := 107) C dX3_joinNearest_16 (by decide) (fun g1 => ?_) (fun g1 => ?_)
    · rw [if_pos g1] at hf
      cases hf
      exact kx
    · rw [if_neg g1] at hf
      refine zz_iload C 5 dX3_joinNearest_19 rfl ?_
      refine zz_iconst (v := (1 : Int32)) C dX3_joinNearest_21 (by decide) ?_
      refine zz_iadd C dX3_joinNearest_22 ?_
      obtain ⟨x2, h3, hf⟩ := zz_bind hf
      refine zz_topi (Option.some.inj h3) ?_
      refine zz_istore C dX3_joinNearest_23 (by decide) (lv' := [(6, .int x2), (0, .ref (ad 24)), (1, .ref (ad 21)), (2, .int greatest_), (3, .int first_), (4, .int second_), (5, .int a_)]) rfl ?_
      obtain ⟨q25, h26, hf⟩ := zz_bind hf
      refine zz_sub [1, 2, 3, 4, 5, 6, 0] rfl ?_
      refine mX3_joinNearest_L2 C hcR hsR σ a_ 1000 greatest_ first_ second_ x2 q25 h26 ?_
      refine zz_iinc (v := (a_ + (1 : Int32))) C 5 dX3_joinNearest_101 rfl (by rfl) (by decide) (lv' := [(5, .int (a_ + (1 : Int32))), (0, .ref (ad 24)), (1, .ref (ad 21)), (2, .int q25.1), (3, .int q25.2.1), (4, .int q25.2.2.1), (6, .int q25.2.2.2)]) rfl ?_
      refine zz_goto (tgt := 10) C dX3_joinNearest_104 (by decide) ?_
      refine zz_sub [1, 2, 3, 4, 5, 0] rfl ?_
      exact ih q25.1 q25.2.1 q25.2.2.1 (a_ + (1 : Int32)) _ hf kx
set_option maxHeartbeats 4000000 in
set_option maxRecDepth 100000 in
theorem mX3_joinNearest {D : va_G} {U : zz_U} {ad : Nat → Nat} {X : va_W} (σ : zz_St) (r : (Int32 × zz_St)) (hf : fX3_joinNearest σ = some r) : zz_Met yX3_joinNearest (.code yX3_joinNearest cX3_joinNearest 8 (some .boolean)) 2 0 0 D U [.ref (ad 24), .ref (ad 21)] (zz_wc U ad σ X) (zz_ok (some (.int r.1)) (zz_wc U ad r.2 X)) zz_noth := by
  unfold fX3_joinNearest at hf
  refine zz_method RX3 rfl (by decide +kernel) (Nat.le_of_ble_eq_true rfl) ?_
  intro p l e s m args below meth c A _ C
  refine zz_lvs (lv1 := [(0, .ref (ad 24)), (1, .ref (ad 21))]) rfl ?_
  refine zz_iconst (v := (-1 : Int32)) C dX3_joinNearest_0 (by decide) ?_
  refine zz_istore_n C dX3_joinNearest_1 rfl (by decide) (lv' := [(2, .int (-1 : Int32)), (0, .ref (ad 24)), (1, .ref (ad 21))]) rfl ?_
  refine zz_iconst (v := (0 : Int32)) C dX3_joinNearest_2 (by decide) ?_
  refine zz_istore_n C dX3_joinNearest_3 rfl (by decide) (lv' := [(3, .int (0 : Int32)), (2, .int (-1 : Int32)), (0, .ref (ad 24)), (1, .ref (ad 21))]) rfl ?_
  refine zz_iconst (v := (0 : Int32)) C dX3_joinNearest_4 (by decide) ?_
  refine zz_istore C dX3_joinNearest_5 (by decide) (lv' := [(4, .int (0 : Int32)), (3, .int (0 : Int32)), (2, .int (-1 : Int32)), (0, .ref (ad 24)), (1, .ref (ad 21))]) rfl ?_
  refine zz_iconst (v := (0 : Int32)) C dX3_joinNearest_7 (by decide) ?_
  refine zz_istore C dX3_joinNearest_8 (by decide) (lv' := [(5, .int (0 : Int32)), (4, .int (0 : Int32)), (3, .int (0 : Int32)), (2, .int (-1 : Int32)), (0, .ref (ad 24)), (1, .ref (ad 21))]) rfl ?_
  obtain ⟨q27, h28, hf⟩ := zz_bind hf
  refine zz_sub [4, 5, 3, 2, 1, 0] rfl ?_
  refine mX3_joinNearest_L1 C (Nat.le_of_ble_eq_true rfl) (Nat.le_of_ble_eq_true rfl) σ 1000 (-1 : Int32) (0 : Int32) (0 : Int32) (0 : Int32) q27 h28 ?_
  refine zz_iload_n C 2 dX3_joinNearest_107 rfl rfl ?_
  refine zz_aload_n C 0 dX3_joinNearest_108 rfl rfl ?_
  refine zf3_threshold C dX3_joinNearest_109 zw_66 ?_
  refine zz_icmp_ge (tgt := 117) C dX3_joinNearest_112 (by decide) (fun g29 => ?_) (fun g29 => ?_)
  · rw [if_pos g29] at hf
    refine zz_aload_n C 0 dX3_joinNearest_117 rfl rfl ?_
    refine zz_iload_n C 3 dX3_joinNearest_118 rfl rfl ?_
    refine zz_iload C 4 dX3_joinNearest_119 rfl ?_
    obtain ⟨x30, h31, hf⟩ := zz_bind hf
    refine zz_callV1 (As := [.int q27.2.1, .int q27.2.2.1]) (rest := []) C 24 (mX3_join σ q27.2.1 q27.2.2.1 x30 h31) dX3_joinNearest_121 rfl rfl rfl zw_65 zy_X3_join rfl (by decide) (by decide) (Nat.le_of_ble_eq_true rfl) (Nat.le_of_ble_eq_true rfl) (Nat.le_of_ble_eq_true rfl) rfl ?_
    refine zz_aload_n C 0 dX3_joinNearest_124 rfl rfl ?_
    refine zz_iload_n C 2 dX3_joinNearest_125 rfl rfl ?_
    refine zp3_linkageOfLastJoin C dX3_joinNearest_126 zw_64 ?_
    refine zz_iconst (v := (1 : Int32)) C dX3_joinNearest_129 (by decide) ?_
    cases hf
    exact zz_zret C dX3_joinNearest_130 (Or.inr rfl) (And.intro rfl rfl) (Nat.le_of_ble_eq_true rfl) (Nat.le_of_ble_eq_true rfl)
  · rw [if_neg g29] at hf
    refine zz_iconst (v := (0 : Int32)) C dX3_joinNearest_115 (by decide) ?_
    cases hf
    exact zz_zret C dX3_joinNearest_116 (Or.inl rfl) (And.intro rfl rfl) (Nat.le_of_ble_eq_true rfl) (Nat.le_of_ble_eq_true rfl)
theorem dX3_build_0 : decode cX3_build 0 = .ok (.aload_n 0, 1) := by decide +kernel
theorem dX3_build_1 : decode cX3_build 1 = .ok (.iload_n 1, 1) := by decide +kernel
theorem dX3_build_2 : decode cX3_build 2 = .ok (.aload_n 2, 1) := by decide +kernel
theorem dX3_build_3 : decode cX3_build 3 = .ok (.invokevirtual 38, 3) := by decide +kernel
theorem dX3_build_6 : decode cX3_build 6 = .ok (.aload_n 0, 1) := by decide +kernel
theorem dX3_build_7 : decode cX3_build 7 = .ok (.iconst (-1), 1) := by decide +kernel
theorem dX3_build_8 : decode cX3_build 8 = .ok (.putfield 42, 3) := by decide +kernel
theorem dX3_build_11 : decode cX3_build 11 = .ok (.iconst 1, 1) := by decide +kernel
theorem dX3_build_12 : decode cX3_build 12 = .ok (.istore_n 3, 1) := by decide +kernel
theorem dX3_build_13 : decode cX3_build 13 = .ok (.iconst 0, 1) := by decide +kernel
theorem dX3_build_14 : decode cX3_build 14 = .ok (.istore 4, 2) := by decide +kernel
theorem dX3_build_16 : decode cX3_build 16 = .ok (.iload 4, 2) := by decide +kernel
theorem dX3_build_18 : decode cX3_build 18 = .ok (.bipush 14, 2) := by decide +kernel
theorem dX3_build_20 : decode cX3_build 20 = .ok (.if_icmp .ge 19, 3) := by decide +kernel
theorem dX3_build_23 : decode cX3_build 23 = .ok (.iload_n 3, 1) := by decide +kernel
theorem dX3_build_24 : decode cX3_build 24 = .ok (.ifCond .eq 15, 3) := by decide +kernel
theorem dX3_build_27 : decode cX3_build 27 = .ok (.aload_n 0, 1) := by decide +kernel
theorem dX3_build_28 : decode cX3_build 28 = .ok (.aload_n 2, 1) := by decide +kernel
theorem dX3_build_29 : decode cX3_build 29 = .ok (.invokevirtual 45, 3) := by decide +kernel
theorem dX3_build_32 : decode cX3_build 32 = .ok (.istore_n 3, 1) := by decide +kernel
theorem dX3_build_33 : decode cX3_build 33 = .ok (.iinc 4 1, 3) := by decide +kernel
theorem dX3_build_36 : decode cX3_build 36 = .ok (.goto (-20), 3) := by decide +kernel
theorem dX3_build_39 : decode cX3_build 39 = .ok (.return_, 1) := by decide +kernel
set_option maxHeartbeats 4000000 in
set_option maxRecDepth 100000 in
theorem mX3_build_L1 {p : Program} {l : Launch} {e : Env} {R : Room} {s : State} {m : MethodId} {args : Array Value} {below : List Frame} {meth : Method} {c : Code} {Q : State → Prop} {D : va_G} {U : zz_U} {A : Nat → Prop} {cells slots : Nat} {ad : Nat → Nat} {X : va_W} (C : zz_C p l R s m meth c D U A RX3 cX3_build 5 none [] 3) (hcR : cells ≤ R.cells) (hsR : slots ≤ R.slots) (pieceTotal_ : Int32) : ∀ (n : Nat) (isJoined_ : Int32) (round_ : Int32) (σ : zz_St) (q : (Int32 × Int32 × zz_St)), fX3_build_L1 pieceTotal_ n isJoined_ round_ σ = some q → (zz_Z p l e R s m args below meth c Q D A 5 cells slots (zz_wc U ad q.2.2 X) 39 [(0, .ref (ad 24)), (1, .int pieceTotal_), (2, .ref (ad 21)), (3, .int q.1), (4, .int q.2.1)] []) → zz_Z p l e R s m args below meth c Q D A 5 cells slots (zz_wc U ad σ X) 16 [(0, .ref (ad 24)), (1, .int pieceTotal_), (2, .ref (ad 21)), (3, .int isJoined_), (4, .int round_)] [] := by
  intro n
  induction n with
  | zero => intro isJoined_ round_ σ q hf; rw [fX3_build_L1] at hf; cases hf
  | succ n ih =>
    intro isJoined_ round_ σ q hf kx
    rw [fX3_build_L1] at hf
    obtain ⟨b3, h4, hf⟩ := zz_bind hf
    refine zz_cutI (P := b3 = true) 27 [(0, .ref (ad 24)), (1, .int pieceTotal_), (2, .ref (ad 21)), (3, .int isJoined_), (4, .int round_)] [] (zz_wc U ad σ X) (fun g7 => ?_) (fun J5 => ?_)
    · rw [if_pos g7] at hf
      refine zz_aload_n C 0 dX3_build_27 rfl rfl ?_
      refine zz_aload_n C 2 dX3_build_28 rfl rfl ?_
      obtain ⟨x10, h11, hf⟩ := zz_bind hf
      refine zz_callV1 (As := [.ref (ad 21)]) (rest := []) C 24 (mX3_joinNearest σ x10 h11) dX3_build_29 rfl rfl rfl zw_67 zy_X3_joinNearest rfl (by decide) (by decide) (Nat.le_of_ble_eq_true rfl) hcR hsR rfl ?_
      refine zz_istore_n C dX3_build_32 rfl (by decide) (lv' := [(3, .int x10.1), (0, .ref (ad 24)), (1, .int pieceTotal_), (2, .ref (ad 21)), (4, .int round_)]) rfl ?_
      refine zz_iinc (v := (round_ + (1 : Int32))) C 4 dX3_build_33 rfl (by rfl) (by decide) (lv' := [(4, .int (round_ + (1 : Int32))), (3, .int x10.1), (0, .ref (ad 24)), (1, .int pieceTotal_), (2, .ref (ad 21))]) rfl ?_
      refine zz_goto (tgt := 16) C dX3_build_36 (by decide) ?_
      refine zz_sub [2, 3, 4, 1, 0] rfl ?_
      exact ih x10.1 (round_ + (1 : Int32)) x10.2 _ hf kx
    refine zz_cutI (P := b3 = false) 39 [(0, .ref (ad 24)), (1, .int pieceTotal_), (2, .ref (ad 21)), (3, .int isJoined_), (4, .int round_)] [] (zz_wc U ad σ X) (fun g7 => ?_) (fun J6 => ?_)
    · rw [if_neg (show ¬ b3 = true by rw [g7]; decide)] at hf
      cases hf
      exact kx
    refine zz_iload C 4 dX3_build_16 rfl ?_
    refine zz_bipush (v := (14 : Int32)) C dX3_build_18 (by decide) ?_
    refine zz_icmp_ge (tgt := 39) C dX3_build_20 (by decide) (fun g8 => ?_) (fun g8 => ?_)
    · rw [if_pos g8] at h4
      cases h4
      exact J6 rfl
    · rw [if_neg g8] at h4
      refine zz_iload_n C 3 dX3_build_23 rfl rfl ?_
      refine zz_if_eq (tgt := 39) C dX3_build_24 (by decide) (fun g9 => ?_) (fun g9 => ?_)
      · rw [if_pos g9] at h4
        cases h4
        exact J6 rfl
      · rw [if_neg g9] at h4
        cases h4
        exact J5 rfl
set_option maxHeartbeats 4000000 in
set_option maxRecDepth 100000 in
theorem mX3_build {D : va_G} {U : zz_U} {ad : Nat → Nat} {X : va_W} (σ : zz_St) (pieceTotal_ : Int32) (r : zz_St) (hf : fX3_build σ pieceTotal_ = some r) : zz_Met yX3_build (.code yX3_build cX3_build 5 none) 3 0 0 D U [.ref (ad 24), .int pieceTotal_, .ref (ad 21)] (zz_wc U ad σ X) (zz_ok none (zz_wc U ad r X)) zz_noth := by
  unfold fX3_build at hf
  refine zz_method RX3 rfl (by decide +kernel) (Nat.le_of_ble_eq_true rfl) ?_
  intro p l e s m args below meth c A _ C
  refine zz_lvs (lv1 := [(0, .ref (ad 24)), (1, .int pieceTotal_), (2, .ref (ad 21))]) rfl ?_
  refine zz_aload_n C 0 dX3_build_0 rfl rfl ?_
  refine zz_iload_n C 1 dX3_build_1 rfl rfl ?_
  refine zz_aload_n C 2 dX3_build_2 rfl rfl ?_
  obtain ⟨x1, h2, hf⟩ := zz_bind hf
  refine zz_callV1 (As := [.int pieceTotal_, .ref (ad 21)]) (rest := []) C 24 (mX3_joinWhatMust σ pieceTotal_ x1 h2) dX3_build_3 rfl rfl rfl zw_68 zy_X3_joinWhatMust rfl (by decide) (by decide) (Nat.le_of_ble_eq_true rfl) (Nat.le_of_ble_eq_true rfl) (Nat.le_of_ble_eq_true rfl) rfl ?_
  refine zz_aload_n C 0 dX3_build_6 rfl rfl ?_
  refine zz_iconst (v := (-1 : Int32)) C dX3_build_7 (by decide) ?_
  refine zp3_linkageOfLastJoin C dX3_build_8 zw_64 ?_
  refine zz_iconst (v := (1 : Int32)) C dX3_build_11 (by decide) ?_
  refine zz_istore_n C dX3_build_12 rfl (by decide) (lv' := [(3, .int (1 : Int32)), (0, .ref (ad 24)), (1, .int pieceTotal_), (2, .ref (ad 21))]) rfl ?_
  refine zz_iconst (v := (0 : Int32)) C dX3_build_13 (by decide) ?_
  refine zz_istore C dX3_build_14 (by decide) (lv' := [(4, .int (0 : Int32)), (3, .int (1 : Int32)), (0, .ref (ad 24)), (1, .int pieceTotal_), (2, .ref (ad 21))]) rfl ?_
  obtain ⟨q12, h13, hf⟩ := zz_bind hf
  refine zz_sub [2, 3, 4, 1, 0] rfl ?_
  refine mX3_build_L1 C (Nat.le_of_ble_eq_true rfl) (Nat.le_of_ble_eq_true rfl) pieceTotal_ 1000 (1 : Int32) (0 : Int32) (zz_u x1 24 3 (-1 : Int32)) q12 h13 ?_
  cases hf
  exact zz_vret C dX3_build_39 (And.intro rfl rfl) (Nat.le_of_ble_eq_true rfl) (Nat.le_of_ble_eq_true rfl)
theorem dX5_isNeeded_0 : decode cX5_isNeeded 0 = .ok (.aload_n 0, 1) := by decide +kernel
theorem dX5_isNeeded_1 : decode cX5_isNeeded 1 = .ok (.getfield 29, 3) := by decide +kernel
theorem dX5_isNeeded_4 : decode cX5_isNeeded 4 = .ok (.iconst 2, 1) := by decide +kernel
theorem dX5_isNeeded_5 : decode cX5_isNeeded 5 = .ok (.aaload, 1) := by decide +kernel
theorem dX5_isNeeded_6 : decode cX5_isNeeded 6 = .ok (.iload_n 1, 1) := by decide +kernel
theorem dX5_isNeeded_7 : decode cX5_isNeeded 7 = .ok (.iaload, 1) := by decide +kernel
theorem dX5_isNeeded_8 : decode cX5_isNeeded 8 = .ok (.aload_n 0, 1) := by decide +kernel
theorem dX5_isNeeded_9 : decode cX5_isNeeded 9 = .ok (.getfield 29, 3) := by decide +kernel
theorem dX5_isNeeded_12 : decode cX5_isNeeded 12 = .ok (.iconst 0, 1) := by decide +kernel
theorem dX5_isNeeded_13 : decode cX5_isNeeded 13 = .ok (.aaload, 1) := by decide +kernel
theorem dX5_isNeeded_14 : decode cX5_isNeeded 14 = .ok (.iload_n 2, 1) := by decide +kernel
theorem dX5_isNeeded_15 : decode cX5_isNeeded 15 = .ok (.iaload, 1) := by decide +kernel
theorem dX5_isNeeded_16 : decode cX5_isNeeded 16 = .ok (.iand, 1) := by decide +kernel
theorem dX5_isNeeded_17 : decode cX5_isNeeded 17 = .ok (.iload_n 3, 1) := by decide +kernel
theorem dX5_isNeeded_18 : decode cX5_isNeeded 18 = .ok (.iconst (-1), 1) := by decide +kernel
theorem dX5_isNeeded_19 : decode cX5_isNeeded 19 = .ok (.ixor, 1) := by decide +kernel
theorem dX5_isNeeded_20 : decode cX5_isNeeded 20 = .ok (.iand, 1) := by decide +kernel
theorem dX5_isNeeded_21 : decode cX5_isNeeded 21 = .ok (.istore 4, 2) := by decide +kernel
theorem dX5_isNeeded_23 : decode cX5_isNeeded 23 = .ok (.aload_n 0, 1) := by decide +kernel
theorem dX5_isNeeded_24 : decode cX5_isNeeded 24 = .ok (.getfield 29, 3) := by decide +kernel
theorem dX5_isNeeded_27 : decode cX5_isNeeded 27 = .ok (.iconst 1, 1) := by decide +kernel
theorem dX5_isNeeded_28 : decode cX5_isNeeded 28 = .ok (.aaload, 1) := by decide +kernel
theorem dX5_isNeeded_29 : decode cX5_isNeeded 29 = .ok (.iload_n 1, 1) := by decide +kernel
theorem dX5_isNeeded_30 : decode cX5_isNeeded 30 = .ok (.iaload, 1) := by decide +kernel
theorem dX5_isNeeded_31 : decode cX5_isNeeded 31 = .ok (.aload_n 0, 1) := by decide +kernel
theorem dX5_isNeeded_32 : decode cX5_isNeeded 32 = .ok (.getfield 29, 3) := by decide +kernel
theorem dX5_isNeeded_35 : decode cX5_isNeeded 35 = .ok (.iconst 3, 1) := by decide +kernel
theorem dX5_isNeeded_36 : decode cX5_isNeeded 36 = .ok (.aaload, 1) := by decide +kernel
theorem dX5_isNeeded_37 : decode cX5_isNeeded 37 = .ok (.iload_n 2, 1) := by decide +kernel
theorem dX5_isNeeded_38 : decode cX5_isNeeded 38 = .ok (.iaload, 1) := by decide +kernel
theorem dX5_isNeeded_39 : decode cX5_isNeeded 39 = .ok (.iand, 1) := by decide +kernel
theorem dX5_isNeeded_40 : decode cX5_isNeeded 40 = .ok (.istore 5, 2) := by decide +kernel
theorem dX5_isNeeded_42 : decode cX5_isNeeded 42 = .ok (.aload_n 0, 1) := by decide +kernel
theorem dX5_isNeeded_43 : decode cX5_isNeeded 43 = .ok (.getfield 29, 3) := by decide +kernel
theorem dX5_isNeeded_46 : decode cX5_isNeeded 46 = .ok (.iconst 0, 1) := by decide +kernel
theorem dX5_isNeeded_47 : decode cX5_isNeeded 47 = .ok (.aaload, 1) := by decide +kernel
theorem dX5_isNeeded_48 : decode cX5_isNeeded 48 = .ok (.iload_n 1, 1) := by decide +kernel
theorem dX5_isNeeded_49 : decode cX5_isNeeded 49 = .ok (.iaload, 1) := by decide +kernel
theorem dX5_isNeeded_50 : decode cX5_isNeeded 50 = .ok (.aload_n 0, 1) := by decide +kernel
theorem dX5_isNeeded_51 : decode cX5_isNeeded 51 = .ok (.getfield 29, 3) := by decide +kernel
theorem dX5_isNeeded_54 : decode cX5_isNeeded 54 = .ok (.iconst 1, 1) := by decide +kernel
theorem dX5_isNeeded_55 : decode cX5_isNeeded 55 = .ok (.aaload, 1) := by decide +kernel
theorem dX5_isNeeded_56 : decode cX5_isNeeded 56 = .ok (.iload_n 2, 1) := by decide +kernel
theorem dX5_isNeeded_57 : decode cX5_isNeeded 57 = .ok (.iaload, 1) := by decide +kernel
theorem dX5_isNeeded_58 : decode cX5_isNeeded 58 = .ok (.iand, 1) := by decide +kernel
theorem dX5_isNeeded_59 : decode cX5_isNeeded 59 = .ok (.istore 6, 2) := by decide +kernel
theorem dX5_isNeeded_61 : decode cX5_isNeeded 61 = .ok (.iload 4, 2) := by decide +kernel
theorem dX5_isNeeded_63 : decode cX5_isNeeded 63 = .ok (.iload 5, 2) := by decide +kernel
theorem dX5_isNeeded_65 : decode cX5_isNeeded 65 = .ok (.ior, 1) := by decide +kernel
theorem dX5_isNeeded_66 : decode cX5_isNeeded 66 = .ok (.iload 6, 2) := by decide +kernel
theorem dX5_isNeeded_68 : decode cX5_isNeeded 68 = .ok (.ior, 1) := by decide +kernel
theorem dX5_isNeeded_69 : decode cX5_isNeeded 69 = .ok (.ifCond .eq 7, 3) := by decide +kernel
theorem dX5_isNeeded_72 : decode cX5_isNeeded 72 = .ok (.iconst 1, 1) := by decide +kernel
theorem dX5_isNeeded_73 : decode cX5_isNeeded 73 = .ok (.goto 4, 3) := by decide +kernel
theorem dX5_isNeeded_76 : decode cX5_isNeeded 76 = .ok (.iconst 0, 1) := by decide +kernel
theorem dX5_isNeeded_77 : decode cX5_isNeeded 77 = .ok (.ireturn, 1) := by decide +kernel
set_option maxHeartbeats 4000000 in
set_option maxRecDepth 100000 in
theorem mX5_isNeeded {D : va_G} {U : zz_U} {ad : Nat → Nat} {X : va_W} (σ : zz_St) (piece_ : Int32) (ahead_ : Int32) (definedNames_ : Int32) (r : Int32) (hf : fX5_isNeeded σ piece_ ahead_ definedNames_ = some r) : zz_Met yX5_isNeeded (.code yX5_isNeeded cX5_isNeeded 7 (some .boolean)) 0 0 0 D U [.ref (ad 1), .int piece_, .int ahead_, .int definedNames_] (zz_wc U ad σ X) (zz_ok (some (.int r)) (zz_wc U ad σ X)) zz_noth := by
  unfold fX5_isNeeded at hf
  refine zz_method RX5 rfl (by decide +kernel) (Nat.le_of_ble_eq_true rfl) ?_
  intro p l e s m args below meth c A _ C
  refine zz_lvs (lv1 := [(0, .ref (ad 1)), (1, .int piece_), (2, .int ahead_), (3, .int definedNames_)]) rfl ?_
  refine zz_aload_n C 0 dX5_isNeeded_0 rfl rfl ?_
  refine zf5_namesOf C dX5_isNeeded_1 zw_17 ?_
  refine zz_iconst (v := (2 : Int32)) C dX5_isNeeded_4 (by decide) ?_
  obtain ⟨x1, h2, hf⟩ := zz_bind hf
  refine zr_7 C dX5_isNeeded_5 h2 ?_
  refine zz_iload_n C 1 dX5_isNeeded_6 rfl rfl ?_
  obtain ⟨x3, h4, hf⟩ := zz_bind hf
  refine zl_7 C dX5_isNeeded_7 h2 h4 ?_
  refine zz_aload_n C 0 dX5_isNeeded_8 rfl rfl ?_
  refine zf5_namesOf C dX5_isNeeded_9 zw_17 ?_
  refine zz_iconst (v := (0 : Int32)) C dX5_isNeeded_12 (by decide) ?_
  obtain ⟨x5, h6, hf⟩ := zz_bind hf
  refine zr_7 C dX5_isNeeded_13 h6 ?_
  refine zz_iload_n C 2 dX5_isNeeded_14 rfl rfl ?_
  obtain ⟨x7, h8, hf⟩ := zz_bind hf
  refine zl_7 C dX5_isNeeded_15 h6 h8 ?_
  refine zz_iand C dX5_isNeeded_16 ?_
  refine zz_iload_n C 3 dX5_isNeeded_17 rfl rfl ?_
  refine zz_iconst (v := (-1 : Int32)) C dX5_isNeeded_18 (by decide) ?_
  refine zz_ixor C dX5_isNeeded_19 ?_
  refine zz_iand C dX5_isNeeded_20 ?_
  obtain ⟨x9, h10, hf⟩ := zz_bind hf
  refine zz_topi (Option.some.inj h10) ?_
  refine zz_istore C dX5_isNeeded_21 (by decide) (lv' := [(4, .int x9), (0, .ref (ad 1)), (1, .int piece_), (2, .int ahead_), (3, .int definedNames_)]) rfl ?_
  refine zz_aload_n C 1 dX5_isNeeded_23 rfl rfl ?_
  refine zf5_namesOf C dX5_isNeeded_24 zw_17 ?_
  refine zz_iconst (v := (1 : Int32)) C dX5_isNeeded_27 (by decide) ?_
  obtain ⟨x11, h12, hf⟩ := zz_bind hf
  refine zr_7 C dX5_isNeeded_28 h12 ?_
  refine zz_iload_n C 2 dX5_isNeeded_29 rfl rfl ?_
  obtain ⟨x13, h14, hf⟩ := zz_bind hf
  refine zl_7 C dX5_isNeeded_30 h12 h14 ?_
  refine zz_aload_n C 1 dX5_isNeeded_31 rfl rfl ?_
  refine zf5_namesOf C dX5_isNeeded_32 zw_17 ?_
  refine zz_iconst (v := (3 : Int32)) C dX5_isNeeded_35 (by decide) ?_
  obtain ⟨x15, h16, hf⟩ := zz_bind hf
  refine zr_7 C dX5_isNeeded_36 h16 ?_
  refine zz_iload_n C 3 dX5_isNeeded_37 rfl rfl ?_
  obtain ⟨x17, h18, hf⟩ := zz_bind hf
  refine zl_7 C dX5_isNeeded_38 h16 h18 ?_
  refine zz_iand C dX5_isNeeded_39 ?_
  obtain ⟨x19, h20, hf⟩ := zz_bind hf
  refine zz_topi (Option.some.inj h20) ?_
  refine zz_istore C dX5_isNeeded_40 (by decide) (lv' := [(5, .int x19), (4, .int x9), (0, .ref (ad 1)), (1, .int piece_), (2, .int ahead_), (3, .int definedNames_)]) rfl ?_
  refine zz_aload_n C 2 dX5_isNeeded_42 rfl rfl ?_
  refine zf5_namesOf C dX5_isNeeded_43 zw_17 ?_
  refine zz_iconst (v := (0 : Int32)) C dX5_isNeeded_46 (by decide) ?_
  obtain ⟨x21, h22, hf⟩ := zz_bind hf
  refine zr_7 C dX5_isNeeded_47 h22 ?_
  refine zz_iload_n C 3 dX5_isNeeded_48 rfl rfl ?_
  obtain ⟨x23, h24, hf⟩ := zz_bind hf
  refine zl_7 C dX5_isNeeded_49 h22 h24 ?_
  refine zz_aload_n C 2 dX5_isNeeded_50 rfl rfl ?_
  refine zf5_namesOf C dX5_isNeeded_51 zw_17 ?_
  refine zz_iconst (v := (1 : Int32)) C dX5_isNeeded_54 (by decide) ?_
  obtain ⟨x25, h26, hf⟩ := zz_bind hf
  refine zr_7 C dX5_isNeeded_55 h26 ?_
  refine zz_iload_n C 4 dX5_isNeeded_56 rfl rfl ?_
  obtain ⟨x27, h28, hf⟩ := zz_bind hf
  refine zl_7 C dX5_isNeeded_57 h26 h28 ?_
  refine zz_iand C dX5_isNeeded_58 ?_
  obtain ⟨x29, h30, hf⟩ := zz_bind hf
  refine zz_topi (Option.some.inj h30) ?_
  refine zz_istore C dX5_isNeeded_59 (by decide) (lv' := [(6, .int x29), (5, .int x19), (4, .int x9), (0, .ref (ad 1)), (1, .int piece_), (2, .int ahead_), (3, .int definedNames_)]) rfl ?_
  obtain ⟨b31, h32, hf⟩ := zz_bind hf
  refine zz_cut 77 [(6, .int x29), (5, .int x19), (4, .int x9), (0, .ref (ad 1)), (1, .int piece_), (2, .int ahead_), (3, .int definedNames_)] [.int (zz_bi b31)] (zz_wc U ad σ X) ?_ (fun J33 => ?_)
  · cases hf
    exact zz_zret C dX5_isNeeded_77 (zz_bi01 _) (And.intro rfl rfl) (Nat.le_of_ble_eq_true rfl) (Nat.le_of_ble_eq_true rfl)
  refine zz_iload C 2 dX5_isNeeded_61 rfl ?_
  refine zz_iload C 1 dX5_isNeeded_63 rfl ?_
  refine zz_ior C dX5_isNeeded_65 ?_
  refine zz_iload C 0 dX5_isNeeded_66 rfl ?_
  refine zz_ior C dX5_isNeeded_68 ?_
  refine zz_if_eq (tgt := 76) C dX5_isNeeded_69 (by decide) (fun g34 => ?_) (fun g34 => ?_)
  · rw [if_pos g34] at h32
    refine zz_iconst (v := 0) C dX5_isNeeded_76 (by decide) ?_
    cases h32
    exact J33
  · rw [if_neg g34] at h32
    refine zz_iconst (v := 1) C dX5_isNeeded_72 (by decide) ?_
    refine zz_goto (tgt := 77) C dX5_isNeeded_73 (by decide) ?_
    cases h32
    exact J33
theorem dX5_neededBy_0 : decode cX5_neededBy 0 = .ok (.iconst 0, 1) := by decide +kernel
theorem dX5_neededBy_1 : decode cX5_neededBy 1 = .ok (.istore_n 3, 1) := by decide +kernel
theorem dX5_neededBy_2 : decode cX5_neededBy 2 = .ok (.iconst 0, 1) := by decide +kernel
theorem dX5_neededBy_3 : decode cX5_neededBy 3 = .ok (.istore 4, 2) := by decide +kernel
theorem dX5_neededBy_5 : decode cX5_neededBy 5 = .ok (.iload 4, 2) := by decide +kernel
theorem dX5_neededBy_7 : decode cX5_neededBy 7 = .ok (.aload_n 0, 1) := by decide +kernel
theorem dX5_neededBy_8 : decode cX5_neededBy 8 = .ok (.getfield 35, 3) := by decide +kernel
theorem dX5_neededBy_11 : decode cX5_neededBy 11 = .ok (.if_icmp .ge 62, 3) := by decide +kernel
theorem dX5_neededBy_14 : decode cX5_neededBy 14 = .ok (.iconst 0, 1) := by decide +kernel
theorem dX5_neededBy_15 : decode cX5_neededBy 15 = .ok (.istore 5, 2) := by decide +kernel
theorem dX5_neededBy_17 : decode cX5_neededBy 17 = .ok (.iload 5, 2) := by decide +kernel
theorem dX5_neededBy_19 : decode cX5_neededBy 19 = .ok (.aload_n 0, 1) := by decide +kernel
theorem dX5_neededBy_20 : decode cX5_neededBy 20 = .ok (.getfield 35, 3) := by decide +kernel
theorem dX5_neededBy_23 : decode cX5_neededBy 23 = .ok (.if_icmp .ge 44, 3) := by decide +kernel
theorem dX5_neededBy_26 : decode cX5_neededBy 26 = .ok (.iload 4, 2) := by decide +kernel
theorem dX5_neededBy_28 : decode cX5_neededBy 28 = .ok (.iload_n 1, 1) := by decide +kernel
theorem dX5_neededBy_29 : decode cX5_neededBy 29 = .ok (.invokestatic 49, 3) := by decide +kernel
theorem dX5_neededBy_32 : decode cX5_neededBy 32 = .ok (.ifCond .eq 35, 3) := by decide +kernel
theorem dX5_neededBy_35 : decode cX5_neededBy 35 = .ok (.iload 5, 2) := by decide +kernel
theorem dX5_neededBy_37 : decode cX5_neededBy 37 = .ok (.iload 4, 2) := by decide +kernel
theorem dX5_neededBy_39 : decode cX5_neededBy 39 = .ok (.if_icmp .eq 22, 3) := by decide +kernel
theorem dX5_neededBy_42 : decode cX5_neededBy 42 = .ok (.aload_n 0, 1) := by decide +kernel
theorem dX5_neededBy_43 : decode cX5_neededBy 43 = .ok (.iload 4, 2) := by decide +kernel
theorem dX5_neededBy_45 : decode cX5_neededBy 45 = .ok (.iload 5, 2) := by decide +kernel
theorem dX5_neededBy_47 : decode cX5_neededBy 47 = .ok (.iload_n 2, 1) := by decide +kernel
theorem dX5_neededBy_48 : decode cX5_neededBy 48 = .ok (.invokevirtual 53, 3) := by decide +kernel
theorem dX5_neededBy_51 : decode cX5_neededBy 51 = .ok (.ifCond .eq 10, 3) := by decide +kernel
theorem dX5_neededBy_54 : decode cX5_neededBy 54 = .ok (.iload_n 3, 1) := by decide +kernel
theorem dX5_neededBy_55 : decode cX5_neededBy 55 = .ok (.iconst 1, 1) := by decide +kernel
theorem dX5_neededBy_56 : decode cX5_neededBy 56 = .ok (.iload 5, 2) := by decide +kernel
theorem dX5_neededBy_58 : decode cX5_neededBy 58 = .ok (.ishl, 1) := by decide +kernel
theorem dX5_neededBy_59 : decode cX5_neededBy 59 = .ok (.ior, 1) := by decide +kernel
theorem dX5_neededBy_60 : decode cX5_neededBy 60 = .ok (.istore_n 3, 1) := by decide +kernel
theorem dX5_neededBy_61 : decode cX5_neededBy 61 = .ok (.iinc 5 1, 3) := by decide +kernel
theorem dX5_neededBy_64 : decode cX5_neededBy 64 = .ok (.goto (-47), 3) := by decide +kernel
theorem dX5_neededBy_67 : decode cX5_neededBy 67 = .ok (.iinc 4 1, 3) := by decide +kernel
theorem dX5_neededBy_70 : decode cX5_neededBy 70 = .ok (.goto (-65), 3) := by decide +kernel
theorem dX5_neededBy_73 : decode cX5_neededBy 73 = .ok (.iload_n 3, 1) := by decide +kernel
theorem dX5_neededBy_74 : decode cX5_neededBy 74 = .ok (.ireturn, 1) := by decide +kernel
set_option maxHeartbeats 4000000 in
set_option maxRecDepth 100000 in
theorem mX5_neededBy_L2 {p : Program} {l : Launch} {e : Env} {R : Room} {s : State} {m : MethodId} {args : Array Value} {below : List Frame} {meth : Method} {c : Code} {Q : State → Prop} {D : va_G} {U : zz_U} {A : Nat → Prop} {cells slots : Nat} {ad : Nat → Nat} {X : va_W} (C : zz_C p l R s m meth c D U A RX5 cX5_neededBy 6 (some .int) [] 1) (hcR : cells ≤ R.cells) (hsR : slots ≤ R.slots) (σ : zz_St) (set_ : Int32) (definedNames_ : Int32) (piece_ : Int32) : ∀ (n : Nat) (needed_ : Int32) (ahead_ : Int32) (q : (Int32 × Int32)), fX5_neededBy_L2 σ set_ definedNames_ piece_ n needed_ ahead_ = some q → (zz_Z p l e R s m args below meth c Q D A 6 cells slots (zz_wc U ad σ X) 67 [(0, .ref (ad 1)), (1, .int set_), (2, .int definedNames_), (3, .int q.1), (4, .int piece_), (5, .int q.2)] []) → zz_Z p l e R s m args below meth c Q D A 6 cells slots (zz_wc U ad σ X) 17 [(0, .ref (ad 1)), (1, .int set_), (2, .int definedNames_), (3, .int needed_), (4, .int piece_), (5, .int ahead_)] [] := by
  intro n
  induction n with
  | zero => intro needed_ ahead_ q hf; rw [fX5_neededBy_L2] at hf; cases hf
  | succ n ih =>
    intro needed_ ahead_ q hf kx
    rw [fX5_neededBy_L2] at hf
    obtain ⟨b2, h3, hf⟩ := zz_bind hf
    refine zz_cutI (P := b2 = true) 35 [(0, .ref (ad 1)), (1, .int set_), (2, .int definedNames_), (3, .int needed_), (4, .int piece_), (5, .int ahead_)] [] (zz_wc U ad σ X) (fun g6 => ?_) (fun J4 => ?_)
    · rw [if_pos g6] at hf
      obtain ⟨x11, h12, hf⟩ := zz_bind hf
      refine zz_cut 61 [(0, .ref (ad 1)), (1, .int set_), (2, .int definedNames_), (3, .int x11), (4, .int piece_), (5, .int ahead_)] [] (zz_wc U ad σ X) ?_ (fun J13 => ?_)
      · refine zz_iinc (v := (ahead_ + (1 : Int32))) C 5 dX5_neededBy_61 rfl (by rfl) (by decide) (lv' := [(5, .int (ahead_ + (1 : Int32))), (0, .ref (ad 1)), (1, .int set_), (2, .int definedNames_), (3, .int x11), (4, .int piece_)]) rfl ?_
        refine zz_goto (tgt := 17) C dX5_neededBy_64 (by decide) ?_
        refine zz_sub [1, 2, 3, 4, 5, 0] rfl ?_
        exact ih x11 (ahead_ + (1 : Int32)) _ hf kx
      obtain ⟨b14, h15, h12⟩ := zz_bind h12
      refine zz_cutI (P := b14 = true) 54 [(0, .ref (ad 1)), (1, .int set_), (2, .int definedNames_), (3, .int needed_), (4, .int piece_), (5, .int ahead_)] [] (zz_wc U ad σ X) (fun g18 => ?_) (fun J16 => ?_)
      · rw [if_pos g18] at h12
        refine zz_iload_n C 3 dX5_neededBy_54 rfl rfl ?_
        refine zz_iconst (v := (1 : Int32)) C dX5_neededBy_55 (by decide) ?_
        refine zz_iload C 5 dX5_neededBy_56 rfl ?_
        refine zz_ishl C dX5_neededBy_58 ?_
        refine zz_ior C dX5_neededBy_59 ?_
        obtain ⟨x23, h24, h12⟩ := zz_bind h12
        refine zz_topi (Option.some.inj h24) ?_
        refine zz_istore_n C dX5_neededBy_60 rfl (by decide) (lv' := [(3, .int x23), (0, .ref (ad 1)), (1, .int set_), (2, .int definedNames_), (4, .int piece_), (5, .int ahead_)]) rfl ?_
        refine zz_sub [1, 2, 3, 0, 4, 5] rfl ?_
        cases h12
        exact J13
      refine zz_cutI (P := b14 = false) 61 [(0, .ref (ad 1)), (1, .int set_), (2, .int definedNames_), (3, .int needed_), (4, .int piece_), (5, .int ahead_)] [] (zz_wc U ad σ X) (fun g18 => ?_) (fun J17 => ?_)
      · rw [if_neg (show ¬ b14 = true by rw [g18]; decide)] at h12
        cases h12
        exact J13
      refine zz_iload C 5 dX5_neededBy_35 rfl ?_
      refine zz_iload C 4 dX5_neededBy_37 rfl ?_
      refine zz_icmp_eq (tgt := 61) C dX5_neededBy_39 (by decide) (fun g19 => ?_) (fun g19 => ?_)
      · rw [if_pos g19] at h15
        cases h15
        exact J17 rfl
      · rw [if_neg g19] at h15
        refine zz_aload_n C 0 dX5_neededBy_42 rfl rfl ?_
        refine zz_iload C 4 dX5_neededBy_43 rfl ?_
        refine zz_iload C 5 dX5_neededBy_45 rfl ?_
        refine zz_iload_n C 2 dX5_neededBy_47 rfl rfl ?_
        obtain ⟨x20, h21, h15⟩ := zz_bind h15
        refine zz_callV1 (As := [.int piece_, .int ahead_, .int definedNames_]) (rest := []) C 1 (mX5_isNeeded σ piece_ ahead_ definedNames_ x20 h21) dX5_neededBy_48 rfl rfl rfl zw_69 zy_X5_isNeeded rfl (by decide) (by decide) (Nat.le_of_ble_eq_true rfl) hcR hsR rfl ?_
        refine zz_if_eq (tgt := 61) C dX5_neededBy_51 (by decide) (fun g22 => ?_) (fun g22 => ?_)
        · rw [if_pos g22] at h15
          cases h15
          exact J17 rfl
        · rw [if_neg g22] at h15
          cases h15
          exact J16 rfl
    refine zz_cutI (P := b2 = false) 67 [(0, .ref (ad 1)), (1, .int set_), (2, .int definedNames_), (3, .int needed_), (4, .int piece_), (5, .int ahead_)] [] (zz_wc U ad σ X) (fun g6 => ?_) (fun J5 => ?_)
    · rw [if_neg (show ¬ b2 = true by rw [g6]; decide)] at hf
      cases hf
      exact kx
    refine zz_iload C 5 dX5_neededBy_17 rfl ?_
    refine zz_aload_n C 0 dX5_neededBy_19 rfl rfl ?_
    refine zf5_count C dX5_neededBy_20 zw_3 ?_
    refine zz_icmp_ge (tgt := 67) C dX5_neededBy_23 (by decide) (fun g7 => ?_) (fun g7 => ?_)
    · rw [if_pos g7] at h3
      cases h3
      exact J5 rfl
    · rw [if_neg g7] at h3
      refine zz_iload C 4 dX5_neededBy_26 rfl ?_
      refine zz_iload_n C 1 dX5_neededBy_28 rfl rfl ?_
      obtain ⟨x8, h9, h3⟩ := zz_bind h3
      refine zz_callSN1 (host := "ChangeUntangler") (As := [.int piece_, .int set_]) (rest := []) C (mX7_isIn σ piece_ set_ x8 h9) dX5_neededBy_29 rfl (by decide +kernel) zy_X7_isIn rfl (by decide) (by decide) (Nat.le_of_ble_eq_true rfl) hcR hsR rfl ?_
      refine zz_if_eq (tgt := 67) C dX5_neededBy_32 (by decide) (fun g10 => ?_) (fun g10 => ?_)
      · rw [if_pos g10] at h3
        cases h3
        exact J5 rfl
      · rw [if_neg g10] at h3
        cases h3
        exact J4 rfl
set_option maxHeartbeats 4000000 in
set_option maxRecDepth 100000 in
theorem mX5_neededBy_L1 {p : Program} {l : Launch} {e : Env} {R : Room} {s : State} {m : MethodId} {args : Array Value} {below : List Frame} {meth : Method} {c : Code} {Q : State → Prop} {D : va_G} {U : zz_U} {A : Nat → Prop} {cells slots : Nat} {ad : Nat → Nat} {X : va_W} (C : zz_C p l R s m meth c D U A RX5 cX5_neededBy 6 (some .int) [] 1) (hcR : cells ≤ R.cells) (hsR : slots ≤ R.slots) (σ : zz_St) (set_ : Int32) (definedNames_ : Int32) : ∀ (n : Nat) (needed_ : Int32) (piece_ : Int32) (q : (Int32 × Int32)), fX5_neededBy_L1 σ set_ definedNames_ n needed_ piece_ = some q → (zz_Z p l e R s m args below meth c Q D A 6 cells slots (zz_wc U ad σ X) 73 [(0, .ref (ad 1)), (1, .int set_), (2, .int definedNames_), (3, .int q.1), (4, .int q.2)] []) → zz_Z p l e R s m args below meth c Q D A 6 cells slots (zz_wc U ad σ X) 5 [(0, .ref (ad 1)), (1, .int set_), (2, .int definedNames_), (3, .int needed_), (4, .int piece_)] [] := by
  intro n
  induction n with
  | zero => intro needed_ piece_ q hf; rw [fX5_neededBy_L1] at hf; cases hf
  | succ n ih =>
    intro needed_ piece_ q hf kx
    rw [fX5_neededBy_L1] at hf
    refine zz_iload C 4 dX5_neededBy_5 rfl ?_
    refine zz_aload_n C 0 dX5_neededBy_7 rfl rfl ?_
    refine zf5_count C dX5_neededBy_8 zw_3 ?_
    refine zz_icmp_ge (tgt := 73) C dX5_neededBy_11 (by decide) (fun g1 => ?_) (fun g1 => ?_)
    · rw [if_pos g1] at hf
      cases hf
      exact kx
    · rw [if_neg g1] at hf
      refine zz_iconst (v := (0 : Int32)) C dX5_neededBy_14 (by decide) ?_
      refine zz_istore C dX5_neededBy_15 (by decide) (lv' := [(5, .int (0 : Int32)), (0, .ref (ad 1)), (1, .int set_), (2, .int definedNames_), (3, .int needed_), (4, .int piece_)]) rfl ?_
      obtain ⟨q25, h26, hf⟩ := zz_bind hf
      refine zz_sub [1, 2, 3, 4, 5, 0] rfl ?_
      refine mX5_neededBy_L2 C hcR hsR σ set_ definedNames_ piece_ 1000 needed_ (0 : Int32) q25 h26 ?_
      refine zz_iinc (v := (piece_ + (1 : Int32))) C 4 dX5_neededBy_67 rfl (by rfl) (by decide) (lv' := [(4, .int (piece_ + (1 : Int32))), (0, .ref (ad 1)), (1, .int set_), (2, .int definedNames_), (3, .int q25.1), (5, .int q25.2)]) rfl ?_
      refine zz_goto (tgt := 5) C dX5_neededBy_70 (by decide) ?_
      refine zz_sub [1, 2, 3, 4, 0] rfl ?_
      exact ih q25.1 (piece_ + (1 : Int32)) _ hf kx
set_option maxHeartbeats 4000000 in
set_option maxRecDepth 100000 in
theorem mX5_neededBy {D : va_G} {U : zz_U} {ad : Nat → Nat} {X : va_W} (σ : zz_St) (set_ : Int32) (definedNames_ : Int32) (r : Int32) (hf : fX5_neededBy σ set_ definedNames_ = some r) : zz_Met yX5_neededBy (.code yX5_neededBy cX5_neededBy 6 (some .int)) 1 0 0 D U [.ref (ad 1), .int set_, .int definedNames_] (zz_wc U ad σ X) (zz_ok (some (.int r)) (zz_wc U ad σ X)) zz_noth := by
  unfold fX5_neededBy at hf
  refine zz_method RX5 rfl (by decide +kernel) (Nat.le_of_ble_eq_true rfl) ?_
  intro p l e s m args below meth c A _ C
  refine zz_lvs (lv1 := [(0, .ref (ad 1)), (1, .int set_), (2, .int definedNames_)]) rfl ?_
  refine zz_iconst (v := (0 : Int32)) C dX5_neededBy_0 (by decide) ?_
  refine zz_istore_n C dX5_neededBy_1 rfl (by decide) (lv' := [(3, .int (0 : Int32)), (0, .ref (ad 1)), (1, .int set_), (2, .int definedNames_)]) rfl ?_
  refine zz_iconst (v := (0 : Int32)) C dX5_neededBy_2 (by decide) ?_
  refine zz_istore C dX5_neededBy_3 (by decide) (lv' := [(4, .int (0 : Int32)), (3, .int (0 : Int32)), (0, .ref (ad 1)), (1, .int set_), (2, .int definedNames_)]) rfl ?_
  obtain ⟨q27, h28, hf⟩ := zz_bind hf
  refine zz_sub [2, 3, 4, 1, 0] rfl ?_
  refine mX5_neededBy_L1 C (Nat.le_of_ble_eq_true rfl) (Nat.le_of_ble_eq_true rfl) σ set_ definedNames_ 1000 (0 : Int32) (0 : Int32) q27 h28 ?_
  refine zz_iload_n C 3 dX5_neededBy_73 rfl rfl ?_
  cases hf
  exact zz_iret C dX5_neededBy_74 (And.intro rfl rfl) (Nat.le_of_ble_eq_true rfl) (Nat.le_of_ble_eq_true rfl)
theorem dX4_findNeeds_0 : decode cX4_findNeeds 0 = .ok (.iconst 0, 1) := by decide +kernel
theorem dX4_findNeeds_1 : decode cX4_findNeeds 1 = .ok (.istore 4, 2) := by decide +kernel
theorem dX4_findNeeds_3 : decode cX4_findNeeds 3 = .ok (.iload 4, 2) := by decide +kernel
theorem dX4_findNeeds_5 : decode cX4_findNeeds 5 = .ok (.aload_n 3, 1) := by decide +kernel
theorem dX4_findNeeds_6 : decode cX4_findNeeds 6 = .ok (.getfield 22, 3) := by decide +kernel
theorem dX4_findNeeds_9 : decode cX4_findNeeds 9 = .ok (.if_icmp .ge 86, 3) := by decide +kernel
theorem dX4_findNeeds_12 : decode cX4_findNeeds 12 = .ok (.aload_n 1, 1) := by decide +kernel
theorem dX4_findNeeds_13 : decode cX4_findNeeds 13 = .ok (.aload_n 3, 1) := by decide +kernel
theorem dX4_findNeeds_14 : decode cX4_findNeeds 14 = .ok (.getfield 44, 3) := by decide +kernel
theorem dX4_findNeeds_17 : decode cX4_findNeeds 17 = .ok (.iload 4, 2) := by decide +kernel
theorem dX4_findNeeds_19 : decode cX4_findNeeds 19 = .ok (.iaload, 1) := by decide +kernel
theorem dX4_findNeeds_20 : decode cX4_findNeeds 20 = .ok (.aload_n 2, 1) := by decide +kernel
theorem dX4_findNeeds_21 : decode cX4_findNeeds 21 = .ok (.getfield 45, 3) := by decide +kernel
theorem dX4_findNeeds_24 : decode cX4_findNeeds 24 = .ok (.invokevirtual 50, 3) := by decide +kernel
theorem dX4_findNeeds_27 : decode cX4_findNeeds 27 = .ok (.istore 5, 2) := by decide +kernel
theorem dX4_findNeeds_29 : decode cX4_findNeeds 29 = .ok (.aload_n 0, 1) := by decide +kernel
theorem dX4_findNeeds_30 : decode cX4_findNeeds 30 = .ok (.getfield 15, 3) := by decide +kernel
theorem dX4_findNeeds_33 : decode cX4_findNeeds 33 = .ok (.iload 4, 2) := by decide +kernel
theorem dX4_findNeeds_35 : decode cX4_findNeeds 35 = .ok (.iconst 0, 1) := by decide +kernel
theorem dX4_findNeeds_36 : decode cX4_findNeeds 36 = .ok (.iastore, 1) := by decide +kernel
theorem dX4_findNeeds_37 : decode cX4_findNeeds 37 = .ok (.iconst 0, 1) := by decide +kernel
theorem dX4_findNeeds_38 : decode cX4_findNeeds 38 = .ok (.istore 6, 2) := by decide +kernel
theorem dX4_findNeeds_40 : decode cX4_findNeeds 40 = .ok (.iload 6, 2) := by decide +kernel
theorem dX4_findNeeds_42 : decode cX4_findNeeds 42 = .ok (.aload_n 3, 1) := by decide +kernel
theorem dX4_findNeeds_43 : decode cX4_findNeeds 43 = .ok (.getfield 22, 3) := by decide +kernel
theorem dX4_findNeeds_46 : decode cX4_findNeeds 46 = .ok (.if_icmp .ge 43, 3) := by decide +kernel
theorem dX4_findNeeds_49 : decode cX4_findNeeds 49 = .ok (.iload 6, 2) := by decide +kernel
theorem dX4_findNeeds_51 : decode cX4_findNeeds 51 = .ok (.iload 4, 2) := by decide +kernel
theorem dX4_findNeeds_53 : decode cX4_findNeeds 53 = .ok (.if_icmp .eq 30, 3) := by decide +kernel
theorem dX4_findNeeds_56 : decode cX4_findNeeds 56 = .ok (.iload 5, 2) := by decide +kernel
theorem dX4_findNeeds_58 : decode cX4_findNeeds 58 = .ok (.aload_n 3, 1) := by decide +kernel
theorem dX4_findNeeds_59 : decode cX4_findNeeds 59 = .ok (.getfield 44, 3) := by decide +kernel
theorem dX4_findNeeds_62 : decode cX4_findNeeds 62 = .ok (.iload 6, 2) := by decide +kernel
theorem dX4_findNeeds_64 : decode cX4_findNeeds 64 = .ok (.iaload, 1) := by decide +kernel
theorem dX4_findNeeds_65 : decode cX4_findNeeds 65 = .ok (.iand, 1) := by decide +kernel
theorem dX4_findNeeds_66 : decode cX4_findNeeds 66 = .ok (.ifCond .eq 17, 3) := by decide +kernel
theorem dX4_findNeeds_69 : decode cX4_findNeeds 69 = .ok (.aload_n 0, 1) := by decide +kernel
theorem dX4_findNeeds_70 : decode cX4_findNeeds 70 = .ok (.getfield 15, 3) := by decide +kernel
theorem dX4_findNeeds_73 : decode cX4_findNeeds 73 = .ok (.iload 4, 2) := by decide +kernel
theorem dX4_findNeeds_75 : decode cX4_findNeeds 75 = .ok (.dup2, 1) := by decide +kernel
theorem dX4_findNeeds_76 : decode cX4_findNeeds 76 = .ok (.iaload, 1) := by decide +kernel
theorem dX4_findNeeds_77 : decode cX4_findNeeds 77 = .ok (.iconst 1, 1) := by decide +kernel
theorem dX4_findNeeds_78 : decode cX4_findNeeds 78 = .ok (.iload 6, 2) := by decide +kernel
theorem dX4_findNeeds_80 : decode cX4_findNeeds 80 = .ok (.ishl, 1) := by decide +kernel
theorem dX4_findNeeds_81 : decode cX4_findNeeds 81 = .ok (.ior, 1) := by decide +kernel
theorem dX4_findNeeds_82 : decode cX4_findNeeds 82 = .ok (.iastore, 1) := by decide +kernel
theorem dX4_findNeeds_83 : decode cX4_findNeeds 83 = .ok (.iinc 6 1, 3) := by decide +kernel
theorem dX4_findNeeds_86 : decode cX4_findNeeds 86 = .ok (.goto (-46), 3) := by decide +kernel
theorem dX4_findNeeds_89 : decode cX4_findNeeds 89 = .ok (.iinc 4 1, 3) := by decide +kernel
theorem dX4_findNeeds_92 : decode cX4_findNeeds 92 = .ok (.goto (-89), 3) := by decide +kernel
theorem dX4_findNeeds_95 : decode cX4_findNeeds 95 = .ok (.return_, 1) := by decide +kernel
set_option maxHeartbeats 4000000 in
set_option maxRecDepth 100000 in
theorem mX4_findNeeds_L2 {p : Program} {l : Launch} {e : Env} {R : Room} {s : State} {m : MethodId} {args : Array Value} {below : List Frame} {meth : Method} {c : Code} {Q : State → Prop} {D : va_G} {U : zz_U} {A : Nat → Prop} {cells slots : Nat} {ad : Nat → Nat} {X : va_W} (C : zz_C p l R s m meth c D U A RX4 cX4_findNeeds 7 none [] 2) (hcR : cells ≤ R.cells) (hsR : slots ≤ R.slots) (group_ : Int32) (neededPieces_ : Int32) : ∀ (n : Nat) (other_ : Int32) (σ : zz_St) (q : (Int32 × zz_St)), fX4_findNeeds_L2 group_ neededPieces_ n other_ σ = some q → (zz_Z p l e R s m args below meth c Q D A 7 cells slots (zz_wc U ad q.2 X) 89 [(0, .ref (ad 41)), (1, .ref (ad 1)), (2, .ref (ad 17)), (3, .ref (ad 24)), (4, .int group_), (5, .int neededPieces_), (6, .int q.1)] []) → zz_Z p l e R s m args below meth c Q D A 7 cells slots (zz_wc U ad σ X) 40 [(0, .ref (ad 41)), (1, .ref (ad 1)), (2, .ref (ad 17)), (3, .ref (ad 24)), (4, .int group_), (5, .int neededPieces_), (6, .int other_)] [] := by
  intro n
  induction n with
  | zero => intro other_ σ q hf; rw [fX4_findNeeds_L2] at hf; cases hf
  | succ n ih =>
    intro other_ σ q hf kx
    rw [fX4_findNeeds_L2] at hf
    refine zz_iload C 6 dX4_findNeeds_40 rfl ?_
    refine zz_aload_n C 3 dX4_findNeeds_42 rfl rfl ?_
    refine zf3_count C dX4_findNeeds_43 zw_72 ?_
    refine zz_icmp_ge (tgt := 89) C dX4_findNeeds_46 (by decide) (fun g8 => ?_) (fun g8 => ?_)
    · rw [if_pos g8] at hf
      cases hf
      exact kx
    · rw [if_neg g8] at hf
      obtain ⟨x9, h10, hf⟩ := zz_bind hf
      refine zz_cut 83 [(0, .ref (ad 41)), (1, .ref (ad 1)), (2, .ref (ad 17)), (3, .ref (ad 24)), (4, .int group_), (5, .int neededPieces_), (6, .int other_)] [] (zz_wc U ad x9 X) ?_ (fun J11 => ?_)
      · refine zz_iinc (v := (other_ + (1 : Int32))) C 6 dX4_findNeeds_83 rfl (by rfl) (by decide) (lv' := [(6, .int (other_ + (1 : Int32))), (0, .ref (ad 41)), (1, .ref (ad 1)), (2, .ref (ad 17)), (3, .ref (ad 24)), (4, .int group_), (5, .int neededPieces_)]) rfl ?_
        refine zz_goto (tgt := 40) C dX4_findNeeds_86 (by decide) ?_
        refine zz_sub [1, 2, 3, 4, 5, 6, 0] rfl ?_
        exact ih (other_ + (1 : Int32)) x9 _ hf kx
      obtain ⟨b12, h13, h10⟩ := zz_bind h10
      refine zz_cutI (P := b12 = true) 69 [(0, .ref (ad 41)), (1, .ref (ad 1)), (2, .ref (ad 17)), (3, .ref (ad 24)), (4, .int group_), (5, .int neededPieces_), (6, .int other_)] [] (zz_wc U ad σ X) (fun g16 => ?_) (fun J14 => ?_)
      · rw [if_pos g16] at h10
        refine zz_aload_n C 0 dX4_findNeeds_69 rfl rfl ?_
        refine zf4_needed C dX4_findNeeds_70 zw_71 ?_
        refine zz_iload C 4 dX4_findNeeds_73 rfl ?_
        refine zz_dup2_11 C dX4_findNeeds_75 rfl rfl ?_
        obtain ⟨x21, h22, h10⟩ := zz_bind h10
        refine zl_43 C dX4_findNeeds_76 h22 ?_
        refine zz_iconst (v := (1 : Int32)) C dX4_findNeeds_77 (by decide) ?_
        refine zz_iload C 6 dX4_findNeeds_78 rfl ?_
        refine zz_ishl C dX4_findNeeds_80 ?_
        refine zz_ior C dX4_findNeeds_81 ?_
        obtain ⟨σ23, h24, h10⟩ := zz_bind h10
        refine zs_43 C dX4_findNeeds_82 h24 ?_
        cases h10
        exact J11
      refine zz_cutI (P := b12 = false) 83 [(0, .ref (ad 41)), (1, .ref (ad 1)), (2, .ref (ad 17)), (3, .ref (ad 24)), (4, .int group_), (5, .int neededPieces_), (6, .int other_)] [] (zz_wc U ad σ X) (fun g16 => ?_) (fun J15 => ?_)
      · rw [if_neg (show ¬ b12 = true by rw [g16]; decide)] at h10
        cases h10
        exact J11
      refine zz_iload C 6 dX4_findNeeds_49 rfl ?_
      refine zz_iload C 4 dX4_findNeeds_51 rfl ?_
      refine zz_icmp_eq (tgt := 83) C dX4_findNeeds_53 (by decide) (fun g17 => ?_) (fun g17 => ?_)
      · rw [if_pos g17] at h13
        cases h13
        exact J15 rfl
      · rw [if_neg g17] at h13
        refine zz_iload C 5 dX4_findNeeds_56 rfl ?_
        refine zz_aload_n C 3 dX4_findNeeds_58 rfl rfl ?_
        refine zf3_sets C dX4_findNeeds_59 zw_70 ?_
        refine zz_iload C 6 dX4_findNeeds_62 rfl ?_
        obtain ⟨x18, h19, h13⟩ := zz_bind h13
        refine zl_25 C dX4_findNeeds_64 h19 ?_
        refine zz_iand C dX4_findNeeds_65 ?_
        refine zz_if_eq (tgt := 83) C dX4_findNeeds_66 (by decide) (fun g20 => ?_) (fun g20 => ?_)
        · rw [if_pos g20] at h13
          cases h13
          exact J15 rfl
        · rw [if_neg g20] at h13
          cases h13
          exact J14 rfl
set_option maxHeartbeats 4000000 in
set_option maxRecDepth 100000 in
theorem mX4_findNeeds_L1 {p : Program} {l : Launch} {e : Env} {R : Room} {s : State} {m : MethodId} {args : Array Value} {below : List Frame} {meth : Method} {c : Code} {Q : State → Prop} {D : va_G} {U : zz_U} {A : Nat → Prop} {cells slots : Nat} {ad : Nat → Nat} {X : va_W} (C : zz_C p l R s m meth c D U A RX4 cX4_findNeeds 7 none [] 2) (hcR : cells ≤ R.cells) (hsR : slots ≤ R.slots) : ∀ (n : Nat) (group_ : Int32) (σ : zz_St) (q : (Int32 × zz_St)), fX4_findNeeds_L1 n group_ σ = some q → (zz_Z p l e R s m args below meth c Q D A 7 cells slots (zz_wc U ad q.2 X) 95 [(0, .ref (ad 41)), (1, .ref (ad 1)), (2, .ref (ad 17)), (3, .ref (ad 24)), (4, .int q.1)] []) → zz_Z p l e R s m args below meth c Q D A 7 cells slots (zz_wc U ad σ X) 3 [(0, .ref (ad 41)), (1, .ref (ad 1)), (2, .ref (ad 17)), (3, .ref (ad 24)), (4, .int group_)] [] := by
  intro n
  induction n with
  | zero => intro group_ σ q hf; rw [fX4_findNeeds_L1] at hf; cases hf
  | succ n ih =>
    intro group_ σ q hf kx
    rw [fX4_findNeeds_L1] at hf
    refine zz_iload C 4 dX4_findNeeds_3 rfl ?_
    refine zz_aload_n C 3 dX4_findNeeds_5 rfl rfl ?_
    refine zf3_count C dX4_findNeeds_6 zw_72 ?_
    refine zz_icmp_ge (tgt := 95) C dX4_findNeeds_9 (by decide) (fun g1 => ?_) (fun g1 => ?_)
    · rw [if_pos g1] at hf
      cases hf
      exact kx
    · rw [if_neg g1] at hf
      refine zz_aload_n C 1 dX4_findNeeds_12 rfl rfl ?_
      refine zz_aload_n C 3 dX4_findNeeds_13 rfl rfl ?_
      refine zf3_sets C dX4_findNeeds_14 zw_70 ?_
      refine zz_iload C 4 dX4_findNeeds_17 rfl ?_
      obtain ⟨x2, h3, hf⟩ := zz_bind hf
      refine zl_25 C dX4_findNeeds_19 h3 ?_
      refine zz_aload_n C 2 dX4_findNeeds_20 rfl rfl ?_
      refine zf1_definedNames C dX4_findNeeds_21 zw_74 ?_
      obtain ⟨x4, h5, hf⟩ := zz_bind hf
      refine zz_callV1 (As := [.int x2, .int (σ 17 0)]) (rest := []) C 1 (mX5_neededBy σ x2 (σ 17 0) x4 h5) dX4_findNeeds_24 rfl rfl rfl zw_73 zy_X5_neededBy rfl (by decide) (by decide) (Nat.le_of_ble_eq_true rfl) hcR hsR rfl ?_
      refine zz_istore C dX4_findNeeds_27 (by decide) (lv' := [(5, .int x4), (0, .ref (ad 41)), (1, .ref (ad 1)), (2, .ref (ad 17)), (3, .ref (ad 24)), (4, .int group_)]) rfl ?_
      refine zz_aload_n C 1 dX4_findNeeds_29 rfl rfl ?_
      refine zf4_needed C dX4_findNeeds_30 zw_71 ?_
      refine zz_iload C 5 dX4_findNeeds_33 rfl ?_
      refine zz_iconst (v := (0 : Int32)) C dX4_findNeeds_35 (by decide) ?_
      obtain ⟨σ6, h7, hf⟩ := zz_bind hf
      refine zs_43 C dX4_findNeeds_36 h7 ?_
      refine zz_iconst (v := (0 : Int32)) C dX4_findNeeds_37 (by decide) ?_
      refine zz_istore C dX4_findNeeds_38 (by decide) (lv' := [(6, .int (0 : Int32)), (5, .int x4), (0, .ref (ad 41)), (1, .ref (ad 1)), (2, .ref (ad 17)), (3, .ref (ad 24)), (4, .int group_)]) rfl ?_
      obtain ⟨q25, h26, hf⟩ := zz_bind hf
      refine zz_sub [2, 3, 4, 5, 6, 1, 0] rfl ?_
      refine mX4_findNeeds_L2 C hcR hsR group_ x4 1000 (0 : Int32) σ6 q25 h26 ?_
      refine zz_iinc (v := (group_ + (1 : Int32))) C 4 dX4_findNeeds_89 rfl (by rfl) (by decide) (lv' := [(4, .int (group_ + (1 : Int32))), (0, .ref (ad 41)), (1, .ref (ad 1)), (2, .ref (ad 17)), (3, .ref (ad 24)), (5, .int x4), (6, .int q25.1)]) rfl ?_
      refine zz_goto (tgt := 3) C dX4_findNeeds_92 (by decide) ?_
      refine zz_sub [1, 2, 3, 4, 0] rfl ?_
      exact ih (group_ + (1 : Int32)) q25.2 _ hf kx
set_option maxHeartbeats 4000000 in
set_option maxRecDepth 100000 in
theorem mX4_findNeeds {D : va_G} {U : zz_U} {ad : Nat → Nat} {X : va_W} (σ : zz_St) (r : zz_St) (hf : fX4_findNeeds σ = some r) : zz_Met yX4_findNeeds (.code yX4_findNeeds cX4_findNeeds 7 none) 2 0 0 D U [.ref (ad 41), .ref (ad 1), .ref (ad 17), .ref (ad 24)] (zz_wc U ad σ X) (zz_ok none (zz_wc U ad r X)) zz_noth := by
  unfold fX4_findNeeds at hf
  refine zz_method RX4 rfl (by decide +kernel) (Nat.le_of_ble_eq_true rfl) ?_
  intro p l e s m args below meth c A _ C
  refine zz_lvs (lv1 := [(0, .ref (ad 41)), (1, .ref (ad 1)), (2, .ref (ad 17)), (3, .ref (ad 24))]) rfl ?_
  refine zz_iconst (v := (0 : Int32)) C dX4_findNeeds_0 (by decide) ?_
  refine zz_istore C dX4_findNeeds_1 (by decide) (lv' := [(4, .int (0 : Int32)), (0, .ref (ad 41)), (1, .ref (ad 1)), (2, .ref (ad 17)), (3, .ref (ad 24))]) rfl ?_
  obtain ⟨q27, h28, hf⟩ := zz_bind hf
  refine zz_sub [1, 2, 3, 4, 0] rfl ?_
  refine mX4_findNeeds_L1 C (Nat.le_of_ble_eq_true rfl) (Nat.le_of_ble_eq_true rfl) 1000 (0 : Int32) σ q27 h28 ?_
  cases hf
  exact zz_vret C dX4_findNeeds_95 (And.intro rfl rfl) (Nat.le_of_ble_eq_true rfl) (Nat.le_of_ble_eq_true rfl)
theorem dX4_needByWayOfOthers_0 : decode cX4_needByWayOfOthers 0 = .ok (.iconst 0, 1) := by decide +kernel
theorem dX4_needByWayOfOthers_1 : decode cX4_needByWayOfOthers 1 = .ok (.istore_n 2, 1) := by decide +kernel
theorem dX4_needByWayOfOthers_2 : decode cX4_needByWayOfOthers 2 = .ok (.iload_n 2, 1) := by decide +kernel
theorem dX4_needByWayOfOthers_3 : decode cX4_needByWayOfOthers 3 = .ok (.iload_n 1, 1) := by decide +kernel
theorem dX4_needByWayOfOthers_4 : decode cX4_needByWayOfOthers 4 = .ok (.if_icmp .ge 50, 3) := by decide +kernel
theorem dX4_needByWayOfOthers_7 : decode cX4_needByWayOfOthers 7 = .ok (.iconst 0, 1) := by decide +kernel
theorem dX4_needByWayOfOthers_8 : decode cX4_needByWayOfOthers 8 = .ok (.istore_n 3, 1) := by decide +kernel
theorem dX4_needByWayOfOthers_9 : decode cX4_needByWayOfOthers 9 = .ok (.iload_n 3, 1) := by decide +kernel
theorem dX4_needByWayOfOthers_10 : decode cX4_needByWayOfOthers 10 = .ok (.iload_n 1, 1) := by decide +kernel
theorem dX4_needByWayOfOthers_11 : decode cX4_needByWayOfOthers 11 = .ok (.if_icmp .ge 37, 3) := by decide +kernel
theorem dX4_needByWayOfOthers_14 : decode cX4_needByWayOfOthers 14 = .ok (.iload_n 2, 1) := by decide +kernel
theorem dX4_needByWayOfOthers_15 : decode cX4_needByWayOfOthers 15 = .ok (.aload_n 0, 1) := by decide +kernel
theorem dX4_needByWayOfOthers_16 : decode cX4_needByWayOfOthers 16 = .ok (.getfield 15, 3) := by decide +kernel
theorem dX4_needByWayOfOthers_19 : decode cX4_needByWayOfOthers 19 = .ok (.iload_n 3, 1) := by decide +kernel
theorem dX4_needByWayOfOthers_20 : decode cX4_needByWayOfOthers 20 = .ok (.iaload, 1) := by decide +kernel
theorem dX4_needByWayOfOthers_21 : decode cX4_needByWayOfOthers 21 = .ok (.invokestatic 55, 3) := by decide +kernel
theorem dX4_needByWayOfOthers_24 : decode cX4_needByWayOfOthers 24 = .ok (.ifCond .eq 18, 3) := by decide +kernel
theorem dX4_needByWayOfOthers_27 : decode cX4_needByWayOfOthers 27 = .ok (.aload_n 0, 1) := by decide +kernel
theorem dX4_needByWayOfOthers_28 : decode cX4_needByWayOfOthers 28 = .ok (.getfield 15, 3) := by decide +kernel
theorem dX4_needByWayOfOthers_31 : decode cX4_needByWayOfOthers 31 = .ok (.iload_n 3, 1) := by decide +kernel
theorem dX4_needByWayOfOthers_32 : decode cX4_needByWayOfOthers 32 = .ok (.dup2, 1) := by decide +kernel
theorem dX4_needByWayOfOthers_33 : decode cX4_needByWayOfOthers 33 = .ok (.iaload, 1) := by decide +kernel
theorem dX4_needByWayOfOthers_34 : decode cX4_needByWayOfOthers 34 = .ok (.aload_n 0, 1) := by decide +kernel
theorem dX4_needByWayOfOthers_35 : decode cX4_needByWayOfOthers 35 = .ok (.getfield 15, 3) := by decide +kernel
theorem dX4_needByWayOfOthers_38 : decode cX4_needByWayOfOthers 38 = .ok (.iload_n 2, 1) := by decide +kernel
theorem dX4_needByWayOfOthers_39 : decode cX4_needByWayOfOthers 39 = .ok (.iaload, 1) := by decide +kernel
theorem dX4_needByWayOfOthers_40 : decode cX4_needByWayOfOthers 40 = .ok (.ior, 1) := by decide +kernel
theorem dX4_needByWayOfOthers_41 : decode cX4_needByWayOfOthers 41 = .ok (.iastore, 1) := by decide +kernel
theorem dX4_needByWayOfOthers_42 : decode cX4_needByWayOfOthers 42 = .ok (.iinc 3 1, 3) := by decide +kernel
theorem dX4_needByWayOfOthers_45 : decode cX4_needByWayOfOthers 45 = .ok (.goto (-36), 3) := by decide +kernel
theorem dX4_needByWayOfOthers_48 : decode cX4_needByWayOfOthers 48 = .ok (.iinc 2 1, 3) := by decide +kernel
theorem dX4_needByWayOfOthers_51 : decode cX4_needByWayOfOthers 51 = .ok (.goto (-49), 3) := by decide +kernel
theorem dX4_needByWayOfOthers_54 : decode cX4_needByWayOfOthers 54 = .ok (.return_, 1) := by decide +kernel
set_option maxHeartbeats 4000000 in
set_option maxRecDepth 100000 in
theorem mX4_needByWayOfOthers_L2 {p : Program} {l : Launch} {e : Env} {R : Room} {s : State} {m : MethodId} {args : Array Value} {below : List Frame} {meth : Method} {c : Code} {Q : State → Prop} {D : va_G} {U : zz_U} {A : Nat → Prop} {cells slots : Nat} {ad : Nat → Nat} {X : va_W} (C : zz_C p l R s m meth c D U A RX4 cX4_needByWayOfOthers 4 none [] 1) (hcR : cells ≤ R.cells) (hsR : slots ≤ R.slots) (groupTotal_ : Int32) (way_ : Int32) : ∀ (n : Nat) (group_ : Int32) (σ : zz_St) (q : (Int32 × zz_St)), fX4_needByWayOfOthers_L2 groupTotal_ way_ n group_ σ = some q → (zz_Z p l e R s m args below meth c Q D A 4 cells slots (zz_wc U ad q.2 X) 48 [(0, .ref (ad 41)), (1, .int groupTotal_), (2, .int way_), (3, .int q.1)] []) → zz_Z p l e R s m args below meth c Q D A 4 cells slots (zz_wc U ad σ X) 9 [(0, .ref (ad 41)), (1, .int groupTotal_), (2, .int way_), (3, .int group_)] [] := by
  intro n
  induction n with
  | zero => intro group_ σ q hf; rw [fX4_needByWayOfOthers_L2] at hf; cases hf
  | succ n ih =>
    intro group_ σ q hf kx
    rw [fX4_needByWayOfOthers_L2] at hf
    refine zz_iload_n C 3 dX4_needByWayOfOthers_9 rfl rfl ?_
    refine zz_iload_n C 1 dX4_needByWayOfOthers_10 rfl rfl ?_
    refine zz_icmp_ge (tgt := 48) C dX4_needByWayOfOthers_11 (by decide) (fun g2 => ?_) (fun g2 => ?_)
    · rw [if_pos g2] at hf
      cases hf
      exact kx
    · rw [if_neg g2] at hf
      obtain ⟨x3, h4, hf⟩ := zz_bind hf
      refine zz_cut 42 [(0, .ref (ad 41)), (1, .int groupTotal_), (2, .int way_), (3, .int group_)] [] (zz_wc U ad x3 X) ?_ (fun J5 => ?_)
      · refine zz_iinc (v := (group_ + (1 : Int32))) C 3 dX4_needByWayOfOthers_42 rfl (by rfl) (by decide) (lv' := [(3, .int (group_ + (1 : Int32))), (0, .ref (ad 41)), (1, .int groupTotal_), (2, .int way_)]) rfl ?_
        refine zz_goto (tgt := 9) C dX4_needByWayOfOthers_45 (by decide) ?_
        refine zz_sub [1, 2, 3, 0] rfl ?_
        exact ih (group_ + (1 : Int32)) x3 _ hf kx
      refine zz_iload_n C 2 dX4_needByWayOfOthers_14 rfl rfl ?_
      refine zz_aload_n C 0 dX4_needByWayOfOthers_15 rfl rfl ?_
      refine zf4_needed C dX4_needByWayOfOthers_16 zw_71 ?_
      refine zz_iload_n C 3 dX4_needByWayOfOthers_19 rfl rfl ?_
      obtain ⟨x6, h7, h4⟩ := zz_bind h4
      refine zl_43 C dX4_needByWayOfOthers_20 h7 ?_
      obtain ⟨x8, h9, h4⟩ := zz_bind h4
      refine zz_callSN1 (host := "ChangeUntangler") (As := [.int way_, .int x6]) (rest := []) C (mX7_isIn σ way_ x6 x8 h9) dX4_needByWayOfOthers_21 rfl (by decide +kernel) zy_X7_isIn rfl (by decide) (by decide) (Nat.le_of_ble_eq_true rfl) hcR hsR rfl ?_
      refine zz_if_eq (tgt := 42) C dX4_needByWayOfOthers_24 (by decide) (fun g10 => ?_) (fun g10 => ?_)
      · rw [if_pos g10] at h4
        cases h4
        exact J5
      · rw [if_neg g10] at h4
        refine zz_aload_n C 0 dX4_needByWayOfOthers_27 rfl rfl ?_
        refine zf4_needed C dX4_needByWayOfOthers_28 zw_71 ?_
        refine zz_iload_n C 3 dX4_needByWayOfOthers_31 rfl rfl ?_
        refine zz_dup2_11 C dX4_needByWayOfOthers_32 rfl rfl ?_
        obtain ⟨x11, h12, h4⟩ := zz_bind h4
        refine zl_43 C dX4_needByWayOfOthers_33 h12 ?_
        refine zz_aload_n C 0 dX4_needByWayOfOthers_34 rfl rfl ?_
        refine zf4_needed C dX4_needByWayOfOthers_35 zw_71 ?_
        refine zz_iload_n C 2 dX4_needByWayOfOthers_38 rfl rfl ?_
        obtain ⟨x13, h14, h4⟩ := zz_bind h4
        refine zl_43 C dX4_needByWayOfOthers_39 h14 ?_
        refine zz_ior C dX4_needByWayOfOthers_40 ?_
        obtain ⟨σ15, h16, h4⟩ := zz_bind h4
        refine zs_43 C dX4_needByWayOfOthers_41 h16 ?_
        cases h4
        exact J5
set_option maxHeartbeats 4000000 in
set_option maxRecDepth 100000 in
theorem mX4_needByWayOfOthers_L1 {p : Program} {l : Launch} {e : Env} {R : Room} {s : State} {m : MethodId} {args : Array Value} {below : List Frame} {meth : Method} {c : Code} {Q : State → Prop} {D : va_G} {U : zz_U} {A : Nat → Prop} {cells slots : Nat} {ad : Nat → Nat} {X : va_W} (C : zz_C p l R s m meth c D U A RX4 cX4_needByWayOfOthers 4 none [] 1) (hcR : cells ≤ R.cells) (hsR : slots ≤ R.slots) (groupTotal_ : Int32) : ∀ (n : Nat) (way_ : Int32) (σ : zz_St) (q : (Int32 × zz_St)), fX4_needByWayOfOthers_L1 groupTotal_ n way_ σ = some q → (zz_Z p l e R s m args below meth c Q D A 4 cells slots (zz_wc U ad q.2 X) 54 [(0, .ref (ad 41)), (1, .int groupTotal_), (2, .int q.1)] []) → zz_Z p l e R s m args below meth c Q D A 4 cells slots (zz_wc U ad σ X) 2 [(0, .ref (ad 41)), (1, .int groupTotal_), (2, .int way_)] [] := by
  intro n
  induction n with
  | zero => intro way_ σ q hf; rw [fX4_needByWayOfOthers_L1] at hf; cases hf
  | succ n ih =>
    intro way_ σ q hf kx
    rw [fX4_needByWayOfOthers_L1] at hf
    refine zz_iload_n C 2 dX4_needByWayOfOthers_2 rfl rfl ?_
    refine zz_iload_n C 1 dX4_needByWayOfOthers_3 rfl rfl ?_
    refine zz_icmp_ge (tgt := 54) C dX4_needByWayOfOthers_4 (by decide) (fun g1 => ?_) (fun g1 => ?_)
    · rw [if_pos g1] at hf
      cases hf
      exact kx
    · rw [if_neg g1] at hf
      refine zz_iconst (v := (0 : Int32)) C dX4_needByWayOfOthers_7 (by decide) ?_
      refine zz_istore_n C dX4_needByWayOfOthers_8 rfl (by decide) (lv' := [(3, .int (0 : Int32)), (0, .ref (ad 41)), (1, .int groupTotal_), (2, .int way_)]) rfl ?_
      obtain ⟨q17, h18, hf⟩ := zz_bind hf
      refine zz_sub [1, 2, 3, 0] rfl ?_
      refine mX4_needByWayOfOthers_L2 C hcR hsR groupTotal_ way_ 1000 (0 : Int32) σ q17 h18 ?_
      refine zz_iinc (v := (way_ + (1 : Int32))) C 2 dX4_needByWayOfOthers_48 rfl (by rfl) (by decide) (lv' := [(2, .int (way_ + (1 : Int32))), (0, .ref (ad 41)), (1, .int groupTotal_), (3, .int q17.1)]) rfl ?_
      refine zz_goto (tgt := 2) C dX4_needByWayOfOthers_51 (by decide) ?_
      refine zz_sub [1, 2, 0] rfl ?_
      exact ih (way_ + (1 : Int32)) q17.2 _ hf kx
set_option maxHeartbeats 4000000 in
set_option maxRecDepth 100000 in
theorem mX4_needByWayOfOthers {D : va_G} {U : zz_U} {ad : Nat → Nat} {X : va_W} (σ : zz_St) (groupTotal_ : Int32) (r : zz_St) (hf : fX4_needByWayOfOthers σ groupTotal_ = some r) : zz_Met yX4_needByWayOfOthers (.code yX4_needByWayOfOthers cX4_needByWayOfOthers 4 none) 1 0 0 D U [.ref (ad 41), .int groupTotal_] (zz_wc U ad σ X) (zz_ok none (zz_wc U ad r X)) zz_noth := by
  unfold fX4_needByWayOfOthers at hf
  refine zz_method RX4 rfl (by decide +kernel) (Nat.le_of_ble_eq_true rfl) ?_
  intro p l e s m args below meth c A _ C
  refine zz_lvs (lv1 := [(0, .ref (ad 41)), (1, .int groupTotal_)]) rfl ?_
  refine zz_iconst (v := (0 : Int32)) C dX4_needByWayOfOthers_0 (by decide) ?_
  refine zz_istore_n C dX4_needByWayOfOthers_1 rfl (by decide) (lv' := [(2, .int (0 : Int32)), (0, .ref (ad 41)), (1, .int groupTotal_)]) rfl ?_
  obtain ⟨q19, h20, hf⟩ := zz_bind hf
  refine zz_sub [1, 2, 0] rfl ?_
  refine mX4_needByWayOfOthers_L1 C (Nat.le_of_ble_eq_true rfl) (Nat.le_of_ble_eq_true rfl) groupTotal_ 1000 (0 : Int32) σ q19 h20 ?_
  cases hf
  exact zz_vret C dX4_needByWayOfOthers_54 (And.intro rfl rfl) (Nat.le_of_ble_eq_true rfl) (Nat.le_of_ble_eq_true rfl)
theorem dX4_circleOf_0 : decode cX4_circleOf 0 = .ok (.iconst 1, 1) := by decide +kernel
theorem dX4_circleOf_1 : decode cX4_circleOf 1 = .ok (.iload_n 1, 1) := by decide +kernel
theorem dX4_circleOf_2 : decode cX4_circleOf 2 = .ok (.ishl, 1) := by decide +kernel
theorem dX4_circleOf_3 : decode cX4_circleOf 3 = .ok (.istore_n 3, 1) := by decide +kernel
theorem dX4_circleOf_4 : decode cX4_circleOf 4 = .ok (.iconst 0, 1) := by decide +kernel
theorem dX4_circleOf_5 : decode cX4_circleOf 5 = .ok (.istore 4, 2) := by decide +kernel
theorem dX4_circleOf_7 : decode cX4_circleOf 7 = .ok (.iload 4, 2) := by decide +kernel
theorem dX4_circleOf_9 : decode cX4_circleOf 9 = .ok (.iload_n 2, 1) := by decide +kernel
theorem dX4_circleOf_10 : decode cX4_circleOf 10 = .ok (.if_icmp .ge 44, 3) := by decide +kernel
theorem dX4_circleOf_13 : decode cX4_circleOf 13 = .ok (.iload 4, 2) := by decide +kernel
theorem dX4_circleOf_15 : decode cX4_circleOf 15 = .ok (.aload_n 0, 1) := by decide +kernel
theorem dX4_circleOf_16 : decode cX4_circleOf 16 = .ok (.getfield 15, 3) := by decide +kernel
theorem dX4_circleOf_19 : decode cX4_circleOf 19 = .ok (.iload_n 1, 1) := by decide +kernel
theorem dX4_circleOf_20 : decode cX4_circleOf 20 = .ok (.iaload, 1) := by decide +kernel
theorem dX4_circleOf_21 : decode cX4_circleOf 21 = .ok (.invokestatic 55, 3) := by decide +kernel
theorem dX4_circleOf_24 : decode cX4_circleOf 24 = .ok (.ifCond .eq 24, 3) := by decide +kernel
theorem dX4_circleOf_27 : decode cX4_circleOf 27 = .ok (.iload_n 1, 1) := by decide +kernel
theorem dX4_circleOf_28 : decode cX4_circleOf 28 = .ok (.aload_n 0, 1) := by decide +kernel
theorem dX4_circleOf_29 : decode cX4_circleOf 29 = .ok (.getfield 15, 3) := by decide +kernel
theorem dX4_circleOf_32 : decode cX4_circleOf 32 = .ok (.iload 4, 2) := by decide +kernel
theorem dX4_circleOf_34 : decode cX4_circleOf 34 = .ok (.iaload, 1) := by decide +kernel
theorem dX4_circleOf_35 : decode cX4_circleOf 35 = .ok (.invokestatic 55, 3) := by decide +kernel
theorem dX4_circleOf_38 : decode cX4_circleOf 38 = .ok (.ifCond .eq 10, 3) := by decide +kernel
theorem dX4_circleOf_41 : decode cX4_circleOf 41 = .ok (.iload_n 3, 1) := by decide +kernel
theorem dX4_circleOf_42 : decode cX4_circleOf 42 = .ok (.iconst 1, 1) := by decide +kernel
theorem dX4_circleOf_43 : decode cX4_circleOf 43 = .ok (.iload 4, 2) := by decide +kernel
theorem dX4_circleOf_45 : decode cX4_circleOf 45 = .ok (.ishl, 1) := by decide +kernel
theorem dX4_circleOf_46 : decode cX4_circleOf 46 = .ok (.ior, 1) := by decide +kernel
theorem dX4_circleOf_47 : decode cX4_circleOf 47 = .ok (.istore_n 3, 1) := by decide +kernel
theorem dX4_circleOf_48 : decode cX4_circleOf 48 = .ok (.iinc 4 1, 3) := by decide +kernel
theorem dX4_circleOf_51 : decode cX4_circleOf 51 = .ok (.goto (-44), 3) := by decide +kernel
theorem dX4_circleOf_54 : decode cX4_circleOf 54 = .ok (.iload_n 3, 1) := by decide +kernel
theorem dX4_circleOf_55 : decode cX4_circleOf 55 = .ok (.ireturn, 1) := by decide +kernel
set_option maxHeartbeats 4000000 in
set_option maxRecDepth 100000 in
theorem mX4_circleOf_L1 {p : Program} {l : Launch} {e : Env} {R : Room} {s : State} {m : MethodId} {args : Array Value} {below : List Frame} {meth : Method} {c : Code} {Q : State → Prop} {D : va_G} {U : zz_U} {A : Nat → Prop} {cells slots : Nat} {ad : Nat → Nat} {X : va_W} (C : zz_C p l R s m meth c D U A RX4 cX4_circleOf 5 (some .int) [] 1) (hcR : cells ≤ R.cells) (hsR : slots ≤ R.slots) (σ : zz_St) (group_ : Int32) (groupTotal_ : Int32) : ∀ (n : Nat) (circle_ : Int32) (other_ : Int32) (q : (Int32 × Int32)), fX4_circleOf_L1 σ group_ groupTotal_ n circle_ other_ = some q → (zz_Z p l e R s m args below meth c Q D A 5 cells slots (zz_wc U ad σ X) 54 [(0, .ref (ad 41)), (1, .int group_), (2, .int groupTotal_), (3, .int q.1), (4, .int q.2)] []) → zz_Z p l e R s m args below meth c Q D A 5 cells slots (zz_wc U ad σ X) 7 [(0, .ref (ad 41)), (1, .int group_), (2, .int groupTotal_), (3, .int circle_), (4, .int other_)] [] := by
  intro n
  induction n with
  | zero => intro circle_ other_ q hf; rw [fX4_circleOf_L1] at hf; cases hf
  | succ n ih =>
    intro circle_ other_ q hf kx
    rw [fX4_circleOf_L1] at hf
    refine zz_iload C 4 dX4_circleOf_7 rfl ?_
    refine zz_iload_n C 2 dX4_circleOf_9 rfl rfl ?_
    refine zz_icmp_ge (tgt := 54) C dX4_circleOf_10 (by decide) (fun g3 => ?_) (fun g3 => ?_)
    · rw [if_pos g3] at hf
      cases hf
      exact kx
    · rw [if_neg g3] at hf
      obtain ⟨x4, h5, hf⟩ := zz_bind hf
      refine zz_cut 48 [(0, .ref (ad 41)), (1, .int group_), (2, .int groupTotal_), (3, .int x4), (4, .int other_)] [] (zz_wc U ad σ X) ?_ (fun J6 => ?_)
      · refine zz_iinc (v := (other_ + (1 : Int32))) C 4 dX4_circleOf_48 rfl (by rfl) (by decide) (lv' := [(4, .int (other_ + (1 : Int32))), (0, .ref (ad 41)), (1, .int group_), (2, .int groupTotal_), (3, .int x4)]) rfl ?_
        refine zz_goto (tgt := 7) C dX4_circleOf_51 (by decide) ?_
        refine zz_sub [1, 2, 3, 4, 0] rfl ?_
        exact ih x4 (other_ + (1 : Int32)) _ hf kx
      obtain ⟨b7, h8, h5⟩ := zz_bind h5
      refine zz_cutI (P := b7 = true) 41 [(0, .ref (ad 41)), (1, .int group_), (2, .int groupTotal_), (3, .int circle_), (4, .int other_)] [] (zz_wc U ad σ X) (fun g11 => ?_) (fun J9 => ?_)
      · rw [if_pos g11] at h5
        refine zz_iload_n C 3 dX4_circleOf_41 rfl rfl ?_
        refine zz_iconst (v := (1 : Int32)) C dX4_circleOf_42 (by decide) ?_
        refine zz_iload C 4 dX4_circleOf_43 rfl ?_
        refine zz_ishl C dX4_circleOf_45 ?_
        refine zz_ior C dX4_circleOf_46 ?_
        obtain ⟨x22, h23, h5⟩ := zz_bind h5
        refine zz_topi (Option.some.inj h23) ?_
        refine zz_istore_n C dX4_circleOf_47 rfl (by decide) (lv' := [(3, .int x22), (0, .ref (ad 41)), (1, .int group_), (2, .int groupTotal_), (4, .int other_)]) rfl ?_
        refine zz_sub [1, 2, 3, 0, 4] rfl ?_
        cases h5
        exact J6
      refine zz_cutI (P := b7 = false) 48 [(0, .ref (ad 41)), (1, .int group_), (2, .int groupTotal_), (3, .int circle_), (4, .int other_)] [] (zz_wc U ad σ X) (fun g11 => ?_) (fun J10 => ?_)
      · rw [if_neg (show ¬ b7 = true by rw [g11]; decide)] at h5
        cases h5
        exact J6
      refine zz_iload C 4 dX4_circleOf_13 rfl ?_
      refine zz_aload_n C 0 dX4_circleOf_15 rfl rfl ?_
      refine zf4_needed C dX4_circleOf_16 zw_71 ?_
      refine zz_iload_n C 1 dX4_circleOf_19 rfl rfl ?_
      obtain ⟨x12, h13, h8⟩ := zz_bind h8
      refine zl_43 C dX4_circleOf_20 h13 ?_
      obtain ⟨x14, h15, h8⟩ := zz_bind h8
      refine zz_callSN1 (host := "ChangeUntangler") (As := [.int other_, .int x12]) (rest := []) C (mX7_isIn σ other_ x12 x14 h15) dX4_circleOf_21 rfl (by decide +kernel) zy_X7_isIn rfl (by decide) (by decide) (Nat.le_of_ble_eq_true rfl) hcR hsR rfl ?_
      refine zz_if_eq (tgt := 48) C dX4_circleOf_24 (by decide) (fun g16 => ?_) (fun g16 => ?_)
      · rw [if_pos g16] at h8
        cases h8
        exact J10 rfl
      · rw [if_neg g16] at h8
        refine zz_iload_n C 1 dX4_circleOf_27 rfl rfl ?_
        refine zz_aload_n C 0 dX4_circleOf_28 rfl rfl ?_
        refine zf4_needed C dX4_circleOf_29 zw_71 ?_
        refine zz_iload C 4 dX4_circleOf_32 rfl ?_
        obtain ⟨x17, h18, h8⟩ := zz_bind h8
        refine zl_43 C dX4_circleOf_34 h18 ?_
        obtain ⟨x19, h20, h8⟩ := zz_bind h8
        refine zz_callSN1 (host := "ChangeUntangler") (As := [.int group_, .int x17]) (rest := []) C (mX7_isIn σ group_ x17 x19 h20) dX4_circleOf_35 rfl (by decide +kernel) zy_X7_isIn rfl (by decide) (by decide) (Nat.le_of_ble_eq_true rfl) hcR hsR rfl ?_
        refine zz_if_eq (tgt := 48) C dX4_circleOf_38 (by decide) (fun g21 => ?_) (fun g21 => ?_)
        · rw [if_pos g21] at h8
          cases h8
          exact J10 rfl
        · rw [if_neg g21] at h8
          cases h8
          exact J9 rfl
set_option maxHeartbeats 4000000 in
set_option maxRecDepth 100000 in
theorem mX4_circleOf {D : va_G} {U : zz_U} {ad : Nat → Nat} {X : va_W} (σ : zz_St) (group_ : Int32) (groupTotal_ : Int32) (r : Int32) (hf : fX4_circleOf σ group_ groupTotal_ = some r) : zz_Met yX4_circleOf (.code yX4_circleOf cX4_circleOf 5 (some .int)) 1 0 0 D U [.ref (ad 41), .int group_, .int groupTotal_] (zz_wc U ad σ X) (zz_ok (some (.int r)) (zz_wc U ad σ X)) zz_noth := by
  unfold fX4_circleOf at hf
  refine zz_method RX4 rfl (by decide +kernel) (Nat.le_of_ble_eq_true rfl) ?_
  intro p l e s m args below meth c A _ C
  refine zz_lvs (lv1 := [(0, .ref (ad 41)), (1, .int group_), (2, .int groupTotal_)]) rfl ?_
  refine zz_iconst (v := (1 : Int32)) C dX4_circleOf_0 (by decide) ?_
  refine zz_iload_n C 1 dX4_circleOf_1 rfl rfl ?_
  refine zz_ishl C dX4_circleOf_2 ?_
  obtain ⟨x1, h2, hf⟩ := zz_bind hf
  refine zz_topi (Option.some.inj h2) ?_
  refine zz_istore_n C dX4_circleOf_3 rfl (by decide) (lv' := [(3, .int x1), (0, .ref (ad 41)), (1, .int group_), (2, .int groupTotal_)]) rfl ?_
  refine zz_iconst (v := (0 : Int32)) C dX4_circleOf_4 (by decide) ?_
  refine zz_istore C dX4_circleOf_5 (by decide) (lv' := [(4, .int (0 : Int32)), (3, .int x1), (0, .ref (ad 41)), (1, .int group_), (2, .int groupTotal_)]) rfl ?_
  obtain ⟨q24, h25, hf⟩ := zz_bind hf
  refine zz_sub [2, 3, 4, 1, 0] rfl ?_
  refine mX4_circleOf_L1 C (Nat.le_of_ble_eq_true rfl) (Nat.le_of_ble_eq_true rfl) σ group_ groupTotal_ 1000 x1 (0 : Int32) q24 h25 ?_
  refine zz_iload_n C 3 dX4_circleOf_54 rfl rfl ?_
  cases hf
  exact zz_iret C dX4_circleOf_55 (And.intro rfl rfl) (Nat.le_of_ble_eq_true rfl) (Nat.le_of_ble_eq_true rfl)
theorem dX4_nextCircle_0 : decode cX4_nextCircle 0 = .ok (.iconst 0, 1) := by decide +kernel
theorem dX4_nextCircle_1 : decode cX4_nextCircle 1 = .ok (.istore_n 3, 1) := by decide +kernel
theorem dX4_nextCircle_2 : decode cX4_nextCircle 2 = .ok (.iload_n 3, 1) := by decide +kernel
theorem dX4_nextCircle_3 : decode cX4_nextCircle 3 = .ok (.iload_n 1, 1) := by decide +kernel
theorem dX4_nextCircle_4 : decode cX4_nextCircle 4 = .ok (.if_icmp .ge 58, 3) := by decide +kernel
theorem dX4_nextCircle_7 : decode cX4_nextCircle 7 = .ok (.aload_n 0, 1) := by decide +kernel
theorem dX4_nextCircle_8 : decode cX4_nextCircle 8 = .ok (.iload_n 3, 1) := by decide +kernel
theorem dX4_nextCircle_9 : decode cX4_nextCircle 9 = .ok (.iload_n 1, 1) := by decide +kernel
theorem dX4_nextCircle_10 : decode cX4_nextCircle 10 = .ok (.invokevirtual 59, 3) := by decide +kernel
theorem dX4_nextCircle_13 : decode cX4_nextCircle 13 = .ok (.istore 4, 2) := by decide +kernel
theorem dX4_nextCircle_15 : decode cX4_nextCircle 15 = .ok (.aload_n 0, 1) := by decide +kernel
theorem dX4_nextCircle_16 : decode cX4_nextCircle 16 = .ok (.getfield 15, 3) := by decide +kernel
theorem dX4_nextCircle_19 : decode cX4_nextCircle 19 = .ok (.iload_n 3, 1) := by decide +kernel
theorem dX4_nextCircle_20 : decode cX4_nextCircle 20 = .ok (.iaload, 1) := by decide +kernel
theorem dX4_nextCircle_21 : decode cX4_nextCircle 21 = .ok (.iload 4, 2) := by decide +kernel
theorem dX4_nextCircle_23 : decode cX4_nextCircle 23 = .ok (.iconst (-1), 1) := by decide +kernel
theorem dX4_nextCircle_24 : decode cX4_nextCircle 24 = .ok (.ixor, 1) := by decide +kernel
theorem dX4_nextCircle_25 : decode cX4_nextCircle 25 = .ok (.iand, 1) := by decide +kernel
theorem dX4_nextCircle_26 : decode cX4_nextCircle 26 = .ok (.iload_n 2, 1) := by decide +kernel
theorem dX4_nextCircle_27 : decode cX4_nextCircle 27 = .ok (.iconst (-1), 1) := by decide +kernel
theorem dX4_nextCircle_28 : decode cX4_nextCircle 28 = .ok (.ixor, 1) := by decide +kernel
theorem dX4_nextCircle_29 : decode cX4_nextCircle 29 = .ok (.iand, 1) := by decide +kernel
theorem dX4_nextCircle_30 : decode cX4_nextCircle 30 = .ok (.ifCond .ne 7, 3) := by decide +kernel
theorem dX4_nextCircle_33 : decode cX4_nextCircle 33 = .ok (.iconst 1, 1) := by decide +kernel
theorem dX4_nextCircle_34 : decode cX4_nextCircle 34 = .ok (.goto 4, 3) := by decide +kernel
theorem dX4_nextCircle_37 : decode cX4_nextCircle 37 = .ok (.iconst 0, 1) := by decide +kernel
theorem dX4_nextCircle_38 : decode cX4_nextCircle 38 = .ok (.istore 5, 2) := by decide +kernel
theorem dX4_nextCircle_40 : decode cX4_nextCircle 40 = .ok (.iload_n 3, 1) := by decide +kernel
theorem dX4_nextCircle_41 : decode cX4_nextCircle 41 = .ok (.iload_n 2, 1) := by decide +kernel
theorem dX4_nextCircle_42 : decode cX4_nextCircle 42 = .ok (.invokestatic 55, 3) := by decide +kernel
theorem dX4_nextCircle_45 : decode cX4_nextCircle 45 = .ok (.ifCond .ne 11, 3) := by decide +kernel
theorem dX4_nextCircle_48 : decode cX4_nextCircle 48 = .ok (.iload 5, 2) := by decide +kernel
theorem dX4_nextCircle_50 : decode cX4_nextCircle 50 = .ok (.ifCond .eq 6, 3) := by decide +kernel
theorem dX4_nextCircle_53 : decode cX4_nextCircle 53 = .ok (.iload 4, 2) := by decide +kernel
theorem dX4_nextCircle_55 : decode cX4_nextCircle 55 = .ok (.ireturn, 1) := by decide +kernel
theorem dX4_nextCircle_56 : decode cX4_nextCircle 56 = .ok (.iinc 3 1, 3) := by decide +kernel
theorem dX4_nextCircle_59 : decode cX4_nextCircle 59 = .ok (.goto (-57), 3) := by decide +kernel
theorem dX4_nextCircle_62 : decode cX4_nextCircle 62 = .ok (.iconst 0, 1) := by decide +kernel
theorem dX4_nextCircle_63 : decode cX4_nextCircle 63 = .ok (.ireturn, 1) := by decide +kernel
set_option maxHeartbeats 4000000 in
set_option maxRecDepth 100000 in
theorem mX4_nextCircle_L1 {p : Program} {l : Launch} {e : Env} {R : Room} {s : State} {m : MethodId} {args : Array Value} {below : List Frame} {meth : Method} {c : Code} {Q : State → Prop} {D : va_G} {U : zz_U} {A : Nat → Prop} {cells slots : Nat} {ad : Nat → Nat} {X : va_W} (C : zz_C p l R s m meth c D U A RX4 cX4_nextCircle 6 (some .int) [] 2) (hcR : cells ≤ R.cells) (hsR : slots ≤ R.slots) (σ : zz_St) (groupTotal_ : Int32) (placed_ : Int32) : ∀ (n : Nat) (group_ : Int32) (q : (Int32 ⊕ (Int32))), fX4_nextCircle_L1 σ groupTotal_ placed_ n group_ = some q → (∀ v : Int32, q = .inl v → zz_Z p l e R s m args below meth c Q D A 6 cells slots (zz_wc U ad σ X) 55 [] [.int v]) → (∀ w : Int32, q = .inr w → zz_Z p l e R s m args below meth c Q D A 6 cells slots (zz_wc U ad σ X) 62 [(0, .ref (ad 41)), (1, .int groupTotal_), (2, .int placed_), (3, .int w)] []) → zz_Z p l e R s m args below meth c Q D A 6 cells slots (zz_wc U ad σ X) 2 [(0, .ref (ad 41)), (1, .int groupTotal_), (2, .int placed_), (3, .int group_)] [] := by
  intro n
  induction n with
  | zero => intro group_ q hf; rw [fX4_nextCircle_L1] at hf; cases hf
  | succ n ih =>
    intro group_ q hf kr kx
    rw [fX4_nextCircle_L1] at hf
    refine zz_iload_n C 3 dX4_nextCircle_2 rfl rfl ?_
    refine zz_iload_n C 1 dX4_nextCircle_3 rfl rfl ?_
    refine zz_icmp_ge (tgt := 62) C dX4_nextCircle_4 (by decide) (fun g1 => ?_) (fun g1 => ?_)
    · rw [if_pos g1] at hf
      cases hf
      exact kx _ rfl
    · rw [if_neg g1] at hf
      refine zz_aload_n C 0 dX4_nextCircle_7 rfl rfl ?_
      refine zz_iload_n C 3 dX4_nextCircle_8 rfl rfl ?_
      refine zz_iload_n C 1 dX4_nextCircle_9 rfl rfl ?_
      obtain ⟨x2, h3, hf⟩ := zz_bind hf
      refine zz_callV1 (As := [.int group_, .int groupTotal_]) (rest := []) C 41 (mX4_circleOf σ group_ groupTotal_ x2 h3) dX4_nextCircle_10 rfl rfl rfl zw_75 zy_X4_circleOf rfl (by decide) (by decide) (Nat.le_of_ble_eq_true rfl) hcR hsR rfl ?_
      refine zz_istore C dX4_nextCircle_13 (by decide) (lv' := [(4, .int x2), (0, .ref (ad 41)), (1, .int groupTotal_), (2, .int placed_), (3, .int group_)]) rfl ?_
      obtain ⟨b4, h5, hf⟩ := zz_bind hf
      refine zz_cut 38 [(4, .int x2), (0, .ref (ad 41)), (1, .int groupTotal_), (2, .int placed_), (3, .int group_)] [.int (zz_bi b4)] (zz_wc U ad σ X) ?_ (fun J6 => ?_)
      · obtain ⟨x10, h11, hf⟩ := zz_bind hf
        refine zz_topi (Option.some.inj h11) ?_
        refine zz_istore C dX4_nextCircle_38 (by decide) (lv' := [(5, .int x10), (4, .int x2), (0, .ref (ad 41)), (1, .int groupTotal_), (2, .int placed_), (3, .int group_)]) rfl ?_
        obtain ⟨b12, h13, hf⟩ := zz_bind hf
        refine zz_cutI (P := b12 = true) 53 [(5, .int x10), (4, .int x2), (0, .ref (ad 41)), (1, .int groupTotal_), (2, .int placed_), (3, .int group_)] [] (zz_wc U ad σ X) (fun g16 => ?_) (fun J14 => ?_)
        · rw [if_pos g16] at hf
          refine zz_iload C 1 dX4_nextCircle_53 rfl ?_
          cases hf
          refine zz_sub [] rfl ?_
          exact kr _ rfl
        refine zz_cutI (P := b12 = false) 56 [(5, .int x10), (4, .int x2), (0, .ref (ad 41)), (1, .int groupTotal_), (2, .int placed_), (3, .int group_)] [] (zz_wc U ad σ X) (fun g16 => ?_) (fun J15 => ?_)
        · rw [if_neg (show ¬ b12 = true by rw [g16]; decide)] at hf
          refine zz_iinc (v := (group_ + (1 : Int32))) C 5 dX4_nextCircle_56 rfl (by rfl) (by decide) (lv' := [(3, .int (group_ + (1 : Int32))), (5, .int x10), (4, .int x2), (0, .ref (ad 41)), (1, .int groupTotal_), (2, .int placed_)]) rfl ?_
          refine zz_goto (tgt := 2) C dX4_nextCircle_59 (by decide) ?_
          refine zz_sub [3, 4, 5, 0] rfl ?_
          exact ih (group_ + (1 : Int32)) _ hf kr kx
        refine zz_iload_n C 5 dX4_nextCircle_40 rfl rfl ?_
        refine zz_iload_n C 4 dX4_nextCircle_41 rfl rfl ?_
        obtain ⟨x17, h18, h13⟩ := zz_bind h13
        refine zz_callSN1 (host := "ChangeUntangler") (As := [.int group_, .int placed_]) (rest := []) C (mX7_isIn σ group_ placed_ x17 h18) dX4_nextCircle_42 rfl (by decide +kernel) zy_X7_isIn rfl (by decide) (by decide) (Nat.le_of_ble_eq_true rfl) hcR hsR rfl ?_
        refine zz_if_ne (tgt := 56) C dX4_nextCircle_45 (by decide) (fun g19 => ?_) (fun g19 => ?_)
        · rw [if_neg g19] at h13
          cases h13
          exact J15 rfl
        · rw [if_pos g19] at h13
          refine zz_iload C 0 dX4_nextCircle_48 rfl ?_
          refine zz_if_eq (tgt := 56) C dX4_nextCircle_50 (by decide) (fun g20 => ?_) (fun g20 => ?_)
          · rw [if_pos g20] at h13
            cases h13
            exact J15 rfl
          · rw [if_neg g20] at h13
            cases h13
            exact J14 rfl
      refine zz_aload_n C 1 dX4_nextCircle_15 rfl rfl ?_
      refine zf4_needed C dX4_nextCircle_16 zw_71 ?_
      refine zz_iload_n C 4 dX4_nextCircle_19 rfl rfl ?_
      obtain ⟨x7, h8, h5⟩ := zz_bind h5
      refine zl_43 C dX4_nextCircle_20 h8 ?_
      refine zz_iload C 0 dX4_nextCircle_21 rfl ?_
      refine zz_iconst (v := (-1 : Int32)) C dX4_nextCircle_23 (by decide) ?_
      refine zz_ixor C dX4_nextCircle_24 ?_
      refine zz_iand C dX4_nextCircle_25 ?_
      refine zz_iload_n C 3 dX4_nextCircle_26 rfl rfl ?_
      refine zz_iconst (v := (-1 : Int32)) C dX4_nextCircle_27 (by decide) ?_
      refine zz_ixor C dX4_nextCircle_28 ?_
      refine zz_iand C dX4_nextCircle_29 ?_
      refine zz_if_ne (tgt := 37) C dX4_nextCircle_30 (by decide) (fun g9 => ?_) (fun g9 => ?_)
      · rw [if_neg g9] at h5
        refine zz_iconst (v := 0) C dX4_nextCircle_37 (by decide) ?_
        cases h5
        exact J6
      · rw [if_pos g9] at h5
        refine zz_iconst (v := 1) C dX4_nextCircle_33 (by decide) ?_
        refine zz_goto (tgt := 38) C dX4_nextCircle_34 (by decide) ?_
        cases h5
        exact J6
set_option maxHeartbeats 4000000 in
set_option maxRecDepth 100000 in
theorem mX4_nextCircle {D : va_G} {U : zz_U} {ad : Nat → Nat} {X : va_W} (σ : zz_St) (groupTotal_ : Int32) (placed_ : Int32) (r : Int32) (hf : fX4_nextCircle σ groupTotal_ placed_ = some r) : zz_Met yX4_nextCircle (.code yX4_nextCircle cX4_nextCircle 6 (some .int)) 2 0 0 D U [.ref (ad 41), .int groupTotal_, .int placed_] (zz_wc U ad σ X) (zz_ok (some (.int r)) (zz_wc U ad σ X)) zz_noth := by
  unfold fX4_nextCircle at hf
  refine zz_method RX4 rfl (by decide +kernel) (Nat.le_of_ble_eq_true rfl) ?_
  intro p l e s m args below meth c A _ C
  refine zz_lvs (lv1 := [(0, .ref (ad 41)), (1, .int groupTotal_), (2, .int placed_)]) rfl ?_
  refine zz_iconst (v := (0 : Int32)) C dX4_nextCircle_0 (by decide) ?_
  refine zz_istore_n C dX4_nextCircle_1 rfl (by decide) (lv' := [(3, .int (0 : Int32)), (0, .ref (ad 41)), (1, .int groupTotal_), (2, .int placed_)]) rfl ?_
  obtain ⟨q21, h22, hf⟩ := zz_bind hf
  refine zz_sub [1, 2, 3, 0] rfl ?_
  refine mX4_nextCircle_L1 C (Nat.le_of_ble_eq_true rfl) (Nat.le_of_ble_eq_true rfl) σ groupTotal_ placed_ 1000 (0 : Int32) q21 h22 (fun v23 h25 => ?_) (fun w24 h25 => ?_)
  · subst h25
    cases hf
    exact zz_iret C dX4_nextCircle_55 (And.intro rfl rfl) (Nat.le_of_ble_eq_true rfl) (Nat.le_of_ble_eq_true rfl)
  · subst h25
    refine zz_iconst (v := (0 : Int32)) C dX4_nextCircle_62 (by decide) ?_
    cases hf
    exact zz_iret C dX4_nextCircle_63 (And.intro rfl rfl) (Nat.le_of_ble_eq_true rfl) (Nat.le_of_ble_eq_true rfl)
theorem dX4_append_0 : decode cX4_append 0 = .ok (.aload_n 0, 1) := by decide +kernel
theorem dX4_append_1 : decode cX4_append 1 = .ok (.getfield 32, 3) := by decide +kernel
theorem dX4_append_4 : decode cX4_append 4 = .ok (.bipush 14, 2) := by decide +kernel
theorem dX4_append_6 : decode cX4_append 6 = .ok (.if_icmp .lt 4, 3) := by decide +kernel
theorem dX4_append_9 : decode cX4_append 9 = .ok (.return_, 1) := by decide +kernel
theorem dX4_append_10 : decode cX4_append 10 = .ok (.aload_n 0, 1) := by decide +kernel
theorem dX4_append_11 : decode cX4_append 11 = .ok (.getfield 9, 3) := by decide +kernel
theorem dX4_append_14 : decode cX4_append 14 = .ok (.aload_n 0, 1) := by decide +kernel
theorem dX4_append_15 : decode cX4_append 15 = .ok (.getfield 32, 3) := by decide +kernel
theorem dX4_append_18 : decode cX4_append 18 = .ok (.iconst 0, 1) := by decide +kernel
theorem dX4_append_19 : decode cX4_append 19 = .ok (.iastore, 1) := by decide +kernel
theorem dX4_append_20 : decode cX4_append 20 = .ok (.iconst 0, 1) := by decide +kernel
theorem dX4_append_21 : decode cX4_append 21 = .ok (.istore_n 3, 1) := by decide +kernel
theorem dX4_append_22 : decode cX4_append 22 = .ok (.iload_n 3, 1) := by decide +kernel
theorem dX4_append_23 : decode cX4_append 23 = .ok (.aload_n 2, 1) := by decide +kernel
theorem dX4_append_24 : decode cX4_append 24 = .ok (.getfield 22, 3) := by decide +kernel
theorem dX4_append_27 : decode cX4_append 27 = .ok (.if_icmp .ge 39, 3) := by decide +kernel
theorem dX4_append_30 : decode cX4_append 30 = .ok (.aload_n 0, 1) := by decide +kernel
theorem dX4_append_31 : decode cX4_append 31 = .ok (.getfield 9, 3) := by decide +kernel
theorem dX4_append_34 : decode cX4_append 34 = .ok (.aload_n 0, 1) := by decide +kernel
theorem dX4_append_35 : decode cX4_append 35 = .ok (.getfield 32, 3) := by decide +kernel
theorem dX4_append_38 : decode cX4_append 38 = .ok (.dup2, 1) := by decide +kernel
theorem dX4_append_39 : decode cX4_append 39 = .ok (.iaload, 1) := by decide +kernel
theorem dX4_append_40 : decode cX4_append 40 = .ok (.iload_n 3, 1) := by decide +kernel
theorem dX4_append_41 : decode cX4_append 41 = .ok (.iload_n 1, 1) := by decide +kernel
theorem dX4_append_42 : decode cX4_append 42 = .ok (.invokestatic 55, 3) := by decide +kernel
theorem dX4_append_45 : decode cX4_append 45 = .ok (.ifCond .eq 12, 3) := by decide +kernel
theorem dX4_append_48 : decode cX4_append 48 = .ok (.aload_n 2, 1) := by decide +kernel
theorem dX4_append_49 : decode cX4_append 49 = .ok (.getfield 44, 3) := by decide +kernel
theorem dX4_append_52 : decode cX4_append 52 = .ok (.iload_n 3, 1) := by decide +kernel
theorem dX4_append_53 : decode cX4_append 53 = .ok (.iaload, 1) := by decide +kernel
theorem dX4_append_54 : decode cX4_append 54 = .ok (.goto 4, 3) := by decide +kernel
theorem dX4_append_57 : decode cX4_append 57 = .ok (.iconst 0, 1) := by decide +kernel
theorem dX4_append_58 : decode cX4_append 58 = .ok (.ior, 1) := by decide +kernel
theorem dX4_append_59 : decode cX4_append 59 = .ok (.iastore, 1) := by decide +kernel
theorem dX4_append_60 : decode cX4_append 60 = .ok (.iinc 3 1, 3) := by decide +kernel
theorem dX4_append_63 : decode cX4_append 63 = .ok (.goto (-41), 3) := by decide +kernel
theorem dX4_append_66 : decode cX4_append 66 = .ok (.aload_n 0, 1) := by decide +kernel
theorem dX4_append_67 : decode cX4_append 67 = .ok (.dup, 1) := by decide +kernel
theorem dX4_append_68 : decode cX4_append 68 = .ok (.getfield 32, 3) := by decide +kernel
theorem dX4_append_71 : decode cX4_append 71 = .ok (.iconst 1, 1) := by decide +kernel
theorem dX4_append_72 : decode cX4_append 72 = .ok (.iadd, 1) := by decide +kernel
theorem dX4_append_73 : decode cX4_append 73 = .ok (.putfield 32, 3) := by decide +kernel
theorem dX4_append_76 : decode cX4_append 76 = .ok (.iload_n 1, 1) := by decide +kernel
theorem dX4_append_77 : decode cX4_append 77 = .ok (.invokestatic 62, 3) := by decide +kernel
theorem dX4_append_80 : decode cX4_append 80 = .ok (.iconst 1, 1) := by decide +kernel
theorem dX4_append_81 : decode cX4_append 81 = .ok (.if_icmp .le 13, 3) := by decide +kernel
theorem dX4_append_84 : decode cX4_append 84 = .ok (.aload_n 0, 1) := by decide +kernel
theorem dX4_append_85 : decode cX4_append 85 = .ok (.dup, 1) := by decide +kernel
theorem dX4_append_86 : decode cX4_append 86 = .ok (.getfield 33, 3) := by decide +kernel
theorem dX4_append_89 : decode cX4_append 89 = .ok (.iconst 1, 1) := by decide +kernel
theorem dX4_append_90 : decode cX4_append 90 = .ok (.iadd, 1) := by decide +kernel
theorem dX4_append_91 : decode cX4_append 91 = .ok (.putfield 33, 3) := by decide +kernel
theorem dX4_append_94 : decode cX4_append 94 = .ok (.return_, 1) := by decide +kernel
set_option maxHeartbeats 4000000 in
set_option maxRecDepth 100000 in
theorem mX4_append_L1 {p : Program} {l : Launch} {e : Env} {R : Room} {s : State} {m : MethodId} {args : Array Value} {below : List Frame} {meth : Method} {c : Code} {Q : State → Prop} {D : va_G} {U : zz_U} {A : Nat → Prop} {cells slots : Nat} {ad : Nat → Nat} {X : va_W} (C : zz_C p l R s m meth c D U A RX4 cX4_append 4 none [] 1) (hcR : cells ≤ R.cells) (hsR : slots ≤ R.slots) (circle_ : Int32) : ∀ (n : Nat) (group_ : Int32) (σ : zz_St) (q : (Int32 × zz_St)), fX4_append_L1 circle_ n group_ σ = some q → (zz_Z p l e R s m args below meth c Q D A 4 cells slots (zz_wc U ad q.2 X) 66 [(0, .ref (ad 41)), (1, .int circle_), (2, .ref (ad 24)), (3, .int q.1)] []) → zz_Z p l e R s m args below meth c Q D A 4 cells slots (zz_wc U ad σ X) 22 [(0, .ref (ad 41)), (1, .int circle_), (2, .ref (ad 24)), (3, .int group_)] [] := by
  intro n
  induction n with
  | zero => intro group_ σ q hf; rw [fX4_append_L1] at hf; cases hf
  | succ n ih =>
    intro group_ σ q hf kx
    rw [fX4_append_L1] at hf
    refine zz_iload_n C 3 dX4_append_22 rfl rfl ?_
    refine zz_aload_n C 2 dX4_append_23 rfl rfl ?_
    refine zf3_count C dX4_append_24 zw_72 ?_
    refine zz_icmp_ge (tgt := 66) C dX4_append_27 (by decide) (fun g4 => ?_) (fun g4 => ?_)
    · rw [if_pos g4] at hf
      cases hf
      exact kx
    · rw [if_neg g4] at hf
      refine zz_aload_n C 0 dX4_append_30 rfl rfl ?_
      refine zf4_sets C dX4_append_31 zw_77 ?_
      refine zz_aload_n C 0 dX4_append_34 rfl rfl ?_
      refine zf4_count C dX4_append_35 zw_76 ?_
      refine zz_dup2_11 C dX4_append_38 rfl rfl ?_
      obtain ⟨x5, h6, hf⟩ := zz_bind hf
      refine zl_42 C dX4_append_39 h6 ?_
      obtain ⟨x7, h8, hf⟩ := zz_bind hf
      refine zz_cut 58 [(0, .ref (ad 41)), (1, .int circle_), (2, .ref (ad 24)), (3, .int group_)] [.int x7, .int x5, .int (σ 41 0), .ref (ad 42)] (zz_wc U ad σ X) ?_ (fun J9 => ?_)
      · refine zz_ior C dX4_append_58 ?_
        obtain ⟨σ15, h16, hf⟩ := zz_bind hf
        refine zs_42 C dX4_append_59 h16 ?_
        refine zz_iinc (v := (group_ + (1 : Int32))) C 3 dX4_append_60 rfl (by rfl) (by decide) (lv' := [(3, .int (group_ + (1 : Int32))), (0, .ref (ad 41)), (1, .int circle_), (2, .ref (ad 24))]) rfl ?_
        refine zz_goto (tgt := 22) C dX4_append_63 (by decide) ?_
        refine zz_sub [1, 2, 3, 0] rfl ?_
        exact ih (group_ + (1 : Int32)) σ15 _ hf kx
      refine zz_iload_n C 3 dX4_append_40 rfl rfl ?_
      refine zz_iload_n C 1 dX4_append_41 rfl rfl ?_
      obtain ⟨x10, h11, h8⟩ := zz_bind h8
      refine zz_callSN1 (host := "ChangeUntangler") (As := [.int group_, .int circle_]) (rest := [.int x5, .int (σ 41 0), .ref (ad 42)]) C (mX7_isIn σ group_ circle_ x10 h11) dX4_append_42 rfl (by decide +kernel) zy_X7_isIn rfl (by decide) (by decide) (Nat.le_of_ble_eq_true rfl) hcR hsR rfl ?_
      refine zz_if_eq (tgt := 57) C dX4_append_45 (by decide) (fun g12 => ?_) (fun g12 => ?_)
      · rw [if_pos g12] at h8
        refine zz_iconst (v := (0 : Int32)) C dX4_append_57 (by decide) ?_
        cases h8
        exact J9
      · rw [if_neg g12] at h8
        refine zz_aload_n C 2 dX4_append_48 rfl rfl ?_
        refine zf3_sets C dX4_append_49 zw_70 ?_
        refine zz_iload_n C 3 dX4_append_52 rfl rfl ?_
        obtain ⟨x13, h14, h8⟩ := zz_bind h8
        refine zl_25 C dX4_append_53 h14 ?_
        refine zz_goto (tgt := 58) C dX4_append_54 (by decide) ?_
        cases h8
        exact J9
set_option maxHeartbeats 4000000 in
set_option maxRecDepth 100000 in
theorem mX4_append {D : va_G} {U : zz_U} {ad : Nat → Nat} {X : va_W} (σ : zz_St) (circle_ : Int32) (r : zz_St) (hf : fX4_append σ circle_ = some r) : zz_Met yX4_append (.code yX4_append cX4_append 4 none) 1 0 0 D U [.ref (ad 41), .int circle_, .ref (ad 24)] (zz_wc U ad σ X) (zz_ok none (zz_wc U ad r X)) zz_noth := by
  unfold fX4_append at hf
  refine zz_method RX4 rfl (by decide +kernel) (Nat.le_of_ble_eq_true rfl) ?_
  intro p l e s m args below meth c A _ C
  refine zz_lvs (lv1 := [(0, .ref (ad 41)), (1, .int circle_), (2, .ref (ad 24))]) rfl ?_
  refine zz_aload_n C 0 dX4_append_0 rfl rfl ?_
  refine zf4_count C dX4_append_1 zw_76 ?_
  refine zz_bipush (v := (14 : Int32)) C dX4_append_4 (by decide) ?_
  refine zz_icmp_lt (tgt := 10) C dX4_append_6 (by decide) (fun g1 => ?_) (fun g1 => ?_)
  · rw [if_pos g1] at hf
    refine zz_aload_n C 0 dX4_append_10 rfl rfl ?_
    refine zf4_sets C dX4_append_11 zw_77 ?_
    refine zz_aload_n C 0 dX4_append_14 rfl rfl ?_
    refine zf4_count C dX4_append_15 zw_76 ?_
    refine zz_iconst (v := (0 : Int32)) C dX4_append_18 (by decide) ?_
    obtain ⟨σ2, h3, hf⟩ := zz_bind hf
    refine zs_42 C dX4_append_19 h3 ?_
    refine zz_iconst (v := (0 : Int32)) C dX4_append_20 (by decide) ?_
    refine zz_istore_n C dX4_append_21 rfl (by decide) (lv' := [(3, .int (0 : Int32)), (0, .ref (ad 41)), (1, .int circle_), (2, .ref (ad 24))]) rfl ?_
    obtain ⟨q17, h18, hf⟩ := zz_bind hf
    refine zz_sub [1, 2, 3, 0] rfl ?_
    refine mX4_append_L1 C (Nat.le_of_ble_eq_true rfl) (Nat.le_of_ble_eq_true rfl) circle_ 1000 (0 : Int32) σ2 q17 h18 ?_
    refine zz_aload_n C 0 dX4_append_66 rfl rfl ?_
    refine zz_dup C dX4_append_67 rfl ?_
    refine zf4_count C dX4_append_68 zw_76 ?_
    refine zz_iconst (v := (1 : Int32)) C dX4_append_71 (by decide) ?_
    refine zz_iadd C dX4_append_72 ?_
    refine zp4_count C dX4_append_73 zw_76 ?_
    obtain ⟨x19, h20, hf⟩ := zz_bind hf
    refine zz_cut 94 [(0, .ref (ad 41)), (1, .int circle_), (2, .ref (ad 24))] [] (zz_wc U ad x19 X) ?_ (fun J21 => ?_)
    · cases hf
      exact zz_vret C dX4_append_94 (And.intro rfl rfl) (Nat.le_of_ble_eq_true rfl) (Nat.le_of_ble_eq_true rfl)
    refine zz_iload_n C 1 dX4_append_76 rfl rfl ?_
    obtain ⟨x22, h23, h20⟩ := zz_bind h20
    refine zz_callS1 (As := [.int circle_]) (rest := []) C (mJ6_bitCount circle_ x22 h23) dX4_append_77 rfl zw_79 zy_J6_bitCount_0f7a4 rfl (by decide) (by decide) (Nat.le_of_ble_eq_true rfl) (Nat.le_of_ble_eq_true rfl) (Nat.le_of_ble_eq_true rfl) rfl ?_
    refine zz_iconst (v := (1 : Int32)) C dX4_append_80 (by decide) ?_
    refine zz_icmp_le (tgt := 94) C dX4_append_81 (by decide) (fun g24 => ?_) (fun g24 => ?_)
    · rw [if_pos g24] at h20
      refine zz_sub [0, 1, 2] rfl ?_
      cases h20
      exact J21
    · rw [if_neg g24] at h20
      refine zz_aload_n C 0 dX4_append_84 rfl rfl ?_
      refine zz_dup C dX4_append_85 rfl ?_
      refine zf4_knotCount C dX4_append_86 zw_78 ?_
      refine zz_iconst (v := (1 : Int32)) C dX4_append_89 (by decide) ?_
      refine zz_iadd C dX4_append_90 ?_
      refine zp4_knotCount C dX4_append_91 zw_78 ?_
      refine zz_sub [0, 1, 2] rfl ?_
      cases h20
      exact J21
  · rw [if_neg g1] at hf
    cases hf
    exact zz_vret C dX4_append_9 (And.intro rfl rfl) (Nat.le_of_ble_eq_true rfl) (Nat.le_of_ble_eq_true rfl)
theorem dX4_build_0 : decode cX4_build 0 = .ok (.aload_n 0, 1) := by decide +kernel
theorem dX4_build_1 : decode cX4_build 1 = .ok (.aload_n 1, 1) := by decide +kernel
theorem dX4_build_2 : decode cX4_build 2 = .ok (.aload_n 2, 1) := by decide +kernel
theorem dX4_build_3 : decode cX4_build 3 = .ok (.aload_n 3, 1) := by decide +kernel
theorem dX4_build_4 : decode cX4_build 4 = .ok (.invokevirtual 18, 3) := by decide +kernel
theorem dX4_build_7 : decode cX4_build 7 = .ok (.aload_n 0, 1) := by decide +kernel
theorem dX4_build_8 : decode cX4_build 8 = .ok (.aload_n 3, 1) := by decide +kernel
theorem dX4_build_9 : decode cX4_build 9 = .ok (.getfield 22, 3) := by decide +kernel
theorem dX4_build_12 : decode cX4_build 12 = .ok (.invokevirtual 28, 3) := by decide +kernel
theorem dX4_build_15 : decode cX4_build 15 = .ok (.aload_n 0, 1) := by decide +kernel
theorem dX4_build_16 : decode cX4_build 16 = .ok (.iconst 0, 1) := by decide +kernel
theorem dX4_build_17 : decode cX4_build 17 = .ok (.putfield 32, 3) := by decide +kernel
theorem dX4_build_20 : decode cX4_build 20 = .ok (.aload_n 0, 1) := by decide +kernel
theorem dX4_build_21 : decode cX4_build 21 = .ok (.iconst 0, 1) := by decide +kernel
theorem dX4_build_22 : decode cX4_build 22 = .ok (.putfield 33, 3) := by decide +kernel
theorem dX4_build_25 : decode cX4_build 25 = .ok (.iconst 0, 1) := by decide +kernel
theorem dX4_build_26 : decode cX4_build 26 = .ok (.istore 4, 2) := by decide +kernel
theorem dX4_build_28 : decode cX4_build 28 = .ok (.iconst 0, 1) := by decide +kernel
theorem dX4_build_29 : decode cX4_build 29 = .ok (.istore 5, 2) := by decide +kernel
theorem dX4_build_31 : decode cX4_build 31 = .ok (.iload 5, 2) := by decide +kernel
theorem dX4_build_33 : decode cX4_build 33 = .ok (.aload_n 3, 1) := by decide +kernel
theorem dX4_build_34 : decode cX4_build 34 = .ok (.getfield 22, 3) := by decide +kernel
theorem dX4_build_37 : decode cX4_build 37 = .ok (.if_icmp .ge 40, 3) := by decide +kernel
theorem dX4_build_40 : decode cX4_build 40 = .ok (.aload_n 0, 1) := by decide +kernel
theorem dX4_build_41 : decode cX4_build 41 = .ok (.aload_n 3, 1) := by decide +kernel
theorem dX4_build_42 : decode cX4_build 42 = .ok (.getfield 22, 3) := by decide +kernel
theorem dX4_build_45 : decode cX4_build 45 = .ok (.iload 4, 2) := by decide +kernel
theorem dX4_build_47 : decode cX4_build 47 = .ok (.invokevirtual 36, 3) := by decide +kernel
theorem dX4_build_50 : decode cX4_build 50 = .ok (.istore 6, 2) := by decide +kernel
theorem dX4_build_52 : decode cX4_build 52 = .ok (.iload 6, 2) := by decide +kernel
theorem dX4_build_54 : decode cX4_build 54 = .ok (.ifCond .eq 17, 3) := by decide +kernel
theorem dX4_build_57 : decode cX4_build 57 = .ok (.iload 4, 2) := by decide +kernel
theorem dX4_build_59 : decode cX4_build 59 = .ok (.iload 6, 2) := by decide +kernel
theorem dX4_build_61 : decode cX4_build 61 = .ok (.ior, 1) := by decide +kernel
theorem dX4_build_62 : decode cX4_build 62 = .ok (.istore 4, 2) := by decide +kernel
theorem dX4_build_64 : decode cX4_build 64 = .ok (.aload_n 0, 1) := by decide +kernel
theorem dX4_build_65 : decode cX4_build 65 = .ok (.iload 6, 2) := by decide +kernel
theorem dX4_build_67 : decode cX4_build 67 = .ok (.aload_n 3, 1) := by decide +kernel
theorem dX4_build_68 : decode cX4_build 68 = .ok (.invokevirtual 40, 3) := by decide +kernel
theorem dX4_build_71 : decode cX4_build 71 = .ok (.iinc 5 1, 3) := by decide +kernel
theorem dX4_build_74 : decode cX4_build 74 = .ok (.goto (-43), 3) := by decide +kernel
theorem dX4_build_77 : decode cX4_build 77 = .ok (.return_, 1) := by decide +kernel
set_option maxHeartbeats 4000000 in
set_option maxRecDepth 100000 in
theorem mX4_build_L1 {p : Program} {l : Launch} {e : Env} {R : Room} {s : State} {m : MethodId} {args : Array Value} {below : List Frame} {meth : Method} {c : Code} {Q : State → Prop} {D : va_G} {U : zz_U} {A : Nat → Prop} {cells slots : Nat} {ad : Nat → Nat} {X : va_W} (C : zz_C p l R s m meth c D U A RX4 cX4_build 7 none [] 3) (hcR : cells ≤ R.cells) (hsR : slots ≤ R.slots) : ∀ (n : Nat) (placed_ : Int32) (round_ : Int32) (σ : zz_St) (q : (Int32 × Int32 × zz_St)), fX4_build_L1 n placed_ round_ σ = some q → (zz_Z p l e R s m args below meth c Q D A 7 cells slots (zz_wc U ad q.2.2 X) 77 [(0, .ref (ad 41)), (1, .ref (ad 1)), (2, .ref (ad 17)), (3, .ref (ad 24)), (4, .int q.1), (5, .int q.2.1)] []) → zz_Z p l e R s m args below meth c Q D A 7 cells slots (zz_wc U ad σ X) 31 [(0, .ref (ad 41)), (1, .ref (ad 1)), (2, .ref (ad 17)), (3, .ref (ad 24)), (4, .int placed_), (5, .int round_)] [] := by
  intro n
  induction n with
  | zero => intro placed_ round_ σ q hf; rw [fX4_build_L1] at hf; cases hf
  | succ n ih =>
    intro placed_ round_ σ q hf kx
    rw [fX4_build_L1] at hf
    refine zz_iload C 5 dX4_build_31 rfl ?_
    refine zz_aload_n C 3 dX4_build_33 rfl rfl ?_
    refine zf3_count C dX4_build_34 zw_72 ?_
    refine zz_icmp_ge (tgt := 77) C dX4_build_37 (by decide) (fun g5 => ?_) (fun g5 => ?_)
    · rw [if_pos g5] at hf
      cases hf
      exact kx
    · rw [if_neg g5] at hf
      refine zz_aload_n C 0 dX4_build_40 rfl rfl ?_
      refine zz_aload_n C 3 dX4_build_41 rfl rfl ?_
      refine zf3_count C dX4_build_42 zw_72 ?_
      refine zz_iload C 4 dX4_build_45 rfl ?_
      obtain ⟨x6, h7, hf⟩ := zz_bind hf
      refine zz_callV1 (As := [.int (σ 24 2), .int placed_]) (rest := []) C 41 (mX4_nextCircle σ (σ 24 2) placed_ x6 h7) dX4_build_47 rfl rfl rfl zw_81 zy_X4_nextCircle rfl (by decide) (by decide) (Nat.le_of_ble_eq_true rfl) hcR hsR rfl ?_
      refine zz_istore C dX4_build_50 (by decide) (lv' := [(6, .int x6), (0, .ref (ad 41)), (1, .ref (ad 1)), (2, .ref (ad 17)), (3, .ref (ad 24)), (4, .int placed_), (5, .int round_)]) rfl ?_
      obtain ⟨x8, h9, hf⟩ := zz_bind hf
      refine zz_cut 71 [(0, .ref (ad 41)), (1, .ref (ad 1)), (2, .ref (ad 17)), (3, .ref (ad 24)), (4, .int x8.1), (5, .int round_), (6, .int x6)] [] (zz_wc U ad x8.2 X) ?_ (fun J10 => ?_)
      · refine zz_iinc (v := (round_ + (1 : Int32))) C 5 dX4_build_71 rfl (by rfl) (by decide) (lv' := [(5, .int (round_ + (1 : Int32))), (0, .ref (ad 41)), (1, .ref (ad 1)), (2, .ref (ad 17)), (3, .ref (ad 24)), (4, .int x8.1), (6, .int x6)]) rfl ?_
        refine zz_goto (tgt := 31) C dX4_build_74 (by decide) ?_
        refine zz_sub [1, 2, 3, 4, 5, 0] rfl ?_
        exact ih x8.1 (round_ + (1 : Int32)) x8.2 _ hf kx
      refine zz_iload C 0 dX4_build_52 rfl ?_
      refine zz_if_eq (tgt := 71) C dX4_build_54 (by decide) (fun g11 => ?_) (fun g11 => ?_)
      · rw [if_pos g11] at h9
        refine zz_sub [1, 2, 3, 4, 5, 6, 0] rfl ?_
        cases h9
        exact J10
      · rw [if_neg g11] at h9
        refine zz_iload C 5 dX4_build_57 rfl ?_
        refine zz_iload C 0 dX4_build_59 rfl ?_
        refine zz_ior C dX4_build_61 ?_
        obtain ⟨x12, h13, h9⟩ := zz_bind h9
        refine zz_topi (Option.some.inj h13) ?_
        refine zz_istore C dX4_build_62 (by decide) (lv' := [(4, .int x12), (6, .int x6), (0, .ref (ad 41)), (1, .ref (ad 1)), (2, .ref (ad 17)), (3, .ref (ad 24)), (5, .int round_)]) rfl ?_
        refine zz_aload_n C 2 dX4_build_64 rfl rfl ?_
        refine zz_iload C 1 dX4_build_65 rfl ?_
        refine zz_aload_n C 5 dX4_build_67 rfl rfl ?_
        obtain ⟨x14, h15, h9⟩ := zz_bind h9
        refine zz_callV1 (As := [.int x6, .ref (ad 24)]) (rest := []) C 41 (mX4_append σ x6 x14 h15) dX4_build_68 rfl rfl rfl zw_80 zy_X4_append rfl (by decide) (by decide) (Nat.le_of_ble_eq_true rfl) hcR hsR rfl ?_
        refine zz_sub [2, 3, 4, 5, 0, 6, 1] rfl ?_
        cases h9
        exact J10
set_option maxHeartbeats 4000000 in
set_option maxRecDepth 100000 in
theorem mX4_build {D : va_G} {U : zz_U} {ad : Nat → Nat} {X : va_W} (σ : zz_St) (r : zz_St) (hf : fX4_build σ = some r) : zz_Met yX4_build (.code yX4_build cX4_build 7 none) 3 0 0 D U [.ref (ad 41), .ref (ad 1), .ref (ad 17), .ref (ad 24)] (zz_wc U ad σ X) (zz_ok none (zz_wc U ad r X)) zz_noth := by
  unfold fX4_build at hf
  refine zz_method RX4 rfl (by decide +kernel) (Nat.le_of_ble_eq_true rfl) ?_
  intro p l e s m args below meth c A _ C
  refine zz_lvs (lv1 := [(0, .ref (ad 41)), (1, .ref (ad 1)), (2, .ref (ad 17)), (3, .ref (ad 24))]) rfl ?_
  refine zz_aload_n C 0 dX4_build_0 rfl rfl ?_
  refine zz_aload_n C 1 dX4_build_1 rfl rfl ?_
  refine zz_aload_n C 2 dX4_build_2 rfl rfl ?_
  refine zz_aload_n C 3 dX4_build_3 rfl rfl ?_
  obtain ⟨x1, h2, hf⟩ := zz_bind hf
  refine zz_callV1 (As := [.ref (ad 1), .ref (ad 17), .ref (ad 24)]) (rest := []) C 41 (mX4_findNeeds σ x1 h2) dX4_build_4 rfl rfl rfl zw_83 zy_X4_findNeeds rfl (by decide) (by decide) (Nat.le_of_ble_eq_true rfl) (Nat.le_of_ble_eq_true rfl) (Nat.le_of_ble_eq_true rfl) rfl ?_
  refine zz_aload_n C 0 dX4_build_7 rfl rfl ?_
  refine zz_aload_n C 3 dX4_build_8 rfl rfl ?_
  refine zf3_count C dX4_build_9 zw_72 ?_
  obtain ⟨x3, h4, hf⟩ := zz_bind hf
  refine zz_callV1 (As := [.int (x1 24 2)]) (rest := []) C 41 (mX4_needByWayOfOthers x1 (x1 24 2) x3 h4) dX4_build_12 rfl rfl rfl zw_82 zy_X4_needByWayOfOthers rfl (by decide) (by decide) (Nat.le_of_ble_eq_true rfl) (Nat.le_of_ble_eq_true rfl) (Nat.le_of_ble_eq_true rfl) rfl ?_
  refine zz_aload_n C 0 dX4_build_15 rfl rfl ?_
  refine zz_iconst (v := (0 : Int32)) C dX4_build_16 (by decide) ?_
  refine zp4_count C dX4_build_17 zw_76 ?_
  refine zz_aload_n C 0 dX4_build_20 rfl rfl ?_
  refine zz_iconst (v := (0 : Int32)) C dX4_build_21 (by decide) ?_
  refine zp4_knotCount C dX4_build_22 zw_78 ?_
  refine zz_iconst (v := (0 : Int32)) C dX4_build_25 (by decide) ?_
  refine zz_istore C dX4_build_26 (by decide) (lv' := [(4, .int (0 : Int32)), (0, .ref (ad 41)), (1, .ref (ad 1)), (2, .ref (ad 17)), (3, .ref (ad 24))]) rfl ?_
  refine zz_iconst (v := (0 : Int32)) C dX4_build_28 (by decide) ?_
  refine zz_istore C dX4_build_29 (by decide) (lv' := [(5, .int (0 : Int32)), (4, .int (0 : Int32)), (0, .ref (ad 41)), (1, .ref (ad 1)), (2, .ref (ad 17)), (3, .ref (ad 24))]) rfl ?_
  obtain ⟨q16, h17, hf⟩ := zz_bind hf
  refine zz_sub [2, 3, 4, 5, 1, 0] rfl ?_
  refine mX4_build_L1 C (Nat.le_of_ble_eq_true rfl) (Nat.le_of_ble_eq_true rfl) 1000 (0 : Int32) (0 : Int32) (zz_u (zz_u x3 41 0 (0 : Int32)) 41 1 (0 : Int32)) q16 h17 ?_
  cases hf
  exact zz_vret C dX4_build_77 (And.intro rfl rfl) (Nat.le_of_ble_eq_true rfl) (Nat.le_of_ble_eq_true rfl)
theorem dX7_putTogether_0 : decode cX7_putTogether 0 = .ok (.aload_n 0, 1) := by decide +kernel
theorem dX7_putTogether_1 : decode cX7_putTogether 1 = .ok (.getfield 267, 3) := by decide +kernel
theorem dX7_putTogether_4 : decode cX7_putTogether 4 = .ok (.ifCond .ne 60, 3) := by decide +kernel
theorem dX7_putTogether_7 : decode cX7_putTogether 7 = .ok (.aload_n 0, 1) := by decide +kernel
theorem dX7_putTogether_8 : decode cX7_putTogether 8 = .ok (.getfield 40, 3) := by decide +kernel
theorem dX7_putTogether_11 : decode cX7_putTogether 11 = .ok (.aload_n 0, 1) := by decide +kernel
theorem dX7_putTogether_12 : decode cX7_putTogether 12 = .ok (.getfield 12, 3) := by decide +kernel
theorem dX7_putTogether_15 : decode cX7_putTogether 15 = .ok (.aload_n 0, 1) := by decide +kernel
theorem dX7_putTogether_16 : decode cX7_putTogether 16 = .ok (.getfield 26, 3) := by decide +kernel
theorem dX7_putTogether_19 : decode cX7_putTogether 19 = .ok (.invokevirtual 274, 3) := by decide +kernel
theorem dX7_putTogether_22 : decode cX7_putTogether 22 = .ok (.aload_n 0, 1) := by decide +kernel
theorem dX7_putTogether_23 : decode cX7_putTogether 23 = .ok (.getfield 40, 3) := by decide +kernel
theorem dX7_putTogether_26 : decode cX7_putTogether 26 = .ok (.aload_n 0, 1) := by decide +kernel
theorem dX7_putTogether_27 : decode cX7_putTogether 27 = .ok (.getfield 12, 3) := by decide +kernel
theorem dX7_putTogether_30 : decode cX7_putTogether 30 = .ok (.getfield 71, 3) := by decide +kernel
theorem dX7_putTogether_33 : decode cX7_putTogether 33 = .ok (.aload_n 0, 1) := by decide +kernel
theorem dX7_putTogether_34 : decode cX7_putTogether 34 = .ok (.getfield 33, 3) := by decide +kernel
theorem dX7_putTogether_37 : decode cX7_putTogether 37 = .ok (.invokevirtual 278, 3) := by decide +kernel
theorem dX7_putTogether_40 : decode cX7_putTogether 40 = .ok (.aload_n 0, 1) := by decide +kernel
theorem dX7_putTogether_41 : decode cX7_putTogether 41 = .ok (.getfield 47, 3) := by decide +kernel
theorem dX7_putTogether_44 : decode cX7_putTogether 44 = .ok (.aload_n 0, 1) := by decide +kernel
theorem dX7_putTogether_45 : decode cX7_putTogether 45 = .ok (.getfield 12, 3) := by decide +kernel
theorem dX7_putTogether_48 : decode cX7_putTogether 48 = .ok (.aload_n 0, 1) := by decide +kernel
theorem dX7_putTogether_49 : decode cX7_putTogether 49 = .ok (.getfield 19, 3) := by decide +kernel
theorem dX7_putTogether_52 : decode cX7_putTogether 52 = .ok (.aload_n 0, 1) := by decide +kernel
theorem dX7_putTogether_53 : decode cX7_putTogether 53 = .ok (.getfield 40, 3) := by decide +kernel
theorem dX7_putTogether_56 : decode cX7_putTogether 56 = .ok (.invokevirtual 282, 3) := by decide +kernel
theorem dX7_putTogether_59 : decode cX7_putTogether 59 = .ok (.aload_n 0, 1) := by decide +kernel
theorem dX7_putTogether_60 : decode cX7_putTogether 60 = .ok (.iconst 1, 1) := by decide +kernel
theorem dX7_putTogether_61 : decode cX7_putTogether 61 = .ok (.putfield 267, 3) := by decide +kernel
theorem dX7_putTogether_64 : decode cX7_putTogether 64 = .ok (.return_, 1) := by decide +kernel
set_option maxHeartbeats 4000000 in
set_option maxRecDepth 100000 in
theorem mX7_putTogether {D : va_G} {U : zz_U} {ad : Nat → Nat} {X : va_W} (σ : zz_St) (r : zz_St) (hf : fX7_putTogether σ = some r) : zz_Met yX7_putTogether (.code yX7_putTogether cX7_putTogether 1 none) 5 0 0 D U [.ref (ad 0)] (zz_wc U ad σ X) (zz_ok none (zz_wc U ad r X)) zz_noth := by
  unfold fX7_putTogether at hf
  refine zz_method RX7 rfl (by decide +kernel) (Nat.le_of_ble_eq_true rfl) ?_
  intro p l e s m args below meth c A _ C
  refine zz_lvs (lv1 := [(0, .ref (ad 0))]) rfl ?_
  obtain ⟨x1, h2, hf⟩ := zz_bind hf
  refine zz_cut 64 [(0, .ref (ad 0))] [] (zz_wc U ad x1 X) ?_ (fun J3 => ?_)
  · cases hf
    exact zz_vret C dX7_putTogether_64 (And.intro rfl rfl) (Nat.le_of_ble_eq_true rfl) (Nat.le_of_ble_eq_true rfl)
  refine zz_aload_n C 0 dX7_putTogether_0 rfl rfl ?_
  refine zf7_isPutTogether C dX7_putTogether_1 zw_2 ?_
  refine zz_if_ne (tgt := 64) C dX7_putTogether_4 (by decide) (fun g4 => ?_) (fun g4 => ?_)
  · rw [if_neg g4] at h2
    cases h2
    exact J3
  · rw [if_pos g4] at h2
    refine zz_aload_n C 0 dX7_putTogether_7 rfl rfl ?_
    refine zf7_groups C dX7_putTogether_8 zw_25 ?_
    refine zz_aload_n C 0 dX7_putTogether_11 rfl rfl ?_
    refine zf7_pieces C dX7_putTogether_12 zw_10 ?_
    refine zz_aload_n C 0 dX7_putTogether_15 rfl rfl ?_
    refine zf7_evidence C dX7_putTogether_16 zw_88 ?_
    obtain ⟨x5, h6, h2⟩ := zz_bind h2
    refine zz_callV1 (As := [.ref (ad 1), .ref (ad 19)]) (rest := []) C 24 (mX3_weighAll σ x5 h6) dX7_putTogether_19 rfl rfl rfl zw_87 zy_X3_weighAll rfl (by decide) (by decide) (Nat.le_of_ble_eq_true rfl) (Nat.le_of_ble_eq_true rfl) (Nat.le_of_ble_eq_true rfl) rfl ?_
    refine zz_aload_n C 0 dX7_putTogether_22 rfl rfl ?_
    refine zf7_groups C dX7_putTogether_23 zw_25 ?_
    refine zz_aload_n C 0 dX7_putTogether_26 rfl rfl ?_
    refine zf7_pieces C dX7_putTogether_27 zw_10 ?_
    refine zf5_count C dX7_putTogether_30 zw_12 ?_
    refine zz_aload_n C 0 dX7_putTogether_33 rfl rfl ?_
    refine zf7_sayings C dX7_putTogether_34 zw_32 ?_
    obtain ⟨x7, h8, h2⟩ := zz_bind h2
    refine zz_callV1 (As := [.int (x5 1 0), .ref (ad 21)]) (rest := []) C 24 (mX3_build x5 (x5 1 0) x7 h8) dX7_putTogether_37 rfl rfl rfl zw_86 zy_X3_build rfl (by decide) (by decide) (Nat.le_of_ble_eq_true rfl) (Nat.le_of_ble_eq_true rfl) (Nat.le_of_ble_eq_true rfl) rfl ?_
    refine zz_aload_n C 0 dX7_putTogether_40 rfl rfl ?_
    refine zf7_parcels C dX7_putTogether_41 zw_85 ?_
    refine zz_aload_n C 0 dX7_putTogether_44 rfl rfl ?_
    refine zf7_pieces C dX7_putTogether_45 zw_10 ?_
    refine zz_aload_n C 0 dX7_putTogether_48 rfl rfl ?_
    refine zf7_code C dX7_putTogether_49 zw_23 ?_
    refine zz_aload_n C 0 dX7_putTogether_52 rfl rfl ?_
    refine zf7_groups C dX7_putTogether_53 zw_25 ?_
    obtain ⟨x9, h10, h2⟩ := zz_bind h2
    refine zz_callV1 (As := [.ref (ad 1), .ref (ad 17), .ref (ad 24)]) (rest := []) C 41 (mX4_build x7 x9 h10) dX7_putTogether_56 rfl rfl rfl zw_84 zy_X4_build rfl (by decide) (by decide) (Nat.le_of_ble_eq_true rfl) (Nat.le_of_ble_eq_true rfl) (Nat.le_of_ble_eq_true rfl) rfl ?_
    refine zz_aload_n C 0 dX7_putTogether_59 rfl rfl ?_
    refine zz_iconst (v := (1 : Int32)) C dX7_putTogether_60 (by decide) ?_
    refine zp7_isPutTogether C dX7_putTogether_61 zw_2 (Or.inr rfl) ?_
    cases h2
    exact J3
theorem dX7_groupCount_0 : decode cX7_groupCount 0 = .ok (.aload_n 0, 1) := by decide +kernel
theorem dX7_groupCount_1 : decode cX7_groupCount 1 = .ok (.invokevirtual 176, 3) := by decide +kernel
theorem dX7_groupCount_4 : decode cX7_groupCount 4 = .ok (.aload_n 0, 1) := by decide +kernel
theorem dX7_groupCount_5 : decode cX7_groupCount 5 = .ok (.getfield 40, 3) := by decide +kernel
theorem dX7_groupCount_8 : decode cX7_groupCount 8 = .ok (.getfield 179, 3) := by decide +kernel
theorem dX7_groupCount_11 : decode cX7_groupCount 11 = .ok (.ireturn, 1) := by decide +kernel
set_option maxHeartbeats 4000000 in
set_option maxRecDepth 100000 in
theorem mX7_groupCount {D : va_G} {U : zz_U} {ad : Nat → Nat} {X : va_W} (σ : zz_St) (r : (Int32 × zz_St)) (hf : fX7_groupCount σ = some r) : zz_Met yX7_groupCount (.code yX7_groupCount cX7_groupCount 1 (some .int)) 6 0 0 D U [.ref (ad 0)] (zz_wc U ad σ X) (zz_ok (some (.int r.1)) (zz_wc U ad r.2 X)) zz_noth := by
  unfold fX7_groupCount at hf
  refine zz_method RX7 rfl (by decide +kernel) (Nat.le_of_ble_eq_true rfl) ?_
  intro p l e s m args below meth c A _ C
  refine zz_lvs (lv1 := [(0, .ref (ad 0))]) rfl ?_
  refine zz_aload_n C 0 dX7_groupCount_0 rfl rfl ?_
  obtain ⟨x1, h2, hf⟩ := zz_bind hf
  refine zz_callV1 (As := []) (rest := []) C 0 (mX7_putTogether σ x1 h2) dX7_groupCount_1 rfl rfl rfl zw_90 zy_X7_putTogether rfl (by decide) (by decide) (Nat.le_of_ble_eq_true rfl) (Nat.le_of_ble_eq_true rfl) (Nat.le_of_ble_eq_true rfl) rfl ?_
  refine zz_aload_n C 0 dX7_groupCount_4 rfl rfl ?_
  refine zf7_groups C dX7_groupCount_5 zw_25 ?_
  refine zf3_count C dX7_groupCount_8 zw_89 ?_
  cases hf
  exact zz_iret C dX7_groupCount_11 (And.intro rfl rfl) (Nat.le_of_ble_eq_true rfl) (Nat.le_of_ble_eq_true rfl)
theorem dX7_requireGroup_0 : decode cX7_requireGroup 0 = .ok (.aload_n 0, 1) := by decide +kernel
theorem dX7_requireGroup_1 : decode cX7_requireGroup 1 = .ok (.invokevirtual 176, 3) := by decide +kernel
theorem dX7_requireGroup_4 : decode cX7_requireGroup 4 = .ok (.iload_n 1, 1) := by decide +kernel
theorem dX7_requireGroup_5 : decode cX7_requireGroup 5 = .ok (.ifCond .lt 14, 3) := by decide +kernel
theorem dX7_requireGroup_8 : decode cX7_requireGroup 8 = .ok (.iload_n 1, 1) := by decide +kernel
theorem dX7_requireGroup_9 : decode cX7_requireGroup 9 = .ok (.aload_n 0, 1) := by decide +kernel
theorem dX7_requireGroup_10 : decode cX7_requireGroup 10 = .ok (.getfield 40, 3) := by decide +kernel
theorem dX7_requireGroup_13 : decode cX7_requireGroup 13 = .ok (.getfield 179, 3) := by decide +kernel
theorem dX7_requireGroup_16 : decode cX7_requireGroup 16 = .ok (.if_icmp .lt 14, 3) := by decide +kernel
theorem dX7_requireGroup_19 : decode cX7_requireGroup 19 = .ok (.new 102, 3) := by decide +kernel
theorem dX7_requireGroup_22 : decode cX7_requireGroup 22 = .ok (.dup, 1) := by decide +kernel
theorem dX7_requireGroup_23 : decode cX7_requireGroup 23 = .ok (.ldc_w 304, 3) := by decide +kernel
theorem dX7_requireGroup_26 : decode cX7_requireGroup 26 = .ok (.invokespecial 106, 3) := by decide +kernel
theorem dX7_requireGroup_29 : decode cX7_requireGroup 29 = .ok (.athrow, 1) := by decide +kernel
theorem dX7_requireGroup_30 : decode cX7_requireGroup 30 = .ok (.return_, 1) := by decide +kernel
set_option maxHeartbeats 4000000 in
set_option maxRecDepth 100000 in
theorem mX7_requireGroup {D : va_G} {U : zz_U} {ad : Nat → Nat} {X : va_W} (σ : zz_St) (group_ : Int32) (r : ((Unit ⊕ String) × zz_St)) (hf : fX7_requireGroup σ group_ = some r) : zz_Met yX7_requireGroup (.code yX7_requireGroup cX7_requireGroup 2 none) 6 1 6 D U [.ref (ad 0), .int group_] (zz_wc U ad σ X) (match r.1 with | .inl _ => zz_ok none (zz_wc U ad r.2 X) | .inr _ => zz_none) (match r.1 with | .inl _ => zz_noth | .inr E => zz_th E (zz_wc U ad r.2 X)) := by
  unfold fX7_requireGroup at hf
  refine zz_method RX7 rfl (by decide +kernel) (Nat.le_of_ble_eq_true rfl) ?_
  intro p l e s m args below meth c A _ C
  refine zz_lvs (lv1 := [(0, .ref (ad 0)), (1, .int group_)]) rfl ?_
  refine zz_aload_n C 0 dX7_requireGroup_0 rfl rfl ?_
  obtain ⟨x1, h2, hf⟩ := zz_bind hf
  refine zz_callV1 (As := []) (rest := []) C 0 (mX7_putTogether σ x1 h2) dX7_requireGroup_1 rfl rfl rfl zw_90 zy_X7_putTogether rfl (by decide) (by decide) (Nat.le_of_ble_eq_true rfl) (Nat.le_of_ble_eq_true rfl) (Nat.le_of_ble_eq_true rfl) rfl ?_
  obtain ⟨b3, h4, hf⟩ := zz_bind hf
  refine zz_cutI (P := b3 = true) 19 [(0, .ref (ad 0)), (1, .int group_)] [] (zz_wc U ad x1 X) (fun g7 => ?_) (fun J5 => ?_)
  · rw [if_pos g7] at hf
    cases hf
    exact zz_throwSW (cls := "java/lang/IndexOutOfBoundsException") (text := "no such group") C zt_2 (by decide +kernel) dX7_requireGroup_19 dX7_requireGroup_22 dX7_requireGroup_23 dX7_requireGroup_26 dX7_requireGroup_29 (by decide) (Nat.le_of_ble_eq_true rfl) (Nat.le_of_ble_eq_true rfl) (Nat.le_of_ble_eq_true rfl) (Nat.le_of_ble_eq_true rfl) (Nat.le_of_ble_eq_true rfl) (And.intro rfl rfl)
  refine zz_cutI (P := b3 = false) 30 [(0, .ref (ad 0)), (1, .int group_)] [] (zz_wc U ad x1 X) (fun g7 => ?_) (fun J6 => ?_)
  · rw [if_neg (show ¬ b3 = true by rw [g7]; decide)] at hf
    cases hf
    exact zz_vret C dX7_requireGroup_30 (And.intro rfl rfl) (Nat.le_of_ble_eq_true rfl) (Nat.le_of_ble_eq_true rfl)
  refine zz_iload_n C 1 dX7_requireGroup_4 rfl rfl ?_
  refine zz_if_lt (tgt := 19) C dX7_requireGroup_5 (by decide) (fun g8 => ?_) (fun g8 => ?_)
  · rw [if_pos g8] at h4
    cases h4
    exact J5 rfl
  · rw [if_neg g8] at h4
    refine zz_iload_n C 1 dX7_requireGroup_8 rfl rfl ?_
    refine zz_aload_n C 0 dX7_requireGroup_9 rfl rfl ?_
    refine zf7_groups C dX7_requireGroup_10 zw_25 ?_
    refine zf3_count C dX7_requireGroup_13 zw_89 ?_
    refine zz_icmp_lt (tgt := 30) C dX7_requireGroup_16 (by decide) (fun g9 => ?_) (fun g9 => ?_)
    · rw [if_pos g9] at h4
      cases h4
      exact J6 rfl
    · rw [if_neg g9] at h4
      cases h4
      exact J5 rfl
theorem mX7_requireGroup_r {D : va_G} {U : zz_U} {ad : Nat → Nat} {X : va_W} (σ : zz_St) (group_ : Int32) (x : Unit) (σ1 : zz_St) (hf : fX7_requireGroup σ group_ = some (.inl x, σ1)) : zz_Met yX7_requireGroup (.code yX7_requireGroup cX7_requireGroup 2 none) 6 1 6 D U [.ref (ad 0), .int group_] (zz_wc U ad σ X) (zz_ok none (zz_wc U ad σ1 X)) zz_noth := mX7_requireGroup σ group_ (.inl x, σ1) hf
theorem mX7_requireGroup_x {D : va_G} {U : zz_U} {ad : Nat → Nat} {X : va_W} (σ : zz_St) (group_ : Int32) (x : String) (σ1 : zz_St) (hf : fX7_requireGroup σ group_ = some (.inr x, σ1)) : zz_Met yX7_requireGroup (.code yX7_requireGroup cX7_requireGroup 2 none) 6 1 6 D U [.ref (ad 0), .int group_] (zz_wc U ad σ X) zz_none (zz_th x (zz_wc U ad σ1 X)) := mX7_requireGroup σ group_ (.inr x, σ1) hf
theorem dX7_group_0 : decode cX7_group 0 = .ok (.aload_n 0, 1) := by decide +kernel
theorem dX7_group_1 : decode cX7_group 1 = .ok (.iload_n 1, 1) := by decide +kernel
theorem dX7_group_2 : decode cX7_group 2 = .ok (.invokevirtual 180, 3) := by decide +kernel
theorem dX7_group_5 : decode cX7_group 5 = .ok (.aload_n 0, 1) := by decide +kernel
theorem dX7_group_6 : decode cX7_group 6 = .ok (.getfield 40, 3) := by decide +kernel
theorem dX7_group_9 : decode cX7_group 9 = .ok (.getfield 183, 3) := by decide +kernel
theorem dX7_group_12 : decode cX7_group 12 = .ok (.iload_n 1, 1) := by decide +kernel
theorem dX7_group_13 : decode cX7_group 13 = .ok (.iaload, 1) := by decide +kernel
theorem dX7_group_14 : decode cX7_group 14 = .ok (.ireturn, 1) := by decide +kernel
set_option maxHeartbeats 4000000 in
set_option maxRecDepth 100000 in
theorem mX7_group {D : va_G} {U : zz_U} {ad : Nat → Nat} {X : va_W} (σ : zz_St) (group_ : Int32) (r : ((Int32 ⊕ String) × zz_St)) (hf : fX7_group σ group_ = some r) : zz_Met yX7_group (.code yX7_group cX7_group 2 (some .int)) 7 1 6 D U [.ref (ad 0), .int group_] (zz_wc U ad σ X) (match r.1 with | .inl x => zz_ok (some (.int x)) (zz_wc U ad r.2 X) | .inr _ => zz_none) (match r.1 with | .inl _ => zz_noth | .inr E => zz_th E (zz_wc U ad r.2 X)) := by
  unfold fX7_group at hf
  refine zz_method RX7 rfl (by decide +kernel) (Nat.le_of_ble_eq_true rfl) ?_
  intro p l e s m args below meth c A _ C
  refine zz_lvs (lv1 := [(0, .ref (ad 0)), (1, .int group_)]) rfl ?_
  refine zz_aload_n C 0 dX7_group_0 rfl rfl ?_
  refine zz_iload_n C 1 dX7_group_1 rfl rfl ?_
  obtain ⟨⟨x1, σ4⟩, h2, hf⟩ := zz_bind hf
  rcases x1 with x1 | E3
  · try dsimp only at hf
    refine zz_callV1 (As := [.int group_]) (rest := []) C 0 (mX7_requireGroup_r σ group_ x1 σ4 h2) dX7_group_2 rfl rfl rfl zw_92 zy_X7_requireGroup rfl (by decide) (by decide) (Nat.le_of_ble_eq_true rfl) (Nat.le_of_ble_eq_true rfl) (Nat.le_of_ble_eq_true rfl) rfl ?_
    refine zz_aload_n C 0 dX7_group_5 rfl rfl ?_
    refine zf7_groups C dX7_group_6 zw_25 ?_
    refine zf3_sets C dX7_group_9 zw_91 ?_
    refine zz_iload_n C 1 dX7_group_12 rfl rfl ?_
    obtain ⟨x5, h6, hf⟩ := zz_bind hf
    refine zl_25 C dX7_group_13 h6 ?_
    cases hf
    exact zz_iret C dX7_group_14 (And.intro rfl rfl) (Nat.le_of_ble_eq_true rfl) (Nat.le_of_ble_eq_true rfl)
  · refine zz_callVx (As := [.int group_]) (rest := []) C 0 (mX7_requireGroup_x σ group_ E3 σ4 h2) dX7_group_2 rfl rfl rfl zw_92 zy_X7_requireGroup rfl (by decide) (by decide) (Nat.le_of_ble_eq_true rfl) (Nat.le_of_ble_eq_true rfl) (Nat.le_of_ble_eq_true rfl) ?_
    cases hf
    exact zz_out C (And.intro rfl rfl) (Nat.le_of_ble_eq_true rfl) (Nat.le_of_ble_eq_true rfl)
theorem mX7_group_r {D : va_G} {U : zz_U} {ad : Nat → Nat} {X : va_W} (σ : zz_St) (group_ : Int32) (x : Int32) (σ1 : zz_St) (hf : fX7_group σ group_ = some (.inl x, σ1)) : zz_Met yX7_group (.code yX7_group cX7_group 2 (some .int)) 7 1 6 D U [.ref (ad 0), .int group_] (zz_wc U ad σ X) (zz_ok (some (.int x)) (zz_wc U ad σ1 X)) zz_noth := mX7_group σ group_ (.inl x, σ1) hf
theorem mX7_group_x {D : va_G} {U : zz_U} {ad : Nat → Nat} {X : va_W} (σ : zz_St) (group_ : Int32) (x : String) (σ1 : zz_St) (hf : fX7_group σ group_ = some (.inr x, σ1)) : zz_Met yX7_group (.code yX7_group cX7_group 2 (some .int)) 7 1 6 D U [.ref (ad 0), .int group_] (zz_wc U ad σ X) zz_none (zz_th x (zz_wc U ad σ1 X)) := mX7_group σ group_ (.inr x, σ1) hf
end
section
theorem dX7_placeOf_0 : decode cX7_placeOf 0 = .ok (.iconst 0, 1) := by decide +kernel
theorem dX7_placeOf_1 : decode cX7_placeOf 1 = .ok (.istore_n 3, 1) := by decide +kernel
theorem dX7_placeOf_2 : decode cX7_placeOf 2 = .ok (.iload_n 3, 1) := by decide +kernel
theorem dX7_placeOf_3 : decode cX7_placeOf 3 = .ok (.iload_n 2, 1) := by decide +kernel
theorem dX7_placeOf_4 : decode cX7_placeOf 4 = .ok (.if_icmp .ge 27, 3) := by decide +kernel
theorem dX7_placeOf_7 : decode cX7_placeOf 7 = .ok (.iload_n 3, 1) := by decide +kernel
theorem dX7_placeOf_8 : decode cX7_placeOf 8 = .ok (.aload_n 1, 1) := by decide +kernel
theorem dX7_placeOf_9 : decode cX7_placeOf 9 = .ok (.arraylength, 1) := by decide +kernel
theorem dX7_placeOf_10 : decode cX7_placeOf 10 = .ok (.if_icmp .ge 21, 3) := by decide +kernel
theorem dX7_placeOf_13 : decode cX7_placeOf 13 = .ok (.iload_n 0, 1) := by decide +kernel
theorem dX7_placeOf_14 : decode cX7_placeOf 14 = .ok (.aload_n 1, 1) := by decide +kernel
theorem dX7_placeOf_15 : decode cX7_placeOf 15 = .ok (.iload_n 3, 1) := by decide +kernel
theorem dX7_placeOf_16 : decode cX7_placeOf 16 = .ok (.iaload, 1) := by decide +kernel
theorem dX7_placeOf_17 : decode cX7_placeOf 17 = .ok (.invokestatic 312, 3) := by decide +kernel
theorem dX7_placeOf_20 : decode cX7_placeOf 20 = .ok (.ifCond .eq 5, 3) := by decide +kernel
theorem dX7_placeOf_23 : decode cX7_placeOf 23 = .ok (.iload_n 3, 1) := by decide +kernel
theorem dX7_placeOf_24 : decode cX7_placeOf 24 = .ok (.ireturn, 1) := by decide +kernel
theorem dX7_placeOf_25 : decode cX7_placeOf 25 = .ok (.iinc 3 1, 3) := by decide +kernel
theorem dX7_placeOf_28 : decode cX7_placeOf 28 = .ok (.goto (-26), 3) := by decide +kernel
theorem dX7_placeOf_31 : decode cX7_placeOf 31 = .ok (.iconst (-1), 1) := by decide +kernel
theorem dX7_placeOf_32 : decode cX7_placeOf 32 = .ok (.ireturn, 1) := by decide +kernel
set_option maxHeartbeats 4000000 in
set_option maxRecDepth 100000 in
theorem mX7_placeOf_a25_L1 {p : Program} {l : Launch} {e : Env} {R : Room} {s : State} {m : MethodId} {args : Array Value} {below : List Frame} {meth : Method} {c : Code} {Q : State → Prop} {D : va_G} {U : zz_U} {A : Nat → Prop} {cells slots : Nat} {ad : Nat → Nat} {X : va_W} (C : zz_C p l R s m meth c D U A RX7 cX7_placeOf 4 (some .int) [] 1) (hcR : cells ≤ R.cells) (hsR : slots ≤ R.slots) (σ : zz_St) (piece_ : Int32) (count_ : Int32) : ∀ (n : Nat) (place_ : Int32) (q : (Int32 ⊕ (Int32))), fX7_placeOf_a25_L1 σ piece_ count_ n place_ = some q → (∀ v : Int32, q = .inl v → zz_Z p l e R s m args below meth c Q D A 4 cells slots (zz_wc U ad σ X) 24 [] [.int v]) → (∀ w : Int32, q = .inr w → zz_Z p l e R s m args below meth c Q D A 4 cells slots (zz_wc U ad σ X) 31 [(0, .int piece_), (1, .ref (ad 25)), (2, .int count_), (3, .int w)] []) → zz_Z p l e R s m args below meth c Q D A 4 cells slots (zz_wc U ad σ X) 2 [(0, .int piece_), (1, .ref (ad 25)), (2, .int count_), (3, .int place_)] [] := by
  intro n
  induction n with
  | zero => intro place_ q hf; rw [fX7_placeOf_a25_L1] at hf; cases hf
  | succ n ih =>
    intro place_ q hf kr kx
    rw [fX7_placeOf_a25_L1] at hf
    obtain ⟨b1, h2, hf⟩ := zz_bind hf
    refine zz_cutI (P := b1 = true) 13 [(0, .int piece_), (1, .ref (ad 25)), (2, .int count_), (3, .int place_)] [] (zz_wc U ad σ X) (fun g5 => ?_) (fun J3 => ?_)
    · rw [if_pos g5] at hf
      refine zz_iload_n C 0 dX7_placeOf_13 rfl rfl ?_
      refine zz_aload_n C 1 dX7_placeOf_14 rfl rfl ?_
      refine zz_iload_n C 3 dX7_placeOf_15 rfl rfl ?_
      obtain ⟨x8, h9, hf⟩ := zz_bind hf
      refine zl_25 C dX7_placeOf_16 h9 ?_
      obtain ⟨x10, h11, hf⟩ := zz_bind hf
      refine zz_callS1 (As := [.int piece_, .int x8]) (rest := []) C (mX7_isIn σ piece_ x8 x10 h11) dX7_placeOf_17 rfl zw_93 zy_X7_isIn rfl (by decide) (by decide) (Nat.le_of_ble_eq_true rfl) hcR hsR rfl ?_
      refine zz_if_eq (tgt := 25) C dX7_placeOf_20 (by decide) (fun g12 => ?_) (fun g12 => ?_)
      · rw [if_pos g12] at hf
        refine zz_iinc (v := (place_ + (1 : Int32))) C 3 dX7_placeOf_25 rfl (by rfl) (by decide) (lv' := [(3, .int (place_ + (1 : Int32))), (0, .int piece_), (1, .ref (ad 25)), (2, .int count_)]) rfl ?_
        refine zz_goto (tgt := 2) C dX7_placeOf_28 (by decide) ?_
        refine zz_sub [1, 2, 3, 0] rfl ?_
        exact ih (place_ + (1 : Int32)) _ hf kr kx
      · rw [if_neg g12] at hf
        refine zz_iload_n C 3 dX7_placeOf_23 rfl rfl ?_
        cases hf
        refine zz_sub [] rfl ?_
        exact kr _ rfl
    refine zz_cutI (P := b1 = false) 31 [(0, .int piece_), (1, .ref (ad 25)), (2, .int count_), (3, .int place_)] [] (zz_wc U ad σ X) (fun g5 => ?_) (fun J4 => ?_)
    · rw [if_neg (show ¬ b1 = true by rw [g5]; decide)] at hf
      cases hf
      exact kx _ rfl
    refine zz_iload_n C 3 dX7_placeOf_2 rfl rfl ?_
    refine zz_iload_n C 2 dX7_placeOf_3 rfl rfl ?_
    refine zz_icmp_ge (tgt := 31) C dX7_placeOf_4 (by decide) (fun g6 => ?_) (fun g6 => ?_)
    · rw [if_pos g6] at h2
      cases h2
      exact J4 rfl
    · rw [if_neg g6] at h2
      refine zz_iload_n C 3 dX7_placeOf_7 rfl rfl ?_
      refine zz_aload_n C 1 dX7_placeOf_8 rfl rfl ?_
      refine zz_alen (v := (14 : Int32)) C 25 0 dX7_placeOf_9 rfl rfl rfl ?_
      refine zz_icmp_ge (tgt := 31) C dX7_placeOf_10 (by decide) (fun g7 => ?_) (fun g7 => ?_)
      · rw [if_pos g7] at h2
        cases h2
        exact J4 rfl
      · rw [if_neg g7] at h2
        cases h2
        exact J3 rfl
set_option maxHeartbeats 4000000 in
set_option maxRecDepth 100000 in
theorem mX7_placeOf_a25 {D : va_G} {U : zz_U} {ad : Nat → Nat} {X : va_W} (σ : zz_St) (piece_ : Int32) (count_ : Int32) (r : Int32) (hf : fX7_placeOf_a25 σ piece_ count_ = some r) : zz_Met yX7_placeOf (.code yX7_placeOf cX7_placeOf 4 (some .int)) 1 0 0 D U [.int piece_, .ref (ad 25), .int count_] (zz_wc U ad σ X) (zz_ok (some (.int r)) (zz_wc U ad σ X)) zz_noth := by
  unfold fX7_placeOf_a25 at hf
  refine zz_method RX7 rfl (by decide +kernel) (Nat.le_of_ble_eq_true rfl) ?_
  intro p l e s m args below meth c A _ C
  refine zz_lvs (lv1 := [(0, .int piece_), (1, .ref (ad 25)), (2, .int count_)]) rfl ?_
  refine zz_iconst (v := (0 : Int32)) C dX7_placeOf_0 (by decide) ?_
  refine zz_istore_n C dX7_placeOf_1 rfl (by decide) (lv' := [(3, .int (0 : Int32)), (0, .int piece_), (1, .ref (ad 25)), (2, .int count_)]) rfl ?_
  obtain ⟨q13, h14, hf⟩ := zz_bind hf
  refine zz_sub [1, 2, 3, 0] rfl ?_
  refine mX7_placeOf_a25_L1 C (Nat.le_of_ble_eq_true rfl) (Nat.le_of_ble_eq_true rfl) σ piece_ count_ 1000 (0 : Int32) q13 h14 (fun v15 h17 => ?_) (fun w16 h17 => ?_)
  · subst h17
    cases hf
    exact zz_iret C dX7_placeOf_24 (And.intro rfl rfl) (Nat.le_of_ble_eq_true rfl) (Nat.le_of_ble_eq_true rfl)
  · subst h17
    refine zz_iconst (v := (-1 : Int32)) C dX7_placeOf_31 (by decide) ?_
    cases hf
    exact zz_iret C dX7_placeOf_32 (And.intro rfl rfl) (Nat.le_of_ble_eq_true rfl) (Nat.le_of_ble_eq_true rfl)
theorem dX7_groupOf_0 : decode cX7_groupOf 0 = .ok (.aload_n 0, 1) := by decide +kernel
theorem dX7_groupOf_1 : decode cX7_groupOf 1 = .ok (.iload_n 1, 1) := by decide +kernel
theorem dX7_groupOf_2 : decode cX7_groupOf 2 = .ok (.invokevirtual 136, 3) := by decide +kernel
theorem dX7_groupOf_5 : decode cX7_groupOf 5 = .ok (.aload_n 0, 1) := by decide +kernel
theorem dX7_groupOf_6 : decode cX7_groupOf 6 = .ok (.invokevirtual 176, 3) := by decide +kernel
theorem dX7_groupOf_9 : decode cX7_groupOf 9 = .ok (.iload_n 1, 1) := by decide +kernel
theorem dX7_groupOf_10 : decode cX7_groupOf 10 = .ok (.aload_n 0, 1) := by decide +kernel
theorem dX7_groupOf_11 : decode cX7_groupOf 11 = .ok (.getfield 40, 3) := by decide +kernel
theorem dX7_groupOf_14 : decode cX7_groupOf 14 = .ok (.getfield 183, 3) := by decide +kernel
theorem dX7_groupOf_17 : decode cX7_groupOf 17 = .ok (.aload_n 0, 1) := by decide +kernel
theorem dX7_groupOf_18 : decode cX7_groupOf 18 = .ok (.getfield 40, 3) := by decide +kernel
theorem dX7_groupOf_21 : decode cX7_groupOf 21 = .ok (.getfield 179, 3) := by decide +kernel
theorem dX7_groupOf_24 : decode cX7_groupOf 24 = .ok (.invokestatic 186, 3) := by decide +kernel
theorem dX7_groupOf_27 : decode cX7_groupOf 27 = .ok (.ireturn, 1) := by decide +kernel
set_option maxHeartbeats 4000000 in
set_option maxRecDepth 100000 in
theorem mX7_groupOf {D : va_G} {U : zz_U} {ad : Nat → Nat} {X : va_W} (σ : zz_St) (piece_ : Int32) (r : ((Int32 ⊕ String) × zz_St)) (hf : fX7_groupOf σ piece_ = some r) : zz_Met yX7_groupOf (.code yX7_groupOf cX7_groupOf 2 (some .int)) 7 1 6 D U [.ref (ad 0), .int piece_] (zz_wc U ad σ X) (match r.1 with | .inl x => zz_ok (some (.int x)) (zz_wc U ad r.2 X) | .inr _ => zz_none) (match r.1 with | .inl _ => zz_noth | .inr E => zz_th E (zz_wc U ad r.2 X)) := by
  unfold fX7_groupOf at hf
  refine zz_method RX7 rfl (by decide +kernel) (Nat.le_of_ble_eq_true rfl) ?_
  intro p l e s m args below meth c A _ C
  refine zz_lvs (lv1 := [(0, .ref (ad 0)), (1, .int piece_)]) rfl ?_
  refine zz_aload_n C 0 dX7_groupOf_0 rfl rfl ?_
  refine zz_iload_n C 1 dX7_groupOf_1 rfl rfl ?_
  obtain ⟨x1, h2, hf⟩ := zz_bind hf
  rcases x1 with x1 | E3
  · refine zz_callV1 (As := [.int piece_]) (rest := []) C 0 (mX7_requirePiece_r σ piece_ x1 h2) dX7_groupOf_2 rfl rfl rfl zw_14 zy_X7_requirePiece rfl (by decide) (by decide) (Nat.le_of_ble_eq_true rfl) (Nat.le_of_ble_eq_true rfl) (Nat.le_of_ble_eq_true rfl) rfl ?_
    refine zz_aload_n C 0 dX7_groupOf_5 rfl rfl ?_
    obtain ⟨x4, h5, hf⟩ := zz_bind hf
    refine zz_callV1 (As := []) (rest := []) C 0 (mX7_putTogether σ x4 h5) dX7_groupOf_6 rfl rfl rfl zw_90 zy_X7_putTogether rfl (by decide) (by decide) (Nat.le_of_ble_eq_true rfl) (Nat.le_of_ble_eq_true rfl) (Nat.le_of_ble_eq_true rfl) rfl ?_
    refine zz_iload_n C 1 dX7_groupOf_9 rfl rfl ?_
    refine zz_aload_n C 0 dX7_groupOf_10 rfl rfl ?_
    refine zf7_groups C dX7_groupOf_11 zw_25 ?_
    refine zf3_sets C dX7_groupOf_14 zw_91 ?_
    refine zz_aload_n C 0 dX7_groupOf_17 rfl rfl ?_
    refine zf7_groups C dX7_groupOf_18 zw_25 ?_
    refine zf3_count C dX7_groupOf_21 zw_89 ?_
    obtain ⟨x6, h7, hf⟩ := zz_bind hf
    refine zz_callS1 (As := [.int piece_, .ref (ad 25), .int (x4 24 2)]) (rest := []) C (mX7_placeOf_a25 x4 piece_ (x4 24 2) x6 h7) dX7_groupOf_24 rfl zw_94 zy_X7_placeOf rfl (by decide) (by decide) (Nat.le_of_ble_eq_true rfl) (Nat.le_of_ble_eq_true rfl) (Nat.le_of_ble_eq_true rfl) rfl ?_
    cases hf
    exact zz_iret C dX7_groupOf_27 (And.intro rfl rfl) (Nat.le_of_ble_eq_true rfl) (Nat.le_of_ble_eq_true rfl)
  · refine zz_callVx (As := [.int piece_]) (rest := []) C 0 (mX7_requirePiece_x σ piece_ E3 h2) dX7_groupOf_2 rfl rfl rfl zw_14 zy_X7_requirePiece rfl (by decide) (by decide) (Nat.le_of_ble_eq_true rfl) (Nat.le_of_ble_eq_true rfl) (Nat.le_of_ble_eq_true rfl) ?_
    cases hf
    exact zz_out C (And.intro rfl rfl) (Nat.le_of_ble_eq_true rfl) (Nat.le_of_ble_eq_true rfl)
theorem mX7_groupOf_r {D : va_G} {U : zz_U} {ad : Nat → Nat} {X : va_W} (σ : zz_St) (piece_ : Int32) (x : Int32) (σ1 : zz_St) (hf : fX7_groupOf σ piece_ = some (.inl x, σ1)) : zz_Met yX7_groupOf (.code yX7_groupOf cX7_groupOf 2 (some .int)) 7 1 6 D U [.ref (ad 0), .int piece_] (zz_wc U ad σ X) (zz_ok (some (.int x)) (zz_wc U ad σ1 X)) zz_noth := mX7_groupOf σ piece_ (.inl x, σ1) hf
theorem mX7_groupOf_x {D : va_G} {U : zz_U} {ad : Nat → Nat} {X : va_W} (σ : zz_St) (piece_ : Int32) (x : String) (σ1 : zz_St) (hf : fX7_groupOf σ piece_ = some (.inr x, σ1)) : zz_Met yX7_groupOf (.code yX7_groupOf cX7_groupOf 2 (some .int)) 7 1 6 D U [.ref (ad 0), .int piece_] (zz_wc U ad σ X) zz_none (zz_th x (zz_wc U ad σ1 X)) := mX7_groupOf σ piece_ (.inr x, σ1) hf
theorem dX7_linkage_0 : decode cX7_linkage 0 = .ok (.aload_n 0, 1) := by decide +kernel
theorem dX7_linkage_1 : decode cX7_linkage 1 = .ok (.iload_n 1, 1) := by decide +kernel
theorem dX7_linkage_2 : decode cX7_linkage 2 = .ok (.invokevirtual 180, 3) := by decide +kernel
theorem dX7_linkage_5 : decode cX7_linkage 5 = .ok (.aload_n 0, 1) := by decide +kernel
theorem dX7_linkage_6 : decode cX7_linkage 6 = .ok (.iload_n 2, 1) := by decide +kernel
theorem dX7_linkage_7 : decode cX7_linkage 7 = .ok (.invokevirtual 180, 3) := by decide +kernel
theorem dX7_linkage_10 : decode cX7_linkage 10 = .ok (.iload_n 1, 1) := by decide +kernel
theorem dX7_linkage_11 : decode cX7_linkage 11 = .ok (.iload_n 2, 1) := by decide +kernel
theorem dX7_linkage_12 : decode cX7_linkage 12 = .ok (.if_icmp .ne 13, 3) := by decide +kernel
theorem dX7_linkage_15 : decode cX7_linkage 15 = .ok (.new 62, 3) := by decide +kernel
theorem dX7_linkage_18 : decode cX7_linkage 18 = .ok (.dup, 1) := by decide +kernel
theorem dX7_linkage_19 : decode cX7_linkage 19 = .ok (.ldc 190, 2) := by decide +kernel
theorem dX7_linkage_21 : decode cX7_linkage 21 = .ok (.invokespecial 66, 3) := by decide +kernel
theorem dX7_linkage_24 : decode cX7_linkage 24 = .ok (.athrow, 1) := by decide +kernel
theorem dX7_linkage_25 : decode cX7_linkage 25 = .ok (.aload_n 0, 1) := by decide +kernel
theorem dX7_linkage_26 : decode cX7_linkage 26 = .ok (.getfield 40, 3) := by decide +kernel
theorem dX7_linkage_29 : decode cX7_linkage 29 = .ok (.aload_n 0, 1) := by decide +kernel
theorem dX7_linkage_30 : decode cX7_linkage 30 = .ok (.getfield 40, 3) := by decide +kernel
theorem dX7_linkage_33 : decode cX7_linkage 33 = .ok (.getfield 183, 3) := by decide +kernel
theorem dX7_linkage_36 : decode cX7_linkage 36 = .ok (.iload_n 1, 1) := by decide +kernel
theorem dX7_linkage_37 : decode cX7_linkage 37 = .ok (.iaload, 1) := by decide +kernel
theorem dX7_linkage_38 : decode cX7_linkage 38 = .ok (.aload_n 0, 1) := by decide +kernel
theorem dX7_linkage_39 : decode cX7_linkage 39 = .ok (.getfield 40, 3) := by decide +kernel
theorem dX7_linkage_42 : decode cX7_linkage 42 = .ok (.getfield 183, 3) := by decide +kernel
theorem dX7_linkage_45 : decode cX7_linkage 45 = .ok (.iload_n 2, 1) := by decide +kernel
theorem dX7_linkage_46 : decode cX7_linkage 46 = .ok (.iaload, 1) := by decide +kernel
theorem dX7_linkage_47 : decode cX7_linkage 47 = .ok (.invokevirtual 192, 3) := by decide +kernel
theorem dX7_linkage_50 : decode cX7_linkage 50 = .ok (.ireturn, 1) := by decide +kernel
set_option maxHeartbeats 4000000 in
set_option maxRecDepth 100000 in
theorem mX7_linkage {D : va_G} {U : zz_U} {ad : Nat → Nat} {X : va_W} (σ : zz_St) (a_ : Int32) (b_ : Int32) (r : ((Int32 ⊕ String) × zz_St)) (hf : fX7_linkage σ a_ b_ = some r) : zz_Met yX7_linkage (.code yX7_linkage cX7_linkage 3 (some .int)) 7 3 18 D U [.ref (ad 0), .int a_, .int b_] (zz_wc U ad σ X) (match r.1 with | .inl x => zz_ok (some (.int x)) (zz_wc U ad r.2 X) | .inr _ => zz_none) (match r.1 with | .inl _ => zz_noth | .inr E => zz_th E (zz_wc U ad r.2 X)) := by
  unfold fX7_linkage at hf
  refine zz_method RX7 rfl (by decide +kernel) (Nat.le_of_ble_eq_true rfl) ?_
  intro p l e s m args below meth c A _ C
  refine zz_lvs (lv1 := [(0, .ref (ad 0)), (1, .int a_), (2, .int b_)]) rfl ?_
  refine zz_aload_n C 0 dX7_linkage_0 rfl rfl ?_
  refine zz_iload_n C 1 dX7_linkage_1 rfl rfl ?_
  obtain ⟨⟨x1, σ4⟩, h2, hf⟩ := zz_bind hf
  rcases x1 with x1 | E3
  · try dsimp only at hf
    refine zz_callV1 (As := [.int a_]) (rest := []) C 0 (mX7_requireGroup_r σ a_ x1 σ4 h2) dX7_linkage_2 rfl rfl rfl zw_92 zy_X7_requireGroup rfl (by decide) (by decide) (Nat.le_of_ble_eq_true rfl) (Nat.le_of_ble_eq_true rfl) (Nat.le_of_ble_eq_true rfl) rfl ?_
    refine zz_aload_n C 0 dX7_linkage_5 rfl rfl ?_
    refine zz_iload_n C 2 dX7_linkage_6 rfl rfl ?_
    obtain ⟨⟨x5, σ8⟩, h6, hf⟩ := zz_bind hf
    rcases x5 with x5 | E7
    · try dsimp only at hf
      refine zz_callV1 (As := [.int b_]) (rest := []) C 0 (mX7_requireGroup_r σ4 b_ x5 σ8 h6) dX7_linkage_7 rfl rfl rfl zw_92 zy_X7_requireGroup rfl (by decide) (by decide) (Nat.le_of_ble_eq_true rfl) (Nat.le_of_ble_eq_true rfl) (Nat.le_of_ble_eq_true rfl) rfl ?_
      refine zz_iload_n C 1 dX7_linkage_10 rfl rfl ?_
      refine zz_iload_n C 2 dX7_linkage_11 rfl rfl ?_
      refine zz_icmp_ne (tgt := 25) C dX7_linkage_12 (by decide) (fun g9 => ?_) (fun g9 => ?_)
      · rw [if_neg g9] at hf
        refine zz_aload_n C 0 dX7_linkage_25 rfl rfl ?_
        refine zf7_groups C dX7_linkage_26 zw_25 ?_
        refine zz_aload_n C 0 dX7_linkage_29 rfl rfl ?_
        refine zf7_groups C dX7_linkage_30 zw_25 ?_
        refine zf3_sets C dX7_linkage_33 zw_91 ?_
        refine zz_iload_n C 1 dX7_linkage_36 rfl rfl ?_
        obtain ⟨x10, h11, hf⟩ := zz_bind hf
        refine zl_25 C dX7_linkage_37 h11 ?_
        refine zz_aload_n C 0 dX7_linkage_38 rfl rfl ?_
        refine zf7_groups C dX7_linkage_39 zw_25 ?_
        refine zf3_sets C dX7_linkage_42 zw_91 ?_
        refine zz_iload_n C 2 dX7_linkage_45 rfl rfl ?_
        obtain ⟨x12, h13, hf⟩ := zz_bind hf
        refine zl_25 C dX7_linkage_46 h13 ?_
        obtain ⟨x14, h15, hf⟩ := zz_bind hf
        refine zz_callV1 (As := [.int x10, .int x12]) (rest := []) C 24 (mX3_linkageOf σ8 x10 x12 x14 h15) dX7_linkage_47 rfl rfl rfl zw_95 zy_X3_linkageOf rfl (by decide) (by decide) (Nat.le_of_ble_eq_true rfl) (Nat.le_of_ble_eq_true rfl) (Nat.le_of_ble_eq_true rfl) rfl ?_
        cases hf
        exact zz_iret C dX7_linkage_50 (And.intro rfl rfl) (Nat.le_of_ble_eq_true rfl) (Nat.le_of_ble_eq_true rfl)
      · rw [if_pos g9] at hf
        cases hf
        exact zz_throwS (cls := "java/lang/IllegalArgumentException") (text := "the same group twice") C zt_0 (by decide +kernel) dX7_linkage_15 dX7_linkage_18 dX7_linkage_19 dX7_linkage_21 dX7_linkage_24 (by decide) (Nat.le_of_ble_eq_true rfl) (Nat.le_of_ble_eq_true rfl) (Nat.le_of_ble_eq_true rfl) (Nat.le_of_ble_eq_true rfl) (Nat.le_of_ble_eq_true rfl) (And.intro rfl rfl)
    · refine zz_callVx (As := [.int b_]) (rest := []) C 0 (mX7_requireGroup_x σ4 b_ E7 σ8 h6) dX7_linkage_7 rfl rfl rfl zw_92 zy_X7_requireGroup rfl (by decide) (by decide) (Nat.le_of_ble_eq_true rfl) (Nat.le_of_ble_eq_true rfl) (Nat.le_of_ble_eq_true rfl) ?_
      cases hf
      exact zz_out C (And.intro rfl rfl) (Nat.le_of_ble_eq_true rfl) (Nat.le_of_ble_eq_true rfl)
  · refine zz_callVx (As := [.int a_]) (rest := []) C 0 (mX7_requireGroup_x σ a_ E3 σ4 h2) dX7_linkage_2 rfl rfl rfl zw_92 zy_X7_requireGroup rfl (by decide) (by decide) (Nat.le_of_ble_eq_true rfl) (Nat.le_of_ble_eq_true rfl) (Nat.le_of_ble_eq_true rfl) ?_
    cases hf
    exact zz_out C (And.intro rfl rfl) (Nat.le_of_ble_eq_true rfl) (Nat.le_of_ble_eq_true rfl)
theorem mX7_linkage_r {D : va_G} {U : zz_U} {ad : Nat → Nat} {X : va_W} (σ : zz_St) (a_ : Int32) (b_ : Int32) (x : Int32) (σ1 : zz_St) (hf : fX7_linkage σ a_ b_ = some (.inl x, σ1)) : zz_Met yX7_linkage (.code yX7_linkage cX7_linkage 3 (some .int)) 7 3 18 D U [.ref (ad 0), .int a_, .int b_] (zz_wc U ad σ X) (zz_ok (some (.int x)) (zz_wc U ad σ1 X)) zz_noth := mX7_linkage σ a_ b_ (.inl x, σ1) hf
theorem mX7_linkage_x {D : va_G} {U : zz_U} {ad : Nat → Nat} {X : va_W} (σ : zz_St) (a_ : Int32) (b_ : Int32) (x : String) (σ1 : zz_St) (hf : fX7_linkage σ a_ b_ = some (.inr x, σ1)) : zz_Met yX7_linkage (.code yX7_linkage cX7_linkage 3 (some .int)) 7 3 18 D U [.ref (ad 0), .int a_, .int b_] (zz_wc U ad σ X) zz_none (zz_th x (zz_wc U ad σ1 X)) := mX7_linkage σ a_ b_ (.inr x, σ1) hf
theorem dX7_lastLinkage_0 : decode cX7_lastLinkage 0 = .ok (.aload_n 0, 1) := by decide +kernel
theorem dX7_lastLinkage_1 : decode cX7_lastLinkage 1 = .ok (.invokevirtual 176, 3) := by decide +kernel
theorem dX7_lastLinkage_4 : decode cX7_lastLinkage 4 = .ok (.aload_n 0, 1) := by decide +kernel
theorem dX7_lastLinkage_5 : decode cX7_lastLinkage 5 = .ok (.getfield 40, 3) := by decide +kernel
theorem dX7_lastLinkage_8 : decode cX7_lastLinkage 8 = .ok (.getfield 195, 3) := by decide +kernel
theorem dX7_lastLinkage_11 : decode cX7_lastLinkage 11 = .ok (.ireturn, 1) := by decide +kernel
set_option maxHeartbeats 4000000 in
set_option maxRecDepth 100000 in
theorem mX7_lastLinkage {D : va_G} {U : zz_U} {ad : Nat → Nat} {X : va_W} (σ : zz_St) (r : (Int32 × zz_St)) (hf : fX7_lastLinkage σ = some r) : zz_Met yX7_lastLinkage (.code yX7_lastLinkage cX7_lastLinkage 1 (some .int)) 6 0 0 D U [.ref (ad 0)] (zz_wc U ad σ X) (zz_ok (some (.int r.1)) (zz_wc U ad r.2 X)) zz_noth := by
  unfold fX7_lastLinkage at hf
  refine zz_method RX7 rfl (by decide +kernel) (Nat.le_of_ble_eq_true rfl) ?_
  intro p l e s m args below meth c A _ C
  refine zz_lvs (lv1 := [(0, .ref (ad 0))]) rfl ?_
  refine zz_aload_n C 0 dX7_lastLinkage_0 rfl rfl ?_
  obtain ⟨x1, h2, hf⟩ := zz_bind hf
  refine zz_callV1 (As := []) (rest := []) C 0 (mX7_putTogether σ x1 h2) dX7_lastLinkage_1 rfl rfl rfl zw_90 zy_X7_putTogether rfl (by decide) (by decide) (Nat.le_of_ble_eq_true rfl) (Nat.le_of_ble_eq_true rfl) (Nat.le_of_ble_eq_true rfl) rfl ?_
  refine zz_aload_n C 0 dX7_lastLinkage_4 rfl rfl ?_
  refine zf7_groups C dX7_lastLinkage_5 zw_25 ?_
  refine zf3_linkageOfLastJoin C dX7_lastLinkage_8 zw_96 ?_
  cases hf
  exact zz_iret C dX7_lastLinkage_11 (And.intro rfl rfl) (Nat.le_of_ble_eq_true rfl) (Nat.le_of_ble_eq_true rfl)
theorem dX7_needs_0 : decode cX7_needs 0 = .ok (.aload_n 0, 1) := by decide +kernel
theorem dX7_needs_1 : decode cX7_needs 1 = .ok (.iload_n 1, 1) := by decide +kernel
theorem dX7_needs_2 : decode cX7_needs 2 = .ok (.invokevirtual 136, 3) := by decide +kernel
theorem dX7_needs_5 : decode cX7_needs 5 = .ok (.aload_n 0, 1) := by decide +kernel
theorem dX7_needs_6 : decode cX7_needs 6 = .ok (.iload_n 2, 1) := by decide +kernel
theorem dX7_needs_7 : decode cX7_needs 7 = .ok (.invokevirtual 136, 3) := by decide +kernel
theorem dX7_needs_10 : decode cX7_needs 10 = .ok (.iload_n 1, 1) := by decide +kernel
theorem dX7_needs_11 : decode cX7_needs 11 = .ok (.iload_n 2, 1) := by decide +kernel
theorem dX7_needs_12 : decode cX7_needs 12 = .ok (.invokestatic 139, 3) := by decide +kernel
theorem dX7_needs_15 : decode cX7_needs 15 = .ok (.aload_n 0, 1) := by decide +kernel
theorem dX7_needs_16 : decode cX7_needs 16 = .ok (.getfield 12, 3) := by decide +kernel
theorem dX7_needs_19 : decode cX7_needs 19 = .ok (.iload_n 1, 1) := by decide +kernel
theorem dX7_needs_20 : decode cX7_needs 20 = .ok (.iload_n 2, 1) := by decide +kernel
theorem dX7_needs_21 : decode cX7_needs 21 = .ok (.aload_n 0, 1) := by decide +kernel
theorem dX7_needs_22 : decode cX7_needs 22 = .ok (.getfield 19, 3) := by decide +kernel
theorem dX7_needs_25 : decode cX7_needs 25 = .ok (.getfield 198, 3) := by decide +kernel
theorem dX7_needs_28 : decode cX7_needs 28 = .ok (.invokevirtual 201, 3) := by decide +kernel
theorem dX7_needs_31 : decode cX7_needs 31 = .ok (.ireturn, 1) := by decide +kernel
set_option maxHeartbeats 4000000 in
set_option maxRecDepth 100000 in
theorem mX7_needs {D : va_G} {U : zz_U} {ad : Nat → Nat} {X : va_W} (σ : zz_St) (a_ : Int32) (b_ : Int32) (r : (Int32 ⊕ String)) (hf : fX7_needs σ a_ b_ = some r) : zz_Met yX7_needs (.code yX7_needs cX7_needs 3 (some .boolean)) 7 3 18 D U [.ref (ad 0), .int a_, .int b_] (zz_wc U ad σ X) (match r with | .inl x => zz_ok (some (.int x)) (zz_wc U ad σ X) | .inr _ => zz_none) (match r with | .inl _ => zz_noth | .inr E => zz_th E (zz_wc U ad σ X)) := by
  unfold fX7_needs at hf
  refine zz_method RX7 rfl (by decide +kernel) (Nat.le_of_ble_eq_true rfl) ?_
  intro p l e s m args below meth c A _ C
  refine zz_lvs (lv1 := [(0, .ref (ad 0)), (1, .int a_), (2, .int b_)]) rfl ?_
  refine zz_aload_n C 0 dX7_needs_0 rfl rfl ?_
  refine zz_iload_n C 1 dX7_needs_1 rfl rfl ?_
  obtain ⟨x1, h2, hf⟩ := zz_bind hf
  rcases x1 with x1 | E3
  · refine zz_callV1 (As := [.int a_]) (rest := []) C 0 (mX7_requirePiece_r σ a_ x1 h2) dX7_needs_2 rfl rfl rfl zw_14 zy_X7_requirePiece rfl (by decide) (by decide) (Nat.le_of_ble_eq_true rfl) (Nat.le_of_ble_eq_true rfl) (Nat.le_of_ble_eq_true rfl) rfl ?_
    refine zz_aload_n C 0 dX7_needs_5 rfl rfl ?_
    refine zz_iload_n C 2 dX7_needs_6 rfl rfl ?_
    obtain ⟨x4, h5, hf⟩ := zz_bind hf
    rcases x4 with x4 | E6
    · refine zz_callV1 (As := [.int b_]) (rest := []) C 0 (mX7_requirePiece_r σ b_ x4 h5) dX7_needs_7 rfl rfl rfl zw_14 zy_X7_requirePiece rfl (by decide) (by decide) (Nat.le_of_ble_eq_true rfl) (Nat.le_of_ble_eq_true rfl) (Nat.le_of_ble_eq_true rfl) rfl ?_
      refine zz_iload_n C 1 dX7_needs_10 rfl rfl ?_
      refine zz_iload_n C 2 dX7_needs_11 rfl rfl ?_
      obtain ⟨x7, h8, hf⟩ := zz_bind hf
      rcases x7 with x7 | E9
      · refine zz_callS1 (As := [.int a_, .int b_]) (rest := []) C (mX7_requireDifferent_r σ a_ b_ x7 h8) dX7_needs_12 rfl zw_35 zy_X7_requireDifferent rfl (by decide) (by decide) (Nat.le_of_ble_eq_true rfl) (Nat.le_of_ble_eq_true rfl) (Nat.le_of_ble_eq_true rfl) rfl ?_
        refine zz_aload_n C 0 dX7_needs_15 rfl rfl ?_
        refine zf7_pieces C dX7_needs_16 zw_10 ?_
        refine zz_iload_n C 1 dX7_needs_19 rfl rfl ?_
        refine zz_iload_n C 2 dX7_needs_20 rfl rfl ?_
        refine zz_aload_n C 0 dX7_needs_21 rfl rfl ?_
        refine zf7_code C dX7_needs_22 zw_23 ?_
        refine zf1_definedNames C dX7_needs_25 zw_98 ?_
        obtain ⟨x10, h11, hf⟩ := zz_bind hf
        refine zz_callV1 (As := [.int a_, .int b_, .int (σ 17 0)]) (rest := []) C 1 (mX5_isNeeded σ a_ b_ (σ 17 0) x10 h11) dX7_needs_28 rfl rfl rfl zw_97 zy_X5_isNeeded rfl (by decide) (by decide) (Nat.le_of_ble_eq_true rfl) (Nat.le_of_ble_eq_true rfl) (Nat.le_of_ble_eq_true rfl) rfl ?_
        obtain ⟨x12, h13, hf⟩ := zz_bind hf
        refine zz_topi (zz_bo_in h13).2 ?_
        cases hf
        exact zz_zret C dX7_needs_31 (by rw [← (zz_bo_in h13).2]; exact (zz_bo_in h13).1) (And.intro rfl rfl) (Nat.le_of_ble_eq_true rfl) (Nat.le_of_ble_eq_true rfl)
      · refine zz_callSx (As := [.int a_, .int b_]) (rest := []) C (mX7_requireDifferent_x σ a_ b_ E9 h8) dX7_needs_12 rfl zw_35 zy_X7_requireDifferent rfl (by decide) (by decide) (Nat.le_of_ble_eq_true rfl) (Nat.le_of_ble_eq_true rfl) (Nat.le_of_ble_eq_true rfl) ?_
        cases hf
        exact zz_out C (And.intro rfl rfl) (Nat.le_of_ble_eq_true rfl) (Nat.le_of_ble_eq_true rfl)
    · refine zz_callVx (As := [.int b_]) (rest := []) C 0 (mX7_requirePiece_x σ b_ E6 h5) dX7_needs_7 rfl rfl rfl zw_14 zy_X7_requirePiece rfl (by decide) (by decide) (Nat.le_of_ble_eq_true rfl) (Nat.le_of_ble_eq_true rfl) (Nat.le_of_ble_eq_true rfl) ?_
      cases hf
      exact zz_out C (And.intro rfl rfl) (Nat.le_of_ble_eq_true rfl) (Nat.le_of_ble_eq_true rfl)
  · refine zz_callVx (As := [.int a_]) (rest := []) C 0 (mX7_requirePiece_x σ a_ E3 h2) dX7_needs_2 rfl rfl rfl zw_14 zy_X7_requirePiece rfl (by decide) (by decide) (Nat.le_of_ble_eq_true rfl) (Nat.le_of_ble_eq_true rfl) (Nat.le_of_ble_eq_true rfl) ?_
    cases hf
    exact zz_out C (And.intro rfl rfl) (Nat.le_of_ble_eq_true rfl) (Nat.le_of_ble_eq_true rfl)
theorem mX7_needs_r {D : va_G} {U : zz_U} {ad : Nat → Nat} {X : va_W} (σ : zz_St) (a_ : Int32) (b_ : Int32) (x : Int32) (hf : fX7_needs σ a_ b_ = some (.inl x)) : zz_Met yX7_needs (.code yX7_needs cX7_needs 3 (some .boolean)) 7 3 18 D U [.ref (ad 0), .int a_, .int b_] (zz_wc U ad σ X) (zz_ok (some (.int x)) (zz_wc U ad σ X)) zz_noth := mX7_needs σ a_ b_ (.inl x) hf
theorem mX7_needs_x {D : va_G} {U : zz_U} {ad : Nat → Nat} {X : va_W} (σ : zz_St) (a_ : Int32) (b_ : Int32) (E : String) (hf : fX7_needs σ a_ b_ = some (.inr E)) : zz_Met yX7_needs (.code yX7_needs cX7_needs 3 (some .boolean)) 7 3 18 D U [.ref (ad 0), .int a_, .int b_] (zz_wc U ad σ X) zz_none (zz_th E (zz_wc U ad σ X)) := mX7_needs σ a_ b_ (.inr E) hf
theorem dX7_parcelCount_0 : decode cX7_parcelCount 0 = .ok (.aload_n 0, 1) := by decide +kernel
theorem dX7_parcelCount_1 : decode cX7_parcelCount 1 = .ok (.invokevirtual 176, 3) := by decide +kernel
theorem dX7_parcelCount_4 : decode cX7_parcelCount 4 = .ok (.aload_n 0, 1) := by decide +kernel
theorem dX7_parcelCount_5 : decode cX7_parcelCount 5 = .ok (.getfield 47, 3) := by decide +kernel
theorem dX7_parcelCount_8 : decode cX7_parcelCount 8 = .ok (.getfield 205, 3) := by decide +kernel
theorem dX7_parcelCount_11 : decode cX7_parcelCount 11 = .ok (.ireturn, 1) := by decide +kernel
set_option maxHeartbeats 4000000 in
set_option maxRecDepth 100000 in
theorem mX7_parcelCount {D : va_G} {U : zz_U} {ad : Nat → Nat} {X : va_W} (σ : zz_St) (r : (Int32 × zz_St)) (hf : fX7_parcelCount σ = some r) : zz_Met yX7_parcelCount (.code yX7_parcelCount cX7_parcelCount 1 (some .int)) 6 0 0 D U [.ref (ad 0)] (zz_wc U ad σ X) (zz_ok (some (.int r.1)) (zz_wc U ad r.2 X)) zz_noth := by
  unfold fX7_parcelCount at hf
  refine zz_method RX7 rfl (by decide +kernel) (Nat.le_of_ble_eq_true rfl) ?_
  intro p l e s m args below meth c A _ C
  refine zz_lvs (lv1 := [(0, .ref (ad 0))]) rfl ?_
  refine zz_aload_n C 0 dX7_parcelCount_0 rfl rfl ?_
  obtain ⟨x1, h2, hf⟩ := zz_bind hf
  refine zz_callV1 (As := []) (rest := []) C 0 (mX7_putTogether σ x1 h2) dX7_parcelCount_1 rfl rfl rfl zw_90 zy_X7_putTogether rfl (by decide) (by decide) (Nat.le_of_ble_eq_true rfl) (Nat.le_of_ble_eq_true rfl) (Nat.le_of_ble_eq_true rfl) rfl ?_
  refine zz_aload_n C 0 dX7_parcelCount_4 rfl rfl ?_
  refine zf7_parcels C dX7_parcelCount_5 zw_85 ?_
  refine zf4_count C dX7_parcelCount_8 zw_99 ?_
  cases hf
  exact zz_iret C dX7_parcelCount_11 (And.intro rfl rfl) (Nat.le_of_ble_eq_true rfl) (Nat.le_of_ble_eq_true rfl)
theorem dX7_requireParcel_0 : decode cX7_requireParcel 0 = .ok (.aload_n 0, 1) := by decide +kernel
theorem dX7_requireParcel_1 : decode cX7_requireParcel 1 = .ok (.invokevirtual 176, 3) := by decide +kernel
theorem dX7_requireParcel_4 : decode cX7_requireParcel 4 = .ok (.iload_n 1, 1) := by decide +kernel
theorem dX7_requireParcel_5 : decode cX7_requireParcel 5 = .ok (.ifCond .lt 14, 3) := by decide +kernel
theorem dX7_requireParcel_8 : decode cX7_requireParcel 8 = .ok (.iload_n 1, 1) := by decide +kernel
theorem dX7_requireParcel_9 : decode cX7_requireParcel 9 = .ok (.aload_n 0, 1) := by decide +kernel
theorem dX7_requireParcel_10 : decode cX7_requireParcel 10 = .ok (.getfield 47, 3) := by decide +kernel
theorem dX7_requireParcel_13 : decode cX7_requireParcel 13 = .ok (.getfield 205, 3) := by decide +kernel
theorem dX7_requireParcel_16 : decode cX7_requireParcel 16 = .ok (.if_icmp .lt 14, 3) := by decide +kernel
theorem dX7_requireParcel_19 : decode cX7_requireParcel 19 = .ok (.new 102, 3) := by decide +kernel
theorem dX7_requireParcel_22 : decode cX7_requireParcel 22 = .ok (.dup, 1) := by decide +kernel
theorem dX7_requireParcel_23 : decode cX7_requireParcel 23 = .ok (.ldc_w 306, 3) := by decide +kernel
theorem dX7_requireParcel_26 : decode cX7_requireParcel 26 = .ok (.invokespecial 106, 3) := by decide +kernel
theorem dX7_requireParcel_29 : decode cX7_requireParcel 29 = .ok (.athrow, 1) := by decide +kernel
theorem dX7_requireParcel_30 : decode cX7_requireParcel 30 = .ok (.return_, 1) := by decide +kernel
set_option maxHeartbeats 4000000 in
set_option maxRecDepth 100000 in
theorem mX7_requireParcel {D : va_G} {U : zz_U} {ad : Nat → Nat} {X : va_W} (σ : zz_St) (parcel_ : Int32) (r : ((Unit ⊕ String) × zz_St)) (hf : fX7_requireParcel σ parcel_ = some r) : zz_Met yX7_requireParcel (.code yX7_requireParcel cX7_requireParcel 2 none) 6 1 6 D U [.ref (ad 0), .int parcel_] (zz_wc U ad σ X) (match r.1 with | .inl _ => zz_ok none (zz_wc U ad r.2 X) | .inr _ => zz_none) (match r.1 with | .inl _ => zz_noth | .inr E => zz_th E (zz_wc U ad r.2 X)) := by
  unfold fX7_requireParcel at hf
  refine zz_method RX7 rfl (by decide +kernel) (Nat.le_of_ble_eq_true rfl) ?_
  intro p l e s m args below meth c A _ C
  refine zz_lvs (lv1 := [(0, .ref (ad 0)), (1, .int parcel_)]) rfl ?_
  refine zz_aload_n C 0 dX7_requireParcel_0 rfl rfl ?_
  obtain ⟨x1, h2, hf⟩ := zz_bind hf
  refine zz_callV1 (As := []) (rest := []) C 0 (mX7_putTogether σ x1 h2) dX7_requireParcel_1 rfl rfl rfl zw_90 zy_X7_putTogether rfl (by decide) (by decide) (Nat.le_of_ble_eq_true rfl) (Nat.le_of_ble_eq_true rfl) (Nat.le_of_ble_eq_true rfl) rfl ?_
  obtain ⟨b3, h4, hf⟩ := zz_bind hf
  refine zz_cutI (P := b3 = true) 19 [(0, .ref (ad 0)), (1, .int parcel_)] [] (zz_wc U ad x1 X) (fun g7 => ?_) (fun J5 => ?_)
  · rw [if_pos g7] at hf
    cases hf
    exact zz_throwSW (cls := "java/lang/IndexOutOfBoundsException") (text := "no such parcel") C zt_2 (by decide +kernel) dX7_requireParcel_19 dX7_requireParcel_22 dX7_requireParcel_23 dX7_requireParcel_26 dX7_requireParcel_29 (by decide) (Nat.le_of_ble_eq_true rfl) (Nat.le_of_ble_eq_true rfl) (Nat.le_of_ble_eq_true rfl) (Nat.le_of_ble_eq_true rfl) (Nat.le_of_ble_eq_true rfl) (And.intro rfl rfl)
  refine zz_cutI (P := b3 = false) 30 [(0, .ref (ad 0)), (1, .int parcel_)] [] (zz_wc U ad x1 X) (fun g7 => ?_) (fun J6 => ?_)
  · rw [if_neg (show ¬ b3 = true by rw [g7]; decide)] at hf
    cases hf
    exact zz_vret C dX7_requireParcel_30 (And.intro rfl rfl) (Nat.le_of_ble_eq_true rfl) (Nat.le_of_ble_eq_true rfl)
  refine zz_iload_n C 1 dX7_requireParcel_4 rfl rfl ?_
  refine zz_if_lt (tgt := 19) C dX7_requireParcel_5 (by decide) (fun g8 => ?_) (fun g8 => ?_)
  · rw [if_pos g8] at h4
    cases h4
    exact J5 rfl
  · rw [if_neg g8] at h4
    refine zz_iload_n C 1 dX7_requireParcel_8 rfl rfl ?_
    refine zz_aload_n C 0 dX7_requireParcel_9 rfl rfl ?_
    refine zf7_parcels C dX7_requireParcel_10 zw_85 ?_
    refine zf4_count C dX7_requireParcel_13 zw_99 ?_
    refine zz_icmp_lt (tgt := 30) C dX7_requireParcel_16 (by decide) (fun g9 => ?_) (fun g9 => ?_)
    · rw [if_pos g9] at h4
      cases h4
      exact J6 rfl
    · rw [if_neg g9] at h4
      cases h4
      exact J5 rfl
theorem mX7_requireParcel_r {D : va_G} {U : zz_U} {ad : Nat → Nat} {X : va_W} (σ : zz_St) (parcel_ : Int32) (x : Unit) (σ1 : zz_St) (hf : fX7_requireParcel σ parcel_ = some (.inl x, σ1)) : zz_Met yX7_requireParcel (.code yX7_requireParcel cX7_requireParcel 2 none) 6 1 6 D U [.ref (ad 0), .int parcel_] (zz_wc U ad σ X) (zz_ok none (zz_wc U ad σ1 X)) zz_noth := mX7_requireParcel σ parcel_ (.inl x, σ1) hf
theorem mX7_requireParcel_x {D : va_G} {U : zz_U} {ad : Nat → Nat} {X : va_W} (σ : zz_St) (parcel_ : Int32) (x : String) (σ1 : zz_St) (hf : fX7_requireParcel σ parcel_ = some (.inr x, σ1)) : zz_Met yX7_requireParcel (.code yX7_requireParcel cX7_requireParcel 2 none) 6 1 6 D U [.ref (ad 0), .int parcel_] (zz_wc U ad σ X) zz_none (zz_th x (zz_wc U ad σ1 X)) := mX7_requireParcel σ parcel_ (.inr x, σ1) hf
theorem dX7_parcel_0 : decode cX7_parcel 0 = .ok (.aload_n 0, 1) := by decide +kernel
theorem dX7_parcel_1 : decode cX7_parcel 1 = .ok (.iload_n 1, 1) := by decide +kernel
theorem dX7_parcel_2 : decode cX7_parcel 2 = .ok (.invokevirtual 206, 3) := by decide +kernel
theorem dX7_parcel_5 : decode cX7_parcel 5 = .ok (.aload_n 0, 1) := by decide +kernel
theorem dX7_parcel_6 : decode cX7_parcel 6 = .ok (.getfield 47, 3) := by decide +kernel
theorem dX7_parcel_9 : decode cX7_parcel 9 = .ok (.getfield 209, 3) := by decide +kernel
theorem dX7_parcel_12 : decode cX7_parcel 12 = .ok (.iload_n 1, 1) := by decide +kernel
theorem dX7_parcel_13 : decode cX7_parcel 13 = .ok (.iaload, 1) := by decide +kernel
theorem dX7_parcel_14 : decode cX7_parcel 14 = .ok (.ireturn, 1) := by decide +kernel
set_option maxHeartbeats 4000000 in
set_option maxRecDepth 100000 in
theorem mX7_parcel {D : va_G} {U : zz_U} {ad : Nat → Nat} {X : va_W} (σ : zz_St) (parcel_ : Int32) (r : ((Int32 ⊕ String) × zz_St)) (hf : fX7_parcel σ parcel_ = some r) : zz_Met yX7_parcel (.code yX7_parcel cX7_parcel 2 (some .int)) 7 1 6 D U [.ref (ad 0), .int parcel_] (zz_wc U ad σ X) (match r.1 with | .inl x => zz_ok (some (.int x)) (zz_wc U ad r.2 X) | .inr _ => zz_none) (match r.1 with | .inl _ => zz_noth | .inr E => zz_th E (zz_wc U ad r.2 X)) := by
  unfold fX7_parcel at hf
  refine zz_method RX7 rfl (by decide +kernel) (Nat.le_of_ble_eq_true rfl) ?_
  intro p l e s m args below meth c A _ C
  refine zz_lvs (lv1 := [(0, .ref (ad 0)), (1, .int parcel_)]) rfl ?_
  refine zz_aload_n C 0 dX7_parcel_0 rfl rfl ?_
  refine zz_iload_n C 1 dX7_parcel_1 rfl rfl ?_
  obtain ⟨⟨x1, σ4⟩, h2, hf⟩ := zz_bind hf
  rcases x1 with x1 | E3
  · try dsimp only at hf
    refine zz_callV1 (As := [.int parcel_]) (rest := []) C 0 (mX7_requireParcel_r σ parcel_ x1 σ4 h2) dX7_parcel_2 rfl rfl rfl zw_101 zy_X7_requireParcel rfl (by decide) (by decide) (Nat.le_of_ble_eq_true rfl) (Nat.le_of_ble_eq_true rfl) (Nat.le_of_ble_eq_true rfl) rfl ?_
    refine zz_aload_n C 0 dX7_parcel_5 rfl rfl ?_
    refine zf7_parcels C dX7_parcel_6 zw_85 ?_
    refine zf4_sets C dX7_parcel_9 zw_100 ?_
    refine zz_iload_n C 1 dX7_parcel_12 rfl rfl ?_
    obtain ⟨x5, h6, hf⟩ := zz_bind hf
    refine zl_42 C dX7_parcel_13 h6 ?_
    cases hf
    exact zz_iret C dX7_parcel_14 (And.intro rfl rfl) (Nat.le_of_ble_eq_true rfl) (Nat.le_of_ble_eq_true rfl)
  · refine zz_callVx (As := [.int parcel_]) (rest := []) C 0 (mX7_requireParcel_x σ parcel_ E3 σ4 h2) dX7_parcel_2 rfl rfl rfl zw_101 zy_X7_requireParcel rfl (by decide) (by decide) (Nat.le_of_ble_eq_true rfl) (Nat.le_of_ble_eq_true rfl) (Nat.le_of_ble_eq_true rfl) ?_
    cases hf
    exact zz_out C (And.intro rfl rfl) (Nat.le_of_ble_eq_true rfl) (Nat.le_of_ble_eq_true rfl)
theorem mX7_parcel_r {D : va_G} {U : zz_U} {ad : Nat → Nat} {X : va_W} (σ : zz_St) (parcel_ : Int32) (x : Int32) (σ1 : zz_St) (hf : fX7_parcel σ parcel_ = some (.inl x, σ1)) : zz_Met yX7_parcel (.code yX7_parcel cX7_parcel 2 (some .int)) 7 1 6 D U [.ref (ad 0), .int parcel_] (zz_wc U ad σ X) (zz_ok (some (.int x)) (zz_wc U ad σ1 X)) zz_noth := mX7_parcel σ parcel_ (.inl x, σ1) hf
theorem mX7_parcel_x {D : va_G} {U : zz_U} {ad : Nat → Nat} {X : va_W} (σ : zz_St) (parcel_ : Int32) (x : String) (σ1 : zz_St) (hf : fX7_parcel σ parcel_ = some (.inr x, σ1)) : zz_Met yX7_parcel (.code yX7_parcel cX7_parcel 2 (some .int)) 7 1 6 D U [.ref (ad 0), .int parcel_] (zz_wc U ad σ X) zz_none (zz_th x (zz_wc U ad σ1 X)) := mX7_parcel σ parcel_ (.inr x, σ1) hf
set_option maxHeartbeats 4000000 in
set_option maxRecDepth 100000 in
theorem mX7_placeOf_a42_L1 {p : Program} {l : Launch} {e : Env} {R : Room} {s : State} {m : MethodId} {args : Array Value} {below : List Frame} {meth : Method} {c : Code} {Q : State → Prop} {D : va_G} {U : zz_U} {A : Nat → Prop} {cells slots : Nat} {ad : Nat → Nat} {X : va_W} (C : zz_C p l R s m meth c D U A RX7 cX7_placeOf 4 (some .int) [] 1) (hcR : cells ≤ R.cells) (hsR : slots ≤ R.slots) (σ : zz_St) (piece_ : Int32) (count_ : Int32) : ∀ (n : Nat) (place_ : Int32) (q : (Int32 ⊕ (Int32))), fX7_placeOf_a42_L1 σ piece_ count_ n place_ = some q → (∀ v : Int32, q = .inl v → zz_Z p l e R s m args below meth c Q D A 4 cells slots (zz_wc U ad σ X) 24 [] [.int v]) → (∀ w : Int32, q = .inr w → zz_Z p l e R s m args below meth c Q D A 4 cells slots (zz_wc U ad σ X) 31 [(0, .int piece_), (1, .ref (ad 42)), (2, .int count_), (3, .int w)] []) → zz_Z p l e R s m args below meth c Q D A 4 cells slots (zz_wc U ad σ X) 2 [(0, .int piece_), (1, .ref (ad 42)), (2, .int count_), (3, .int place_)] [] := by
  intro n
  induction n with
  | zero => intro place_ q hf; rw [fX7_placeOf_a42_L1] at hf; cases hf
  | succ n ih =>
    intro place_ q hf kr kx
    rw [fX7_placeOf_a42_L1] at hf
    obtain ⟨b1, h2, hf⟩ := zz_bind hf
    refine zz_cutI (P := b1 = true) 13 [(0, .int piece_), (1, .ref (ad 42)), (2, .int count_), (3, .int place_)] [] (zz_wc U ad σ X) (fun g5 => ?_) (fun J3 => ?_)
    · rw [if_pos g5] at hf
      refine zz_iload_n C 0 dX7_placeOf_13 rfl rfl ?_
      refine zz_aload_n C 1 dX7_placeOf_14 rfl rfl ?_
      refine zz_iload_n C 3 dX7_placeOf_15 rfl rfl ?_
      obtain ⟨x8, h9, hf⟩ := zz_bind hf
      refine zl_42 C dX7_placeOf_16 h9 ?_
      obtain ⟨x10, h11, hf⟩ := zz_bind hf
      refine zz_callS1 (As := [.int piece_, .int x8]) (rest := []) C (mX7_isIn σ piece_ x8 x10 h11) dX7_placeOf_17 rfl zw_93 zy_X7_isIn rfl (by decide) (by decide) (Nat.le_of_ble_eq_true rfl) hcR hsR rfl ?_
      refine zz_if_eq (tgt := 25) C dX7_placeOf_20 (by decide) (fun g12 => ?_) (fun g12 => ?_)
      · rw [if_pos g12] at hf
        refine zz_iinc (v := (place_ + (1 : Int32))) C 3 dX7_placeOf_25 rfl (by rfl) (by decide) (lv' := [(3, .int (place_ + (1 : Int32))), (0, .int piece_), (1, .ref (ad 42)), (2, .int count_)]) rfl ?_
        refine zz_goto (tgt := 2) C dX7_placeOf_28 (by decide) ?_
        refine zz_sub [1, 2, 3, 0] rfl ?_
        exact ih (place_ + (1 : Int32)) _ hf kr kx
      · rw [if_neg g12] at hf
        refine zz_iload_n C 3 dX7_placeOf_23 rfl rfl ?_
        cases hf
        refine zz_sub [] rfl ?_
        exact kr _ rfl
    refine zz_cutI (P := b1 = false) 31 [(0, .int piece_), (1, .ref (ad 42)), (2, .int count_), (3, .int place_)] [] (zz_wc U ad σ X) (fun g5 => ?_) (fun J4 => ?_)
    · rw [if_neg (show ¬ b1 = true by rw [g5]; decide)] at hf
      cases hf
      exact kx _ rfl
    refine zz_iload_n C 3 dX7_placeOf_2 rfl rfl ?_
    refine zz_iload_n C 2 dX7_placeOf_3 rfl rfl ?_
    refine zz_icmp_ge (tgt := 31) C dX7_placeOf_4 (by decide) (fun g6 => ?_) (fun g6 => ?_)
    · rw [if_pos g6] at h2
      cases h2
      exact J4 rfl
    · rw [if_neg g6] at h2
      refine zz_iload_n C 3 dX7_placeOf_7 rfl rfl ?_
      refine zz_aload_n C 1 dX7_placeOf_8 rfl rfl ?_
      refine zz_alen (v := (14 : Int32)) C 42 0 dX7_placeOf_9 rfl rfl rfl ?_
      refine zz_icmp_ge (tgt := 31) C dX7_placeOf_10 (by decide) (fun g7 => ?_) (fun g7 => ?_)
      · rw [if_pos g7] at h2
        cases h2
        exact J4 rfl
      · rw [if_neg g7] at h2
        cases h2
        exact J3 rfl
set_option maxHeartbeats 4000000 in
set_option maxRecDepth 100000 in
theorem mX7_placeOf_a42 {D : va_G} {U : zz_U} {ad : Nat → Nat} {X : va_W} (σ : zz_St) (piece_ : Int32) (count_ : Int32) (r : Int32) (hf : fX7_placeOf_a42 σ piece_ count_ = some r) : zz_Met yX7_placeOf (.code yX7_placeOf cX7_placeOf 4 (some .int)) 1 0 0 D U [.int piece_, .ref (ad 42), .int count_] (zz_wc U ad σ X) (zz_ok (some (.int r)) (zz_wc U ad σ X)) zz_noth := by
  unfold fX7_placeOf_a42 at hf
  refine zz_method RX7 rfl (by decide +kernel) (Nat.le_of_ble_eq_true rfl) ?_
  intro p l e s m args below meth c A _ C
  refine zz_lvs (lv1 := [(0, .int piece_), (1, .ref (ad 42)), (2, .int count_)]) rfl ?_
  refine zz_iconst (v := (0 : Int32)) C dX7_placeOf_0 (by decide) ?_
  refine zz_istore_n C dX7_placeOf_1 rfl (by decide) (lv' := [(3, .int (0 : Int32)), (0, .int piece_), (1, .ref (ad 42)), (2, .int count_)]) rfl ?_
  obtain ⟨q13, h14, hf⟩ := zz_bind hf
  refine zz_sub [1, 2, 3, 0] rfl ?_
  refine mX7_placeOf_a42_L1 C (Nat.le_of_ble_eq_true rfl) (Nat.le_of_ble_eq_true rfl) σ piece_ count_ 1000 (0 : Int32) q13 h14 (fun v15 h17 => ?_) (fun w16 h17 => ?_)
  · subst h17
    cases hf
    exact zz_iret C dX7_placeOf_24 (And.intro rfl rfl) (Nat.le_of_ble_eq_true rfl) (Nat.le_of_ble_eq_true rfl)
  · subst h17
    refine zz_iconst (v := (-1 : Int32)) C dX7_placeOf_31 (by decide) ?_
    cases hf
    exact zz_iret C dX7_placeOf_32 (And.intro rfl rfl) (Nat.le_of_ble_eq_true rfl) (Nat.le_of_ble_eq_true rfl)
theorem dX7_parcelOf_0 : decode cX7_parcelOf 0 = .ok (.aload_n 0, 1) := by decide +kernel
theorem dX7_parcelOf_1 : decode cX7_parcelOf 1 = .ok (.iload_n 1, 1) := by decide +kernel
theorem dX7_parcelOf_2 : decode cX7_parcelOf 2 = .ok (.invokevirtual 136, 3) := by decide +kernel
theorem dX7_parcelOf_5 : decode cX7_parcelOf 5 = .ok (.aload_n 0, 1) := by decide +kernel
theorem dX7_parcelOf_6 : decode cX7_parcelOf 6 = .ok (.invokevirtual 176, 3) := by decide +kernel
theorem dX7_parcelOf_9 : decode cX7_parcelOf 9 = .ok (.iload_n 1, 1) := by decide +kernel
theorem dX7_parcelOf_10 : decode cX7_parcelOf 10 = .ok (.aload_n 0, 1) := by decide +kernel
theorem dX7_parcelOf_11 : decode cX7_parcelOf 11 = .ok (.getfield 47, 3) := by decide +kernel
theorem dX7_parcelOf_14 : decode cX7_parcelOf 14 = .ok (.getfield 209, 3) := by decide +kernel
theorem dX7_parcelOf_17 : decode cX7_parcelOf 17 = .ok (.aload_n 0, 1) := by decide +kernel
theorem dX7_parcelOf_18 : decode cX7_parcelOf 18 = .ok (.getfield 47, 3) := by decide +kernel
theorem dX7_parcelOf_21 : decode cX7_parcelOf 21 = .ok (.getfield 205, 3) := by decide +kernel
theorem dX7_parcelOf_24 : decode cX7_parcelOf 24 = .ok (.invokestatic 186, 3) := by decide +kernel
theorem dX7_parcelOf_27 : decode cX7_parcelOf 27 = .ok (.ireturn, 1) := by decide +kernel
set_option maxHeartbeats 4000000 in
set_option maxRecDepth 100000 in
theorem mX7_parcelOf {D : va_G} {U : zz_U} {ad : Nat → Nat} {X : va_W} (σ : zz_St) (piece_ : Int32) (r : ((Int32 ⊕ String) × zz_St)) (hf : fX7_parcelOf σ piece_ = some r) : zz_Met yX7_parcelOf (.code yX7_parcelOf cX7_parcelOf 2 (some .int)) 7 1 6 D U [.ref (ad 0), .int piece_] (zz_wc U ad σ X) (match r.1 with | .inl x => zz_ok (some (.int x)) (zz_wc U ad r.2 X) | .inr _ => zz_none) (match r.1 with | .inl _ => zz_noth | .inr E => zz_th E (zz_wc U ad r.2 X)) := by
  unfold fX7_parcelOf at hf
  refine zz_method RX7 rfl (by decide +kernel) (Nat.le_of_ble_eq_true rfl) ?_
  intro p l e s m args below meth c A _ C
  refine zz_lvs (lv1 := [(0, .ref (ad 0)), (1, .int piece_)]) rfl ?_
  refine zz_aload_n C 0 dX7_parcelOf_0 rfl rfl ?_
  refine zz_iload_n C 1 dX7_parcelOf_1 rfl rfl ?_
  obtain ⟨x1, h2, hf⟩ := zz_bind hf
  rcases x1 with x1 | E3
  · refine zz_callV1 (As := [.int piece_]) (rest := []) C 0 (mX7_requirePiece_r σ piece_ x1 h2) dX7_parcelOf_2 rfl rfl rfl zw_14 zy_X7_requirePiece rfl (by decide) (by decide) (Nat.le_of_ble_eq_true rfl) (Nat.le_of_ble_eq_true rfl) (Nat.le_of_ble_eq_true rfl) rfl ?_
    refine zz_aload_n C 0 dX7_parcelOf_5 rfl rfl ?_
    obtain ⟨x4, h5, hf⟩ := zz_bind hf
    refine zz_callV1 (As := []) (rest := []) C 0 (mX7_putTogether σ x4 h5) dX7_parcelOf_6 rfl rfl rfl zw_90 zy_X7_putTogether rfl (by decide) (by decide) (Nat.le_of_ble_eq_true rfl) (Nat.le_of_ble_eq_true rfl) (Nat.le_of_ble_eq_true rfl) rfl ?_
    refine zz_iload_n C 1 dX7_parcelOf_9 rfl rfl ?_
    refine zz_aload_n C 0 dX7_parcelOf_10 rfl rfl ?_
    refine zf7_parcels C dX7_parcelOf_11 zw_85 ?_
    refine zf4_sets C dX7_parcelOf_14 zw_100 ?_
    refine zz_aload_n C 0 dX7_parcelOf_17 rfl rfl ?_
    refine zf7_parcels C dX7_parcelOf_18 zw_85 ?_
    refine zf4_count C dX7_parcelOf_21 zw_99 ?_
    obtain ⟨x6, h7, hf⟩ := zz_bind hf
    refine zz_callS1 (As := [.int piece_, .ref (ad 42), .int (x4 41 0)]) (rest := []) C (mX7_placeOf_a42 x4 piece_ (x4 41 0) x6 h7) dX7_parcelOf_24 rfl zw_94 zy_X7_placeOf rfl (by decide) (by decide) (Nat.le_of_ble_eq_true rfl) (Nat.le_of_ble_eq_true rfl) (Nat.le_of_ble_eq_true rfl) rfl ?_
    cases hf
    exact zz_iret C dX7_parcelOf_27 (And.intro rfl rfl) (Nat.le_of_ble_eq_true rfl) (Nat.le_of_ble_eq_true rfl)
  · refine zz_callVx (As := [.int piece_]) (rest := []) C 0 (mX7_requirePiece_x σ piece_ E3 h2) dX7_parcelOf_2 rfl rfl rfl zw_14 zy_X7_requirePiece rfl (by decide) (by decide) (Nat.le_of_ble_eq_true rfl) (Nat.le_of_ble_eq_true rfl) (Nat.le_of_ble_eq_true rfl) ?_
    cases hf
    exact zz_out C (And.intro rfl rfl) (Nat.le_of_ble_eq_true rfl) (Nat.le_of_ble_eq_true rfl)
theorem mX7_parcelOf_r {D : va_G} {U : zz_U} {ad : Nat → Nat} {X : va_W} (σ : zz_St) (piece_ : Int32) (x : Int32) (σ1 : zz_St) (hf : fX7_parcelOf σ piece_ = some (.inl x, σ1)) : zz_Met yX7_parcelOf (.code yX7_parcelOf cX7_parcelOf 2 (some .int)) 7 1 6 D U [.ref (ad 0), .int piece_] (zz_wc U ad σ X) (zz_ok (some (.int x)) (zz_wc U ad σ1 X)) zz_noth := mX7_parcelOf σ piece_ (.inl x, σ1) hf
theorem mX7_parcelOf_x {D : va_G} {U : zz_U} {ad : Nat → Nat} {X : va_W} (σ : zz_St) (piece_ : Int32) (x : String) (σ1 : zz_St) (hf : fX7_parcelOf σ piece_ = some (.inr x, σ1)) : zz_Met yX7_parcelOf (.code yX7_parcelOf cX7_parcelOf 2 (some .int)) 7 1 6 D U [.ref (ad 0), .int piece_] (zz_wc U ad σ X) zz_none (zz_th x (zz_wc U ad σ1 X)) := mX7_parcelOf σ piece_ (.inr x, σ1) hf
theorem dX7_knots_0 : decode cX7_knots 0 = .ok (.aload_n 0, 1) := by decide +kernel
theorem dX7_knots_1 : decode cX7_knots 1 = .ok (.invokevirtual 176, 3) := by decide +kernel
theorem dX7_knots_4 : decode cX7_knots 4 = .ok (.aload_n 0, 1) := by decide +kernel
theorem dX7_knots_5 : decode cX7_knots 5 = .ok (.getfield 47, 3) := by decide +kernel
theorem dX7_knots_8 : decode cX7_knots 8 = .ok (.getfield 210, 3) := by decide +kernel
theorem dX7_knots_11 : decode cX7_knots 11 = .ok (.ireturn, 1) := by decide +kernel
set_option maxHeartbeats 4000000 in
set_option maxRecDepth 100000 in
theorem mX7_knots {D : va_G} {U : zz_U} {ad : Nat → Nat} {X : va_W} (σ : zz_St) (r : (Int32 × zz_St)) (hf : fX7_knots σ = some r) : zz_Met yX7_knots (.code yX7_knots cX7_knots 1 (some .int)) 6 0 0 D U [.ref (ad 0)] (zz_wc U ad σ X) (zz_ok (some (.int r.1)) (zz_wc U ad r.2 X)) zz_noth := by
  unfold fX7_knots at hf
  refine zz_method RX7 rfl (by decide +kernel) (Nat.le_of_ble_eq_true rfl) ?_
  intro p l e s m args below meth c A _ C
  refine zz_lvs (lv1 := [(0, .ref (ad 0))]) rfl ?_
  refine zz_aload_n C 0 dX7_knots_0 rfl rfl ?_
  obtain ⟨x1, h2, hf⟩ := zz_bind hf
  refine zz_callV1 (As := []) (rest := []) C 0 (mX7_putTogether σ x1 h2) dX7_knots_1 rfl rfl rfl zw_90 zy_X7_putTogether rfl (by decide) (by decide) (Nat.le_of_ble_eq_true rfl) (Nat.le_of_ble_eq_true rfl) (Nat.le_of_ble_eq_true rfl) rfl ?_
  refine zz_aload_n C 0 dX7_knots_4 rfl rfl ?_
  refine zf7_parcels C dX7_knots_5 zw_85 ?_
  refine zf4_knotCount C dX7_knots_8 zw_102 ?_
  cases hf
  exact zz_iret C dX7_knots_11 (And.intro rfl rfl) (Nat.le_of_ble_eq_true rfl) (Nat.le_of_ble_eq_true rfl)
theorem dX5_linesOf_0 : decode cX5_linesOf 0 = .ok (.iconst 0, 1) := by decide +kernel
theorem dX5_linesOf_1 : decode cX5_linesOf 1 = .ok (.istore_n 2, 1) := by decide +kernel
theorem dX5_linesOf_2 : decode cX5_linesOf 2 = .ok (.iconst 0, 1) := by decide +kernel
theorem dX5_linesOf_3 : decode cX5_linesOf 3 = .ok (.istore_n 3, 1) := by decide +kernel
theorem dX5_linesOf_4 : decode cX5_linesOf 4 = .ok (.iload_n 3, 1) := by decide +kernel
theorem dX5_linesOf_5 : decode cX5_linesOf 5 = .ok (.aload_n 0, 1) := by decide +kernel
theorem dX5_linesOf_6 : decode cX5_linesOf 6 = .ok (.getfield 35, 3) := by decide +kernel
theorem dX5_linesOf_9 : decode cX5_linesOf 9 = .ok (.if_icmp .ge 33, 3) := by decide +kernel
theorem dX5_linesOf_12 : decode cX5_linesOf 12 = .ok (.iload_n 3, 1) := by decide +kernel
theorem dX5_linesOf_13 : decode cX5_linesOf 13 = .ok (.iload_n 1, 1) := by decide +kernel
theorem dX5_linesOf_14 : decode cX5_linesOf 14 = .ok (.invokestatic 49, 3) := by decide +kernel
theorem dX5_linesOf_17 : decode cX5_linesOf 17 = .ok (.ifCond .eq 19, 3) := by decide +kernel
theorem dX5_linesOf_20 : decode cX5_linesOf 20 = .ok (.iload_n 2, 1) := by decide +kernel
theorem dX5_linesOf_21 : decode cX5_linesOf 21 = .ok (.aload_n 0, 1) := by decide +kernel
theorem dX5_linesOf_22 : decode cX5_linesOf 22 = .ok (.getfield 18, 3) := by decide +kernel
theorem dX5_linesOf_25 : decode cX5_linesOf 25 = .ok (.iload_n 3, 1) := by decide +kernel
theorem dX5_linesOf_26 : decode cX5_linesOf 26 = .ok (.iaload, 1) := by decide +kernel
theorem dX5_linesOf_27 : decode cX5_linesOf 27 = .ok (.aload_n 0, 1) := by decide +kernel
theorem dX5_linesOf_28 : decode cX5_linesOf 28 = .ok (.getfield 21, 3) := by decide +kernel
theorem dX5_linesOf_31 : decode cX5_linesOf 31 = .ok (.iload_n 3, 1) := by decide +kernel
theorem dX5_linesOf_32 : decode cX5_linesOf 32 = .ok (.iaload, 1) := by decide +kernel
theorem dX5_linesOf_33 : decode cX5_linesOf 33 = .ok (.iadd, 1) := by decide +kernel
theorem dX5_linesOf_34 : decode cX5_linesOf 34 = .ok (.iadd, 1) := by decide +kernel
theorem dX5_linesOf_35 : decode cX5_linesOf 35 = .ok (.istore_n 2, 1) := by decide +kernel
theorem dX5_linesOf_36 : decode cX5_linesOf 36 = .ok (.iinc 3 1, 3) := by decide +kernel
theorem dX5_linesOf_39 : decode cX5_linesOf 39 = .ok (.goto (-35), 3) := by decide +kernel
theorem dX5_linesOf_42 : decode cX5_linesOf 42 = .ok (.iload_n 2, 1) := by decide +kernel
theorem dX5_linesOf_43 : decode cX5_linesOf 43 = .ok (.ireturn, 1) := by decide +kernel
set_option maxHeartbeats 4000000 in
set_option maxRecDepth 100000 in
theorem mX5_linesOf_L1 {p : Program} {l : Launch} {e : Env} {R : Room} {s : State} {m : MethodId} {args : Array Value} {below : List Frame} {meth : Method} {c : Code} {Q : State → Prop} {D : va_G} {U : zz_U} {A : Nat → Prop} {cells slots : Nat} {ad : Nat → Nat} {X : va_W} (C : zz_C p l R s m meth c D U A RX5 cX5_linesOf 4 (some .int) [] 1) (hcR : cells ≤ R.cells) (hsR : slots ≤ R.slots) (σ : zz_St) (set_ : Int32) : ∀ (n : Nat) (sum_ : Int32) (piece_ : Int32) (q : (Int32 × Int32)), fX5_linesOf_L1 σ set_ n sum_ piece_ = some q → (zz_Z p l e R s m args below meth c Q D A 4 cells slots (zz_wc U ad σ X) 42 [(0, .ref (ad 1)), (1, .int set_), (2, .int q.1), (3, .int q.2)] []) → zz_Z p l e R s m args below meth c Q D A 4 cells slots (zz_wc U ad σ X) 4 [(0, .ref (ad 1)), (1, .int set_), (2, .int sum_), (3, .int piece_)] [] := by
  intro n
  induction n with
  | zero => intro sum_ piece_ q hf; rw [fX5_linesOf_L1] at hf; cases hf
  | succ n ih =>
    intro sum_ piece_ q hf kx
    rw [fX5_linesOf_L1] at hf
    refine zz_iload_n C 3 dX5_linesOf_4 rfl rfl ?_
    refine zz_aload_n C 0 dX5_linesOf_5 rfl rfl ?_
    refine zf5_count C dX5_linesOf_6 zw_3 ?_
    refine zz_icmp_ge (tgt := 42) C dX5_linesOf_9 (by decide) (fun g1 => ?_) (fun g1 => ?_)
    · rw [if_pos g1] at hf
      cases hf
      exact kx
    · rw [if_neg g1] at hf
      obtain ⟨x2, h3, hf⟩ := zz_bind hf
      refine zz_cut 36 [(0, .ref (ad 1)), (1, .int set_), (2, .int x2), (3, .int piece_)] [] (zz_wc U ad σ X) ?_ (fun J4 => ?_)
      · refine zz_iinc (v := (piece_ + (1 : Int32))) C 3 dX5_linesOf_36 rfl (by rfl) (by decide) (lv' := [(3, .int (piece_ + (1 : Int32))), (0, .ref (ad 1)), (1, .int set_), (2, .int x2)]) rfl ?_
        refine zz_goto (tgt := 4) C dX5_linesOf_39 (by decide) ?_
        refine zz_sub [1, 2, 3, 0] rfl ?_
        exact ih x2 (piece_ + (1 : Int32)) _ hf kx
      refine zz_iload_n C 3 dX5_linesOf_12 rfl rfl ?_
      refine zz_iload_n C 1 dX5_linesOf_13 rfl rfl ?_
      obtain ⟨x5, h6, h3⟩ := zz_bind h3
      refine zz_callSN1 (host := "ChangeUntangler") (As := [.int piece_, .int set_]) (rest := []) C (mX7_isIn σ piece_ set_ x5 h6) dX5_linesOf_14 rfl (by decide +kernel) zy_X7_isIn rfl (by decide) (by decide) (Nat.le_of_ble_eq_true rfl) hcR hsR rfl ?_
      refine zz_if_eq (tgt := 36) C dX5_linesOf_17 (by decide) (fun g7 => ?_) (fun g7 => ?_)
      · rw [if_pos g7] at h3
        cases h3
        exact J4
      · rw [if_neg g7] at h3
        refine zz_iload_n C 2 dX5_linesOf_20 rfl rfl ?_
        refine zz_aload_n C 0 dX5_linesOf_21 rfl rfl ?_
        refine zf5_added C dX5_linesOf_22 zw_6 ?_
        refine zz_iload_n C 3 dX5_linesOf_25 rfl rfl ?_
        obtain ⟨x8, h9, h3⟩ := zz_bind h3
        refine zl_4 C dX5_linesOf_26 h9 ?_
        refine zz_aload_n C 0 dX5_linesOf_27 rfl rfl ?_
        refine zf5_taken C dX5_linesOf_28 zw_5 ?_
        refine zz_iload_n C 3 dX5_linesOf_31 rfl rfl ?_
        obtain ⟨x10, h11, h3⟩ := zz_bind h3
        refine zl_5 C dX5_linesOf_32 h11 ?_
        refine zz_iadd C dX5_linesOf_33 ?_
        refine zz_iadd C dX5_linesOf_34 ?_
        obtain ⟨x12, h13, h3⟩ := zz_bind h3
        refine zz_topi (Option.some.inj h13) ?_
        refine zz_istore_n C dX5_linesOf_35 rfl (by decide) (lv' := [(2, .int x12), (0, .ref (ad 1)), (1, .int set_), (3, .int piece_)]) rfl ?_
        refine zz_sub [1, 2, 0, 3] rfl ?_
        cases h3
        exact J4
set_option maxHeartbeats 4000000 in
set_option maxRecDepth 100000 in
theorem mX5_linesOf {D : va_G} {U : zz_U} {ad : Nat → Nat} {X : va_W} (σ : zz_St) (set_ : Int32) (r : Int32) (hf : fX5_linesOf σ set_ = some r) : zz_Met yX5_linesOf (.code yX5_linesOf cX5_linesOf 4 (some .int)) 1 0 0 D U [.ref (ad 1), .int set_] (zz_wc U ad σ X) (zz_ok (some (.int r)) (zz_wc U ad σ X)) zz_noth := by
  unfold fX5_linesOf at hf
  refine zz_method RX5 rfl (by decide +kernel) (Nat.le_of_ble_eq_true rfl) ?_
  intro p l e s m args below meth c A _ C
  refine zz_lvs (lv1 := [(0, .ref (ad 1)), (1, .int set_)]) rfl ?_
  refine zz_iconst (v := (0 : Int32)) C dX5_linesOf_0 (by decide) ?_
  refine zz_istore_n C dX5_linesOf_1 rfl (by decide) (lv' := [(2, .int (0 : Int32)), (0, .ref (ad 1)), (1, .int set_)]) rfl ?_
  refine zz_iconst (v := (0 : Int32)) C dX5_linesOf_2 (by decide) ?_
  refine zz_istore_n C dX5_linesOf_3 rfl (by decide) (lv' := [(3, .int (0 : Int32)), (2, .int (0 : Int32)), (0, .ref (ad 1)), (1, .int set_)]) rfl ?_
  obtain ⟨q14, h15, hf⟩ := zz_bind hf
  refine zz_sub [2, 3, 1, 0] rfl ?_
  refine mX5_linesOf_L1 C (Nat.le_of_ble_eq_true rfl) (Nat.le_of_ble_eq_true rfl) σ set_ 1000 (0 : Int32) (0 : Int32) q14 h15 ?_
  refine zz_iload_n C 2 dX5_linesOf_42 rfl rfl ?_
  cases hf
  exact zz_iret C dX5_linesOf_43 (And.intro rfl rfl) (Nat.le_of_ble_eq_true rfl) (Nat.le_of_ble_eq_true rfl)
theorem dX7_lines_0 : decode cX7_lines 0 = .ok (.aload_n 0, 1) := by decide +kernel
theorem dX7_lines_1 : decode cX7_lines 1 = .ok (.iload_n 1, 1) := by decide +kernel
theorem dX7_lines_2 : decode cX7_lines 2 = .ok (.invokevirtual 206, 3) := by decide +kernel
theorem dX7_lines_5 : decode cX7_lines 5 = .ok (.aload_n 0, 1) := by decide +kernel
theorem dX7_lines_6 : decode cX7_lines 6 = .ok (.getfield 12, 3) := by decide +kernel
theorem dX7_lines_9 : decode cX7_lines 9 = .ok (.aload_n 0, 1) := by decide +kernel
theorem dX7_lines_10 : decode cX7_lines 10 = .ok (.getfield 47, 3) := by decide +kernel
theorem dX7_lines_13 : decode cX7_lines 13 = .ok (.getfield 209, 3) := by decide +kernel
theorem dX7_lines_16 : decode cX7_lines 16 = .ok (.iload_n 1, 1) := by decide +kernel
theorem dX7_lines_17 : decode cX7_lines 17 = .ok (.iaload, 1) := by decide +kernel
theorem dX7_lines_18 : decode cX7_lines 18 = .ok (.invokevirtual 213, 3) := by decide +kernel
theorem dX7_lines_21 : decode cX7_lines 21 = .ok (.ireturn, 1) := by decide +kernel
set_option maxHeartbeats 4000000 in
set_option maxRecDepth 100000 in
theorem mX7_lines {D : va_G} {U : zz_U} {ad : Nat → Nat} {X : va_W} (σ : zz_St) (parcel_ : Int32) (r : ((Int32 ⊕ String) × zz_St)) (hf : fX7_lines σ parcel_ = some r) : zz_Met yX7_lines (.code yX7_lines cX7_lines 2 (some .int)) 7 1 6 D U [.ref (ad 0), .int parcel_] (zz_wc U ad σ X) (match r.1 with | .inl x => zz_ok (some (.int x)) (zz_wc U ad r.2 X) | .inr _ => zz_none) (match r.1 with | .inl _ => zz_noth | .inr E => zz_th E (zz_wc U ad r.2 X)) := by
  unfold fX7_lines at hf
  refine zz_method RX7 rfl (by decide +kernel) (Nat.le_of_ble_eq_true rfl) ?_
  intro p l e s m args below meth c A _ C
  refine zz_lvs (lv1 := [(0, .ref (ad 0)), (1, .int parcel_)]) rfl ?_
  refine zz_aload_n C 0 dX7_lines_0 rfl rfl ?_
  refine zz_iload_n C 1 dX7_lines_1 rfl rfl ?_
  obtain ⟨⟨x1, σ4⟩, h2, hf⟩ := zz_bind hf
  rcases x1 with x1 | E3
  · try dsimp only at hf
    refine zz_callV1 (As := [.int parcel_]) (rest := []) C 0 (mX7_requireParcel_r σ parcel_ x1 σ4 h2) dX7_lines_2 rfl rfl rfl zw_101 zy_X7_requireParcel rfl (by decide) (by decide) (Nat.le_of_ble_eq_true rfl) (Nat.le_of_ble_eq_true rfl) (Nat.le_of_ble_eq_true rfl) rfl ?_
    refine zz_aload_n C 0 dX7_lines_5 rfl rfl ?_
    refine zf7_pieces C dX7_lines_6 zw_10 ?_
    refine zz_aload_n C 0 dX7_lines_9 rfl rfl ?_
    refine zf7_parcels C dX7_lines_10 zw_85 ?_
    refine zf4_sets C dX7_lines_13 zw_100 ?_
    refine zz_iload_n C 1 dX7_lines_16 rfl rfl ?_
    obtain ⟨x5, h6, hf⟩ := zz_bind hf
    refine zl_42 C dX7_lines_17 h6 ?_
    obtain ⟨x7, h8, hf⟩ := zz_bind hf
    refine zz_callV1 (As := [.int x5]) (rest := []) C 1 (mX5_linesOf σ4 x5 x7 h8) dX7_lines_18 rfl rfl rfl zw_103 zy_X5_linesOf rfl (by decide) (by decide) (Nat.le_of_ble_eq_true rfl) (Nat.le_of_ble_eq_true rfl) (Nat.le_of_ble_eq_true rfl) rfl ?_
    cases hf
    exact zz_iret C dX7_lines_21 (And.intro rfl rfl) (Nat.le_of_ble_eq_true rfl) (Nat.le_of_ble_eq_true rfl)
  · refine zz_callVx (As := [.int parcel_]) (rest := []) C 0 (mX7_requireParcel_x σ parcel_ E3 σ4 h2) dX7_lines_2 rfl rfl rfl zw_101 zy_X7_requireParcel rfl (by decide) (by decide) (Nat.le_of_ble_eq_true rfl) (Nat.le_of_ble_eq_true rfl) (Nat.le_of_ble_eq_true rfl) ?_
    cases hf
    exact zz_out C (And.intro rfl rfl) (Nat.le_of_ble_eq_true rfl) (Nat.le_of_ble_eq_true rfl)
theorem mX7_lines_r {D : va_G} {U : zz_U} {ad : Nat → Nat} {X : va_W} (σ : zz_St) (parcel_ : Int32) (x : Int32) (σ1 : zz_St) (hf : fX7_lines σ parcel_ = some (.inl x, σ1)) : zz_Met yX7_lines (.code yX7_lines cX7_lines 2 (some .int)) 7 1 6 D U [.ref (ad 0), .int parcel_] (zz_wc U ad σ X) (zz_ok (some (.int x)) (zz_wc U ad σ1 X)) zz_noth := mX7_lines σ parcel_ (.inl x, σ1) hf
theorem mX7_lines_x {D : va_G} {U : zz_U} {ad : Nat → Nat} {X : va_W} (σ : zz_St) (parcel_ : Int32) (x : String) (σ1 : zz_St) (hf : fX7_lines σ parcel_ = some (.inr x, σ1)) : zz_Met yX7_lines (.code yX7_lines cX7_lines 2 (some .int)) 7 1 6 D U [.ref (ad 0), .int parcel_] (zz_wc U ad σ X) zz_none (zz_th x (zz_wc U ad σ1 X)) := mX7_lines σ parcel_ (.inr x, σ1) hf
theorem dX5_all_0 : decode cX5_all 0 = .ok (.iconst 1, 1) := by decide +kernel
theorem dX5_all_1 : decode cX5_all 1 = .ok (.aload_n 0, 1) := by decide +kernel
theorem dX5_all_2 : decode cX5_all 2 = .ok (.getfield 35, 3) := by decide +kernel
theorem dX5_all_5 : decode cX5_all 5 = .ok (.ishl, 1) := by decide +kernel
theorem dX5_all_6 : decode cX5_all 6 = .ok (.iconst 1, 1) := by decide +kernel
theorem dX5_all_7 : decode cX5_all 7 = .ok (.isub, 1) := by decide +kernel
theorem dX5_all_8 : decode cX5_all 8 = .ok (.ireturn, 1) := by decide +kernel
set_option maxHeartbeats 4000000 in
set_option maxRecDepth 100000 in
theorem mX5_all {D : va_G} {U : zz_U} {ad : Nat → Nat} {X : va_W} (σ : zz_St) (r : Int32) (hf : fX5_all σ = some r) : zz_Met yX5_all (.code yX5_all cX5_all 1 (some .int)) 0 0 0 D U [.ref (ad 1)] (zz_wc U ad σ X) (zz_ok (some (.int r)) (zz_wc U ad σ X)) zz_noth := by
  unfold fX5_all at hf
  refine zz_method RX5 rfl (by decide +kernel) (Nat.le_of_ble_eq_true rfl) ?_
  intro p l e s m args below meth c A _ C
  refine zz_lvs (lv1 := [(0, .ref (ad 1))]) rfl ?_
  refine zz_iconst (v := (1 : Int32)) C dX5_all_0 (by decide) ?_
  refine zz_aload_n C 0 dX5_all_1 rfl rfl ?_
  refine zf5_count C dX5_all_2 zw_3 ?_
  refine zz_ishl C dX5_all_5 ?_
  refine zz_iconst (v := (1 : Int32)) C dX5_all_6 (by decide) ?_
  refine zz_isub C dX5_all_7 ?_
  cases hf
  exact zz_iret C dX5_all_8 (And.intro rfl rfl) (Nat.le_of_ble_eq_true rfl) (Nat.le_of_ble_eq_true rfl)
theorem dX1_brokenBy_0 : decode cX1_brokenBy 0 = .ok (.iconst 0, 1) := by decide +kernel
theorem dX1_brokenBy_1 : decode cX1_brokenBy 1 = .ok (.istore_n 3, 1) := by decide +kernel
theorem dX1_brokenBy_2 : decode cX1_brokenBy 2 = .ok (.iconst 0, 1) := by decide +kernel
theorem dX1_brokenBy_3 : decode cX1_brokenBy 3 = .ok (.istore 4, 2) := by decide +kernel
theorem dX1_brokenBy_5 : decode cX1_brokenBy 5 = .ok (.iload 4, 2) := by decide +kernel
theorem dX1_brokenBy_7 : decode cX1_brokenBy 7 = .ok (.bipush 16, 2) := by decide +kernel
theorem dX1_brokenBy_9 : decode cX1_brokenBy 9 = .ok (.if_icmp .ge 114, 3) := by decide +kernel
theorem dX1_brokenBy_12 : decode cX1_brokenBy 12 = .ok (.aload_n 0, 1) := by decide +kernel
theorem dX1_brokenBy_13 : decode cX1_brokenBy 13 = .ok (.getfield 15, 3) := by decide +kernel
theorem dX1_brokenBy_16 : decode cX1_brokenBy 16 = .ok (.iload 4, 2) := by decide +kernel
theorem dX1_brokenBy_18 : decode cX1_brokenBy 18 = .ok (.ishr, 1) := by decide +kernel
theorem dX1_brokenBy_19 : decode cX1_brokenBy 19 = .ok (.iconst 1, 1) := by decide +kernel
theorem dX1_brokenBy_20 : decode cX1_brokenBy 20 = .ok (.iand, 1) := by decide +kernel
theorem dX1_brokenBy_21 : decode cX1_brokenBy 21 = .ok (.aload_n 1, 1) := by decide +kernel
theorem dX1_brokenBy_22 : decode cX1_brokenBy 22 = .ok (.getfield 23, 3) := by decide +kernel
theorem dX1_brokenBy_25 : decode cX1_brokenBy 25 = .ok (.iconst 0, 1) := by decide +kernel
theorem dX1_brokenBy_26 : decode cX1_brokenBy 26 = .ok (.aaload, 1) := by decide +kernel
theorem dX1_brokenBy_27 : decode cX1_brokenBy 27 = .ok (.iload 4, 2) := by decide +kernel
theorem dX1_brokenBy_29 : decode cX1_brokenBy 29 = .ok (.iaload, 1) := by decide +kernel
theorem dX1_brokenBy_30 : decode cX1_brokenBy 30 = .ok (.iload_n 2, 1) := by decide +kernel
theorem dX1_brokenBy_31 : decode cX1_brokenBy 31 = .ok (.iand, 1) := by decide +kernel
theorem dX1_brokenBy_32 : decode cX1_brokenBy 32 = .ok (.invokestatic 29, 3) := by decide +kernel
theorem dX1_brokenBy_35 : decode cX1_brokenBy 35 = .ok (.iadd, 1) := by decide +kernel
theorem dX1_brokenBy_36 : decode cX1_brokenBy 36 = .ok (.aload_n 1, 1) := by decide +kernel
theorem dX1_brokenBy_37 : decode cX1_brokenBy 37 = .ok (.getfield 23, 3) := by decide +kernel
theorem dX1_brokenBy_40 : decode cX1_brokenBy 40 = .ok (.iconst 1, 1) := by decide +kernel
theorem dX1_brokenBy_41 : decode cX1_brokenBy 41 = .ok (.aaload, 1) := by decide +kernel
theorem dX1_brokenBy_42 : decode cX1_brokenBy 42 = .ok (.iload 4, 2) := by decide +kernel
theorem dX1_brokenBy_44 : decode cX1_brokenBy 44 = .ok (.iaload, 1) := by decide +kernel
theorem dX1_brokenBy_45 : decode cX1_brokenBy 45 = .ok (.iload_n 2, 1) := by decide +kernel
theorem dX1_brokenBy_46 : decode cX1_brokenBy 46 = .ok (.iand, 1) := by decide +kernel
theorem dX1_brokenBy_47 : decode cX1_brokenBy 47 = .ok (.invokestatic 29, 3) := by decide +kernel
theorem dX1_brokenBy_50 : decode cX1_brokenBy 50 = .ok (.isub, 1) := by decide +kernel
theorem dX1_brokenBy_51 : decode cX1_brokenBy 51 = .ok (.istore 5, 2) := by decide +kernel
theorem dX1_brokenBy_53 : decode cX1_brokenBy 53 = .ok (.aload_n 0, 1) := by decide +kernel
theorem dX1_brokenBy_54 : decode cX1_brokenBy 54 = .ok (.getfield 9, 3) := by decide +kernel
theorem dX1_brokenBy_57 : decode cX1_brokenBy 57 = .ok (.iload 4, 2) := by decide +kernel
theorem dX1_brokenBy_59 : decode cX1_brokenBy 59 = .ok (.iaload, 1) := by decide +kernel
theorem dX1_brokenBy_60 : decode cX1_brokenBy 60 = .ok (.aload_n 1, 1) := by decide +kernel
theorem dX1_brokenBy_61 : decode cX1_brokenBy 61 = .ok (.getfield 23, 3) := by decide +kernel
theorem dX1_brokenBy_64 : decode cX1_brokenBy 64 = .ok (.iconst 2, 1) := by decide +kernel
theorem dX1_brokenBy_65 : decode cX1_brokenBy 65 = .ok (.aaload, 1) := by decide +kernel
theorem dX1_brokenBy_66 : decode cX1_brokenBy 66 = .ok (.iload 4, 2) := by decide +kernel
theorem dX1_brokenBy_68 : decode cX1_brokenBy 68 = .ok (.iaload, 1) := by decide +kernel
theorem dX1_brokenBy_69 : decode cX1_brokenBy 69 = .ok (.iload_n 2, 1) := by decide +kernel
theorem dX1_brokenBy_70 : decode cX1_brokenBy 70 = .ok (.iand, 1) := by decide +kernel
theorem dX1_brokenBy_71 : decode cX1_brokenBy 71 = .ok (.invokestatic 29, 3) := by decide +kernel
theorem dX1_brokenBy_74 : decode cX1_brokenBy 74 = .ok (.iadd, 1) := by decide +kernel
theorem dX1_brokenBy_75 : decode cX1_brokenBy 75 = .ok (.aload_n 1, 1) := by decide +kernel
theorem dX1_brokenBy_76 : decode cX1_brokenBy 76 = .ok (.getfield 23, 3) := by decide +kernel
theorem dX1_brokenBy_79 : decode cX1_brokenBy 79 = .ok (.iconst 3, 1) := by decide +kernel
theorem dX1_brokenBy_80 : decode cX1_brokenBy 80 = .ok (.aaload, 1) := by decide +kernel
theorem dX1_brokenBy_81 : decode cX1_brokenBy 81 = .ok (.iload 4, 2) := by decide +kernel
theorem dX1_brokenBy_83 : decode cX1_brokenBy 83 = .ok (.iaload, 1) := by decide +kernel
theorem dX1_brokenBy_84 : decode cX1_brokenBy 84 = .ok (.iload_n 2, 1) := by decide +kernel
theorem dX1_brokenBy_85 : decode cX1_brokenBy 85 = .ok (.iand, 1) := by decide +kernel
theorem dX1_brokenBy_86 : decode cX1_brokenBy 86 = .ok (.invokestatic 29, 3) := by decide +kernel
theorem dX1_brokenBy_89 : decode cX1_brokenBy 89 = .ok (.isub, 1) := by decide +kernel
theorem dX1_brokenBy_90 : decode cX1_brokenBy 90 = .ok (.istore 6, 2) := by decide +kernel
theorem dX1_brokenBy_92 : decode cX1_brokenBy 92 = .ok (.iload 5, 2) := by decide +kernel
theorem dX1_brokenBy_94 : decode cX1_brokenBy 94 = .ok (.iconst 1, 1) := by decide +kernel
theorem dX1_brokenBy_95 : decode cX1_brokenBy 95 = .ok (.if_icmp .gt 15, 3) := by decide +kernel
theorem dX1_brokenBy_98 : decode cX1_brokenBy 98 = .ok (.iload 5, 2) := by decide +kernel
theorem dX1_brokenBy_100 : decode cX1_brokenBy 100 = .ok (.iconst 1, 1) := by decide +kernel
theorem dX1_brokenBy_101 : decode cX1_brokenBy 101 = .ok (.if_icmp .ge 16, 3) := by decide +kernel
theorem dX1_brokenBy_104 : decode cX1_brokenBy 104 = .ok (.iload 6, 2) := by decide +kernel
theorem dX1_brokenBy_106 : decode cX1_brokenBy 106 = .ok (.iconst 1, 1) := by decide +kernel
theorem dX1_brokenBy_107 : decode cX1_brokenBy 107 = .ok (.if_icmp .lt 10, 3) := by decide +kernel
theorem dX1_brokenBy_110 : decode cX1_brokenBy 110 = .ok (.iload_n 3, 1) := by decide +kernel
theorem dX1_brokenBy_111 : decode cX1_brokenBy 111 = .ok (.iconst 1, 1) := by decide +kernel
theorem dX1_brokenBy_112 : decode cX1_brokenBy 112 = .ok (.iload 4, 2) := by decide +kernel
theorem dX1_brokenBy_114 : decode cX1_brokenBy 114 = .ok (.ishl, 1) := by decide +kernel
theorem dX1_brokenBy_115 : decode cX1_brokenBy 115 = .ok (.ior, 1) := by decide +kernel
theorem dX1_brokenBy_116 : decode cX1_brokenBy 116 = .ok (.istore_n 3, 1) := by decide +kernel
theorem dX1_brokenBy_117 : decode cX1_brokenBy 117 = .ok (.iinc 4 1, 3) := by decide +kernel
theorem dX1_brokenBy_120 : decode cX1_brokenBy 120 = .ok (.goto (-115), 3) := by decide +kernel
theorem dX1_brokenBy_123 : decode cX1_brokenBy 123 = .ok (.iload_n 3, 1) := by decide +kernel
theorem dX1_brokenBy_124 : decode cX1_brokenBy 124 = .ok (.ireturn, 1) := by decide +kernel
set_option maxHeartbeats 4000000 in
set_option maxRecDepth 100000 in
theorem mX1_brokenBy_L1 {p : Program} {l : Launch} {e : Env} {R : Room} {s : State} {m : MethodId} {args : Array Value} {below : List Frame} {meth : Method} {c : Code} {Q : State → Prop} {D : va_G} {U : zz_U} {A : Nat → Prop} {cells slots : Nat} {ad : Nat → Nat} {X : va_W} (C : zz_C p l R s m meth c D U A RX1 cX1_brokenBy 7 (some .int) [] 1) (hcR : cells ≤ R.cells) (hsR : slots ≤ R.slots) (σ : zz_St) (applied_ : Int32) : ∀ (n : Nat) (found_ : Int32) (name_ : Int32) (q : (Int32 × Int32)), fX1_brokenBy_L1 σ applied_ n found_ name_ = some q → (zz_Z p l e R s m args below meth c Q D A 7 cells slots (zz_wc U ad σ X) 123 [(0, .ref (ad 17)), (1, .ref (ad 1)), (2, .int applied_), (3, .int q.1), (4, .int q.2)] []) → zz_Z p l e R s m args below meth c Q D A 7 cells slots (zz_wc U ad σ X) 5 [(0, .ref (ad 17)), (1, .ref (ad 1)), (2, .int applied_), (3, .int found_), (4, .int name_)] [] := by
  intro n
  induction n with
  | zero => intro found_ name_ q hf; rw [fX1_brokenBy_L1] at hf; cases hf
  | succ n ih =>
    intro found_ name_ q hf kx
    rw [fX1_brokenBy_L1] at hf
    refine zz_iload C 4 dX1_brokenBy_5 rfl ?_
    refine zz_bipush (v := (16 : Int32)) C dX1_brokenBy_7 (by decide) ?_
    refine zz_icmp_ge (tgt := 123) C dX1_brokenBy_9 (by decide) (fun g1 => ?_) (fun g1 => ?_)
    · rw [if_pos g1] at hf
      cases hf
      exact kx
    · rw [if_neg g1] at hf
      refine zz_aload_n C 0 dX1_brokenBy_12 rfl rfl ?_
      refine zf1_definedNames C dX1_brokenBy_13 zw_21 ?_
      refine zz_iload C 4 dX1_brokenBy_16 rfl ?_
      refine zz_ishr C dX1_brokenBy_18 ?_
      refine zz_iconst (v := (1 : Int32)) C dX1_brokenBy_19 (by decide) ?_
      refine zz_iand C dX1_brokenBy_20 ?_
      refine zz_aload_n C 1 dX1_brokenBy_21 rfl rfl ?_
      refine zf5_piecesWith C dX1_brokenBy_22 zw_105 ?_
      refine zz_iconst (v := (0 : Int32)) C dX1_brokenBy_25 (by decide) ?_
      obtain ⟨x2, h3, hf⟩ := zz_bind hf
      refine zr_12 C dX1_brokenBy_26 h3 ?_
      refine zz_iload C 4 dX1_brokenBy_27 rfl ?_
      obtain ⟨x4, h5, hf⟩ := zz_bind hf
      refine zl_12 C dX1_brokenBy_29 h3 h5 ?_
      refine zz_iload_n C 2 dX1_brokenBy_30 rfl rfl ?_
      refine zz_iand C dX1_brokenBy_31 ?_
      obtain ⟨x6, h7, hf⟩ := zz_bind hf
      refine zz_callS1 (As := [.int (x4 &&& applied_)]) (rest := [.int (((σ 17 0) >>> (name_ &&& 31)) &&& (1 : Int32))]) C (mJ6_bitCount (x4 &&& applied_) x6 h7) dX1_brokenBy_32 rfl zw_104 zy_J6_bitCount_0f7a4 rfl (by decide) (by decide) (Nat.le_of_ble_eq_true rfl) hcR hsR rfl ?_
      refine zz_iadd C dX1_brokenBy_35 ?_
      refine zz_aload_n C 1 dX1_brokenBy_36 rfl rfl ?_
      refine zf5_piecesWith C dX1_brokenBy_37 zw_105 ?_
      refine zz_iconst (v := (1 : Int32)) C dX1_brokenBy_40 (by decide) ?_
      obtain ⟨x8, h9, hf⟩ := zz_bind hf
      refine zr_12 C dX1_brokenBy_41 h9 ?_
      refine zz_iload C 4 dX1_brokenBy_42 rfl ?_
      obtain ⟨x10, h11, hf⟩ := zz_bind hf
      refine zl_12 C dX1_brokenBy_44 h9 h11 ?_
      refine zz_iload_n C 2 dX1_brokenBy_45 rfl rfl ?_
      refine zz_iand C dX1_brokenBy_46 ?_
      obtain ⟨x12, h13, hf⟩ := zz_bind hf
      refine zz_callS1 (As := [.int (x10 &&& applied_)]) (rest := [.int ((((σ 17 0) >>> (name_ &&& 31)) &&& (1 : Int32)) + x6)]) C (mJ6_bitCount (x10 &&& applied_) x12 h13) dX1_brokenBy_47 rfl zw_104 zy_J6_bitCount_0f7a4 rfl (by decide) (by decide) (Nat.le_of_ble_eq_true rfl) hcR hsR rfl ?_
      refine zz_isub C dX1_brokenBy_50 ?_
      obtain ⟨x14, h15, hf⟩ := zz_bind hf
      refine zz_topi (Option.some.inj h15) ?_
      refine zz_istore C dX1_brokenBy_51 (by decide) (lv' := [(5, .int x14), (0, .ref (ad 17)), (1, .ref (ad 1)), (2, .int applied_), (3, .int found_), (4, .int name_)]) rfl ?_
      refine zz_aload_n C 1 dX1_brokenBy_53 rfl rfl ?_
      refine zf1_otherUses C dX1_brokenBy_54 zw_20 ?_
      refine zz_iload C 5 dX1_brokenBy_57 rfl ?_
      obtain ⟨x16, h17, hf⟩ := zz_bind hf
      refine zl_18 C dX1_brokenBy_59 h17 ?_
      refine zz_aload_n C 2 dX1_brokenBy_60 rfl rfl ?_
      refine zf5_piecesWith C dX1_brokenBy_61 zw_105 ?_
      refine zz_iconst (v := (2 : Int32)) C dX1_brokenBy_64 (by decide) ?_
      obtain ⟨x18, h19, hf⟩ := zz_bind hf
      refine zr_12 C dX1_brokenBy_65 h19 ?_
      refine zz_iload C 5 dX1_brokenBy_66 rfl ?_
      obtain ⟨x20, h21, hf⟩ := zz_bind hf
      refine zl_12 C dX1_brokenBy_68 h19 h21 ?_
      refine zz_iload_n C 3 dX1_brokenBy_69 rfl rfl ?_
      refine zz_iand C dX1_brokenBy_70 ?_
      obtain ⟨x22, h23, hf⟩ := zz_bind hf
      refine zz_callS1 (As := [.int (x20 &&& applied_)]) (rest := [.int x16]) C (mJ6_bitCount (x20 &&& applied_) x22 h23) dX1_brokenBy_71 rfl zw_104 zy_J6_bitCount_0f7a4 rfl (by decide) (by decide) (Nat.le_of_ble_eq_true rfl) hcR hsR rfl ?_
      refine zz_iadd C dX1_brokenBy_74 ?_
      refine zz_aload_n C 2 dX1_brokenBy_75 rfl rfl ?_
      refine zf5_piecesWith C dX1_brokenBy_76 zw_105 ?_
      refine zz_iconst (v := (3 : Int32)) C dX1_brokenBy_79 (by decide) ?_
      obtain ⟨x24, h25, hf⟩ := zz_bind hf
      refine zr_12 C dX1_brokenBy_80 h25 ?_
      refine zz_iload C 5 dX1_brokenBy_81 rfl ?_
      obtain ⟨x26, h27, hf⟩ := zz_bind hf
      refine zl_12 C dX1_brokenBy_83 h25 h27 ?_
      refine zz_iload_n C 3 dX1_brokenBy_84 rfl rfl ?_
      refine zz_iand C dX1_brokenBy_85 ?_
      obtain ⟨x28, h29, hf⟩ := zz_bind hf
      refine zz_callS1 (As := [.int (x26 &&& applied_)]) (rest := [.int (x16 + x22)]) C (mJ6_bitCount (x26 &&& applied_) x28 h29) dX1_brokenBy_86 rfl zw_104 zy_J6_bitCount_0f7a4 rfl (by decide) (by decide) (Nat.le_of_ble_eq_true rfl) hcR hsR rfl ?_
      refine zz_isub C dX1_brokenBy_89 ?_
      obtain ⟨x30, h31, hf⟩ := zz_bind hf
      refine zz_topi (Option.some.inj h31) ?_
      refine zz_istore C dX1_brokenBy_90 (by decide) (lv' := [(6, .int x30), (5, .int x14), (0, .ref (ad 17)), (1, .ref (ad 1)), (2, .int applied_), (3, .int found_), (4, .int name_)]) rfl ?_
      obtain ⟨x32, h33, hf⟩ := zz_bind hf
      refine zz_cut 117 [(0, .ref (ad 17)), (1, .ref (ad 1)), (2, .int applied_), (3, .int x32), (4, .int name_), (5, .int x14), (6, .int x30)] [] (zz_wc U ad σ X) ?_ (fun J34 => ?_)
      · refine zz_iinc (v := (name_ + (1 : Int32))) C 4 dX1_brokenBy_117 rfl (by rfl) (by decide) (lv' := [(4, .int (name_ + (1 : Int32))), (0, .ref (ad 17)), (1, .ref (ad 1)), (2, .int applied_), (3, .int x32), (5, .int x14), (6, .int x30)]) rfl ?_
        refine zz_goto (tgt := 5) C dX1_brokenBy_120 (by decide) ?_
        refine zz_sub [1, 2, 3, 4, 0] rfl ?_
        exact ih x32 (name_ + (1 : Int32)) _ hf kx
      obtain ⟨b35, h36, h33⟩ := zz_bind h33
      refine zz_cutI (P := b35 = true) 110 [(6, .int x30), (5, .int x14), (0, .ref (ad 17)), (1, .ref (ad 1)), (2, .int applied_), (3, .int found_), (4, .int name_)] [] (zz_wc U ad σ X) (fun g39 => ?_) (fun J37 => ?_)
      · rw [if_pos g39] at h33
        refine zz_iload_n C 5 dX1_brokenBy_110 rfl rfl ?_
        refine zz_iconst (v := (1 : Int32)) C dX1_brokenBy_111 (by decide) ?_
        refine zz_iload C 6 dX1_brokenBy_112 rfl ?_
        refine zz_ishl C dX1_brokenBy_114 ?_
        refine zz_ior C dX1_brokenBy_115 ?_
        obtain ⟨x43, h44, h33⟩ := zz_bind h33
        refine zz_topi (Option.some.inj h44) ?_
        refine zz_istore_n C dX1_brokenBy_116 rfl (by decide) (lv' := [(3, .int x43), (6, .int x30), (5, .int x14), (0, .ref (ad 17)), (1, .ref (ad 1)), (2, .int applied_), (4, .int name_)]) rfl ?_
        refine zz_sub [3, 4, 5, 0, 6, 2, 1] rfl ?_
        cases h33
        exact J34
      refine zz_cutI (P := b35 = false) 117 [(6, .int x30), (5, .int x14), (0, .ref (ad 17)), (1, .ref (ad 1)), (2, .int applied_), (3, .int found_), (4, .int name_)] [] (zz_wc U ad σ X) (fun g39 => ?_) (fun J38 => ?_)
      · rw [if_neg (show ¬ b35 = true by rw [g39]; decide)] at h33
        refine zz_sub [2, 3, 4, 5, 6, 1, 0] rfl ?_
        cases h33
        exact J34
      refine zz_iload C 1 dX1_brokenBy_92 rfl ?_
      refine zz_iconst (v := (1 : Int32)) C dX1_brokenBy_94 (by decide) ?_
      refine zz_icmp_gt (tgt := 110) C dX1_brokenBy_95 (by decide) (fun g40 => ?_) (fun g40 => ?_)
      · rw [if_pos g40] at h36
        cases h36
        exact J37 rfl
      · rw [if_neg g40] at h36
        refine zz_iload C 1 dX1_brokenBy_98 rfl ?_
        refine zz_iconst (v := (1 : Int32)) C dX1_brokenBy_100 (by decide) ?_
        refine zz_icmp_ge (tgt := 117) C dX1_brokenBy_101 (by decide) (fun g41 => ?_) (fun g41 => ?_)
        · rw [if_pos g41] at h36
          cases h36
          exact J38 rfl
        · rw [if_neg g41] at h36
          refine zz_iload C 0 dX1_brokenBy_104 rfl ?_
          refine zz_iconst (v := (1 : Int32)) C dX1_brokenBy_106 (by decide) ?_
          refine zz_icmp_lt (tgt := 117) C dX1_brokenBy_107 (by decide) (fun g42 => ?_) (fun g42 => ?_)
          · rw [if_pos g42] at h36
            cases h36
            exact J38 rfl
          · rw [if_neg g42] at h36
            cases h36
            exact J37 rfl
set_option maxHeartbeats 4000000 in
set_option maxRecDepth 100000 in
theorem mX1_brokenBy {D : va_G} {U : zz_U} {ad : Nat → Nat} {X : va_W} (σ : zz_St) (applied_ : Int32) (r : Int32) (hf : fX1_brokenBy σ applied_ = some r) : zz_Met yX1_brokenBy (.code yX1_brokenBy cX1_brokenBy 7 (some .int)) 1 0 0 D U [.ref (ad 17), .ref (ad 1), .int applied_] (zz_wc U ad σ X) (zz_ok (some (.int r)) (zz_wc U ad σ X)) zz_noth := by
  unfold fX1_brokenBy at hf
  refine zz_method RX1 rfl (by decide +kernel) (Nat.le_of_ble_eq_true rfl) ?_
  intro p l e s m args below meth c A _ C
  refine zz_lvs (lv1 := [(0, .ref (ad 17)), (1, .ref (ad 1)), (2, .int applied_)]) rfl ?_
  refine zz_iconst (v := (0 : Int32)) C dX1_brokenBy_0 (by decide) ?_
  refine zz_istore_n C dX1_brokenBy_1 rfl (by decide) (lv' := [(3, .int (0 : Int32)), (0, .ref (ad 17)), (1, .ref (ad 1)), (2, .int applied_)]) rfl ?_
  refine zz_iconst (v := (0 : Int32)) C dX1_brokenBy_2 (by decide) ?_
  refine zz_istore C dX1_brokenBy_3 (by decide) (lv' := [(4, .int (0 : Int32)), (3, .int (0 : Int32)), (0, .ref (ad 17)), (1, .ref (ad 1)), (2, .int applied_)]) rfl ?_
  obtain ⟨q45, h46, hf⟩ := zz_bind hf
  refine zz_sub [2, 3, 4, 1, 0] rfl ?_
  refine mX1_brokenBy_L1 C (Nat.le_of_ble_eq_true rfl) (Nat.le_of_ble_eq_true rfl) σ applied_ 1000 (0 : Int32) (0 : Int32) q45 h46 ?_
  refine zz_iload_n C 3 dX1_brokenBy_123 rfl rfl ?_
  cases hf
  exact zz_iret C dX1_brokenBy_124 (And.intro rfl rfl) (Nat.le_of_ble_eq_true rfl) (Nat.le_of_ble_eq_true rfl)
theorem dX7_broken_0 : decode cX7_broken 0 = .ok (.iload_n 1, 1) := by decide +kernel
theorem dX7_broken_1 : decode cX7_broken 1 = .ok (.aload_n 0, 1) := by decide +kernel
theorem dX7_broken_2 : decode cX7_broken 2 = .ok (.getfield 12, 3) := by decide +kernel
theorem dX7_broken_5 : decode cX7_broken 5 = .ok (.invokevirtual 217, 3) := by decide +kernel
theorem dX7_broken_8 : decode cX7_broken 8 = .ok (.iconst (-1), 1) := by decide +kernel
theorem dX7_broken_9 : decode cX7_broken 9 = .ok (.ixor, 1) := by decide +kernel
theorem dX7_broken_10 : decode cX7_broken 10 = .ok (.iand, 1) := by decide +kernel
theorem dX7_broken_11 : decode cX7_broken 11 = .ok (.ifCond .eq 13, 3) := by decide +kernel
theorem dX7_broken_14 : decode cX7_broken 14 = .ok (.new 62, 3) := by decide +kernel
theorem dX7_broken_17 : decode cX7_broken 17 = .ok (.dup, 1) := by decide +kernel
theorem dX7_broken_18 : decode cX7_broken 18 = .ok (.ldc 221, 2) := by decide +kernel
theorem dX7_broken_20 : decode cX7_broken 20 = .ok (.invokespecial 66, 3) := by decide +kernel
theorem dX7_broken_23 : decode cX7_broken 23 = .ok (.athrow, 1) := by decide +kernel
theorem dX7_broken_24 : decode cX7_broken 24 = .ok (.aload_n 0, 1) := by decide +kernel
theorem dX7_broken_25 : decode cX7_broken 25 = .ok (.getfield 19, 3) := by decide +kernel
theorem dX7_broken_28 : decode cX7_broken 28 = .ok (.aload_n 0, 1) := by decide +kernel
theorem dX7_broken_29 : decode cX7_broken 29 = .ok (.getfield 12, 3) := by decide +kernel
theorem dX7_broken_32 : decode cX7_broken 32 = .ok (.iload_n 1, 1) := by decide +kernel
theorem dX7_broken_33 : decode cX7_broken 33 = .ok (.invokevirtual 223, 3) := by decide +kernel
theorem dX7_broken_36 : decode cX7_broken 36 = .ok (.ireturn, 1) := by decide +kernel
set_option maxHeartbeats 4000000 in
set_option maxRecDepth 100000 in
theorem mX7_broken {D : va_G} {U : zz_U} {ad : Nat → Nat} {X : va_W} (σ : zz_St) (pieces_ : Int32) (r : (Int32 ⊕ String)) (hf : fX7_broken σ pieces_ = some r) : zz_Met yX7_broken (.code yX7_broken cX7_broken 2 (some .int)) 6 1 6 D U [.ref (ad 0), .int pieces_] (zz_wc U ad σ X) (match r with | .inl x => zz_ok (some (.int x)) (zz_wc U ad σ X) | .inr _ => zz_none) (match r with | .inl _ => zz_noth | .inr E => zz_th E (zz_wc U ad σ X)) := by
  unfold fX7_broken at hf
  refine zz_method RX7 rfl (by decide +kernel) (Nat.le_of_ble_eq_true rfl) ?_
  intro p l e s m args below meth c A _ C
  refine zz_lvs (lv1 := [(0, .ref (ad 0)), (1, .int pieces_)]) rfl ?_
  refine zz_iload_n C 1 dX7_broken_0 rfl rfl ?_
  refine zz_aload_n C 0 dX7_broken_1 rfl rfl ?_
  refine zf7_pieces C dX7_broken_2 zw_10 ?_
  obtain ⟨x1, h2, hf⟩ := zz_bind hf
  refine zz_callV1 (As := []) (rest := [.int pieces_]) C 1 (mX5_all σ x1 h2) dX7_broken_5 rfl rfl rfl zw_107 zy_X5_all rfl (by decide) (by decide) (Nat.le_of_ble_eq_true rfl) (Nat.le_of_ble_eq_true rfl) (Nat.le_of_ble_eq_true rfl) rfl ?_
  refine zz_iconst (v := (-1 : Int32)) C dX7_broken_8 (by decide) ?_
  refine zz_ixor C dX7_broken_9 ?_
  refine zz_iand C dX7_broken_10 ?_
  refine zz_if_eq (tgt := 24) C dX7_broken_11 (by decide) (fun g3 => ?_) (fun g3 => ?_)
  · rw [if_pos g3] at hf
    refine zz_aload_n C 0 dX7_broken_24 rfl rfl ?_
    refine zf7_code C dX7_broken_25 zw_23 ?_
    refine zz_aload_n C 0 dX7_broken_28 rfl rfl ?_
    refine zf7_pieces C dX7_broken_29 zw_10 ?_
    refine zz_iload_n C 1 dX7_broken_32 rfl rfl ?_
    obtain ⟨x4, h5, hf⟩ := zz_bind hf
    refine zz_callV1 (As := [.ref (ad 1), .int pieces_]) (rest := []) C 17 (mX1_brokenBy σ pieces_ x4 h5) dX7_broken_33 rfl rfl rfl zw_106 zy_X1_brokenBy rfl (by decide) (by decide) (Nat.le_of_ble_eq_true rfl) (Nat.le_of_ble_eq_true rfl) (Nat.le_of_ble_eq_true rfl) rfl ?_
    cases hf
    exact zz_iret C dX7_broken_36 (And.intro rfl rfl) (Nat.le_of_ble_eq_true rfl) (Nat.le_of_ble_eq_true rfl)
  · rw [if_neg g3] at hf
    cases hf
    exact zz_throwS (cls := "java/lang/IllegalArgumentException") (text := "not a set of pieces") C zt_0 (by decide +kernel) dX7_broken_14 dX7_broken_17 dX7_broken_18 dX7_broken_20 dX7_broken_23 (by decide) (Nat.le_of_ble_eq_true rfl) (Nat.le_of_ble_eq_true rfl) (Nat.le_of_ble_eq_true rfl) (Nat.le_of_ble_eq_true rfl) (Nat.le_of_ble_eq_true rfl) (And.intro rfl rfl)
theorem mX7_broken_r {D : va_G} {U : zz_U} {ad : Nat → Nat} {X : va_W} (σ : zz_St) (pieces_ : Int32) (x : Int32) (hf : fX7_broken σ pieces_ = some (.inl x)) : zz_Met yX7_broken (.code yX7_broken cX7_broken 2 (some .int)) 6 1 6 D U [.ref (ad 0), .int pieces_] (zz_wc U ad σ X) (zz_ok (some (.int x)) (zz_wc U ad σ X)) zz_noth := mX7_broken σ pieces_ (.inl x) hf
theorem mX7_broken_x {D : va_G} {U : zz_U} {ad : Nat → Nat} {X : va_W} (σ : zz_St) (pieces_ : Int32) (E : String) (hf : fX7_broken σ pieces_ = some (.inr E)) : zz_Met yX7_broken (.code yX7_broken cX7_broken 2 (some .int)) 6 1 6 D U [.ref (ad 0), .int pieces_] (zz_wc U ad σ X) zz_none (zz_th E (zz_wc U ad σ X)) := mX7_broken σ pieces_ (.inr E) hf
theorem dX7_breakageInOrder_0 : decode cX7_breakageInOrder 0 = .ok (.iconst 0, 1) := by decide +kernel
theorem dX7_breakageInOrder_1 : decode cX7_breakageInOrder 1 = .ok (.istore_n 1, 1) := by decide +kernel
theorem dX7_breakageInOrder_2 : decode cX7_breakageInOrder 2 = .ok (.iconst 0, 1) := by decide +kernel
theorem dX7_breakageInOrder_3 : decode cX7_breakageInOrder 3 = .ok (.istore_n 2, 1) := by decide +kernel
theorem dX7_breakageInOrder_4 : decode cX7_breakageInOrder 4 = .ok (.iconst 0, 1) := by decide +kernel
theorem dX7_breakageInOrder_5 : decode cX7_breakageInOrder 5 = .ok (.istore_n 3, 1) := by decide +kernel
theorem dX7_breakageInOrder_6 : decode cX7_breakageInOrder 6 = .ok (.iload_n 3, 1) := by decide +kernel
theorem dX7_breakageInOrder_7 : decode cX7_breakageInOrder 7 = .ok (.aload_n 0, 1) := by decide +kernel
theorem dX7_breakageInOrder_8 : decode cX7_breakageInOrder 8 = .ok (.getfield 47, 3) := by decide +kernel
theorem dX7_breakageInOrder_11 : decode cX7_breakageInOrder 11 = .ok (.getfield 205, 3) := by decide +kernel
theorem dX7_breakageInOrder_14 : decode cX7_breakageInOrder 14 = .ok (.if_icmp .ge 39, 3) := by decide +kernel
theorem dX7_breakageInOrder_17 : decode cX7_breakageInOrder 17 = .ok (.iload_n 1, 1) := by decide +kernel
theorem dX7_breakageInOrder_18 : decode cX7_breakageInOrder 18 = .ok (.aload_n 0, 1) := by decide +kernel
theorem dX7_breakageInOrder_19 : decode cX7_breakageInOrder 19 = .ok (.getfield 47, 3) := by decide +kernel
theorem dX7_breakageInOrder_22 : decode cX7_breakageInOrder 22 = .ok (.getfield 209, 3) := by decide +kernel
theorem dX7_breakageInOrder_25 : decode cX7_breakageInOrder 25 = .ok (.iload_n 3, 1) := by decide +kernel
theorem dX7_breakageInOrder_26 : decode cX7_breakageInOrder 26 = .ok (.iaload, 1) := by decide +kernel
theorem dX7_breakageInOrder_27 : decode cX7_breakageInOrder 27 = .ok (.ior, 1) := by decide +kernel
theorem dX7_breakageInOrder_28 : decode cX7_breakageInOrder 28 = .ok (.istore_n 1, 1) := by decide +kernel
theorem dX7_breakageInOrder_29 : decode cX7_breakageInOrder 29 = .ok (.iload_n 2, 1) := by decide +kernel
theorem dX7_breakageInOrder_30 : decode cX7_breakageInOrder 30 = .ok (.aload_n 0, 1) := by decide +kernel
theorem dX7_breakageInOrder_31 : decode cX7_breakageInOrder 31 = .ok (.getfield 19, 3) := by decide +kernel
theorem dX7_breakageInOrder_34 : decode cX7_breakageInOrder 34 = .ok (.aload_n 0, 1) := by decide +kernel
theorem dX7_breakageInOrder_35 : decode cX7_breakageInOrder 35 = .ok (.getfield 12, 3) := by decide +kernel
theorem dX7_breakageInOrder_38 : decode cX7_breakageInOrder 38 = .ok (.iload_n 1, 1) := by decide +kernel
theorem dX7_breakageInOrder_39 : decode cX7_breakageInOrder 39 = .ok (.invokevirtual 223, 3) := by decide +kernel
theorem dX7_breakageInOrder_42 : decode cX7_breakageInOrder 42 = .ok (.invokestatic 285, 3) := by decide +kernel
theorem dX7_breakageInOrder_45 : decode cX7_breakageInOrder 45 = .ok (.iadd, 1) := by decide +kernel
theorem dX7_breakageInOrder_46 : decode cX7_breakageInOrder 46 = .ok (.istore_n 2, 1) := by decide +kernel
theorem dX7_breakageInOrder_47 : decode cX7_breakageInOrder 47 = .ok (.iinc 3 1, 3) := by decide +kernel
theorem dX7_breakageInOrder_50 : decode cX7_breakageInOrder 50 = .ok (.goto (-44), 3) := by decide +kernel
theorem dX7_breakageInOrder_53 : decode cX7_breakageInOrder 53 = .ok (.iload_n 2, 1) := by decide +kernel
theorem dX7_breakageInOrder_54 : decode cX7_breakageInOrder 54 = .ok (.ireturn, 1) := by decide +kernel
set_option maxHeartbeats 4000000 in
set_option maxRecDepth 100000 in
theorem mX7_breakageInOrder_L1 {p : Program} {l : Launch} {e : Env} {R : Room} {s : State} {m : MethodId} {args : Array Value} {below : List Frame} {meth : Method} {c : Code} {Q : State → Prop} {D : va_G} {U : zz_U} {A : Nat → Prop} {cells slots : Nat} {ad : Nat → Nat} {X : va_W} (C : zz_C p l R s m meth c D U A RX7 cX7_breakageInOrder 4 (some .int) [] 2) (hcR : cells ≤ R.cells) (hsR : slots ≤ R.slots) (σ : zz_St) : ∀ (n : Nat) (applied_ : Int32) (sum_ : Int32) (parcel_ : Int32) (q : (Int32 × Int32 × Int32)), fX7_breakageInOrder_L1 σ n applied_ sum_ parcel_ = some q → (zz_Z p l e R s m args below meth c Q D A 4 cells slots (zz_wc U ad σ X) 53 [(0, .ref (ad 0)), (1, .int q.1), (2, .int q.2.1), (3, .int q.2.2)] []) → zz_Z p l e R s m args below meth c Q D A 4 cells slots (zz_wc U ad σ X) 6 [(0, .ref (ad 0)), (1, .int applied_), (2, .int sum_), (3, .int parcel_)] [] := by
  intro n
  induction n with
  | zero => intro applied_ sum_ parcel_ q hf; rw [fX7_breakageInOrder_L1] at hf; cases hf
  | succ n ih =>
    intro applied_ sum_ parcel_ q hf kx
    rw [fX7_breakageInOrder_L1] at hf
    refine zz_iload_n C 3 dX7_breakageInOrder_6 rfl rfl ?_
    refine zz_aload_n C 0 dX7_breakageInOrder_7 rfl rfl ?_
    refine zf7_parcels C dX7_breakageInOrder_8 zw_85 ?_
    refine zf4_count C dX7_breakageInOrder_11 zw_99 ?_
    refine zz_icmp_ge (tgt := 53) C dX7_breakageInOrder_14 (by decide) (fun g1 => ?_) (fun g1 => ?_)
    · rw [if_pos g1] at hf
      cases hf
      exact kx
    · rw [if_neg g1] at hf
      refine zz_iload_n C 1 dX7_breakageInOrder_17 rfl rfl ?_
      refine zz_aload_n C 0 dX7_breakageInOrder_18 rfl rfl ?_
      refine zf7_parcels C dX7_breakageInOrder_19 zw_85 ?_
      refine zf4_sets C dX7_breakageInOrder_22 zw_100 ?_
      refine zz_iload_n C 3 dX7_breakageInOrder_25 rfl rfl ?_
      obtain ⟨x2, h3, hf⟩ := zz_bind hf
      refine zl_42 C dX7_breakageInOrder_26 h3 ?_
      refine zz_ior C dX7_breakageInOrder_27 ?_
      obtain ⟨x4, h5, hf⟩ := zz_bind hf
      refine zz_topi (Option.some.inj h5) ?_
      refine zz_istore_n C dX7_breakageInOrder_28 rfl (by decide) (lv' := [(1, .int x4), (0, .ref (ad 0)), (2, .int sum_), (3, .int parcel_)]) rfl ?_
      refine zz_iload_n C 2 dX7_breakageInOrder_29 rfl rfl ?_
      refine zz_aload_n C 1 dX7_breakageInOrder_30 rfl rfl ?_
      refine zf7_code C dX7_breakageInOrder_31 zw_23 ?_
      refine zz_aload_n C 1 dX7_breakageInOrder_34 rfl rfl ?_
      refine zf7_pieces C dX7_breakageInOrder_35 zw_10 ?_
      refine zz_iload_n C 0 dX7_breakageInOrder_38 rfl rfl ?_
      obtain ⟨x6, h7, hf⟩ := zz_bind hf
      refine zz_callV1 (As := [.ref (ad 1), .int x4]) (rest := [.int sum_]) C 17 (mX1_brokenBy σ x4 x6 h7) dX7_breakageInOrder_39 rfl rfl rfl zw_106 zy_X1_brokenBy rfl (by decide) (by decide) (Nat.le_of_ble_eq_true rfl) hcR hsR rfl ?_
      obtain ⟨x8, h9, hf⟩ := zz_bind hf
      refine zz_callS1 (As := [.int x6]) (rest := [.int sum_]) C (mJ6_bitCount x6 x8 h9) dX7_breakageInOrder_42 rfl zw_108 zy_J6_bitCount_0f7a4 rfl (by decide) (by decide) (Nat.le_of_ble_eq_true rfl) hcR hsR rfl ?_
      refine zz_iadd C dX7_breakageInOrder_45 ?_
      obtain ⟨x10, h11, hf⟩ := zz_bind hf
      refine zz_topi (Option.some.inj h11) ?_
      refine zz_istore_n C dX7_breakageInOrder_46 rfl (by decide) (lv' := [(2, .int x10), (1, .int x4), (0, .ref (ad 0)), (3, .int parcel_)]) rfl ?_
      refine zz_iinc (v := (parcel_ + (1 : Int32))) C 3 dX7_breakageInOrder_47 rfl (by rfl) (by decide) (lv' := [(3, .int (parcel_ + (1 : Int32))), (2, .int x10), (1, .int x4), (0, .ref (ad 0))]) rfl ?_
      refine zz_goto (tgt := 6) C dX7_breakageInOrder_50 (by decide) ?_
      refine zz_sub [3, 2, 1, 0] rfl ?_
      exact ih x4 x10 (parcel_ + (1 : Int32)) _ hf kx
set_option maxHeartbeats 4000000 in
set_option maxRecDepth 100000 in
theorem mX7_breakageInOrder {D : va_G} {U : zz_U} {ad : Nat → Nat} {X : va_W} (σ : zz_St) (r : Int32) (hf : fX7_breakageInOrder σ = some r) : zz_Met yX7_breakageInOrder (.code yX7_breakageInOrder cX7_breakageInOrder 4 (some .int)) 2 0 0 D U [.ref (ad 0)] (zz_wc U ad σ X) (zz_ok (some (.int r)) (zz_wc U ad σ X)) zz_noth := by
  unfold fX7_breakageInOrder at hf
  refine zz_method RX7 rfl (by decide +kernel) (Nat.le_of_ble_eq_true rfl) ?_
  intro p l e s m args below meth c A _ C
  refine zz_lvs (lv1 := [(0, .ref (ad 0))]) rfl ?_
  refine zz_iconst (v := (0 : Int32)) C dX7_breakageInOrder_0 (by decide) ?_
  refine zz_istore_n C dX7_breakageInOrder_1 rfl (by decide) (lv' := [(1, .int (0 : Int32)), (0, .ref (ad 0))]) rfl ?_
  refine zz_iconst (v := (0 : Int32)) C dX7_breakageInOrder_2 (by decide) ?_
  refine zz_istore_n C dX7_breakageInOrder_3 rfl (by decide) (lv' := [(2, .int (0 : Int32)), (1, .int (0 : Int32)), (0, .ref (ad 0))]) rfl ?_
  refine zz_iconst (v := (0 : Int32)) C dX7_breakageInOrder_4 (by decide) ?_
  refine zz_istore_n C dX7_breakageInOrder_5 rfl (by decide) (lv' := [(3, .int (0 : Int32)), (2, .int (0 : Int32)), (1, .int (0 : Int32)), (0, .ref (ad 0))]) rfl ?_
  obtain ⟨q12, h13, hf⟩ := zz_bind hf
  refine zz_sub [3, 2, 1, 0] rfl ?_
  refine mX7_breakageInOrder_L1 C (Nat.le_of_ble_eq_true rfl) (Nat.le_of_ble_eq_true rfl) σ 1000 (0 : Int32) (0 : Int32) (0 : Int32) q12 h13 ?_
  refine zz_iload_n C 2 dX7_breakageInOrder_53 rfl rfl ?_
  cases hf
  exact zz_iret C dX7_breakageInOrder_54 (And.intro rfl rfl) (Nat.le_of_ble_eq_true rfl) (Nat.le_of_ble_eq_true rfl)
theorem dX7_breakage_0 : decode cX7_breakage 0 = .ok (.aload_n 0, 1) := by decide +kernel
theorem dX7_breakage_1 : decode cX7_breakage 1 = .ok (.invokevirtual 176, 3) := by decide +kernel
theorem dX7_breakage_4 : decode cX7_breakage 4 = .ok (.aload_n 0, 1) := by decide +kernel
theorem dX7_breakage_5 : decode cX7_breakage 5 = .ok (.invokevirtual 227, 3) := by decide +kernel
theorem dX7_breakage_8 : decode cX7_breakage 8 = .ok (.ireturn, 1) := by decide +kernel
set_option maxHeartbeats 4000000 in
set_option maxRecDepth 100000 in
theorem mX7_breakage {D : va_G} {U : zz_U} {ad : Nat → Nat} {X : va_W} (σ : zz_St) (r : (Int32 × zz_St)) (hf : fX7_breakage σ = some r) : zz_Met yX7_breakage (.code yX7_breakage cX7_breakage 1 (some .int)) 6 0 0 D U [.ref (ad 0)] (zz_wc U ad σ X) (zz_ok (some (.int r.1)) (zz_wc U ad r.2 X)) zz_noth := by
  unfold fX7_breakage at hf
  refine zz_method RX7 rfl (by decide +kernel) (Nat.le_of_ble_eq_true rfl) ?_
  intro p l e s m args below meth c A _ C
  refine zz_lvs (lv1 := [(0, .ref (ad 0))]) rfl ?_
  refine zz_aload_n C 0 dX7_breakage_0 rfl rfl ?_
  obtain ⟨x1, h2, hf⟩ := zz_bind hf
  refine zz_callV1 (As := []) (rest := []) C 0 (mX7_putTogether σ x1 h2) dX7_breakage_1 rfl rfl rfl zw_90 zy_X7_putTogether rfl (by decide) (by decide) (Nat.le_of_ble_eq_true rfl) (Nat.le_of_ble_eq_true rfl) (Nat.le_of_ble_eq_true rfl) rfl ?_
  refine zz_aload_n C 0 dX7_breakage_4 rfl rfl ?_
  obtain ⟨x3, h4, hf⟩ := zz_bind hf
  refine zz_callV1 (As := []) (rest := []) C 0 (mX7_breakageInOrder x1 x3 h4) dX7_breakage_5 rfl rfl rfl zw_109 zy_X7_breakageInOrder rfl (by decide) (by decide) (Nat.le_of_ble_eq_true rfl) (Nat.le_of_ble_eq_true rfl) (Nat.le_of_ble_eq_true rfl) rfl ?_
  cases hf
  exact zz_iret C dX7_breakage_8 (And.intro rfl rfl) (Nat.le_of_ble_eq_true rfl) (Nat.le_of_ble_eq_true rfl)
theorem dX0_nextAfter_0 : decode cX0_nextAfter 0 = .ok (.iconst (-1), 1) := by decide +kernel
theorem dX0_nextAfter_1 : decode cX0_nextAfter 1 = .ok (.istore_n 2, 1) := by decide +kernel
theorem dX0_nextAfter_2 : decode cX0_nextAfter 2 = .ok (.ldc 57, 2) := by decide +kernel
theorem dX0_nextAfter_4 : decode cX0_nextAfter 4 = .ok (.istore_n 3, 1) := by decide +kernel
theorem dX0_nextAfter_5 : decode cX0_nextAfter 5 = .ok (.iconst 0, 1) := by decide +kernel
theorem dX0_nextAfter_6 : decode cX0_nextAfter 6 = .ok (.istore 4, 2) := by decide +kernel
theorem dX0_nextAfter_8 : decode cX0_nextAfter 8 = .ok (.iload 4, 2) := by decide +kernel
theorem dX0_nextAfter_10 : decode cX0_nextAfter 10 = .ok (.aload_n 0, 1) := by decide +kernel
theorem dX0_nextAfter_11 : decode cX0_nextAfter 11 = .ok (.getfield 30, 3) := by decide +kernel
theorem dX0_nextAfter_14 : decode cX0_nextAfter 14 = .ok (.if_icmp .ge 48, 3) := by decide +kernel
theorem dX0_nextAfter_17 : decode cX0_nextAfter 17 = .ok (.iload 4, 2) := by decide +kernel
theorem dX0_nextAfter_19 : decode cX0_nextAfter 19 = .ok (.iload_n 1, 1) := by decide +kernel
theorem dX0_nextAfter_20 : decode cX0_nextAfter 20 = .ok (.invokestatic 58, 3) := by decide +kernel
theorem dX0_nextAfter_23 : decode cX0_nextAfter 23 = .ok (.ifCond .ne 33, 3) := by decide +kernel
theorem dX0_nextAfter_26 : decode cX0_nextAfter 26 = .ok (.aload_n 0, 1) := by decide +kernel
theorem dX0_nextAfter_27 : decode cX0_nextAfter 27 = .ok (.getfield 15, 3) := by decide +kernel
theorem dX0_nextAfter_30 : decode cX0_nextAfter 30 = .ok (.iload_n 1, 1) := by decide +kernel
theorem dX0_nextAfter_31 : decode cX0_nextAfter 31 = .ok (.iconst 1, 1) := by decide +kernel
theorem dX0_nextAfter_32 : decode cX0_nextAfter 32 = .ok (.iload 4, 2) := by decide +kernel
theorem dX0_nextAfter_34 : decode cX0_nextAfter 34 = .ok (.ishl, 1) := by decide +kernel
theorem dX0_nextAfter_35 : decode cX0_nextAfter 35 = .ok (.ior, 1) := by decide +kernel
theorem dX0_nextAfter_36 : decode cX0_nextAfter 36 = .ok (.iaload, 1) := by decide +kernel
theorem dX0_nextAfter_37 : decode cX0_nextAfter 37 = .ok (.iload_n 3, 1) := by decide +kernel
theorem dX0_nextAfter_38 : decode cX0_nextAfter 38 = .ok (.if_icmp .ge 18, 3) := by decide +kernel
theorem dX0_nextAfter_41 : decode cX0_nextAfter 41 = .ok (.aload_n 0, 1) := by decide +kernel
theorem dX0_nextAfter_42 : decode cX0_nextAfter 42 = .ok (.getfield 15, 3) := by decide +kernel
theorem dX0_nextAfter_45 : decode cX0_nextAfter 45 = .ok (.iload_n 1, 1) := by decide +kernel
theorem dX0_nextAfter_46 : decode cX0_nextAfter 46 = .ok (.iconst 1, 1) := by decide +kernel
theorem dX0_nextAfter_47 : decode cX0_nextAfter 47 = .ok (.iload 4, 2) := by decide +kernel
theorem dX0_nextAfter_49 : decode cX0_nextAfter 49 = .ok (.ishl, 1) := by decide +kernel
theorem dX0_nextAfter_50 : decode cX0_nextAfter 50 = .ok (.ior, 1) := by decide +kernel
theorem dX0_nextAfter_51 : decode cX0_nextAfter 51 = .ok (.iaload, 1) := by decide +kernel
theorem dX0_nextAfter_52 : decode cX0_nextAfter 52 = .ok (.istore_n 3, 1) := by decide +kernel
theorem dX0_nextAfter_53 : decode cX0_nextAfter 53 = .ok (.iload 4, 2) := by decide +kernel
theorem dX0_nextAfter_55 : decode cX0_nextAfter 55 = .ok (.istore_n 2, 1) := by decide +kernel
theorem dX0_nextAfter_56 : decode cX0_nextAfter 56 = .ok (.iinc 4 1, 3) := by decide +kernel
theorem dX0_nextAfter_59 : decode cX0_nextAfter 59 = .ok (.goto (-51), 3) := by decide +kernel
theorem dX0_nextAfter_62 : decode cX0_nextAfter 62 = .ok (.iload_n 2, 1) := by decide +kernel
theorem dX0_nextAfter_63 : decode cX0_nextAfter 63 = .ok (.ireturn, 1) := by decide +kernel
set_option maxHeartbeats 4000000 in
set_option maxRecDepth 100000 in
theorem mX0_nextAfter_L1 {p : Program} {l : Launch} {e : Env} {R : Room} {s : State} {m : MethodId} {args : Array Value} {below : List Frame} {meth : Method} {c : Code} {Q : State → Prop} {D : va_G} {U : zz_U} {A : Nat → Prop} {cells slots : Nat} {ad : Nat → Nat} {X : va_W} (C : zz_C p l R s m meth c D U A RX0 cX0_nextAfter 5 (some .int) [] 1) (hcR : cells ≤ R.cells) (hsR : slots ≤ R.slots) (σ : zz_St) (chosen_ : Int32) : ∀ (n : Nat) (found_ : Int32) (leastThen_ : Int32) (parcel_ : Int32) (q : (Int32 × Int32 × Int32)), fX0_nextAfter_L1 σ chosen_ n found_ leastThen_ parcel_ = some q → (zz_Z p l e R s m args below meth c Q D A 5 cells slots (zz_wc U ad σ X) 62 [(0, .ref (ad 44)), (1, .int chosen_), (2, .int q.1), (3, .int q.2.1), (4, .int q.2.2)] []) → zz_Z p l e R s m args below meth c Q D A 5 cells slots (zz_wc U ad σ X) 8 [(0, .ref (ad 44)), (1, .int chosen_), (2, .int found_), (3, .int leastThen_), (4, .int parcel_)] [] := by
  intro n
  induction n with
  | zero => intro found_ leastThen_ parcel_ q hf; rw [fX0_nextAfter_L1] at hf; cases hf
  | succ n ih =>
    intro found_ leastThen_ parcel_ q hf kx
    rw [fX0_nextAfter_L1] at hf
    refine zz_iload C 4 dX0_nextAfter_8 rfl ?_
    refine zz_aload_n C 0 dX0_nextAfter_10 rfl rfl ?_
    refine zf0_length C dX0_nextAfter_11 zw_113 ?_
    refine zz_icmp_ge (tgt := 62) C dX0_nextAfter_14 (by decide) (fun g1 => ?_) (fun g1 => ?_)
    · rw [if_pos g1] at hf
      cases hf
      exact kx
    · rw [if_neg g1] at hf
      obtain ⟨x2, h3, hf⟩ := zz_bind hf
      refine zz_cut 56 [(0, .ref (ad 44)), (1, .int chosen_), (2, .int x2.1), (3, .int x2.2), (4, .int parcel_)] [] (zz_wc U ad σ X) ?_ (fun J4 => ?_)
      · refine zz_iinc (v := (parcel_ + (1 : Int32))) C 4 dX0_nextAfter_56 rfl (by rfl) (by decide) (lv' := [(4, .int (parcel_ + (1 : Int32))), (0, .ref (ad 44)), (1, .int chosen_), (2, .int x2.1), (3, .int x2.2)]) rfl ?_
        refine zz_goto (tgt := 8) C dX0_nextAfter_59 (by decide) ?_
        refine zz_sub [1, 2, 3, 4, 0] rfl ?_
        exact ih x2.1 x2.2 (parcel_ + (1 : Int32)) _ hf kx
      obtain ⟨b5, h6, h3⟩ := zz_bind h3
      refine zz_cutI (P := b5 = true) 41 [(0, .ref (ad 44)), (1, .int chosen_), (2, .int found_), (3, .int leastThen_), (4, .int parcel_)] [] (zz_wc U ad σ X) (fun g9 => ?_) (fun J7 => ?_)
      · rw [if_pos g9] at h3
        refine zz_aload_n C 0 dX0_nextAfter_41 rfl rfl ?_
        refine zf0_fromThen C dX0_nextAfter_42 zw_112 ?_
        refine zz_iload_n C 1 dX0_nextAfter_45 rfl rfl ?_
        refine zz_iconst (v := (1 : Int32)) C dX0_nextAfter_46 (by decide) ?_
        refine zz_iload C 4 dX0_nextAfter_47 rfl ?_
        refine zz_ishl C dX0_nextAfter_49 ?_
        refine zz_ior C dX0_nextAfter_50 ?_
        obtain ⟨x16, h17, h3⟩ := zz_bind h3
        refine zl_46 C dX0_nextAfter_51 h17 ?_
        refine zz_istore_n C dX0_nextAfter_52 rfl (by decide) (lv' := [(3, .int x16), (0, .ref (ad 44)), (1, .int chosen_), (2, .int found_), (4, .int parcel_)]) rfl ?_
        refine zz_iload C 4 dX0_nextAfter_53 rfl ?_
        refine zz_istore_n C dX0_nextAfter_55 rfl (by decide) (lv' := [(2, .int parcel_), (3, .int x16), (0, .ref (ad 44)), (1, .int chosen_), (4, .int parcel_)]) rfl ?_
        refine zz_sub [2, 3, 0, 1, 4] rfl ?_
        cases h3
        exact J4
      refine zz_cutI (P := b5 = false) 56 [(0, .ref (ad 44)), (1, .int chosen_), (2, .int found_), (3, .int leastThen_), (4, .int parcel_)] [] (zz_wc U ad σ X) (fun g9 => ?_) (fun J8 => ?_)
      · rw [if_neg (show ¬ b5 = true by rw [g9]; decide)] at h3
        cases h3
        exact J4
      refine zz_iload C 4 dX0_nextAfter_17 rfl ?_
      refine zz_iload_n C 1 dX0_nextAfter_19 rfl rfl ?_
      obtain ⟨x10, h11, h6⟩ := zz_bind h6
      refine zz_callSN1 (host := "ChangeUntangler") (As := [.int parcel_, .int chosen_]) (rest := []) C (mX7_isIn σ parcel_ chosen_ x10 h11) dX0_nextAfter_20 rfl (by decide +kernel) zy_X7_isIn rfl (by decide) (by decide) (Nat.le_of_ble_eq_true rfl) hcR hsR rfl ?_
      refine zz_if_ne (tgt := 56) C dX0_nextAfter_23 (by decide) (fun g12 => ?_) (fun g12 => ?_)
      · rw [if_neg g12] at h6
        cases h6
        exact J8 rfl
      · rw [if_pos g12] at h6
        refine zz_aload_n C 0 dX0_nextAfter_26 rfl rfl ?_
        refine zf0_fromThen C dX0_nextAfter_27 zw_112 ?_
        refine zz_iload_n C 1 dX0_nextAfter_30 rfl rfl ?_
        refine zz_iconst (v := (1 : Int32)) C dX0_nextAfter_31 (by decide) ?_
        refine zz_iload C 4 dX0_nextAfter_32 rfl ?_
        refine zz_ishl C dX0_nextAfter_34 ?_
        refine zz_ior C dX0_nextAfter_35 ?_
        obtain ⟨x13, h14, h6⟩ := zz_bind h6
        refine zl_46 C dX0_nextAfter_36 h14 ?_
        refine zz_iload_n C 3 dX0_nextAfter_37 rfl rfl ?_
        refine zz_icmp_ge (tgt := 56) C dX0_nextAfter_38 (by decide) (fun g15 => ?_) (fun g15 => ?_)
        · rw [if_pos g15] at h6
          cases h6
          exact J8 rfl
        · rw [if_neg g15] at h6
          cases h6
          exact J7 rfl
set_option maxHeartbeats 4000000 in
set_option maxRecDepth 100000 in
theorem mX0_nextAfter {D : va_G} {U : zz_U} {ad : Nat → Nat} {X : va_W} (σ : zz_St) (chosen_ : Int32) (r : Int32) (hf : fX0_nextAfter σ chosen_ = some r) : zz_Met yX0_nextAfter (.code yX0_nextAfter cX0_nextAfter 5 (some .int)) 1 0 0 D U [.ref (ad 44), .int chosen_] (zz_wc U ad σ X) (zz_ok (some (.int r)) (zz_wc U ad σ X)) zz_noth := by
  unfold fX0_nextAfter at hf
  refine zz_method RX0 rfl (by decide +kernel) (Nat.le_of_ble_eq_true rfl) ?_
  intro p l e s m args below meth c A _ C
  refine zz_lvs (lv1 := [(0, .ref (ad 44)), (1, .int chosen_)]) rfl ?_
  refine zz_iconst (v := (-1 : Int32)) C dX0_nextAfter_0 (by decide) ?_
  refine zz_istore_n C dX0_nextAfter_1 rfl (by decide) (lv' := [(2, .int (-1 : Int32)), (0, .ref (ad 44)), (1, .int chosen_)]) rfl ?_
  refine zz_ldc (v := (1000000 : Int32)) C dX0_nextAfter_2 zw_111 ?_
  refine zz_istore_n C dX0_nextAfter_4 rfl (by decide) (lv' := [(3, .int (1000000 : Int32)), (2, .int (-1 : Int32)), (0, .ref (ad 44)), (1, .int chosen_)]) rfl ?_
  refine zz_iconst (v := (0 : Int32)) C dX0_nextAfter_5 (by decide) ?_
  refine zz_istore C dX0_nextAfter_6 (by decide) (lv' := [(4, .int (0 : Int32)), (3, .int (1000000 : Int32)), (2, .int (-1 : Int32)), (0, .ref (ad 44)), (1, .int chosen_)]) rfl ?_
  obtain ⟨q18, h19, hf⟩ := zz_bind hf
  refine zz_sub [3, 4, 2, 1, 0] rfl ?_
  refine mX0_nextAfter_L1 C (Nat.le_of_ble_eq_true rfl) (Nat.le_of_ble_eq_true rfl) σ chosen_ 1000 (-1 : Int32) (1000000 : Int32) (0 : Int32) q18 h19 ?_
  refine zz_iload_n C 2 dX0_nextAfter_62 rfl rfl ?_
  cases hf
  exact zz_iret C dX0_nextAfter_63 (And.intro rfl rfl) (Nat.le_of_ble_eq_true rfl) (Nat.le_of_ble_eq_true rfl)
theorem dX4_piecesIn_0 : decode cX4_piecesIn 0 = .ok (.iconst 0, 1) := by decide +kernel
theorem dX4_piecesIn_1 : decode cX4_piecesIn 1 = .ok (.istore_n 2, 1) := by decide +kernel
theorem dX4_piecesIn_2 : decode cX4_piecesIn 2 = .ok (.iconst 0, 1) := by decide +kernel
theorem dX4_piecesIn_3 : decode cX4_piecesIn 3 = .ok (.istore_n 3, 1) := by decide +kernel
theorem dX4_piecesIn_4 : decode cX4_piecesIn 4 = .ok (.iload_n 3, 1) := by decide +kernel
theorem dX4_piecesIn_5 : decode cX4_piecesIn 5 = .ok (.aload_n 0, 1) := by decide +kernel
theorem dX4_piecesIn_6 : decode cX4_piecesIn 6 = .ok (.getfield 32, 3) := by decide +kernel
theorem dX4_piecesIn_9 : decode cX4_piecesIn 9 = .ok (.if_icmp .ge 30, 3) := by decide +kernel
theorem dX4_piecesIn_12 : decode cX4_piecesIn 12 = .ok (.iload_n 2, 1) := by decide +kernel
theorem dX4_piecesIn_13 : decode cX4_piecesIn 13 = .ok (.iload_n 3, 1) := by decide +kernel
theorem dX4_piecesIn_14 : decode cX4_piecesIn 14 = .ok (.iload_n 1, 1) := by decide +kernel
theorem dX4_piecesIn_15 : decode cX4_piecesIn 15 = .ok (.invokestatic 55, 3) := by decide +kernel
theorem dX4_piecesIn_18 : decode cX4_piecesIn 18 = .ok (.ifCond .eq 12, 3) := by decide +kernel
theorem dX4_piecesIn_21 : decode cX4_piecesIn 21 = .ok (.aload_n 0, 1) := by decide +kernel
theorem dX4_piecesIn_22 : decode cX4_piecesIn 22 = .ok (.getfield 9, 3) := by decide +kernel
theorem dX4_piecesIn_25 : decode cX4_piecesIn 25 = .ok (.iload_n 3, 1) := by decide +kernel
theorem dX4_piecesIn_26 : decode cX4_piecesIn 26 = .ok (.iaload, 1) := by decide +kernel
theorem dX4_piecesIn_27 : decode cX4_piecesIn 27 = .ok (.goto 4, 3) := by decide +kernel
theorem dX4_piecesIn_30 : decode cX4_piecesIn 30 = .ok (.iconst 0, 1) := by decide +kernel
theorem dX4_piecesIn_31 : decode cX4_piecesIn 31 = .ok (.ior, 1) := by decide +kernel
theorem dX4_piecesIn_32 : decode cX4_piecesIn 32 = .ok (.istore_n 2, 1) := by decide +kernel
theorem dX4_piecesIn_33 : decode cX4_piecesIn 33 = .ok (.iinc 3 1, 3) := by decide +kernel
theorem dX4_piecesIn_36 : decode cX4_piecesIn 36 = .ok (.goto (-32), 3) := by decide +kernel
theorem dX4_piecesIn_39 : decode cX4_piecesIn 39 = .ok (.iload_n 2, 1) := by decide +kernel
theorem dX4_piecesIn_40 : decode cX4_piecesIn 40 = .ok (.ireturn, 1) := by decide +kernel
set_option maxHeartbeats 4000000 in
set_option maxRecDepth 100000 in
theorem mX4_piecesIn_L1 {p : Program} {l : Launch} {e : Env} {R : Room} {s : State} {m : MethodId} {args : Array Value} {below : List Frame} {meth : Method} {c : Code} {Q : State → Prop} {D : va_G} {U : zz_U} {A : Nat → Prop} {cells slots : Nat} {ad : Nat → Nat} {X : va_W} (C : zz_C p l R s m meth c D U A RX4 cX4_piecesIn 4 (some .int) [] 1) (hcR : cells ≤ R.cells) (hsR : slots ≤ R.slots) (σ : zz_St) (chosen_ : Int32) : ∀ (n : Nat) (set_ : Int32) (parcel_ : Int32) (q : (Int32 × Int32)), fX4_piecesIn_L1 σ chosen_ n set_ parcel_ = some q → (zz_Z p l e R s m args below meth c Q D A 4 cells slots (zz_wc U ad σ X) 39 [(0, .ref (ad 41)), (1, .int chosen_), (2, .int q.1), (3, .int q.2)] []) → zz_Z p l e R s m args below meth c Q D A 4 cells slots (zz_wc U ad σ X) 4 [(0, .ref (ad 41)), (1, .int chosen_), (2, .int set_), (3, .int parcel_)] [] := by
  intro n
  induction n with
  | zero => intro set_ parcel_ q hf; rw [fX4_piecesIn_L1] at hf; cases hf
  | succ n ih =>
    intro set_ parcel_ q hf kx
    rw [fX4_piecesIn_L1] at hf
    refine zz_iload_n C 3 dX4_piecesIn_4 rfl rfl ?_
    refine zz_aload_n C 0 dX4_piecesIn_5 rfl rfl ?_
    refine zf4_count C dX4_piecesIn_6 zw_76 ?_
    refine zz_icmp_ge (tgt := 39) C dX4_piecesIn_9 (by decide) (fun g1 => ?_) (fun g1 => ?_)
    · rw [if_pos g1] at hf
      cases hf
      exact kx
    · rw [if_neg g1] at hf
      refine zz_iload_n C 2 dX4_piecesIn_12 rfl rfl ?_
      obtain ⟨x2, h3, hf⟩ := zz_bind hf
      refine zz_cut 31 [(0, .ref (ad 41)), (1, .int chosen_), (2, .int set_), (3, .int parcel_)] [.int x2, .int set_] (zz_wc U ad σ X) ?_ (fun J4 => ?_)
      · refine zz_ior C dX4_piecesIn_31 ?_
        obtain ⟨x10, h11, hf⟩ := zz_bind hf
        refine zz_topi (Option.some.inj h11) ?_
        refine zz_istore_n C dX4_piecesIn_32 rfl (by decide) (lv' := [(2, .int x10), (0, .ref (ad 41)), (1, .int chosen_), (3, .int parcel_)]) rfl ?_
        refine zz_iinc (v := (parcel_ + (1 : Int32))) C 3 dX4_piecesIn_33 rfl (by rfl) (by decide) (lv' := [(3, .int (parcel_ + (1 : Int32))), (2, .int x10), (0, .ref (ad 41)), (1, .int chosen_)]) rfl ?_
        refine zz_goto (tgt := 4) C dX4_piecesIn_36 (by decide) ?_
        refine zz_sub [2, 3, 1, 0] rfl ?_
        exact ih x10 (parcel_ + (1 : Int32)) _ hf kx
      refine zz_iload_n C 3 dX4_piecesIn_13 rfl rfl ?_
      refine zz_iload_n C 1 dX4_piecesIn_14 rfl rfl ?_
      obtain ⟨x5, h6, h3⟩ := zz_bind h3
      refine zz_callSN1 (host := "ChangeUntangler") (As := [.int parcel_, .int chosen_]) (rest := [.int set_]) C (mX7_isIn σ parcel_ chosen_ x5 h6) dX4_piecesIn_15 rfl (by decide +kernel) zy_X7_isIn rfl (by decide) (by decide) (Nat.le_of_ble_eq_true rfl) hcR hsR rfl ?_
      refine zz_if_eq (tgt := 30) C dX4_piecesIn_18 (by decide) (fun g7 => ?_) (fun g7 => ?_)
      · rw [if_pos g7] at h3
        refine zz_iconst (v := (0 : Int32)) C dX4_piecesIn_30 (by decide) ?_
        cases h3
        exact J4
      · rw [if_neg g7] at h3
        refine zz_aload_n C 0 dX4_piecesIn_21 rfl rfl ?_
        refine zf4_sets C dX4_piecesIn_22 zw_77 ?_
        refine zz_iload_n C 3 dX4_piecesIn_25 rfl rfl ?_
        obtain ⟨x8, h9, h3⟩ := zz_bind h3
        refine zl_42 C dX4_piecesIn_26 h9 ?_
        refine zz_goto (tgt := 31) C dX4_piecesIn_27 (by decide) ?_
        cases h3
        exact J4
set_option maxHeartbeats 4000000 in
set_option maxRecDepth 100000 in
theorem mX4_piecesIn {D : va_G} {U : zz_U} {ad : Nat → Nat} {X : va_W} (σ : zz_St) (chosen_ : Int32) (r : Int32) (hf : fX4_piecesIn σ chosen_ = some r) : zz_Met yX4_piecesIn (.code yX4_piecesIn cX4_piecesIn 4 (some .int)) 1 0 0 D U [.ref (ad 41), .int chosen_] (zz_wc U ad σ X) (zz_ok (some (.int r)) (zz_wc U ad σ X)) zz_noth := by
  unfold fX4_piecesIn at hf
  refine zz_method RX4 rfl (by decide +kernel) (Nat.le_of_ble_eq_true rfl) ?_
  intro p l e s m args below meth c A _ C
  refine zz_lvs (lv1 := [(0, .ref (ad 41)), (1, .int chosen_)]) rfl ?_
  refine zz_iconst (v := (0 : Int32)) C dX4_piecesIn_0 (by decide) ?_
  refine zz_istore_n C dX4_piecesIn_1 rfl (by decide) (lv' := [(2, .int (0 : Int32)), (0, .ref (ad 41)), (1, .int chosen_)]) rfl ?_
  refine zz_iconst (v := (0 : Int32)) C dX4_piecesIn_2 (by decide) ?_
  refine zz_istore_n C dX4_piecesIn_3 rfl (by decide) (lv' := [(3, .int (0 : Int32)), (2, .int (0 : Int32)), (0, .ref (ad 41)), (1, .int chosen_)]) rfl ?_
  obtain ⟨q12, h13, hf⟩ := zz_bind hf
  refine zz_sub [2, 3, 1, 0] rfl ?_
  refine mX4_piecesIn_L1 C (Nat.le_of_ble_eq_true rfl) (Nat.le_of_ble_eq_true rfl) σ chosen_ 1000 (0 : Int32) (0 : Int32) q12 h13 ?_
  refine zz_iload_n C 2 dX4_piecesIn_39 rfl rfl ?_
  cases hf
  exact zz_iret C dX4_piecesIn_40 (And.intro rfl rfl) (Nat.le_of_ble_eq_true rfl) (Nat.le_of_ble_eq_true rfl)
theorem dX0_walk_0 : decode cX0_walk 0 = .ok (.iconst 0, 1) := by decide +kernel
theorem dX0_walk_1 : decode cX0_walk 1 = .ok (.istore_n 1, 1) := by decide +kernel
theorem dX0_walk_2 : decode cX0_walk 2 = .ok (.iconst 0, 1) := by decide +kernel
theorem dX0_walk_3 : decode cX0_walk 3 = .ok (.istore_n 2, 1) := by decide +kernel
theorem dX0_walk_4 : decode cX0_walk 4 = .ok (.iload_n 2, 1) := by decide +kernel
theorem dX0_walk_5 : decode cX0_walk 5 = .ok (.aload_n 0, 1) := by decide +kernel
theorem dX0_walk_6 : decode cX0_walk 6 = .ok (.getfield 30, 3) := by decide +kernel
theorem dX0_walk_9 : decode cX0_walk 9 = .ok (.if_icmp .ge 32, 3) := by decide +kernel
theorem dX0_walk_12 : decode cX0_walk 12 = .ok (.aload_n 0, 1) := by decide +kernel
theorem dX0_walk_13 : decode cX0_walk 13 = .ok (.iload_n 1, 1) := by decide +kernel
theorem dX0_walk_14 : decode cX0_walk 14 = .ok (.invokevirtual 33, 3) := by decide +kernel
theorem dX0_walk_17 : decode cX0_walk 17 = .ok (.istore_n 3, 1) := by decide +kernel
theorem dX0_walk_18 : decode cX0_walk 18 = .ok (.iload_n 3, 1) := by decide +kernel
theorem dX0_walk_19 : decode cX0_walk 19 = .ok (.ifCond .lt 16, 3) := by decide +kernel
theorem dX0_walk_22 : decode cX0_walk 22 = .ok (.aload_n 0, 1) := by decide +kernel
theorem dX0_walk_23 : decode cX0_walk 23 = .ok (.getfield 9, 3) := by decide +kernel
theorem dX0_walk_26 : decode cX0_walk 26 = .ok (.iload_n 2, 1) := by decide +kernel
theorem dX0_walk_27 : decode cX0_walk 27 = .ok (.iload_n 3, 1) := by decide +kernel
theorem dX0_walk_28 : decode cX0_walk 28 = .ok (.iastore, 1) := by decide +kernel
theorem dX0_walk_29 : decode cX0_walk 29 = .ok (.iload_n 1, 1) := by decide +kernel
theorem dX0_walk_30 : decode cX0_walk 30 = .ok (.iconst 1, 1) := by decide +kernel
theorem dX0_walk_31 : decode cX0_walk 31 = .ok (.iload_n 3, 1) := by decide +kernel
theorem dX0_walk_32 : decode cX0_walk 32 = .ok (.ishl, 1) := by decide +kernel
theorem dX0_walk_33 : decode cX0_walk 33 = .ok (.ior, 1) := by decide +kernel
theorem dX0_walk_34 : decode cX0_walk 34 = .ok (.istore_n 1, 1) := by decide +kernel
theorem dX0_walk_35 : decode cX0_walk 35 = .ok (.iinc 2 1, 3) := by decide +kernel
theorem dX0_walk_38 : decode cX0_walk 38 = .ok (.goto (-34), 3) := by decide +kernel
theorem dX0_walk_41 : decode cX0_walk 41 = .ok (.return_, 1) := by decide +kernel
set_option maxHeartbeats 4000000 in
set_option maxRecDepth 100000 in
theorem mX0_walk_L1 {p : Program} {l : Launch} {e : Env} {R : Room} {s : State} {m : MethodId} {args : Array Value} {below : List Frame} {meth : Method} {c : Code} {Q : State → Prop} {D : va_G} {U : zz_U} {A : Nat → Prop} {cells slots : Nat} {ad : Nat → Nat} {X : va_W} (C : zz_C p l R s m meth c D U A RX0 cX0_walk 4 none [] 2) (hcR : cells ≤ R.cells) (hsR : slots ≤ R.slots) : ∀ (n : Nat) (chosen_ : Int32) (place_ : Int32) (σ : zz_St) (q : (Int32 × Int32 × zz_St)), fX0_walk_L1 n chosen_ place_ σ = some q → (zz_Z p l e R s m args below meth c Q D A 4 cells slots (zz_wc U ad q.2.2 X) 41 [(0, .ref (ad 44)), (1, .int q.1), (2, .int q.2.1)] []) → zz_Z p l e R s m args below meth c Q D A 4 cells slots (zz_wc U ad σ X) 4 [(0, .ref (ad 44)), (1, .int chosen_), (2, .int place_)] [] := by
  intro n
  induction n with
  | zero => intro chosen_ place_ σ q hf; rw [fX0_walk_L1] at hf; cases hf
  | succ n ih =>
    intro chosen_ place_ σ q hf kx
    rw [fX0_walk_L1] at hf
    refine zz_iload_n C 2 dX0_walk_4 rfl rfl ?_
    refine zz_aload_n C 0 dX0_walk_5 rfl rfl ?_
    refine zf0_length C dX0_walk_6 zw_113 ?_
    refine zz_icmp_ge (tgt := 41) C dX0_walk_9 (by decide) (fun g1 => ?_) (fun g1 => ?_)
    · rw [if_pos g1] at hf
      cases hf
      exact kx
    · rw [if_neg g1] at hf
      refine zz_aload_n C 0 dX0_walk_12 rfl rfl ?_
      refine zz_iload_n C 1 dX0_walk_13 rfl rfl ?_
      obtain ⟨x2, h3, hf⟩ := zz_bind hf
      refine zz_callV1 (As := [.int chosen_]) (rest := []) C 44 (mX0_nextAfter σ chosen_ x2 h3) dX0_walk_14 rfl rfl rfl zw_117 zy_X0_nextAfter rfl (by decide) (by decide) (Nat.le_of_ble_eq_true rfl) hcR hsR rfl ?_
      refine zz_istore_n C dX0_walk_17 rfl (by decide) (lv' := [(3, .int x2), (0, .ref (ad 44)), (1, .int chosen_), (2, .int place_)]) rfl ?_
      obtain ⟨x4, h5, hf⟩ := zz_bind hf
      refine zz_cut 35 [(0, .ref (ad 44)), (1, .int x4.1), (2, .int place_), (3, .int x2)] [] (zz_wc U ad x4.2 X) ?_ (fun J6 => ?_)
      · refine zz_iinc (v := (place_ + (1 : Int32))) C 2 dX0_walk_35 rfl (by rfl) (by decide) (lv' := [(2, .int (place_ + (1 : Int32))), (0, .ref (ad 44)), (1, .int x4.1), (3, .int x2)]) rfl ?_
        refine zz_goto (tgt := 4) C dX0_walk_38 (by decide) ?_
        refine zz_sub [1, 2, 0] rfl ?_
        exact ih x4.1 (place_ + (1 : Int32)) x4.2 _ hf kx
      refine zz_iload_n C 0 dX0_walk_18 rfl rfl ?_
      refine zz_if_lt (tgt := 35) C dX0_walk_19 (by decide) (fun g7 => ?_) (fun g7 => ?_)
      · rw [if_pos g7] at h5
        refine zz_sub [1, 2, 3, 0] rfl ?_
        cases h5
        exact J6
      · rw [if_neg g7] at h5
        refine zz_aload_n C 1 dX0_walk_22 rfl rfl ?_
        refine zf0_order C dX0_walk_23 zw_118 ?_
        refine zz_iload_n C 3 dX0_walk_26 rfl rfl ?_
        refine zz_iload_n C 0 dX0_walk_27 rfl rfl ?_
        obtain ⟨σ8, h9, h5⟩ := zz_bind h5
        refine zs_45 C dX0_walk_28 h9 ?_
        refine zz_iload_n C 2 dX0_walk_29 rfl rfl ?_
        refine zz_iconst (v := (1 : Int32)) C dX0_walk_30 (by decide) ?_
        refine zz_iload_n C 0 dX0_walk_31 rfl rfl ?_
        refine zz_ishl C dX0_walk_32 ?_
        refine zz_ior C dX0_walk_33 ?_
        obtain ⟨x10, h11, h5⟩ := zz_bind h5
        refine zz_topi (Option.some.inj h11) ?_
        refine zz_istore_n C dX0_walk_34 rfl (by decide) (lv' := [(1, .int x10), (3, .int x2), (0, .ref (ad 44)), (2, .int place_)]) rfl ?_
        refine zz_sub [2, 0, 3, 1] rfl ?_
        cases h5
        exact J6
set_option maxHeartbeats 4000000 in
set_option maxRecDepth 100000 in
theorem mX0_walk {D : va_G} {U : zz_U} {ad : Nat → Nat} {X : va_W} (σ : zz_St) (r : zz_St) (hf : fX0_walk σ = some r) : zz_Met yX0_walk (.code yX0_walk cX0_walk 4 none) 2 0 0 D U [.ref (ad 44)] (zz_wc U ad σ X) (zz_ok none (zz_wc U ad r X)) zz_noth := by
  unfold fX0_walk at hf
  refine zz_method RX0 rfl (by decide +kernel) (Nat.le_of_ble_eq_true rfl) ?_
  intro p l e s m args below meth c A _ C
  refine zz_lvs (lv1 := [(0, .ref (ad 44))]) rfl ?_
  refine zz_iconst (v := (0 : Int32)) C dX0_walk_0 (by decide) ?_
  refine zz_istore_n C dX0_walk_1 rfl (by decide) (lv' := [(1, .int (0 : Int32)), (0, .ref (ad 44))]) rfl ?_
  refine zz_iconst (v := (0 : Int32)) C dX0_walk_2 (by decide) ?_
  refine zz_istore_n C dX0_walk_3 rfl (by decide) (lv' := [(2, .int (0 : Int32)), (1, .int (0 : Int32)), (0, .ref (ad 44))]) rfl ?_
  obtain ⟨q12, h13, hf⟩ := zz_bind hf
  refine zz_sub [2, 1, 0] rfl ?_
  refine mX0_walk_L1 C (Nat.le_of_ble_eq_true rfl) (Nat.le_of_ble_eq_true rfl) 1000 (0 : Int32) (0 : Int32) σ q12 h13 ?_
  cases hf
  exact zz_vret C dX0_walk_41 (And.intro rfl rfl) (Nat.le_of_ble_eq_true rfl) (Nat.le_of_ble_eq_true rfl)
theorem dX0_find_0 : decode cX0_find 0 = .ok (.aload_n 0, 1) := by decide +kernel
theorem dX0_find_1 : decode cX0_find 1 = .ok (.aload_n 1, 1) := by decide +kernel
theorem dX0_find_2 : decode cX0_find 2 = .ok (.getfield 18, 3) := by decide +kernel
theorem dX0_find_5 : decode cX0_find 5 = .ok (.bipush 9, 2) := by decide +kernel
theorem dX0_find_7 : decode cX0_find 7 = .ok (.invokestatic 24, 3) := by decide +kernel
theorem dX0_find_10 : decode cX0_find 10 = .ok (.putfield 30, 3) := by decide +kernel
theorem dX0_find_13 : decode cX0_find 13 = .ok (.iconst 1, 1) := by decide +kernel
theorem dX0_find_14 : decode cX0_find 14 = .ok (.aload_n 0, 1) := by decide +kernel
theorem dX0_find_15 : decode cX0_find 15 = .ok (.getfield 30, 3) := by decide +kernel
theorem dX0_find_18 : decode cX0_find 18 = .ok (.ishl, 1) := by decide +kernel
theorem dX0_find_19 : decode cX0_find 19 = .ok (.iconst 1, 1) := by decide +kernel
theorem dX0_find_20 : decode cX0_find 20 = .ok (.isub, 1) := by decide +kernel
theorem dX0_find_21 : decode cX0_find 21 = .ok (.istore 4, 2) := by decide +kernel
theorem dX0_find_23 : decode cX0_find 23 = .ok (.iload 4, 2) := by decide +kernel
theorem dX0_find_25 : decode cX0_find 25 = .ok (.ifCond .lt 77, 3) := by decide +kernel
theorem dX0_find_28 : decode cX0_find 28 = .ok (.aload_n 0, 1) := by decide +kernel
theorem dX0_find_29 : decode cX0_find 29 = .ok (.iload 4, 2) := by decide +kernel
theorem dX0_find_31 : decode cX0_find 31 = .ok (.invokevirtual 33, 3) := by decide +kernel
theorem dX0_find_34 : decode cX0_find 34 = .ok (.istore 5, 2) := by decide +kernel
theorem dX0_find_36 : decode cX0_find 36 = .ok (.iload 5, 2) := by decide +kernel
theorem dX0_find_38 : decode cX0_find 38 = .ok (.ifCond .ge 7, 3) := by decide +kernel
theorem dX0_find_41 : decode cX0_find 41 = .ok (.iconst 0, 1) := by decide +kernel
theorem dX0_find_42 : decode cX0_find 42 = .ok (.goto 15, 3) := by decide +kernel
theorem dX0_find_45 : decode cX0_find 45 = .ok (.aload_n 0, 1) := by decide +kernel
theorem dX0_find_46 : decode cX0_find 46 = .ok (.getfield 15, 3) := by decide +kernel
theorem dX0_find_49 : decode cX0_find 49 = .ok (.iload 4, 2) := by decide +kernel
theorem dX0_find_51 : decode cX0_find 51 = .ok (.iconst 1, 1) := by decide +kernel
theorem dX0_find_52 : decode cX0_find 52 = .ok (.iload 5, 2) := by decide +kernel
theorem dX0_find_54 : decode cX0_find 54 = .ok (.ishl, 1) := by decide +kernel
theorem dX0_find_55 : decode cX0_find 55 = .ok (.ior, 1) := by decide +kernel
theorem dX0_find_56 : decode cX0_find 56 = .ok (.iaload, 1) := by decide +kernel
theorem dX0_find_57 : decode cX0_find 57 = .ok (.istore 6, 2) := by decide +kernel
theorem dX0_find_59 : decode cX0_find 59 = .ok (.iload 4, 2) := by decide +kernel
theorem dX0_find_61 : decode cX0_find 61 = .ok (.ifCond .ne 7, 3) := by decide +kernel
theorem dX0_find_64 : decode cX0_find 64 = .ok (.iconst 0, 1) := by decide +kernel
theorem dX0_find_65 : decode cX0_find 65 = .ok (.goto 17, 3) := by decide +kernel
theorem dX0_find_68 : decode cX0_find 68 = .ok (.aload_n 3, 1) := by decide +kernel
theorem dX0_find_69 : decode cX0_find 69 = .ok (.aload_n 2, 1) := by decide +kernel
theorem dX0_find_70 : decode cX0_find 70 = .ok (.aload_n 1, 1) := by decide +kernel
theorem dX0_find_71 : decode cX0_find 71 = .ok (.iload 4, 2) := by decide +kernel
theorem dX0_find_73 : decode cX0_find 73 = .ok (.invokevirtual 37, 3) := by decide +kernel
theorem dX0_find_76 : decode cX0_find 76 = .ok (.invokevirtual 40, 3) := by decide +kernel
theorem dX0_find_79 : decode cX0_find 79 = .ok (.invokestatic 46, 3) := by decide +kernel
theorem dX0_find_82 : decode cX0_find 82 = .ok (.istore 7, 2) := by decide +kernel
theorem dX0_find_84 : decode cX0_find 84 = .ok (.aload_n 0, 1) := by decide +kernel
theorem dX0_find_85 : decode cX0_find 85 = .ok (.getfield 15, 3) := by decide +kernel
theorem dX0_find_88 : decode cX0_find 88 = .ok (.iload 4, 2) := by decide +kernel
theorem dX0_find_90 : decode cX0_find 90 = .ok (.iload 7, 2) := by decide +kernel
theorem dX0_find_92 : decode cX0_find 92 = .ok (.iload 6, 2) := by decide +kernel
theorem dX0_find_94 : decode cX0_find 94 = .ok (.iadd, 1) := by decide +kernel
theorem dX0_find_95 : decode cX0_find 95 = .ok (.iastore, 1) := by decide +kernel
theorem dX0_find_96 : decode cX0_find 96 = .ok (.iinc 4 (-1), 3) := by decide +kernel
theorem dX0_find_99 : decode cX0_find 99 = .ok (.goto (-76), 3) := by decide +kernel
theorem dX0_find_102 : decode cX0_find 102 = .ok (.aload_n 0, 1) := by decide +kernel
theorem dX0_find_103 : decode cX0_find 103 = .ok (.aload_n 0, 1) := by decide +kernel
theorem dX0_find_104 : decode cX0_find 104 = .ok (.getfield 15, 3) := by decide +kernel
theorem dX0_find_107 : decode cX0_find 107 = .ok (.iconst 0, 1) := by decide +kernel
theorem dX0_find_108 : decode cX0_find 108 = .ok (.iaload, 1) := by decide +kernel
theorem dX0_find_109 : decode cX0_find 109 = .ok (.putfield 51, 3) := by decide +kernel
theorem dX0_find_112 : decode cX0_find 112 = .ok (.aload_n 0, 1) := by decide +kernel
theorem dX0_find_113 : decode cX0_find 113 = .ok (.invokevirtual 54, 3) := by decide +kernel
theorem dX0_find_116 : decode cX0_find 116 = .ok (.return_, 1) := by decide +kernel
set_option maxHeartbeats 4000000 in
set_option maxRecDepth 100000 in
theorem mX0_find_L1 {p : Program} {l : Launch} {e : Env} {R : Room} {s : State} {m : MethodId} {args : Array Value} {below : List Frame} {meth : Method} {c : Code} {Q : State → Prop} {D : va_G} {U : zz_U} {A : Nat → Prop} {cells slots : Nat} {ad : Nat → Nat} {X : va_W} (C : zz_C p l R s m meth c D U A RX0 cX0_find 8 none [] 3) (hcR : cells ≤ R.cells) (hsR : slots ≤ R.slots) : ∀ (n : Nat) (chosen_ : Int32) (σ : zz_St) (q : (Int32 × zz_St)), fX0_find_L1 n chosen_ σ = some q → (zz_Z p l e R s m args below meth c Q D A 8 cells slots (zz_wc U ad q.2 X) 102 [(0, .ref (ad 44)), (1, .ref (ad 41)), (2, .ref (ad 1)), (3, .ref (ad 17)), (4, .int q.1)] []) → zz_Z p l e R s m args below meth c Q D A 8 cells slots (zz_wc U ad σ X) 23 [(0, .ref (ad 44)), (1, .ref (ad 41)), (2, .ref (ad 1)), (3, .ref (ad 17)), (4, .int chosen_)] [] := by
  intro n
  induction n with
  | zero => intro chosen_ σ q hf; rw [fX0_find_L1] at hf; cases hf
  | succ n ih =>
    intro chosen_ σ q hf kx
    rw [fX0_find_L1] at hf
    refine zz_iload C 4 dX0_find_23 rfl ?_
    refine zz_if_lt (tgt := 102) C dX0_find_25 (by decide) (fun g3 => ?_) (fun g3 => ?_)
    · rw [if_pos g3] at hf
      cases hf
      exact kx
    · rw [if_neg g3] at hf
      refine zz_aload_n C 0 dX0_find_28 rfl rfl ?_
      refine zz_iload C 4 dX0_find_29 rfl ?_
      obtain ⟨x4, h5, hf⟩ := zz_bind hf
      refine zz_callV1 (As := [.int chosen_]) (rest := []) C 44 (mX0_nextAfter σ chosen_ x4 h5) dX0_find_31 rfl rfl rfl zw_117 zy_X0_nextAfter rfl (by decide) (by decide) (Nat.le_of_ble_eq_true rfl) hcR hsR rfl ?_
      refine zz_istore C dX0_find_34 (by decide) (lv' := [(5, .int x4), (0, .ref (ad 44)), (1, .ref (ad 41)), (2, .ref (ad 1)), (3, .ref (ad 17)), (4, .int chosen_)]) rfl ?_
      obtain ⟨x6, h7, hf⟩ := zz_bind hf
      refine zz_cut 57 [(5, .int x4), (0, .ref (ad 44)), (1, .ref (ad 41)), (2, .ref (ad 1)), (3, .ref (ad 17)), (4, .int chosen_)] [.int x6] (zz_wc U ad σ X) ?_ (fun J8 => ?_)
      · refine zz_istore C dX0_find_57 (by decide) (lv' := [(6, .int x6), (5, .int x4), (0, .ref (ad 44)), (1, .ref (ad 41)), (2, .ref (ad 1)), (3, .ref (ad 17)), (4, .int chosen_)]) rfl ?_
        obtain ⟨x12, h13, hf⟩ := zz_bind hf
        refine zz_cut 82 [(6, .int x6), (5, .int x4), (0, .ref (ad 44)), (1, .ref (ad 41)), (2, .ref (ad 1)), (3, .ref (ad 17)), (4, .int chosen_)] [.int x12] (zz_wc U ad σ X) ?_ (fun J14 => ?_)
        · refine zz_istore C dX0_find_82 (by decide) (lv' := [(7, .int x12), (6, .int x6), (5, .int x4), (0, .ref (ad 44)), (1, .ref (ad 41)), (2, .ref (ad 1)), (3, .ref (ad 17)), (4, .int chosen_)]) rfl ?_
          refine zz_aload_n C 3 dX0_find_84 rfl rfl ?_
          refine zf0_fromThen C dX0_find_85 zw_112 ?_
          refine zz_iload C 7 dX0_find_88 rfl ?_
          refine zz_iload C 0 dX0_find_90 rfl ?_
          refine zz_iload C 1 dX0_find_92 rfl ?_
          refine zz_iadd C dX0_find_94 ?_
          obtain ⟨σ22, h23, hf⟩ := zz_bind hf
          refine zs_46 C dX0_find_95 h23 ?_
          refine zz_iinc (v := (chosen_ + (-1 : Int32))) C 7 dX0_find_96 rfl (by rfl) (by decide) (lv' := [(4, .int (chosen_ + (-1 : Int32))), (7, .int x12), (6, .int x6), (5, .int x4), (0, .ref (ad 44)), (1, .ref (ad 41)), (2, .ref (ad 1)), (3, .ref (ad 17))]) rfl ?_
          refine zz_goto (tgt := 23) C dX0_find_99 (by decide) ?_
          refine zz_sub [4, 5, 6, 7, 0] rfl ?_
          exact ih (chosen_ + (-1 : Int32)) σ22 _ hf kx
        refine zz_iload C 6 dX0_find_59 rfl ?_
        refine zz_if_ne (tgt := 68) C dX0_find_61 (by decide) (fun g15 => ?_) (fun g15 => ?_)
        · rw [if_neg g15] at h13
          refine zz_aload_n C 5 dX0_find_68 rfl rfl ?_
          refine zz_aload_n C 4 dX0_find_69 rfl rfl ?_
          refine zz_aload_n C 3 dX0_find_70 rfl rfl ?_
          refine zz_iload C 6 dX0_find_71 rfl ?_
          obtain ⟨x16, h17, h13⟩ := zz_bind h13
          refine zz_callV1 (As := [.int chosen_]) (rest := [.ref (ad 1), .ref (ad 17)]) C 41 (mX4_piecesIn σ chosen_ x16 h17) dX0_find_73 rfl rfl rfl zw_116 zy_X4_piecesIn rfl (by decide) (by decide) (Nat.le_of_ble_eq_true rfl) hcR hsR rfl ?_
          obtain ⟨x18, h19, h13⟩ := zz_bind h13
          refine zz_callV1 (As := [.ref (ad 1), .int x16]) (rest := []) C 17 (mX1_brokenBy σ x16 x18 h19) dX0_find_76 rfl rfl rfl zw_115 zy_X1_brokenBy rfl (by decide) (by decide) (Nat.le_of_ble_eq_true rfl) hcR hsR rfl ?_
          obtain ⟨x20, h21, h13⟩ := zz_bind h13
          refine zz_callS1 (As := [.int x18]) (rest := []) C (mJ6_bitCount x18 x20 h21) dX0_find_79 rfl zw_114 zy_J6_bitCount_0f7a4 rfl (by decide) (by decide) (Nat.le_of_ble_eq_true rfl) hcR hsR rfl ?_
          cases h13
          exact J14
        · rw [if_pos g15] at h13
          refine zz_iconst (v := (0 : Int32)) C dX0_find_64 (by decide) ?_
          refine zz_goto (tgt := 82) C dX0_find_65 (by decide) ?_
          cases h13
          exact J14
      refine zz_iload C 0 dX0_find_36 rfl ?_
      refine zz_if_ge (tgt := 45) C dX0_find_38 (by decide) (fun g9 => ?_) (fun g9 => ?_)
      · rw [if_pos g9] at h7
        refine zz_aload_n C 1 dX0_find_45 rfl rfl ?_
        refine zf0_fromThen C dX0_find_46 zw_112 ?_
        refine zz_iload C 5 dX0_find_49 rfl ?_
        refine zz_iconst (v := (1 : Int32)) C dX0_find_51 (by decide) ?_
        refine zz_iload C 0 dX0_find_52 rfl ?_
        refine zz_ishl C dX0_find_54 ?_
        refine zz_ior C dX0_find_55 ?_
        obtain ⟨x10, h11, h7⟩ := zz_bind h7
        refine zl_46 C dX0_find_56 h11 ?_
        cases h7
        exact J8
      · rw [if_neg g9] at h7
        refine zz_iconst (v := (0 : Int32)) C dX0_find_41 (by decide) ?_
        refine zz_goto (tgt := 57) C dX0_find_42 (by decide) ?_
        cases h7
        exact J8
set_option maxHeartbeats 4000000 in
set_option maxRecDepth 100000 in
theorem mX0_find {D : va_G} {U : zz_U} {ad : Nat → Nat} {X : va_W} (σ : zz_St) (r : zz_St) (hf : fX0_find σ = some r) : zz_Met yX0_find (.code yX0_find cX0_find 8 none) 3 0 0 D U [.ref (ad 44), .ref (ad 41), .ref (ad 1), .ref (ad 17)] (zz_wc U ad σ X) (zz_ok none (zz_wc U ad r X)) zz_noth := by
  unfold fX0_find at hf
  refine zz_method RX0 rfl (by decide +kernel) (Nat.le_of_ble_eq_true rfl) ?_
  intro p l e s m args below meth c A _ C
  refine zz_lvs (lv1 := [(0, .ref (ad 44)), (1, .ref (ad 41)), (2, .ref (ad 1)), (3, .ref (ad 17))]) rfl ?_
  refine zz_aload_n C 0 dX0_find_0 rfl rfl ?_
  refine zz_aload_n C 1 dX0_find_1 rfl rfl ?_
  refine zf4_count C dX0_find_2 zw_121 ?_
  refine zz_bipush (v := (9 : Int32)) C dX0_find_5 (by decide) ?_
  refine zz_mmin C dX0_find_7 zw_110 zm_min_1 zm_min_2 zm_min_3 (by decide) (Nat.le_of_ble_eq_true rfl) (Nat.le_of_ble_eq_true rfl) (Nat.le_of_ble_eq_true rfl) ?_
  refine zp0_length C dX0_find_10 zw_113 ?_
  refine zz_iconst (v := (1 : Int32)) C dX0_find_13 (by decide) ?_
  refine zz_aload_n C 0 dX0_find_14 rfl rfl ?_
  refine zf0_length C dX0_find_15 zw_113 ?_
  refine zz_ishl C dX0_find_18 ?_
  refine zz_iconst (v := (1 : Int32)) C dX0_find_19 (by decide) ?_
  refine zz_isub C dX0_find_20 ?_
  obtain ⟨x1, h2, hf⟩ := zz_bind hf
  refine zz_topi (Option.some.inj h2) ?_
  refine zz_istore C dX0_find_21 (by decide) (lv' := [(4, .int x1), (0, .ref (ad 44)), (1, .ref (ad 41)), (2, .ref (ad 1)), (3, .ref (ad 17))]) rfl ?_
  obtain ⟨q24, h25, hf⟩ := zz_bind hf
  refine zz_sub [1, 2, 3, 4, 0] rfl ?_
  refine mX0_find_L1 C (Nat.le_of_ble_eq_true rfl) (Nat.le_of_ble_eq_true rfl) 1000 x1 (zz_u σ 44 1 (zz_min (σ 41 0) (9 : Int32))) q24 h25 ?_
  refine zz_aload_n C 0 dX0_find_102 rfl rfl ?_
  refine zz_aload_n C 0 dX0_find_103 rfl rfl ?_
  refine zf0_fromThen C dX0_find_104 zw_112 ?_
  refine zz_iconst (v := (0 : Int32)) C dX0_find_107 (by decide) ?_
  obtain ⟨x26, h27, hf⟩ := zz_bind hf
  refine zl_46 C dX0_find_108 h27 ?_
  refine zp0_least C dX0_find_109 zw_120 ?_
  refine zz_aload_n C 0 dX0_find_112 rfl rfl ?_
  obtain ⟨x28, h29, hf⟩ := zz_bind hf
  refine zz_callV1 (As := []) (rest := []) C 44 (mX0_walk (zz_u q24.2 44 0 x26) x28 h29) dX0_find_113 rfl rfl rfl zw_119 zy_X0_walk rfl (by decide) (by decide) (Nat.le_of_ble_eq_true rfl) (Nat.le_of_ble_eq_true rfl) (Nat.le_of_ble_eq_true rfl) rfl ?_
  cases hf
  exact zz_vret C dX0_find_116 (And.intro rfl rfl) (Nat.le_of_ble_eq_true rfl) (Nat.le_of_ble_eq_true rfl)
theorem dX7_findBest_0 : decode cX7_findBest 0 = .ok (.aload_n 0, 1) := by decide +kernel
theorem dX7_findBest_1 : decode cX7_findBest 1 = .ok (.invokevirtual 176, 3) := by decide +kernel
theorem dX7_findBest_4 : decode cX7_findBest 4 = .ok (.aload_n 0, 1) := by decide +kernel
theorem dX7_findBest_5 : decode cX7_findBest 5 = .ok (.getfield 47, 3) := by decide +kernel
theorem dX7_findBest_8 : decode cX7_findBest 8 = .ok (.getfield 205, 3) := by decide +kernel
theorem dX7_findBest_11 : decode cX7_findBest 11 = .ok (.bipush 9, 2) := by decide +kernel
theorem dX7_findBest_13 : decode cX7_findBest 13 = .ok (.if_icmp .le 14, 3) := by decide +kernel
theorem dX7_findBest_16 : decode cX7_findBest 16 = .ok (.new 75, 3) := by decide +kernel
theorem dX7_findBest_19 : decode cX7_findBest 19 = .ok (.dup, 1) := by decide +kernel
theorem dX7_findBest_20 : decode cX7_findBest 20 = .ok (.ldc_w 290, 3) := by decide +kernel
theorem dX7_findBest_23 : decode cX7_findBest 23 = .ok (.invokespecial 79, 3) := by decide +kernel
theorem dX7_findBest_26 : decode cX7_findBest 26 = .ok (.athrow, 1) := by decide +kernel
theorem dX7_findBest_27 : decode cX7_findBest 27 = .ok (.aload_n 0, 1) := by decide +kernel
theorem dX7_findBest_28 : decode cX7_findBest 28 = .ok (.getfield 271, 3) := by decide +kernel
theorem dX7_findBest_31 : decode cX7_findBest 31 = .ok (.ifCond .ne 27, 3) := by decide +kernel
theorem dX7_findBest_34 : decode cX7_findBest 34 = .ok (.aload_n 0, 1) := by decide +kernel
theorem dX7_findBest_35 : decode cX7_findBest 35 = .ok (.getfield 54, 3) := by decide +kernel
theorem dX7_findBest_38 : decode cX7_findBest 38 = .ok (.aload_n 0, 1) := by decide +kernel
theorem dX7_findBest_39 : decode cX7_findBest 39 = .ok (.getfield 47, 3) := by decide +kernel
theorem dX7_findBest_42 : decode cX7_findBest 42 = .ok (.aload_n 0, 1) := by decide +kernel
theorem dX7_findBest_43 : decode cX7_findBest 43 = .ok (.getfield 12, 3) := by decide +kernel
theorem dX7_findBest_46 : decode cX7_findBest 46 = .ok (.aload_n 0, 1) := by decide +kernel
theorem dX7_findBest_47 : decode cX7_findBest 47 = .ok (.getfield 19, 3) := by decide +kernel
theorem dX7_findBest_50 : decode cX7_findBest 50 = .ok (.invokevirtual 292, 3) := by decide +kernel
theorem dX7_findBest_53 : decode cX7_findBest 53 = .ok (.aload_n 0, 1) := by decide +kernel
theorem dX7_findBest_54 : decode cX7_findBest 54 = .ok (.iconst 1, 1) := by decide +kernel
theorem dX7_findBest_55 : decode cX7_findBest 55 = .ok (.putfield 271, 3) := by decide +kernel
theorem dX7_findBest_58 : decode cX7_findBest 58 = .ok (.return_, 1) := by decide +kernel
set_option maxHeartbeats 4000000 in
set_option maxRecDepth 100000 in
theorem mX7_findBest {D : va_G} {U : zz_U} {ad : Nat → Nat} {X : va_W} (σ : zz_St) (r : ((Unit ⊕ String) × zz_St)) (hf : fX7_findBest σ = some r) : zz_Met yX7_findBest (.code yX7_findBest cX7_findBest 1 none) 6 1 6 D U [.ref (ad 0)] (zz_wc U ad σ X) (match r.1 with | .inl _ => zz_ok none (zz_wc U ad r.2 X) | .inr _ => zz_none) (match r.1 with | .inl _ => zz_noth | .inr E => zz_th E (zz_wc U ad r.2 X)) := by
  unfold fX7_findBest at hf
  refine zz_method RX7 rfl (by decide +kernel) (Nat.le_of_ble_eq_true rfl) ?_
  intro p l e s m args below meth c A _ C
  refine zz_lvs (lv1 := [(0, .ref (ad 0))]) rfl ?_
  refine zz_aload_n C 0 dX7_findBest_0 rfl rfl ?_
  obtain ⟨x1, h2, hf⟩ := zz_bind hf
  refine zz_callV1 (As := []) (rest := []) C 0 (mX7_putTogether σ x1 h2) dX7_findBest_1 rfl rfl rfl zw_90 zy_X7_putTogether rfl (by decide) (by decide) (Nat.le_of_ble_eq_true rfl) (Nat.le_of_ble_eq_true rfl) (Nat.le_of_ble_eq_true rfl) rfl ?_
  refine zz_aload_n C 0 dX7_findBest_4 rfl rfl ?_
  refine zf7_parcels C dX7_findBest_5 zw_85 ?_
  refine zf4_count C dX7_findBest_8 zw_99 ?_
  refine zz_bipush (v := (9 : Int32)) C dX7_findBest_11 (by decide) ?_
  refine zz_icmp_le (tgt := 27) C dX7_findBest_13 (by decide) (fun g3 => ?_) (fun g3 => ?_)
  · rw [if_pos g3] at hf
    obtain ⟨x4, h5, hf⟩ := zz_bind hf
    refine zz_cut 58 [(0, .ref (ad 0))] [] (zz_wc U ad x4 X) ?_ (fun J6 => ?_)
    · cases hf
      exact zz_vret C dX7_findBest_58 (And.intro rfl rfl) (Nat.le_of_ble_eq_true rfl) (Nat.le_of_ble_eq_true rfl)
    refine zz_aload_n C 0 dX7_findBest_27 rfl rfl ?_
    refine zf7_isBestKnown C dX7_findBest_28 zw_1 ?_
    refine zz_if_ne (tgt := 58) C dX7_findBest_31 (by decide) (fun g7 => ?_) (fun g7 => ?_)
    · rw [if_neg g7] at h5
      cases h5
      exact J6
    · rw [if_pos g7] at h5
      refine zz_aload_n C 0 dX7_findBest_34 rfl rfl ?_
      refine zf7_bestOrder C dX7_findBest_35 zw_123 ?_
      refine zz_aload_n C 0 dX7_findBest_38 rfl rfl ?_
      refine zf7_parcels C dX7_findBest_39 zw_85 ?_
      refine zz_aload_n C 0 dX7_findBest_42 rfl rfl ?_
      refine zf7_pieces C dX7_findBest_43 zw_10 ?_
      refine zz_aload_n C 0 dX7_findBest_46 rfl rfl ?_
      refine zf7_code C dX7_findBest_47 zw_23 ?_
      obtain ⟨x8, h9, h5⟩ := zz_bind h5
      refine zz_callV1 (As := [.ref (ad 41), .ref (ad 1), .ref (ad 17)]) (rest := []) C 44 (mX0_find x1 x8 h9) dX7_findBest_50 rfl rfl rfl zw_122 zy_X0_find rfl (by decide) (by decide) (Nat.le_of_ble_eq_true rfl) (Nat.le_of_ble_eq_true rfl) (Nat.le_of_ble_eq_true rfl) rfl ?_
      refine zz_aload_n C 0 dX7_findBest_53 rfl rfl ?_
      refine zz_iconst (v := (1 : Int32)) C dX7_findBest_54 (by decide) ?_
      refine zp7_isBestKnown C dX7_findBest_55 zw_1 (Or.inr rfl) ?_
      cases h5
      exact J6
  · rw [if_neg g3] at hf
    cases hf
    exact zz_throwSW (cls := "java/lang/IllegalStateException") (text := "too many parcels") C zt_1 (by decide +kernel) dX7_findBest_16 dX7_findBest_19 dX7_findBest_20 dX7_findBest_23 dX7_findBest_26 (by decide) (Nat.le_of_ble_eq_true rfl) (Nat.le_of_ble_eq_true rfl) (Nat.le_of_ble_eq_true rfl) (Nat.le_of_ble_eq_true rfl) (Nat.le_of_ble_eq_true rfl) (And.intro rfl rfl)
theorem mX7_findBest_r {D : va_G} {U : zz_U} {ad : Nat → Nat} {X : va_W} (σ : zz_St) (x : Unit) (σ1 : zz_St) (hf : fX7_findBest σ = some (.inl x, σ1)) : zz_Met yX7_findBest (.code yX7_findBest cX7_findBest 1 none) 6 1 6 D U [.ref (ad 0)] (zz_wc U ad σ X) (zz_ok none (zz_wc U ad σ1 X)) zz_noth := mX7_findBest σ (.inl x, σ1) hf
theorem mX7_findBest_x {D : va_G} {U : zz_U} {ad : Nat → Nat} {X : va_W} (σ : zz_St) (x : String) (σ1 : zz_St) (hf : fX7_findBest σ = some (.inr x, σ1)) : zz_Met yX7_findBest (.code yX7_findBest cX7_findBest 1 none) 6 1 6 D U [.ref (ad 0)] (zz_wc U ad σ X) zz_none (zz_th x (zz_wc U ad σ1 X)) := mX7_findBest σ (.inr x, σ1) hf
theorem dX7_leastBreakage_0 : decode cX7_leastBreakage 0 = .ok (.aload_n 0, 1) := by decide +kernel
theorem dX7_leastBreakage_1 : decode cX7_leastBreakage 1 = .ok (.invokevirtual 230, 3) := by decide +kernel
theorem dX7_leastBreakage_4 : decode cX7_leastBreakage 4 = .ok (.aload_n 0, 1) := by decide +kernel
theorem dX7_leastBreakage_5 : decode cX7_leastBreakage 5 = .ok (.getfield 54, 3) := by decide +kernel
theorem dX7_leastBreakage_8 : decode cX7_leastBreakage 8 = .ok (.getfield 233, 3) := by decide +kernel
theorem dX7_leastBreakage_11 : decode cX7_leastBreakage 11 = .ok (.ireturn, 1) := by decide +kernel
set_option maxHeartbeats 4000000 in
set_option maxRecDepth 100000 in
theorem mX7_leastBreakage {D : va_G} {U : zz_U} {ad : Nat → Nat} {X : va_W} (σ : zz_St) (r : ((Int32 ⊕ String) × zz_St)) (hf : fX7_leastBreakage σ = some r) : zz_Met yX7_leastBreakage (.code yX7_leastBreakage cX7_leastBreakage 1 (some .int)) 7 1 6 D U [.ref (ad 0)] (zz_wc U ad σ X) (match r.1 with | .inl x => zz_ok (some (.int x)) (zz_wc U ad r.2 X) | .inr _ => zz_none) (match r.1 with | .inl _ => zz_noth | .inr E => zz_th E (zz_wc U ad r.2 X)) := by
  unfold fX7_leastBreakage at hf
  refine zz_method RX7 rfl (by decide +kernel) (Nat.le_of_ble_eq_true rfl) ?_
  intro p l e s m args below meth c A _ C
  refine zz_lvs (lv1 := [(0, .ref (ad 0))]) rfl ?_
  refine zz_aload_n C 0 dX7_leastBreakage_0 rfl rfl ?_
  obtain ⟨⟨x1, σ4⟩, h2, hf⟩ := zz_bind hf
  rcases x1 with x1 | E3
  · try dsimp only at hf
    refine zz_callV1 (As := []) (rest := []) C 0 (mX7_findBest_r σ x1 σ4 h2) dX7_leastBreakage_1 rfl rfl rfl zw_125 zy_X7_findBest rfl (by decide) (by decide) (Nat.le_of_ble_eq_true rfl) (Nat.le_of_ble_eq_true rfl) (Nat.le_of_ble_eq_true rfl) rfl ?_
    refine zz_aload_n C 0 dX7_leastBreakage_4 rfl rfl ?_
    refine zf7_bestOrder C dX7_leastBreakage_5 zw_123 ?_
    refine zf0_least C dX7_leastBreakage_8 zw_124 ?_
    cases hf
    exact zz_iret C dX7_leastBreakage_11 (And.intro rfl rfl) (Nat.le_of_ble_eq_true rfl) (Nat.le_of_ble_eq_true rfl)
  · refine zz_callVx (As := []) (rest := []) C 0 (mX7_findBest_x σ E3 σ4 h2) dX7_leastBreakage_1 rfl rfl rfl zw_125 zy_X7_findBest rfl (by decide) (by decide) (Nat.le_of_ble_eq_true rfl) (Nat.le_of_ble_eq_true rfl) (Nat.le_of_ble_eq_true rfl) ?_
    cases hf
    exact zz_out C (And.intro rfl rfl) (Nat.le_of_ble_eq_true rfl) (Nat.le_of_ble_eq_true rfl)
theorem mX7_leastBreakage_r {D : va_G} {U : zz_U} {ad : Nat → Nat} {X : va_W} (σ : zz_St) (x : Int32) (σ1 : zz_St) (hf : fX7_leastBreakage σ = some (.inl x, σ1)) : zz_Met yX7_leastBreakage (.code yX7_leastBreakage cX7_leastBreakage 1 (some .int)) 7 1 6 D U [.ref (ad 0)] (zz_wc U ad σ X) (zz_ok (some (.int x)) (zz_wc U ad σ1 X)) zz_noth := mX7_leastBreakage σ (.inl x, σ1) hf
theorem mX7_leastBreakage_x {D : va_G} {U : zz_U} {ad : Nat → Nat} {X : va_W} (σ : zz_St) (x : String) (σ1 : zz_St) (hf : fX7_leastBreakage σ = some (.inr x, σ1)) : zz_Met yX7_leastBreakage (.code yX7_leastBreakage cX7_leastBreakage 1 (some .int)) 7 1 6 D U [.ref (ad 0)] (zz_wc U ad σ X) zz_none (zz_th x (zz_wc U ad σ1 X)) := mX7_leastBreakage σ (.inr x, σ1) hf
theorem dX7_best_0 : decode cX7_best 0 = .ok (.aload_n 0, 1) := by decide +kernel
theorem dX7_best_1 : decode cX7_best 1 = .ok (.invokevirtual 230, 3) := by decide +kernel
theorem dX7_best_4 : decode cX7_best 4 = .ok (.iload_n 1, 1) := by decide +kernel
theorem dX7_best_5 : decode cX7_best 5 = .ok (.ifCond .lt 14, 3) := by decide +kernel
theorem dX7_best_8 : decode cX7_best 8 = .ok (.iload_n 1, 1) := by decide +kernel
theorem dX7_best_9 : decode cX7_best 9 = .ok (.aload_n 0, 1) := by decide +kernel
theorem dX7_best_10 : decode cX7_best 10 = .ok (.getfield 54, 3) := by decide +kernel
theorem dX7_best_13 : decode cX7_best 13 = .ok (.getfield 236, 3) := by decide +kernel
theorem dX7_best_16 : decode cX7_best 16 = .ok (.if_icmp .lt 13, 3) := by decide +kernel
theorem dX7_best_19 : decode cX7_best 19 = .ok (.new 102, 3) := by decide +kernel
theorem dX7_best_22 : decode cX7_best 22 = .ok (.dup, 1) := by decide +kernel
theorem dX7_best_23 : decode cX7_best 23 = .ok (.ldc 239, 2) := by decide +kernel
theorem dX7_best_25 : decode cX7_best 25 = .ok (.invokespecial 106, 3) := by decide +kernel
theorem dX7_best_28 : decode cX7_best 28 = .ok (.athrow, 1) := by decide +kernel
theorem dX7_best_29 : decode cX7_best 29 = .ok (.aload_n 0, 1) := by decide +kernel
theorem dX7_best_30 : decode cX7_best 30 = .ok (.getfield 54, 3) := by decide +kernel
theorem dX7_best_33 : decode cX7_best 33 = .ok (.getfield 241, 3) := by decide +kernel
theorem dX7_best_36 : decode cX7_best 36 = .ok (.iload_n 1, 1) := by decide +kernel
theorem dX7_best_37 : decode cX7_best 37 = .ok (.iaload, 1) := by decide +kernel
theorem dX7_best_38 : decode cX7_best 38 = .ok (.ireturn, 1) := by decide +kernel
set_option maxHeartbeats 4000000 in
set_option maxRecDepth 100000 in
theorem mX7_best {D : va_G} {U : zz_U} {ad : Nat → Nat} {X : va_W} (σ : zz_St) (place_ : Int32) (r : ((Int32 ⊕ String) × zz_St)) (hf : fX7_best σ place_ = some r) : zz_Met yX7_best (.code yX7_best cX7_best 2 (some .int)) 7 2 12 D U [.ref (ad 0), .int place_] (zz_wc U ad σ X) (match r.1 with | .inl x => zz_ok (some (.int x)) (zz_wc U ad r.2 X) | .inr _ => zz_none) (match r.1 with | .inl _ => zz_noth | .inr E => zz_th E (zz_wc U ad r.2 X)) := by
  unfold fX7_best at hf
  refine zz_method RX7 rfl (by decide +kernel) (Nat.le_of_ble_eq_true rfl) ?_
  intro p l e s m args below meth c A _ C
  refine zz_lvs (lv1 := [(0, .ref (ad 0)), (1, .int place_)]) rfl ?_
  refine zz_aload_n C 0 dX7_best_0 rfl rfl ?_
  obtain ⟨⟨x1, σ4⟩, h2, hf⟩ := zz_bind hf
  rcases x1 with x1 | E3
  · try dsimp only at hf
    refine zz_callV1 (As := []) (rest := []) C 0 (mX7_findBest_r σ x1 σ4 h2) dX7_best_1 rfl rfl rfl zw_125 zy_X7_findBest rfl (by decide) (by decide) (Nat.le_of_ble_eq_true rfl) (Nat.le_of_ble_eq_true rfl) (Nat.le_of_ble_eq_true rfl) rfl ?_
    obtain ⟨b5, h6, hf⟩ := zz_bind hf
    refine zz_cutI (P := b5 = true) 19 [(0, .ref (ad 0)), (1, .int place_)] [] (zz_wc U ad σ4 X) (fun g9 => ?_) (fun J7 => ?_)
    · rw [if_pos g9] at hf
      cases hf
      exact zz_throwS (cls := "java/lang/IndexOutOfBoundsException") (text := "no such place") C zt_2 (by decide +kernel) dX7_best_19 dX7_best_22 dX7_best_23 dX7_best_25 dX7_best_28 (by decide) (Nat.le_of_ble_eq_true rfl) (Nat.le_of_ble_eq_true rfl) (Nat.le_of_ble_eq_true rfl) (Nat.le_of_ble_eq_true rfl) (Nat.le_of_ble_eq_true rfl) (And.intro rfl rfl)
    refine zz_cutI (P := b5 = false) 29 [(0, .ref (ad 0)), (1, .int place_)] [] (zz_wc U ad σ4 X) (fun g9 => ?_) (fun J8 => ?_)
    · rw [if_neg (show ¬ b5 = true by rw [g9]; decide)] at hf
      refine zz_aload_n C 0 dX7_best_29 rfl rfl ?_
      refine zf7_bestOrder C dX7_best_30 zw_123 ?_
      refine zf0_order C dX7_best_33 zw_127 ?_
      refine zz_iload_n C 1 dX7_best_36 rfl rfl ?_
      obtain ⟨x12, h13, hf⟩ := zz_bind hf
      refine zl_45 C dX7_best_37 h13 ?_
      cases hf
      exact zz_iret C dX7_best_38 (And.intro rfl rfl) (Nat.le_of_ble_eq_true rfl) (Nat.le_of_ble_eq_true rfl)
    refine zz_iload_n C 1 dX7_best_4 rfl rfl ?_
    refine zz_if_lt (tgt := 19) C dX7_best_5 (by decide) (fun g10 => ?_) (fun g10 => ?_)
    · rw [if_pos g10] at h6
      cases h6
      exact J7 rfl
    · rw [if_neg g10] at h6
      refine zz_iload_n C 1 dX7_best_8 rfl rfl ?_
      refine zz_aload_n C 0 dX7_best_9 rfl rfl ?_
      refine zf7_bestOrder C dX7_best_10 zw_123 ?_
      refine zf0_length C dX7_best_13 zw_126 ?_
      refine zz_icmp_lt (tgt := 29) C dX7_best_16 (by decide) (fun g11 => ?_) (fun g11 => ?_)
      · rw [if_pos g11] at h6
        cases h6
        exact J8 rfl
      · rw [if_neg g11] at h6
        cases h6
        exact J7 rfl
  · refine zz_callVx (As := []) (rest := []) C 0 (mX7_findBest_x σ E3 σ4 h2) dX7_best_1 rfl rfl rfl zw_125 zy_X7_findBest rfl (by decide) (by decide) (Nat.le_of_ble_eq_true rfl) (Nat.le_of_ble_eq_true rfl) (Nat.le_of_ble_eq_true rfl) ?_
    cases hf
    exact zz_out C (And.intro rfl rfl) (Nat.le_of_ble_eq_true rfl) (Nat.le_of_ble_eq_true rfl)
theorem mX7_best_r {D : va_G} {U : zz_U} {ad : Nat → Nat} {X : va_W} (σ : zz_St) (place_ : Int32) (x : Int32) (σ1 : zz_St) (hf : fX7_best σ place_ = some (.inl x, σ1)) : zz_Met yX7_best (.code yX7_best cX7_best 2 (some .int)) 7 2 12 D U [.ref (ad 0), .int place_] (zz_wc U ad σ X) (zz_ok (some (.int x)) (zz_wc U ad σ1 X)) zz_noth := mX7_best σ place_ (.inl x, σ1) hf
theorem mX7_best_x {D : va_G} {U : zz_U} {ad : Nat → Nat} {X : va_W} (σ : zz_St) (place_ : Int32) (x : String) (σ1 : zz_St) (hf : fX7_best σ place_ = some (.inr x, σ1)) : zz_Met yX7_best (.code yX7_best cX7_best 2 (some .int)) 7 2 12 D U [.ref (ad 0), .int place_] (zz_wc U ad σ X) zz_none (zz_th x (zz_wc U ad σ1 X)) := mX7_best σ place_ (.inr x, σ1) hf
theorem dJ6_numberOfTrailingZeros_0f7a4_0 : decode cJ6_numberOfTrailingZeros_0f7a4 0 = .ok (.iload_n 0, 1) := by decide +kernel
theorem dJ6_numberOfTrailingZeros_0f7a4_1 : decode cJ6_numberOfTrailingZeros_0f7a4 1 = .ok (.iconst (-1), 1) := by decide +kernel
theorem dJ6_numberOfTrailingZeros_0f7a4_2 : decode cJ6_numberOfTrailingZeros_0f7a4 2 = .ok (.ixor, 1) := by decide +kernel
theorem dJ6_numberOfTrailingZeros_0f7a4_3 : decode cJ6_numberOfTrailingZeros_0f7a4 3 = .ok (.iload_n 0, 1) := by decide +kernel
theorem dJ6_numberOfTrailingZeros_0f7a4_4 : decode cJ6_numberOfTrailingZeros_0f7a4 4 = .ok (.iconst 1, 1) := by decide +kernel
theorem dJ6_numberOfTrailingZeros_0f7a4_5 : decode cJ6_numberOfTrailingZeros_0f7a4 5 = .ok (.isub, 1) := by decide +kernel
theorem dJ6_numberOfTrailingZeros_0f7a4_6 : decode cJ6_numberOfTrailingZeros_0f7a4 6 = .ok (.iand, 1) := by decide +kernel
theorem dJ6_numberOfTrailingZeros_0f7a4_7 : decode cJ6_numberOfTrailingZeros_0f7a4 7 = .ok (.istore_n 0, 1) := by decide +kernel
theorem dJ6_numberOfTrailingZeros_0f7a4_8 : decode cJ6_numberOfTrailingZeros_0f7a4 8 = .ok (.iload_n 0, 1) := by decide +kernel
theorem dJ6_numberOfTrailingZeros_0f7a4_9 : decode cJ6_numberOfTrailingZeros_0f7a4 9 = .ok (.ifCond .gt 8, 3) := by decide +kernel
theorem dJ6_numberOfTrailingZeros_0f7a4_12 : decode cJ6_numberOfTrailingZeros_0f7a4 12 = .ok (.iload_n 0, 1) := by decide +kernel
theorem dJ6_numberOfTrailingZeros_0f7a4_13 : decode cJ6_numberOfTrailingZeros_0f7a4 13 = .ok (.bipush 32, 2) := by decide +kernel
theorem dJ6_numberOfTrailingZeros_0f7a4_15 : decode cJ6_numberOfTrailingZeros_0f7a4 15 = .ok (.iand, 1) := by decide +kernel
theorem dJ6_numberOfTrailingZeros_0f7a4_16 : decode cJ6_numberOfTrailingZeros_0f7a4 16 = .ok (.ireturn, 1) := by decide +kernel
theorem dJ6_numberOfTrailingZeros_0f7a4_17 : decode cJ6_numberOfTrailingZeros_0f7a4 17 = .ok (.iconst 1, 1) := by decide +kernel
theorem dJ6_numberOfTrailingZeros_0f7a4_18 : decode cJ6_numberOfTrailingZeros_0f7a4 18 = .ok (.istore_n 1, 1) := by decide +kernel
theorem dJ6_numberOfTrailingZeros_0f7a4_19 : decode cJ6_numberOfTrailingZeros_0f7a4 19 = .ok (.iload_n 0, 1) := by decide +kernel
theorem dJ6_numberOfTrailingZeros_0f7a4_20 : decode cJ6_numberOfTrailingZeros_0f7a4 20 = .ok (.ldc_w 264, 3) := by decide +kernel
theorem dJ6_numberOfTrailingZeros_0f7a4_23 : decode cJ6_numberOfTrailingZeros_0f7a4 23 = .ok (.if_icmp .le 11, 3) := by decide +kernel
theorem dJ6_numberOfTrailingZeros_0f7a4_26 : decode cJ6_numberOfTrailingZeros_0f7a4 26 = .ok (.iinc 1 16, 3) := by decide +kernel
theorem dJ6_numberOfTrailingZeros_0f7a4_29 : decode cJ6_numberOfTrailingZeros_0f7a4 29 = .ok (.iload_n 0, 1) := by decide +kernel
theorem dJ6_numberOfTrailingZeros_0f7a4_30 : decode cJ6_numberOfTrailingZeros_0f7a4 30 = .ok (.bipush 16, 2) := by decide +kernel
theorem dJ6_numberOfTrailingZeros_0f7a4_32 : decode cJ6_numberOfTrailingZeros_0f7a4 32 = .ok (.iushr, 1) := by decide +kernel
theorem dJ6_numberOfTrailingZeros_0f7a4_33 : decode cJ6_numberOfTrailingZeros_0f7a4 33 = .ok (.istore_n 0, 1) := by decide +kernel
theorem dJ6_numberOfTrailingZeros_0f7a4_34 : decode cJ6_numberOfTrailingZeros_0f7a4 34 = .ok (.iload_n 0, 1) := by decide +kernel
theorem dJ6_numberOfTrailingZeros_0f7a4_35 : decode cJ6_numberOfTrailingZeros_0f7a4 35 = .ok (.sipush 256, 3) := by decide +kernel
theorem dJ6_numberOfTrailingZeros_0f7a4_38 : decode cJ6_numberOfTrailingZeros_0f7a4 38 = .ok (.if_icmp .le 11, 3) := by decide +kernel
theorem dJ6_numberOfTrailingZeros_0f7a4_41 : decode cJ6_numberOfTrailingZeros_0f7a4 41 = .ok (.iinc 1 8, 3) := by decide +kernel
theorem dJ6_numberOfTrailingZeros_0f7a4_44 : decode cJ6_numberOfTrailingZeros_0f7a4 44 = .ok (.iload_n 0, 1) := by decide +kernel
theorem dJ6_numberOfTrailingZeros_0f7a4_45 : decode cJ6_numberOfTrailingZeros_0f7a4 45 = .ok (.bipush 8, 2) := by decide +kernel
theorem dJ6_numberOfTrailingZeros_0f7a4_47 : decode cJ6_numberOfTrailingZeros_0f7a4 47 = .ok (.iushr, 1) := by decide +kernel
theorem dJ6_numberOfTrailingZeros_0f7a4_48 : decode cJ6_numberOfTrailingZeros_0f7a4 48 = .ok (.istore_n 0, 1) := by decide +kernel
theorem dJ6_numberOfTrailingZeros_0f7a4_49 : decode cJ6_numberOfTrailingZeros_0f7a4 49 = .ok (.iload_n 0, 1) := by decide +kernel
theorem dJ6_numberOfTrailingZeros_0f7a4_50 : decode cJ6_numberOfTrailingZeros_0f7a4 50 = .ok (.bipush 16, 2) := by decide +kernel
theorem dJ6_numberOfTrailingZeros_0f7a4_52 : decode cJ6_numberOfTrailingZeros_0f7a4 52 = .ok (.if_icmp .le 10, 3) := by decide +kernel
theorem dJ6_numberOfTrailingZeros_0f7a4_55 : decode cJ6_numberOfTrailingZeros_0f7a4 55 = .ok (.iinc 1 4, 3) := by decide +kernel
theorem dJ6_numberOfTrailingZeros_0f7a4_58 : decode cJ6_numberOfTrailingZeros_0f7a4 58 = .ok (.iload_n 0, 1) := by decide +kernel
theorem dJ6_numberOfTrailingZeros_0f7a4_59 : decode cJ6_numberOfTrailingZeros_0f7a4 59 = .ok (.iconst 4, 1) := by decide +kernel
theorem dJ6_numberOfTrailingZeros_0f7a4_60 : decode cJ6_numberOfTrailingZeros_0f7a4 60 = .ok (.iushr, 1) := by decide +kernel
theorem dJ6_numberOfTrailingZeros_0f7a4_61 : decode cJ6_numberOfTrailingZeros_0f7a4 61 = .ok (.istore_n 0, 1) := by decide +kernel
theorem dJ6_numberOfTrailingZeros_0f7a4_62 : decode cJ6_numberOfTrailingZeros_0f7a4 62 = .ok (.iload_n 0, 1) := by decide +kernel
theorem dJ6_numberOfTrailingZeros_0f7a4_63 : decode cJ6_numberOfTrailingZeros_0f7a4 63 = .ok (.iconst 4, 1) := by decide +kernel
theorem dJ6_numberOfTrailingZeros_0f7a4_64 : decode cJ6_numberOfTrailingZeros_0f7a4 64 = .ok (.if_icmp .le 10, 3) := by decide +kernel
theorem dJ6_numberOfTrailingZeros_0f7a4_67 : decode cJ6_numberOfTrailingZeros_0f7a4 67 = .ok (.iinc 1 2, 3) := by decide +kernel
theorem dJ6_numberOfTrailingZeros_0f7a4_70 : decode cJ6_numberOfTrailingZeros_0f7a4 70 = .ok (.iload_n 0, 1) := by decide +kernel
theorem dJ6_numberOfTrailingZeros_0f7a4_71 : decode cJ6_numberOfTrailingZeros_0f7a4 71 = .ok (.iconst 2, 1) := by decide +kernel
theorem dJ6_numberOfTrailingZeros_0f7a4_72 : decode cJ6_numberOfTrailingZeros_0f7a4 72 = .ok (.iushr, 1) := by decide +kernel
theorem dJ6_numberOfTrailingZeros_0f7a4_73 : decode cJ6_numberOfTrailingZeros_0f7a4 73 = .ok (.istore_n 0, 1) := by decide +kernel
theorem dJ6_numberOfTrailingZeros_0f7a4_74 : decode cJ6_numberOfTrailingZeros_0f7a4 74 = .ok (.iload_n 1, 1) := by decide +kernel
theorem dJ6_numberOfTrailingZeros_0f7a4_75 : decode cJ6_numberOfTrailingZeros_0f7a4 75 = .ok (.iload_n 0, 1) := by decide +kernel
theorem dJ6_numberOfTrailingZeros_0f7a4_76 : decode cJ6_numberOfTrailingZeros_0f7a4 76 = .ok (.iconst 1, 1) := by decide +kernel
theorem dJ6_numberOfTrailingZeros_0f7a4_77 : decode cJ6_numberOfTrailingZeros_0f7a4 77 = .ok (.iushr, 1) := by decide +kernel
theorem dJ6_numberOfTrailingZeros_0f7a4_78 : decode cJ6_numberOfTrailingZeros_0f7a4 78 = .ok (.iadd, 1) := by decide +kernel
theorem dJ6_numberOfTrailingZeros_0f7a4_79 : decode cJ6_numberOfTrailingZeros_0f7a4 79 = .ok (.ireturn, 1) := by decide +kernel
set_option maxHeartbeats 4000000 in
set_option maxRecDepth 100000 in
theorem mJ6_numberOfTrailingZeros {D : va_G} {U : zz_U} {ws : va_W} (i_ : Int32) (r : Int32) (hf : fJ6_numberOfTrailingZeros i_ = some r) : zz_Met yJ6_numberOfTrailingZeros_0f7a4 (.code yJ6_numberOfTrailingZeros_0f7a4 cJ6_numberOfTrailingZeros_0f7a4 2 (some .int)) 0 0 0 D U [.int i_] ws (zz_ok (some (.int r)) ws) zz_noth := by
  unfold fJ6_numberOfTrailingZeros at hf
  refine zz_method RJ6 rfl (by decide +kernel) (Nat.le_of_ble_eq_true rfl) ?_
  intro p l e s m args below meth c A _ C
  refine zz_lvs (lv1 := [(0, .int i_)]) rfl ?_
  refine zz_iload_n C 0 dJ6_numberOfTrailingZeros_0f7a4_0 rfl rfl ?_
  refine zz_iconst (v := (-1 : Int32)) C dJ6_numberOfTrailingZeros_0f7a4_1 (by decide) ?_
  refine zz_ixor C dJ6_numberOfTrailingZeros_0f7a4_2 ?_
  refine zz_iload_n C 0 dJ6_numberOfTrailingZeros_0f7a4_3 rfl rfl ?_
  refine zz_iconst (v := (1 : Int32)) C dJ6_numberOfTrailingZeros_0f7a4_4 (by decide) ?_
  refine zz_isub C dJ6_numberOfTrailingZeros_0f7a4_5 ?_
  refine zz_iand C dJ6_numberOfTrailingZeros_0f7a4_6 ?_
  obtain ⟨x1, h2, hf⟩ := zz_bind hf
  refine zz_topi (Option.some.inj h2) ?_
  refine zz_istore_n C dJ6_numberOfTrailingZeros_0f7a4_7 rfl (by decide) (lv' := [(0, .int x1)]) rfl ?_
  refine zz_iload_n C 0 dJ6_numberOfTrailingZeros_0f7a4_8 rfl rfl ?_
  refine zz_if_gt (tgt := 17) C dJ6_numberOfTrailingZeros_0f7a4_9 (by decide) (fun g3 => ?_) (fun g3 => ?_)
  · rw [if_pos g3] at hf
    refine zz_iconst (v := (1 : Int32)) C dJ6_numberOfTrailingZeros_0f7a4_17 (by decide) ?_
    refine zz_istore_n C dJ6_numberOfTrailingZeros_0f7a4_18 rfl (by decide) (lv' := [(1, .int (1 : Int32)), (0, .int x1)]) rfl ?_
    obtain ⟨x4, h5, hf⟩ := zz_bind hf
    refine zz_cut 34 [(0, .int x4.1), (1, .int x4.2)] [] ws ?_ (fun J6 => ?_)
    · obtain ⟨x10, h11, hf⟩ := zz_bind hf
      refine zz_cut 49 [(0, .int x10.1), (1, .int x10.2)] [] ws ?_ (fun J12 => ?_)
      · obtain ⟨x16, h17, hf⟩ := zz_bind hf
        refine zz_cut 62 [(0, .int x16.1), (1, .int x16.2)] [] ws ?_ (fun J18 => ?_)
        · obtain ⟨x22, h23, hf⟩ := zz_bind hf
          refine zz_cut 74 [(0, .int x22.1), (1, .int x22.2)] [] ws ?_ (fun J24 => ?_)
          · refine zz_iload_n C 1 dJ6_numberOfTrailingZeros_0f7a4_74 rfl rfl ?_
            refine zz_iload_n C 0 dJ6_numberOfTrailingZeros_0f7a4_75 rfl rfl ?_
            refine zz_iconst (v := (1 : Int32)) C dJ6_numberOfTrailingZeros_0f7a4_76 (by decide) ?_
            refine zz_iushr C dJ6_numberOfTrailingZeros_0f7a4_77 ?_
            refine zz_iadd C dJ6_numberOfTrailingZeros_0f7a4_78 ?_
            cases hf
            exact zz_iret C dJ6_numberOfTrailingZeros_0f7a4_79 (And.intro rfl rfl) (Nat.le_of_ble_eq_true rfl) (Nat.le_of_ble_eq_true rfl)
          refine zz_iload_n C 0 dJ6_numberOfTrailingZeros_0f7a4_62 rfl rfl ?_
          refine zz_iconst (v := (4 : Int32)) C dJ6_numberOfTrailingZeros_0f7a4_63 (by decide) ?_
          refine zz_icmp_le (tgt := 74) C dJ6_numberOfTrailingZeros_0f7a4_64 (by decide) (fun g25 => ?_) (fun g25 => ?_)
          · rw [if_pos g25] at h23
            cases h23
            exact J24
          · rw [if_neg g25] at h23
            refine zz_iinc (v := (x16.2 + (2 : Int32))) C 1 dJ6_numberOfTrailingZeros_0f7a4_67 rfl (by rfl) (by decide) (lv' := [(1, .int (x16.2 + (2 : Int32))), (0, .int x16.1)]) rfl ?_
            refine zz_iload_n C 1 dJ6_numberOfTrailingZeros_0f7a4_70 rfl rfl ?_
            refine zz_iconst (v := (2 : Int32)) C dJ6_numberOfTrailingZeros_0f7a4_71 (by decide) ?_
            refine zz_iushr C dJ6_numberOfTrailingZeros_0f7a4_72 ?_
            obtain ⟨x26, h27, h23⟩ := zz_bind h23
            refine zz_topi (Option.some.inj h27) ?_
            refine zz_istore_n C dJ6_numberOfTrailingZeros_0f7a4_73 rfl (by decide) (lv' := [(0, .int x26), (1, .int (x16.2 + (2 : Int32)))]) rfl ?_
            cases h23
            exact J24
        refine zz_iload_n C 0 dJ6_numberOfTrailingZeros_0f7a4_49 rfl rfl ?_
        refine zz_bipush (v := (16 : Int32)) C dJ6_numberOfTrailingZeros_0f7a4_50 (by decide) ?_
        refine zz_icmp_le (tgt := 62) C dJ6_numberOfTrailingZeros_0f7a4_52 (by decide) (fun g19 => ?_) (fun g19 => ?_)
        · rw [if_pos g19] at h17
          cases h17
          exact J18
        · rw [if_neg g19] at h17
          refine zz_iinc (v := (x10.2 + (4 : Int32))) C 1 dJ6_numberOfTrailingZeros_0f7a4_55 rfl (by rfl) (by decide) (lv' := [(1, .int (x10.2 + (4 : Int32))), (0, .int x10.1)]) rfl ?_
          refine zz_iload_n C 1 dJ6_numberOfTrailingZeros_0f7a4_58 rfl rfl ?_
          refine zz_iconst (v := (4 : Int32)) C dJ6_numberOfTrailingZeros_0f7a4_59 (by decide) ?_
          refine zz_iushr C dJ6_numberOfTrailingZeros_0f7a4_60 ?_
          obtain ⟨x20, h21, h17⟩ := zz_bind h17
          refine zz_topi (Option.some.inj h21) ?_
          refine zz_istore_n C dJ6_numberOfTrailingZeros_0f7a4_61 rfl (by decide) (lv' := [(0, .int x20), (1, .int (x10.2 + (4 : Int32)))]) rfl ?_
          cases h17
          exact J18
      refine zz_iload_n C 0 dJ6_numberOfTrailingZeros_0f7a4_34 rfl rfl ?_
      refine zz_sipush (v := (256 : Int32)) C dJ6_numberOfTrailingZeros_0f7a4_35 (by decide) ?_
      refine zz_icmp_le (tgt := 49) C dJ6_numberOfTrailingZeros_0f7a4_38 (by decide) (fun g13 => ?_) (fun g13 => ?_)
      · rw [if_pos g13] at h11
        cases h11
        exact J12
      · rw [if_neg g13] at h11
        refine zz_iinc (v := (x4.2 + (8 : Int32))) C 1 dJ6_numberOfTrailingZeros_0f7a4_41 rfl (by rfl) (by decide) (lv' := [(1, .int (x4.2 + (8 : Int32))), (0, .int x4.1)]) rfl ?_
        refine zz_iload_n C 1 dJ6_numberOfTrailingZeros_0f7a4_44 rfl rfl ?_
        refine zz_bipush (v := (8 : Int32)) C dJ6_numberOfTrailingZeros_0f7a4_45 (by decide) ?_
        refine zz_iushr C dJ6_numberOfTrailingZeros_0f7a4_47 ?_
        obtain ⟨x14, h15, h11⟩ := zz_bind h11
        refine zz_topi (Option.some.inj h15) ?_
        refine zz_istore_n C dJ6_numberOfTrailingZeros_0f7a4_48 rfl (by decide) (lv' := [(0, .int x14), (1, .int (x4.2 + (8 : Int32)))]) rfl ?_
        cases h11
        exact J12
    refine zz_iload_n C 1 dJ6_numberOfTrailingZeros_0f7a4_19 rfl rfl ?_
    refine zz_ldcw (v := (65536 : Int32)) C dJ6_numberOfTrailingZeros_0f7a4_20 zw_128 ?_
    refine zz_icmp_le (tgt := 34) C dJ6_numberOfTrailingZeros_0f7a4_23 (by decide) (fun g7 => ?_) (fun g7 => ?_)
    · rw [if_pos g7] at h5
      refine zz_sub [1, 0] rfl ?_
      cases h5
      exact J6
    · rw [if_neg g7] at h5
      refine zz_iinc (v := ((1 : Int32) + (16 : Int32))) C 0 dJ6_numberOfTrailingZeros_0f7a4_26 rfl (by rfl) (by decide) (lv' := [(1, .int ((1 : Int32) + (16 : Int32))), (0, .int x1)]) rfl ?_
      refine zz_iload_n C 1 dJ6_numberOfTrailingZeros_0f7a4_29 rfl rfl ?_
      refine zz_bipush (v := (16 : Int32)) C dJ6_numberOfTrailingZeros_0f7a4_30 (by decide) ?_
      refine zz_iushr C dJ6_numberOfTrailingZeros_0f7a4_32 ?_
      obtain ⟨x8, h9, h5⟩ := zz_bind h5
      refine zz_topi (Option.some.inj h9) ?_
      refine zz_istore_n C dJ6_numberOfTrailingZeros_0f7a4_33 rfl (by decide) (lv' := [(0, .int x8), (1, .int ((1 : Int32) + (16 : Int32)))]) rfl ?_
      cases h5
      exact J6
  · rw [if_neg g3] at hf
    refine zz_iload_n C 0 dJ6_numberOfTrailingZeros_0f7a4_12 rfl rfl ?_
    refine zz_bipush (v := (32 : Int32)) C dJ6_numberOfTrailingZeros_0f7a4_13 (by decide) ?_
    refine zz_iand C dJ6_numberOfTrailingZeros_0f7a4_15 ?_
    cases hf
    exact zz_iret C dJ6_numberOfTrailingZeros_0f7a4_16 (And.intro rfl rfl) (Nat.le_of_ble_eq_true rfl) (Nat.le_of_ble_eq_true rfl)
end
