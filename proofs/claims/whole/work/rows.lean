section
/-! ===== BEGIN words of one list among another's, by their places ===== -/
theorem goodIn_r {big : List Cond} (ws : List Cond) (ps : List Nat) (hp : ws = ps.filterMap (fun i => big[i]?)) (h : ws.all goodWord = true) : GoodIn big ws := by
  intro w hw
  have h1 := List.all_eq_true.mp h w hw
  rw [hp] at hw
  obtain ⟨i, -, hi⟩ := List.mem_filterMap.mp hw
  have hm : w ∈ big := by first | exact List.mem_of_getElem? hi | exact List.getElem?_mem hi
  exact ⟨hm, good_of_word h1⟩
theorem goodIn_app {big a b : List Cond} (ha : GoodIn big a) (hb : GoodIn big b) : GoodIn big (a ++ b) := fun w h => (List.mem_append.mp h).elim (ha w) (hb w)
theorem goodIn_ca {big a b : List Cond} {c : Cond} (ha : GoodIn big (c :: a)) (hb : GoodIn big b) : GoodIn big (c :: (a ++ b)) := fun w h => (List.mem_cons.mp h).elim (fun e => ha w (List.mem_cons.mpr (Or.inl e))) (fun h => (List.mem_append.mp h).elim (fun h => ha w (List.mem_cons.mpr (Or.inr h))) (hb w))
theorem goodIn_sub {big ws : List Cond} (hm : ∀ w ∈ ws, w ∈ big) (h : ws.all goodWord = true) : GoodIn big ws := fun w hw => ⟨hm w hw, good_of_word (List.all_eq_true.mp h w hw)⟩
/-! ===== END ===== -/

/-! ===== BEGIN new T[n][m]: the outer array a place, the inner ones among the pooled ===== -/
/-- f, but v at every address of l -/
def vr_up {α : Type} (f : Nat → α) (l : List Nat) (v : α) : Nat → α := fun a => if a ∈ l then v else f a
theorem vr_up_in {α : Type} {f : Nat → α} {l : List Nat} {v : α} {a : Nat} (h : a ∈ l) : vr_up f l v a = v := if_pos h
theorem vr_up_ne {α : Type} {f : Nat → α} {l : List Nat} {v : α} {a : Nat} (h : a ∉ l) : vr_up f l v a = f a := if_neg h
theorem vr_rows {L l : List Nat} {f : Nat → va_E} {e : va_E} (h : ∀ a, a ∈ l → a ∉ L) : va_pl L f ++ l.map (fun a => (a, e)) = va_pl (L ++ l) (vr_up f l e) := by
  unfold va_pl
  rw [List.map_append]
  congr 1
  · apply List.map_congr_left
    intro a ha
    rw [vr_up_ne (fun q => h a q ha)]
  · apply List.map_congr_left
    intro a ha
    rw [vr_up_in ha]
theorem vr_lay {X rows : va_W} {x : Nat × va_E} {pl : va_W} {D : va_G} {cl : List vw_C} {H : Heap} (hP : va_P D cl (((X ++ pl) ++ [x]) ++ rows) H) : va_P D cl ((X ++ [x]) ++ (pl ++ rows)) H := by
  rw [List.append_assoc (X ++ pl)] at hP
  have h := va_P.swap hP
  rw [← List.append_assoc X] at h
  have h2 := va_P.swap h
  rw [List.append_assoc (X ++ [x])] at h2
  exact h2
theorem vr_layD {X rows : va_W} {x : Nat × va_E} {pl : va_W} {A : Nat → Prop} (hD : va_D A (((X ++ pl) ++ [x]) ++ rows)) : va_D A ((X ++ [x]) ++ (pl ++ rows)) := by
  rw [List.append_assoc (X ++ pl)] at hD
  have h := va_D.swap hD
  rw [← List.append_assoc X] at h
  have h2 := va_D.swap h
  rw [List.append_assoc (X ++ [x])] at h2
  exact h2
theorem vr_outer (c : ClassId) (N h0 : Nat) : ∀ i : Nat, Jvm.Free.Multi.outerC c N h0 i = arrV c N (fun j => va_rf (if j < i then some (h0 + 1 + j) else none))
  | 0 => by
    show ({ cls := c, slots := Array.replicate N .null, vm := .none } : Cell) = _
    rw [arrV_new]
    refine congrArg (arrV c N) (funext fun j => ?_)
    simp [va_rf]
  | i + 1 => by
    show (Jvm.Free.Multi.outerC c N h0 i).setSlot i (.ref (h0 + 1 + i)) = _
    rw [vr_outer c N h0 i, arrV_store]
    refine congrArg (arrV c N) (funext fun j => ?_)
    by_cases e : j = i
    · subst e
      simp [updV, va_rf]
    · by_cases h : j < i
      · simp [updV, e, h, Nat.lt_succ_of_lt h]
      · simp [updV, e, h, show ¬ j < i + 1 by omega]
/-- (the printed names lack these three) -/
def va_AOA (ty : FieldType) (U : State) : Prop := (Cond.arrayOver (.array ty)).before #[] U = true
theorem va_AOA.of {ty : FieldType} {A : Array Value} {U : State} (h : (Cond.arrayOver (.array ty)).before A U = true) : va_AOA ty U := h
theorem va_AOA.use {ty : FieldType} {A : Array Value} {U : State} (h : va_AOA ty U) : (Cond.arrayOver (.array ty)).before A U = true := h
/-- (follows Words31c.lean, arrayOver_spec, and va_AO.moved of the kit) -/
theorem va_AOA.spec {u : State} (h : va_AOA .int u) : ∃ comp c k, u.vm.findClass (FieldType.array .int).toString = some comp ∧ (u.vm.classes.findIdx? fun x => match x.kind with | .array component _ => component == comp | _ => false) = some c ∧ u.vm.classes[c]? = some k ∧ k.kind = .array comp (.array .int) ∧ u.vm.findClass ("[" ++ (FieldType.array .int).toString) = some c := by
  unfold va_AOA Cond.before at h
  simp only [Cond.holds, Cond.value, beq_iff_eq] at h
  cases hc : u.vm.findClass (FieldType.array .int).toString with
  | none => simp [hc] at h
  | some comp =>
    simp only [hc, Option.bind_some, Option.bind_eq_some_iff, Option.map_eq_some_iff] at h
    obtain ⟨c, hi, k, hk, hb⟩ := h
    obtain ⟨hlt, hp, -⟩ := Array.findIdx?_eq_some_iff_getElem.mp hi
    have hkk : u.vm.classes[c] = k := (Array.getElem?_eq_some_iff.mp hk).2
    rw [hkk] at hp
    cases hkind : k.kind with
    | array component ty =>
      rw [hkind] at hb hp
      simp at hb hp
      exact ⟨comp, c, k, rfl, hi, hk, by rw [hkind, hp, hb.1], hb.2⟩
    | _ => rw [hkind] at hb; simp at hb
theorem va_AOA.moved {u U : State} (hvm : u.vm.Alike U.vm) (h : va_AOA .int u) : va_AOA .int U := by
  obtain ⟨comp, c, k, h1, h2, h3, h4, h5⟩ := va_AOA.spec h
  obtain ⟨k', hk', he⟩ := hvm.2.2 _ _ h3
  have hi : (U.vm.classes.findIdx? fun (x : Class) => match x.kind with | .array component _ => component == comp | _ => false) = some c := by
    refine Eq.trans (va_idx_bare U.vm comp).symm ?_
    have e : U.vm.bare = u.vm.bare := hvm.bare_eq
    rw [e]
    exact (va_idx_bare u.vm comp).trans h2
  have hkind : k'.kind = .array comp (.array .int) := by rw [he]; exact h4
  have f1 : U.vm.findClass (FieldType.array .int).toString = some comp := by rw [hvm.findClass]; exact h1
  have f2 : U.vm.findClass ("[" ++ (FieldType.array .int).toString) = some c := by rw [hvm.findClass]; exact h5
  unfold va_AOA Cond.before Cond.holds
  simp only [Cond.value]
  rw [f1, Option.bind_some]
  refine (congrArg (fun o : Option Nat => (o.bind (fun c => (U.vm.classes[c]?).map fun (k : Class) => match k.kind with | .array _ ty => decide (ty = FieldType.array .int) && decide (U.vm.findClass ("[" ++ (FieldType.array .int).toString) = some c) | _ => false) == some true)) hi).trans ?_
  simp [hk', hkind, f2]
section VGM
variable {p : Program} {l : Launch} {e : Env} {R : Room} {s : State} {m : MethodId} {args : Array Value} {below : List Frame} {meth : Method} {c : Code} {H : Heap} {locs : List Loc} {cells slots : Nat} {Q : State → Prop}
variable {cc : ByteArray} {pc : Nat} {ls : Array Slot} {rest : List Value} {D : va_G} {cl : List vw_C} {A : Nat → Prop} {a : Nat} {tys : List (ClassId × FieldType)} {ws : va_W} {H0 : Heap}
theorem va_mna {X : va_W} {L : List Nat} {f : Nat → va_E} {cc : ByteArray} (hexec : p.tables.exec = Jvm.exec) (hb : c.code = cc) {own : String} {index : Nat} {ty : FieldType} {cy : ClassId} (hown : s.vm.findClass own = some m.cls) (hclink : (Cond.classLink own index ("[" ++ (FieldType.array ty).toString)).before args s = true) (hover : va_AOA ty s) (harr : (Cond.arrayClass ty).before args s = true) (hcy : s.vm.findClass (FieldType.array ty).toString = some cy)
    (hK : va_K D cl tys s) (hP : va_P D cl (X ++ va_pl L f) H) (hD : va_D A (X ++ va_pl L f)) (hS : va_S A H0 H locs) (hA : ∀ q, H0.size ≤ q → A q) {n k : Int32} {N' K' : Nat} {z : vp_A} (hn : ¬ n < 0) (hk : ¬ k < 0) (hN : n.toNatClampNeg = N') (hM : k.toNatClampNeg = K')
    (hb1 : N' * 4 ≤ 536870912) (hb2 : K' * componentBytes ty ≤ 536870912) (hb3 : K' ≤ 536870912) (hdf : fits ty (defaultValue ty) = true) (hdd : (defaultValue ty).isDefault = true) (hcells : cells + (1 + N') ≤ R.cells) (hslots : slots + (N' + N' * K') ≤ R.slots) (hz : ∀ c : ClassId, Jvm.Free.Multi.innerC c K' (defaultValue ty) = vp_cell c z) (hdg : decode cc pc = .ok (.multianewarray index 2, 4))
    (kk : ∀ (q : Nat) (r : Nat → Nat) (cA : ClassId) (H1 : Heap), (∀ i j : Nat, i < N' → j < N' → r i = r j → i = j) → (∀ i : Nat, i < N' → r i ∉ L) → va_K D cl (tys ++ [(cA, .array ty)]) s →
      va_P D cl ((X ++ [(q, .inl (cA, N', .inr (.inr (.inr (.inr (fun i => if i < N' then some (r i) else none))))))]) ++ va_pl (L ++ (List.range N').map r) (vr_up f ((List.range N').map r) (.inl (cy, z)))) H1 → va_D A ((X ++ [(q, .inl (cA, N', .inr (.inr (.inr (.inr (fun i => if i < N' then some (r i) else none))))))]) ++ va_pl (L ++ (List.range N').map r) (vr_up f ((List.range N').map r) (.inl (cy, z)))) → va_S A H0 H1 locs →
      W p l e R s m args below meth c H1 locs (cells + 1 + N') (slots + N' + N' * K') Q (F0 m (pc + 4) ls (.ref q :: rest))) : W p l e R s m args below meth c H locs cells slots Q (F0 m pc ls (.int k :: .int n :: rest)) := by
  subst hN
  subst hM
  intro T hT Xs
  obtain ⟨vm₁, cA, comp, -, fA, fC, hO, -, X', step⟩ := Xs.multianewarray2F hexec hown hclink (va_AOA.use hover) harr (g := F0 m pc ls (.int k :: .int n :: rest)) rfl (by rw [hb]; exact hdg) rfl hn hk hb1 hb2 hb3 hdf hdd hcells hslots
  have ec : some cy = some comp := hcy.symm.trans fC
  cases ec
  generalize hF : Jvm.Free.Multi.fill (T.setVm vm₁) cA cy n.toNatClampNeg k.toNatClampNeg (defaultValue ty) n.toNatClampNeg = F at X' step
  have hTh : (T.setVm vm₁).heap = H := hT
  obtain ⟨f1, f2, -, -⟩ := Jvm.Free.Multi.fill_facts (T.setVm vm₁) cA cy n.toNatClampNeg k.toNatClampNeg (defaultValue ty) n.toNatClampNeg
  rw [hF, hTh] at f1 f2
  have hold : ∀ x : Nat, x < H.size → F.heap[x]? = H[x]? := fun x hx => by
    have := Jvm.Free.Multi.fill_old (T.setVm vm₁) cA cy n.toNatClampNeg k.toNatClampNeg (defaultValue ty) (a := x) (by rw [hTh]; exact hx) n.toNatClampNeg
    rw [hF, hTh] at this
    exact this
  have hrow : ∀ j : Nat, j < n.toNatClampNeg → F.heap[H.size + 1 + j]? = some (vp_cell cy z) := fun j hj => by
    have := Jvm.Free.Multi.fill_inner (T.setVm vm₁) cA cy n.toNatClampNeg k.toNatClampNeg (defaultValue ty) n.toNatClampNeg j hj
    rw [hF, hTh, hz] at this
    exact this
  have hout : Jvm.Free.Multi.outerC cA n.toNatClampNeg H.size n.toNatClampNeg = vp_cell cA (n.toNatClampNeg, .inr (.inr (.inr (.inr (fun i => if i < n.toNatClampNeg then some (H.size + 1 + i) else none))))) := by
    rw [vp_cell_q]
    exact vr_outer cA n.toNatClampNeg H.size n.toNatClampNeg
  rw [hout] at f2
  have hlt : ∀ a, a ∈ L → a < H.size := fun a ha => by
    obtain ⟨k9, hk9⟩ := va_pl_get (X := X) (f := f) ha
    exact (hP k9 _ hk9).lt
  have hnl : ∀ i : Nat, i < n.toNatClampNeg → H.size + 1 + i ∉ L := fun i _ h => by
    have := hlt _ h
    omega
  have hnm : ∀ a, a ∈ (List.range n.toNatClampNeg).map (fun i => H.size + 1 + i) → a ∉ L := fun a ha h => by
    obtain ⟨i, -, rfl⟩ := List.mem_map.mp ha
    have := hlt _ h
    omega
  have hP0 : va_P D cl (X ++ va_pl L f) F.heap := hP.kept (fun k9 x hx => hold x.1 ((hP k9 x hx).lt))
  have hP1 : va_P D cl ((X ++ va_pl L f) ++ [(H.size, .inl (cA, n.toNatClampNeg, .inr (.inr (.inr (.inr (fun i => if i < n.toNatClampNeg then some (H.size + 1 + i) else none))))))]) F.heap := hP0.app (fun k9 x hx => by
    have h0 : k9 < 1 := (List.getElem?_eq_some_iff.mp hx).1
    rw [show k9 = 0 by omega] at hx
    cases hx
    exact f2)
  have hP2 : va_P D cl (((X ++ va_pl L f) ++ [(H.size, .inl (cA, n.toNatClampNeg, .inr (.inr (.inr (.inr (fun i => if i < n.toNatClampNeg then some (H.size + 1 + i) else none))))))]) ++ ((List.range n.toNatClampNeg).map (fun i => H.size + 1 + i)).map (fun a => (a, .inl (cy, z)))) F.heap := hP1.app (fun k9 x hx => by
    obtain ⟨a, ha, rfl⟩ := List.mem_map.mp (List.mem_of_getElem? hx)
    obtain ⟨i, hi, rfl⟩ := List.mem_map.mp ha
    exact hrow i (List.mem_range.mp hi))
  have hD2 : va_D A (((X ++ va_pl L f) ++ [(H.size, .inl (cA, n.toNatClampNeg, .inr (.inr (.inr (.inr (fun i => if i < n.toNatClampNeg then some (H.size + 1 + i) else none))))))]) ++ ((List.range n.toNatClampNeg).map (fun i => H.size + 1 + i)).map (fun a => (a, .inl (cy, z)))) := by
    have hD1 := hD.push (e := .inl (cA, n.toNatClampNeg, .inr (.inr (.inr (.inr (fun i => if i < n.toNatClampNeg then some (H.size + 1 + i) else none)))))) hP rfl (hA _ hS.1)
    generalize hW1 : (X ++ va_pl L f) ++ [(H.size, .inl (cA, n.toNatClampNeg, .inr (.inr (.inr (.inr (fun i => if i < n.toNatClampNeg then some (H.size + 1 + i) else none))))))] = W1 at hD1 hP1 ⊢
    have hle : ∀ (k9 : Nat) (x : Nat × va_E), W1[k9]? = some x → x.1 ≤ H.size := fun k9 x hx => by
      rw [← hW1] at hx
      by_cases hl : k9 < (X ++ va_pl L f).length
      · rw [List.getElem?_append_left hl] at hx
        exact Nat.le_of_lt ((hP k9 x hx).lt)
      · rw [List.getElem?_append_right (by omega)] at hx
        have h0 : k9 - (X ++ va_pl L f).length < 1 := (List.getElem?_eq_some_iff.mp hx).1
        rw [show k9 - (X ++ va_pl L f).length = 0 by omega] at hx
        cases hx
        exact Nat.le_refl _
    have hr : ∀ (k9 : Nat) (x : Nat × va_E), (((List.range n.toNatClampNeg).map (fun i => H.size + 1 + i)).map (fun a => ((a, .inl (cy, z)) : Nat × va_E)))[k9]? = some x → x.1 = H.size + 1 + k9 := fun k9 x hx => by
      rw [List.getElem?_map, List.getElem?_map] at hx
      by_cases h9 : k9 < n.toNatClampNeg
      · rw [List.getElem?_range h9] at hx
        cases hx
        rfl
      · have hn0 : (List.range n.toNatClampNeg)[k9]? = none := List.getElem?_eq_none (by rw [List.length_range]; omega)
        rw [hn0] at hx
        cases hx
    refine ⟨fun i j x y hi hj hxy => ?_, fun k9 x hx => ?_⟩
    · by_cases h1 : i < W1.length <;> by_cases h2 : j < W1.length
      · rw [List.getElem?_append_left h1] at hi
        rw [List.getElem?_append_left h2] at hj
        exact hD1.1 i j x y hi hj hxy
      · rw [List.getElem?_append_left h1] at hi
        rw [List.getElem?_append_right (by omega)] at hj
        have := hle _ _ hi
        have := hr _ _ hj
        omega
      · rw [List.getElem?_append_right (by omega)] at hi
        rw [List.getElem?_append_left h2] at hj
        have := hle _ _ hj
        have := hr _ _ hi
        omega
      · rw [List.getElem?_append_right (by omega)] at hi hj
        have := hr _ _ hi
        have := hr _ _ hj
        omega
    · by_cases h1 : k9 < W1.length
      · rw [List.getElem?_append_left h1] at hx
        exact hD1.2 k9 x hx
      · rw [List.getElem?_append_right (by omega)] at hx
        have := hr _ _ hx
        exact hA _ (by have := hS.1; omega)
  have hAr : ArrOfT s cA (.array ty) := fun N9 z9 => by
    obtain ⟨-, k9, hk9, cm9, hkk9⟩ := (hO 0 0 0).1
    exact ⟨(fun q hq => by cases hq), k9, hk9, cm9, hkk9⟩
  have hK2 : va_K D cl (tys ++ [(cA, .array ty)]) s := ⟨hK.1, fun k9 x hx => by
    by_cases hl : k9 < tys.length
    · rw [List.getElem?_append_left hl] at hx
      exact hK.2 k9 x hx
    · rw [List.getElem?_append_right (by omega)] at hx
      have h0 : k9 - tys.length < 1 := (List.getElem?_eq_some_iff.mp hx).1
      rw [show k9 - tys.length = 0 by omega] at hx
      cases hx
      exact ⟨hAr, fA⟩⟩
  obtain ⟨t, a1, b1⟩ := kk H.size (fun i => H.size + 1 + i) cA F.heap (fun i j _ _ h => by have h9 : H.size + 1 + i = H.size + 1 + j := h; omega) hnl hK2 (by rw [← vr_rows hnm]; exact vr_lay hP2) (by rw [← vr_rows hnm]; exact vr_layD hD2) ⟨by rw [f1]; have := hS.1; omega, fun x h1 h2 => (hold x (Nat.lt_of_lt_of_le h1 hS.1)).trans (hS.2.1 x h1 h2), hS.2.2⟩ F rfl X'
  refine ⟨t, step t ?_, b1⟩
  have e : T.heap.size = H.size := by rw [hT]
  rw [e]
  exact a1
end VGM
/-! ===== END ===== -/

/-! ===== BEGIN exceptions that leave a method, and their catching by the caller (launches without stack traces) ===== -/
section VXA
/-! The laws vx_back, vx_callV, vx_callS, vx_callSW, vx_throw0, vx_throwS follow proofs of the library, with one case more: JvmDerived/Free/Laws.lean (Back.of_free), Shelf42/LK1.lean (callV, callS), Shelf/KitTraced.lean (throwNew0V, throwNewS). -/
/-- where a method has thrown q: the class by its name, the cell, what was written, the world -/
def vx_T (XC : String → State → State → Prop) (st : State) (q : Addr) (t : State) (mc ms : Nat) (free : Addr → Prop) : Prop :=
  ∃ (E : String) (ce : Cell) (L : List Loc), XC E st t ∧ t.heap[q]? = some ce ∧ ce.vm = .none ∧ st.vm.findClass E = some ce.cls ∧ st.WarmedH t.vm ∧ st.sameButNew ({ t with vm := st.vm } : State) L mc ms ∧ ∀ z ∈ L, free z.base
def vx_Q (Qc : Array Value → State → Outcome → State → Prop) (XC : String → State → State → Prop) (mc ms : Nat) (free : Addr → Prop) : Array Value → State → Outcome → State → Prop := fun a st o t =>
  (Qc a st o t ∧ ∃ L, FrameEnd st o t L mc ms ∧ ∀ q ∈ L, free q.base) ∨ ∃ q, o = .threw q ∧ vx_T XC st q t mc ms free
/-- a callee that returns or throws -/
def vx_Met (l : Launch) (y : MethodName) (ws : List Cond) (rm : Room) (Pc : Array Value → State → Prop) (Qc : Array Value → State → Outcome → State → Prop) (XC : String → State → State → Prop) (mc ms : Nat) (free : Addr → Prop) : Prop :=
  MetFree l y (headSpec ws rm) Pc (fun _ _ _ _ _ => True) (vx_Q Qc XC mc ms free)
def vx_Post (XC : String → State → State → Prop) (mc ms : Nat) (free : Addr → Prop) : Pt → Array Value → Addr → Pt → Prop := fun A a q B =>
  ∃ (g : JFrame) (mk : MethodId) (t : State) (L : List Loc) (E : String) (ce : Cell), B.U.heap = t.heap ∧ B.U.vm = t.vm ∧ XC E (A.U.calling g mk a) t ∧ t.heap[q]? = some ce ∧ ce.vm = .none ∧ A.U.vm.findClass E = some ce.cls ∧ B.locs = A.locs ++ L ∧ (∀ z ∈ L, free z.base) ∧ B.cells = A.cells + mc ∧ B.slots = A.slots + ms
def vx_Back (l : Launch) (R : Room) (p : Program) (e : Env) (below : List Frame) (s : State) (sargs : Array Value) (y : MethodName) (len W9 : Nat)
    (Pre : Pt → Array Value → Prop) (Post : Pt → Array Value → Option Value → Pt → Prop) (PostX : Pt → Array Value → Addr → Pt → Prop) : Prop :=
  ∀ (m : MethodId) (meth : Method) (c : Code) (A : Pt) (g : JFrame) (ig : Instr) (mk : MethodId) (a : Array Value),
    Stand p l e R s m sargs below meth c A.U A.locs A.cells A.slots → g.method = m → g.locals.size = c.maxLocals → decode c.code g.pc = .ok (ig, len) →
    2 * g.monitorRoom + (g.stack.map fun v => v.category).sum ≤ W9 → A.U.methodNamed? y = some mk → Pre A a →
    (∃ (v : Option Value) (B : Pt), Stand p l e R s m sargs below meth c B.U B.locs B.cells B.slots ∧ Post A a v B ∧
      Steps p.tables e below (doInvoke e (A.U.setTop g) [] mk a).1 (B.U.setTop { g with pc := g.pc + len, stack := v.toList ++ g.stack })) ∨
    (∃ (q : Addr) (B : Pt), Stand p l e R s m sargs below meth c B.U B.locs B.cells B.slots ∧ PostX A a q B ∧
      Steps p.tables e below (doInvoke e (A.U.setTop g) [] mk a).1 ((B.U.setTop g).pushFrame (.throwing q)))
section Payer
variable {l : Launch} {R : Room} {p : Program} {e : Env} {below : List Frame} {s : State} {sargs : Array Value} {y : MethodName} {len W9 : Nat}
theorem vx_back {ws : List Cond} {rm : Room} {Pc : Array Value → State → Prop} {Qc : Array Value → State → Outcome → State → Prop} {XC : String → State → State → Prop} {mc ms : Nat} {free : Addr → Prop} {bytes : ByteArray} {maxL : Nat} {ret : Option FieldType}
    (hM : vx_Met l y ws rm Pc Qc XC mc ms free) (hblind : FrameBlind Pc) (hrc : rm.cells = mc) (hrs : rm.slots = ms)
    (hframes : rm.frames + 1 ≤ R.frames) (hlocals : W9 + (maxL + 11) + rm.locals ≤ R.locals)
    (hws : ∀ w ∈ ws, ∀ a' U, s.WarmedH U.vm → w.before a' U = true) (hcode : Cond.code y bytes maxL ret ∈ ws) (hinit : ∀ a' U, s.WarmedH U.vm → (Cond.initialized y.cls).before a' U = true) :
    vx_Back l R p e below s sargs y len W9 (PreOf R mc ms Pc) (PostOf Qc mc ms free) (vx_Post XC mc ms free) := by
  intro m meth c A g ig mk a X hg hsize hdg hW hn hp
  have h1 : (headSpec ws rm).pre.before a A.U = true := atoms_intro fun w hw => hws w hw _ _ X.warmed
  have h2 : (Cond.code y bytes maxL ret).before a A.U = true := hws _ hcode _ _ X.warmed
  have h3 : (Cond.initialized y.cls).before a A.U = true := hinit _ _ X.warmed
  have h4 : A.cells + (headSpec ws rm).room.cells ≤ R.cells := by rw [show (headSpec ws rm).room.cells = mc from hrc]; exact hp.1
  have h5 : A.slots + (headSpec ws rm).room.slots ≤ R.slots := by rw [show (headSpec ws rm).room.slots = ms from hrs]; exact hp.2.1
  have hPc : Pc a (A.U.calling g mk a) := hblind _ _ _ _ hp.2.2
  obtain ⟨U, Ls, c0, s0⟩ := A
  dsimp only [Pt.U, Pt.locs, Pt.cells, Pt.slots] at h1 h2 h3 h4 h5 X hn hPc ⊢
  obtain ⟨methY, cY, hmY, hcY, -, hlY, -, -, -, -⟩ := Cond.code_spec hn h2
  obtain ⟨kY, hkY, -⟩ := className_of_methodNamed hn
  have hinitY : kY.init = .initialized := Cond.initialized_spec (findClass_of_methodNamed hn) hkY h3
  have h : At U g.method c below := by rw [hg]; exact X.here
  have hlocals9 : W9 + (maxL + 11) + (headSpec ws rm).room.locals ≤ R.locals := hlocals
  have happ : (headSpec ws rm).appliesLoose y e.platform (U.calling g mk a) = true :=
    Spec.appliesLoose_calling (g := g) h hdg hn hkY hinitY
      (X.room_calling (g := g) (R' := (headSpec ws rm).room) hsize hmY hcY hframes (by rw [hlY]; omega) h4 h5) h1
  obtain ⟨mid, hmid⟩ := h.above
  have hfr : (U.setTop g).frames = (.java g :: mid) ++ below := by rw [State.frames_setTop' g h.top, hmid]; rfl
  obtain ⟨o, s₂, hsteps, -, hend, hq⟩ := Steps.callFree hM p X.admits X.cas X.clock (acts := []) hfr happ hPc trivial
  have hq' : vx_Q Qc XC mc ms free a (U.calling g mk a) o s₂ := hq
  rw [State.frames_setTop' g h.top] at hend
  obtain ⟨g₀, hg0⟩ := Option.isSome_iff_exists.mp h.top
  obtain ⟨r, hr⟩ := State.topJava?_eq_some.mp hg0
  have hr' : (({ U with heap := s₂.heap, slotsUsed := s₂.slotsUsed } : State).setVm s₂.vm).frames = .java g₀ :: r := hr
  rcases hq' with ⟨hqc, L, hfe, hL⟩ | ⟨q, rfl, E, ce, L, hx, hce, hcv, hcl, hW₂, hsm, hL⟩
  · obtain ⟨⟨v, rfl⟩, hW₂, e2, q2, q3, q4, q5, q6⟩ := id hfe
    have e3 : s₂ = ({ (U.calling g mk a).setFrames s₂.frames with heap := s₂.heap, slotsUsed := s₂.slotsUsed } : State).setVm s₂.vm := by
      have : s₂ = ({ s₂ with vm := (U.calling g mk a).vm } : State).setVm s₂.vm := rfl
      rw [e2] at this
      exact this
    obtain ⟨c₂, i₂, len₂, hc₂, hd₂, hf₂⟩ := hend
    have hW' : U.WarmedH s₂.vm := hW₂
    have hcc : c₂ = c := by
      have h1 : s₂.code? g.method = U.code? g.method := by
        rw [State.code?_eq, State.code?_eq, hW'.alike.method?]
      exact Option.some.inj (hc₂.symm.trans (h1.trans h.code))
    subst hcc
    have hlen : len₂ = len := by rw [hdg] at hd₂; cases hd₂; rfl
    subst hlen
    have hs₂ : s₂ = (({ U with heap := s₂.heap, slotsUsed := s₂.slotsUsed } : State).setVm s₂.vm).setTop { g with pc := g.pc + len₂, stack := v.toList ++ g.stack } := by
      refine e3.trans ?_
      rw [hf₂, State.calling_eq h.top, State.setFrames_setFrames, State.setTop_of_frames _ hr', hr]
      rfl
    have hsame : U.sameButNew ({ U with heap := s₂.heap, slotsUsed := s₂.slotsUsed } : State) L mc ms := by
      refine ⟨?_, q2, q3, q4, q5, q6⟩
      obtain ⟨t, ht, -⟩ := State.frames_cons hr
      show ({ U with heap := s₂.heap, slotsUsed := s₂.slotsUsed } : State) = { U.setFrames U.frames with heap := s₂.heap, slotsUsed := s₂.slotsUsed }
      rw [State.setFrames_self ht]
    subst hg
    refine Or.inl ⟨v, ⟨(({ U with heap := s₂.heap, slotsUsed := s₂.slotsUsed } : State).setVm s₂.vm), Ls ++ L, c0 + mc, s0 + ms⟩,
      ⟨X.admits, X.cas, X.clock, X.frames, X.room, X.hears, X.method, X.code, (X.here.setHeapUsed s₂.heap s₂.slotsUsed).setVm hW'.alike, X.tail, State.WarmedH.trans X.warmed hW', X.limits, X.bytes, X.same.trans (hsame.setVm s.vm)⟩,
      ⟨g, mk, s₂, L, rfl, rfl, hqc, rfl, hL, rfl, rfl⟩, ?_⟩
    show Steps p.tables e below _ ((({ U with heap := s₂.heap, slotsUsed := s₂.slotsUsed } : State).setVm s₂.vm).setTop { g with pc := g.pc + len₂, stack := v.toList ++ g.stack })
    rw [← hs₂]
    exact hsteps
  · obtain ⟨e2, q2, q3, q4, q5, q6⟩ := id hsm
    have e3 : s₂ = ({ (U.calling g mk a).setFrames s₂.frames with heap := s₂.heap, slotsUsed := s₂.slotsUsed } : State).setVm s₂.vm := by
      have : s₂ = ({ s₂ with vm := (U.calling g mk a).vm } : State).setVm s₂.vm := rfl
      rw [e2] at this
      exact this
    have hf₂ : s₂.frames = .throwing q :: .java g :: U.frames.tail := hend
    have hW' : U.WarmedH s₂.vm := hW₂
    have hs₂ : s₂ = ((({ U with heap := s₂.heap, slotsUsed := s₂.slotsUsed } : State).setVm s₂.vm).setTop g).pushFrame (.throwing q) := by
      refine e3.trans ?_
      rw [hf₂, State.calling_eq h.top, State.setFrames_setFrames, State.pushFrame, State.frames_setTop _ hr', State.setTop_of_frames _ hr', State.setFrames_setFrames, hr]
      rfl
    have hsame : U.sameButNew ({ U with heap := s₂.heap, slotsUsed := s₂.slotsUsed } : State) L mc ms := by
      refine ⟨?_, q2, q3, q4, q5, q6⟩
      obtain ⟨t, ht, -⟩ := State.frames_cons hr
      show ({ U with heap := s₂.heap, slotsUsed := s₂.slotsUsed } : State) = { U.setFrames U.frames with heap := s₂.heap, slotsUsed := s₂.slotsUsed }
      rw [State.setFrames_self ht]
    subst hg
    refine Or.inr ⟨q, ⟨(({ U with heap := s₂.heap, slotsUsed := s₂.slotsUsed } : State).setVm s₂.vm), Ls ++ L, c0 + mc, s0 + ms⟩,
      ⟨X.admits, X.cas, X.clock, X.frames, X.room, X.hears, X.method, X.code, (X.here.setHeapUsed s₂.heap s₂.slotsUsed).setVm hW'.alike, X.tail, State.WarmedH.trans X.warmed hW', X.limits, X.bytes, X.same.trans (hsame.setVm s.vm)⟩,
      ⟨g, mk, s₂, L, E, ce, rfl, rfl, hx, hce, hcv, hcl, rfl, hL, rfl, rfl⟩, ?_⟩
    show Steps p.tables e below _ (((({ U with heap := s₂.heap, slotsUsed := s₂.slotsUsed } : State).setVm s₂.vm).setTop g).pushFrame (.throwing q))
    rw [← hs₂]
    exact hsteps
end Payer
section Calls
variable {p : Program} {l : Launch} {e : Env} {R : Room} {s : State} {m : MethodId} {args : Array Value} {below : List Frame} {meth : Method} {c : Code} {T : State} {locs : List Loc} {cells slots : Nat}
theorem vx_callV (X : Stand p l e R s m args below meth c T locs cells slots) (hexec : p.tables.exec = Jvm.exec) {own C : String} {index : Nat} {y : MethodName} {bytes : ByteArray} {maxL : Nat} {ret : Option FieldType}
    (hown : s.vm.findClass own = some m.cls) (hlink : (Cond.methodLink own index y).before args s = true) (hinst : (Cond.instanceMethod y).before args s = true) (hsel : (Cond.selects C y y).before args s = true)
    (hcode : (Cond.code y bytes maxL ret).before args s = true) (hy : y.cls ≠ "java/lang/invoke/MethodHandle" ∧ y.cls ≠ "java/lang/invoke/VarHandle")
    {W9 : Nat} {Pre : Pt → Array Value → Prop} {Post : Pt → Array Value → Option Value → Pt → Prop} {PostX : Pt → Array Value → Addr → Pt → Prop} (hK : vx_Back l R p e below s args y 3 W9 Pre Post PostX)
    {b : Addr} {cellB : Cell} (hcell : T.heap[b]? = some cellB) (hobj : cellB.vm.isStatics = false) (hcls : s.vm.findClass C = some cellB.cls)
    {g : JFrame} (hg : g.method = m) (hsize : g.locals.size = c.maxLocals) {argsL rest : List Value} (hlen : ∀ sig, parseMethodDescriptor y.desc = some sig → argsL.length = sig.parameters.length)
    (hstack : g.stack = argsL.reverse ++ .ref b :: rest) (hW : 2 * g.monitorRoom + (rest.map fun v => v.category).sum ≤ W9) (hdg : decode c.code g.pc = .ok (.invokevirtual index, 3))
    (hpre : ∀ vm₁, s.WarmedH vm₁ → Pre ⟨T.setVm vm₁, locs, cells, slots⟩ (Value.ref b :: argsL).toArray) :
    (∃ (v : Option Value) (vm₁ : Vm) (B : Pt), s.WarmedH vm₁ ∧ Stand p l e R s m args below meth c B.U B.locs B.cells B.slots ∧ Post ⟨T.setVm vm₁, locs, cells, slots⟩ (Value.ref b :: argsL).toArray v B ∧
      ∀ target, Steps p.tables e below (B.U.setTop { g with pc := g.pc + 3, stack := v.toList ++ rest }) target → Steps p.tables e below (T.setTop g) target) ∨
    (∃ (q : Addr) (vm₁ : Vm) (B : Pt), s.WarmedH vm₁ ∧ Stand p l e R s m args below meth c B.U B.locs B.cells B.slots ∧ PostX ⟨T.setVm vm₁, locs, cells, slots⟩ (Value.ref b :: argsL).toArray q B ∧
      Steps p.tables e below (T.setTop g) ((B.U.setTop { g with stack := rest }).pushFrame (.throwing q))) := by
  obtain ⟨mk, methM, hnamed, hmethM, hstM, habM⟩ := Cond.instanceMethod_spec hinst
  obtain ⟨methM', cM, hmethM', -, -, -, -, -, -, hsigM⟩ := Cond.code_spec hnamed hcode
  cases hmethM.symm.trans hmethM'
  obtain ⟨c2, r2, m2, q1, q2, q3, q4, kP, hkP, hkPi⟩ := Cond.selects_spec hsel
  cases hcls.symm.trans q1
  cases (State.methodFound?_of_named hnamed hy).symm.trans q2
  cases hnamed.symm.trans q3
  have hselP : selectMethod e.platform s.vm cellB.cls mk = .method mk := by rw [Launch.admits_selectMethod X.admits]; exact q4
  obtain ⟨vm₁, X₁, hstep₁⟩ := X.invokevirtual hexec hown hlink hnamed hmethM hstM hkP hkPi hy (a := b) (cell := cellB) hcell
    (fun z h => by rw [h] at hobj; cases hobj) hselP hmethM habM hkP hkPi (g := g) hg (argsL := argsL) (rest := rest) (hlen _ hsigM) hstack hdg
  rcases hK m meth c ⟨T.setVm vm₁, locs, cells, slots⟩ { g with stack := rest } (.invokevirtual index) mk (Value.ref b :: argsL).toArray X₁ hg hsize hdg hW (X₁.named hnamed) (hpre vm₁ X₁.warmed) with ⟨v, B, X', hpost, hsteps⟩ | ⟨q, B, X', hpost, hsteps⟩
  · exact Or.inl ⟨v, vm₁, B, X₁.warmed, X', hpost, fun target h => hstep₁ _ fun acts => by rw [doInvoke_state]; exact hsteps.trans h⟩
  · exact Or.inr ⟨q, vm₁, B, X₁.warmed, X', hpost, hstep₁ _ fun acts => by rw [doInvoke_state]; exact hsteps⟩
theorem vx_callS (X : Stand p l e R s m args below meth c T locs cells slots) (hexec : p.tables.exec = Jvm.exec) {own : String} {index : Nat} {y : MethodName} {bytes : ByteArray} {maxL : Nat} {ret : Option FieldType}
    (hown : s.vm.findClass own = some m.cls) (hlink : (Cond.methodLink own index y).before args s = true) (hstat : (Cond.static y).before args s = true) (hinit : (Cond.initialized y.cls).before args s = true)
    (hcode : (Cond.code y bytes maxL ret).before args s = true) (hy : y.cls ≠ "java/lang/invoke/MethodHandle" ∧ y.cls ≠ "java/lang/invoke/VarHandle")
    {W9 : Nat} {Pre : Pt → Array Value → Prop} {Post : Pt → Array Value → Option Value → Pt → Prop} {PostX : Pt → Array Value → Addr → Pt → Prop} (hK : vx_Back l R p e below s args y 3 W9 Pre Post PostX)
    {g : JFrame} (hg : g.method = m) (hsize : g.locals.size = c.maxLocals) {argsL rest : List Value} (hlen : ∀ sig, parseMethodDescriptor y.desc = some sig → argsL.length = sig.parameters.length)
    (hstack : g.stack = argsL.reverse ++ rest) (hW : 2 * g.monitorRoom + (rest.map fun v => v.category).sum ≤ W9) (hdg : decode c.code g.pc = .ok (.invokestatic index, 3))
    (hpre : ∀ vm₁, s.WarmedH vm₁ → Pre ⟨T.setVm vm₁, locs, cells, slots⟩ argsL.toArray) :
    (∃ (v : Option Value) (vm₁ : Vm) (B : Pt), s.WarmedH vm₁ ∧ Stand p l e R s m args below meth c B.U B.locs B.cells B.slots ∧ Post ⟨T.setVm vm₁, locs, cells, slots⟩ argsL.toArray v B ∧
      ∀ target, Steps p.tables e below (B.U.setTop { g with pc := g.pc + 3, stack := v.toList ++ rest }) target → Steps p.tables e below (T.setTop g) target) ∨
    (∃ (q : Addr) (vm₁ : Vm) (B : Pt), s.WarmedH vm₁ ∧ Stand p l e R s m args below meth c B.U B.locs B.cells B.slots ∧ PostX ⟨T.setVm vm₁, locs, cells, slots⟩ argsL.toArray q B ∧
      Steps p.tables e below (T.setTop g) ((B.U.setTop { g with stack := rest }).pushFrame (.throwing q))) := by
  obtain ⟨mk, hnamed⟩ := Cond.code_named hcode
  obtain ⟨methM, cM, hmethM, -, -, -, -, -, -, hsigM⟩ := Cond.code_spec hnamed hcode
  have hstatic : methM.isStatic = true := Cond.static_spec hnamed hmethM hstat
  obtain ⟨kP, hkP, -⟩ := className_of_methodNamed hnamed
  have hinitP : kP.init = .initialized := Cond.initialized_spec (findClass_of_methodNamed hnamed) hkP hinit
  obtain ⟨vm₁, X₁, hstep₁⟩ := X.invokestatic hexec hown hlink hnamed hmethM hstatic hkP hinitP hy (g := g) hg (argsL := argsL) (rest := rest) (hlen _ hsigM) hstack hdg
  rcases hK m meth c ⟨T.setVm vm₁, locs, cells, slots⟩ { g with stack := rest } (.invokestatic index) mk argsL.toArray X₁ hg hsize hdg hW (X₁.named hnamed) (hpre vm₁ X₁.warmed) with ⟨v, B, X', hpost, hsteps⟩ | ⟨q, B, X', hpost, hsteps⟩
  · exact Or.inl ⟨v, vm₁, B, X₁.warmed, X', hpost, fun target h => hstep₁ _ fun acts => by rw [doInvoke_state]; exact hsteps.trans h⟩
  · exact Or.inr ⟨q, vm₁, B, X₁.warmed, X', hpost, hstep₁ _ fun acts => by rw [doInvoke_state]; exact hsteps⟩
end Calls
theorem vx_cls {s : State} {T : State} {vm₁ : Vm} {E : String} {k : ClassId} (hW : s.WarmedH vm₁) (h : (T.setVm vm₁).vm.findClass E = some k) : s.vm.findClass E = some k := by
  have h1 : vm₁.findClass E = some k := h
  rw [hW.alike.findClass] at h1
  exact h1
/-- the method's frame g, with q thrown over it -/
def vx_W (p : Program) (l : Launch) (e : Env) (R : Room) (s : State) (m : MethodId) (args : Array Value) (below : List Frame) (meth : Method) (c : Code) (H : Heap) (locs : List Loc) (cells slots : Nat) (Q : State → Prop) (g : JFrame) (q : Addr) : Prop :=
  ∀ T : State, T.heap = H → Stand p l e R s m args below meth c T locs cells slots → ∃ t, Steps p.tables e below ((T.setTop g).pushFrame (.throwing q)) t ∧ Q t
def vx_Run (p : Program) (l : Launch) (e : Env) (R : Room) (s : State) (m : MethodId) (args : Array Value) (below : List Frame) (meth : Method) (c : Code) (H : Heap) (locs : List Loc) (cells slots mc ms : Nat) (g : JFrame) (rest : List Value) (Qa : State → Outcome → State → Prop) (XC : String → State → State → Prop) (free : Addr → Prop) : Prop :=
  ∀ T : State, T.heap = H → Stand p l e R s m args below meth c T locs cells slots →
    (∃ (v : Option Value) (st₀ t T' : State) (L : List Loc), st₀.heap = H ∧ Stand p l e R s m args below meth c T' (locs ++ L) (cells + mc) (slots + ms) ∧ (∀ q ∈ L, free q.base) ∧ T'.heap = t.heap ∧ T'.vm = t.vm ∧ Qa st₀ (.returned v) t ∧
      Goes p e below T g T' { g with pc := g.pc + 3, stack := v.toList ++ rest }) ∨
    (∃ (q : Addr) (st₀ t T' : State) (L : List Loc) (E : String) (ce : Cell), st₀.heap = H ∧ Stand p l e R s m args below meth c T' (locs ++ L) (cells + mc) (slots + ms) ∧ (∀ z ∈ L, free z.base) ∧ T'.heap = t.heap ∧ T'.vm = t.vm ∧ XC E st₀ t ∧ t.heap[q]? = some ce ∧ ce.vm = .none ∧ s.vm.findClass E = some ce.cls ∧
      Steps p.tables e below (T.setTop g) ((T'.setTop { g with stack := rest }).pushFrame (.throwing q)))
def vx_X {S : Type} (px : S → Prop) (B : String → S → State → Prop) (A : Nat → Prop) : String → State → State → Prop := fun E st t => ∃ u : S, px u ∧ B E u t ∧ va_F A st t
section Runs
variable {p : Program} {l : Launch} {e : Env} {R : Room} {s : State} {m : MethodId} {args : Array Value} {below : List Frame} {meth : Method} {c : Code} {H : Heap} {locs : List Loc} {cells slots : Nat}
variable {y : MethodName} {bytes cc : ByteArray} {maxL nL mc ms n index : Nat} {ret : Option FieldType} {ws : List Cond} {rm : Room} {Pc : Array Value → State → Prop} {Qc : Array Value → State → Outcome → State → Prop} {XC : String → State → State → Prop} {free : Addr → Prop} {Ts : List Cond} {own C : String} {b : Addr} {As rest : List Value} {g : JFrame}
theorem vx_callBack (cb : CallB R s args own index y bytes maxL ret ws rm mc ms n) (hM : vx_Met l y ws rm Pc Qc XC mc ms free) (hbl : FrameBlind Pc) : vx_Back l R p e below s args y 3 8 (PreOf R mc ms Pc) (PostOf Qc mc ms free) (vx_Post XC mc ms free) := by
  obtain ⟨hrc, hrs, hfr, hlo, hws, hcw, -, hini, -⟩ := cb
  exact vx_back (bytes := bytes) (maxL := maxL) (ret := ret) hM hbl hrc hrs hfr hlo hws hcw (fun a' U hW => word_at hW (Or.inl (by first | rfl | simp [Cond.onTables, Cond.keeps, Cond.steady])) hini)
theorem vx_runV (S : CallFix p m c cc nL s args Ts own) (hM : vx_Met l y ws rm Pc Qc XC mc ms free) (cw : CallW R s args own C index y bytes maxL ret ws rm mc ms n) (hp : PreV s H C b Pc As)
    (hg : g.method = m) (hn : As.length = n) (hsize : g.locals.size = nL) (hstack : g.stack = As.reverse ++ .ref b :: rest) (hW : 2 * g.monitorRoom + (rest.map fun v => v.category).sum ≤ 8) (hdg : decode cc g.pc = .ok (.invokevirtual index, 3)) (hf : cells + mc ≤ R.cells ∧ slots + ms ≤ R.slots) :
    vx_Run p l e R s m args below meth c H locs cells slots mc ms g rest (Qc (Value.ref b :: As).toArray) XC free := by
  have hK : vx_Back l R p e below s args y 3 8 (PreOf R mc ms Pc) (PostOf Qc mc ms free) (vx_Post XC mc ms free) := vx_callBack cw.1 hM hp.1
  obtain ⟨⟨-, -, -, -, -, -, hcode, -, hy, hlen, hl⟩, hin, hse⟩ := cw
  obtain ⟨hx, hb, hml, ho, -⟩ := S
  obtain ⟨-, ⟨cellB, hcB, hoB, hclB⟩, hPc⟩ := hp
  intro T hT X
  rcases vx_callV X hx (C := C) (bytes := bytes) (maxL := maxL) (ret := ret) ho hl hin hse hcode hy hK (by rw [hT]; exact hcB) hoB hclB hg (hsize.trans hml.symm) (argsL := As) (rest := rest) (fun sig h => hn.trans (hlen sig h)) hstack hW (by rw [hb]; exact hdg)
    (fun vm₁ hW₁ => ⟨hf.1, hf.2, hPc (T.setVm vm₁) hT hW₁⟩) with ⟨v, vm₁, ⟨U', l2, c2, s2⟩, hW₁, X', ⟨g', mk, t, L, e1, e2, hq, h1, hL, h2, h3⟩, st⟩ | ⟨q, vm₁, ⟨U', l2, c2, s2⟩, hW₁, X', ⟨g', mk, t, L, E, ce, e1, e2, hq, hce, hcv, hcl, h1, hL, h2, h3⟩, st⟩
  · dsimp only [Pt.U, Pt.locs, Pt.cells, Pt.slots] at X' e1 e2 h1 h2 h3 st
    subst h1; subst h2; subst h3
    exact Or.inl ⟨v, (T.setVm vm₁).calling g' mk (Value.ref b :: As).toArray, t, U', L, hT, X', hL, e1, e2, hq, st⟩
  · dsimp only [Pt.U, Pt.locs, Pt.cells, Pt.slots] at X' e1 e2 h1 h2 h3 st hcl
    subst h1; subst h2; subst h3
    exact Or.inr ⟨q, (T.setVm vm₁).calling g' mk (Value.ref b :: As).toArray, t, U', L, E, ce, hT, X', hL, e1, e2, hq, hce, hcv, vx_cls hW₁ hcl, st⟩
theorem vx_runS (S : CallFix p m c cc nL s args Ts own) (hM : vx_Met l y ws rm Pc Qc XC mc ms free) (cw : CallB R s args own index y bytes maxL ret ws rm mc ms n ∧ (Cond.static y).before args s = true) (hp : PreS s H Pc As)
    (hg : g.method = m) (hn : As.length = n) (hsize : g.locals.size = nL) (hstack : g.stack = As.reverse ++ rest) (hW : 2 * g.monitorRoom + (rest.map fun v => v.category).sum ≤ 8) (hdg : decode cc g.pc = .ok (.invokestatic index, 3)) (hf : cells + mc ≤ R.cells ∧ slots + ms ≤ R.slots) :
    vx_Run p l e R s m args below meth c H locs cells slots mc ms g rest (Qc As.toArray) XC free := by
  have hK : vx_Back l R p e below s args y 3 8 (PreOf R mc ms Pc) (PostOf Qc mc ms free) (vx_Post XC mc ms free) := vx_callBack cw.1 hM hp.1
  obtain ⟨⟨-, -, -, -, -, -, hcode, hini, hy, hlen, hl⟩, hstt⟩ := cw
  obtain ⟨hx, hb, hml, ho, -⟩ := S
  intro T hT X
  rcases vx_callS X hx (bytes := bytes) (maxL := maxL) (ret := ret) ho hl hstt hini hcode hy hK hg (hsize.trans hml.symm) (argsL := As) (rest := rest) (fun sig h => hn.trans (hlen sig h)) hstack hW (by rw [hb]; exact hdg)
    (fun vm₁ hW₁ => ⟨hf.1, hf.2, hp.2 (T.setVm vm₁) hT hW₁⟩) with ⟨v, vm₁, ⟨U', l2, c2, s2⟩, hW₁, X', ⟨g', mk, t, L, e1, e2, hq, h1, hL, h2, h3⟩, st⟩ | ⟨q, vm₁, ⟨U', l2, c2, s2⟩, hW₁, X', ⟨g', mk, t, L, E, ce, e1, e2, hq, hce, hcv, hcl, h1, hL, h2, h3⟩, st⟩
  · dsimp only [Pt.U, Pt.locs, Pt.cells, Pt.slots] at X' e1 e2 h1 h2 h3 st
    subst h1; subst h2; subst h3
    exact Or.inl ⟨v, (T.setVm vm₁).calling g' mk As.toArray, t, U', L, hT, X', hL, e1, e2, hq, st⟩
  · dsimp only [Pt.U, Pt.locs, Pt.cells, Pt.slots] at X' e1 e2 h1 h2 h3 st hcl
    subst h1; subst h2; subst h3
    exact Or.inr ⟨q, (T.setVm vm₁).calling g' mk As.toArray, t, U', L, E, ce, hT, X', hL, e1, e2, hq, hce, hcv, vx_cls hW₁ hcl, st⟩
end Runs
section Rows
variable {p : Program} {l : Launch} {e : Env} {R : Room} {s : State} {m : MethodId} {args : Array Value} {below : List Frame} {meth : Method} {c : Code} {H : Heap} {locs : List Loc} {cells slots : Nat} {Q : State → Prop}
variable {mc ms : Nat} {free : Addr → Prop} {A0 A1 : Nat → Prop} {H0 : Heap} {a : Array Value} {pc : Nat} {ls : Array Slot} {st0 rest : List Value}
theorem vx_keep {st₀ t T' : State} {L : List Loc} (h0 : st₀.heap = H) (e1 : T'.heap = t.heap) (hS : va_S A0 H0 H locs) (hA : ∀ q, q < H.size → A1 q → A0 q) (hf : ∀ q, free q → A0 q) (hL : ∀ q ∈ L, free q.base) (hF : va_F A1 st₀ t) :
    H.size ≤ T'.heap.size ∧ (∀ q : Nat, q < H.size → ¬ A1 q → T'.heap[q]? = H[q]?) ∧ va_S A0 H0 T'.heap (locs ++ L) := by
  obtain ⟨hz, hk⟩ := hF
  rw [h0] at hz hk
  exact ⟨by rw [e1]; exact hz, fun q h1 h2 => by rw [e1]; exact hk q h1 h2,
    ⟨Nat.le_trans hS.1 (by rw [e1]; exact hz), fun q h1 h2 => by rw [e1, hk q (Nat.lt_of_lt_of_le h1 hS.1) (fun z => h2 (hA q (Nat.lt_of_lt_of_le h1 hS.1) z))]; exact hS.2.1 q h1 h2, fun q hq => by
      rcases List.mem_append.mp hq with h | h
      · exact hS.2.2 q h
      · exact hf _ (hL q h)⟩⟩
theorem vx_calli {S SX : Type} {post : Int32 → S → Prop} {px : SX → Prop} {B : S → State → Prop} {BX : String → SX → State → Prop} {AX : Nat → Prop} (hr : vx_Run p l e R s m args below meth c H locs cells slots mc ms (F0 m pc ls st0) rest (va_Qi post B A1 a) (vx_X px BX AX) free) (hS : va_S A0 H0 H locs) (hA : ∀ q, q < H.size → A1 q → A0 q) (hf : ∀ q, free q → A0 q) (hAX : ∀ q, q < H.size → AX q → A0 q)
    (kx : ∀ (E : String) (ce : Cell) (q9 : Addr) (u : SX) (t : State) (H1 : Heap) (locs1 : List Loc), t.heap = H1 → s.vm.Alike t.vm → px u → BX E u t → H.size ≤ H1.size → (∀ q : Nat, q < H.size → ¬ AX q → H1[q]? = H[q]?) → va_S A0 H0 H1 locs1 → H1[q9]? = some ce → ce.vm = .none → s.vm.findClass E = some ce.cls → vx_W p l e R s m args below meth c H1 locs1 (cells + mc) (slots + ms) Q (F0 m pc ls rest) q9)
    (kk : ∀ (r : Int32) (u : S) (t : State) (H1 : Heap) (locs1 : List Loc), t.heap = H1 → s.vm.Alike t.vm → post r u → B u t → H.size ≤ H1.size → (∀ q : Nat, q < H.size → ¬ A1 q → H1[q]? = H[q]?) → va_S A0 H0 H1 locs1 → W p l e R s m args below meth c H1 locs1 (cells + mc) (slots + ms) Q (F0 m (pc + 3) ls (.int r :: rest))) : W p l e R s m args below meth c H locs cells slots Q (F0 m pc ls st0) := by
  intro T hT X
  rcases hr T hT X with ⟨v, st₀, t, T', L, h0, X', hL, e1, e2, ⟨⟨r, u, hv, hp, hb⟩, hF⟩, st⟩ | ⟨q, st₀, t, T', L, E, ce, h0, X', hL, e1, e2, ⟨u, hp, hb, hF⟩, hce, hcv, hcl, st⟩
  · cases hv
    obtain ⟨k1, k2, k3⟩ := vx_keep h0 e1 hS hA hf hL hF
    obtain ⟨t2, a1, b1⟩ := kk r u t T'.heap (locs ++ L) e1.symm (by rw [← e2]; exact X'.warmed.alike) hp hb k1 k2 k3 T' rfl X'
    exact ⟨t2, st t2 a1, b1⟩
  · obtain ⟨k1, k2, k3⟩ := vx_keep h0 e1 hS hAX hf hL hF
    obtain ⟨t2, a1, b1⟩ := kx E ce q u t T'.heap (locs ++ L) e1.symm (by rw [← e2]; exact X'.warmed.alike) hp hb k1 k2 k3 (by rw [e1]; exact hce) hcv hcl T' rfl X'
    exact ⟨t2, st.trans a1, b1⟩
theorem vx_calll {S SX : Type} {post : Int64 → S → Prop} {px : SX → Prop} {B : S → State → Prop} {BX : String → SX → State → Prop} {AX : Nat → Prop} (hr : vx_Run p l e R s m args below meth c H locs cells slots mc ms (F0 m pc ls st0) rest (va_Ql post B A1 a) (vx_X px BX AX) free) (hS : va_S A0 H0 H locs) (hA : ∀ q, q < H.size → A1 q → A0 q) (hf : ∀ q, free q → A0 q) (hAX : ∀ q, q < H.size → AX q → A0 q)
    (kx : ∀ (E : String) (ce : Cell) (q9 : Addr) (u : SX) (t : State) (H1 : Heap) (locs1 : List Loc), t.heap = H1 → s.vm.Alike t.vm → px u → BX E u t → H.size ≤ H1.size → (∀ q : Nat, q < H.size → ¬ AX q → H1[q]? = H[q]?) → va_S A0 H0 H1 locs1 → H1[q9]? = some ce → ce.vm = .none → s.vm.findClass E = some ce.cls → vx_W p l e R s m args below meth c H1 locs1 (cells + mc) (slots + ms) Q (F0 m pc ls rest) q9)
    (kk : ∀ (r : Int64) (u : S) (t : State) (H1 : Heap) (locs1 : List Loc), t.heap = H1 → s.vm.Alike t.vm → post r u → B u t → H.size ≤ H1.size → (∀ q : Nat, q < H.size → ¬ A1 q → H1[q]? = H[q]?) → va_S A0 H0 H1 locs1 → W p l e R s m args below meth c H1 locs1 (cells + mc) (slots + ms) Q (F0 m (pc + 3) ls (.long r :: rest))) : W p l e R s m args below meth c H locs cells slots Q (F0 m pc ls st0) := by
  intro T hT X
  rcases hr T hT X with ⟨v, st₀, t, T', L, h0, X', hL, e1, e2, ⟨⟨r, u, hv, hp, hb⟩, hF⟩, st⟩ | ⟨q, st₀, t, T', L, E, ce, h0, X', hL, e1, e2, ⟨u, hp, hb, hF⟩, hce, hcv, hcl, st⟩
  · cases hv
    obtain ⟨k1, k2, k3⟩ := vx_keep h0 e1 hS hA hf hL hF
    obtain ⟨t2, a1, b1⟩ := kk r u t T'.heap (locs ++ L) e1.symm (by rw [← e2]; exact X'.warmed.alike) hp hb k1 k2 k3 T' rfl X'
    exact ⟨t2, st t2 a1, b1⟩
  · obtain ⟨k1, k2, k3⟩ := vx_keep h0 e1 hS hAX hf hL hF
    obtain ⟨t2, a1, b1⟩ := kx E ce q u t T'.heap (locs ++ L) e1.symm (by rw [← e2]; exact X'.warmed.alike) hp hb k1 k2 k3 (by rw [e1]; exact hce) hcv hcl T' rfl X'
    exact ⟨t2, st.trans a1, b1⟩
theorem vx_callf {S SX : Type} {post : UInt32 → S → Prop} {px : SX → Prop} {B : S → State → Prop} {BX : String → SX → State → Prop} {AX : Nat → Prop} (hr : vx_Run p l e R s m args below meth c H locs cells slots mc ms (F0 m pc ls st0) rest (va_Qf post B A1 a) (vx_X px BX AX) free) (hS : va_S A0 H0 H locs) (hA : ∀ q, q < H.size → A1 q → A0 q) (hf : ∀ q, free q → A0 q) (hAX : ∀ q, q < H.size → AX q → A0 q)
    (kx : ∀ (E : String) (ce : Cell) (q9 : Addr) (u : SX) (t : State) (H1 : Heap) (locs1 : List Loc), t.heap = H1 → s.vm.Alike t.vm → px u → BX E u t → H.size ≤ H1.size → (∀ q : Nat, q < H.size → ¬ AX q → H1[q]? = H[q]?) → va_S A0 H0 H1 locs1 → H1[q9]? = some ce → ce.vm = .none → s.vm.findClass E = some ce.cls → vx_W p l e R s m args below meth c H1 locs1 (cells + mc) (slots + ms) Q (F0 m pc ls rest) q9)
    (kk : ∀ (r : UInt32) (u : S) (t : State) (H1 : Heap) (locs1 : List Loc), t.heap = H1 → s.vm.Alike t.vm → post r u → B u t → H.size ≤ H1.size → (∀ q : Nat, q < H.size → ¬ A1 q → H1[q]? = H[q]?) → va_S A0 H0 H1 locs1 → W p l e R s m args below meth c H1 locs1 (cells + mc) (slots + ms) Q (F0 m (pc + 3) ls (.float r :: rest))) : W p l e R s m args below meth c H locs cells slots Q (F0 m pc ls st0) := by
  intro T hT X
  rcases hr T hT X with ⟨v, st₀, t, T', L, h0, X', hL, e1, e2, ⟨⟨r, u, hv, hp, hb⟩, hF⟩, st⟩ | ⟨q, st₀, t, T', L, E, ce, h0, X', hL, e1, e2, ⟨u, hp, hb, hF⟩, hce, hcv, hcl, st⟩
  · cases hv
    obtain ⟨k1, k2, k3⟩ := vx_keep h0 e1 hS hA hf hL hF
    obtain ⟨t2, a1, b1⟩ := kk r u t T'.heap (locs ++ L) e1.symm (by rw [← e2]; exact X'.warmed.alike) hp hb k1 k2 k3 T' rfl X'
    exact ⟨t2, st t2 a1, b1⟩
  · obtain ⟨k1, k2, k3⟩ := vx_keep h0 e1 hS hAX hf hL hF
    obtain ⟨t2, a1, b1⟩ := kx E ce q u t T'.heap (locs ++ L) e1.symm (by rw [← e2]; exact X'.warmed.alike) hp hb k1 k2 k3 (by rw [e1]; exact hce) hcv hcl T' rfl X'
    exact ⟨t2, st.trans a1, b1⟩
theorem vx_calld {S SX : Type} {post : UInt64 → S → Prop} {px : SX → Prop} {B : S → State → Prop} {BX : String → SX → State → Prop} {AX : Nat → Prop} (hr : vx_Run p l e R s m args below meth c H locs cells slots mc ms (F0 m pc ls st0) rest (va_Qd post B A1 a) (vx_X px BX AX) free) (hS : va_S A0 H0 H locs) (hA : ∀ q, q < H.size → A1 q → A0 q) (hf : ∀ q, free q → A0 q) (hAX : ∀ q, q < H.size → AX q → A0 q)
    (kx : ∀ (E : String) (ce : Cell) (q9 : Addr) (u : SX) (t : State) (H1 : Heap) (locs1 : List Loc), t.heap = H1 → s.vm.Alike t.vm → px u → BX E u t → H.size ≤ H1.size → (∀ q : Nat, q < H.size → ¬ AX q → H1[q]? = H[q]?) → va_S A0 H0 H1 locs1 → H1[q9]? = some ce → ce.vm = .none → s.vm.findClass E = some ce.cls → vx_W p l e R s m args below meth c H1 locs1 (cells + mc) (slots + ms) Q (F0 m pc ls rest) q9)
    (kk : ∀ (r : UInt64) (u : S) (t : State) (H1 : Heap) (locs1 : List Loc), t.heap = H1 → s.vm.Alike t.vm → post r u → B u t → H.size ≤ H1.size → (∀ q : Nat, q < H.size → ¬ A1 q → H1[q]? = H[q]?) → va_S A0 H0 H1 locs1 → W p l e R s m args below meth c H1 locs1 (cells + mc) (slots + ms) Q (F0 m (pc + 3) ls (.double r :: rest))) : W p l e R s m args below meth c H locs cells slots Q (F0 m pc ls st0) := by
  intro T hT X
  rcases hr T hT X with ⟨v, st₀, t, T', L, h0, X', hL, e1, e2, ⟨⟨r, u, hv, hp, hb⟩, hF⟩, st⟩ | ⟨q, st₀, t, T', L, E, ce, h0, X', hL, e1, e2, ⟨u, hp, hb, hF⟩, hce, hcv, hcl, st⟩
  · cases hv
    obtain ⟨k1, k2, k3⟩ := vx_keep h0 e1 hS hA hf hL hF
    obtain ⟨t2, a1, b1⟩ := kk r u t T'.heap (locs ++ L) e1.symm (by rw [← e2]; exact X'.warmed.alike) hp hb k1 k2 k3 T' rfl X'
    exact ⟨t2, st t2 a1, b1⟩
  · obtain ⟨k1, k2, k3⟩ := vx_keep h0 e1 hS hAX hf hL hF
    obtain ⟨t2, a1, b1⟩ := kx E ce q u t T'.heap (locs ++ L) e1.symm (by rw [← e2]; exact X'.warmed.alike) hp hb k1 k2 k3 (by rw [e1]; exact hce) hcv hcl T' rfl X'
    exact ⟨t2, st.trans a1, b1⟩
theorem vx_callv {S SX : Type} {post : S → Prop} {px : SX → Prop} {B : S → State → Prop} {BX : String → SX → State → Prop} {AX : Nat → Prop} (hr : vx_Run p l e R s m args below meth c H locs cells slots mc ms (F0 m pc ls st0) rest (va_Qv post B A1 a) (vx_X px BX AX) free) (hS : va_S A0 H0 H locs) (hA : ∀ q, q < H.size → A1 q → A0 q) (hf : ∀ q, free q → A0 q) (hAX : ∀ q, q < H.size → AX q → A0 q)
    (kx : ∀ (E : String) (ce : Cell) (q9 : Addr) (u : SX) (t : State) (H1 : Heap) (locs1 : List Loc), t.heap = H1 → s.vm.Alike t.vm → px u → BX E u t → H.size ≤ H1.size → (∀ q : Nat, q < H.size → ¬ AX q → H1[q]? = H[q]?) → va_S A0 H0 H1 locs1 → H1[q9]? = some ce → ce.vm = .none → s.vm.findClass E = some ce.cls → vx_W p l e R s m args below meth c H1 locs1 (cells + mc) (slots + ms) Q (F0 m pc ls rest) q9)
    (kk : ∀ (u : S) (t : State) (H1 : Heap) (locs1 : List Loc), t.heap = H1 → s.vm.Alike t.vm → post u → B u t → H.size ≤ H1.size → (∀ q : Nat, q < H.size → ¬ A1 q → H1[q]? = H[q]?) → va_S A0 H0 H1 locs1 → W p l e R s m args below meth c H1 locs1 (cells + mc) (slots + ms) Q (F0 m (pc + 3) ls (rest))) : W p l e R s m args below meth c H locs cells slots Q (F0 m pc ls st0) := by
  intro T hT X
  rcases hr T hT X with ⟨v, st₀, t, T', L, h0, X', hL, e1, e2, ⟨⟨u, hv, hp, hb⟩, hF⟩, st⟩ | ⟨q, st₀, t, T', L, E, ce, h0, X', hL, e1, e2, ⟨u, hp, hb, hF⟩, hce, hcv, hcl, st⟩
  · cases hv
    obtain ⟨k1, k2, k3⟩ := vx_keep h0 e1 hS hA hf hL hF
    obtain ⟨t2, a1, b1⟩ := kk u t T'.heap (locs ++ L) e1.symm (by rw [← e2]; exact X'.warmed.alike) hp hb k1 k2 k3 T' rfl X'
    exact ⟨t2, st t2 a1, b1⟩
  · obtain ⟨k1, k2, k3⟩ := vx_keep h0 e1 hS hAX hf hL hF
    obtain ⟨t2, a1, b1⟩ := kx E ce q u t T'.heap (locs ++ L) e1.symm (by rw [← e2]; exact X'.warmed.alike) hp hb k1 k2 k3 (by rw [e1]; exact hce) hcv hcl T' rfl X'
    exact ⟨t2, st.trans a1, b1⟩
/-- caught by the row x of this method's table; the rows ahead don't take it -/
theorem vx_catch {own name : String} {E : String} {ce : Cell} {q : Addr} (hown : s.vm.findClass own = some m.cls) (pre : List ExceptionTableEntry) (x : ExceptionTableEntry) (suf : List ExceptionTableEntry) (hsplit : c.exceptionTable.toList = pre ++ x :: suf)
    (hpass : ∀ z ∈ pre, covers z pc = false ∨ (z.catchType ≠ 0 ∧ ∃ nm : String, (Cond.classLink own z.catchType nm).before args s = true ∧ va_Nc E nm s)) (hx : covers x pc = true) (h0 : x.catchType ≠ 0)
    (hlink : (Cond.classLink own x.catchType name).before args s = true) (hcast : (Cond.castable E name).before args s = true) (hcell : H[q]? = some ce) (hv : ce.vm = .none) (hcl : s.vm.findClass E = some ce.cls)
    (kk : W p l e R s m args below meth c H locs cells slots Q (F0 m x.handlerPc ls [.ref q])) : vx_W p l e R s m args below meth c H locs cells slots Q (F0 m pc ls rest) q := by
  intro T hT X
  have hpl : e.platform.magicAccessors = ({} : Platform).magicAccessors := by rw [X.admits.platform]
  obtain ⟨c3, c4, hc3, hc4, hasg⟩ := Cond.castable_spec hcast
  cases Option.some.inj (hc3.symm.trans hcl)
  obtain ⟨c5, hc5, hcl5⟩ := Cond.classLink_spec hown hlink e.platform hpl
  cases Option.some.inj (hc4.symm.trans hc5)
  obtain ⟨vm', X', st⟩ := X.thenCaughtThrough q (g := F0 m pc ls rest) rfl (Steps.refl _) (by rw [hT]; exact hcell) (by rw [hv]; rfl) (by obtain ⟨k9, h9, -⟩ := Vm.findClass_spec hcl; exact ⟨k9, h9⟩) pre x suf hsplit
    (fun z hz => by
      rcases hpass z hz with h | ⟨hz0, nm, hl1, hn1⟩
      · exact Or.inl h
      · obtain ⟨c6, hc6, hcl6⟩ := Cond.classLink_spec hown hl1 e.platform hpl
        obtain ⟨a8, b8, h1, h2, h3⟩ := hn1
        cases Option.some.inj (h1.symm.trans hcl)
        cases Option.some.inj (h2.symm.trans hc6)
        exact Or.inr ⟨hz0, _, hcl6, h3⟩) hx (Or.inr ⟨h0, c4, hcl5, hasg⟩)
  obtain ⟨t, a1, b1⟩ := kk (T.setVm vm') hT X'
  exact ⟨t, st.trans a1, b1⟩
end Rows
section Ends
variable {p : Program} {l : Launch} {e : Env} {R : Room} {s : State} {m : MethodId} {args : Array Value} {below : List Frame} {meth : Method} {c : Code} {H : Heap} {locs : List Loc} {cells slots : Nat} {Q : State → Prop}
variable {mc ms : Nat} {free : Addr → Prop} {A0 A1 : Nat → Prop} {H0 : Heap} {a : Array Value} {ls : Array Slot} {st0 rest : List Value}
variable {Qc : Array Value → State → Outcome → State → Prop} {XC : String → State → State → Prop}
/-- what a body that may throw owes at its end -/
def vx_MQ (below : List Frame) (Qc : Array Value → State → Outcome → State → Prop) (XC : String → State → State → Prop) (a : Array Value) (s : State) (mc ms : Nat) (free : Addr → Prop) : State → Prop := fun t =>
  ∃ o, t.status = .running ∧ Ended t below o ∧ vx_Q Qc XC mc ms free a s o t
theorem vx_ret {g : JFrame} {mc ms : Nat} (k : W p l e R s m args below meth c H locs cells slots (MQ below Qc args s mc ms free) g) : W p l e R s m args below meth c H locs cells slots (vx_MQ below Qc XC args s mc ms free) g := by
  intro T hT X
  obtain ⟨t, a1, o, b1, b2, b3, b4⟩ := k T hT X
  exact ⟨t, a1, o, b1, b2, Or.inl ⟨b3, b4⟩⟩
/-- not caught here: it goes on to the caller -/
theorem vx_widen {g : JFrame} {q : Addr} {k n : Nat} (h1 : cells ≤ k) (h2 : slots ≤ n) (kk : vx_W p l e R s m args below meth c H locs k n Q g q) : vx_W p l e R s m args below meth c H locs cells slots Q g q := fun T hT X => kk T hT (stand_widen X h1 h2)
theorem vx_out {pc : Nat} {E : String} {ce : Cell} {q : Addr} {mc ms : Nat} (hout : ∀ x ∈ c.exceptionTable.toList, covers x pc = false) (hlocks : meth.locks = false) (hcell : H[q]? = some ce) (hv : ce.vm = .none) (hcl : s.vm.findClass E = some ce.cls)
    (hx : ∀ t : State, t.heap = H → s.vm.Alike t.vm → XC E s t) (hf : ∀ z ∈ locs, free z.base) (hc : cells ≤ mc) (hs : slots ≤ ms) :
    vx_W p l e R s m args below meth c H locs cells slots (vx_MQ below Qc XC args s mc ms free) (F0 m pc ls rest) q := by
  intro T hT X
  obtain ⟨st1, hrun, hend, hW, hsm⟩ := X.leaveThrown q (g := F0 m pc ls rest) rfl rfl rfl hout hlocks
  have hcell9 : (T.setFrames (.throwing q :: below)).heap[q]? = some ce := by
    show T.heap[q]? = some ce
    rw [hT]; exact hcell
  exact ⟨_, st1, .threw q, hrun, hend, Or.inr ⟨q, rfl, E, ce, locs, hx _ hT hW.alike, hcell9, hv, hcl, hW, hsm.mono hc hs, hf⟩⟩
theorem vx_frame {U : State} {k n : Nat} (h : s.sameButNew ({ U with vm := s.vm } : State) locs k n) : s.heap.size ≤ U.heap.size ∧ ∀ q : Nat, q < s.heap.size → (∀ z ∈ locs, z.base ≠ q) → U.heap[q]? = s.heap[q]? := by
  obtain ⟨-, h2, -, -, -, h6⟩ := h
  refine ⟨h2, fun q hq hz => ?_⟩
  obtain ⟨c9, e1, e2, e3, e4⟩ := h6 q _ (Array.getElem?_eq_getElem hq)
  have hs : c9.slots = (s.heap[q]).slots := Array.ext_getElem? fun i => e4 i fun hm => hz _ hm rfl
  have h9 : c9 = s.heap[q] := by
    rw [hs] at e2
    exact e2
  have e5 : U.heap[q]? = some c9 := e1
  rw [e5, h9, Array.getElem?_eq_getElem hq]
/-- the words of a throw but the four that speak of the heap -/
def vx_no (w : Cond) : Bool := decide (w ≠ .isRef (.static Bundle.tN "UNASSIGNED_STACK" Bundle.steD)) && decide (w ≠ .isRef (.static Bundle.tN "SUPPRESSED_SENTINEL" Bundle.listD)) && decide (w ≠ .laysStatic Bundle.tN "UNASSIGNED_STACK" Bundle.steD) && decide (w ≠ .laysStatic Bundle.tN "SUPPRESSED_SENTINEL" Bundle.listD)
def vx_at0 (own : String) (ic : Nat) (X : String) (names : List String) : List Cond := (Bundle.ownAtoms0 own ic X names).filter vx_no
def vx_atS (own : String) (ic : Nat) (X : String) (names : List String) : List Cond := (Bundle.ownAtoms own ic X names).filter vx_no
/-- a word that the tables alone decide, or a good one -/
def vx_ot (w : Cond) : Bool := w.onTables || goodWord w
theorem vx_ot_at {args a' : Array Value} {s U : State} {w : Cond} (hW : s.WarmedH U.vm) (hvm : s.vm = U.vm) (hg : vx_ot w = true) (h : w.before args s = true) : w.before a' U = true := by
  simp only [vx_ot, Bool.or_eq_true] at hg
  rcases hg with hg | hg
  · exact va_tabs hg hvm h
  · exact word_at hW (good_of_word hg) h
/-- a list's words: the good ones out of the method's own list, the others by premises of their own -/
theorem vx_hat {args : Array Value} {s : State} {L B : List Cond} (h1 : ∀ w ∈ L.filter goodWord, w.before args s = true) (h2 : ∀ w ∈ L.filter (fun w => !goodWord w), w ∈ B) (h3 : ∀ w ∈ B, w.before args s = true) : ∀ w ∈ L, w.before args s = true := by
  intro w hw
  by_cases g : goodWord w = true
  · exact h1 w (List.mem_filter.mpr ⟨hw, g⟩)
  · refine h3 w (h2 w (List.mem_filter.mpr ⟨hw, ?_⟩))
    show (!goodWord w) = true
    cases hgw : goodWord w
    · rfl
    · exact absurd hgw g
theorem vx_c {args : Array Value} {s : State} {w : Cond} {B : List Cond} (h : w.before args s = true) (t : ∀ w ∈ B, w.before args s = true) : ∀ w' ∈ w :: B, w'.before args s = true := fun w' h' => (List.mem_cons.mp h').elim (fun e => by rw [e]; exact h) (t w')
theorem vx_n {args : Array Value} {s : State} : ∀ w ∈ ([] : List Cond), w.before args s = true := fun _ h => nomatch h
theorem vx_own {args : Array Value} {s : State} {L : List Cond} (h1 : ∀ w ∈ L.filter vx_no, w.before args s = true)
    (hU : (Cond.isRef (.static Bundle.tN "UNASSIGNED_STACK" Bundle.steD)).before args s = true) (hN : (Cond.isRef (.static Bundle.tN "SUPPRESSED_SENTINEL" Bundle.listD)).before args s = true)
    (lU : (Cond.laysStatic Bundle.tN "UNASSIGNED_STACK" Bundle.steD).before args s = true) (lN : (Cond.laysStatic Bundle.tN "SUPPRESSED_SENTINEL" Bundle.listD).before args s = true) : ∀ w ∈ L, w.before args s = true := by
  intro w hw
  by_cases e1 : w = .isRef (.static Bundle.tN "UNASSIGNED_STACK" Bundle.steD)
  · rw [e1]; exact hU
  · by_cases e2 : w = .isRef (.static Bundle.tN "SUPPRESSED_SENTINEL" Bundle.listD)
    · rw [e2]; exact hN
    · by_cases e3 : w = .laysStatic Bundle.tN "UNASSIGNED_STACK" Bundle.steD
      · rw [e3]; exact lU
      · by_cases e4 : w = .laysStatic Bundle.tN "SUPPRESSED_SENTINEL" Bundle.listD
        · rw [e4]; exact lN
        · exact h1 w (List.mem_filter.mpr ⟨hw, by unfold vx_no; rw [decide_eq_true e1, decide_eq_true e2, decide_eq_true e3, decide_eq_true e4]; rfl⟩)
/-- where a static field lies, its class's statics cell in H -/
def vx_L (C n d : String) (A : Nat → Prop) (U : State) (H : Heap) : Prop := ∃ (c : ClassId) (k : Class) (i : Nat) (f : Field) (a : Nat) (cell : Cell), U.vm.findClass C = some c ∧ U.fieldFound? C n d = some (c, k, i, f) ∧ f.isStatic = true ∧ k.statics = some a ∧ H[a]? = some cell ∧ cell.vm.isStatics = true ∧ cell.cls = c ∧ f.slot < cell.slots.size ∧ k.staticTypes[f.slot]? = some f.type ∧ ¬ A a
theorem vx_L.moved {C n d : String} {A : Nat → Prop} {u U : State} {H : Heap} (hvm : u.vm.Alike U.vm) (h : vx_L C n d A u H) : vx_L C n d A U H := by
  obtain ⟨c, k, i, f, a, cell, h1, h2, h3, h4, h5, h6, h7, h8, h9, h10⟩ := h
  obtain ⟨k', hi', he⟩ := State.fieldFound?_setVm hvm h2
  exact ⟨c, k', i, f, a, cell, by rw [hvm.findClass]; exact h1, hi', h3, by rw [he]; exact h4, h5, h6, h7, h8, by rw [he]; exact h9, h10⟩
theorem vx_L.kept {C n d : String} {A : Nat → Prop} {U : State} {H H1 : Heap} (h : vx_L C n d A U H) (hq : ∀ a : Nat, a < H.size → ¬ A a → H1[a]? = H[a]?) : vx_L C n d A U H1 := by
  obtain ⟨c, k, i, f, a, cell, h1, h2, h3, h4, h5, h6, h7, h8, h9, h10⟩ := h
  exact ⟨c, k, i, f, a, cell, h1, h2, h3, h4, by rw [hq a (Array.getElem?_eq_some_iff.mp h5).1 h10]; exact h5, h6, h7, h8, h9, h10⟩
theorem vx_L.narrow {C n d : String} {A B : Nat → Prop} {U : State} {H : Heap} (h : vx_L C n d A U H) (hAB : ∀ q, B q → A q) : vx_L C n d B U H := by
  obtain ⟨c, k, i, f, a, cell, h1, h2, h3, h4, h5, h6, h7, h8, h9, h10⟩ := h
  exact ⟨c, k, i, f, a, cell, h1, h2, h3, h4, h5, h6, h7, h8, h9, fun z => h10 (hAB _ z)⟩
theorem vx_L.word {C n d : String} {A : Nat → Prop} {s : State} {args : Array Value} (h : vx_L C n d A s s.heap) : (Cond.laysStatic C n d).before args s = true := by
  obtain ⟨c, k, i, f, a, cell, h1, h2, h3, h4, h5, h6, h7, h8, h9, -⟩ := h
  show (Cond.laysStatic C n d).holds args s none s [] = true
  exact Cond.laysStatic_of h1 h2 h3 h4 h5 h6 h7 h8 h9
/-- .. and what it holds: null or some reference -/
def vx_Zq (C n d : String) (A : Nat → Prop) (U : State) (H : Heap) : Prop := va_Zq C n d A U H ∧ vx_L C n d A U H
theorem vx_Zq.moved {C n d : String} {A : Nat → Prop} {u U : State} {H : Heap} (hvm : u.vm.Alike U.vm) (h : vx_Zq C n d A u H) : vx_Zq C n d A U H := ⟨va_Zq.moved hvm h.1, vx_L.moved hvm h.2⟩
theorem vx_Zq.kept {C n d : String} {A : Nat → Prop} {U : State} {H H1 : Heap} (h : vx_Zq C n d A U H) (hq : ∀ a : Nat, a < H.size → ¬ A a → H1[a]? = H[a]?) : vx_Zq C n d A U H1 := ⟨va_Zq.kept h.1 hq, vx_L.kept h.2 hq⟩
theorem vx_Zq.narrow {C n d : String} {A B : Nat → Prop} {U : State} {H : Heap} (h : vx_Zq C n d A U H) (hAB : ∀ q, B q → A q) : vx_Zq C n d B U H := ⟨va_Zq.narrow h.1 hAB, vx_L.narrow h.2 hAB⟩
theorem vx_Zqof {args : Array Value} {s : State} {C n d : String} {A : Nat → Prop} (hl : (Cond.laysStatic C n d).before args s = true) (hini : (Cond.initialized C).before args s = true) (h : (Cond.isRef (.static C n d)).before args s = true) (hA : ∀ a : Nat, a < s.heap.size → ¬ A a) : vx_Zq C n d A s s.heap := by
  refine ⟨va_Zqof hl hini h hA, ?_⟩
  obtain ⟨c, k, i, f, a, cell, h1, h2, h3, h4, h5, h6, h7, h8, h9⟩ := Cond.laysStatic_spec hl
  exact ⟨c, k, i, f, a, cell, h1, h2, h3, h4, h5, h6, h7, h8, h9, hA a (Array.getElem?_eq_some_iff.mp h5).1⟩
theorem vx_isRef {C n d : String} {v : Value} {A : Nat → Prop} {s : State} {args : Array Value} (h : va_Z C n d v A s s.heap) (hv : v.isRef = true) : (Cond.isRef (.static C n d)).before args s = true := by
  obtain ⟨cf, kf, fi, f, a, cell, h1, h2, h3, h4, h5, h6, h7, -⟩ := h
  have he : (Term.static C n d).eval args s none [] s = some v := by
    simp [Term.eval, State.fieldNamed?, h1, h2, h4, h5, h6, h7]
  simp only [Cond.before, Cond.holds, Cond.value, he]
  cases v <;> simp_all [Value.isRef]
theorem vx_isRefq {C n d : String} {A : Nat → Prop} {s : State} {args : Array Value} (h : va_Zq C n d A s s.heap) : (Cond.isRef (.static C n d)).before args s = true := by
  rcases h with h | ⟨t, h⟩
  · exact vx_isRef h rfl
  · exact vx_isRef h rfl
/-- the same frame, seen from here: as if the method were called anew in this heap -/
theorem vx_rebase {T : State} (X : Stand p l e R s m args below meth c T locs cells slots) {R' : Room} (hf : R'.frames ≤ R.frames) (hl : R'.locals ≤ R.locals) (hc : cells + R'.cells ≤ R.cells) (hs : slots + R'.slots ≤ R.slots) :
    Stand p l e R' ((T.setVm s.vm).setFrames (.invoking m args :: below)) m args below meth c T [] 0 0 := by
  have htop : (T.setVm s.vm).topJava?.isSome := X.here.top
  have hF : ((T.setVm s.vm).setFrames (.invoking m args :: below)).frames = .invoking m args :: below := State.frames_setFrames _ (State.cur_lt_of_top htop)
  obtain ⟨g₀, hg0⟩ := Option.isSome_iff_exists.mp htop
  obtain ⟨r, hr⟩ := State.topJava?_eq_some.mp hg0
  have hl9 : e.platform.stackLimits (T.setVm s.vm).me = e.platform.stackLimits s.me := X.limits
  have hb9 : (T.setVm s.vm).me.stackBytes = s.me.stackBytes := X.bytes
  refine ⟨X.admits, X.cas, X.clock, hF, ?_, X.hears, X.method, X.code, X.here, X.tail, X.warmed, ?_, ?_, ?_⟩
  · have h := X.room
    have hU : ((T.setVm s.vm).setFrames (.invoking m args :: below)).localsInUse = s.localsInUse := by
      rw [State.localsInUse_invoking hF (meth := meth) (c := c) X.method X.code, State.localsInUse_invoking X.frames X.method X.code]
    simp only [State.hasRoom, Bool.and_eq_true, decide_eq_true_eq] at h ⊢
    obtain ⟨⟨⟨⟨h1, h2, h3, h4, h5, h6⟩, h7⟩, h8⟩, h9⟩ := h
    rw [X.frames, List.length_cons] at h2 h3
    have q1 := X.heapSize
    have q2 := X.used
    simp only [hF, hU, List.length_cons, State.stackLimits_setFrames, State.stackBytes_setFrames, hl9, hb9]
    refine ⟨⟨⟨⟨by omega, by omega, by omega, by omega, by omega, h6⟩, ?_⟩, ?_⟩, X.book⟩
    · show T.heap.size + R'.cells ≤ e.platform.maxCells
      omega
    · show T.slotsUsed + R'.slots ≤ e.platform.maxSlots
      omega
  · rw [State.stackLimits_setFrames]; rfl
  · rw [State.stackBytes_setFrames]; rfl
  · refine ⟨?_, Nat.le_refl _, Nat.le_refl _, ?_, ?_, fun a c9 h9 => ⟨c9, h9, rfl, rfl, fun _ _ => rfl⟩⟩
    · obtain ⟨t, ht, -⟩ := State.frames_cons hr
      show T.setVm s.vm = { ((T.setVm s.vm).setFrames (.invoking m args :: below)).setFrames (T.setVm s.vm).frames with heap := T.heap, slotsUsed := T.slotsUsed }
      rw [State.setFrames_setFrames, State.setFrames_self ht]
      rfl
    · show T.slotsUsed = T.slotsUsed + ((T.heap.toList.drop T.heap.size).map (·.slots.size)).sum
      rw [List.drop_eq_nil_of_le (Nat.le_of_eq Array.length_toList)]
      rfl
    · show ((T.heap.toList.drop T.heap.size).map (·.slots.size)).sum ≤ 0
      rw [List.drop_eq_nil_of_le (Nat.le_of_eq Array.length_toList)]
      exact Nat.le_refl _
/-- 'throw new E()': new; dup; invokespecial; athrow -/
theorem vx_throw0 {cc : ByteArray} {pc : Nat} (hexec : p.tables.exec = Jvm.exec) (hb : c.code = cc) (hl : l.stackTraces = false) {own cls : String} {names : List String} {ik ic mc ms : Nat} {A : Nat → Prop}
    (hown : s.vm.findClass own = some m.cls) (hcls : Bundle.fit cls = true) (hnames : ∀ n ∈ names, Bundle.fit n = true)
    (hk : (Cond.classLink own ik cls).before args s = true) (hini : (Cond.initialized cls).before args s = true) (hat : ∀ w ∈ vx_at0 own ic cls names, w.before args s = true)
    (hgood : ∀ w ∈ Cond.classLink own ik cls :: Cond.initialized cls :: vx_at0 own ic cls names, vx_ot w = true)
    (hU : vx_Zq Bundle.tN "UNASSIGNED_STACK" Bundle.steD A s s.heap) (hN : vx_Zq Bundle.tN "SUPPRESSED_SENTINEL" Bundle.listD A s s.heap) (hS : va_S A s.heap H locs) (hsize : ls.size = c.maxLocals)
    (d0 : decode cc pc = .ok (.new ik, 3)) (d3 : decode cc (pc + 3) = .ok (.dup, 1)) (d4 : decode cc (pc + 4) = .ok (.invokespecial ic, 3)) (d7 : decode cc (pc + 7) = .ok (.athrow, 1))
    (hout : ∀ x ∈ c.exceptionTable.toList, covers x (pc + 7) = false)
    (hRframes : names.length + 3 < R.frames) (hRlocals : (rest.map fun v => v.category).sum + (13 * (names.length + 1) + 42) ≤ R.locals) (hRcells : cells + 1 ≤ R.cells) (hRslots : slots + 6 ≤ R.slots) (hlocks : meth.locks = false)
    (hx : ∀ t : State, s.vm.Alike t.vm → H.size ≤ t.heap.size → (∀ q : Nat, q < H.size → t.heap[q]? = H[q]?) → XC cls s t)
    (hf : ∀ z ∈ locs, free z.base) (hc : cells + 1 ≤ mc) (hs : slots + 6 ≤ ms) :
    W p l e R s m args below meth c H locs cells slots (vx_MQ below Qc XC args s mc ms free) (F0 m pc ls rest) := by
  intro T hT X
  have htr : e.platform.stackTraces = false := (show e.platform.stackTraces = l.stackTraces by rw [X.admits.platform]).trans hl
  have Y := vx_rebase X (R' := { frames := R.frames, locals := R.locals, cells := 1, slots := 6 }) (Nat.le_refl _) (Nat.le_refl _) hRcells hRslots
  obtain ⟨s', hA⟩ : ∃ z, z = (T.setVm s.vm).setFrames (.invoking m args :: below) := ⟨_, rfl⟩
  rw [← hA] at Y
  have hvm : s'.vm = s.vm := by rw [hA]; rfl
  have hhp : s'.heap = H := by rw [hA]; exact hT
  have hW0 : s.WarmedH s'.vm := by rw [hvm]; exact State.WarmedH.refl s
  have hat' : ∀ w ∈ vx_at0 own ic cls names, w.before args s' = true := fun w hw => vx_ot_at hW0 hvm.symm (hgood w (List.mem_cons_of_mem _ (List.mem_cons_of_mem _ hw))) (hat w hw)
  have hk' : (Cond.classLink own ik cls).before args s' = true := vx_ot_at hW0 hvm.symm (hgood _ List.mem_cons_self) hk
  have hini' : (Cond.initialized cls).before args s' = true := vx_ot_at hW0 hvm.symm (hgood _ (List.mem_cons_of_mem _ List.mem_cons_self)) hini
  have hU' : vx_Zq Bundle.tN "UNASSIGNED_STACK" Bundle.steD A s' s'.heap := by rw [hhp]; exact vx_Zq.moved hW0.alike (hU.kept hS.2.1)
  have hN' : vx_Zq Bundle.tN "SUPPRESSED_SENTINEL" Bundle.listD A s' s'.heap := by rw [hhp]; exact vx_Zq.moved hW0.alike (hN.kept hS.2.1)
  have h : ∀ w ∈ Bundle.ownAtoms0 own ic cls names, w.before args s' = true := vx_own hat' (vx_isRefq hU'.1) (vx_isRefq hN'.1) hU'.2.word hN'.2.word
  have hown' : s'.vm.findClass own = some m.cls := by rw [hvm]; exact hown
  have hins : (Cond.instantiable cls 6).before args s' = true := h _ (by simp [Bundle.ownAtoms0])
  obtain ⟨vm₁, cX, kX, hfX, hkX, -, -, X₁, st1⟩ := Y.newCold hexec (own := own) (C := cls) (index := ik) (n := 6) hown' hk' hins hini'
    (g := F0 m pc ls rest) rfl (by rw [hb]; exact d0) (Nat.le_refl _) (Nat.le_refl _)
  generalize hT1 : (T.setVm vm₁).pushCell { cls := cX, slots := kX.instanceTypes.map defaultValue, vm := .none } = T1 at X₁ st1
  have hcat : (Value.ref T.heap.size).category = 1 := rfl
  have hcellA : T1.heap[T.heap.size]? = some (freshCell cX kX) := by rw [← hT1]; exact State.heap_pushCell_size _ _
  have d3' : decode c.code (pc + 3) = .ok (.dup, 1) := by rw [hb]; exact d3
  obtain ⟨U, hsteps, hrun, hend, hW, hsame, ce, hce, hO⟩ := X₁.ctorThrow0 hexec htr (own := own) (cls := cls) (names := names) (ic := ic) hown' hcls hnames h (fun x hx => nomatch hx) hfX hkX hcellA (by rw [hhp, hT]; exact Nat.le_refl _)
    (g := { method := m, pc := pc + 4, locals := ls, stack := .ref T.heap.size :: .ref T.heap.size :: rest, locked := none }) rfl hsize rfl rfl (rest := rest) rfl
    (by rw [hb]; exact d4) (by rw [hb]; exact d7) hout hRframes (by simp only [List.map_cons, List.sum_cons, hcat]; omega) hlocks
  obtain ⟨f1, f2⟩ := vx_frame hsame
  rw [hhp] at f1 f2
  have hWs : s.WarmedH U.vm := State.WarmedH.trans hW0 hW
  have hcl : s.vm.findClass cls = some ce.cls := by
    have h9 := hO.cls
    rw [hvm] at h9
    exact h9
  have hall : s.sameButNew ({ U with vm := s.vm } : State) locs mc ms := by
    subst hA
    obtain ⟨e1, e2⟩ := hsame
    rw [State.setFrames_setFrames] at e1
    have h2 : (T.setVm s.vm).sameButNew ({ U with vm := s.vm } : State) [] (0 + 1) (0 + 6) := ⟨e1, e2⟩
    have h3 := X.same.trans h2
    rw [List.append_nil] at h3
    exact h3.mono hc hs
  refine ⟨U, ?_, .threw T.heap.size, hrun, hend, Or.inr ⟨T.heap.size, rfl, cls, ce, locs, hx U hWs.alike f1 (fun q hq => f2 q hq (fun z hz => nomatch hz)), hce, hO.vm, hcl, hWs, hall, hf⟩⟩
  refine st1 _ ?_
  show Steps p.tables e below (T1.setTop { method := m, pc := pc + 3, locals := ls, stack := .ref T.heap.size :: rest, locked := none }) _
  jvm_step X₁.here [X₁.here.top, hexec, d3', Value.category]
  exact hsteps
/-- 'throw new E("text")': new; dup; ldc; invokespecial; athrow -/
theorem vx_throwS {cc : ByteArray} {pc : Nat} (hexec : p.tables.exec = Jvm.exec) (hb : c.code = cc) (hl : l.stackTraces = false) {own cls text : String} {names : List String} {ik is ic mc ms sa : Nat} {A : Nat → Prop}
    (hown : s.vm.findClass own = some m.cls) (hcls : Bundle.fit cls = true) (hnames : ∀ n ∈ names, Bundle.fit n = true)
    (hk : (Cond.classLink own ik cls).before args s = true) (hini : (Cond.initialized cls).before args s = true) (hstr : vk_R own is text sa s) (hat : ∀ w ∈ vx_atS own ic cls names, w.before args s = true)
    (hgood : ∀ w ∈ Cond.classLink own ik cls :: Cond.initialized cls :: vx_atS own ic cls names, vx_ot w = true)
    (hU : vx_Zq Bundle.tN "UNASSIGNED_STACK" Bundle.steD A s s.heap) (hN : vx_Zq Bundle.tN "SUPPRESSED_SENTINEL" Bundle.listD A s s.heap) (hS : va_S A s.heap H locs) (hsize : ls.size = c.maxLocals)
    (d0 : decode cc pc = .ok (.new ik, 3)) (d3 : decode cc (pc + 3) = .ok (.dup, 1)) (d4 : decode cc (pc + 4) = .ok (.ldc is, 2)) (d6 : decode cc (pc + 6) = .ok (.invokespecial ic, 3)) (d9 : decode cc (pc + 9) = .ok (.athrow, 1))
    (hout : ∀ x ∈ c.exceptionTable.toList, covers x (pc + 9) = false)
    (hRframes : names.length + 3 < R.frames) (hRlocals : (rest.map fun v => v.category).sum + (13 * (names.length + 1) + 43) ≤ R.locals) (hRcells : cells + 1 ≤ R.cells) (hRslots : slots + 6 ≤ R.slots) (hlocks : meth.locks = false)
    (hx : ∀ t : State, s.vm.Alike t.vm → H.size ≤ t.heap.size → (∀ q : Nat, q < H.size → t.heap[q]? = H[q]?) → XC cls s t)
    (hf : ∀ z ∈ locs, free z.base) (hc : cells + 1 ≤ mc) (hs : slots + 6 ≤ ms) :
    W p l e R s m args below meth c H locs cells slots (vx_MQ below Qc XC args s mc ms free) (F0 m pc ls rest) := by
  intro T hT X
  have htr : e.platform.stackTraces = false := (show e.platform.stackTraces = l.stackTraces by rw [X.admits.platform]).trans hl
  have Y := vx_rebase X (R' := { frames := R.frames, locals := R.locals, cells := 1, slots := 6 }) (Nat.le_refl _) (Nat.le_refl _) hRcells hRslots
  obtain ⟨s', hA⟩ : ∃ z, z = (T.setVm s.vm).setFrames (.invoking m args :: below) := ⟨_, rfl⟩
  rw [← hA] at Y
  have hvm : s'.vm = s.vm := by rw [hA]; rfl
  have hhp : s'.heap = H := by rw [hA]; exact hT
  have hW0 : s.WarmedH s'.vm := by rw [hvm]; exact State.WarmedH.refl s
  have hat' : ∀ w ∈ vx_atS own ic cls names, w.before args s' = true := fun w hw => vx_ot_at hW0 hvm.symm (hgood w (List.mem_cons_of_mem _ (List.mem_cons_of_mem _ hw))) (hat w hw)
  have hk' : (Cond.classLink own ik cls).before args s' = true := vx_ot_at hW0 hvm.symm (hgood _ List.mem_cons_self) hk
  have hini' : (Cond.initialized cls).before args s' = true := vx_ot_at hW0 hvm.symm (hgood _ (List.mem_cons_of_mem _ List.mem_cons_self)) hini
  have hU' : vx_Zq Bundle.tN "UNASSIGNED_STACK" Bundle.steD A s' s'.heap := by rw [hhp]; exact vx_Zq.moved hW0.alike (hU.kept hS.2.1)
  have hN' : vx_Zq Bundle.tN "SUPPRESSED_SENTINEL" Bundle.listD A s' s'.heap := by rw [hhp]; exact vx_Zq.moved hW0.alike (hN.kept hS.2.1)
  have h : ∀ w ∈ Bundle.ownAtoms own ic cls names, w.before args s' = true := vx_own hat' (vx_isRefq hU'.1) (vx_isRefq hN'.1) hU'.2.word hN'.2.word
  have hown' : s'.vm.findClass own = some m.cls := by rw [hvm]; exact hown
  have hins : (Cond.instantiable cls 6).before args s' = true := h _ (by simp [Bundle.ownAtoms])
  obtain ⟨vm₁, cX, kX, hfX, hkX, -, -, X₁, st1⟩ := Y.newCold hexec (own := own) (C := cls) (index := ik) (n := 6) hown' hk' hins hini'
    (g := F0 m pc ls rest) rfl (by rw [hb]; exact d0) (Nat.le_refl _) (Nat.le_refl _)
  generalize hT1 : (T.setVm vm₁).pushCell { cls := cX, slots := kX.instanceTypes.map defaultValue, vm := .none } = T1 at X₁ st1
  have hcat : (Value.ref T.heap.size).category = 1 := rfl
  have hcellA : T1.heap[T.heap.size]? = some (freshCell cX kX) := by rw [← hT1]; exact State.heap_pushCell_size _ _
  have d3' : decode c.code (pc + 3) = .ok (.dup, 1) := by rw [hb]; exact d3
  have d4' : decode c.code (pc + 4) = .ok (.ldc is, 2) := by rw [hb]; exact d4
  have hstr' : vk_R own is text sa s' := vk_R.warm hW0 hstr
  obtain ⟨U, hsteps, hrun, hend, hW, hsame, ce, hce, hO⟩ := X₁.ctorThrowS hexec htr (own := own) (cls := cls) (names := names) (ic := ic) hown' hcls hnames h (fun x hx => nomatch hx) hfX hkX hcellA (by rw [hhp, hT]; exact Nat.le_refl _) (msg := .ref sa) rfl
    (g := { method := m, pc := pc + 6, locals := ls, stack := .ref sa :: .ref T.heap.size :: .ref T.heap.size :: rest, locked := none }) rfl hsize rfl rfl (rest := rest) rfl
    (by rw [hb]; exact d6) (by rw [hb]; exact d9) hout hRframes (by simp only [List.map_cons, List.sum_cons, hcat]; omega) hlocks
  obtain ⟨f1, f2⟩ := vx_frame hsame
  rw [hhp] at f1 f2
  have hWs : s.WarmedH U.vm := State.WarmedH.trans hW0 hW
  have hcl : s.vm.findClass cls = some ce.cls := by
    have h9 := hO.cls
    rw [hvm] at h9
    exact h9
  have hall : s.sameButNew ({ U with vm := s.vm } : State) locs mc ms := by
    subst hA
    obtain ⟨e1, e2⟩ := hsame
    rw [State.setFrames_setFrames] at e1
    have h2 : (T.setVm s.vm).sameButNew ({ U with vm := s.vm } : State) [] (0 + 1) (0 + 6) := ⟨e1, e2⟩
    have h3 := X.same.trans h2
    rw [List.append_nil] at h3
    exact h3.mono hc hs
  refine ⟨U, ?_, .threw T.heap.size, hrun, hend, Or.inr ⟨T.heap.size, rfl, cls, ce, locs, hx U hWs.alike f1 (fun q hq => f2 q hq (fun z hz => nomatch hz)), hce, hO.vm, hcl, hWs, hall, hf⟩⟩
  refine st1 _ ?_
  show Steps p.tables e below (T1.setTop { method := m, pc := pc + 3, locals := ls, stack := .ref T.heap.size :: rest, locked := none }) _
  jvm_step X₁.here [X₁.here.top, hexec, d3', Value.category]
  exact X₁.ldcString hexec (own := own) (text := text) (index := is) (a := sa) hown' hstr'.1 hstr'.2
    (g := { method := m, pc := pc + 4, locals := ls, stack := .ref T.heap.size :: .ref T.heap.size :: rest, locked := none }) rfl d4' _ hsteps
/-- 'throw new E("text")', the text by a wide index -/
theorem vx_throwSW {cc : ByteArray} {pc : Nat} (hexec : p.tables.exec = Jvm.exec) (hb : c.code = cc) (hl : l.stackTraces = false) {own cls text : String} {names : List String} {ik is ic mc ms sa : Nat} {A : Nat → Prop}
    (hown : s.vm.findClass own = some m.cls) (hcls : Bundle.fit cls = true) (hnames : ∀ n ∈ names, Bundle.fit n = true)
    (hk : (Cond.classLink own ik cls).before args s = true) (hini : (Cond.initialized cls).before args s = true) (hstr : vk_R own is text sa s) (hat : ∀ w ∈ vx_atS own ic cls names, w.before args s = true)
    (hgood : ∀ w ∈ Cond.classLink own ik cls :: Cond.initialized cls :: vx_atS own ic cls names, vx_ot w = true)
    (hU : vx_Zq Bundle.tN "UNASSIGNED_STACK" Bundle.steD A s s.heap) (hN : vx_Zq Bundle.tN "SUPPRESSED_SENTINEL" Bundle.listD A s s.heap) (hS : va_S A s.heap H locs) (hsize : ls.size = c.maxLocals)
    (d0 : decode cc pc = .ok (.new ik, 3)) (d3 : decode cc (pc + 3) = .ok (.dup, 1)) (d4 : decode cc (pc + 4) = .ok (.ldc_w is, 3)) (d7 : decode cc (pc + 7) = .ok (.invokespecial ic, 3)) (d10 : decode cc (pc + 10) = .ok (.athrow, 1))
    (hout : ∀ x ∈ c.exceptionTable.toList, covers x (pc + 10) = false)
    (hRframes : names.length + 3 < R.frames) (hRlocals : (rest.map fun v => v.category).sum + (13 * (names.length + 1) + 43) ≤ R.locals) (hRcells : cells + 1 ≤ R.cells) (hRslots : slots + 6 ≤ R.slots) (hlocks : meth.locks = false)
    (hx : ∀ t : State, s.vm.Alike t.vm → H.size ≤ t.heap.size → (∀ q : Nat, q < H.size → t.heap[q]? = H[q]?) → XC cls s t)
    (hf : ∀ z ∈ locs, free z.base) (hc : cells + 1 ≤ mc) (hs : slots + 6 ≤ ms) :
    W p l e R s m args below meth c H locs cells slots (vx_MQ below Qc XC args s mc ms free) (F0 m pc ls rest) := by
  intro T hT X
  have htr : e.platform.stackTraces = false := (show e.platform.stackTraces = l.stackTraces by rw [X.admits.platform]).trans hl
  have Y := vx_rebase X (R' := { frames := R.frames, locals := R.locals, cells := 1, slots := 6 }) (Nat.le_refl _) (Nat.le_refl _) hRcells hRslots
  obtain ⟨s', hA⟩ : ∃ z, z = (T.setVm s.vm).setFrames (.invoking m args :: below) := ⟨_, rfl⟩
  rw [← hA] at Y
  have hvm : s'.vm = s.vm := by rw [hA]; rfl
  have hhp : s'.heap = H := by rw [hA]; exact hT
  have hW0 : s.WarmedH s'.vm := by rw [hvm]; exact State.WarmedH.refl s
  have hat' : ∀ w ∈ vx_atS own ic cls names, w.before args s' = true := fun w hw => vx_ot_at hW0 hvm.symm (hgood w (List.mem_cons_of_mem _ (List.mem_cons_of_mem _ hw))) (hat w hw)
  have hk' : (Cond.classLink own ik cls).before args s' = true := vx_ot_at hW0 hvm.symm (hgood _ List.mem_cons_self) hk
  have hini' : (Cond.initialized cls).before args s' = true := vx_ot_at hW0 hvm.symm (hgood _ (List.mem_cons_of_mem _ List.mem_cons_self)) hini
  have hU' : vx_Zq Bundle.tN "UNASSIGNED_STACK" Bundle.steD A s' s'.heap := by rw [hhp]; exact vx_Zq.moved hW0.alike (hU.kept hS.2.1)
  have hN' : vx_Zq Bundle.tN "SUPPRESSED_SENTINEL" Bundle.listD A s' s'.heap := by rw [hhp]; exact vx_Zq.moved hW0.alike (hN.kept hS.2.1)
  have h : ∀ w ∈ Bundle.ownAtoms own ic cls names, w.before args s' = true := vx_own hat' (vx_isRefq hU'.1) (vx_isRefq hN'.1) hU'.2.word hN'.2.word
  have hown' : s'.vm.findClass own = some m.cls := by rw [hvm]; exact hown
  have hins : (Cond.instantiable cls 6).before args s' = true := h _ (by simp [Bundle.ownAtoms])
  obtain ⟨vm₁, cX, kX, hfX, hkX, -, -, X₁, st1⟩ := Y.newCold hexec (own := own) (C := cls) (index := ik) (n := 6) hown' hk' hins hini'
    (g := F0 m pc ls rest) rfl (by rw [hb]; exact d0) (Nat.le_refl _) (Nat.le_refl _)
  generalize hT1 : (T.setVm vm₁).pushCell { cls := cX, slots := kX.instanceTypes.map defaultValue, vm := .none } = T1 at X₁ st1
  have hcat : (Value.ref T.heap.size).category = 1 := rfl
  have hcellA : T1.heap[T.heap.size]? = some (freshCell cX kX) := by rw [← hT1]; exact State.heap_pushCell_size _ _
  have d3' : decode c.code (pc + 3) = .ok (.dup, 1) := by rw [hb]; exact d3
  have d4' : decode c.code (pc + 4) = .ok (.ldc_w is, 3) := by rw [hb]; exact d4
  have hstr' : vk_R own is text sa s' := vk_R.warm hW0 hstr
  obtain ⟨U, hsteps, hrun, hend, hW, hsame, ce, hce, hO⟩ := X₁.ctorThrowS hexec htr (own := own) (cls := cls) (names := names) (ic := ic) hown' hcls hnames h (fun x hx => nomatch hx) hfX hkX hcellA (by rw [hhp, hT]; exact Nat.le_refl _) (msg := .ref sa) rfl
    (g := { method := m, pc := pc + 7, locals := ls, stack := .ref sa :: .ref T.heap.size :: .ref T.heap.size :: rest, locked := none }) rfl hsize rfl rfl (rest := rest) rfl
    (by rw [hb]; exact d7) (by rw [hb]; exact d10) hout hRframes (by simp only [List.map_cons, List.sum_cons, hcat]; omega) hlocks
  obtain ⟨f1, f2⟩ := vx_frame hsame
  rw [hhp] at f1 f2
  have hWs : s.WarmedH U.vm := State.WarmedH.trans hW0 hW
  have hcl : s.vm.findClass cls = some ce.cls := by
    have h9 := hO.cls
    rw [hvm] at h9
    exact h9
  have hall : s.sameButNew ({ U with vm := s.vm } : State) locs mc ms := by
    subst hA
    obtain ⟨e1, e2⟩ := hsame
    rw [State.setFrames_setFrames] at e1
    have h2 : (T.setVm s.vm).sameButNew ({ U with vm := s.vm } : State) [] (0 + 1) (0 + 6) := ⟨e1, e2⟩
    have h3 := X.same.trans h2
    rw [List.append_nil] at h3
    exact h3.mono hc hs
  refine ⟨U, ?_, .threw T.heap.size, hrun, hend, Or.inr ⟨T.heap.size, rfl, cls, ce, locs, hx U hWs.alike f1 (fun q hq => f2 q hq (fun z hz => nomatch hz)), hce, hO.vm, hcl, hWs, hall, hf⟩⟩
  refine st1 _ ?_
  show Steps p.tables e below (T1.setTop { method := m, pc := pc + 3, locals := ls, stack := .ref T.heap.size :: rest, locked := none }) _
  jvm_step X₁.here [X₁.here.top, hexec, d3', Value.category]
  exact X₁.ldcStringW hexec (own := own) (text := text) (index := is) (a := sa) hown' hstr'.1 hstr'.2
    (g := { method := m, pc := pc + 4, locals := ls, stack := .ref T.heap.size :: .ref T.heap.size :: rest, locked := none }) rfl d4' _ hsteps
end Ends
section Bodies
variable {l : Launch}
theorem vx_ofW {y : MethodName} {ws ws' : List Cond} {rm : Room} {Pc : Array Value → State → Prop} {Qc : Array Value → State → Outcome → State → Prop} {XC : String → State → State → Prop} {mc ms : Nat} {free : Addr → Prop} {cc : ByteArray} {maxL : Nat} {ret : Option FieldType}
    (hy : plainName y.cls = true) (hw : ws = Cond.code y cc maxL ret :: ws')
    (body : ∀ p e s m args below meth c s₁, BodyLoose p l y (headSpec ws rm) cc maxL ret e s m args below meth c s₁ → c.maxLocals = maxL → (∀ x ∈ c.exceptionTable.toList, False) → Pc args s →
      W p l e (headSpec ws rm).room s m args below meth c s.heap [] 0 0 (vx_MQ below Qc XC args s mc ms free) (entryFrame m args maxL)) : vx_Met l y ws rm Pc Qc XC mc ms free := by
  refine MetFree.of_bodyS (code := cc) (maxLocals := maxL) (ret := ret) hy ?_ ?_
  · intro args s m h hn
    obtain ⟨meth, c, h1, h2, h3, h4, h5, h6, -, -⟩ := Cond.code_spec hn (atoms_spec (ws := ws) h _ (by rw [hw]; exact List.mem_cons_self))
    exact ⟨meth, c, h1, h2, h3, h4, h5, h6⟩
  · intro p e s m args below meth c s₁ B hml hP _
    have hh0 : s₁.heap = s.heap := by rw [B.state]; rfl
    have ht : ∀ x ∈ c.exceptionTable.toList, False := by
      obtain ⟨meth9, c9, h1, h2, -, -, -, -, h7, -⟩ := Cond.code_spec B.named (atoms_spec (ws := ws) B.pre _ (by rw [hw]; exact List.mem_cons_self))
      cases Option.some.inj (h1.symm.trans B.method)
      cases Option.some.inj (h2.symm.trans (Stand.of_body B).code)
      intro x hx
      rw [Array.isEmpty_iff.mp h7] at hx
      cases hx
    obtain ⟨t, a1, o, b1, b2, b3⟩ := body p e s m args below meth c s₁ B hml ht hP s₁ hh0 (Stand.of_body B)
    exact ⟨t, o, a1, b1, b2, b3⟩
/-- the table of a body with handlers -/
theorem vx_table {p : Program} {x y : MethodName} {S : Spec} {cc bytes : ByteArray} {maxL maxL' : Nat} {ret ret' : Option FieldType} {e : Env} {s s₁ : State} {m : MethodId} {args : Array Value} {below : List Frame} {meth : Method} {c : Code} {hh : List (Nat × Nat × Nat × Nat)}
    (B : BodyLoose p l y S cc maxL ret e s m args below meth c s₁) (h : (Cond.codeWith y bytes maxL' ret' hh).before args s = true) : c.exceptionTable.toList = tableOf hh := by
  obtain ⟨m9, meth9, c9, hn9, h1, h2, -, -, h6, -⟩ := Cond.codeWith_spec h
  cases Option.some.inj (hn9.symm.trans B.named)
  cases Option.some.inj (h1.symm.trans B.method)
  cases Option.some.inj (h2.symm.trans (Stand.of_body B).code)
  rw [← h6, table_eq]
end Bodies
end VXA
/-! ===== END ===== -/
/-! ===== BEGIN a static call of a method with an exception table ===== -/
section VXS
variable {p : Program} {l : Launch} {e : Env} {R : Room} {s : State} {m : MethodId} {args : Array Value} {below : List Frame} {meth : Method} {c : Code} {T : State} {H : Heap} {locs : List Loc} {cells slots : Nat}
abbrev vx_CSW (R : Room) (s : State) (args : Array Value) (own : String) (index : Nat) (y : MethodName) (bytes : ByteArray) (maxL : Nat) (ret : Option FieldType) (hh : List (Nat × Nat × Nat × Nat)) (ws : List Cond) (rm : Room) (mc ms n : Nat) : Prop :=
  (rm.cells = mc ∧ rm.slots = ms ∧ rm.frames + 1 ≤ R.frames ∧ 8 + (maxL + 11) + rm.locals ≤ R.locals ∧ (∀ w ∈ ws, ∀ (a' : Array Value) (U : State), s.WarmedH U.vm → w.before a' U = true) ∧ Cond.codeWith y bytes maxL ret hh ∈ ws) ∧
  (Cond.codeWith y bytes maxL ret hh).before args s = true ∧ (Cond.initialized y.cls).before args s = true ∧ (y.cls ≠ "java/lang/invoke/MethodHandle" ∧ y.cls ≠ "java/lang/invoke/VarHandle") ∧
  (∀ sig, parseMethodDescriptor y.desc = some sig → n = sig.parameters.length) ∧ (Cond.methodLink own index y).before args s = true ∧ (Cond.static y).before args s = true
theorem vx_cwSW {own : String} {index maxL mc ms : Nat} {y : MethodName} {bytes : ByteArray} {ret : Option FieldType} {hh : List (Nat × Nat × Nat × Nat)} {Ts ws ws' : List Cond} {rm : Room} (n : Nat) (ht : ∀ w ∈ Ts, w.before args s = true) (hT : GoodIn Ts (va_wsS own index y ws)) (hw : ws = Cond.codeWith y bytes maxL ret hh :: ws') (hrc : rm.cells = mc) (hrs : rm.slots = ms)
    (hd : y.cls ≠ "java/lang/invoke/MethodHandle" ∧ y.cls ≠ "java/lang/invoke/VarHandle" ∧ (parseMethodDescriptor y.desc).map (fun d => d.parameters.length) = some n) (hR : rm.frames + 1 ≤ R.frames ∧ 8 + (maxL + 11) + rm.locals ≤ R.locals) :
    vx_CSW R s args own index y bytes maxL ret hh ws rm mc ms n := by
  have ok : ∀ w ∈ va_wsS own index y ws, w.before args s = true := fun w h => ht w (hT w h).1
  have hG : GoodIn Ts ws := fun w h => hT w (by unfold va_wsS; exact List.mem_append_right _ h)
  have hc : Cond.codeWith y bytes maxL ret hh ∈ ws := by rw [hw]; exact List.mem_cons_self
  refine ⟨⟨hrc, hrs, hR.1, hR.2, pay_in ht hG, hc⟩, ht _ (hG _ hc).1, ok _ (by simp [va_wsS]), ⟨hd.1, hd.2.1⟩, fun sig h => ?_, ok _ (by simp [va_wsS]), ok _ (by simp [va_wsS])⟩
  have h2 := hd.2.2
  rw [h] at h2
  exact (Option.some.inj h2).symm
theorem vx_callSW (X : Stand p l e R s m args below meth c T locs cells slots) (hexec : p.tables.exec = Jvm.exec) {own : String} {index : Nat} {y : MethodName} {bytes : ByteArray} {maxL : Nat} {ret : Option FieldType} {hh : List (Nat × Nat × Nat × Nat)}
    (hown : s.vm.findClass own = some m.cls) (hlink : (Cond.methodLink own index y).before args s = true) (hstat : (Cond.static y).before args s = true) (hinit : (Cond.initialized y.cls).before args s = true)
    (hcode : (Cond.codeWith y bytes maxL ret hh).before args s = true) (hy : y.cls ≠ "java/lang/invoke/MethodHandle" ∧ y.cls ≠ "java/lang/invoke/VarHandle")
    {W9 : Nat} {Pre : Pt → Array Value → Prop} {Post : Pt → Array Value → Option Value → Pt → Prop} (hK : Back l R p e below s args y 3 W9 Pre Post)
    {g : JFrame} (hg : g.method = m) (hsize : g.locals.size = c.maxLocals) {argsL rest : List Value} (hlen : ∀ sig, parseMethodDescriptor y.desc = some sig → argsL.length = sig.parameters.length)
    (hstack : g.stack = argsL.reverse ++ rest) (hW : 2 * g.monitorRoom + (rest.map fun v => v.category).sum ≤ W9) (hdg : decode c.code g.pc = .ok (.invokestatic index, 3))
    (hpre : ∀ vm₁, s.WarmedH vm₁ → Pre ⟨T.setVm vm₁, locs, cells, slots⟩ argsL.toArray) :
    ∃ (v : Option Value) (vm₁ : Vm) (B : Pt), s.WarmedH vm₁ ∧ Stand p l e R s m args below meth c B.U B.locs B.cells B.slots ∧ Post ⟨T.setVm vm₁, locs, cells, slots⟩ argsL.toArray v B ∧
      ∀ target, Steps p.tables e below (B.U.setTop { g with pc := g.pc + 3, stack := v.toList ++ rest }) target → Steps p.tables e below (T.setTop g) target := by
  obtain ⟨mk, methM, cM, hnamed, hmethM, -, -, -, -, -, -, hsigM⟩ := Cond.codeWith_spec hcode
  have hstatic : methM.isStatic = true := Cond.static_spec hnamed hmethM hstat
  obtain ⟨kP, hkP, -⟩ := className_of_methodNamed hnamed
  have hinitP : kP.init = .initialized := Cond.initialized_spec (findClass_of_methodNamed hnamed) hkP hinit
  obtain ⟨vm₁, X₁, hstep₁⟩ := X.invokestatic hexec hown hlink hnamed hmethM hstatic hkP hinitP hy (g := g) hg (argsL := argsL) (rest := rest) (hlen _ hsigM) hstack hdg
  obtain ⟨v, B, X', hpost, hsteps⟩ := hK m meth c ⟨T.setVm vm₁, locs, cells, slots⟩ { g with stack := rest } (.invokestatic index) mk argsL.toArray X₁ hg hsize hdg hW (X₁.named hnamed) (hpre vm₁ X₁.warmed)
  exact ⟨v, vm₁, B, X₁.warmed, X', hpost, fun target h => hstep₁ _ fun acts => by rw [doInvoke_state]; exact hsteps.trans h⟩
theorem vx_runSW {y : MethodName} {bytes cc : ByteArray} {maxL nL mc ms n index : Nat} {ret : Option FieldType} {hh : List (Nat × Nat × Nat × Nat)} {ws : List Cond} {rm : Room} {Pc : Array Value → State → Prop} {Qc : Array Value → State → Outcome → State → Prop} {free : Addr → Prop} {Ts : List Cond} {own : String} {As rest : List Value} {g : JFrame}
    (S : CallFix p m c cc nL s args Ts own) (hM : Met l y ws rm Pc Qc mc ms free) (cw : vx_CSW R s args own index y bytes maxL ret hh ws rm mc ms n) (hp : PreS s H Pc As)
    (hg : g.method = m) (hn : As.length = n) (hsize : g.locals.size = nL) (hstack : g.stack = As.reverse ++ rest) (hW : 2 * g.monitorRoom + (rest.map fun v => v.category).sum ≤ 8) (hdg : decode cc g.pc = .ok (.invokestatic index, 3)) (hf : cells + mc ≤ R.cells ∧ slots + ms ≤ R.slots) :
    va_Run p l e R s m args below meth c H locs cells slots mc ms g rest (Qc As.toArray) (free) := by
  obtain ⟨⟨hrc, hrs, hfr, hlo, hws, hcw⟩, hcode, hini, hy, hlen, hl, hstt⟩ := cw
  have hK : Back l R p e below s args y 3 8 (PreOf R mc ms Pc) (PostOf Qc mc ms free) := va_backW (hh := hh) (bytes := bytes) (maxL := maxL) (ret := ret) hM hp.1 hrc hrs hfr hlo hws hcw (fun a' U hW => word_at hW (Or.inl (by first | rfl | simp [Cond.onTables, Cond.keeps, Cond.steady])) hini)
  obtain ⟨hx, hb, hml, ho, -⟩ := S
  intro T hT X
  obtain ⟨v, vm₁, ⟨U', l2, c2, s2⟩, hW₁, X', ⟨g', mk, t, L, e1, e2, hq, h1, hL, h2, h3⟩, st⟩ := vx_callSW X hx (hh := hh) (bytes := bytes) (maxL := maxL) (ret := ret) ho hl hstt hini hcode hy hK hg (hsize.trans hml.symm) (argsL := As) (rest := rest) (fun sig h => hn.trans (hlen sig h)) hstack hW (by rw [hb]; exact hdg)
    (fun vm₁ hW₁ => ⟨hf.1, hf.2, hp.2 (T.setVm vm₁) hT hW₁⟩)
  dsimp only [Pt.U, Pt.locs, Pt.cells, Pt.slots] at X' e1 e2 h1 h2 h3 st
  subst h1; subst h2; subst h3
  exact ⟨v, (T.setVm vm₁).calling g' mk As.toArray, t, U', L, hT, X', hL, e1, e2, hq, st⟩
/-- not caught here, past rows that name other classes: it goes on to the caller -/
theorem vx_outP {p : Program} {l : Launch} {e : Env} {R : Room} {s : State} {m : MethodId} {args : Array Value} {below : List Frame} {meth : Method} {c : Code} {H : Heap} {locs : List Loc} {cells slots : Nat} {free : Addr → Prop} {ls : Array Slot} {rest : List Value} {Qc : Array Value → State → Outcome → State → Prop} {XC : String → State → State → Prop}
    {pc : Nat} {own E : String} {ce : Cell} {q : Addr} {mc ms : Nat} (hown : s.vm.findClass own = some m.cls) (hlocks : meth.locks = false)
    (hpass : ∀ z ∈ c.exceptionTable.toList, covers z pc = false ∨ (z.catchType ≠ 0 ∧ ∃ nm : String, (Cond.classLink own z.catchType nm).before args s = true ∧ va_Nc E nm s)) (hcell : H[q]? = some ce) (hv : ce.vm = .none) (hcl : s.vm.findClass E = some ce.cls)
    (hx : ∀ t : State, t.heap = H → s.vm.Alike t.vm → XC E s t) (hf : ∀ z ∈ locs, free z.base) (hc : cells ≤ mc) (hs : slots ≤ ms) :
    vx_W p l e R s m args below meth c H locs cells slots (vx_MQ below Qc XC args s mc ms free) (F0 m pc ls rest) q := by
  intro T hT X
  have hpl : e.platform.magicAccessors = ({} : Platform).magicAccessors := by rw [X.admits.platform]
  obtain ⟨vm', hW', X', st⟩ := X.outThrough hlocks q (g := F0 m pc ls rest) rfl rfl rfl (cell := ce) (by rw [hT]; exact hcell) (by rw [hv]; rfl)
    (by obtain ⟨k9, h9, -⟩ := Vm.findClass_spec hcl; exact ⟨k9, h9⟩) (fun z hz => by
      rcases hpass z hz with h | ⟨hz0, nm, hl1, hn1⟩
      · exact Or.inl h
      · obtain ⟨c6, hc6, hcl6⟩ := Cond.classLink_spec hown hl1 e.platform hpl
        obtain ⟨a8, b8, h1, h2, h3⟩ := hn1
        cases Option.some.inj (h1.symm.trans hcl)
        cases Option.some.inj (h2.symm.trans hc6)
        exact Or.inr ⟨hz0, _, hcl6, h3⟩)
  obtain ⟨g₀, hfr⟩ := X'.frames_eq
  have hcell9 : ((T.setVm vm').setFrames (.throwing q :: below)).heap[q]? = some ce := by
    show T.heap[q]? = some ce
    rw [hT]; exact hcell
  have hend : Ended ((T.setVm vm').setFrames (.throwing q :: below)) below (.threw q) := State.frames_setFrames _ (State.cur_lt_of_frames hfr)
  refine ⟨(T.setVm vm').setFrames (.throwing q :: below), ?_, .threw q, X'.here.running, hend, Or.inr ⟨q, rfl, E, ce, locs, hx _ hT (X'.ends _).1.alike, hcell9, hv, hcl, (X'.ends _).1, (X'.ends _).2.mono hc hs, hf⟩⟩
  rw [X.pushThrowing_eq]
  exact st
/-- a thing of a world lies in the heap -/
theorem vx_lt {D : va_G} {cl : List vw_C} {ws : va_W} {H1 : Heap} (h : va_P D cl ws H1) {k : Nat} {q : Nat × va_E} (hk : ws[k]? = some q) : q.1 < H1.size := (h k q hk).lt
end VXS
/-! ===== END ===== -/
/-! ===== BEGIN methods with a table of their own: called by a name, returning or throwing ===== -/
section VXH
/-! vx_backW, vx_callVX, vx_callSX, vx_callVW, vx_runVW, vx_runVX, vx_runSX, vx_ofWH follow the same proofs as their sisters above (Free/Laws.lean, Shelf42/LK1.lean); vx_outP calls Shelf42/NT130.lean (outThrough). -/
section
variable {l : Launch} {R : Room} {p : Program} {e : Env} {below : List Frame} {s : State} {sargs : Array Value} {y : MethodName} {len W9 : Nat}
theorem vx_backW {ws : List Cond} {rm : Room} {Pc : Array Value → State → Prop} {Qc : Array Value → State → Outcome → State → Prop} {XC : String → State → State → Prop} {mc ms : Nat} {free : Addr → Prop} {bytes : ByteArray} {maxL : Nat} {ret : Option FieldType} {hh : List (Nat × Nat × Nat × Nat)}
    (hM : vx_Met l y ws rm Pc Qc XC mc ms free) (hblind : FrameBlind Pc) (hrc : rm.cells = mc) (hrs : rm.slots = ms)
    (hframes : rm.frames + 1 ≤ R.frames) (hlocals : W9 + (maxL + 11) + rm.locals ≤ R.locals)
    (hws : ∀ w ∈ ws, ∀ a' U, s.WarmedH U.vm → w.before a' U = true) (hcode : Cond.codeWith y bytes maxL ret hh ∈ ws) (hinit : ∀ a' U, s.WarmedH U.vm → (Cond.initialized y.cls).before a' U = true) :
    vx_Back l R p e below s sargs y len W9 (PreOf R mc ms Pc) (PostOf Qc mc ms free) (vx_Post XC mc ms free) := by
  intro m meth c A g ig mk a X hg hsize hdg hW hn hp
  have h1 : (headSpec ws rm).pre.before a A.U = true := atoms_intro fun w hw => hws w hw _ _ X.warmed
  have h2 : (Cond.codeWith y bytes maxL ret hh).before a A.U = true := hws _ hcode _ _ X.warmed
  have h3 : (Cond.initialized y.cls).before a A.U = true := hinit _ _ X.warmed
  have h4 : A.cells + (headSpec ws rm).room.cells ≤ R.cells := by rw [show (headSpec ws rm).room.cells = mc from hrc]; exact hp.1
  have h5 : A.slots + (headSpec ws rm).room.slots ≤ R.slots := by rw [show (headSpec ws rm).room.slots = ms from hrs]; exact hp.2.1
  have hPc : Pc a (A.U.calling g mk a) := hblind _ _ _ _ hp.2.2
  obtain ⟨U, Ls, c0, s0⟩ := A
  dsimp only [Pt.U, Pt.locs, Pt.cells, Pt.slots] at h1 h2 h3 h4 h5 X hn hPc ⊢
  obtain ⟨m9, methY, cY, hn9, hmY, hcY, -, hlY, -⟩ := Cond.codeWith_spec h2
  cases Option.some.inj (hn9.symm.trans hn)
  obtain ⟨kY, hkY, -⟩ := className_of_methodNamed hn
  have hinitY : kY.init = .initialized := Cond.initialized_spec (findClass_of_methodNamed hn) hkY h3
  have h : At U g.method c below := by rw [hg]; exact X.here
  have hlocals9 : W9 + (maxL + 11) + (headSpec ws rm).room.locals ≤ R.locals := hlocals
  have happ : (headSpec ws rm).appliesLoose y e.platform (U.calling g mk a) = true :=
    Spec.appliesLoose_calling (g := g) h hdg hn hkY hinitY
      (X.room_calling (g := g) (R' := (headSpec ws rm).room) hsize hmY hcY hframes (by rw [hlY]; omega) h4 h5) h1
  obtain ⟨mid, hmid⟩ := h.above
  have hfr : (U.setTop g).frames = (.java g :: mid) ++ below := by rw [State.frames_setTop' g h.top, hmid]; rfl
  obtain ⟨o, s₂, hsteps, -, hend, hq⟩ := Steps.callFree hM p X.admits X.cas X.clock (acts := []) hfr happ hPc trivial
  have hq' : vx_Q Qc XC mc ms free a (U.calling g mk a) o s₂ := hq
  rw [State.frames_setTop' g h.top] at hend
  obtain ⟨g₀, hg0⟩ := Option.isSome_iff_exists.mp h.top
  obtain ⟨r, hr⟩ := State.topJava?_eq_some.mp hg0
  have hr' : (({ U with heap := s₂.heap, slotsUsed := s₂.slotsUsed } : State).setVm s₂.vm).frames = .java g₀ :: r := hr
  rcases hq' with ⟨hqc, L, hfe, hL⟩ | ⟨q, rfl, E, ce, L, hx, hce, hcv, hcl, hW₂, hsm, hL⟩
  · obtain ⟨⟨v, rfl⟩, hW₂, e2, q2, q3, q4, q5, q6⟩ := id hfe
    have e3 : s₂ = ({ (U.calling g mk a).setFrames s₂.frames with heap := s₂.heap, slotsUsed := s₂.slotsUsed } : State).setVm s₂.vm := by
      have : s₂ = ({ s₂ with vm := (U.calling g mk a).vm } : State).setVm s₂.vm := rfl
      rw [e2] at this
      exact this
    obtain ⟨c₂, i₂, len₂, hc₂, hd₂, hf₂⟩ := hend
    have hW' : U.WarmedH s₂.vm := hW₂
    have hcc : c₂ = c := by
      have h1 : s₂.code? g.method = U.code? g.method := by
        rw [State.code?_eq, State.code?_eq, hW'.alike.method?]
      exact Option.some.inj (hc₂.symm.trans (h1.trans h.code))
    subst hcc
    have hlen : len₂ = len := by rw [hdg] at hd₂; cases hd₂; rfl
    subst hlen
    have hs₂ : s₂ = (({ U with heap := s₂.heap, slotsUsed := s₂.slotsUsed } : State).setVm s₂.vm).setTop { g with pc := g.pc + len₂, stack := v.toList ++ g.stack } := by
      refine e3.trans ?_
      rw [hf₂, State.calling_eq h.top, State.setFrames_setFrames, State.setTop_of_frames _ hr', hr]
      rfl
    have hsame : U.sameButNew ({ U with heap := s₂.heap, slotsUsed := s₂.slotsUsed } : State) L mc ms := by
      refine ⟨?_, q2, q3, q4, q5, q6⟩
      obtain ⟨t, ht, -⟩ := State.frames_cons hr
      show ({ U with heap := s₂.heap, slotsUsed := s₂.slotsUsed } : State) = { U.setFrames U.frames with heap := s₂.heap, slotsUsed := s₂.slotsUsed }
      rw [State.setFrames_self ht]
    subst hg
    refine Or.inl ⟨v, ⟨(({ U with heap := s₂.heap, slotsUsed := s₂.slotsUsed } : State).setVm s₂.vm), Ls ++ L, c0 + mc, s0 + ms⟩,
      ⟨X.admits, X.cas, X.clock, X.frames, X.room, X.hears, X.method, X.code, (X.here.setHeapUsed s₂.heap s₂.slotsUsed).setVm hW'.alike, X.tail, State.WarmedH.trans X.warmed hW', X.limits, X.bytes, X.same.trans (hsame.setVm s.vm)⟩,
      ⟨g, mk, s₂, L, rfl, rfl, hqc, rfl, hL, rfl, rfl⟩, ?_⟩
    show Steps p.tables e below _ ((({ U with heap := s₂.heap, slotsUsed := s₂.slotsUsed } : State).setVm s₂.vm).setTop { g with pc := g.pc + len₂, stack := v.toList ++ g.stack })
    rw [← hs₂]
    exact hsteps
  · obtain ⟨e2, q2, q3, q4, q5, q6⟩ := id hsm
    have e3 : s₂ = ({ (U.calling g mk a).setFrames s₂.frames with heap := s₂.heap, slotsUsed := s₂.slotsUsed } : State).setVm s₂.vm := by
      have : s₂ = ({ s₂ with vm := (U.calling g mk a).vm } : State).setVm s₂.vm := rfl
      rw [e2] at this
      exact this
    have hf₂ : s₂.frames = .throwing q :: .java g :: U.frames.tail := hend
    have hW' : U.WarmedH s₂.vm := hW₂
    have hs₂ : s₂ = ((({ U with heap := s₂.heap, slotsUsed := s₂.slotsUsed } : State).setVm s₂.vm).setTop g).pushFrame (.throwing q) := by
      refine e3.trans ?_
      rw [hf₂, State.calling_eq h.top, State.setFrames_setFrames, State.pushFrame, State.frames_setTop _ hr', State.setTop_of_frames _ hr', State.setFrames_setFrames, hr]
      rfl
    have hsame : U.sameButNew ({ U with heap := s₂.heap, slotsUsed := s₂.slotsUsed } : State) L mc ms := by
      refine ⟨?_, q2, q3, q4, q5, q6⟩
      obtain ⟨t, ht, -⟩ := State.frames_cons hr
      show ({ U with heap := s₂.heap, slotsUsed := s₂.slotsUsed } : State) = { U.setFrames U.frames with heap := s₂.heap, slotsUsed := s₂.slotsUsed }
      rw [State.setFrames_self ht]
    subst hg
    refine Or.inr ⟨q, ⟨(({ U with heap := s₂.heap, slotsUsed := s₂.slotsUsed } : State).setVm s₂.vm), Ls ++ L, c0 + mc, s0 + ms⟩,
      ⟨X.admits, X.cas, X.clock, X.frames, X.room, X.hears, X.method, X.code, (X.here.setHeapUsed s₂.heap s₂.slotsUsed).setVm hW'.alike, X.tail, State.WarmedH.trans X.warmed hW', X.limits, X.bytes, X.same.trans (hsame.setVm s.vm)⟩,
      ⟨g, mk, s₂, L, E, ce, rfl, rfl, hx, hce, hcv, hcl, rfl, hL, rfl, rfl⟩, ?_⟩
    show Steps p.tables e below _ (((({ U with heap := s₂.heap, slotsUsed := s₂.slotsUsed } : State).setVm s₂.vm).setTop g).pushFrame (.throwing q))
    rw [← hs₂]
    exact hsteps
end
variable {p : Program} {l : Launch} {e : Env} {R : Room} {s : State} {m : MethodId} {args : Array Value} {below : List Frame} {meth : Method} {c : Code} {T : State} {H : Heap} {locs : List Loc} {cells slots : Nat}
theorem vx_callVX (X : Stand p l e R s m args below meth c T locs cells slots) (hexec : p.tables.exec = Jvm.exec) {own C : String} {index : Nat} {y : MethodName} {bytes : ByteArray} {maxL : Nat} {ret : Option FieldType} {hh : List (Nat × Nat × Nat × Nat)}
    (hown : s.vm.findClass own = some m.cls) (hlink : (Cond.methodLink own index y).before args s = true) (hinst : (Cond.instanceMethod y).before args s = true) (hsel : (Cond.selects C y y).before args s = true)
    (hcode : (Cond.codeWith y bytes maxL ret hh).before args s = true) (hy : y.cls ≠ "java/lang/invoke/MethodHandle" ∧ y.cls ≠ "java/lang/invoke/VarHandle")
    {W9 : Nat} {Pre : Pt → Array Value → Prop} {Post : Pt → Array Value → Option Value → Pt → Prop} {PostX : Pt → Array Value → Addr → Pt → Prop} (hK : vx_Back l R p e below s args y 3 W9 Pre Post PostX)
    {b : Addr} {cellB : Cell} (hcell : T.heap[b]? = some cellB) (hobj : cellB.vm.isStatics = false) (hcls : s.vm.findClass C = some cellB.cls)
    {g : JFrame} (hg : g.method = m) (hsize : g.locals.size = c.maxLocals) {argsL rest : List Value} (hlen : ∀ sig, parseMethodDescriptor y.desc = some sig → argsL.length = sig.parameters.length)
    (hstack : g.stack = argsL.reverse ++ .ref b :: rest) (hW : 2 * g.monitorRoom + (rest.map fun v => v.category).sum ≤ W9) (hdg : decode c.code g.pc = .ok (.invokevirtual index, 3))
    (hpre : ∀ vm₁, s.WarmedH vm₁ → Pre ⟨T.setVm vm₁, locs, cells, slots⟩ (Value.ref b :: argsL).toArray) :
    (∃ (v : Option Value) (vm₁ : Vm) (B : Pt), s.WarmedH vm₁ ∧ Stand p l e R s m args below meth c B.U B.locs B.cells B.slots ∧ Post ⟨T.setVm vm₁, locs, cells, slots⟩ (Value.ref b :: argsL).toArray v B ∧
      ∀ target, Steps p.tables e below (B.U.setTop { g with pc := g.pc + 3, stack := v.toList ++ rest }) target → Steps p.tables e below (T.setTop g) target) ∨
    (∃ (q : Addr) (vm₁ : Vm) (B : Pt), s.WarmedH vm₁ ∧ Stand p l e R s m args below meth c B.U B.locs B.cells B.slots ∧ PostX ⟨T.setVm vm₁, locs, cells, slots⟩ (Value.ref b :: argsL).toArray q B ∧
      Steps p.tables e below (T.setTop g) ((B.U.setTop { g with stack := rest }).pushFrame (.throwing q))) := by
  obtain ⟨mk, methM, hnamed, hmethM, hstM, habM⟩ := Cond.instanceMethod_spec hinst
  obtain ⟨m8, methM', cM, hn8, hmethM', -, -, -, -, -, -, hsigM⟩ := Cond.codeWith_spec hcode
  cases Option.some.inj (hn8.symm.trans hnamed)
  cases hmethM.symm.trans hmethM'
  obtain ⟨c2, r2, m2, q1, q2, q3, q4, kP, hkP, hkPi⟩ := Cond.selects_spec hsel
  cases hcls.symm.trans q1
  cases (State.methodFound?_of_named hnamed hy).symm.trans q2
  cases hnamed.symm.trans q3
  have hselP : selectMethod e.platform s.vm cellB.cls mk = .method mk := by rw [Launch.admits_selectMethod X.admits]; exact q4
  obtain ⟨vm₁, X₁, hstep₁⟩ := X.invokevirtual hexec hown hlink hnamed hmethM hstM hkP hkPi hy (a := b) (cell := cellB) hcell
    (fun z h => by rw [h] at hobj; cases hobj) hselP hmethM habM hkP hkPi (g := g) hg (argsL := argsL) (rest := rest) (hlen _ hsigM) hstack hdg
  rcases hK m meth c ⟨T.setVm vm₁, locs, cells, slots⟩ { g with stack := rest } (.invokevirtual index) mk (Value.ref b :: argsL).toArray X₁ hg hsize hdg hW (X₁.named hnamed) (hpre vm₁ X₁.warmed) with ⟨v, B, X', hpost, hsteps⟩ | ⟨q, B, X', hpost, hsteps⟩
  · exact Or.inl ⟨v, vm₁, B, X₁.warmed, X', hpost, fun target h => hstep₁ _ fun acts => by rw [doInvoke_state]; exact hsteps.trans h⟩
  · exact Or.inr ⟨q, vm₁, B, X₁.warmed, X', hpost, hstep₁ _ fun acts => by rw [doInvoke_state]; exact hsteps⟩
theorem vx_callSX (X : Stand p l e R s m args below meth c T locs cells slots) (hexec : p.tables.exec = Jvm.exec) {own : String} {index : Nat} {y : MethodName} {bytes : ByteArray} {maxL : Nat} {ret : Option FieldType} {hh : List (Nat × Nat × Nat × Nat)}
    (hown : s.vm.findClass own = some m.cls) (hlink : (Cond.methodLink own index y).before args s = true) (hstat : (Cond.static y).before args s = true) (hinit : (Cond.initialized y.cls).before args s = true)
    (hcode : (Cond.codeWith y bytes maxL ret hh).before args s = true) (hy : y.cls ≠ "java/lang/invoke/MethodHandle" ∧ y.cls ≠ "java/lang/invoke/VarHandle")
    {W9 : Nat} {Pre : Pt → Array Value → Prop} {Post : Pt → Array Value → Option Value → Pt → Prop} {PostX : Pt → Array Value → Addr → Pt → Prop} (hK : vx_Back l R p e below s args y 3 W9 Pre Post PostX)
    {g : JFrame} (hg : g.method = m) (hsize : g.locals.size = c.maxLocals) {argsL rest : List Value} (hlen : ∀ sig, parseMethodDescriptor y.desc = some sig → argsL.length = sig.parameters.length)
    (hstack : g.stack = argsL.reverse ++ rest) (hW : 2 * g.monitorRoom + (rest.map fun v => v.category).sum ≤ W9) (hdg : decode c.code g.pc = .ok (.invokestatic index, 3))
    (hpre : ∀ vm₁, s.WarmedH vm₁ → Pre ⟨T.setVm vm₁, locs, cells, slots⟩ argsL.toArray) :
    (∃ (v : Option Value) (vm₁ : Vm) (B : Pt), s.WarmedH vm₁ ∧ Stand p l e R s m args below meth c B.U B.locs B.cells B.slots ∧ Post ⟨T.setVm vm₁, locs, cells, slots⟩ argsL.toArray v B ∧
      ∀ target, Steps p.tables e below (B.U.setTop { g with pc := g.pc + 3, stack := v.toList ++ rest }) target → Steps p.tables e below (T.setTop g) target) ∨
    (∃ (q : Addr) (vm₁ : Vm) (B : Pt), s.WarmedH vm₁ ∧ Stand p l e R s m args below meth c B.U B.locs B.cells B.slots ∧ PostX ⟨T.setVm vm₁, locs, cells, slots⟩ argsL.toArray q B ∧
      Steps p.tables e below (T.setTop g) ((B.U.setTop { g with stack := rest }).pushFrame (.throwing q))) := by
  obtain ⟨mk, methM, cM, hnamed, hmethM, -, -, -, -, -, -, hsigM⟩ := Cond.codeWith_spec hcode
  have hstatic : methM.isStatic = true := Cond.static_spec hnamed hmethM hstat
  obtain ⟨kP, hkP, -⟩ := className_of_methodNamed hnamed
  have hinitP : kP.init = .initialized := Cond.initialized_spec (findClass_of_methodNamed hnamed) hkP hinit
  obtain ⟨vm₁, X₁, hstep₁⟩ := X.invokestatic hexec hown hlink hnamed hmethM hstatic hkP hinitP hy (g := g) hg (argsL := argsL) (rest := rest) (hlen _ hsigM) hstack hdg
  rcases hK m meth c ⟨T.setVm vm₁, locs, cells, slots⟩ { g with stack := rest } (.invokestatic index) mk argsL.toArray X₁ hg hsize hdg hW (X₁.named hnamed) (hpre vm₁ X₁.warmed) with ⟨v, B, X', hpost, hsteps⟩ | ⟨q, B, X', hpost, hsteps⟩
  · exact Or.inl ⟨v, vm₁, B, X₁.warmed, X', hpost, fun target h => hstep₁ _ fun acts => by rw [doInvoke_state]; exact hsteps.trans h⟩
  · exact Or.inr ⟨q, vm₁, B, X₁.warmed, X', hpost, hstep₁ _ fun acts => by rw [doInvoke_state]; exact hsteps⟩
theorem vx_callVW (X : Stand p l e R s m args below meth c T locs cells slots) (hexec : p.tables.exec = Jvm.exec) {own C : String} {index : Nat} {y : MethodName} {bytes : ByteArray} {maxL : Nat} {ret : Option FieldType} {hh : List (Nat × Nat × Nat × Nat)}
    (hown : s.vm.findClass own = some m.cls) (hlink : (Cond.methodLink own index y).before args s = true) (hinst : (Cond.instanceMethod y).before args s = true) (hsel : (Cond.selects C y y).before args s = true)
    (hcode : (Cond.codeWith y bytes maxL ret hh).before args s = true) (hy : y.cls ≠ "java/lang/invoke/MethodHandle" ∧ y.cls ≠ "java/lang/invoke/VarHandle")
    {W9 : Nat} {Pre : Pt → Array Value → Prop} {Post : Pt → Array Value → Option Value → Pt → Prop} (hK : Back l R p e below s args y 3 W9 Pre Post)
    {b : Addr} {cellB : Cell} (hcell : T.heap[b]? = some cellB) (hobj : cellB.vm.isStatics = false) (hcls : s.vm.findClass C = some cellB.cls)
    {g : JFrame} (hg : g.method = m) (hsize : g.locals.size = c.maxLocals) {argsL rest : List Value} (hlen : ∀ sig, parseMethodDescriptor y.desc = some sig → argsL.length = sig.parameters.length)
    (hstack : g.stack = argsL.reverse ++ .ref b :: rest) (hW : 2 * g.monitorRoom + (rest.map fun v => v.category).sum ≤ W9) (hdg : decode c.code g.pc = .ok (.invokevirtual index, 3))
    (hpre : ∀ vm₁, s.WarmedH vm₁ → Pre ⟨T.setVm vm₁, locs, cells, slots⟩ (Value.ref b :: argsL).toArray) :
    ∃ (v : Option Value) (vm₁ : Vm) (B : Pt), s.WarmedH vm₁ ∧ Stand p l e R s m args below meth c B.U B.locs B.cells B.slots ∧ Post ⟨T.setVm vm₁, locs, cells, slots⟩ (Value.ref b :: argsL).toArray v B ∧
      ∀ target, Steps p.tables e below (B.U.setTop { g with pc := g.pc + 3, stack := v.toList ++ rest }) target → Steps p.tables e below (T.setTop g) target := by
  obtain ⟨mk, methM, hnamed, hmethM, hstM, habM⟩ := Cond.instanceMethod_spec hinst
  obtain ⟨m8, methM', cM, hn8, hmethM', -, -, -, -, -, -, hsigM⟩ := Cond.codeWith_spec hcode
  cases Option.some.inj (hn8.symm.trans hnamed)
  cases hmethM.symm.trans hmethM'
  obtain ⟨c2, r2, m2, q1, q2, q3, q4, kP, hkP, hkPi⟩ := Cond.selects_spec hsel
  cases hcls.symm.trans q1
  cases (State.methodFound?_of_named hnamed hy).symm.trans q2
  cases hnamed.symm.trans q3
  have hselP : selectMethod e.platform s.vm cellB.cls mk = .method mk := by rw [Launch.admits_selectMethod X.admits]; exact q4
  obtain ⟨vm₁, X₁, hstep₁⟩ := X.invokevirtual hexec hown hlink hnamed hmethM hstM hkP hkPi hy (a := b) (cell := cellB) hcell
    (fun z h => by rw [h] at hobj; cases hobj) hselP hmethM habM hkP hkPi (g := g) hg (argsL := argsL) (rest := rest) (hlen _ hsigM) hstack hdg
  obtain ⟨v, B, X', hpost, hsteps⟩ := hK m meth c ⟨T.setVm vm₁, locs, cells, slots⟩ { g with stack := rest } (.invokevirtual index) mk (Value.ref b :: argsL).toArray X₁ hg hsize hdg hW (X₁.named hnamed) (hpre vm₁ X₁.warmed)
  exact ⟨v, vm₁, B, X₁.warmed, X', hpost, fun target h => hstep₁ _ fun acts => by rw [doInvoke_state]; exact hsteps.trans h⟩
abbrev vx_CVW (R : Room) (s : State) (args : Array Value) (own C : String) (index : Nat) (y : MethodName) (bytes : ByteArray) (maxL : Nat) (ret : Option FieldType) (hh : List (Nat × Nat × Nat × Nat)) (ws : List Cond) (rm : Room) (mc ms n : Nat) : Prop :=
  (rm.cells = mc ∧ rm.slots = ms ∧ rm.frames + 1 ≤ R.frames ∧ 8 + (maxL + 11) + rm.locals ≤ R.locals ∧ (∀ w ∈ ws, ∀ (a' : Array Value) (U : State), s.WarmedH U.vm → w.before a' U = true) ∧ Cond.codeWith y bytes maxL ret hh ∈ ws) ∧
  (Cond.codeWith y bytes maxL ret hh).before args s = true ∧ (Cond.initialized y.cls).before args s = true ∧ (y.cls ≠ "java/lang/invoke/MethodHandle" ∧ y.cls ≠ "java/lang/invoke/VarHandle") ∧
  (∀ sig, parseMethodDescriptor y.desc = some sig → n = sig.parameters.length) ∧ (Cond.methodLink own index y).before args s = true ∧ (Cond.instanceMethod y).before args s = true ∧ (Cond.selects C y y).before args s = true
theorem vx_cwVW {own C : String} {index maxL mc ms : Nat} {y : MethodName} {bytes : ByteArray} {ret : Option FieldType} {hh : List (Nat × Nat × Nat × Nat)} {Ts ws ws' : List Cond} {rm : Room} (n : Nat) (ht : ∀ w ∈ Ts, w.before args s = true) (hT : GoodIn Ts (wsV own index C y ws)) (hw : ws = Cond.codeWith y bytes maxL ret hh :: ws') (hrc : rm.cells = mc) (hrs : rm.slots = ms)
    (hd : y.cls = C ∧ y.cls ≠ "java/lang/invoke/MethodHandle" ∧ y.cls ≠ "java/lang/invoke/VarHandle" ∧ (parseMethodDescriptor y.desc).map (fun d => d.parameters.length) = some n) (hR : rm.frames + 1 ≤ R.frames ∧ 8 + (maxL + 11) + rm.locals ≤ R.locals) :
    vx_CVW R s args own C index y bytes maxL ret hh ws rm mc ms n := by
  obtain ⟨hC, hd⟩ := hd
  subst hC
  have ok : ∀ w ∈ wsV own index y.cls y ws, w.before args s = true := fun w h => ht w (hT w h).1
  have hG : GoodIn Ts ws := fun w h => hT w (by unfold wsV; exact List.mem_append_right _ h)
  have hc : Cond.codeWith y bytes maxL ret hh ∈ ws := by rw [hw]; exact List.mem_cons_self
  refine ⟨⟨hrc, hrs, hR.1, hR.2, pay_in ht hG, hc⟩, ht _ (hG _ hc).1, ok _ (by simp [wsV]), ⟨hd.1, hd.2.1⟩, fun sig h => ?_, ok _ (by simp [wsV]), ok _ (by simp [wsV]), ok _ (by simp [wsV])⟩
  have h2 := hd.2.2
  rw [h] at h2
  exact (Option.some.inj h2).symm
theorem vx_runVW {y : MethodName} {bytes cc : ByteArray} {maxL nL mc ms n index : Nat} {ret : Option FieldType} {hh : List (Nat × Nat × Nat × Nat)} {ws : List Cond} {rm : Room} {Pc : Array Value → State → Prop} {Qc : Array Value → State → Outcome → State → Prop} {free : Addr → Prop} {Ts : List Cond} {own C : String} {b : Addr} {As rest : List Value} {g : JFrame}
    (S : CallFix p m c cc nL s args Ts own) (hM : Met l y ws rm Pc Qc mc ms free) (cw : vx_CVW R s args own C index y bytes maxL ret hh ws rm mc ms n) (hp : PreV s H C b Pc As)
    (hg : g.method = m) (hn : As.length = n) (hsize : g.locals.size = nL) (hstack : g.stack = As.reverse ++ .ref b :: rest) (hW : 2 * g.monitorRoom + (rest.map fun v => v.category).sum ≤ 8) (hdg : decode cc g.pc = .ok (.invokevirtual index, 3)) (hf : cells + mc ≤ R.cells ∧ slots + ms ≤ R.slots) :
    va_Run p l e R s m args below meth c H locs cells slots mc ms g rest (Qc (Value.ref b :: As).toArray) free := by
  obtain ⟨⟨hrc, hrs, hfr, hlo, hws, hcw⟩, hcode, hini, hy, hlen, hl, hin, hse⟩ := cw
  have hK : Back l R p e below s args y 3 8 (PreOf R mc ms Pc) (PostOf Qc mc ms free) := va_backW (hh := hh) (bytes := bytes) (maxL := maxL) (ret := ret) hM hp.1 hrc hrs hfr hlo hws hcw (fun a' U hW => word_at hW (Or.inl (by first | rfl | simp [Cond.onTables, Cond.keeps, Cond.steady])) hini)
  obtain ⟨hx, hb, hml, ho, -⟩ := S
  obtain ⟨-, ⟨cellB, hcB, hoB, hclB⟩, hPc⟩ := hp
  intro T hT X
  obtain ⟨v, vm₁, ⟨U', l2, c2, s2⟩, hW₁, X', ⟨g', mk, t, L, e1, e2, hq, h1, hL, h2, h3⟩, st⟩ := vx_callVW X hx (C := C) (hh := hh) (bytes := bytes) (maxL := maxL) (ret := ret) ho hl hin hse hcode hy hK (by rw [hT]; exact hcB) hoB hclB hg (hsize.trans hml.symm) (argsL := As) (rest := rest) (fun sig h => hn.trans (hlen sig h)) hstack hW (by rw [hb]; exact hdg)
    (fun vm₁ hW₁ => ⟨hf.1, hf.2, hPc (T.setVm vm₁) hT hW₁⟩)
  dsimp only [Pt.U, Pt.locs, Pt.cells, Pt.slots] at X' e1 e2 h1 h2 h3 st
  subst h1; subst h2; subst h3
  exact ⟨v, (T.setVm vm₁).calling g' mk (Value.ref b :: As).toArray, t, U', L, hT, X', hL, e1, e2, hq, st⟩
section
variable {y : MethodName} {bytes cc : ByteArray} {maxL nL mc ms n index : Nat} {ret : Option FieldType} {ws : List Cond} {rm : Room} {Pc : Array Value → State → Prop} {Qc : Array Value → State → Outcome → State → Prop} {XC : String → State → State → Prop} {free : Addr → Prop} {Ts : List Cond} {own C : String} {b : Addr} {As rest : List Value} {g : JFrame}
theorem vx_runVX {hh : List (Nat × Nat × Nat × Nat)} (S : CallFix p m c cc nL s args Ts own) (hM : vx_Met l y ws rm Pc Qc XC mc ms free) (cw : vx_CVW R s args own C index y bytes maxL ret hh ws rm mc ms n) (hp : PreV s H C b Pc As)
    (hg : g.method = m) (hn : As.length = n) (hsize : g.locals.size = nL) (hstack : g.stack = As.reverse ++ .ref b :: rest) (hW : 2 * g.monitorRoom + (rest.map fun v => v.category).sum ≤ 8) (hdg : decode cc g.pc = .ok (.invokevirtual index, 3)) (hf : cells + mc ≤ R.cells ∧ slots + ms ≤ R.slots) :
    vx_Run p l e R s m args below meth c H locs cells slots mc ms g rest (Qc (Value.ref b :: As).toArray) XC free := by
  obtain ⟨⟨hrc, hrs, hfr, hlo, hws, hcw⟩, hcode, hini, hy, hlen, hl, hin, hse⟩ := cw
  have hK : vx_Back l R p e below s args y 3 8 (PreOf R mc ms Pc) (PostOf Qc mc ms free) (vx_Post XC mc ms free) := vx_backW (hh := hh) (bytes := bytes) (maxL := maxL) (ret := ret) hM hp.1 hrc hrs hfr hlo hws hcw (fun a' U hW => word_at hW (Or.inl (by first | rfl | simp [Cond.onTables, Cond.keeps, Cond.steady])) hini)
  obtain ⟨hx, hb, hml, ho, -⟩ := S
  obtain ⟨-, ⟨cellB, hcB, hoB, hclB⟩, hPc⟩ := hp
  intro T hT X
  rcases vx_callVX X hx (C := C) (hh := hh) (bytes := bytes) (maxL := maxL) (ret := ret) ho hl hin hse hcode hy hK (by rw [hT]; exact hcB) hoB hclB hg (hsize.trans hml.symm) (argsL := As) (rest := rest) (fun sig h => hn.trans (hlen sig h)) hstack hW (by rw [hb]; exact hdg)
    (fun vm₁ hW₁ => ⟨hf.1, hf.2, hPc (T.setVm vm₁) hT hW₁⟩) with ⟨v, vm₁, ⟨U', l2, c2, s2⟩, hW₁, X', ⟨g', mk, t, L, e1, e2, hq, h1, hL, h2, h3⟩, st⟩ | ⟨q, vm₁, ⟨U', l2, c2, s2⟩, hW₁, X', ⟨g', mk, t, L, E, ce, e1, e2, hq, hce, hcv, hcl, h1, hL, h2, h3⟩, st⟩
  · dsimp only [Pt.U, Pt.locs, Pt.cells, Pt.slots] at X' e1 e2 h1 h2 h3 st
    subst h1; subst h2; subst h3
    exact Or.inl ⟨v, (T.setVm vm₁).calling g' mk (Value.ref b :: As).toArray, t, U', L, hT, X', hL, e1, e2, hq, st⟩
  · dsimp only [Pt.U, Pt.locs, Pt.cells, Pt.slots] at X' e1 e2 h1 h2 h3 st hcl
    subst h1; subst h2; subst h3
    exact Or.inr ⟨q, (T.setVm vm₁).calling g' mk (Value.ref b :: As).toArray, t, U', L, E, ce, hT, X', hL, e1, e2, hq, hce, hcv, vx_cls hW₁ hcl, st⟩
theorem vx_runSX {hh : List (Nat × Nat × Nat × Nat)} (S : CallFix p m c cc nL s args Ts own) (hM : vx_Met l y ws rm Pc Qc XC mc ms free) (cw : vx_CSW R s args own index y bytes maxL ret hh ws rm mc ms n) (hp : PreS s H Pc As)
    (hg : g.method = m) (hn : As.length = n) (hsize : g.locals.size = nL) (hstack : g.stack = As.reverse ++ rest) (hW : 2 * g.monitorRoom + (rest.map fun v => v.category).sum ≤ 8) (hdg : decode cc g.pc = .ok (.invokestatic index, 3)) (hf : cells + mc ≤ R.cells ∧ slots + ms ≤ R.slots) :
    vx_Run p l e R s m args below meth c H locs cells slots mc ms g rest (Qc As.toArray) XC free := by
  obtain ⟨⟨hrc, hrs, hfr, hlo, hws, hcw⟩, hcode, hini, hy, hlen, hl, hstt⟩ := cw
  have hK : vx_Back l R p e below s args y 3 8 (PreOf R mc ms Pc) (PostOf Qc mc ms free) (vx_Post XC mc ms free) := vx_backW (hh := hh) (bytes := bytes) (maxL := maxL) (ret := ret) hM hp.1 hrc hrs hfr hlo hws hcw (fun a' U hW => word_at hW (Or.inl (by first | rfl | simp [Cond.onTables, Cond.keeps, Cond.steady])) hini)
  obtain ⟨hx, hb, hml, ho, -⟩ := S
  intro T hT X
  rcases vx_callSX X hx (hh := hh) (bytes := bytes) (maxL := maxL) (ret := ret) ho hl hstt hini hcode hy hK hg (hsize.trans hml.symm) (argsL := As) (rest := rest) (fun sig h => hn.trans (hlen sig h)) hstack hW (by rw [hb]; exact hdg)
    (fun vm₁ hW₁ => ⟨hf.1, hf.2, hp.2 (T.setVm vm₁) hT hW₁⟩) with ⟨v, vm₁, ⟨U', l2, c2, s2⟩, hW₁, X', ⟨g', mk, t, L, e1, e2, hq, h1, hL, h2, h3⟩, st⟩ | ⟨q, vm₁, ⟨U', l2, c2, s2⟩, hW₁, X', ⟨g', mk, t, L, E, ce, e1, e2, hq, hce, hcv, hcl, h1, hL, h2, h3⟩, st⟩
  · dsimp only [Pt.U, Pt.locs, Pt.cells, Pt.slots] at X' e1 e2 h1 h2 h3 st
    subst h1; subst h2; subst h3
    exact Or.inl ⟨v, (T.setVm vm₁).calling g' mk As.toArray, t, U', L, hT, X', hL, e1, e2, hq, st⟩
  · dsimp only [Pt.U, Pt.locs, Pt.cells, Pt.slots] at X' e1 e2 h1 h2 h3 st hcl
    subst h1; subst h2; subst h3
    exact Or.inr ⟨q, (T.setVm vm₁).calling g' mk As.toArray, t, U', L, E, ce, hT, X', hL, e1, e2, hq, hce, hcv, vx_cls hW₁ hcl, st⟩
end
end VXH
theorem vx_ofWH {l : Launch} {y : MethodName} {ws ws' : List Cond} {rm : Room} {Pc : Array Value → State → Prop} {Qc : Array Value → State → Outcome → State → Prop} {XC : String → State → State → Prop} {mc ms : Nat} {free : Addr → Prop} {cc : ByteArray} {maxL : Nat} {ret : Option FieldType} {hh : List (Nat × Nat × Nat × Nat)}
    (hy : plainName y.cls = true) (hw : ws = Cond.codeWith y cc maxL ret hh :: ws')
    (body : ∀ p e s m args below meth c s₁, BodyLoose p l y (headSpec ws rm) cc maxL ret e s m args below meth c s₁ → c.maxLocals = maxL → Pc args s →
      W p l e (headSpec ws rm).room s m args below meth c s.heap [] 0 0 (vx_MQ below Qc XC args s mc ms free) (entryFrame m args maxL)) : vx_Met l y ws rm Pc Qc XC mc ms free := by
  refine MetFree.of_bodyS (code := cc) (maxLocals := maxL) (ret := ret) hy ?_ ?_
  · intro args s m h hn
    obtain ⟨m9, meth, c, hn9, h1, h2, h3, h4, -, h5, h6, -⟩ := Cond.codeWith_spec (atoms_spec (ws := ws) h _ (by rw [hw]; exact List.mem_cons_self))
    cases hn.symm.trans hn9
    exact ⟨meth, c, h1, h2, h3, h4, h5, h6⟩
  · intro p e s m args below meth c s₁ B hml hP _
    have hh0 : s₁.heap = s.heap := by rw [B.state]; rfl
    obtain ⟨t, a1, o, b1, b2, b3⟩ := body p e s m args below meth c s₁ B hml hP s₁ hh0 (Stand.of_body B)
    exact ⟨t, o, a1, b1, b2, b3⟩
/-! ===== END ===== -/
end
section
-- ===== PART A: goes FIRST, ahead of the names: the tables' words, and 'selects' of the private methods out of them =====
/-- a private method of a class that the tables say can be made, by its rows of tables_1 -/
def lw_okq (q : MethodName × Nat) : Prop := (q.1.cls ≠ "java/lang/invoke/MethodHandle" ∧ q.1.cls ≠ "java/lang/invoke/VarHandle") ∧ Cond.instantiable q.1.cls q.2 ∈ tables_1 ∧ Cond.privateMethod q.1 ∈ tables_1 ∧ Cond.instanceMethod q.1 ∈ tables_1
theorem lw_p0 : lw_okq (⟨"ChangeUntangler", "putTogether", "()V"⟩, 9) := ⟨⟨by decide +kernel, by decide +kernel⟩, List.mem_of_getElem? (i := 19) (by decide +kernel), List.mem_of_getElem? (i := 225) (by decide +kernel), List.mem_of_getElem? (i := 226) (by decide +kernel)⟩
theorem lw_p1 : lw_okq (⟨"ChangeUntangler$Evidence", "isNear", "(LChangeUntangler$Pieces;II)Z"⟩, 2) := ⟨⟨by decide +kernel, by decide +kernel⟩, List.mem_of_getElem? (i := 83) (by decide +kernel), List.mem_of_getElem? (i := 241) (by decide +kernel), List.mem_of_getElem? (i := 242) (by decide +kernel)⟩
theorem lw_p2 : lw_okq (⟨"ChangeUntangler$Groups", "joinWhatMust", "(ILChangeUntangler$Sayings;)V"⟩, 6) := ⟨⟨by decide +kernel, by decide +kernel⟩, List.mem_of_getElem? (i := 111) (by decide +kernel), List.mem_of_getElem? (i := 270) (by decide +kernel), List.mem_of_getElem? (i := 271) (by decide +kernel)⟩
theorem lw_p3 : lw_okq (⟨"ChangeUntangler$Groups", "joinNearest", "(LChangeUntangler$Sayings;)Z"⟩, 6) := ⟨⟨by decide +kernel, by decide +kernel⟩, List.mem_of_getElem? (i := 111) (by decide +kernel), List.mem_of_getElem? (i := 281) (by decide +kernel), List.mem_of_getElem? (i := 282) (by decide +kernel)⟩
theorem lw_p4 : lw_okq (⟨"ChangeUntangler$Groups", "join", "(II)V"⟩, 6) := ⟨⟨by decide +kernel, by decide +kernel⟩, List.mem_of_getElem? (i := 111) (by decide +kernel), List.mem_of_getElem? (i := 302) (by decide +kernel), List.mem_of_getElem? (i := 303) (by decide +kernel)⟩
theorem lw_p5 : lw_okq (⟨"ChangeUntangler$Parcels", "findNeeds", "(LChangeUntangler$Pieces;LChangeUntangler$Code;LChangeUntangler$Groups;)V"⟩, 4) := ⟨⟨by decide +kernel, by decide +kernel⟩, List.mem_of_getElem? (i := 144) (by decide +kernel), List.mem_of_getElem? (i := 310) (by decide +kernel), List.mem_of_getElem? (i := 311) (by decide +kernel)⟩
theorem lw_p6 : lw_okq (⟨"ChangeUntangler$Parcels", "needByWayOfOthers", "(I)V"⟩, 4) := ⟨⟨by decide +kernel, by decide +kernel⟩, List.mem_of_getElem? (i := 144) (by decide +kernel), List.mem_of_getElem? (i := 323) (by decide +kernel), List.mem_of_getElem? (i := 324) (by decide +kernel)⟩
theorem lw_p7 : lw_okq (⟨"ChangeUntangler$Parcels", "nextCircle", "(II)I"⟩, 4) := ⟨⟨by decide +kernel, by decide +kernel⟩, List.mem_of_getElem? (i := 144) (by decide +kernel), List.mem_of_getElem? (i := 328) (by decide +kernel), List.mem_of_getElem? (i := 329) (by decide +kernel)⟩
theorem lw_p8 : lw_okq (⟨"ChangeUntangler$Parcels", "circleOf", "(II)I"⟩, 4) := ⟨⟨by decide +kernel, by decide +kernel⟩, List.mem_of_getElem? (i := 144) (by decide +kernel), List.mem_of_getElem? (i := 332) (by decide +kernel), List.mem_of_getElem? (i := 333) (by decide +kernel)⟩
theorem lw_p9 : lw_okq (⟨"ChangeUntangler$Parcels", "append", "(ILChangeUntangler$Groups;)V"⟩, 4) := ⟨⟨by decide +kernel, by decide +kernel⟩, List.mem_of_getElem? (i := 144) (by decide +kernel), List.mem_of_getElem? (i := 336) (by decide +kernel), List.mem_of_getElem? (i := 337) (by decide +kernel)⟩
theorem lw_p10 : lw_okq (⟨"ChangeUntangler", "breakageInOrder", "()I"⟩, 9) := ⟨⟨by decide +kernel, by decide +kernel⟩, List.mem_of_getElem? (i := 19) (by decide +kernel), List.mem_of_getElem? (i := 357) (by decide +kernel), List.mem_of_getElem? (i := 358) (by decide +kernel)⟩
theorem lw_p11 : lw_okq (⟨"java/lang/Throwable", "fillInStackTrace", "(I)Ljava/lang/Throwable;"⟩, 6) := ⟨⟨by decide +kernel, by decide +kernel⟩, List.mem_of_getElem? (i := 451) (by decide +kernel), List.mem_of_getElem? (i := 449) (by decide +kernel), List.mem_of_getElem? (i := 450) (by decide +kernel)⟩
theorem lw_p12 : lw_okq (⟨"ChangeUntangler", "forgetResults", "()V"⟩, 9) := ⟨⟨by decide +kernel, by decide +kernel⟩, List.mem_of_getElem? (i := 19) (by decide +kernel), List.mem_of_getElem? (i := 498) (by decide +kernel), List.mem_of_getElem? (i := 499) (by decide +kernel)⟩
theorem lw_p13 : lw_okq (⟨"ChangeUntangler", "requireSet", "(II)V"⟩, 9) := ⟨⟨by decide +kernel, by decide +kernel⟩, List.mem_of_getElem? (i := 19) (by decide +kernel), List.mem_of_getElem? (i := 514) (by decide +kernel), List.mem_of_getElem? (i := 515) (by decide +kernel)⟩
theorem lw_p14 : lw_okq (⟨"ChangeUntangler", "requirePiece", "(I)V"⟩, 9) := ⟨⟨by decide +kernel, by decide +kernel⟩, List.mem_of_getElem? (i := 19) (by decide +kernel), List.mem_of_getElem? (i := 518) (by decide +kernel), List.mem_of_getElem? (i := 519) (by decide +kernel)⟩
theorem lw_p15 : lw_okq (⟨"ChangeUntangler$Sayings", "putOneWay", "(III)V"⟩, 2) := ⟨⟨by decide +kernel, by decide +kernel⟩, List.mem_of_getElem? (i := 98) (by decide +kernel), List.mem_of_getElem? (i := 587) (by decide +kernel), List.mem_of_getElem? (i := 588) (by decide +kernel)⟩
def lw_privs_1 : List (MethodName × Nat) := [(⟨"ChangeUntangler", "putTogether", "()V"⟩, 9), (⟨"ChangeUntangler$Evidence", "isNear", "(LChangeUntangler$Pieces;II)Z"⟩, 2), (⟨"ChangeUntangler$Groups", "joinWhatMust", "(ILChangeUntangler$Sayings;)V"⟩, 6), (⟨"ChangeUntangler$Groups", "joinNearest", "(LChangeUntangler$Sayings;)Z"⟩, 6), (⟨"ChangeUntangler$Groups", "join", "(II)V"⟩, 6), (⟨"ChangeUntangler$Parcels", "findNeeds", "(LChangeUntangler$Pieces;LChangeUntangler$Code;LChangeUntangler$Groups;)V"⟩, 4), (⟨"ChangeUntangler$Parcels", "needByWayOfOthers", "(I)V"⟩, 4), (⟨"ChangeUntangler$Parcels", "nextCircle", "(II)I"⟩, 4), (⟨"ChangeUntangler$Parcels", "circleOf", "(II)I"⟩, 4), (⟨"ChangeUntangler$Parcels", "append", "(ILChangeUntangler$Groups;)V"⟩, 4), (⟨"ChangeUntangler", "breakageInOrder", "()I"⟩, 9), (⟨"java/lang/Throwable", "fillInStackTrace", "(I)Ljava/lang/Throwable;"⟩, 6), (⟨"ChangeUntangler", "forgetResults", "()V"⟩, 9), (⟨"ChangeUntangler", "requireSet", "(II)V"⟩, 9), (⟨"ChangeUntangler", "requirePiece", "(I)V"⟩, 9), (⟨"ChangeUntangler$Sayings", "putOneWay", "(III)V"⟩, 2)]
theorem lw_r1 : ∀ q ∈ lw_privs_1, lw_okq q := List.forall_mem_cons.mpr ⟨lw_p0, List.forall_mem_cons.mpr ⟨lw_p1, List.forall_mem_cons.mpr ⟨lw_p2, List.forall_mem_cons.mpr ⟨lw_p3, List.forall_mem_cons.mpr ⟨lw_p4, List.forall_mem_cons.mpr ⟨lw_p5, List.forall_mem_cons.mpr ⟨lw_p6, List.forall_mem_cons.mpr ⟨lw_p7, List.forall_mem_cons.mpr ⟨lw_p8, List.forall_mem_cons.mpr ⟨lw_p9, List.forall_mem_cons.mpr ⟨lw_p10, List.forall_mem_cons.mpr ⟨lw_p11, List.forall_mem_cons.mpr ⟨lw_p12, List.forall_mem_cons.mpr ⟨lw_p13, List.forall_mem_cons.mpr ⟨lw_p14, List.forall_mem_cons.mpr ⟨lw_p15, fun _ h => absurd h List.not_mem_nil⟩⟩⟩⟩⟩⟩⟩⟩⟩⟩⟩⟩⟩⟩⟩⟩
theorem lw_p16 : lw_okq (⟨"ChangeUntangler", "requireGroup", "(I)V"⟩, 9) := ⟨⟨by decide +kernel, by decide +kernel⟩, List.mem_of_getElem? (i := 19) (by decide +kernel), List.mem_of_getElem? (i := 683) (by decide +kernel), List.mem_of_getElem? (i := 684) (by decide +kernel)⟩
theorem lw_p17 : lw_okq (⟨"ChangeUntangler", "requireParcel", "(I)V"⟩, 9) := ⟨⟨by decide +kernel, by decide +kernel⟩, List.mem_of_getElem? (i := 19) (by decide +kernel), List.mem_of_getElem? (i := 720) (by decide +kernel), List.mem_of_getElem? (i := 721) (by decide +kernel)⟩
theorem lw_p18 : lw_okq (⟨"ChangeUntangler", "findBest", "()V"⟩, 9) := ⟨⟨by decide +kernel, by decide +kernel⟩, List.mem_of_getElem? (i := 19) (by decide +kernel), List.mem_of_getElem? (i := 762) (by decide +kernel), List.mem_of_getElem? (i := 763) (by decide +kernel)⟩
theorem lw_p19 : lw_okq (⟨"ChangeUntangler$BestOrder", "nextAfter", "(I)I"⟩, 4) := ⟨⟨by decide +kernel, by decide +kernel⟩, List.mem_of_getElem? (i := 167) (by decide +kernel), List.mem_of_getElem? (i := 772) (by decide +kernel), List.mem_of_getElem? (i := 773) (by decide +kernel)⟩
theorem lw_p20 : lw_okq (⟨"ChangeUntangler$BestOrder", "walk", "()V"⟩, 4) := ⟨⟨by decide +kernel, by decide +kernel⟩, List.mem_of_getElem? (i := 167) (by decide +kernel), List.mem_of_getElem? (i := 784) (by decide +kernel), List.mem_of_getElem? (i := 785) (by decide +kernel)⟩
theorem lw_p21 : lw_okq (⟨"ChangeUntanglerModel", "no", "(I)I"⟩, 21) := ⟨⟨by decide +kernel, by decide +kernel⟩, List.mem_of_getElem? (i := 804) (by decide +kernel), List.mem_of_getElem? (i := 886) (by decide +kernel), List.mem_of_getElem? (i := 887) (by decide +kernel)⟩
theorem lw_p22 : lw_okq (⟨"ChangeUntanglerModel", "isPiece", "(I)Z"⟩, 21) := ⟨⟨by decide +kernel, by decide +kernel⟩, List.mem_of_getElem? (i := 804) (by decide +kernel), List.mem_of_getElem? (i := 894) (by decide +kernel), List.mem_of_getElem? (i := 895) (by decide +kernel)⟩
theorem lw_p23 : lw_okq (⟨"ChangeUntanglerModel", "namesOf", "(II)I"⟩, 21) := ⟨⟨by decide +kernel, by decide +kernel⟩, List.mem_of_getElem? (i := 804) (by decide +kernel), List.mem_of_getElem? (i := 902) (by decide +kernel), List.mem_of_getElem? (i := 903) (by decide +kernel)⟩
theorem lw_p24 : lw_okq (⟨"ChangeUntanglerModel", "arePieces", "(II)Z"⟩, 21) := ⟨⟨by decide +kernel, by decide +kernel⟩, List.mem_of_getElem? (i := 804) (by decide +kernel), List.mem_of_getElem? (i := 934) (by decide +kernel), List.mem_of_getElem? (i := 935) (by decide +kernel)⟩
theorem lw_p25 : lw_okq (⟨"ChangeUntanglerModel", "pointsOf", "(III)I"⟩, 21) := ⟨⟨by decide +kernel, by decide +kernel⟩, List.mem_of_getElem? (i := 804) (by decide +kernel), List.mem_of_getElem? (i := 938) (by decide +kernel), List.mem_of_getElem? (i := 939) (by decide +kernel)⟩
theorem lw_p26 : lw_okq (⟨"ChangeUntanglerModel", "common", "(IIII)I"⟩, 21) := ⟨⟨by decide +kernel, by decide +kernel⟩, List.mem_of_getElem? (i := 804) (by decide +kernel), List.mem_of_getElem? (i := 943) (by decide +kernel), List.mem_of_getElem? (i := 944) (by decide +kernel)⟩
theorem lw_p27 : lw_okq (⟨"ChangeUntanglerModel", "allNames", "(I)I"⟩, 21) := ⟨⟨by decide +kernel, by decide +kernel⟩, List.mem_of_getElem? (i := 804) (by decide +kernel), List.mem_of_getElem? (i := 948) (by decide +kernel), List.mem_of_getElem? (i := 949) (by decide +kernel)⟩
theorem lw_p28 : lw_okq (⟨"ChangeUntanglerModel", "affinityOf", "(II)I"⟩, 21) := ⟨⟨by decide +kernel, by decide +kernel⟩, List.mem_of_getElem? (i := 804) (by decide +kernel), List.mem_of_getElem? (i := 956) (by decide +kernel), List.mem_of_getElem? (i := 957) (by decide +kernel)⟩
theorem lw_p29 : lw_okq (⟨"ChangeUntanglerModel", "saidOf", "(II)I"⟩, 21) := ⟨⟨by decide +kernel, by decide +kernel⟩, List.mem_of_getElem? (i := 804) (by decide +kernel), List.mem_of_getElem? (i := 976) (by decide +kernel), List.mem_of_getElem? (i := 977) (by decide +kernel)⟩
theorem lw_p30 : lw_okq (⟨"ChangeUntanglerModel", "put", "(III)V"⟩, 21) := ⟨⟨by decide +kernel, by decide +kernel⟩, List.mem_of_getElem? (i := 804) (by decide +kernel), List.mem_of_getElem? (i := 980) (by decide +kernel), List.mem_of_getElem? (i := 981) (by decide +kernel)⟩
theorem lw_p31 : lw_okq (⟨"ChangeUntanglerModel", "startGroups", "()V"⟩, 21) := ⟨⟨by decide +kernel, by decide +kernel⟩, List.mem_of_getElem? (i := 804) (by decide +kernel), List.mem_of_getElem? (i := 984) (by decide +kernel), List.mem_of_getElem? (i := 985) (by decide +kernel)⟩
def lw_privs_2 : List (MethodName × Nat) := [(⟨"ChangeUntangler", "requireGroup", "(I)V"⟩, 9), (⟨"ChangeUntangler", "requireParcel", "(I)V"⟩, 9), (⟨"ChangeUntangler", "findBest", "()V"⟩, 9), (⟨"ChangeUntangler$BestOrder", "nextAfter", "(I)I"⟩, 4), (⟨"ChangeUntangler$BestOrder", "walk", "()V"⟩, 4), (⟨"ChangeUntanglerModel", "no", "(I)I"⟩, 21), (⟨"ChangeUntanglerModel", "isPiece", "(I)Z"⟩, 21), (⟨"ChangeUntanglerModel", "namesOf", "(II)I"⟩, 21), (⟨"ChangeUntanglerModel", "arePieces", "(II)Z"⟩, 21), (⟨"ChangeUntanglerModel", "pointsOf", "(III)I"⟩, 21), (⟨"ChangeUntanglerModel", "common", "(IIII)I"⟩, 21), (⟨"ChangeUntanglerModel", "allNames", "(I)I"⟩, 21), (⟨"ChangeUntanglerModel", "affinityOf", "(II)I"⟩, 21), (⟨"ChangeUntanglerModel", "saidOf", "(II)I"⟩, 21), (⟨"ChangeUntanglerModel", "put", "(III)V"⟩, 21), (⟨"ChangeUntanglerModel", "startGroups", "()V"⟩, 21)]
theorem lw_r2 : ∀ q ∈ lw_privs_2, lw_okq q := List.forall_mem_cons.mpr ⟨lw_p16, List.forall_mem_cons.mpr ⟨lw_p17, List.forall_mem_cons.mpr ⟨lw_p18, List.forall_mem_cons.mpr ⟨lw_p19, List.forall_mem_cons.mpr ⟨lw_p20, List.forall_mem_cons.mpr ⟨lw_p21, List.forall_mem_cons.mpr ⟨lw_p22, List.forall_mem_cons.mpr ⟨lw_p23, List.forall_mem_cons.mpr ⟨lw_p24, List.forall_mem_cons.mpr ⟨lw_p25, List.forall_mem_cons.mpr ⟨lw_p26, List.forall_mem_cons.mpr ⟨lw_p27, List.forall_mem_cons.mpr ⟨lw_p28, List.forall_mem_cons.mpr ⟨lw_p29, List.forall_mem_cons.mpr ⟨lw_p30, List.forall_mem_cons.mpr ⟨lw_p31, fun _ h => absurd h List.not_mem_nil⟩⟩⟩⟩⟩⟩⟩⟩⟩⟩⟩⟩⟩⟩⟩⟩
theorem lw_p32 : lw_okq (⟨"ChangeUntanglerModel", "joinHeads", "(II)V"⟩, 21) := ⟨⟨by decide +kernel, by decide +kernel⟩, List.mem_of_getElem? (i := 804) (by decide +kernel), List.mem_of_getElem? (i := 988) (by decide +kernel), List.mem_of_getElem? (i := 989) (by decide +kernel)⟩
theorem lw_p33 : lw_okq (⟨"ChangeUntanglerModel", "makeGroups", "()V"⟩, 21) := ⟨⟨by decide +kernel, by decide +kernel⟩, List.mem_of_getElem? (i := 804) (by decide +kernel), List.mem_of_getElem? (i := 998) (by decide +kernel), List.mem_of_getElem? (i := 999) (by decide +kernel)⟩
theorem lw_p34 : lw_okq (⟨"ChangeUntanglerModel", "areBarred", "(II)Z"⟩, 21) := ⟨⟨by decide +kernel, by decide +kernel⟩, List.mem_of_getElem? (i := 804) (by decide +kernel), List.mem_of_getElem? (i := 1002) (by decide +kernel), List.mem_of_getElem? (i := 1003) (by decide +kernel)⟩
theorem lw_p35 : lw_okq (⟨"ChangeUntanglerModel", "linkageOf", "(II)I"⟩, 21) := ⟨⟨by decide +kernel, by decide +kernel⟩, List.mem_of_getElem? (i := 804) (by decide +kernel), List.mem_of_getElem? (i := 1006) (by decide +kernel), List.mem_of_getElem? (i := 1007) (by decide +kernel)⟩
theorem lw_p36 : lw_okq (⟨"ChangeUntanglerModel", "countOf", "([I)I"⟩, 21) := ⟨⟨by decide +kernel, by decide +kernel⟩, List.mem_of_getElem? (i := 804) (by decide +kernel), List.mem_of_getElem? (i := 1010) (by decide +kernel), List.mem_of_getElem? (i := 1011) (by decide +kernel)⟩
theorem lw_p37 : lw_okq (⟨"ChangeUntanglerModel", "headAt", "([II)I"⟩, 21) := ⟨⟨by decide +kernel, by decide +kernel⟩, List.mem_of_getElem? (i := 804) (by decide +kernel), List.mem_of_getElem? (i := 1018) (by decide +kernel), List.mem_of_getElem? (i := 1019) (by decide +kernel)⟩
theorem lw_p38 : lw_okq (⟨"ChangeUntanglerModel", "setOf", "([II)I"⟩, 21) := ⟨⟨by decide +kernel, by decide +kernel⟩, List.mem_of_getElem? (i := 804) (by decide +kernel), List.mem_of_getElem? (i := 1022) (by decide +kernel), List.mem_of_getElem? (i := 1023) (by decide +kernel)⟩
theorem lw_p39 : lw_okq (⟨"ChangeUntanglerModel", "indexOf", "([II)I"⟩, 21) := ⟨⟨by decide +kernel, by decide +kernel⟩, List.mem_of_getElem? (i := 804) (by decide +kernel), List.mem_of_getElem? (i := 1030) (by decide +kernel), List.mem_of_getElem? (i := 1031) (by decide +kernel)⟩
theorem lw_p40 : lw_okq (⟨"ChangeUntanglerModel", "needsOf", "(II)Z"⟩, 21) := ⟨⟨by decide +kernel, by decide +kernel⟩, List.mem_of_getElem? (i := 804) (by decide +kernel), List.mem_of_getElem? (i := 1046) (by decide +kernel), List.mem_of_getElem? (i := 1047) (by decide +kernel)⟩
theorem lw_p41 : lw_okq (⟨"ChangeUntanglerModel", "undefined", "()I"⟩, 21) := ⟨⟨by decide +kernel, by decide +kernel⟩, List.mem_of_getElem? (i := 804) (by decide +kernel), List.mem_of_getElem? (i := 1050) (by decide +kernel), List.mem_of_getElem? (i := 1051) (by decide +kernel)⟩
theorem lw_p42 : lw_okq (⟨"ChangeUntanglerModel", "makeParcels", "()V"⟩, 21) := ⟨⟨by decide +kernel, by decide +kernel⟩, List.mem_of_getElem? (i := 804) (by decide +kernel), List.mem_of_getElem? (i := 1058) (by decide +kernel), List.mem_of_getElem? (i := 1059) (by decide +kernel)⟩
theorem lw_p43 : lw_okq (⟨"ChangeUntanglerModel", "isParcel", "(I)Z"⟩, 21) := ⟨⟨by decide +kernel, by decide +kernel⟩, List.mem_of_getElem? (i := 804) (by decide +kernel), List.mem_of_getElem? (i := 1069) (by decide +kernel), List.mem_of_getElem? (i := 1070) (by decide +kernel)⟩
theorem lw_p44 : lw_okq (⟨"ChangeUntanglerModel", "brokenBy", "(I)I"⟩, 21) := ⟨⟨by decide +kernel, by decide +kernel⟩, List.mem_of_getElem? (i := 804) (by decide +kernel), List.mem_of_getElem? (i := 1089) (by decide +kernel), List.mem_of_getElem? (i := 1090) (by decide +kernel)⟩
theorem lw_p45 : lw_okq (⟨"ChangeUntanglerModel", "isBroken", "(II)Z"⟩, 21) := ⟨⟨by decide +kernel, by decide +kernel⟩, List.mem_of_getElem? (i := 804) (by decide +kernel), List.mem_of_getElem? (i := 1093) (by decide +kernel), List.mem_of_getElem? (i := 1094) (by decide +kernel)⟩
theorem lw_p46 : lw_okq (⟨"ChangeUntanglerModel", "breakageOf", "()I"⟩, 21) := ⟨⟨by decide +kernel, by decide +kernel⟩, List.mem_of_getElem? (i := 804) (by decide +kernel), List.mem_of_getElem? (i := 1101) (by decide +kernel), List.mem_of_getElem? (i := 1102) (by decide +kernel)⟩
theorem lw_p47 : lw_okq (⟨"ChangeUntanglerModel", "piecesOf", "(I)I"⟩, 21) := ⟨⟨by decide +kernel, by decide +kernel⟩, List.mem_of_getElem? (i := 804) (by decide +kernel), List.mem_of_getElem? (i := 1105) (by decide +kernel), List.mem_of_getElem? (i := 1106) (by decide +kernel)⟩
def lw_privs_3 : List (MethodName × Nat) := [(⟨"ChangeUntanglerModel", "joinHeads", "(II)V"⟩, 21), (⟨"ChangeUntanglerModel", "makeGroups", "()V"⟩, 21), (⟨"ChangeUntanglerModel", "areBarred", "(II)Z"⟩, 21), (⟨"ChangeUntanglerModel", "linkageOf", "(II)I"⟩, 21), (⟨"ChangeUntanglerModel", "countOf", "([I)I"⟩, 21), (⟨"ChangeUntanglerModel", "headAt", "([II)I"⟩, 21), (⟨"ChangeUntanglerModel", "setOf", "([II)I"⟩, 21), (⟨"ChangeUntanglerModel", "indexOf", "([II)I"⟩, 21), (⟨"ChangeUntanglerModel", "needsOf", "(II)Z"⟩, 21), (⟨"ChangeUntanglerModel", "undefined", "()I"⟩, 21), (⟨"ChangeUntanglerModel", "makeParcels", "()V"⟩, 21), (⟨"ChangeUntanglerModel", "isParcel", "(I)Z"⟩, 21), (⟨"ChangeUntanglerModel", "brokenBy", "(I)I"⟩, 21), (⟨"ChangeUntanglerModel", "isBroken", "(II)Z"⟩, 21), (⟨"ChangeUntanglerModel", "breakageOf", "()I"⟩, 21), (⟨"ChangeUntanglerModel", "piecesOf", "(I)I"⟩, 21)]
theorem lw_r3 : ∀ q ∈ lw_privs_3, lw_okq q := List.forall_mem_cons.mpr ⟨lw_p32, List.forall_mem_cons.mpr ⟨lw_p33, List.forall_mem_cons.mpr ⟨lw_p34, List.forall_mem_cons.mpr ⟨lw_p35, List.forall_mem_cons.mpr ⟨lw_p36, List.forall_mem_cons.mpr ⟨lw_p37, List.forall_mem_cons.mpr ⟨lw_p38, List.forall_mem_cons.mpr ⟨lw_p39, List.forall_mem_cons.mpr ⟨lw_p40, List.forall_mem_cons.mpr ⟨lw_p41, List.forall_mem_cons.mpr ⟨lw_p42, List.forall_mem_cons.mpr ⟨lw_p43, List.forall_mem_cons.mpr ⟨lw_p44, List.forall_mem_cons.mpr ⟨lw_p45, List.forall_mem_cons.mpr ⟨lw_p46, List.forall_mem_cons.mpr ⟨lw_p47, fun _ h => absurd h List.not_mem_nil⟩⟩⟩⟩⟩⟩⟩⟩⟩⟩⟩⟩⟩⟩⟩⟩
theorem lw_p48 : lw_okq (⟨"ChangeUntanglerModel", "findLeast", "()V"⟩, 21) := ⟨⟨by decide +kernel, by decide +kernel⟩, List.mem_of_getElem? (i := 804) (by decide +kernel), List.mem_of_getElem? (i := 1113) (by decide +kernel), List.mem_of_getElem? (i := 1114) (by decide +kernel)⟩
def lw_privs_4 : List (MethodName × Nat) := [(⟨"ChangeUntanglerModel", "findLeast", "()V"⟩, 21)]
theorem lw_r4 : ∀ q ∈ lw_privs_4, lw_okq q := List.forall_mem_cons.mpr ⟨lw_p48, fun _ h => absurd h List.not_mem_nil⟩
def lw_privs : List (MethodName × Nat) := lw_privs_1 ++ (lw_privs_2 ++ (lw_privs_3 ++ (lw_privs_4)))
def lw_tbl : List Cond := k2_sels lw_privs ++ tables_1
theorem lw_privs_ok : ∀ q ∈ lw_privs, lw_okq q := by
  show ∀ q ∈ lw_privs_1 ++ (lw_privs_2 ++ (lw_privs_3 ++ (lw_privs_4))), lw_okq q
  exact List.forall_mem_append.mpr ⟨lw_r1, List.forall_mem_append.mpr ⟨lw_r2, List.forall_mem_append.mpr ⟨lw_r3, lw_r4⟩⟩⟩
/-- the streams that the claim lets the run draw from -/
abbrev lw_cs : List Choice := [Jvm.Choice.named "NaN.bits"]
theorem lw_bits : nanBits ∈ lw_cs := by first | decide | exact List.mem_cons_self | simp [lw_cs, nanBits]
-- ===== end of PART A; then your names; then what follows =====
end
section
def RX0 : String := "ChangeUntangler$BestOrder"
def TX0 : u_T := fun k => match k with
  | 0 => ("ChangeUntangler$BestOrder", "least", "I", false)
  | 1 => ("ChangeUntangler$BestOrder", "length", "I", false)
  | 2 => ("ChangeUntangler$BestOrder", "order", "[I", true)
  | _ => ("ChangeUntangler$BestOrder", "fromThen", "[I", true)
def tyX0 : Nat → FieldType := fun k => match k with
  | 0 => .int
  | 1 => .int
  | 2 => .array .int
  | _ => .array .int
abbrev wsX00 : List Cond := u_ws RX0 TX0 4
theorem nmX0 : ∀ a, a < 4 → ∀ b, b < 4 → a ≠ b → (TX0 a).2.1 ≠ (TX0 b).2.1 := by decide +kernel
theorem tyX0_ok : ∀ k, k < 4 → parseFieldDescriptor (TX0 k).2.2.1 = some (tyX0 k) := by decide +kernel
abbrev cX0_init : ByteArray := prog_2_method_1_code
def yX0_init : MethodName := ⟨RX0, "<init>", "()V"⟩
abbrev cX0_find : ByteArray := prog_2_method_2_code
def yX0_find : MethodName := ⟨RX0, "find", "(LChangeUntangler$Parcels;LChangeUntangler$Pieces;LChangeUntangler$Code;)V"⟩
abbrev cX0_walk : ByteArray := prog_2_method_3_code
def yX0_walk : MethodName := ⟨RX0, "walk", "()V"⟩
abbrev cX0_nextAfter : ByteArray := prog_2_method_4_code
def yX0_nextAfter : MethodName := ⟨RX0, "nextAfter", "(I)I"⟩
def RX1 : String := "ChangeUntangler$Code"
def TX1 : u_T := fun k => match k with
  | 0 => ("ChangeUntangler$Code", "definedNames", "I", false)
  | _ => ("ChangeUntangler$Code", "otherUses", "[I", true)
def tyX1 : Nat → FieldType := fun k => match k with
  | 0 => .int
  | _ => .array .int
abbrev wsX10 : List Cond := u_ws RX1 TX1 2
theorem nmX1 : ∀ a, a < 2 → ∀ b, b < 2 → a ≠ b → (TX1 a).2.1 ≠ (TX1 b).2.1 := by decide +kernel
theorem tyX1_ok : ∀ k, k < 2 → parseFieldDescriptor (TX1 k).2.2.1 = some (tyX1 k) := by decide +kernel
abbrev cX1_init : ByteArray := prog_3_method_1_code
def yX1_init : MethodName := ⟨RX1, "<init>", "()V"⟩
abbrev cX1_learn : ByteArray := prog_3_method_2_code
def yX1_learn : MethodName := ⟨RX1, "learn", "(IZI)Z"⟩
abbrev cX1_brokenBy : ByteArray := prog_3_method_3_code
def yX1_brokenBy : MethodName := ⟨RX1, "brokenBy", "(LChangeUntangler$Pieces;I)I"⟩
abbrev cX1_mixInto : ByteArray := prog_3_method_4_code
def yX1_mixInto : MethodName := ⟨RX1, "mixInto", "(J)J"⟩
def RX2 : String := "ChangeUntangler$Evidence"
def TX2 : u_T := fun k => match k with
  | 0 => ("ChangeUntangler$Evidence", "weights", "[I", true)
  | _ => ("ChangeUntangler$Evidence", "span", "I", false)
def tyX2 : Nat → FieldType := fun k => match k with
  | 0 => .array .int
  | _ => .int
abbrev wsX20 : List Cond := u_ws RX2 TX2 2
theorem nmX2 : ∀ a, a < 2 → ∀ b, b < 2 → a ≠ b → (TX2 a).2.1 ≠ (TX2 b).2.1 := by decide +kernel
theorem tyX2_ok : ∀ k, k < 2 → parseFieldDescriptor (TX2 k).2.2.1 = some (tyX2 k) := by decide +kernel
abbrev cX2_init : ByteArray := prog_4_method_1_code
def yX2_init : MethodName := ⟨RX2, "<init>", "()V"⟩
abbrev cX2_pointsBy : ByteArray := prog_4_method_2_code
def yX2_pointsBy : MethodName := ⟨RX2, "pointsBy", "(ILChangeUntangler$Pieces;II)I"⟩
abbrev cX2_sumOfPoints : ByteArray := prog_4_method_3_code
def yX2_sumOfPoints : MethodName := ⟨RX2, "sumOfPoints", "(LChangeUntangler$Pieces;II)I"⟩
abbrev cX2_isNear : ByteArray := prog_4_method_4_code
def yX2_isNear : MethodName := ⟨RX2, "isNear", "(LChangeUntangler$Pieces;II)Z"⟩
abbrev cX2_shareOf : ByteArray := prog_4_method_5_code
def yX2_shareOf : MethodName := ⟨RX2, "shareOf", "(III)I"⟩
def RX3 : String := "ChangeUntangler$Groups"
def TX3 : u_T := fun k => match k with
  | 0 => ("ChangeUntangler$Groups", "threshold", "I", false)
  | 1 => ("ChangeUntangler$Groups", "manner", "I", false)
  | 2 => ("ChangeUntangler$Groups", "count", "I", false)
  | 3 => ("ChangeUntangler$Groups", "linkageOfLastJoin", "I", false)
  | 4 => ("ChangeUntangler$Groups", "sets", "[I", true)
  | _ => ("ChangeUntangler$Groups", "affinities", "[[I", true)
def tyX3 : Nat → FieldType := fun k => match k with
  | 0 => .int
  | 1 => .int
  | 2 => .int
  | 3 => .int
  | 4 => .array .int
  | _ => .array (.array .int)
abbrev wsX30 : List Cond := u_ws RX3 TX3 6
theorem nmX3 : ∀ a, a < 6 → ∀ b, b < 6 → a ≠ b → (TX3 a).2.1 ≠ (TX3 b).2.1 := by decide +kernel
theorem tyX3_ok : ∀ k, k < 6 → parseFieldDescriptor (TX3 k).2.2.1 = some (tyX3 k) := by decide +kernel
abbrev cX3_init : ByteArray := prog_5_method_1_code
def yX3_init : MethodName := ⟨RX3, "<init>", "()V"⟩
abbrev cX3_weighAll : ByteArray := prog_5_method_2_code
def yX3_weighAll : MethodName := ⟨RX3, "weighAll", "(LChangeUntangler$Pieces;LChangeUntangler$Evidence;)V"⟩
abbrev cX3_build : ByteArray := prog_5_method_3_code
def yX3_build : MethodName := ⟨RX3, "build", "(ILChangeUntangler$Sayings;)V"⟩
abbrev cX3_joinWhatMust : ByteArray := prog_5_method_4_code
def yX3_joinWhatMust : MethodName := ⟨RX3, "joinWhatMust", "(ILChangeUntangler$Sayings;)V"⟩
abbrev cX3_joinNearest : ByteArray := prog_5_method_5_code
def yX3_joinNearest : MethodName := ⟨RX3, "joinNearest", "(LChangeUntangler$Sayings;)Z"⟩
abbrev cX3_join : ByteArray := prog_5_method_6_code
def yX3_join : MethodName := ⟨RX3, "join", "(II)V"⟩
abbrev cX3_linkageOf : ByteArray := prog_5_method_7_code
def yX3_linkageOf : MethodName := ⟨RX3, "linkageOf", "(II)I"⟩
abbrev cX3_isTogether : ByteArray := prog_5_method_8_code
def yX3_isTogether : MethodName := ⟨RX3, "isTogether", "(II)Z"⟩
def RX4 : String := "ChangeUntangler$Parcels"
def TX4 : u_T := fun k => match k with
  | 0 => ("ChangeUntangler$Parcels", "count", "I", false)
  | 1 => ("ChangeUntangler$Parcels", "knotCount", "I", false)
  | 2 => ("ChangeUntangler$Parcels", "sets", "[I", true)
  | _ => ("ChangeUntangler$Parcels", "needed", "[I", true)
def tyX4 : Nat → FieldType := fun k => match k with
  | 0 => .int
  | 1 => .int
  | 2 => .array .int
  | _ => .array .int
abbrev wsX40 : List Cond := u_ws RX4 TX4 4
theorem nmX4 : ∀ a, a < 4 → ∀ b, b < 4 → a ≠ b → (TX4 a).2.1 ≠ (TX4 b).2.1 := by decide +kernel
theorem tyX4_ok : ∀ k, k < 4 → parseFieldDescriptor (TX4 k).2.2.1 = some (tyX4 k) := by decide +kernel
abbrev cX4_init : ByteArray := prog_6_method_1_code
def yX4_init : MethodName := ⟨RX4, "<init>", "()V"⟩
abbrev cX4_build : ByteArray := prog_6_method_2_code
def yX4_build : MethodName := ⟨RX4, "build", "(LChangeUntangler$Pieces;LChangeUntangler$Code;LChangeUntangler$Groups;)V"⟩
abbrev cX4_findNeeds : ByteArray := prog_6_method_3_code
def yX4_findNeeds : MethodName := ⟨RX4, "findNeeds", "(LChangeUntangler$Pieces;LChangeUntangler$Code;LChangeUntangler$Groups;)V"⟩
abbrev cX4_needByWayOfOthers : ByteArray := prog_6_method_4_code
def yX4_needByWayOfOthers : MethodName := ⟨RX4, "needByWayOfOthers", "(I)V"⟩
abbrev cX4_nextCircle : ByteArray := prog_6_method_5_code
def yX4_nextCircle : MethodName := ⟨RX4, "nextCircle", "(II)I"⟩
abbrev cX4_circleOf : ByteArray := prog_6_method_6_code
def yX4_circleOf : MethodName := ⟨RX4, "circleOf", "(II)I"⟩
abbrev cX4_append : ByteArray := prog_6_method_7_code
def yX4_append : MethodName := ⟨RX4, "append", "(ILChangeUntangler$Groups;)V"⟩
abbrev cX4_piecesIn : ByteArray := prog_6_method_8_code
def yX4_piecesIn : MethodName := ⟨RX4, "piecesIn", "(I)I"⟩
def RX5 : String := "ChangeUntangler$Pieces"
def TX5 : u_T := fun k => match k with
  | 0 => ("ChangeUntangler$Pieces", "count", "I", false)
  | 1 => ("ChangeUntangler$Pieces", "files", "[I", true)
  | 2 => ("ChangeUntangler$Pieces", "startLines", "[I", true)
  | 3 => ("ChangeUntangler$Pieces", "added", "[I", true)
  | 4 => ("ChangeUntangler$Pieces", "taken", "[I", true)
  | 5 => ("ChangeUntangler$Pieces", "purposes", "[I", true)
  | 6 => ("ChangeUntangler$Pieces", "namesOf", "[[I", true)
  | _ => ("ChangeUntangler$Pieces", "piecesWith", "[[I", true)
def tyX5 : Nat → FieldType := fun k => match k with
  | 0 => .int
  | 1 => .array .int
  | 2 => .array .int
  | 3 => .array .int
  | 4 => .array .int
  | 5 => .array .int
  | 6 => .array (.array .int)
  | _ => .array (.array .int)
abbrev wsX50 : List Cond := u_ws RX5 TX5 8
theorem nmX5 : ∀ a, a < 8 → ∀ b, b < 8 → a ≠ b → (TX5 a).2.1 ≠ (TX5 b).2.1 := by decide +kernel
theorem tyX5_ok : ∀ k, k < 8 → parseFieldDescriptor (TX5 k).2.2.1 = some (tyX5 k) := by decide +kernel
abbrev cX5_init : ByteArray := prog_7_method_1_code
def yX5_init : MethodName := ⟨RX5, "<init>", "()V"⟩
abbrev cX5_has : ByteArray := prog_7_method_2_code
def yX5_has : MethodName := ⟨RX5, "has", "(I)Z"⟩
abbrev cX5_all : ByteArray := prog_7_method_3_code
def yX5_all : MethodName := ⟨RX5, "all", "()I"⟩
abbrev cX5_append : ByteArray := prog_7_method_4_code
def yX5_append : MethodName := ⟨RX5, "append", "(IIII)I"⟩
abbrev cX5_removeLast : ByteArray := prog_7_method_5_code
def yX5_removeLast : MethodName := ⟨RX5, "removeLast", "()V"⟩
abbrev cX5_replaceNames : ByteArray := prog_7_method_6_code
def yX5_replaceNames : MethodName := ⟨RX5, "replaceNames", "(III)I"⟩
abbrev cX5_everyNameOf : ByteArray := prog_7_method_7_code
def yX5_everyNameOf : MethodName := ⟨RX5, "everyNameOf", "(I)I"⟩
abbrev cX5_crossings : ByteArray := prog_7_method_8_code
def yX5_crossings : MethodName := ⟨RX5, "crossings", "(IIII)I"⟩
abbrev cX5_isNeeded : ByteArray := prog_7_method_9_code
def yX5_isNeeded : MethodName := ⟨RX5, "isNeeded", "(III)Z"⟩
abbrev cX5_neededBy : ByteArray := prog_7_method_10_code
def yX5_neededBy : MethodName := ⟨RX5, "neededBy", "(II)I"⟩
abbrev cX5_linesOf : ByteArray := prog_7_method_11_code
def yX5_linesOf : MethodName := ⟨RX5, "linesOf", "(I)I"⟩
abbrev cX5_mixInto : ByteArray := prog_7_method_12_code
def yX5_mixInto : MethodName := ⟨RX5, "mixInto", "(J)J"⟩
def RX6 : String := "ChangeUntangler$Sayings"
def TX6 : u_T := fun k => match k with
  | 0 => ("ChangeUntangler$Sayings", "must", "[I", true)
  | _ => ("ChangeUntangler$Sayings", "mustNot", "[I", true)
def tyX6 : Nat → FieldType := fun k => match k with
  | 0 => .array .int
  | _ => .array .int
abbrev wsX60 : List Cond := u_ws RX6 TX6 2
theorem nmX6 : ∀ a, a < 2 → ∀ b, b < 2 → a ≠ b → (TX6 a).2.1 ≠ (TX6 b).2.1 := by decide +kernel
theorem tyX6_ok : ∀ k, k < 2 → parseFieldDescriptor (TX6 k).2.2.1 = some (tyX6 k) := by decide +kernel
abbrev cX6_init : ByteArray := prog_8_method_1_code
def yX6_init : MethodName := ⟨RX6, "<init>", "()V"⟩
abbrev cX6_saidOf : ByteArray := prog_8_method_2_code
def yX6_saidOf : MethodName := ⟨RX6, "saidOf", "(II)I"⟩
abbrev cX6_put : ByteArray := prog_8_method_3_code
def yX6_put : MethodName := ⟨RX6, "put", "(III)V"⟩
abbrev cX6_putOneWay : ByteArray := prog_8_method_4_code
def yX6_putOneWay : MethodName := ⟨RX6, "putOneWay", "(III)V"⟩
abbrev cX6_forgetPiece : ByteArray := prog_8_method_5_code
def yX6_forgetPiece : MethodName := ⟨RX6, "forgetPiece", "(I)V"⟩
abbrev cX6_joinedTo : ByteArray := prog_8_method_6_code
def yX6_joinedTo : MethodName := ⟨RX6, "joinedTo", "(I)I"⟩
abbrev cX6_isContradiction : ByteArray := prog_8_method_7_code
def yX6_isContradiction : MethodName := ⟨RX6, "isContradiction", "()Z"⟩
abbrev cX6_isForbidden : ByteArray := prog_8_method_8_code
def yX6_isForbidden : MethodName := ⟨RX6, "isForbidden", "(II)Z"⟩
def RX7 : String := "ChangeUntangler"
def TX7 : u_T := fun k => match k with
  | 0 => ("ChangeUntangler", "pieces", "LChangeUntangler$Pieces;", true)
  | 1 => ("ChangeUntangler", "code", "LChangeUntangler$Code;", true)
  | 2 => ("ChangeUntangler", "evidence", "LChangeUntangler$Evidence;", true)
  | 3 => ("ChangeUntangler", "sayings", "LChangeUntangler$Sayings;", true)
  | 4 => ("ChangeUntangler", "groups", "LChangeUntangler$Groups;", true)
  | 5 => ("ChangeUntangler", "parcels", "LChangeUntangler$Parcels;", true)
  | 6 => ("ChangeUntangler", "bestOrder", "LChangeUntangler$BestOrder;", true)
  | 7 => ("ChangeUntangler", "isPutTogether", "Z", false)
  | _ => ("ChangeUntangler", "isBestKnown", "Z", false)
def tyX7 : Nat → FieldType := fun k => match k with
  | 0 => .object "ChangeUntangler$Pieces"
  | 1 => .object "ChangeUntangler$Code"
  | 2 => .object "ChangeUntangler$Evidence"
  | 3 => .object "ChangeUntangler$Sayings"
  | 4 => .object "ChangeUntangler$Groups"
  | 5 => .object "ChangeUntangler$Parcels"
  | 6 => .object "ChangeUntangler$BestOrder"
  | 7 => .boolean
  | _ => .boolean
abbrev wsX70 : List Cond := u_ws RX7 TX7 9
theorem nmX7 : ∀ a, a < 9 → ∀ b, b < 9 → a ≠ b → (TX7 a).2.1 ≠ (TX7 b).2.1 := by decide +kernel
theorem tyX7_ok : ∀ k, k < 9 → parseFieldDescriptor (TX7 k).2.2.1 = some (tyX7 k) := by decide +kernel
abbrev cX7_init : ByteArray := prog_1_method_1_code
def yX7_init : MethodName := ⟨RX7, "<init>", "()V"⟩
abbrev cX7_addPiece : ByteArray := prog_1_method_2_code
def yX7_addPiece : MethodName := ⟨RX7, "addPiece", "(IIII)I"⟩
abbrev cX7_setNames : ByteArray := prog_1_method_3_code
def yX7_setNames : MethodName := ⟨RX7, "setNames", "(III)I"⟩
abbrev cX7_names : ByteArray := prog_1_method_4_code
def yX7_names : MethodName := ⟨RX7, "names", "(II)I"⟩
abbrev cX7_setName : ByteArray := prog_1_method_5_code
def yX7_setName : MethodName := ⟨RX7, "setName", "(IZI)Z"⟩
abbrev cX7_dropPiece : ByteArray := prog_1_method_6_code
def yX7_dropPiece : MethodName := ⟨RX7, "dropPiece", "()I"⟩
abbrev cX7_pieceCount : ByteArray := prog_1_method_7_code
def yX7_pieceCount : MethodName := ⟨RX7, "pieceCount", "()I"⟩
abbrev cX7_setWeight : ByteArray := prog_1_method_8_code
def yX7_setWeight : MethodName := ⟨RX7, "setWeight", "(II)I"⟩
abbrev cX7_setSpan : ByteArray := prog_1_method_9_code
def yX7_setSpan : MethodName := ⟨RX7, "setSpan", "(I)I"⟩
abbrev cX7_points : ByteArray := prog_1_method_10_code
def yX7_points : MethodName := ⟨RX7, "points", "(III)I"⟩
abbrev cX7_affinity : ByteArray := prog_1_method_11_code
def yX7_affinity : MethodName := ⟨RX7, "affinity", "(II)I"⟩
abbrev cX7_closest : ByteArray := prog_1_method_12_code
def yX7_closest : MethodName := ⟨RX7, "closest", "(I)I"⟩
abbrev cX7_setThreshold : ByteArray := prog_1_method_13_code
def yX7_setThreshold : MethodName := ⟨RX7, "setThreshold", "(I)I"⟩
abbrev cX7_setManner : ByteArray := prog_1_method_14_code
def yX7_setManner : MethodName := ⟨RX7, "setManner", "(I)I"⟩
abbrev cX7_say : ByteArray := prog_1_method_15_code
def yX7_say : MethodName := ⟨RX7, "say", "(III)I"⟩
abbrev cX7_groupCount : ByteArray := prog_1_method_16_code
def yX7_groupCount : MethodName := ⟨RX7, "groupCount", "()I"⟩
abbrev cX7_group : ByteArray := prog_1_method_17_code
def yX7_group : MethodName := ⟨RX7, "group", "(I)I"⟩
abbrev cX7_groupOf : ByteArray := prog_1_method_18_code
def yX7_groupOf : MethodName := ⟨RX7, "groupOf", "(I)I"⟩
abbrev cX7_linkage : ByteArray := prog_1_method_19_code
def yX7_linkage : MethodName := ⟨RX7, "linkage", "(II)I"⟩
abbrev cX7_lastLinkage : ByteArray := prog_1_method_20_code
def yX7_lastLinkage : MethodName := ⟨RX7, "lastLinkage", "()I"⟩
abbrev cX7_needs : ByteArray := prog_1_method_21_code
def yX7_needs : MethodName := ⟨RX7, "needs", "(II)Z"⟩
abbrev cX7_parcelCount : ByteArray := prog_1_method_22_code
def yX7_parcelCount : MethodName := ⟨RX7, "parcelCount", "()I"⟩
abbrev cX7_parcel : ByteArray := prog_1_method_23_code
def yX7_parcel : MethodName := ⟨RX7, "parcel", "(I)I"⟩
abbrev cX7_parcelOf : ByteArray := prog_1_method_24_code
def yX7_parcelOf : MethodName := ⟨RX7, "parcelOf", "(I)I"⟩
abbrev cX7_knots : ByteArray := prog_1_method_25_code
def yX7_knots : MethodName := ⟨RX7, "knots", "()I"⟩
abbrev cX7_lines : ByteArray := prog_1_method_26_code
def yX7_lines : MethodName := ⟨RX7, "lines", "(I)I"⟩
abbrev cX7_broken : ByteArray := prog_1_method_27_code
def yX7_broken : MethodName := ⟨RX7, "broken", "(I)I"⟩
abbrev cX7_breakage : ByteArray := prog_1_method_28_code
def yX7_breakage : MethodName := ⟨RX7, "breakage", "()I"⟩
abbrev cX7_leastBreakage : ByteArray := prog_1_method_29_code
def yX7_leastBreakage : MethodName := ⟨RX7, "leastBreakage", "()I"⟩
abbrev cX7_best : ByteArray := prog_1_method_30_code
def yX7_best : MethodName := ⟨RX7, "best", "(I)I"⟩
abbrev cX7_setPurpose : ByteArray := prog_1_method_31_code
def yX7_setPurpose : MethodName := ⟨RX7, "setPurpose", "(II)I"⟩
abbrev cX7_agreement : ByteArray := prog_1_method_32_code
def yX7_agreement : MethodName := ⟨RX7, "agreement", "()D"⟩
abbrev cX7_digest : ByteArray := prog_1_method_33_code
def yX7_digest : MethodName := ⟨RX7, "digest", "()J"⟩
abbrev cX7_forgetResults : ByteArray := prog_1_method_34_code
def yX7_forgetResults : MethodName := ⟨RX7, "forgetResults", "()V"⟩
abbrev cX7_putTogether : ByteArray := prog_1_method_35_code
def yX7_putTogether : MethodName := ⟨RX7, "putTogether", "()V"⟩
abbrev cX7_breakageInOrder : ByteArray := prog_1_method_36_code
def yX7_breakageInOrder : MethodName := ⟨RX7, "breakageInOrder", "()I"⟩
abbrev cX7_findBest : ByteArray := prog_1_method_37_code
def yX7_findBest : MethodName := ⟨RX7, "findBest", "()V"⟩
abbrev cX7_requirePiece : ByteArray := prog_1_method_38_code
def yX7_requirePiece : MethodName := ⟨RX7, "requirePiece", "(I)V"⟩
abbrev cX7_requireSet : ByteArray := prog_1_method_39_code
def yX7_requireSet : MethodName := ⟨RX7, "requireSet", "(II)V"⟩
abbrev cX7_requireGroup : ByteArray := prog_1_method_40_code
def yX7_requireGroup : MethodName := ⟨RX7, "requireGroup", "(I)V"⟩
abbrev cX7_requireParcel : ByteArray := prog_1_method_41_code
def yX7_requireParcel : MethodName := ⟨RX7, "requireParcel", "(I)V"⟩
abbrev cX7_requireKind : ByteArray := prog_1_method_42_code
def yX7_requireKind : MethodName := ⟨RX7, "requireKind", "(I)V"⟩
abbrev cX7_requireDifferent : ByteArray := prog_1_method_43_code
def yX7_requireDifferent : MethodName := ⟨RX7, "requireDifferent", "(II)V"⟩
abbrev cX7_isUpTo : ByteArray := prog_1_method_44_code
def yX7_isUpTo : MethodName := ⟨RX7, "isUpTo", "(II)Z"⟩
abbrev cX7_isIn : ByteArray := prog_1_method_45_code
def yX7_isIn : MethodName := ⟨RX7, "isIn", "(II)Z"⟩
abbrev cX7_placeOf : ByteArray := prog_1_method_46_code
def yX7_placeOf : MethodName := ⟨RX7, "placeOf", "(I[II)I"⟩
abbrev cX7_mix : ByteArray := prog_1_method_47_code
def yX7_mix : MethodName := ⟨RX7, "mix", "(JJ)J"⟩
abbrev cX7_mixRow : ByteArray := prog_1_method_48_code
def yX7_mixRow : MethodName := ⟨RX7, "mixRow", "(J[II)J"⟩
def RX8 : String := "ChangeUntanglerModel"
def TX8 : u_T := fun k => match k with
  | 0 => ("ChangeUntanglerModel", "thrown", "I", false)
  | 1 => ("ChangeUntanglerModel", "pieces", "I", false)
  | 2 => ("ChangeUntanglerModel", "places", "[I", true)
  | 3 => ("ChangeUntanglerModel", "names", "[I", true)
  | 4 => ("ChangeUntanglerModel", "purposes", "[I", true)
  | 5 => ("ChangeUntanglerModel", "said", "[I", true)
  | 6 => ("ChangeUntanglerModel", "areDefined", "[Z", true)
  | 7 => ("ChangeUntanglerModel", "otherUses", "[I", true)
  | 8 => ("ChangeUntanglerModel", "weights", "[I", true)
  | 9 => ("ChangeUntanglerModel", "span", "I", false)
  | 10 => ("ChangeUntanglerModel", "threshold", "I", false)
  | 11 => ("ChangeUntanglerModel", "manner", "I", false)
  | 12 => ("ChangeUntanglerModel", "heads", "[I", true)
  | 13 => ("ChangeUntanglerModel", "last", "I", false)
  | 14 => ("ChangeUntanglerModel", "affinities", "[I", true)
  | 15 => ("ChangeUntanglerModel", "bundles", "[I", true)
  | 16 => ("ChangeUntanglerModel", "order", "[I", true)
  | 17 => ("ChangeUntanglerModel", "parcels", "I", false)
  | 18 => ("ChangeUntanglerModel", "far", "[I", true)
  | 19 => ("ChangeUntanglerModel", "counts", "[I", true)
  | _ => ("ChangeUntanglerModel", "rests", "[I", true)
def tyX8 : Nat → FieldType := fun k => match k with
  | 0 => .int
  | 1 => .int
  | 2 => .array .int
  | 3 => .array .int
  | 4 => .array .int
  | 5 => .array .int
  | 6 => .array .boolean
  | 7 => .array .int
  | 8 => .array .int
  | 9 => .int
  | 10 => .int
  | 11 => .int
  | 12 => .array .int
  | 13 => .int
  | 14 => .array .int
  | 15 => .array .int
  | 16 => .array .int
  | 17 => .int
  | 18 => .array .int
  | 19 => .array .int
  | _ => .array .int
abbrev wsX80 : List Cond := u_ws RX8 TX8 21
theorem nmX8 : ∀ a, a < 21 → ∀ b, b < 21 → a ≠ b → (TX8 a).2.1 ≠ (TX8 b).2.1 := by decide +kernel
theorem tyX8_ok : ∀ k, k < 21 → parseFieldDescriptor (TX8 k).2.2.1 = some (tyX8 k) := by decide +kernel
abbrev cX8_init : ByteArray := prog_10_method_1_code
def yX8_init : MethodName := ⟨RX8, "<init>", "()V"⟩
abbrev cX8_thrown : ByteArray := prog_10_method_2_code
def yX8_thrown : MethodName := ⟨RX8, "thrown", "()I"⟩
abbrev cX8_no : ByteArray := prog_10_method_3_code
def yX8_no : MethodName := ⟨RX8, "no", "(I)I"⟩
abbrev cX8_isIn : ByteArray := prog_10_method_4_code
def yX8_isIn : MethodName := ⟨RX8, "isIn", "(III)Z"⟩
abbrev cX8_has : ByteArray := prog_10_method_5_code
def yX8_has : MethodName := ⟨RX8, "has", "(II)Z"⟩
abbrev cX8_isPiece : ByteArray := prog_10_method_6_code
def yX8_isPiece : MethodName := ⟨RX8, "isPiece", "(I)Z"⟩
abbrev cX8_isKind : ByteArray := prog_10_method_7_code
def yX8_isKind : MethodName := ⟨RX8, "isKind", "(I)Z"⟩
abbrev cX8_namesOf : ByteArray := prog_10_method_8_code
def yX8_namesOf : MethodName := ⟨RX8, "namesOf", "(II)I"⟩
abbrev cX8_addPiece : ByteArray := prog_10_method_9_code
def yX8_addPiece : MethodName := ⟨RX8, "addPiece", "(IIII)I"⟩
abbrev cX8_setNames : ByteArray := prog_10_method_10_code
def yX8_setNames : MethodName := ⟨RX8, "setNames", "(III)I"⟩
abbrev cX8_names : ByteArray := prog_10_method_11_code
def yX8_names : MethodName := ⟨RX8, "names", "(II)I"⟩
abbrev cX8_setName : ByteArray := prog_10_method_12_code
def yX8_setName : MethodName := ⟨RX8, "setName", "(IZI)Z"⟩
abbrev cX8_dropPiece : ByteArray := prog_10_method_13_code
def yX8_dropPiece : MethodName := ⟨RX8, "dropPiece", "()I"⟩
abbrev cX8_pieceCount : ByteArray := prog_10_method_14_code
def yX8_pieceCount : MethodName := ⟨RX8, "pieceCount", "()I"⟩
abbrev cX8_setWeight : ByteArray := prog_10_method_15_code
def yX8_setWeight : MethodName := ⟨RX8, "setWeight", "(II)I"⟩
abbrev cX8_setSpan : ByteArray := prog_10_method_16_code
def yX8_setSpan : MethodName := ⟨RX8, "setSpan", "(I)I"⟩
abbrev cX8_common : ByteArray := prog_10_method_17_code
def yX8_common : MethodName := ⟨RX8, "common", "(IIII)I"⟩
abbrev cX8_allNames : ByteArray := prog_10_method_18_code
def yX8_allNames : MethodName := ⟨RX8, "allNames", "(I)I"⟩
abbrev cX8_pointsOf : ByteArray := prog_10_method_19_code
def yX8_pointsOf : MethodName := ⟨RX8, "pointsOf", "(III)I"⟩
abbrev cX8_affinityOf : ByteArray := prog_10_method_20_code
def yX8_affinityOf : MethodName := ⟨RX8, "affinityOf", "(II)I"⟩
abbrev cX8_arePieces : ByteArray := prog_10_method_21_code
def yX8_arePieces : MethodName := ⟨RX8, "arePieces", "(II)Z"⟩
abbrev cX8_points : ByteArray := prog_10_method_22_code
def yX8_points : MethodName := ⟨RX8, "points", "(III)I"⟩
abbrev cX8_affinity : ByteArray := prog_10_method_23_code
def yX8_affinity : MethodName := ⟨RX8, "affinity", "(II)I"⟩
abbrev cX8_closest : ByteArray := prog_10_method_24_code
def yX8_closest : MethodName := ⟨RX8, "closest", "(I)I"⟩
abbrev cX8_setThreshold : ByteArray := prog_10_method_25_code
def yX8_setThreshold : MethodName := ⟨RX8, "setThreshold", "(I)I"⟩
abbrev cX8_setManner : ByteArray := prog_10_method_26_code
def yX8_setManner : MethodName := ⟨RX8, "setManner", "(I)I"⟩
abbrev cX8_joinHeads : ByteArray := prog_10_method_27_code
def yX8_joinHeads : MethodName := ⟨RX8, "joinHeads", "(II)V"⟩
abbrev cX8_saidOf : ByteArray := prog_10_method_28_code
def yX8_saidOf : MethodName := ⟨RX8, "saidOf", "(II)I"⟩
abbrev cX8_startGroups : ByteArray := prog_10_method_29_code
def yX8_startGroups : MethodName := ⟨RX8, "startGroups", "()V"⟩
abbrev cX8_areBarred : ByteArray := prog_10_method_30_code
def yX8_areBarred : MethodName := ⟨RX8, "areBarred", "(II)Z"⟩
abbrev cX8_linkageOf : ByteArray := prog_10_method_31_code
def yX8_linkageOf : MethodName := ⟨RX8, "linkageOf", "(II)I"⟩
abbrev cX8_makeGroups : ByteArray := prog_10_method_32_code
def yX8_makeGroups : MethodName := ⟨RX8, "makeGroups", "()V"⟩
abbrev cX8_say : ByteArray := prog_10_method_33_code
def yX8_say : MethodName := ⟨RX8, "say", "(III)I"⟩
abbrev cX8_put : ByteArray := prog_10_method_34_code
def yX8_put : MethodName := ⟨RX8, "put", "(III)V"⟩
abbrev cX8_countOf : ByteArray := prog_10_method_35_code
def yX8_countOf : MethodName := ⟨RX8, "countOf", "([I)I"⟩
abbrev cX8_headAt : ByteArray := prog_10_method_36_code
def yX8_headAt : MethodName := ⟨RX8, "headAt", "([II)I"⟩
abbrev cX8_setOf : ByteArray := prog_10_method_37_code
def yX8_setOf : MethodName := ⟨RX8, "setOf", "([II)I"⟩
abbrev cX8_indexOf : ByteArray := prog_10_method_38_code
def yX8_indexOf : MethodName := ⟨RX8, "indexOf", "([II)I"⟩
abbrev cX8_groupCount : ByteArray := prog_10_method_39_code
def yX8_groupCount : MethodName := ⟨RX8, "groupCount", "()I"⟩
abbrev cX8_group : ByteArray := prog_10_method_40_code
def yX8_group : MethodName := ⟨RX8, "group", "(I)I"⟩
abbrev cX8_groupOf : ByteArray := prog_10_method_41_code
def yX8_groupOf : MethodName := ⟨RX8, "groupOf", "(I)I"⟩
abbrev cX8_linkage : ByteArray := prog_10_method_42_code
def yX8_linkage : MethodName := ⟨RX8, "linkage", "(II)I"⟩
abbrev cX8_lastLinkage : ByteArray := prog_10_method_43_code
def yX8_lastLinkage : MethodName := ⟨RX8, "lastLinkage", "()I"⟩
abbrev cX8_undefined : ByteArray := prog_10_method_44_code
def yX8_undefined : MethodName := ⟨RX8, "undefined", "()I"⟩
abbrev cX8_needsOf : ByteArray := prog_10_method_45_code
def yX8_needsOf : MethodName := ⟨RX8, "needsOf", "(II)Z"⟩
abbrev cX8_needs : ByteArray := prog_10_method_46_code
def yX8_needs : MethodName := ⟨RX8, "needs", "(II)Z"⟩
abbrev cX8_makeParcels : ByteArray := prog_10_method_47_code
def yX8_makeParcels : MethodName := ⟨RX8, "makeParcels", "()V"⟩
abbrev cX8_parcelCount : ByteArray := prog_10_method_48_code
def yX8_parcelCount : MethodName := ⟨RX8, "parcelCount", "()I"⟩
abbrev cX8_isParcel : ByteArray := prog_10_method_49_code
def yX8_isParcel : MethodName := ⟨RX8, "isParcel", "(I)Z"⟩
abbrev cX8_parcel : ByteArray := prog_10_method_50_code
def yX8_parcel : MethodName := ⟨RX8, "parcel", "(I)I"⟩
abbrev cX8_parcelOf : ByteArray := prog_10_method_51_code
def yX8_parcelOf : MethodName := ⟨RX8, "parcelOf", "(I)I"⟩
abbrev cX8_knots : ByteArray := prog_10_method_52_code
def yX8_knots : MethodName := ⟨RX8, "knots", "()I"⟩
abbrev cX8_lines : ByteArray := prog_10_method_53_code
def yX8_lines : MethodName := ⟨RX8, "lines", "(I)I"⟩
abbrev cX8_isBroken : ByteArray := prog_10_method_54_code
def yX8_isBroken : MethodName := ⟨RX8, "isBroken", "(II)Z"⟩
abbrev cX8_brokenBy : ByteArray := prog_10_method_55_code
def yX8_brokenBy : MethodName := ⟨RX8, "brokenBy", "(I)I"⟩
abbrev cX8_broken : ByteArray := prog_10_method_56_code
def yX8_broken : MethodName := ⟨RX8, "broken", "(I)I"⟩
abbrev cX8_piecesOf : ByteArray := prog_10_method_57_code
def yX8_piecesOf : MethodName := ⟨RX8, "piecesOf", "(I)I"⟩
abbrev cX8_breakageOf : ByteArray := prog_10_method_58_code
def yX8_breakageOf : MethodName := ⟨RX8, "breakageOf", "()I"⟩
abbrev cX8_breakage : ByteArray := prog_10_method_59_code
def yX8_breakage : MethodName := ⟨RX8, "breakage", "()I"⟩
abbrev cX8_findLeast : ByteArray := prog_10_method_60_code
def yX8_findLeast : MethodName := ⟨RX8, "findLeast", "()V"⟩
abbrev cX8_leastBreakage : ByteArray := prog_10_method_61_code
def yX8_leastBreakage : MethodName := ⟨RX8, "leastBreakage", "()I"⟩
abbrev cX8_best : ByteArray := prog_10_method_62_code
def yX8_best : MethodName := ⟨RX8, "best", "(I)I"⟩
abbrev cX8_setPurpose : ByteArray := prog_10_method_63_code
def yX8_setPurpose : MethodName := ⟨RX8, "setPurpose", "(II)I"⟩
abbrev cX8_agreement : ByteArray := prog_10_method_64_code
def yX8_agreement : MethodName := ⟨RX8, "agreement", "()D"⟩
abbrev cX8_digest : ByteArray := prog_10_method_65_code
def yX8_digest : MethodName := ⟨RX8, "digest", "()J"⟩
def RJ6 : String := "java/lang/Integer"
abbrev cJ6_bitCount_0f7a4 : ByteArray := prog_15_method_49_code
def yJ6_bitCount_0f7a4 : MethodName := ⟨RJ6, "bitCount", "(I)I"⟩
def RJ9 : String := "java/lang/Math"
abbrev cJ9_abs_0f7a4 : ByteArray := prog_16_method_59_code
def yJ9_abs_0f7a4 : MethodName := ⟨RJ9, "abs", "(I)I"⟩
abbrev cJ9_max_7cf53 : ByteArray := prog_16_method_65_code
def yJ9_max_7cf53 : MethodName := ⟨RJ9, "max", "(II)I"⟩
abbrev cJ9_min_7cf53 : ByteArray := prog_16_method_69_code
def yJ9_min_7cf53 : MethodName := ⟨RJ9, "min", "(II)I"⟩
def RJ0 : String := "java/lang/String"
def RL : String := "ChangeUntanglerLaw"
abbrev cL_addPiece : ByteArray := method_3_code
def yL_addPiece : MethodName := ⟨RL, "addPiece", "(LChangeUntangler;IIII[J)I"⟩
abbrev cL_setNames : ByteArray := method_4_code
def yL_setNames : MethodName := ⟨RL, "setNames", "(LChangeUntangler;III[J)I"⟩
abbrev cL_names : ByteArray := method_5_code
def yL_names : MethodName := ⟨RL, "names", "(LChangeUntangler;II[J)I"⟩
abbrev cL_setName : ByteArray := method_6_code
def yL_setName : MethodName := ⟨RL, "setName", "(LChangeUntangler;IZI[J)I"⟩
abbrev cL_dropPiece : ByteArray := method_7_code
def yL_dropPiece : MethodName := ⟨RL, "dropPiece", "(LChangeUntangler;[J)I"⟩
abbrev cL_setWeight : ByteArray := method_8_code
def yL_setWeight : MethodName := ⟨RL, "setWeight", "(LChangeUntangler;II[J)I"⟩
abbrev cL_setSpan : ByteArray := method_9_code
def yL_setSpan : MethodName := ⟨RL, "setSpan", "(LChangeUntangler;I[J)I"⟩
abbrev cL_points : ByteArray := method_10_code
def yL_points : MethodName := ⟨RL, "points", "(LChangeUntangler;III[J)I"⟩
abbrev cL_affinity : ByteArray := method_11_code
def yL_affinity : MethodName := ⟨RL, "affinity", "(LChangeUntangler;II[J)I"⟩
abbrev cL_closest : ByteArray := method_12_code
def yL_closest : MethodName := ⟨RL, "closest", "(LChangeUntangler;I[J)I"⟩
abbrev cL_setThreshold : ByteArray := method_13_code
def yL_setThreshold : MethodName := ⟨RL, "setThreshold", "(LChangeUntangler;I[J)I"⟩
abbrev cL_setManner : ByteArray := method_14_code
def yL_setManner : MethodName := ⟨RL, "setManner", "(LChangeUntangler;I[J)I"⟩
abbrev cL_say : ByteArray := method_15_code
def yL_say : MethodName := ⟨RL, "say", "(LChangeUntangler;III[J)I"⟩
abbrev cL_group : ByteArray := method_16_code
def yL_group : MethodName := ⟨RL, "group", "(LChangeUntangler;I[J)I"⟩
abbrev cL_groupOf : ByteArray := method_17_code
def yL_groupOf : MethodName := ⟨RL, "groupOf", "(LChangeUntangler;I[J)I"⟩
abbrev cL_linkage : ByteArray := method_18_code
def yL_linkage : MethodName := ⟨RL, "linkage", "(LChangeUntangler;II[J)I"⟩
abbrev cL_needs : ByteArray := method_19_code
def yL_needs : MethodName := ⟨RL, "needs", "(LChangeUntangler;II[J)I"⟩
abbrev cL_parcel : ByteArray := method_20_code
def yL_parcel : MethodName := ⟨RL, "parcel", "(LChangeUntangler;I[J)I"⟩
abbrev cL_parcelOf : ByteArray := method_21_code
def yL_parcelOf : MethodName := ⟨RL, "parcelOf", "(LChangeUntangler;I[J)I"⟩
abbrev cL_lines : ByteArray := method_22_code
def yL_lines : MethodName := ⟨RL, "lines", "(LChangeUntangler;I[J)I"⟩
abbrev cL_broken : ByteArray := method_23_code
def yL_broken : MethodName := ⟨RL, "broken", "(LChangeUntangler;I[J)I"⟩
abbrev cL_leastBreakage : ByteArray := method_24_code
def yL_leastBreakage : MethodName := ⟨RL, "leastBreakage", "(LChangeUntangler;[J)I"⟩
abbrev cL_best : ByteArray := method_25_code
def yL_best : MethodName := ⟨RL, "best", "(LChangeUntangler;I[J)I"⟩
abbrev cL_setPurpose : ByteArray := method_26_code
def yL_setPurpose : MethodName := ⟨RL, "setPurpose", "(LChangeUntangler;II[J)I"⟩
abbrev cL_law : ByteArray := code
def yL_law : MethodName := ⟨RL, "law", "([I)Z"⟩
abbrev zcl : List vw_C := [(RX0, TX0, 4), (RX1, TX1, 2), (RX2, TX2, 2), (RX3, TX3, 6), (RX4, TX4, 4), (RX5, TX5, 8), (RX6, TX6, 2), (RX7, TX7, 9), (RX8, TX8, 21)]
theorem z_in0 : ∀ w ∈ wsX00, w ∈ lw_tbl := by decide +kernel
theorem z_in1 : ∀ w ∈ wsX10, w ∈ lw_tbl := by decide +kernel
theorem z_in2 : ∀ w ∈ wsX20, w ∈ lw_tbl := by decide +kernel
theorem z_in3 : ∀ w ∈ wsX30, w ∈ lw_tbl := by decide +kernel
theorem z_in4 : ∀ w ∈ wsX40, w ∈ lw_tbl := by decide +kernel
theorem z_in5 : ∀ w ∈ wsX50, w ∈ lw_tbl := by decide +kernel
theorem z_in6 : ∀ w ∈ wsX60, w ∈ lw_tbl := by decide +kernel
theorem z_in7 : ∀ w ∈ wsX70, w ∈ lw_tbl := by decide +kernel
theorem z_in8 : ∀ w ∈ wsX80, w ∈ lw_tbl := by decide +kernel
end
section
def zz_nest : List (String × Nat × MethodName × String) := [("ChangeUntangler", 11, ⟨"ChangeUntangler$Pieces", "<init>", "()V"⟩, "ChangeUntangler"), ("ChangeUntangler", 18, ⟨"ChangeUntangler$Code", "<init>", "()V"⟩, "ChangeUntangler"), ("ChangeUntangler", 32, ⟨"ChangeUntangler$Sayings", "<init>", "()V"⟩, "ChangeUntangler"), ("ChangeUntangler", 39, ⟨"ChangeUntangler$Groups", "<init>", "()V"⟩, "ChangeUntangler"), ("ChangeUntangler", 46, ⟨"ChangeUntangler$Parcels", "<init>", "()V"⟩, "ChangeUntangler"), ("ChangeUntangler", 53, ⟨"ChangeUntangler$BestOrder", "<init>", "()V"⟩, "ChangeUntangler"), ("ChangeUntangler$Sayings", 18, ⟨"ChangeUntangler", "isIn", "(II)Z"⟩, "ChangeUntangler"), ("ChangeUntangler$Groups", 69, ⟨"ChangeUntangler", "isIn", "(II)Z"⟩, "ChangeUntangler"), ("ChangeUntangler$Pieces", 49, ⟨"ChangeUntangler", "isIn", "(II)Z"⟩, "ChangeUntangler"), ("ChangeUntangler$Parcels", 55, ⟨"ChangeUntangler", "isIn", "(II)Z"⟩, "ChangeUntangler"), ("ChangeUntangler$Groups", 85, ⟨"ChangeUntangler", "placeOf", "(I[II)I"⟩, "ChangeUntangler"), ("ChangeUntangler$Pieces", 57, ⟨"ChangeUntangler", "mix", "(JJ)J"⟩, "ChangeUntangler"), ("ChangeUntangler$Code", 35, ⟨"ChangeUntangler", "mix", "(JJ)J"⟩, "ChangeUntangler"), ("ChangeUntangler$Code", 19, ⟨"ChangeUntangler", "isIn", "(II)Z"⟩, "ChangeUntangler"), ("ChangeUntangler$BestOrder", 58, ⟨"ChangeUntangler", "isIn", "(II)Z"⟩, "ChangeUntangler")]
def zz_exc : List String := ["java/lang/IllegalArgumentException", "java/lang/IllegalStateException", "java/lang/IndexOutOfBoundsException"]
def zz_nocast : List (String × String) := [("java/lang/IllegalArgumentException", "java/lang/IllegalStateException"), ("java/lang/IllegalArgumentException", "java/lang/IndexOutOfBoundsException"), ("java/lang/IllegalStateException", "java/lang/IllegalArgumentException"), ("java/lang/IllegalStateException", "java/lang/IndexOutOfBoundsException"), ("java/lang/IndexOutOfBoundsException", "java/lang/IllegalArgumentException"), ("java/lang/IndexOutOfBoundsException", "java/lang/IllegalStateException")]
def zz_decl : List MethodName := [⟨"java/lang/RuntimeException", "<init>", "(Ljava/lang/String;)V"⟩, ⟨"java/lang/Exception", "<init>", "(Ljava/lang/String;)V"⟩, ⟨"java/lang/Throwable", "<init>", "(Ljava/lang/String;)V"⟩]
def zz_str : List (String × Nat × String) := [("ChangeUntangler", 64, "no such file or line"), ("ChangeUntangler", 69, "no such number of lines"), ("ChangeUntangler", 77, "no room for another piece"), ("ChangeUntangler", 300, "no such piece"), ("ChangeUntangler", 302, "no such set of names of a piece"), ("ChangeUntangler", 92, "no such set of names"), ("ChangeUntangler", 104, "no such name"), ("ChangeUntangler", 107, "no such number of uses"), ("ChangeUntangler", 113, "there is no piece"), ("ChangeUntangler", 308, "no such kind of evidence"), ("ChangeUntangler", 125, "no such weight"), ("ChangeUntangler", 131, "no such span"), ("ChangeUntangler", 310, "the same piece twice"), ("ChangeUntangler", 150, "no such threshold"), ("ChangeUntangler", 155, "no such manner"), ("ChangeUntangler", 160, "nothing that can be said"), ("ChangeUntangler", 174, "pieces would be joined that must not be together"), ("ChangeUntangler", 304, "no such group"), ("ChangeUntangler", 190, "the same group twice"), ("ChangeUntangler", 306, "no such parcel"), ("ChangeUntangler", 221, "not a set of pieces"), ("ChangeUntangler", 290, "too many parcels"), ("ChangeUntangler", 239, "no such place"), ("ChangeUntangler", 244, "no such purpose")]
/-! ===== the bundled judgement: a walk with everything static in one premise, and everything that moves in the goal ===== -/
/-- the numbers of the array classes: int[], long[], boolean[], int[][] -/
abbrev zz_U : Type := ClassId × ClassId × ClassId × ClassId
abbrev zz_tys (U : zz_U) : List (ClassId × FieldType) := [(U.1, .int), (U.2.1, .long), (U.2.2.1, .boolean), (U.2.2.2, .array .int)]
/-- what the tables say, and every warming of them keeps -/
def zz_F (V : State) : Prop := (∀ w ∈ lw_tbl, goodWord w = true → ∀ a, w.before a V = true) ∧ (∀ q ∈ zz_nest, va_Nw (.methodLinkNest q.1 q.2.1 q.2.2.1 q.2.2.2) V) ∧ (∀ E ∈ zz_exc, va_Nw (.castable E E) V) ∧ (∀ q ∈ zz_nocast, va_Nc q.1 q.2 V) ∧ (∀ q ∈ zz_str, ∃ a, vk_R q.1 q.2.1 q.2.2 a V) ∧ (∀ y ∈ zz_decl, va_Nw (.declares y) V) ∧ va_AOA .int V
theorem zz_warmD {y : MethodName} {s V : State} (hW : s.WarmedH V.vm) (h : va_Nw (.declares y) s) : va_Nw (.declares y) V := va_tabs rfl (rfl : (s.setVm V.vm).vm = V.vm) (by rw [Cond.declares_setVm hW.alike]; exact h)
theorem zz_F.warm {s V : State} (hW : s.WarmedH V.vm) (h : zz_F s) : zz_F V := by
  obtain ⟨h1, h2, h3, h4, h5, h6, h7⟩ := h
  refine ⟨fun w hw hg a => word_at hW (good_of_word hg) (h1 w hw hg a), fun q hq => va_Nw.warmM hW (h2 q hq), fun E hE => va_Nw.warmC hW (h3 E hE), fun q hq => va_Nc.moved hW.alike (h4 q hq), fun q hq => ?_, fun y hy => zz_warmD hW (h6 y hy), va_AOA.moved hW.alike h7⟩
  obtain ⟨a, ha⟩ := h5 q hq
  exact ⟨a, vk_R.warm hW ha⟩
theorem zz_F.same {u V : State} (hv : u.vm = V.vm) (h : zz_F u) : zz_F V := zz_F.warm (by rw [← hv]; exact State.WarmedH.refl u) h
/-- the two statics that every throwable reads -/
def zz_S (A : Nat → Prop) (V : State) (H : Heap) : Prop := vx_Zq Bundle.tN "UNASSIGNED_STACK" Bundle.steD A V H ∧ vx_Zq Bundle.tN "SUPPRESSED_SENTINEL" Bundle.listD A V H
/-- all that stays during a method's walk -/
def zz_C (p : Program) (l : Launch) (R : Room) (s : State) (m : MethodId) (meth : Method) (c : Code) (D : va_G) (U : zz_U) (A : Nat → Prop) (own : String) (cc : ByteArray) (nL : Nat) (ret : Option FieldType) (hh : List (Nat × Nat × Nat × Nat)) (d : Nat) : Prop :=
  p.tables.exec = Jvm.exec ∧ c.code = cc ∧ c.maxLocals = nL ∧ s.vm.findClass own = some m.cls ∧ zz_F s ∧ meth.locks = false ∧ l.stackTraces = false ∧ va_K D zcl (zz_tys U) s ∧ (∀ q, s.heap.size ≤ q → A q) ∧ zz_S A s s.heap ∧ d ≤ R.frames ∧ 36 * d ≤ R.locals ∧ meth.sig.returnType = ret ∧ c.exceptionTable.toList = tableOf hh
def zz_Z (p : Program) (l : Launch) (e : Env) (R : Room) (s : State) (m : MethodId) (args : Array Value) (below : List Frame) (meth : Method) (c : Code) (Q : State → Prop) (D : va_G) (A : Nat → Prop) (nL cells slots : Nat) (ws : va_W) (pc : Nat) (lv : List (Nat × Value)) (st : List Value) : Prop :=
  ∀ (H : Heap) (locs : List Loc) (ls : Array Slot), va_P D zcl ws H → va_D A ws → va_S A s.heap H locs → lv_has ls nL lv → W p l e R s m args below meth c H locs cells slots Q (F0 m pc ls st)
/-- .. with E thrown over the frame -/
def zz_X (p : Program) (l : Launch) (e : Env) (R : Room) (s : State) (m : MethodId) (args : Array Value) (below : List Frame) (meth : Method) (c : Code) (Q : State → Prop) (D : va_G) (A : Nat → Prop) (nL cells slots : Nat) (ws : va_W) (pc : Nat) (lv : List (Nat × Value)) (st : List Value) (E : String) : Prop :=
  ∀ (H : Heap) (locs : List Loc) (ls : Array Slot) (q : Addr) (ce : Cell), va_P D zcl ws H → va_D A ws → va_S A s.heap H locs → lv_has ls nL lv → H[q]? = some ce → ce.vm = .none → s.vm.findClass E = some ce.cls → vx_W p l e R s m args below meth c H locs cells slots Q (F0 m pc ls st) q
section ZZ
variable {p : Program} {l : Launch} {e : Env} {R : Room} {s : State} {m : MethodId} {args : Array Value} {below : List Frame} {meth : Method} {c : Code} {Q : State → Prop} {D : va_G} {U : zz_U} {A : Nat → Prop} {own : String} {cc : ByteArray} {nL d cells slots pc : Nat} {ret : Option FieldType} {hh : List (Nat × Nat × Nat × Nat)} {lv : List (Nat × Value)} {st : List Value} {ws : va_W}
theorem zz_C.x (C : zz_C p l R s m meth c D U A own cc nL ret hh d) : p.tables.exec = Jvm.exec := C.1
theorem zz_C.b (C : zz_C p l R s m meth c D U A own cc nL ret hh d) : c.code = cc := C.2.1
theorem zz_C.ml (C : zz_C p l R s m meth c D U A own cc nL ret hh d) : c.maxLocals = nL := C.2.2.1
theorem zz_C.ow (C : zz_C p l R s m meth c D U A own cc nL ret hh d) : s.vm.findClass own = some m.cls := C.2.2.2.1
theorem zz_C.F (C : zz_C p l R s m meth c D U A own cc nL ret hh d) : zz_F s := C.2.2.2.2.1
theorem zz_C.lk (C : zz_C p l R s m meth c D U A own cc nL ret hh d) : meth.locks = false := C.2.2.2.2.2.1
theorem zz_C.tr (C : zz_C p l R s m meth c D U A own cc nL ret hh d) : l.stackTraces = false := C.2.2.2.2.2.2.1
theorem zz_C.K (C : zz_C p l R s m meth c D U A own cc nL ret hh d) : va_K D zcl (zz_tys U) s := C.2.2.2.2.2.2.2.1
theorem zz_C.hA (C : zz_C p l R s m meth c D U A own cc nL ret hh d) : ∀ q, s.heap.size ≤ q → A q := C.2.2.2.2.2.2.2.2.1
theorem zz_C.S (C : zz_C p l R s m meth c D U A own cc nL ret hh d) : zz_S A s s.heap := C.2.2.2.2.2.2.2.2.2.1
theorem zz_C.fr (C : zz_C p l R s m meth c D U A own cc nL ret hh d) : d ≤ R.frames := C.2.2.2.2.2.2.2.2.2.2.1
theorem zz_C.lo (C : zz_C p l R s m meth c D U A own cc nL ret hh d) : 36 * d ≤ R.locals := C.2.2.2.2.2.2.2.2.2.2.2.1
theorem zz_C.r (C : zz_C p l R s m meth c D U A own cc nL ret hh d) : meth.sig.returnType = ret := C.2.2.2.2.2.2.2.2.2.2.2.2.1
theorem zz_C.t (C : zz_C p l R s m meth c D U A own cc nL ret hh d) : c.exceptionTable.toList = tableOf hh := C.2.2.2.2.2.2.2.2.2.2.2.2.2
/-- a good word of the tables -/
theorem zz_C.w (C : zz_C p l R s m meth c D U A own cc nL ret hh d) {w : Cond} (h : w ∈ lw_tbl ∧ goodWord w = true) {a : Array Value} : w.before a s = true := C.F.1 w h.1 h.2 a
theorem zz_ws (C : zz_C p l R s m meth c D U A own cc nL ret hh d) {L : List Cond} (h : ∀ w ∈ L, w ∈ lw_tbl) (h2 : L.all goodWord = true) {a : Array Value} : ∀ w ∈ L, w.before a s = true := fun w hw => C.F.1 w (h w hw) (List.all_eq_true.mp h2 w hw) a
/-- fewer locals -/
theorem zz_sub (ks : List Nat) {lv' : List (Nat × Value)} (h : lv_pick lv ks = lv') (k : zz_Z p l e R s m args below meth c Q D A nL cells slots ws pc lv' st) : zz_Z p l e R s m args below meth c Q D A nL cells slots ws pc lv st := fun H locs ls hP hD hS hl => k H locs ls hP hD hS (lv_sub hl ks h)
/-- the world by another name -/
theorem zz_ren {ws' : va_W} (h : ws = ws') (k : zz_Z p l e R s m args below meth c Q D A nL cells slots ws' pc lv st) : zz_Z p l e R s m args below meth c Q D A nL cells slots ws pc lv st := h ▸ k
theorem zz_widen {k n : Nat} (h1 : cells ≤ k) (h2 : slots ≤ n) (kk : zz_Z p l e R s m args below meth c Q D A nL k n ws pc lv st) : zz_Z p l e R s m args below meth c Q D A nL cells slots ws pc lv st := fun H locs ls hP hD hS hl => W.widen h1 h2 (kk H locs ls hP hD hS hl)
def zz_max (x y : Int32) : Int32 := if x < y then y else x
def zz_min (x y : Int32) : Int32 := if y < x then y else x
def zz_abs (x : Int32) : Int32 := if 0 ≤ x then x else 0 - x
def zz_ushr (x y : Int32) : Int32 := (x.toUInt32 >>> (y.toUInt32 &&& Int32.toUInt32 31)).toInt32
theorem zz_iconst (C : zz_C p l R s m meth c D U A own cc nL ret hh d) {n : Int} {v : Int32} (hdg : decode cc pc = .ok (.iconst n, 1)) (hv : Int32.ofInt n = v) (k : zz_Z p l e R s m args below meth c Q D A nL cells slots ws (pc + 1) lv (.int v :: st)) : zz_Z p l e R s m args below meth c Q D A nL cells slots ws (pc) lv (st) := fun H locs ls hP hD hS hl => lv_iconst C.x C.b hdg hv (k H locs ls hP hD hS hl)
theorem zz_bipush (C : zz_C p l R s m meth c D U A own cc nL ret hh d) {n : Int} {v : Int32} (hdg : decode cc pc = .ok (.bipush n, 2)) (hv : (Int8.ofInt n).toInt32 = v) (k : zz_Z p l e R s m args below meth c Q D A nL cells slots ws (pc + 2) lv (.int v :: st)) : zz_Z p l e R s m args below meth c Q D A nL cells slots ws (pc) lv (st) := fun H locs ls hP hD hS hl => lv_bipush C.x C.b hdg hv (k H locs ls hP hD hS hl)
theorem zz_sipush (C : zz_C p l R s m meth c D U A own cc nL ret hh d) {n : Int} {v : Int32} (hdg : decode cc pc = .ok (.sipush n, 3)) (hv : (Int16.ofInt n).toInt32 = v) (k : zz_Z p l e R s m args below meth c Q D A nL cells slots ws (pc + 3) lv (.int v :: st)) : zz_Z p l e R s m args below meth c Q D A nL cells slots ws (pc) lv (st) := fun H locs ls hP hD hS hl => lv_sipush C.x C.b hdg hv (k H locs ls hP hD hS hl)
theorem zz_lconst (C : zz_C p l R s m meth c D U A own cc nL ret hh d) {n : Fin 2} {v : Int64} (hdg : decode cc pc = .ok (.lconst n, 1)) (hv : Int64.ofNat (n : Nat) = v) (k : zz_Z p l e R s m args below meth c Q D A nL cells slots ws (pc + 1) lv (.long v :: st)) : zz_Z p l e R s m args below meth c Q D A nL cells slots ws (pc) lv (st) := fun H locs ls hP hD hS hl => lv_lconst C.x C.b hdg hv (k H locs ls hP hD hS hl)
theorem zz_iload_n (C : zz_C p l R s m meth c D U A own cc nL ret hh d) {q : Fin 4} {i : Nat} {x : Int32} (j : Nat) (hdg : decode cc pc = .ok (.iload_n q, 1)) (hi : (q : Nat) = i) (hk : lv[j]? = some (i, .int x)) (k : zz_Z p l e R s m args below meth c Q D A nL cells slots ws (pc + 1) lv (.int x :: st)) : zz_Z p l e R s m args below meth c Q D A nL cells slots ws (pc) lv (st) := fun H locs ls hP hD hS hl => lv_iload_n C.x C.b hdg hi (lv_at hl j hk) (k H locs ls hP hD hS hl)
theorem zz_iload (C : zz_C p l R s m meth c D U A own cc nL ret hh d) {i : Nat} {x : Int32} (j : Nat) (hdg : decode cc pc = .ok (.iload i, 2)) (hk : lv[j]? = some (i, .int x)) (k : zz_Z p l e R s m args below meth c Q D A nL cells slots ws (pc + 2) lv (.int x :: st)) : zz_Z p l e R s m args below meth c Q D A nL cells slots ws (pc) lv (st) := fun H locs ls hP hD hS hl => lv_iload C.x C.b hdg (lv_at hl j hk) (k H locs ls hP hD hS hl)
theorem zz_lload_n (C : zz_C p l R s m meth c D U A own cc nL ret hh d) {q : Fin 4} {i : Nat} {x : Int64} (j : Nat) (hdg : decode cc pc = .ok (.lload_n q, 1)) (hi : (q : Nat) = i) (hk : lv[j]? = some (i, .long x)) (k : zz_Z p l e R s m args below meth c Q D A nL cells slots ws (pc + 1) lv (.long x :: st)) : zz_Z p l e R s m args below meth c Q D A nL cells slots ws (pc) lv (st) := fun H locs ls hP hD hS hl => lv_lload_n C.x C.b hdg hi (lv_at hl j hk) (k H locs ls hP hD hS hl)
theorem zz_lload (C : zz_C p l R s m meth c D U A own cc nL ret hh d) {i : Nat} {x : Int64} (j : Nat) (hdg : decode cc pc = .ok (.lload i, 2)) (hk : lv[j]? = some (i, .long x)) (k : zz_Z p l e R s m args below meth c Q D A nL cells slots ws (pc + 2) lv (.long x :: st)) : zz_Z p l e R s m args below meth c Q D A nL cells slots ws (pc) lv (st) := fun H locs ls hP hD hS hl => lv_lload C.x C.b hdg (lv_at hl j hk) (k H locs ls hP hD hS hl)
theorem zz_aload_n (C : zz_C p l R s m meth c D U A own cc nL ret hh d) {q : Fin 4} {i : Nat} {x : Nat} (j : Nat) (hdg : decode cc pc = .ok (.aload_n q, 1)) (hi : (q : Nat) = i) (hk : lv[j]? = some (i, .ref x)) (k : zz_Z p l e R s m args below meth c Q D A nL cells slots ws (pc + 1) lv (.ref x :: st)) : zz_Z p l e R s m args below meth c Q D A nL cells slots ws (pc) lv (st) := fun H locs ls hP hD hS hl => lv_aload_n C.x C.b hdg hi (lv_at hl j hk) (k H locs ls hP hD hS hl)
theorem zz_aload (C : zz_C p l R s m meth c D U A own cc nL ret hh d) {i : Nat} {x : Nat} (j : Nat) (hdg : decode cc pc = .ok (.aload i, 2)) (hk : lv[j]? = some (i, .ref x)) (k : zz_Z p l e R s m args below meth c Q D A nL cells slots ws (pc + 2) lv (.ref x :: st)) : zz_Z p l e R s m args below meth c Q D A nL cells slots ws (pc) lv (st) := fun H locs ls hP hD hS hl => lv_aload C.x C.b hdg (lv_at hl j hk) (k H locs ls hP hD hS hl)
theorem zz_dload_n (C : zz_C p l R s m meth c D U A own cc nL ret hh d) {q : Fin 4} {i : Nat} {x : UInt64} (j : Nat) (hdg : decode cc pc = .ok (.dload_n q, 1)) (hi : (q : Nat) = i) (hk : lv[j]? = some (i, .double x)) (k : zz_Z p l e R s m args below meth c Q D A nL cells slots ws (pc + 1) lv (.double x :: st)) : zz_Z p l e R s m args below meth c Q D A nL cells slots ws (pc) lv (st) := fun H locs ls hP hD hS hl => lv_dload_n C.x C.b hdg hi (lv_at hl j hk) (k H locs ls hP hD hS hl)
theorem zz_dload (C : zz_C p l R s m meth c D U A own cc nL ret hh d) {i : Nat} {x : UInt64} (j : Nat) (hdg : decode cc pc = .ok (.dload i, 2)) (hk : lv[j]? = some (i, .double x)) (k : zz_Z p l e R s m args below meth c Q D A nL cells slots ws (pc + 2) lv (.double x :: st)) : zz_Z p l e R s m args below meth c Q D A nL cells slots ws (pc) lv (st) := fun H locs ls hP hD hS hl => lv_dload C.x C.b hdg (lv_at hl j hk) (k H locs ls hP hD hS hl)
theorem zz_istore_n (C : zz_C p l R s m meth c D U A own cc nL ret hh d) {q : Fin 4} {i : Nat} {x : Int32} {lv' : List (Nat × Value)} (hdg : decode cc pc = .ok (.istore_n q, 1)) (hi : (q : Nat) = i) (hn : i < nL) (hl : (i, Value.int x) :: lv.filter (fun q => !(q.1 == i) && !(q.1 + 1 == i && q.2.category == 2)) = lv') (k : zz_Z p l e R s m args below meth c Q D A nL cells slots ws (pc + 1) lv' (st)) : zz_Z p l e R s m args below meth c Q D A nL cells slots ws (pc) lv (.int x :: st) := fun H locs ls hP hD hS h9 => lv_istore_n C.x C.b hdg hi h9 hn hl (fun ls9 h8 => k H locs ls9 hP hD hS h8)
theorem zz_istore (C : zz_C p l R s m meth c D U A own cc nL ret hh d) {i : Nat} {x : Int32} {lv' : List (Nat × Value)} (hdg : decode cc pc = .ok (.istore i, 2)) (hn : i < nL) (hl : (i, Value.int x) :: lv.filter (fun q => !(q.1 == i) && !(q.1 + 1 == i && q.2.category == 2)) = lv') (k : zz_Z p l e R s m args below meth c Q D A nL cells slots ws (pc + 2) lv' (st)) : zz_Z p l e R s m args below meth c Q D A nL cells slots ws (pc) lv (.int x :: st) := fun H locs ls hP hD hS h9 => lv_istore C.x C.b hdg h9 hn hl (fun ls9 h8 => k H locs ls9 hP hD hS h8)
theorem zz_astore_n (C : zz_C p l R s m meth c D U A own cc nL ret hh d) {q : Fin 4} {i : Nat} {x : Nat} {lv' : List (Nat × Value)} (hdg : decode cc pc = .ok (.astore_n q, 1)) (hi : (q : Nat) = i) (hn : i < nL) (hl : (i, Value.ref x) :: lv.filter (fun q => !(q.1 == i) && !(q.1 + 1 == i && q.2.category == 2)) = lv') (k : zz_Z p l e R s m args below meth c Q D A nL cells slots ws (pc + 1) lv' (st)) : zz_Z p l e R s m args below meth c Q D A nL cells slots ws (pc) lv (.ref x :: st) := fun H locs ls hP hD hS h9 => lv_astore_n C.x C.b hdg hi h9 hn hl (fun ls9 h8 => k H locs ls9 hP hD hS h8)
theorem zz_astore (C : zz_C p l R s m meth c D U A own cc nL ret hh d) {i : Nat} {x : Nat} {lv' : List (Nat × Value)} (hdg : decode cc pc = .ok (.astore i, 2)) (hn : i < nL) (hl : (i, Value.ref x) :: lv.filter (fun q => !(q.1 == i) && !(q.1 + 1 == i && q.2.category == 2)) = lv') (k : zz_Z p l e R s m args below meth c Q D A nL cells slots ws (pc + 2) lv' (st)) : zz_Z p l e R s m args below meth c Q D A nL cells slots ws (pc) lv (.ref x :: st) := fun H locs ls hP hD hS h9 => lv_astore C.x C.b hdg h9 hn hl (fun ls9 h8 => k H locs ls9 hP hD hS h8)
theorem zz_lstore_n (C : zz_C p l R s m meth c D U A own cc nL ret hh d) {q : Fin 4} {i : Nat} {x : Int64} {lv' : List (Nat × Value)} (hdg : decode cc pc = .ok (.lstore_n q, 1)) (hi : (q : Nat) = i) (hn : i + 1 < nL) (hl : (i, Value.long x) :: lv.filter (fun q => !(q.1 == i) && (!(q.1 == i + 1) && !(q.1 + 1 == i && q.2.category == 2))) = lv') (k : zz_Z p l e R s m args below meth c Q D A nL cells slots ws (pc + 1) lv' (st)) : zz_Z p l e R s m args below meth c Q D A nL cells slots ws (pc) lv (.long x :: st) := fun H locs ls hP hD hS h9 => lv_lstore_n C.x C.b hdg hi h9 hn hl (fun ls9 h8 => k H locs ls9 hP hD hS h8)
theorem zz_lstore (C : zz_C p l R s m meth c D U A own cc nL ret hh d) {i : Nat} {x : Int64} {lv' : List (Nat × Value)} (hdg : decode cc pc = .ok (.lstore i, 2)) (hn : i + 1 < nL) (hl : (i, Value.long x) :: lv.filter (fun q => !(q.1 == i) && (!(q.1 == i + 1) && !(q.1 + 1 == i && q.2.category == 2))) = lv') (k : zz_Z p l e R s m args below meth c Q D A nL cells slots ws (pc + 2) lv' (st)) : zz_Z p l e R s m args below meth c Q D A nL cells slots ws (pc) lv (.long x :: st) := fun H locs ls hP hD hS h9 => lv_lstore C.x C.b hdg h9 hn hl (fun ls9 h8 => k H locs ls9 hP hD hS h8)
theorem zz_dstore_n (C : zz_C p l R s m meth c D U A own cc nL ret hh d) {q : Fin 4} {i : Nat} {x : UInt64} {lv' : List (Nat × Value)} (hdg : decode cc pc = .ok (.dstore_n q, 1)) (hi : (q : Nat) = i) (hn : i + 1 < nL) (hl : (i, Value.double x) :: lv.filter (fun q => !(q.1 == i) && (!(q.1 == i + 1) && !(q.1 + 1 == i && q.2.category == 2))) = lv') (k : zz_Z p l e R s m args below meth c Q D A nL cells slots ws (pc + 1) lv' (st)) : zz_Z p l e R s m args below meth c Q D A nL cells slots ws (pc) lv (.double x :: st) := fun H locs ls hP hD hS h9 => lv_dstore_n C.x C.b hdg hi h9 hn hl (fun ls9 h8 => k H locs ls9 hP hD hS h8)
theorem zz_dstore (C : zz_C p l R s m meth c D U A own cc nL ret hh d) {i : Nat} {x : UInt64} {lv' : List (Nat × Value)} (hdg : decode cc pc = .ok (.dstore i, 2)) (hn : i + 1 < nL) (hl : (i, Value.double x) :: lv.filter (fun q => !(q.1 == i) && (!(q.1 == i + 1) && !(q.1 + 1 == i && q.2.category == 2))) = lv') (k : zz_Z p l e R s m args below meth c Q D A nL cells slots ws (pc + 2) lv' (st)) : zz_Z p l e R s m args below meth c Q D A nL cells slots ws (pc) lv (.double x :: st) := fun H locs ls hP hD hS h9 => lv_dstore C.x C.b hdg h9 hn hl (fun ls9 h8 => k H locs ls9 hP hD hS h8)
theorem zz_iinc (C : zz_C p l R s m meth c D U A own cc nL ret hh d) {i : Nat} {n : Int} {x v : Int32} {lv' : List (Nat × Value)} (j : Nat) (hdg : decode cc pc = .ok (.iinc i n, 3)) (hk : lv[j]? = some (i, .int x)) (hv : x + Int32.ofInt n = v) (hn : i < nL) (hl : (i, Value.int v) :: lv.filter (fun q => !(q.1 == i) && !(q.1 + 1 == i && q.2.category == 2)) = lv') (k : zz_Z p l e R s m args below meth c Q D A nL cells slots ws (pc + 3) lv' (st)) : zz_Z p l e R s m args below meth c Q D A nL cells slots ws (pc) lv (st) := fun H locs ls hP hD hS h9 => lv_iinc C.x C.b hdg h9 hk hv hn hl (fun ls9 h8 => k H locs ls9 hP hD hS h8)
theorem zz_iadd (C : zz_C p l R s m meth c D U A own cc nL ret hh d) {x y : Int32} (hdg : decode cc pc = .ok (.iadd, 1)) (k : zz_Z p l e R s m args below meth c Q D A nL cells slots ws (pc + 1) lv (.int (x + y) :: st)) : zz_Z p l e R s m args below meth c Q D A nL cells slots ws (pc) lv (.int y :: .int x :: st) := fun H locs ls hP hD hS hl => lv_iadd C.x C.b hdg (k H locs ls hP hD hS hl)
theorem zz_isub (C : zz_C p l R s m meth c D U A own cc nL ret hh d) {x y : Int32} (hdg : decode cc pc = .ok (.isub, 1)) (k : zz_Z p l e R s m args below meth c Q D A nL cells slots ws (pc + 1) lv (.int (x - y) :: st)) : zz_Z p l e R s m args below meth c Q D A nL cells slots ws (pc) lv (.int y :: .int x :: st) := fun H locs ls hP hD hS hl => lv_isub C.x C.b hdg (k H locs ls hP hD hS hl)
theorem zz_imul (C : zz_C p l R s m meth c D U A own cc nL ret hh d) {x y : Int32} (hdg : decode cc pc = .ok (.imul, 1)) (k : zz_Z p l e R s m args below meth c Q D A nL cells slots ws (pc + 1) lv (.int (x * y) :: st)) : zz_Z p l e R s m args below meth c Q D A nL cells slots ws (pc) lv (.int y :: .int x :: st) := fun H locs ls hP hD hS hl => lv_imul C.x C.b hdg (k H locs ls hP hD hS hl)
theorem zz_iand (C : zz_C p l R s m meth c D U A own cc nL ret hh d) {x y : Int32} (hdg : decode cc pc = .ok (.iand, 1)) (k : zz_Z p l e R s m args below meth c Q D A nL cells slots ws (pc + 1) lv (.int (x &&& y) :: st)) : zz_Z p l e R s m args below meth c Q D A nL cells slots ws (pc) lv (.int y :: .int x :: st) := fun H locs ls hP hD hS hl => lv_iand C.x C.b hdg (k H locs ls hP hD hS hl)
theorem zz_ior (C : zz_C p l R s m meth c D U A own cc nL ret hh d) {x y : Int32} (hdg : decode cc pc = .ok (.ior, 1)) (k : zz_Z p l e R s m args below meth c Q D A nL cells slots ws (pc + 1) lv (.int (x ||| y) :: st)) : zz_Z p l e R s m args below meth c Q D A nL cells slots ws (pc) lv (.int y :: .int x :: st) := fun H locs ls hP hD hS hl => lv_ior C.x C.b hdg (k H locs ls hP hD hS hl)
theorem zz_ixor (C : zz_C p l R s m meth c D U A own cc nL ret hh d) {x y : Int32} (hdg : decode cc pc = .ok (.ixor, 1)) (k : zz_Z p l e R s m args below meth c Q D A nL cells slots ws (pc + 1) lv (.int (x ^^^ y) :: st)) : zz_Z p l e R s m args below meth c Q D A nL cells slots ws (pc) lv (.int y :: .int x :: st) := fun H locs ls hP hD hS hl => lv_ixor C.x C.b hdg (k H locs ls hP hD hS hl)
theorem zz_idiv (C : zz_C p l R s m meth c D U A own cc nL ret hh d) {x y : Int32} (hdg : decode cc pc = .ok (.idiv, 1)) (hne : ¬ y = 0) (k : zz_Z p l e R s m args below meth c Q D A nL cells slots ws (pc + 1) lv (.int (x / y) :: st)) : zz_Z p l e R s m args below meth c Q D A nL cells slots ws (pc) lv (.int y :: .int x :: st) := fun H locs ls hP hD hS hl => lv_idiv C.x C.b hdg hne (k H locs ls hP hD hS hl)
theorem zz_irem (C : zz_C p l R s m meth c D U A own cc nL ret hh d) {x y : Int32} (hdg : decode cc pc = .ok (.irem, 1)) (hne : ¬ y = 0) (k : zz_Z p l e R s m args below meth c Q D A nL cells slots ws (pc + 1) lv (.int (x - x / y * y) :: st)) : zz_Z p l e R s m args below meth c Q D A nL cells slots ws (pc) lv (.int y :: .int x :: st) := fun H locs ls hP hD hS hl => lv_irem C.x C.b hdg hne (k H locs ls hP hD hS hl)
theorem zz_ineg (C : zz_C p l R s m meth c D U A own cc nL ret hh d) {x : Int32} (hdg : decode cc pc = .ok (.ineg, 1)) (k : zz_Z p l e R s m args below meth c Q D A nL cells slots ws (pc + 1) lv (.int (-x) :: st)) : zz_Z p l e R s m args below meth c Q D A nL cells slots ws (pc) lv (.int x :: st) := fun H locs ls hP hD hS hl => lv_ineg C.x C.b hdg (k H locs ls hP hD hS hl)
theorem zz_ladd (C : zz_C p l R s m meth c D U A own cc nL ret hh d) {x y : Int64} (hdg : decode cc pc = .ok (.ladd, 1)) (k : zz_Z p l e R s m args below meth c Q D A nL cells slots ws (pc + 1) lv (.long (x + y) :: st)) : zz_Z p l e R s m args below meth c Q D A nL cells slots ws (pc) lv (.long y :: .long x :: st) := fun H locs ls hP hD hS hl => lv_ladd C.x C.b hdg (k H locs ls hP hD hS hl)
theorem zz_lsub (C : zz_C p l R s m meth c D U A own cc nL ret hh d) {x y : Int64} (hdg : decode cc pc = .ok (.lsub, 1)) (k : zz_Z p l e R s m args below meth c Q D A nL cells slots ws (pc + 1) lv (.long (x - y) :: st)) : zz_Z p l e R s m args below meth c Q D A nL cells slots ws (pc) lv (.long y :: .long x :: st) := fun H locs ls hP hD hS hl => lv_lsub C.x C.b hdg (k H locs ls hP hD hS hl)
theorem zz_lmul (C : zz_C p l R s m meth c D U A own cc nL ret hh d) {x y : Int64} (hdg : decode cc pc = .ok (.lmul, 1)) (k : zz_Z p l e R s m args below meth c Q D A nL cells slots ws (pc + 1) lv (.long (x * y) :: st)) : zz_Z p l e R s m args below meth c Q D A nL cells slots ws (pc) lv (.long y :: .long x :: st) := fun H locs ls hP hD hS hl => lv_lmul C.x C.b hdg (k H locs ls hP hD hS hl)
theorem zz_iushr (C : zz_C p l R s m meth c D U A own cc nL ret hh d) {x y : Int32} (hdg : decode cc pc = .ok (.iushr, 1)) (k : zz_Z p l e R s m args below meth c Q D A nL cells slots ws (pc + 1) lv (.int (zz_ushr x y) :: st)) : zz_Z p l e R s m args below meth c Q D A nL cells slots ws (pc) lv (.int y :: .int x :: st) := fun H locs ls hP hD hS hl => lv_iushr C.x C.b hdg rfl (k H locs ls hP hD hS hl)
theorem zz_ishl (C : zz_C p l R s m meth c D U A own cc nL ret hh d) {x y : Int32} (hdg : decode cc pc = .ok (.ishl, 1)) (k : zz_Z p l e R s m args below meth c Q D A nL cells slots ws (pc + 1) lv (.int (x <<< (y &&& 31)) :: st)) : zz_Z p l e R s m args below meth c Q D A nL cells slots ws (pc) lv (.int y :: .int x :: st) := fun H locs ls hP hD hS hl => lv_ishl C.x C.b hdg (k H locs ls hP hD hS hl)
theorem zz_ishr (C : zz_C p l R s m meth c D U A own cc nL ret hh d) {x y : Int32} (hdg : decode cc pc = .ok (.ishr, 1)) (k : zz_Z p l e R s m args below meth c Q D A nL cells slots ws (pc + 1) lv (.int (x >>> (y &&& 31)) :: st)) : zz_Z p l e R s m args below meth c Q D A nL cells slots ws (pc) lv (.int y :: .int x :: st) := fun H locs ls hP hD hS hl => lv_ishr C.x C.b hdg (k H locs ls hP hD hS hl)
theorem zz_i2l (C : zz_C p l R s m meth c D U A own cc nL ret hh d) {x : Int32} (hdg : decode cc pc = .ok (.i2l, 1)) (k : zz_Z p l e R s m args below meth c Q D A nL cells slots ws (pc + 1) lv (.long x.toInt64 :: st)) : zz_Z p l e R s m args below meth c Q D A nL cells slots ws (pc) lv (.int x :: st) := fun H locs ls hP hD hS hl => lv_i2l C.x C.b hdg rfl (k H locs ls hP hD hS hl)
theorem zz_i2d (C : zz_C p l R s m meth c D U A own cc nL ret hh d) {x : Int32} (hdg : decode cc pc = .ok (.i2d, 1)) (k : zz_Z p l e R s m args below meth c Q D A nL cells slots ws (pc + 1) lv (.double (FP.i2d x) :: st)) : zz_Z p l e R s m args below meth c Q D A nL cells slots ws (pc) lv (.int x :: st) := fun H locs ls hP hD hS hl => lv_i2d C.x C.b hdg (k H locs ls hP hD hS hl)
theorem zz_dconst0 (C : zz_C p l R s m meth c D U A own cc nL ret hh d)  (hdg : decode cc pc = .ok (.dconst 0, 1)) (k : zz_Z p l e R s m args below meth c Q D A nL cells slots ws (pc + 1) lv (.double FP.dconst0 :: st)) : zz_Z p l e R s m args below meth c Q D A nL cells slots ws (pc) lv (st) := fun H locs ls hP hD hS hl => lv_dconst0 C.x C.b hdg (k H locs ls hP hD hS hl)
theorem zz_dconst1 (C : zz_C p l R s m meth c D U A own cc nL ret hh d)  (hdg : decode cc pc = .ok (.dconst 1, 1)) (k : zz_Z p l e R s m args below meth c Q D A nL cells slots ws (pc + 1) lv (.double FP.dconst1 :: st)) : zz_Z p l e R s m args below meth c Q D A nL cells slots ws (pc) lv (st) := fun H locs ls hP hD hS hl => lv_dconst1 C.x C.b hdg (k H locs ls hP hD hS hl)
theorem zz_ddiv (C : zz_C p l R s m meth c D U A own cc nL ret hh d) {x y : UInt64} (hdg : decode cc pc = .ok (.ddiv, 1)) (hne : vf_n64 (FP.ddiv x y)) (k : zz_Z p l e R s m args below meth c Q D A nL cells slots ws (pc + 1) lv (.double (FP.ddiv x y) :: st)) : zz_Z p l e R s m args below meth c Q D A nL cells slots ws (pc) lv (.double y :: .double x :: st) := fun H locs ls hP hD hS hl => lv_ddiv C.x C.b hdg hne (k H locs ls hP hD hS hl)
theorem zz_dcmp (C : zz_C p l R s m meth c D U A own cc nL ret hh d) {x y : UInt64} {op : CmpOp} (hdg : decode cc pc = .ok (.dcmp op, 1)) (k : zz_Z p l e R s m args below meth c Q D A nL cells slots ws (pc + 1) lv (.int (Op.cmpValue (FP.dcmp x y) op) :: st)) : zz_Z p l e R s m args below meth c Q D A nL cells slots ws (pc) lv (.double y :: .double x :: st) := fun H locs ls hP hD hS hl => lv_dcmp C.x C.b hdg (k H locs ls hP hD hS hl)
theorem zz_dup (C : zz_C p l R s m meth c D U A own cc nL ret hh d) {va : Value} (hdg : decode cc pc = .ok (.dup, 1)) (hva : va.category = 1) (k : zz_Z p l e R s m args below meth c Q D A nL cells slots ws (pc + 1) lv (va :: va :: st)) : zz_Z p l e R s m args below meth c Q D A nL cells slots ws (pc) lv (va :: st) := fun H locs ls hP hD hS hl => lv_dup C.x C.b hdg hva (k H locs ls hP hD hS hl)
theorem zz_pop (C : zz_C p l R s m meth c D U A own cc nL ret hh d) {va : Value} (hdg : decode cc pc = .ok (.pop, 1)) (hva : va.category = 1) (k : zz_Z p l e R s m args below meth c Q D A nL cells slots ws (pc + 1) lv (st)) : zz_Z p l e R s m args below meth c Q D A nL cells slots ws (pc) lv (va :: st) := fun H locs ls hP hD hS hl => lv_pop C.x C.b hdg hva (k H locs ls hP hD hS hl)
theorem zz_dup2_11 (C : zz_C p l R s m meth c D U A own cc nL ret hh d) {va vb : Value} (hdg : decode cc pc = .ok (.dup2, 1)) (hva : va.category = 1) (hvb : vb.category = 1) (k : zz_Z p l e R s m args below meth c Q D A nL cells slots ws (pc + 1) lv (va :: vb :: va :: vb :: st)) : zz_Z p l e R s m args below meth c Q D A nL cells slots ws (pc) lv (va :: vb :: st) := fun H locs ls hP hD hS hl => lv_dup2_11 C.x C.b hdg hva hvb (k H locs ls hP hD hS hl)
theorem zz_lcmp (C : zz_C p l R s m meth c D U A own cc nL ret hh d) {x y : Int64} (hdg : decode cc pc = .ok (.lcmp, 1)) (k : zz_Z p l e R s m args below meth c Q D A nL cells slots ws (pc + 1) lv (.int (lg_cmp x y) :: st)) : zz_Z p l e R s m args below meth c Q D A nL cells slots ws (pc) lv (.long y :: .long x :: st) := fun H locs ls hP hD hS hl => W.lcmp C.x C.b hdg (k H locs ls hP hD hS hl)
theorem zz_if_eq (C : zz_C p l R s m meth c D U A own cc nL ret hh d) {x : Int32} {off : Int} {tgt : Nat} (hdg : decode cc pc = .ok (.ifCond .eq off, 3)) (ht : (pc : Int) + off = (tgt : Int)) (kt : x = 0 → zz_Z p l e R s m args below meth c Q D A nL cells slots ws (tgt) lv (st)) (kf : ¬ x = 0 → zz_Z p l e R s m args below meth c Q D A nL cells slots ws (pc + 3) lv (st)) : zz_Z p l e R s m args below meth c Q D A nL cells slots ws (pc) lv (.int x :: st) := fun H locs ls hP hD hS hl => lv_if_eq C.x C.b hdg ht (fun h9 => kt h9 H locs ls hP hD hS hl) (fun h9 => kf h9 H locs ls hP hD hS hl)
theorem zz_if_ne (C : zz_C p l R s m meth c D U A own cc nL ret hh d) {x : Int32} {off : Int} {tgt : Nat} (hdg : decode cc pc = .ok (.ifCond .ne off, 3)) (ht : (pc : Int) + off = (tgt : Int)) (kt : ¬ x = 0 → zz_Z p l e R s m args below meth c Q D A nL cells slots ws (tgt) lv (st)) (kf : x = 0 → zz_Z p l e R s m args below meth c Q D A nL cells slots ws (pc + 3) lv (st)) : zz_Z p l e R s m args below meth c Q D A nL cells slots ws (pc) lv (.int x :: st) := fun H locs ls hP hD hS hl => lv_if_ne C.x C.b hdg ht (fun h9 => kt h9 H locs ls hP hD hS hl) (fun h9 => kf h9 H locs ls hP hD hS hl)
theorem zz_if_lt (C : zz_C p l R s m meth c D U A own cc nL ret hh d) {x : Int32} {off : Int} {tgt : Nat} (hdg : decode cc pc = .ok (.ifCond .lt off, 3)) (ht : (pc : Int) + off = (tgt : Int)) (kt : x < 0 → zz_Z p l e R s m args below meth c Q D A nL cells slots ws (tgt) lv (st)) (kf : ¬ x < 0 → zz_Z p l e R s m args below meth c Q D A nL cells slots ws (pc + 3) lv (st)) : zz_Z p l e R s m args below meth c Q D A nL cells slots ws (pc) lv (.int x :: st) := fun H locs ls hP hD hS hl => lv_if_lt C.x C.b hdg ht (fun h9 => kt h9 H locs ls hP hD hS hl) (fun h9 => kf h9 H locs ls hP hD hS hl)
theorem zz_if_ge (C : zz_C p l R s m meth c D U A own cc nL ret hh d) {x : Int32} {off : Int} {tgt : Nat} (hdg : decode cc pc = .ok (.ifCond .ge off, 3)) (ht : (pc : Int) + off = (tgt : Int)) (kt : 0 ≤ x → zz_Z p l e R s m args below meth c Q D A nL cells slots ws (tgt) lv (st)) (kf : ¬ 0 ≤ x → zz_Z p l e R s m args below meth c Q D A nL cells slots ws (pc + 3) lv (st)) : zz_Z p l e R s m args below meth c Q D A nL cells slots ws (pc) lv (.int x :: st) := fun H locs ls hP hD hS hl => lv_if_ge C.x C.b hdg ht (fun h9 => kt h9 H locs ls hP hD hS hl) (fun h9 => kf h9 H locs ls hP hD hS hl)
theorem zz_if_gt (C : zz_C p l R s m meth c D U A own cc nL ret hh d) {x : Int32} {off : Int} {tgt : Nat} (hdg : decode cc pc = .ok (.ifCond .gt off, 3)) (ht : (pc : Int) + off = (tgt : Int)) (kt : 0 < x → zz_Z p l e R s m args below meth c Q D A nL cells slots ws (tgt) lv (st)) (kf : ¬ 0 < x → zz_Z p l e R s m args below meth c Q D A nL cells slots ws (pc + 3) lv (st)) : zz_Z p l e R s m args below meth c Q D A nL cells slots ws (pc) lv (.int x :: st) := fun H locs ls hP hD hS hl => lv_if_gt C.x C.b hdg ht (fun h9 => kt h9 H locs ls hP hD hS hl) (fun h9 => kf h9 H locs ls hP hD hS hl)
theorem zz_if_le (C : zz_C p l R s m meth c D U A own cc nL ret hh d) {x : Int32} {off : Int} {tgt : Nat} (hdg : decode cc pc = .ok (.ifCond .le off, 3)) (ht : (pc : Int) + off = (tgt : Int)) (kt : x ≤ 0 → zz_Z p l e R s m args below meth c Q D A nL cells slots ws (tgt) lv (st)) (kf : ¬ x ≤ 0 → zz_Z p l e R s m args below meth c Q D A nL cells slots ws (pc + 3) lv (st)) : zz_Z p l e R s m args below meth c Q D A nL cells slots ws (pc) lv (.int x :: st) := fun H locs ls hP hD hS hl => lv_if_le C.x C.b hdg ht (fun h9 => kt h9 H locs ls hP hD hS hl) (fun h9 => kf h9 H locs ls hP hD hS hl)
theorem zz_icmp_eq (C : zz_C p l R s m meth c D U A own cc nL ret hh d) {x y : Int32} {off : Int} {tgt : Nat} (hdg : decode cc pc = .ok (.if_icmp .eq off, 3)) (ht : (pc : Int) + off = (tgt : Int)) (kt : x = y → zz_Z p l e R s m args below meth c Q D A nL cells slots ws (tgt) lv (st)) (kf : ¬ x = y → zz_Z p l e R s m args below meth c Q D A nL cells slots ws (pc + 3) lv (st)) : zz_Z p l e R s m args below meth c Q D A nL cells slots ws (pc) lv (.int y :: .int x :: st) := fun H locs ls hP hD hS hl => lv_icmp_eq C.x C.b hdg ht (fun h9 => kt h9 H locs ls hP hD hS hl) (fun h9 => kf h9 H locs ls hP hD hS hl)
theorem zz_icmp_ne (C : zz_C p l R s m meth c D U A own cc nL ret hh d) {x y : Int32} {off : Int} {tgt : Nat} (hdg : decode cc pc = .ok (.if_icmp .ne off, 3)) (ht : (pc : Int) + off = (tgt : Int)) (kt : ¬ x = y → zz_Z p l e R s m args below meth c Q D A nL cells slots ws (tgt) lv (st)) (kf : x = y → zz_Z p l e R s m args below meth c Q D A nL cells slots ws (pc + 3) lv (st)) : zz_Z p l e R s m args below meth c Q D A nL cells slots ws (pc) lv (.int y :: .int x :: st) := fun H locs ls hP hD hS hl => lv_icmp_ne C.x C.b hdg ht (fun h9 => kt h9 H locs ls hP hD hS hl) (fun h9 => kf h9 H locs ls hP hD hS hl)
theorem zz_icmp_lt (C : zz_C p l R s m meth c D U A own cc nL ret hh d) {x y : Int32} {off : Int} {tgt : Nat} (hdg : decode cc pc = .ok (.if_icmp .lt off, 3)) (ht : (pc : Int) + off = (tgt : Int)) (kt : x < y → zz_Z p l e R s m args below meth c Q D A nL cells slots ws (tgt) lv (st)) (kf : ¬ x < y → zz_Z p l e R s m args below meth c Q D A nL cells slots ws (pc + 3) lv (st)) : zz_Z p l e R s m args below meth c Q D A nL cells slots ws (pc) lv (.int y :: .int x :: st) := fun H locs ls hP hD hS hl => lv_icmp_lt C.x C.b hdg ht (fun h9 => kt h9 H locs ls hP hD hS hl) (fun h9 => kf h9 H locs ls hP hD hS hl)
theorem zz_icmp_ge (C : zz_C p l R s m meth c D U A own cc nL ret hh d) {x y : Int32} {off : Int} {tgt : Nat} (hdg : decode cc pc = .ok (.if_icmp .ge off, 3)) (ht : (pc : Int) + off = (tgt : Int)) (kt : y ≤ x → zz_Z p l e R s m args below meth c Q D A nL cells slots ws (tgt) lv (st)) (kf : ¬ y ≤ x → zz_Z p l e R s m args below meth c Q D A nL cells slots ws (pc + 3) lv (st)) : zz_Z p l e R s m args below meth c Q D A nL cells slots ws (pc) lv (.int y :: .int x :: st) := fun H locs ls hP hD hS hl => lv_icmp_ge C.x C.b hdg ht (fun h9 => kt h9 H locs ls hP hD hS hl) (fun h9 => kf h9 H locs ls hP hD hS hl)
theorem zz_icmp_gt (C : zz_C p l R s m meth c D U A own cc nL ret hh d) {x y : Int32} {off : Int} {tgt : Nat} (hdg : decode cc pc = .ok (.if_icmp .gt off, 3)) (ht : (pc : Int) + off = (tgt : Int)) (kt : y < x → zz_Z p l e R s m args below meth c Q D A nL cells slots ws (tgt) lv (st)) (kf : ¬ y < x → zz_Z p l e R s m args below meth c Q D A nL cells slots ws (pc + 3) lv (st)) : zz_Z p l e R s m args below meth c Q D A nL cells slots ws (pc) lv (.int y :: .int x :: st) := fun H locs ls hP hD hS hl => lv_icmp_gt C.x C.b hdg ht (fun h9 => kt h9 H locs ls hP hD hS hl) (fun h9 => kf h9 H locs ls hP hD hS hl)
theorem zz_icmp_le (C : zz_C p l R s m meth c D U A own cc nL ret hh d) {x y : Int32} {off : Int} {tgt : Nat} (hdg : decode cc pc = .ok (.if_icmp .le off, 3)) (ht : (pc : Int) + off = (tgt : Int)) (kt : x ≤ y → zz_Z p l e R s m args below meth c Q D A nL cells slots ws (tgt) lv (st)) (kf : ¬ x ≤ y → zz_Z p l e R s m args below meth c Q D A nL cells slots ws (pc + 3) lv (st)) : zz_Z p l e R s m args below meth c Q D A nL cells slots ws (pc) lv (.int y :: .int x :: st) := fun H locs ls hP hD hS hl => lv_icmp_le C.x C.b hdg ht (fun h9 => kt h9 H locs ls hP hD hS hl) (fun h9 => kf h9 H locs ls hP hD hS hl)
theorem zz_goto (C : zz_C p l R s m meth c D U A own cc nL ret hh d) {off : Int} {tgt : Nat} (hdg : decode cc pc = .ok (.goto off, 3)) (ht : (pc : Int) + off = (tgt : Int)) (k : zz_Z p l e R s m args below meth c Q D A nL cells slots ws (tgt) lv (st)) : zz_Z p l e R s m args below meth c Q D A nL cells slots ws (pc) lv (st) := fun H locs ls hP hD hS hl => lv_goto C.x C.b hdg ht (k H locs ls hP hD hS hl)
theorem zz_ldc (C : zz_C p l R s m meth c D U A own cc nL ret hh d) {index : Nat} {v : Int32} (hdg : decode cc pc = .ok (.ldc index, 2)) (hw : Cond.constant own index v ∈ lw_tbl ∧ goodWord (Cond.constant own index v) = true) (k : zz_Z p l e R s m args below meth c Q D A nL cells slots ws (pc + 2) lv (.int v :: st)) : zz_Z p l e R s m args below meth c Q D A nL cells slots ws (pc) lv (st) := fun H locs ls hP hD hS hl => lv_ldc C.x C.b C.ow (C.w hw) hdg (k H locs ls hP hD hS hl)
theorem zz_ldcw (C : zz_C p l R s m meth c D U A own cc nL ret hh d) {index : Nat} {v : Int32} (hdg : decode cc pc = .ok (.ldc_w index, 3)) (hw : Cond.constant own index v ∈ lw_tbl ∧ goodWord (Cond.constant own index v) = true) (k : zz_Z p l e R s m args below meth c Q D A nL cells slots ws (pc + 3) lv (.int v :: st)) : zz_Z p l e R s m args below meth c Q D A nL cells slots ws (pc) lv (st) := fun H locs ls hP hD hS hl => lv_ldcw C.x C.b C.ow (C.w hw) hdg (k H locs ls hP hD hS hl)
theorem zz_ldc2 (C : zz_C p l R s m meth c D U A own cc nL ret hh d) {index : Nat} {v : Int64} (hdg : decode cc pc = .ok (.ldc2_w index, 3)) (hw : Cond.constantLong own index v ∈ lw_tbl ∧ goodWord (Cond.constantLong own index v) = true) (k : zz_Z p l e R s m args below meth c Q D A nL cells slots ws (pc + 3) lv (.long v :: st)) : zz_Z p l e R s m args below meth c Q D A nL cells slots ws (pc) lv (st) := fun H locs ls hP hD hS hl => lv_ldc2 C.x C.b C.ow (C.w hw) hdg (k H locs ls hP hD hS hl)
theorem zz_tableIn (C : zz_C p l R s m meth c D U A own cc nL ret hh d) {dflt lo hi : Int} {offs : Array Int} {len : Nat} {x : Int32} {off : Int} {tgt : Nat} (hdg : decode cc pc = .ok (.tableswitch dflt lo hi offs, len)) (h1 : ¬ x.toInt < lo) (h2 : ¬ hi < x.toInt) (ho : offs[(x.toInt - lo).toNat]? = some off) (ht : (pc : Int) + off = (tgt : Int)) (k : zz_Z p l e R s m args below meth c Q D A nL cells slots ws (tgt) lv (st)) : zz_Z p l e R s m args below meth c Q D A nL cells slots ws (pc) lv (.int x :: st) := fun H locs ls hP hD hS hl => lv_tableIn C.x C.b hdg h1 h2 ho ht (k H locs ls hP hD hS hl)
theorem zz_tableOut (C : zz_C p l R s m meth c D U A own cc nL ret hh d) {dflt lo hi : Int} {offs : Array Int} {len : Nat} {x : Int32} {tgt : Nat} (hdg : decode cc pc = .ok (.tableswitch dflt lo hi offs, len)) (h : x.toInt < lo ∨ hi < x.toInt) (ht : (pc : Int) + dflt = (tgt : Int)) (k : zz_Z p l e R s m args below meth c Q D A nL cells slots ws (tgt) lv (st)) : zz_Z p l e R s m args below meth c Q D A nL cells slots ws (pc) lv (.int x :: st) := fun H locs ls hP hD hS hl => lv_tableOut C.x C.b hdg h ht (k H locs ls hP hD hS hl)
theorem zz_get (C : zz_C p l R s m meth c D U A own cc nL ret hh d) {N ci index a : Nat} {Ck : String} {T : u_T} {fs : List Value} {v : Value} (q0 f : Nat) (hdg : decode cc pc = .ok (.getfield index, 3)) (he : ws[q0]? = some (a, .inr (ci, fs))) (hc : zcl[ci]? = some (Ck, T, N)) (hin : ∀ w ∈ u_ws Ck T N, w ∈ lw_tbl) (hg : (u_ws Ck T N).all goodWord = true) (hk : f < N) (hw : (Cond.fieldLink own index (T f).1 (T f).2.1 (T f).2.2.1) ∈ lw_tbl ∧ goodWord (Cond.fieldLink own index (T f).1 (T f).2.1 (T f).2.2.1) = true) (hv : fs[f]? = some v) (k : zz_Z p l e R s m args below meth c Q D A nL cells slots ws (pc + 3) lv (v :: st)) : zz_Z p l e R s m args below meth c Q D A nL cells slots ws (pc) lv (.ref a :: st) := fun H locs ls hP hD hS hl => va_get (Ts := u_ws Ck T N) C.x C.b (zz_ws C hin hg) (fun _ h => h) C.ow C.K hP q0 he hc f hk (C.w hw) (fun _ h9 => h9) hv hdg (k H locs ls hP hD hS hl)
theorem zz_put (C : zz_C p l R s m meth c D U A own cc nL ret hh d) {N ci index a : Nat} {Ck : String} {T : u_T} {fs : List Value} {v : Value} {ty : FieldType} {ty0 : Nat → FieldType} {ws1 : va_W} (q0 f : Nat) (hdg : decode cc pc = .ok (.putfield index, 3)) (he : ws[q0]? = some (a, .inr (ci, fs))) (hc : zcl[ci]? = some (Ck, T, N)) (hin : ∀ w ∈ u_ws Ck T N, w ∈ lw_tbl) (hg : (u_ws Ck T N).all goodWord = true) (hty : ∀ k, k < N → parseFieldDescriptor (T k).2.2.1 = some (ty0 k)) (hnm : ∀ a, a < N → ∀ b, b < N → a ≠ b → (T a).2.1 ≠ (T b).2.1) (hk : f < N) (hw : (Cond.fieldLink own index (T f).1 (T f).2.1 (T f).2.2.1) ∈ lw_tbl ∧ goodWord (Cond.fieldLink own index (T f).1 (T f).2.1 (T f).2.2.1) = true) (hfin : (T f).2.2.2 = false) (hd : parseFieldDescriptor (T f).2.2.1 = some ty) (hn : narrow ty v = v) (hfit : fits ty v = true) (hlen : f < fs.length) (hws : ws.set q0 (a, .inr (ci, fs.set f v)) = ws1) (k : zz_Z p l e R s m args below meth c Q D A nL cells slots ws1 (pc + 3) lv (st)) : zz_Z p l e R s m args below meth c Q D A nL cells slots ws (pc) lv (v :: .ref a :: st) := by
  subst hws
  exact fun H locs ls hP hD hS hl => va_put (Ts := u_ws Ck T N) C.x C.b (zz_ws C hin hg) (fun _ h => h) ty0 hty hnm C.ow C.K hP hD hS q0 he hc f hk (C.w hw) (fun _ h9 => h9) hfin hd hn hfit hlen hdg (fun H1 locs1 hP1 hD1 hS1 => k H1 locs1 ls hP1 hD1 hS1 hl)
theorem zz_putF (C : zz_C p l R s m meth c D U A own cc nL ret hh d) {N ci index a : Nat} {Ck : String} {T : u_T} {fs : List Value} {v : Value} {ty : FieldType} {ty0 : Nat → FieldType} {ws1 : va_W} (q0 f : Nat) (hdg : decode cc pc = .ok (.putfield index, 3)) (he : ws[q0]? = some (a, .inr (ci, fs))) (hc : zcl[ci]? = some (Ck, T, N)) (hin : ∀ w ∈ u_ws Ck T N, w ∈ lw_tbl) (hg : (u_ws Ck T N).all goodWord = true) (hty : ∀ k, k < N → parseFieldDescriptor (T k).2.2.1 = some (ty0 k)) (hnm : ∀ a, a < N → ∀ b, b < N → a ≠ b → (T a).2.1 ≠ (T b).2.1) (hk : f < N) (hw : (Cond.fieldLink own index (T f).1 (T f).2.1 (T f).2.2.1) ∈ lw_tbl ∧ goodWord (Cond.fieldLink own index (T f).1 (T f).2.1 (T f).2.2.1) = true) (hfin : (T f).2.2.2 = true) (hin2 : meth.name = "<init>") (hdecl : (T f).1 = own) (hd : parseFieldDescriptor (T f).2.2.1 = some ty) (hn : narrow ty v = v) (hfit : fits ty v = true) (hlen : f < fs.length) (hws : ws.set q0 (a, .inr (ci, fs.set f v)) = ws1) (k : zz_Z p l e R s m args below meth c Q D A nL cells slots ws1 (pc + 3) lv (st)) : zz_Z p l e R s m args below meth c Q D A nL cells slots ws (pc) lv (v :: .ref a :: st) := by
  subst hws
  exact fun H locs ls hP hD hS hl => va_putF (Ts := u_ws Ck T N) C.x C.b (zz_ws C hin hg) (fun _ h => h) ty0 hty hnm C.ow C.K hP hD hS q0 he hc f hk (C.w hw) (fun _ h9 => h9) hfin hin2 hdecl hd hn hfit hlen hdg (fun H1 locs1 hP1 hD1 hS1 => k H1 locs1 ls hP1 hD1 hS1 hl)
theorem zz_iald (C : zz_C p l R s m meth c D U A own cc nL ret hh d) {a n : Nat} {f : Nat → Int32} {i : Int32} (q0 : Nat) (hdg : decode cc pc = .ok (.iaload, 1)) (ha : ws[q0]? = some (a, .inl (U.1, n, .inl f))) (hin : vp_in i n) (k : zz_Z p l e R s m args below meth c Q D A nL cells slots ws (pc + 1) lv (.int (f i.toNatClampNeg) :: st)) : zz_Z p l e R s m args below meth c Q D A nL cells slots ws (pc) lv (.int i :: .ref a :: st) := fun H locs ls hP hD hS hl => va_iald C.x C.b C.K hP q0 0 ha rfl hin hdg (k H locs ls hP hD hS hl)
theorem zz_lald (C : zz_C p l R s m meth c D U A own cc nL ret hh d) {a n : Nat} {f : Nat → Int64} {i : Int32} (q0 : Nat) (hdg : decode cc pc = .ok (.laload, 1)) (ha : ws[q0]? = some (a, .inl (U.2.1, n, .inr (.inl f)))) (hin : vp_in i n) (k : zz_Z p l e R s m args below meth c Q D A nL cells slots ws (pc + 1) lv (.long (f i.toNatClampNeg) :: st)) : zz_Z p l e R s m args below meth c Q D A nL cells slots ws (pc) lv (.int i :: .ref a :: st) := fun H locs ls hP hD hS hl => va_lald C.x C.b C.K hP q0 1 ha rfl hin hdg (k H locs ls hP hD hS hl)
theorem zz_zald (C : zz_C p l R s m meth c D U A own cc nL ret hh d) {a n : Nat} {f : Nat → Int32} {i : Int32} (q0 : Nat) (hdg : decode cc pc = .ok (.baload, 1)) (ha : ws[q0]? = some (a, .inl (U.2.2.1, n, .inl f))) (hin : vp_in i n) (k : zz_Z p l e R s m args below meth c Q D A nL cells slots ws (pc + 1) lv (.int (f i.toNatClampNeg) :: st)) : zz_Z p l e R s m args below meth c Q D A nL cells slots ws (pc) lv (.int i :: .ref a :: st) := fun H locs ls hP hD hS hl => va_zald C.x C.b C.K hP q0 2 ha rfl hin hdg (k H locs ls hP hD hS hl)
theorem zz_iast (C : zz_C p l R s m meth c D U A own cc nL ret hh d) {a n : Nat} {f : Nat → Int32} {i : Int32} {x : Int32} {ws1 : va_W} (q0 : Nat) (hdg : decode cc pc = .ok (.iastore, 1)) (ha : ws[q0]? = some (a, .inl (U.1, n, .inl f))) (hin : vp_in i n) (hws : ws.set q0 (a, .inl (U.1, n, .inl (upd f i.toNatClampNeg x))) = ws1) (k : zz_Z p l e R s m args below meth c Q D A nL cells slots ws1 (pc + 1) lv (st)) : zz_Z p l e R s m args below meth c Q D A nL cells slots ws (pc) lv (.int x :: .int i :: .ref a :: st) := by
  subst hws
  exact fun H locs ls hP hD hS hl => va_iast C.x C.b C.K hP hD hS q0 0 ha rfl hin hdg (fun H1 locs1 hP1 hD1 hS1 => k H1 locs1 ls hP1 hD1 hS1 hl)
theorem zz_last (C : zz_C p l R s m meth c D U A own cc nL ret hh d) {a n : Nat} {f : Nat → Int64} {i : Int32} {x : Int64} {ws1 : va_W} (q0 : Nat) (hdg : decode cc pc = .ok (.lastore, 1)) (ha : ws[q0]? = some (a, .inl (U.2.1, n, .inr (.inl f)))) (hin : vp_in i n) (hws : ws.set q0 (a, .inl (U.2.1, n, .inr (.inl (vp_updL f i.toNatClampNeg x)))) = ws1) (k : zz_Z p l e R s m args below meth c Q D A nL cells slots ws1 (pc + 1) lv (st)) : zz_Z p l e R s m args below meth c Q D A nL cells slots ws (pc) lv (.long x :: .int i :: .ref a :: st) := by
  subst hws
  exact fun H locs ls hP hD hS hl => va_last C.x C.b C.K hP hD hS q0 1 ha rfl hin hdg (fun H1 locs1 hP1 hD1 hS1 => k H1 locs1 ls hP1 hD1 hS1 hl)
theorem zz_zast (C : zz_C p l R s m meth c D U A own cc nL ret hh d) {a n : Nat} {f : Nat → Int32} {i : Int32} {x : Int32} {ws1 : va_W} (q0 : Nat) (hdg : decode cc pc = .ok (.bastore, 1)) (ha : ws[q0]? = some (a, .inl (U.2.2.1, n, .inl f))) (hin : vp_in i n) (hws : ws.set q0 (a, .inl (U.2.2.1, n, .inl (upd f i.toNatClampNeg (vp_nar .boolean x)))) = ws1) (k : zz_Z p l e R s m args below meth c Q D A nL cells slots ws1 (pc + 1) lv (st)) : zz_Z p l e R s m args below meth c Q D A nL cells slots ws (pc) lv (.int x :: .int i :: .ref a :: st) := by
  subst hws
  exact fun H locs ls hP hD hS hl => va_zast C.x C.b C.K hP hD hS q0 2 ha rfl hin hdg (fun H1 locs1 hP1 hD1 hS1 => k H1 locs1 ls hP1 hD1 hS1 hl)
theorem zz_aald (C : zz_C p l R s m meth c D U A own cc nL ret hh d) {a n : Nat} {f : Nat → Option Nat} {i : Int32} {v : Value} (q0 : Nat) (hdg : decode cc pc = .ok (.aaload, 1)) (ha : ws[q0]? = some (a, .inl (U.2.2.2, n, .inr (.inr (.inr (.inr f)))))) (hin : vp_in i n) (hv : va_rf (f i.toNatClampNeg) = v) (k : zz_Z p l e R s m args below meth c Q D A nL cells slots ws (pc + 1) lv (v :: st)) : zz_Z p l e R s m args below meth c Q D A nL cells slots ws (pc) lv (.int i :: .ref a :: st) := by
  subst hv
  intro H locs ls hP hD hS hl
  have hlt : i.toNatClampNeg < n := Nat.not_le.mp fun q => hin (Or.inr q)
  exact W.aald (v := va_rf (f i.toNatClampNeg)) (ty := .array .int) C.x C.b (hP q0 _ ha) ((C.K.2 3 _ rfl).1 n (fun j => va_rf (f j))) rfl (fun q => by cases q) (by show ¬ (i < 0 ∨ (arrV _ _ _).slots.size ≤ _); rw [arrV_size]; exact hin) (by show (arrV _ _ _).slots[_]? = _; rw [arrV_read _ _ hlt]) rfl rfl hdg (k H locs ls hP hD hS hl)
theorem zz_alen (C : zz_C p l R s m meth c D U A own cc nL ret hh d) {a : Nat} {v : Int32} {cA : ClassId} {x : vp_A} {ty : FieldType} (q0 t0 : Nat) (hdg : decode cc pc = .ok (.arraylength, 1)) (ha : ws[q0]? = some (a, .inl (cA, x))) (ht : (zz_tys U)[t0]? = some (cA, ty)) (hv : Int32.ofNat x.1 = v) (k : zz_Z p l e R s m args below meth c Q D A nL cells slots ws (pc + 1) lv (.int v :: st)) : zz_Z p l e R s m args below meth c Q D A nL cells slots ws (pc) lv (.ref a :: st) := fun H locs ls hP hD hS hl => va_alen C.x C.b C.K hP q0 t0 ha ht hv hdg (k H locs ls hP hD hS hl)
theorem zz_mabs (C : zz_C p l R s m meth c D U A own cc nL ret hh d) {index : Nat} {x y : Int32} (hdg : decode cc pc = .ok (.invokestatic index, 3)) (h1 : Cond.methodLink own index Lib.Math.abs.name ∈ lw_tbl ∧ goodWord (Cond.methodLink own index Lib.Math.abs.name) = true) (h2 : Cond.static Lib.Math.abs.name ∈ lw_tbl ∧ goodWord (Cond.static Lib.Math.abs.name) = true) (h3 : Cond.initialized "java/lang/Math" ∈ lw_tbl ∧ goodWord (Cond.initialized "java/lang/Math") = true) (h4 : Cond.code Lib.Math.abs.name Lib.Math.abs.code 1 (some .int) ∈ lw_tbl ∧ goodWord (Cond.code Lib.Math.abs.name Lib.Math.abs.code 1 (some .int)) = true) (hd : 1 ≤ d) (hst : (st.map fun v => v.category).sum ≤ 8) (hc : cells ≤ R.cells) (hs : slots ≤ R.slots) (k : zz_Z p l e R s m args below meth c Q D A nL cells slots ws (pc + 3) lv (.int (zz_abs x) :: st)) : zz_Z p l e R s m args below meth c Q D A nL cells slots ws (pc) lv (.int x :: st) := fun H locs ls hP hD hS hl => va_mabs C.x C.b (by rw [C.ml]; exact hl.1.symm) C.ow (C.w h1) (C.w h2) (C.w h3) (C.w h4) (Nat.le_trans hd C.fr) (by have := C.lo; omega) hc hs hdg (k H locs ls hP hD hS hl)
theorem zz_mmax (C : zz_C p l R s m meth c D U A own cc nL ret hh d) {index : Nat} {x y : Int32} (hdg : decode cc pc = .ok (.invokestatic index, 3)) (h1 : Cond.methodLink own index Lib.Math.max.name ∈ lw_tbl ∧ goodWord (Cond.methodLink own index Lib.Math.max.name) = true) (h2 : Cond.static Lib.Math.max.name ∈ lw_tbl ∧ goodWord (Cond.static Lib.Math.max.name) = true) (h3 : Cond.initialized "java/lang/Math" ∈ lw_tbl ∧ goodWord (Cond.initialized "java/lang/Math") = true) (h4 : Cond.code Lib.Math.max.name Lib.Math.max.code 2 (some .int) ∈ lw_tbl ∧ goodWord (Cond.code Lib.Math.max.name Lib.Math.max.code 2 (some .int)) = true) (hd : 1 ≤ d) (hst : (st.map fun v => v.category).sum ≤ 8) (hc : cells ≤ R.cells) (hs : slots ≤ R.slots) (k : zz_Z p l e R s m args below meth c Q D A nL cells slots ws (pc + 3) lv (.int (zz_max x y) :: st)) : zz_Z p l e R s m args below meth c Q D A nL cells slots ws (pc) lv (.int y :: .int x :: st) := fun H locs ls hP hD hS hl => va_mmax C.x C.b (by rw [C.ml]; exact hl.1.symm) C.ow (C.w h1) (C.w h2) (C.w h3) (C.w h4) (Nat.le_trans hd C.fr) (by have := C.lo; omega) hc hs hdg (k H locs ls hP hD hS hl)
theorem zz_mmin (C : zz_C p l R s m meth c D U A own cc nL ret hh d) {index : Nat} {x y : Int32} (hdg : decode cc pc = .ok (.invokestatic index, 3)) (h1 : Cond.methodLink own index Lib.Math.min.name ∈ lw_tbl ∧ goodWord (Cond.methodLink own index Lib.Math.min.name) = true) (h2 : Cond.static Lib.Math.min.name ∈ lw_tbl ∧ goodWord (Cond.static Lib.Math.min.name) = true) (h3 : Cond.initialized "java/lang/Math" ∈ lw_tbl ∧ goodWord (Cond.initialized "java/lang/Math") = true) (h4 : Cond.code Lib.Math.min.name Lib.Math.min.code 2 (some .int) ∈ lw_tbl ∧ goodWord (Cond.code Lib.Math.min.name Lib.Math.min.code 2 (some .int)) = true) (hd : 1 ≤ d) (hst : (st.map fun v => v.category).sum ≤ 8) (hc : cells ≤ R.cells) (hs : slots ≤ R.slots) (k : zz_Z p l e R s m args below meth c Q D A nL cells slots ws (pc + 3) lv (.int (zz_min x y) :: st)) : zz_Z p l e R s m args below meth c Q D A nL cells slots ws (pc) lv (.int y :: .int x :: st) := fun H locs ls hP hD hS hl => va_mmin C.x C.b (by rw [C.ml]; exact hl.1.symm) C.ow (C.w h1) (C.w h2) (C.w h3) (C.w h4) (Nat.le_trans hd C.fr) (by have := C.lo; omega) hc hs hdg (k H locs ls hP hD hS hl)
end ZZ
end
section
/-! ===== contracts in one form, calls, ends, throws ===== -/
abbrev zz_g (w : Cond) : Prop := w ∈ lw_tbl ∧ goodWord w = true
/-- a method's start: its arguments, the world, the tables -/
def zz_Pc (D : va_G) (U : zz_U) (as : List Value) (ws : va_W) (sz : Nat) : Array Value → State → Prop := va_Pc as (fun V => V.heap.size = sz ∧ va_P D zcl ws V.heap ∧ va_K D zcl (zz_tys U) V ∧ va_D (fun _ => True) ws ∧ zz_F V ∧ zz_S (va_A ws sz) V V.heap)
def zz_Qc (D : va_G) (A : Nat → Prop) (Ψ : Option Value → va_W → Prop) : Array Value → State → Outcome → State → Prop := fun _ st o t => (∃ (v : Option Value) (ws' : va_W), o = .returned v ∧ Ψ v ws' ∧ va_P D zcl ws' t.heap ∧ va_D A ws') ∧ va_F A st t
def zz_XC (D : va_G) (A : Nat → Prop) (ΨX : String → va_W → Prop) : String → State → State → Prop := fun E st t => (∃ ws' : va_W, ΨX E ws' ∧ va_P D zcl ws' t.heap ∧ va_D A ws') ∧ va_F A st t
/-- the contract of a method at its arguments and its world -/
def zz_Met (y : MethodName) (w0 : Cond) (d mc ms : Nat) (D : va_G) (U : zz_U) (as : List Value) (ws : va_W) (Ψ : Option Value → va_W → Prop) (ΨX : String → va_W → Prop) : Prop :=
  ∀ (l : Launch) (sz : Nat), l.stackTraces = false → vx_Met l y [w0] ({ frames := d, cells := mc, slots := ms, locals := 36 * d } : Room) (zz_Pc D U as ws sz) (zz_Qc D (va_A ws sz) Ψ) (zz_XC D (va_A ws sz) ΨX) mc ms (va_A ws sz)
theorem zz_blind {D : va_G} {U : zz_U} {as : List Value} {ws : va_W} {sz : Nat} : FrameBlind (zz_Pc D U as ws sz) := by
  intro a V g mk q
  obtain ⟨q0, q1, qP, qK, qD, qF, qS⟩ := q
  exact ⟨q0, q1, qP, va_K.moved (u := V) (U := V.calling g mk a) (Vm.Alike.refl V.vm) qK, qD, zz_F.same (u := V) (V := V.calling g mk a) rfl qF, ⟨vx_Zq.moved (u := V) (U := V.calling g mk a) (Vm.Alike.refl V.vm) qS.1, vx_Zq.moved (u := V) (U := V.calling g mk a) (Vm.Alike.refl V.vm) qS.2⟩⟩
theorem zz_Met.noX {y : MethodName} {w0 : Cond} {d mc ms : Nat} {D : va_G} {U : zz_U} {as : List Value} {ws : va_W} {Ψ : Option Value → va_W → Prop} {ΨX : String → va_W → Prop} (h : zz_Met y w0 d mc ms D U as ws Ψ ΨX) (hX : ∀ E w, ¬ ΨX E w) {l : Launch} {sz : Nat} (hl : l.stackTraces = false) :
    Met l y [w0] ({ frames := d, cells := mc, slots := ms, locals := 36 * d } : Room) (zz_Pc D U as ws sz) (zz_Qc D (va_A ws sz) Ψ) mc ms (va_A ws sz) := by
  intro p e ha hc hk s m args below hf happ hP hK
  obtain ⟨n, o, h1, h2, h3, h4⟩ := h l sz hl p e ha hc hk s m args below hf happ hP hK
  refine ⟨n, o, h1, h2, h3, ?_⟩
  rcases h4 with h4 | ⟨q, -, E, ce, L, hx, -⟩
  · exact h4
  · obtain ⟨⟨w, hw, -⟩, -⟩ := hx
    exact absurd hw (hX E w)
section ZY
variable {p : Program} {l : Launch} {e : Env} {R : Room} {s : State} {m : MethodId} {args : Array Value} {below : List Frame} {meth : Method} {c : Code} {Q : State → Prop} {D : va_G} {U : zz_U} {A : Nat → Prop} {own : String} {cc : ByteArray} {nL d cells slots pc : Nat} {ret : Option FieldType} {hh : List (Nat × Nat × Nat × Nat)} {lv : List (Nat × Value)} {st : List Value} {ws : va_W}
variable {Ψ : Option Value → va_W → Prop} {ΨX : String → va_W → Prop} {mc ms : Nat}
theorem zz_in (C : zz_C p l R s m meth c D U A own cc nL ret hh d) {H : Heap} {locs : List Loc} (hD : va_D A ws) (hS : va_S A s.heap H locs) : ∀ q, va_A ws H.size q → A q := by
  intro q h
  rcases h with ⟨k, e, h⟩ | h
  · exact hD.2 k (q, e) h
  · exact C.hA q (Nat.le_trans hS.1 h)
theorem zz_pre (C : zz_C p l R s m meth c D U A own cc nL ret hh d) {H : Heap} {locs : List Loc} (as : List Value) (hP : va_P D zcl ws H) (hD : va_D A ws) (hS : va_S A s.heap H locs) : ∀ V : State, V.heap = H → s.WarmedH V.vm → zz_Pc D U as ws H.size as.toArray V := by
  intro V hV hW
  have hin := zz_in C hD hS
  refine ⟨rfl, by rw [hV], by rw [hV]; exact hP, va_K.moved hW.alike C.K, hD.weaken (fun _ _ _ _ => trivial), C.F.warm hW, ?_⟩
  rw [hV]
  exact ⟨vx_Zq.moved hW.alike (vx_Zq.narrow (vx_Zq.kept C.S.1 (fun q h1 h2 => hS.2.1 q h1 h2)) hin), vx_Zq.moved hW.alike (vx_Zq.narrow (vx_Zq.kept C.S.2 (fun q h1 h2 => hS.2.1 q h1 h2)) hin)⟩
/-- behind a call -/
theorem zz_back {H : Heap} {locs : List Loc} {ls : Array Slot} {st0 rest : List Value} {a : Array Value} {A1 : Nat → Prop} (hr : vx_Run p l e R s m args below meth c H locs cells slots mc ms (F0 m pc ls st0) rest (zz_Qc D A1 Ψ a) (zz_XC D A1 ΨX) A1) (hS : va_S A s.heap H locs) (hA1 : ∀ q, A1 q → A q)
    (kk : ∀ (v : Option Value) (ws' : va_W), Ψ v ws' → ∀ (H1 : Heap) (locs1 : List Loc), va_P D zcl ws' H1 → va_D A ws' → va_S A s.heap H1 locs1 → W p l e R s m args below meth c H1 locs1 (cells + mc) (slots + ms) Q (F0 m (pc + 3) ls (v.toList ++ rest)))
    (kx : ∀ (E : String) (ws' : va_W), ΨX E ws' → ∀ (H1 : Heap) (locs1 : List Loc) (q : Addr) (ce : Cell), va_P D zcl ws' H1 → va_D A ws' → va_S A s.heap H1 locs1 → H1[q]? = some ce → ce.vm = .none → s.vm.findClass E = some ce.cls → vx_W p l e R s m args below meth c H1 locs1 (cells + mc) (slots + ms) Q (F0 m pc ls rest) q) :
    W p l e R s m args below meth c H locs cells slots Q (F0 m pc ls st0) := by
  intro T hT X
  rcases hr T hT X with ⟨v, st₀, t, T', L, h0, X', hL, e1, e2, ⟨⟨v', ws', hv, hΨ, hP', hD'⟩, hF⟩, st⟩ | ⟨q, st₀, t, T', L, E, ce, h0, X', hL, e1, e2, ⟨⟨ws', hΨ, hP', hD'⟩, hF⟩, hce, hcv, hcl, st⟩
  · cases hv
    obtain ⟨k1, k2, k3⟩ := vx_keep h0 e1 hS (fun q _ h => hA1 q h) hA1 hL hF
    obtain ⟨t2, a1, b1⟩ := kk v ws' hΨ T'.heap (locs ++ L) (by rw [e1]; exact hP') (hD'.weaken (fun _ q _ h => hA1 q.1 h)) k3 T' rfl X'
    exact ⟨t2, st t2 a1, b1⟩
  · obtain ⟨k1, k2, k3⟩ := vx_keep h0 e1 hS (fun q _ h => hA1 q h) hA1 hL hF
    obtain ⟨t2, a1, b1⟩ := kx E ws' hΨ T'.heap (locs ++ L) q ce (by rw [e1]; exact hP') (hD'.weaken (fun _ q _ h => hA1 q.1 h)) k3 (by rw [e1]; exact hce) hcv hcl T' rfl X'
    exact ⟨t2, st.trans a1, b1⟩
theorem zz_backN {H : Heap} {locs : List Loc} {ls : Array Slot} {st0 rest : List Value} {a : Array Value} {A1 : Nat → Prop} (hr : va_Run p l e R s m args below meth c H locs cells slots mc ms (F0 m pc ls st0) rest (zz_Qc D A1 Ψ a) A1) (hS : va_S A s.heap H locs) (hA1 : ∀ q, A1 q → A q)
    (kk : ∀ (v : Option Value) (ws' : va_W), Ψ v ws' → ∀ (H1 : Heap) (locs1 : List Loc), va_P D zcl ws' H1 → va_D A ws' → va_S A s.heap H1 locs1 → W p l e R s m args below meth c H1 locs1 (cells + mc) (slots + ms) Q (F0 m (pc + 3) ls (v.toList ++ rest))) :
    W p l e R s m args below meth c H locs cells slots Q (F0 m pc ls st0) := by
  intro T hT X
  obtain ⟨v, st₀, t, T', L, h0, X', hL, e1, e2, ⟨⟨v', ws', hv, hΨ, hP', hD'⟩, hF⟩, st⟩ := hr T hT X
  cases hv
  obtain ⟨k1, k2, k3⟩ := vx_keep h0 e1 hS (fun q _ h => hA1 q h) hA1 hL hF
  obtain ⟨t2, a1, b1⟩ := kk v ws' hΨ T'.heap (locs ++ L) (by rw [e1]; exact hP') (hD'.weaken (fun _ q _ h => hA1 q.1 h)) k3 T' rfl X'
  exact ⟨t2, st t2 a1, b1⟩
/-- a method's own words: instance, static -/
def zz_YV (y : MethodName) (w0 : Cond) (n : Nat) : Prop := zz_g (.instanceMethod y) ∧ zz_g (.selects y.cls y y) ∧ zz_g w0 ∧ zz_g (.initialized y.cls) ∧ y.cls ≠ "java/lang/invoke/MethodHandle" ∧ y.cls ≠ "java/lang/invoke/VarHandle" ∧ (parseMethodDescriptor y.desc).map (fun d => d.parameters.length) = some n
def zz_YS (y : MethodName) (w0 : Cond) (n : Nat) : Prop := zz_g (.static y) ∧ zz_g w0 ∧ zz_g (.initialized y.cls) ∧ y.cls ≠ "java/lang/invoke/MethodHandle" ∧ y.cls ≠ "java/lang/invoke/VarHandle" ∧ (parseMethodDescriptor y.desc).map (fun d => d.parameters.length) = some n
def zz_YI (y : MethodName) (w0 : Cond) (n : Nat) : Prop := zz_g (.instanceMethod y) ∧ zz_g w0 ∧ zz_g (.initialized y.cls) ∧ y.cls ≠ "java/lang/invoke/MethodHandle" ∧ y.cls ≠ "java/lang/invoke/VarHandle" ∧ (parseMethodDescriptor y.desc).map (fun d => d.parameters.length) = some n
theorem zz_callB (C : zz_C p l R s m meth c D U A own cc nL ret hh d) {y : MethodName} {bytes : ByteArray} {maxL : Nat} {retY : Option FieldType} {d' n index : Nat} (w1 : zz_g (.methodLink own index y)) (w0 : zz_g (.code y bytes maxL retY)) (wi : zz_g (.initialized y.cls)) (hm : y.cls ≠ "java/lang/invoke/MethodHandle" ∧ y.cls ≠ "java/lang/invoke/VarHandle" ∧ (parseMethodDescriptor y.desc).map (fun d => d.parameters.length) = some n) (hd : d' + 1 ≤ d) (hmx : maxL ≤ 17) :
    CallB R s args own index y bytes maxL retY [.code y bytes maxL retY] ({ frames := d', cells := mc, slots := ms, locals := 36 * d' } : Room) mc ms n := by
  have h1 := C.fr
  have h2 := C.lo
  refine ⟨rfl, rfl, by show d' + 1 ≤ _; omega, by show 8 + (maxL + 11) + 36 * d' ≤ _; omega, fun w hw a' V hW => ?_, List.mem_cons_self, C.w w0, C.w wi, ⟨hm.1, hm.2.1⟩, fun sig h => ?_, C.w w1⟩
  · rw [List.mem_singleton] at hw
    subst hw
    exact word_at (args := a') hW (good_of_word w0.2) (C.w w0)
  · have h9 := hm.2.2
    rw [h] at h9
    exact (Option.some.inj h9).symm
theorem zz_callV (C : zz_C p l R s m meth c D U A own cc nL ret hh d) {y : MethodName} {bytes : ByteArray} {maxL : Nat} {retY : Option FieldType} {d' n index b ci N : Nat} {T : u_T} {fs As rest : List Value} (q0 : Nat) (hM : zz_Met y (.code y bytes maxL retY) d' mc ms D U (.ref b :: As) ws Ψ ΨX) (hdg : decode cc pc = .ok (.invokevirtual index, 3)) (hst : st = As.reverse ++ .ref b :: rest)
    (he : ws[q0]? = some (b, .inr (ci, fs))) (hc : zcl[ci]? = some (y.cls, T, N)) (w1 : zz_g (.methodLink own index y)) (wy : zz_YV y (.code y bytes maxL retY) n) (hn : As.length = n) (hd : d' + 1 ≤ d) (hmx : maxL ≤ 17) (hw : (rest.map fun v => v.category).sum ≤ 8) (hc1 : cells + mc ≤ R.cells) (hs1 : slots + ms ≤ R.slots)
    (kk : ∀ (v : Option Value) (ws' : va_W), Ψ v ws' → zz_Z p l e R s m args below meth c Q D A nL (cells + mc) (slots + ms) ws' (pc + 3) lv (v.toList ++ rest))
    (kx : ∀ (E : String) (ws' : va_W), ΨX E ws' → zz_X p l e R s m args below meth c Q D A nL (cells + mc) (slots + ms) ws' pc lv rest E) : zz_Z p l e R s m args below meth c Q D A nL cells slots ws pc lv st := by
  subst hst
  intro H locs ls hP hD hS hl
  obtain ⟨y1, y2, y3, y4, y5⟩ := wy
  have cw : CallW R s args own y.cls index y bytes maxL retY [.code y bytes maxL retY] ({ frames := d', cells := mc, slots := ms, locals := 36 * d' } : Room) mc ms n := ⟨zz_callB C w1 y3 y4 y5 hd hmx, C.w y1, C.w y2⟩
  have S : CallFix p m c cc nL s args [] own := ⟨C.x, C.b, C.ml, C.ow, fun _ h => nomatch h⟩
  have hpre : PreV s H y.cls b (zz_Pc D U (.ref b :: As) ws H.size) As := ⟨zz_blind, va_recv C.K hP hc he, zz_pre C (.ref b :: As) hP hD hS⟩
  exact zz_back (vx_runV S (hM l H.size C.tr) cw hpre rfl hn hl.1 rfl (lv_room hw) hdg ⟨hc1, hs1⟩) hS (zz_in C hD hS) (fun v ws' hv H1 locs1 hP1 hD1 hS1 => kk v ws' hv H1 locs1 ls hP1 hD1 hS1 hl) (fun E ws' hv H1 locs1 q ce hP1 hD1 hS1 h1 h2 h3 => kx E ws' hv H1 locs1 ls q ce hP1 hD1 hS1 hl h1 h2 h3)
theorem zz_callS (C : zz_C p l R s m meth c D U A own cc nL ret hh d) {y : MethodName} {bytes : ByteArray} {maxL : Nat} {retY : Option FieldType} {d' n index : Nat} {As rest : List Value} (hM : zz_Met y (.code y bytes maxL retY) d' mc ms D U As ws Ψ ΨX) (hdg : decode cc pc = .ok (.invokestatic index, 3)) (hst : st = As.reverse ++ rest)
    (w1 : zz_g (.methodLink own index y)) (wy : zz_YS y (.code y bytes maxL retY) n) (hn : As.length = n) (hd : d' + 1 ≤ d) (hmx : maxL ≤ 17) (hw : (rest.map fun v => v.category).sum ≤ 8) (hc1 : cells + mc ≤ R.cells) (hs1 : slots + ms ≤ R.slots)
    (kk : ∀ (v : Option Value) (ws' : va_W), Ψ v ws' → zz_Z p l e R s m args below meth c Q D A nL (cells + mc) (slots + ms) ws' (pc + 3) lv (v.toList ++ rest))
    (kx : ∀ (E : String) (ws' : va_W), ΨX E ws' → zz_X p l e R s m args below meth c Q D A nL (cells + mc) (slots + ms) ws' pc lv rest E) : zz_Z p l e R s m args below meth c Q D A nL cells slots ws pc lv st := by
  subst hst
  intro H locs ls hP hD hS hl
  obtain ⟨y1, y3, y4, y5⟩ := wy
  have S : CallFix p m c cc nL s args [] own := ⟨C.x, C.b, C.ml, C.ow, fun _ h => nomatch h⟩
  have hpre : PreS s H (zz_Pc D U As ws H.size) As := ⟨zz_blind, zz_pre C As hP hD hS⟩
  exact zz_back (vx_runS S (hM l H.size C.tr) ⟨zz_callB C w1 y3 y4 y5 hd hmx, C.w y1⟩ hpre rfl hn hl.1 rfl (lv_room hw) hdg ⟨hc1, hs1⟩) hS (zz_in C hD hS) (fun v ws' hv H1 locs1 hP1 hD1 hS1 => kk v ws' hv H1 locs1 ls hP1 hD1 hS1 hl) (fun E ws' hv H1 locs1 q ce hP1 hD1 hS1 h1 h2 h3 => kx E ws' hv H1 locs1 ls q ce hP1 hD1 hS1 hl h1 h2 h3)
/-- a private static method of a nest mate, which throws nothing -/
theorem zz_callSN (C : zz_C p l R s m meth c D U A own cc nL ret hh d) {y : MethodName} {bytes : ByteArray} {maxL : Nat} {retY : Option FieldType} {d' n index : Nat} {host : String} {As rest : List Value} (hM : zz_Met y (.code y bytes maxL retY) d' mc ms D U As ws Ψ ΨX) (hX : ∀ E w, ¬ ΨX E w) (hdg : decode cc pc = .ok (.invokestatic index, 3)) (hst : st = As.reverse ++ rest)
    (w1 : (own, index, y, host) ∈ zz_nest) (wy : zz_YS y (.code y bytes maxL retY) n) (hn : As.length = n) (hd : d' + 1 ≤ d) (hmx : maxL ≤ 17) (hw : (rest.map fun v => v.category).sum ≤ 8) (hc1 : cells + mc ≤ R.cells) (hs1 : slots + ms ≤ R.slots)
    (kk : ∀ (v : Option Value) (ws' : va_W), Ψ v ws' → zz_Z p l e R s m args below meth c Q D A nL (cells + mc) (slots + ms) ws' (pc + 3) lv (v.toList ++ rest)) : zz_Z p l e R s m args below meth c Q D A nL cells slots ws pc lv st := by
  subst hst
  intro H locs ls hP hD hS hl
  obtain ⟨y1, y3, y4, y5⟩ := wy
  have h1 := C.fr
  have h2 := C.lo
  have S : CallFix p m c cc nL s args [.code y bytes maxL retY] own := ⟨C.x, C.b, C.ml, C.ow, fun w h => by rw [List.mem_singleton] at h; subst h; exact C.w y3⟩
  have hpre : PreS s H (zz_Pc D U As ws H.size) As := ⟨zz_blind, zz_pre C As hP hD hS⟩
  have hG : GoodIn [.code y bytes maxL retY] [.code y bytes maxL retY] := fun w h => ⟨h, by rw [List.mem_singleton] at h; subst h; exact good_of_word y3.2⟩
  have cn : va_CN R s args own index y host bytes maxL retY [.code y bytes maxL retY] ({ frames := d', cells := mc, slots := ms, locals := 36 * d' } : Room) mc ms n := va_cnB (ws' := []) n S.2.2.2.2 hG rfl rfl rfl (C.F.2.1 _ w1) (C.w y4) y5 ⟨by show d' + 1 ≤ _; omega, by show 8 + (maxL + 11) + 36 * d' ≤ _; omega⟩
  exact zz_backN (va_runSN S (hM.noX hX C.tr) ⟨cn, C.w y1, trivial⟩ hpre rfl hn hl.1 rfl (lv_room hw) hdg ⟨hc1, hs1⟩) hS (zz_in C hD hS) (fun v ws' hv H1 locs1 hP1 hD1 hS1 => kk v ws' hv H1 locs1 ls hP1 hD1 hS1 hl)
/-- a constructor; of a nest mate -/
theorem zz_callI (C : zz_C p l R s m meth c D U A own cc nL ret hh d) {y : MethodName} {bytes : ByteArray} {maxL : Nat} {d' n index b : Nat} {As rest : List Value} (hM : zz_Met y (.code y bytes maxL none) d' mc ms D U (.ref b :: As) ws Ψ ΨX) (hX : ∀ E w, ¬ ΨX E w) (hdg : decode cc pc = .ok (.invokespecial index, 3)) (hst : st = As.reverse ++ .ref b :: rest) (hy1 : y.name = "<init>")
    (w1 : zz_g (.methodLink own index y)) (wy : zz_YI y (.code y bytes maxL none) n) (hn : As.length = n) (hd : d' + 1 ≤ d) (hmx : maxL ≤ 17) (hw : (rest.map fun v => v.category).sum ≤ 8) (hc1 : cells + mc ≤ R.cells) (hs1 : slots + ms ≤ R.slots)
    (kk : ∀ (v : Option Value) (ws' : va_W), Ψ v ws' → zz_Z p l e R s m args below meth c Q D A nL (cells + mc) (slots + ms) ws' (pc + 3) lv (v.toList ++ rest)) : zz_Z p l e R s m args below meth c Q D A nL cells slots ws pc lv st := by
  subst hst
  intro H locs ls hP hD hS hl
  obtain ⟨y1, y3, y4, y5⟩ := wy
  have S : CallFix p m c cc nL s args [] own := ⟨C.x, C.b, C.ml, C.ow, fun _ h => nomatch h⟩
  have hpre : PreS s H (zz_Pc D U (.ref b :: As) ws H.size) (.ref b :: As) := ⟨zz_blind, zz_pre C (.ref b :: As) hP hD hS⟩
  exact zz_backN (va_runI S (hM.noX hX C.tr) ⟨zz_callB C w1 y3 y4 y5 hd hmx, hy1, C.w y1⟩ hpre rfl hn hl.1 rfl (lv_room hw) hdg ⟨hc1, hs1⟩) hS (zz_in C hD hS) (fun v ws' hv H1 locs1 hP1 hD1 hS1 => kk v ws' hv H1 locs1 ls hP1 hD1 hS1 hl)
theorem zz_callIN (C : zz_C p l R s m meth c D U A own cc nL ret hh d) {y : MethodName} {bytes : ByteArray} {maxL : Nat} {d' n index b : Nat} {host : String} {As rest : List Value} (hM : zz_Met y (.code y bytes maxL none) d' mc ms D U (.ref b :: As) ws Ψ ΨX) (hX : ∀ E w, ¬ ΨX E w) (hdg : decode cc pc = .ok (.invokespecial index, 3)) (hst : st = As.reverse ++ .ref b :: rest) (hy1 : y.name = "<init>")
    (w1 : (own, index, y, host) ∈ zz_nest) (wy : zz_YI y (.code y bytes maxL none) n) (hn : As.length = n) (hd : d' + 1 ≤ d) (hmx : maxL ≤ 17) (hw : (rest.map fun v => v.category).sum ≤ 8) (hc1 : cells + mc ≤ R.cells) (hs1 : slots + ms ≤ R.slots)
    (kk : ∀ (v : Option Value) (ws' : va_W), Ψ v ws' → zz_Z p l e R s m args below meth c Q D A nL (cells + mc) (slots + ms) ws' (pc + 3) lv (v.toList ++ rest)) : zz_Z p l e R s m args below meth c Q D A nL cells slots ws pc lv st := by
  subst hst
  intro H locs ls hP hD hS hl
  obtain ⟨y1, y3, y4, y5⟩ := wy
  have h1 := C.fr
  have h2 := C.lo
  have S : CallFix p m c cc nL s args [.code y bytes maxL none] own := ⟨C.x, C.b, C.ml, C.ow, fun w h => by rw [List.mem_singleton] at h; subst h; exact C.w y3⟩
  have hpre : PreS s H (zz_Pc D U (.ref b :: As) ws H.size) (.ref b :: As) := ⟨zz_blind, zz_pre C (.ref b :: As) hP hD hS⟩
  have hG : GoodIn [.code y bytes maxL none] [.code y bytes maxL none] := fun w h => ⟨h, by rw [List.mem_singleton] at h; subst h; exact good_of_word y3.2⟩
  have cn : va_CN R s args own index y host bytes maxL none [.code y bytes maxL none] ({ frames := d', cells := mc, slots := ms, locals := 36 * d' } : Room) mc ms n := va_cnB (ws' := []) n S.2.2.2.2 hG rfl rfl rfl (C.F.2.1 _ w1) (C.w y4) y5 ⟨by show d' + 1 ≤ _; omega, by show 8 + (maxL + 11) + 36 * d' ≤ _; omega⟩
  exact zz_backN (va_runIN S (hM.noX hX C.tr) ⟨cn, hy1, C.w y1⟩ hpre rfl hn hl.1 rfl (lv_room hw) hdg ⟨hc1, hs1⟩) hS (zz_in C hD hS) (fun v ws' hv H1 locs1 hP1 hD1 hS1 => kk v ws' hv H1 locs1 ls hP1 hD1 hS1 hl)
/-- Object.<init> -/
theorem zz_objInit (C : zz_C p l R s m meth c D U A own cc nL ret hh d) {index a : Nat} {rest : List Value} (hdg : decode cc pc = .ok (.invokespecial index, 3)) (w1 : zz_g (.methodLink own index Lib.objectInit)) (w2 : zz_g (.instanceMethod Lib.objectInit)) (w3 : zz_g (.code Lib.objectInit ⟨#[0xb1]⟩ 1 none)) (hd : 1 ≤ d) (hw : (rest.map fun v => v.category).sum ≤ 8) (k : zz_Z p l e R s m args below meth c Q D A nL cells slots ws (pc + 3) lv rest) : zz_Z p l e R s m args below meth c Q D A nL cells slots ws pc lv (.ref a :: rest) := by
  intro H locs ls hP hD hS hl
  have h1 := C.fr
  have h2 := C.lo
  refine W.objInit C.x C.b C.ow (C.w w1) (C.w w2) (C.w w3) rfl (by rw [C.ml]; exact hl.1) rfl hdg (by omega) ?_ (k H locs ls hP hD hS hl)
  show 2 * (F0 m pc ls rest).monitorRoom + _ + 12 ≤ _
  have h3 := lv_room (m := m) (pc := pc) (ls := ls) (rest := rest) hw
  omega
/-- ends -/
theorem zz_iret (C : zz_C p l R s m meth c D U A own cc nL (some .int) hh d) {v : Int32} (hdg : decode cc pc = .ok (.ireturn, 1)) (hΨ : Ψ (some (.int v)) ws) (hc : cells ≤ mc) (hs : slots ≤ ms) : zz_Z p l e R s m args below meth c (vx_MQ below (zz_Qc D A Ψ) (zz_XC D A ΨX) args s mc ms A) D A nL cells slots ws pc lv [.int v] :=
  fun H locs ls hP hD hS hl => W.widen hc hs (vx_ret (W.iret C.x C.b C.r (fun t ht hW => ⟨⟨_, _, rfl, hΨ, by rw [ht]; exact hP, hD⟩, hS.F ht⟩) hS.2.2 hdg C.lk))
theorem zz_zret (C : zz_C p l R s m meth c D U A own cc nL (some .boolean) hh d) {v : Int32} (hdg : decode cc pc = .ok (.ireturn, 1)) (hv : v = 0 ∨ v = 1) (hΨ : Ψ (some (.int v)) ws) (hc : cells ≤ mc) (hs : slots ≤ ms) : zz_Z p l e R s m args below meth c (vx_MQ below (zz_Qc D A Ψ) (zz_XC D A ΨX) args s mc ms A) D A nL cells slots ws pc lv [.int v] :=
  fun H locs ls hP hD hS hl => W.widen hc hs (vx_ret (W.zret C.x C.b C.r (by rcases hv with rfl | rfl <;> rfl) (fun t ht hW => ⟨⟨_, _, rfl, hΨ, by rw [ht]; exact hP, hD⟩, hS.F ht⟩) hS.2.2 hdg C.lk))
theorem zz_lret (C : zz_C p l R s m meth c D U A own cc nL (some .long) hh d) {v : Int64} (hdg : decode cc pc = .ok (.lreturn, 1)) (hΨ : Ψ (some (.long v)) ws) (hc : cells ≤ mc) (hs : slots ≤ ms) : zz_Z p l e R s m args below meth c (vx_MQ below (zz_Qc D A Ψ) (zz_XC D A ΨX) args s mc ms A) D A nL cells slots ws pc lv [.long v] :=
  fun H locs ls hP hD hS hl => W.widen hc hs (vx_ret (W.lret C.x C.b C.r (fun t ht hW => ⟨⟨_, _, rfl, hΨ, by rw [ht]; exact hP, hD⟩, hS.F ht⟩) hS.2.2 hdg C.lk))
theorem zz_dret (C : zz_C p l R s m meth c D U A own cc nL (some .double) hh d) {v : UInt64} (hdg : decode cc pc = .ok (.dreturn, 1)) (hΨ : Ψ (some (.double v)) ws) (hc : cells ≤ mc) (hs : slots ≤ ms) : zz_Z p l e R s m args below meth c (vx_MQ below (zz_Qc D A Ψ) (zz_XC D A ΨX) args s mc ms A) D A nL cells slots ws pc lv [.double v] :=
  fun H locs ls hP hD hS hl => W.widen hc hs (vx_ret (W.dret C.x C.b C.r (fun t ht hW => ⟨⟨_, _, rfl, hΨ, by rw [ht]; exact hP, hD⟩, hS.F ht⟩) hS.2.2 hdg C.lk))
theorem zz_vret (C : zz_C p l R s m meth c D U A own cc nL none hh d) (hdg : decode cc pc = .ok (.return_, 1)) (hΨ : Ψ none ws) (hc : cells ≤ mc) (hs : slots ≤ ms) : zz_Z p l e R s m args below meth c (vx_MQ below (zz_Qc D A Ψ) (zz_XC D A ΨX) args s mc ms A) D A nL cells slots ws pc lv [] :=
  fun H locs ls hP hD hS hl => W.widen hc hs (vx_ret (W.vret C.x C.b C.r (fun t ht hW => ⟨⟨_, _, rfl, hΨ, by rw [ht]; exact hP, hD⟩, hS.F ht⟩) hS.2.2 hdg C.lk))
/-- thrown by a callee, not caught here -/
theorem zz_out (C : zz_C p l R s m meth c D U A own cc nL ret [] d) {E : String} (hΨ : ΨX E ws) (hc : cells ≤ mc) (hs : slots ≤ ms) : zz_X p l e R s m args below meth c (vx_MQ below (zz_Qc D A Ψ) (zz_XC D A ΨX) args s mc ms A) D A nL cells slots ws pc lv st E :=
  fun H locs ls q ce hP hD hS hl h1 h2 h3 => vx_out (fun x hx => by rw [C.t] at hx; exact nomatch hx) C.lk h1 h2 h3 (fun t ht hW => ⟨⟨_, hΨ, by rw [ht]; exact hP, hD⟩, hS.F ht⟩) hS.2.2 hc hs
/-- throw new E("text") -/
def zz_names : List String := ["java/lang/RuntimeException", "java/lang/Exception"]
def zz_thr (own : String) (ik ic : Nat) (cls : String) : Prop := (∀ w ∈ vx_atS own ic cls zz_names, zz_g w ∨ w = .castable cls cls ∨ ∃ y ∈ zz_decl, w = .declares y) ∧ (∀ w ∈ Cond.classLink own ik cls :: Cond.initialized cls :: vx_atS own ic cls zz_names, vx_ot w = true) ∧ zz_g (.classLink own ik cls) ∧ zz_g (.initialized cls) ∧ cls ∈ zz_exc
theorem zz_fit {cls : String} (h : cls ∈ zz_exc) : Bundle.fit cls = true := by
  have h9 : ∀ E ∈ zz_exc, Bundle.fit E = true := by decide +kernel
  exact h9 cls h
theorem zz_fitn : ∀ n ∈ zz_names, Bundle.fit n = true := by decide +kernel
theorem zz_hx (C : zz_C p l R s m meth c D U A own cc nL ret hh d) {H : Heap} {locs : List Loc} {E : String} (hΨ : ΨX E ws) (hP : va_P D zcl ws H) (hD : va_D A ws) (hS : va_S A s.heap H locs) : ∀ t : State, s.vm.Alike t.vm → H.size ≤ t.heap.size → (∀ q : Nat, q < H.size → t.heap[q]? = H[q]?) → zz_XC D A ΨX E s t := by
  intro t hvm hsz hk
  refine ⟨⟨_, hΨ, hP.kept (fun k q hq => hk q.1 ((hP k q hq).lt)), hD⟩, ⟨Nat.le_trans hS.1 hsz, fun q h1 h2 => ?_⟩⟩
  rw [hk q (Nat.lt_of_lt_of_le h1 hS.1)]
  exact hS.2.1 q h1 h2
theorem zz_throwS (C : zz_C p l R s m meth c D U A own cc nL ret [] d) {cls text : String} {ik is ic : Nat} (ht : zz_thr own ik ic cls) (hstr : (own, is, text) ∈ zz_str)
    (d0 : decode cc pc = .ok (.new ik, 3)) (d3 : decode cc (pc + 3) = .ok (.dup, 1)) (d4 : decode cc (pc + 4) = .ok (.ldc is, 2)) (d6 : decode cc (pc + 6) = .ok (.invokespecial ic, 3)) (d9 : decode cc (pc + 9) = .ok (.athrow, 1))
    (hd : 6 ≤ d) (hw : (st.map fun v => v.category).sum ≤ 8) (hc : cells + 1 ≤ R.cells) (hs : slots + 6 ≤ R.slots) (hc2 : cells + 1 ≤ mc) (hs2 : slots + 6 ≤ ms) (hΨ : ΨX cls ws) :
    zz_Z p l e R s m args below meth c (vx_MQ below (zz_Qc D A Ψ) (zz_XC D A ΨX) args s mc ms A) D A nL cells slots ws pc lv st := by
  intro H locs ls hP hD hS hl
  obtain ⟨t1, t2, t3, t4, t5⟩ := ht
  obtain ⟨sa, hsa⟩ := C.F.2.2.2.2.1 _ hstr
  have h1 := C.fr
  have h2 := C.lo
  exact vx_throwS (names := zz_names) (A := A) C.x C.b C.tr C.ow (zz_fit t5) zz_fitn (C.w t3) (C.w t4) hsa (fun w hw => by
      rcases t1 w hw with h | h | ⟨y, hy, h⟩
      · exact C.w h
      · rw [h]; exact va_Nw.use rfl (C.F.2.2.1 _ t5)
      · rw [h]; exact va_Nw.use rfl (C.F.2.2.2.2.2.1 _ hy)) t2 C.S.1 C.S.2 hS (by rw [C.ml]; exact hl.1) d0 d3 d4 d6 d9 (fun x hx => by rw [C.t] at hx; exact nomatch hx)
    (by show 2 + 3 < _; omega) (by show _ + (13 * (2 + 1) + 43) ≤ _; omega) hc hs C.lk (zz_hx C hΨ hP hD hS) hS.2.2 hc2 hs2
theorem zz_throwSW (C : zz_C p l R s m meth c D U A own cc nL ret [] d) {cls text : String} {ik is ic : Nat} (ht : zz_thr own ik ic cls) (hstr : (own, is, text) ∈ zz_str)
    (d0 : decode cc pc = .ok (.new ik, 3)) (d3 : decode cc (pc + 3) = .ok (.dup, 1)) (d4 : decode cc (pc + 4) = .ok (.ldc_w is, 3)) (d7 : decode cc (pc + 7) = .ok (.invokespecial ic, 3)) (d10 : decode cc (pc + 10) = .ok (.athrow, 1))
    (hd : 6 ≤ d) (hw : (st.map fun v => v.category).sum ≤ 8) (hc : cells + 1 ≤ R.cells) (hs : slots + 6 ≤ R.slots) (hc2 : cells + 1 ≤ mc) (hs2 : slots + 6 ≤ ms) (hΨ : ΨX cls ws) :
    zz_Z p l e R s m args below meth c (vx_MQ below (zz_Qc D A Ψ) (zz_XC D A ΨX) args s mc ms A) D A nL cells slots ws pc lv st := by
  intro H locs ls hP hD hS hl
  obtain ⟨t1, t2, t3, t4, t5⟩ := ht
  obtain ⟨sa, hsa⟩ := C.F.2.2.2.2.1 _ hstr
  have h1 := C.fr
  have h2 := C.lo
  exact vx_throwSW (names := zz_names) (A := A) C.x C.b C.tr C.ow (zz_fit t5) zz_fitn (C.w t3) (C.w t4) hsa (fun w hw => by
      rcases t1 w hw with h | h | ⟨y, hy, h⟩
      · exact C.w h
      · rw [h]; exact va_Nw.use rfl (C.F.2.2.1 _ t5)
      · rw [h]; exact va_Nw.use rfl (C.F.2.2.2.2.2.1 _ hy)) t2 C.S.1 C.S.2 hS (by rw [C.ml]; exact hl.1) d0 d3 d4 d7 d10 (fun x hx => by rw [C.t] at hx; exact nomatch hx)
    (by show 2 + 3 < _; omega) (by show _ + (13 * (2 + 1) + 43) ≤ _; omega) hc hs C.lk (zz_hx C hΨ hP hD hS) hS.2.2 hc2 hs2
/-- caught: pre, the rows ahead that name other classes -/
theorem zz_catch (C : zz_C p l R s m meth c D U A own cc nL ret hh d) {E : String} {lv0 : List (Nat × Value)} {h : Nat} (pre : List ExceptionTableEntry) (x : ExceptionTableEntry) (suf : List ExceptionTableEntry) (hsplit : tableOf hh = pre ++ x :: suf) (hpass : ∀ z ∈ pre, covers z pc = false ∨ (z.catchType ≠ 0 ∧ ∃ nm : String, zz_g (.classLink own z.catchType nm) ∧ (E, nm) ∈ zz_nocast)) (hx : covers x pc = true) (h0 : x.catchType ≠ 0)
    (w1 : zz_g (.classLink own x.catchType E)) (hE : E ∈ zz_exc) (hp : x.handlerPc = h) (k : ∀ q : Addr, zz_Z p l e R s m args below meth c Q D A nL cells slots ws h lv [.ref q]) : zz_X p l e R s m args below meth c Q D A nL cells slots ws pc lv st E :=
  fun H locs ls q ce hP hD hS hl h1 h2 h3 => vx_catch (args := args) C.ow pre x suf (C.t.trans hsplit) (fun z hz => (hpass z hz).imp id (fun ⟨g1, nm, g2, g3⟩ => ⟨g1, nm, C.w g2, C.F.2.2.2.1 _ g3⟩)) hx h0 (C.w w1) (va_Nw.use rfl (C.F.2.2.1 _ hE)) h1 h2 h3 (by rw [hp]; exact k q H locs ls hP hD hS hl)
end ZY
/-- the two ends of a contract, exactly -/
abbrev zz_ok (v0 : Option Value) (w0 : va_W) : Option Value → va_W → Prop := fun v w => v = v0 ∧ w = w0
abbrev zz_none : Option Value → va_W → Prop := fun _ _ => False
abbrev zz_th (E0 : String) (w0 : va_W) : String → va_W → Prop := fun E w => E = E0 ∧ w = w0
abbrev zz_noth : String → va_W → Prop := fun _ _ => False
section ZV
variable {p : Program} {l : Launch} {e : Env} {R : Room} {s : State} {m : MethodId} {args : Array Value} {below : List Frame} {meth : Method} {c : Code} {Q : State → Prop} {D : va_G} {U : zz_U} {A : Nat → Prop} {own : String} {cc : ByteArray} {nL d cells slots pc : Nat} {ret : Option FieldType} {hh : List (Nat × Nat × Nat × Nat)} {lv : List (Nat × Value)} {st : List Value} {ws w1 : va_W} {mc ms : Nat} {v0 : Option Value} {E0 : String}
variable {y : MethodName} {bytes : ByteArray} {maxL : Nat} {retY : Option FieldType} {d' n index b ci N : Nat} {T : u_T} {host : String} {fs As rest st1 : List Value}
theorem zz_callV1 (C : zz_C p l R s m meth c D U A own cc nL ret hh d) (q0 : Nat) (hM : zz_Met y (.code y bytes maxL retY) d' mc ms D U (.ref b :: As) ws (zz_ok v0 w1) zz_noth) (hdg : decode cc pc = .ok (.invokevirtual index, 3)) (hst : st = As.reverse ++ .ref b :: rest) (he : ws[q0]? = some (b, .inr (ci, fs))) (hc : zcl[ci]? = some (y.cls, T, N)) (w2 : zz_g (.methodLink own index y)) (wy : zz_YV y (.code y bytes maxL retY) n) (hn : As.length = n) (hd : d' + 1 ≤ d) (hmx : maxL ≤ 17) (hw : (rest.map fun v => v.category).sum ≤ 8) (hc1 : cells + mc ≤ R.cells) (hs1 : slots + ms ≤ R.slots) (hv : v0.toList ++ rest = st1) (k : zz_Z p l e R s m args below meth c Q D A nL (cells + mc) (slots + ms) w1 (pc + 3) lv (st1)) : zz_Z p l e R s m args below meth c Q D A nL cells slots ws (pc) lv (st) := zz_callV C q0 hM hdg hst he hc w2 wy hn hd hmx hw hc1 hs1 (fun v ws' h => by obtain ⟨rfl, rfl⟩ := h; rw [hv]; exact k) (fun _ _ h => h.elim)
theorem zz_callVx (C : zz_C p l R s m meth c D U A own cc nL ret hh d) (q0 : Nat) (hM : zz_Met y (.code y bytes maxL retY) d' mc ms D U (.ref b :: As) ws zz_none (zz_th E0 w1)) (hdg : decode cc pc = .ok (.invokevirtual index, 3)) (hst : st = As.reverse ++ .ref b :: rest) (he : ws[q0]? = some (b, .inr (ci, fs))) (hc : zcl[ci]? = some (y.cls, T, N)) (w2 : zz_g (.methodLink own index y)) (wy : zz_YV y (.code y bytes maxL retY) n) (hn : As.length = n) (hd : d' + 1 ≤ d) (hmx : maxL ≤ 17) (hw : (rest.map fun v => v.category).sum ≤ 8) (hc1 : cells + mc ≤ R.cells) (hs1 : slots + ms ≤ R.slots) (k : zz_X p l e R s m args below meth c Q D A nL (cells + mc) (slots + ms) w1 pc lv rest E0) : zz_Z p l e R s m args below meth c Q D A nL cells slots ws (pc) lv (st) := zz_callV C q0 hM hdg hst he hc w2 wy hn hd hmx hw hc1 hs1 (fun _ _ h => h.elim) (fun E ws' h => by obtain ⟨rfl, rfl⟩ := h; exact k)
theorem zz_callS1 (C : zz_C p l R s m meth c D U A own cc nL ret hh d) (hM : zz_Met y (.code y bytes maxL retY) d' mc ms D U As ws (zz_ok v0 w1) zz_noth) (hdg : decode cc pc = .ok (.invokestatic index, 3)) (hst : st = As.reverse ++ rest) (w2 : zz_g (.methodLink own index y)) (wy : zz_YS y (.code y bytes maxL retY) n) (hn : As.length = n) (hd : d' + 1 ≤ d) (hmx : maxL ≤ 17) (hw : (rest.map fun v => v.category).sum ≤ 8) (hc1 : cells + mc ≤ R.cells) (hs1 : slots + ms ≤ R.slots) (hv : v0.toList ++ rest = st1) (k : zz_Z p l e R s m args below meth c Q D A nL (cells + mc) (slots + ms) w1 (pc + 3) lv (st1)) : zz_Z p l e R s m args below meth c Q D A nL cells slots ws (pc) lv (st) := zz_callS C hM hdg hst w2 wy hn hd hmx hw hc1 hs1 (fun v ws' h => by obtain ⟨rfl, rfl⟩ := h; rw [hv]; exact k) (fun _ _ h => h.elim)
theorem zz_callSx (C : zz_C p l R s m meth c D U A own cc nL ret hh d) (hM : zz_Met y (.code y bytes maxL retY) d' mc ms D U As ws zz_none (zz_th E0 w1)) (hdg : decode cc pc = .ok (.invokestatic index, 3)) (hst : st = As.reverse ++ rest) (w2 : zz_g (.methodLink own index y)) (wy : zz_YS y (.code y bytes maxL retY) n) (hn : As.length = n) (hd : d' + 1 ≤ d) (hmx : maxL ≤ 17) (hw : (rest.map fun v => v.category).sum ≤ 8) (hc1 : cells + mc ≤ R.cells) (hs1 : slots + ms ≤ R.slots) (k : zz_X p l e R s m args below meth c Q D A nL (cells + mc) (slots + ms) w1 pc lv rest E0) : zz_Z p l e R s m args below meth c Q D A nL cells slots ws (pc) lv (st) := zz_callS C hM hdg hst w2 wy hn hd hmx hw hc1 hs1 (fun _ _ h => h.elim) (fun E ws' h => by obtain ⟨rfl, rfl⟩ := h; exact k)
theorem zz_callSN1 (C : zz_C p l R s m meth c D U A own cc nL ret hh d) (hM : zz_Met y (.code y bytes maxL retY) d' mc ms D U As ws (zz_ok v0 w1) zz_noth) (hdg : decode cc pc = .ok (.invokestatic index, 3)) (hst : st = As.reverse ++ rest) (w2 : (own, index, y, host) ∈ zz_nest) (wy : zz_YS y (.code y bytes maxL retY) n) (hn : As.length = n) (hd : d' + 1 ≤ d) (hmx : maxL ≤ 17) (hw : (rest.map fun v => v.category).sum ≤ 8) (hc1 : cells + mc ≤ R.cells) (hs1 : slots + ms ≤ R.slots) (hv : v0.toList ++ rest = st1) (k : zz_Z p l e R s m args below meth c Q D A nL (cells + mc) (slots + ms) w1 (pc + 3) lv (st1)) : zz_Z p l e R s m args below meth c Q D A nL cells slots ws (pc) lv (st) := zz_callSN C hM (fun _ _ h => h) hdg hst w2 wy hn hd hmx hw hc1 hs1 (fun v ws' h => by obtain ⟨rfl, rfl⟩ := h; rw [hv]; exact k)
end ZV
/-- a method's contract out of the walk of its body -/
theorem zz_method {y : MethodName} {cc : ByteArray} {maxL d mc ms : Nat} {ret : Option FieldType} {D : va_G} {U : zz_U} {as : List Value} {ws : va_W} {Ψ : Option Value → va_W → Prop} {ΨX : String → va_W → Prop} (own : String) (ho : y.cls = own) (hy : plainName own = true) (hlen : (lg_sl as).length ≤ maxL)
    (body : ∀ (p : Program) (l : Launch) (e : Env) (s : State) (m : MethodId) (args : Array Value) (below : List Frame) (meth : Method) (c : Code) (A : Nat → Prop), meth.name = y.name → zz_C p l ({ frames := d, cells := mc, slots := ms, locals := 36 * d } : Room) s m meth c D U A own cc maxL ret [] d →
      zz_Z p l e ({ frames := d, cells := mc, slots := ms, locals := 36 * d } : Room) s m args below meth c (vx_MQ below (zz_Qc D A Ψ) (zz_XC D A ΨX) args s mc ms A) D A maxL 0 0 ws 0 (lv_args 0 as) []) : zz_Met y (.code y cc maxL ret) d mc ms D U as ws Ψ ΨX := by
  subst ho
  intro l sz htr
  refine vx_ofW (cc := cc) (maxL := maxL) (ret := ret) (ws' := []) hy rfl ?_
  intro p e s m args below meth c s₁ B hml hno hv
  obtain ⟨rfl, hsz, hP, hK, hD0, hF, hS0⟩ := hv
  subst hsz
  have hD := hD0.self (sz := s.heap.size)
  have hl := lv_entry as (n := maxL) hlen
  rw [lg_entry_eq]
  have ht : c.exceptionTable.toList = tableOf [] := by
    show _ = []
    cases hq : c.exceptionTable.toList with
    | nil => rfl
    | cons z r => exact (hno z (by rw [hq]; exact List.mem_cons_self)).elim
  have hA : ∀ q : Nat, s.heap.size ≤ q → va_A ws s.heap.size q := fun q h => Or.inr h
  refine body p l e s m as.toArray below meth c (va_A ws s.heap.size) (name_of_methodNamed B.named B.method).1 ⟨B.exec, B.bytes, hml, findClass_of_methodNamed B.named, hF, B.notSynchronized, htr, hK, hA, hS0, Nat.le_refl _, Nat.le_refl _, B.returns, ht⟩ s.heap [] _ hP hD va_S.rf hl
end
