theorem dX4_piecesIn_0 : decode cX4_piecesIn 0 = .ok (.iconst 0, 1) := by decide +kernel
theorem dX4_piecesIn_1 : decode cX4_piecesIn 1 = .ok (.istore_n 2, 1) := by decide +kernel
theorem dX4_piecesIn_2 : decode cX4_piecesIn 2 = .ok (.iconst 0, 1) := by decide +kernel
theorem dX4_piecesIn_3 : decode cX4_piecesIn 3 = .ok (.istore_n 3, 1) := by decide +kernel
theorem dX4_piecesIn_4 : decode cX4_piecesIn 4 = .ok (.iload_n 3, 1) := by decide +kernel
theorem dX4_piecesIn_5 : decode cX4_piecesIn 5 = .ok (.aload_n 0, 1) := by decide +kernel
theorem dX4_piecesIn_6 : decode cX4_piecesIn 6 = .ok (.getfield 32, 3) := by decide +kernel
theorem dX4_piecesIn_9 : decode cX4_piecesIn 9 = .ok (.if_icmp .ge 30, 3) := by decide +kernel
theorem dX4_piecesIn_12 : decode cX4_piecesIn 12 = .ok (.iload_n 2, 1) := by decide +kernel
theorem dX4_piecesIn_13 : decode cX4_piecesIn 13 = .ok (.iload_n 3, 1) := by decide +kernel
theorem dX4_piecesIn_14 : decode cX4_piecesIn 14 = .ok (.iload_n 1, 1) := by decide +kernel
theorem dX4_piecesIn_15 : decode cX4_piecesIn 15 = .ok (.invokestatic 55, 3) := by decide +kernel
theorem dX4_piecesIn_18 : decode cX4_piecesIn 18 = .ok (.ifCond .eq 12, 3) := by decide +kernel
theorem dX4_piecesIn_21 : decode cX4_piecesIn 21 = .ok (.aload_n 0, 1) := by decide +kernel
theorem dX4_piecesIn_22 : decode cX4_piecesIn 22 = .ok (.getfield 9, 3) := by decide +kernel
theorem dX4_piecesIn_25 : decode cX4_piecesIn 25 = .ok (.iload_n 3, 1) := by decide +kernel
theorem dX4_piecesIn_26 : decode cX4_piecesIn 26 = .ok (.iaload, 1) := by decide +kernel
theorem dX4_piecesIn_27 : decode cX4_piecesIn 27 = .ok (.goto 4, 3) := by decide +kernel
theorem dX4_piecesIn_30 : decode cX4_piecesIn 30 = .ok (.iconst 0, 1) := by decide +kernel
theorem dX4_piecesIn_31 : decode cX4_piecesIn 31 = .ok (.ior, 1) := by decide +kernel
theorem dX4_piecesIn_32 : decode cX4_piecesIn 32 = .ok (.istore_n 2, 1) := by decide +kernel
theorem dX4_piecesIn_33 : decode cX4_piecesIn 33 = .ok (.iinc 3 1, 3) := by decide +kernel
theorem dX4_piecesIn_36 : decode cX4_piecesIn 36 = .ok (.goto (-32), 3) := by decide +kernel
theorem dX4_piecesIn_39 : decode cX4_piecesIn 39 = .ok (.iload_n 2, 1) := by decide +kernel
theorem dX4_piecesIn_40 : decode cX4_piecesIn 40 = .ok (.ireturn, 1) := by decide +kernel
set_option maxHeartbeats 4000000 in
set_option maxRecDepth 100000 in
theorem mX4_piecesIn_L1 {p : Program} {l : Launch} {e : Env} {R : Room} {s : State} {m : MethodId} {args : Array Value} {below : List Frame} {meth : Method} {c : Code} {Q : State → Prop} {D : va_G} {U : zz_U} {A : Nat → Prop} {cells slots : Nat} {ad : Nat → Nat} {X : va_W} (C : zz_C p l R s m meth c D U A RX4 cX4_piecesIn 4 (some .int) [] 1) (hcR : cells ≤ R.cells) (hsR : slots ≤ R.slots) (σ : zz_St) (chosen_ : Int32) : ∀ (n : Nat) (set_ : Int32) (parcel_ : Int32) (q : (Int32 × Int32)), fX4_piecesIn_L1 σ chosen_ n set_ parcel_ = some q → (zz_Z p l e R s m args below meth c Q D A 4 cells slots (zz_wc U ad σ X) 39 [(0, .ref (ad 41)), (1, .int chosen_), (2, .int q.1), (3, .int q.2)] []) → zz_Z p l e R s m args below meth c Q D A 4 cells slots (zz_wc U ad σ X) 4 [(0, .ref (ad 41)), (1, .int chosen_), (2, .int set_), (3, .int parcel_)] [] := by
  intro n
  induction n with
  | zero => intro set_ parcel_ q hf; rw [fX4_piecesIn_L1] at hf; cases hf
  | succ n ih =>
    intro set_ parcel_ q hf kx
    rw [fX4_piecesIn_L1] at hf
    refine zz_iload_n C 3 dX4_piecesIn_4 rfl rfl ?_
    refine zz_aload_n C 0 dX4_piecesIn_5 rfl rfl ?_
    refine zf4_count C dX4_piecesIn_6 zw_86 ?_
    refine zz_icmp_ge (tgt := 39) C dX4_piecesIn_9 (by decide) (fun g1 => ?_) (fun g1 => ?_)
    · rw [if_pos g1] at hf
      cases hf
      exact kx
    · rw [if_neg g1] at hf
      refine zz_iload_n C 2 dX4_piecesIn_12 rfl rfl ?_
      obtain ⟨x2, h3, hf⟩ := zz_bind hf
      refine zz_cut 31 [(0, .ref (ad 41)), (1, .int chosen_), (2, .int set_), (3, .int parcel_)] [.int x2, .int set_] (zz_wc U ad σ X) ?_ (fun J4 => ?_)
      · refine zz_ior C dX4_piecesIn_31 ?_
        obtain ⟨x10, h11, hf⟩ := zz_bind hf
        refine zz_topi (Option.some.inj h11) ?_
        refine zz_istore_n C dX4_piecesIn_32 rfl (by decide) (lv' := [(2, .int x10), (0, .ref (ad 41)), (1, .int chosen_), (3, .int parcel_)]) rfl ?_
        refine zz_iinc (v := (parcel_ + (1 : Int32))) C 3 dX4_piecesIn_33 rfl (by rfl) (by decide) (lv' := [(3, .int (parcel_ + (1 : Int32))), (2, .int x10), (0, .ref (ad 41)), (1, .int chosen_)]) rfl ?_
        refine zz_goto (tgt := 4) C dX4_piecesIn_36 (by decide) ?_
        refine zz_sub [2, 3, 1, 0] rfl ?_
        exact ih x10 (parcel_ + (1 : Int32)) _ hf kx
      refine zz_iload_n C 3 dX4_piecesIn_13 rfl rfl ?_
      refine zz_iload_n C 1 dX4_piecesIn_14 rfl rfl ?_
      obtain ⟨x5, h6, h3⟩ := zz_bind h3
      refine zz_callSN1 (host := "ChangeUntangler") (As := [.int parcel_, .int chosen_]) (rest := [.int set_]) C (mX7_isIn σ parcel_ chosen_ x5 h6) dX4_piecesIn_15 rfl (by decide +kernel) zy_X7_isIn rfl (by decide) (by decide) (Nat.le_of_ble_eq_true rfl) hcR hsR rfl ?_
      refine zz_if_eq (tgt := 30) C dX4_piecesIn_18 (by decide) (fun g7 => ?_) (fun g7 => ?_)
      · rw [if_pos g7] at h3
        refine zz_iconst (v := (0 : Int32)) C dX4_piecesIn_30 (by decide) ?_
        cases h3
        exact J4
      · rw [if_neg g7] at h3
        refine zz_aload_n C 0 dX4_piecesIn_21 rfl rfl ?_
        refine zf4_sets C dX4_piecesIn_22 zw_87 ?_
        refine zz_iload_n C 3 dX4_piecesIn_25 rfl rfl ?_
        obtain ⟨x8, h9, h3⟩ := zz_bind h3
        refine zl_42 C dX4_piecesIn_26 h9 ?_
        refine zz_goto (tgt := 31) C dX4_piecesIn_27 (by decide) ?_
        cases h3
        exact J4
set_option maxHeartbeats 4000000 in
set_option maxRecDepth 100000 in
theorem mX4_piecesIn {D : va_G} {U : zz_U} {ad : Nat → Nat} {X : va_W} (σ : zz_St) (chosen_ : Int32) (r : Int32) (hf : fX4_piecesIn σ chosen_ = some r) : zz_Met yX4_piecesIn (.code yX4_piecesIn cX4_piecesIn 4 (some .int)) 1 0 0 D U [.ref (ad 41), .int chosen_] (zz_wc U ad σ X) (zz_ok (some (.int r)) (zz_wc U ad σ X)) zz_noth := by
  unfold fX4_piecesIn at hf
  refine zz_method RX4 rfl (by decide +kernel) (Nat.le_of_ble_eq_true rfl) ?_
  intro p l e s m args below meth c A _ C
  refine zz_lvs (lv1 := [(0, .ref (ad 41)), (1, .int chosen_)]) rfl ?_
  refine zz_iconst (v := (0 : Int32)) C dX4_piecesIn_0 (by decide) ?_
  refine zz_istore_n C dX4_piecesIn_1 rfl (by decide) (lv' := [(2, .int (0 : Int32)), (0, .ref (ad 41)), (1, .int chosen_)]) rfl ?_
  refine zz_iconst (v := (0 : Int32)) C dX4_piecesIn_2 (by decide) ?_
  refine zz_istore_n C dX4_piecesIn_3 rfl (by decide) (lv' := [(3, .int (0 : Int32)), (2, .int (0 : Int32)), (0, .ref (ad 41)), (1, .int chosen_)]) rfl ?_
  obtain ⟨q12, h13, hf⟩ := zz_bind hf
  refine zz_sub [2, 3, 1, 0] rfl ?_
  refine mX4_piecesIn_L1 C (Nat.le_of_ble_eq_true rfl) (Nat.le_of_ble_eq_true rfl) σ chosen_ 1000 (0 : Int32) (0 : Int32) q12 h13 ?_
  refine zz_iload_n C 2 dX4_piecesIn_39 rfl rfl ?_
  cases hf
  exact zz_iret C dX4_piecesIn_40 (And.intro rfl rfl) (Nat.le_of_ble_eq_true rfl) (Nat.le_of_ble_eq_true rfl)
theorem dX0_walk_0 : decode cX0_walk 0 = .ok (.iconst 0, 1) := by decide +kernel
theorem dX0_walk_1 : decode cX0_walk 1 = .ok (.istore_n 1, 1) := by decide +kernel
theorem dX0_walk_2 : decode cX0_walk 2 = .ok (.iconst 0, 1) := by decide +kernel
theorem dX0_walk_3 : decode cX0_walk 3 = .ok (.istore_n 2, 1) := by decide +kernel
theorem dX0_walk_4 : decode cX0_walk 4 = .ok (.iload_n 2, 1) := by decide +kernel
theorem dX0_walk_5 : decode cX0_walk 5 = .ok (.aload_n 0, 1) := by decide +kernel
theorem dX0_walk_6 : decode cX0_walk 6 = .ok (.getfield 30, 3) := by decide +kernel
theorem dX0_walk_9 : decode cX0_walk 9 = .ok (.if_icmp .ge 32, 3) := by decide +kernel
theorem dX0_walk_12 : decode cX0_walk 12 = .ok (.aload_n 0, 1) := by decide +kernel
theorem dX0_walk_13 : decode cX0_walk 13 = .ok (.iload_n 1, 1) := by decide +kernel
theorem dX0_walk_14 : decode cX0_walk 14 = .ok (.invokevirtual 33, 3) := by decide +kernel
theorem dX0_walk_17 : decode cX0_walk 17 = .ok (.istore_n 3, 1) := by decide +kernel
theorem dX0_walk_18 : decode cX0_walk 18 = .ok (.iload_n 3, 1) := by decide +kernel
theorem dX0_walk_19 : decode cX0_walk 19 = .ok (.ifCond .lt 16, 3) := by decide +kernel
theorem dX0_walk_22 : decode cX0_walk 22 = .ok (.aload_n 0, 1) := by decide +kernel
theorem dX0_walk_23 : decode cX0_walk 23 = .ok (.getfield 9, 3) := by decide +kernel
theorem dX0_walk_26 : decode cX0_walk 26 = .ok (.iload_n 2, 1) := by decide +kernel
theorem dX0_walk_27 : decode cX0_walk 27 = .ok (.iload_n 3, 1) := by decide +kernel
theorem dX0_walk_28 : decode cX0_walk 28 = .ok (.iastore, 1) := by decide +kernel
theorem dX0_walk_29 : decode cX0_walk 29 = .ok (.iload_n 1, 1) := by decide +kernel
theorem dX0_walk_30 : decode cX0_walk 30 = .ok (.iconst 1, 1) := by decide +kernel
theorem dX0_walk_31 : decode cX0_walk 31 = .ok (.iload_n 3, 1) := by decide +kernel
theorem dX0_walk_32 : decode cX0_walk 32 = .ok (.ishl, 1) := by decide +kernel
theorem dX0_walk_33 : decode cX0_walk 33 = .ok (.ior, 1) := by decide +kernel
theorem dX0_walk_34 : decode cX0_walk 34 = .ok (.istore_n 1, 1) := by decide +kernel
theorem dX0_walk_35 : decode cX0_walk 35 = .ok (.iinc 2 1, 3) := by decide +kernel
theorem dX0_walk_38 : decode cX0_walk 38 = .ok (.goto (-34), 3) := by decide +kernel
theorem dX0_walk_41 : decode cX0_walk 41 = .ok (.return_, 1) := by decide +kernel
set_option maxHeartbeats 4000000 in
set_option maxRecDepth 100000 in
theorem mX0_walk_L1 {p : Program} {l : Launch} {e : Env} {R : Room} {s : State} {m : MethodId} {args : Array Value} {below : List Frame} {meth : Method} {c : Code} {Q : State → Prop} {D : va_G} {U : zz_U} {A : Nat → Prop} {cells slots : Nat} {ad : Nat → Nat} {X : va_W} (C : zz_C p l R s m meth c D U A RX0 cX0_walk 4 none [] 2) (hcR : cells ≤ R.cells) (hsR : slots ≤ R.slots) : ∀ (n : Nat) (chosen_ : Int32) (place_ : Int32) (σ : zz_St) (q : (Int32 × Int32 × zz_St)), fX0_walk_L1 n chosen_ place_ σ = some q → (zz_Z p l e R s m args below meth c Q D A 4 cells slots (zz_wc U ad q.2.2 X) 41 [(0, .ref (ad 44)), (1, .int q.1), (2, .int q.2.1)] []) → zz_Z p l e R s m args below meth c Q D A 4 cells slots (zz_wc U ad σ X) 4 [(0, .ref (ad 44)), (1, .int chosen_), (2, .int place_)] [] := by
  intro n
  induction n with
  | zero => intro chosen_ place_ σ q hf; rw [fX0_walk_L1] at hf; cases hf
  | succ n ih =>
    intro chosen_ place_ σ q hf kx
    rw [fX0_walk_L1] at hf
    refine zz_iload_n C 2 dX0_walk_4 rfl rfl ?_
    refine zz_aload_n C 0 dX0_walk_5 rfl rfl ?_
    refine zf0_length C dX0_walk_6 zw_122 ?_
    refine zz_icmp_ge (tgt := 41) C dX0_walk_9 (by decide) (fun g1 => ?_) (fun g1 => ?_)
    · rw [if_pos g1] at hf
      cases hf
      exact kx
    · rw [if_neg g1] at hf
      refine zz_aload_n C 0 dX0_walk_12 rfl rfl ?_
      refine zz_iload_n C 1 dX0_walk_13 rfl rfl ?_
      obtain ⟨x2, h3, hf⟩ := zz_bind hf
      refine zz_callV1 (As := [.int chosen_]) (rest := []) C 44 (mX0_nextAfter σ chosen_ x2 h3) dX0_walk_14 rfl rfl rfl zw_126 zy_X0_nextAfter rfl (by decide) (by decide) (Nat.le_of_ble_eq_true rfl) hcR hsR rfl ?_
      refine zz_istore_n C dX0_walk_17 rfl (by decide) (lv' := [(3, .int x2), (0, .ref (ad 44)), (1, .int chosen_), (2, .int place_)]) rfl ?_
      obtain ⟨x4, h5, hf⟩ := zz_bind hf
      refine zz_cut 35 [(0, .ref (ad 44)), (1, .int x4.1), (2, .int place_), (3, .int x2)] [] (zz_wc U ad x4.2 X) ?_ (fun J6 => ?_)
      · refine zz_iinc (v := (place_ + (1 : Int32))) C 2 dX0_walk_35 rfl (by rfl) (by decide) (lv' := [(2, .int (place_ + (1 : Int32))), (0, .ref (ad 44)), (1, .int x4.1), (3, .int x2)]) rfl ?_
        refine zz_goto (tgt := 4) C dX0_walk_38 (by decide) ?_
        refine zz_sub [1, 2, 0] rfl ?_
        exact ih x4.1 (place_ + (1 : Int32)) x4.2 _ hf kx
      refine zz_iload_n C 0 dX0_walk_18 rfl rfl ?_
      refine zz_if_lt (tgt := 35) C dX0_walk_19 (by decide) (fun g7 => ?_) (fun g7 => ?_)
      · rw [if_pos g7] at h5
        refine zz_sub [1, 2, 3, 0] rfl ?_
        cases h5
        exact J6
      · rw [if_neg g7] at h5
        refine zz_aload_n C 1 dX0_walk_22 rfl rfl ?_
        refine zf0_order C dX0_walk_23 zw_127 ?_
        refine zz_iload_n C 3 dX0_walk_26 rfl rfl ?_
        refine zz_iload_n C 0 dX0_walk_27 rfl rfl ?_
        obtain ⟨σ8, h9, h5⟩ := zz_bind h5
        refine zs_45 C dX0_walk_28 h9 ?_
        refine zz_iload_n C 2 dX0_walk_29 rfl rfl ?_
        refine zz_iconst (v := (1 : Int32)) C dX0_walk_30 (by decide) ?_
        refine zz_iload_n C 0 dX0_walk_31 rfl rfl ?_
        refine zz_ishl C dX0_walk_32 ?_
        refine zz_ior C dX0_walk_33 ?_
        obtain ⟨x10, h11, h5⟩ := zz_bind h5
        refine zz_topi (Option.some.inj h11) ?_
        refine zz_istore_n C dX0_walk_34 rfl (by decide) (lv' := [(1, .int x10), (3, .int x2), (0, .ref (ad 44)), (2, .int place_)]) rfl ?_
        refine zz_sub [2, 0, 3, 1] rfl ?_
        cases h5
        exact J6
set_option maxHeartbeats 4000000 in
set_option maxRecDepth 100000 in
theorem mX0_walk {D : va_G} {U : zz_U} {ad : Nat → Nat} {X : va_W} (σ : zz_St) (r : zz_St) (hf : fX0_walk σ = some r) : zz_Met yX0_walk (.code yX0_walk cX0_walk 4 none) 2 0 0 D U [.ref (ad 44)] (zz_wc U ad σ X) (zz_ok none (zz_wc U ad r X)) zz_noth := by
  unfold fX0_walk at hf
  refine zz_method RX0 rfl (by decide +kernel) (Nat.le_of_ble_eq_true rfl) ?_
  intro p l e s m args below meth c A _ C
  refine zz_lvs (lv1 := [(0, .ref (ad 44))]) rfl ?_
  refine zz_iconst (v := (0 : Int32)) C dX0_walk_0 (by decide) ?_
  refine zz_istore_n C dX0_walk_1 rfl (by decide) (lv' := [(1, .int (0 : Int32)), (0, .ref (ad 44))]) rfl ?_
  refine zz_iconst (v := (0 : Int32)) C dX0_walk_2 (by decide) ?_
  refine zz_istore_n C dX0_walk_3 rfl (by decide) (lv' := [(2, .int (0 : Int32)), (1, .int (0 : Int32)), (0, .ref (ad 44))]) rfl ?_
  obtain ⟨q12, h13, hf⟩ := zz_bind hf
  refine zz_sub [2, 1, 0] rfl ?_
  refine mX0_walk_L1 C (Nat.le_of_ble_eq_true rfl) (Nat.le_of_ble_eq_true rfl) 1000 (0 : Int32) (0 : Int32) σ q12 h13 ?_
  cases hf
  exact zz_vret C dX0_walk_41 (And.intro rfl rfl) (Nat.le_of_ble_eq_true rfl) (Nat.le_of_ble_eq_true rfl)
theorem dX0_find_0 : decode cX0_find 0 = .ok (.aload_n 0, 1) := by decide +kernel
theorem dX0_find_1 : decode cX0_find 1 = .ok (.aload_n 1, 1) := by decide +kernel
theorem dX0_find_2 : decode cX0_find 2 = .ok (.getfield 18, 3) := by decide +kernel
theorem dX0_find_5 : decode cX0_find 5 = .ok (.bipush 9, 2) := by decide +kernel
theorem dX0_find_7 : decode cX0_find 7 = .ok (.invokestatic 24, 3) := by decide +kernel
theorem dX0_find_10 : decode cX0_find 10 = .ok (.putfield 30, 3) := by decide +kernel
theorem dX0_find_13 : decode cX0_find 13 = .ok (.iconst 1, 1) := by decide +kernel
theorem dX0_find_14 : decode cX0_find 14 = .ok (.aload_n 0, 1) := by decide +kernel
theorem dX0_find_15 : decode cX0_find 15 = .ok (.getfield 30, 3) := by decide +kernel
theorem dX0_find_18 : decode cX0_find 18 = .ok (.ishl, 1) := by decide +kernel
theorem dX0_find_19 : decode cX0_find 19 = .ok (.iconst 1, 1) := by decide +kernel
theorem dX0_find_20 : decode cX0_find 20 = .ok (.isub, 1) := by decide +kernel
theorem dX0_find_21 : decode cX0_find 21 = .ok (.istore 4, 2) := by decide +kernel
theorem dX0_find_23 : decode cX0_find 23 = .ok (.iload 4, 2) := by decide +kernel
theorem dX0_find_25 : decode cX0_find 25 = .ok (.ifCond .lt 77, 3) := by decide +kernel
theorem dX0_find_28 : decode cX0_find 28 = .ok (.aload_n 0, 1) := by decide +kernel
theorem dX0_find_29 : decode cX0_find 29 = .ok (.iload 4, 2) := by decide +kernel
theorem dX0_find_31 : decode cX0_find 31 = .ok (.invokevirtual 33, 3) := by decide +kernel
theorem dX0_find_34 : decode cX0_find 34 = .ok (.istore 5, 2) := by decide +kernel
theorem dX0_find_36 : decode cX0_find 36 = .ok (.iload 5, 2) := by decide +kernel
theorem dX0_find_38 : decode cX0_find 38 = .ok (.ifCond .ge 7, 3) := by decide +kernel
theorem dX0_find_41 : decode cX0_find 41 = .ok (.iconst 0, 1) := by decide +kernel
theorem dX0_find_42 : decode cX0_find 42 = .ok (.goto 15, 3) := by decide +kernel
theorem dX0_find_45 : decode cX0_find 45 = .ok (.aload_n 0, 1) := by decide +kernel
theorem dX0_find_46 : decode cX0_find 46 = .ok (.getfield 15, 3) := by decide +kernel
theorem dX0_find_49 : decode cX0_find 49 = .ok (.iload 4, 2) := by decide +kernel
theorem dX0_find_51 : decode cX0_find 51 = .ok (.iconst 1, 1) := by decide +kernel
theorem dX0_find_52 : decode cX0_find 52 = .ok (.iload 5, 2) := by decide +kernel
theorem dX0_find_54 : decode cX0_find 54 = .ok (.ishl, 1) := by decide +kernel
theorem dX0_find_55 : decode cX0_find 55 = .ok (.ior, 1) := by decide +kernel
theorem dX0_find_56 : decode cX0_find 56 = .ok (.iaload, 1) := by decide +kernel
theorem dX0_find_57 : decode cX0_find 57 = .ok (.istore 6, 2) := by decide +kernel
theorem dX0_find_59 : decode cX0_find 59 = .ok (.iload 4, 2) := by decide +kernel
theorem dX0_find_61 : decode cX0_find 61 = .ok (.ifCond .ne 7, 3) := by decide +kernel
theorem dX0_find_64 : decode cX0_find 64 = .ok (.iconst 0, 1) := by decide +kernel
theorem dX0_find_65 : decode cX0_find 65 = .ok (.goto 17, 3) := by decide +kernel
theorem dX0_find_68 : decode cX0_find 68 = .ok (.aload_n 3, 1) := by decide +kernel
theorem dX0_find_69 : decode cX0_find 69 = .ok (.aload_n 2, 1) := by decide +kernel
theorem dX0_find_70 : decode cX0_find 70 = .ok (.aload_n 1, 1) := by decide +kernel
theorem dX0_find_71 : decode cX0_find 71 = .ok (.iload 4, 2) := by decide +kernel
theorem dX0_find_73 : decode cX0_find 73 = .ok (.invokevirtual 37, 3) := by decide +kernel
theorem dX0_find_76 : decode cX0_find 76 = .ok (.invokevirtual 40, 3) := by decide +kernel
theorem dX0_find_79 : decode cX0_find 79 = .ok (.invokestatic 46, 3) := by decide +kernel
theorem dX0_find_82 : decode cX0_find 82 = .ok (.istore 7, 2) := by decide +kernel
theorem dX0_find_84 : decode cX0_find 84 = .ok (.aload_n 0, 1) := by decide +kernel
theorem dX0_find_85 : decode cX0_find 85 = .ok (.getfield 15, 3) := by decide +kernel
theorem dX0_find_88 : decode cX0_find 88 = .ok (.iload 4, 2) := by decide +kernel
theorem dX0_find_90 : decode cX0_find 90 = .ok (.iload 7, 2) := by decide +kernel
theorem dX0_find_92 : decode cX0_find 92 = .ok (.iload 6, 2) := by decide +kernel
theorem dX0_find_94 : decode cX0_find 94 = .ok (.iadd, 1) := by decide +kernel
theorem dX0_find_95 : decode cX0_find 95 = .ok (.iastore, 1) := by decide +kernel
theorem dX0_find_96 : decode cX0_find 96 = .ok (.iinc 4 (-1), 3) := by decide +kernel
theorem dX0_find_99 : decode cX0_find 99 = .ok (.goto (-76), 3) := by decide +kernel
theorem dX0_find_102 : decode cX0_find 102 = .ok (.aload_n 0, 1) := by decide +kernel
theorem dX0_find_103 : decode cX0_find 103 = .ok (.aload_n 0, 1) := by decide +kernel
theorem dX0_find_104 : decode cX0_find 104 = .ok (.getfield 15, 3) := by decide +kernel
theorem dX0_find_107 : decode cX0_find 107 = .ok (.iconst 0, 1) := by decide +kernel
theorem dX0_find_108 : decode cX0_find 108 = .ok (.iaload, 1) := by decide +kernel
theorem dX0_find_109 : decode cX0_find 109 = .ok (.putfield 51, 3) := by decide +kernel
theorem dX0_find_112 : decode cX0_find 112 = .ok (.aload_n 0, 1) := by decide +kernel
theorem dX0_find_113 : decode cX0_find 113 = .ok (.invokevirtual 54, 3) := by decide +kernel
theorem dX0_find_116 : decode cX0_find 116 = .ok (.return_, 1) := by decide +kernel
set_option maxHeartbeats 4000000 in
set_option maxRecDepth 100000 in
theorem mX0_find_L1 {p : Program} {l : Launch} {e : Env} {R : Room} {s : State} {m : MethodId} {args : Array Value} {below : List Frame} {meth : Method} {c : Code} {Q : State → Prop} {D : va_G} {U : zz_U} {A : Nat → Prop} {cells slots : Nat} {ad : Nat → Nat} {X : va_W} (C : zz_C p l R s m meth c D U A RX0 cX0_find 8 none [] 3) (hcR : cells ≤ R.cells) (hsR : slots ≤ R.slots) : ∀ (n : Nat) (chosen_ : Int32) (σ : zz_St) (q : (Int32 × zz_St)), fX0_find_L1 n chosen_ σ = some q → (zz_Z p l e R s m args below meth c Q D A 8 cells slots (zz_wc U ad q.2 X) 102 [(0, .ref (ad 44)), (1, .ref (ad 41)), (2, .ref (ad 1)), (3, .ref (ad 17)), (4, .int q.1)] []) → zz_Z p l e R s m args below meth c Q D A 8 cells slots (zz_wc U ad σ X) 23 [(0, .ref (ad 44)), (1, .ref (ad 41)), (2, .ref (ad 1)), (3, .ref (ad 17)), (4, .int chosen_)] [] := by
  intro n
  induction n with
  | zero => intro chosen_ σ q hf; rw [fX0_find_L1] at hf; cases hf
  | succ n ih =>
    intro chosen_ σ q hf kx
    rw [fX0_find_L1] at hf
    refine zz_iload C 4 dX0_find_23 rfl ?_
    refine zz_if_lt (tgt := 102) C dX0_find_25 (by decide) (fun g3 => ?_) (fun g3 => ?_)
    · rw [if_pos g3] at hf
      cases hf
      exact kx
    · rw [if_neg g3] at hf
      refine zz_aload_n C 0 dX0_find_28 rfl rfl ?_
      refine zz_iload C 4 dX0_find_29 rfl ?_
      obtain ⟨x4, h5, hf⟩ := zz_bind hf
      refine zz_callV1 (As := [.int chosen_]) (rest := []) C 44 (mX0_nextAfter σ chosen_ x4 h5) dX0_find_31 rfl rfl rfl zw_126 zy_X0_nextAfter rfl (by decide) (by decide) (Nat.le_of_ble_eq_true rfl) hcR hsR rfl ?_
      refine zz_istore C dX0_find_34 (by decide) (lv' := [(5, .int x4), (0, .ref (ad 44)), (1, .ref (ad 41)), (2, .ref (ad 1)), (3, .ref (ad 17)), (4, .int chosen_)]) rfl ?_
      obtain ⟨x6, h7, hf⟩ := zz_bind hf
      refine zz_cut 57 [(5, .int x4), (0, .ref (ad 44)), (1, .ref (ad 41)), (2, .ref (ad 1)), (3, .ref (ad 17)), (4, .int chosen_)] [.int x6] (zz_wc U ad σ X) ?_ (fun J8 => ?_)
      · refine zz_istore C dX0_find_57 (by decide) (lv' := [(6, .int x6), (5, .int x4), (0, .ref (ad 44)), (1, .ref (ad 41)), (2, .ref (ad 1)), (3, .ref (ad 17)), (4, .int chosen_)]) rfl ?_
        obtain ⟨x12, h13, hf⟩ := zz_bind hf
        refine zz_cut 82 [(6, .int x6), (5, .int x4), (0, .ref (ad 44)), (1, .ref (ad 41)), (2, .ref (ad 1)), (3, .ref (ad 17)), (4, .int chosen_)] [.int x12] (zz_wc U ad σ X) ?_ (fun J14 => ?_)
        · refine zz_istore C dX0_find_82 (by decide) (lv' := [(7, .int x12), (6, .int x6), (5, .int x4), (0, .ref (ad 44)), (1, .ref (ad 41)), (2, .ref (ad 1)), (3, .ref (ad 17)), (4, .int chosen_)]) rfl ?_
          refine zz_aload_n C 3 dX0_find_84 rfl rfl ?_
          refine zf0_fromThen C dX0_find_85 zw_121 ?_
          refine zz_iload C 7 dX0_find_88 rfl ?_
          refine zz_iload C 0 dX0_find_90 rfl ?_
          refine zz_iload C 1 dX0_find_92 rfl ?_
          refine zz_iadd C dX0_find_94 ?_
          obtain ⟨σ22, h23, hf⟩ := zz_bind hf
          refine zs_46 C dX0_find_95 h23 ?_
          refine zz_iinc (v := (chosen_ + (-1 : Int32))) C 7 dX0_find_96 rfl (by rfl) (by decide) (lv' := [(4, .int (chosen_ + (-1 : Int32))), (7, .int x12), (6, .int x6), (5, .int x4), (0, .ref (ad 44)), (1, .ref (ad 41)), (2, .ref (ad 1)), (3, .ref (ad 17))]) rfl ?_
          refine zz_goto (tgt := 23) C dX0_find_99 (by decide) ?_
          refine zz_sub [4, 5, 6, 7, 0] rfl ?_
          exact ih (chosen_ + (-1 : Int32)) σ22 _ hf kx
        refine zz_iload C 6 dX0_find_59 rfl ?_
        refine zz_if_ne (tgt := 68) C dX0_find_61 (by decide) (fun g15 => ?_) (fun g15 => ?_)
        · rw [if_neg g15] at h13
          refine zz_aload_n C 5 dX0_find_68 rfl rfl ?_
          refine zz_aload_n C 4 dX0_find_69 rfl rfl ?_
          refine zz_aload_n C 3 dX0_find_70 rfl rfl ?_
          refine zz_iload C 6 dX0_find_71 rfl ?_
          obtain ⟨x16, h17, h13⟩ := zz_bind h13
          refine zz_callV1 (As := [.int chosen_]) (rest := [.ref (ad 1), .ref (ad 17)]) C 41 (mX4_piecesIn σ chosen_ x16 h17) dX0_find_73 rfl rfl rfl zw_125 zy_X4_piecesIn rfl (by decide) (by decide) (Nat.le_of_ble_eq_true rfl) hcR hsR rfl ?_
          obtain ⟨x18, h19, h13⟩ := zz_bind h13
          refine zz_callV1 (As := [.ref (ad 1), .int x16]) (rest := []) C 17 (mX1_brokenBy σ x16 x18 h19) dX0_find_76 rfl rfl rfl zw_124 zy_X1_brokenBy rfl (by decide) (by decide) (Nat.le_of_ble_eq_true rfl) hcR hsR rfl ?_
          obtain ⟨x20, h21, h13⟩ := zz_bind h13
          refine zz_callS1 (As := [.int x18]) (rest := []) C (mJ6_bitCount x18 x20 h21) dX0_find_79 rfl zw_123 zy_J6_bitCount_0f7a4 rfl (by decide) (by decide) (Nat.le_of_ble_eq_true rfl) hcR hsR rfl ?_
          cases h13
          exact J14
        · rw [if_pos g15] at h13
          refine zz_iconst (v := (0 : Int32)) C dX0_find_64 (by decide) ?_
          refine zz_goto (tgt := 82) C dX0_find_65 (by decide) ?_
          cases h13
          exact J14
      refine zz_iload C 0 dX0_find_36 rfl ?_
      refine zz_if_ge (tgt := 45) C dX0_find_38 (by decide) (fun g9 => ?_) (fun g9 => ?_)
      · rw [if_pos g9] at h7
        refine zz_aload_n C 1 dX0_find_45 rfl rfl ?_
        refine zf0_fromThen C dX0_find_46 zw_121 ?_
        refine zz_iload C 5 dX0_find_49 rfl ?_
        refine zz_iconst (v := (1 : Int32)) C dX0_find_51 (by decide) ?_
        refine zz_iload C 0 dX0_find_52 rfl ?_
        refine zz_ishl C dX0_find_54 ?_
        refine zz_ior C dX0_find_55 ?_
        obtain ⟨x10, h11, h7⟩ := zz_bind h7
        refine zl_46 C dX0_find_56 h11 ?_
        cases h7
        exact J8
      · rw [if_neg g9] at h7
        refine zz_iconst (v := (0 : Int32)) C dX0_find_41 (by decide) ?_
        refine zz_goto (tgt := 57) C dX0_find_42 (by decide) ?_
        cases h7
        exact J8
set_option maxHeartbeats 4000000 in
set_option maxRecDepth 100000 in
theorem mX0_find {D : va_G} {U : zz_U} {ad : Nat → Nat} {X : va_W} (σ : zz_St) (r : zz_St) (hf : fX0_find σ = some r) : zz_Met yX0_find (.code yX0_find cX0_find 8 none) 3 0 0 D U [.ref (ad 44), .ref (ad 41), .ref (ad 1), .ref (ad 17)] (zz_wc U ad σ X) (zz_ok none (zz_wc U ad r X)) zz_noth := by
  unfold fX0_find at hf
  refine zz_method RX0 rfl (by decide +kernel) (Nat.le_of_ble_eq_true rfl) ?_
  intro p l e s m args below meth c A _ C
  refine zz_lvs (lv1 := [(0, .ref (ad 44)), (1, .ref (ad 41)), (2, .ref (ad 1)), (3, .ref (ad 17))]) rfl ?_
  refine zz_aload_n C 0 dX0_find_0 rfl rfl ?_
  refine zz_aload_n C 1 dX0_find_1 rfl rfl ?_
  refine zf4_count C dX0_find_2 zw_130 ?_
  refine zz_bipush (v := (9 : Int32)) C dX0_find_5 (by decide) ?_
  refine zz_mmin C dX0_find_7 zw_119 zm_min_1 zm_min_2 zm_min_3 (by decide) (Nat.le_of_ble_eq_true rfl) (Nat.le_of_ble_eq_true rfl) (Nat.le_of_ble_eq_true rfl) ?_
  refine zp0_length C dX0_find_10 zw_122 ?_
  refine zz_iconst (v := (1 : Int32)) C dX0_find_13 (by decide) ?_
  refine zz_aload_n C 0 dX0_find_14 rfl rfl ?_
  refine zf0_length C dX0_find_15 zw_122 ?_
  refine zz_ishl C dX0_find_18 ?_
  refine zz_iconst (v := (1 : Int32)) C dX0_find_19 (by decide) ?_
  refine zz_isub C dX0_find_20 ?_
  obtain ⟨x1, h2, hf⟩ := zz_bind hf
  refine zz_topi (Option.some.inj h2) ?_
  refine zz_istore C dX0_find_21 (by decide) (lv' := [(4, .int x1), (0, .ref (ad 44)), (1, .ref (ad 41)), (2, .ref (ad 1)), (3, .ref (ad 17))]) rfl ?_
  obtain ⟨q24, h25, hf⟩ := zz_bind hf
  refine zz_sub [1, 2, 3, 4, 0] rfl ?_
  refine mX0_find_L1 C (Nat.le_of_ble_eq_true rfl) (Nat.le_of_ble_eq_true rfl) 1000 x1 (zz_u σ 44 1 (zz_min (σ 41 0) (9 : Int32))) q24 h25 ?_
  refine zz_aload_n C 0 dX0_find_102 rfl rfl ?_
  refine zz_aload_n C 0 dX0_find_103 rfl rfl ?_
  refine zf0_fromThen C dX0_find_104 zw_121 ?_
  refine zz_iconst (v := (0 : Int32)) C dX0_find_107 (by decide) ?_
  obtain ⟨x26, h27, hf⟩ := zz_bind hf
  refine zl_46 C dX0_find_108 h27 ?_
  refine zp0_least C dX0_find_109 zw_129 ?_
  refine zz_aload_n C 0 dX0_find_112 rfl rfl ?_
  obtain ⟨x28, h29, hf⟩ := zz_bind hf
  refine zz_callV1 (As := []) (rest := []) C 44 (mX0_walk (zz_u q24.2 44 0 x26) x28 h29) dX0_find_113 rfl rfl rfl zw_128 zy_X0_walk rfl (by decide) (by decide) (Nat.le_of_ble_eq_true rfl) (Nat.le_of_ble_eq_true rfl) (Nat.le_of_ble_eq_true rfl) rfl ?_
  cases hf
  exact zz_vret C dX0_find_116 (And.intro rfl rfl) (Nat.le_of_ble_eq_true rfl) (Nat.le_of_ble_eq_true rfl)
theorem dX7_findBest_0 : decode cX7_findBest 0 = .ok (.aload_n 0, 1) := by decide +kernel
theorem dX7_findBest_1 : decode cX7_findBest 1 = .ok (.invokevirtual 176, 3) := by decide +kernel
theorem dX7_findBest_4 : decode cX7_findBest 4 = .ok (.aload_n 0, 1) := by decide +kernel
theorem dX7_findBest_5 : decode cX7_findBest 5 = .ok (.getfield 47, 3) := by decide +kernel
theorem dX7_findBest_8 : decode cX7_findBest 8 = .ok (.getfield 205, 3) := by decide +kernel
theorem dX7_findBest_11 : decode cX7_findBest 11 = .ok (.bipush 9, 2) := by decide +kernel
theorem dX7_findBest_13 : decode cX7_findBest 13 = .ok (.if_icmp .le 14, 3) := by decide +kernel
theorem dX7_findBest_16 : decode cX7_findBest 16 = .ok (.new 75, 3) := by decide +kernel
theorem dX7_findBest_19 : decode cX7_findBest 19 = .ok (.dup, 1) := by decide +kernel
theorem dX7_findBest_20 : decode cX7_findBest 20 = .ok (.ldc_w 290, 3) := by decide +kernel
theorem dX7_findBest_23 : decode cX7_findBest 23 = .ok (.invokespecial 79, 3) := by decide +kernel
theorem dX7_findBest_26 : decode cX7_findBest 26 = .ok (.athrow, 1) := by decide +kernel
theorem dX7_findBest_27 : decode cX7_findBest 27 = .ok (.aload_n 0, 1) := by decide +kernel
theorem dX7_findBest_28 : decode cX7_findBest 28 = .ok (.getfield 271, 3) := by decide +kernel
theorem dX7_findBest_31 : decode cX7_findBest 31 = .ok (.ifCond .ne 27, 3) := by decide +kernel
theorem dX7_findBest_34 : decode cX7_findBest 34 = .ok (.aload_n 0, 1) := by decide +kernel
theorem dX7_findBest_35 : decode cX7_findBest 35 = .ok (.getfield 54, 3) := by decide +kernel
theorem dX7_findBest_38 : decode cX7_findBest 38 = .ok (.aload_n 0, 1) := by decide +kernel
theorem dX7_findBest_39 : decode cX7_findBest 39 = .ok (.getfield 47, 3) := by decide +kernel
theorem dX7_findBest_42 : decode cX7_findBest 42 = .ok (.aload_n 0, 1) := by decide +kernel
theorem dX7_findBest_43 : decode cX7_findBest 43 = .ok (.getfield 12, 3) := by decide +kernel
theorem dX7_findBest_46 : decode cX7_findBest 46 = .ok (.aload_n 0, 1) := by decide +kernel
theorem dX7_findBest_47 : decode cX7_findBest 47 = .ok (.getfield 19, 3) := by decide +kernel
theorem dX7_findBest_50 : decode cX7_findBest 50 = .ok (.invokevirtual 292, 3) := by decide +kernel
theorem dX7_findBest_53 : decode cX7_findBest 53 = .ok (.aload_n 0, 1) := by decide +kernel
theorem dX7_findBest_54 : decode cX7_findBest 54 = .ok (.iconst 1, 1) := by decide +kernel
theorem dX7_findBest_55 : decode cX7_findBest 55 = .ok (.putfield 271, 3) := by decide +kernel
theorem dX7_findBest_58 : decode cX7_findBest 58 = .ok (.return_, 1) := by decide +kernel
set_option maxHeartbeats 4000000 in
set_option maxRecDepth 100000 in
theorem mX7_findBest {D : va_G} {U : zz_U} {ad : Nat → Nat} {X : va_W} (σ : zz_St) (r : ((Unit ⊕ String) × zz_St)) (hf : fX7_findBest σ = some r) : zz_Met yX7_findBest (.code yX7_findBest cX7_findBest 1 none) 6 1 6 D U [.ref (ad 0)] (zz_wc U ad σ X) (match r.1 with | .inl _ => zz_ok none (zz_wc U ad r.2 X) | .inr _ => zz_none) (match r.1 with | .inl _ => zz_noth | .inr E => zz_th E (zz_wc U ad r.2 X)) := by
  unfold fX7_findBest at hf
  refine zz_method RX7 rfl (by decide +kernel) (Nat.le_of_ble_eq_true rfl) ?_
  intro p l e s m args below meth c A _ C
  refine zz_lvs (lv1 := [(0, .ref (ad 0))]) rfl ?_
  refine zz_aload_n C 0 dX7_findBest_0 rfl rfl ?_
  obtain ⟨x1, h2, hf⟩ := zz_bind hf
  refine zz_callV1 (As := []) (rest := []) C 0 (mX7_putTogether σ x1 h2) dX7_findBest_1 rfl rfl rfl zw_99 zy_X7_putTogether rfl (by decide) (by decide) (Nat.le_of_ble_eq_true rfl) (Nat.le_of_ble_eq_true rfl) (Nat.le_of_ble_eq_true rfl) rfl ?_
  refine zz_aload_n C 0 dX7_findBest_4 rfl rfl ?_
  refine zf7_parcels C dX7_findBest_5 zw_95 ?_
  refine zf4_count C dX7_findBest_8 zw_108 ?_
  refine zz_bipush (v := (9 : Int32)) C dX7_findBest_11 (by decide) ?_
  refine zz_icmp_le (tgt := 27) C dX7_findBest_13 (by decide) (fun g3 => ?_) (fun g3 => ?_)
  · rw [if_pos g3] at hf
    obtain ⟨x4, h5, hf⟩ := zz_bind hf
    refine zz_cut 58 [(0, .ref (ad 0))] [] (zz_wc U ad x4 X) ?_ (fun J6 => ?_)
    · cases hf
      exact zz_vret C dX7_findBest_58 (And.intro rfl rfl) (Nat.le_of_ble_eq_true rfl) (Nat.le_of_ble_eq_true rfl)
    refine zz_aload_n C 0 dX7_findBest_27 rfl rfl ?_
    refine zf7_isBestKnown C dX7_findBest_28 zw_1 ?_
    refine zz_if_ne (tgt := 58) C dX7_findBest_31 (by decide) (fun g7 => ?_) (fun g7 => ?_)
    · rw [if_neg g7] at h5
      cases h5
      exact J6
    · rw [if_pos g7] at h5
      refine zz_aload_n C 0 dX7_findBest_34 rfl rfl ?_
      refine zf7_bestOrder C dX7_findBest_35 zw_132 ?_
      refine zz_aload_n C 0 dX7_findBest_38 rfl rfl ?_
      refine zf7_parcels C dX7_findBest_39 zw_95 ?_
      refine zz_aload_n C 0 dX7_findBest_42 rfl rfl ?_
      refine zf7_pieces C dX7_findBest_43 zw_10 ?_
      refine zz_aload_n C 0 dX7_findBest_46 rfl rfl ?_
      refine zf7_code C dX7_findBest_47 zw_24 ?_
      obtain ⟨x8, h9, h5⟩ := zz_bind h5
      refine zz_callV1 (As := [.ref (ad 41), .ref (ad 1), .ref (ad 17)]) (rest := []) C 44 (mX0_find x1 x8 h9) dX7_findBest_50 rfl rfl rfl zw_131 zy_X0_find rfl (by decide) (by decide) (Nat.le_of_ble_eq_true rfl) (Nat.le_of_ble_eq_true rfl) (Nat.le_of_ble_eq_true rfl) rfl ?_
      refine zz_aload_n C 0 dX7_findBest_53 rfl rfl ?_
      refine zz_iconst (v := (1 : Int32)) C dX7_findBest_54 (by decide) ?_
      refine zp7_isBestKnown C dX7_findBest_55 zw_1 (Or.inr rfl) ?_
      cases h5
      exact J6
  · rw [if_neg g3] at hf
    cases hf
    exact zz_throwSW (cls := "java/lang/IllegalStateException") (text := "too many parcels") C zt_1 (by decide +kernel) dX7_findBest_16 dX7_findBest_19 dX7_findBest_20 dX7_findBest_23 dX7_findBest_26 (by decide) (Nat.le_of_ble_eq_true rfl) (Nat.le_of_ble_eq_true rfl) (Nat.le_of_ble_eq_true rfl) (Nat.le_of_ble_eq_true rfl) (Nat.le_of_ble_eq_true rfl) (And.intro rfl rfl)
theorem mX7_findBest_r {D : va_G} {U : zz_U} {ad : Nat → Nat} {X : va_W} (σ : zz_St) (x : Unit) (σ1 : zz_St) (hf : fX7_findBest σ = some (.inl x, σ1)) : zz_Met yX7_findBest (.code yX7_findBest cX7_findBest 1 none) 6 1 6 D U [.ref (ad 0)] (zz_wc U ad σ X) (zz_ok none (zz_wc U ad σ1 X)) zz_noth := mX7_findBest σ (.inl x, σ1) hf
theorem mX7_findBest_x {D : va_G} {U : zz_U} {ad : Nat → Nat} {X : va_W} (σ : zz_St) (x : String) (σ1 : zz_St) (hf : fX7_findBest σ = some (.inr x, σ1)) : zz_Met yX7_findBest (.code yX7_findBest cX7_findBest 1 none) 6 1 6 D U [.ref (ad 0)] (zz_wc U ad σ X) zz_none (zz_th x (zz_wc U ad σ1 X)) := mX7_findBest σ (.inr x, σ1) hf
theorem dX7_leastBreakage_0 : decode cX7_leastBreakage 0 = .ok (.aload_n 0, 1) := by decide +kernel
theorem dX7_leastBreakage_1 : decode cX7_leastBreakage 1 = .ok (.invokevirtual 230, 3) := by decide +kernel
theorem dX7_leastBreakage_4 : decode cX7_leastBreakage 4 = .ok (.aload_n 0, 1) := by decide +kernel
theorem dX7_leastBreakage_5 : decode cX7_leastBreakage 5 = .ok (.getfield 54, 3) := by decide +kernel
theorem dX7_leastBreakage_8 : decode cX7_leastBreakage 8 = .ok (.getfield 233, 3) := by decide +kernel
theorem dX7_leastBreakage_11 : decode cX7_leastBreakage 11 = .ok (.ireturn, 1) := by decide +kernel
set_option maxHeartbeats 4000000 in
set_option maxRecDepth 100000 in
theorem mX7_leastBreakage {D : va_G} {U : zz_U} {ad : Nat → Nat} {X : va_W} (σ : zz_St) (r : ((Int32 ⊕ String) × zz_St)) (hf : fX7_leastBreakage σ = some r) : zz_Met yX7_leastBreakage (.code yX7_leastBreakage cX7_leastBreakage 1 (some .int)) 7 1 6 D U [.ref (ad 0)] (zz_wc U ad σ X) (match r.1 with | .inl x => zz_ok (some (.int x)) (zz_wc U ad r.2 X) | .inr _ => zz_none) (match r.1 with | .inl _ => zz_noth | .inr E => zz_th E (zz_wc U ad r.2 X)) := by
  unfold fX7_leastBreakage at hf
  refine zz_method RX7 rfl (by decide +kernel) (Nat.le_of_ble_eq_true rfl) ?_
  intro p l e s m args below meth c A _ C
  refine zz_lvs (lv1 := [(0, .ref (ad 0))]) rfl ?_
  refine zz_aload_n C 0 dX7_leastBreakage_0 rfl rfl ?_
  obtain ⟨⟨x1, σ4⟩, h2, hf⟩ := zz_bind hf
  rcases x1 with x1 | E3
  · try dsimp only at hf
    refine zz_callV1 (As := []) (rest := []) C 0 (mX7_findBest_r σ x1 σ4 h2) dX7_leastBreakage_1 rfl rfl rfl zw_134 zy_X7_findBest rfl (by decide) (by decide) (Nat.le_of_ble_eq_true rfl) (Nat.le_of_ble_eq_true rfl) (Nat.le_of_ble_eq_true rfl) rfl ?_
    refine zz_aload_n C 0 dX7_leastBreakage_4 rfl rfl ?_
    refine zf7_bestOrder C dX7_leastBreakage_5 zw_132 ?_
    refine zf0_least C dX7_leastBreakage_8 zw_133 ?_
    cases hf
    exact zz_iret C dX7_leastBreakage_11 (And.intro rfl rfl) (Nat.le_of_ble_eq_true rfl) (Nat.le_of_ble_eq_true rfl)
  · refine zz_callVx (As := []) (rest := []) C 0 (mX7_findBest_x σ E3 σ4 h2) dX7_leastBreakage_1 rfl rfl rfl zw_134 zy_X7_findBest rfl (by decide) (by decide) (Nat.le_of_ble_eq_true rfl) (Nat.le_of_ble_eq_true rfl) (Nat.le_of_ble_eq_true rfl) ?_
    cases hf
    exact zz_out C (And.intro rfl rfl) (Nat.le_of_ble_eq_true rfl) (Nat.le_of_ble_eq_true rfl)
theorem mX7_leastBreakage_r {D : va_G} {U : zz_U} {ad : Nat → Nat} {X : va_W} (σ : zz_St) (x : Int32) (σ1 : zz_St) (hf : fX7_leastBreakage σ = some (.inl x, σ1)) : zz_Met yX7_leastBreakage (.code yX7_leastBreakage cX7_leastBreakage 1 (some .int)) 7 1 6 D U [.ref (ad 0)] (zz_wc U ad σ X) (zz_ok (some (.int x)) (zz_wc U ad σ1 X)) zz_noth := mX7_leastBreakage σ (.inl x, σ1) hf
theorem mX7_leastBreakage_x {D : va_G} {U : zz_U} {ad : Nat → Nat} {X : va_W} (σ : zz_St) (x : String) (σ1 : zz_St) (hf : fX7_leastBreakage σ = some (.inr x, σ1)) : zz_Met yX7_leastBreakage (.code yX7_leastBreakage cX7_leastBreakage 1 (some .int)) 7 1 6 D U [.ref (ad 0)] (zz_wc U ad σ X) zz_none (zz_th x (zz_wc U ad σ1 X)) := mX7_leastBreakage σ (.inr x, σ1) hf
theorem dX7_best_0 : decode cX7_best 0 = .ok (.aload_n 0, 1) := by decide +kernel
theorem dX7_best_1 : decode cX7_best 1 = .ok (.invokevirtual 230, 3) := by decide +kernel
theorem dX7_best_4 : decode cX7_best 4 = .ok (.iload_n 1, 1) := by decide +kernel
theorem dX7_best_5 : decode cX7_best 5 = .ok (.ifCond .lt 14, 3) := by decide +kernel
theorem dX7_best_8 : decode cX7_best 8 = .ok (.iload_n 1, 1) := by decide +kernel
theorem dX7_best_9 : decode cX7_best 9 = .ok (.aload_n 0, 1) := by decide +kernel
theorem dX7_best_10 : decode cX7_best 10 = .ok (.getfield 54, 3) := by decide +kernel
theorem dX7_best_13 : decode cX7_best 13 = .ok (.getfield 236, 3) := by decide +kernel
theorem dX7_best_16 : decode cX7_best 16 = .ok (.if_icmp .lt 13, 3) := by decide +kernel
theorem dX7_best_19 : decode cX7_best 19 = .ok (.new 102, 3) := by decide +kernel
theorem dX7_best_22 : decode cX7_best 22 = .ok (.dup, 1) := by decide +kernel
theorem dX7_best_23 : decode cX7_best 23 = .ok (.ldc 239, 2) := by decide +kernel
theorem dX7_best_25 : decode cX7_best 25 = .ok (.invokespecial 106, 3) := by decide +kernel
theorem dX7_best_28 : decode cX7_best 28 = .ok (.athrow, 1) := by decide +kernel
theorem dX7_best_29 : decode cX7_best 29 = .ok (.aload_n 0, 1) := by decide +kernel
theorem dX7_best_30 : decode cX7_best 30 = .ok (.getfield 54, 3) := by decide +kernel
theorem dX7_best_33 : decode cX7_best 33 = .ok (.getfield 241, 3) := by decide +kernel
theorem dX7_best_36 : decode cX7_best 36 = .ok (.iload_n 1, 1) := by decide +kernel
theorem dX7_best_37 : decode cX7_best 37 = .ok (.iaload, 1) := by decide +kernel
theorem dX7_best_38 : decode cX7_best 38 = .ok (.ireturn, 1) := by decide +kernel
set_option maxHeartbeats 4000000 in
set_option maxRecDepth 100000 in
theorem mX7_best {D : va_G} {U : zz_U} {ad : Nat → Nat} {X : va_W} (σ : zz_St) (place_ : Int32) (r : ((Int32 ⊕ String) × zz_St)) (hf : fX7_best σ place_ = some r) : zz_Met yX7_best (.code yX7_best cX7_best 2 (some .int)) 7 2 12 D U [.ref (ad 0), .int place_] (zz_wc U ad σ X) (match r.1 with | .inl x => zz_ok (some (.int x)) (zz_wc U ad r.2 X) | .inr _ => zz_none) (match r.1 with | .inl _ => zz_noth | .inr E => zz_th E (zz_wc U ad r.2 X)) := by
  unfold fX7_best at hf
  refine zz_method RX7 rfl (by decide +kernel) (Nat.le_of_ble_eq_true rfl) ?_
  intro p l e s m args below meth c A _ C
  refine zz_lvs (lv1 := [(0, .ref (ad 0)), (1, .int place_)]) rfl ?_
  refine zz_aload_n C 0 dX7_best_0 rfl rfl ?_
  obtain ⟨⟨x1, σ4⟩, h2, hf⟩ := zz_bind hf
  rcases x1 with x1 | E3
  · try dsimp only at hf
    refine zz_callV1 (As := []) (rest := []) C 0 (mX7_findBest_r σ x1 σ4 h2) dX7_best_1 rfl rfl rfl zw_134 zy_X7_findBest rfl (by decide) (by decide) (Nat.le_of_ble_eq_true rfl) (Nat.le_of_ble_eq_true rfl) (Nat.le_of_ble_eq_true rfl) rfl ?_
    obtain ⟨b5, h6, hf⟩ := zz_bind hf
    refine zz_cutI (P := b5 = true) 19 [(0, .ref (ad 0)), (1, .int place_)] [] (zz_wc U ad σ4 X) (fun g9 => ?_) (fun J7 => ?_)
    · rw [if_pos g9] at hf
      cases hf
      exact zz_throwS (cls := "java/lang/IndexOutOfBoundsException") (text := "no such place") C zt_2 (by decide +kernel) dX7_best_19 dX7_best_22 dX7_best_23 dX7_best_25 dX7_best_28 (by decide) (Nat.le_of_ble_eq_true rfl) (Nat.le_of_ble_eq_true rfl) (Nat.le_of_ble_eq_true rfl) (Nat.le_of_ble_eq_true rfl) (Nat.le_of_ble_eq_true rfl) (And.intro rfl rfl)
    refine zz_cutI (P := b5 = false) 29 [(0, .ref (ad 0)), (1, .int place_)] [] (zz_wc U ad σ4 X) (fun g9 => ?_) (fun J8 => ?_)
    · rw [if_neg (show ¬ b5 = true by rw [g9]; decide)] at hf
      refine zz_aload_n C 0 dX7_best_29 rfl rfl ?_
      refine zf7_bestOrder C dX7_best_30 zw_132 ?_
      refine zf0_order C dX7_best_33 zw_136 ?_
      refine zz_iload_n C 1 dX7_best_36 rfl rfl ?_
      obtain ⟨x12, h13, hf⟩ := zz_bind hf
      refine zl_45 C dX7_best_37 h13 ?_
      cases hf
      exact zz_iret C dX7_best_38 (And.intro rfl rfl) (Nat.le_of_ble_eq_true rfl) (Nat.le_of_ble_eq_true rfl)
    refine zz_iload_n C 1 dX7_best_4 rfl rfl ?_
    refine zz_if_lt (tgt := 19) C dX7_best_5 (by decide) (fun g10 => ?_) (fun g10 => ?_)
    · rw [if_pos g10] at h6
      cases h6
      exact J7 rfl
    · rw [if_neg g10] at h6
      refine zz_iload_n C 1 dX7_best_8 rfl rfl ?_
      refine zz_aload_n C 0 dX7_best_9 rfl rfl ?_
      refine zf7_bestOrder C dX7_best_10 zw_132 ?_
      refine zf0_length C dX7_best_13 zw_135 ?_
      refine zz_icmp_lt (tgt := 29) C dX7_best_16 (by decide) (fun g11 => ?_) (fun g11 => ?_)
      · rw [if_pos g11] at h6
        cases h6
        exact J8 rfl
      · rw [if_neg g11] at h6
        cases h6
        exact J7 rfl
  · refine zz_callVx (As := []) (rest := []) C 0 (mX7_findBest_x σ E3 σ4 h2) dX7_best_1 rfl rfl rfl zw_134 zy_X7_findBest rfl (by decide) (by decide) (Nat.le_of_ble_eq_true rfl) (Nat.le_of_ble_eq_true rfl) (Nat.le_of_ble_eq_true rfl) ?_
    cases hf
    exact zz_out C (And.intro rfl rfl) (Nat.le_of_ble_eq_true rfl) (Nat.le_of_ble_eq_true rfl)
theorem mX7_best_r {D : va_G} {U : zz_U} {ad : Nat → Nat} {X : va_W} (σ : zz_St) (place_ : Int32) (x : Int32) (σ1 : zz_St) (hf : fX7_best σ place_ = some (.inl x, σ1)) : zz_Met yX7_best (.code yX7_best cX7_best 2 (some .int)) 7 2 12 D U [.ref (ad 0), .int place_] (zz_wc U ad σ X) (zz_ok (some (.int x)) (zz_wc U ad σ1 X)) zz_noth := mX7_best σ place_ (.inl x, σ1) hf
theorem mX7_best_x {D : va_G} {U : zz_U} {ad : Nat → Nat} {X : va_W} (σ : zz_St) (place_ : Int32) (x : String) (σ1 : zz_St) (hf : fX7_best σ place_ = some (.inr x, σ1)) : zz_Met yX7_best (.code yX7_best cX7_best 2 (some .int)) 7 2 12 D U [.ref (ad 0), .int place_] (zz_wc U ad σ X) zz_none (zz_th x (zz_wc U ad σ1 X)) := mX7_best σ place_ (.inr x, σ1) hf
theorem dX7_setPurpose_0 : decode cX7_setPurpose 0 = .ok (.aload_n 0, 1) := by decide +kernel
theorem dX7_setPurpose_1 : decode cX7_setPurpose 1 = .ok (.iload_n 1, 1) := by decide +kernel
theorem dX7_setPurpose_2 : decode cX7_setPurpose 2 = .ok (.invokevirtual 136, 3) := by decide +kernel
theorem dX7_setPurpose_5 : decode cX7_setPurpose 5 = .ok (.iload_n 2, 1) := by decide +kernel
theorem dX7_setPurpose_6 : decode cX7_setPurpose 6 = .ok (.bipush 9, 2) := by decide +kernel
theorem dX7_setPurpose_8 : decode cX7_setPurpose 8 = .ok (.invokestatic 58, 3) := by decide +kernel
theorem dX7_setPurpose_11 : decode cX7_setPurpose 11 = .ok (.ifCond .ne 13, 3) := by decide +kernel
theorem dX7_setPurpose_14 : decode cX7_setPurpose 14 = .ok (.new 62, 3) := by decide +kernel
theorem dX7_setPurpose_17 : decode cX7_setPurpose 17 = .ok (.dup, 1) := by decide +kernel
theorem dX7_setPurpose_18 : decode cX7_setPurpose 18 = .ok (.ldc 244, 2) := by decide +kernel
theorem dX7_setPurpose_20 : decode cX7_setPurpose 20 = .ok (.invokespecial 66, 3) := by decide +kernel
theorem dX7_setPurpose_23 : decode cX7_setPurpose 23 = .ok (.athrow, 1) := by decide +kernel
theorem dX7_setPurpose_24 : decode cX7_setPurpose 24 = .ok (.aload_n 0, 1) := by decide +kernel
theorem dX7_setPurpose_25 : decode cX7_setPurpose 25 = .ok (.getfield 12, 3) := by decide +kernel
theorem dX7_setPurpose_28 : decode cX7_setPurpose 28 = .ok (.getfield 246, 3) := by decide +kernel
theorem dX7_setPurpose_31 : decode cX7_setPurpose 31 = .ok (.iload_n 1, 1) := by decide +kernel
theorem dX7_setPurpose_32 : decode cX7_setPurpose 32 = .ok (.iaload, 1) := by decide +kernel
theorem dX7_setPurpose_33 : decode cX7_setPurpose 33 = .ok (.istore_n 3, 1) := by decide +kernel
theorem dX7_setPurpose_34 : decode cX7_setPurpose 34 = .ok (.aload_n 0, 1) := by decide +kernel
theorem dX7_setPurpose_35 : decode cX7_setPurpose 35 = .ok (.getfield 12, 3) := by decide +kernel
theorem dX7_setPurpose_38 : decode cX7_setPurpose 38 = .ok (.getfield 246, 3) := by decide +kernel
theorem dX7_setPurpose_41 : decode cX7_setPurpose 41 = .ok (.iload_n 1, 1) := by decide +kernel
theorem dX7_setPurpose_42 : decode cX7_setPurpose 42 = .ok (.iload_n 2, 1) := by decide +kernel
theorem dX7_setPurpose_43 : decode cX7_setPurpose 43 = .ok (.iastore, 1) := by decide +kernel
theorem dX7_setPurpose_44 : decode cX7_setPurpose 44 = .ok (.iload_n 3, 1) := by decide +kernel
theorem dX7_setPurpose_45 : decode cX7_setPurpose 45 = .ok (.ireturn, 1) := by decide +kernel
set_option maxHeartbeats 4000000 in
set_option maxRecDepth 100000 in
theorem mX7_setPurpose {D : va_G} {U : zz_U} {ad : Nat → Nat} {X : va_W} (σ : zz_St) (piece_ : Int32) (purpose_ : Int32) (r : ((Int32 ⊕ String) × zz_St)) (hf : fX7_setPurpose σ piece_ purpose_ = some r) : zz_Met yX7_setPurpose (.code yX7_setPurpose cX7_setPurpose 4 (some .int)) 7 2 12 D U [.ref (ad 0), .int piece_, .int purpose_] (zz_wc U ad σ X) (match r.1 with | .inl x => zz_ok (some (.int x)) (zz_wc U ad r.2 X) | .inr _ => zz_none) (match r.1 with | .inl _ => zz_noth | .inr E => zz_th E (zz_wc U ad r.2 X)) := by
  unfold fX7_setPurpose at hf
  refine zz_method RX7 rfl (by decide +kernel) (Nat.le_of_ble_eq_true rfl) ?_
  intro p l e s m args below meth c A _ C
  refine zz_lvs (lv1 := [(0, .ref (ad 0)), (1, .int piece_), (2, .int purpose_)]) rfl ?_
  refine zz_aload_n C 0 dX7_setPurpose_0 rfl rfl ?_
  refine zz_iload_n C 1 dX7_setPurpose_1 rfl rfl ?_
  obtain ⟨x1, h2, hf⟩ := zz_bind hf
  rcases x1 with x1 | E3
  · refine zz_callV1 (As := [.int piece_]) (rest := []) C 0 (mX7_requirePiece_r σ piece_ x1 h2) dX7_setPurpose_2 rfl rfl rfl zw_14 zy_X7_requirePiece rfl (by decide) (by decide) (Nat.le_of_ble_eq_true rfl) (Nat.le_of_ble_eq_true rfl) (Nat.le_of_ble_eq_true rfl) rfl ?_
    refine zz_iload_n C 2 dX7_setPurpose_5 rfl rfl ?_
    refine zz_bipush (v := (9 : Int32)) C dX7_setPurpose_6 (by decide) ?_
    obtain ⟨x4, h5, hf⟩ := zz_bind hf
    refine zz_callS1 (As := [.int purpose_, .int (9 : Int32)]) (rest := []) C (mX7_isUpTo σ purpose_ (9 : Int32) x4 h5) dX7_setPurpose_8 rfl zw_0 zy_X7_isUpTo rfl (by decide) (by decide) (Nat.le_of_ble_eq_true rfl) (Nat.le_of_ble_eq_true rfl) (Nat.le_of_ble_eq_true rfl) rfl ?_
    refine zz_if_ne (tgt := 24) C dX7_setPurpose_11 (by decide) (fun g6 => ?_) (fun g6 => ?_)
    · rw [if_neg g6] at hf
      refine zz_aload_n C 0 dX7_setPurpose_24 rfl rfl ?_
      refine zf7_pieces C dX7_setPurpose_25 zw_10 ?_
      refine zf5_purposes C dX7_setPurpose_28 zw_137 ?_
      refine zz_iload_n C 1 dX7_setPurpose_31 rfl rfl ?_
      obtain ⟨x7, h8, hf⟩ := zz_bind hf
      refine zl_6 C dX7_setPurpose_32 h8 ?_
      refine zz_istore_n C dX7_setPurpose_33 rfl (by decide) (lv' := [(3, .int x7), (0, .ref (ad 0)), (1, .int piece_), (2, .int purpose_)]) rfl ?_
      refine zz_aload_n C 1 dX7_setPurpose_34 rfl rfl ?_
      refine zf7_pieces C dX7_setPurpose_35 zw_10 ?_
      refine zf5_purposes C dX7_setPurpose_38 zw_137 ?_
      refine zz_iload_n C 2 dX7_setPurpose_41 rfl rfl ?_
      refine zz_iload_n C 3 dX7_setPurpose_42 rfl rfl ?_
      obtain ⟨σ9, h10, hf⟩ := zz_bind hf
      refine zs_6 C dX7_setPurpose_43 h10 ?_
      refine zz_iload_n C 0 dX7_setPurpose_44 rfl rfl ?_
      cases hf
      exact zz_iret C dX7_setPurpose_45 (And.intro rfl rfl) (Nat.le_of_ble_eq_true rfl) (Nat.le_of_ble_eq_true rfl)
    · rw [if_pos g6] at hf
      cases hf
      exact zz_throwS (cls := "java/lang/IllegalArgumentException") (text := "no such purpose") C zt_0 (by decide +kernel) dX7_setPurpose_14 dX7_setPurpose_17 dX7_setPurpose_18 dX7_setPurpose_20 dX7_setPurpose_23 (by decide) (Nat.le_of_ble_eq_true rfl) (Nat.le_of_ble_eq_true rfl) (Nat.le_of_ble_eq_true rfl) (Nat.le_of_ble_eq_true rfl) (Nat.le_of_ble_eq_true rfl) (And.intro rfl rfl)
  · refine zz_callVx (As := [.int piece_]) (rest := []) C 0 (mX7_requirePiece_x σ piece_ E3 h2) dX7_setPurpose_2 rfl rfl rfl zw_14 zy_X7_requirePiece rfl (by decide) (by decide) (Nat.le_of_ble_eq_true rfl) (Nat.le_of_ble_eq_true rfl) (Nat.le_of_ble_eq_true rfl) ?_
    cases hf
    exact zz_out C (And.intro rfl rfl) (Nat.le_of_ble_eq_true rfl) (Nat.le_of_ble_eq_true rfl)
theorem mX7_setPurpose_r {D : va_G} {U : zz_U} {ad : Nat → Nat} {X : va_W} (σ : zz_St) (piece_ : Int32) (purpose_ : Int32) (x : Int32) (σ1 : zz_St) (hf : fX7_setPurpose σ piece_ purpose_ = some (.inl x, σ1)) : zz_Met yX7_setPurpose (.code yX7_setPurpose cX7_setPurpose 4 (some .int)) 7 2 12 D U [.ref (ad 0), .int piece_, .int purpose_] (zz_wc U ad σ X) (zz_ok (some (.int x)) (zz_wc U ad σ1 X)) zz_noth := mX7_setPurpose σ piece_ purpose_ (.inl x, σ1) hf
theorem mX7_setPurpose_x {D : va_G} {U : zz_U} {ad : Nat → Nat} {X : va_W} (σ : zz_St) (piece_ : Int32) (purpose_ : Int32) (x : String) (σ1 : zz_St) (hf : fX7_setPurpose σ piece_ purpose_ = some (.inr x, σ1)) : zz_Met yX7_setPurpose (.code yX7_setPurpose cX7_setPurpose 4 (some .int)) 7 2 12 D U [.ref (ad 0), .int piece_, .int purpose_] (zz_wc U ad σ X) zz_none (zz_th x (zz_wc U ad σ1 X)) := mX7_setPurpose σ piece_ purpose_ (.inr x, σ1) hf
theorem dX3_isTogether_0 : decode cX3_isTogether 0 = .ok (.iload_n 1, 1) := by decide +kernel
theorem dX3_isTogether_1 : decode cX3_isTogether 1 = .ok (.aload_n 0, 1) := by decide +kernel
theorem dX3_isTogether_2 : decode cX3_isTogether 2 = .ok (.getfield 18, 3) := by decide +kernel
theorem dX3_isTogether_5 : decode cX3_isTogether 5 = .ok (.aload_n 0, 1) := by decide +kernel
theorem dX3_isTogether_6 : decode cX3_isTogether 6 = .ok (.getfield 49, 3) := by decide +kernel
theorem dX3_isTogether_9 : decode cX3_isTogether 9 = .ok (.invokestatic 85, 3) := by decide +kernel
theorem dX3_isTogether_12 : decode cX3_isTogether 12 = .ok (.iload_n 2, 1) := by decide +kernel
theorem dX3_isTogether_13 : decode cX3_isTogether 13 = .ok (.aload_n 0, 1) := by decide +kernel
theorem dX3_isTogether_14 : decode cX3_isTogether 14 = .ok (.getfield 18, 3) := by decide +kernel
theorem dX3_isTogether_17 : decode cX3_isTogether 17 = .ok (.aload_n 0, 1) := by decide +kernel
theorem dX3_isTogether_18 : decode cX3_isTogether 18 = .ok (.getfield 49, 3) := by decide +kernel
theorem dX3_isTogether_21 : decode cX3_isTogether 21 = .ok (.invokestatic 85, 3) := by decide +kernel
theorem dX3_isTogether_24 : decode cX3_isTogether 24 = .ok (.if_icmp .ne 7, 3) := by decide +kernel
theorem dX3_isTogether_27 : decode cX3_isTogether 27 = .ok (.iconst 1, 1) := by decide +kernel
theorem dX3_isTogether_28 : decode cX3_isTogether 28 = .ok (.goto 4, 3) := by decide +kernel
theorem dX3_isTogether_31 : decode cX3_isTogether 31 = .ok (.iconst 0, 1) := by decide +kernel
theorem dX3_isTogether_32 : decode cX3_isTogether 32 = .ok (.ireturn, 1) := by decide +kernel
set_option maxHeartbeats 4000000 in
set_option maxRecDepth 100000 in
theorem mX3_isTogether {D : va_G} {U : zz_U} {ad : Nat → Nat} {X : va_W} (σ : zz_St) (a_ : Int32) (b_ : Int32) (r : Int32) (hf : fX3_isTogether σ a_ b_ = some r) : zz_Met yX3_isTogether (.code yX3_isTogether cX3_isTogether 3 (some .boolean)) 2 0 0 D U [.ref (ad 24), .int a_, .int b_] (zz_wc U ad σ X) (zz_ok (some (.int r)) (zz_wc U ad σ X)) zz_noth := by
  unfold fX3_isTogether at hf
  refine zz_method RX3 rfl (by decide +kernel) (Nat.le_of_ble_eq_true rfl) ?_
  intro p l e s m args below meth c A _ C
  refine zz_lvs (lv1 := [(0, .ref (ad 24)), (1, .int a_), (2, .int b_)]) rfl ?_
  obtain ⟨b1, h2, hf⟩ := zz_bind hf
  refine zz_cut 32 [(0, .ref (ad 24)), (1, .int a_), (2, .int b_)] [.int (zz_bi b1)] (zz_wc U ad σ X) ?_ (fun J3 => ?_)
  · cases hf
    exact zz_zret C dX3_isTogether_32 (zz_bi01 _) (And.intro rfl rfl) (Nat.le_of_ble_eq_true rfl) (Nat.le_of_ble_eq_true rfl)
  refine zz_iload_n C 1 dX3_isTogether_0 rfl rfl ?_
  refine zz_aload_n C 0 dX3_isTogether_1 rfl rfl ?_
  refine zf3_sets C dX3_isTogether_2 zw_65 ?_
  refine zz_aload_n C 0 dX3_isTogether_5 rfl rfl ?_
  refine zf3_count C dX3_isTogether_6 zw_64 ?_
  obtain ⟨x4, h5, h2⟩ := zz_bind h2
  refine zz_callSN1 (host := "ChangeUntangler") (As := [.int a_, .ref (ad 25), .int (σ 24 2)]) (rest := []) C (mX7_placeOf_a25 σ a_ (σ 24 2) x4 h5) dX3_isTogether_9 rfl (by decide +kernel) zy_X7_placeOf rfl (by decide) (by decide) (Nat.le_of_ble_eq_true rfl) (Nat.le_of_ble_eq_true rfl) (Nat.le_of_ble_eq_true rfl) rfl ?_
  refine zz_iload_n C 2 dX3_isTogether_12 rfl rfl ?_
  refine zz_aload_n C 0 dX3_isTogether_13 rfl rfl ?_
  refine zf3_sets C dX3_isTogether_14 zw_65 ?_
  refine zz_aload_n C 0 dX3_isTogether_17 rfl rfl ?_
  refine zf3_count C dX3_isTogether_18 zw_64 ?_
  obtain ⟨x6, h7, h2⟩ := zz_bind h2
  refine zz_callSN1 (host := "ChangeUntangler") (As := [.int b_, .ref (ad 25), .int (σ 24 2)]) (rest := [.int x4]) C (mX7_placeOf_a25 σ b_ (σ 24 2) x6 h7) dX3_isTogether_21 rfl (by decide +kernel) zy_X7_placeOf rfl (by decide) (by decide) (Nat.le_of_ble_eq_true rfl) (Nat.le_of_ble_eq_true rfl) (Nat.le_of_ble_eq_true rfl) rfl ?_
  refine zz_icmp_ne (tgt := 31) C dX3_isTogether_24 (by decide) (fun g8 => ?_) (fun g8 => ?_)
  · rw [if_neg g8] at h2
    refine zz_iconst (v := 0) C dX3_isTogether_31 (by decide) ?_
    cases h2
    exact J3
  · rw [if_pos g8] at h2
    refine zz_iconst (v := 1) C dX3_isTogether_27 (by decide) ?_
    refine zz_goto (tgt := 32) C dX3_isTogether_28 (by decide) ?_
    cases h2
    exact J3
theorem dX7_agreement_0 : decode cX7_agreement 0 = .ok (.aload_n 0, 1) := by decide +kernel
theorem dX7_agreement_1 : decode cX7_agreement 1 = .ok (.invokevirtual 176, 3) := by decide +kernel
theorem dX7_agreement_4 : decode cX7_agreement 4 = .ok (.iconst 0, 1) := by decide +kernel
theorem dX7_agreement_5 : decode cX7_agreement 5 = .ok (.istore_n 1, 1) := by decide +kernel
theorem dX7_agreement_6 : decode cX7_agreement 6 = .ok (.iconst 0, 1) := by decide +kernel
theorem dX7_agreement_7 : decode cX7_agreement 7 = .ok (.istore_n 2, 1) := by decide +kernel
theorem dX7_agreement_8 : decode cX7_agreement 8 = .ok (.iconst 1, 1) := by decide +kernel
theorem dX7_agreement_9 : decode cX7_agreement 9 = .ok (.istore_n 3, 1) := by decide +kernel
theorem dX7_agreement_10 : decode cX7_agreement 10 = .ok (.iload_n 3, 1) := by decide +kernel
theorem dX7_agreement_11 : decode cX7_agreement 11 = .ok (.aload_n 0, 1) := by decide +kernel
theorem dX7_agreement_12 : decode cX7_agreement 12 = .ok (.getfield 12, 3) := by decide +kernel
theorem dX7_agreement_15 : decode cX7_agreement 15 = .ok (.getfield 71, 3) := by decide +kernel
theorem dX7_agreement_18 : decode cX7_agreement 18 = .ok (.if_icmp .ge 74, 3) := by decide +kernel
theorem dX7_agreement_21 : decode cX7_agreement 21 = .ok (.iconst 0, 1) := by decide +kernel
theorem dX7_agreement_22 : decode cX7_agreement 22 = .ok (.istore 4, 2) := by decide +kernel
theorem dX7_agreement_24 : decode cX7_agreement 24 = .ok (.iload 4, 2) := by decide +kernel
theorem dX7_agreement_26 : decode cX7_agreement 26 = .ok (.iload_n 3, 1) := by decide +kernel
theorem dX7_agreement_27 : decode cX7_agreement 27 = .ok (.if_icmp .ge 59, 3) := by decide +kernel
theorem dX7_agreement_30 : decode cX7_agreement 30 = .ok (.aload_n 0, 1) := by decide +kernel
theorem dX7_agreement_31 : decode cX7_agreement 31 = .ok (.getfield 12, 3) := by decide +kernel
theorem dX7_agreement_34 : decode cX7_agreement 34 = .ok (.getfield 246, 3) := by decide +kernel
theorem dX7_agreement_37 : decode cX7_agreement 37 = .ok (.iload 4, 2) := by decide +kernel
theorem dX7_agreement_39 : decode cX7_agreement 39 = .ok (.iaload, 1) := by decide +kernel
theorem dX7_agreement_40 : decode cX7_agreement 40 = .ok (.aload_n 0, 1) := by decide +kernel
theorem dX7_agreement_41 : decode cX7_agreement 41 = .ok (.getfield 12, 3) := by decide +kernel
theorem dX7_agreement_44 : decode cX7_agreement 44 = .ok (.getfield 246, 3) := by decide +kernel
theorem dX7_agreement_47 : decode cX7_agreement 47 = .ok (.iload_n 3, 1) := by decide +kernel
theorem dX7_agreement_48 : decode cX7_agreement 48 = .ok (.iaload, 1) := by decide +kernel
theorem dX7_agreement_49 : decode cX7_agreement 49 = .ok (.if_icmp .ne 7, 3) := by decide +kernel
theorem dX7_agreement_52 : decode cX7_agreement 52 = .ok (.iconst 1, 1) := by decide +kernel
theorem dX7_agreement_53 : decode cX7_agreement 53 = .ok (.goto 4, 3) := by decide +kernel
theorem dX7_agreement_56 : decode cX7_agreement 56 = .ok (.iconst 0, 1) := by decide +kernel
theorem dX7_agreement_57 : decode cX7_agreement 57 = .ok (.istore 5, 2) := by decide +kernel
theorem dX7_agreement_59 : decode cX7_agreement 59 = .ok (.iinc 1 1, 3) := by decide +kernel
theorem dX7_agreement_62 : decode cX7_agreement 62 = .ok (.iload 5, 2) := by decide +kernel
theorem dX7_agreement_64 : decode cX7_agreement 64 = .ok (.aload_n 0, 1) := by decide +kernel
theorem dX7_agreement_65 : decode cX7_agreement 65 = .ok (.getfield 40, 3) := by decide +kernel
theorem dX7_agreement_68 : decode cX7_agreement 68 = .ok (.iload 4, 2) := by decide +kernel
theorem dX7_agreement_70 : decode cX7_agreement 70 = .ok (.iload_n 3, 1) := by decide +kernel
theorem dX7_agreement_71 : decode cX7_agreement 71 = .ok (.invokevirtual 249, 3) := by decide +kernel
theorem dX7_agreement_74 : decode cX7_agreement 74 = .ok (.if_icmp .ne 6, 3) := by decide +kernel
theorem dX7_agreement_77 : decode cX7_agreement 77 = .ok (.iinc 2 1, 3) := by decide +kernel
theorem dX7_agreement_80 : decode cX7_agreement 80 = .ok (.iinc 4 1, 3) := by decide +kernel
theorem dX7_agreement_83 : decode cX7_agreement 83 = .ok (.goto (-59), 3) := by decide +kernel
theorem dX7_agreement_86 : decode cX7_agreement 86 = .ok (.iinc 3 1, 3) := by decide +kernel
theorem dX7_agreement_89 : decode cX7_agreement 89 = .ok (.goto (-79), 3) := by decide +kernel
theorem dX7_agreement_92 : decode cX7_agreement 92 = .ok (.iload_n 1, 1) := by decide +kernel
theorem dX7_agreement_93 : decode cX7_agreement 93 = .ok (.ifCond .ne 7, 3) := by decide +kernel
theorem dX7_agreement_96 : decode cX7_agreement 96 = .ok (.dconst 1, 1) := by decide +kernel
theorem dX7_agreement_97 : decode cX7_agreement 97 = .ok (.goto 8, 3) := by decide +kernel
theorem dX7_agreement_100 : decode cX7_agreement 100 = .ok (.iload_n 2, 1) := by decide +kernel
theorem dX7_agreement_101 : decode cX7_agreement 101 = .ok (.i2d, 1) := by decide +kernel
theorem dX7_agreement_102 : decode cX7_agreement 102 = .ok (.iload_n 1, 1) := by decide +kernel
theorem dX7_agreement_103 : decode cX7_agreement 103 = .ok (.i2d, 1) := by decide +kernel
theorem dX7_agreement_104 : decode cX7_agreement 104 = .ok (.ddiv, 1) := by decide +kernel
theorem dX7_agreement_105 : decode cX7_agreement 105 = .ok (.dreturn, 1) := by decide +kernel
set_option maxHeartbeats 4000000 in
set_option maxRecDepth 100000 in
theorem mX7_agreement_L2 {p : Program} {l : Launch} {e : Env} {R : Room} {s : State} {m : MethodId} {args : Array Value} {below : List Frame} {meth : Method} {c : Code} {Q : State → Prop} {D : va_G} {U : zz_U} {A : Nat → Prop} {cells slots : Nat} {ad : Nat → Nat} {X : va_W} (C : zz_C p l R s m meth c D U A RX7 cX7_agreement 6 (some .double) [] 6) (hcR : cells ≤ R.cells) (hsR : slots ≤ R.slots) (σ : zz_St) (b_ : Int32) : ∀ (n : Nat) (pairs_ : Int32) (agreed_ : Int32) (a_ : Int32) (q : (Int32 × Int32 × Int32)), fX7_agreement_L2 σ b_ n pairs_ agreed_ a_ = some q → (zz_Z p l e R s m args below meth c Q D A 6 cells slots (zz_wc U ad σ X) 86 [(0, .ref (ad 0)), (1, .int q.1), (2, .int q.2.1), (3, .int b_), (4, .int q.2.2)] []) → zz_Z p l e R s m args below meth c Q D A 6 cells slots (zz_wc U ad σ X) 24 [(0, .ref (ad 0)), (1, .int pairs_), (2, .int agreed_), (3, .int b_), (4, .int a_)] [] := by
  intro n
  induction n with
  | zero => intro pairs_ agreed_ a_ q hf; rw [fX7_agreement_L2] at hf; cases hf
  | succ n ih =>
    intro pairs_ agreed_ a_ q hf kx
    rw [fX7_agreement_L2] at hf
    refine zz_iload C 4 dX7_agreement_24 rfl ?_
    refine zz_iload_n C 3 dX7_agreement_26 rfl rfl ?_
    refine zz_icmp_ge (tgt := 86) C dX7_agreement_27 (by decide) (fun g4 => ?_) (fun g4 => ?_)
    · rw [if_pos g4] at hf
      cases hf
      exact kx
    · rw [if_neg g4] at hf
      obtain ⟨b5, h6, hf⟩ := zz_bind hf
      refine zz_cut 57 [(0, .ref (ad 0)), (1, .int pairs_), (2, .int agreed_), (3, .int b_), (4, .int a_)] [.int (zz_bi b5)] (zz_wc U ad σ X) ?_ (fun J7 => ?_)
      · obtain ⟨x13, h14, hf⟩ := zz_bind hf
        refine zz_topi (Option.some.inj h14) ?_
        refine zz_istore C dX7_agreement_57 (by decide) (lv' := [(5, .int x13), (0, .ref (ad 0)), (1, .int pairs_), (2, .int agreed_), (3, .int b_), (4, .int a_)]) rfl ?_
        refine zz_iinc (v := (pairs_ + (1 : Int32))) C 2 dX7_agreement_59 rfl (by rfl) (by decide) (lv' := [(1, .int (pairs_ + (1 : Int32))), (5, .int x13), (0, .ref (ad 0)), (2, .int agreed_), (3, .int b_), (4, .int a_)]) rfl ?_
        obtain ⟨x15, h16, hf⟩ := zz_bind hf
        refine zz_cut 80 [(0, .ref (ad 0)), (1, .int (pairs_ + (1 : Int32))), (2, .int x15), (3, .int b_), (4, .int a_), (5, .int x13)] [] (zz_wc U ad σ X) ?_ (fun J17 => ?_)
        · refine zz_iinc (v := (a_ + (1 : Int32))) C 4 dX7_agreement_80 rfl (by rfl) (by decide) (lv' := [(4, .int (a_ + (1 : Int32))), (0, .ref (ad 0)), (1, .int (pairs_ + (1 : Int32))), (2, .int x15), (3, .int b_), (5, .int x13)]) rfl ?_
          refine zz_goto (tgt := 24) C dX7_agreement_83 (by decide) ?_
          refine zz_sub [1, 2, 3, 4, 0] rfl ?_
          exact ih (pairs_ + (1 : Int32)) x15 (a_ + (1 : Int32)) _ hf kx
        refine zz_iload C 1 dX7_agreement_62 rfl ?_
        refine zz_aload_n C 2 dX7_agreement_64 rfl rfl ?_
        refine zf7_groups C dX7_agreement_65 zw_55 ?_
        refine zz_iload C 5 dX7_agreement_68 rfl ?_
        refine zz_iload_n C 4 dX7_agreement_70 rfl rfl ?_
        obtain ⟨x18, h19, h16⟩ := zz_bind h16
        refine zz_callV1 (As := [.int a_, .int b_]) (rest := [.int x13]) C 24 (mX3_isTogether σ a_ b_ x18 h19) dX7_agreement_71 rfl rfl rfl zw_138 zy_X3_isTogether rfl (by decide) (by decide) (Nat.le_of_ble_eq_true rfl) hcR hsR rfl ?_
        refine zz_icmp_ne (tgt := 80) C dX7_agreement_74 (by decide) (fun g20 => ?_) (fun g20 => ?_)
        · rw [if_neg g20] at h16
          refine zz_sub [2, 0, 3, 4, 5, 1] rfl ?_
          cases h16
          exact J17
        · rw [if_pos g20] at h16
          refine zz_iinc (v := (agreed_ + (1 : Int32))) C 3 dX7_agreement_77 rfl (by rfl) (by decide) (lv' := [(2, .int (agreed_ + (1 : Int32))), (1, .int (pairs_ + (1 : Int32))), (5, .int x13), (0, .ref (ad 0)), (3, .int b_), (4, .int a_)]) rfl ?_
          refine zz_sub [3, 1, 0, 4, 5, 2] rfl ?_
          cases h16
          exact J17
      refine zz_aload_n C 0 dX7_agreement_30 rfl rfl ?_
      refine zf7_pieces C dX7_agreement_31 zw_10 ?_
      refine zf5_purposes C dX7_agreement_34 zw_137 ?_
      refine zz_iload C 4 dX7_agreement_37 rfl ?_
      obtain ⟨x8, h9, h6⟩ := zz_bind h6
      refine zl_6 C dX7_agreement_39 h9 ?_
      refine zz_aload_n C 0 dX7_agreement_40 rfl rfl ?_
      refine zf7_pieces C dX7_agreement_41 zw_10 ?_
      refine zf5_purposes C dX7_agreement_44 zw_137 ?_
      refine zz_iload_n C 3 dX7_agreement_47 rfl rfl ?_
      obtain ⟨x10, h11, h6⟩ := zz_bind h6
      refine zl_6 C dX7_agreement_48 h11 ?_
      refine zz_icmp_ne (tgt := 56) C dX7_agreement_49 (by decide) (fun g12 => ?_) (fun g12 => ?_)
      · rw [if_neg g12] at h6
        refine zz_iconst (v := 0) C dX7_agreement_56 (by decide) ?_
        cases h6
        exact J7
      · rw [if_pos g12] at h6
        refine zz_iconst (v := 1) C dX7_agreement_52 (by decide) ?_
        refine zz_goto (tgt := 57) C dX7_agreement_53 (by decide) ?_
        cases h6
        exact J7
set_option maxHeartbeats 4000000 in
set_option maxRecDepth 100000 in
theorem mX7_agreement_L1 {p : Program} {l : Launch} {e : Env} {R : Room} {s : State} {m : MethodId} {args : Array Value} {below : List Frame} {meth : Method} {c : Code} {Q : State → Prop} {D : va_G} {U : zz_U} {A : Nat → Prop} {cells slots : Nat} {ad : Nat → Nat} {X : va_W} (C : zz_C p l R s m meth c D U A RX7 cX7_agreement 6 (some .double) [] 6) (hcR : cells ≤ R.cells) (hsR : slots ≤ R.slots) (σ : zz_St) : ∀ (n : Nat) (pairs_ : Int32) (agreed_ : Int32) (b_ : Int32) (q : (Int32 × Int32 × Int32)), fX7_agreement_L1 σ n pairs_ agreed_ b_ = some q → (zz_Z p l e R s m args below meth c Q D A 6 cells slots (zz_wc U ad σ X) 92 [(0, .ref (ad 0)), (1, .int q.1), (2, .int q.2.1), (3, .int q.2.2)] []) → zz_Z p l e R s m args below meth c Q D A 6 cells slots (zz_wc U ad σ X) 10 [(0, .ref (ad 0)), (1, .int pairs_), (2, .int agreed_), (3, .int b_)] [] := by
  intro n
  induction n with
  | zero => intro pairs_ agreed_ b_ q hf; rw [fX7_agreement_L1] at hf; cases hf
  | succ n ih =>
    intro pairs_ agreed_ b_ q hf kx
    rw [fX7_agreement_L1] at hf
    refine zz_iload_n C 3 dX7_agreement_10 rfl rfl ?_
    refine zz_aload_n C 0 dX7_agreement_11 rfl rfl ?_
    refine zf7_pieces C dX7_agreement_12 zw_10 ?_
    refine zf5_count C dX7_agreement_15 zw_12 ?_
    refine zz_icmp_ge (tgt := 92) C dX7_agreement_18 (by decide) (fun g3 => ?_) (fun g3 => ?_)
    · rw [if_pos g3] at hf
      cases hf
      exact kx
    · rw [if_neg g3] at hf
      refine zz_iconst (v := (0 : Int32)) C dX7_agreement_21 (by decide) ?_
      refine zz_istore C dX7_agreement_22 (by decide) (lv' := [(4, .int (0 : Int32)), (0, .ref (ad 0)), (1, .int pairs_), (2, .int agreed_), (3, .int b_)]) rfl ?_
      obtain ⟨q21, h22, hf⟩ := zz_bind hf
      refine zz_sub [1, 2, 3, 4, 0] rfl ?_
      refine mX7_agreement_L2 C hcR hsR σ b_ 1000 pairs_ agreed_ (0 : Int32) q21 h22 ?_
      refine zz_iinc (v := (b_ + (1 : Int32))) C 3 dX7_agreement_86 rfl (by rfl) (by decide) (lv' := [(3, .int (b_ + (1 : Int32))), (0, .ref (ad 0)), (1, .int q21.1), (2, .int q21.2.1), (4, .int q21.2.2)]) rfl ?_
      refine zz_goto (tgt := 10) C dX7_agreement_89 (by decide) ?_
      refine zz_sub [1, 2, 3, 0] rfl ?_
      exact ih q21.1 q21.2.1 (b_ + (1 : Int32)) _ hf kx
set_option maxHeartbeats 4000000 in
set_option maxRecDepth 100000 in
theorem mX7_agreement {D : va_G} {U : zz_U} {ad : Nat → Nat} {X : va_W} (σ : zz_St) (r : (UInt64 × zz_St)) (hf : fX7_agreement σ = some r) : zz_Met yX7_agreement (.code yX7_agreement cX7_agreement 6 (some .double)) 6 0 0 D U [.ref (ad 0)] (zz_wc U ad σ X) (zz_ok (some (.double r.1)) (zz_wc U ad r.2 X)) zz_noth := by
  unfold fX7_agreement at hf
  refine zz_method RX7 rfl (by decide +kernel) (Nat.le_of_ble_eq_true rfl) ?_
  intro p l e s m args below meth c A _ C
  refine zz_lvs (lv1 := [(0, .ref (ad 0))]) rfl ?_
  refine zz_aload_n C 0 dX7_agreement_0 rfl rfl ?_
  obtain ⟨x1, h2, hf⟩ := zz_bind hf
  refine zz_callV1 (As := []) (rest := []) C 0 (mX7_putTogether σ x1 h2) dX7_agreement_1 rfl rfl rfl zw_99 zy_X7_putTogether rfl (by decide) (by decide) (Nat.le_of_ble_eq_true rfl) (Nat.le_of_ble_eq_true rfl) (Nat.le_of_ble_eq_true rfl) rfl ?_
  refine zz_iconst (v := (0 : Int32)) C dX7_agreement_4 (by decide) ?_
  refine zz_istore_n C dX7_agreement_5 rfl (by decide) (lv' := [(1, .int (0 : Int32)), (0, .ref (ad 0))]) rfl ?_
  refine zz_iconst (v := (0 : Int32)) C dX7_agreement_6 (by decide) ?_
  refine zz_istore_n C dX7_agreement_7 rfl (by decide) (lv' := [(2, .int (0 : Int32)), (1, .int (0 : Int32)), (0, .ref (ad 0))]) rfl ?_
  refine zz_iconst (v := (1 : Int32)) C dX7_agreement_8 (by decide) ?_
  refine zz_istore_n C dX7_agreement_9 rfl (by decide) (lv' := [(3, .int (1 : Int32)), (2, .int (0 : Int32)), (1, .int (0 : Int32)), (0, .ref (ad 0))]) rfl ?_
  obtain ⟨q23, h24, hf⟩ := zz_bind hf
  refine zz_sub [3, 2, 1, 0] rfl ?_
  refine mX7_agreement_L1 C (Nat.le_of_ble_eq_true rfl) (Nat.le_of_ble_eq_true rfl) x1 1000 (0 : Int32) (0 : Int32) (1 : Int32) q23 h24 ?_
  obtain ⟨x25, h26, hf⟩ := zz_bind hf
  refine zz_cut 105 [(0, .ref (ad 0)), (1, .int q23.1), (2, .int q23.2.1), (3, .int q23.2.2)] [.double x25] (zz_wc U ad x1 X) ?_ (fun J27 => ?_)
  · cases hf
    exact zz_dret C dX7_agreement_105 (And.intro rfl rfl) (Nat.le_of_ble_eq_true rfl) (Nat.le_of_ble_eq_true rfl)
  refine zz_iload_n C 1 dX7_agreement_92 rfl rfl ?_
  refine zz_if_ne (tgt := 100) C dX7_agreement_93 (by decide) (fun g28 => ?_) (fun g28 => ?_)
  · rw [if_neg g28] at h26
    refine zz_iload_n C 2 dX7_agreement_100 rfl rfl ?_
    refine zz_i2d C dX7_agreement_101 ?_
    refine zz_iload_n C 1 dX7_agreement_102 rfl rfl ?_
    refine zz_i2d C dX7_agreement_103 ?_
    obtain ⟨x29, h30, h26⟩ := zz_bind h26
    refine zz_ddiv C dX7_agreement_104 (zz_dd_in h30).1 ?_
    refine zz_topd (zz_dd_in h30).2 ?_
    cases h26
    exact J27
  · rw [if_pos g28] at h26
    refine zz_dconst1 C dX7_agreement_96 ?_
    refine zz_goto (tgt := 105) C dX7_agreement_97 (by decide) ?_
    cases h26
    exact J27
theorem dX7_mix_0 : decode cX7_mix 0 = .ok (.lload_n 0, 1) := by decide +kernel
theorem dX7_mix_1 : decode cX7_mix 1 = .ok (.ldc2_w 315, 3) := by decide +kernel
theorem dX7_mix_4 : decode cX7_mix 4 = .ok (.lmul, 1) := by decide +kernel
theorem dX7_mix_5 : decode cX7_mix 5 = .ok (.lload_n 2, 1) := by decide +kernel
theorem dX7_mix_6 : decode cX7_mix 6 = .ok (.ladd, 1) := by decide +kernel
theorem dX7_mix_7 : decode cX7_mix 7 = .ok (.lreturn, 1) := by decide +kernel
set_option maxHeartbeats 4000000 in
set_option maxRecDepth 100000 in
theorem mX7_mix {D : va_G} {U : zz_U} {ad : Nat → Nat} {X : va_W} (σ : zz_St) (d_ : Int64) (x_ : Int64) (r : Int64) (hf : fX7_mix σ d_ x_ = some r) : zz_Met yX7_mix (.code yX7_mix cX7_mix 4 (some .long)) 0 0 0 D U [.long d_, .long x_] (zz_wc U ad σ X) (zz_ok (some (.long r)) (zz_wc U ad σ X)) zz_noth := by
  unfold fX7_mix at hf
  refine zz_method RX7 rfl (by decide +kernel) (Nat.le_of_ble_eq_true rfl) ?_
  intro p l e s m args below meth c A _ C
  refine zz_lvs (lv1 := [(0, .long d_), (2, .long x_)]) rfl ?_
  refine zz_lload_n C 0 dX7_mix_0 rfl rfl ?_
  refine zz_ldc2 (v := (31 : Int64)) C dX7_mix_1 zw_140 ?_
  refine zz_lmul C dX7_mix_4 ?_
  refine zz_lload_n C 1 dX7_mix_5 rfl rfl ?_
  refine zz_ladd C dX7_mix_6 ?_
  cases hf
  exact zz_lret C dX7_mix_7 (And.intro rfl rfl) (Nat.le_of_ble_eq_true rfl) (Nat.le_of_ble_eq_true rfl)
theorem dX5_mixInto_0 : decode cX5_mixInto 0 = .ok (.lload_n 1, 1) := by decide +kernel
theorem dX5_mixInto_1 : decode cX5_mixInto 1 = .ok (.aload_n 0, 1) := by decide +kernel
theorem dX5_mixInto_2 : decode cX5_mixInto 2 = .ok (.getfield 35, 3) := by decide +kernel
theorem dX5_mixInto_5 : decode cX5_mixInto 5 = .ok (.i2l, 1) := by decide +kernel
theorem dX5_mixInto_6 : decode cX5_mixInto 6 = .ok (.invokestatic 57, 3) := by decide +kernel
theorem dX5_mixInto_9 : decode cX5_mixInto 9 = .ok (.lstore_n 3, 1) := by decide +kernel
theorem dX5_mixInto_10 : decode cX5_mixInto 10 = .ok (.iconst 0, 1) := by decide +kernel
theorem dX5_mixInto_11 : decode cX5_mixInto 11 = .ok (.istore 5, 2) := by decide +kernel
theorem dX5_mixInto_13 : decode cX5_mixInto 13 = .ok (.iload 5, 2) := by decide +kernel
theorem dX5_mixInto_15 : decode cX5_mixInto 15 = .ok (.aload_n 0, 1) := by decide +kernel
theorem dX5_mixInto_16 : decode cX5_mixInto 16 = .ok (.getfield 35, 3) := by decide +kernel
theorem dX5_mixInto_19 : decode cX5_mixInto 19 = .ok (.if_icmp .ge 105, 3) := by decide +kernel
theorem dX5_mixInto_22 : decode cX5_mixInto 22 = .ok (.lload_n 3, 1) := by decide +kernel
theorem dX5_mixInto_23 : decode cX5_mixInto 23 = .ok (.aload_n 0, 1) := by decide +kernel
theorem dX5_mixInto_24 : decode cX5_mixInto 24 = .ok (.getfield 9, 3) := by decide +kernel
theorem dX5_mixInto_27 : decode cX5_mixInto 27 = .ok (.iload 5, 2) := by decide +kernel
theorem dX5_mixInto_29 : decode cX5_mixInto 29 = .ok (.iaload, 1) := by decide +kernel
theorem dX5_mixInto_30 : decode cX5_mixInto 30 = .ok (.i2l, 1) := by decide +kernel
theorem dX5_mixInto_31 : decode cX5_mixInto 31 = .ok (.invokestatic 57, 3) := by decide +kernel
theorem dX5_mixInto_34 : decode cX5_mixInto 34 = .ok (.lstore_n 3, 1) := by decide +kernel
theorem dX5_mixInto_35 : decode cX5_mixInto 35 = .ok (.lload_n 3, 1) := by decide +kernel
theorem dX5_mixInto_36 : decode cX5_mixInto 36 = .ok (.aload_n 0, 1) := by decide +kernel
theorem dX5_mixInto_37 : decode cX5_mixInto 37 = .ok (.getfield 15, 3) := by decide +kernel
theorem dX5_mixInto_40 : decode cX5_mixInto 40 = .ok (.iload 5, 2) := by decide +kernel
theorem dX5_mixInto_42 : decode cX5_mixInto 42 = .ok (.iaload, 1) := by decide +kernel
theorem dX5_mixInto_43 : decode cX5_mixInto 43 = .ok (.i2l, 1) := by decide +kernel
theorem dX5_mixInto_44 : decode cX5_mixInto 44 = .ok (.invokestatic 57, 3) := by decide +kernel
theorem dX5_mixInto_47 : decode cX5_mixInto 47 = .ok (.lstore_n 3, 1) := by decide +kernel
theorem dX5_mixInto_48 : decode cX5_mixInto 48 = .ok (.lload_n 3, 1) := by decide +kernel
theorem dX5_mixInto_49 : decode cX5_mixInto 49 = .ok (.aload_n 0, 1) := by decide +kernel
theorem dX5_mixInto_50 : decode cX5_mixInto 50 = .ok (.getfield 18, 3) := by decide +kernel
theorem dX5_mixInto_53 : decode cX5_mixInto 53 = .ok (.iload 5, 2) := by decide +kernel
theorem dX5_mixInto_55 : decode cX5_mixInto 55 = .ok (.iaload, 1) := by decide +kernel
theorem dX5_mixInto_56 : decode cX5_mixInto 56 = .ok (.i2l, 1) := by decide +kernel
theorem dX5_mixInto_57 : decode cX5_mixInto 57 = .ok (.invokestatic 57, 3) := by decide +kernel
theorem dX5_mixInto_60 : decode cX5_mixInto 60 = .ok (.lstore_n 3, 1) := by decide +kernel
theorem dX5_mixInto_61 : decode cX5_mixInto 61 = .ok (.lload_n 3, 1) := by decide +kernel
theorem dX5_mixInto_62 : decode cX5_mixInto 62 = .ok (.aload_n 0, 1) := by decide +kernel
theorem dX5_mixInto_63 : decode cX5_mixInto 63 = .ok (.getfield 21, 3) := by decide +kernel
theorem dX5_mixInto_66 : decode cX5_mixInto 66 = .ok (.iload 5, 2) := by decide +kernel
theorem dX5_mixInto_68 : decode cX5_mixInto 68 = .ok (.iaload, 1) := by decide +kernel
theorem dX5_mixInto_69 : decode cX5_mixInto 69 = .ok (.i2l, 1) := by decide +kernel
theorem dX5_mixInto_70 : decode cX5_mixInto 70 = .ok (.invokestatic 57, 3) := by decide +kernel
theorem dX5_mixInto_73 : decode cX5_mixInto 73 = .ok (.lstore_n 3, 1) := by decide +kernel
theorem dX5_mixInto_74 : decode cX5_mixInto 74 = .ok (.iconst 0, 1) := by decide +kernel
theorem dX5_mixInto_75 : decode cX5_mixInto 75 = .ok (.istore 6, 2) := by decide +kernel
theorem dX5_mixInto_77 : decode cX5_mixInto 77 = .ok (.iload 6, 2) := by decide +kernel
theorem dX5_mixInto_79 : decode cX5_mixInto 79 = .ok (.iconst 4, 1) := by decide +kernel
theorem dX5_mixInto_80 : decode cX5_mixInto 80 = .ok (.if_icmp .ge 25, 3) := by decide +kernel
theorem dX5_mixInto_83 : decode cX5_mixInto 83 = .ok (.lload_n 3, 1) := by decide +kernel
theorem dX5_mixInto_84 : decode cX5_mixInto 84 = .ok (.aload_n 0, 1) := by decide +kernel
theorem dX5_mixInto_85 : decode cX5_mixInto 85 = .ok (.getfield 29, 3) := by decide +kernel
theorem dX5_mixInto_88 : decode cX5_mixInto 88 = .ok (.iload 6, 2) := by decide +kernel
theorem dX5_mixInto_90 : decode cX5_mixInto 90 = .ok (.aaload, 1) := by decide +kernel
theorem dX5_mixInto_91 : decode cX5_mixInto 91 = .ok (.iload 5, 2) := by decide +kernel
theorem dX5_mixInto_93 : decode cX5_mixInto 93 = .ok (.iaload, 1) := by decide +kernel
theorem dX5_mixInto_94 : decode cX5_mixInto 94 = .ok (.i2l, 1) := by decide +kernel
theorem dX5_mixInto_95 : decode cX5_mixInto 95 = .ok (.invokestatic 57, 3) := by decide +kernel
theorem dX5_mixInto_98 : decode cX5_mixInto 98 = .ok (.lstore_n 3, 1) := by decide +kernel
theorem dX5_mixInto_99 : decode cX5_mixInto 99 = .ok (.iinc 6 1, 3) := by decide +kernel
theorem dX5_mixInto_102 : decode cX5_mixInto 102 = .ok (.goto (-25), 3) := by decide +kernel
theorem dX5_mixInto_105 : decode cX5_mixInto 105 = .ok (.lload_n 3, 1) := by decide +kernel
theorem dX5_mixInto_106 : decode cX5_mixInto 106 = .ok (.aload_n 0, 1) := by decide +kernel
theorem dX5_mixInto_107 : decode cX5_mixInto 107 = .ok (.getfield 24, 3) := by decide +kernel
theorem dX5_mixInto_110 : decode cX5_mixInto 110 = .ok (.iload 5, 2) := by decide +kernel
theorem dX5_mixInto_112 : decode cX5_mixInto 112 = .ok (.iaload, 1) := by decide +kernel
theorem dX5_mixInto_113 : decode cX5_mixInto 113 = .ok (.i2l, 1) := by decide +kernel
theorem dX5_mixInto_114 : decode cX5_mixInto 114 = .ok (.invokestatic 57, 3) := by decide +kernel
theorem dX5_mixInto_117 : decode cX5_mixInto 117 = .ok (.lstore_n 3, 1) := by decide +kernel
theorem dX5_mixInto_118 : decode cX5_mixInto 118 = .ok (.iinc 5 1, 3) := by decide +kernel
theorem dX5_mixInto_121 : decode cX5_mixInto 121 = .ok (.goto (-108), 3) := by decide +kernel
theorem dX5_mixInto_124 : decode cX5_mixInto 124 = .ok (.lload_n 3, 1) := by decide +kernel
theorem dX5_mixInto_125 : decode cX5_mixInto 125 = .ok (.lreturn, 1) := by decide +kernel
set_option maxHeartbeats 4000000 in
set_option maxRecDepth 100000 in
theorem mX5_mixInto_L2 {p : Program} {l : Launch} {e : Env} {R : Room} {s : State} {m : MethodId} {args : Array Value} {below : List Frame} {meth : Method} {c : Code} {Q : State → Prop} {D : va_G} {U : zz_U} {A : Nat → Prop} {cells slots : Nat} {ad : Nat → Nat} {X : va_W} (C : zz_C p l R s m meth c D U A RX5 cX5_mixInto 7 (some .long) [] 1) (hcR : cells ≤ R.cells) (hsR : slots ≤ R.slots) (σ : zz_St) (d_ : Int64) (piece_ : Int32) : ∀ (n : Nat) (mixed_ : Int64) (what_ : Int32) (q : (Int64 × Int32)), fX5_mixInto_L2 σ d_ piece_ n mixed_ what_ = some q → (zz_Z p l e R s m args below meth c Q D A 7 cells slots (zz_wc U ad σ X) 105 [(0, .ref (ad 1)), (1, .long d_), (3, .long q.1), (5, .int piece_), (6, .int q.2)] []) → zz_Z p l e R s m args below meth c Q D A 7 cells slots (zz_wc U ad σ X) 77 [(0, .ref (ad 1)), (1, .long d_), (3, .long mixed_), (5, .int piece_), (6, .int what_)] [] := by
  intro n
  induction n with
  | zero => intro mixed_ what_ q hf; rw [fX5_mixInto_L2] at hf; cases hf
  | succ n ih =>
    intro mixed_ what_ q hf kx
    rw [fX5_mixInto_L2] at hf
    refine zz_iload C 4 dX5_mixInto_77 rfl ?_
    refine zz_iconst (v := (4 : Int32)) C dX5_mixInto_79 (by decide) ?_
    refine zz_icmp_ge (tgt := 105) C dX5_mixInto_80 (by decide) (fun g20 => ?_) (fun g20 => ?_)
    · rw [if_pos g20] at hf
      cases hf
      exact kx
    · rw [if_neg g20] at hf
      refine zz_lload_n C 2 dX5_mixInto_83 rfl rfl ?_
      refine zz_aload_n C 0 dX5_mixInto_84 rfl rfl ?_
      refine zf5_namesOf C dX5_mixInto_85 zw_17 ?_
      refine zz_iload C 4 dX5_mixInto_88 rfl ?_
      obtain ⟨x21, h22, hf⟩ := zz_bind hf
      refine zr_7 C dX5_mixInto_90 h22 ?_
      refine zz_iload C 3 dX5_mixInto_91 rfl ?_
      obtain ⟨x23, h24, hf⟩ := zz_bind hf
      refine zl_7 C dX5_mixInto_93 h22 h24 ?_
      refine zz_i2l C dX5_mixInto_94 ?_
      obtain ⟨x25, h26, hf⟩ := zz_bind hf
      refine zz_callSN1 (host := "ChangeUntangler") (As := [.long mixed_, .long x23.toInt64]) (rest := []) C (mX7_mix σ mixed_ x23.toInt64 x25 h26) dX5_mixInto_95 rfl (by decide +kernel) zy_X7_mix rfl (by decide) (by decide) (Nat.le_of_ble_eq_true rfl) hcR hsR rfl ?_
      refine zz_lstore_n C dX5_mixInto_98 rfl (by decide) (lv' := [(3, .long x25), (0, .ref (ad 1)), (1, .long d_), (5, .int piece_), (6, .int what_)]) rfl ?_
      refine zz_iinc (v := (what_ + (1 : Int32))) C 4 dX5_mixInto_99 rfl (by rfl) (by decide) (lv' := [(6, .int (what_ + (1 : Int32))), (3, .long x25), (0, .ref (ad 1)), (1, .long d_), (5, .int piece_)]) rfl ?_
      refine zz_goto (tgt := 77) C dX5_mixInto_102 (by decide) ?_
      refine zz_sub [2, 3, 1, 4, 0] rfl ?_
      exact ih x25 (what_ + (1 : Int32)) _ hf kx
set_option maxHeartbeats 4000000 in
set_option maxRecDepth 100000 in
theorem mX5_mixInto_L1 {p : Program} {l : Launch} {e : Env} {R : Room} {s : State} {m : MethodId} {args : Array Value} {below : List Frame} {meth : Method} {c : Code} {Q : State → Prop} {D : va_G} {U : zz_U} {A : Nat → Prop} {cells slots : Nat} {ad : Nat → Nat} {X : va_W} (C : zz_C p l R s m meth c D U A RX5 cX5_mixInto 7 (some .long) [] 1) (hcR : cells ≤ R.cells) (hsR : slots ≤ R.slots) (σ : zz_St) (d_ : Int64) : ∀ (n : Nat) (mixed_ : Int64) (piece_ : Int32) (q : (Int64 × Int32)), fX5_mixInto_L1 σ d_ n mixed_ piece_ = some q → (zz_Z p l e R s m args below meth c Q D A 7 cells slots (zz_wc U ad σ X) 124 [(0, .ref (ad 1)), (1, .long d_), (3, .long q.1), (5, .int q.2)] []) → zz_Z p l e R s m args below meth c Q D A 7 cells slots (zz_wc U ad σ X) 13 [(0, .ref (ad 1)), (1, .long d_), (3, .long mixed_), (5, .int piece_)] [] := by
  intro n
  induction n with
  | zero => intro mixed_ piece_ q hf; rw [fX5_mixInto_L1] at hf; cases hf
  | succ n ih =>
    intro mixed_ piece_ q hf kx
    rw [fX5_mixInto_L1] at hf
    refine zz_iload C 3 dX5_mixInto_13 rfl ?_
    refine zz_aload_n C 0 dX5_mixInto_15 rfl rfl ?_
    refine zf5_count C dX5_mixInto_16 zw_3 ?_
    refine zz_icmp_ge (tgt := 124) C dX5_mixInto_19 (by decide) (fun g3 => ?_) (fun g3 => ?_)
    · rw [if_pos g3] at hf
      cases hf
      exact kx
    · rw [if_neg g3] at hf
      refine zz_lload_n C 2 dX5_mixInto_22 rfl rfl ?_
      refine zz_aload_n C 0 dX5_mixInto_23 rfl rfl ?_
      refine zf5_files C dX5_mixInto_24 zw_8 ?_
      refine zz_iload C 3 dX5_mixInto_27 rfl ?_
      obtain ⟨x4, h5, hf⟩ := zz_bind hf
      refine zl_2 C dX5_mixInto_29 h5 ?_
      refine zz_i2l C dX5_mixInto_30 ?_
      obtain ⟨x6, h7, hf⟩ := zz_bind hf
      refine zz_callSN1 (host := "ChangeUntangler") (As := [.long mixed_, .long x4.toInt64]) (rest := []) C (mX7_mix σ mixed_ x4.toInt64 x6 h7) dX5_mixInto_31 rfl (by decide +kernel) zy_X7_mix rfl (by decide) (by decide) (Nat.le_of_ble_eq_true rfl) hcR hsR rfl ?_
      refine zz_lstore_n C dX5_mixInto_34 rfl (by decide) (lv' := [(3, .long x6), (0, .ref (ad 1)), (1, .long d_), (5, .int piece_)]) rfl ?_
      refine zz_lload_n C 0 dX5_mixInto_35 rfl rfl ?_
      refine zz_aload_n C 1 dX5_mixInto_36 rfl rfl ?_
      refine zf5_startLines C dX5_mixInto_37 zw_7 ?_
      refine zz_iload C 3 dX5_mixInto_40 rfl ?_
      obtain ⟨x8, h9, hf⟩ := zz_bind hf
      refine zl_3 C dX5_mixInto_42 h9 ?_
      refine zz_i2l C dX5_mixInto_43 ?_
      obtain ⟨x10, h11, hf⟩ := zz_bind hf
      refine zz_callSN1 (host := "ChangeUntangler") (As := [.long x6, .long x8.toInt64]) (rest := []) C (mX7_mix σ x6 x8.toInt64 x10 h11) dX5_mixInto_44 rfl (by decide +kernel) zy_X7_mix rfl (by decide) (by decide) (Nat.le_of_ble_eq_true rfl) hcR hsR rfl ?_
      refine zz_lstore_n C dX5_mixInto_47 rfl (by decide) (lv' := [(3, .long x10), (0, .ref (ad 1)), (1, .long d_), (5, .int piece_)]) rfl ?_
      refine zz_lload_n C 0 dX5_mixInto_48 rfl rfl ?_
      refine zz_aload_n C 1 dX5_mixInto_49 rfl rfl ?_
      refine zf5_added C dX5_mixInto_50 zw_6 ?_
      refine zz_iload C 3 dX5_mixInto_53 rfl ?_
      obtain ⟨x12, h13, hf⟩ := zz_bind hf
      refine zl_4 C dX5_mixInto_55 h13 ?_
      refine zz_i2l C dX5_mixInto_56 ?_
      obtain ⟨x14, h15, hf⟩ := zz_bind hf
      refine zz_callSN1 (host := "ChangeUntangler") (As := [.long x10, .long x12.toInt64]) (rest := []) C (mX7_mix σ x10 x12.toInt64 x14 h15) dX5_mixInto_57 rfl (by decide +kernel) zy_X7_mix rfl (by decide) (by decide) (Nat.le_of_ble_eq_true rfl) hcR hsR rfl ?_
      refine zz_lstore_n C dX5_mixInto_60 rfl (by decide) (lv' := [(3, .long x14), (0, .ref (ad 1)), (1, .long d_), (5, .int piece_)]) rfl ?_
      refine zz_lload_n C 0 dX5_mixInto_61 rfl rfl ?_
      refine zz_aload_n C 1 dX5_mixInto_62 rfl rfl ?_
      refine zf5_taken C dX5_mixInto_63 zw_5 ?_
      refine zz_iload C 3 dX5_mixInto_66 rfl ?_
      obtain ⟨x16, h17, hf⟩ := zz_bind hf
      refine zl_5 C dX5_mixInto_68 h17 ?_
      refine zz_i2l C dX5_mixInto_69 ?_
      obtain ⟨x18, h19, hf⟩ := zz_bind hf
      refine zz_callSN1 (host := "ChangeUntangler") (As := [.long x14, .long x16.toInt64]) (rest := []) C (mX7_mix σ x14 x16.toInt64 x18 h19) dX5_mixInto_70 rfl (by decide +kernel) zy_X7_mix rfl (by decide) (by decide) (Nat.le_of_ble_eq_true rfl) hcR hsR rfl ?_
      refine zz_lstore_n C dX5_mixInto_73 rfl (by decide) (lv' := [(3, .long x18), (0, .ref (ad 1)), (1, .long d_), (5, .int piece_)]) rfl ?_
      refine zz_iconst (v := (0 : Int32)) C dX5_mixInto_74 (by decide) ?_
      refine zz_istore C dX5_mixInto_75 (by decide) (lv' := [(6, .int (0 : Int32)), (3, .long x18), (0, .ref (ad 1)), (1, .long d_), (5, .int piece_)]) rfl ?_
      obtain ⟨q27, h28, hf⟩ := zz_bind hf
      refine zz_sub [2, 3, 1, 4, 0] rfl ?_
      refine mX5_mixInto_L2 C hcR hsR σ d_ piece_ 1000 x18 (0 : Int32) q27 h28 ?_
      refine zz_lload_n C 2 dX5_mixInto_105 rfl rfl ?_
      refine zz_aload_n C 0 dX5_mixInto_106 rfl rfl ?_
      refine zf5_purposes C dX5_mixInto_107 zw_4 ?_
      refine zz_iload C 3 dX5_mixInto_110 rfl ?_
      obtain ⟨x29, h30, hf⟩ := zz_bind hf
      refine zl_6 C dX5_mixInto_112 h30 ?_
      refine zz_i2l C dX5_mixInto_113 ?_
      obtain ⟨x31, h32, hf⟩ := zz_bind hf
      refine zz_callSN1 (host := "ChangeUntangler") (As := [.long q27.1, .long x29.toInt64]) (rest := []) C (mX7_mix σ q27.1 x29.toInt64 x31 h32) dX5_mixInto_114 rfl (by decide +kernel) zy_X7_mix rfl (by decide) (by decide) (Nat.le_of_ble_eq_true rfl) hcR hsR rfl ?_
      refine zz_lstore_n C dX5_mixInto_117 rfl (by decide) (lv' := [(3, .long x31), (0, .ref (ad 1)), (1, .long d_), (5, .int piece_), (6, .int q27.2)]) rfl ?_
      refine zz_iinc (v := (piece_ + (1 : Int32))) C 3 dX5_mixInto_118 rfl (by rfl) (by decide) (lv' := [(5, .int (piece_ + (1 : Int32))), (3, .long x31), (0, .ref (ad 1)), (1, .long d_), (6, .int q27.2)]) rfl ?_
      refine zz_goto (tgt := 13) C dX5_mixInto_121 (by decide) ?_
      refine zz_sub [2, 3, 1, 0] rfl ?_
      exact ih x31 (piece_ + (1 : Int32)) _ hf kx
set_option maxHeartbeats 4000000 in
set_option maxRecDepth 100000 in
theorem mX5_mixInto {D : va_G} {U : zz_U} {ad : Nat → Nat} {X : va_W} (σ : zz_St) (d_ : Int64) (r : Int64) (hf : fX5_mixInto σ d_ = some r) : zz_Met yX5_mixInto (.code yX5_mixInto cX5_mixInto 7 (some .long)) 1 0 0 D U [.ref (ad 1), .long d_] (zz_wc U ad σ X) (zz_ok (some (.long r)) (zz_wc U ad σ X)) zz_noth := by
  unfold fX5_mixInto at hf
  refine zz_method RX5 rfl (by decide +kernel) (Nat.le_of_ble_eq_true rfl) ?_
  intro p l e s m args below meth c A _ C
  refine zz_lvs (lv1 := [(0, .ref (ad 1)), (1, .long d_)]) rfl ?_
  refine zz_lload_n C 1 dX5_mixInto_0 rfl rfl ?_
  refine zz_aload_n C 0 dX5_mixInto_1 rfl rfl ?_
  refine zf5_count C dX5_mixInto_2 zw_3 ?_
  refine zz_i2l C dX5_mixInto_5 ?_
  obtain ⟨x1, h2, hf⟩ := zz_bind hf
  refine zz_callSN1 (host := "ChangeUntangler") (As := [.long d_, .long ((σ 1 0)).toInt64]) (rest := []) C (mX7_mix σ d_ (((σ 1 0)).toInt64) x1 h2) dX5_mixInto_6 rfl (by decide +kernel) zy_X7_mix rfl (by decide) (by decide) (Nat.le_of_ble_eq_true rfl) (Nat.le_of_ble_eq_true rfl) (Nat.le_of_ble_eq_true rfl) rfl ?_
  refine zz_lstore_n C dX5_mixInto_9 rfl (by decide) (lv' := [(3, .long x1), (0, .ref (ad 1)), (1, .long d_)]) rfl ?_
  refine zz_iconst (v := (0 : Int32)) C dX5_mixInto_10 (by decide) ?_
  refine zz_istore C dX5_mixInto_11 (by decide) (lv' := [(5, .int (0 : Int32)), (3, .long x1), (0, .ref (ad 1)), (1, .long d_)]) rfl ?_
  obtain ⟨q33, h34, hf⟩ := zz_bind hf
  refine zz_sub [2, 3, 1, 0] rfl ?_
  refine mX5_mixInto_L1 C (Nat.le_of_ble_eq_true rfl) (Nat.le_of_ble_eq_true rfl) σ d_ 1000 x1 (0 : Int32) q33 h34 ?_
  refine zz_lload_n C 2 dX5_mixInto_124 rfl rfl ?_
  cases hf
  exact zz_lret C dX5_mixInto_125 (And.intro rfl rfl) (Nat.le_of_ble_eq_true rfl) (Nat.le_of_ble_eq_true rfl)
theorem dX7_mixRow_0 : decode cX7_mixRow 0 = .ok (.lload_n 0, 1) := by decide +kernel
theorem dX7_mixRow_1 : decode cX7_mixRow 1 = .ok (.lstore 4, 2) := by decide +kernel
theorem dX7_mixRow_3 : decode cX7_mixRow 3 = .ok (.iconst 0, 1) := by decide +kernel
theorem dX7_mixRow_4 : decode cX7_mixRow 4 = .ok (.istore 6, 2) := by decide +kernel
theorem dX7_mixRow_6 : decode cX7_mixRow 6 = .ok (.iload 6, 2) := by decide +kernel
theorem dX7_mixRow_8 : decode cX7_mixRow 8 = .ok (.iload_n 3, 1) := by decide +kernel
theorem dX7_mixRow_9 : decode cX7_mixRow 9 = .ok (.if_icmp .ge 28, 3) := by decide +kernel
theorem dX7_mixRow_12 : decode cX7_mixRow 12 = .ok (.iload 6, 2) := by decide +kernel
theorem dX7_mixRow_14 : decode cX7_mixRow 14 = .ok (.aload_n 2, 1) := by decide +kernel
theorem dX7_mixRow_15 : decode cX7_mixRow 15 = .ok (.arraylength, 1) := by decide +kernel
theorem dX7_mixRow_16 : decode cX7_mixRow 16 = .ok (.if_icmp .ge 21, 3) := by decide +kernel
theorem dX7_mixRow_19 : decode cX7_mixRow 19 = .ok (.lload 4, 2) := by decide +kernel
theorem dX7_mixRow_21 : decode cX7_mixRow 21 = .ok (.aload_n 2, 1) := by decide +kernel
theorem dX7_mixRow_22 : decode cX7_mixRow 22 = .ok (.iload 6, 2) := by decide +kernel
theorem dX7_mixRow_24 : decode cX7_mixRow 24 = .ok (.iaload, 1) := by decide +kernel
theorem dX7_mixRow_25 : decode cX7_mixRow 25 = .ok (.i2l, 1) := by decide +kernel
theorem dX7_mixRow_26 : decode cX7_mixRow 26 = .ok (.invokestatic 262, 3) := by decide +kernel
theorem dX7_mixRow_29 : decode cX7_mixRow 29 = .ok (.lstore 4, 2) := by decide +kernel
theorem dX7_mixRow_31 : decode cX7_mixRow 31 = .ok (.iinc 6 1, 3) := by decide +kernel
theorem dX7_mixRow_34 : decode cX7_mixRow 34 = .ok (.goto (-28), 3) := by decide +kernel
theorem dX7_mixRow_37 : decode cX7_mixRow 37 = .ok (.lload 4, 2) := by decide +kernel
theorem dX7_mixRow_39 : decode cX7_mixRow 39 = .ok (.lreturn, 1) := by decide +kernel
set_option maxHeartbeats 4000000 in
set_option maxRecDepth 100000 in
theorem mX7_mixRow_a20_L1 {p : Program} {l : Launch} {e : Env} {R : Room} {s : State} {m : MethodId} {args : Array Value} {below : List Frame} {meth : Method} {c : Code} {Q : State → Prop} {D : va_G} {U : zz_U} {A : Nat → Prop} {cells slots : Nat} {ad : Nat → Nat} {X : va_W} (C : zz_C p l R s m meth c D U A RX7 cX7_mixRow 7 (some .long) [] 1) (hcR : cells ≤ R.cells) (hsR : slots ≤ R.slots) (σ : zz_St) (d_ : Int64) (count_ : Int32) : ∀ (n : Nat) (mixed_ : Int64) (k_ : Int32) (q : (Int64 × Int32)), fX7_mixRow_a20_L1 σ d_ count_ n mixed_ k_ = some q → (zz_Z p l e R s m args below meth c Q D A 7 cells slots (zz_wc U ad σ X) 37 [(0, .long d_), (2, .ref (ad 20)), (3, .int count_), (4, .long q.1), (6, .int q.2)] []) → zz_Z p l e R s m args below meth c Q D A 7 cells slots (zz_wc U ad σ X) 6 [(0, .long d_), (2, .ref (ad 20)), (3, .int count_), (4, .long mixed_), (6, .int k_)] [] := by
  intro n
  induction n with
  | zero => intro mixed_ k_ q hf; rw [fX7_mixRow_a20_L1] at hf; cases hf
  | succ n ih =>
    intro mixed_ k_ q hf kx
    rw [fX7_mixRow_a20_L1] at hf
    obtain ⟨b1, h2, hf⟩ := zz_bind hf
    refine zz_cutI (P := b1 = true) 19 [(0, .long d_), (2, .ref (ad 20)), (3, .int count_), (4, .long mixed_), (6, .int k_)] [] (zz_wc U ad σ X) (fun g5 => ?_) (fun J3 => ?_)
    · rw [if_pos g5] at hf
      refine zz_lload C 3 dX7_mixRow_19 rfl ?_
      refine zz_aload_n C 1 dX7_mixRow_21 rfl rfl ?_
      refine zz_iload C 4 dX7_mixRow_22 rfl ?_
      obtain ⟨x8, h9, hf⟩ := zz_bind hf
      refine zl_20 C dX7_mixRow_24 h9 ?_
      refine zz_i2l C dX7_mixRow_25 ?_
      obtain ⟨x10, h11, hf⟩ := zz_bind hf
      refine zz_callS1 (As := [.long mixed_, .long x8.toInt64]) (rest := []) C (mX7_mix σ mixed_ x8.toInt64 x10 h11) dX7_mixRow_26 rfl zw_141 zy_X7_mix rfl (by decide) (by decide) (Nat.le_of_ble_eq_true rfl) hcR hsR rfl ?_
      refine zz_lstore C dX7_mixRow_29 (by decide) (lv' := [(4, .long x10), (0, .long d_), (2, .ref (ad 20)), (3, .int count_), (6, .int k_)]) rfl ?_
      refine zz_iinc (v := (k_ + (1 : Int32))) C 4 dX7_mixRow_31 rfl (by rfl) (by decide) (lv' := [(6, .int (k_ + (1 : Int32))), (4, .long x10), (0, .long d_), (2, .ref (ad 20)), (3, .int count_)]) rfl ?_
      refine zz_goto (tgt := 6) C dX7_mixRow_34 (by decide) ?_
      refine zz_sub [2, 3, 4, 1, 0] rfl ?_
      exact ih x10 (k_ + (1 : Int32)) _ hf kx
    refine zz_cutI (P := b1 = false) 37 [(0, .long d_), (2, .ref (ad 20)), (3, .int count_), (4, .long mixed_), (6, .int k_)] [] (zz_wc U ad σ X) (fun g5 => ?_) (fun J4 => ?_)
    · rw [if_neg (show ¬ b1 = true by rw [g5]; decide)] at hf
      cases hf
      exact kx
    refine zz_iload C 4 dX7_mixRow_6 rfl ?_
    refine zz_iload_n C 2 dX7_mixRow_8 rfl rfl ?_
    refine zz_icmp_ge (tgt := 37) C dX7_mixRow_9 (by decide) (fun g6 => ?_) (fun g6 => ?_)
    · rw [if_pos g6] at h2
      cases h2
      exact J4 rfl
    · rw [if_neg g6] at h2
      refine zz_iload C 4 dX7_mixRow_12 rfl ?_
      refine zz_aload_n C 1 dX7_mixRow_14 rfl rfl ?_
      refine zz_alen (v := (4 : Int32)) C 20 0 dX7_mixRow_15 rfl rfl rfl ?_
      refine zz_icmp_ge (tgt := 37) C dX7_mixRow_16 (by decide) (fun g7 => ?_) (fun g7 => ?_)
      · rw [if_pos g7] at h2
        cases h2
        exact J4 rfl
      · rw [if_neg g7] at h2
        cases h2
        exact J3 rfl
set_option maxHeartbeats 4000000 in
set_option maxRecDepth 100000 in
theorem mX7_mixRow_a20 {D : va_G} {U : zz_U} {ad : Nat → Nat} {X : va_W} (σ : zz_St) (d_ : Int64) (count_ : Int32) (r : Int64) (hf : fX7_mixRow_a20 σ d_ count_ = some r) : zz_Met yX7_mixRow (.code yX7_mixRow cX7_mixRow 7 (some .long)) 1 0 0 D U [.long d_, .ref (ad 20), .int count_] (zz_wc U ad σ X) (zz_ok (some (.long r)) (zz_wc U ad σ X)) zz_noth := by
  unfold fX7_mixRow_a20 at hf
  refine zz_method RX7 rfl (by decide +kernel) (Nat.le_of_ble_eq_true rfl) ?_
  intro p l e s m args below meth c A _ C
  refine zz_lvs (lv1 := [(0, .long d_), (2, .ref (ad 20)), (3, .int count_)]) rfl ?_
  refine zz_lload_n C 0 dX7_mixRow_0 rfl rfl ?_
  refine zz_lstore C dX7_mixRow_1 (by decide) (lv' := [(4, .long d_), (0, .long d_), (2, .ref (ad 20)), (3, .int count_)]) rfl ?_
  refine zz_iconst (v := (0 : Int32)) C dX7_mixRow_3 (by decide) ?_
  refine zz_istore C dX7_mixRow_4 (by decide) (lv' := [(6, .int (0 : Int32)), (4, .long d_), (0, .long d_), (2, .ref (ad 20)), (3, .int count_)]) rfl ?_
  obtain ⟨q12, h13, hf⟩ := zz_bind hf
  refine zz_sub [2, 3, 4, 1, 0] rfl ?_
  refine mX7_mixRow_a20_L1 C (Nat.le_of_ble_eq_true rfl) (Nat.le_of_ble_eq_true rfl) σ d_ count_ 1000 d_ (0 : Int32) q12 h13 ?_
  refine zz_lload C 3 dX7_mixRow_37 rfl ?_
  cases hf
  exact zz_lret C dX7_mixRow_39 (And.intro rfl rfl) (Nat.le_of_ble_eq_true rfl) (Nat.le_of_ble_eq_true rfl)
theorem dX1_mixInto_0 : decode cX1_mixInto 0 = .ok (.lload_n 1, 1) := by decide +kernel
theorem dX1_mixInto_1 : decode cX1_mixInto 1 = .ok (.lstore_n 3, 1) := by decide +kernel
theorem dX1_mixInto_2 : decode cX1_mixInto 2 = .ok (.iconst 0, 1) := by decide +kernel
theorem dX1_mixInto_3 : decode cX1_mixInto 3 = .ok (.istore 5, 2) := by decide +kernel
theorem dX1_mixInto_5 : decode cX1_mixInto 5 = .ok (.iload 5, 2) := by decide +kernel
theorem dX1_mixInto_7 : decode cX1_mixInto 7 = .ok (.bipush 16, 2) := by decide +kernel
theorem dX1_mixInto_9 : decode cX1_mixInto 9 = .ok (.if_icmp .ge 37, 3) := by decide +kernel
theorem dX1_mixInto_12 : decode cX1_mixInto 12 = .ok (.lload_n 3, 1) := by decide +kernel
theorem dX1_mixInto_13 : decode cX1_mixInto 13 = .ok (.aload_n 0, 1) := by decide +kernel
theorem dX1_mixInto_14 : decode cX1_mixInto 14 = .ok (.getfield 15, 3) := by decide +kernel
theorem dX1_mixInto_17 : decode cX1_mixInto 17 = .ok (.iload 5, 2) := by decide +kernel
theorem dX1_mixInto_19 : decode cX1_mixInto 19 = .ok (.ishr, 1) := by decide +kernel
theorem dX1_mixInto_20 : decode cX1_mixInto 20 = .ok (.iconst 1, 1) := by decide +kernel
theorem dX1_mixInto_21 : decode cX1_mixInto 21 = .ok (.iand, 1) := by decide +kernel
theorem dX1_mixInto_22 : decode cX1_mixInto 22 = .ok (.i2l, 1) := by decide +kernel
theorem dX1_mixInto_23 : decode cX1_mixInto 23 = .ok (.invokestatic 35, 3) := by decide +kernel
theorem dX1_mixInto_26 : decode cX1_mixInto 26 = .ok (.lstore_n 3, 1) := by decide +kernel
theorem dX1_mixInto_27 : decode cX1_mixInto 27 = .ok (.lload_n 3, 1) := by decide +kernel
theorem dX1_mixInto_28 : decode cX1_mixInto 28 = .ok (.aload_n 0, 1) := by decide +kernel
theorem dX1_mixInto_29 : decode cX1_mixInto 29 = .ok (.getfield 9, 3) := by decide +kernel
theorem dX1_mixInto_32 : decode cX1_mixInto 32 = .ok (.iload 5, 2) := by decide +kernel
theorem dX1_mixInto_34 : decode cX1_mixInto 34 = .ok (.iaload, 1) := by decide +kernel
theorem dX1_mixInto_35 : decode cX1_mixInto 35 = .ok (.i2l, 1) := by decide +kernel
theorem dX1_mixInto_36 : decode cX1_mixInto 36 = .ok (.invokestatic 35, 3) := by decide +kernel
theorem dX1_mixInto_39 : decode cX1_mixInto 39 = .ok (.lstore_n 3, 1) := by decide +kernel
theorem dX1_mixInto_40 : decode cX1_mixInto 40 = .ok (.iinc 5 1, 3) := by decide +kernel
theorem dX1_mixInto_43 : decode cX1_mixInto 43 = .ok (.goto (-38), 3) := by decide +kernel
theorem dX1_mixInto_46 : decode cX1_mixInto 46 = .ok (.lload_n 3, 1) := by decide +kernel
theorem dX1_mixInto_47 : decode cX1_mixInto 47 = .ok (.lreturn, 1) := by decide +kernel
set_option maxHeartbeats 4000000 in
set_option maxRecDepth 100000 in
theorem mX1_mixInto_L1 {p : Program} {l : Launch} {e : Env} {R : Room} {s : State} {m : MethodId} {args : Array Value} {below : List Frame} {meth : Method} {c : Code} {Q : State → Prop} {D : va_G} {U : zz_U} {A : Nat → Prop} {cells slots : Nat} {ad : Nat → Nat} {X : va_W} (C : zz_C p l R s m meth c D U A RX1 cX1_mixInto 6 (some .long) [] 1) (hcR : cells ≤ R.cells) (hsR : slots ≤ R.slots) (σ : zz_St) (d_ : Int64) : ∀ (n : Nat) (mixed_ : Int64) (name_ : Int32) (q : (Int64 × Int32)), fX1_mixInto_L1 σ d_ n mixed_ name_ = some q → (zz_Z p l e R s m args below meth c Q D A 6 cells slots (zz_wc U ad σ X) 46 [(0, .ref (ad 17)), (1, .long d_), (3, .long q.1), (5, .int q.2)] []) → zz_Z p l e R s m args below meth c Q D A 6 cells slots (zz_wc U ad σ X) 5 [(0, .ref (ad 17)), (1, .long d_), (3, .long mixed_), (5, .int name_)] [] := by
  intro n
  induction n with
  | zero => intro mixed_ name_ q hf; rw [fX1_mixInto_L1] at hf; cases hf
  | succ n ih =>
    intro mixed_ name_ q hf kx
    rw [fX1_mixInto_L1] at hf
    refine zz_iload C 3 dX1_mixInto_5 rfl ?_
    refine zz_bipush (v := (16 : Int32)) C dX1_mixInto_7 (by decide) ?_
    refine zz_icmp_ge (tgt := 46) C dX1_mixInto_9 (by decide) (fun g1 => ?_) (fun g1 => ?_)
    · rw [if_pos g1] at hf
      cases hf
      exact kx
    · rw [if_neg g1] at hf
      refine zz_lload_n C 2 dX1_mixInto_12 rfl rfl ?_
      refine zz_aload_n C 0 dX1_mixInto_13 rfl rfl ?_
      refine zf1_definedNames C dX1_mixInto_14 zw_22 ?_
      refine zz_iload C 3 dX1_mixInto_17 rfl ?_
      refine zz_ishr C dX1_mixInto_19 ?_
      refine zz_iconst (v := (1 : Int32)) C dX1_mixInto_20 (by decide) ?_
      refine zz_iand C dX1_mixInto_21 ?_
      refine zz_i2l C dX1_mixInto_22 ?_
      obtain ⟨x2, h3, hf⟩ := zz_bind hf
      refine zz_callSN1 (host := "ChangeUntangler") (As := [.long mixed_, .long ((((σ 17 0) >>> (name_ &&& 31)) &&& (1 : Int32))).toInt64]) (rest := []) C (mX7_mix σ mixed_ (((((σ 17 0) >>> (name_ &&& 31)) &&& (1 : Int32))).toInt64) x2 h3) dX1_mixInto_23 rfl (by decide +kernel) zy_X7_mix rfl (by decide) (by decide) (Nat.le_of_ble_eq_true rfl) hcR hsR rfl ?_
      refine zz_lstore_n C dX1_mixInto_26 rfl (by decide) (lv' := [(3, .long x2), (0, .ref (ad 17)), (1, .long d_), (5, .int name_)]) rfl ?_
      refine zz_lload_n C 0 dX1_mixInto_27 rfl rfl ?_
      refine zz_aload_n C 1 dX1_mixInto_28 rfl rfl ?_
      refine zf1_otherUses C dX1_mixInto_29 zw_21 ?_
      refine zz_iload C 3 dX1_mixInto_32 rfl ?_
      obtain ⟨x4, h5, hf⟩ := zz_bind hf
      refine zl_18 C dX1_mixInto_34 h5 ?_
      refine zz_i2l C dX1_mixInto_35 ?_
      obtain ⟨x6, h7, hf⟩ := zz_bind hf
      refine zz_callSN1 (host := "ChangeUntangler") (As := [.long x2, .long x4.toInt64]) (rest := []) C (mX7_mix σ x2 x4.toInt64 x6 h7) dX1_mixInto_36 rfl (by decide +kernel) zy_X7_mix rfl (by decide) (by decide) (Nat.le_of_ble_eq_true rfl) hcR hsR rfl ?_
      refine zz_lstore_n C dX1_mixInto_39 rfl (by decide) (lv' := [(3, .long x6), (0, .ref (ad 17)), (1, .long d_), (5, .int name_)]) rfl ?_
      refine zz_iinc (v := (name_ + (1 : Int32))) C 3 dX1_mixInto_40 rfl (by rfl) (by decide) (lv' := [(5, .int (name_ + (1 : Int32))), (3, .long x6), (0, .ref (ad 17)), (1, .long d_)]) rfl ?_
      refine zz_goto (tgt := 5) C dX1_mixInto_43 (by decide) ?_
      refine zz_sub [2, 3, 1, 0] rfl ?_
      exact ih x6 (name_ + (1 : Int32)) _ hf kx
set_option maxHeartbeats 4000000 in
set_option maxRecDepth 100000 in
theorem mX1_mixInto {D : va_G} {U : zz_U} {ad : Nat → Nat} {X : va_W} (σ : zz_St) (d_ : Int64) (r : Int64) (hf : fX1_mixInto σ d_ = some r) : zz_Met yX1_mixInto (.code yX1_mixInto cX1_mixInto 6 (some .long)) 1 0 0 D U [.ref (ad 17), .long d_] (zz_wc U ad σ X) (zz_ok (some (.long r)) (zz_wc U ad σ X)) zz_noth := by
  unfold fX1_mixInto at hf
  refine zz_method RX1 rfl (by decide +kernel) (Nat.le_of_ble_eq_true rfl) ?_
  intro p l e s m args below meth c A _ C
  refine zz_lvs (lv1 := [(0, .ref (ad 17)), (1, .long d_)]) rfl ?_
  refine zz_lload_n C 1 dX1_mixInto_0 rfl rfl ?_
  refine zz_lstore_n C dX1_mixInto_1 rfl (by decide) (lv' := [(3, .long d_), (0, .ref (ad 17)), (1, .long d_)]) rfl ?_
  refine zz_iconst (v := (0 : Int32)) C dX1_mixInto_2 (by decide) ?_
  refine zz_istore C dX1_mixInto_3 (by decide) (lv' := [(5, .int (0 : Int32)), (3, .long d_), (0, .ref (ad 17)), (1, .long d_)]) rfl ?_
  obtain ⟨q8, h9, hf⟩ := zz_bind hf
  refine zz_sub [2, 3, 1, 0] rfl ?_
  refine mX1_mixInto_L1 C (Nat.le_of_ble_eq_true rfl) (Nat.le_of_ble_eq_true rfl) σ d_ 1000 d_ (0 : Int32) q8 h9 ?_
  refine zz_lload_n C 2 dX1_mixInto_46 rfl rfl ?_
  cases hf
  exact zz_lret C dX1_mixInto_47 (And.intro rfl rfl) (Nat.le_of_ble_eq_true rfl) (Nat.le_of_ble_eq_true rfl)
set_option maxHeartbeats 4000000 in
set_option maxRecDepth 100000 in
theorem mX7_mixRow_a25_L1 {p : Program} {l : Launch} {e : Env} {R : Room} {s : State} {m : MethodId} {args : Array Value} {below : List Frame} {meth : Method} {c : Code} {Q : State → Prop} {D : va_G} {U : zz_U} {A : Nat → Prop} {cells slots : Nat} {ad : Nat → Nat} {X : va_W} (C : zz_C p l R s m meth c D U A RX7 cX7_mixRow 7 (some .long) [] 1) (hcR : cells ≤ R.cells) (hsR : slots ≤ R.slots) (σ : zz_St) (d_ : Int64) (count_ : Int32) : ∀ (n : Nat) (mixed_ : Int64) (k_ : Int32) (q : (Int64 × Int32)), fX7_mixRow_a25_L1 σ d_ count_ n mixed_ k_ = some q → (zz_Z p l e R s m args below meth c Q D A 7 cells slots (zz_wc U ad σ X) 37 [(0, .long d_), (2, .ref (ad 25)), (3, .int count_), (4, .long q.1), (6, .int q.2)] []) → zz_Z p l e R s m args below meth c Q D A 7 cells slots (zz_wc U ad σ X) 6 [(0, .long d_), (2, .ref (ad 25)), (3, .int count_), (4, .long mixed_), (6, .int k_)] [] := by
  intro n
  induction n with
  | zero => intro mixed_ k_ q hf; rw [fX7_mixRow_a25_L1] at hf; cases hf
  | succ n ih =>
    intro mixed_ k_ q hf kx
    rw [fX7_mixRow_a25_L1] at hf
    obtain ⟨b1, h2, hf⟩ := zz_bind hf
    refine zz_cutI (P := b1 = true) 19 [(0, .long d_), (2, .ref (ad 25)), (3, .int count_), (4, .long mixed_), (6, .int k_)] [] (zz_wc U ad σ X) (fun g5 => ?_) (fun J3 => ?_)
    · rw [if_pos g5] at hf
      refine zz_lload C 3 dX7_mixRow_19 rfl ?_
      refine zz_aload_n C 1 dX7_mixRow_21 rfl rfl ?_
      refine zz_iload C 4 dX7_mixRow_22 rfl ?_
      obtain ⟨x8, h9, hf⟩ := zz_bind hf
      refine zl_25 C dX7_mixRow_24 h9 ?_
      refine zz_i2l C dX7_mixRow_25 ?_
      obtain ⟨x10, h11, hf⟩ := zz_bind hf
      refine zz_callS1 (As := [.long mixed_, .long x8.toInt64]) (rest := []) C (mX7_mix σ mixed_ x8.toInt64 x10 h11) dX7_mixRow_26 rfl zw_141 zy_X7_mix rfl (by decide) (by decide) (Nat.le_of_ble_eq_true rfl) hcR hsR rfl ?_
      refine zz_lstore C dX7_mixRow_29 (by decide) (lv' := [(4, .long x10), (0, .long d_), (2, .ref (ad 25)), (3, .int count_), (6, .int k_)]) rfl ?_
      refine zz_iinc (v := (k_ + (1 : Int32))) C 4 dX7_mixRow_31 rfl (by rfl) (by decide) (lv' := [(6, .int (k_ + (1 : Int32))), (4, .long x10), (0, .long d_), (2, .ref (ad 25)), (3, .int count_)]) rfl ?_
      refine zz_goto (tgt := 6) C dX7_mixRow_34 (by decide) ?_
      refine zz_sub [2, 3, 4, 1, 0] rfl ?_
      exact ih x10 (k_ + (1 : Int32)) _ hf kx
    refine zz_cutI (P := b1 = false) 37 [(0, .long d_), (2, .ref (ad 25)), (3, .int count_), (4, .long mixed_), (6, .int k_)] [] (zz_wc U ad σ X) (fun g5 => ?_) (fun J4 => ?_)
    · rw [if_neg (show ¬ b1 = true by rw [g5]; decide)] at hf
      cases hf
      exact kx
    refine zz_iload C 4 dX7_mixRow_6 rfl ?_
    refine zz_iload_n C 2 dX7_mixRow_8 rfl rfl ?_
    refine zz_icmp_ge (tgt := 37) C dX7_mixRow_9 (by decide) (fun g6 => ?_) (fun g6 => ?_)
    · rw [if_pos g6] at h2
      cases h2
      exact J4 rfl
    · rw [if_neg g6] at h2
      refine zz_iload C 4 dX7_mixRow_12 rfl ?_
      refine zz_aload_n C 1 dX7_mixRow_14 rfl rfl ?_
      refine zz_alen (v := (14 : Int32)) C 25 0 dX7_mixRow_15 rfl rfl rfl ?_
      refine zz_icmp_ge (tgt := 37) C dX7_mixRow_16 (by decide) (fun g7 => ?_) (fun g7 => ?_)
      · rw [if_pos g7] at h2
        cases h2
        exact J4 rfl
      · rw [if_neg g7] at h2
        cases h2
        exact J3 rfl
set_option maxHeartbeats 4000000 in
set_option maxRecDepth 100000 in
theorem mX7_mixRow_a25 {D : va_G} {U : zz_U} {ad : Nat → Nat} {X : va_W} (σ : zz_St) (d_ : Int64) (count_ : Int32) (r : Int64) (hf : fX7_mixRow_a25 σ d_ count_ = some r) : zz_Met yX7_mixRow (.code yX7_mixRow cX7_mixRow 7 (some .long)) 1 0 0 D U [.long d_, .ref (ad 25), .int count_] (zz_wc U ad σ X) (zz_ok (some (.long r)) (zz_wc U ad σ X)) zz_noth := by
  unfold fX7_mixRow_a25 at hf
  refine zz_method RX7 rfl (by decide +kernel) (Nat.le_of_ble_eq_true rfl) ?_
  intro p l e s m args below meth c A _ C
  refine zz_lvs (lv1 := [(0, .long d_), (2, .ref (ad 25)), (3, .int count_)]) rfl ?_
  refine zz_lload_n C 0 dX7_mixRow_0 rfl rfl ?_
  refine zz_lstore C dX7_mixRow_1 (by decide) (lv' := [(4, .long d_), (0, .long d_), (2, .ref (ad 25)), (3, .int count_)]) rfl ?_
  refine zz_iconst (v := (0 : Int32)) C dX7_mixRow_3 (by decide) ?_
  refine zz_istore C dX7_mixRow_4 (by decide) (lv' := [(6, .int (0 : Int32)), (4, .long d_), (0, .long d_), (2, .ref (ad 25)), (3, .int count_)]) rfl ?_
  obtain ⟨q12, h13, hf⟩ := zz_bind hf
  refine zz_sub [2, 3, 4, 1, 0] rfl ?_
  refine mX7_mixRow_a25_L1 C (Nat.le_of_ble_eq_true rfl) (Nat.le_of_ble_eq_true rfl) σ d_ count_ 1000 d_ (0 : Int32) q12 h13 ?_
  refine zz_lload C 3 dX7_mixRow_37 rfl ?_
  cases hf
  exact zz_lret C dX7_mixRow_39 (And.intro rfl rfl) (Nat.le_of_ble_eq_true rfl) (Nat.le_of_ble_eq_true rfl)
set_option maxHeartbeats 4000000 in
set_option maxRecDepth 100000 in
theorem mX7_mixRow_a42_L1 {p : Program} {l : Launch} {e : Env} {R : Room} {s : State} {m : MethodId} {args : Array Value} {below : List Frame} {meth : Method} {c : Code} {Q : State → Prop} {D : va_G} {U : zz_U} {A : Nat → Prop} {cells slots : Nat} {ad : Nat → Nat} {X : va_W} (C : zz_C p l R s m meth c D U A RX7 cX7_mixRow 7 (some .long) [] 1) (hcR : cells ≤ R.cells) (hsR : slots ≤ R.slots) (σ : zz_St) (d_ : Int64) (count_ : Int32) : ∀ (n : Nat) (mixed_ : Int64) (k_ : Int32) (q : (Int64 × Int32)), fX7_mixRow_a42_L1 σ d_ count_ n mixed_ k_ = some q → (zz_Z p l e R s m args below meth c Q D A 7 cells slots (zz_wc U ad σ X) 37 [(0, .long d_), (2, .ref (ad 42)), (3, .int count_), (4, .long q.1), (6, .int q.2)] []) → zz_Z p l e R s m args below meth c Q D A 7 cells slots (zz_wc U ad σ X) 6 [(0, .long d_), (2, .ref (ad 42)), (3, .int count_), (4, .long mixed_), (6, .int k_)] [] := by
  intro n
  induction n with
  | zero => intro mixed_ k_ q hf; rw [fX7_mixRow_a42_L1] at hf; cases hf
  | succ n ih =>
    intro mixed_ k_ q hf kx
    rw [fX7_mixRow_a42_L1] at hf
    obtain ⟨b1, h2, hf⟩ := zz_bind hf
    refine zz_cutI (P := b1 = true) 19 [(0, .long d_), (2, .ref (ad 42)), (3, .int count_), (4, .long mixed_), (6, .int k_)] [] (zz_wc U ad σ X) (fun g5 => ?_) (fun J3 => ?_)
    · rw [if_pos g5] at hf
      refine zz_lload C 3 dX7_mixRow_19 rfl ?_
      refine zz_aload_n C 1 dX7_mixRow_21 rfl rfl ?_
      refine zz_iload C 4 dX7_mixRow_22 rfl ?_
      obtain ⟨x8, h9, hf⟩ := zz_bind hf
      refine zl_42 C dX7_mixRow_24 h9 ?_
      refine zz_i2l C dX7_mixRow_25 ?_
      obtain ⟨x10, h11, hf⟩ := zz_bind hf
      refine zz_callS1 (As := [.long mixed_, .long x8.toInt64]) (rest := []) C (mX7_mix σ mixed_ x8.toInt64 x10 h11) dX7_mixRow_26 rfl zw_141 zy_X7_mix rfl (by decide) (by decide) (Nat.le_of_ble_eq_true rfl) hcR hsR rfl ?_
      refine zz_lstore C dX7_mixRow_29 (by decide) (lv' := [(4, .long x10), (0, .long d_), (2, .ref (ad 42)), (3, .int count_), (6, .int k_)]) rfl ?_
      refine zz_iinc (v := (k_ + (1 : Int32))) C 4 dX7_mixRow_31 rfl (by rfl) (by decide) (lv' := [(6, .int (k_ + (1 : Int32))), (4, .long x10), (0, .long d_), (2, .ref (ad 42)), (3, .int count_)]) rfl ?_
      refine zz_goto (tgt := 6) C dX7_mixRow_34 (by decide) ?_
      refine zz_sub [2, 3, 4, 1, 0] rfl ?_
      exact ih x10 (k_ + (1 : Int32)) _ hf kx
    refine zz_cutI (P := b1 = false) 37 [(0, .long d_), (2, .ref (ad 42)), (3, .int count_), (4, .long mixed_), (6, .int k_)] [] (zz_wc U ad σ X) (fun g5 => ?_) (fun J4 => ?_)
    · rw [if_neg (show ¬ b1 = true by rw [g5]; decide)] at hf
      cases hf
      exact kx
    refine zz_iload C 4 dX7_mixRow_6 rfl ?_
    refine zz_iload_n C 2 dX7_mixRow_8 rfl rfl ?_
    refine zz_icmp_ge (tgt := 37) C dX7_mixRow_9 (by decide) (fun g6 => ?_) (fun g6 => ?_)
    · rw [if_pos g6] at h2
      cases h2
      exact J4 rfl
    · rw [if_neg g6] at h2
      refine zz_iload C 4 dX7_mixRow_12 rfl ?_
      refine zz_aload_n C 1 dX7_mixRow_14 rfl rfl ?_
      refine zz_alen (v := (14 : Int32)) C 42 0 dX7_mixRow_15 rfl rfl rfl ?_
      refine zz_icmp_ge (tgt := 37) C dX7_mixRow_16 (by decide) (fun g7 => ?_) (fun g7 => ?_)
      · rw [if_pos g7] at h2
        cases h2
        exact J4 rfl
      · rw [if_neg g7] at h2
        cases h2
        exact J3 rfl
set_option maxHeartbeats 4000000 in
set_option maxRecDepth 100000 in
theorem mX7_mixRow_a42 {D : va_G} {U : zz_U} {ad : Nat → Nat} {X : va_W} (σ : zz_St) (d_ : Int64) (count_ : Int32) (r : Int64) (hf : fX7_mixRow_a42 σ d_ count_ = some r) : zz_Met yX7_mixRow (.code yX7_mixRow cX7_mixRow 7 (some .long)) 1 0 0 D U [.long d_, .ref (ad 42), .int count_] (zz_wc U ad σ X) (zz_ok (some (.long r)) (zz_wc U ad σ X)) zz_noth := by
  unfold fX7_mixRow_a42 at hf
  refine zz_method RX7 rfl (by decide +kernel) (Nat.le_of_ble_eq_true rfl) ?_
  intro p l e s m args below meth c A _ C
  refine zz_lvs (lv1 := [(0, .long d_), (2, .ref (ad 42)), (3, .int count_)]) rfl ?_
  refine zz_lload_n C 0 dX7_mixRow_0 rfl rfl ?_
  refine zz_lstore C dX7_mixRow_1 (by decide) (lv' := [(4, .long d_), (0, .long d_), (2, .ref (ad 42)), (3, .int count_)]) rfl ?_
  refine zz_iconst (v := (0 : Int32)) C dX7_mixRow_3 (by decide) ?_
  refine zz_istore C dX7_mixRow_4 (by decide) (lv' := [(6, .int (0 : Int32)), (4, .long d_), (0, .long d_), (2, .ref (ad 42)), (3, .int count_)]) rfl ?_
  obtain ⟨q12, h13, hf⟩ := zz_bind hf
  refine zz_sub [2, 3, 4, 1, 0] rfl ?_
  refine mX7_mixRow_a42_L1 C (Nat.le_of_ble_eq_true rfl) (Nat.le_of_ble_eq_true rfl) σ d_ count_ 1000 d_ (0 : Int32) q12 h13 ?_
  refine zz_lload C 3 dX7_mixRow_37 rfl ?_
  cases hf
  exact zz_lret C dX7_mixRow_39 (And.intro rfl rfl) (Nat.le_of_ble_eq_true rfl) (Nat.le_of_ble_eq_true rfl)
theorem dX7_digest_0 : decode cX7_digest 0 = .ok (.aload_n 0, 1) := by decide +kernel
theorem dX7_digest_1 : decode cX7_digest 1 = .ok (.invokevirtual 176, 3) := by decide +kernel
theorem dX7_digest_4 : decode cX7_digest 4 = .ok (.aload_n 0, 1) := by decide +kernel
theorem dX7_digest_5 : decode cX7_digest 5 = .ok (.getfield 12, 3) := by decide +kernel
theorem dX7_digest_8 : decode cX7_digest 8 = .ok (.ldc2_w 252, 3) := by decide +kernel
theorem dX7_digest_11 : decode cX7_digest 11 = .ok (.invokevirtual 254, 3) := by decide +kernel
theorem dX7_digest_14 : decode cX7_digest 14 = .ok (.aload_n 0, 1) := by decide +kernel
theorem dX7_digest_15 : decode cX7_digest 15 = .ok (.getfield 26, 3) := by decide +kernel
theorem dX7_digest_18 : decode cX7_digest 18 = .ok (.getfield 127, 3) := by decide +kernel
theorem dX7_digest_21 : decode cX7_digest 21 = .ok (.iconst 4, 1) := by decide +kernel
theorem dX7_digest_22 : decode cX7_digest 22 = .ok (.invokestatic 258, 3) := by decide +kernel
theorem dX7_digest_25 : decode cX7_digest 25 = .ok (.lstore_n 1, 1) := by decide +kernel
theorem dX7_digest_26 : decode cX7_digest 26 = .ok (.lload_n 1, 1) := by decide +kernel
theorem dX7_digest_27 : decode cX7_digest 27 = .ok (.aload_n 0, 1) := by decide +kernel
theorem dX7_digest_28 : decode cX7_digest 28 = .ok (.getfield 26, 3) := by decide +kernel
theorem dX7_digest_31 : decode cX7_digest 31 = .ok (.getfield 133, 3) := by decide +kernel
theorem dX7_digest_34 : decode cX7_digest 34 = .ok (.i2l, 1) := by decide +kernel
theorem dX7_digest_35 : decode cX7_digest 35 = .ok (.invokestatic 262, 3) := by decide +kernel
theorem dX7_digest_38 : decode cX7_digest 38 = .ok (.lstore_n 1, 1) := by decide +kernel
theorem dX7_digest_39 : decode cX7_digest 39 = .ok (.lload_n 1, 1) := by decide +kernel
theorem dX7_digest_40 : decode cX7_digest 40 = .ok (.aload_n 0, 1) := by decide +kernel
theorem dX7_digest_41 : decode cX7_digest 41 = .ok (.getfield 40, 3) := by decide +kernel
theorem dX7_digest_44 : decode cX7_digest 44 = .ok (.getfield 152, 3) := by decide +kernel
theorem dX7_digest_47 : decode cX7_digest 47 = .ok (.i2l, 1) := by decide +kernel
theorem dX7_digest_48 : decode cX7_digest 48 = .ok (.invokestatic 262, 3) := by decide +kernel
theorem dX7_digest_51 : decode cX7_digest 51 = .ok (.lstore_n 1, 1) := by decide +kernel
theorem dX7_digest_52 : decode cX7_digest 52 = .ok (.lload_n 1, 1) := by decide +kernel
theorem dX7_digest_53 : decode cX7_digest 53 = .ok (.aload_n 0, 1) := by decide +kernel
theorem dX7_digest_54 : decode cX7_digest 54 = .ok (.getfield 40, 3) := by decide +kernel
theorem dX7_digest_57 : decode cX7_digest 57 = .ok (.getfield 157, 3) := by decide +kernel
theorem dX7_digest_60 : decode cX7_digest 60 = .ok (.i2l, 1) := by decide +kernel
theorem dX7_digest_61 : decode cX7_digest 61 = .ok (.invokestatic 262, 3) := by decide +kernel
theorem dX7_digest_64 : decode cX7_digest 64 = .ok (.lstore_n 1, 1) := by decide +kernel
theorem dX7_digest_65 : decode cX7_digest 65 = .ok (.aload_n 0, 1) := by decide +kernel
theorem dX7_digest_66 : decode cX7_digest 66 = .ok (.getfield 19, 3) := by decide +kernel
theorem dX7_digest_69 : decode cX7_digest 69 = .ok (.lload_n 1, 1) := by decide +kernel
theorem dX7_digest_70 : decode cX7_digest 70 = .ok (.invokevirtual 266, 3) := by decide +kernel
theorem dX7_digest_73 : decode cX7_digest 73 = .ok (.lstore_n 1, 1) := by decide +kernel
theorem dX7_digest_74 : decode cX7_digest 74 = .ok (.lload_n 1, 1) := by decide +kernel
theorem dX7_digest_75 : decode cX7_digest 75 = .ok (.aload_n 0, 1) := by decide +kernel
theorem dX7_digest_76 : decode cX7_digest 76 = .ok (.getfield 40, 3) := by decide +kernel
theorem dX7_digest_79 : decode cX7_digest 79 = .ok (.getfield 179, 3) := by decide +kernel
theorem dX7_digest_82 : decode cX7_digest 82 = .ok (.i2l, 1) := by decide +kernel
theorem dX7_digest_83 : decode cX7_digest 83 = .ok (.invokestatic 262, 3) := by decide +kernel
theorem dX7_digest_86 : decode cX7_digest 86 = .ok (.aload_n 0, 1) := by decide +kernel
theorem dX7_digest_87 : decode cX7_digest 87 = .ok (.getfield 40, 3) := by decide +kernel
theorem dX7_digest_90 : decode cX7_digest 90 = .ok (.getfield 183, 3) := by decide +kernel
theorem dX7_digest_93 : decode cX7_digest 93 = .ok (.aload_n 0, 1) := by decide +kernel
theorem dX7_digest_94 : decode cX7_digest 94 = .ok (.getfield 40, 3) := by decide +kernel
theorem dX7_digest_97 : decode cX7_digest 97 = .ok (.getfield 179, 3) := by decide +kernel
theorem dX7_digest_100 : decode cX7_digest 100 = .ok (.invokestatic 258, 3) := by decide +kernel
theorem dX7_digest_103 : decode cX7_digest 103 = .ok (.lstore_n 1, 1) := by decide +kernel
theorem dX7_digest_104 : decode cX7_digest 104 = .ok (.lload_n 1, 1) := by decide +kernel
theorem dX7_digest_105 : decode cX7_digest 105 = .ok (.aload_n 0, 1) := by decide +kernel
theorem dX7_digest_106 : decode cX7_digest 106 = .ok (.getfield 47, 3) := by decide +kernel
theorem dX7_digest_109 : decode cX7_digest 109 = .ok (.getfield 205, 3) := by decide +kernel
theorem dX7_digest_112 : decode cX7_digest 112 = .ok (.i2l, 1) := by decide +kernel
theorem dX7_digest_113 : decode cX7_digest 113 = .ok (.invokestatic 262, 3) := by decide +kernel
theorem dX7_digest_116 : decode cX7_digest 116 = .ok (.aload_n 0, 1) := by decide +kernel
theorem dX7_digest_117 : decode cX7_digest 117 = .ok (.getfield 47, 3) := by decide +kernel
theorem dX7_digest_120 : decode cX7_digest 120 = .ok (.getfield 209, 3) := by decide +kernel
theorem dX7_digest_123 : decode cX7_digest 123 = .ok (.aload_n 0, 1) := by decide +kernel
theorem dX7_digest_124 : decode cX7_digest 124 = .ok (.getfield 47, 3) := by decide +kernel
theorem dX7_digest_127 : decode cX7_digest 127 = .ok (.getfield 205, 3) := by decide +kernel
theorem dX7_digest_130 : decode cX7_digest 130 = .ok (.invokestatic 258, 3) := by decide +kernel
theorem dX7_digest_133 : decode cX7_digest 133 = .ok (.lstore_n 1, 1) := by decide +kernel
theorem dX7_digest_134 : decode cX7_digest 134 = .ok (.lload_n 1, 1) := by decide +kernel
theorem dX7_digest_135 : decode cX7_digest 135 = .ok (.aload_n 0, 1) := by decide +kernel
theorem dX7_digest_136 : decode cX7_digest 136 = .ok (.invokevirtual 227, 3) := by decide +kernel
theorem dX7_digest_139 : decode cX7_digest 139 = .ok (.i2l, 1) := by decide +kernel
theorem dX7_digest_140 : decode cX7_digest 140 = .ok (.invokestatic 262, 3) := by decide +kernel
theorem dX7_digest_143 : decode cX7_digest 143 = .ok (.lreturn, 1) := by decide +kernel
set_option maxHeartbeats 4000000 in
set_option maxRecDepth 100000 in
theorem mX7_digest {D : va_G} {U : zz_U} {ad : Nat → Nat} {X : va_W} (σ : zz_St) (r : (Int64 × zz_St)) (hf : fX7_digest σ = some r) : zz_Met yX7_digest (.code yX7_digest cX7_digest 3 (some .long)) 6 0 0 D U [.ref (ad 0)] (zz_wc U ad σ X) (zz_ok (some (.long r.1)) (zz_wc U ad r.2 X)) zz_noth := by
  unfold fX7_digest at hf
  refine zz_method RX7 rfl (by decide +kernel) (Nat.le_of_ble_eq_true rfl) ?_
  intro p l e s m args below meth c A _ C
  refine zz_lvs (lv1 := [(0, .ref (ad 0))]) rfl ?_
  refine zz_aload_n C 0 dX7_digest_0 rfl rfl ?_
  obtain ⟨x1, h2, hf⟩ := zz_bind hf
  refine zz_callV1 (As := []) (rest := []) C 0 (mX7_putTogether σ x1 h2) dX7_digest_1 rfl rfl rfl zw_99 zy_X7_putTogether rfl (by decide) (by decide) (Nat.le_of_ble_eq_true rfl) (Nat.le_of_ble_eq_true rfl) (Nat.le_of_ble_eq_true rfl) rfl ?_
  refine zz_aload_n C 0 dX7_digest_4 rfl rfl ?_
  refine zf7_pieces C dX7_digest_5 zw_10 ?_
  refine zz_ldc2 (v := (173 : Int64)) C dX7_digest_8 zw_139 ?_
  obtain ⟨x3, h4, hf⟩ := zz_bind hf
  refine zz_callV1 (As := [.long (173 : Int64)]) (rest := []) C 1 (mX5_mixInto x1 (173 : Int64) x3 h4) dX7_digest_11 rfl rfl rfl zw_144 zy_X5_mixInto rfl (by decide) (by decide) (Nat.le_of_ble_eq_true rfl) (Nat.le_of_ble_eq_true rfl) (Nat.le_of_ble_eq_true rfl) rfl ?_
  refine zz_aload_n C 0 dX7_digest_14 rfl rfl ?_
  refine zf7_evidence C dX7_digest_15 zw_33 ?_
  refine zf2_weights C dX7_digest_18 zw_32 ?_
  refine zz_iconst (v := (4 : Int32)) C dX7_digest_21 (by decide) ?_
  obtain ⟨x5, h6, hf⟩ := zz_bind hf
  refine zz_callS1 (As := [.long x3, .ref (ad 20), .int (4 : Int32)]) (rest := []) C (mX7_mixRow_a20 x1 x3 (4 : Int32) x5 h6) dX7_digest_22 rfl zw_142 zy_X7_mixRow rfl (by decide) (by decide) (Nat.le_of_ble_eq_true rfl) (Nat.le_of_ble_eq_true rfl) (Nat.le_of_ble_eq_true rfl) rfl ?_
  refine zz_lstore_n C dX7_digest_25 rfl (by decide) (lv' := [(1, .long x5), (0, .ref (ad 0))]) rfl ?_
  refine zz_lload_n C 0 dX7_digest_26 rfl rfl ?_
  refine zz_aload_n C 1 dX7_digest_27 rfl rfl ?_
  refine zf7_evidence C dX7_digest_28 zw_33 ?_
  refine zf2_span C dX7_digest_31 zw_35 ?_
  refine zz_i2l C dX7_digest_34 ?_
  obtain ⟨x7, h8, hf⟩ := zz_bind hf
  refine zz_callS1 (As := [.long x5, .long ((x1 19 1)).toInt64]) (rest := []) C (mX7_mix x1 x5 (((x1 19 1)).toInt64) x7 h8) dX7_digest_35 rfl zw_141 zy_X7_mix rfl (by decide) (by decide) (Nat.le_of_ble_eq_true rfl) (Nat.le_of_ble_eq_true rfl) (Nat.le_of_ble_eq_true rfl) rfl ?_
  refine zz_lstore_n C dX7_digest_38 rfl (by decide) (lv' := [(1, .long x7), (0, .ref (ad 0))]) rfl ?_
  refine zz_lload_n C 0 dX7_digest_39 rfl rfl ?_
  refine zz_aload_n C 1 dX7_digest_40 rfl rfl ?_
  refine zf7_groups C dX7_digest_41 zw_55 ?_
  refine zf3_threshold C dX7_digest_44 zw_54 ?_
  refine zz_i2l C dX7_digest_47 ?_
  obtain ⟨x9, h10, hf⟩ := zz_bind hf
  refine zz_callS1 (As := [.long x7, .long ((x1 24 0)).toInt64]) (rest := []) C (mX7_mix x1 x7 (((x1 24 0)).toInt64) x9 h10) dX7_digest_48 rfl zw_141 zy_X7_mix rfl (by decide) (by decide) (Nat.le_of_ble_eq_true rfl) (Nat.le_of_ble_eq_true rfl) (Nat.le_of_ble_eq_true rfl) rfl ?_
  refine zz_lstore_n C dX7_digest_51 rfl (by decide) (lv' := [(1, .long x9), (0, .ref (ad 0))]) rfl ?_
  refine zz_lload_n C 0 dX7_digest_52 rfl rfl ?_
  refine zz_aload_n C 1 dX7_digest_53 rfl rfl ?_
  refine zf7_groups C dX7_digest_54 zw_55 ?_
  refine zf3_manner C dX7_digest_57 zw_56 ?_
  refine zz_i2l C dX7_digest_60 ?_
  obtain ⟨x11, h12, hf⟩ := zz_bind hf
  refine zz_callS1 (As := [.long x9, .long ((x1 24 1)).toInt64]) (rest := []) C (mX7_mix x1 x9 (((x1 24 1)).toInt64) x11 h12) dX7_digest_61 rfl zw_141 zy_X7_mix rfl (by decide) (by decide) (Nat.le_of_ble_eq_true rfl) (Nat.le_of_ble_eq_true rfl) (Nat.le_of_ble_eq_true rfl) rfl ?_
  refine zz_lstore_n C dX7_digest_64 rfl (by decide) (lv' := [(1, .long x11), (0, .ref (ad 0))]) rfl ?_
  refine zz_aload_n C 1 dX7_digest_65 rfl rfl ?_
  refine zf7_code C dX7_digest_66 zw_24 ?_
  refine zz_lload_n C 0 dX7_digest_69 rfl rfl ?_
  obtain ⟨x13, h14, hf⟩ := zz_bind hf
  refine zz_callV1 (As := [.long x11]) (rest := []) C 17 (mX1_mixInto x1 x11 x13 h14) dX7_digest_70 rfl rfl rfl zw_143 zy_X1_mixInto rfl (by decide) (by decide) (Nat.le_of_ble_eq_true rfl) (Nat.le_of_ble_eq_true rfl) (Nat.le_of_ble_eq_true rfl) rfl ?_
  refine zz_lstore_n C dX7_digest_73 rfl (by decide) (lv' := [(1, .long x13), (0, .ref (ad 0))]) rfl ?_
  refine zz_lload_n C 0 dX7_digest_74 rfl rfl ?_
  refine zz_aload_n C 1 dX7_digest_75 rfl rfl ?_
  refine zf7_groups C dX7_digest_76 zw_55 ?_
  refine zf3_count C dX7_digest_79 zw_98 ?_
  refine zz_i2l C dX7_digest_82 ?_
  obtain ⟨x15, h16, hf⟩ := zz_bind hf
  refine zz_callS1 (As := [.long x13, .long ((x1 24 2)).toInt64]) (rest := []) C (mX7_mix x1 x13 (((x1 24 2)).toInt64) x15 h16) dX7_digest_83 rfl zw_141 zy_X7_mix rfl (by decide) (by decide) (Nat.le_of_ble_eq_true rfl) (Nat.le_of_ble_eq_true rfl) (Nat.le_of_ble_eq_true rfl) rfl ?_
  refine zz_aload_n C 1 dX7_digest_86 rfl rfl ?_
  refine zf7_groups C dX7_digest_87 zw_55 ?_
  refine zf3_sets C dX7_digest_90 zw_100 ?_
  refine zz_aload_n C 1 dX7_digest_93 rfl rfl ?_
  refine zf7_groups C dX7_digest_94 zw_55 ?_
  refine zf3_count C dX7_digest_97 zw_98 ?_
  obtain ⟨x17, h18, hf⟩ := zz_bind hf
  refine zz_callS1 (As := [.long x15, .ref (ad 25), .int (x1 24 2)]) (rest := []) C (mX7_mixRow_a25 x1 x15 (x1 24 2) x17 h18) dX7_digest_100 rfl zw_142 zy_X7_mixRow rfl (by decide) (by decide) (Nat.le_of_ble_eq_true rfl) (Nat.le_of_ble_eq_true rfl) (Nat.le_of_ble_eq_true rfl) rfl ?_
  refine zz_lstore_n C dX7_digest_103 rfl (by decide) (lv' := [(1, .long x17), (0, .ref (ad 0))]) rfl ?_
  refine zz_lload_n C 0 dX7_digest_104 rfl rfl ?_
  refine zz_aload_n C 1 dX7_digest_105 rfl rfl ?_
  refine zf7_parcels C dX7_digest_106 zw_95 ?_
  refine zf4_count C dX7_digest_109 zw_108 ?_
  refine zz_i2l C dX7_digest_112 ?_
  obtain ⟨x19, h20, hf⟩ := zz_bind hf
  refine zz_callS1 (As := [.long x17, .long ((x1 41 0)).toInt64]) (rest := []) C (mX7_mix x1 x17 (((x1 41 0)).toInt64) x19 h20) dX7_digest_113 rfl zw_141 zy_X7_mix rfl (by decide) (by decide) (Nat.le_of_ble_eq_true rfl) (Nat.le_of_ble_eq_true rfl) (Nat.le_of_ble_eq_true rfl) rfl ?_
  refine zz_aload_n C 1 dX7_digest_116 rfl rfl ?_
  refine zf7_parcels C dX7_digest_117 zw_95 ?_
  refine zf4_sets C dX7_digest_120 zw_109 ?_
  refine zz_aload_n C 1 dX7_digest_123 rfl rfl ?_
  refine zf7_parcels C dX7_digest_124 zw_95 ?_
  refine zf4_count C dX7_digest_127 zw_108 ?_
  obtain ⟨x21, h22, hf⟩ := zz_bind hf
  refine zz_callS1 (As := [.long x19, .ref (ad 42), .int (x1 41 0)]) (rest := []) C (mX7_mixRow_a42 x1 x19 (x1 41 0) x21 h22) dX7_digest_130 rfl zw_142 zy_X7_mixRow rfl (by decide) (by decide) (Nat.le_of_ble_eq_true rfl) (Nat.le_of_ble_eq_true rfl) (Nat.le_of_ble_eq_true rfl) rfl ?_
  refine zz_lstore_n C dX7_digest_133 rfl (by decide) (lv' := [(1, .long x21), (0, .ref (ad 0))]) rfl ?_
  refine zz_lload_n C 0 dX7_digest_134 rfl rfl ?_
  refine zz_aload_n C 1 dX7_digest_135 rfl rfl ?_
  obtain ⟨x23, h24, hf⟩ := zz_bind hf
  refine zz_callV1 (As := []) (rest := [.long x21]) C 0 (mX7_breakageInOrder x1 x23 h24) dX7_digest_136 rfl rfl rfl zw_118 zy_X7_breakageInOrder rfl (by decide) (by decide) (Nat.le_of_ble_eq_true rfl) (Nat.le_of_ble_eq_true rfl) (Nat.le_of_ble_eq_true rfl) rfl ?_
  refine zz_i2l C dX7_digest_139 ?_
  obtain ⟨x25, h26, hf⟩ := zz_bind hf
  refine zz_callS1 (As := [.long x21, .long x23.toInt64]) (rest := []) C (mX7_mix x1 x21 x23.toInt64 x25 h26) dX7_digest_140 rfl zw_141 zy_X7_mix rfl (by decide) (by decide) (Nat.le_of_ble_eq_true rfl) (Nat.le_of_ble_eq_true rfl) (Nat.le_of_ble_eq_true rfl) rfl ?_
  cases hf
  exact zz_lret C dX7_digest_143 (And.intro rfl rfl) (Nat.le_of_ble_eq_true rfl) (Nat.le_of_ble_eq_true rfl)
