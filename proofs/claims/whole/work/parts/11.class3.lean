theorem dX4_needByWayOfOthers_0 : decode cX4_needByWayOfOthers 0 = .ok (.iconst 0, 1) := by decide +kernel
theorem dX4_needByWayOfOthers_1 : decode cX4_needByWayOfOthers 1 = .ok (.istore_n 2, 1) := by decide +kernel
theorem dX4_needByWayOfOthers_2 : decode cX4_needByWayOfOthers 2 = .ok (.iload_n 2, 1) := by decide +kernel
theorem dX4_needByWayOfOthers_3 : decode cX4_needByWayOfOthers 3 = .ok (.iload_n 1, 1) := by decide +kernel
theorem dX4_needByWayOfOthers_4 : decode cX4_needByWayOfOthers 4 = .ok (.if_icmp .ge 50, 3) := by decide +kernel
theorem dX4_needByWayOfOthers_7 : decode cX4_needByWayOfOthers 7 = .ok (.iconst 0, 1) := by decide +kernel
theorem dX4_needByWayOfOthers_8 : decode cX4_needByWayOfOthers 8 = .ok (.istore_n 3, 1) := by decide +kernel
theorem dX4_needByWayOfOthers_9 : decode cX4_needByWayOfOthers 9 = .ok (.iload_n 3, 1) := by decide +kernel
theorem dX4_needByWayOfOthers_10 : decode cX4_needByWayOfOthers 10 = .ok (.iload_n 1, 1) := by decide +kernel
theorem dX4_needByWayOfOthers_11 : decode cX4_needByWayOfOthers 11 = .ok (.if_icmp .ge 37, 3) := by decide +kernel
theorem dX4_needByWayOfOthers_14 : decode cX4_needByWayOfOthers 14 = .ok (.iload_n 2, 1) := by decide +kernel
theorem dX4_needByWayOfOthers_15 : decode cX4_needByWayOfOthers 15 = .ok (.aload_n 0, 1) := by decide +kernel
theorem dX4_needByWayOfOthers_16 : decode cX4_needByWayOfOthers 16 = .ok (.getfield 15, 3) := by decide +kernel
theorem dX4_needByWayOfOthers_19 : decode cX4_needByWayOfOthers 19 = .ok (.iload_n 3, 1) := by decide +kernel
theorem dX4_needByWayOfOthers_20 : decode cX4_needByWayOfOthers 20 = .ok (.iaload, 1) := by decide +kernel
theorem dX4_needByWayOfOthers_21 : decode cX4_needByWayOfOthers 21 = .ok (.invokestatic 55, 3) := by decide +kernel
theorem dX4_needByWayOfOthers_24 : decode cX4_needByWayOfOthers 24 = .ok (.ifCond .eq 18, 3) := by decide +kernel
theorem dX4_needByWayOfOthers_27 : decode cX4_needByWayOfOthers 27 = .ok (.aload_n 0, 1) := by decide +kernel
theorem dX4_needByWayOfOthers_28 : decode cX4_needByWayOfOthers 28 = .ok (.getfield 15, 3) := by decide +kernel
theorem dX4_needByWayOfOthers_31 : decode cX4_needByWayOfOthers 31 = .ok (.iload_n 3, 1) := by decide +kernel
theorem dX4_needByWayOfOthers_32 : decode cX4_needByWayOfOthers 32 = .ok (.dup2, 1) := by decide +kernel
theorem dX4_needByWayOfOthers_33 : decode cX4_needByWayOfOthers 33 = .ok (.iaload, 1) := by decide +kernel
theorem dX4_needByWayOfOthers_34 : decode cX4_needByWayOfOthers 34 = .ok (.aload_n 0, 1) := by decide +kernel
theorem dX4_needByWayOfOthers_35 : decode cX4_needByWayOfOthers 35 = .ok (.getfield 15, 3) := by decide +kernel
theorem dX4_needByWayOfOthers_38 : decode cX4_needByWayOfOthers 38 = .ok (.iload_n 2, 1) := by decide +kernel
theorem dX4_needByWayOfOthers_39 : decode cX4_needByWayOfOthers 39 = .ok (.iaload, 1) := by decide +kernel
theorem dX4_needByWayOfOthers_40 : decode cX4_needByWayOfOthers 40 = .ok (.ior, 1) := by decide +kernel
theorem dX4_needByWayOfOthers_41 : decode cX4_needByWayOfOthers 41 = .ok (.iastore, 1) := by decide +kernel
theorem dX4_needByWayOfOthers_42 : decode cX4_needByWayOfOthers 42 = .ok (.iinc 3 1, 3) := by decide +kernel
theorem dX4_needByWayOfOthers_45 : decode cX4_needByWayOfOthers 45 = .ok (.goto (-36), 3) := by decide +kernel
theorem dX4_needByWayOfOthers_48 : decode cX4_needByWayOfOthers 48 = .ok (.iinc 2 1, 3) := by decide +kernel
theorem dX4_needByWayOfOthers_51 : decode cX4_needByWayOfOthers 51 = .ok (.goto (-49), 3) := by decide +kernel
theorem dX4_needByWayOfOthers_54 : decode cX4_needByWayOfOthers 54 = .ok (.return_, 1) := by decide +kernel
set_option maxHeartbeats 4000000 in
set_option maxRecDepth 100000 in
theorem mX4_needByWayOfOthers_L2 {p : Program} {l : Launch} {e : Env} {R : Room} {s : State} {m : MethodId} {args : Array Value} {below : List Frame} {meth : Method} {c : Code} {Q : State → Prop} {D : va_G} {U : zz_U} {A : Nat → Prop} {cells slots : Nat} {ad : Nat → Nat} {X : va_W} (C : zz_C p l R s m meth c D U A RX4 cX4_needByWayOfOthers 4 none [] 1) (hcR : cells ≤ R.cells) (hsR : slots ≤ R.slots) (groupTotal_ : Int32) (way_ : Int32) : ∀ (n : Nat) (group_ : Int32) (σ : zz_St) (q : (Int32 × zz_St)), fX4_needByWayOfOthers_L2 groupTotal_ way_ n group_ σ = some q → (zz_Z p l e R s m args below meth c Q D A 4 cells slots (zz_wc U ad q.2 X) 48 [(0, .ref (ad 41)), (1, .int groupTotal_), (2, .int way_), (3, .int q.1)] []) → zz_Z p l e R s m args below meth c Q D A 4 cells slots (zz_wc U ad σ X) 9 [(0, .ref (ad 41)), (1, .int groupTotal_), (2, .int way_), (3, .int group_)] [] := by
  intro n
  induction n with
  | zero => intro group_ σ q hf; rw [fX4_needByWayOfOthers_L2] at hf; cases hf
  | succ n ih =>
    intro group_ σ q hf kx
    rw [fX4_needByWayOfOthers_L2] at hf
    refine zz_iload_n C 3 dX4_needByWayOfOthers_9 rfl rfl ?_
    refine zz_iload_n C 1 dX4_needByWayOfOthers_10 rfl rfl ?_
    refine zz_icmp_ge (tgt := 48) C dX4_needByWayOfOthers_11 (by decide) (fun g2 => ?_) (fun g2 => ?_)
    · rw [if_pos g2] at hf
      cases hf
      exact kx
    · rw [if_neg g2] at hf
      obtain ⟨x3, h4, hf⟩ := zz_bind hf
      refine zz_cut 42 [(0, .ref (ad 41)), (1, .int groupTotal_), (2, .int way_), (3, .int group_)] [] (zz_wc U ad x3 X) ?_ (fun J5 => ?_)
      · refine zz_iinc (v := (group_ + (1 : Int32))) C 3 dX4_needByWayOfOthers_42 rfl (by rfl) (by decide) (lv' := [(3, .int (group_ + (1 : Int32))), (0, .ref (ad 41)), (1, .int groupTotal_), (2, .int way_)]) rfl ?_
        refine zz_goto (tgt := 9) C dX4_needByWayOfOthers_45 (by decide) ?_
        refine zz_sub [1, 2, 3, 0] rfl ?_
        exact ih (group_ + (1 : Int32)) x3 _ hf kx
      refine zz_iload_n C 2 dX4_needByWayOfOthers_14 rfl rfl ?_
      refine zz_aload_n C 0 dX4_needByWayOfOthers_15 rfl rfl ?_
      refine zf4_needed C dX4_needByWayOfOthers_16 zw_81 ?_
      refine zz_iload_n C 3 dX4_needByWayOfOthers_19 rfl rfl ?_
      obtain ⟨x6, h7, h4⟩ := zz_bind h4
      refine zl_43 C dX4_needByWayOfOthers_20 h7 ?_
      obtain ⟨x8, h9, h4⟩ := zz_bind h4
      refine zz_callSN1 (host := "ChangeUntangler") (As := [.int way_, .int x6]) (rest := []) C (mX7_isIn σ way_ x6 x8 h9) dX4_needByWayOfOthers_21 rfl (by decide +kernel) zy_X7_isIn rfl (by decide) (by decide) (Nat.le_of_ble_eq_true rfl) hcR hsR rfl ?_
      refine zz_if_eq (tgt := 42) C dX4_needByWayOfOthers_24 (by decide) (fun g10 => ?_) (fun g10 => ?_)
      · rw [if_pos g10] at h4
        cases h4
        exact J5
      · rw [if_neg g10] at h4
        refine zz_aload_n C 0 dX4_needByWayOfOthers_27 rfl rfl ?_
        refine zf4_needed C dX4_needByWayOfOthers_28 zw_81 ?_
        refine zz_iload_n C 3 dX4_needByWayOfOthers_31 rfl rfl ?_
        refine zz_dup2_11 C dX4_needByWayOfOthers_32 rfl rfl ?_
        obtain ⟨x11, h12, h4⟩ := zz_bind h4
        refine zl_43 C dX4_needByWayOfOthers_33 h12 ?_
        refine zz_aload_n C 0 dX4_needByWayOfOthers_34 rfl rfl ?_
        refine zf4_needed C dX4_needByWayOfOthers_35 zw_81 ?_
        refine zz_iload_n C 2 dX4_needByWayOfOthers_38 rfl rfl ?_
        obtain ⟨x13, h14, h4⟩ := zz_bind h4
        refine zl_43 C dX4_needByWayOfOthers_39 h14 ?_
        refine zz_ior C dX4_needByWayOfOthers_40 ?_
        obtain ⟨σ15, h16, h4⟩ := zz_bind h4
        refine zs_43 C dX4_needByWayOfOthers_41 h16 ?_
        cases h4
        exact J5
set_option maxHeartbeats 4000000 in
set_option maxRecDepth 100000 in
theorem mX4_needByWayOfOthers_L1 {p : Program} {l : Launch} {e : Env} {R : Room} {s : State} {m : MethodId} {args : Array Value} {below : List Frame} {meth : Method} {c : Code} {Q : State → Prop} {D : va_G} {U : zz_U} {A : Nat → Prop} {cells slots : Nat} {ad : Nat → Nat} {X : va_W} (C : zz_C p l R s m meth c D U A RX4 cX4_needByWayOfOthers 4 none [] 1) (hcR : cells ≤ R.cells) (hsR : slots ≤ R.slots) (groupTotal_ : Int32) : ∀ (n : Nat) (way_ : Int32) (σ : zz_St) (q : (Int32 × zz_St)), fX4_needByWayOfOthers_L1 groupTotal_ n way_ σ = some q → (zz_Z p l e R s m args below meth c Q D A 4 cells slots (zz_wc U ad q.2 X) 54 [(0, .ref (ad 41)), (1, .int groupTotal_), (2, .int q.1)] []) → zz_Z p l e R s m args below meth c Q D A 4 cells slots (zz_wc U ad σ X) 2 [(0, .ref (ad 41)), (1, .int groupTotal_), (2, .int way_)] [] := by
  intro n
  induction n with
  | zero => intro way_ σ q hf; rw [fX4_needByWayOfOthers_L1] at hf; cases hf
  | succ n ih =>
    intro way_ σ q hf kx
    rw [fX4_needByWayOfOthers_L1] at hf
    refine zz_iload_n C 2 dX4_needByWayOfOthers_2 rfl rfl ?_
    refine zz_iload_n C 1 dX4_needByWayOfOthers_3 rfl rfl ?_
    refine zz_icmp_ge (tgt := 54) C dX4_needByWayOfOthers_4 (by decide) (fun g1 => ?_) (fun g1 => ?_)
    · rw [if_pos g1] at hf
      cases hf
      exact kx
    · rw [if_neg g1] at hf
      refine zz_iconst (v := (0 : Int32)) C dX4_needByWayOfOthers_7 (by decide) ?_
      refine zz_istore_n C dX4_needByWayOfOthers_8 rfl (by decide) (lv' := [(3, .int (0 : Int32)), (0, .ref (ad 41)), (1, .int groupTotal_), (2, .int way_)]) rfl ?_
      obtain ⟨q17, h18, hf⟩ := zz_bind hf
      refine zz_sub [1, 2, 3, 0] rfl ?_
      refine mX4_needByWayOfOthers_L2 C hcR hsR groupTotal_ way_ 1000 (0 : Int32) σ q17 h18 ?_
      refine zz_iinc (v := (way_ + (1 : Int32))) C 2 dX4_needByWayOfOthers_48 rfl (by rfl) (by decide) (lv' := [(2, .int (way_ + (1 : Int32))), (0, .ref (ad 41)), (1, .int groupTotal_), (3, .int q17.1)]) rfl ?_
      refine zz_goto (tgt := 2) C dX4_needByWayOfOthers_51 (by decide) ?_
      refine zz_sub [1, 2, 0] rfl ?_
      exact ih (way_ + (1 : Int32)) q17.2 _ hf kx
set_option maxHeartbeats 4000000 in
set_option maxRecDepth 100000 in
theorem mX4_needByWayOfOthers {D : va_G} {U : zz_U} {ad : Nat → Nat} {X : va_W} (σ : zz_St) (groupTotal_ : Int32) (r : zz_St) (hf : fX4_needByWayOfOthers σ groupTotal_ = some r) : zz_Met yX4_needByWayOfOthers (.code yX4_needByWayOfOthers cX4_needByWayOfOthers 4 none) 1 0 0 D U [.ref (ad 41), .int groupTotal_] (zz_wc U ad σ X) (zz_ok none (zz_wc U ad r X)) zz_noth := by
  unfold fX4_needByWayOfOthers at hf
  refine zz_method RX4 rfl (by decide +kernel) (Nat.le_of_ble_eq_true rfl) ?_
  intro p l e s m args below meth c A _ C
  refine zz_lvs (lv1 := [(0, .ref (ad 41)), (1, .int groupTotal_)]) rfl ?_
  refine zz_iconst (v := (0 : Int32)) C dX4_needByWayOfOthers_0 (by decide) ?_
  refine zz_istore_n C dX4_needByWayOfOthers_1 rfl (by decide) (lv' := [(2, .int (0 : Int32)), (0, .ref (ad 41)), (1, .int groupTotal_)]) rfl ?_
  obtain ⟨q19, h20, hf⟩ := zz_bind hf
  refine zz_sub [1, 2, 0] rfl ?_
  refine mX4_needByWayOfOthers_L1 C (Nat.le_of_ble_eq_true rfl) (Nat.le_of_ble_eq_true rfl) groupTotal_ 1000 (0 : Int32) σ q19 h20 ?_
  cases hf
  exact zz_vret C dX4_needByWayOfOthers_54 (And.intro rfl rfl) (Nat.le_of_ble_eq_true rfl) (Nat.le_of_ble_eq_true rfl)
theorem dX4_circleOf_0 : decode cX4_circleOf 0 = .ok (.iconst 1, 1) := by decide +kernel
theorem dX4_circleOf_1 : decode cX4_circleOf 1 = .ok (.iload_n 1, 1) := by decide +kernel
theorem dX4_circleOf_2 : decode cX4_circleOf 2 = .ok (.ishl, 1) := by decide +kernel
theorem dX4_circleOf_3 : decode cX4_circleOf 3 = .ok (.istore_n 3, 1) := by decide +kernel
theorem dX4_circleOf_4 : decode cX4_circleOf 4 = .ok (.iconst 0, 1) := by decide +kernel
theorem dX4_circleOf_5 : decode cX4_circleOf 5 = .ok (.istore 4, 2) := by decide +kernel
theorem dX4_circleOf_7 : decode cX4_circleOf 7 = .ok (.iload 4, 2) := by decide +kernel
theorem dX4_circleOf_9 : decode cX4_circleOf 9 = .ok (.iload_n 2, 1) := by decide +kernel
theorem dX4_circleOf_10 : decode cX4_circleOf 10 = .ok (.if_icmp .ge 44, 3) := by decide +kernel
theorem dX4_circleOf_13 : decode cX4_circleOf 13 = .ok (.iload 4, 2) := by decide +kernel
theorem dX4_circleOf_15 : decode cX4_circleOf 15 = .ok (.aload_n 0, 1) := by decide +kernel
theorem dX4_circleOf_16 : decode cX4_circleOf 16 = .ok (.getfield 15, 3) := by decide +kernel
theorem dX4_circleOf_19 : decode cX4_circleOf 19 = .ok (.iload_n 1, 1) := by decide +kernel
theorem dX4_circleOf_20 : decode cX4_circleOf 20 = .ok (.iaload, 1) := by decide +kernel
theorem dX4_circleOf_21 : decode cX4_circleOf 21 = .ok (.invokestatic 55, 3) := by decide +kernel
theorem dX4_circleOf_24 : decode cX4_circleOf 24 = .ok (.ifCond .eq 24, 3) := by decide +kernel
theorem dX4_circleOf_27 : decode cX4_circleOf 27 = .ok (.iload_n 1, 1) := by decide +kernel
theorem dX4_circleOf_28 : decode cX4_circleOf 28 = .ok (.aload_n 0, 1) := by decide +kernel
theorem dX4_circleOf_29 : decode cX4_circleOf 29 = .ok (.getfield 15, 3) := by decide +kernel
theorem dX4_circleOf_32 : decode cX4_circleOf 32 = .ok (.iload 4, 2) := by decide +kernel
theorem dX4_circleOf_34 : decode cX4_circleOf 34 = .ok (.iaload, 1) := by decide +kernel
theorem dX4_circleOf_35 : decode cX4_circleOf 35 = .ok (.invokestatic 55, 3) := by decide +kernel
theorem dX4_circleOf_38 : decode cX4_circleOf 38 = .ok (.ifCond .eq 10, 3) := by decide +kernel
theorem dX4_circleOf_41 : decode cX4_circleOf 41 = .ok (.iload_n 3, 1) := by decide +kernel
theorem dX4_circleOf_42 : decode cX4_circleOf 42 = .ok (.iconst 1, 1) := by decide +kernel
theorem dX4_circleOf_43 : decode cX4_circleOf 43 = .ok (.iload 4, 2) := by decide +kernel
theorem dX4_circleOf_45 : decode cX4_circleOf 45 = .ok (.ishl, 1) := by decide +kernel
theorem dX4_circleOf_46 : decode cX4_circleOf 46 = .ok (.ior, 1) := by decide +kernel
theorem dX4_circleOf_47 : decode cX4_circleOf 47 = .ok (.istore_n 3, 1) := by decide +kernel
theorem dX4_circleOf_48 : decode cX4_circleOf 48 = .ok (.iinc 4 1, 3) := by decide +kernel
theorem dX4_circleOf_51 : decode cX4_circleOf 51 = .ok (.goto (-44), 3) := by decide +kernel
theorem dX4_circleOf_54 : decode cX4_circleOf 54 = .ok (.iload_n 3, 1) := by decide +kernel
theorem dX4_circleOf_55 : decode cX4_circleOf 55 = .ok (.ireturn, 1) := by decide +kernel
set_option maxHeartbeats 4000000 in
set_option maxRecDepth 100000 in
theorem mX4_circleOf_L1 {p : Program} {l : Launch} {e : Env} {R : Room} {s : State} {m : MethodId} {args : Array Value} {below : List Frame} {meth : Method} {c : Code} {Q : State → Prop} {D : va_G} {U : zz_U} {A : Nat → Prop} {cells slots : Nat} {ad : Nat → Nat} {X : va_W} (C : zz_C p l R s m meth c D U A RX4 cX4_circleOf 5 (some .int) [] 1) (hcR : cells ≤ R.cells) (hsR : slots ≤ R.slots) (σ : zz_St) (group_ : Int32) (groupTotal_ : Int32) : ∀ (n : Nat) (circle_ : Int32) (other_ : Int32) (q : (Int32 × Int32)), fX4_circleOf_L1 σ group_ groupTotal_ n circle_ other_ = some q → (zz_Z p l e R s m args below meth c Q D A 5 cells slots (zz_wc U ad σ X) 54 [(0, .ref (ad 41)), (1, .int group_), (2, .int groupTotal_), (3, .int q.1), (4, .int q.2)] []) → zz_Z p l e R s m args below meth c Q D A 5 cells slots (zz_wc U ad σ X) 7 [(0, .ref (ad 41)), (1, .int group_), (2, .int groupTotal_), (3, .int circle_), (4, .int other_)] [] := by
  intro n
  induction n with
  | zero => intro circle_ other_ q hf; rw [fX4_circleOf_L1] at hf; cases hf
  | succ n ih =>
    intro circle_ other_ q hf kx
    rw [fX4_circleOf_L1] at hf
    refine zz_iload C 4 dX4_circleOf_7 rfl ?_
    refine zz_iload_n C 2 dX4_circleOf_9 rfl rfl ?_
    refine zz_icmp_ge (tgt := 54) C dX4_circleOf_10 (by decide) (fun g3 => ?_) (fun g3 => ?_)
    · rw [if_pos g3] at hf
      cases hf
      exact kx
    · rw [if_neg g3] at hf
      obtain ⟨x4, h5, hf⟩ := zz_bind hf
      refine zz_cut 48 [(0, .ref (ad 41)), (1, .int group_), (2, .int groupTotal_), (3, .int x4), (4, .int other_)] [] (zz_wc U ad σ X) ?_ (fun J6 => ?_)
      · refine zz_iinc (v := (other_ + (1 : Int32))) C 4 dX4_circleOf_48 rfl (by rfl) (by decide) (lv' := [(4, .int (other_ + (1 : Int32))), (0, .ref (ad 41)), (1, .int group_), (2, .int groupTotal_), (3, .int x4)]) rfl ?_
        refine zz_goto (tgt := 7) C dX4_circleOf_51 (by decide) ?_
        refine zz_sub [1, 2, 3, 4, 0] rfl ?_
        exact ih x4 (other_ + (1 : Int32)) _ hf kx
      obtain ⟨b7, h8, h5⟩ := zz_bind h5
      refine zz_cutI (P := b7 = true) 41 [(0, .ref (ad 41)), (1, .int group_), (2, .int groupTotal_), (3, .int circle_), (4, .int other_)] [] (zz_wc U ad σ X) (fun g11 => ?_) (fun J9 => ?_)
      · rw [if_pos g11] at h5
        refine zz_iload_n C 3 dX4_circleOf_41 rfl rfl ?_
        refine zz_iconst (v := (1 : Int32)) C dX4_circleOf_42 (by decide) ?_
        refine zz_iload C 4 dX4_circleOf_43 rfl ?_
        refine zz_ishl C dX4_circleOf_45 ?_
        refine zz_ior C dX4_circleOf_46 ?_
        obtain ⟨x22, h23, h5⟩ := zz_bind h5
        refine zz_topi (Option.some.inj h23) ?_
        refine zz_istore_n C dX4_circleOf_47 rfl (by decide) (lv' := [(3, .int x22), (0, .ref (ad 41)), (1, .int group_), (2, .int groupTotal_), (4, .int other_)]) rfl ?_
        refine zz_sub [1, 2, 3, 0, 4] rfl ?_
        cases h5
        exact J6
      refine zz_cutI (P := b7 = false) 48 [(0, .ref (ad 41)), (1, .int group_), (2, .int groupTotal_), (3, .int circle_), (4, .int other_)] [] (zz_wc U ad σ X) (fun g11 => ?_) (fun J10 => ?_)
      · rw [if_neg (show ¬ b7 = true by rw [g11]; decide)] at h5
        cases h5
        exact J6
      refine zz_iload C 4 dX4_circleOf_13 rfl ?_
      refine zz_aload_n C 0 dX4_circleOf_15 rfl rfl ?_
      refine zf4_needed C dX4_circleOf_16 zw_81 ?_
      refine zz_iload_n C 1 dX4_circleOf_19 rfl rfl ?_
      obtain ⟨x12, h13, h8⟩ := zz_bind h8
      refine zl_43 C dX4_circleOf_20 h13 ?_
      obtain ⟨x14, h15, h8⟩ := zz_bind h8
      refine zz_callSN1 (host := "ChangeUntangler") (As := [.int other_, .int x12]) (rest := []) C (mX7_isIn σ other_ x12 x14 h15) dX4_circleOf_21 rfl (by decide +kernel) zy_X7_isIn rfl (by decide) (by decide) (Nat.le_of_ble_eq_true rfl) hcR hsR rfl ?_
      refine zz_if_eq (tgt := 48) C dX4_circleOf_24 (by decide) (fun g16 => ?_) (fun g16 => ?_)
      · rw [if_pos g16] at h8
        cases h8
        exact J10 rfl
      · rw [if_neg g16] at h8
        refine zz_iload_n C 1 dX4_circleOf_27 rfl rfl ?_
        refine zz_aload_n C 0 dX4_circleOf_28 rfl rfl ?_
        refine zf4_needed C dX4_circleOf_29 zw_81 ?_
        refine zz_iload C 4 dX4_circleOf_32 rfl ?_
        obtain ⟨x17, h18, h8⟩ := zz_bind h8
        refine zl_43 C dX4_circleOf_34 h18 ?_
        obtain ⟨x19, h20, h8⟩ := zz_bind h8
        refine zz_callSN1 (host := "ChangeUntangler") (As := [.int group_, .int x17]) (rest := []) C (mX7_isIn σ group_ x17 x19 h20) dX4_circleOf_35 rfl (by decide +kernel) zy_X7_isIn rfl (by decide) (by decide) (Nat.le_of_ble_eq_true rfl) hcR hsR rfl ?_
        refine zz_if_eq (tgt := 48) C dX4_circleOf_38 (by decide) (fun g21 => ?_) (fun g21 => ?_)
        · rw [if_pos g21] at h8
          cases h8
          exact J10 rfl
        · rw [if_neg g21] at h8
          cases h8
          exact J9 rfl
set_option maxHeartbeats 4000000 in
set_option maxRecDepth 100000 in
theorem mX4_circleOf {D : va_G} {U : zz_U} {ad : Nat → Nat} {X : va_W} (σ : zz_St) (group_ : Int32) (groupTotal_ : Int32) (r : Int32) (hf : fX4_circleOf σ group_ groupTotal_ = some r) : zz_Met yX4_circleOf (.code yX4_circleOf cX4_circleOf 5 (some .int)) 1 0 0 D U [.ref (ad 41), .int group_, .int groupTotal_] (zz_wc U ad σ X) (zz_ok (some (.int r)) (zz_wc U ad σ X)) zz_noth := by
  unfold fX4_circleOf at hf
  refine zz_method RX4 rfl (by decide +kernel) (Nat.le_of_ble_eq_true rfl) ?_
  intro p l e s m args below meth c A _ C
  refine zz_lvs (lv1 := [(0, .ref (ad 41)), (1, .int group_), (2, .int groupTotal_)]) rfl ?_
  refine zz_iconst (v := (1 : Int32)) C dX4_circleOf_0 (by decide) ?_
  refine zz_iload_n C 1 dX4_circleOf_1 rfl rfl ?_
  refine zz_ishl C dX4_circleOf_2 ?_
  obtain ⟨x1, h2, hf⟩ := zz_bind hf
  refine zz_topi (Option.some.inj h2) ?_
  refine zz_istore_n C dX4_circleOf_3 rfl (by decide) (lv' := [(3, .int x1), (0, .ref (ad 41)), (1, .int group_), (2, .int groupTotal_)]) rfl ?_
  refine zz_iconst (v := (0 : Int32)) C dX4_circleOf_4 (by decide) ?_
  refine zz_istore C dX4_circleOf_5 (by decide) (lv' := [(4, .int (0 : Int32)), (3, .int x1), (0, .ref (ad 41)), (1, .int group_), (2, .int groupTotal_)]) rfl ?_
  obtain ⟨q24, h25, hf⟩ := zz_bind hf
  refine zz_sub [2, 3, 4, 1, 0] rfl ?_
  refine mX4_circleOf_L1 C (Nat.le_of_ble_eq_true rfl) (Nat.le_of_ble_eq_true rfl) σ group_ groupTotal_ 1000 x1 (0 : Int32) q24 h25 ?_
  refine zz_iload_n C 3 dX4_circleOf_54 rfl rfl ?_
  cases hf
  exact zz_iret C dX4_circleOf_55 (And.intro rfl rfl) (Nat.le_of_ble_eq_true rfl) (Nat.le_of_ble_eq_true rfl)
theorem dX4_nextCircle_0 : decode cX4_nextCircle 0 = .ok (.iconst 0, 1) := by decide +kernel
theorem dX4_nextCircle_1 : decode cX4_nextCircle 1 = .ok (.istore_n 3, 1) := by decide +kernel
theorem dX4_nextCircle_2 : decode cX4_nextCircle 2 = .ok (.iload_n 3, 1) := by decide +kernel
theorem dX4_nextCircle_3 : decode cX4_nextCircle 3 = .ok (.iload_n 1, 1) := by decide +kernel
theorem dX4_nextCircle_4 : decode cX4_nextCircle 4 = .ok (.if_icmp .ge 58, 3) := by decide +kernel
theorem dX4_nextCircle_7 : decode cX4_nextCircle 7 = .ok (.aload_n 0, 1) := by decide +kernel
theorem dX4_nextCircle_8 : decode cX4_nextCircle 8 = .ok (.iload_n 3, 1) := by decide +kernel
theorem dX4_nextCircle_9 : decode cX4_nextCircle 9 = .ok (.iload_n 1, 1) := by decide +kernel
theorem dX4_nextCircle_10 : decode cX4_nextCircle 10 = .ok (.invokevirtual 59, 3) := by decide +kernel
theorem dX4_nextCircle_13 : decode cX4_nextCircle 13 = .ok (.istore 4, 2) := by decide +kernel
theorem dX4_nextCircle_15 : decode cX4_nextCircle 15 = .ok (.aload_n 0, 1) := by decide +kernel
theorem dX4_nextCircle_16 : decode cX4_nextCircle 16 = .ok (.getfield 15, 3) := by decide +kernel
theorem dX4_nextCircle_19 : decode cX4_nextCircle 19 = .ok (.iload_n 3, 1) := by decide +kernel
theorem dX4_nextCircle_20 : decode cX4_nextCircle 20 = .ok (.iaload, 1) := by decide +kernel
theorem dX4_nextCircle_21 : decode cX4_nextCircle 21 = .ok (.iload 4, 2) := by decide +kernel
theorem dX4_nextCircle_23 : decode cX4_nextCircle 23 = .ok (.iconst (-1), 1) := by decide +kernel
theorem dX4_nextCircle_24 : decode cX4_nextCircle 24 = .ok (.ixor, 1) := by decide +kernel
theorem dX4_nextCircle_25 : decode cX4_nextCircle 25 = .ok (.iand, 1) := by decide +kernel
theorem dX4_nextCircle_26 : decode cX4_nextCircle 26 = .ok (.iload_n 2, 1) := by decide +kernel
theorem dX4_nextCircle_27 : decode cX4_nextCircle 27 = .ok (.iconst (-1), 1) := by decide +kernel
theorem dX4_nextCircle_28 : decode cX4_nextCircle 28 = .ok (.ixor, 1) := by decide +kernel
theorem dX4_nextCircle_29 : decode cX4_nextCircle 29 = .ok (.iand, 1) := by decide +kernel
theorem dX4_nextCircle_30 : decode cX4_nextCircle 30 = .ok (.ifCond .ne 7, 3) := by decide +kernel
theorem dX4_nextCircle_33 : decode cX4_nextCircle 33 = .ok (.iconst 1, 1) := by decide +kernel
theorem dX4_nextCircle_34 : decode cX4_nextCircle 34 = .ok (.goto 4, 3) := by decide +kernel
theorem dX4_nextCircle_37 : decode cX4_nextCircle 37 = .ok (.iconst 0, 1) := by decide +kernel
theorem dX4_nextCircle_38 : decode cX4_nextCircle 38 = .ok (.istore 5, 2) := by decide +kernel
theorem dX4_nextCircle_40 : decode cX4_nextCircle 40 = .ok (.iload_n 3, 1) := by decide +kernel
theorem dX4_nextCircle_41 : decode cX4_nextCircle 41 = .ok (.iload_n 2, 1) := by decide +kernel
theorem dX4_nextCircle_42 : decode cX4_nextCircle 42 = .ok (.invokestatic 55, 3) := by decide +kernel
theorem dX4_nextCircle_45 : decode cX4_nextCircle 45 = .ok (.ifCond .ne 11, 3) := by decide +kernel
theorem dX4_nextCircle_48 : decode cX4_nextCircle 48 = .ok (.iload 5, 2) := by decide +kernel
theorem dX4_nextCircle_50 : decode cX4_nextCircle 50 = .ok (.ifCond .eq 6, 3) := by decide +kernel
theorem dX4_nextCircle_53 : decode cX4_nextCircle 53 = .ok (.iload 4, 2) := by decide +kernel
theorem dX4_nextCircle_55 : decode cX4_nextCircle 55 = .ok (.ireturn, 1) := by decide +kernel
theorem dX4_nextCircle_56 : decode cX4_nextCircle 56 = .ok (.iinc 3 1, 3) := by decide +kernel
theorem dX4_nextCircle_59 : decode cX4_nextCircle 59 = .ok (.goto (-57), 3) := by decide +kernel
theorem dX4_nextCircle_62 : decode cX4_nextCircle 62 = .ok (.iconst 0, 1) := by decide +kernel
theorem dX4_nextCircle_63 : decode cX4_nextCircle 63 = .ok (.ireturn, 1) := by decide +kernel
set_option maxHeartbeats 4000000 in
set_option maxRecDepth 100000 in
theorem mX4_nextCircle_L1 {p : Program} {l : Launch} {e : Env} {R : Room} {s : State} {m : MethodId} {args : Array Value} {below : List Frame} {meth : Method} {c : Code} {Q : State → Prop} {D : va_G} {U : zz_U} {A : Nat → Prop} {cells slots : Nat} {ad : Nat → Nat} {X : va_W} (C : zz_C p l R s m meth c D U A RX4 cX4_nextCircle 6 (some .int) [] 2) (hcR : cells ≤ R.cells) (hsR : slots ≤ R.slots) (σ : zz_St) (groupTotal_ : Int32) (placed_ : Int32) : ∀ (n : Nat) (group_ : Int32) (q : (Int32 ⊕ (Int32))), fX4_nextCircle_L1 σ groupTotal_ placed_ n group_ = some q → (∀ v : Int32, q = .inl v → zz_Z p l e R s m args below meth c Q D A 6 cells slots (zz_wc U ad σ X) 55 [] [.int v]) → (∀ w : Int32, q = .inr w → zz_Z p l e R s m args below meth c Q D A 6 cells slots (zz_wc U ad σ X) 62 [(0, .ref (ad 41)), (1, .int groupTotal_), (2, .int placed_), (3, .int w)] []) → zz_Z p l e R s m args below meth c Q D A 6 cells slots (zz_wc U ad σ X) 2 [(0, .ref (ad 41)), (1, .int groupTotal_), (2, .int placed_), (3, .int group_)] [] := by
  intro n
  induction n with
  | zero => intro group_ q hf; rw [fX4_nextCircle_L1] at hf; cases hf
  | succ n ih =>
    intro group_ q hf kr kx
    rw [fX4_nextCircle_L1] at hf
    refine zz_iload_n C 3 dX4_nextCircle_2 rfl rfl ?_
    refine zz_iload_n C 1 dX4_nextCircle_3 rfl rfl ?_
    refine zz_icmp_ge (tgt := 62) C dX4_nextCircle_4 (by decide) (fun g1 => ?_) (fun g1 => ?_)
    · rw [if_pos g1] at hf
      cases hf
      exact kx _ rfl
    · rw [if_neg g1] at hf
      refine zz_aload_n C 0 dX4_nextCircle_7 rfl rfl ?_
      refine zz_iload_n C 3 dX4_nextCircle_8 rfl rfl ?_
      refine zz_iload_n C 1 dX4_nextCircle_9 rfl rfl ?_
      obtain ⟨x2, h3, hf⟩ := zz_bind hf
      refine zz_callV1 (As := [.int group_, .int groupTotal_]) (rest := []) C 41 (mX4_circleOf σ group_ groupTotal_ x2 h3) dX4_nextCircle_10 rfl rfl rfl zw_85 zy_X4_circleOf rfl (by decide) (by decide) (Nat.le_of_ble_eq_true rfl) hcR hsR rfl ?_
      refine zz_istore C dX4_nextCircle_13 (by decide) (lv' := [(4, .int x2), (0, .ref (ad 41)), (1, .int groupTotal_), (2, .int placed_), (3, .int group_)]) rfl ?_
      obtain ⟨b4, h5, hf⟩ := zz_bind hf
      refine zz_cut 38 [(4, .int x2), (0, .ref (ad 41)), (1, .int groupTotal_), (2, .int placed_), (3, .int group_)] [.int (zz_bi b4)] (zz_wc U ad σ X) ?_ (fun J6 => ?_)
      · obtain ⟨x10, h11, hf⟩ := zz_bind hf
        refine zz_topi (Option.some.inj h11) ?_
        refine zz_istore C dX4_nextCircle_38 (by decide) (lv' := [(5, .int x10), (4, .int x2), (0, .ref (ad 41)), (1, .int groupTotal_), (2, .int placed_), (3, .int group_)]) rfl ?_
        obtain ⟨b12, h13, hf⟩ := zz_bind hf
        refine zz_cutI (P := b12 = true) 53 [(5, .int x10), (4, .int x2), (0, .ref (ad 41)), (1, .int groupTotal_), (2, .int placed_), (3, .int group_)] [] (zz_wc U ad σ X) (fun g16 => ?_) (fun J14 => ?_)
        · rw [if_pos g16] at hf
          refine zz_iload C 1 dX4_nextCircle_53 rfl ?_
          cases hf
          refine zz_sub [] rfl ?_
          exact kr _ rfl
        refine zz_cutI (P := b12 = false) 56 [(5, .int x10), (4, .int x2), (0, .ref (ad 41)), (1, .int groupTotal_), (2, .int placed_), (3, .int group_)] [] (zz_wc U ad σ X) (fun g16 => ?_) (fun J15 => ?_)
        · rw [if_neg (show ¬ b12 = true by rw [g16]; decide)] at hf
          refine zz_iinc (v := (group_ + (1 : Int32))) C 5 dX4_nextCircle_56 rfl (by rfl) (by decide) (lv' := [(3, .int (group_ + (1 : Int32))), (5, .int x10), (4, .int x2), (0, .ref (ad 41)), (1, .int groupTotal_), (2, .int placed_)]) rfl ?_
          refine zz_goto (tgt := 2) C dX4_nextCircle_59 (by decide) ?_
          refine zz_sub [3, 4, 5, 0] rfl ?_
          exact ih (group_ + (1 : Int32)) _ hf kr kx
        refine zz_iload_n C 5 dX4_nextCircle_40 rfl rfl ?_
        refine zz_iload_n C 4 dX4_nextCircle_41 rfl rfl ?_
        obtain ⟨x17, h18, h13⟩ := zz_bind h13
        refine zz_callSN1 (host := "ChangeUntangler") (As := [.int group_, .int placed_]) (rest := []) C (mX7_isIn σ group_ placed_ x17 h18) dX4_nextCircle_42 rfl (by decide +kernel) zy_X7_isIn rfl (by decide) (by decide) (Nat.le_of_ble_eq_true rfl) hcR hsR rfl ?_
        refine zz_if_ne (tgt := 56) C dX4_nextCircle_45 (by decide) (fun g19 => ?_) (fun g19 => ?_)
        · rw [if_neg g19] at h13
          cases h13
          exact J15 rfl
        · rw [if_pos g19] at h13
          refine zz_iload C 0 dX4_nextCircle_48 rfl ?_
          refine zz_if_eq (tgt := 56) C dX4_nextCircle_50 (by decide) (fun g20 => ?_) (fun g20 => ?_)
          · rw [if_pos g20] at h13
            cases h13
            exact J15 rfl
          · rw [if_neg g20] at h13
            cases h13
            exact J14 rfl
      refine zz_aload_n C 1 dX4_nextCircle_15 rfl rfl ?_
      refine zf4_needed C dX4_nextCircle_16 zw_81 ?_
      refine zz_iload_n C 4 dX4_nextCircle_19 rfl rfl ?_
      obtain ⟨x7, h8, h5⟩ := zz_bind h5
      refine zl_43 C dX4_nextCircle_20 h8 ?_
      refine zz_iload C 0 dX4_nextCircle_21 rfl ?_
      refine zz_iconst (v := (-1 : Int32)) C dX4_nextCircle_23 (by decide) ?_
      refine zz_ixor C dX4_nextCircle_24 ?_
      refine zz_iand C dX4_nextCircle_25 ?_
      refine zz_iload_n C 3 dX4_nextCircle_26 rfl rfl ?_
      refine zz_iconst (v := (-1 : Int32)) C dX4_nextCircle_27 (by decide) ?_
      refine zz_ixor C dX4_nextCircle_28 ?_
      refine zz_iand C dX4_nextCircle_29 ?_
      refine zz_if_ne (tgt := 37) C dX4_nextCircle_30 (by decide) (fun g9 => ?_) (fun g9 => ?_)
      · rw [if_neg g9] at h5
        refine zz_iconst (v := 0) C dX4_nextCircle_37 (by decide) ?_
        cases h5
        exact J6
      · rw [if_pos g9] at h5
        refine zz_iconst (v := 1) C dX4_nextCircle_33 (by decide) ?_
        refine zz_goto (tgt := 38) C dX4_nextCircle_34 (by decide) ?_
        cases h5
        exact J6
set_option maxHeartbeats 4000000 in
set_option maxRecDepth 100000 in
theorem mX4_nextCircle {D : va_G} {U : zz_U} {ad : Nat → Nat} {X : va_W} (σ : zz_St) (groupTotal_ : Int32) (placed_ : Int32) (r : Int32) (hf : fX4_nextCircle σ groupTotal_ placed_ = some r) : zz_Met yX4_nextCircle (.code yX4_nextCircle cX4_nextCircle 6 (some .int)) 2 0 0 D U [.ref (ad 41), .int groupTotal_, .int placed_] (zz_wc U ad σ X) (zz_ok (some (.int r)) (zz_wc U ad σ X)) zz_noth := by
  unfold fX4_nextCircle at hf
  refine zz_method RX4 rfl (by decide +kernel) (Nat.le_of_ble_eq_true rfl) ?_
  intro p l e s m args below meth c A _ C
  refine zz_lvs (lv1 := [(0, .ref (ad 41)), (1, .int groupTotal_), (2, .int placed_)]) rfl ?_
  refine zz_iconst (v := (0 : Int32)) C dX4_nextCircle_0 (by decide) ?_
  refine zz_istore_n C dX4_nextCircle_1 rfl (by decide) (lv' := [(3, .int (0 : Int32)), (0, .ref (ad 41)), (1, .int groupTotal_), (2, .int placed_)]) rfl ?_
  obtain ⟨q21, h22, hf⟩ := zz_bind hf
  refine zz_sub [1, 2, 3, 0] rfl ?_
  refine mX4_nextCircle_L1 C (Nat.le_of_ble_eq_true rfl) (Nat.le_of_ble_eq_true rfl) σ groupTotal_ placed_ 1000 (0 : Int32) q21 h22 (fun v23 h25 => ?_) (fun w24 h25 => ?_)
  · subst h25
    cases hf
    exact zz_iret C dX4_nextCircle_55 (And.intro rfl rfl) (Nat.le_of_ble_eq_true rfl) (Nat.le_of_ble_eq_true rfl)
  · subst h25
    refine zz_iconst (v := (0 : Int32)) C dX4_nextCircle_62 (by decide) ?_
    cases hf
    exact zz_iret C dX4_nextCircle_63 (And.intro rfl rfl) (Nat.le_of_ble_eq_true rfl) (Nat.le_of_ble_eq_true rfl)
theorem dX4_append_0 : decode cX4_append 0 = .ok (.aload_n 0, 1) := by decide +kernel
theorem dX4_append_1 : decode cX4_append 1 = .ok (.getfield 32, 3) := by decide +kernel
theorem dX4_append_4 : decode cX4_append 4 = .ok (.bipush 14, 2) := by decide +kernel
theorem dX4_append_6 : decode cX4_append 6 = .ok (.if_icmp .lt 4, 3) := by decide +kernel
theorem dX4_append_9 : decode cX4_append 9 = .ok (.return_, 1) := by decide +kernel
theorem dX4_append_10 : decode cX4_append 10 = .ok (.aload_n 0, 1) := by decide +kernel
theorem dX4_append_11 : decode cX4_append 11 = .ok (.getfield 9, 3) := by decide +kernel
theorem dX4_append_14 : decode cX4_append 14 = .ok (.aload_n 0, 1) := by decide +kernel
theorem dX4_append_15 : decode cX4_append 15 = .ok (.getfield 32, 3) := by decide +kernel
theorem dX4_append_18 : decode cX4_append 18 = .ok (.iconst 0, 1) := by decide +kernel
theorem dX4_append_19 : decode cX4_append 19 = .ok (.iastore, 1) := by decide +kernel
theorem dX4_append_20 : decode cX4_append 20 = .ok (.iconst 0, 1) := by decide +kernel
theorem dX4_append_21 : decode cX4_append 21 = .ok (.istore_n 3, 1) := by decide +kernel
theorem dX4_append_22 : decode cX4_append 22 = .ok (.iload_n 3, 1) := by decide +kernel
theorem dX4_append_23 : decode cX4_append 23 = .ok (.aload_n 2, 1) := by decide +kernel
theorem dX4_append_24 : decode cX4_append 24 = .ok (.getfield 22, 3) := by decide +kernel
theorem dX4_append_27 : decode cX4_append 27 = .ok (.if_icmp .ge 39, 3) := by decide +kernel
theorem dX4_append_30 : decode cX4_append 30 = .ok (.aload_n 0, 1) := by decide +kernel
theorem dX4_append_31 : decode cX4_append 31 = .ok (.getfield 9, 3) := by decide +kernel
theorem dX4_append_34 : decode cX4_append 34 = .ok (.aload_n 0, 1) := by decide +kernel
theorem dX4_append_35 : decode cX4_append 35 = .ok (.getfield 32, 3) := by decide +kernel
theorem dX4_append_38 : decode cX4_append 38 = .ok (.dup2, 1) := by decide +kernel
theorem dX4_append_39 : decode cX4_append 39 = .ok (.iaload, 1) := by decide +kernel
theorem dX4_append_40 : decode cX4_append 40 = .ok (.iload_n 3, 1) := by decide +kernel
theorem dX4_append_41 : decode cX4_append 41 = .ok (.iload_n 1, 1) := by decide +kernel
theorem dX4_append_42 : decode cX4_append 42 = .ok (.invokestatic 55, 3) := by decide +kernel
theorem dX4_append_45 : decode cX4_append 45 = .ok (.ifCond .eq 12, 3) := by decide +kernel
theorem dX4_append_48 : decode cX4_append 48 = .ok (.aload_n 2, 1) := by decide +kernel
theorem dX4_append_49 : decode cX4_append 49 = .ok (.getfield 44, 3) := by decide +kernel
theorem dX4_append_52 : decode cX4_append 52 = .ok (.iload_n 3, 1) := by decide +kernel
theorem dX4_append_53 : decode cX4_append 53 = .ok (.iaload, 1) := by decide +kernel
theorem dX4_append_54 : decode cX4_append 54 = .ok (.goto 4, 3) := by decide +kernel
theorem dX4_append_57 : decode cX4_append 57 = .ok (.iconst 0, 1) := by decide +kernel
theorem dX4_append_58 : decode cX4_append 58 = .ok (.ior, 1) := by decide +kernel
theorem dX4_append_59 : decode cX4_append 59 = .ok (.iastore, 1) := by decide +kernel
theorem dX4_append_60 : decode cX4_append 60 = .ok (.iinc 3 1, 3) := by decide +kernel
theorem dX4_append_63 : decode cX4_append 63 = .ok (.goto (-41), 3) := by decide +kernel
theorem dX4_append_66 : decode cX4_append 66 = .ok (.aload_n 0, 1) := by decide +kernel
theorem dX4_append_67 : decode cX4_append 67 = .ok (.dup, 1) := by decide +kernel
theorem dX4_append_68 : decode cX4_append 68 = .ok (.getfield 32, 3) := by decide +kernel
theorem dX4_append_71 : decode cX4_append 71 = .ok (.iconst 1, 1) := by decide +kernel
theorem dX4_append_72 : decode cX4_append 72 = .ok (.iadd, 1) := by decide +kernel
theorem dX4_append_73 : decode cX4_append 73 = .ok (.putfield 32, 3) := by decide +kernel
theorem dX4_append_76 : decode cX4_append 76 = .ok (.iload_n 1, 1) := by decide +kernel
theorem dX4_append_77 : decode cX4_append 77 = .ok (.invokestatic 62, 3) := by decide +kernel
theorem dX4_append_80 : decode cX4_append 80 = .ok (.iconst 1, 1) := by decide +kernel
theorem dX4_append_81 : decode cX4_append 81 = .ok (.if_icmp .le 13, 3) := by decide +kernel
theorem dX4_append_84 : decode cX4_append 84 = .ok (.aload_n 0, 1) := by decide +kernel
theorem dX4_append_85 : decode cX4_append 85 = .ok (.dup, 1) := by decide +kernel
theorem dX4_append_86 : decode cX4_append 86 = .ok (.getfield 33, 3) := by decide +kernel
theorem dX4_append_89 : decode cX4_append 89 = .ok (.iconst 1, 1) := by decide +kernel
theorem dX4_append_90 : decode cX4_append 90 = .ok (.iadd, 1) := by decide +kernel
theorem dX4_append_91 : decode cX4_append 91 = .ok (.putfield 33, 3) := by decide +kernel
theorem dX4_append_94 : decode cX4_append 94 = .ok (.return_, 1) := by decide +kernel
set_option maxHeartbeats 4000000 in
set_option maxRecDepth 100000 in
theorem mX4_append_L1 {p : Program} {l : Launch} {e : Env} {R : Room} {s : State} {m : MethodId} {args : Array Value} {below : List Frame} {meth : Method} {c : Code} {Q : State → Prop} {D : va_G} {U : zz_U} {A : Nat → Prop} {cells slots : Nat} {ad : Nat → Nat} {X : va_W} (C : zz_C p l R s m meth c D U A RX4 cX4_append 4 none [] 1) (hcR : cells ≤ R.cells) (hsR : slots ≤ R.slots) (circle_ : Int32) : ∀ (n : Nat) (group_ : Int32) (σ : zz_St) (q : (Int32 × zz_St)), fX4_append_L1 circle_ n group_ σ = some q → (zz_Z p l e R s m args below meth c Q D A 4 cells slots (zz_wc U ad q.2 X) 66 [(0, .ref (ad 41)), (1, .int circle_), (2, .ref (ad 24)), (3, .int q.1)] []) → zz_Z p l e R s m args below meth c Q D A 4 cells slots (zz_wc U ad σ X) 22 [(0, .ref (ad 41)), (1, .int circle_), (2, .ref (ad 24)), (3, .int group_)] [] := by
  intro n
  induction n with
  | zero => intro group_ σ q hf; rw [fX4_append_L1] at hf; cases hf
  | succ n ih =>
    intro group_ σ q hf kx
    rw [fX4_append_L1] at hf
    refine zz_iload_n C 3 dX4_append_22 rfl rfl ?_
    refine zz_aload_n C 2 dX4_append_23 rfl rfl ?_
    refine zf3_count C dX4_append_24 zw_82 ?_
    refine zz_icmp_ge (tgt := 66) C dX4_append_27 (by decide) (fun g4 => ?_) (fun g4 => ?_)
    · rw [if_pos g4] at hf
      cases hf
      exact kx
    · rw [if_neg g4] at hf
      refine zz_aload_n C 0 dX4_append_30 rfl rfl ?_
      refine zf4_sets C dX4_append_31 zw_87 ?_
      refine zz_aload_n C 0 dX4_append_34 rfl rfl ?_
      refine zf4_count C dX4_append_35 zw_86 ?_
      refine zz_dup2_11 C dX4_append_38 rfl rfl ?_
      obtain ⟨x5, h6, hf⟩ := zz_bind hf
      refine zl_42 C dX4_append_39 h6 ?_
      obtain ⟨x7, h8, hf⟩ := zz_bind hf
      refine zz_cut 58 [(0, .ref (ad 41)), (1, .int circle_), (2, .ref (ad 24)), (3, .int group_)] [.int x7, .int x5, .int (σ 41 0), .ref (ad 42)] (zz_wc U ad σ X) ?_ (fun J9 => ?_)
      · refine zz_ior C dX4_append_58 ?_
        obtain ⟨σ15, h16, hf⟩ := zz_bind hf
        refine zs_42 C dX4_append_59 h16 ?_
        refine zz_iinc (v := (group_ + (1 : Int32))) C 3 dX4_append_60 rfl (by rfl) (by decide) (lv' := [(3, .int (group_ + (1 : Int32))), (0, .ref (ad 41)), (1, .int circle_), (2, .ref (ad 24))]) rfl ?_
        refine zz_goto (tgt := 22) C dX4_append_63 (by decide) ?_
        refine zz_sub [1, 2, 3, 0] rfl ?_
        exact ih (group_ + (1 : Int32)) σ15 _ hf kx
      refine zz_iload_n C 3 dX4_append_40 rfl rfl ?_
      refine zz_iload_n C 1 dX4_append_41 rfl rfl ?_
      obtain ⟨x10, h11, h8⟩ := zz_bind h8
      refine zz_callSN1 (host := "ChangeUntangler") (As := [.int group_, .int circle_]) (rest := [.int x5, .int (σ 41 0), .ref (ad 42)]) C (mX7_isIn σ group_ circle_ x10 h11) dX4_append_42 rfl (by decide +kernel) zy_X7_isIn rfl (by decide) (by decide) (Nat.le_of_ble_eq_true rfl) hcR hsR rfl ?_
      refine zz_if_eq (tgt := 57) C dX4_append_45 (by decide) (fun g12 => ?_) (fun g12 => ?_)
      · rw [if_pos g12] at h8
        refine zz_iconst (v := (0 : Int32)) C dX4_append_57 (by decide) ?_
        cases h8
        exact J9
      · rw [if_neg g12] at h8
        refine zz_aload_n C 2 dX4_append_48 rfl rfl ?_
        refine zf3_sets C dX4_append_49 zw_80 ?_
        refine zz_iload_n C 3 dX4_append_52 rfl rfl ?_
        obtain ⟨x13, h14, h8⟩ := zz_bind h8
        refine zl_25 C dX4_append_53 h14 ?_
        refine zz_goto (tgt := 58) C dX4_append_54 (by decide) ?_
        cases h8
        exact J9
set_option maxHeartbeats 4000000 in
set_option maxRecDepth 100000 in
theorem mX4_append {D : va_G} {U : zz_U} {ad : Nat → Nat} {X : va_W} (σ : zz_St) (circle_ : Int32) (r : zz_St) (hf : fX4_append σ circle_ = some r) : zz_Met yX4_append (.code yX4_append cX4_append 4 none) 1 0 0 D U [.ref (ad 41), .int circle_, .ref (ad 24)] (zz_wc U ad σ X) (zz_ok none (zz_wc U ad r X)) zz_noth := by
  unfold fX4_append at hf
  refine zz_method RX4 rfl (by decide +kernel) (Nat.le_of_ble_eq_true rfl) ?_
  intro p l e s m args below meth c A _ C
  refine zz_lvs (lv1 := [(0, .ref (ad 41)), (1, .int circle_), (2, .ref (ad 24))]) rfl ?_
  refine zz_aload_n C 0 dX4_append_0 rfl rfl ?_
  refine zf4_count C dX4_append_1 zw_86 ?_
  refine zz_bipush (v := (14 : Int32)) C dX4_append_4 (by decide) ?_
  refine zz_icmp_lt (tgt := 10) C dX4_append_6 (by decide) (fun g1 => ?_) (fun g1 => ?_)
  · rw [if_pos g1] at hf
    refine zz_aload_n C 0 dX4_append_10 rfl rfl ?_
    refine zf4_sets C dX4_append_11 zw_87 ?_
    refine zz_aload_n C 0 dX4_append_14 rfl rfl ?_
    refine zf4_count C dX4_append_15 zw_86 ?_
    refine zz_iconst (v := (0 : Int32)) C dX4_append_18 (by decide) ?_
    obtain ⟨σ2, h3, hf⟩ := zz_bind hf
    refine zs_42 C dX4_append_19 h3 ?_
    refine zz_iconst (v := (0 : Int32)) C dX4_append_20 (by decide) ?_
    refine zz_istore_n C dX4_append_21 rfl (by decide) (lv' := [(3, .int (0 : Int32)), (0, .ref (ad 41)), (1, .int circle_), (2, .ref (ad 24))]) rfl ?_
    obtain ⟨q17, h18, hf⟩ := zz_bind hf
    refine zz_sub [1, 2, 3, 0] rfl ?_
    refine mX4_append_L1 C (Nat.le_of_ble_eq_true rfl) (Nat.le_of_ble_eq_true rfl) circle_ 1000 (0 : Int32) σ2 q17 h18 ?_
    refine zz_aload_n C 0 dX4_append_66 rfl rfl ?_
    refine zz_dup C dX4_append_67 rfl ?_
    refine zf4_count C dX4_append_68 zw_86 ?_
    refine zz_iconst (v := (1 : Int32)) C dX4_append_71 (by decide) ?_
    refine zz_iadd C dX4_append_72 ?_
    refine zp4_count C dX4_append_73 zw_86 ?_
    obtain ⟨x19, h20, hf⟩ := zz_bind hf
    refine zz_cut 94 [(0, .ref (ad 41)), (1, .int circle_), (2, .ref (ad 24))] [] (zz_wc U ad x19 X) ?_ (fun J21 => ?_)
    · cases hf
      exact zz_vret C dX4_append_94 (And.intro rfl rfl) (Nat.le_of_ble_eq_true rfl) (Nat.le_of_ble_eq_true rfl)
    refine zz_iload_n C 1 dX4_append_76 rfl rfl ?_
    obtain ⟨x22, h23, h20⟩ := zz_bind h20
    refine zz_callS1 (As := [.int circle_]) (rest := []) C (mJ6_bitCount circle_ x22 h23) dX4_append_77 rfl zw_89 zy_J6_bitCount_0f7a4 rfl (by decide) (by decide) (Nat.le_of_ble_eq_true rfl) (Nat.le_of_ble_eq_true rfl) (Nat.le_of_ble_eq_true rfl) rfl ?_
    refine zz_iconst (v := (1 : Int32)) C dX4_append_80 (by decide) ?_
    refine zz_icmp_le (tgt := 94) C dX4_append_81 (by decide) (fun g24 => ?_) (fun g24 => ?_)
    · rw [if_pos g24] at h20
      refine zz_sub [0, 1, 2] rfl ?_
      cases h20
      exact J21
    · rw [if_neg g24] at h20
      refine zz_aload_n C 0 dX4_append_84 rfl rfl ?_
      refine zz_dup C dX4_append_85 rfl ?_
      refine zf4_knotCount C dX4_append_86 zw_88 ?_
      refine zz_iconst (v := (1 : Int32)) C dX4_append_89 (by decide) ?_
      refine zz_iadd C dX4_append_90 ?_
      refine zp4_knotCount C dX4_append_91 zw_88 ?_
      refine zz_sub [0, 1, 2] rfl ?_
      cases h20
      exact J21
  · rw [if_neg g1] at hf
    cases hf
    exact zz_vret C dX4_append_9 (And.intro rfl rfl) (Nat.le_of_ble_eq_true rfl) (Nat.le_of_ble_eq_true rfl)
theorem dX4_build_0 : decode cX4_build 0 = .ok (.aload_n 0, 1) := by decide +kernel
theorem dX4_build_1 : decode cX4_build 1 = .ok (.aload_n 1, 1) := by decide +kernel
theorem dX4_build_2 : decode cX4_build 2 = .ok (.aload_n 2, 1) := by decide +kernel
theorem dX4_build_3 : decode cX4_build 3 = .ok (.aload_n 3, 1) := by decide +kernel
theorem dX4_build_4 : decode cX4_build 4 = .ok (.invokevirtual 18, 3) := by decide +kernel
theorem dX4_build_7 : decode cX4_build 7 = .ok (.aload_n 0, 1) := by decide +kernel
theorem dX4_build_8 : decode cX4_build 8 = .ok (.aload_n 3, 1) := by decide +kernel
theorem dX4_build_9 : decode cX4_build 9 = .ok (.getfield 22, 3) := by decide +kernel
theorem dX4_build_12 : decode cX4_build 12 = .ok (.invokevirtual 28, 3) := by decide +kernel
theorem dX4_build_15 : decode cX4_build 15 = .ok (.aload_n 0, 1) := by decide +kernel
theorem dX4_build_16 : decode cX4_build 16 = .ok (.iconst 0, 1) := by decide +kernel
theorem dX4_build_17 : decode cX4_build 17 = .ok (.putfield 32, 3) := by decide +kernel
theorem dX4_build_20 : decode cX4_build 20 = .ok (.aload_n 0, 1) := by decide +kernel
theorem dX4_build_21 : decode cX4_build 21 = .ok (.iconst 0, 1) := by decide +kernel
theorem dX4_build_22 : decode cX4_build 22 = .ok (.putfield 33, 3) := by decide +kernel
theorem dX4_build_25 : decode cX4_build 25 = .ok (.iconst 0, 1) := by decide +kernel
theorem dX4_build_26 : decode cX4_build 26 = .ok (.istore 4, 2) := by decide +kernel
theorem dX4_build_28 : decode cX4_build 28 = .ok (.iconst 0, 1) := by decide +kernel
theorem dX4_build_29 : decode cX4_build 29 = .ok (.istore 5, 2) := by decide +kernel
theorem dX4_build_31 : decode cX4_build 31 = .ok (.iload 5, 2) := by decide +kernel
theorem dX4_build_33 : decode cX4_build 33 = .ok (.aload_n 3, 1) := by decide +kernel
theorem dX4_build_34 : decode cX4_build 34 = .ok (.getfield 22, 3) := by decide +kernel
theorem dX4_build_37 : decode cX4_build 37 = .ok (.if_icmp .ge 40, 3) := by decide +kernel
theorem dX4_build_40 : decode cX4_build 40 = .ok (.aload_n 0, 1) := by decide +kernel
theorem dX4_build_41 : decode cX4_build 41 = .ok (.aload_n 3, 1) := by decide +kernel
theorem dX4_build_42 : decode cX4_build 42 = .ok (.getfield 22, 3) := by decide +kernel
theorem dX4_build_45 : decode cX4_build 45 = .ok (.iload 4, 2) := by decide +kernel
theorem dX4_build_47 : decode cX4_build 47 = .ok (.invokevirtual 36, 3) := by decide +kernel
theorem dX4_build_50 : decode cX4_build 50 = .ok (.istore 6, 2) := by decide +kernel
theorem dX4_build_52 : decode cX4_build 52 = .ok (.iload 6, 2) := by decide +kernel
theorem dX4_build_54 : decode cX4_build 54 = .ok (.ifCond .eq 17, 3) := by decide +kernel
theorem dX4_build_57 : decode cX4_build 57 = .ok (.iload 4, 2) := by decide +kernel
theorem dX4_build_59 : decode cX4_build 59 = .ok (.iload 6, 2) := by decide +kernel
theorem dX4_build_61 : decode cX4_build 61 = .ok (.ior, 1) := by decide +kernel
theorem dX4_build_62 : decode cX4_build 62 = .ok (.istore 4, 2) := by decide +kernel
theorem dX4_build_64 : decode cX4_build 64 = .ok (.aload_n 0, 1) := by decide +kernel
theorem dX4_build_65 : decode cX4_build 65 = .ok (.iload 6, 2) := by decide +kernel
theorem dX4_build_67 : decode cX4_build 67 = .ok (.aload_n 3, 1) := by decide +kernel
theorem dX4_build_68 : decode cX4_build 68 = .ok (.invokevirtual 40, 3) := by decide +kernel
theorem dX4_build_71 : decode cX4_build 71 = .ok (.iinc 5 1, 3) := by decide +kernel
theorem dX4_build_74 : decode cX4_build 74 = .ok (.goto (-43), 3) := by decide +kernel
theorem dX4_build_77 : decode cX4_build 77 = .ok (.return_, 1) := by decide +kernel
set_option maxHeartbeats 4000000 in
set_option maxRecDepth 100000 in
theorem mX4_build_L1 {p : Program} {l : Launch} {e : Env} {R : Room} {s : State} {m : MethodId} {args : Array Value} {below : List Frame} {meth : Method} {c : Code} {Q : State → Prop} {D : va_G} {U : zz_U} {A : Nat → Prop} {cells slots : Nat} {ad : Nat → Nat} {X : va_W} (C : zz_C p l R s m meth c D U A RX4 cX4_build 7 none [] 3) (hcR : cells ≤ R.cells) (hsR : slots ≤ R.slots) : ∀ (n : Nat) (placed_ : Int32) (round_ : Int32) (σ : zz_St) (q : (Int32 × Int32 × zz_St)), fX4_build_L1 n placed_ round_ σ = some q → (zz_Z p l e R s m args below meth c Q D A 7 cells slots (zz_wc U ad q.2.2 X) 77 [(0, .ref (ad 41)), (1, .ref (ad 1)), (2, .ref (ad 17)), (3, .ref (ad 24)), (4, .int q.1), (5, .int q.2.1)] []) → zz_Z p l e R s m args below meth c Q D A 7 cells slots (zz_wc U ad σ X) 31 [(0, .ref (ad 41)), (1, .ref (ad 1)), (2, .ref (ad 17)), (3, .ref (ad 24)), (4, .int placed_), (5, .int round_)] [] := by
  intro n
  induction n with
  | zero => intro placed_ round_ σ q hf; rw [fX4_build_L1] at hf; cases hf
  | succ n ih =>
    intro placed_ round_ σ q hf kx
    rw [fX4_build_L1] at hf
    refine zz_iload C 5 dX4_build_31 rfl ?_
    refine zz_aload_n C 3 dX4_build_33 rfl rfl ?_
    refine zf3_count C dX4_build_34 zw_82 ?_
    refine zz_icmp_ge (tgt := 77) C dX4_build_37 (by decide) (fun g5 => ?_) (fun g5 => ?_)
    · rw [if_pos g5] at hf
      cases hf
      exact kx
    · rw [if_neg g5] at hf
      refine zz_aload_n C 0 dX4_build_40 rfl rfl ?_
      refine zz_aload_n C 3 dX4_build_41 rfl rfl ?_
      refine zf3_count C dX4_build_42 zw_82 ?_
      refine zz_iload C 4 dX4_build_45 rfl ?_
      obtain ⟨x6, h7, hf⟩ := zz_bind hf
      refine zz_callV1 (As := [.int (σ 24 2), .int placed_]) (rest := []) C 41 (mX4_nextCircle σ (σ 24 2) placed_ x6 h7) dX4_build_47 rfl rfl rfl zw_91 zy_X4_nextCircle rfl (by decide) (by decide) (Nat.le_of_ble_eq_true rfl) hcR hsR rfl ?_
      refine zz_istore C dX4_build_50 (by decide) (lv' := [(6, .int x6), (0, .ref (ad 41)), (1, .ref (ad 1)), (2, .ref (ad 17)), (3, .ref (ad 24)), (4, .int placed_), (5, .int round_)]) rfl ?_
      obtain ⟨x8, h9, hf⟩ := zz_bind hf
      refine zz_cut 71 [(0, .ref (ad 41)), (1, .ref (ad 1)), (2, .ref (ad 17)), (3, .ref (ad 24)), (4, .int x8.1), (5, .int round_), (6, .int x6)] [] (zz_wc U ad x8.2 X) ?_ (fun J10 => ?_)
      · refine zz_iinc (v := (round_ + (1 : Int32))) C 5 dX4_build_71 rfl (by rfl) (by decide) (lv' := [(5, .int (round_ + (1 : Int32))), (0, .ref (ad 41)), (1, .ref (ad 1)), (2, .ref (ad 17)), (3, .ref (ad 24)), (4, .int x8.1), (6, .int x6)]) rfl ?_
        refine zz_goto (tgt := 31) C dX4_build_74 (by decide) ?_
        refine zz_sub [1, 2, 3, 4, 5, 0] rfl ?_
        exact ih x8.1 (round_ + (1 : Int32)) x8.2 _ hf kx
      refine zz_iload C 0 dX4_build_52 rfl ?_
      refine zz_if_eq (tgt := 71) C dX4_build_54 (by decide) (fun g11 => ?_) (fun g11 => ?_)
      · rw [if_pos g11] at h9
        refine zz_sub [1, 2, 3, 4, 5, 6, 0] rfl ?_
        cases h9
        exact J10
      · rw [if_neg g11] at h9
        refine zz_iload C 5 dX4_build_57 rfl ?_
        refine zz_iload C 0 dX4_build_59 rfl ?_
        refine zz_ior C dX4_build_61 ?_
        obtain ⟨x12, h13, h9⟩ := zz_bind h9
        refine zz_topi (Option.some.inj h13) ?_
        refine zz_istore C dX4_build_62 (by decide) (lv' := [(4, .int x12), (6, .int x6), (0, .ref (ad 41)), (1, .ref (ad 1)), (2, .ref (ad 17)), (3, .ref (ad 24)), (5, .int round_)]) rfl ?_
        refine zz_aload_n C 2 dX4_build_64 rfl rfl ?_
        refine zz_iload C 1 dX4_build_65 rfl ?_
        refine zz_aload_n C 5 dX4_build_67 rfl rfl ?_
        obtain ⟨x14, h15, h9⟩ := zz_bind h9
        refine zz_callV1 (As := [.int x6, .ref (ad 24)]) (rest := []) C 41 (mX4_append σ x6 x14 h15) dX4_build_68 rfl rfl rfl zw_90 zy_X4_append rfl (by decide) (by decide) (Nat.le_of_ble_eq_true rfl) hcR hsR rfl ?_
        refine zz_sub [2, 3, 4, 5, 0, 6, 1] rfl ?_
        cases h9
        exact J10
set_option maxHeartbeats 4000000 in
set_option maxRecDepth 100000 in
theorem mX4_build {D : va_G} {U : zz_U} {ad : Nat → Nat} {X : va_W} (σ : zz_St) (r : zz_St) (hf : fX4_build σ = some r) : zz_Met yX4_build (.code yX4_build cX4_build 7 none) 3 0 0 D U [.ref (ad 41), .ref (ad 1), .ref (ad 17), .ref (ad 24)] (zz_wc U ad σ X) (zz_ok none (zz_wc U ad r X)) zz_noth := by
  unfold fX4_build at hf
  refine zz_method RX4 rfl (by decide +kernel) (Nat.le_of_ble_eq_true rfl) ?_
  intro p l e s m args below meth c A _ C
  refine zz_lvs (lv1 := [(0, .ref (ad 41)), (1, .ref (ad 1)), (2, .ref (ad 17)), (3, .ref (ad 24))]) rfl ?_
  refine zz_aload_n C 0 dX4_build_0 rfl rfl ?_
  refine zz_aload_n C 1 dX4_build_1 rfl rfl ?_
  refine zz_aload_n C 2 dX4_build_2 rfl rfl ?_
  refine zz_aload_n C 3 dX4_build_3 rfl rfl ?_
  obtain ⟨x1, h2, hf⟩ := zz_bind hf
  refine zz_callV1 (As := [.ref (ad 1), .ref (ad 17), .ref (ad 24)]) (rest := []) C 41 (mX4_findNeeds σ x1 h2) dX4_build_4 rfl rfl rfl zw_93 zy_X4_findNeeds rfl (by decide) (by decide) (Nat.le_of_ble_eq_true rfl) (Nat.le_of_ble_eq_true rfl) (Nat.le_of_ble_eq_true rfl) rfl ?_
  refine zz_aload_n C 0 dX4_build_7 rfl rfl ?_
  refine zz_aload_n C 3 dX4_build_8 rfl rfl ?_
  refine zf3_count C dX4_build_9 zw_82 ?_
  obtain ⟨x3, h4, hf⟩ := zz_bind hf
  refine zz_callV1 (As := [.int (x1 24 2)]) (rest := []) C 41 (mX4_needByWayOfOthers x1 (x1 24 2) x3 h4) dX4_build_12 rfl rfl rfl zw_92 zy_X4_needByWayOfOthers rfl (by decide) (by decide) (Nat.le_of_ble_eq_true rfl) (Nat.le_of_ble_eq_true rfl) (Nat.le_of_ble_eq_true rfl) rfl ?_
  refine zz_aload_n C 0 dX4_build_15 rfl rfl ?_
  refine zz_iconst (v := (0 : Int32)) C dX4_build_16 (by decide) ?_
  refine zp4_count C dX4_build_17 zw_86 ?_
  refine zz_aload_n C 0 dX4_build_20 rfl rfl ?_
  refine zz_iconst (v := (0 : Int32)) C dX4_build_21 (by decide) ?_
  refine zp4_knotCount C dX4_build_22 zw_88 ?_
  refine zz_iconst (v := (0 : Int32)) C dX4_build_25 (by decide) ?_
  refine zz_istore C dX4_build_26 (by decide) (lv' := [(4, .int (0 : Int32)), (0, .ref (ad 41)), (1, .ref (ad 1)), (2, .ref (ad 17)), (3, .ref (ad 24))]) rfl ?_
  refine zz_iconst (v := (0 : Int32)) C dX4_build_28 (by decide) ?_
  refine zz_istore C dX4_build_29 (by decide) (lv' := [(5, .int (0 : Int32)), (4, .int (0 : Int32)), (0, .ref (ad 41)), (1, .ref (ad 1)), (2, .ref (ad 17)), (3, .ref (ad 24))]) rfl ?_
  obtain ⟨q16, h17, hf⟩ := zz_bind hf
  refine zz_sub [2, 3, 4, 5, 1, 0] rfl ?_
  refine mX4_build_L1 C (Nat.le_of_ble_eq_true rfl) (Nat.le_of_ble_eq_true rfl) 1000 (0 : Int32) (0 : Int32) (zz_u (zz_u x3 41 0 (0 : Int32)) 41 1 (0 : Int32)) q16 h17 ?_
  cases hf
  exact zz_vret C dX4_build_77 (And.intro rfl rfl) (Nat.le_of_ble_eq_true rfl) (Nat.le_of_ble_eq_true rfl)
theorem dX7_putTogether_0 : decode cX7_putTogether 0 = .ok (.aload_n 0, 1) := by decide +kernel
theorem dX7_putTogether_1 : decode cX7_putTogether 1 = .ok (.getfield 267, 3) := by decide +kernel
theorem dX7_putTogether_4 : decode cX7_putTogether 4 = .ok (.ifCond .ne 60, 3) := by decide +kernel
theorem dX7_putTogether_7 : decode cX7_putTogether 7 = .ok (.aload_n 0, 1) := by decide +kernel
theorem dX7_putTogether_8 : decode cX7_putTogether 8 = .ok (.getfield 40, 3) := by decide +kernel
theorem dX7_putTogether_11 : decode cX7_putTogether 11 = .ok (.aload_n 0, 1) := by decide +kernel
theorem dX7_putTogether_12 : decode cX7_putTogether 12 = .ok (.getfield 12, 3) := by decide +kernel
theorem dX7_putTogether_15 : decode cX7_putTogether 15 = .ok (.aload_n 0, 1) := by decide +kernel
theorem dX7_putTogether_16 : decode cX7_putTogether 16 = .ok (.getfield 26, 3) := by decide +kernel
theorem dX7_putTogether_19 : decode cX7_putTogether 19 = .ok (.invokevirtual 274, 3) := by decide +kernel
theorem dX7_putTogether_22 : decode cX7_putTogether 22 = .ok (.aload_n 0, 1) := by decide +kernel
theorem dX7_putTogether_23 : decode cX7_putTogether 23 = .ok (.getfield 40, 3) := by decide +kernel
theorem dX7_putTogether_26 : decode cX7_putTogether 26 = .ok (.aload_n 0, 1) := by decide +kernel
theorem dX7_putTogether_27 : decode cX7_putTogether 27 = .ok (.getfield 12, 3) := by decide +kernel
theorem dX7_putTogether_30 : decode cX7_putTogether 30 = .ok (.getfield 71, 3) := by decide +kernel
theorem dX7_putTogether_33 : decode cX7_putTogether 33 = .ok (.aload_n 0, 1) := by decide +kernel
theorem dX7_putTogether_34 : decode cX7_putTogether 34 = .ok (.getfield 33, 3) := by decide +kernel
theorem dX7_putTogether_37 : decode cX7_putTogether 37 = .ok (.invokevirtual 278, 3) := by decide +kernel
theorem dX7_putTogether_40 : decode cX7_putTogether 40 = .ok (.aload_n 0, 1) := by decide +kernel
theorem dX7_putTogether_41 : decode cX7_putTogether 41 = .ok (.getfield 47, 3) := by decide +kernel
theorem dX7_putTogether_44 : decode cX7_putTogether 44 = .ok (.aload_n 0, 1) := by decide +kernel
theorem dX7_putTogether_45 : decode cX7_putTogether 45 = .ok (.getfield 12, 3) := by decide +kernel
theorem dX7_putTogether_48 : decode cX7_putTogether 48 = .ok (.aload_n 0, 1) := by decide +kernel
theorem dX7_putTogether_49 : decode cX7_putTogether 49 = .ok (.getfield 19, 3) := by decide +kernel
theorem dX7_putTogether_52 : decode cX7_putTogether 52 = .ok (.aload_n 0, 1) := by decide +kernel
theorem dX7_putTogether_53 : decode cX7_putTogether 53 = .ok (.getfield 40, 3) := by decide +kernel
theorem dX7_putTogether_56 : decode cX7_putTogether 56 = .ok (.invokevirtual 282, 3) := by decide +kernel
theorem dX7_putTogether_59 : decode cX7_putTogether 59 = .ok (.aload_n 0, 1) := by decide +kernel
theorem dX7_putTogether_60 : decode cX7_putTogether 60 = .ok (.iconst 1, 1) := by decide +kernel
theorem dX7_putTogether_61 : decode cX7_putTogether 61 = .ok (.putfield 267, 3) := by decide +kernel
theorem dX7_putTogether_64 : decode cX7_putTogether 64 = .ok (.return_, 1) := by decide +kernel
set_option maxHeartbeats 4000000 in
set_option maxRecDepth 100000 in
theorem mX7_putTogether {D : va_G} {U : zz_U} {ad : Nat → Nat} {X : va_W} (σ : zz_St) (r : zz_St) (hf : fX7_putTogether σ = some r) : zz_Met yX7_putTogether (.code yX7_putTogether cX7_putTogether 1 none) 5 0 0 D U [.ref (ad 0)] (zz_wc U ad σ X) (zz_ok none (zz_wc U ad r X)) zz_noth := by
  unfold fX7_putTogether at hf
  refine zz_method RX7 rfl (by decide +kernel) (Nat.le_of_ble_eq_true rfl) ?_
  intro p l e s m args below meth c A _ C
  refine zz_lvs (lv1 := [(0, .ref (ad 0))]) rfl ?_
  obtain ⟨x1, h2, hf⟩ := zz_bind hf
  refine zz_cut 64 [(0, .ref (ad 0))] [] (zz_wc U ad x1 X) ?_ (fun J3 => ?_)
  · cases hf
    exact zz_vret C dX7_putTogether_64 (And.intro rfl rfl) (Nat.le_of_ble_eq_true rfl) (Nat.le_of_ble_eq_true rfl)
  refine zz_aload_n C 0 dX7_putTogether_0 rfl rfl ?_
  refine zf7_isPutTogether C dX7_putTogether_1 zw_2 ?_
  refine zz_if_ne (tgt := 64) C dX7_putTogether_4 (by decide) (fun g4 => ?_) (fun g4 => ?_)
  · rw [if_neg g4] at h2
    cases h2
    exact J3
  · rw [if_pos g4] at h2
    refine zz_aload_n C 0 dX7_putTogether_7 rfl rfl ?_
    refine zf7_groups C dX7_putTogether_8 zw_55 ?_
    refine zz_aload_n C 0 dX7_putTogether_11 rfl rfl ?_
    refine zf7_pieces C dX7_putTogether_12 zw_10 ?_
    refine zz_aload_n C 0 dX7_putTogether_15 rfl rfl ?_
    refine zf7_evidence C dX7_putTogether_16 zw_33 ?_
    obtain ⟨x5, h6, h2⟩ := zz_bind h2
    refine zz_callV1 (As := [.ref (ad 1), .ref (ad 19)]) (rest := []) C 24 (mX3_weighAll σ x5 h6) dX7_putTogether_19 rfl rfl rfl zw_97 zy_X3_weighAll rfl (by decide) (by decide) (Nat.le_of_ble_eq_true rfl) (Nat.le_of_ble_eq_true rfl) (Nat.le_of_ble_eq_true rfl) rfl ?_
    refine zz_aload_n C 0 dX7_putTogether_22 rfl rfl ?_
    refine zf7_groups C dX7_putTogether_23 zw_55 ?_
    refine zz_aload_n C 0 dX7_putTogether_26 rfl rfl ?_
    refine zf7_pieces C dX7_putTogether_27 zw_10 ?_
    refine zf5_count C dX7_putTogether_30 zw_12 ?_
    refine zz_aload_n C 0 dX7_putTogether_33 rfl rfl ?_
    refine zf7_sayings C dX7_putTogether_34 zw_30 ?_
    obtain ⟨x7, h8, h2⟩ := zz_bind h2
    refine zz_callV1 (As := [.int (x5 1 0), .ref (ad 21)]) (rest := []) C 24 (mX3_build x5 (x5 1 0) x7 h8) dX7_putTogether_37 rfl rfl rfl zw_96 zy_X3_build rfl (by decide) (by decide) (Nat.le_of_ble_eq_true rfl) (Nat.le_of_ble_eq_true rfl) (Nat.le_of_ble_eq_true rfl) rfl ?_
    refine zz_aload_n C 0 dX7_putTogether_40 rfl rfl ?_
    refine zf7_parcels C dX7_putTogether_41 zw_95 ?_
    refine zz_aload_n C 0 dX7_putTogether_44 rfl rfl ?_
    refine zf7_pieces C dX7_putTogether_45 zw_10 ?_
    refine zz_aload_n C 0 dX7_putTogether_48 rfl rfl ?_
    refine zf7_code C dX7_putTogether_49 zw_24 ?_
    refine zz_aload_n C 0 dX7_putTogether_52 rfl rfl ?_
    refine zf7_groups C dX7_putTogether_53 zw_55 ?_
    obtain ⟨x9, h10, h2⟩ := zz_bind h2
    refine zz_callV1 (As := [.ref (ad 1), .ref (ad 17), .ref (ad 24)]) (rest := []) C 41 (mX4_build x7 x9 h10) dX7_putTogether_56 rfl rfl rfl zw_94 zy_X4_build rfl (by decide) (by decide) (Nat.le_of_ble_eq_true rfl) (Nat.le_of_ble_eq_true rfl) (Nat.le_of_ble_eq_true rfl) rfl ?_
    refine zz_aload_n C 0 dX7_putTogether_59 rfl rfl ?_
    refine zz_iconst (v := (1 : Int32)) C dX7_putTogether_60 (by decide) ?_
    refine zp7_isPutTogether C dX7_putTogether_61 zw_2 (Or.inr rfl) ?_
    cases h2
    exact J3
theorem dX7_groupCount_0 : decode cX7_groupCount 0 = .ok (.aload_n 0, 1) := by decide +kernel
theorem dX7_groupCount_1 : decode cX7_groupCount 1 = .ok (.invokevirtual 176, 3) := by decide +kernel
theorem dX7_groupCount_4 : decode cX7_groupCount 4 = .ok (.aload_n 0, 1) := by decide +kernel
theorem dX7_groupCount_5 : decode cX7_groupCount 5 = .ok (.getfield 40, 3) := by decide +kernel
theorem dX7_groupCount_8 : decode cX7_groupCount 8 = .ok (.getfield 179, 3) := by decide +kernel
theorem dX7_groupCount_11 : decode cX7_groupCount 11 = .ok (.ireturn, 1) := by decide +kernel
set_option maxHeartbeats 4000000 in
set_option maxRecDepth 100000 in
theorem mX7_groupCount {D : va_G} {U : zz_U} {ad : Nat → Nat} {X : va_W} (σ : zz_St) (r : (Int32 × zz_St)) (hf : fX7_groupCount σ = some r) : zz_Met yX7_groupCount (.code yX7_groupCount cX7_groupCount 1 (some .int)) 6 0 0 D U [.ref (ad 0)] (zz_wc U ad σ X) (zz_ok (some (.int r.1)) (zz_wc U ad r.2 X)) zz_noth := by
  unfold fX7_groupCount at hf
  refine zz_method RX7 rfl (by decide +kernel) (Nat.le_of_ble_eq_true rfl) ?_
  intro p l e s m args below meth c A _ C
  refine zz_lvs (lv1 := [(0, .ref (ad 0))]) rfl ?_
  refine zz_aload_n C 0 dX7_groupCount_0 rfl rfl ?_
  obtain ⟨x1, h2, hf⟩ := zz_bind hf
  refine zz_callV1 (As := []) (rest := []) C 0 (mX7_putTogether σ x1 h2) dX7_groupCount_1 rfl rfl rfl zw_99 zy_X7_putTogether rfl (by decide) (by decide) (Nat.le_of_ble_eq_true rfl) (Nat.le_of_ble_eq_true rfl) (Nat.le_of_ble_eq_true rfl) rfl ?_
  refine zz_aload_n C 0 dX7_groupCount_4 rfl rfl ?_
  refine zf7_groups C dX7_groupCount_5 zw_55 ?_
  refine zf3_count C dX7_groupCount_8 zw_98 ?_
  cases hf
  exact zz_iret C dX7_groupCount_11 (And.intro rfl rfl) (Nat.le_of_ble_eq_true rfl) (Nat.le_of_ble_eq_true rfl)
theorem dX7_requireGroup_0 : decode cX7_requireGroup 0 = .ok (.aload_n 0, 1) := by decide +kernel
theorem dX7_requireGroup_1 : decode cX7_requireGroup 1 = .ok (.invokevirtual 176, 3) := by decide +kernel
theorem dX7_requireGroup_4 : decode cX7_requireGroup 4 = .ok (.iload_n 1, 1) := by decide +kernel
theorem dX7_requireGroup_5 : decode cX7_requireGroup 5 = .ok (.ifCond .lt 14, 3) := by decide +kernel
theorem dX7_requireGroup_8 : decode cX7_requireGroup 8 = .ok (.iload_n 1, 1) := by decide +kernel
theorem dX7_requireGroup_9 : decode cX7_requireGroup 9 = .ok (.aload_n 0, 1) := by decide +kernel
theorem dX7_requireGroup_10 : decode cX7_requireGroup 10 = .ok (.getfield 40, 3) := by decide +kernel
theorem dX7_requireGroup_13 : decode cX7_requireGroup 13 = .ok (.getfield 179, 3) := by decide +kernel
theorem dX7_requireGroup_16 : decode cX7_requireGroup 16 = .ok (.if_icmp .lt 14, 3) := by decide +kernel
theorem dX7_requireGroup_19 : decode cX7_requireGroup 19 = .ok (.new 102, 3) := by decide +kernel
theorem dX7_requireGroup_22 : decode cX7_requireGroup 22 = .ok (.dup, 1) := by decide +kernel
theorem dX7_requireGroup_23 : decode cX7_requireGroup 23 = .ok (.ldc_w 304, 3) := by decide +kernel
theorem dX7_requireGroup_26 : decode cX7_requireGroup 26 = .ok (.invokespecial 106, 3) := by decide +kernel
theorem dX7_requireGroup_29 : decode cX7_requireGroup 29 = .ok (.athrow, 1) := by decide +kernel
theorem dX7_requireGroup_30 : decode cX7_requireGroup 30 = .ok (.return_, 1) := by decide +kernel
set_option maxHeartbeats 4000000 in
set_option maxRecDepth 100000 in
theorem mX7_requireGroup {D : va_G} {U : zz_U} {ad : Nat → Nat} {X : va_W} (σ : zz_St) (group_ : Int32) (r : ((Unit ⊕ String) × zz_St)) (hf : fX7_requireGroup σ group_ = some r) : zz_Met yX7_requireGroup (.code yX7_requireGroup cX7_requireGroup 2 none) 6 1 6 D U [.ref (ad 0), .int group_] (zz_wc U ad σ X) (match r.1 with | .inl _ => zz_ok none (zz_wc U ad r.2 X) | .inr _ => zz_none) (match r.1 with | .inl _ => zz_noth | .inr E => zz_th E (zz_wc U ad r.2 X)) := by
  unfold fX7_requireGroup at hf
  refine zz_method RX7 rfl (by decide +kernel) (Nat.le_of_ble_eq_true rfl) ?_
  intro p l e s m args below meth c A _ C
  refine zz_lvs (lv1 := [(0, .ref (ad 0)), (1, .int group_)]) rfl ?_
  refine zz_aload_n C 0 dX7_requireGroup_0 rfl rfl ?_
  obtain ⟨x1, h2, hf⟩ := zz_bind hf
  refine zz_callV1 (As := []) (rest := []) C 0 (mX7_putTogether σ x1 h2) dX7_requireGroup_1 rfl rfl rfl zw_99 zy_X7_putTogether rfl (by decide) (by decide) (Nat.le_of_ble_eq_true rfl) (Nat.le_of_ble_eq_true rfl) (Nat.le_of_ble_eq_true rfl) rfl ?_
  obtain ⟨b3, h4, hf⟩ := zz_bind hf
  refine zz_cutI (P := b3 = true) 19 [(0, .ref (ad 0)), (1, .int group_)] [] (zz_wc U ad x1 X) (fun g7 => ?_) (fun J5 => ?_)
  · rw [if_pos g7] at hf
    cases hf
    exact zz_throwSW (cls := "java/lang/IndexOutOfBoundsException") (text := "no such group") C zt_2 (by decide +kernel) dX7_requireGroup_19 dX7_requireGroup_22 dX7_requireGroup_23 dX7_requireGroup_26 dX7_requireGroup_29 (by decide) (Nat.le_of_ble_eq_true rfl) (Nat.le_of_ble_eq_true rfl) (Nat.le_of_ble_eq_true rfl) (Nat.le_of_ble_eq_true rfl) (Nat.le_of_ble_eq_true rfl) (And.intro rfl rfl)
  refine zz_cutI (P := b3 = false) 30 [(0, .ref (ad 0)), (1, .int group_)] [] (zz_wc U ad x1 X) (fun g7 => ?_) (fun J6 => ?_)
  · rw [if_neg (show ¬ b3 = true by rw [g7]; decide)] at hf
    cases hf
    exact zz_vret C dX7_requireGroup_30 (And.intro rfl rfl) (Nat.le_of_ble_eq_true rfl) (Nat.le_of_ble_eq_true rfl)
  refine zz_iload_n C 1 dX7_requireGroup_4 rfl rfl ?_
  refine zz_if_lt (tgt := 19) C dX7_requireGroup_5 (by decide) (fun g8 => ?_) (fun g8 => ?_)
  · rw [if_pos g8] at h4
    cases h4
    exact J5 rfl
  · rw [if_neg g8] at h4
    refine zz_iload_n C 1 dX7_requireGroup_8 rfl rfl ?_
    refine zz_aload_n C 0 dX7_requireGroup_9 rfl rfl ?_
    refine zf7_groups C dX7_requireGroup_10 zw_55 ?_
    refine zf3_count C dX7_requireGroup_13 zw_98 ?_
    refine zz_icmp_lt (tgt := 30) C dX7_requireGroup_16 (by decide) (fun g9 => ?_) (fun g9 => ?_)
    · rw [if_pos g9] at h4
      cases h4
      exact J6 rfl
    · rw [if_neg g9] at h4
      cases h4
      exact J5 rfl
theorem mX7_requireGroup_r {D : va_G} {U : zz_U} {ad : Nat → Nat} {X : va_W} (σ : zz_St) (group_ : Int32) (x : Unit) (σ1 : zz_St) (hf : fX7_requireGroup σ group_ = some (.inl x, σ1)) : zz_Met yX7_requireGroup (.code yX7_requireGroup cX7_requireGroup 2 none) 6 1 6 D U [.ref (ad 0), .int group_] (zz_wc U ad σ X) (zz_ok none (zz_wc U ad σ1 X)) zz_noth := mX7_requireGroup σ group_ (.inl x, σ1) hf
theorem mX7_requireGroup_x {D : va_G} {U : zz_U} {ad : Nat → Nat} {X : va_W} (σ : zz_St) (group_ : Int32) (x : String) (σ1 : zz_St) (hf : fX7_requireGroup σ group_ = some (.inr x, σ1)) : zz_Met yX7_requireGroup (.code yX7_requireGroup cX7_requireGroup 2 none) 6 1 6 D U [.ref (ad 0), .int group_] (zz_wc U ad σ X) zz_none (zz_th x (zz_wc U ad σ1 X)) := mX7_requireGroup σ group_ (.inr x, σ1) hf
theorem dX7_group_0 : decode cX7_group 0 = .ok (.aload_n 0, 1) := by decide +kernel
theorem dX7_group_1 : decode cX7_group 1 = .ok (.iload_n 1, 1) := by decide +kernel
theorem dX7_group_2 : decode cX7_group 2 = .ok (.invokevirtual 180, 3) := by decide +kernel
theorem dX7_group_5 : decode cX7_group 5 = .ok (.aload_n 0, 1) := by decide +kernel
theorem dX7_group_6 : decode cX7_group 6 = .ok (.getfield 40, 3) := by decide +kernel
theorem dX7_group_9 : decode cX7_group 9 = .ok (.getfield 183, 3) := by decide +kernel
theorem dX7_group_12 : decode cX7_group 12 = .ok (.iload_n 1, 1) := by decide +kernel
theorem dX7_group_13 : decode cX7_group 13 = .ok (.iaload, 1) := by decide +kernel
theorem dX7_group_14 : decode cX7_group 14 = .ok (.ireturn, 1) := by decide +kernel
set_option maxHeartbeats 4000000 in
set_option maxRecDepth 100000 in
theorem mX7_group {D : va_G} {U : zz_U} {ad : Nat → Nat} {X : va_W} (σ : zz_St) (group_ : Int32) (r : ((Int32 ⊕ String) × zz_St)) (hf : fX7_group σ group_ = some r) : zz_Met yX7_group (.code yX7_group cX7_group 2 (some .int)) 7 1 6 D U [.ref (ad 0), .int group_] (zz_wc U ad σ X) (match r.1 with | .inl x => zz_ok (some (.int x)) (zz_wc U ad r.2 X) | .inr _ => zz_none) (match r.1 with | .inl _ => zz_noth | .inr E => zz_th E (zz_wc U ad r.2 X)) := by
  unfold fX7_group at hf
  refine zz_method RX7 rfl (by decide +kernel) (Nat.le_of_ble_eq_true rfl) ?_
  intro p l e s m args below meth c A _ C
  refine zz_lvs (lv1 := [(0, .ref (ad 0)), (1, .int group_)]) rfl ?_
  refine zz_aload_n C 0 dX7_group_0 rfl rfl ?_
  refine zz_iload_n C 1 dX7_group_1 rfl rfl ?_
  obtain ⟨⟨x1, σ4⟩, h2, hf⟩ := zz_bind hf
  rcases x1 with x1 | E3
  · try dsimp only at hf
    refine zz_callV1 (As := [.int group_]) (rest := []) C 0 (mX7_requireGroup_r σ group_ x1 σ4 h2) dX7_group_2 rfl rfl rfl zw_101 zy_X7_requireGroup rfl (by decide) (by decide) (Nat.le_of_ble_eq_true rfl) (Nat.le_of_ble_eq_true rfl) (Nat.le_of_ble_eq_true rfl) rfl ?_
    refine zz_aload_n C 0 dX7_group_5 rfl rfl ?_
    refine zf7_groups C dX7_group_6 zw_55 ?_
    refine zf3_sets C dX7_group_9 zw_100 ?_
    refine zz_iload_n C 1 dX7_group_12 rfl rfl ?_
    obtain ⟨x5, h6, hf⟩ := zz_bind hf
    refine zl_25 C dX7_group_13 h6 ?_
    cases hf
    exact zz_iret C dX7_group_14 (And.intro rfl rfl) (Nat.le_of_ble_eq_true rfl) (Nat.le_of_ble_eq_true rfl)
  · refine zz_callVx (As := [.int group_]) (rest := []) C 0 (mX7_requireGroup_x σ group_ E3 σ4 h2) dX7_group_2 rfl rfl rfl zw_101 zy_X7_requireGroup rfl (by decide) (by decide) (Nat.le_of_ble_eq_true rfl) (Nat.le_of_ble_eq_true rfl) (Nat.le_of_ble_eq_true rfl) ?_
    cases hf
    exact zz_out C (And.intro rfl rfl) (Nat.le_of_ble_eq_true rfl) (Nat.le_of_ble_eq_true rfl)
theorem mX7_group_r {D : va_G} {U : zz_U} {ad : Nat → Nat} {X : va_W} (σ : zz_St) (group_ : Int32) (x : Int32) (σ1 : zz_St) (hf : fX7_group σ group_ = some (.inl x, σ1)) : zz_Met yX7_group (.code yX7_group cX7_group 2 (some .int)) 7 1 6 D U [.ref (ad 0), .int group_] (zz_wc U ad σ X) (zz_ok (some (.int x)) (zz_wc U ad σ1 X)) zz_noth := mX7_group σ group_ (.inl x, σ1) hf
theorem mX7_group_x {D : va_G} {U : zz_U} {ad : Nat → Nat} {X : va_W} (σ : zz_St) (group_ : Int32) (x : String) (σ1 : zz_St) (hf : fX7_group σ group_ = some (.inr x, σ1)) : zz_Met yX7_group (.code yX7_group cX7_group 2 (some .int)) 7 1 6 D U [.ref (ad 0), .int group_] (zz_wc U ad σ X) zz_none (zz_th x (zz_wc U ad σ1 X)) := mX7_group σ group_ (.inr x, σ1) hf
theorem dX7_placeOf_0 : decode cX7_placeOf 0 = .ok (.iconst 0, 1) := by decide +kernel
theorem dX7_placeOf_1 : decode cX7_placeOf 1 = .ok (.istore_n 3, 1) := by decide +kernel
theorem dX7_placeOf_2 : decode cX7_placeOf 2 = .ok (.iload_n 3, 1) := by decide +kernel
theorem dX7_placeOf_3 : decode cX7_placeOf 3 = .ok (.iload_n 2, 1) := by decide +kernel
theorem dX7_placeOf_4 : decode cX7_placeOf 4 = .ok (.if_icmp .ge 27, 3) := by decide +kernel
theorem dX7_placeOf_7 : decode cX7_placeOf 7 = .ok (.iload_n 3, 1) := by decide +kernel
theorem dX7_placeOf_8 : decode cX7_placeOf 8 = .ok (.aload_n 1, 1) := by decide +kernel
theorem dX7_placeOf_9 : decode cX7_placeOf 9 = .ok (.arraylength, 1) := by decide +kernel
theorem dX7_placeOf_10 : decode cX7_placeOf 10 = .ok (.if_icmp .ge 21, 3) := by decide +kernel
theorem dX7_placeOf_13 : decode cX7_placeOf 13 = .ok (.iload_n 0, 1) := by decide +kernel
theorem dX7_placeOf_14 : decode cX7_placeOf 14 = .ok (.aload_n 1, 1) := by decide +kernel
theorem dX7_placeOf_15 : decode cX7_placeOf 15 = .ok (.iload_n 3, 1) := by decide +kernel
theorem dX7_placeOf_16 : decode cX7_placeOf 16 = .ok (.iaload, 1) := by decide +kernel
theorem dX7_placeOf_17 : decode cX7_placeOf 17 = .ok (.invokestatic 312, 3) := by decide +kernel
theorem dX7_placeOf_20 : decode cX7_placeOf 20 = .ok (.ifCond .eq 5, 3) := by decide +kernel
theorem dX7_placeOf_23 : decode cX7_placeOf 23 = .ok (.iload_n 3, 1) := by decide +kernel
theorem dX7_placeOf_24 : decode cX7_placeOf 24 = .ok (.ireturn, 1) := by decide +kernel
theorem dX7_placeOf_25 : decode cX7_placeOf 25 = .ok (.iinc 3 1, 3) := by decide +kernel
theorem dX7_placeOf_28 : decode cX7_placeOf 28 = .ok (.goto (-26), 3) := by decide +kernel
theorem dX7_placeOf_31 : decode cX7_placeOf 31 = .ok (.iconst (-1), 1) := by decide +kernel
theorem dX7_placeOf_32 : decode cX7_placeOf 32 = .ok (.ireturn, 1) := by decide +kernel
set_option maxHeartbeats 4000000 in
set_option maxRecDepth 100000 in
theorem mX7_placeOf_a25_L1 {p : Program} {l : Launch} {e : Env} {R : Room} {s : State} {m : MethodId} {args : Array Value} {below : List Frame} {meth : Method} {c : Code} {Q : State → Prop} {D : va_G} {U : zz_U} {A : Nat → Prop} {cells slots : Nat} {ad : Nat → Nat} {X : va_W} (C : zz_C p l R s m meth c D U A RX7 cX7_placeOf 4 (some .int) [] 1) (hcR : cells ≤ R.cells) (hsR : slots ≤ R.slots) (σ : zz_St) (piece_ : Int32) (count_ : Int32) : ∀ (n : Nat) (place_ : Int32) (q : (Int32 ⊕ (Int32))), fX7_placeOf_a25_L1 σ piece_ count_ n place_ = some q → (∀ v : Int32, q = .inl v → zz_Z p l e R s m args below meth c Q D A 4 cells slots (zz_wc U ad σ X) 24 [] [.int v]) → (∀ w : Int32, q = .inr w → zz_Z p l e R s m args below meth c Q D A 4 cells slots (zz_wc U ad σ X) 31 [(0, .int piece_), (1, .ref (ad 25)), (2, .int count_), (3, .int w)] []) → zz_Z p l e R s m args below meth c Q D A 4 cells slots (zz_wc U ad σ X) 2 [(0, .int piece_), (1, .ref (ad 25)), (2, .int count_), (3, .int place_)] [] := by
  intro n
  induction n with
  | zero => intro place_ q hf; rw [fX7_placeOf_a25_L1] at hf; cases hf
  | succ n ih =>
    intro place_ q hf kr kx
    rw [fX7_placeOf_a25_L1] at hf
    obtain ⟨b1, h2, hf⟩ := zz_bind hf
    refine zz_cutI (P := b1 = true) 13 [(0, .int piece_), (1, .ref (ad 25)), (2, .int count_), (3, .int place_)] [] (zz_wc U ad σ X) (fun g5 => ?_) (fun J3 => ?_)
    · rw [if_pos g5] at hf
      refine zz_iload_n C 0 dX7_placeOf_13 rfl rfl ?_
      refine zz_aload_n C 1 dX7_placeOf_14 rfl rfl ?_
      refine zz_iload_n C 3 dX7_placeOf_15 rfl rfl ?_
      obtain ⟨x8, h9, hf⟩ := zz_bind hf
      refine zl_25 C dX7_placeOf_16 h9 ?_
      obtain ⟨x10, h11, hf⟩ := zz_bind hf
      refine zz_callS1 (As := [.int piece_, .int x8]) (rest := []) C (mX7_isIn σ piece_ x8 x10 h11) dX7_placeOf_17 rfl zw_102 zy_X7_isIn rfl (by decide) (by decide) (Nat.le_of_ble_eq_true rfl) hcR hsR rfl ?_
      refine zz_if_eq (tgt := 25) C dX7_placeOf_20 (by decide) (fun g12 => ?_) (fun g12 => ?_)
      · rw [if_pos g12] at hf
        refine zz_iinc (v := (place_ + (1 : Int32))) C 3 dX7_placeOf_25 rfl (by rfl) (by decide) (lv' := [(3, .int (place_ + (1 : Int32))), (0, .int piece_), (1, .ref (ad 25)), (2, .int count_)]) rfl ?_
        refine zz_goto (tgt := 2) C dX7_placeOf_28 (by decide) ?_
        refine zz_sub [1, 2, 3, 0] rfl ?_
        exact ih (place_ + (1 : Int32)) _ hf kr kx
      · rw [if_neg g12] at hf
        refine zz_iload_n C 3 dX7_placeOf_23 rfl rfl ?_
        cases hf
        refine zz_sub [] rfl ?_
        exact kr _ rfl
    refine zz_cutI (P := b1 = false) 31 [(0, .int piece_), (1, .ref (ad 25)), (2, .int count_), (3, .int place_)] [] (zz_wc U ad σ X) (fun g5 => ?_) (fun J4 => ?_)
    · rw [if_neg (show ¬ b1 = true by rw [g5]; decide)] at hf
      cases hf
      exact kx _ rfl
    refine zz_iload_n C 3 dX7_placeOf_2 rfl rfl ?_
    refine zz_iload_n C 2 dX7_placeOf_3 rfl rfl ?_
    refine zz_icmp_ge (tgt := 31) C dX7_placeOf_4 (by decide) (fun g6 => ?_) (fun g6 => ?_)
    · rw [if_pos g6] at h2
      cases h2
      exact J4 rfl
    · rw [if_neg g6] at h2
      refine zz_iload_n C 3 dX7_placeOf_7 rfl rfl ?_
      refine zz_aload_n C 1 dX7_placeOf_8 rfl rfl ?_
      refine zz_alen (v := (14 : Int32)) C 25 0 dX7_placeOf_9 rfl rfl rfl ?_
      refine zz_icmp_ge (tgt := 31) C dX7_placeOf_10 (by decide) (fun g7 => ?_) (fun g7 => ?_)
      · rw [if_pos g7] at h2
        cases h2
        exact J4 rfl
      · rw [if_neg g7] at h2
        cases h2
        exact J3 rfl
set_option maxHeartbeats 4000000 in
set_option maxRecDepth 100000 in
theorem mX7_placeOf_a25 {D : va_G} {U : zz_U} {ad : Nat → Nat} {X : va_W} (σ : zz_St) (piece_ : Int32) (count_ : Int32) (r : Int32) (hf : fX7_placeOf_a25 σ piece_ count_ = some r) : zz_Met yX7_placeOf (.code yX7_placeOf cX7_placeOf 4 (some .int)) 1 0 0 D U [.int piece_, .ref (ad 25), .int count_] (zz_wc U ad σ X) (zz_ok (some (.int r)) (zz_wc U ad σ X)) zz_noth := by
  unfold fX7_placeOf_a25 at hf
  refine zz_method RX7 rfl (by decide +kernel) (Nat.le_of_ble_eq_true rfl) ?_
  intro p l e s m args below meth c A _ C
  refine zz_lvs (lv1 := [(0, .int piece_), (1, .ref (ad 25)), (2, .int count_)]) rfl ?_
  refine zz_iconst (v := (0 : Int32)) C dX7_placeOf_0 (by decide) ?_
  refine zz_istore_n C dX7_placeOf_1 rfl (by decide) (lv' := [(3, .int (0 : Int32)), (0, .int piece_), (1, .ref (ad 25)), (2, .int count_)]) rfl ?_
  obtain ⟨q13, h14, hf⟩ := zz_bind hf
  refine zz_sub [1, 2, 3, 0] rfl ?_
  refine mX7_placeOf_a25_L1 C (Nat.le_of_ble_eq_true rfl) (Nat.le_of_ble_eq_true rfl) σ piece_ count_ 1000 (0 : Int32) q13 h14 (fun v15 h17 => ?_) (fun w16 h17 => ?_)
  · subst h17
    cases hf
    exact zz_iret C dX7_placeOf_24 (And.intro rfl rfl) (Nat.le_of_ble_eq_true rfl) (Nat.le_of_ble_eq_true rfl)
  · subst h17
    refine zz_iconst (v := (-1 : Int32)) C dX7_placeOf_31 (by decide) ?_
    cases hf
    exact zz_iret C dX7_placeOf_32 (And.intro rfl rfl) (Nat.le_of_ble_eq_true rfl) (Nat.le_of_ble_eq_true rfl)
theorem dX7_groupOf_0 : decode cX7_groupOf 0 = .ok (.aload_n 0, 1) := by decide +kernel
theorem dX7_groupOf_1 : decode cX7_groupOf 1 = .ok (.iload_n 1, 1) := by decide +kernel
theorem dX7_groupOf_2 : decode cX7_groupOf 2 = .ok (.invokevirtual 136, 3) := by decide +kernel
theorem dX7_groupOf_5 : decode cX7_groupOf 5 = .ok (.aload_n 0, 1) := by decide +kernel
theorem dX7_groupOf_6 : decode cX7_groupOf 6 = .ok (.invokevirtual 176, 3) := by decide +kernel
theorem dX7_groupOf_9 : decode cX7_groupOf 9 = .ok (.iload_n 1, 1) := by decide +kernel
theorem dX7_groupOf_10 : decode cX7_groupOf 10 = .ok (.aload_n 0, 1) := by decide +kernel
theorem dX7_groupOf_11 : decode cX7_groupOf 11 = .ok (.getfield 40, 3) := by decide +kernel
theorem dX7_groupOf_14 : decode cX7_groupOf 14 = .ok (.getfield 183, 3) := by decide +kernel
theorem dX7_groupOf_17 : decode cX7_groupOf 17 = .ok (.aload_n 0, 1) := by decide +kernel
theorem dX7_groupOf_18 : decode cX7_groupOf 18 = .ok (.getfield 40, 3) := by decide +kernel
theorem dX7_groupOf_21 : decode cX7_groupOf 21 = .ok (.getfield 179, 3) := by decide +kernel
theorem dX7_groupOf_24 : decode cX7_groupOf 24 = .ok (.invokestatic 186, 3) := by decide +kernel
theorem dX7_groupOf_27 : decode cX7_groupOf 27 = .ok (.ireturn, 1) := by decide +kernel
set_option maxHeartbeats 4000000 in
set_option maxRecDepth 100000 in
theorem mX7_groupOf {D : va_G} {U : zz_U} {ad : Nat → Nat} {X : va_W} (σ : zz_St) (piece_ : Int32) (r : ((Int32 ⊕ String) × zz_St)) (hf : fX7_groupOf σ piece_ = some r) : zz_Met yX7_groupOf (.code yX7_groupOf cX7_groupOf 2 (some .int)) 7 1 6 D U [.ref (ad 0), .int piece_] (zz_wc U ad σ X) (match r.1 with | .inl x => zz_ok (some (.int x)) (zz_wc U ad r.2 X) | .inr _ => zz_none) (match r.1 with | .inl _ => zz_noth | .inr E => zz_th E (zz_wc U ad r.2 X)) := by
  unfold fX7_groupOf at hf
  refine zz_method RX7 rfl (by decide +kernel) (Nat.le_of_ble_eq_true rfl) ?_
  intro p l e s m args below meth c A _ C
  refine zz_lvs (lv1 := [(0, .ref (ad 0)), (1, .int piece_)]) rfl ?_
  refine zz_aload_n C 0 dX7_groupOf_0 rfl rfl ?_
  refine zz_iload_n C 1 dX7_groupOf_1 rfl rfl ?_
  obtain ⟨x1, h2, hf⟩ := zz_bind hf
  rcases x1 with x1 | E3
  · refine zz_callV1 (As := [.int piece_]) (rest := []) C 0 (mX7_requirePiece_r σ piece_ x1 h2) dX7_groupOf_2 rfl rfl rfl zw_14 zy_X7_requirePiece rfl (by decide) (by decide) (Nat.le_of_ble_eq_true rfl) (Nat.le_of_ble_eq_true rfl) (Nat.le_of_ble_eq_true rfl) rfl ?_
    refine zz_aload_n C 0 dX7_groupOf_5 rfl rfl ?_
    obtain ⟨x4, h5, hf⟩ := zz_bind hf
    refine zz_callV1 (As := []) (rest := []) C 0 (mX7_putTogether σ x4 h5) dX7_groupOf_6 rfl rfl rfl zw_99 zy_X7_putTogether rfl (by decide) (by decide) (Nat.le_of_ble_eq_true rfl) (Nat.le_of_ble_eq_true rfl) (Nat.le_of_ble_eq_true rfl) rfl ?_
    refine zz_iload_n C 1 dX7_groupOf_9 rfl rfl ?_
    refine zz_aload_n C 0 dX7_groupOf_10 rfl rfl ?_
    refine zf7_groups C dX7_groupOf_11 zw_55 ?_
    refine zf3_sets C dX7_groupOf_14 zw_100 ?_
    refine zz_aload_n C 0 dX7_groupOf_17 rfl rfl ?_
    refine zf7_groups C dX7_groupOf_18 zw_55 ?_
    refine zf3_count C dX7_groupOf_21 zw_98 ?_
    obtain ⟨x6, h7, hf⟩ := zz_bind hf
    refine zz_callS1 (As := [.int piece_, .ref (ad 25), .int (x4 24 2)]) (rest := []) C (mX7_placeOf_a25 x4 piece_ (x4 24 2) x6 h7) dX7_groupOf_24 rfl zw_103 zy_X7_placeOf rfl (by decide) (by decide) (Nat.le_of_ble_eq_true rfl) (Nat.le_of_ble_eq_true rfl) (Nat.le_of_ble_eq_true rfl) rfl ?_
    cases hf
    exact zz_iret C dX7_groupOf_27 (And.intro rfl rfl) (Nat.le_of_ble_eq_true rfl) (Nat.le_of_ble_eq_true rfl)
  · refine zz_callVx (As := [.int piece_]) (rest := []) C 0 (mX7_requirePiece_x σ piece_ E3 h2) dX7_groupOf_2 rfl rfl rfl zw_14 zy_X7_requirePiece rfl (by decide) (by decide) (Nat.le_of_ble_eq_true rfl) (Nat.le_of_ble_eq_true rfl) (Nat.le_of_ble_eq_true rfl) ?_
    cases hf
    exact zz_out C (And.intro rfl rfl) (Nat.le_of_ble_eq_true rfl) (Nat.le_of_ble_eq_true rfl)
theorem mX7_groupOf_r {D : va_G} {U : zz_U} {ad : Nat → Nat} {X : va_W} (σ : zz_St) (piece_ : Int32) (x : Int32) (σ1 : zz_St) (hf : fX7_groupOf σ piece_ = some (.inl x, σ1)) : zz_Met yX7_groupOf (.code yX7_groupOf cX7_groupOf 2 (some .int)) 7 1 6 D U [.ref (ad 0), .int piece_] (zz_wc U ad σ X) (zz_ok (some (.int x)) (zz_wc U ad σ1 X)) zz_noth := mX7_groupOf σ piece_ (.inl x, σ1) hf
theorem mX7_groupOf_x {D : va_G} {U : zz_U} {ad : Nat → Nat} {X : va_W} (σ : zz_St) (piece_ : Int32) (x : String) (σ1 : zz_St) (hf : fX7_groupOf σ piece_ = some (.inr x, σ1)) : zz_Met yX7_groupOf (.code yX7_groupOf cX7_groupOf 2 (some .int)) 7 1 6 D U [.ref (ad 0), .int piece_] (zz_wc U ad σ X) zz_none (zz_th x (zz_wc U ad σ1 X)) := mX7_groupOf σ piece_ (.inr x, σ1) hf
theorem dX7_linkage_0 : decode cX7_linkage 0 = .ok (.aload_n 0, 1) := by decide +kernel
theorem dX7_linkage_1 : decode cX7_linkage 1 = .ok (.iload_n 1, 1) := by decide +kernel
theorem dX7_linkage_2 : decode cX7_linkage 2 = .ok (.invokevirtual 180, 3) := by decide +kernel
theorem dX7_linkage_5 : decode cX7_linkage 5 = .ok (.aload_n 0, 1) := by decide +kernel
theorem dX7_linkage_6 : decode cX7_linkage 6 = .ok (.iload_n 2, 1) := by decide +kernel
theorem dX7_linkage_7 : decode cX7_linkage 7 = .ok (.invokevirtual 180, 3) := by decide +kernel
theorem dX7_linkage_10 : decode cX7_linkage 10 = .ok (.iload_n 1, 1) := by decide +kernel
theorem dX7_linkage_11 : decode cX7_linkage 11 = .ok (.iload_n 2, 1) := by decide +kernel
theorem dX7_linkage_12 : decode cX7_linkage 12 = .ok (.if_icmp .ne 13, 3) := by decide +kernel
theorem dX7_linkage_15 : decode cX7_linkage 15 = .ok (.new 62, 3) := by decide +kernel
theorem dX7_linkage_18 : decode cX7_linkage 18 = .ok (.dup, 1) := by decide +kernel
theorem dX7_linkage_19 : decode cX7_linkage 19 = .ok (.ldc 190, 2) := by decide +kernel
theorem dX7_linkage_21 : decode cX7_linkage 21 = .ok (.invokespecial 66, 3) := by decide +kernel
theorem dX7_linkage_24 : decode cX7_linkage 24 = .ok (.athrow, 1) := by decide +kernel
theorem dX7_linkage_25 : decode cX7_linkage 25 = .ok (.aload_n 0, 1) := by decide +kernel
theorem dX7_linkage_26 : decode cX7_linkage 26 = .ok (.getfield 40, 3) := by decide +kernel
theorem dX7_linkage_29 : decode cX7_linkage 29 = .ok (.aload_n 0, 1) := by decide +kernel
theorem dX7_linkage_30 : decode cX7_linkage 30 = .ok (.getfield 40, 3) := by decide +kernel
theorem dX7_linkage_33 : decode cX7_linkage 33 = .ok (.getfield 183, 3) := by decide +kernel
theorem dX7_linkage_36 : decode cX7_linkage 36 = .ok (.iload_n 1, 1) := by decide +kernel
theorem dX7_linkage_37 : decode cX7_linkage 37 = .ok (.iaload, 1) := by decide +kernel
theorem dX7_linkage_38 : decode cX7_linkage 38 = .ok (.aload_n 0, 1) := by decide +kernel
theorem dX7_linkage_39 : decode cX7_linkage 39 = .ok (.getfield 40, 3) := by decide +kernel
theorem dX7_linkage_42 : decode cX7_linkage 42 = .ok (.getfield 183, 3) := by decide +kernel
theorem dX7_linkage_45 : decode cX7_linkage 45 = .ok (.iload_n 2, 1) := by decide +kernel
theorem dX7_linkage_46 : decode cX7_linkage 46 = .ok (.iaload, 1) := by decide +kernel
theorem dX7_linkage_47 : decode cX7_linkage 47 = .ok (.invokevirtual 192, 3) := by decide +kernel
theorem dX7_linkage_50 : decode cX7_linkage 50 = .ok (.ireturn, 1) := by decide +kernel
set_option maxHeartbeats 4000000 in
set_option maxRecDepth 100000 in
theorem mX7_linkage {D : va_G} {U : zz_U} {ad : Nat → Nat} {X : va_W} (σ : zz_St) (a_ : Int32) (b_ : Int32) (r : ((Int32 ⊕ String) × zz_St)) (hf : fX7_linkage σ a_ b_ = some r) : zz_Met yX7_linkage (.code yX7_linkage cX7_linkage 3 (some .int)) 7 3 18 D U [.ref (ad 0), .int a_, .int b_] (zz_wc U ad σ X) (match r.1 with | .inl x => zz_ok (some (.int x)) (zz_wc U ad r.2 X) | .inr _ => zz_none) (match r.1 with | .inl _ => zz_noth | .inr E => zz_th E (zz_wc U ad r.2 X)) := by
  unfold fX7_linkage at hf
  refine zz_method RX7 rfl (by decide +kernel) (Nat.le_of_ble_eq_true rfl) ?_
  intro p l e s m args below meth c A _ C
  refine zz_lvs (lv1 := [(0, .ref (ad 0)), (1, .int a_), (2, .int b_)]) rfl ?_
  refine zz_aload_n C 0 dX7_linkage_0 rfl rfl ?_
  refine zz_iload_n C 1 dX7_linkage_1 rfl rfl ?_
  obtain ⟨⟨x1, σ4⟩, h2, hf⟩ := zz_bind hf
  rcases x1 with x1 | E3
  · try dsimp only at hf
    refine zz_callV1 (As := [.int a_]) (rest := []) C 0 (mX7_requireGroup_r σ a_ x1 σ4 h2) dX7_linkage_2 rfl rfl rfl zw_101 zy_X7_requireGroup rfl (by decide) (by decide) (Nat.le_of_ble_eq_true rfl) (Nat.le_of_ble_eq_true rfl) (Nat.le_of_ble_eq_true rfl) rfl ?_
    refine zz_aload_n C 0 dX7_linkage_5 rfl rfl ?_
    refine zz_iload_n C 2 dX7_linkage_6 rfl rfl ?_
    obtain ⟨⟨x5, σ8⟩, h6, hf⟩ := zz_bind hf
    rcases x5 with x5 | E7
    · try dsimp only at hf
      refine zz_callV1 (As := [.int b_]) (rest := []) C 0 (mX7_requireGroup_r σ4 b_ x5 σ8 h6) dX7_linkage_7 rfl rfl rfl zw_101 zy_X7_requireGroup rfl (by decide) (by decide) (Nat.le_of_ble_eq_true rfl) (Nat.le_of_ble_eq_true rfl) (Nat.le_of_ble_eq_true rfl) rfl ?_
      refine zz_iload_n C 1 dX7_linkage_10 rfl rfl ?_
      refine zz_iload_n C 2 dX7_linkage_11 rfl rfl ?_
      refine zz_icmp_ne (tgt := 25) C dX7_linkage_12 (by decide) (fun g9 => ?_) (fun g9 => ?_)
      · rw [if_neg g9] at hf
        refine zz_aload_n C 0 dX7_linkage_25 rfl rfl ?_
        refine zf7_groups C dX7_linkage_26 zw_55 ?_
        refine zz_aload_n C 0 dX7_linkage_29 rfl rfl ?_
        refine zf7_groups C dX7_linkage_30 zw_55 ?_
        refine zf3_sets C dX7_linkage_33 zw_100 ?_
        refine zz_iload_n C 1 dX7_linkage_36 rfl rfl ?_
        obtain ⟨x10, h11, hf⟩ := zz_bind hf
        refine zl_25 C dX7_linkage_37 h11 ?_
        refine zz_aload_n C 0 dX7_linkage_38 rfl rfl ?_
        refine zf7_groups C dX7_linkage_39 zw_55 ?_
        refine zf3_sets C dX7_linkage_42 zw_100 ?_
        refine zz_iload_n C 2 dX7_linkage_45 rfl rfl ?_
        obtain ⟨x12, h13, hf⟩ := zz_bind hf
        refine zl_25 C dX7_linkage_46 h13 ?_
        obtain ⟨x14, h15, hf⟩ := zz_bind hf
        refine zz_callV1 (As := [.int x10, .int x12]) (rest := []) C 24 (mX3_linkageOf σ8 x10 x12 x14 h15) dX7_linkage_47 rfl rfl rfl zw_104 zy_X3_linkageOf rfl (by decide) (by decide) (Nat.le_of_ble_eq_true rfl) (Nat.le_of_ble_eq_true rfl) (Nat.le_of_ble_eq_true rfl) rfl ?_
        cases hf
        exact zz_iret C dX7_linkage_50 (And.intro rfl rfl) (Nat.le_of_ble_eq_true rfl) (Nat.le_of_ble_eq_true rfl)
      · rw [if_pos g9] at hf
        cases hf
        exact zz_throwS (cls := "java/lang/IllegalArgumentException") (text := "the same group twice") C zt_0 (by decide +kernel) dX7_linkage_15 dX7_linkage_18 dX7_linkage_19 dX7_linkage_21 dX7_linkage_24 (by decide) (Nat.le_of_ble_eq_true rfl) (Nat.le_of_ble_eq_true rfl) (Nat.le_of_ble_eq_true rfl) (Nat.le_of_ble_eq_true rfl) (Nat.le_of_ble_eq_true rfl) (And.intro rfl rfl)
    · refine zz_callVx (As := [.int b_]) (rest := []) C 0 (mX7_requireGroup_x σ4 b_ E7 σ8 h6) dX7_linkage_7 rfl rfl rfl zw_101 zy_X7_requireGroup rfl (by decide) (by decide) (Nat.le_of_ble_eq_true rfl) (Nat.le_of_ble_eq_true rfl) (Nat.le_of_ble_eq_true rfl) ?_
      cases hf
      exact zz_out C (And.intro rfl rfl) (Nat.le_of_ble_eq_true rfl) (Nat.le_of_ble_eq_true rfl)
  · refine zz_callVx (As := [.int a_]) (rest := []) C 0 (mX7_requireGroup_x σ a_ E3 σ4 h2) dX7_linkage_2 rfl rfl rfl zw_101 zy_X7_requireGroup rfl (by decide) (by decide) (Nat.le_of_ble_eq_true rfl) (Nat.le_of_ble_eq_true rfl) (Nat.le_of_ble_eq_true rfl) ?_
    cases hf
    exact zz_out C (And.intro rfl rfl) (Nat.le_of_ble_eq_true rfl) (Nat.le_of_ble_eq_true rfl)
theorem mX7_linkage_r {D : va_G} {U : zz_U} {ad : Nat → Nat} {X : va_W} (σ : zz_St) (a_ : Int32) (b_ : Int32) (x : Int32) (σ1 : zz_St) (hf : fX7_linkage σ a_ b_ = some (.inl x, σ1)) : zz_Met yX7_linkage (.code yX7_linkage cX7_linkage 3 (some .int)) 7 3 18 D U [.ref (ad 0), .int a_, .int b_] (zz_wc U ad σ X) (zz_ok (some (.int x)) (zz_wc U ad σ1 X)) zz_noth := mX7_linkage σ a_ b_ (.inl x, σ1) hf
theorem mX7_linkage_x {D : va_G} {U : zz_U} {ad : Nat → Nat} {X : va_W} (σ : zz_St) (a_ : Int32) (b_ : Int32) (x : String) (σ1 : zz_St) (hf : fX7_linkage σ a_ b_ = some (.inr x, σ1)) : zz_Met yX7_linkage (.code yX7_linkage cX7_linkage 3 (some .int)) 7 3 18 D U [.ref (ad 0), .int a_, .int b_] (zz_wc U ad σ X) zz_none (zz_th x (zz_wc U ad σ1 X)) := mX7_linkage σ a_ b_ (.inr x, σ1) hf
theorem dX7_lastLinkage_0 : decode cX7_lastLinkage 0 = .ok (.aload_n 0, 1) := by decide +kernel
theorem dX7_lastLinkage_1 : decode cX7_lastLinkage 1 = .ok (.invokevirtual 176, 3) := by decide +kernel
theorem dX7_lastLinkage_4 : decode cX7_lastLinkage 4 = .ok (.aload_n 0, 1) := by decide +kernel
theorem dX7_lastLinkage_5 : decode cX7_lastLinkage 5 = .ok (.getfield 40, 3) := by decide +kernel
theorem dX7_lastLinkage_8 : decode cX7_lastLinkage 8 = .ok (.getfield 195, 3) := by decide +kernel
theorem dX7_lastLinkage_11 : decode cX7_lastLinkage 11 = .ok (.ireturn, 1) := by decide +kernel
set_option maxHeartbeats 4000000 in
set_option maxRecDepth 100000 in
theorem mX7_lastLinkage {D : va_G} {U : zz_U} {ad : Nat → Nat} {X : va_W} (σ : zz_St) (r : (Int32 × zz_St)) (hf : fX7_lastLinkage σ = some r) : zz_Met yX7_lastLinkage (.code yX7_lastLinkage cX7_lastLinkage 1 (some .int)) 6 0 0 D U [.ref (ad 0)] (zz_wc U ad σ X) (zz_ok (some (.int r.1)) (zz_wc U ad r.2 X)) zz_noth := by
  unfold fX7_lastLinkage at hf
  refine zz_method RX7 rfl (by decide +kernel) (Nat.le_of_ble_eq_true rfl) ?_
  intro p l e s m args below meth c A _ C
  refine zz_lvs (lv1 := [(0, .ref (ad 0))]) rfl ?_
  refine zz_aload_n C 0 dX7_lastLinkage_0 rfl rfl ?_
  obtain ⟨x1, h2, hf⟩ := zz_bind hf
  refine zz_callV1 (As := []) (rest := []) C 0 (mX7_putTogether σ x1 h2) dX7_lastLinkage_1 rfl rfl rfl zw_99 zy_X7_putTogether rfl (by decide) (by decide) (Nat.le_of_ble_eq_true rfl) (Nat.le_of_ble_eq_true rfl) (Nat.le_of_ble_eq_true rfl) rfl ?_
  refine zz_aload_n C 0 dX7_lastLinkage_4 rfl rfl ?_
  refine zf7_groups C dX7_lastLinkage_5 zw_55 ?_
  refine zf3_linkageOfLastJoin C dX7_lastLinkage_8 zw_105 ?_
  cases hf
  exact zz_iret C dX7_lastLinkage_11 (And.intro rfl rfl) (Nat.le_of_ble_eq_true rfl) (Nat.le_of_ble_eq_true rfl)
theorem dX7_needs_0 : decode cX7_needs 0 = .ok (.aload_n 0, 1) := by decide +kernel
theorem dX7_needs_1 : decode cX7_needs 1 = .ok (.iload_n 1, 1) := by decide +kernel
theorem dX7_needs_2 : decode cX7_needs 2 = .ok (.invokevirtual 136, 3) := by decide +kernel
theorem dX7_needs_5 : decode cX7_needs 5 = .ok (.aload_n 0, 1) := by decide +kernel
theorem dX7_needs_6 : decode cX7_needs 6 = .ok (.iload_n 2, 1) := by decide +kernel
theorem dX7_needs_7 : decode cX7_needs 7 = .ok (.invokevirtual 136, 3) := by decide +kernel
theorem dX7_needs_10 : decode cX7_needs 10 = .ok (.iload_n 1, 1) := by decide +kernel
theorem dX7_needs_11 : decode cX7_needs 11 = .ok (.iload_n 2, 1) := by decide +kernel
theorem dX7_needs_12 : decode cX7_needs 12 = .ok (.invokestatic 139, 3) := by decide +kernel
theorem dX7_needs_15 : decode cX7_needs 15 = .ok (.aload_n 0, 1) := by decide +kernel
theorem dX7_needs_16 : decode cX7_needs 16 = .ok (.getfield 12, 3) := by decide +kernel
theorem dX7_needs_19 : decode cX7_needs 19 = .ok (.iload_n 1, 1) := by decide +kernel
theorem dX7_needs_20 : decode cX7_needs 20 = .ok (.iload_n 2, 1) := by decide +kernel
theorem dX7_needs_21 : decode cX7_needs 21 = .ok (.aload_n 0, 1) := by decide +kernel
theorem dX7_needs_22 : decode cX7_needs 22 = .ok (.getfield 19, 3) := by decide +kernel
theorem dX7_needs_25 : decode cX7_needs 25 = .ok (.getfield 198, 3) := by decide +kernel
theorem dX7_needs_28 : decode cX7_needs 28 = .ok (.invokevirtual 201, 3) := by decide +kernel
theorem dX7_needs_31 : decode cX7_needs 31 = .ok (.ireturn, 1) := by decide +kernel
set_option maxHeartbeats 4000000 in
set_option maxRecDepth 100000 in
theorem mX7_needs {D : va_G} {U : zz_U} {ad : Nat → Nat} {X : va_W} (σ : zz_St) (a_ : Int32) (b_ : Int32) (r : (Int32 ⊕ String)) (hf : fX7_needs σ a_ b_ = some r) : zz_Met yX7_needs (.code yX7_needs cX7_needs 3 (some .boolean)) 7 3 18 D U [.ref (ad 0), .int a_, .int b_] (zz_wc U ad σ X) (match r with | .inl x => zz_ok (some (.int x)) (zz_wc U ad σ X) | .inr _ => zz_none) (match r with | .inl _ => zz_noth | .inr E => zz_th E (zz_wc U ad σ X)) := by
  unfold fX7_needs at hf
  refine zz_method RX7 rfl (by decide +kernel) (Nat.le_of_ble_eq_true rfl) ?_
  intro p l e s m args below meth c A _ C
  refine zz_lvs (lv1 := [(0, .ref (ad 0)), (1, .int a_), (2, .int b_)]) rfl ?_
  refine zz_aload_n C 0 dX7_needs_0 rfl rfl ?_
  refine zz_iload_n C 1 dX7_needs_1 rfl rfl ?_
  obtain ⟨x1, h2, hf⟩ := zz_bind hf
  rcases x1 with x1 | E3
  · refine zz_callV1 (As := [.int a_]) (rest := []) C 0 (mX7_requirePiece_r σ a_ x1 h2) dX7_needs_2 rfl rfl rfl zw_14 zy_X7_requirePiece rfl (by decide) (by decide) (Nat.le_of_ble_eq_true rfl) (Nat.le_of_ble_eq_true rfl) (Nat.le_of_ble_eq_true rfl) rfl ?_
    refine zz_aload_n C 0 dX7_needs_5 rfl rfl ?_
    refine zz_iload_n C 2 dX7_needs_6 rfl rfl ?_
    obtain ⟨x4, h5, hf⟩ := zz_bind hf
    rcases x4 with x4 | E6
    · refine zz_callV1 (As := [.int b_]) (rest := []) C 0 (mX7_requirePiece_r σ b_ x4 h5) dX7_needs_7 rfl rfl rfl zw_14 zy_X7_requirePiece rfl (by decide) (by decide) (Nat.le_of_ble_eq_true rfl) (Nat.le_of_ble_eq_true rfl) (Nat.le_of_ble_eq_true rfl) rfl ?_
      refine zz_iload_n C 1 dX7_needs_10 rfl rfl ?_
      refine zz_iload_n C 2 dX7_needs_11 rfl rfl ?_
      obtain ⟨x7, h8, hf⟩ := zz_bind hf
      rcases x7 with x7 | E9
      · refine zz_callS1 (As := [.int a_, .int b_]) (rest := []) C (mX7_requireDifferent_r σ a_ b_ x7 h8) dX7_needs_12 rfl zw_51 zy_X7_requireDifferent rfl (by decide) (by decide) (Nat.le_of_ble_eq_true rfl) (Nat.le_of_ble_eq_true rfl) (Nat.le_of_ble_eq_true rfl) rfl ?_
        refine zz_aload_n C 0 dX7_needs_15 rfl rfl ?_
        refine zf7_pieces C dX7_needs_16 zw_10 ?_
        refine zz_iload_n C 1 dX7_needs_19 rfl rfl ?_
        refine zz_iload_n C 2 dX7_needs_20 rfl rfl ?_
        refine zz_aload_n C 0 dX7_needs_21 rfl rfl ?_
        refine zf7_code C dX7_needs_22 zw_24 ?_
        refine zf1_definedNames C dX7_needs_25 zw_107 ?_
        obtain ⟨x10, h11, hf⟩ := zz_bind hf
        refine zz_callV1 (As := [.int a_, .int b_, .int (σ 17 0)]) (rest := []) C 1 (mX5_isNeeded σ a_ b_ (σ 17 0) x10 h11) dX7_needs_28 rfl rfl rfl zw_106 zy_X5_isNeeded rfl (by decide) (by decide) (Nat.le_of_ble_eq_true rfl) (Nat.le_of_ble_eq_true rfl) (Nat.le_of_ble_eq_true rfl) rfl ?_
        obtain ⟨x12, h13, hf⟩ := zz_bind hf
        refine zz_topi (zz_bo_in h13).2 ?_
        cases hf
        exact zz_zret C dX7_needs_31 (by rw [← (zz_bo_in h13).2]; exact (zz_bo_in h13).1) (And.intro rfl rfl) (Nat.le_of_ble_eq_true rfl) (Nat.le_of_ble_eq_true rfl)
      · refine zz_callSx (As := [.int a_, .int b_]) (rest := []) C (mX7_requireDifferent_x σ a_ b_ E9 h8) dX7_needs_12 rfl zw_51 zy_X7_requireDifferent rfl (by decide) (by decide) (Nat.le_of_ble_eq_true rfl) (Nat.le_of_ble_eq_true rfl) (Nat.le_of_ble_eq_true rfl) ?_
        cases hf
        exact zz_out C (And.intro rfl rfl) (Nat.le_of_ble_eq_true rfl) (Nat.le_of_ble_eq_true rfl)
    · refine zz_callVx (As := [.int b_]) (rest := []) C 0 (mX7_requirePiece_x σ b_ E6 h5) dX7_needs_7 rfl rfl rfl zw_14 zy_X7_requirePiece rfl (by decide) (by decide) (Nat.le_of_ble_eq_true rfl) (Nat.le_of_ble_eq_true rfl) (Nat.le_of_ble_eq_true rfl) ?_
      cases hf
      exact zz_out C (And.intro rfl rfl) (Nat.le_of_ble_eq_true rfl) (Nat.le_of_ble_eq_true rfl)
  · refine zz_callVx (As := [.int a_]) (rest := []) C 0 (mX7_requirePiece_x σ a_ E3 h2) dX7_needs_2 rfl rfl rfl zw_14 zy_X7_requirePiece rfl (by decide) (by decide) (Nat.le_of_ble_eq_true rfl) (Nat.le_of_ble_eq_true rfl) (Nat.le_of_ble_eq_true rfl) ?_
    cases hf
    exact zz_out C (And.intro rfl rfl) (Nat.le_of_ble_eq_true rfl) (Nat.le_of_ble_eq_true rfl)
theorem mX7_needs_r {D : va_G} {U : zz_U} {ad : Nat → Nat} {X : va_W} (σ : zz_St) (a_ : Int32) (b_ : Int32) (x : Int32) (hf : fX7_needs σ a_ b_ = some (.inl x)) : zz_Met yX7_needs (.code yX7_needs cX7_needs 3 (some .boolean)) 7 3 18 D U [.ref (ad 0), .int a_, .int b_] (zz_wc U ad σ X) (zz_ok (some (.int x)) (zz_wc U ad σ X)) zz_noth := mX7_needs σ a_ b_ (.inl x) hf
theorem mX7_needs_x {D : va_G} {U : zz_U} {ad : Nat → Nat} {X : va_W} (σ : zz_St) (a_ : Int32) (b_ : Int32) (E : String) (hf : fX7_needs σ a_ b_ = some (.inr E)) : zz_Met yX7_needs (.code yX7_needs cX7_needs 3 (some .boolean)) 7 3 18 D U [.ref (ad 0), .int a_, .int b_] (zz_wc U ad σ X) zz_none (zz_th E (zz_wc U ad σ X)) := mX7_needs σ a_ b_ (.inr E) hf
theorem dX7_parcelCount_0 : decode cX7_parcelCount 0 = .ok (.aload_n 0, 1) := by decide +kernel
theorem dX7_parcelCount_1 : decode cX7_parcelCount 1 = .ok (.invokevirtual 176, 3) := by decide +kernel
theorem dX7_parcelCount_4 : decode cX7_parcelCount 4 = .ok (.aload_n 0, 1) := by decide +kernel
theorem dX7_parcelCount_5 : decode cX7_parcelCount 5 = .ok (.getfield 47, 3) := by decide +kernel
theorem dX7_parcelCount_8 : decode cX7_parcelCount 8 = .ok (.getfield 205, 3) := by decide +kernel
theorem dX7_parcelCount_11 : decode cX7_parcelCount 11 = .ok (.ireturn, 1) := by decide +kernel
set_option maxHeartbeats 4000000 in
set_option maxRecDepth 100000 in
theorem mX7_parcelCount {D : va_G} {U : zz_U} {ad : Nat → Nat} {X : va_W} (σ : zz_St) (r : (Int32 × zz_St)) (hf : fX7_parcelCount σ = some r) : zz_Met yX7_parcelCount (.code yX7_parcelCount cX7_parcelCount 1 (some .int)) 6 0 0 D U [.ref (ad 0)] (zz_wc U ad σ X) (zz_ok (some (.int r.1)) (zz_wc U ad r.2 X)) zz_noth := by
  unfold fX7_parcelCount at hf
  refine zz_method RX7 rfl (by decide +kernel) (Nat.le_of_ble_eq_true rfl) ?_
  intro p l e s m args below meth c A _ C
  refine zz_lvs (lv1 := [(0, .ref (ad 0))]) rfl ?_
  refine zz_aload_n C 0 dX7_parcelCount_0 rfl rfl ?_
  obtain ⟨x1, h2, hf⟩ := zz_bind hf
  refine zz_callV1 (As := []) (rest := []) C 0 (mX7_putTogether σ x1 h2) dX7_parcelCount_1 rfl rfl rfl zw_99 zy_X7_putTogether rfl (by decide) (by decide) (Nat.le_of_ble_eq_true rfl) (Nat.le_of_ble_eq_true rfl) (Nat.le_of_ble_eq_true rfl) rfl ?_
  refine zz_aload_n C 0 dX7_parcelCount_4 rfl rfl ?_
  refine zf7_parcels C dX7_parcelCount_5 zw_95 ?_
  refine zf4_count C dX7_parcelCount_8 zw_108 ?_
  cases hf
  exact zz_iret C dX7_parcelCount_11 (And.intro rfl rfl) (Nat.le_of_ble_eq_true rfl) (Nat.le_of_ble_eq_true rfl)
theorem dX7_requireParcel_0 : decode cX7_requireParcel 0 = .ok (.aload_n 0, 1) := by decide +kernel
theorem dX7_requireParcel_1 : decode cX7_requireParcel 1 = .ok (.invokevirtual 176, 3) := by decide +kernel
theorem dX7_requireParcel_4 : decode cX7_requireParcel 4 = .ok (.iload_n 1, 1) := by decide +kernel
theorem dX7_requireParcel_5 : decode cX7_requireParcel 5 = .ok (.ifCond .lt 14, 3) := by decide +kernel
theorem dX7_requireParcel_8 : decode cX7_requireParcel 8 = .ok (.iload_n 1, 1) := by decide +kernel
theorem dX7_requireParcel_9 : decode cX7_requireParcel 9 = .ok (.aload_n 0, 1) := by decide +kernel
theorem dX7_requireParcel_10 : decode cX7_requireParcel 10 = .ok (.getfield 47, 3) := by decide +kernel
theorem dX7_requireParcel_13 : decode cX7_requireParcel 13 = .ok (.getfield 205, 3) := by decide +kernel
theorem dX7_requireParcel_16 : decode cX7_requireParcel 16 = .ok (.if_icmp .lt 14, 3) := by decide +kernel
theorem dX7_requireParcel_19 : decode cX7_requireParcel 19 = .ok (.new 102, 3) := by decide +kernel
theorem dX7_requireParcel_22 : decode cX7_requireParcel 22 = .ok (.dup, 1) := by decide +kernel
theorem dX7_requireParcel_23 : decode cX7_requireParcel 23 = .ok (.ldc_w 306, 3) := by decide +kernel
theorem dX7_requireParcel_26 : decode cX7_requireParcel 26 = .ok (.invokespecial 106, 3) := by decide +kernel
theorem dX7_requireParcel_29 : decode cX7_requireParcel 29 = .ok (.athrow, 1) := by decide +kernel
theorem dX7_requireParcel_30 : decode cX7_requireParcel 30 = .ok (.return_, 1) := by decide +kernel
set_option maxHeartbeats 4000000 in
set_option maxRecDepth 100000 in
theorem mX7_requireParcel {D : va_G} {U : zz_U} {ad : Nat → Nat} {X : va_W} (σ : zz_St) (parcel_ : Int32) (r : ((Unit ⊕ String) × zz_St)) (hf : fX7_requireParcel σ parcel_ = some r) : zz_Met yX7_requireParcel (.code yX7_requireParcel cX7_requireParcel 2 none) 6 1 6 D U [.ref (ad 0), .int parcel_] (zz_wc U ad σ X) (match r.1 with | .inl _ => zz_ok none (zz_wc U ad r.2 X) | .inr _ => zz_none) (match r.1 with | .inl _ => zz_noth | .inr E => zz_th E (zz_wc U ad r.2 X)) := by
  unfold fX7_requireParcel at hf
  refine zz_method RX7 rfl (by decide +kernel) (Nat.le_of_ble_eq_true rfl) ?_
  intro p l e s m args below meth c A _ C
  refine zz_lvs (lv1 := [(0, .ref (ad 0)), (1, .int parcel_)]) rfl ?_
  refine zz_aload_n C 0 dX7_requireParcel_0 rfl rfl ?_
  obtain ⟨x1, h2, hf⟩ := zz_bind hf
  refine zz_callV1 (As := []) (rest := []) C 0 (mX7_putTogether σ x1 h2) dX7_requireParcel_1 rfl rfl rfl zw_99 zy_X7_putTogether rfl (by decide) (by decide) (Nat.le_of_ble_eq_true rfl) (Nat.le_of_ble_eq_true rfl) (Nat.le_of_ble_eq_true rfl) rfl ?_
  obtain ⟨b3, h4, hf⟩ := zz_bind hf
  refine zz_cutI (P := b3 = true) 19 [(0, .ref (ad 0)), (1, .int parcel_)] [] (zz_wc U ad x1 X) (fun g7 => ?_) (fun J5 => ?_)
  · rw [if_pos g7] at hf
    cases hf
    exact zz_throwSW (cls := "java/lang/IndexOutOfBoundsException") (text := "no such parcel") C zt_2 (by decide +kernel) dX7_requireParcel_19 dX7_requireParcel_22 dX7_requireParcel_23 dX7_requireParcel_26 dX7_requireParcel_29 (by decide) (Nat.le_of_ble_eq_true rfl) (Nat.le_of_ble_eq_true rfl) (Nat.le_of_ble_eq_true rfl) (Nat.le_of_ble_eq_true rfl) (Nat.le_of_ble_eq_true rfl) (And.intro rfl rfl)
  refine zz_cutI (P := b3 = false) 30 [(0, .ref (ad 0)), (1, .int parcel_)] [] (zz_wc U ad x1 X) (fun g7 => ?_) (fun J6 => ?_)
  · rw [if_neg (show ¬ b3 = true by rw [g7]; decide)] at hf
    cases hf
    exact zz_vret C dX7_requireParcel_30 (And.intro rfl rfl) (Nat.le_of_ble_eq_true rfl) (Nat.le_of_ble_eq_true rfl)
  refine zz_iload_n C 1 dX7_requireParcel_4 rfl rfl ?_
  refine zz_if_lt (tgt := 19) C dX7_requireParcel_5 (by decide) (fun g8 => ?_) (fun g8 => ?_)
  · rw [if_pos g8] at h4
    cases h4
    exact J5 rfl
  · rw [if_neg g8] at h4
    refine zz_iload_n C 1 dX7_requireParcel_8 rfl rfl ?_
    refine zz_aload_n C 0 dX7_requireParcel_9 rfl rfl ?_
    refine zf7_parcels C dX7_requireParcel_10 zw_95 ?_
    refine zf4_count C dX7_requireParcel_13 zw_108 ?_
    refine zz_icmp_lt (tgt := 30) C dX7_requireParcel_16 (by decide) (fun g9 => ?_) (fun g9 => ?_)
    · rw [if_pos g9] at h4
      cases h4
      exact J6 rfl
    · rw [if_neg g9] at h4
      cases h4
      exact J5 rfl
theorem mX7_requireParcel_r {D : va_G} {U : zz_U} {ad : Nat → Nat} {X : va_W} (σ : zz_St) (parcel_ : Int32) (x : Unit) (σ1 : zz_St) (hf : fX7_requireParcel σ parcel_ = some (.inl x, σ1)) : zz_Met yX7_requireParcel (.code yX7_requireParcel cX7_requireParcel 2 none) 6 1 6 D U [.ref (ad 0), .int parcel_] (zz_wc U ad σ X) (zz_ok none (zz_wc U ad σ1 X)) zz_noth := mX7_requireParcel σ parcel_ (.inl x, σ1) hf
theorem mX7_requireParcel_x {D : va_G} {U : zz_U} {ad : Nat → Nat} {X : va_W} (σ : zz_St) (parcel_ : Int32) (x : String) (σ1 : zz_St) (hf : fX7_requireParcel σ parcel_ = some (.inr x, σ1)) : zz_Met yX7_requireParcel (.code yX7_requireParcel cX7_requireParcel 2 none) 6 1 6 D U [.ref (ad 0), .int parcel_] (zz_wc U ad σ X) zz_none (zz_th x (zz_wc U ad σ1 X)) := mX7_requireParcel σ parcel_ (.inr x, σ1) hf
theorem dX7_parcel_0 : decode cX7_parcel 0 = .ok (.aload_n 0, 1) := by decide +kernel
theorem dX7_parcel_1 : decode cX7_parcel 1 = .ok (.iload_n 1, 1) := by decide +kernel
theorem dX7_parcel_2 : decode cX7_parcel 2 = .ok (.invokevirtual 206, 3) := by decide +kernel
theorem dX7_parcel_5 : decode cX7_parcel 5 = .ok (.aload_n 0, 1) := by decide +kernel
theorem dX7_parcel_6 : decode cX7_parcel 6 = .ok (.getfield 47, 3) := by decide +kernel
theorem dX7_parcel_9 : decode cX7_parcel 9 = .ok (.getfield 209, 3) := by decide +kernel
theorem dX7_parcel_12 : decode cX7_parcel 12 = .ok (.iload_n 1, 1) := by decide +kernel
theorem dX7_parcel_13 : decode cX7_parcel 13 = .ok (.iaload, 1) := by decide +kernel
theorem dX7_parcel_14 : decode cX7_parcel 14 = .ok (.ireturn, 1) := by decide +kernel
set_option maxHeartbeats 4000000 in
set_option maxRecDepth 100000 in
theorem mX7_parcel {D : va_G} {U : zz_U} {ad : Nat → Nat} {X : va_W} (σ : zz_St) (parcel_ : Int32) (r : ((Int32 ⊕ String) × zz_St)) (hf : fX7_parcel σ parcel_ = some r) : zz_Met yX7_parcel (.code yX7_parcel cX7_parcel 2 (some .int)) 7 1 6 D U [.ref (ad 0), .int parcel_] (zz_wc U ad σ X) (match r.1 with | .inl x => zz_ok (some (.int x)) (zz_wc U ad r.2 X) | .inr _ => zz_none) (match r.1 with | .inl _ => zz_noth | .inr E => zz_th E (zz_wc U ad r.2 X)) := by
  unfold fX7_parcel at hf
  refine zz_method RX7 rfl (by decide +kernel) (Nat.le_of_ble_eq_true rfl) ?_
  intro p l e s m args below meth c A _ C
  refine zz_lvs (lv1 := [(0, .ref (ad 0)), (1, .int parcel_)]) rfl ?_
  refine zz_aload_n C 0 dX7_parcel_0 rfl rfl ?_
  refine zz_iload_n C 1 dX7_parcel_1 rfl rfl ?_
  obtain ⟨⟨x1, σ4⟩, h2, hf⟩ := zz_bind hf
  rcases x1 with x1 | E3
  · try dsimp only at hf
    refine zz_callV1 (As := [.int parcel_]) (rest := []) C 0 (mX7_requireParcel_r σ parcel_ x1 σ4 h2) dX7_parcel_2 rfl rfl rfl zw_110 zy_X7_requireParcel rfl (by decide) (by decide) (Nat.le_of_ble_eq_true rfl) (Nat.le_of_ble_eq_true rfl) (Nat.le_of_ble_eq_true rfl) rfl ?_
    refine zz_aload_n C 0 dX7_parcel_5 rfl rfl ?_
    refine zf7_parcels C dX7_parcel_6 zw_95 ?_
    refine zf4_sets C dX7_parcel_9 zw_109 ?_
    refine zz_iload_n C 1 dX7_parcel_12 rfl rfl ?_
    obtain ⟨x5, h6, hf⟩ := zz_bind hf
    refine zl_42 C dX7_parcel_13 h6 ?_
    cases hf
    exact zz_iret C dX7_parcel_14 (And.intro rfl rfl) (Nat.le_of_ble_eq_true rfl) (Nat.le_of_ble_eq_true rfl)
  · refine zz_callVx (As := [.int parcel_]) (rest := []) C 0 (mX7_requireParcel_x σ parcel_ E3 σ4 h2) dX7_parcel_2 rfl rfl rfl zw_110 zy_X7_requireParcel rfl (by decide) (by decide) (Nat.le_of_ble_eq_true rfl) (Nat.le_of_ble_eq_true rfl) (Nat.le_of_ble_eq_true rfl) ?_
    cases hf
    exact zz_out C (And.intro rfl rfl) (Nat.le_of_ble_eq_true rfl) (Nat.le_of_ble_eq_true rfl)
theorem mX7_parcel_r {D : va_G} {U : zz_U} {ad : Nat → Nat} {X : va_W} (σ : zz_St) (parcel_ : Int32) (x : Int32) (σ1 : zz_St) (hf : fX7_parcel σ parcel_ = some (.inl x, σ1)) : zz_Met yX7_parcel (.code yX7_parcel cX7_parcel 2 (some .int)) 7 1 6 D U [.ref (ad 0), .int parcel_] (zz_wc U ad σ X) (zz_ok (some (.int x)) (zz_wc U ad σ1 X)) zz_noth := mX7_parcel σ parcel_ (.inl x, σ1) hf
theorem mX7_parcel_x {D : va_G} {U : zz_U} {ad : Nat → Nat} {X : va_W} (σ : zz_St) (parcel_ : Int32) (x : String) (σ1 : zz_St) (hf : fX7_parcel σ parcel_ = some (.inr x, σ1)) : zz_Met yX7_parcel (.code yX7_parcel cX7_parcel 2 (some .int)) 7 1 6 D U [.ref (ad 0), .int parcel_] (zz_wc U ad σ X) zz_none (zz_th x (zz_wc U ad σ1 X)) := mX7_parcel σ parcel_ (.inr x, σ1) hf
set_option maxHeartbeats 4000000 in
set_option maxRecDepth 100000 in
theorem mX7_placeOf_a42_L1 {p : Program} {l : Launch} {e : Env} {R : Room} {s : State} {m : MethodId} {args : Array Value} {below : List Frame} {meth : Method} {c : Code} {Q : State → Prop} {D : va_G} {U : zz_U} {A : Nat → Prop} {cells slots : Nat} {ad : Nat → Nat} {X : va_W} (C : zz_C p l R s m meth c D U A RX7 cX7_placeOf 4 (some .int) [] 1) (hcR : cells ≤ R.cells) (hsR : slots ≤ R.slots) (σ : zz_St) (piece_ : Int32) (count_ : Int32) : ∀ (n : Nat) (place_ : Int32) (q : (Int32 ⊕ (Int32))), fX7_placeOf_a42_L1 σ piece_ count_ n place_ = some q → (∀ v : Int32, q = .inl v → zz_Z p l e R s m args below meth c Q D A 4 cells slots (zz_wc U ad σ X) 24 [] [.int v]) → (∀ w : Int32, q = .inr w → zz_Z p l e R s m args below meth c Q D A 4 cells slots (zz_wc U ad σ X) 31 [(0, .int piece_), (1, .ref (ad 42)), (2, .int count_), (3, .int w)] []) → zz_Z p l e R s m args below meth c Q D A 4 cells slots (zz_wc U ad σ X) 2 [(0, .int piece_), (1, .ref (ad 42)), (2, .int count_), (3, .int place_)] [] := by
  intro n
  induction n with
  | zero => intro place_ q hf; rw [fX7_placeOf_a42_L1] at hf; cases hf
  | succ n ih =>
    intro place_ q hf kr kx
    rw [fX7_placeOf_a42_L1] at hf
    obtain ⟨b1, h2, hf⟩ := zz_bind hf
    refine zz_cutI (P := b1 = true) 13 [(0, .int piece_), (1, .ref (ad 42)), (2, .int count_), (3, .int place_)] [] (zz_wc U ad σ X) (fun g5 => ?_) (fun J3 => ?_)
    · rw [if_pos g5] at hf
      refine zz_iload_n C 0 dX7_placeOf_13 rfl rfl ?_
      refine zz_aload_n C 1 dX7_placeOf_14 rfl rfl ?_
      refine zz_iload_n C 3 dX7_placeOf_15 rfl rfl ?_
      obtain ⟨x8, h9, hf⟩ := zz_bind hf
      refine zl_42 C dX7_placeOf_16 h9 ?_
      obtain ⟨x10, h11, hf⟩ := zz_bind hf
      refine zz_callS1 (As := [.int piece_, .int x8]) (rest := []) C (mX7_isIn σ piece_ x8 x10 h11) dX7_placeOf_17 rfl zw_102 zy_X7_isIn rfl (by decide) (by decide) (Nat.le_of_ble_eq_true rfl) hcR hsR rfl ?_
      refine zz_if_eq (tgt := 25) C dX7_placeOf_20 (by decide) (fun g12 => ?_) (fun g12 => ?_)
      · rw [if_pos g12] at hf
        refine zz_iinc (v := (place_ + (1 : Int32))) C 3 dX7_placeOf_25 rfl (by rfl) (by decide) (lv' := [(3, .int (place_ + (1 : Int32))), (0, .int piece_), (1, .ref (ad 42)), (2, .int count_)]) rfl ?_
        refine zz_goto (tgt := 2) C dX7_placeOf_28 (by decide) ?_
        refine zz_sub [1, 2, 3, 0] rfl ?_
        exact ih (place_ + (1 : Int32)) _ hf kr kx
      · rw [if_neg g12] at hf
        refine zz_iload_n C 3 dX7_placeOf_23 rfl rfl ?_
        cases hf
        refine zz_sub [] rfl ?_
        exact kr _ rfl
    refine zz_cutI (P := b1 = false) 31 [(0, .int piece_), (1, .ref (ad 42)), (2, .int count_), (3, .int place_)] [] (zz_wc U ad σ X) (fun g5 => ?_) (fun J4 => ?_)
    · rw [if_neg (show ¬ b1 = true by rw [g5]; decide)] at hf
      cases hf
      exact kx _ rfl
    refine zz_iload_n C 3 dX7_placeOf_2 rfl rfl ?_
    refine zz_iload_n C 2 dX7_placeOf_3 rfl rfl ?_
    refine zz_icmp_ge (tgt := 31) C dX7_placeOf_4 (by decide) (fun g6 => ?_) (fun g6 => ?_)
    · rw [if_pos g6] at h2
      cases h2
      exact J4 rfl
    · rw [if_neg g6] at h2
      refine zz_iload_n C 3 dX7_placeOf_7 rfl rfl ?_
      refine zz_aload_n C 1 dX7_placeOf_8 rfl rfl ?_
      refine zz_alen (v := (14 : Int32)) C 42 0 dX7_placeOf_9 rfl rfl rfl ?_
      refine zz_icmp_ge (tgt := 31) C dX7_placeOf_10 (by decide) (fun g7 => ?_) (fun g7 => ?_)
      · rw [if_pos g7] at h2
        cases h2
        exact J4 rfl
      · rw [if_neg g7] at h2
        cases h2
        exact J3 rfl
set_option maxHeartbeats 4000000 in
set_option maxRecDepth 100000 in
theorem mX7_placeOf_a42 {D : va_G} {U : zz_U} {ad : Nat → Nat} {X : va_W} (σ : zz_St) (piece_ : Int32) (count_ : Int32) (r : Int32) (hf : fX7_placeOf_a42 σ piece_ count_ = some r) : zz_Met yX7_placeOf (.code yX7_placeOf cX7_placeOf 4 (some .int)) 1 0 0 D U [.int piece_, .ref (ad 42), .int count_] (zz_wc U ad σ X) (zz_ok (some (.int r)) (zz_wc U ad σ X)) zz_noth := by
  unfold fX7_placeOf_a42 at hf
  refine zz_method RX7 rfl (by decide +kernel) (Nat.le_of_ble_eq_true rfl) ?_
  intro p l e s m args below meth c A _ C
  refine zz_lvs (lv1 := [(0, .int piece_), (1, .ref (ad 42)), (2, .int count_)]) rfl ?_
  refine zz_iconst (v := (0 : Int32)) C dX7_placeOf_0 (by decide) ?_
  refine zz_istore_n C dX7_placeOf_1 rfl (by decide) (lv' := [(3, .int (0 : Int32)), (0, .int piece_), (1, .ref (ad 42)), (2, .int count_)]) rfl ?_
  obtain ⟨q13, h14, hf⟩ := zz_bind hf
  refine zz_sub [1, 2, 3, 0] rfl ?_
  refine mX7_placeOf_a42_L1 C (Nat.le_of_ble_eq_true rfl) (Nat.le_of_ble_eq_true rfl) σ piece_ count_ 1000 (0 : Int32) q13 h14 (fun v15 h17 => ?_) (fun w16 h17 => ?_)
  · subst h17
    cases hf
    exact zz_iret C dX7_placeOf_24 (And.intro rfl rfl) (Nat.le_of_ble_eq_true rfl) (Nat.le_of_ble_eq_true rfl)
  · subst h17
    refine zz_iconst (v := (-1 : Int32)) C dX7_placeOf_31 (by decide) ?_
    cases hf
    exact zz_iret C dX7_placeOf_32 (And.intro rfl rfl) (Nat.le_of_ble_eq_true rfl) (Nat.le_of_ble_eq_true rfl)
theorem dX7_parcelOf_0 : decode cX7_parcelOf 0 = .ok (.aload_n 0, 1) := by decide +kernel
theorem dX7_parcelOf_1 : decode cX7_parcelOf 1 = .ok (.iload_n 1, 1) := by decide +kernel
theorem dX7_parcelOf_2 : decode cX7_parcelOf 2 = .ok (.invokevirtual 136, 3) := by decide +kernel
theorem dX7_parcelOf_5 : decode cX7_parcelOf 5 = .ok (.aload_n 0, 1) := by decide +kernel
theorem dX7_parcelOf_6 : decode cX7_parcelOf 6 = .ok (.invokevirtual 176, 3) := by decide +kernel
theorem dX7_parcelOf_9 : decode cX7_parcelOf 9 = .ok (.iload_n 1, 1) := by decide +kernel
theorem dX7_parcelOf_10 : decode cX7_parcelOf 10 = .ok (.aload_n 0, 1) := by decide +kernel
theorem dX7_parcelOf_11 : decode cX7_parcelOf 11 = .ok (.getfield 47, 3) := by decide +kernel
theorem dX7_parcelOf_14 : decode cX7_parcelOf 14 = .ok (.getfield 209, 3) := by decide +kernel
theorem dX7_parcelOf_17 : decode cX7_parcelOf 17 = .ok (.aload_n 0, 1) := by decide +kernel
theorem dX7_parcelOf_18 : decode cX7_parcelOf 18 = .ok (.getfield 47, 3) := by decide +kernel
theorem dX7_parcelOf_21 : decode cX7_parcelOf 21 = .ok (.getfield 205, 3) := by decide +kernel
theorem dX7_parcelOf_24 : decode cX7_parcelOf 24 = .ok (.invokestatic 186, 3) := by decide +kernel
theorem dX7_parcelOf_27 : decode cX7_parcelOf 27 = .ok (.ireturn, 1) := by decide +kernel
set_option maxHeartbeats 4000000 in
set_option maxRecDepth 100000 in
theorem mX7_parcelOf {D : va_G} {U : zz_U} {ad : Nat → Nat} {X : va_W} (σ : zz_St) (piece_ : Int32) (r : ((Int32 ⊕ String) × zz_St)) (hf : fX7_parcelOf σ piece_ = some r) : zz_Met yX7_parcelOf (.code yX7_parcelOf cX7_parcelOf 2 (some .int)) 7 1 6 D U [.ref (ad 0), .int piece_] (zz_wc U ad σ X) (match r.1 with | .inl x => zz_ok (some (.int x)) (zz_wc U ad r.2 X) | .inr _ => zz_none) (match r.1 with | .inl _ => zz_noth | .inr E => zz_th E (zz_wc U ad r.2 X)) := by
  unfold fX7_parcelOf at hf
  refine zz_method RX7 rfl (by decide +kernel) (Nat.le_of_ble_eq_true rfl) ?_
  intro p l e s m args below meth c A _ C
  refine zz_lvs (lv1 := [(0, .ref (ad 0)), (1, .int piece_)]) rfl ?_
  refine zz_aload_n C 0 dX7_parcelOf_0 rfl rfl ?_
  refine zz_iload_n C 1 dX7_parcelOf_1 rfl rfl ?_
  obtain ⟨x1, h2, hf⟩ := zz_bind hf
  rcases x1 with x1 | E3
  · refine zz_callV1 (As := [.int piece_]) (rest := []) C 0 (mX7_requirePiece_r σ piece_ x1 h2) dX7_parcelOf_2 rfl rfl rfl zw_14 zy_X7_requirePiece rfl (by decide) (by decide) (Nat.le_of_ble_eq_true rfl) (Nat.le_of_ble_eq_true rfl) (Nat.le_of_ble_eq_true rfl) rfl ?_
    refine zz_aload_n C 0 dX7_parcelOf_5 rfl rfl ?_
    obtain ⟨x4, h5, hf⟩ := zz_bind hf
    refine zz_callV1 (As := []) (rest := []) C 0 (mX7_putTogether σ x4 h5) dX7_parcelOf_6 rfl rfl rfl zw_99 zy_X7_putTogether rfl (by decide) (by decide) (Nat.le_of_ble_eq_true rfl) (Nat.le_of_ble_eq_true rfl) (Nat.le_of_ble_eq_true rfl) rfl ?_
    refine zz_iload_n C 1 dX7_parcelOf_9 rfl rfl ?_
    refine zz_aload_n C 0 dX7_parcelOf_10 rfl rfl ?_
    refine zf7_parcels C dX7_parcelOf_11 zw_95 ?_
    refine zf4_sets C dX7_parcelOf_14 zw_109 ?_
    refine zz_aload_n C 0 dX7_parcelOf_17 rfl rfl ?_
    refine zf7_parcels C dX7_parcelOf_18 zw_95 ?_
    refine zf4_count C dX7_parcelOf_21 zw_108 ?_
    obtain ⟨x6, h7, hf⟩ := zz_bind hf
    refine zz_callS1 (As := [.int piece_, .ref (ad 42), .int (x4 41 0)]) (rest := []) C (mX7_placeOf_a42 x4 piece_ (x4 41 0) x6 h7) dX7_parcelOf_24 rfl zw_103 zy_X7_placeOf rfl (by decide) (by decide) (Nat.le_of_ble_eq_true rfl) (Nat.le_of_ble_eq_true rfl) (Nat.le_of_ble_eq_true rfl) rfl ?_
    cases hf
    exact zz_iret C dX7_parcelOf_27 (And.intro rfl rfl) (Nat.le_of_ble_eq_true rfl) (Nat.le_of_ble_eq_true rfl)
  · refine zz_callVx (As := [.int piece_]) (rest := []) C 0 (mX7_requirePiece_x σ piece_ E3 h2) dX7_parcelOf_2 rfl rfl rfl zw_14 zy_X7_requirePiece rfl (by decide) (by decide) (Nat.le_of_ble_eq_true rfl) (Nat.le_of_ble_eq_true rfl) (Nat.le_of_ble_eq_true rfl) ?_
    cases hf
    exact zz_out C (And.intro rfl rfl) (Nat.le_of_ble_eq_true rfl) (Nat.le_of_ble_eq_true rfl)
theorem mX7_parcelOf_r {D : va_G} {U : zz_U} {ad : Nat → Nat} {X : va_W} (σ : zz_St) (piece_ : Int32) (x : Int32) (σ1 : zz_St) (hf : fX7_parcelOf σ piece_ = some (.inl x, σ1)) : zz_Met yX7_parcelOf (.code yX7_parcelOf cX7_parcelOf 2 (some .int)) 7 1 6 D U [.ref (ad 0), .int piece_] (zz_wc U ad σ X) (zz_ok (some (.int x)) (zz_wc U ad σ1 X)) zz_noth := mX7_parcelOf σ piece_ (.inl x, σ1) hf
theorem mX7_parcelOf_x {D : va_G} {U : zz_U} {ad : Nat → Nat} {X : va_W} (σ : zz_St) (piece_ : Int32) (x : String) (σ1 : zz_St) (hf : fX7_parcelOf σ piece_ = some (.inr x, σ1)) : zz_Met yX7_parcelOf (.code yX7_parcelOf cX7_parcelOf 2 (some .int)) 7 1 6 D U [.ref (ad 0), .int piece_] (zz_wc U ad σ X) zz_none (zz_th x (zz_wc U ad σ1 X)) := mX7_parcelOf σ piece_ (.inr x, σ1) hf
theorem dX7_knots_0 : decode cX7_knots 0 = .ok (.aload_n 0, 1) := by decide +kernel
theorem dX7_knots_1 : decode cX7_knots 1 = .ok (.invokevirtual 176, 3) := by decide +kernel
theorem dX7_knots_4 : decode cX7_knots 4 = .ok (.aload_n 0, 1) := by decide +kernel
theorem dX7_knots_5 : decode cX7_knots 5 = .ok (.getfield 47, 3) := by decide +kernel
theorem dX7_knots_8 : decode cX7_knots 8 = .ok (.getfield 210, 3) := by decide +kernel
theorem dX7_knots_11 : decode cX7_knots 11 = .ok (.ireturn, 1) := by decide +kernel
set_option maxHeartbeats 4000000 in
set_option maxRecDepth 100000 in
theorem mX7_knots {D : va_G} {U : zz_U} {ad : Nat → Nat} {X : va_W} (σ : zz_St) (r : (Int32 × zz_St)) (hf : fX7_knots σ = some r) : zz_Met yX7_knots (.code yX7_knots cX7_knots 1 (some .int)) 6 0 0 D U [.ref (ad 0)] (zz_wc U ad σ X) (zz_ok (some (.int r.1)) (zz_wc U ad r.2 X)) zz_noth := by
  unfold fX7_knots at hf
  refine zz_method RX7 rfl (by decide +kernel) (Nat.le_of_ble_eq_true rfl) ?_
  intro p l e s m args below meth c A _ C
  refine zz_lvs (lv1 := [(0, .ref (ad 0))]) rfl ?_
  refine zz_aload_n C 0 dX7_knots_0 rfl rfl ?_
  obtain ⟨x1, h2, hf⟩ := zz_bind hf
  refine zz_callV1 (As := []) (rest := []) C 0 (mX7_putTogether σ x1 h2) dX7_knots_1 rfl rfl rfl zw_99 zy_X7_putTogether rfl (by decide) (by decide) (Nat.le_of_ble_eq_true rfl) (Nat.le_of_ble_eq_true rfl) (Nat.le_of_ble_eq_true rfl) rfl ?_
  refine zz_aload_n C 0 dX7_knots_4 rfl rfl ?_
  refine zf7_parcels C dX7_knots_5 zw_95 ?_
  refine zf4_knotCount C dX7_knots_8 zw_111 ?_
  cases hf
  exact zz_iret C dX7_knots_11 (And.intro rfl rfl) (Nat.le_of_ble_eq_true rfl) (Nat.le_of_ble_eq_true rfl)
theorem dX5_linesOf_0 : decode cX5_linesOf 0 = .ok (.iconst 0, 1) := by decide +kernel
theorem dX5_linesOf_1 : decode cX5_linesOf 1 = .ok (.istore_n 2, 1) := by decide +kernel
theorem dX5_linesOf_2 : decode cX5_linesOf 2 = .ok (.iconst 0, 1) := by decide +kernel
theorem dX5_linesOf_3 : decode cX5_linesOf 3 = .ok (.istore_n 3, 1) := by decide +kernel
theorem dX5_linesOf_4 : decode cX5_linesOf 4 = .ok (.iload_n 3, 1) := by decide +kernel
theorem dX5_linesOf_5 : decode cX5_linesOf 5 = .ok (.aload_n 0, 1) := by decide +kernel
theorem dX5_linesOf_6 : decode cX5_linesOf 6 = .ok (.getfield 35, 3) := by decide +kernel
theorem dX5_linesOf_9 : decode cX5_linesOf 9 = .ok (.if_icmp .ge 33, 3) := by decide +kernel
theorem dX5_linesOf_12 : decode cX5_linesOf 12 = .ok (.iload_n 3, 1) := by decide +kernel
theorem dX5_linesOf_13 : decode cX5_linesOf 13 = .ok (.iload_n 1, 1) := by decide +kernel
theorem dX5_linesOf_14 : decode cX5_linesOf 14 = .ok (.invokestatic 49, 3) := by decide +kernel
theorem dX5_linesOf_17 : decode cX5_linesOf 17 = .ok (.ifCond .eq 19, 3) := by decide +kernel
theorem dX5_linesOf_20 : decode cX5_linesOf 20 = .ok (.iload_n 2, 1) := by decide +kernel
theorem dX5_linesOf_21 : decode cX5_linesOf 21 = .ok (.aload_n 0, 1) := by decide +kernel
theorem dX5_linesOf_22 : decode cX5_linesOf 22 = .ok (.getfield 18, 3) := by decide +kernel
theorem dX5_linesOf_25 : decode cX5_linesOf 25 = .ok (.iload_n 3, 1) := by decide +kernel
theorem dX5_linesOf_26 : decode cX5_linesOf 26 = .ok (.iaload, 1) := by decide +kernel
theorem dX5_linesOf_27 : decode cX5_linesOf 27 = .ok (.aload_n 0, 1) := by decide +kernel
theorem dX5_linesOf_28 : decode cX5_linesOf 28 = .ok (.getfield 21, 3) := by decide +kernel
theorem dX5_linesOf_31 : decode cX5_linesOf 31 = .ok (.iload_n 3, 1) := by decide +kernel
theorem dX5_linesOf_32 : decode cX5_linesOf 32 = .ok (.iaload, 1) := by decide +kernel
theorem dX5_linesOf_33 : decode cX5_linesOf 33 = .ok (.iadd, 1) := by decide +kernel
theorem dX5_linesOf_34 : decode cX5_linesOf 34 = .ok (.iadd, 1) := by decide +kernel
theorem dX5_linesOf_35 : decode cX5_linesOf 35 = .ok (.istore_n 2, 1) := by decide +kernel
theorem dX5_linesOf_36 : decode cX5_linesOf 36 = .ok (.iinc 3 1, 3) := by decide +kernel
theorem dX5_linesOf_39 : decode cX5_linesOf 39 = .ok (.goto (-35), 3) := by decide +kernel
theorem dX5_linesOf_42 : decode cX5_linesOf 42 = .ok (.iload_n 2, 1) := by decide +kernel
theorem dX5_linesOf_43 : decode cX5_linesOf 43 = .ok (.ireturn, 1) := by decide +kernel
set_option maxHeartbeats 4000000 in
set_option maxRecDepth 100000 in
theorem mX5_linesOf_L1 {p : Program} {l : Launch} {e : Env} {R : Room} {s : State} {m : MethodId} {args : Array Value} {below : List Frame} {meth : Method} {c : Code} {Q : State → Prop} {D : va_G} {U : zz_U} {A : Nat → Prop} {cells slots : Nat} {ad : Nat → Nat} {X : va_W} (C : zz_C p l R s m meth c D U A RX5 cX5_linesOf 4 (some .int) [] 1) (hcR : cells ≤ R.cells) (hsR : slots ≤ R.slots) (σ : zz_St) (set_ : Int32) : ∀ (n : Nat) (sum_ : Int32) (piece_ : Int32) (q : (Int32 × Int32)), fX5_linesOf_L1 σ set_ n sum_ piece_ = some q → (zz_Z p l e R s m args below meth c Q D A 4 cells slots (zz_wc U ad σ X) 42 [(0, .ref (ad 1)), (1, .int set_), (2, .int q.1), (3, .int q.2)] []) → zz_Z p l e R s m args below meth c Q D A 4 cells slots (zz_wc U ad σ X) 4 [(0, .ref (ad 1)), (1, .int set_), (2, .int sum_), (3, .int piece_)] [] := by
  intro n
  induction n with
  | zero => intro sum_ piece_ q hf; rw [fX5_linesOf_L1] at hf; cases hf
  | succ n ih =>
    intro sum_ piece_ q hf kx
    rw [fX5_linesOf_L1] at hf
    refine zz_iload_n C 3 dX5_linesOf_4 rfl rfl ?_
    refine zz_aload_n C 0 dX5_linesOf_5 rfl rfl ?_
    refine zf5_count C dX5_linesOf_6 zw_3 ?_
    refine zz_icmp_ge (tgt := 42) C dX5_linesOf_9 (by decide) (fun g1 => ?_) (fun g1 => ?_)
    · rw [if_pos g1] at hf
      cases hf
      exact kx
    · rw [if_neg g1] at hf
      obtain ⟨x2, h3, hf⟩ := zz_bind hf
      refine zz_cut 36 [(0, .ref (ad 1)), (1, .int set_), (2, .int x2), (3, .int piece_)] [] (zz_wc U ad σ X) ?_ (fun J4 => ?_)
      · refine zz_iinc (v := (piece_ + (1 : Int32))) C 3 dX5_linesOf_36 rfl (by rfl) (by decide) (lv' := [(3, .int (piece_ + (1 : Int32))), (0, .ref (ad 1)), (1, .int set_), (2, .int x2)]) rfl ?_
        refine zz_goto (tgt := 4) C dX5_linesOf_39 (by decide) ?_
        refine zz_sub [1, 2, 3, 0] rfl ?_
        exact ih x2 (piece_ + (1 : Int32)) _ hf kx
      refine zz_iload_n C 3 dX5_linesOf_12 rfl rfl ?_
      refine zz_iload_n C 1 dX5_linesOf_13 rfl rfl ?_
      obtain ⟨x5, h6, h3⟩ := zz_bind h3
      refine zz_callSN1 (host := "ChangeUntangler") (As := [.int piece_, .int set_]) (rest := []) C (mX7_isIn σ piece_ set_ x5 h6) dX5_linesOf_14 rfl (by decide +kernel) zy_X7_isIn rfl (by decide) (by decide) (Nat.le_of_ble_eq_true rfl) hcR hsR rfl ?_
      refine zz_if_eq (tgt := 36) C dX5_linesOf_17 (by decide) (fun g7 => ?_) (fun g7 => ?_)
      · rw [if_pos g7] at h3
        cases h3
        exact J4
      · rw [if_neg g7] at h3
        refine zz_iload_n C 2 dX5_linesOf_20 rfl rfl ?_
        refine zz_aload_n C 0 dX5_linesOf_21 rfl rfl ?_
        refine zf5_added C dX5_linesOf_22 zw_6 ?_
        refine zz_iload_n C 3 dX5_linesOf_25 rfl rfl ?_
        obtain ⟨x8, h9, h3⟩ := zz_bind h3
        refine zl_4 C dX5_linesOf_26 h9 ?_
        refine zz_aload_n C 0 dX5_linesOf_27 rfl rfl ?_
        refine zf5_taken C dX5_linesOf_28 zw_5 ?_
        refine zz_iload_n C 3 dX5_linesOf_31 rfl rfl ?_
        obtain ⟨x10, h11, h3⟩ := zz_bind h3
        refine zl_5 C dX5_linesOf_32 h11 ?_
        refine zz_iadd C dX5_linesOf_33 ?_
        refine zz_iadd C dX5_linesOf_34 ?_
        obtain ⟨x12, h13, h3⟩ := zz_bind h3
        refine zz_topi (Option.some.inj h13) ?_
        refine zz_istore_n C dX5_linesOf_35 rfl (by decide) (lv' := [(2, .int x12), (0, .ref (ad 1)), (1, .int set_), (3, .int piece_)]) rfl ?_
        refine zz_sub [1, 2, 0, 3] rfl ?_
        cases h3
        exact J4
set_option maxHeartbeats 4000000 in
set_option maxRecDepth 100000 in
theorem mX5_linesOf {D : va_G} {U : zz_U} {ad : Nat → Nat} {X : va_W} (σ : zz_St) (set_ : Int32) (r : Int32) (hf : fX5_linesOf σ set_ = some r) : zz_Met yX5_linesOf (.code yX5_linesOf cX5_linesOf 4 (some .int)) 1 0 0 D U [.ref (ad 1), .int set_] (zz_wc U ad σ X) (zz_ok (some (.int r)) (zz_wc U ad σ X)) zz_noth := by
  unfold fX5_linesOf at hf
  refine zz_method RX5 rfl (by decide +kernel) (Nat.le_of_ble_eq_true rfl) ?_
  intro p l e s m args below meth c A _ C
  refine zz_lvs (lv1 := [(0, .ref (ad 1)), (1, .int set_)]) rfl ?_
  refine zz_iconst (v := (0 : Int32)) C dX5_linesOf_0 (by decide) ?_
  refine zz_istore_n C dX5_linesOf_1 rfl (by decide) (lv' := [(2, .int (0 : Int32)), (0, .ref (ad 1)), (1, .int set_)]) rfl ?_
  refine zz_iconst (v := (0 : Int32)) C dX5_linesOf_2 (by decide) ?_
  refine zz_istore_n C dX5_linesOf_3 rfl (by decide) (lv' := [(3, .int (0 : Int32)), (2, .int (0 : Int32)), (0, .ref (ad 1)), (1, .int set_)]) rfl ?_
  obtain ⟨q14, h15, hf⟩ := zz_bind hf
  refine zz_sub [2, 3, 1, 0] rfl ?_
  refine mX5_linesOf_L1 C (Nat.le_of_ble_eq_true rfl) (Nat.le_of_ble_eq_true rfl) σ set_ 1000 (0 : Int32) (0 : Int32) q14 h15 ?_
  refine zz_iload_n C 2 dX5_linesOf_42 rfl rfl ?_
  cases hf
  exact zz_iret C dX5_linesOf_43 (And.intro rfl rfl) (Nat.le_of_ble_eq_true rfl) (Nat.le_of_ble_eq_true rfl)
theorem dX7_lines_0 : decode cX7_lines 0 = .ok (.aload_n 0, 1) := by decide +kernel
theorem dX7_lines_1 : decode cX7_lines 1 = .ok (.iload_n 1, 1) := by decide +kernel
theorem dX7_lines_2 : decode cX7_lines 2 = .ok (.invokevirtual 206, 3) := by decide +kernel
theorem dX7_lines_5 : decode cX7_lines 5 = .ok (.aload_n 0, 1) := by decide +kernel
theorem dX7_lines_6 : decode cX7_lines 6 = .ok (.getfield 12, 3) := by decide +kernel
theorem dX7_lines_9 : decode cX7_lines 9 = .ok (.aload_n 0, 1) := by decide +kernel
theorem dX7_lines_10 : decode cX7_lines 10 = .ok (.getfield 47, 3) := by decide +kernel
theorem dX7_lines_13 : decode cX7_lines 13 = .ok (.getfield 209, 3) := by decide +kernel
theorem dX7_lines_16 : decode cX7_lines 16 = .ok (.iload_n 1, 1) := by decide +kernel
theorem dX7_lines_17 : decode cX7_lines 17 = .ok (.iaload, 1) := by decide +kernel
theorem dX7_lines_18 : decode cX7_lines 18 = .ok (.invokevirtual 213, 3) := by decide +kernel
theorem dX7_lines_21 : decode cX7_lines 21 = .ok (.ireturn, 1) := by decide +kernel
set_option maxHeartbeats 4000000 in
set_option maxRecDepth 100000 in
theorem mX7_lines {D : va_G} {U : zz_U} {ad : Nat → Nat} {X : va_W} (σ : zz_St) (parcel_ : Int32) (r : ((Int32 ⊕ String) × zz_St)) (hf : fX7_lines σ parcel_ = some r) : zz_Met yX7_lines (.code yX7_lines cX7_lines 2 (some .int)) 7 1 6 D U [.ref (ad 0), .int parcel_] (zz_wc U ad σ X) (match r.1 with | .inl x => zz_ok (some (.int x)) (zz_wc U ad r.2 X) | .inr _ => zz_none) (match r.1 with | .inl _ => zz_noth | .inr E => zz_th E (zz_wc U ad r.2 X)) := by
  unfold fX7_lines at hf
  refine zz_method RX7 rfl (by decide +kernel) (Nat.le_of_ble_eq_true rfl) ?_
  intro p l e s m args below meth c A _ C
  refine zz_lvs (lv1 := [(0, .ref (ad 0)), (1, .int parcel_)]) rfl ?_
  refine zz_aload_n C 0 dX7_lines_0 rfl rfl ?_
  refine zz_iload_n C 1 dX7_lines_1 rfl rfl ?_
  obtain ⟨⟨x1, σ4⟩, h2, hf⟩ := zz_bind hf
  rcases x1 with x1 | E3
  · try dsimp only at hf
    refine zz_callV1 (As := [.int parcel_]) (rest := []) C 0 (mX7_requireParcel_r σ parcel_ x1 σ4 h2) dX7_lines_2 rfl rfl rfl zw_110 zy_X7_requireParcel rfl (by decide) (by decide) (Nat.le_of_ble_eq_true rfl) (Nat.le_of_ble_eq_true rfl) (Nat.le_of_ble_eq_true rfl) rfl ?_
    refine zz_aload_n C 0 dX7_lines_5 rfl rfl ?_
    refine zf7_pieces C dX7_lines_6 zw_10 ?_
    refine zz_aload_n C 0 dX7_lines_9 rfl rfl ?_
    refine zf7_parcels C dX7_lines_10 zw_95 ?_
    refine zf4_sets C dX7_lines_13 zw_109 ?_
    refine zz_iload_n C 1 dX7_lines_16 rfl rfl ?_
    obtain ⟨x5, h6, hf⟩ := zz_bind hf
    refine zl_42 C dX7_lines_17 h6 ?_
    obtain ⟨x7, h8, hf⟩ := zz_bind hf
    refine zz_callV1 (As := [.int x5]) (rest := []) C 1 (mX5_linesOf σ4 x5 x7 h8) dX7_lines_18 rfl rfl rfl zw_112 zy_X5_linesOf rfl (by decide) (by decide) (Nat.le_of_ble_eq_true rfl) (Nat.le_of_ble_eq_true rfl) (Nat.le_of_ble_eq_true rfl) rfl ?_
    cases hf
    exact zz_iret C dX7_lines_21 (And.intro rfl rfl) (Nat.le_of_ble_eq_true rfl) (Nat.le_of_ble_eq_true rfl)
  · refine zz_callVx (As := [.int parcel_]) (rest := []) C 0 (mX7_requireParcel_x σ parcel_ E3 σ4 h2) dX7_lines_2 rfl rfl rfl zw_110 zy_X7_requireParcel rfl (by decide) (by decide) (Nat.le_of_ble_eq_true rfl) (Nat.le_of_ble_eq_true rfl) (Nat.le_of_ble_eq_true rfl) ?_
    cases hf
    exact zz_out C (And.intro rfl rfl) (Nat.le_of_ble_eq_true rfl) (Nat.le_of_ble_eq_true rfl)
theorem mX7_lines_r {D : va_G} {U : zz_U} {ad : Nat → Nat} {X : va_W} (σ : zz_St) (parcel_ : Int32) (x : Int32) (σ1 : zz_St) (hf : fX7_lines σ parcel_ = some (.inl x, σ1)) : zz_Met yX7_lines (.code yX7_lines cX7_lines 2 (some .int)) 7 1 6 D U [.ref (ad 0), .int parcel_] (zz_wc U ad σ X) (zz_ok (some (.int x)) (zz_wc U ad σ1 X)) zz_noth := mX7_lines σ parcel_ (.inl x, σ1) hf
theorem mX7_lines_x {D : va_G} {U : zz_U} {ad : Nat → Nat} {X : va_W} (σ : zz_St) (parcel_ : Int32) (x : String) (σ1 : zz_St) (hf : fX7_lines σ parcel_ = some (.inr x, σ1)) : zz_Met yX7_lines (.code yX7_lines cX7_lines 2 (some .int)) 7 1 6 D U [.ref (ad 0), .int parcel_] (zz_wc U ad σ X) zz_none (zz_th x (zz_wc U ad σ1 X)) := mX7_lines σ parcel_ (.inr x, σ1) hf
theorem dX5_all_0 : decode cX5_all 0 = .ok (.iconst 1, 1) := by decide +kernel
theorem dX5_all_1 : decode cX5_all 1 = .ok (.aload_n 0, 1) := by decide +kernel
theorem dX5_all_2 : decode cX5_all 2 = .ok (.getfield 35, 3) := by decide +kernel
theorem dX5_all_5 : decode cX5_all 5 = .ok (.ishl, 1) := by decide +kernel
theorem dX5_all_6 : decode cX5_all 6 = .ok (.iconst 1, 1) := by decide +kernel
theorem dX5_all_7 : decode cX5_all 7 = .ok (.isub, 1) := by decide +kernel
theorem dX5_all_8 : decode cX5_all 8 = .ok (.ireturn, 1) := by decide +kernel
set_option maxHeartbeats 4000000 in
set_option maxRecDepth 100000 in
theorem mX5_all {D : va_G} {U : zz_U} {ad : Nat → Nat} {X : va_W} (σ : zz_St) (r : Int32) (hf : fX5_all σ = some r) : zz_Met yX5_all (.code yX5_all cX5_all 1 (some .int)) 0 0 0 D U [.ref (ad 1)] (zz_wc U ad σ X) (zz_ok (some (.int r)) (zz_wc U ad σ X)) zz_noth := by
  unfold fX5_all at hf
  refine zz_method RX5 rfl (by decide +kernel) (Nat.le_of_ble_eq_true rfl) ?_
  intro p l e s m args below meth c A _ C
  refine zz_lvs (lv1 := [(0, .ref (ad 1))]) rfl ?_
  refine zz_iconst (v := (1 : Int32)) C dX5_all_0 (by decide) ?_
  refine zz_aload_n C 0 dX5_all_1 rfl rfl ?_
  refine zf5_count C dX5_all_2 zw_3 ?_
  refine zz_ishl C dX5_all_5 ?_
  refine zz_iconst (v := (1 : Int32)) C dX5_all_6 (by decide) ?_
  refine zz_isub C dX5_all_7 ?_
  cases hf
  exact zz_iret C dX5_all_8 (And.intro rfl rfl) (Nat.le_of_ble_eq_true rfl) (Nat.le_of_ble_eq_true rfl)
theorem dX1_brokenBy_0 : decode cX1_brokenBy 0 = .ok (.iconst 0, 1) := by decide +kernel
theorem dX1_brokenBy_1 : decode cX1_brokenBy 1 = .ok (.istore_n 3, 1) := by decide +kernel
theorem dX1_brokenBy_2 : decode cX1_brokenBy 2 = .ok (.iconst 0, 1) := by decide +kernel
theorem dX1_brokenBy_3 : decode cX1_brokenBy 3 = .ok (.istore 4, 2) := by decide +kernel
theorem dX1_brokenBy_5 : decode cX1_brokenBy 5 = .ok (.iload 4, 2) := by decide +kernel
theorem dX1_brokenBy_7 : decode cX1_brokenBy 7 = .ok (.bipush 16, 2) := by decide +kernel
theorem dX1_brokenBy_9 : decode cX1_brokenBy 9 = .ok (.if_icmp .ge 114, 3) := by decide +kernel
theorem dX1_brokenBy_12 : decode cX1_brokenBy 12 = .ok (.aload_n 0, 1) := by decide +kernel
theorem dX1_brokenBy_13 : decode cX1_brokenBy 13 = .ok (.getfield 15, 3) := by decide +kernel
theorem dX1_brokenBy_16 : decode cX1_brokenBy 16 = .ok (.iload 4, 2) := by decide +kernel
theorem dX1_brokenBy_18 : decode cX1_brokenBy 18 = .ok (.ishr, 1) := by decide +kernel
theorem dX1_brokenBy_19 : decode cX1_brokenBy 19 = .ok (.iconst 1, 1) := by decide +kernel
theorem dX1_brokenBy_20 : decode cX1_brokenBy 20 = .ok (.iand, 1) := by decide +kernel
theorem dX1_brokenBy_21 : decode cX1_brokenBy 21 = .ok (.aload_n 1, 1) := by decide +kernel
theorem dX1_brokenBy_22 : decode cX1_brokenBy 22 = .ok (.getfield 23, 3) := by decide +kernel
theorem dX1_brokenBy_25 : decode cX1_brokenBy 25 = .ok (.iconst 0, 1) := by decide +kernel
theorem dX1_brokenBy_26 : decode cX1_brokenBy 26 = .ok (.aaload, 1) := by decide +kernel
theorem dX1_brokenBy_27 : decode cX1_brokenBy 27 = .ok (.iload 4, 2) := by decide +kernel
theorem dX1_brokenBy_29 : decode cX1_brokenBy 29 = .ok (.iaload, 1) := by decide +kernel
theorem dX1_brokenBy_30 : decode cX1_brokenBy 30 = .ok (.iload_n 2, 1) := by decide +kernel
theorem dX1_brokenBy_31 : decode cX1_brokenBy 31 = .ok (.iand, 1) := by decide +kernel
theorem dX1_brokenBy_32 : decode cX1_brokenBy 32 = .ok (.invokestatic 29, 3) := by decide +kernel
theorem dX1_brokenBy_35 : decode cX1_brokenBy 35 = .ok (.iadd, 1) := by decide +kernel
theorem dX1_brokenBy_36 : decode cX1_brokenBy 36 = .ok (.aload_n 1, 1) := by decide +kernel
theorem dX1_brokenBy_37 : decode cX1_brokenBy 37 = .ok (.getfield 23, 3) := by decide +kernel
theorem dX1_brokenBy_40 : decode cX1_brokenBy 40 = .ok (.iconst 1, 1) := by decide +kernel
theorem dX1_brokenBy_41 : decode cX1_brokenBy 41 = .ok (.aaload, 1) := by decide +kernel
theorem dX1_brokenBy_42 : decode cX1_brokenBy 42 = .ok (.iload 4, 2) := by decide +kernel
theorem dX1_brokenBy_44 : decode cX1_brokenBy 44 = .ok (.iaload, 1) := by decide +kernel
theorem dX1_brokenBy_45 : decode cX1_brokenBy 45 = .ok (.iload_n 2, 1) := by decide +kernel
theorem dX1_brokenBy_46 : decode cX1_brokenBy 46 = .ok (.iand, 1) := by decide +kernel
theorem dX1_brokenBy_47 : decode cX1_brokenBy 47 = .ok (.invokestatic 29, 3) := by decide +kernel
theorem dX1_brokenBy_50 : decode cX1_brokenBy 50 = .ok (.isub, 1) := by decide +kernel
theorem dX1_brokenBy_51 : decode cX1_brokenBy 51 = .ok (.istore 5, 2) := by decide +kernel
theorem dX1_brokenBy_53 : decode cX1_brokenBy 53 = .ok (.aload_n 0, 1) := by decide +kernel
theorem dX1_brokenBy_54 : decode cX1_brokenBy 54 = .ok (.getfield 9, 3) := by decide +kernel
theorem dX1_brokenBy_57 : decode cX1_brokenBy 57 = .ok (.iload 4, 2) := by decide +kernel
theorem dX1_brokenBy_59 : decode cX1_brokenBy 59 = .ok (.iaload, 1) := by decide +kernel
theorem dX1_brokenBy_60 : decode cX1_brokenBy 60 = .ok (.aload_n 1, 1) := by decide +kernel
theorem dX1_brokenBy_61 : decode cX1_brokenBy 61 = .ok (.getfield 23, 3) := by decide +kernel
theorem dX1_brokenBy_64 : decode cX1_brokenBy 64 = .ok (.iconst 2, 1) := by decide +kernel
theorem dX1_brokenBy_65 : decode cX1_brokenBy 65 = .ok (.aaload, 1) := by decide +kernel
theorem dX1_brokenBy_66 : decode cX1_brokenBy 66 = .ok (.iload 4, 2) := by decide +kernel
theorem dX1_brokenBy_68 : decode cX1_brokenBy 68 = .ok (.iaload, 1) := by decide +kernel
theorem dX1_brokenBy_69 : decode cX1_brokenBy 69 = .ok (.iload_n 2, 1) := by decide +kernel
theorem dX1_brokenBy_70 : decode cX1_brokenBy 70 = .ok (.iand, 1) := by decide +kernel
theorem dX1_brokenBy_71 : decode cX1_brokenBy 71 = .ok (.invokestatic 29, 3) := by decide +kernel
theorem dX1_brokenBy_74 : decode cX1_brokenBy 74 = .ok (.iadd, 1) := by decide +kernel
theorem dX1_brokenBy_75 : decode cX1_brokenBy 75 = .ok (.aload_n 1, 1) := by decide +kernel
theorem dX1_brokenBy_76 : decode cX1_brokenBy 76 = .ok (.getfield 23, 3) := by decide +kernel
theorem dX1_brokenBy_79 : decode cX1_brokenBy 79 = .ok (.iconst 3, 1) := by decide +kernel
theorem dX1_brokenBy_80 : decode cX1_brokenBy 80 = .ok (.aaload, 1) := by decide +kernel
theorem dX1_brokenBy_81 : decode cX1_brokenBy 81 = .ok (.iload 4, 2) := by decide +kernel
theorem dX1_brokenBy_83 : decode cX1_brokenBy 83 = .ok (.iaload, 1) := by decide +kernel
theorem dX1_brokenBy_84 : decode cX1_brokenBy 84 = .ok (.iload_n 2, 1) := by decide +kernel
theorem dX1_brokenBy_85 : decode cX1_brokenBy 85 = .ok (.iand, 1) := by decide +kernel
theorem dX1_brokenBy_86 : decode cX1_brokenBy 86 = .ok (.invokestatic 29, 3) := by decide +kernel
theorem dX1_brokenBy_89 : decode cX1_brokenBy 89 = .ok (.isub, 1) := by decide +kernel
theorem dX1_brokenBy_90 : decode cX1_brokenBy 90 = .ok (.istore 6, 2) := by decide +kernel
theorem dX1_brokenBy_92 : decode cX1_brokenBy 92 = .ok (.iload 5, 2) := by decide +kernel
theorem dX1_brokenBy_94 : decode cX1_brokenBy 94 = .ok (.iconst 1, 1) := by decide +kernel
theorem dX1_brokenBy_95 : decode cX1_brokenBy 95 = .ok (.if_icmp .gt 15, 3) := by decide +kernel
theorem dX1_brokenBy_98 : decode cX1_brokenBy 98 = .ok (.iload 5, 2) := by decide +kernel
theorem dX1_brokenBy_100 : decode cX1_brokenBy 100 = .ok (.iconst 1, 1) := by decide +kernel
theorem dX1_brokenBy_101 : decode cX1_brokenBy 101 = .ok (.if_icmp .ge 16, 3) := by decide +kernel
theorem dX1_brokenBy_104 : decode cX1_brokenBy 104 = .ok (.iload 6, 2) := by decide +kernel
theorem dX1_brokenBy_106 : decode cX1_brokenBy 106 = .ok (.iconst 1, 1) := by decide +kernel
theorem dX1_brokenBy_107 : decode cX1_brokenBy 107 = .ok (.if_icmp .lt 10, 3) := by decide +kernel
theorem dX1_brokenBy_110 : decode cX1_brokenBy 110 = .ok (.iload_n 3, 1) := by decide +kernel
theorem dX1_brokenBy_111 : decode cX1_brokenBy 111 = .ok (.iconst 1, 1) := by decide +kernel
theorem dX1_brokenBy_112 : decode cX1_brokenBy 112 = .ok (.iload 4, 2) := by decide +kernel
theorem dX1_brokenBy_114 : decode cX1_brokenBy 114 = .ok (.ishl, 1) := by decide +kernel
theorem dX1_brokenBy_115 : decode cX1_brokenBy 115 = .ok (.ior, 1) := by decide +kernel
theorem dX1_brokenBy_116 : decode cX1_brokenBy 116 = .ok (.istore_n 3, 1) := by decide +kernel
theorem dX1_brokenBy_117 : decode cX1_brokenBy 117 = .ok (.iinc 4 1, 3) := by decide +kernel
theorem dX1_brokenBy_120 : decode cX1_brokenBy 120 = .ok (.goto (-115), 3) := by decide +kernel
theorem dX1_brokenBy_123 : decode cX1_brokenBy 123 = .ok (.iload_n 3, 1) := by decide +kernel
theorem dX1_brokenBy_124 : decode cX1_brokenBy 124 = .ok (.ireturn, 1) := by decide +kernel
set_option maxHeartbeats 4000000 in
set_option maxRecDepth 100000 in
theorem mX1_brokenBy_L1 {p : Program} {l : Launch} {e : Env} {R : Room} {s : State} {m : MethodId} {args : Array Value} {below : List Frame} {meth : Method} {c : Code} {Q : State → Prop} {D : va_G} {U : zz_U} {A : Nat → Prop} {cells slots : Nat} {ad : Nat → Nat} {X : va_W} (C : zz_C p l R s m meth c D U A RX1 cX1_brokenBy 7 (some .int) [] 1) (hcR : cells ≤ R.cells) (hsR : slots ≤ R.slots) (σ : zz_St) (applied_ : Int32) : ∀ (n : Nat) (found_ : Int32) (name_ : Int32) (q : (Int32 × Int32)), fX1_brokenBy_L1 σ applied_ n found_ name_ = some q → (zz_Z p l e R s m args below meth c Q D A 7 cells slots (zz_wc U ad σ X) 123 [(0, .ref (ad 17)), (1, .ref (ad 1)), (2, .int applied_), (3, .int q.1), (4, .int q.2)] []) → zz_Z p l e R s m args below meth c Q D A 7 cells slots (zz_wc U ad σ X) 5 [(0, .ref (ad 17)), (1, .ref (ad 1)), (2, .int applied_), (3, .int found_), (4, .int name_)] [] := by
  intro n
  induction n with
  | zero => intro found_ name_ q hf; rw [fX1_brokenBy_L1] at hf; cases hf
  | succ n ih =>
    intro found_ name_ q hf kx
    rw [fX1_brokenBy_L1] at hf
    refine zz_iload C 4 dX1_brokenBy_5 rfl ?_
    refine zz_bipush (v := (16 : Int32)) C dX1_brokenBy_7 (by decide) ?_
    refine zz_icmp_ge (tgt := 123) C dX1_brokenBy_9 (by decide) (fun g1 => ?_) (fun g1 => ?_)
    · rw [if_pos g1] at hf
      cases hf
      exact kx
    · rw [if_neg g1] at hf
      refine zz_aload_n C 0 dX1_brokenBy_12 rfl rfl ?_
      refine zf1_definedNames C dX1_brokenBy_13 zw_22 ?_
      refine zz_iload C 4 dX1_brokenBy_16 rfl ?_
      refine zz_ishr C dX1_brokenBy_18 ?_
      refine zz_iconst (v := (1 : Int32)) C dX1_brokenBy_19 (by decide) ?_
      refine zz_iand C dX1_brokenBy_20 ?_
      refine zz_aload_n C 1 dX1_brokenBy_21 rfl rfl ?_
      refine zf5_piecesWith C dX1_brokenBy_22 zw_114 ?_
      refine zz_iconst (v := (0 : Int32)) C dX1_brokenBy_25 (by decide) ?_
      obtain ⟨x2, h3, hf⟩ := zz_bind hf
      refine zr_12 C dX1_brokenBy_26 h3 ?_
      refine zz_iload C 4 dX1_brokenBy_27 rfl ?_
      obtain ⟨x4, h5, hf⟩ := zz_bind hf
      refine zl_12 C dX1_brokenBy_29 h3 h5 ?_
      refine zz_iload_n C 2 dX1_brokenBy_30 rfl rfl ?_
      refine zz_iand C dX1_brokenBy_31 ?_
      obtain ⟨x6, h7, hf⟩ := zz_bind hf
      refine zz_callS1 (As := [.int (x4 &&& applied_)]) (rest := [.int (((σ 17 0) >>> (name_ &&& 31)) &&& (1 : Int32))]) C (mJ6_bitCount (x4 &&& applied_) x6 h7) dX1_brokenBy_32 rfl zw_113 zy_J6_bitCount_0f7a4 rfl (by decide) (by decide) (Nat.le_of_ble_eq_true rfl) hcR hsR rfl ?_
      refine zz_iadd C dX1_brokenBy_35 ?_
      refine zz_aload_n C 1 dX1_brokenBy_36 rfl rfl ?_
      refine zf5_piecesWith C dX1_brokenBy_37 zw_114 ?_
      refine zz_iconst (v := (1 : Int32)) C dX1_brokenBy_40 (by decide) ?_
      obtain ⟨x8, h9, hf⟩ := zz_bind hf
      refine zr_12 C dX1_brokenBy_41 h9 ?_
      refine zz_iload C 4 dX1_brokenBy_42 rfl ?_
      obtain ⟨x10, h11, hf⟩ := zz_bind hf
      refine zl_12 C dX1_brokenBy_44 h9 h11 ?_
      refine zz_iload_n C 2 dX1_brokenBy_45 rfl rfl ?_
      refine zz_iand C dX1_brokenBy_46 ?_
      obtain ⟨x12, h13, hf⟩ := zz_bind hf
      refine zz_callS1 (As := [.int (x10 &&& applied_)]) (rest := [.int ((((σ 17 0) >>> (name_ &&& 31)) &&& (1 : Int32)) + x6)]) C (mJ6_bitCount (x10 &&& applied_) x12 h13) dX1_brokenBy_47 rfl zw_113 zy_J6_bitCount_0f7a4 rfl (by decide) (by decide) (Nat.le_of_ble_eq_true rfl) hcR hsR rfl ?_
      refine zz_isub C dX1_brokenBy_50 ?_
      obtain ⟨x14, h15, hf⟩ := zz_bind hf
      refine zz_topi (Option.some.inj h15) ?_
      refine zz_istore C dX1_brokenBy_51 (by decide) (lv' := [(5, .int x14), (0, .ref (ad 17)), (1, .ref (ad 1)), (2, .int applied_), (3, .int found_), (4, .int name_)]) rfl ?_
      refine zz_aload_n C 1 dX1_brokenBy_53 rfl rfl ?_
      refine zf1_otherUses C dX1_brokenBy_54 zw_21 ?_
      refine zz_iload C 5 dX1_brokenBy_57 rfl ?_
      obtain ⟨x16, h17, hf⟩ := zz_bind hf
      refine zl_18 C dX1_brokenBy_59 h17 ?_
      refine zz_aload_n C 2 dX1_brokenBy_60 rfl rfl ?_
      refine zf5_piecesWith C dX1_brokenBy_61 zw_114 ?_
      refine zz_iconst (v := (2 : Int32)) C dX1_brokenBy_64 (by decide) ?_
      obtain ⟨x18, h19, hf⟩ := zz_bind hf
      refine zr_12 C dX1_brokenBy_65 h19 ?_
      refine zz_iload C 5 dX1_brokenBy_66 rfl ?_
      obtain ⟨x20, h21, hf⟩ := zz_bind hf
      refine zl_12 C dX1_brokenBy_68 h19 h21 ?_
      refine zz_iload_n C 3 dX1_brokenBy_69 rfl rfl ?_
      refine zz_iand C dX1_brokenBy_70 ?_
      obtain ⟨x22, h23, hf⟩ := zz_bind hf
      refine zz_callS1 (As := [.int (x20 &&& applied_)]) (rest := [.int x16]) C (mJ6_bitCount (x20 &&& applied_) x22 h23) dX1_brokenBy_71 rfl zw_113 zy_J6_bitCount_0f7a4 rfl (by decide) (by decide) (Nat.le_of_ble_eq_true rfl) hcR hsR rfl ?_
      refine zz_iadd C dX1_brokenBy_74 ?_
      refine zz_aload_n C 2 dX1_brokenBy_75 rfl rfl ?_
      refine zf5_piecesWith C dX1_brokenBy_76 zw_114 ?_
      refine zz_iconst (v := (3 : Int32)) C dX1_brokenBy_79 (by decide) ?_
      obtain ⟨x24, h25, hf⟩ := zz_bind hf
      refine zr_12 C dX1_brokenBy_80 h25 ?_
      refine zz_iload C 5 dX1_brokenBy_81 rfl ?_
      obtain ⟨x26, h27, hf⟩ := zz_bind hf
      refine zl_12 C dX1_brokenBy_83 h25 h27 ?_
      refine zz_iload_n C 3 dX1_brokenBy_84 rfl rfl ?_
      refine zz_iand C dX1_brokenBy_85 ?_
      obtain ⟨x28, h29, hf⟩ := zz_bind hf
      refine zz_callS1 (As := [.int (x26 &&& applied_)]) (rest := [.int (x16 + x22)]) C (mJ6_bitCount (x26 &&& applied_) x28 h29) dX1_brokenBy_86 rfl zw_113 zy_J6_bitCount_0f7a4 rfl (by decide) (by decide) (Nat.le_of_ble_eq_true rfl) hcR hsR rfl ?_
      refine zz_isub C dX1_brokenBy_89 ?_
      obtain ⟨x30, h31, hf⟩ := zz_bind hf
      refine zz_topi (Option.some.inj h31) ?_
      refine zz_istore C dX1_brokenBy_90 (by decide) (lv' := [(6, .int x30), (5, .int x14), (0, .ref (ad 17)), (1, .ref (ad 1)), (2, .int applied_), (3, .int found_), (4, .int name_)]) rfl ?_
      obtain ⟨x32, h33, hf⟩ := zz_bind hf
      refine zz_cut 117 [(0, .ref (ad 17)), (1, .ref (ad 1)), (2, .int applied_), (3, .int x32), (4, .int name_), (5, .int x14), (6, .int x30)] [] (zz_wc U ad σ X) ?_ (fun J34 => ?_)
      · refine zz_iinc (v := (name_ + (1 : Int32))) C 4 dX1_brokenBy_117 rfl (by rfl) (by decide) (lv' := [(4, .int (name_ + (1 : Int32))), (0, .ref (ad 17)), (1, .ref (ad 1)), (2, .int applied_), (3, .int x32), (5, .int x14), (6, .int x30)]) rfl ?_
        refine zz_goto (tgt := 5) C dX1_brokenBy_120 (by decide) ?_
        refine zz_sub [1, 2, 3, 4, 0] rfl ?_
        exact ih x32 (name_ + (1 : Int32)) _ hf kx
      obtain ⟨b35, h36, h33⟩ := zz_bind h33
      refine zz_cutI (P := b35 = true) 110 [(6, .int x30), (5, .int x14), (0, .ref (ad 17)), (1, .ref (ad 1)), (2, .int applied_), (3, .int found_), (4, .int name_)] [] (zz_wc U ad σ X) (fun g39 => ?_) (fun J37 => ?_)
      · rw [if_pos g39] at h33
        refine zz_iload_n C 5 dX1_brokenBy_110 rfl rfl ?_
        refine zz_iconst (v := (1 : Int32)) C dX1_brokenBy_111 (by decide) ?_
        refine zz_iload C 6 dX1_brokenBy_112 rfl ?_
        refine zz_ishl C dX1_brokenBy_114 ?_
        refine zz_ior C dX1_brokenBy_115 ?_
        obtain ⟨x43, h44, h33⟩ := zz_bind h33
        refine zz_topi (Option.some.inj h44) ?_
        refine zz_istore_n C dX1_brokenBy_116 rfl (by decide) (lv' := [(3, .int x43), (6, .int x30), (5, .int x14), (0, .ref (ad 17)), (1, .ref (ad 1)), (2, .int applied_), (4, .int name_)]) rfl ?_
        refine zz_sub [3, 4, 5, 0, 6, 2, 1] rfl ?_
        cases h33
        exact J34
      refine zz_cutI (P := b35 = false) 117 [(6, .int x30), (5, .int x14), (0, .ref (ad 17)), (1, .ref (ad 1)), (2, .int applied_), (3, .int found_), (4, .int name_)] [] (zz_wc U ad σ X) (fun g39 => ?_) (fun J38 => ?_)
      · rw [if_neg (show ¬ b35 = true by rw [g39]; decide)] at h33
        refine zz_sub [2, 3, 4, 5, 6, 1, 0] rfl ?_
        cases h33
        exact J34
      refine zz_iload C 1 dX1_brokenBy_92 rfl ?_
      refine zz_iconst (v := (1 : Int32)) C dX1_brokenBy_94 (by decide) ?_
      refine zz_icmp_gt (tgt := 110) C dX1_brokenBy_95 (by decide) (fun g40 => ?_) (fun g40 => ?_)
      · rw [if_pos g40] at h36
        cases h36
        exact J37 rfl
      · rw [if_neg g40] at h36
        refine zz_iload C 1 dX1_brokenBy_98 rfl ?_
        refine zz_iconst (v := (1 : Int32)) C dX1_brokenBy_100 (by decide) ?_
        refine zz_icmp_ge (tgt := 117) C dX1_brokenBy_101 (by decide) (fun g41 => ?_) (fun g41 => ?_)
        · rw [if_pos g41] at h36
          cases h36
          exact J38 rfl
        · rw [if_neg g41] at h36
          refine zz_iload C 0 dX1_brokenBy_104 rfl ?_
          refine zz_iconst (v := (1 : Int32)) C dX1_brokenBy_106 (by decide) ?_
          refine zz_icmp_lt (tgt := 117) C dX1_brokenBy_107 (by decide) (fun g42 => ?_) (fun g42 => ?_)
          · rw [if_pos g42] at h36
            cases h36
            exact J38 rfl
          · rw [if_neg g42] at h36
            cases h36
            exact J37 rfl
set_option maxHeartbeats 4000000 in
set_option maxRecDepth 100000 in
theorem mX1_brokenBy {D : va_G} {U : zz_U} {ad : Nat → Nat} {X : va_W} (σ : zz_St) (applied_ : Int32) (r : Int32) (hf : fX1_brokenBy σ applied_ = some r) : zz_Met yX1_brokenBy (.code yX1_brokenBy cX1_brokenBy 7 (some .int)) 1 0 0 D U [.ref (ad 17), .ref (ad 1), .int applied_] (zz_wc U ad σ X) (zz_ok (some (.int r)) (zz_wc U ad σ X)) zz_noth := by
  unfold fX1_brokenBy at hf
  refine zz_method RX1 rfl (by decide +kernel) (Nat.le_of_ble_eq_true rfl) ?_
  intro p l e s m args below meth c A _ C
  refine zz_lvs (lv1 := [(0, .ref (ad 17)), (1, .ref (ad 1)), (2, .int applied_)]) rfl ?_
  refine zz_iconst (v := (0 : Int32)) C dX1_brokenBy_0 (by decide) ?_
  refine zz_istore_n C dX1_brokenBy_1 rfl (by decide) (lv' := [(3, .int (0 : Int32)), (0, .ref (ad 17)), (1, .ref (ad 1)), (2, .int applied_)]) rfl ?_
  refine zz_iconst (v := (0 : Int32)) C dX1_brokenBy_2 (by decide) ?_
  refine zz_istore C dX1_brokenBy_3 (by decide) (lv' := [(4, .int (0 : Int32)), (3, .int (0 : Int32)), (0, .ref (ad 17)), (1, .ref (ad 1)), (2, .int applied_)]) rfl ?_
  obtain ⟨q45, h46, hf⟩ := zz_bind hf
  refine zz_sub [2, 3, 4, 1, 0] rfl ?_
  refine mX1_brokenBy_L1 C (Nat.le_of_ble_eq_true rfl) (Nat.le_of_ble_eq_true rfl) σ applied_ 1000 (0 : Int32) (0 : Int32) q45 h46 ?_
  refine zz_iload_n C 3 dX1_brokenBy_123 rfl rfl ?_
  cases hf
  exact zz_iret C dX1_brokenBy_124 (And.intro rfl rfl) (Nat.le_of_ble_eq_true rfl) (Nat.le_of_ble_eq_true rfl)
theorem dX7_broken_0 : decode cX7_broken 0 = .ok (.iload_n 1, 1) := by decide +kernel
theorem dX7_broken_1 : decode cX7_broken 1 = .ok (.aload_n 0, 1) := by decide +kernel
theorem dX7_broken_2 : decode cX7_broken 2 = .ok (.getfield 12, 3) := by decide +kernel
theorem dX7_broken_5 : decode cX7_broken 5 = .ok (.invokevirtual 217, 3) := by decide +kernel
theorem dX7_broken_8 : decode cX7_broken 8 = .ok (.iconst (-1), 1) := by decide +kernel
theorem dX7_broken_9 : decode cX7_broken 9 = .ok (.ixor, 1) := by decide +kernel
theorem dX7_broken_10 : decode cX7_broken 10 = .ok (.iand, 1) := by decide +kernel
theorem dX7_broken_11 : decode cX7_broken 11 = .ok (.ifCond .eq 13, 3) := by decide +kernel
theorem dX7_broken_14 : decode cX7_broken 14 = .ok (.new 62, 3) := by decide +kernel
theorem dX7_broken_17 : decode cX7_broken 17 = .ok (.dup, 1) := by decide +kernel
theorem dX7_broken_18 : decode cX7_broken 18 = .ok (.ldc 221, 2) := by decide +kernel
theorem dX7_broken_20 : decode cX7_broken 20 = .ok (.invokespecial 66, 3) := by decide +kernel
theorem dX7_broken_23 : decode cX7_broken 23 = .ok (.athrow, 1) := by decide +kernel
theorem dX7_broken_24 : decode cX7_broken 24 = .ok (.aload_n 0, 1) := by decide +kernel
theorem dX7_broken_25 : decode cX7_broken 25 = .ok (.getfield 19, 3) := by decide +kernel
theorem dX7_broken_28 : decode cX7_broken 28 = .ok (.aload_n 0, 1) := by decide +kernel
theorem dX7_broken_29 : decode cX7_broken 29 = .ok (.getfield 12, 3) := by decide +kernel
theorem dX7_broken_32 : decode cX7_broken 32 = .ok (.iload_n 1, 1) := by decide +kernel
theorem dX7_broken_33 : decode cX7_broken 33 = .ok (.invokevirtual 223, 3) := by decide +kernel
theorem dX7_broken_36 : decode cX7_broken 36 = .ok (.ireturn, 1) := by decide +kernel
set_option maxHeartbeats 4000000 in
set_option maxRecDepth 100000 in
theorem mX7_broken {D : va_G} {U : zz_U} {ad : Nat → Nat} {X : va_W} (σ : zz_St) (pieces_ : Int32) (r : (Int32 ⊕ String)) (hf : fX7_broken σ pieces_ = some r) : zz_Met yX7_broken (.code yX7_broken cX7_broken 2 (some .int)) 6 1 6 D U [.ref (ad 0), .int pieces_] (zz_wc U ad σ X) (match r with | .inl x => zz_ok (some (.int x)) (zz_wc U ad σ X) | .inr _ => zz_none) (match r with | .inl _ => zz_noth | .inr E => zz_th E (zz_wc U ad σ X)) := by
  unfold fX7_broken at hf
  refine zz_method RX7 rfl (by decide +kernel) (Nat.le_of_ble_eq_true rfl) ?_
  intro p l e s m args below meth c A _ C
  refine zz_lvs (lv1 := [(0, .ref (ad 0)), (1, .int pieces_)]) rfl ?_
  refine zz_iload_n C 1 dX7_broken_0 rfl rfl ?_
  refine zz_aload_n C 0 dX7_broken_1 rfl rfl ?_
  refine zf7_pieces C dX7_broken_2 zw_10 ?_
  obtain ⟨x1, h2, hf⟩ := zz_bind hf
  refine zz_callV1 (As := []) (rest := [.int pieces_]) C 1 (mX5_all σ x1 h2) dX7_broken_5 rfl rfl rfl zw_116 zy_X5_all rfl (by decide) (by decide) (Nat.le_of_ble_eq_true rfl) (Nat.le_of_ble_eq_true rfl) (Nat.le_of_ble_eq_true rfl) rfl ?_
  refine zz_iconst (v := (-1 : Int32)) C dX7_broken_8 (by decide) ?_
  refine zz_ixor C dX7_broken_9 ?_
  refine zz_iand C dX7_broken_10 ?_
  refine zz_if_eq (tgt := 24) C dX7_broken_11 (by decide) (fun g3 => ?_) (fun g3 => ?_)
  · rw [if_pos g3] at hf
    refine zz_aload_n C 0 dX7_broken_24 rfl rfl ?_
    refine zf7_code C dX7_broken_25 zw_24 ?_
    refine zz_aload_n C 0 dX7_broken_28 rfl rfl ?_
    refine zf7_pieces C dX7_broken_29 zw_10 ?_
    refine zz_iload_n C 1 dX7_broken_32 rfl rfl ?_
    obtain ⟨x4, h5, hf⟩ := zz_bind hf
    refine zz_callV1 (As := [.ref (ad 1), .int pieces_]) (rest := []) C 17 (mX1_brokenBy σ pieces_ x4 h5) dX7_broken_33 rfl rfl rfl zw_115 zy_X1_brokenBy rfl (by decide) (by decide) (Nat.le_of_ble_eq_true rfl) (Nat.le_of_ble_eq_true rfl) (Nat.le_of_ble_eq_true rfl) rfl ?_
    cases hf
    exact zz_iret C dX7_broken_36 (And.intro rfl rfl) (Nat.le_of_ble_eq_true rfl) (Nat.le_of_ble_eq_true rfl)
  · rw [if_neg g3] at hf
    cases hf
    exact zz_throwS (cls := "java/lang/IllegalArgumentException") (text := "not a set of pieces") C zt_0 (by decide +kernel) dX7_broken_14 dX7_broken_17 dX7_broken_18 dX7_broken_20 dX7_broken_23 (by decide) (Nat.le_of_ble_eq_true rfl) (Nat.le_of_ble_eq_true rfl) (Nat.le_of_ble_eq_true rfl) (Nat.le_of_ble_eq_true rfl) (Nat.le_of_ble_eq_true rfl) (And.intro rfl rfl)
theorem mX7_broken_r {D : va_G} {U : zz_U} {ad : Nat → Nat} {X : va_W} (σ : zz_St) (pieces_ : Int32) (x : Int32) (hf : fX7_broken σ pieces_ = some (.inl x)) : zz_Met yX7_broken (.code yX7_broken cX7_broken 2 (some .int)) 6 1 6 D U [.ref (ad 0), .int pieces_] (zz_wc U ad σ X) (zz_ok (some (.int x)) (zz_wc U ad σ X)) zz_noth := mX7_broken σ pieces_ (.inl x) hf
theorem mX7_broken_x {D : va_G} {U : zz_U} {ad : Nat → Nat} {X : va_W} (σ : zz_St) (pieces_ : Int32) (E : String) (hf : fX7_broken σ pieces_ = some (.inr E)) : zz_Met yX7_broken (.code yX7_broken cX7_broken 2 (some .int)) 6 1 6 D U [.ref (ad 0), .int pieces_] (zz_wc U ad σ X) zz_none (zz_th E (zz_wc U ad σ X)) := mX7_broken σ pieces_ (.inr E) hf
theorem dX7_breakageInOrder_0 : decode cX7_breakageInOrder 0 = .ok (.iconst 0, 1) := by decide +kernel
theorem dX7_breakageInOrder_1 : decode cX7_breakageInOrder 1 = .ok (.istore_n 1, 1) := by decide +kernel
theorem dX7_breakageInOrder_2 : decode cX7_breakageInOrder 2 = .ok (.iconst 0, 1) := by decide +kernel
theorem dX7_breakageInOrder_3 : decode cX7_breakageInOrder 3 = .ok (.istore_n 2, 1) := by decide +kernel
theorem dX7_breakageInOrder_4 : decode cX7_breakageInOrder 4 = .ok (.iconst 0, 1) := by decide +kernel
theorem dX7_breakageInOrder_5 : decode cX7_breakageInOrder 5 = .ok (.istore_n 3, 1) := by decide +kernel
theorem dX7_breakageInOrder_6 : decode cX7_breakageInOrder 6 = .ok (.iload_n 3, 1) := by decide +kernel
theorem dX7_breakageInOrder_7 : decode cX7_breakageInOrder 7 = .ok (.aload_n 0, 1) := by decide +kernel
theorem dX7_breakageInOrder_8 : decode cX7_breakageInOrder 8 = .ok (.getfield 47, 3) := by decide +kernel
theorem dX7_breakageInOrder_11 : decode cX7_breakageInOrder 11 = .ok (.getfield 205, 3) := by decide +kernel
theorem dX7_breakageInOrder_14 : decode cX7_breakageInOrder 14 = .ok (.if_icmp .ge 39, 3) := by decide +kernel
theorem dX7_breakageInOrder_17 : decode cX7_breakageInOrder 17 = .ok (.iload_n 1, 1) := by decide +kernel
theorem dX7_breakageInOrder_18 : decode cX7_breakageInOrder 18 = .ok (.aload_n 0, 1) := by decide +kernel
theorem dX7_breakageInOrder_19 : decode cX7_breakageInOrder 19 = .ok (.getfield 47, 3) := by decide +kernel
theorem dX7_breakageInOrder_22 : decode cX7_breakageInOrder 22 = .ok (.getfield 209, 3) := by decide +kernel
theorem dX7_breakageInOrder_25 : decode cX7_breakageInOrder 25 = .ok (.iload_n 3, 1) := by decide +kernel
theorem dX7_breakageInOrder_26 : decode cX7_breakageInOrder 26 = .ok (.iaload, 1) := by decide +kernel
theorem dX7_breakageInOrder_27 : decode cX7_breakageInOrder 27 = .ok (.ior, 1) := by decide +kernel
theorem dX7_breakageInOrder_28 : decode cX7_breakageInOrder 28 = .ok (.istore_n 1, 1) := by decide +kernel
theorem dX7_breakageInOrder_29 : decode cX7_breakageInOrder 29 = .ok (.iload_n 2, 1) := by decide +kernel
theorem dX7_breakageInOrder_30 : decode cX7_breakageInOrder 30 = .ok (.aload_n 0, 1) := by decide +kernel
theorem dX7_breakageInOrder_31 : decode cX7_breakageInOrder 31 = .ok (.getfield 19, 3) := by decide +kernel
theorem dX7_breakageInOrder_34 : decode cX7_breakageInOrder 34 = .ok (.aload_n 0, 1) := by decide +kernel
theorem dX7_breakageInOrder_35 : decode cX7_breakageInOrder 35 = .ok (.getfield 12, 3) := by decide +kernel
theorem dX7_breakageInOrder_38 : decode cX7_breakageInOrder 38 = .ok (.iload_n 1, 1) := by decide +kernel
theorem dX7_breakageInOrder_39 : decode cX7_breakageInOrder 39 = .ok (.invokevirtual 223, 3) := by decide +kernel
theorem dX7_breakageInOrder_42 : decode cX7_breakageInOrder 42 = .ok (.invokestatic 285, 3) := by decide +kernel
theorem dX7_breakageInOrder_45 : decode cX7_breakageInOrder 45 = .ok (.iadd, 1) := by decide +kernel
theorem dX7_breakageInOrder_46 : decode cX7_breakageInOrder 46 = .ok (.istore_n 2, 1) := by decide +kernel
theorem dX7_breakageInOrder_47 : decode cX7_breakageInOrder 47 = .ok (.iinc 3 1, 3) := by decide +kernel
theorem dX7_breakageInOrder_50 : decode cX7_breakageInOrder 50 = .ok (.goto (-44), 3) := by decide +kernel
theorem dX7_breakageInOrder_53 : decode cX7_breakageInOrder 53 = .ok (.iload_n 2, 1) := by decide +kernel
theorem dX7_breakageInOrder_54 : decode cX7_breakageInOrder 54 = .ok (.ireturn, 1) := by decide +kernel
set_option maxHeartbeats 4000000 in
set_option maxRecDepth 100000 in
theorem mX7_breakageInOrder_L1 {p : Program} {l : Launch} {e : Env} {R : Room} {s : State} {m : MethodId} {args : Array Value} {below : List Frame} {meth : Method} {c : Code} {Q : State → Prop} {D : va_G} {U : zz_U} {A : Nat → Prop} {cells slots : Nat} {ad : Nat → Nat} {X : va_W} (C : zz_C p l R s m meth c D U A RX7 cX7_breakageInOrder 4 (some .int) [] 2) (hcR : cells ≤ R.cells) (hsR : slots ≤ R.slots) (σ : zz_St) : ∀ (n : Nat) (applied_ : Int32) (sum_ : Int32) (parcel_ : Int32) (q : (Int32 × Int32 × Int32)), fX7_breakageInOrder_L1 σ n applied_ sum_ parcel_ = some q → (zz_Z p l e R s m args below meth c Q D A 4 cells slots (zz_wc U ad σ X) 53 [(0, .ref (ad 0)), (1, .int q.1), (2, .int q.2.1), (3, .int q.2.2)] []) → zz_Z p l e R s m args below meth c Q D A 4 cells slots (zz_wc U ad σ X) 6 [(0, .ref (ad 0)), (1, .int applied_), (2, .int sum_), (3, .int parcel_)] [] := by
  intro n
  induction n with
  | zero => intro applied_ sum_ parcel_ q hf; rw [fX7_breakageInOrder_L1] at hf; cases hf
  | succ n ih =>
    intro applied_ sum_ parcel_ q hf kx
    rw [fX7_breakageInOrder_L1] at hf
    refine zz_iload_n C 3 dX7_breakageInOrder_6 rfl rfl ?_
    refine zz_aload_n C 0 dX7_breakageInOrder_7 rfl rfl ?_
    refine zf7_parcels C dX7_breakageInOrder_8 zw_95 ?_
    refine zf4_count C dX7_breakageInOrder_11 zw_108 ?_
    refine zz_icmp_ge (tgt := 53) C dX7_breakageInOrder_14 (by decide) (fun g1 => ?_) (fun g1 => ?_)
    · rw [if_pos g1] at hf
      cases hf
      exact kx
    · rw [if_neg g1] at hf
      refine zz_iload_n C 1 dX7_breakageInOrder_17 rfl rfl ?_
      refine zz_aload_n C 0 dX7_breakageInOrder_18 rfl rfl ?_
      refine zf7_parcels C dX7_breakageInOrder_19 zw_95 ?_
      refine zf4_sets C dX7_breakageInOrder_22 zw_109 ?_
      refine zz_iload_n C 3 dX7_breakageInOrder_25 rfl rfl ?_
      obtain ⟨x2, h3, hf⟩ := zz_bind hf
      refine zl_42 C dX7_breakageInOrder_26 h3 ?_
      refine zz_ior C dX7_breakageInOrder_27 ?_
      obtain ⟨x4, h5, hf⟩ := zz_bind hf
      refine zz_topi (Option.some.inj h5) ?_
      refine zz_istore_n C dX7_breakageInOrder_28 rfl (by decide) (lv' := [(1, .int x4), (0, .ref (ad 0)), (2, .int sum_), (3, .int parcel_)]) rfl ?_
      refine zz_iload_n C 2 dX7_breakageInOrder_29 rfl rfl ?_
      refine zz_aload_n C 1 dX7_breakageInOrder_30 rfl rfl ?_
      refine zf7_code C dX7_breakageInOrder_31 zw_24 ?_
      refine zz_aload_n C 1 dX7_breakageInOrder_34 rfl rfl ?_
      refine zf7_pieces C dX7_breakageInOrder_35 zw_10 ?_
      refine zz_iload_n C 0 dX7_breakageInOrder_38 rfl rfl ?_
      obtain ⟨x6, h7, hf⟩ := zz_bind hf
      refine zz_callV1 (As := [.ref (ad 1), .int x4]) (rest := [.int sum_]) C 17 (mX1_brokenBy σ x4 x6 h7) dX7_breakageInOrder_39 rfl rfl rfl zw_115 zy_X1_brokenBy rfl (by decide) (by decide) (Nat.le_of_ble_eq_true rfl) hcR hsR rfl ?_
      obtain ⟨x8, h9, hf⟩ := zz_bind hf
      refine zz_callS1 (As := [.int x6]) (rest := [.int sum_]) C (mJ6_bitCount x6 x8 h9) dX7_breakageInOrder_42 rfl zw_117 zy_J6_bitCount_0f7a4 rfl (by decide) (by decide) (Nat.le_of_ble_eq_true rfl) hcR hsR rfl ?_
      refine zz_iadd C dX7_breakageInOrder_45 ?_
      obtain ⟨x10, h11, hf⟩ := zz_bind hf
      refine zz_topi (Option.some.inj h11) ?_
      refine zz_istore_n C dX7_breakageInOrder_46 rfl (by decide) (lv' := [(2, .int x10), (1, .int x4), (0, .ref (ad 0)), (3, .int parcel_)]) rfl ?_
      refine zz_iinc (v := (parcel_ + (1 : Int32))) C 3 dX7_breakageInOrder_47 rfl (by rfl) (by decide) (lv' := [(3, .int (parcel_ + (1 : Int32))), (2, .int x10), (1, .int x4), (0, .ref (ad 0))]) rfl ?_
      refine zz_goto (tgt := 6) C dX7_breakageInOrder_50 (by decide) ?_
      refine zz_sub [3, 2, 1, 0] rfl ?_
      exact ih x4 x10 (parcel_ + (1 : Int32)) _ hf kx
set_option maxHeartbeats 4000000 in
set_option maxRecDepth 100000 in
theorem mX7_breakageInOrder {D : va_G} {U : zz_U} {ad : Nat → Nat} {X : va_W} (σ : zz_St) (r : Int32) (hf : fX7_breakageInOrder σ = some r) : zz_Met yX7_breakageInOrder (.code yX7_breakageInOrder cX7_breakageInOrder 4 (some .int)) 2 0 0 D U [.ref (ad 0)] (zz_wc U ad σ X) (zz_ok (some (.int r)) (zz_wc U ad σ X)) zz_noth := by
  unfold fX7_breakageInOrder at hf
  refine zz_method RX7 rfl (by decide +kernel) (Nat.le_of_ble_eq_true rfl) ?_
  intro p l e s m args below meth c A _ C
  refine zz_lvs (lv1 := [(0, .ref (ad 0))]) rfl ?_
  refine zz_iconst (v := (0 : Int32)) C dX7_breakageInOrder_0 (by decide) ?_
  refine zz_istore_n C dX7_breakageInOrder_1 rfl (by decide) (lv' := [(1, .int (0 : Int32)), (0, .ref (ad 0))]) rfl ?_
  refine zz_iconst (v := (0 : Int32)) C dX7_breakageInOrder_2 (by decide) ?_
  refine zz_istore_n C dX7_breakageInOrder_3 rfl (by decide) (lv' := [(2, .int (0 : Int32)), (1, .int (0 : Int32)), (0, .ref (ad 0))]) rfl ?_
  refine zz_iconst (v := (0 : Int32)) C dX7_breakageInOrder_4 (by decide) ?_
  refine zz_istore_n C dX7_breakageInOrder_5 rfl (by decide) (lv' := [(3, .int (0 : Int32)), (2, .int (0 : Int32)), (1, .int (0 : Int32)), (0, .ref (ad 0))]) rfl ?_
  obtain ⟨q12, h13, hf⟩ := zz_bind hf
  refine zz_sub [3, 2, 1, 0] rfl ?_
  refine mX7_breakageInOrder_L1 C (Nat.le_of_ble_eq_true rfl) (Nat.le_of_ble_eq_true rfl) σ 1000 (0 : Int32) (0 : Int32) (0 : Int32) q12 h13 ?_
  refine zz_iload_n C 2 dX7_breakageInOrder_53 rfl rfl ?_
  cases hf
  exact zz_iret C dX7_breakageInOrder_54 (And.intro rfl rfl) (Nat.le_of_ble_eq_true rfl) (Nat.le_of_ble_eq_true rfl)
theorem dX7_breakage_0 : decode cX7_breakage 0 = .ok (.aload_n 0, 1) := by decide +kernel
theorem dX7_breakage_1 : decode cX7_breakage 1 = .ok (.invokevirtual 176, 3) := by decide +kernel
theorem dX7_breakage_4 : decode cX7_breakage 4 = .ok (.aload_n 0, 1) := by decide +kernel
theorem dX7_breakage_5 : decode cX7_breakage 5 = .ok (.invokevirtual 227, 3) := by decide +kernel
theorem dX7_breakage_8 : decode cX7_breakage 8 = .ok (.ireturn, 1) := by decide +kernel
set_option maxHeartbeats 4000000 in
set_option maxRecDepth 100000 in
theorem mX7_breakage {D : va_G} {U : zz_U} {ad : Nat → Nat} {X : va_W} (σ : zz_St) (r : (Int32 × zz_St)) (hf : fX7_breakage σ = some r) : zz_Met yX7_breakage (.code yX7_breakage cX7_breakage 1 (some .int)) 6 0 0 D U [.ref (ad 0)] (zz_wc U ad σ X) (zz_ok (some (.int r.1)) (zz_wc U ad r.2 X)) zz_noth := by
  unfold fX7_breakage at hf
  refine zz_method RX7 rfl (by decide +kernel) (Nat.le_of_ble_eq_true rfl) ?_
  intro p l e s m args below meth c A _ C
  refine zz_lvs (lv1 := [(0, .ref (ad 0))]) rfl ?_
  refine zz_aload_n C 0 dX7_breakage_0 rfl rfl ?_
  obtain ⟨x1, h2, hf⟩ := zz_bind hf
  refine zz_callV1 (As := []) (rest := []) C 0 (mX7_putTogether σ x1 h2) dX7_breakage_1 rfl rfl rfl zw_99 zy_X7_putTogether rfl (by decide) (by decide) (Nat.le_of_ble_eq_true rfl) (Nat.le_of_ble_eq_true rfl) (Nat.le_of_ble_eq_true rfl) rfl ?_
  refine zz_aload_n C 0 dX7_breakage_4 rfl rfl ?_
  obtain ⟨x3, h4, hf⟩ := zz_bind hf
  refine zz_callV1 (As := []) (rest := []) C 0 (mX7_breakageInOrder x1 x3 h4) dX7_breakage_5 rfl rfl rfl zw_118 zy_X7_breakageInOrder rfl (by decide) (by decide) (Nat.le_of_ble_eq_true rfl) (Nat.le_of_ble_eq_true rfl) (Nat.le_of_ble_eq_true rfl) rfl ?_
  cases hf
  exact zz_iret C dX7_breakage_8 (And.intro rfl rfl) (Nat.le_of_ble_eq_true rfl) (Nat.le_of_ble_eq_true rfl)
theorem dX0_nextAfter_0 : decode cX0_nextAfter 0 = .ok (.iconst (-1), 1) := by decide +kernel
theorem dX0_nextAfter_1 : decode cX0_nextAfter 1 = .ok (.istore_n 2, 1) := by decide +kernel
theorem dX0_nextAfter_2 : decode cX0_nextAfter 2 = .ok (.ldc 57, 2) := by decide +kernel
theorem dX0_nextAfter_4 : decode cX0_nextAfter 4 = .ok (.istore_n 3, 1) := by decide +kernel
theorem dX0_nextAfter_5 : decode cX0_nextAfter 5 = .ok (.iconst 0, 1) := by decide +kernel
theorem dX0_nextAfter_6 : decode cX0_nextAfter 6 = .ok (.istore 4, 2) := by decide +kernel
theorem dX0_nextAfter_8 : decode cX0_nextAfter 8 = .ok (.iload 4, 2) := by decide +kernel
theorem dX0_nextAfter_10 : decode cX0_nextAfter 10 = .ok (.aload_n 0, 1) := by decide +kernel
theorem dX0_nextAfter_11 : decode cX0_nextAfter 11 = .ok (.getfield 30, 3) := by decide +kernel
theorem dX0_nextAfter_14 : decode cX0_nextAfter 14 = .ok (.if_icmp .ge 48, 3) := by decide +kernel
theorem dX0_nextAfter_17 : decode cX0_nextAfter 17 = .ok (.iload 4, 2) := by decide +kernel
theorem dX0_nextAfter_19 : decode cX0_nextAfter 19 = .ok (.iload_n 1, 1) := by decide +kernel
theorem dX0_nextAfter_20 : decode cX0_nextAfter 20 = .ok (.invokestatic 58, 3) := by decide +kernel
theorem dX0_nextAfter_23 : decode cX0_nextAfter 23 = .ok (.ifCond .ne 33, 3) := by decide +kernel
theorem dX0_nextAfter_26 : decode cX0_nextAfter 26 = .ok (.aload_n 0, 1) := by decide +kernel
theorem dX0_nextAfter_27 : decode cX0_nextAfter 27 = .ok (.getfield 15, 3) := by decide +kernel
theorem dX0_nextAfter_30 : decode cX0_nextAfter 30 = .ok (.iload_n 1, 1) := by decide +kernel
theorem dX0_nextAfter_31 : decode cX0_nextAfter 31 = .ok (.iconst 1, 1) := by decide +kernel
theorem dX0_nextAfter_32 : decode cX0_nextAfter 32 = .ok (.iload 4, 2) := by decide +kernel
theorem dX0_nextAfter_34 : decode cX0_nextAfter 34 = .ok (.ishl, 1) := by decide +kernel
theorem dX0_nextAfter_35 : decode cX0_nextAfter 35 = .ok (.ior, 1) := by decide +kernel
theorem dX0_nextAfter_36 : decode cX0_nextAfter 36 = .ok (.iaload, 1) := by decide +kernel
theorem dX0_nextAfter_37 : decode cX0_nextAfter 37 = .ok (.iload_n 3, 1) := by decide +kernel
theorem dX0_nextAfter_38 : decode cX0_nextAfter 38 = .ok (.if_icmp .ge 18, 3) := by decide +kernel
theorem dX0_nextAfter_41 : decode cX0_nextAfter 41 = .ok (.aload_n 0, 1) := by decide +kernel
theorem dX0_nextAfter_42 : decode cX0_nextAfter 42 = .ok (.getfield 15, 3) := by decide +kernel
theorem dX0_nextAfter_45 : decode cX0_nextAfter 45 = .ok (.iload_n 1, 1) := by decide +kernel
theorem dX0_nextAfter_46 : decode cX0_nextAfter 46 = .ok (.iconst 1, 1) := by decide +kernel
theorem dX0_nextAfter_47 : decode cX0_nextAfter 47 = .ok (.iload 4, 2) := by decide +kernel
theorem dX0_nextAfter_49 : decode cX0_nextAfter 49 = .ok (.ishl, 1) := by decide +kernel
theorem dX0_nextAfter_50 : decode cX0_nextAfter 50 = .ok (.ior, 1) := by decide +kernel
theorem dX0_nextAfter_51 : decode cX0_nextAfter 51 = .ok (.iaload, 1) := by decide +kernel
theorem dX0_nextAfter_52 : decode cX0_nextAfter 52 = .ok (.istore_n 3, 1) := by decide +kernel
theorem dX0_nextAfter_53 : decode cX0_nextAfter 53 = .ok (.iload 4, 2) := by decide +kernel
theorem dX0_nextAfter_55 : decode cX0_nextAfter 55 = .ok (.istore_n 2, 1) := by decide +kernel
theorem dX0_nextAfter_56 : decode cX0_nextAfter 56 = .ok (.iinc 4 1, 3) := by decide +kernel
theorem dX0_nextAfter_59 : decode cX0_nextAfter 59 = .ok (.goto (-51), 3) := by decide +kernel
theorem dX0_nextAfter_62 : decode cX0_nextAfter 62 = .ok (.iload_n 2, 1) := by decide +kernel
theorem dX0_nextAfter_63 : decode cX0_nextAfter 63 = .ok (.ireturn, 1) := by decide +kernel
set_option maxHeartbeats 4000000 in
set_option maxRecDepth 100000 in
theorem mX0_nextAfter_L1 {p : Program} {l : Launch} {e : Env} {R : Room} {s : State} {m : MethodId} {args : Array Value} {below : List Frame} {meth : Method} {c : Code} {Q : State → Prop} {D : va_G} {U : zz_U} {A : Nat → Prop} {cells slots : Nat} {ad : Nat → Nat} {X : va_W} (C : zz_C p l R s m meth c D U A RX0 cX0_nextAfter 5 (some .int) [] 1) (hcR : cells ≤ R.cells) (hsR : slots ≤ R.slots) (σ : zz_St) (chosen_ : Int32) : ∀ (n : Nat) (found_ : Int32) (leastThen_ : Int32) (parcel_ : Int32) (q : (Int32 × Int32 × Int32)), fX0_nextAfter_L1 σ chosen_ n found_ leastThen_ parcel_ = some q → (zz_Z p l e R s m args below meth c Q D A 5 cells slots (zz_wc U ad σ X) 62 [(0, .ref (ad 44)), (1, .int chosen_), (2, .int q.1), (3, .int q.2.1), (4, .int q.2.2)] []) → zz_Z p l e R s m args below meth c Q D A 5 cells slots (zz_wc U ad σ X) 8 [(0, .ref (ad 44)), (1, .int chosen_), (2, .int found_), (3, .int leastThen_), (4, .int parcel_)] [] := by
  intro n
  induction n with
  | zero => intro found_ leastThen_ parcel_ q hf; rw [fX0_nextAfter_L1] at hf; cases hf
  | succ n ih =>
    intro found_ leastThen_ parcel_ q hf kx
    rw [fX0_nextAfter_L1] at hf
    refine zz_iload C 4 dX0_nextAfter_8 rfl ?_
    refine zz_aload_n C 0 dX0_nextAfter_10 rfl rfl ?_
    refine zf0_length C dX0_nextAfter_11 zw_122 ?_
    refine zz_icmp_ge (tgt := 62) C dX0_nextAfter_14 (by decide) (fun g1 => ?_) (fun g1 => ?_)
    · rw [if_pos g1] at hf
      cases hf
      exact kx
    · rw [if_neg g1] at hf
      obtain ⟨x2, h3, hf⟩ := zz_bind hf
      refine zz_cut 56 [(0, .ref (ad 44)), (1, .int chosen_), (2, .int x2.1), (3, .int x2.2), (4, .int parcel_)] [] (zz_wc U ad σ X) ?_ (fun J4 => ?_)
      · refine zz_iinc (v := (parcel_ + (1 : Int32))) C 4 dX0_nextAfter_56 rfl (by rfl) (by decide) (lv' := [(4, .int (parcel_ + (1 : Int32))), (0, .ref (ad 44)), (1, .int chosen_), (2, .int x2.1), (3, .int x2.2)]) rfl ?_
        refine zz_goto (tgt := 8) C dX0_nextAfter_59 (by decide) ?_
        refine zz_sub [1, 2, 3, 4, 0] rfl ?_
        exact ih x2.1 x2.2 (parcel_ + (1 : Int32)) _ hf kx
      obtain ⟨b5, h6, h3⟩ := zz_bind h3
      refine zz_cutI (P := b5 = true) 41 [(0, .ref (ad 44)), (1, .int chosen_), (2, .int found_), (3, .int leastThen_), (4, .int parcel_)] [] (zz_wc U ad σ X) (fun g9 => ?_) (fun J7 => ?_)
      · rw [if_pos g9] at h3
        refine zz_aload_n C 0 dX0_nextAfter_41 rfl rfl ?_
        refine zf0_fromThen C dX0_nextAfter_42 zw_121 ?_
        refine zz_iload_n C 1 dX0_nextAfter_45 rfl rfl ?_
        refine zz_iconst (v := (1 : Int32)) C dX0_nextAfter_46 (by decide) ?_
        refine zz_iload C 4 dX0_nextAfter_47 rfl ?_
        refine zz_ishl C dX0_nextAfter_49 ?_
        refine zz_ior C dX0_nextAfter_50 ?_
        obtain ⟨x16, h17, h3⟩ := zz_bind h3
        refine zl_46 C dX0_nextAfter_51 h17 ?_
        refine zz_istore_n C dX0_nextAfter_52 rfl (by decide) (lv' := [(3, .int x16), (0, .ref (ad 44)), (1, .int chosen_), (2, .int found_), (4, .int parcel_)]) rfl ?_
        refine zz_iload C 4 dX0_nextAfter_53 rfl ?_
        refine zz_istore_n C dX0_nextAfter_55 rfl (by decide) (lv' := [(2, .int parcel_), (3, .int x16), (0, .ref (ad 44)), (1, .int chosen_), (4, .int parcel_)]) rfl ?_
        refine zz_sub [2, 3, 0, 1, 4] rfl ?_
        cases h3
        exact J4
      refine zz_cutI (P := b5 = false) 56 [(0, .ref (ad 44)), (1, .int chosen_), (2, .int found_), (3, .int leastThen_), (4, .int parcel_)] [] (zz_wc U ad σ X) (fun g9 => ?_) (fun J8 => ?_)
      · rw [if_neg (show ¬ b5 = true by rw [g9]; decide)] at h3
        cases h3
        exact J4
      refine zz_iload C 4 dX0_nextAfter_17 rfl ?_
      refine zz_iload_n C 1 dX0_nextAfter_19 rfl rfl ?_
      obtain ⟨x10, h11, h6⟩ := zz_bind h6
      refine zz_callSN1 (host := "ChangeUntangler") (As := [.int parcel_, .int chosen_]) (rest := []) C (mX7_isIn σ parcel_ chosen_ x10 h11) dX0_nextAfter_20 rfl (by decide +kernel) zy_X7_isIn rfl (by decide) (by decide) (Nat.le_of_ble_eq_true rfl) hcR hsR rfl ?_
      refine zz_if_ne (tgt := 56) C dX0_nextAfter_23 (by decide) (fun g12 => ?_) (fun g12 => ?_)
      · rw [if_neg g12] at h6
        cases h6
        exact J8 rfl
      · rw [if_pos g12] at h6
        refine zz_aload_n C 0 dX0_nextAfter_26 rfl rfl ?_
        refine zf0_fromThen C dX0_nextAfter_27 zw_121 ?_
        refine zz_iload_n C 1 dX0_nextAfter_30 rfl rfl ?_
        refine zz_iconst (v := (1 : Int32)) C dX0_nextAfter_31 (by decide) ?_
        refine zz_iload C 4 dX0_nextAfter_32 rfl ?_
        refine zz_ishl C dX0_nextAfter_34 ?_
        refine zz_ior C dX0_nextAfter_35 ?_
        obtain ⟨x13, h14, h6⟩ := zz_bind h6
        refine zl_46 C dX0_nextAfter_36 h14 ?_
        refine zz_iload_n C 3 dX0_nextAfter_37 rfl rfl ?_
        refine zz_icmp_ge (tgt := 56) C dX0_nextAfter_38 (by decide) (fun g15 => ?_) (fun g15 => ?_)
        · rw [if_pos g15] at h6
          cases h6
          exact J8 rfl
        · rw [if_neg g15] at h6
          cases h6
          exact J7 rfl
set_option maxHeartbeats 4000000 in
set_option maxRecDepth 100000 in
theorem mX0_nextAfter {D : va_G} {U : zz_U} {ad : Nat → Nat} {X : va_W} (σ : zz_St) (chosen_ : Int32) (r : Int32) (hf : fX0_nextAfter σ chosen_ = some r) : zz_Met yX0_nextAfter (.code yX0_nextAfter cX0_nextAfter 5 (some .int)) 1 0 0 D U [.ref (ad 44), .int chosen_] (zz_wc U ad σ X) (zz_ok (some (.int r)) (zz_wc U ad σ X)) zz_noth := by
  unfold fX0_nextAfter at hf
  refine zz_method RX0 rfl (by decide +kernel) (Nat.le_of_ble_eq_true rfl) ?_
  intro p l e s m args below meth c A _ C
  refine zz_lvs (lv1 := [(0, .ref (ad 44)), (1, .int chosen_)]) rfl ?_
  refine zz_iconst (v := (-1 : Int32)) C dX0_nextAfter_0 (by decide) ?_
  refine zz_istore_n C dX0_nextAfter_1 rfl (by decide) (lv' := [(2, .int (-1 : Int32)), (0, .ref (ad 44)), (1, .int chosen_)]) rfl ?_
  refine zz_ldc (v := (1000000 : Int32)) C dX0_nextAfter_2 zw_120 ?_
  refine zz_istore_n C dX0_nextAfter_4 rfl (by decide) (lv' := [(3, .int (1000000 : Int32)), (2, .int (-1 : Int32)), (0, .ref (ad 44)), (1, .int chosen_)]) rfl ?_
  refine zz_iconst (v := (0 : Int32)) C dX0_nextAfter_5 (by decide) ?_
  refine zz_istore C dX0_nextAfter_6 (by decide) (lv' := [(4, .int (0 : Int32)), (3, .int (1000000 : Int32)), (2, .int (-1 : Int32)), (0, .ref (ad 44)), (1, .int chosen_)]) rfl ?_
  obtain ⟨q18, h19, hf⟩ := zz_bind hf
  refine zz_sub [3, 4, 2, 1, 0] rfl ?_
  refine mX0_nextAfter_L1 C (Nat.le_of_ble_eq_true rfl) (Nat.le_of_ble_eq_true rfl) σ chosen_ 1000 (-1 : Int32) (1000000 : Int32) (0 : Int32) q18 h19 ?_
  refine zz_iload_n C 2 dX0_nextAfter_62 rfl rfl ?_
  cases hf
  exact zz_iret C dX0_nextAfter_63 (And.intro rfl rfl) (Nat.le_of_ble_eq_true rfl) (Nat.le_of_ble_eq_true rfl)
