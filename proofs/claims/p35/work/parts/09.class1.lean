theorem dX7_isUpTo_0 : decode cX7_isUpTo 0 = .ok (.iload_n 0, 1) := by decide +kernel
theorem dX7_isUpTo_1 : decode cX7_isUpTo 1 = .ok (.ifCond .lt 12, 3) := by decide +kernel
theorem dX7_isUpTo_4 : decode cX7_isUpTo 4 = .ok (.iload_n 0, 1) := by decide +kernel
theorem dX7_isUpTo_5 : decode cX7_isUpTo 5 = .ok (.iload_n 1, 1) := by decide +kernel
theorem dX7_isUpTo_6 : decode cX7_isUpTo 6 = .ok (.if_icmp .gt 7, 3) := by decide +kernel
theorem dX7_isUpTo_9 : decode cX7_isUpTo 9 = .ok (.iconst 1, 1) := by decide +kernel
theorem dX7_isUpTo_10 : decode cX7_isUpTo 10 = .ok (.goto 4, 3) := by decide +kernel
theorem dX7_isUpTo_13 : decode cX7_isUpTo 13 = .ok (.iconst 0, 1) := by decide +kernel
theorem dX7_isUpTo_14 : decode cX7_isUpTo 14 = .ok (.ireturn, 1) := by decide +kernel
set_option maxHeartbeats 4000000 in
set_option maxRecDepth 100000 in
theorem mX7_isUpTo {D : va_G} {U : zz_U} {ad : Nat → Nat} {X : va_W} (σ : zz_St) (number_ : Int32) (greatest_ : Int32) (r : Int32) (hf : fX7_isUpTo σ number_ greatest_ = some r) : zz_Met yX7_isUpTo (.code yX7_isUpTo cX7_isUpTo 2 (some .boolean)) 0 0 0 D U [.int number_, .int greatest_] (zz_wc U ad σ X) (zz_ok (some (.int r)) (zz_wc U ad σ X)) zz_noth := by
  unfold fX7_isUpTo at hf
  refine zz_method RX7 rfl (by decide +kernel) (Nat.le_of_ble_eq_true rfl) ?_
  intro p l e s m args below meth c A _ C
  refine zz_lvs (lv1 := [(0, .int number_), (1, .int greatest_)]) rfl ?_
  obtain ⟨b1, h2, hf⟩ := zz_bind hf
  refine zz_cut 14 [(0, .int number_), (1, .int greatest_)] [.int (zz_bi b1)] (zz_wc U ad σ X) ?_ (fun J3 => ?_)
  · cases hf
    exact zz_zret C dX7_isUpTo_14 (zz_bi01 _) (And.intro rfl rfl) (Nat.le_of_ble_eq_true rfl) (Nat.le_of_ble_eq_true rfl)
  refine zz_iload_n C 0 dX7_isUpTo_0 rfl rfl ?_
  refine zz_if_lt (tgt := 13) C dX7_isUpTo_1 (by decide) (fun g4 => ?_) (fun g4 => ?_)
  · rw [if_pos g4] at h2
    refine zz_iconst (v := 0) C dX7_isUpTo_13 (by decide) ?_
    cases h2
    exact J3
  · rw [if_neg g4] at h2
    refine zz_iload_n C 0 dX7_isUpTo_4 rfl rfl ?_
    refine zz_iload_n C 1 dX7_isUpTo_5 rfl rfl ?_
    refine zz_icmp_gt (tgt := 13) C dX7_isUpTo_6 (by decide) (fun g5 => ?_) (fun g5 => ?_)
    · rw [if_pos g5] at h2
      refine zz_iconst (v := 0) C dX7_isUpTo_13 (by decide) ?_
      cases h2
      exact J3
    · rw [if_neg g5] at h2
      refine zz_iconst (v := 1) C dX7_isUpTo_9 (by decide) ?_
      refine zz_goto (tgt := 14) C dX7_isUpTo_10 (by decide) ?_
      cases h2
      exact J3
theorem dX7_forgetResults_0 : decode cX7_forgetResults 0 = .ok (.aload_n 0, 1) := by decide +kernel
theorem dX7_forgetResults_1 : decode cX7_forgetResults 1 = .ok (.iconst 0, 1) := by decide +kernel
theorem dX7_forgetResults_2 : decode cX7_forgetResults 2 = .ok (.putfield 267, 3) := by decide +kernel
theorem dX7_forgetResults_5 : decode cX7_forgetResults 5 = .ok (.aload_n 0, 1) := by decide +kernel
theorem dX7_forgetResults_6 : decode cX7_forgetResults 6 = .ok (.iconst 0, 1) := by decide +kernel
theorem dX7_forgetResults_7 : decode cX7_forgetResults 7 = .ok (.putfield 271, 3) := by decide +kernel
theorem dX7_forgetResults_10 : decode cX7_forgetResults 10 = .ok (.return_, 1) := by decide +kernel
set_option maxHeartbeats 4000000 in
set_option maxRecDepth 100000 in
theorem mX7_forgetResults {D : va_G} {U : zz_U} {ad : Nat → Nat} {X : va_W} (σ : zz_St) (r : zz_St) (hf : fX7_forgetResults σ = some r) : zz_Met yX7_forgetResults (.code yX7_forgetResults cX7_forgetResults 1 none) 0 0 0 D U [.ref (ad 0)] (zz_wc U ad σ X) (zz_ok none (zz_wc U ad r X)) zz_noth := by
  unfold fX7_forgetResults at hf
  refine zz_method RX7 rfl (by decide +kernel) (Nat.le_of_ble_eq_true rfl) ?_
  intro p l e s m args below meth c A _ C
  refine zz_lvs (lv1 := [(0, .ref (ad 0))]) rfl ?_
  refine zz_aload_n C 0 dX7_forgetResults_0 rfl rfl ?_
  refine zz_iconst (v := (0 : Int32)) C dX7_forgetResults_1 (by decide) ?_
  refine zp7_isPutTogether C dX7_forgetResults_2 zw_2 (Or.inl rfl) ?_
  refine zz_aload_n C 0 dX7_forgetResults_5 rfl rfl ?_
  refine zz_iconst (v := (0 : Int32)) C dX7_forgetResults_6 (by decide) ?_
  refine zp7_isBestKnown C dX7_forgetResults_7 zw_1 (Or.inl rfl) ?_
  cases hf
  exact zz_vret C dX7_forgetResults_10 (And.intro rfl rfl) (Nat.le_of_ble_eq_true rfl) (Nat.le_of_ble_eq_true rfl)
theorem dX5_append_0 : decode cX5_append 0 = .ok (.aload_n 0, 1) := by decide +kernel
theorem dX5_append_1 : decode cX5_append 1 = .ok (.getfield 35, 3) := by decide +kernel
theorem dX5_append_4 : decode cX5_append 4 = .ok (.istore 5, 2) := by decide +kernel
theorem dX5_append_6 : decode cX5_append 6 = .ok (.iload 5, 2) := by decide +kernel
theorem dX5_append_8 : decode cX5_append 8 = .ok (.bipush 14, 2) := by decide +kernel
theorem dX5_append_10 : decode cX5_append 10 = .ok (.if_icmp .lt 5, 3) := by decide +kernel
theorem dX5_append_13 : decode cX5_append 13 = .ok (.iconst (-1), 1) := by decide +kernel
theorem dX5_append_14 : decode cX5_append 14 = .ok (.ireturn, 1) := by decide +kernel
theorem dX5_append_15 : decode cX5_append 15 = .ok (.aload_n 0, 1) := by decide +kernel
theorem dX5_append_16 : decode cX5_append 16 = .ok (.getfield 9, 3) := by decide +kernel
theorem dX5_append_19 : decode cX5_append 19 = .ok (.iload 5, 2) := by decide +kernel
theorem dX5_append_21 : decode cX5_append 21 = .ok (.iload_n 1, 1) := by decide +kernel
theorem dX5_append_22 : decode cX5_append 22 = .ok (.iastore, 1) := by decide +kernel
theorem dX5_append_23 : decode cX5_append 23 = .ok (.aload_n 0, 1) := by decide +kernel
theorem dX5_append_24 : decode cX5_append 24 = .ok (.getfield 15, 3) := by decide +kernel
theorem dX5_append_27 : decode cX5_append 27 = .ok (.iload 5, 2) := by decide +kernel
theorem dX5_append_29 : decode cX5_append 29 = .ok (.iload_n 2, 1) := by decide +kernel
theorem dX5_append_30 : decode cX5_append 30 = .ok (.iastore, 1) := by decide +kernel
theorem dX5_append_31 : decode cX5_append 31 = .ok (.aload_n 0, 1) := by decide +kernel
theorem dX5_append_32 : decode cX5_append 32 = .ok (.getfield 18, 3) := by decide +kernel
theorem dX5_append_35 : decode cX5_append 35 = .ok (.iload 5, 2) := by decide +kernel
theorem dX5_append_37 : decode cX5_append 37 = .ok (.iload_n 3, 1) := by decide +kernel
theorem dX5_append_38 : decode cX5_append 38 = .ok (.iastore, 1) := by decide +kernel
theorem dX5_append_39 : decode cX5_append 39 = .ok (.aload_n 0, 1) := by decide +kernel
theorem dX5_append_40 : decode cX5_append 40 = .ok (.getfield 21, 3) := by decide +kernel
theorem dX5_append_43 : decode cX5_append 43 = .ok (.iload 5, 2) := by decide +kernel
theorem dX5_append_45 : decode cX5_append 45 = .ok (.iload 4, 2) := by decide +kernel
theorem dX5_append_47 : decode cX5_append 47 = .ok (.iastore, 1) := by decide +kernel
theorem dX5_append_48 : decode cX5_append 48 = .ok (.aload_n 0, 1) := by decide +kernel
theorem dX5_append_49 : decode cX5_append 49 = .ok (.getfield 24, 3) := by decide +kernel
theorem dX5_append_52 : decode cX5_append 52 = .ok (.iload 5, 2) := by decide +kernel
theorem dX5_append_54 : decode cX5_append 54 = .ok (.iconst 0, 1) := by decide +kernel
theorem dX5_append_55 : decode cX5_append 55 = .ok (.iastore, 1) := by decide +kernel
theorem dX5_append_56 : decode cX5_append 56 = .ok (.aload_n 0, 1) := by decide +kernel
theorem dX5_append_57 : decode cX5_append 57 = .ok (.iload 5, 2) := by decide +kernel
theorem dX5_append_59 : decode cX5_append 59 = .ok (.iconst 1, 1) := by decide +kernel
theorem dX5_append_60 : decode cX5_append 60 = .ok (.iadd, 1) := by decide +kernel
theorem dX5_append_61 : decode cX5_append 61 = .ok (.putfield 35, 3) := by decide +kernel
theorem dX5_append_64 : decode cX5_append 64 = .ok (.iload 5, 2) := by decide +kernel
theorem dX5_append_66 : decode cX5_append 66 = .ok (.ireturn, 1) := by decide +kernel
set_option maxHeartbeats 4000000 in
set_option maxRecDepth 100000 in
theorem mX5_append {D : va_G} {U : zz_U} {ad : Nat → Nat} {X : va_W} (σ : zz_St) (file_ : Int32) (line_ : Int32) (linesAdded_ : Int32) (linesTaken_ : Int32) (r : (Int32 × zz_St)) (hf : fX5_append σ file_ line_ linesAdded_ linesTaken_ = some r) : zz_Met yX5_append (.code yX5_append cX5_append 6 (some .int)) 0 0 0 D U [.ref (ad 1), .int file_, .int line_, .int linesAdded_, .int linesTaken_] (zz_wc U ad σ X) (zz_ok (some (.int r.1)) (zz_wc U ad r.2 X)) zz_noth := by
  unfold fX5_append at hf
  refine zz_method RX5 rfl (by decide +kernel) (Nat.le_of_ble_eq_true rfl) ?_
  intro p l e s m args below meth c A _ C
  refine zz_lvs (lv1 := [(0, .ref (ad 1)), (1, .int file_), (2, .int line_), (3, .int linesAdded_), (4, .int linesTaken_)]) rfl ?_
  refine zz_aload_n C 0 dX5_append_0 rfl rfl ?_
  refine zf5_count C dX5_append_1 zw_3 ?_
  refine zz_istore C dX5_append_4 (by decide) (lv' := [(5, .int (σ 1 0)), (0, .ref (ad 1)), (1, .int file_), (2, .int line_), (3, .int linesAdded_), (4, .int linesTaken_)]) rfl ?_
  refine zz_iload C 0 dX5_append_6 rfl ?_
  refine zz_bipush (v := (14 : Int32)) C dX5_append_8 (by decide) ?_
  refine zz_icmp_lt (tgt := 15) C dX5_append_10 (by decide) (fun g1 => ?_) (fun g1 => ?_)
  · rw [if_pos g1] at hf
    refine zz_aload_n C 1 dX5_append_15 rfl rfl ?_
    refine zf5_files C dX5_append_16 zw_8 ?_
    refine zz_iload C 0 dX5_append_19 rfl ?_
    refine zz_iload_n C 2 dX5_append_21 rfl rfl ?_
    obtain ⟨σ2, h3, hf⟩ := zz_bind hf
    refine zs_2 C dX5_append_22 h3 ?_
    refine zz_aload_n C 1 dX5_append_23 rfl rfl ?_
    refine zf5_startLines C dX5_append_24 zw_7 ?_
    refine zz_iload C 0 dX5_append_27 rfl ?_
    refine zz_iload_n C 3 dX5_append_29 rfl rfl ?_
    obtain ⟨σ4, h5, hf⟩ := zz_bind hf
    refine zs_3 C dX5_append_30 h5 ?_
    refine zz_aload_n C 1 dX5_append_31 rfl rfl ?_
    refine zf5_added C dX5_append_32 zw_6 ?_
    refine zz_iload C 0 dX5_append_35 rfl ?_
    refine zz_iload_n C 4 dX5_append_37 rfl rfl ?_
    obtain ⟨σ6, h7, hf⟩ := zz_bind hf
    refine zs_4 C dX5_append_38 h7 ?_
    refine zz_aload_n C 1 dX5_append_39 rfl rfl ?_
    refine zf5_taken C dX5_append_40 zw_5 ?_
    refine zz_iload C 0 dX5_append_43 rfl ?_
    refine zz_iload C 5 dX5_append_45 rfl ?_
    obtain ⟨σ8, h9, hf⟩ := zz_bind hf
    refine zs_5 C dX5_append_47 h9 ?_
    refine zz_aload_n C 1 dX5_append_48 rfl rfl ?_
    refine zf5_purposes C dX5_append_49 zw_4 ?_
    refine zz_iload C 0 dX5_append_52 rfl ?_
    refine zz_iconst (v := (0 : Int32)) C dX5_append_54 (by decide) ?_
    obtain ⟨σ10, h11, hf⟩ := zz_bind hf
    refine zs_6 C dX5_append_55 h11 ?_
    refine zz_aload_n C 1 dX5_append_56 rfl rfl ?_
    refine zz_iload C 0 dX5_append_57 rfl ?_
    refine zz_iconst (v := (1 : Int32)) C dX5_append_59 (by decide) ?_
    refine zz_iadd C dX5_append_60 ?_
    refine zp5_count C dX5_append_61 zw_3 ?_
    refine zz_iload C 0 dX5_append_64 rfl ?_
    cases hf
    exact zz_iret C dX5_append_66 (And.intro rfl rfl) (Nat.le_of_ble_eq_true rfl) (Nat.le_of_ble_eq_true rfl)
  · rw [if_neg g1] at hf
    refine zz_iconst (v := (-1 : Int32)) C dX5_append_13 (by decide) ?_
    cases hf
    exact zz_iret C dX5_append_14 (And.intro rfl rfl) (Nat.le_of_ble_eq_true rfl) (Nat.le_of_ble_eq_true rfl)
theorem dX7_addPiece_0 : decode cX7_addPiece 0 = .ok (.iload_n 1, 1) := by decide +kernel
theorem dX7_addPiece_1 : decode cX7_addPiece 1 = .ok (.bipush 9, 2) := by decide +kernel
theorem dX7_addPiece_3 : decode cX7_addPiece 3 = .ok (.invokestatic 58, 3) := by decide +kernel
theorem dX7_addPiece_6 : decode cX7_addPiece 6 = .ok (.ifCond .eq 13, 3) := by decide +kernel
theorem dX7_addPiece_9 : decode cX7_addPiece 9 = .ok (.iload_n 2, 1) := by decide +kernel
theorem dX7_addPiece_10 : decode cX7_addPiece 10 = .ok (.sipush 9999, 3) := by decide +kernel
theorem dX7_addPiece_13 : decode cX7_addPiece 13 = .ok (.invokestatic 58, 3) := by decide +kernel
theorem dX7_addPiece_16 : decode cX7_addPiece 16 = .ok (.ifCond .ne 13, 3) := by decide +kernel
theorem dX7_addPiece_19 : decode cX7_addPiece 19 = .ok (.new 62, 3) := by decide +kernel
theorem dX7_addPiece_22 : decode cX7_addPiece 22 = .ok (.dup, 1) := by decide +kernel
theorem dX7_addPiece_23 : decode cX7_addPiece 23 = .ok (.ldc 64, 2) := by decide +kernel
theorem dX7_addPiece_25 : decode cX7_addPiece 25 = .ok (.invokespecial 66, 3) := by decide +kernel
theorem dX7_addPiece_28 : decode cX7_addPiece 28 = .ok (.athrow, 1) := by decide +kernel
theorem dX7_addPiece_29 : decode cX7_addPiece 29 = .ok (.iload_n 3, 1) := by decide +kernel
theorem dX7_addPiece_30 : decode cX7_addPiece 30 = .ok (.sipush 999, 3) := by decide +kernel
theorem dX7_addPiece_33 : decode cX7_addPiece 33 = .ok (.invokestatic 58, 3) := by decide +kernel
theorem dX7_addPiece_36 : decode cX7_addPiece 36 = .ok (.ifCond .eq 14, 3) := by decide +kernel
theorem dX7_addPiece_39 : decode cX7_addPiece 39 = .ok (.iload 4, 2) := by decide +kernel
theorem dX7_addPiece_41 : decode cX7_addPiece 41 = .ok (.sipush 999, 3) := by decide +kernel
theorem dX7_addPiece_44 : decode cX7_addPiece 44 = .ok (.invokestatic 58, 3) := by decide +kernel
theorem dX7_addPiece_47 : decode cX7_addPiece 47 = .ok (.ifCond .ne 13, 3) := by decide +kernel
theorem dX7_addPiece_50 : decode cX7_addPiece 50 = .ok (.new 62, 3) := by decide +kernel
theorem dX7_addPiece_53 : decode cX7_addPiece 53 = .ok (.dup, 1) := by decide +kernel
theorem dX7_addPiece_54 : decode cX7_addPiece 54 = .ok (.ldc 69, 2) := by decide +kernel
theorem dX7_addPiece_56 : decode cX7_addPiece 56 = .ok (.invokespecial 66, 3) := by decide +kernel
theorem dX7_addPiece_59 : decode cX7_addPiece 59 = .ok (.athrow, 1) := by decide +kernel
theorem dX7_addPiece_60 : decode cX7_addPiece 60 = .ok (.aload_n 0, 1) := by decide +kernel
theorem dX7_addPiece_61 : decode cX7_addPiece 61 = .ok (.getfield 12, 3) := by decide +kernel
theorem dX7_addPiece_64 : decode cX7_addPiece 64 = .ok (.getfield 71, 3) := by decide +kernel
theorem dX7_addPiece_67 : decode cX7_addPiece 67 = .ok (.bipush 14, 2) := by decide +kernel
theorem dX7_addPiece_69 : decode cX7_addPiece 69 = .ok (.if_icmp .lt 13, 3) := by decide +kernel
theorem dX7_addPiece_72 : decode cX7_addPiece 72 = .ok (.new 75, 3) := by decide +kernel
theorem dX7_addPiece_75 : decode cX7_addPiece 75 = .ok (.dup, 1) := by decide +kernel
theorem dX7_addPiece_76 : decode cX7_addPiece 76 = .ok (.ldc 77, 2) := by decide +kernel
theorem dX7_addPiece_78 : decode cX7_addPiece 78 = .ok (.invokespecial 79, 3) := by decide +kernel
theorem dX7_addPiece_81 : decode cX7_addPiece 81 = .ok (.athrow, 1) := by decide +kernel
theorem dX7_addPiece_82 : decode cX7_addPiece 82 = .ok (.aload_n 0, 1) := by decide +kernel
theorem dX7_addPiece_83 : decode cX7_addPiece 83 = .ok (.invokevirtual 80, 3) := by decide +kernel
theorem dX7_addPiece_86 : decode cX7_addPiece 86 = .ok (.aload_n 0, 1) := by decide +kernel
theorem dX7_addPiece_87 : decode cX7_addPiece 87 = .ok (.getfield 12, 3) := by decide +kernel
theorem dX7_addPiece_90 : decode cX7_addPiece 90 = .ok (.iload_n 1, 1) := by decide +kernel
theorem dX7_addPiece_91 : decode cX7_addPiece 91 = .ok (.iload_n 2, 1) := by decide +kernel
theorem dX7_addPiece_92 : decode cX7_addPiece 92 = .ok (.iload_n 3, 1) := by decide +kernel
theorem dX7_addPiece_93 : decode cX7_addPiece 93 = .ok (.iload 4, 2) := by decide +kernel
theorem dX7_addPiece_95 : decode cX7_addPiece 95 = .ok (.invokevirtual 83, 3) := by decide +kernel
theorem dX7_addPiece_98 : decode cX7_addPiece 98 = .ok (.ireturn, 1) := by decide +kernel
set_option maxHeartbeats 4000000 in
set_option maxRecDepth 100000 in
theorem mX7_addPiece {D : va_G} {U : zz_U} {ad : Nat → Nat} {X : va_W} (σ : zz_St) (file_ : Int32) (line_ : Int32) (added_ : Int32) (taken_ : Int32) (r : ((Int32 ⊕ String) × zz_St)) (hf : fX7_addPiece σ file_ line_ added_ taken_ = some r) : zz_Met yX7_addPiece (.code yX7_addPiece cX7_addPiece 5 (some .int)) 6 1 6 D U [.ref (ad 0), .int file_, .int line_, .int added_, .int taken_] (zz_wc U ad σ X) (match r.1 with | .inl x => zz_ok (some (.int x)) (zz_wc U ad r.2 X) | .inr _ => zz_none) (match r.1 with | .inl _ => zz_noth | .inr E => zz_th E (zz_wc U ad r.2 X)) := by
  unfold fX7_addPiece at hf
  refine zz_method RX7 rfl (by decide +kernel) (Nat.le_of_ble_eq_true rfl) ?_
  intro p l e s m args below meth c A _ C
  refine zz_lvs (lv1 := [(0, .ref (ad 0)), (1, .int file_), (2, .int line_), (3, .int added_), (4, .int taken_)]) rfl ?_
  obtain ⟨b1, h2, hf⟩ := zz_bind hf
  refine zz_cutI (P := b1 = true) 19 [(0, .ref (ad 0)), (1, .int file_), (2, .int line_), (3, .int added_), (4, .int taken_)] [] (zz_wc U ad σ X) (fun g5 => ?_) (fun J3 => ?_)
  · rw [if_pos g5] at hf
    cases hf
    exact zz_throwS (cls := "java/lang/IllegalArgumentException") (text := "no such file or line") C zt_0 (by decide +kernel) dX7_addPiece_19 dX7_addPiece_22 dX7_addPiece_23 dX7_addPiece_25 dX7_addPiece_28 (by decide) (Nat.le_of_ble_eq_true rfl) (Nat.le_of_ble_eq_true rfl) (Nat.le_of_ble_eq_true rfl) (Nat.le_of_ble_eq_true rfl) (Nat.le_of_ble_eq_true rfl) (And.intro rfl rfl)
  refine zz_cutI (P := b1 = false) 29 [(0, .ref (ad 0)), (1, .int file_), (2, .int line_), (3, .int added_), (4, .int taken_)] [] (zz_wc U ad σ X) (fun g5 => ?_) (fun J4 => ?_)
  · rw [if_neg (show ¬ b1 = true by rw [g5]; decide)] at hf
    obtain ⟨b12, h13, hf⟩ := zz_bind hf
    refine zz_cutI (P := b12 = true) 50 [(0, .ref (ad 0)), (1, .int file_), (2, .int line_), (3, .int added_), (4, .int taken_)] [] (zz_wc U ad σ X) (fun g16 => ?_) (fun J14 => ?_)
    · rw [if_pos g16] at hf
      cases hf
      exact zz_throwS (cls := "java/lang/IllegalArgumentException") (text := "no such number of lines") C zt_0 (by decide +kernel) dX7_addPiece_50 dX7_addPiece_53 dX7_addPiece_54 dX7_addPiece_56 dX7_addPiece_59 (by decide) (Nat.le_of_ble_eq_true rfl) (Nat.le_of_ble_eq_true rfl) (Nat.le_of_ble_eq_true rfl) (Nat.le_of_ble_eq_true rfl) (Nat.le_of_ble_eq_true rfl) (And.intro rfl rfl)
    refine zz_cutI (P := b12 = false) 60 [(0, .ref (ad 0)), (1, .int file_), (2, .int line_), (3, .int added_), (4, .int taken_)] [] (zz_wc U ad σ X) (fun g16 => ?_) (fun J15 => ?_)
    · rw [if_neg (show ¬ b12 = true by rw [g16]; decide)] at hf
      refine zz_aload_n C 0 dX7_addPiece_60 rfl rfl ?_
      refine zf7_pieces C dX7_addPiece_61 zw_10 ?_
      refine zf5_count C dX7_addPiece_64 zw_12 ?_
      refine zz_bipush (v := (14 : Int32)) C dX7_addPiece_67 (by decide) ?_
      refine zz_icmp_lt (tgt := 82) C dX7_addPiece_69 (by decide) (fun g23 => ?_) (fun g23 => ?_)
      · rw [if_pos g23] at hf
        refine zz_aload_n C 0 dX7_addPiece_82 rfl rfl ?_
        obtain ⟨x24, h25, hf⟩ := zz_bind hf
        refine zz_callV1 (As := []) (rest := []) C 0 (mX7_forgetResults σ x24 h25) dX7_addPiece_83 rfl rfl rfl zw_11 zy_X7_forgetResults rfl (by decide) (by decide) (Nat.le_of_ble_eq_true rfl) (Nat.le_of_ble_eq_true rfl) (Nat.le_of_ble_eq_true rfl) rfl ?_
        refine zz_aload_n C 0 dX7_addPiece_86 rfl rfl ?_
        refine zf7_pieces C dX7_addPiece_87 zw_10 ?_
        refine zz_iload_n C 1 dX7_addPiece_90 rfl rfl ?_
        refine zz_iload_n C 2 dX7_addPiece_91 rfl rfl ?_
        refine zz_iload_n C 3 dX7_addPiece_92 rfl rfl ?_
        refine zz_iload C 4 dX7_addPiece_93 rfl ?_
        obtain ⟨x26, h27, hf⟩ := zz_bind hf
        refine zz_callV1 (As := [.int file_, .int line_, .int added_, .int taken_]) (rest := []) C 1 (mX5_append x24 file_ line_ added_ taken_ x26 h27) dX7_addPiece_95 rfl rfl rfl zw_9 zy_X5_append rfl (by decide) (by decide) (Nat.le_of_ble_eq_true rfl) (Nat.le_of_ble_eq_true rfl) (Nat.le_of_ble_eq_true rfl) rfl ?_
        cases hf
        exact zz_iret C dX7_addPiece_98 (And.intro rfl rfl) (Nat.le_of_ble_eq_true rfl) (Nat.le_of_ble_eq_true rfl)
      · rw [if_neg g23] at hf
        cases hf
        exact zz_throwS (cls := "java/lang/IllegalStateException") (text := "no room for another piece") C zt_1 (by decide +kernel) dX7_addPiece_72 dX7_addPiece_75 dX7_addPiece_76 dX7_addPiece_78 dX7_addPiece_81 (by decide) (Nat.le_of_ble_eq_true rfl) (Nat.le_of_ble_eq_true rfl) (Nat.le_of_ble_eq_true rfl) (Nat.le_of_ble_eq_true rfl) (Nat.le_of_ble_eq_true rfl) (And.intro rfl rfl)
    refine zz_iload_n C 3 dX7_addPiece_29 rfl rfl ?_
    refine zz_sipush (v := (999 : Int32)) C dX7_addPiece_30 (by decide) ?_
    obtain ⟨x17, h18, h13⟩ := zz_bind h13
    refine zz_callS1 (As := [.int added_, .int (999 : Int32)]) (rest := []) C (mX7_isUpTo σ added_ (999 : Int32) x17 h18) dX7_addPiece_33 rfl zw_0 zy_X7_isUpTo rfl (by decide) (by decide) (Nat.le_of_ble_eq_true rfl) (Nat.le_of_ble_eq_true rfl) (Nat.le_of_ble_eq_true rfl) rfl ?_
    refine zz_if_eq (tgt := 50) C dX7_addPiece_36 (by decide) (fun g19 => ?_) (fun g19 => ?_)
    · rw [if_pos g19] at h13
      cases h13
      exact J14 rfl
    · rw [if_neg g19] at h13
      refine zz_iload C 4 dX7_addPiece_39 rfl ?_
      refine zz_sipush (v := (999 : Int32)) C dX7_addPiece_41 (by decide) ?_
      obtain ⟨x20, h21, h13⟩ := zz_bind h13
      refine zz_callS1 (As := [.int taken_, .int (999 : Int32)]) (rest := []) C (mX7_isUpTo σ taken_ (999 : Int32) x20 h21) dX7_addPiece_44 rfl zw_0 zy_X7_isUpTo rfl (by decide) (by decide) (Nat.le_of_ble_eq_true rfl) (Nat.le_of_ble_eq_true rfl) (Nat.le_of_ble_eq_true rfl) rfl ?_
      refine zz_if_ne (tgt := 60) C dX7_addPiece_47 (by decide) (fun g22 => ?_) (fun g22 => ?_)
      · rw [if_neg g22] at h13
        cases h13
        exact J15 rfl
      · rw [if_pos g22] at h13
        cases h13
        exact J14 rfl
  refine zz_iload_n C 1 dX7_addPiece_0 rfl rfl ?_
  refine zz_bipush (v := (9 : Int32)) C dX7_addPiece_1 (by decide) ?_
  obtain ⟨x6, h7, h2⟩ := zz_bind h2
  refine zz_callS1 (As := [.int file_, .int (9 : Int32)]) (rest := []) C (mX7_isUpTo σ file_ (9 : Int32) x6 h7) dX7_addPiece_3 rfl zw_0 zy_X7_isUpTo rfl (by decide) (by decide) (Nat.le_of_ble_eq_true rfl) (Nat.le_of_ble_eq_true rfl) (Nat.le_of_ble_eq_true rfl) rfl ?_
  refine zz_if_eq (tgt := 19) C dX7_addPiece_6 (by decide) (fun g8 => ?_) (fun g8 => ?_)
  · rw [if_pos g8] at h2
    cases h2
    exact J3 rfl
  · rw [if_neg g8] at h2
    refine zz_iload_n C 2 dX7_addPiece_9 rfl rfl ?_
    refine zz_sipush (v := (9999 : Int32)) C dX7_addPiece_10 (by decide) ?_
    obtain ⟨x9, h10, h2⟩ := zz_bind h2
    refine zz_callS1 (As := [.int line_, .int (9999 : Int32)]) (rest := []) C (mX7_isUpTo σ line_ (9999 : Int32) x9 h10) dX7_addPiece_13 rfl zw_0 zy_X7_isUpTo rfl (by decide) (by decide) (Nat.le_of_ble_eq_true rfl) (Nat.le_of_ble_eq_true rfl) (Nat.le_of_ble_eq_true rfl) rfl ?_
    refine zz_if_ne (tgt := 29) C dX7_addPiece_16 (by decide) (fun g11 => ?_) (fun g11 => ?_)
    · rw [if_neg g11] at h2
      cases h2
      exact J4 rfl
    · rw [if_pos g11] at h2
      cases h2
      exact J3 rfl
theorem mX7_addPiece_r {D : va_G} {U : zz_U} {ad : Nat → Nat} {X : va_W} (σ : zz_St) (file_ : Int32) (line_ : Int32) (added_ : Int32) (taken_ : Int32) (x : Int32) (σ1 : zz_St) (hf : fX7_addPiece σ file_ line_ added_ taken_ = some (.inl x, σ1)) : zz_Met yX7_addPiece (.code yX7_addPiece cX7_addPiece 5 (some .int)) 6 1 6 D U [.ref (ad 0), .int file_, .int line_, .int added_, .int taken_] (zz_wc U ad σ X) (zz_ok (some (.int x)) (zz_wc U ad σ1 X)) zz_noth := mX7_addPiece σ file_ line_ added_ taken_ (.inl x, σ1) hf
theorem mX7_addPiece_x {D : va_G} {U : zz_U} {ad : Nat → Nat} {X : va_W} (σ : zz_St) (file_ : Int32) (line_ : Int32) (added_ : Int32) (taken_ : Int32) (x : String) (σ1 : zz_St) (hf : fX7_addPiece σ file_ line_ added_ taken_ = some (.inr x, σ1)) : zz_Met yX7_addPiece (.code yX7_addPiece cX7_addPiece 5 (some .int)) 6 1 6 D U [.ref (ad 0), .int file_, .int line_, .int added_, .int taken_] (zz_wc U ad σ X) zz_none (zz_th x (zz_wc U ad σ1 X)) := mX7_addPiece σ file_ line_ added_ taken_ (.inr x, σ1) hf
theorem dX5_has_0 : decode cX5_has 0 = .ok (.iload_n 1, 1) := by decide +kernel
theorem dX5_has_1 : decode cX5_has 1 = .ok (.ifCond .lt 15, 3) := by decide +kernel
theorem dX5_has_4 : decode cX5_has 4 = .ok (.iload_n 1, 1) := by decide +kernel
theorem dX5_has_5 : decode cX5_has 5 = .ok (.aload_n 0, 1) := by decide +kernel
theorem dX5_has_6 : decode cX5_has 6 = .ok (.getfield 35, 3) := by decide +kernel
theorem dX5_has_9 : decode cX5_has 9 = .ok (.if_icmp .ge 7, 3) := by decide +kernel
theorem dX5_has_12 : decode cX5_has 12 = .ok (.iconst 1, 1) := by decide +kernel
theorem dX5_has_13 : decode cX5_has 13 = .ok (.goto 4, 3) := by decide +kernel
theorem dX5_has_16 : decode cX5_has 16 = .ok (.iconst 0, 1) := by decide +kernel
theorem dX5_has_17 : decode cX5_has 17 = .ok (.ireturn, 1) := by decide +kernel
set_option maxHeartbeats 4000000 in
set_option maxRecDepth 100000 in
theorem mX5_has {D : va_G} {U : zz_U} {ad : Nat → Nat} {X : va_W} (σ : zz_St) (piece_ : Int32) (r : Int32) (hf : fX5_has σ piece_ = some r) : zz_Met yX5_has (.code yX5_has cX5_has 2 (some .boolean)) 0 0 0 D U [.ref (ad 1), .int piece_] (zz_wc U ad σ X) (zz_ok (some (.int r)) (zz_wc U ad σ X)) zz_noth := by
  unfold fX5_has at hf
  refine zz_method RX5 rfl (by decide +kernel) (Nat.le_of_ble_eq_true rfl) ?_
  intro p l e s m args below meth c A _ C
  refine zz_lvs (lv1 := [(0, .ref (ad 1)), (1, .int piece_)]) rfl ?_
  obtain ⟨b1, h2, hf⟩ := zz_bind hf
  refine zz_cut 17 [(0, .ref (ad 1)), (1, .int piece_)] [.int (zz_bi b1)] (zz_wc U ad σ X) ?_ (fun J3 => ?_)
  · cases hf
    exact zz_zret C dX5_has_17 (zz_bi01 _) (And.intro rfl rfl) (Nat.le_of_ble_eq_true rfl) (Nat.le_of_ble_eq_true rfl)
  refine zz_iload_n C 1 dX5_has_0 rfl rfl ?_
  refine zz_if_lt (tgt := 16) C dX5_has_1 (by decide) (fun g4 => ?_) (fun g4 => ?_)
  · rw [if_pos g4] at h2
    refine zz_iconst (v := 0) C dX5_has_16 (by decide) ?_
    cases h2
    exact J3
  · rw [if_neg g4] at h2
    refine zz_iload_n C 1 dX5_has_4 rfl rfl ?_
    refine zz_aload_n C 0 dX5_has_5 rfl rfl ?_
    refine zf5_count C dX5_has_6 zw_3 ?_
    refine zz_icmp_ge (tgt := 16) C dX5_has_9 (by decide) (fun g5 => ?_) (fun g5 => ?_)
    · rw [if_pos g5] at h2
      refine zz_iconst (v := 0) C dX5_has_16 (by decide) ?_
      cases h2
      exact J3
    · rw [if_neg g5] at h2
      refine zz_iconst (v := 1) C dX5_has_12 (by decide) ?_
      refine zz_goto (tgt := 17) C dX5_has_13 (by decide) ?_
      cases h2
      exact J3
theorem dX7_requirePiece_0 : decode cX7_requirePiece 0 = .ok (.aload_n 0, 1) := by decide +kernel
theorem dX7_requirePiece_1 : decode cX7_requirePiece 1 = .ok (.getfield 12, 3) := by decide +kernel
theorem dX7_requirePiece_4 : decode cX7_requirePiece 4 = .ok (.iload_n 1, 1) := by decide +kernel
theorem dX7_requirePiece_5 : decode cX7_requirePiece 5 = .ok (.invokevirtual 296, 3) := by decide +kernel
theorem dX7_requirePiece_8 : decode cX7_requirePiece 8 = .ok (.ifCond .ne 14, 3) := by decide +kernel
theorem dX7_requirePiece_11 : decode cX7_requirePiece 11 = .ok (.new 102, 3) := by decide +kernel
theorem dX7_requirePiece_14 : decode cX7_requirePiece 14 = .ok (.dup, 1) := by decide +kernel
theorem dX7_requirePiece_15 : decode cX7_requirePiece 15 = .ok (.ldc_w 300, 3) := by decide +kernel
theorem dX7_requirePiece_18 : decode cX7_requirePiece 18 = .ok (.invokespecial 106, 3) := by decide +kernel
theorem dX7_requirePiece_21 : decode cX7_requirePiece 21 = .ok (.athrow, 1) := by decide +kernel
theorem dX7_requirePiece_22 : decode cX7_requirePiece 22 = .ok (.return_, 1) := by decide +kernel
set_option maxHeartbeats 4000000 in
set_option maxRecDepth 100000 in
theorem mX7_requirePiece {D : va_G} {U : zz_U} {ad : Nat → Nat} {X : va_W} (σ : zz_St) (piece_ : Int32) (r : (Unit ⊕ String)) (hf : fX7_requirePiece σ piece_ = some r) : zz_Met yX7_requirePiece (.code yX7_requirePiece cX7_requirePiece 2 none) 6 1 6 D U [.ref (ad 0), .int piece_] (zz_wc U ad σ X) (match r with | .inl _ => zz_ok none (zz_wc U ad σ X) | .inr _ => zz_none) (match r with | .inl _ => zz_noth | .inr E => zz_th E (zz_wc U ad σ X)) := by
  unfold fX7_requirePiece at hf
  refine zz_method RX7 rfl (by decide +kernel) (Nat.le_of_ble_eq_true rfl) ?_
  intro p l e s m args below meth c A _ C
  refine zz_lvs (lv1 := [(0, .ref (ad 0)), (1, .int piece_)]) rfl ?_
  refine zz_aload_n C 0 dX7_requirePiece_0 rfl rfl ?_
  refine zf7_pieces C dX7_requirePiece_1 zw_10 ?_
  refine zz_iload_n C 1 dX7_requirePiece_4 rfl rfl ?_
  obtain ⟨x1, h2, hf⟩ := zz_bind hf
  refine zz_callV1 (As := [.int piece_]) (rest := []) C 1 (mX5_has σ piece_ x1 h2) dX7_requirePiece_5 rfl rfl rfl zw_13 zy_X5_has rfl (by decide) (by decide) (Nat.le_of_ble_eq_true rfl) (Nat.le_of_ble_eq_true rfl) (Nat.le_of_ble_eq_true rfl) rfl ?_
  refine zz_if_ne (tgt := 22) C dX7_requirePiece_8 (by decide) (fun g3 => ?_) (fun g3 => ?_)
  · rw [if_neg g3] at hf
    cases hf
    exact zz_vret C dX7_requirePiece_22 (And.intro rfl rfl) (Nat.le_of_ble_eq_true rfl) (Nat.le_of_ble_eq_true rfl)
  · rw [if_pos g3] at hf
    cases hf
    exact zz_throwSW (cls := "java/lang/IndexOutOfBoundsException") (text := "no such piece") C zt_2 (by decide +kernel) dX7_requirePiece_11 dX7_requirePiece_14 dX7_requirePiece_15 dX7_requirePiece_18 dX7_requirePiece_21 (by decide) (Nat.le_of_ble_eq_true rfl) (Nat.le_of_ble_eq_true rfl) (Nat.le_of_ble_eq_true rfl) (Nat.le_of_ble_eq_true rfl) (Nat.le_of_ble_eq_true rfl) (And.intro rfl rfl)
theorem mX7_requirePiece_r {D : va_G} {U : zz_U} {ad : Nat → Nat} {X : va_W} (σ : zz_St) (piece_ : Int32) (x : Unit) (hf : fX7_requirePiece σ piece_ = some (.inl x)) : zz_Met yX7_requirePiece (.code yX7_requirePiece cX7_requirePiece 2 none) 6 1 6 D U [.ref (ad 0), .int piece_] (zz_wc U ad σ X) (zz_ok none (zz_wc U ad σ X)) zz_noth := mX7_requirePiece σ piece_ (.inl x) hf
theorem mX7_requirePiece_x {D : va_G} {U : zz_U} {ad : Nat → Nat} {X : va_W} (σ : zz_St) (piece_ : Int32) (E : String) (hf : fX7_requirePiece σ piece_ = some (.inr E)) : zz_Met yX7_requirePiece (.code yX7_requirePiece cX7_requirePiece 2 none) 6 1 6 D U [.ref (ad 0), .int piece_] (zz_wc U ad σ X) zz_none (zz_th E (zz_wc U ad σ X)) := mX7_requirePiece σ piece_ (.inr E) hf
theorem dX7_requireSet_0 : decode cX7_requireSet 0 = .ok (.aload_n 0, 1) := by decide +kernel
theorem dX7_requireSet_1 : decode cX7_requireSet 1 = .ok (.iload_n 1, 1) := by decide +kernel
theorem dX7_requireSet_2 : decode cX7_requireSet 2 = .ok (.invokevirtual 136, 3) := by decide +kernel
theorem dX7_requireSet_5 : decode cX7_requireSet 5 = .ok (.iload_n 2, 1) := by decide +kernel
theorem dX7_requireSet_6 : decode cX7_requireSet 6 = .ok (.ifCond .lt 8, 3) := by decide +kernel
theorem dX7_requireSet_9 : decode cX7_requireSet 9 = .ok (.iload_n 2, 1) := by decide +kernel
theorem dX7_requireSet_10 : decode cX7_requireSet 10 = .ok (.iconst 4, 1) := by decide +kernel
theorem dX7_requireSet_11 : decode cX7_requireSet 11 = .ok (.if_icmp .lt 14, 3) := by decide +kernel
theorem dX7_requireSet_14 : decode cX7_requireSet 14 = .ok (.new 102, 3) := by decide +kernel
theorem dX7_requireSet_17 : decode cX7_requireSet 17 = .ok (.dup, 1) := by decide +kernel
theorem dX7_requireSet_18 : decode cX7_requireSet 18 = .ok (.ldc_w 302, 3) := by decide +kernel
theorem dX7_requireSet_21 : decode cX7_requireSet 21 = .ok (.invokespecial 106, 3) := by decide +kernel
theorem dX7_requireSet_24 : decode cX7_requireSet 24 = .ok (.athrow, 1) := by decide +kernel
theorem dX7_requireSet_25 : decode cX7_requireSet 25 = .ok (.return_, 1) := by decide +kernel
set_option maxHeartbeats 4000000 in
set_option maxRecDepth 100000 in
theorem mX7_requireSet {D : va_G} {U : zz_U} {ad : Nat → Nat} {X : va_W} (σ : zz_St) (piece_ : Int32) (what_ : Int32) (r : (Unit ⊕ String)) (hf : fX7_requireSet σ piece_ what_ = some r) : zz_Met yX7_requireSet (.code yX7_requireSet cX7_requireSet 3 none) 7 2 12 D U [.ref (ad 0), .int piece_, .int what_] (zz_wc U ad σ X) (match r with | .inl _ => zz_ok none (zz_wc U ad σ X) | .inr _ => zz_none) (match r with | .inl _ => zz_noth | .inr E => zz_th E (zz_wc U ad σ X)) := by
  unfold fX7_requireSet at hf
  refine zz_method RX7 rfl (by decide +kernel) (Nat.le_of_ble_eq_true rfl) ?_
  intro p l e s m args below meth c A _ C
  refine zz_lvs (lv1 := [(0, .ref (ad 0)), (1, .int piece_), (2, .int what_)]) rfl ?_
  refine zz_aload_n C 0 dX7_requireSet_0 rfl rfl ?_
  refine zz_iload_n C 1 dX7_requireSet_1 rfl rfl ?_
  obtain ⟨x1, h2, hf⟩ := zz_bind hf
  rcases x1 with x1 | E3
  · refine zz_callV1 (As := [.int piece_]) (rest := []) C 0 (mX7_requirePiece_r σ piece_ x1 h2) dX7_requireSet_2 rfl rfl rfl zw_14 zy_X7_requirePiece rfl (by decide) (by decide) (Nat.le_of_ble_eq_true rfl) (Nat.le_of_ble_eq_true rfl) (Nat.le_of_ble_eq_true rfl) rfl ?_
    obtain ⟨b4, h5, hf⟩ := zz_bind hf
    refine zz_cutI (P := b4 = true) 14 [(0, .ref (ad 0)), (1, .int piece_), (2, .int what_)] [] (zz_wc U ad σ X) (fun g8 => ?_) (fun J6 => ?_)
    · rw [if_pos g8] at hf
      cases hf
      exact zz_throwSW (cls := "java/lang/IndexOutOfBoundsException") (text := "no such set of names of a piece") C zt_2 (by decide +kernel) dX7_requireSet_14 dX7_requireSet_17 dX7_requireSet_18 dX7_requireSet_21 dX7_requireSet_24 (by decide) (Nat.le_of_ble_eq_true rfl) (Nat.le_of_ble_eq_true rfl) (Nat.le_of_ble_eq_true rfl) (Nat.le_of_ble_eq_true rfl) (Nat.le_of_ble_eq_true rfl) (And.intro rfl rfl)
    refine zz_cutI (P := b4 = false) 25 [(0, .ref (ad 0)), (1, .int piece_), (2, .int what_)] [] (zz_wc U ad σ X) (fun g8 => ?_) (fun J7 => ?_)
    · rw [if_neg (show ¬ b4 = true by rw [g8]; decide)] at hf
      cases hf
      exact zz_vret C dX7_requireSet_25 (And.intro rfl rfl) (Nat.le_of_ble_eq_true rfl) (Nat.le_of_ble_eq_true rfl)
    refine zz_iload_n C 2 dX7_requireSet_5 rfl rfl ?_
    refine zz_if_lt (tgt := 14) C dX7_requireSet_6 (by decide) (fun g9 => ?_) (fun g9 => ?_)
    · rw [if_pos g9] at h5
      cases h5
      exact J6 rfl
    · rw [if_neg g9] at h5
      refine zz_iload_n C 2 dX7_requireSet_9 rfl rfl ?_
      refine zz_iconst (v := (4 : Int32)) C dX7_requireSet_10 (by decide) ?_
      refine zz_icmp_lt (tgt := 25) C dX7_requireSet_11 (by decide) (fun g10 => ?_) (fun g10 => ?_)
      · rw [if_pos g10] at h5
        cases h5
        exact J7 rfl
      · rw [if_neg g10] at h5
        cases h5
        exact J6 rfl
  · refine zz_callVx (As := [.int piece_]) (rest := []) C 0 (mX7_requirePiece_x σ piece_ E3 h2) dX7_requireSet_2 rfl rfl rfl zw_14 zy_X7_requirePiece rfl (by decide) (by decide) (Nat.le_of_ble_eq_true rfl) (Nat.le_of_ble_eq_true rfl) (Nat.le_of_ble_eq_true rfl) ?_
    cases hf
    exact zz_out C (And.intro rfl rfl) (Nat.le_of_ble_eq_true rfl) (Nat.le_of_ble_eq_true rfl)
theorem mX7_requireSet_r {D : va_G} {U : zz_U} {ad : Nat → Nat} {X : va_W} (σ : zz_St) (piece_ : Int32) (what_ : Int32) (x : Unit) (hf : fX7_requireSet σ piece_ what_ = some (.inl x)) : zz_Met yX7_requireSet (.code yX7_requireSet cX7_requireSet 3 none) 7 2 12 D U [.ref (ad 0), .int piece_, .int what_] (zz_wc U ad σ X) (zz_ok none (zz_wc U ad σ X)) zz_noth := mX7_requireSet σ piece_ what_ (.inl x) hf
theorem mX7_requireSet_x {D : va_G} {U : zz_U} {ad : Nat → Nat} {X : va_W} (σ : zz_St) (piece_ : Int32) (what_ : Int32) (E : String) (hf : fX7_requireSet σ piece_ what_ = some (.inr E)) : zz_Met yX7_requireSet (.code yX7_requireSet cX7_requireSet 3 none) 7 2 12 D U [.ref (ad 0), .int piece_, .int what_] (zz_wc U ad σ X) zz_none (zz_th E (zz_wc U ad σ X)) := mX7_requireSet σ piece_ what_ (.inr E) hf
theorem dX5_replaceNames_0 : decode cX5_replaceNames 0 = .ok (.aload_n 0, 1) := by decide +kernel
theorem dX5_replaceNames_1 : decode cX5_replaceNames 1 = .ok (.getfield 29, 3) := by decide +kernel
theorem dX5_replaceNames_4 : decode cX5_replaceNames 4 = .ok (.iload_n 2, 1) := by decide +kernel
theorem dX5_replaceNames_5 : decode cX5_replaceNames 5 = .ok (.aaload, 1) := by decide +kernel
theorem dX5_replaceNames_6 : decode cX5_replaceNames 6 = .ok (.iload_n 1, 1) := by decide +kernel
theorem dX5_replaceNames_7 : decode cX5_replaceNames 7 = .ok (.iaload, 1) := by decide +kernel
theorem dX5_replaceNames_8 : decode cX5_replaceNames 8 = .ok (.istore 4, 2) := by decide +kernel
theorem dX5_replaceNames_10 : decode cX5_replaceNames 10 = .ok (.aload_n 0, 1) := by decide +kernel
theorem dX5_replaceNames_11 : decode cX5_replaceNames 11 = .ok (.getfield 29, 3) := by decide +kernel
theorem dX5_replaceNames_14 : decode cX5_replaceNames 14 = .ok (.iload_n 2, 1) := by decide +kernel
theorem dX5_replaceNames_15 : decode cX5_replaceNames 15 = .ok (.aaload, 1) := by decide +kernel
theorem dX5_replaceNames_16 : decode cX5_replaceNames 16 = .ok (.iload_n 1, 1) := by decide +kernel
theorem dX5_replaceNames_17 : decode cX5_replaceNames 17 = .ok (.iload_n 3, 1) := by decide +kernel
theorem dX5_replaceNames_18 : decode cX5_replaceNames 18 = .ok (.iastore, 1) := by decide +kernel
theorem dX5_replaceNames_19 : decode cX5_replaceNames 19 = .ok (.iconst 0, 1) := by decide +kernel
theorem dX5_replaceNames_20 : decode cX5_replaceNames 20 = .ok (.istore 5, 2) := by decide +kernel
theorem dX5_replaceNames_22 : decode cX5_replaceNames 22 = .ok (.iload 5, 2) := by decide +kernel
theorem dX5_replaceNames_24 : decode cX5_replaceNames 24 = .ok (.bipush 16, 2) := by decide +kernel
theorem dX5_replaceNames_26 : decode cX5_replaceNames 26 = .ok (.if_icmp .ge 46, 3) := by decide +kernel
theorem dX5_replaceNames_29 : decode cX5_replaceNames 29 = .ok (.aload_n 0, 1) := by decide +kernel
theorem dX5_replaceNames_30 : decode cX5_replaceNames 30 = .ok (.getfield 32, 3) := by decide +kernel
theorem dX5_replaceNames_33 : decode cX5_replaceNames 33 = .ok (.iload_n 2, 1) := by decide +kernel
theorem dX5_replaceNames_34 : decode cX5_replaceNames 34 = .ok (.aaload, 1) := by decide +kernel
theorem dX5_replaceNames_35 : decode cX5_replaceNames 35 = .ok (.iload 5, 2) := by decide +kernel
theorem dX5_replaceNames_37 : decode cX5_replaceNames 37 = .ok (.iaload, 1) := by decide +kernel
theorem dX5_replaceNames_38 : decode cX5_replaceNames 38 = .ok (.iconst 1, 1) := by decide +kernel
theorem dX5_replaceNames_39 : decode cX5_replaceNames 39 = .ok (.iload_n 1, 1) := by decide +kernel
theorem dX5_replaceNames_40 : decode cX5_replaceNames 40 = .ok (.ishl, 1) := by decide +kernel
theorem dX5_replaceNames_41 : decode cX5_replaceNames 41 = .ok (.iconst (-1), 1) := by decide +kernel
theorem dX5_replaceNames_42 : decode cX5_replaceNames 42 = .ok (.ixor, 1) := by decide +kernel
theorem dX5_replaceNames_43 : decode cX5_replaceNames 43 = .ok (.iand, 1) := by decide +kernel
theorem dX5_replaceNames_44 : decode cX5_replaceNames 44 = .ok (.istore 6, 2) := by decide +kernel
theorem dX5_replaceNames_46 : decode cX5_replaceNames 46 = .ok (.aload_n 0, 1) := by decide +kernel
theorem dX5_replaceNames_47 : decode cX5_replaceNames 47 = .ok (.getfield 32, 3) := by decide +kernel
theorem dX5_replaceNames_50 : decode cX5_replaceNames 50 = .ok (.iload_n 2, 1) := by decide +kernel
theorem dX5_replaceNames_51 : decode cX5_replaceNames 51 = .ok (.aaload, 1) := by decide +kernel
theorem dX5_replaceNames_52 : decode cX5_replaceNames 52 = .ok (.iload 5, 2) := by decide +kernel
theorem dX5_replaceNames_54 : decode cX5_replaceNames 54 = .ok (.iload 6, 2) := by decide +kernel
theorem dX5_replaceNames_56 : decode cX5_replaceNames 56 = .ok (.iload_n 3, 1) := by decide +kernel
theorem dX5_replaceNames_57 : decode cX5_replaceNames 57 = .ok (.iload 5, 2) := by decide +kernel
theorem dX5_replaceNames_59 : decode cX5_replaceNames 59 = .ok (.ishr, 1) := by decide +kernel
theorem dX5_replaceNames_60 : decode cX5_replaceNames 60 = .ok (.iconst 1, 1) := by decide +kernel
theorem dX5_replaceNames_61 : decode cX5_replaceNames 61 = .ok (.iand, 1) := by decide +kernel
theorem dX5_replaceNames_62 : decode cX5_replaceNames 62 = .ok (.iload_n 1, 1) := by decide +kernel
theorem dX5_replaceNames_63 : decode cX5_replaceNames 63 = .ok (.ishl, 1) := by decide +kernel
theorem dX5_replaceNames_64 : decode cX5_replaceNames 64 = .ok (.ior, 1) := by decide +kernel
theorem dX5_replaceNames_65 : decode cX5_replaceNames 65 = .ok (.iastore, 1) := by decide +kernel
theorem dX5_replaceNames_66 : decode cX5_replaceNames 66 = .ok (.iinc 5 1, 3) := by decide +kernel
theorem dX5_replaceNames_69 : decode cX5_replaceNames 69 = .ok (.goto (-47), 3) := by decide +kernel
theorem dX5_replaceNames_72 : decode cX5_replaceNames 72 = .ok (.iload 4, 2) := by decide +kernel
theorem dX5_replaceNames_74 : decode cX5_replaceNames 74 = .ok (.ireturn, 1) := by decide +kernel
set_option maxHeartbeats 4000000 in
set_option maxRecDepth 100000 in
theorem mX5_replaceNames_L1 {p : Program} {l : Launch} {e : Env} {R : Room} {s : State} {m : MethodId} {args : Array Value} {below : List Frame} {meth : Method} {c : Code} {Q : State → Prop} {D : va_G} {U : zz_U} {A : Nat → Prop} {cells slots : Nat} {ad : Nat → Nat} {X : va_W} (C : zz_C p l R s m meth c D U A RX5 cX5_replaceNames 7 (some .int) [] 0) (hcR : cells ≤ R.cells) (hsR : slots ≤ R.slots) (piece_ : Int32) (what_ : Int32) (names_ : Int32) (before_ : Int32) : ∀ (n : Nat) (name_ : Int32) (σ : zz_St) (q : (Int32 × zz_St)), fX5_replaceNames_L1 piece_ what_ names_ before_ n name_ σ = some q → (zz_Z p l e R s m args below meth c Q D A 7 cells slots (zz_wc U ad q.2 X) 72 [(0, .ref (ad 1)), (1, .int piece_), (2, .int what_), (3, .int names_), (4, .int before_), (5, .int q.1)] []) → zz_Z p l e R s m args below meth c Q D A 7 cells slots (zz_wc U ad σ X) 22 [(0, .ref (ad 1)), (1, .int piece_), (2, .int what_), (3, .int names_), (4, .int before_), (5, .int name_)] [] := by
  intro n
  induction n with
  | zero => intro name_ σ q hf; rw [fX5_replaceNames_L1] at hf; cases hf
  | succ n ih =>
    intro name_ σ q hf kx
    rw [fX5_replaceNames_L1] at hf
    refine zz_iload C 5 dX5_replaceNames_22 rfl ?_
    refine zz_bipush (v := (16 : Int32)) C dX5_replaceNames_24 (by decide) ?_
    refine zz_icmp_ge (tgt := 72) C dX5_replaceNames_26 (by decide) (fun g9 => ?_) (fun g9 => ?_)
    · rw [if_pos g9] at hf
      cases hf
      exact kx
    · rw [if_neg g9] at hf
      refine zz_aload_n C 0 dX5_replaceNames_29 rfl rfl ?_
      refine zf5_piecesWith C dX5_replaceNames_30 zw_16 ?_
      refine zz_iload_n C 2 dX5_replaceNames_33 rfl rfl ?_
      obtain ⟨x10, h11, hf⟩ := zz_bind hf
      refine zr_12 C dX5_replaceNames_34 h11 ?_
      refine zz_iload C 5 dX5_replaceNames_35 rfl ?_
      obtain ⟨x12, h13, hf⟩ := zz_bind hf
      refine zl_12 C dX5_replaceNames_37 h11 h13 ?_
      refine zz_iconst (v := (1 : Int32)) C dX5_replaceNames_38 (by decide) ?_
      refine zz_iload_n C 1 dX5_replaceNames_39 rfl rfl ?_
      refine zz_ishl C dX5_replaceNames_40 ?_
      refine zz_iconst (v := (-1 : Int32)) C dX5_replaceNames_41 (by decide) ?_
      refine zz_ixor C dX5_replaceNames_42 ?_
      refine zz_iand C dX5_replaceNames_43 ?_
      obtain ⟨x14, h15, hf⟩ := zz_bind hf
      refine zz_topi (Option.some.inj h15) ?_
      refine zz_istore C dX5_replaceNames_44 (by decide) (lv' := [(6, .int x14), (0, .ref (ad 1)), (1, .int piece_), (2, .int what_), (3, .int names_), (4, .int before_), (5, .int name_)]) rfl ?_
      refine zz_aload_n C 1 dX5_replaceNames_46 rfl rfl ?_
      refine zf5_piecesWith C dX5_replaceNames_47 zw_16 ?_
      refine zz_iload_n C 3 dX5_replaceNames_50 rfl rfl ?_
      obtain ⟨x16, h17, hf⟩ := zz_bind hf
      refine zr_12 C dX5_replaceNames_51 h17 ?_
      refine zz_iload C 6 dX5_replaceNames_52 rfl ?_
      refine zz_iload C 0 dX5_replaceNames_54 rfl ?_
      refine zz_iload_n C 4 dX5_replaceNames_56 rfl rfl ?_
      refine zz_iload C 6 dX5_replaceNames_57 rfl ?_
      refine zz_ishr C dX5_replaceNames_59 ?_
      refine zz_iconst (v := (1 : Int32)) C dX5_replaceNames_60 (by decide) ?_
      refine zz_iand C dX5_replaceNames_61 ?_
      refine zz_iload_n C 2 dX5_replaceNames_62 rfl rfl ?_
      refine zz_ishl C dX5_replaceNames_63 ?_
      refine zz_ior C dX5_replaceNames_64 ?_
      obtain ⟨σ18, h19, hf⟩ := zz_bind hf
      refine zs_12 C dX5_replaceNames_65 h17 h19 ?_
      refine zz_iinc (v := (name_ + (1 : Int32))) C 6 dX5_replaceNames_66 rfl (by rfl) (by decide) (lv' := [(5, .int (name_ + (1 : Int32))), (6, .int x14), (0, .ref (ad 1)), (1, .int piece_), (2, .int what_), (3, .int names_), (4, .int before_)]) rfl ?_
      refine zz_goto (tgt := 22) C dX5_replaceNames_69 (by decide) ?_
      refine zz_sub [2, 3, 4, 5, 6, 0] rfl ?_
      exact ih (name_ + (1 : Int32)) σ18 _ hf kx
set_option maxHeartbeats 4000000 in
set_option maxRecDepth 100000 in
theorem mX5_replaceNames {D : va_G} {U : zz_U} {ad : Nat → Nat} {X : va_W} (σ : zz_St) (piece_ : Int32) (what_ : Int32) (names_ : Int32) (r : (Int32 × zz_St)) (hf : fX5_replaceNames σ piece_ what_ names_ = some r) : zz_Met yX5_replaceNames (.code yX5_replaceNames cX5_replaceNames 7 (some .int)) 0 0 0 D U [.ref (ad 1), .int piece_, .int what_, .int names_] (zz_wc U ad σ X) (zz_ok (some (.int r.1)) (zz_wc U ad r.2 X)) zz_noth := by
  unfold fX5_replaceNames at hf
  refine zz_method RX5 rfl (by decide +kernel) (Nat.le_of_ble_eq_true rfl) ?_
  intro p l e s m args below meth c A _ C
  refine zz_lvs (lv1 := [(0, .ref (ad 1)), (1, .int piece_), (2, .int what_), (3, .int names_)]) rfl ?_
  refine zz_aload_n C 0 dX5_replaceNames_0 rfl rfl ?_
  refine zf5_namesOf C dX5_replaceNames_1 zw_17 ?_
  refine zz_iload_n C 2 dX5_replaceNames_4 rfl rfl ?_
  obtain ⟨x1, h2, hf⟩ := zz_bind hf
  refine zr_7 C dX5_replaceNames_5 h2 ?_
  refine zz_iload_n C 1 dX5_replaceNames_6 rfl rfl ?_
  obtain ⟨x3, h4, hf⟩ := zz_bind hf
  refine zl_7 C dX5_replaceNames_7 h2 h4 ?_
  refine zz_istore C dX5_replaceNames_8 (by decide) (lv' := [(4, .int x3), (0, .ref (ad 1)), (1, .int piece_), (2, .int what_), (3, .int names_)]) rfl ?_
  refine zz_aload_n C 1 dX5_replaceNames_10 rfl rfl ?_
  refine zf5_namesOf C dX5_replaceNames_11 zw_17 ?_
  refine zz_iload_n C 3 dX5_replaceNames_14 rfl rfl ?_
  obtain ⟨x5, h6, hf⟩ := zz_bind hf
  refine zr_7 C dX5_replaceNames_15 h6 ?_
  refine zz_iload_n C 2 dX5_replaceNames_16 rfl rfl ?_
  refine zz_iload_n C 4 dX5_replaceNames_17 rfl rfl ?_
  obtain ⟨σ7, h8, hf⟩ := zz_bind hf
  refine zs_7 C dX5_replaceNames_18 h6 h8 ?_
  refine zz_iconst (v := (0 : Int32)) C dX5_replaceNames_19 (by decide) ?_
  refine zz_istore C dX5_replaceNames_20 (by decide) (lv' := [(5, .int (0 : Int32)), (4, .int x3), (0, .ref (ad 1)), (1, .int piece_), (2, .int what_), (3, .int names_)]) rfl ?_
  obtain ⟨q20, h21, hf⟩ := zz_bind hf
  refine zz_sub [2, 3, 4, 5, 1, 0] rfl ?_
  refine mX5_replaceNames_L1 C (Nat.le_of_ble_eq_true rfl) (Nat.le_of_ble_eq_true rfl) piece_ what_ names_ x3 1000 (0 : Int32) σ7 q20 h21 ?_
  refine zz_iload C 4 dX5_replaceNames_72 rfl ?_
  cases hf
  exact zz_iret C dX5_replaceNames_74 (And.intro rfl rfl) (Nat.le_of_ble_eq_true rfl) (Nat.le_of_ble_eq_true rfl)
theorem dX7_setNames_0 : decode cX7_setNames 0 = .ok (.aload_n 0, 1) := by decide +kernel
theorem dX7_setNames_1 : decode cX7_setNames 1 = .ok (.iload_n 1, 1) := by decide +kernel
theorem dX7_setNames_2 : decode cX7_setNames 2 = .ok (.iload_n 2, 1) := by decide +kernel
theorem dX7_setNames_3 : decode cX7_setNames 3 = .ok (.invokevirtual 87, 3) := by decide +kernel
theorem dX7_setNames_6 : decode cX7_setNames 6 = .ok (.iload_n 3, 1) := by decide +kernel
theorem dX7_setNames_7 : decode cX7_setNames 7 = .ok (.ldc 91, 2) := by decide +kernel
theorem dX7_setNames_9 : decode cX7_setNames 9 = .ok (.invokestatic 58, 3) := by decide +kernel
theorem dX7_setNames_12 : decode cX7_setNames 12 = .ok (.ifCond .ne 13, 3) := by decide +kernel
theorem dX7_setNames_15 : decode cX7_setNames 15 = .ok (.new 62, 3) := by decide +kernel
theorem dX7_setNames_18 : decode cX7_setNames 18 = .ok (.dup, 1) := by decide +kernel
theorem dX7_setNames_19 : decode cX7_setNames 19 = .ok (.ldc 92, 2) := by decide +kernel
theorem dX7_setNames_21 : decode cX7_setNames 21 = .ok (.invokespecial 66, 3) := by decide +kernel
theorem dX7_setNames_24 : decode cX7_setNames 24 = .ok (.athrow, 1) := by decide +kernel
theorem dX7_setNames_25 : decode cX7_setNames 25 = .ok (.aload_n 0, 1) := by decide +kernel
theorem dX7_setNames_26 : decode cX7_setNames 26 = .ok (.invokevirtual 80, 3) := by decide +kernel
theorem dX7_setNames_29 : decode cX7_setNames 29 = .ok (.aload_n 0, 1) := by decide +kernel
theorem dX7_setNames_30 : decode cX7_setNames 30 = .ok (.getfield 12, 3) := by decide +kernel
theorem dX7_setNames_33 : decode cX7_setNames 33 = .ok (.iload_n 1, 1) := by decide +kernel
theorem dX7_setNames_34 : decode cX7_setNames 34 = .ok (.iload_n 2, 1) := by decide +kernel
theorem dX7_setNames_35 : decode cX7_setNames 35 = .ok (.iload_n 3, 1) := by decide +kernel
theorem dX7_setNames_36 : decode cX7_setNames 36 = .ok (.invokevirtual 94, 3) := by decide +kernel
theorem dX7_setNames_39 : decode cX7_setNames 39 = .ok (.ireturn, 1) := by decide +kernel
set_option maxHeartbeats 4000000 in
set_option maxRecDepth 100000 in
theorem mX7_setNames {D : va_G} {U : zz_U} {ad : Nat → Nat} {X : va_W} (σ : zz_St) (piece_ : Int32) (what_ : Int32) (names_ : Int32) (r : ((Int32 ⊕ String) × zz_St)) (hf : fX7_setNames σ piece_ what_ names_ = some r) : zz_Met yX7_setNames (.code yX7_setNames cX7_setNames 4 (some .int)) 8 3 18 D U [.ref (ad 0), .int piece_, .int what_, .int names_] (zz_wc U ad σ X) (match r.1 with | .inl x => zz_ok (some (.int x)) (zz_wc U ad r.2 X) | .inr _ => zz_none) (match r.1 with | .inl _ => zz_noth | .inr E => zz_th E (zz_wc U ad r.2 X)) := by
  unfold fX7_setNames at hf
  refine zz_method RX7 rfl (by decide +kernel) (Nat.le_of_ble_eq_true rfl) ?_
  intro p l e s m args below meth c A _ C
  refine zz_lvs (lv1 := [(0, .ref (ad 0)), (1, .int piece_), (2, .int what_), (3, .int names_)]) rfl ?_
  refine zz_aload_n C 0 dX7_setNames_0 rfl rfl ?_
  refine zz_iload_n C 1 dX7_setNames_1 rfl rfl ?_
  refine zz_iload_n C 2 dX7_setNames_2 rfl rfl ?_
  obtain ⟨x1, h2, hf⟩ := zz_bind hf
  rcases x1 with x1 | E3
  · refine zz_callV1 (As := [.int piece_, .int what_]) (rest := []) C 0 (mX7_requireSet_r σ piece_ what_ x1 h2) dX7_setNames_3 rfl rfl rfl zw_19 zy_X7_requireSet rfl (by decide) (by decide) (Nat.le_of_ble_eq_true rfl) (Nat.le_of_ble_eq_true rfl) (Nat.le_of_ble_eq_true rfl) rfl ?_
    refine zz_iload_n C 3 dX7_setNames_6 rfl rfl ?_
    refine zz_ldc (v := (65535 : Int32)) C dX7_setNames_7 zw_15 ?_
    obtain ⟨x4, h5, hf⟩ := zz_bind hf
    refine zz_callS1 (As := [.int names_, .int (65535 : Int32)]) (rest := []) C (mX7_isUpTo σ names_ (65535 : Int32) x4 h5) dX7_setNames_9 rfl zw_0 zy_X7_isUpTo rfl (by decide) (by decide) (Nat.le_of_ble_eq_true rfl) (Nat.le_of_ble_eq_true rfl) (Nat.le_of_ble_eq_true rfl) rfl ?_
    refine zz_if_ne (tgt := 25) C dX7_setNames_12 (by decide) (fun g6 => ?_) (fun g6 => ?_)
    · rw [if_neg g6] at hf
      refine zz_aload_n C 0 dX7_setNames_25 rfl rfl ?_
      obtain ⟨x7, h8, hf⟩ := zz_bind hf
      refine zz_callV1 (As := []) (rest := []) C 0 (mX7_forgetResults σ x7 h8) dX7_setNames_26 rfl rfl rfl zw_11 zy_X7_forgetResults rfl (by decide) (by decide) (Nat.le_of_ble_eq_true rfl) (Nat.le_of_ble_eq_true rfl) (Nat.le_of_ble_eq_true rfl) rfl ?_
      refine zz_aload_n C 0 dX7_setNames_29 rfl rfl ?_
      refine zf7_pieces C dX7_setNames_30 zw_10 ?_
      refine zz_iload_n C 1 dX7_setNames_33 rfl rfl ?_
      refine zz_iload_n C 2 dX7_setNames_34 rfl rfl ?_
      refine zz_iload_n C 3 dX7_setNames_35 rfl rfl ?_
      obtain ⟨x9, h10, hf⟩ := zz_bind hf
      refine zz_callV1 (As := [.int piece_, .int what_, .int names_]) (rest := []) C 1 (mX5_replaceNames x7 piece_ what_ names_ x9 h10) dX7_setNames_36 rfl rfl rfl zw_18 zy_X5_replaceNames rfl (by decide) (by decide) (Nat.le_of_ble_eq_true rfl) (Nat.le_of_ble_eq_true rfl) (Nat.le_of_ble_eq_true rfl) rfl ?_
      cases hf
      exact zz_iret C dX7_setNames_39 (And.intro rfl rfl) (Nat.le_of_ble_eq_true rfl) (Nat.le_of_ble_eq_true rfl)
    · rw [if_pos g6] at hf
      cases hf
      exact zz_throwS (cls := "java/lang/IllegalArgumentException") (text := "no such set of names") C zt_0 (by decide +kernel) dX7_setNames_15 dX7_setNames_18 dX7_setNames_19 dX7_setNames_21 dX7_setNames_24 (by decide) (Nat.le_of_ble_eq_true rfl) (Nat.le_of_ble_eq_true rfl) (Nat.le_of_ble_eq_true rfl) (Nat.le_of_ble_eq_true rfl) (Nat.le_of_ble_eq_true rfl) (And.intro rfl rfl)
  · refine zz_callVx (As := [.int piece_, .int what_]) (rest := []) C 0 (mX7_requireSet_x σ piece_ what_ E3 h2) dX7_setNames_3 rfl rfl rfl zw_19 zy_X7_requireSet rfl (by decide) (by decide) (Nat.le_of_ble_eq_true rfl) (Nat.le_of_ble_eq_true rfl) (Nat.le_of_ble_eq_true rfl) ?_
    cases hf
    exact zz_out C (And.intro rfl rfl) (Nat.le_of_ble_eq_true rfl) (Nat.le_of_ble_eq_true rfl)
theorem mX7_setNames_r {D : va_G} {U : zz_U} {ad : Nat → Nat} {X : va_W} (σ : zz_St) (piece_ : Int32) (what_ : Int32) (names_ : Int32) (x : Int32) (σ1 : zz_St) (hf : fX7_setNames σ piece_ what_ names_ = some (.inl x, σ1)) : zz_Met yX7_setNames (.code yX7_setNames cX7_setNames 4 (some .int)) 8 3 18 D U [.ref (ad 0), .int piece_, .int what_, .int names_] (zz_wc U ad σ X) (zz_ok (some (.int x)) (zz_wc U ad σ1 X)) zz_noth := mX7_setNames σ piece_ what_ names_ (.inl x, σ1) hf
theorem mX7_setNames_x {D : va_G} {U : zz_U} {ad : Nat → Nat} {X : va_W} (σ : zz_St) (piece_ : Int32) (what_ : Int32) (names_ : Int32) (x : String) (σ1 : zz_St) (hf : fX7_setNames σ piece_ what_ names_ = some (.inr x, σ1)) : zz_Met yX7_setNames (.code yX7_setNames cX7_setNames 4 (some .int)) 8 3 18 D U [.ref (ad 0), .int piece_, .int what_, .int names_] (zz_wc U ad σ X) zz_none (zz_th x (zz_wc U ad σ1 X)) := mX7_setNames σ piece_ what_ names_ (.inr x, σ1) hf
theorem dX7_isIn_0 : decode cX7_isIn 0 = .ok (.iload_n 1, 1) := by decide +kernel
theorem dX7_isIn_1 : decode cX7_isIn 1 = .ok (.iload_n 0, 1) := by decide +kernel
theorem dX7_isIn_2 : decode cX7_isIn 2 = .ok (.ishr, 1) := by decide +kernel
theorem dX7_isIn_3 : decode cX7_isIn 3 = .ok (.iconst 1, 1) := by decide +kernel
theorem dX7_isIn_4 : decode cX7_isIn 4 = .ok (.iand, 1) := by decide +kernel
theorem dX7_isIn_5 : decode cX7_isIn 5 = .ok (.iconst 1, 1) := by decide +kernel
theorem dX7_isIn_6 : decode cX7_isIn 6 = .ok (.if_icmp .ne 7, 3) := by decide +kernel
theorem dX7_isIn_9 : decode cX7_isIn 9 = .ok (.iconst 1, 1) := by decide +kernel
theorem dX7_isIn_10 : decode cX7_isIn 10 = .ok (.goto 4, 3) := by decide +kernel
theorem dX7_isIn_13 : decode cX7_isIn 13 = .ok (.iconst 0, 1) := by decide +kernel
theorem dX7_isIn_14 : decode cX7_isIn 14 = .ok (.ireturn, 1) := by decide +kernel
set_option maxHeartbeats 4000000 in
set_option maxRecDepth 100000 in
theorem mX7_isIn {D : va_G} {U : zz_U} {ad : Nat → Nat} {X : va_W} (σ : zz_St) (element_ : Int32) (set_ : Int32) (r : Int32) (hf : fX7_isIn σ element_ set_ = some r) : zz_Met yX7_isIn (.code yX7_isIn cX7_isIn 2 (some .boolean)) 0 0 0 D U [.int element_, .int set_] (zz_wc U ad σ X) (zz_ok (some (.int r)) (zz_wc U ad σ X)) zz_noth := by
  unfold fX7_isIn at hf
  refine zz_method RX7 rfl (by decide +kernel) (Nat.le_of_ble_eq_true rfl) ?_
  intro p l e s m args below meth c A _ C
  refine zz_lvs (lv1 := [(0, .int element_), (1, .int set_)]) rfl ?_
  obtain ⟨b1, h2, hf⟩ := zz_bind hf
  refine zz_cut 14 [(0, .int element_), (1, .int set_)] [.int (zz_bi b1)] (zz_wc U ad σ X) ?_ (fun J3 => ?_)
  · cases hf
    exact zz_zret C dX7_isIn_14 (zz_bi01 _) (And.intro rfl rfl) (Nat.le_of_ble_eq_true rfl) (Nat.le_of_ble_eq_true rfl)
  refine zz_iload_n C 1 dX7_isIn_0 rfl rfl ?_
  refine zz_iload_n C 0 dX7_isIn_1 rfl rfl ?_
  refine zz_ishr C dX7_isIn_2 ?_
  refine zz_iconst (v := (1 : Int32)) C dX7_isIn_3 (by decide) ?_
  refine zz_iand C dX7_isIn_4 ?_
  refine zz_iconst (v := (1 : Int32)) C dX7_isIn_5 (by decide) ?_
  refine zz_icmp_ne (tgt := 13) C dX7_isIn_6 (by decide) (fun g4 => ?_) (fun g4 => ?_)
  · rw [if_neg g4] at h2
    refine zz_iconst (v := 0) C dX7_isIn_13 (by decide) ?_
    cases h2
    exact J3
  · rw [if_pos g4] at h2
    refine zz_iconst (v := 1) C dX7_isIn_9 (by decide) ?_
    refine zz_goto (tgt := 14) C dX7_isIn_10 (by decide) ?_
    cases h2
    exact J3
theorem dX1_learn_0 : decode cX1_learn 0 = .ok (.iload_n 2, 1) := by decide +kernel
theorem dX1_learn_1 : decode cX1_learn 1 = .ok (.iload_n 1, 1) := by decide +kernel
theorem dX1_learn_2 : decode cX1_learn 2 = .ok (.aload_n 0, 1) := by decide +kernel
theorem dX1_learn_3 : decode cX1_learn 3 = .ok (.getfield 15, 3) := by decide +kernel
theorem dX1_learn_6 : decode cX1_learn 6 = .ok (.invokestatic 19, 3) := by decide +kernel
theorem dX1_learn_9 : decode cX1_learn 9 = .ok (.if_icmp .ne 13, 3) := by decide +kernel
theorem dX1_learn_12 : decode cX1_learn 12 = .ok (.iload_n 3, 1) := by decide +kernel
theorem dX1_learn_13 : decode cX1_learn 13 = .ok (.aload_n 0, 1) := by decide +kernel
theorem dX1_learn_14 : decode cX1_learn 14 = .ok (.getfield 9, 3) := by decide +kernel
theorem dX1_learn_17 : decode cX1_learn 17 = .ok (.iload_n 1, 1) := by decide +kernel
theorem dX1_learn_18 : decode cX1_learn 18 = .ok (.iaload, 1) := by decide +kernel
theorem dX1_learn_19 : decode cX1_learn 19 = .ok (.if_icmp .eq 7, 3) := by decide +kernel
theorem dX1_learn_22 : decode cX1_learn 22 = .ok (.iconst 1, 1) := by decide +kernel
theorem dX1_learn_23 : decode cX1_learn 23 = .ok (.goto 4, 3) := by decide +kernel
theorem dX1_learn_26 : decode cX1_learn 26 = .ok (.iconst 0, 1) := by decide +kernel
theorem dX1_learn_27 : decode cX1_learn 27 = .ok (.istore 4, 2) := by decide +kernel
theorem dX1_learn_29 : decode cX1_learn 29 = .ok (.aload_n 0, 1) := by decide +kernel
theorem dX1_learn_30 : decode cX1_learn 30 = .ok (.iload_n 2, 1) := by decide +kernel
theorem dX1_learn_31 : decode cX1_learn 31 = .ok (.ifCond .eq 14, 3) := by decide +kernel
theorem dX1_learn_34 : decode cX1_learn 34 = .ok (.aload_n 0, 1) := by decide +kernel
theorem dX1_learn_35 : decode cX1_learn 35 = .ok (.getfield 15, 3) := by decide +kernel
theorem dX1_learn_38 : decode cX1_learn 38 = .ok (.iconst 1, 1) := by decide +kernel
theorem dX1_learn_39 : decode cX1_learn 39 = .ok (.iload_n 1, 1) := by decide +kernel
theorem dX1_learn_40 : decode cX1_learn 40 = .ok (.ishl, 1) := by decide +kernel
theorem dX1_learn_41 : decode cX1_learn 41 = .ok (.ior, 1) := by decide +kernel
theorem dX1_learn_42 : decode cX1_learn 42 = .ok (.goto 13, 3) := by decide +kernel
theorem dX1_learn_45 : decode cX1_learn 45 = .ok (.aload_n 0, 1) := by decide +kernel
theorem dX1_learn_46 : decode cX1_learn 46 = .ok (.getfield 15, 3) := by decide +kernel
theorem dX1_learn_49 : decode cX1_learn 49 = .ok (.iconst 1, 1) := by decide +kernel
theorem dX1_learn_50 : decode cX1_learn 50 = .ok (.iload_n 1, 1) := by decide +kernel
theorem dX1_learn_51 : decode cX1_learn 51 = .ok (.ishl, 1) := by decide +kernel
theorem dX1_learn_52 : decode cX1_learn 52 = .ok (.iconst (-1), 1) := by decide +kernel
theorem dX1_learn_53 : decode cX1_learn 53 = .ok (.ixor, 1) := by decide +kernel
theorem dX1_learn_54 : decode cX1_learn 54 = .ok (.iand, 1) := by decide +kernel
theorem dX1_learn_55 : decode cX1_learn 55 = .ok (.putfield 15, 3) := by decide +kernel
theorem dX1_learn_58 : decode cX1_learn 58 = .ok (.aload_n 0, 1) := by decide +kernel
theorem dX1_learn_59 : decode cX1_learn 59 = .ok (.getfield 9, 3) := by decide +kernel
theorem dX1_learn_62 : decode cX1_learn 62 = .ok (.iload_n 1, 1) := by decide +kernel
theorem dX1_learn_63 : decode cX1_learn 63 = .ok (.iload_n 3, 1) := by decide +kernel
theorem dX1_learn_64 : decode cX1_learn 64 = .ok (.iastore, 1) := by decide +kernel
theorem dX1_learn_65 : decode cX1_learn 65 = .ok (.iload 4, 2) := by decide +kernel
theorem dX1_learn_67 : decode cX1_learn 67 = .ok (.ireturn, 1) := by decide +kernel
set_option maxHeartbeats 4000000 in
set_option maxRecDepth 100000 in
theorem mX1_learn {D : va_G} {U : zz_U} {ad : Nat → Nat} {X : va_W} (σ : zz_St) (name_ : Int32) (isDefined_ : Int32) (uses_ : Int32) (r : (Int32 × zz_St)) (hf : fX1_learn σ name_ isDefined_ uses_ = some r) : zz_Met yX1_learn (.code yX1_learn cX1_learn 5 (some .boolean)) 1 0 0 D U [.ref (ad 17), .int name_, .int isDefined_, .int uses_] (zz_wc U ad σ X) (zz_ok (some (.int r.1)) (zz_wc U ad r.2 X)) zz_noth := by
  unfold fX1_learn at hf
  refine zz_method RX1 rfl (by decide +kernel) (Nat.le_of_ble_eq_true rfl) ?_
  intro p l e s m args below meth c A _ C
  refine zz_lvs (lv1 := [(0, .ref (ad 17)), (1, .int name_), (2, .int isDefined_), (3, .int uses_)]) rfl ?_
  obtain ⟨b1, h2, hf⟩ := zz_bind hf
  refine zz_cut 27 [(0, .ref (ad 17)), (1, .int name_), (2, .int isDefined_), (3, .int uses_)] [.int (zz_bi b1)] (zz_wc U ad σ X) ?_ (fun J3 => ?_)
  · obtain ⟨x10, h11, hf⟩ := zz_bind hf
    refine zz_topi (Option.some.inj h11) ?_
    refine zz_istore C dX1_learn_27 (by decide) (lv' := [(4, .int x10), (0, .ref (ad 17)), (1, .int name_), (2, .int isDefined_), (3, .int uses_)]) rfl ?_
    refine zz_aload_n C 1 dX1_learn_29 rfl rfl ?_
    obtain ⟨x12, h13, hf⟩ := zz_bind hf
    refine zz_cut 55 [(4, .int x10), (0, .ref (ad 17)), (1, .int name_), (2, .int isDefined_), (3, .int uses_)] [.int x12, .ref (ad 17)] (zz_wc U ad σ X) ?_ (fun J14 => ?_)
    · refine zp1_definedNames C dX1_learn_55 zw_21 ?_
      refine zz_aload_n C 1 dX1_learn_58 rfl rfl ?_
      refine zf1_otherUses C dX1_learn_59 zw_20 ?_
      refine zz_iload_n C 2 dX1_learn_62 rfl rfl ?_
      refine zz_iload_n C 4 dX1_learn_63 rfl rfl ?_
      obtain ⟨σ16, h17, hf⟩ := zz_bind hf
      refine zs_18 C dX1_learn_64 h17 ?_
      refine zz_iload C 0 dX1_learn_65 rfl ?_
      obtain ⟨x18, h19, hf⟩ := zz_bind hf
      refine zz_topi (zz_bo_in h19).2 ?_
      cases hf
      exact zz_zret C dX1_learn_67 (by rw [← (zz_bo_in h19).2]; exact (zz_bo_in h19).1) (And.intro rfl rfl) (Nat.le_of_ble_eq_true rfl) (Nat.le_of_ble_eq_true rfl)
    refine zz_iload_n C 3 dX1_learn_30 rfl rfl ?_
    refine zz_if_eq (tgt := 45) C dX1_learn_31 (by decide) (fun g15 => ?_) (fun g15 => ?_)
    · rw [if_pos g15] at h13
      refine zz_aload_n C 1 dX1_learn_45 rfl rfl ?_
      refine zf1_definedNames C dX1_learn_46 zw_21 ?_
      refine zz_iconst (v := (1 : Int32)) C dX1_learn_49 (by decide) ?_
      refine zz_iload_n C 2 dX1_learn_50 rfl rfl ?_
      refine zz_ishl C dX1_learn_51 ?_
      refine zz_iconst (v := (-1 : Int32)) C dX1_learn_52 (by decide) ?_
      refine zz_ixor C dX1_learn_53 ?_
      refine zz_iand C dX1_learn_54 ?_
      cases h13
      exact J14
    · rw [if_neg g15] at h13
      refine zz_aload_n C 1 dX1_learn_34 rfl rfl ?_
      refine zf1_definedNames C dX1_learn_35 zw_21 ?_
      refine zz_iconst (v := (1 : Int32)) C dX1_learn_38 (by decide) ?_
      refine zz_iload_n C 2 dX1_learn_39 rfl rfl ?_
      refine zz_ishl C dX1_learn_40 ?_
      refine zz_ior C dX1_learn_41 ?_
      refine zz_goto (tgt := 55) C dX1_learn_42 (by decide) ?_
      cases h13
      exact J14
  refine zz_iload_n C 2 dX1_learn_0 rfl rfl ?_
  refine zz_iload_n C 1 dX1_learn_1 rfl rfl ?_
  refine zz_aload_n C 0 dX1_learn_2 rfl rfl ?_
  refine zf1_definedNames C dX1_learn_3 zw_21 ?_
  obtain ⟨x4, h5, h2⟩ := zz_bind h2
  refine zz_callSN1 (host := "ChangeUntangler") (As := [.int name_, .int (σ 17 0)]) (rest := [.int isDefined_]) C (mX7_isIn σ name_ (σ 17 0) x4 h5) dX1_learn_6 rfl (by decide +kernel) zy_X7_isIn rfl (by decide) (by decide) (Nat.le_of_ble_eq_true rfl) (Nat.le_of_ble_eq_true rfl) (Nat.le_of_ble_eq_true rfl) rfl ?_
  refine zz_icmp_ne (tgt := 22) C dX1_learn_9 (by decide) (fun g6 => ?_) (fun g6 => ?_)
  · rw [if_neg g6] at h2
    refine zz_iconst (v := 1) C dX1_learn_22 (by decide) ?_
    refine zz_goto (tgt := 27) C dX1_learn_23 (by decide) ?_
    cases h2
    exact J3
  · rw [if_pos g6] at h2
    refine zz_iload_n C 3 dX1_learn_12 rfl rfl ?_
    refine zz_aload_n C 0 dX1_learn_13 rfl rfl ?_
    refine zf1_otherUses C dX1_learn_14 zw_20 ?_
    refine zz_iload_n C 1 dX1_learn_17 rfl rfl ?_
    obtain ⟨x7, h8, h2⟩ := zz_bind h2
    refine zl_18 C dX1_learn_18 h8 ?_
    refine zz_icmp_eq (tgt := 26) C dX1_learn_19 (by decide) (fun g9 => ?_) (fun g9 => ?_)
    · rw [if_pos g9] at h2
      refine zz_iconst (v := 0) C dX1_learn_26 (by decide) ?_
      cases h2
      exact J3
    · rw [if_neg g9] at h2
      refine zz_iconst (v := 1) C dX1_learn_22 (by decide) ?_
      refine zz_goto (tgt := 27) C dX1_learn_23 (by decide) ?_
      cases h2
      exact J3
theorem dX7_setName_0 : decode cX7_setName 0 = .ok (.iload_n 1, 1) := by decide +kernel
theorem dX7_setName_1 : decode cX7_setName 1 = .ok (.ifCond .lt 9, 3) := by decide +kernel
theorem dX7_setName_4 : decode cX7_setName 4 = .ok (.iload_n 1, 1) := by decide +kernel
theorem dX7_setName_5 : decode cX7_setName 5 = .ok (.bipush 16, 2) := by decide +kernel
theorem dX7_setName_7 : decode cX7_setName 7 = .ok (.if_icmp .lt 13, 3) := by decide +kernel
theorem dX7_setName_10 : decode cX7_setName 10 = .ok (.new 102, 3) := by decide +kernel
theorem dX7_setName_13 : decode cX7_setName 13 = .ok (.dup, 1) := by decide +kernel
theorem dX7_setName_14 : decode cX7_setName 14 = .ok (.ldc 104, 2) := by decide +kernel
theorem dX7_setName_16 : decode cX7_setName 16 = .ok (.invokespecial 106, 3) := by decide +kernel
theorem dX7_setName_19 : decode cX7_setName 19 = .ok (.athrow, 1) := by decide +kernel
theorem dX7_setName_20 : decode cX7_setName 20 = .ok (.iload_n 3, 1) := by decide +kernel
theorem dX7_setName_21 : decode cX7_setName 21 = .ok (.bipush 9, 2) := by decide +kernel
theorem dX7_setName_23 : decode cX7_setName 23 = .ok (.invokestatic 58, 3) := by decide +kernel
theorem dX7_setName_26 : decode cX7_setName 26 = .ok (.ifCond .ne 13, 3) := by decide +kernel
theorem dX7_setName_29 : decode cX7_setName 29 = .ok (.new 62, 3) := by decide +kernel
theorem dX7_setName_32 : decode cX7_setName 32 = .ok (.dup, 1) := by decide +kernel
theorem dX7_setName_33 : decode cX7_setName 33 = .ok (.ldc 107, 2) := by decide +kernel
theorem dX7_setName_35 : decode cX7_setName 35 = .ok (.invokespecial 66, 3) := by decide +kernel
theorem dX7_setName_38 : decode cX7_setName 38 = .ok (.athrow, 1) := by decide +kernel
theorem dX7_setName_39 : decode cX7_setName 39 = .ok (.aload_n 0, 1) := by decide +kernel
theorem dX7_setName_40 : decode cX7_setName 40 = .ok (.invokevirtual 80, 3) := by decide +kernel
theorem dX7_setName_43 : decode cX7_setName 43 = .ok (.aload_n 0, 1) := by decide +kernel
theorem dX7_setName_44 : decode cX7_setName 44 = .ok (.getfield 19, 3) := by decide +kernel
theorem dX7_setName_47 : decode cX7_setName 47 = .ok (.iload_n 1, 1) := by decide +kernel
theorem dX7_setName_48 : decode cX7_setName 48 = .ok (.iload_n 2, 1) := by decide +kernel
theorem dX7_setName_49 : decode cX7_setName 49 = .ok (.iload_n 3, 1) := by decide +kernel
theorem dX7_setName_50 : decode cX7_setName 50 = .ok (.invokevirtual 109, 3) := by decide +kernel
theorem dX7_setName_53 : decode cX7_setName 53 = .ok (.ireturn, 1) := by decide +kernel
set_option maxHeartbeats 4000000 in
set_option maxRecDepth 100000 in
theorem mX7_setName {D : va_G} {U : zz_U} {ad : Nat → Nat} {X : va_W} (σ : zz_St) (name_ : Int32) (isDefined_ : Int32) (uses_ : Int32) (r : ((Int32 ⊕ String) × zz_St)) (hf : fX7_setName σ name_ isDefined_ uses_ = some r) : zz_Met yX7_setName (.code yX7_setName cX7_setName 4 (some .boolean)) 6 1 6 D U [.ref (ad 0), .int name_, .int isDefined_, .int uses_] (zz_wc U ad σ X) (match r.1 with | .inl x => zz_ok (some (.int x)) (zz_wc U ad r.2 X) | .inr _ => zz_none) (match r.1 with | .inl _ => zz_noth | .inr E => zz_th E (zz_wc U ad r.2 X)) := by
  unfold fX7_setName at hf
  refine zz_method RX7 rfl (by decide +kernel) (Nat.le_of_ble_eq_true rfl) ?_
  intro p l e s m args below meth c A _ C
  refine zz_lvs (lv1 := [(0, .ref (ad 0)), (1, .int name_), (2, .int isDefined_), (3, .int uses_)]) rfl ?_
  obtain ⟨b1, h2, hf⟩ := zz_bind hf
  refine zz_cutI (P := b1 = true) 10 [(0, .ref (ad 0)), (1, .int name_), (2, .int isDefined_), (3, .int uses_)] [] (zz_wc U ad σ X) (fun g5 => ?_) (fun J3 => ?_)
  · rw [if_pos g5] at hf
    cases hf
    exact zz_throwS (cls := "java/lang/IndexOutOfBoundsException") (text := "no such name") C zt_2 (by decide +kernel) dX7_setName_10 dX7_setName_13 dX7_setName_14 dX7_setName_16 dX7_setName_19 (by decide) (Nat.le_of_ble_eq_true rfl) (Nat.le_of_ble_eq_true rfl) (Nat.le_of_ble_eq_true rfl) (Nat.le_of_ble_eq_true rfl) (Nat.le_of_ble_eq_true rfl) (And.intro rfl rfl)
  refine zz_cutI (P := b1 = false) 20 [(0, .ref (ad 0)), (1, .int name_), (2, .int isDefined_), (3, .int uses_)] [] (zz_wc U ad σ X) (fun g5 => ?_) (fun J4 => ?_)
  · rw [if_neg (show ¬ b1 = true by rw [g5]; decide)] at hf
    refine zz_iload_n C 3 dX7_setName_20 rfl rfl ?_
    refine zz_bipush (v := (9 : Int32)) C dX7_setName_21 (by decide) ?_
    obtain ⟨x8, h9, hf⟩ := zz_bind hf
    refine zz_callS1 (As := [.int uses_, .int (9 : Int32)]) (rest := []) C (mX7_isUpTo σ uses_ (9 : Int32) x8 h9) dX7_setName_23 rfl zw_0 zy_X7_isUpTo rfl (by decide) (by decide) (Nat.le_of_ble_eq_true rfl) (Nat.le_of_ble_eq_true rfl) (Nat.le_of_ble_eq_true rfl) rfl ?_
    refine zz_if_ne (tgt := 39) C dX7_setName_26 (by decide) (fun g10 => ?_) (fun g10 => ?_)
    · rw [if_neg g10] at hf
      refine zz_aload_n C 0 dX7_setName_39 rfl rfl ?_
      obtain ⟨x11, h12, hf⟩ := zz_bind hf
      refine zz_callV1 (As := []) (rest := []) C 0 (mX7_forgetResults σ x11 h12) dX7_setName_40 rfl rfl rfl zw_11 zy_X7_forgetResults rfl (by decide) (by decide) (Nat.le_of_ble_eq_true rfl) (Nat.le_of_ble_eq_true rfl) (Nat.le_of_ble_eq_true rfl) rfl ?_
      refine zz_aload_n C 0 dX7_setName_43 rfl rfl ?_
      refine zf7_code C dX7_setName_44 zw_23 ?_
      refine zz_iload_n C 1 dX7_setName_47 rfl rfl ?_
      refine zz_iload_n C 2 dX7_setName_48 rfl rfl ?_
      refine zz_iload_n C 3 dX7_setName_49 rfl rfl ?_
      obtain ⟨x13, h14, hf⟩ := zz_bind hf
      refine zz_callV1 (As := [.int name_, .int isDefined_, .int uses_]) (rest := []) C 17 (mX1_learn x11 name_ isDefined_ uses_ x13 h14) dX7_setName_50 rfl rfl rfl zw_22 zy_X1_learn rfl (by decide) (by decide) (Nat.le_of_ble_eq_true rfl) (Nat.le_of_ble_eq_true rfl) (Nat.le_of_ble_eq_true rfl) rfl ?_
      obtain ⟨x15, h16, hf⟩ := zz_bind hf
      refine zz_topi (zz_bo_in h16).2 ?_
      cases hf
      exact zz_zret C dX7_setName_53 (by rw [← (zz_bo_in h16).2]; exact (zz_bo_in h16).1) (And.intro rfl rfl) (Nat.le_of_ble_eq_true rfl) (Nat.le_of_ble_eq_true rfl)
    · rw [if_pos g10] at hf
      cases hf
      exact zz_throwS (cls := "java/lang/IllegalArgumentException") (text := "no such number of uses") C zt_0 (by decide +kernel) dX7_setName_29 dX7_setName_32 dX7_setName_33 dX7_setName_35 dX7_setName_38 (by decide) (Nat.le_of_ble_eq_true rfl) (Nat.le_of_ble_eq_true rfl) (Nat.le_of_ble_eq_true rfl) (Nat.le_of_ble_eq_true rfl) (Nat.le_of_ble_eq_true rfl) (And.intro rfl rfl)
  refine zz_iload_n C 1 dX7_setName_0 rfl rfl ?_
  refine zz_if_lt (tgt := 10) C dX7_setName_1 (by decide) (fun g6 => ?_) (fun g6 => ?_)
  · rw [if_pos g6] at h2
    cases h2
    exact J3 rfl
  · rw [if_neg g6] at h2
    refine zz_iload_n C 1 dX7_setName_4 rfl rfl ?_
    refine zz_bipush (v := (16 : Int32)) C dX7_setName_5 (by decide) ?_
    refine zz_icmp_lt (tgt := 20) C dX7_setName_7 (by decide) (fun g7 => ?_) (fun g7 => ?_)
    · rw [if_pos g7] at h2
      cases h2
      exact J4 rfl
    · rw [if_neg g7] at h2
      cases h2
      exact J3 rfl
theorem mX7_setName_r {D : va_G} {U : zz_U} {ad : Nat → Nat} {X : va_W} (σ : zz_St) (name_ : Int32) (isDefined_ : Int32) (uses_ : Int32) (x : Int32) (σ1 : zz_St) (hf : fX7_setName σ name_ isDefined_ uses_ = some (.inl x, σ1)) : zz_Met yX7_setName (.code yX7_setName cX7_setName 4 (some .boolean)) 6 1 6 D U [.ref (ad 0), .int name_, .int isDefined_, .int uses_] (zz_wc U ad σ X) (zz_ok (some (.int x)) (zz_wc U ad σ1 X)) zz_noth := mX7_setName σ name_ isDefined_ uses_ (.inl x, σ1) hf
theorem mX7_setName_x {D : va_G} {U : zz_U} {ad : Nat → Nat} {X : va_W} (σ : zz_St) (name_ : Int32) (isDefined_ : Int32) (uses_ : Int32) (x : String) (σ1 : zz_St) (hf : fX7_setName σ name_ isDefined_ uses_ = some (.inr x, σ1)) : zz_Met yX7_setName (.code yX7_setName cX7_setName 4 (some .boolean)) 6 1 6 D U [.ref (ad 0), .int name_, .int isDefined_, .int uses_] (zz_wc U ad σ X) zz_none (zz_th x (zz_wc U ad σ1 X)) := mX7_setName σ name_ isDefined_ uses_ (.inr x, σ1) hf
theorem dX7_pieceCount_0 : decode cX7_pieceCount 0 = .ok (.aload_n 0, 1) := by decide +kernel
theorem dX7_pieceCount_1 : decode cX7_pieceCount 1 = .ok (.getfield 12, 3) := by decide +kernel
theorem dX7_pieceCount_4 : decode cX7_pieceCount 4 = .ok (.getfield 71, 3) := by decide +kernel
theorem dX7_pieceCount_7 : decode cX7_pieceCount 7 = .ok (.ireturn, 1) := by decide +kernel
set_option maxHeartbeats 4000000 in
set_option maxRecDepth 100000 in
theorem mX7_pieceCount {D : va_G} {U : zz_U} {ad : Nat → Nat} {X : va_W} (σ : zz_St) (r : Int32) (hf : fX7_pieceCount σ = some r) : zz_Met yX7_pieceCount (.code yX7_pieceCount cX7_pieceCount 1 (some .int)) 0 0 0 D U [.ref (ad 0)] (zz_wc U ad σ X) (zz_ok (some (.int r)) (zz_wc U ad σ X)) zz_noth := by
  unfold fX7_pieceCount at hf
  refine zz_method RX7 rfl (by decide +kernel) (Nat.le_of_ble_eq_true rfl) ?_
  intro p l e s m args below meth c A _ C
  refine zz_lvs (lv1 := [(0, .ref (ad 0))]) rfl ?_
  refine zz_aload_n C 0 dX7_pieceCount_0 rfl rfl ?_
  refine zf7_pieces C dX7_pieceCount_1 zw_10 ?_
  refine zf5_count C dX7_pieceCount_4 zw_12 ?_
  cases hf
  exact zz_iret C dX7_pieceCount_7 (And.intro rfl rfl) (Nat.le_of_ble_eq_true rfl) (Nat.le_of_ble_eq_true rfl)
theorem dX7_setThreshold_0 : decode cX7_setThreshold 0 = .ok (.iload_n 1, 1) := by decide +kernel
theorem dX7_setThreshold_1 : decode cX7_setThreshold 1 = .ok (.iconst 1, 1) := by decide +kernel
theorem dX7_setThreshold_2 : decode cX7_setThreshold 2 = .ok (.if_icmp .lt 10, 3) := by decide +kernel
theorem dX7_setThreshold_5 : decode cX7_setThreshold 5 = .ok (.iload_n 1, 1) := by decide +kernel
theorem dX7_setThreshold_6 : decode cX7_setThreshold 6 = .ok (.sipush 999, 3) := by decide +kernel
theorem dX7_setThreshold_9 : decode cX7_setThreshold 9 = .ok (.if_icmp .le 13, 3) := by decide +kernel
theorem dX7_setThreshold_12 : decode cX7_setThreshold 12 = .ok (.new 62, 3) := by decide +kernel
theorem dX7_setThreshold_15 : decode cX7_setThreshold 15 = .ok (.dup, 1) := by decide +kernel
theorem dX7_setThreshold_16 : decode cX7_setThreshold 16 = .ok (.ldc 150, 2) := by decide +kernel
theorem dX7_setThreshold_18 : decode cX7_setThreshold 18 = .ok (.invokespecial 66, 3) := by decide +kernel
theorem dX7_setThreshold_21 : decode cX7_setThreshold 21 = .ok (.athrow, 1) := by decide +kernel
theorem dX7_setThreshold_22 : decode cX7_setThreshold 22 = .ok (.aload_n 0, 1) := by decide +kernel
theorem dX7_setThreshold_23 : decode cX7_setThreshold 23 = .ok (.invokevirtual 80, 3) := by decide +kernel
theorem dX7_setThreshold_26 : decode cX7_setThreshold 26 = .ok (.aload_n 0, 1) := by decide +kernel
theorem dX7_setThreshold_27 : decode cX7_setThreshold 27 = .ok (.getfield 40, 3) := by decide +kernel
theorem dX7_setThreshold_30 : decode cX7_setThreshold 30 = .ok (.getfield 152, 3) := by decide +kernel
theorem dX7_setThreshold_33 : decode cX7_setThreshold 33 = .ok (.istore_n 2, 1) := by decide +kernel
theorem dX7_setThreshold_34 : decode cX7_setThreshold 34 = .ok (.aload_n 0, 1) := by decide +kernel
theorem dX7_setThreshold_35 : decode cX7_setThreshold 35 = .ok (.getfield 40, 3) := by decide +kernel
theorem dX7_setThreshold_38 : decode cX7_setThreshold 38 = .ok (.iload_n 1, 1) := by decide +kernel
theorem dX7_setThreshold_39 : decode cX7_setThreshold 39 = .ok (.putfield 152, 3) := by decide +kernel
theorem dX7_setThreshold_42 : decode cX7_setThreshold 42 = .ok (.iload_n 2, 1) := by decide +kernel
theorem dX7_setThreshold_43 : decode cX7_setThreshold 43 = .ok (.ireturn, 1) := by decide +kernel
set_option maxHeartbeats 4000000 in
set_option maxRecDepth 100000 in
theorem mX7_setThreshold {D : va_G} {U : zz_U} {ad : Nat → Nat} {X : va_W} (σ : zz_St) (threshold_ : Int32) (r : ((Int32 ⊕ String) × zz_St)) (hf : fX7_setThreshold σ threshold_ = some r) : zz_Met yX7_setThreshold (.code yX7_setThreshold cX7_setThreshold 3 (some .int)) 6 1 6 D U [.ref (ad 0), .int threshold_] (zz_wc U ad σ X) (match r.1 with | .inl x => zz_ok (some (.int x)) (zz_wc U ad r.2 X) | .inr _ => zz_none) (match r.1 with | .inl _ => zz_noth | .inr E => zz_th E (zz_wc U ad r.2 X)) := by
  unfold fX7_setThreshold at hf
  refine zz_method RX7 rfl (by decide +kernel) (Nat.le_of_ble_eq_true rfl) ?_
  intro p l e s m args below meth c A _ C
  refine zz_lvs (lv1 := [(0, .ref (ad 0)), (1, .int threshold_)]) rfl ?_
  obtain ⟨b1, h2, hf⟩ := zz_bind hf
  refine zz_cutI (P := b1 = true) 12 [(0, .ref (ad 0)), (1, .int threshold_)] [] (zz_wc U ad σ X) (fun g5 => ?_) (fun J3 => ?_)
  · rw [if_pos g5] at hf
    cases hf
    exact zz_throwS (cls := "java/lang/IllegalArgumentException") (text := "no such threshold") C zt_0 (by decide +kernel) dX7_setThreshold_12 dX7_setThreshold_15 dX7_setThreshold_16 dX7_setThreshold_18 dX7_setThreshold_21 (by decide) (Nat.le_of_ble_eq_true rfl) (Nat.le_of_ble_eq_true rfl) (Nat.le_of_ble_eq_true rfl) (Nat.le_of_ble_eq_true rfl) (Nat.le_of_ble_eq_true rfl) (And.intro rfl rfl)
  refine zz_cutI (P := b1 = false) 22 [(0, .ref (ad 0)), (1, .int threshold_)] [] (zz_wc U ad σ X) (fun g5 => ?_) (fun J4 => ?_)
  · rw [if_neg (show ¬ b1 = true by rw [g5]; decide)] at hf
    refine zz_aload_n C 0 dX7_setThreshold_22 rfl rfl ?_
    obtain ⟨x8, h9, hf⟩ := zz_bind hf
    refine zz_callV1 (As := []) (rest := []) C 0 (mX7_forgetResults σ x8 h9) dX7_setThreshold_23 rfl rfl rfl zw_11 zy_X7_forgetResults rfl (by decide) (by decide) (Nat.le_of_ble_eq_true rfl) (Nat.le_of_ble_eq_true rfl) (Nat.le_of_ble_eq_true rfl) rfl ?_
    refine zz_aload_n C 0 dX7_setThreshold_26 rfl rfl ?_
    refine zf7_groups C dX7_setThreshold_27 zw_25 ?_
    refine zf3_threshold C dX7_setThreshold_30 zw_24 ?_
    obtain ⟨x10, h11, hf⟩ := zz_bind hf
    refine zz_topi (Option.some.inj h11) ?_
    refine zz_istore_n C dX7_setThreshold_33 rfl (by decide) (lv' := [(2, .int x10), (0, .ref (ad 0)), (1, .int threshold_)]) rfl ?_
    refine zz_aload_n C 1 dX7_setThreshold_34 rfl rfl ?_
    refine zf7_groups C dX7_setThreshold_35 zw_25 ?_
    refine zz_iload_n C 2 dX7_setThreshold_38 rfl rfl ?_
    refine zp3_threshold C dX7_setThreshold_39 zw_24 ?_
    refine zz_iload_n C 0 dX7_setThreshold_42 rfl rfl ?_
    cases hf
    exact zz_iret C dX7_setThreshold_43 (And.intro rfl rfl) (Nat.le_of_ble_eq_true rfl) (Nat.le_of_ble_eq_true rfl)
  refine zz_iload_n C 1 dX7_setThreshold_0 rfl rfl ?_
  refine zz_iconst (v := (1 : Int32)) C dX7_setThreshold_1 (by decide) ?_
  refine zz_icmp_lt (tgt := 12) C dX7_setThreshold_2 (by decide) (fun g6 => ?_) (fun g6 => ?_)
  · rw [if_pos g6] at h2
    cases h2
    exact J3 rfl
  · rw [if_neg g6] at h2
    refine zz_iload_n C 1 dX7_setThreshold_5 rfl rfl ?_
    refine zz_sipush (v := (999 : Int32)) C dX7_setThreshold_6 (by decide) ?_
    refine zz_icmp_le (tgt := 22) C dX7_setThreshold_9 (by decide) (fun g7 => ?_) (fun g7 => ?_)
    · rw [if_pos g7] at h2
      cases h2
      exact J4 rfl
    · rw [if_neg g7] at h2
      cases h2
      exact J3 rfl
theorem mX7_setThreshold_r {D : va_G} {U : zz_U} {ad : Nat → Nat} {X : va_W} (σ : zz_St) (threshold_ : Int32) (x : Int32) (σ1 : zz_St) (hf : fX7_setThreshold σ threshold_ = some (.inl x, σ1)) : zz_Met yX7_setThreshold (.code yX7_setThreshold cX7_setThreshold 3 (some .int)) 6 1 6 D U [.ref (ad 0), .int threshold_] (zz_wc U ad σ X) (zz_ok (some (.int x)) (zz_wc U ad σ1 X)) zz_noth := mX7_setThreshold σ threshold_ (.inl x, σ1) hf
theorem mX7_setThreshold_x {D : va_G} {U : zz_U} {ad : Nat → Nat} {X : va_W} (σ : zz_St) (threshold_ : Int32) (x : String) (σ1 : zz_St) (hf : fX7_setThreshold σ threshold_ = some (.inr x, σ1)) : zz_Met yX7_setThreshold (.code yX7_setThreshold cX7_setThreshold 3 (some .int)) 6 1 6 D U [.ref (ad 0), .int threshold_] (zz_wc U ad σ X) zz_none (zz_th x (zz_wc U ad σ1 X)) := mX7_setThreshold σ threshold_ (.inr x, σ1) hf
theorem dX7_setManner_0 : decode cX7_setManner 0 = .ok (.iload_n 1, 1) := by decide +kernel
theorem dX7_setManner_1 : decode cX7_setManner 1 = .ok (.iconst 2, 1) := by decide +kernel
theorem dX7_setManner_2 : decode cX7_setManner 2 = .ok (.invokestatic 58, 3) := by decide +kernel
theorem dX7_setManner_5 : decode cX7_setManner 5 = .ok (.ifCond .ne 13, 3) := by decide +kernel
theorem dX7_setManner_8 : decode cX7_setManner 8 = .ok (.new 62, 3) := by decide +kernel
theorem dX7_setManner_11 : decode cX7_setManner 11 = .ok (.dup, 1) := by decide +kernel
theorem dX7_setManner_12 : decode cX7_setManner 12 = .ok (.ldc 155, 2) := by decide +kernel
theorem dX7_setManner_14 : decode cX7_setManner 14 = .ok (.invokespecial 66, 3) := by decide +kernel
theorem dX7_setManner_17 : decode cX7_setManner 17 = .ok (.athrow, 1) := by decide +kernel
theorem dX7_setManner_18 : decode cX7_setManner 18 = .ok (.aload_n 0, 1) := by decide +kernel
theorem dX7_setManner_19 : decode cX7_setManner 19 = .ok (.invokevirtual 80, 3) := by decide +kernel
theorem dX7_setManner_22 : decode cX7_setManner 22 = .ok (.aload_n 0, 1) := by decide +kernel
theorem dX7_setManner_23 : decode cX7_setManner 23 = .ok (.getfield 40, 3) := by decide +kernel
theorem dX7_setManner_26 : decode cX7_setManner 26 = .ok (.getfield 157, 3) := by decide +kernel
theorem dX7_setManner_29 : decode cX7_setManner 29 = .ok (.istore_n 2, 1) := by decide +kernel
theorem dX7_setManner_30 : decode cX7_setManner 30 = .ok (.aload_n 0, 1) := by decide +kernel
theorem dX7_setManner_31 : decode cX7_setManner 31 = .ok (.getfield 40, 3) := by decide +kernel
theorem dX7_setManner_34 : decode cX7_setManner 34 = .ok (.iload_n 1, 1) := by decide +kernel
theorem dX7_setManner_35 : decode cX7_setManner 35 = .ok (.putfield 157, 3) := by decide +kernel
theorem dX7_setManner_38 : decode cX7_setManner 38 = .ok (.iload_n 2, 1) := by decide +kernel
theorem dX7_setManner_39 : decode cX7_setManner 39 = .ok (.ireturn, 1) := by decide +kernel
set_option maxHeartbeats 4000000 in
set_option maxRecDepth 100000 in
theorem mX7_setManner {D : va_G} {U : zz_U} {ad : Nat → Nat} {X : va_W} (σ : zz_St) (manner_ : Int32) (r : ((Int32 ⊕ String) × zz_St)) (hf : fX7_setManner σ manner_ = some r) : zz_Met yX7_setManner (.code yX7_setManner cX7_setManner 3 (some .int)) 6 1 6 D U [.ref (ad 0), .int manner_] (zz_wc U ad σ X) (match r.1 with | .inl x => zz_ok (some (.int x)) (zz_wc U ad r.2 X) | .inr _ => zz_none) (match r.1 with | .inl _ => zz_noth | .inr E => zz_th E (zz_wc U ad r.2 X)) := by
  unfold fX7_setManner at hf
  refine zz_method RX7 rfl (by decide +kernel) (Nat.le_of_ble_eq_true rfl) ?_
  intro p l e s m args below meth c A _ C
  refine zz_lvs (lv1 := [(0, .ref (ad 0)), (1, .int manner_)]) rfl ?_
  refine zz_iload_n C 1 dX7_setManner_0 rfl rfl ?_
  refine zz_iconst (v := (2 : Int32)) C dX7_setManner_1 (by decide) ?_
  obtain ⟨x1, h2, hf⟩ := zz_bind hf
  refine zz_callS1 (As := [.int manner_, .int (2 : Int32)]) (rest := []) C (mX7_isUpTo σ manner_ (2 : Int32) x1 h2) dX7_setManner_2 rfl zw_0 zy_X7_isUpTo rfl (by decide) (by decide) (Nat.le_of_ble_eq_true rfl) (Nat.le_of_ble_eq_true rfl) (Nat.le_of_ble_eq_true rfl) rfl ?_
  refine zz_if_ne (tgt := 18) C dX7_setManner_5 (by decide) (fun g3 => ?_) (fun g3 => ?_)
  · rw [if_neg g3] at hf
    refine zz_aload_n C 0 dX7_setManner_18 rfl rfl ?_
    obtain ⟨x4, h5, hf⟩ := zz_bind hf
    refine zz_callV1 (As := []) (rest := []) C 0 (mX7_forgetResults σ x4 h5) dX7_setManner_19 rfl rfl rfl zw_11 zy_X7_forgetResults rfl (by decide) (by decide) (Nat.le_of_ble_eq_true rfl) (Nat.le_of_ble_eq_true rfl) (Nat.le_of_ble_eq_true rfl) rfl ?_
    refine zz_aload_n C 0 dX7_setManner_22 rfl rfl ?_
    refine zf7_groups C dX7_setManner_23 zw_25 ?_
    refine zf3_manner C dX7_setManner_26 zw_26 ?_
    obtain ⟨x6, h7, hf⟩ := zz_bind hf
    refine zz_topi (Option.some.inj h7) ?_
    refine zz_istore_n C dX7_setManner_29 rfl (by decide) (lv' := [(2, .int x6), (0, .ref (ad 0)), (1, .int manner_)]) rfl ?_
    refine zz_aload_n C 1 dX7_setManner_30 rfl rfl ?_
    refine zf7_groups C dX7_setManner_31 zw_25 ?_
    refine zz_iload_n C 2 dX7_setManner_34 rfl rfl ?_
    refine zp3_manner C dX7_setManner_35 zw_26 ?_
    refine zz_iload_n C 0 dX7_setManner_38 rfl rfl ?_
    cases hf
    exact zz_iret C dX7_setManner_39 (And.intro rfl rfl) (Nat.le_of_ble_eq_true rfl) (Nat.le_of_ble_eq_true rfl)
  · rw [if_pos g3] at hf
    cases hf
    exact zz_throwS (cls := "java/lang/IllegalArgumentException") (text := "no such manner") C zt_0 (by decide +kernel) dX7_setManner_8 dX7_setManner_11 dX7_setManner_12 dX7_setManner_14 dX7_setManner_17 (by decide) (Nat.le_of_ble_eq_true rfl) (Nat.le_of_ble_eq_true rfl) (Nat.le_of_ble_eq_true rfl) (Nat.le_of_ble_eq_true rfl) (Nat.le_of_ble_eq_true rfl) (And.intro rfl rfl)
theorem mX7_setManner_r {D : va_G} {U : zz_U} {ad : Nat → Nat} {X : va_W} (σ : zz_St) (manner_ : Int32) (x : Int32) (σ1 : zz_St) (hf : fX7_setManner σ manner_ = some (.inl x, σ1)) : zz_Met yX7_setManner (.code yX7_setManner cX7_setManner 3 (some .int)) 6 1 6 D U [.ref (ad 0), .int manner_] (zz_wc U ad σ X) (zz_ok (some (.int x)) (zz_wc U ad σ1 X)) zz_noth := mX7_setManner σ manner_ (.inl x, σ1) hf
theorem mX7_setManner_x {D : va_G} {U : zz_U} {ad : Nat → Nat} {X : va_W} (σ : zz_St) (manner_ : Int32) (x : String) (σ1 : zz_St) (hf : fX7_setManner σ manner_ = some (.inr x, σ1)) : zz_Met yX7_setManner (.code yX7_setManner cX7_setManner 3 (some .int)) 6 1 6 D U [.ref (ad 0), .int manner_] (zz_wc U ad σ X) zz_none (zz_th x (zz_wc U ad σ1 X)) := mX7_setManner σ manner_ (.inr x, σ1) hf
theorem dX7_requireDifferent_0 : decode cX7_requireDifferent 0 = .ok (.iload_n 0, 1) := by decide +kernel
theorem dX7_requireDifferent_1 : decode cX7_requireDifferent 1 = .ok (.iload_n 1, 1) := by decide +kernel
theorem dX7_requireDifferent_2 : decode cX7_requireDifferent 2 = .ok (.if_icmp .ne 14, 3) := by decide +kernel
theorem dX7_requireDifferent_5 : decode cX7_requireDifferent 5 = .ok (.new 62, 3) := by decide +kernel
theorem dX7_requireDifferent_8 : decode cX7_requireDifferent 8 = .ok (.dup, 1) := by decide +kernel
theorem dX7_requireDifferent_9 : decode cX7_requireDifferent 9 = .ok (.ldc_w 310, 3) := by decide +kernel
theorem dX7_requireDifferent_12 : decode cX7_requireDifferent 12 = .ok (.invokespecial 66, 3) := by decide +kernel
theorem dX7_requireDifferent_15 : decode cX7_requireDifferent 15 = .ok (.athrow, 1) := by decide +kernel
theorem dX7_requireDifferent_16 : decode cX7_requireDifferent 16 = .ok (.return_, 1) := by decide +kernel
set_option maxHeartbeats 4000000 in
set_option maxRecDepth 100000 in
theorem mX7_requireDifferent {D : va_G} {U : zz_U} {ad : Nat → Nat} {X : va_W} (σ : zz_St) (a_ : Int32) (b_ : Int32) (r : (Unit ⊕ String)) (hf : fX7_requireDifferent σ a_ b_ = some r) : zz_Met yX7_requireDifferent (.code yX7_requireDifferent cX7_requireDifferent 2 none) 6 1 6 D U [.int a_, .int b_] (zz_wc U ad σ X) (match r with | .inl _ => zz_ok none (zz_wc U ad σ X) | .inr _ => zz_none) (match r with | .inl _ => zz_noth | .inr E => zz_th E (zz_wc U ad σ X)) := by
  unfold fX7_requireDifferent at hf
  refine zz_method RX7 rfl (by decide +kernel) (Nat.le_of_ble_eq_true rfl) ?_
  intro p l e s m args below meth c A _ C
  refine zz_lvs (lv1 := [(0, .int a_), (1, .int b_)]) rfl ?_
  refine zz_iload_n C 0 dX7_requireDifferent_0 rfl rfl ?_
  refine zz_iload_n C 1 dX7_requireDifferent_1 rfl rfl ?_
  refine zz_icmp_ne (tgt := 16) C dX7_requireDifferent_2 (by decide) (fun g1 => ?_) (fun g1 => ?_)
  · rw [if_neg g1] at hf
    cases hf
    exact zz_vret C dX7_requireDifferent_16 (And.intro rfl rfl) (Nat.le_of_ble_eq_true rfl) (Nat.le_of_ble_eq_true rfl)
  · rw [if_pos g1] at hf
    cases hf
    exact zz_throwSW (cls := "java/lang/IllegalArgumentException") (text := "the same piece twice") C zt_0 (by decide +kernel) dX7_requireDifferent_5 dX7_requireDifferent_8 dX7_requireDifferent_9 dX7_requireDifferent_12 dX7_requireDifferent_15 (by decide) (Nat.le_of_ble_eq_true rfl) (Nat.le_of_ble_eq_true rfl) (Nat.le_of_ble_eq_true rfl) (Nat.le_of_ble_eq_true rfl) (Nat.le_of_ble_eq_true rfl) (And.intro rfl rfl)
theorem mX7_requireDifferent_r {D : va_G} {U : zz_U} {ad : Nat → Nat} {X : va_W} (σ : zz_St) (a_ : Int32) (b_ : Int32) (x : Unit) (hf : fX7_requireDifferent σ a_ b_ = some (.inl x)) : zz_Met yX7_requireDifferent (.code yX7_requireDifferent cX7_requireDifferent 2 none) 6 1 6 D U [.int a_, .int b_] (zz_wc U ad σ X) (zz_ok none (zz_wc U ad σ X)) zz_noth := mX7_requireDifferent σ a_ b_ (.inl x) hf
theorem mX7_requireDifferent_x {D : va_G} {U : zz_U} {ad : Nat → Nat} {X : va_W} (σ : zz_St) (a_ : Int32) (b_ : Int32) (E : String) (hf : fX7_requireDifferent σ a_ b_ = some (.inr E)) : zz_Met yX7_requireDifferent (.code yX7_requireDifferent cX7_requireDifferent 2 none) 6 1 6 D U [.int a_, .int b_] (zz_wc U ad σ X) zz_none (zz_th E (zz_wc U ad σ X)) := mX7_requireDifferent σ a_ b_ (.inr E) hf
theorem dX6_saidOf_0 : decode cX6_saidOf 0 = .ok (.iload_n 2, 1) := by decide +kernel
theorem dX6_saidOf_1 : decode cX6_saidOf 1 = .ok (.aload_n 0, 1) := by decide +kernel
theorem dX6_saidOf_2 : decode cX6_saidOf 2 = .ok (.getfield 9, 3) := by decide +kernel
theorem dX6_saidOf_5 : decode cX6_saidOf 5 = .ok (.iload_n 1, 1) := by decide +kernel
theorem dX6_saidOf_6 : decode cX6_saidOf 6 = .ok (.iaload, 1) := by decide +kernel
theorem dX6_saidOf_7 : decode cX6_saidOf 7 = .ok (.invokestatic 18, 3) := by decide +kernel
theorem dX6_saidOf_10 : decode cX6_saidOf 10 = .ok (.ifCond .eq 5, 3) := by decide +kernel
theorem dX6_saidOf_13 : decode cX6_saidOf 13 = .ok (.iconst 1, 1) := by decide +kernel
theorem dX6_saidOf_14 : decode cX6_saidOf 14 = .ok (.ireturn, 1) := by decide +kernel
theorem dX6_saidOf_15 : decode cX6_saidOf 15 = .ok (.iload_n 2, 1) := by decide +kernel
theorem dX6_saidOf_16 : decode cX6_saidOf 16 = .ok (.aload_n 0, 1) := by decide +kernel
theorem dX6_saidOf_17 : decode cX6_saidOf 17 = .ok (.getfield 15, 3) := by decide +kernel
theorem dX6_saidOf_20 : decode cX6_saidOf 20 = .ok (.iload_n 1, 1) := by decide +kernel
theorem dX6_saidOf_21 : decode cX6_saidOf 21 = .ok (.iaload, 1) := by decide +kernel
theorem dX6_saidOf_22 : decode cX6_saidOf 22 = .ok (.invokestatic 18, 3) := by decide +kernel
theorem dX6_saidOf_25 : decode cX6_saidOf 25 = .ok (.ifCond .eq 7, 3) := by decide +kernel
theorem dX6_saidOf_28 : decode cX6_saidOf 28 = .ok (.iconst 2, 1) := by decide +kernel
theorem dX6_saidOf_29 : decode cX6_saidOf 29 = .ok (.goto 4, 3) := by decide +kernel
theorem dX6_saidOf_32 : decode cX6_saidOf 32 = .ok (.iconst 0, 1) := by decide +kernel
theorem dX6_saidOf_33 : decode cX6_saidOf 33 = .ok (.ireturn, 1) := by decide +kernel
set_option maxHeartbeats 4000000 in
set_option maxRecDepth 100000 in
theorem mX6_saidOf {D : va_G} {U : zz_U} {ad : Nat → Nat} {X : va_W} (σ : zz_St) (a_ : Int32) (b_ : Int32) (r : Int32) (hf : fX6_saidOf σ a_ b_ = some r) : zz_Met yX6_saidOf (.code yX6_saidOf cX6_saidOf 3 (some .int)) 1 0 0 D U [.ref (ad 21), .int a_, .int b_] (zz_wc U ad σ X) (zz_ok (some (.int r)) (zz_wc U ad σ X)) zz_noth := by
  unfold fX6_saidOf at hf
  refine zz_method RX6 rfl (by decide +kernel) (Nat.le_of_ble_eq_true rfl) ?_
  intro p l e s m args below meth c A _ C
  refine zz_lvs (lv1 := [(0, .ref (ad 21)), (1, .int a_), (2, .int b_)]) rfl ?_
  refine zz_iload_n C 2 dX6_saidOf_0 rfl rfl ?_
  refine zz_aload_n C 0 dX6_saidOf_1 rfl rfl ?_
  refine zf6_must C dX6_saidOf_2 zw_28 ?_
  refine zz_iload_n C 1 dX6_saidOf_5 rfl rfl ?_
  obtain ⟨x1, h2, hf⟩ := zz_bind hf
  refine zl_22 C dX6_saidOf_6 h2 ?_
  obtain ⟨x3, h4, hf⟩ := zz_bind hf
  refine zz_callSN1 (host := "ChangeUntangler") (As := [.int b_, .int x1]) (rest := []) C (mX7_isIn σ b_ x1 x3 h4) dX6_saidOf_7 rfl (by decide +kernel) zy_X7_isIn rfl (by decide) (by decide) (Nat.le_of_ble_eq_true rfl) (Nat.le_of_ble_eq_true rfl) (Nat.le_of_ble_eq_true rfl) rfl ?_
  refine zz_if_eq (tgt := 15) C dX6_saidOf_10 (by decide) (fun g5 => ?_) (fun g5 => ?_)
  · rw [if_pos g5] at hf
    obtain ⟨x6, h7, hf⟩ := zz_bind hf
    refine zz_cut 33 [(0, .ref (ad 21)), (1, .int a_), (2, .int b_)] [.int x6] (zz_wc U ad σ X) ?_ (fun J8 => ?_)
    · cases hf
      exact zz_iret C dX6_saidOf_33 (And.intro rfl rfl) (Nat.le_of_ble_eq_true rfl) (Nat.le_of_ble_eq_true rfl)
    refine zz_iload_n C 2 dX6_saidOf_15 rfl rfl ?_
    refine zz_aload_n C 0 dX6_saidOf_16 rfl rfl ?_
    refine zf6_mustNot C dX6_saidOf_17 zw_27 ?_
    refine zz_iload_n C 1 dX6_saidOf_20 rfl rfl ?_
    obtain ⟨x9, h10, h7⟩ := zz_bind h7
    refine zl_23 C dX6_saidOf_21 h10 ?_
    obtain ⟨x11, h12, h7⟩ := zz_bind h7
    refine zz_callSN1 (host := "ChangeUntangler") (As := [.int b_, .int x9]) (rest := []) C (mX7_isIn σ b_ x9 x11 h12) dX6_saidOf_22 rfl (by decide +kernel) zy_X7_isIn rfl (by decide) (by decide) (Nat.le_of_ble_eq_true rfl) (Nat.le_of_ble_eq_true rfl) (Nat.le_of_ble_eq_true rfl) rfl ?_
    refine zz_if_eq (tgt := 32) C dX6_saidOf_25 (by decide) (fun g13 => ?_) (fun g13 => ?_)
    · rw [if_pos g13] at h7
      refine zz_iconst (v := (0 : Int32)) C dX6_saidOf_32 (by decide) ?_
      cases h7
      exact J8
    · rw [if_neg g13] at h7
      refine zz_iconst (v := (2 : Int32)) C dX6_saidOf_28 (by decide) ?_
      refine zz_goto (tgt := 33) C dX6_saidOf_29 (by decide) ?_
      cases h7
      exact J8
  · rw [if_neg g5] at hf
    refine zz_iconst (v := (1 : Int32)) C dX6_saidOf_13 (by decide) ?_
    cases hf
    exact zz_iret C dX6_saidOf_14 (And.intro rfl rfl) (Nat.le_of_ble_eq_true rfl) (Nat.le_of_ble_eq_true rfl)
theorem dX6_putOneWay_0 : decode cX6_putOneWay 0 = .ok (.iconst 1, 1) := by decide +kernel
theorem dX6_putOneWay_1 : decode cX6_putOneWay 1 = .ok (.iload_n 2, 1) := by decide +kernel
theorem dX6_putOneWay_2 : decode cX6_putOneWay 2 = .ok (.ishl, 1) := by decide +kernel
theorem dX6_putOneWay_3 : decode cX6_putOneWay 3 = .ok (.iconst (-1), 1) := by decide +kernel
theorem dX6_putOneWay_4 : decode cX6_putOneWay 4 = .ok (.ixor, 1) := by decide +kernel
theorem dX6_putOneWay_5 : decode cX6_putOneWay 5 = .ok (.istore 4, 2) := by decide +kernel
theorem dX6_putOneWay_7 : decode cX6_putOneWay 7 = .ok (.aload_n 0, 1) := by decide +kernel
theorem dX6_putOneWay_8 : decode cX6_putOneWay 8 = .ok (.getfield 9, 3) := by decide +kernel
theorem dX6_putOneWay_11 : decode cX6_putOneWay 11 = .ok (.iload_n 1, 1) := by decide +kernel
theorem dX6_putOneWay_12 : decode cX6_putOneWay 12 = .ok (.aload_n 0, 1) := by decide +kernel
theorem dX6_putOneWay_13 : decode cX6_putOneWay 13 = .ok (.getfield 9, 3) := by decide +kernel
theorem dX6_putOneWay_16 : decode cX6_putOneWay 16 = .ok (.iload_n 1, 1) := by decide +kernel
theorem dX6_putOneWay_17 : decode cX6_putOneWay 17 = .ok (.iaload, 1) := by decide +kernel
theorem dX6_putOneWay_18 : decode cX6_putOneWay 18 = .ok (.iload 4, 2) := by decide +kernel
theorem dX6_putOneWay_20 : decode cX6_putOneWay 20 = .ok (.iand, 1) := by decide +kernel
theorem dX6_putOneWay_21 : decode cX6_putOneWay 21 = .ok (.iload_n 3, 1) := by decide +kernel
theorem dX6_putOneWay_22 : decode cX6_putOneWay 22 = .ok (.iconst 1, 1) := by decide +kernel
theorem dX6_putOneWay_23 : decode cX6_putOneWay 23 = .ok (.if_icmp .ne 9, 3) := by decide +kernel
theorem dX6_putOneWay_26 : decode cX6_putOneWay 26 = .ok (.iconst 1, 1) := by decide +kernel
theorem dX6_putOneWay_27 : decode cX6_putOneWay 27 = .ok (.iload_n 2, 1) := by decide +kernel
theorem dX6_putOneWay_28 : decode cX6_putOneWay 28 = .ok (.ishl, 1) := by decide +kernel
theorem dX6_putOneWay_29 : decode cX6_putOneWay 29 = .ok (.goto 4, 3) := by decide +kernel
theorem dX6_putOneWay_32 : decode cX6_putOneWay 32 = .ok (.iconst 0, 1) := by decide +kernel
theorem dX6_putOneWay_33 : decode cX6_putOneWay 33 = .ok (.ior, 1) := by decide +kernel
theorem dX6_putOneWay_34 : decode cX6_putOneWay 34 = .ok (.iastore, 1) := by decide +kernel
theorem dX6_putOneWay_35 : decode cX6_putOneWay 35 = .ok (.aload_n 0, 1) := by decide +kernel
theorem dX6_putOneWay_36 : decode cX6_putOneWay 36 = .ok (.getfield 15, 3) := by decide +kernel
theorem dX6_putOneWay_39 : decode cX6_putOneWay 39 = .ok (.iload_n 1, 1) := by decide +kernel
theorem dX6_putOneWay_40 : decode cX6_putOneWay 40 = .ok (.aload_n 0, 1) := by decide +kernel
theorem dX6_putOneWay_41 : decode cX6_putOneWay 41 = .ok (.getfield 15, 3) := by decide +kernel
theorem dX6_putOneWay_44 : decode cX6_putOneWay 44 = .ok (.iload_n 1, 1) := by decide +kernel
theorem dX6_putOneWay_45 : decode cX6_putOneWay 45 = .ok (.iaload, 1) := by decide +kernel
theorem dX6_putOneWay_46 : decode cX6_putOneWay 46 = .ok (.iload 4, 2) := by decide +kernel
theorem dX6_putOneWay_48 : decode cX6_putOneWay 48 = .ok (.iand, 1) := by decide +kernel
theorem dX6_putOneWay_49 : decode cX6_putOneWay 49 = .ok (.iload_n 3, 1) := by decide +kernel
theorem dX6_putOneWay_50 : decode cX6_putOneWay 50 = .ok (.iconst 2, 1) := by decide +kernel
theorem dX6_putOneWay_51 : decode cX6_putOneWay 51 = .ok (.if_icmp .ne 9, 3) := by decide +kernel
theorem dX6_putOneWay_54 : decode cX6_putOneWay 54 = .ok (.iconst 1, 1) := by decide +kernel
theorem dX6_putOneWay_55 : decode cX6_putOneWay 55 = .ok (.iload_n 2, 1) := by decide +kernel
theorem dX6_putOneWay_56 : decode cX6_putOneWay 56 = .ok (.ishl, 1) := by decide +kernel
theorem dX6_putOneWay_57 : decode cX6_putOneWay 57 = .ok (.goto 4, 3) := by decide +kernel
theorem dX6_putOneWay_60 : decode cX6_putOneWay 60 = .ok (.iconst 0, 1) := by decide +kernel
theorem dX6_putOneWay_61 : decode cX6_putOneWay 61 = .ok (.ior, 1) := by decide +kernel
theorem dX6_putOneWay_62 : decode cX6_putOneWay 62 = .ok (.iastore, 1) := by decide +kernel
theorem dX6_putOneWay_63 : decode cX6_putOneWay 63 = .ok (.return_, 1) := by decide +kernel
set_option maxHeartbeats 4000000 in
set_option maxRecDepth 100000 in
theorem mX6_putOneWay {D : va_G} {U : zz_U} {ad : Nat → Nat} {X : va_W} (σ : zz_St) (from_ : Int32) (to_ : Int32) (what_ : Int32) (r : zz_St) (hf : fX6_putOneWay σ from_ to_ what_ = some r) : zz_Met yX6_putOneWay (.code yX6_putOneWay cX6_putOneWay 5 none) 0 0 0 D U [.ref (ad 21), .int from_, .int to_, .int what_] (zz_wc U ad σ X) (zz_ok none (zz_wc U ad r X)) zz_noth := by
  unfold fX6_putOneWay at hf
  refine zz_method RX6 rfl (by decide +kernel) (Nat.le_of_ble_eq_true rfl) ?_
  intro p l e s m args below meth c A _ C
  refine zz_lvs (lv1 := [(0, .ref (ad 21)), (1, .int from_), (2, .int to_), (3, .int what_)]) rfl ?_
  refine zz_iconst (v := (1 : Int32)) C dX6_putOneWay_0 (by decide) ?_
  refine zz_iload_n C 2 dX6_putOneWay_1 rfl rfl ?_
  refine zz_ishl C dX6_putOneWay_2 ?_
  refine zz_iconst (v := (-1 : Int32)) C dX6_putOneWay_3 (by decide) ?_
  refine zz_ixor C dX6_putOneWay_4 ?_
  obtain ⟨x1, h2, hf⟩ := zz_bind hf
  refine zz_topi (Option.some.inj h2) ?_
  refine zz_istore C dX6_putOneWay_5 (by decide) (lv' := [(4, .int x1), (0, .ref (ad 21)), (1, .int from_), (2, .int to_), (3, .int what_)]) rfl ?_
  refine zz_aload_n C 1 dX6_putOneWay_7 rfl rfl ?_
  refine zf6_must C dX6_putOneWay_8 zw_28 ?_
  refine zz_iload_n C 2 dX6_putOneWay_11 rfl rfl ?_
  refine zz_aload_n C 1 dX6_putOneWay_12 rfl rfl ?_
  refine zf6_must C dX6_putOneWay_13 zw_28 ?_
  refine zz_iload_n C 2 dX6_putOneWay_16 rfl rfl ?_
  obtain ⟨x3, h4, hf⟩ := zz_bind hf
  refine zl_22 C dX6_putOneWay_17 h4 ?_
  refine zz_iload C 0 dX6_putOneWay_18 rfl ?_
  refine zz_iand C dX6_putOneWay_20 ?_
  obtain ⟨x5, h6, hf⟩ := zz_bind hf
  refine zz_cut 33 [(4, .int x1), (0, .ref (ad 21)), (1, .int from_), (2, .int to_), (3, .int what_)] [.int x5, .int (x3 &&& x1), .int from_, .ref (ad 22)] (zz_wc U ad σ X) ?_ (fun J7 => ?_)
  · refine zz_ior C dX6_putOneWay_33 ?_
    obtain ⟨σ9, h10, hf⟩ := zz_bind hf
    refine zs_22 C dX6_putOneWay_34 h10 ?_
    refine zz_aload_n C 1 dX6_putOneWay_35 rfl rfl ?_
    refine zf6_mustNot C dX6_putOneWay_36 zw_27 ?_
    refine zz_iload_n C 2 dX6_putOneWay_39 rfl rfl ?_
    refine zz_aload_n C 1 dX6_putOneWay_40 rfl rfl ?_
    refine zf6_mustNot C dX6_putOneWay_41 zw_27 ?_
    refine zz_iload_n C 2 dX6_putOneWay_44 rfl rfl ?_
    obtain ⟨x11, h12, hf⟩ := zz_bind hf
    refine zl_23 C dX6_putOneWay_45 h12 ?_
    refine zz_iload C 0 dX6_putOneWay_46 rfl ?_
    refine zz_iand C dX6_putOneWay_48 ?_
    obtain ⟨x13, h14, hf⟩ := zz_bind hf
    refine zz_cut 61 [(4, .int x1), (0, .ref (ad 21)), (1, .int from_), (2, .int to_), (3, .int what_)] [.int x13, .int (x11 &&& x1), .int from_, .ref (ad 23)] (zz_wc U ad σ9 X) ?_ (fun J15 => ?_)
    · refine zz_ior C dX6_putOneWay_61 ?_
      obtain ⟨σ17, h18, hf⟩ := zz_bind hf
      refine zs_23 C dX6_putOneWay_62 h18 ?_
      cases hf
      exact zz_vret C dX6_putOneWay_63 (And.intro rfl rfl) (Nat.le_of_ble_eq_true rfl) (Nat.le_of_ble_eq_true rfl)
    refine zz_iload_n C 4 dX6_putOneWay_49 rfl rfl ?_
    refine zz_iconst (v := (2 : Int32)) C dX6_putOneWay_50 (by decide) ?_
    refine zz_icmp_ne (tgt := 60) C dX6_putOneWay_51 (by decide) (fun g16 => ?_) (fun g16 => ?_)
    · rw [if_neg g16] at h14
      refine zz_iconst (v := (0 : Int32)) C dX6_putOneWay_60 (by decide) ?_
      cases h14
      exact J15
    · rw [if_pos g16] at h14
      refine zz_iconst (v := (1 : Int32)) C dX6_putOneWay_54 (by decide) ?_
      refine zz_iload_n C 3 dX6_putOneWay_55 rfl rfl ?_
      refine zz_ishl C dX6_putOneWay_56 ?_
      refine zz_goto (tgt := 61) C dX6_putOneWay_57 (by decide) ?_
      cases h14
      exact J15
  refine zz_iload_n C 4 dX6_putOneWay_21 rfl rfl ?_
  refine zz_iconst (v := (1 : Int32)) C dX6_putOneWay_22 (by decide) ?_
  refine zz_icmp_ne (tgt := 32) C dX6_putOneWay_23 (by decide) (fun g8 => ?_) (fun g8 => ?_)
  · rw [if_neg g8] at h6
    refine zz_iconst (v := (0 : Int32)) C dX6_putOneWay_32 (by decide) ?_
    cases h6
    exact J7
  · rw [if_pos g8] at h6
    refine zz_iconst (v := (1 : Int32)) C dX6_putOneWay_26 (by decide) ?_
    refine zz_iload_n C 3 dX6_putOneWay_27 rfl rfl ?_
    refine zz_ishl C dX6_putOneWay_28 ?_
    refine zz_goto (tgt := 33) C dX6_putOneWay_29 (by decide) ?_
    cases h6
    exact J7
theorem dX6_put_0 : decode cX6_put 0 = .ok (.aload_n 0, 1) := by decide +kernel
theorem dX6_put_1 : decode cX6_put 1 = .ok (.iload_n 1, 1) := by decide +kernel
theorem dX6_put_2 : decode cX6_put 2 = .ok (.iload_n 2, 1) := by decide +kernel
theorem dX6_put_3 : decode cX6_put 3 = .ok (.iload_n 3, 1) := by decide +kernel
theorem dX6_put_4 : decode cX6_put 4 = .ok (.invokevirtual 22, 3) := by decide +kernel
theorem dX6_put_7 : decode cX6_put 7 = .ok (.aload_n 0, 1) := by decide +kernel
theorem dX6_put_8 : decode cX6_put 8 = .ok (.iload_n 2, 1) := by decide +kernel
theorem dX6_put_9 : decode cX6_put 9 = .ok (.iload_n 1, 1) := by decide +kernel
theorem dX6_put_10 : decode cX6_put 10 = .ok (.iload_n 3, 1) := by decide +kernel
theorem dX6_put_11 : decode cX6_put 11 = .ok (.invokevirtual 22, 3) := by decide +kernel
theorem dX6_put_14 : decode cX6_put 14 = .ok (.return_, 1) := by decide +kernel
set_option maxHeartbeats 4000000 in
set_option maxRecDepth 100000 in
theorem mX6_put {D : va_G} {U : zz_U} {ad : Nat → Nat} {X : va_W} (σ : zz_St) (a_ : Int32) (b_ : Int32) (what_ : Int32) (r : zz_St) (hf : fX6_put σ a_ b_ what_ = some r) : zz_Met yX6_put (.code yX6_put cX6_put 4 none) 1 0 0 D U [.ref (ad 21), .int a_, .int b_, .int what_] (zz_wc U ad σ X) (zz_ok none (zz_wc U ad r X)) zz_noth := by
  unfold fX6_put at hf
  refine zz_method RX6 rfl (by decide +kernel) (Nat.le_of_ble_eq_true rfl) ?_
  intro p l e s m args below meth c A _ C
  refine zz_lvs (lv1 := [(0, .ref (ad 21)), (1, .int a_), (2, .int b_), (3, .int what_)]) rfl ?_
  refine zz_aload_n C 0 dX6_put_0 rfl rfl ?_
  refine zz_iload_n C 1 dX6_put_1 rfl rfl ?_
  refine zz_iload_n C 2 dX6_put_2 rfl rfl ?_
  refine zz_iload_n C 3 dX6_put_3 rfl rfl ?_
  obtain ⟨x1, h2, hf⟩ := zz_bind hf
  refine zz_callV1 (As := [.int a_, .int b_, .int what_]) (rest := []) C 21 (mX6_putOneWay σ a_ b_ what_ x1 h2) dX6_put_4 rfl rfl rfl zw_29 zy_X6_putOneWay rfl (by decide) (by decide) (Nat.le_of_ble_eq_true rfl) (Nat.le_of_ble_eq_true rfl) (Nat.le_of_ble_eq_true rfl) rfl ?_
  refine zz_aload_n C 0 dX6_put_7 rfl rfl ?_
  refine zz_iload_n C 2 dX6_put_8 rfl rfl ?_
  refine zz_iload_n C 1 dX6_put_9 rfl rfl ?_
  refine zz_iload_n C 3 dX6_put_10 rfl rfl ?_
  obtain ⟨x3, h4, hf⟩ := zz_bind hf
  refine zz_callV1 (As := [.int b_, .int a_, .int what_]) (rest := []) C 21 (mX6_putOneWay x1 b_ a_ what_ x3 h4) dX6_put_11 rfl rfl rfl zw_29 zy_X6_putOneWay rfl (by decide) (by decide) (Nat.le_of_ble_eq_true rfl) (Nat.le_of_ble_eq_true rfl) (Nat.le_of_ble_eq_true rfl) rfl ?_
  cases hf
  exact zz_vret C dX6_put_14 (And.intro rfl rfl) (Nat.le_of_ble_eq_true rfl) (Nat.le_of_ble_eq_true rfl)
theorem dX6_joinedTo_0 : decode cX6_joinedTo 0 = .ok (.iconst 1, 1) := by decide +kernel
theorem dX6_joinedTo_1 : decode cX6_joinedTo 1 = .ok (.iload_n 1, 1) := by decide +kernel
theorem dX6_joinedTo_2 : decode cX6_joinedTo 2 = .ok (.ishl, 1) := by decide +kernel
theorem dX6_joinedTo_3 : decode cX6_joinedTo 3 = .ok (.istore_n 2, 1) := by decide +kernel
theorem dX6_joinedTo_4 : decode cX6_joinedTo 4 = .ok (.iconst 0, 1) := by decide +kernel
theorem dX6_joinedTo_5 : decode cX6_joinedTo 5 = .ok (.istore_n 3, 1) := by decide +kernel
theorem dX6_joinedTo_6 : decode cX6_joinedTo 6 = .ok (.iconst 0, 1) := by decide +kernel
theorem dX6_joinedTo_7 : decode cX6_joinedTo 7 = .ok (.istore 4, 2) := by decide +kernel
theorem dX6_joinedTo_9 : decode cX6_joinedTo 9 = .ok (.iload 4, 2) := by decide +kernel
theorem dX6_joinedTo_11 : decode cX6_joinedTo 11 = .ok (.bipush 14, 2) := by decide +kernel
theorem dX6_joinedTo_13 : decode cX6_joinedTo 13 = .ok (.if_icmp .ge 55, 3) := by decide +kernel
theorem dX6_joinedTo_16 : decode cX6_joinedTo 16 = .ok (.iload_n 2, 1) := by decide +kernel
theorem dX6_joinedTo_17 : decode cX6_joinedTo 17 = .ok (.iload_n 3, 1) := by decide +kernel
theorem dX6_joinedTo_18 : decode cX6_joinedTo 18 = .ok (.if_icmp .eq 50, 3) := by decide +kernel
theorem dX6_joinedTo_21 : decode cX6_joinedTo 21 = .ok (.iload_n 2, 1) := by decide +kernel
theorem dX6_joinedTo_22 : decode cX6_joinedTo 22 = .ok (.istore_n 3, 1) := by decide +kernel
theorem dX6_joinedTo_23 : decode cX6_joinedTo 23 = .ok (.iconst 0, 1) := by decide +kernel
theorem dX6_joinedTo_24 : decode cX6_joinedTo 24 = .ok (.istore 5, 2) := by decide +kernel
theorem dX6_joinedTo_26 : decode cX6_joinedTo 26 = .ok (.iload 5, 2) := by decide +kernel
theorem dX6_joinedTo_28 : decode cX6_joinedTo 28 = .ok (.bipush 14, 2) := by decide +kernel
theorem dX6_joinedTo_30 : decode cX6_joinedTo 30 = .ok (.if_icmp .ge 32, 3) := by decide +kernel
theorem dX6_joinedTo_33 : decode cX6_joinedTo 33 = .ok (.iload_n 2, 1) := by decide +kernel
theorem dX6_joinedTo_34 : decode cX6_joinedTo 34 = .ok (.iload 5, 2) := by decide +kernel
theorem dX6_joinedTo_36 : decode cX6_joinedTo 36 = .ok (.iload_n 2, 1) := by decide +kernel
theorem dX6_joinedTo_37 : decode cX6_joinedTo 37 = .ok (.invokestatic 18, 3) := by decide +kernel
theorem dX6_joinedTo_40 : decode cX6_joinedTo 40 = .ok (.ifCond .eq 13, 3) := by decide +kernel
theorem dX6_joinedTo_43 : decode cX6_joinedTo 43 = .ok (.aload_n 0, 1) := by decide +kernel
theorem dX6_joinedTo_44 : decode cX6_joinedTo 44 = .ok (.getfield 9, 3) := by decide +kernel
theorem dX6_joinedTo_47 : decode cX6_joinedTo 47 = .ok (.iload 5, 2) := by decide +kernel
theorem dX6_joinedTo_49 : decode cX6_joinedTo 49 = .ok (.iaload, 1) := by decide +kernel
theorem dX6_joinedTo_50 : decode cX6_joinedTo 50 = .ok (.goto 4, 3) := by decide +kernel
theorem dX6_joinedTo_53 : decode cX6_joinedTo 53 = .ok (.iconst 0, 1) := by decide +kernel
theorem dX6_joinedTo_54 : decode cX6_joinedTo 54 = .ok (.ior, 1) := by decide +kernel
theorem dX6_joinedTo_55 : decode cX6_joinedTo 55 = .ok (.istore_n 2, 1) := by decide +kernel
theorem dX6_joinedTo_56 : decode cX6_joinedTo 56 = .ok (.iinc 5 1, 3) := by decide +kernel
theorem dX6_joinedTo_59 : decode cX6_joinedTo 59 = .ok (.goto (-33), 3) := by decide +kernel
theorem dX6_joinedTo_62 : decode cX6_joinedTo 62 = .ok (.iinc 4 1, 3) := by decide +kernel
theorem dX6_joinedTo_65 : decode cX6_joinedTo 65 = .ok (.goto (-56), 3) := by decide +kernel
theorem dX6_joinedTo_68 : decode cX6_joinedTo 68 = .ok (.iload_n 2, 1) := by decide +kernel
theorem dX6_joinedTo_69 : decode cX6_joinedTo 69 = .ok (.ireturn, 1) := by decide +kernel
set_option maxHeartbeats 4000000 in
set_option maxRecDepth 100000 in
theorem mX6_joinedTo_L2 {p : Program} {l : Launch} {e : Env} {R : Room} {s : State} {m : MethodId} {args : Array Value} {below : List Frame} {meth : Method} {c : Code} {Q : State → Prop} {D : va_G} {U : zz_U} {A : Nat → Prop} {cells slots : Nat} {ad : Nat → Nat} {X : va_W} (C : zz_C p l R s m meth c D U A RX6 cX6_joinedTo 6 (some .int) [] 1) (hcR : cells ≤ R.cells) (hsR : slots ≤ R.slots) (σ : zz_St) (piece_ : Int32) (before_ : Int32) (round_ : Int32) : ∀ (n : Nat) (joined_ : Int32) (other_ : Int32) (q : (Int32 × Int32)), fX6_joinedTo_L2 σ piece_ before_ round_ n joined_ other_ = some q → (zz_Z p l e R s m args below meth c Q D A 6 cells slots (zz_wc U ad σ X) 62 [(0, .ref (ad 21)), (1, .int piece_), (2, .int q.1), (3, .int before_), (4, .int round_), (5, .int q.2)] []) → zz_Z p l e R s m args below meth c Q D A 6 cells slots (zz_wc U ad σ X) 26 [(0, .ref (ad 21)), (1, .int piece_), (2, .int joined_), (3, .int before_), (4, .int round_), (5, .int other_)] [] := by
  intro n
  induction n with
  | zero => intro joined_ other_ q hf; rw [fX6_joinedTo_L2] at hf; cases hf
  | succ n ih =>
    intro joined_ other_ q hf kx
    rw [fX6_joinedTo_L2] at hf
    refine zz_iload C 5 dX6_joinedTo_26 rfl ?_
    refine zz_bipush (v := (14 : Int32)) C dX6_joinedTo_28 (by decide) ?_
    refine zz_icmp_ge (tgt := 62) C dX6_joinedTo_30 (by decide) (fun g10 => ?_) (fun g10 => ?_)
    · rw [if_pos g10] at hf
      cases hf
      exact kx
    · rw [if_neg g10] at hf
      refine zz_iload_n C 2 dX6_joinedTo_33 rfl rfl ?_
      obtain ⟨x11, h12, hf⟩ := zz_bind hf
      refine zz_cut 54 [(0, .ref (ad 21)), (1, .int piece_), (2, .int joined_), (3, .int before_), (4, .int round_), (5, .int other_)] [.int x11, .int joined_] (zz_wc U ad σ X) ?_ (fun J13 => ?_)
      · refine zz_ior C dX6_joinedTo_54 ?_
        obtain ⟨x19, h20, hf⟩ := zz_bind hf
        refine zz_topi (Option.some.inj h20) ?_
        refine zz_istore_n C dX6_joinedTo_55 rfl (by decide) (lv' := [(2, .int x19), (0, .ref (ad 21)), (1, .int piece_), (3, .int before_), (4, .int round_), (5, .int other_)]) rfl ?_
        refine zz_iinc (v := (other_ + (1 : Int32))) C 5 dX6_joinedTo_56 rfl (by rfl) (by decide) (lv' := [(5, .int (other_ + (1 : Int32))), (2, .int x19), (0, .ref (ad 21)), (1, .int piece_), (3, .int before_), (4, .int round_)]) rfl ?_
        refine zz_goto (tgt := 26) C dX6_joinedTo_59 (by decide) ?_
        refine zz_sub [2, 3, 1, 4, 5, 0] rfl ?_
        exact ih x19 (other_ + (1 : Int32)) _ hf kx
      refine zz_iload C 5 dX6_joinedTo_34 rfl ?_
      refine zz_iload_n C 2 dX6_joinedTo_36 rfl rfl ?_
      obtain ⟨x14, h15, h12⟩ := zz_bind h12
      refine zz_callSN1 (host := "ChangeUntangler") (As := [.int other_, .int joined_]) (rest := [.int joined_]) C (mX7_isIn σ other_ joined_ x14 h15) dX6_joinedTo_37 rfl (by decide +kernel) zy_X7_isIn rfl (by decide) (by decide) (Nat.le_of_ble_eq_true rfl) hcR hsR rfl ?_
      refine zz_if_eq (tgt := 53) C dX6_joinedTo_40 (by decide) (fun g16 => ?_) (fun g16 => ?_)
      · rw [if_pos g16] at h12
        refine zz_iconst (v := (0 : Int32)) C dX6_joinedTo_53 (by decide) ?_
        cases h12
        exact J13
      · rw [if_neg g16] at h12
        refine zz_aload_n C 0 dX6_joinedTo_43 rfl rfl ?_
        refine zf6_must C dX6_joinedTo_44 zw_28 ?_
        refine zz_iload C 5 dX6_joinedTo_47 rfl ?_
        obtain ⟨x17, h18, h12⟩ := zz_bind h12
        refine zl_22 C dX6_joinedTo_49 h18 ?_
        refine zz_goto (tgt := 54) C dX6_joinedTo_50 (by decide) ?_
        cases h12
        exact J13
set_option maxHeartbeats 4000000 in
set_option maxRecDepth 100000 in
theorem mX6_joinedTo_L1 {p : Program} {l : Launch} {e : Env} {R : Room} {s : State} {m : MethodId} {args : Array Value} {below : List Frame} {meth : Method} {c : Code} {Q : State → Prop} {D : va_G} {U : zz_U} {A : Nat → Prop} {cells slots : Nat} {ad : Nat → Nat} {X : va_W} (C : zz_C p l R s m meth c D U A RX6 cX6_joinedTo 6 (some .int) [] 1) (hcR : cells ≤ R.cells) (hsR : slots ≤ R.slots) (σ : zz_St) (piece_ : Int32) : ∀ (n : Nat) (joined_ : Int32) (before_ : Int32) (round_ : Int32) (q : (Int32 × Int32 × Int32)), fX6_joinedTo_L1 σ piece_ n joined_ before_ round_ = some q → (zz_Z p l e R s m args below meth c Q D A 6 cells slots (zz_wc U ad σ X) 68 [(0, .ref (ad 21)), (1, .int piece_), (2, .int q.1), (3, .int q.2.1), (4, .int q.2.2)] []) → zz_Z p l e R s m args below meth c Q D A 6 cells slots (zz_wc U ad σ X) 9 [(0, .ref (ad 21)), (1, .int piece_), (2, .int joined_), (3, .int before_), (4, .int round_)] [] := by
  intro n
  induction n with
  | zero => intro joined_ before_ round_ q hf; rw [fX6_joinedTo_L1] at hf; cases hf
  | succ n ih =>
    intro joined_ before_ round_ q hf kx
    rw [fX6_joinedTo_L1] at hf
    obtain ⟨b3, h4, hf⟩ := zz_bind hf
    refine zz_cutI (P := b3 = true) 21 [(0, .ref (ad 21)), (1, .int piece_), (2, .int joined_), (3, .int before_), (4, .int round_)] [] (zz_wc U ad σ X) (fun g7 => ?_) (fun J5 => ?_)
    · rw [if_pos g7] at hf
      refine zz_iload_n C 2 dX6_joinedTo_21 rfl rfl ?_
      refine zz_istore_n C dX6_joinedTo_22 rfl (by decide) (lv' := [(3, .int joined_), (0, .ref (ad 21)), (1, .int piece_), (2, .int joined_), (4, .int round_)]) rfl ?_
      refine zz_iconst (v := (0 : Int32)) C dX6_joinedTo_23 (by decide) ?_
      refine zz_istore C dX6_joinedTo_24 (by decide) (lv' := [(5, .int (0 : Int32)), (3, .int joined_), (0, .ref (ad 21)), (1, .int piece_), (2, .int joined_), (4, .int round_)]) rfl ?_
      obtain ⟨q21, h22, hf⟩ := zz_bind hf
      refine zz_sub [2, 3, 4, 1, 5, 0] rfl ?_
      refine mX6_joinedTo_L2 C hcR hsR σ piece_ joined_ round_ 1000 joined_ (0 : Int32) q21 h22 ?_
      refine zz_iinc (v := (round_ + (1 : Int32))) C 4 dX6_joinedTo_62 rfl (by rfl) (by decide) (lv' := [(4, .int (round_ + (1 : Int32))), (0, .ref (ad 21)), (1, .int piece_), (2, .int q21.1), (3, .int joined_), (5, .int q21.2)]) rfl ?_
      refine zz_goto (tgt := 9) C dX6_joinedTo_65 (by decide) ?_
      refine zz_sub [1, 2, 3, 4, 0] rfl ?_
      exact ih q21.1 joined_ (round_ + (1 : Int32)) _ hf kx
    refine zz_cutI (P := b3 = false) 68 [(0, .ref (ad 21)), (1, .int piece_), (2, .int joined_), (3, .int before_), (4, .int round_)] [] (zz_wc U ad σ X) (fun g7 => ?_) (fun J6 => ?_)
    · rw [if_neg (show ¬ b3 = true by rw [g7]; decide)] at hf
      cases hf
      exact kx
    refine zz_iload C 4 dX6_joinedTo_9 rfl ?_
    refine zz_bipush (v := (14 : Int32)) C dX6_joinedTo_11 (by decide) ?_
    refine zz_icmp_ge (tgt := 68) C dX6_joinedTo_13 (by decide) (fun g8 => ?_) (fun g8 => ?_)
    · rw [if_pos g8] at h4
      cases h4
      exact J6 rfl
    · rw [if_neg g8] at h4
      refine zz_iload_n C 2 dX6_joinedTo_16 rfl rfl ?_
      refine zz_iload_n C 3 dX6_joinedTo_17 rfl rfl ?_
      refine zz_icmp_eq (tgt := 68) C dX6_joinedTo_18 (by decide) (fun g9 => ?_) (fun g9 => ?_)
      · rw [if_pos g9] at h4
        cases h4
        exact J6 rfl
      · rw [if_neg g9] at h4
        cases h4
        exact J5 rfl
set_option maxHeartbeats 4000000 in
set_option maxRecDepth 100000 in
theorem mX6_joinedTo {D : va_G} {U : zz_U} {ad : Nat → Nat} {X : va_W} (σ : zz_St) (piece_ : Int32) (r : Int32) (hf : fX6_joinedTo σ piece_ = some r) : zz_Met yX6_joinedTo (.code yX6_joinedTo cX6_joinedTo 6 (some .int)) 1 0 0 D U [.ref (ad 21), .int piece_] (zz_wc U ad σ X) (zz_ok (some (.int r)) (zz_wc U ad σ X)) zz_noth := by
  unfold fX6_joinedTo at hf
  refine zz_method RX6 rfl (by decide +kernel) (Nat.le_of_ble_eq_true rfl) ?_
  intro p l e s m args below meth c A _ C
  refine zz_lvs (lv1 := [(0, .ref (ad 21)), (1, .int piece_)]) rfl ?_
  refine zz_iconst (v := (1 : Int32)) C dX6_joinedTo_0 (by decide) ?_
  refine zz_iload_n C 1 dX6_joinedTo_1 rfl rfl ?_
  refine zz_ishl C dX6_joinedTo_2 ?_
  obtain ⟨x1, h2, hf⟩ := zz_bind hf
  refine zz_topi (Option.some.inj h2) ?_
  refine zz_istore_n C dX6_joinedTo_3 rfl (by decide) (lv' := [(2, .int x1), (0, .ref (ad 21)), (1, .int piece_)]) rfl ?_
  refine zz_iconst (v := (0 : Int32)) C dX6_joinedTo_4 (by decide) ?_
  refine zz_istore_n C dX6_joinedTo_5 rfl (by decide) (lv' := [(3, .int (0 : Int32)), (2, .int x1), (0, .ref (ad 21)), (1, .int piece_)]) rfl ?_
  refine zz_iconst (v := (0 : Int32)) C dX6_joinedTo_6 (by decide) ?_
  refine zz_istore C dX6_joinedTo_7 (by decide) (lv' := [(4, .int (0 : Int32)), (3, .int (0 : Int32)), (2, .int x1), (0, .ref (ad 21)), (1, .int piece_)]) rfl ?_
  obtain ⟨q23, h24, hf⟩ := zz_bind hf
  refine zz_sub [3, 4, 2, 1, 0] rfl ?_
  refine mX6_joinedTo_L1 C (Nat.le_of_ble_eq_true rfl) (Nat.le_of_ble_eq_true rfl) σ piece_ 1000 x1 (0 : Int32) (0 : Int32) q23 h24 ?_
  refine zz_iload_n C 2 dX6_joinedTo_68 rfl rfl ?_
  cases hf
  exact zz_iret C dX6_joinedTo_69 (And.intro rfl rfl) (Nat.le_of_ble_eq_true rfl) (Nat.le_of_ble_eq_true rfl)
theorem dX6_isContradiction_0 : decode cX6_isContradiction 0 = .ok (.iconst 0, 1) := by decide +kernel
theorem dX6_isContradiction_1 : decode cX6_isContradiction 1 = .ok (.istore_n 1, 1) := by decide +kernel
theorem dX6_isContradiction_2 : decode cX6_isContradiction 2 = .ok (.iload_n 1, 1) := by decide +kernel
theorem dX6_isContradiction_3 : decode cX6_isContradiction 3 = .ok (.bipush 14, 2) := by decide +kernel
theorem dX6_isContradiction_5 : decode cX6_isContradiction 5 = .ok (.if_icmp .ge 35, 3) := by decide +kernel
theorem dX6_isContradiction_8 : decode cX6_isContradiction 8 = .ok (.aload_n 0, 1) := by decide +kernel
theorem dX6_isContradiction_9 : decode cX6_isContradiction 9 = .ok (.getfield 15, 3) := by decide +kernel
theorem dX6_isContradiction_12 : decode cX6_isContradiction 12 = .ok (.iload_n 1, 1) := by decide +kernel
theorem dX6_isContradiction_13 : decode cX6_isContradiction 13 = .ok (.iaload, 1) := by decide +kernel
theorem dX6_isContradiction_14 : decode cX6_isContradiction 14 = .ok (.ifCond .eq 20, 3) := by decide +kernel
theorem dX6_isContradiction_17 : decode cX6_isContradiction 17 = .ok (.aload_n 0, 1) := by decide +kernel
theorem dX6_isContradiction_18 : decode cX6_isContradiction 18 = .ok (.iload_n 1, 1) := by decide +kernel
theorem dX6_isContradiction_19 : decode cX6_isContradiction 19 = .ok (.invokevirtual 26, 3) := by decide +kernel
theorem dX6_isContradiction_22 : decode cX6_isContradiction 22 = .ok (.aload_n 0, 1) := by decide +kernel
theorem dX6_isContradiction_23 : decode cX6_isContradiction 23 = .ok (.getfield 15, 3) := by decide +kernel
theorem dX6_isContradiction_26 : decode cX6_isContradiction 26 = .ok (.iload_n 1, 1) := by decide +kernel
theorem dX6_isContradiction_27 : decode cX6_isContradiction 27 = .ok (.iaload, 1) := by decide +kernel
theorem dX6_isContradiction_28 : decode cX6_isContradiction 28 = .ok (.iand, 1) := by decide +kernel
theorem dX6_isContradiction_29 : decode cX6_isContradiction 29 = .ok (.ifCond .eq 5, 3) := by decide +kernel
theorem dX6_isContradiction_32 : decode cX6_isContradiction 32 = .ok (.iconst 1, 1) := by decide +kernel
theorem dX6_isContradiction_33 : decode cX6_isContradiction 33 = .ok (.ireturn, 1) := by decide +kernel
theorem dX6_isContradiction_34 : decode cX6_isContradiction 34 = .ok (.iinc 1 1, 3) := by decide +kernel
theorem dX6_isContradiction_37 : decode cX6_isContradiction 37 = .ok (.goto (-35), 3) := by decide +kernel
theorem dX6_isContradiction_40 : decode cX6_isContradiction 40 = .ok (.iconst 0, 1) := by decide +kernel
theorem dX6_isContradiction_41 : decode cX6_isContradiction 41 = .ok (.ireturn, 1) := by decide +kernel
set_option maxHeartbeats 4000000 in
set_option maxRecDepth 100000 in
theorem mX6_isContradiction_L1 {p : Program} {l : Launch} {e : Env} {R : Room} {s : State} {m : MethodId} {args : Array Value} {below : List Frame} {meth : Method} {c : Code} {Q : State → Prop} {D : va_G} {U : zz_U} {A : Nat → Prop} {cells slots : Nat} {ad : Nat → Nat} {X : va_W} (C : zz_C p l R s m meth c D U A RX6 cX6_isContradiction 2 (some .boolean) [] 2) (hcR : cells ≤ R.cells) (hsR : slots ≤ R.slots) (σ : zz_St) : ∀ (n : Nat) (piece_ : Int32) (q : (Int32 ⊕ (Int32))), fX6_isContradiction_L1 σ n piece_ = some q → (∀ v : Int32, q = .inl v → zz_Z p l e R s m args below meth c Q D A 2 cells slots (zz_wc U ad σ X) 33 [] [.int v]) → (∀ w : Int32, q = .inr w → zz_Z p l e R s m args below meth c Q D A 2 cells slots (zz_wc U ad σ X) 40 [(0, .ref (ad 21)), (1, .int w)] []) → zz_Z p l e R s m args below meth c Q D A 2 cells slots (zz_wc U ad σ X) 2 [(0, .ref (ad 21)), (1, .int piece_)] [] := by
  intro n
  induction n with
  | zero => intro piece_ q hf; rw [fX6_isContradiction_L1] at hf; cases hf
  | succ n ih =>
    intro piece_ q hf kr kx
    rw [fX6_isContradiction_L1] at hf
    refine zz_iload_n C 1 dX6_isContradiction_2 rfl rfl ?_
    refine zz_bipush (v := (14 : Int32)) C dX6_isContradiction_3 (by decide) ?_
    refine zz_icmp_ge (tgt := 40) C dX6_isContradiction_5 (by decide) (fun g1 => ?_) (fun g1 => ?_)
    · rw [if_pos g1] at hf
      cases hf
      exact kx _ rfl
    · rw [if_neg g1] at hf
      obtain ⟨b2, h3, hf⟩ := zz_bind hf
      refine zz_cutI (P := b2 = true) 32 [(0, .ref (ad 21)), (1, .int piece_)] [] (zz_wc U ad σ X) (fun g6 => ?_) (fun J4 => ?_)
      · rw [if_pos g6] at hf
        refine zz_iconst (v := (1 : Int32)) C dX6_isContradiction_32 (by decide) ?_
        cases hf
        refine zz_sub [] rfl ?_
        exact kr _ rfl
      refine zz_cutI (P := b2 = false) 34 [(0, .ref (ad 21)), (1, .int piece_)] [] (zz_wc U ad σ X) (fun g6 => ?_) (fun J5 => ?_)
      · rw [if_neg (show ¬ b2 = true by rw [g6]; decide)] at hf
        refine zz_iinc (v := (piece_ + (1 : Int32))) C 1 dX6_isContradiction_34 rfl (by rfl) (by decide) (lv' := [(1, .int (piece_ + (1 : Int32))), (0, .ref (ad 21))]) rfl ?_
        refine zz_goto (tgt := 2) C dX6_isContradiction_37 (by decide) ?_
        refine zz_sub [1, 0] rfl ?_
        exact ih (piece_ + (1 : Int32)) _ hf kr kx
      refine zz_aload_n C 0 dX6_isContradiction_8 rfl rfl ?_
      refine zf6_mustNot C dX6_isContradiction_9 zw_27 ?_
      refine zz_iload_n C 1 dX6_isContradiction_12 rfl rfl ?_
      obtain ⟨x7, h8, h3⟩ := zz_bind h3
      refine zl_23 C dX6_isContradiction_13 h8 ?_
      refine zz_if_eq (tgt := 34) C dX6_isContradiction_14 (by decide) (fun g9 => ?_) (fun g9 => ?_)
      · rw [if_pos g9] at h3
        cases h3
        exact J5 rfl
      · rw [if_neg g9] at h3
        refine zz_aload_n C 0 dX6_isContradiction_17 rfl rfl ?_
        refine zz_iload_n C 1 dX6_isContradiction_18 rfl rfl ?_
        obtain ⟨x10, h11, h3⟩ := zz_bind h3
        refine zz_callV1 (As := [.int piece_]) (rest := []) C 21 (mX6_joinedTo σ piece_ x10 h11) dX6_isContradiction_19 rfl rfl rfl zw_30 zy_X6_joinedTo rfl (by decide) (by decide) (Nat.le_of_ble_eq_true rfl) hcR hsR rfl ?_
        refine zz_aload_n C 0 dX6_isContradiction_22 rfl rfl ?_
        refine zf6_mustNot C dX6_isContradiction_23 zw_27 ?_
        refine zz_iload_n C 1 dX6_isContradiction_26 rfl rfl ?_
        obtain ⟨x12, h13, h3⟩ := zz_bind h3
        refine zl_23 C dX6_isContradiction_27 h13 ?_
        refine zz_iand C dX6_isContradiction_28 ?_
        refine zz_if_eq (tgt := 34) C dX6_isContradiction_29 (by decide) (fun g14 => ?_) (fun g14 => ?_)
        · rw [if_pos g14] at h3
          cases h3
          exact J5 rfl
        · rw [if_neg g14] at h3
          cases h3
          exact J4 rfl
set_option maxHeartbeats 4000000 in
set_option maxRecDepth 100000 in
theorem mX6_isContradiction {D : va_G} {U : zz_U} {ad : Nat → Nat} {X : va_W} (σ : zz_St) (r : Int32) (hf : fX6_isContradiction σ = some r) : zz_Met yX6_isContradiction (.code yX6_isContradiction cX6_isContradiction 2 (some .boolean)) 2 0 0 D U [.ref (ad 21)] (zz_wc U ad σ X) (zz_ok (some (.int r)) (zz_wc U ad σ X)) zz_noth := by
  unfold fX6_isContradiction at hf
  refine zz_method RX6 rfl (by decide +kernel) (Nat.le_of_ble_eq_true rfl) ?_
  intro p l e s m args below meth c A _ C
  refine zz_lvs (lv1 := [(0, .ref (ad 21))]) rfl ?_
  refine zz_iconst (v := (0 : Int32)) C dX6_isContradiction_0 (by decide) ?_
  refine zz_istore_n C dX6_isContradiction_1 rfl (by decide) (lv' := [(1, .int (0 : Int32)), (0, .ref (ad 21))]) rfl ?_
  obtain ⟨q15, h16, hf⟩ := zz_bind hf
  refine zz_sub [1, 0] rfl ?_
  refine mX6_isContradiction_L1 C (Nat.le_of_ble_eq_true rfl) (Nat.le_of_ble_eq_true rfl) σ 1000 (0 : Int32) q15 h16 (fun v17 h19 => ?_) (fun w18 h19 => ?_)
  · subst h19
    obtain ⟨x20, h21, hf⟩ := zz_bind hf
    refine zz_topi (zz_bo_in h21).2 ?_
    cases hf
    exact zz_zret C dX6_isContradiction_33 (by rw [← (zz_bo_in h21).2]; exact (zz_bo_in h21).1) (And.intro rfl rfl) (Nat.le_of_ble_eq_true rfl) (Nat.le_of_ble_eq_true rfl)
  · subst h19
    refine zz_iconst (v := (0 : Int32)) C dX6_isContradiction_40 (by decide) ?_
    cases hf
    exact zz_zret C dX6_isContradiction_41 (Or.inl rfl) (And.intro rfl rfl) (Nat.le_of_ble_eq_true rfl) (Nat.le_of_ble_eq_true rfl)
theorem dX7_say_0 : decode cX7_say 0 = .ok (.aload_n 0, 1) := by decide +kernel
theorem dX7_say_1 : decode cX7_say 1 = .ok (.iload_n 1, 1) := by decide +kernel
theorem dX7_say_2 : decode cX7_say 2 = .ok (.invokevirtual 136, 3) := by decide +kernel
theorem dX7_say_5 : decode cX7_say 5 = .ok (.aload_n 0, 1) := by decide +kernel
theorem dX7_say_6 : decode cX7_say 6 = .ok (.iload_n 2, 1) := by decide +kernel
theorem dX7_say_7 : decode cX7_say 7 = .ok (.invokevirtual 136, 3) := by decide +kernel
theorem dX7_say_10 : decode cX7_say 10 = .ok (.iload_n 1, 1) := by decide +kernel
theorem dX7_say_11 : decode cX7_say 11 = .ok (.iload_n 2, 1) := by decide +kernel
theorem dX7_say_12 : decode cX7_say 12 = .ok (.invokestatic 139, 3) := by decide +kernel
theorem dX7_say_15 : decode cX7_say 15 = .ok (.iload_n 3, 1) := by decide +kernel
theorem dX7_say_16 : decode cX7_say 16 = .ok (.iconst 2, 1) := by decide +kernel
theorem dX7_say_17 : decode cX7_say 17 = .ok (.invokestatic 58, 3) := by decide +kernel
theorem dX7_say_20 : decode cX7_say 20 = .ok (.ifCond .ne 13, 3) := by decide +kernel
theorem dX7_say_23 : decode cX7_say 23 = .ok (.new 62, 3) := by decide +kernel
theorem dX7_say_26 : decode cX7_say 26 = .ok (.dup, 1) := by decide +kernel
theorem dX7_say_27 : decode cX7_say 27 = .ok (.ldc 160, 2) := by decide +kernel
theorem dX7_say_29 : decode cX7_say 29 = .ok (.invokespecial 66, 3) := by decide +kernel
theorem dX7_say_32 : decode cX7_say 32 = .ok (.athrow, 1) := by decide +kernel
theorem dX7_say_33 : decode cX7_say 33 = .ok (.aload_n 0, 1) := by decide +kernel
theorem dX7_say_34 : decode cX7_say 34 = .ok (.getfield 33, 3) := by decide +kernel
theorem dX7_say_37 : decode cX7_say 37 = .ok (.iload_n 1, 1) := by decide +kernel
theorem dX7_say_38 : decode cX7_say 38 = .ok (.iload_n 2, 1) := by decide +kernel
theorem dX7_say_39 : decode cX7_say 39 = .ok (.invokevirtual 162, 3) := by decide +kernel
theorem dX7_say_42 : decode cX7_say 42 = .ok (.istore 4, 2) := by decide +kernel
theorem dX7_say_44 : decode cX7_say 44 = .ok (.aload_n 0, 1) := by decide +kernel
theorem dX7_say_45 : decode cX7_say 45 = .ok (.getfield 33, 3) := by decide +kernel
theorem dX7_say_48 : decode cX7_say 48 = .ok (.iload_n 1, 1) := by decide +kernel
theorem dX7_say_49 : decode cX7_say 49 = .ok (.iload_n 2, 1) := by decide +kernel
theorem dX7_say_50 : decode cX7_say 50 = .ok (.iload_n 3, 1) := by decide +kernel
theorem dX7_say_51 : decode cX7_say 51 = .ok (.invokevirtual 166, 3) := by decide +kernel
theorem dX7_say_54 : decode cX7_say 54 = .ok (.aload_n 0, 1) := by decide +kernel
theorem dX7_say_55 : decode cX7_say 55 = .ok (.getfield 33, 3) := by decide +kernel
theorem dX7_say_58 : decode cX7_say 58 = .ok (.invokevirtual 170, 3) := by decide +kernel
theorem dX7_say_61 : decode cX7_say 61 = .ok (.ifCond .eq 24, 3) := by decide +kernel
theorem dX7_say_64 : decode cX7_say 64 = .ok (.aload_n 0, 1) := by decide +kernel
theorem dX7_say_65 : decode cX7_say 65 = .ok (.getfield 33, 3) := by decide +kernel
theorem dX7_say_68 : decode cX7_say 68 = .ok (.iload_n 1, 1) := by decide +kernel
theorem dX7_say_69 : decode cX7_say 69 = .ok (.iload_n 2, 1) := by decide +kernel
theorem dX7_say_70 : decode cX7_say 70 = .ok (.iload 4, 2) := by decide +kernel
theorem dX7_say_72 : decode cX7_say 72 = .ok (.invokevirtual 166, 3) := by decide +kernel
theorem dX7_say_75 : decode cX7_say 75 = .ok (.new 75, 3) := by decide +kernel
theorem dX7_say_78 : decode cX7_say 78 = .ok (.dup, 1) := by decide +kernel
theorem dX7_say_79 : decode cX7_say 79 = .ok (.ldc 174, 2) := by decide +kernel
theorem dX7_say_81 : decode cX7_say 81 = .ok (.invokespecial 79, 3) := by decide +kernel
theorem dX7_say_84 : decode cX7_say 84 = .ok (.athrow, 1) := by decide +kernel
theorem dX7_say_85 : decode cX7_say 85 = .ok (.aload_n 0, 1) := by decide +kernel
theorem dX7_say_86 : decode cX7_say 86 = .ok (.invokevirtual 80, 3) := by decide +kernel
theorem dX7_say_89 : decode cX7_say 89 = .ok (.iload 4, 2) := by decide +kernel
theorem dX7_say_91 : decode cX7_say 91 = .ok (.ireturn, 1) := by decide +kernel
set_option maxHeartbeats 4000000 in
set_option maxRecDepth 100000 in
theorem mX7_say {D : va_G} {U : zz_U} {ad : Nat → Nat} {X : va_W} (σ : zz_St) (a_ : Int32) (b_ : Int32) (what_ : Int32) (r : ((Int32 ⊕ String) × zz_St)) (hf : fX7_say σ a_ b_ what_ = some r) : zz_Met yX7_say (.code yX7_say cX7_say 5 (some .int)) 7 4 24 D U [.ref (ad 0), .int a_, .int b_, .int what_] (zz_wc U ad σ X) (match r.1 with | .inl x => zz_ok (some (.int x)) (zz_wc U ad r.2 X) | .inr _ => zz_none) (match r.1 with | .inl _ => zz_noth | .inr E => zz_th E (zz_wc U ad r.2 X)) := by
  unfold fX7_say at hf
  refine zz_method RX7 rfl (by decide +kernel) (Nat.le_of_ble_eq_true rfl) ?_
  intro p l e s m args below meth c A _ C
  refine zz_lvs (lv1 := [(0, .ref (ad 0)), (1, .int a_), (2, .int b_), (3, .int what_)]) rfl ?_
  refine zz_aload_n C 0 dX7_say_0 rfl rfl ?_
  refine zz_iload_n C 1 dX7_say_1 rfl rfl ?_
  obtain ⟨x1, h2, hf⟩ := zz_bind hf
  rcases x1 with x1 | E3
  · refine zz_callV1 (As := [.int a_]) (rest := []) C 0 (mX7_requirePiece_r σ a_ x1 h2) dX7_say_2 rfl rfl rfl zw_14 zy_X7_requirePiece rfl (by decide) (by decide) (Nat.le_of_ble_eq_true rfl) (Nat.le_of_ble_eq_true rfl) (Nat.le_of_ble_eq_true rfl) rfl ?_
    refine zz_aload_n C 0 dX7_say_5 rfl rfl ?_
    refine zz_iload_n C 2 dX7_say_6 rfl rfl ?_
    obtain ⟨x4, h5, hf⟩ := zz_bind hf
    rcases x4 with x4 | E6
    · refine zz_callV1 (As := [.int b_]) (rest := []) C 0 (mX7_requirePiece_r σ b_ x4 h5) dX7_say_7 rfl rfl rfl zw_14 zy_X7_requirePiece rfl (by decide) (by decide) (Nat.le_of_ble_eq_true rfl) (Nat.le_of_ble_eq_true rfl) (Nat.le_of_ble_eq_true rfl) rfl ?_
      refine zz_iload_n C 1 dX7_say_10 rfl rfl ?_
      refine zz_iload_n C 2 dX7_say_11 rfl rfl ?_
      obtain ⟨x7, h8, hf⟩ := zz_bind hf
      rcases x7 with x7 | E9
      · refine zz_callS1 (As := [.int a_, .int b_]) (rest := []) C (mX7_requireDifferent_r σ a_ b_ x7 h8) dX7_say_12 rfl zw_35 zy_X7_requireDifferent rfl (by decide) (by decide) (Nat.le_of_ble_eq_true rfl) (Nat.le_of_ble_eq_true rfl) (Nat.le_of_ble_eq_true rfl) rfl ?_
        refine zz_iload_n C 3 dX7_say_15 rfl rfl ?_
        refine zz_iconst (v := (2 : Int32)) C dX7_say_16 (by decide) ?_
        obtain ⟨x10, h11, hf⟩ := zz_bind hf
        refine zz_callS1 (As := [.int what_, .int (2 : Int32)]) (rest := []) C (mX7_isUpTo σ what_ (2 : Int32) x10 h11) dX7_say_17 rfl zw_0 zy_X7_isUpTo rfl (by decide) (by decide) (Nat.le_of_ble_eq_true rfl) (Nat.le_of_ble_eq_true rfl) (Nat.le_of_ble_eq_true rfl) rfl ?_
        refine zz_if_ne (tgt := 33) C dX7_say_20 (by decide) (fun g12 => ?_) (fun g12 => ?_)
        · rw [if_neg g12] at hf
          refine zz_aload_n C 0 dX7_say_33 rfl rfl ?_
          refine zf7_sayings C dX7_say_34 zw_32 ?_
          refine zz_iload_n C 1 dX7_say_37 rfl rfl ?_
          refine zz_iload_n C 2 dX7_say_38 rfl rfl ?_
          obtain ⟨x13, h14, hf⟩ := zz_bind hf
          refine zz_callV1 (As := [.int a_, .int b_]) (rest := []) C 21 (mX6_saidOf σ a_ b_ x13 h14) dX7_say_39 rfl rfl rfl zw_34 zy_X6_saidOf rfl (by decide) (by decide) (Nat.le_of_ble_eq_true rfl) (Nat.le_of_ble_eq_true rfl) (Nat.le_of_ble_eq_true rfl) rfl ?_
          refine zz_istore C dX7_say_42 (by decide) (lv' := [(4, .int x13), (0, .ref (ad 0)), (1, .int a_), (2, .int b_), (3, .int what_)]) rfl ?_
          refine zz_aload_n C 1 dX7_say_44 rfl rfl ?_
          refine zf7_sayings C dX7_say_45 zw_32 ?_
          refine zz_iload_n C 2 dX7_say_48 rfl rfl ?_
          refine zz_iload_n C 3 dX7_say_49 rfl rfl ?_
          refine zz_iload_n C 4 dX7_say_50 rfl rfl ?_
          obtain ⟨x15, h16, hf⟩ := zz_bind hf
          refine zz_callV1 (As := [.int a_, .int b_, .int what_]) (rest := []) C 21 (mX6_put σ a_ b_ what_ x15 h16) dX7_say_51 rfl rfl rfl zw_31 zy_X6_put rfl (by decide) (by decide) (Nat.le_of_ble_eq_true rfl) (Nat.le_of_ble_eq_true rfl) (Nat.le_of_ble_eq_true rfl) rfl ?_
          refine zz_aload_n C 1 dX7_say_54 rfl rfl ?_
          refine zf7_sayings C dX7_say_55 zw_32 ?_
          obtain ⟨x17, h18, hf⟩ := zz_bind hf
          refine zz_callV1 (As := []) (rest := []) C 21 (mX6_isContradiction x15 x17 h18) dX7_say_58 rfl rfl rfl zw_33 zy_X6_isContradiction rfl (by decide) (by decide) (Nat.le_of_ble_eq_true rfl) (Nat.le_of_ble_eq_true rfl) (Nat.le_of_ble_eq_true rfl) rfl ?_
          refine zz_if_eq (tgt := 85) C dX7_say_61 (by decide) (fun g19 => ?_) (fun g19 => ?_)
          · rw [if_pos g19] at hf
            refine zz_aload_n C 1 dX7_say_85 rfl rfl ?_
            obtain ⟨x20, h21, hf⟩ := zz_bind hf
            refine zz_callV1 (As := []) (rest := []) C 0 (mX7_forgetResults x15 x20 h21) dX7_say_86 rfl rfl rfl zw_11 zy_X7_forgetResults rfl (by decide) (by decide) (Nat.le_of_ble_eq_true rfl) (Nat.le_of_ble_eq_true rfl) (Nat.le_of_ble_eq_true rfl) rfl ?_
            refine zz_iload C 0 dX7_say_89 rfl ?_
            cases hf
            exact zz_iret C dX7_say_91 (And.intro rfl rfl) (Nat.le_of_ble_eq_true rfl) (Nat.le_of_ble_eq_true rfl)
          · rw [if_neg g19] at hf
            refine zz_aload_n C 1 dX7_say_64 rfl rfl ?_
            refine zf7_sayings C dX7_say_65 zw_32 ?_
            refine zz_iload_n C 2 dX7_say_68 rfl rfl ?_
            refine zz_iload_n C 3 dX7_say_69 rfl rfl ?_
            refine zz_iload C 0 dX7_say_70 rfl ?_
            obtain ⟨x22, h23, hf⟩ := zz_bind hf
            refine zz_callV1 (As := [.int a_, .int b_, .int x13]) (rest := []) C 21 (mX6_put x15 a_ b_ x13 x22 h23) dX7_say_72 rfl rfl rfl zw_31 zy_X6_put rfl (by decide) (by decide) (Nat.le_of_ble_eq_true rfl) (Nat.le_of_ble_eq_true rfl) (Nat.le_of_ble_eq_true rfl) rfl ?_
            cases hf
            exact zz_throwS (cls := "java/lang/IllegalStateException") (text := "pieces would be joined that must not be together") C zt_1 (by decide +kernel) dX7_say_75 dX7_say_78 dX7_say_79 dX7_say_81 dX7_say_84 (by decide) (Nat.le_of_ble_eq_true rfl) (Nat.le_of_ble_eq_true rfl) (Nat.le_of_ble_eq_true rfl) (Nat.le_of_ble_eq_true rfl) (Nat.le_of_ble_eq_true rfl) (And.intro rfl rfl)
        · rw [if_pos g12] at hf
          cases hf
          exact zz_throwS (cls := "java/lang/IllegalArgumentException") (text := "nothing that can be said") C zt_0 (by decide +kernel) dX7_say_23 dX7_say_26 dX7_say_27 dX7_say_29 dX7_say_32 (by decide) (Nat.le_of_ble_eq_true rfl) (Nat.le_of_ble_eq_true rfl) (Nat.le_of_ble_eq_true rfl) (Nat.le_of_ble_eq_true rfl) (Nat.le_of_ble_eq_true rfl) (And.intro rfl rfl)
      · refine zz_callSx (As := [.int a_, .int b_]) (rest := []) C (mX7_requireDifferent_x σ a_ b_ E9 h8) dX7_say_12 rfl zw_35 zy_X7_requireDifferent rfl (by decide) (by decide) (Nat.le_of_ble_eq_true rfl) (Nat.le_of_ble_eq_true rfl) (Nat.le_of_ble_eq_true rfl) ?_
        cases hf
        exact zz_out C (And.intro rfl rfl) (Nat.le_of_ble_eq_true rfl) (Nat.le_of_ble_eq_true rfl)
    · refine zz_callVx (As := [.int b_]) (rest := []) C 0 (mX7_requirePiece_x σ b_ E6 h5) dX7_say_7 rfl rfl rfl zw_14 zy_X7_requirePiece rfl (by decide) (by decide) (Nat.le_of_ble_eq_true rfl) (Nat.le_of_ble_eq_true rfl) (Nat.le_of_ble_eq_true rfl) ?_
      cases hf
      exact zz_out C (And.intro rfl rfl) (Nat.le_of_ble_eq_true rfl) (Nat.le_of_ble_eq_true rfl)
  · refine zz_callVx (As := [.int a_]) (rest := []) C 0 (mX7_requirePiece_x σ a_ E3 h2) dX7_say_2 rfl rfl rfl zw_14 zy_X7_requirePiece rfl (by decide) (by decide) (Nat.le_of_ble_eq_true rfl) (Nat.le_of_ble_eq_true rfl) (Nat.le_of_ble_eq_true rfl) ?_
    cases hf
    exact zz_out C (And.intro rfl rfl) (Nat.le_of_ble_eq_true rfl) (Nat.le_of_ble_eq_true rfl)
theorem mX7_say_r {D : va_G} {U : zz_U} {ad : Nat → Nat} {X : va_W} (σ : zz_St) (a_ : Int32) (b_ : Int32) (what_ : Int32) (x : Int32) (σ1 : zz_St) (hf : fX7_say σ a_ b_ what_ = some (.inl x, σ1)) : zz_Met yX7_say (.code yX7_say cX7_say 5 (some .int)) 7 4 24 D U [.ref (ad 0), .int a_, .int b_, .int what_] (zz_wc U ad σ X) (zz_ok (some (.int x)) (zz_wc U ad σ1 X)) zz_noth := mX7_say σ a_ b_ what_ (.inl x, σ1) hf
theorem mX7_say_x {D : va_G} {U : zz_U} {ad : Nat → Nat} {X : va_W} (σ : zz_St) (a_ : Int32) (b_ : Int32) (what_ : Int32) (x : String) (σ1 : zz_St) (hf : fX7_say σ a_ b_ what_ = some (.inr x, σ1)) : zz_Met yX7_say (.code yX7_say cX7_say 5 (some .int)) 7 4 24 D U [.ref (ad 0), .int a_, .int b_, .int what_] (zz_wc U ad σ X) zz_none (zz_th x (zz_wc U ad σ1 X)) := mX7_say σ a_ b_ what_ (.inr x, σ1) hf
theorem dX2_isNear_0 : decode cX2_isNear 0 = .ok (.aload_n 1, 1) := by decide +kernel
theorem dX2_isNear_1 : decode cX2_isNear 1 = .ok (.getfield 41, 3) := by decide +kernel
theorem dX2_isNear_4 : decode cX2_isNear 4 = .ok (.iload_n 2, 1) := by decide +kernel
theorem dX2_isNear_5 : decode cX2_isNear 5 = .ok (.iaload, 1) := by decide +kernel
theorem dX2_isNear_6 : decode cX2_isNear 6 = .ok (.aload_n 1, 1) := by decide +kernel
theorem dX2_isNear_7 : decode cX2_isNear 7 = .ok (.getfield 41, 3) := by decide +kernel
theorem dX2_isNear_10 : decode cX2_isNear 10 = .ok (.iload_n 3, 1) := by decide +kernel
theorem dX2_isNear_11 : decode cX2_isNear 11 = .ok (.iaload, 1) := by decide +kernel
theorem dX2_isNear_12 : decode cX2_isNear 12 = .ok (.if_icmp .ne 30, 3) := by decide +kernel
theorem dX2_isNear_15 : decode cX2_isNear 15 = .ok (.aload_n 1, 1) := by decide +kernel
theorem dX2_isNear_16 : decode cX2_isNear 16 = .ok (.getfield 44, 3) := by decide +kernel
theorem dX2_isNear_19 : decode cX2_isNear 19 = .ok (.iload_n 2, 1) := by decide +kernel
theorem dX2_isNear_20 : decode cX2_isNear 20 = .ok (.iaload, 1) := by decide +kernel
theorem dX2_isNear_21 : decode cX2_isNear 21 = .ok (.aload_n 1, 1) := by decide +kernel
theorem dX2_isNear_22 : decode cX2_isNear 22 = .ok (.getfield 44, 3) := by decide +kernel
theorem dX2_isNear_25 : decode cX2_isNear 25 = .ok (.iload_n 3, 1) := by decide +kernel
theorem dX2_isNear_26 : decode cX2_isNear 26 = .ok (.iaload, 1) := by decide +kernel
theorem dX2_isNear_27 : decode cX2_isNear 27 = .ok (.isub, 1) := by decide +kernel
theorem dX2_isNear_28 : decode cX2_isNear 28 = .ok (.invokestatic 47, 3) := by decide +kernel
theorem dX2_isNear_31 : decode cX2_isNear 31 = .ok (.aload_n 0, 1) := by decide +kernel
theorem dX2_isNear_32 : decode cX2_isNear 32 = .ok (.getfield 15, 3) := by decide +kernel
theorem dX2_isNear_35 : decode cX2_isNear 35 = .ok (.if_icmp .gt 7, 3) := by decide +kernel
theorem dX2_isNear_38 : decode cX2_isNear 38 = .ok (.iconst 1, 1) := by decide +kernel
theorem dX2_isNear_39 : decode cX2_isNear 39 = .ok (.goto 4, 3) := by decide +kernel
theorem dX2_isNear_42 : decode cX2_isNear 42 = .ok (.iconst 0, 1) := by decide +kernel
theorem dX2_isNear_43 : decode cX2_isNear 43 = .ok (.ireturn, 1) := by decide +kernel
set_option maxHeartbeats 4000000 in
set_option maxRecDepth 100000 in
theorem mX2_isNear {D : va_G} {U : zz_U} {ad : Nat → Nat} {X : va_W} (σ : zz_St) (a_ : Int32) (b_ : Int32) (r : Int32) (hf : fX2_isNear σ a_ b_ = some r) : zz_Met yX2_isNear (.code yX2_isNear cX2_isNear 4 (some .boolean)) 1 0 0 D U [.ref (ad 19), .ref (ad 1), .int a_, .int b_] (zz_wc U ad σ X) (zz_ok (some (.int r)) (zz_wc U ad σ X)) zz_noth := by
  unfold fX2_isNear at hf
  refine zz_method RX2 rfl (by decide +kernel) (Nat.le_of_ble_eq_true rfl) ?_
  intro p l e s m args below meth c A _ C
  refine zz_lvs (lv1 := [(0, .ref (ad 19)), (1, .ref (ad 1)), (2, .int a_), (3, .int b_)]) rfl ?_
  obtain ⟨b1, h2, hf⟩ := zz_bind hf
  refine zz_cut 43 [(0, .ref (ad 19)), (1, .ref (ad 1)), (2, .int a_), (3, .int b_)] [.int (zz_bi b1)] (zz_wc U ad σ X) ?_ (fun J3 => ?_)
  · cases hf
    exact zz_zret C dX2_isNear_43 (zz_bi01 _) (And.intro rfl rfl) (Nat.le_of_ble_eq_true rfl) (Nat.le_of_ble_eq_true rfl)
  refine zz_aload_n C 1 dX2_isNear_0 rfl rfl ?_
  refine zf5_files C dX2_isNear_1 zw_39 ?_
  refine zz_iload_n C 2 dX2_isNear_4 rfl rfl ?_
  obtain ⟨x4, h5, h2⟩ := zz_bind h2
  refine zl_2 C dX2_isNear_5 h5 ?_
  refine zz_aload_n C 1 dX2_isNear_6 rfl rfl ?_
  refine zf5_files C dX2_isNear_7 zw_39 ?_
  refine zz_iload_n C 3 dX2_isNear_10 rfl rfl ?_
  obtain ⟨x6, h7, h2⟩ := zz_bind h2
  refine zl_2 C dX2_isNear_11 h7 ?_
  refine zz_icmp_ne (tgt := 42) C dX2_isNear_12 (by decide) (fun g8 => ?_) (fun g8 => ?_)
  · rw [if_neg g8] at h2
    refine zz_iconst (v := 0) C dX2_isNear_42 (by decide) ?_
    cases h2
    exact J3
  · rw [if_pos g8] at h2
    refine zz_aload_n C 1 dX2_isNear_15 rfl rfl ?_
    refine zf5_startLines C dX2_isNear_16 zw_38 ?_
    refine zz_iload_n C 2 dX2_isNear_19 rfl rfl ?_
    obtain ⟨x9, h10, h2⟩ := zz_bind h2
    refine zl_3 C dX2_isNear_20 h10 ?_
    refine zz_aload_n C 1 dX2_isNear_21 rfl rfl ?_
    refine zf5_startLines C dX2_isNear_22 zw_38 ?_
    refine zz_iload_n C 3 dX2_isNear_25 rfl rfl ?_
    obtain ⟨x11, h12, h2⟩ := zz_bind h2
    refine zl_3 C dX2_isNear_26 h12 ?_
    refine zz_isub C dX2_isNear_27 ?_
    refine zz_mabs (y := 0) C dX2_isNear_28 zw_36 zm_abs_1 zm_abs_2 zm_abs_3 (by decide) (Nat.le_of_ble_eq_true rfl) (Nat.le_of_ble_eq_true rfl) (Nat.le_of_ble_eq_true rfl) ?_
    refine zz_aload_n C 0 dX2_isNear_31 rfl rfl ?_
    refine zf2_span C dX2_isNear_32 zw_37 ?_
    refine zz_icmp_gt (tgt := 42) C dX2_isNear_35 (by decide) (fun g13 => ?_) (fun g13 => ?_)
    · rw [if_pos g13] at h2
      refine zz_iconst (v := 0) C dX2_isNear_42 (by decide) ?_
      cases h2
      exact J3
    · rw [if_neg g13] at h2
      refine zz_iconst (v := 1) C dX2_isNear_38 (by decide) ?_
      refine zz_goto (tgt := 43) C dX2_isNear_39 (by decide) ?_
      cases h2
      exact J3
theorem dJ6_bitCount_0f7a4_0 : decode cJ6_bitCount_0f7a4 0 = .ok (.iload_n 0, 1) := by decide +kernel
theorem dJ6_bitCount_0f7a4_1 : decode cJ6_bitCount_0f7a4 1 = .ok (.iload_n 0, 1) := by decide +kernel
theorem dJ6_bitCount_0f7a4_2 : decode cJ6_bitCount_0f7a4 2 = .ok (.iconst 1, 1) := by decide +kernel
theorem dJ6_bitCount_0f7a4_3 : decode cJ6_bitCount_0f7a4 3 = .ok (.iushr, 1) := by decide +kernel
theorem dJ6_bitCount_0f7a4_4 : decode cJ6_bitCount_0f7a4 4 = .ok (.ldc_w 265, 3) := by decide +kernel
theorem dJ6_bitCount_0f7a4_7 : decode cJ6_bitCount_0f7a4 7 = .ok (.iand, 1) := by decide +kernel
theorem dJ6_bitCount_0f7a4_8 : decode cJ6_bitCount_0f7a4 8 = .ok (.isub, 1) := by decide +kernel
theorem dJ6_bitCount_0f7a4_9 : decode cJ6_bitCount_0f7a4 9 = .ok (.istore_n 0, 1) := by decide +kernel
theorem dJ6_bitCount_0f7a4_10 : decode cJ6_bitCount_0f7a4 10 = .ok (.iload_n 0, 1) := by decide +kernel
theorem dJ6_bitCount_0f7a4_11 : decode cJ6_bitCount_0f7a4 11 = .ok (.ldc_w 266, 3) := by decide +kernel
theorem dJ6_bitCount_0f7a4_14 : decode cJ6_bitCount_0f7a4 14 = .ok (.iand, 1) := by decide +kernel
theorem dJ6_bitCount_0f7a4_15 : decode cJ6_bitCount_0f7a4 15 = .ok (.iload_n 0, 1) := by decide +kernel
theorem dJ6_bitCount_0f7a4_16 : decode cJ6_bitCount_0f7a4 16 = .ok (.iconst 2, 1) := by decide +kernel
theorem dJ6_bitCount_0f7a4_17 : decode cJ6_bitCount_0f7a4 17 = .ok (.iushr, 1) := by decide +kernel
theorem dJ6_bitCount_0f7a4_18 : decode cJ6_bitCount_0f7a4 18 = .ok (.ldc_w 266, 3) := by decide +kernel
theorem dJ6_bitCount_0f7a4_21 : decode cJ6_bitCount_0f7a4 21 = .ok (.iand, 1) := by decide +kernel
theorem dJ6_bitCount_0f7a4_22 : decode cJ6_bitCount_0f7a4 22 = .ok (.iadd, 1) := by decide +kernel
theorem dJ6_bitCount_0f7a4_23 : decode cJ6_bitCount_0f7a4 23 = .ok (.istore_n 0, 1) := by decide +kernel
theorem dJ6_bitCount_0f7a4_24 : decode cJ6_bitCount_0f7a4 24 = .ok (.iload_n 0, 1) := by decide +kernel
theorem dJ6_bitCount_0f7a4_25 : decode cJ6_bitCount_0f7a4 25 = .ok (.iload_n 0, 1) := by decide +kernel
theorem dJ6_bitCount_0f7a4_26 : decode cJ6_bitCount_0f7a4 26 = .ok (.iconst 4, 1) := by decide +kernel
theorem dJ6_bitCount_0f7a4_27 : decode cJ6_bitCount_0f7a4 27 = .ok (.iushr, 1) := by decide +kernel
theorem dJ6_bitCount_0f7a4_28 : decode cJ6_bitCount_0f7a4 28 = .ok (.iadd, 1) := by decide +kernel
theorem dJ6_bitCount_0f7a4_29 : decode cJ6_bitCount_0f7a4 29 = .ok (.ldc_w 267, 3) := by decide +kernel
theorem dJ6_bitCount_0f7a4_32 : decode cJ6_bitCount_0f7a4 32 = .ok (.iand, 1) := by decide +kernel
theorem dJ6_bitCount_0f7a4_33 : decode cJ6_bitCount_0f7a4 33 = .ok (.istore_n 0, 1) := by decide +kernel
theorem dJ6_bitCount_0f7a4_34 : decode cJ6_bitCount_0f7a4 34 = .ok (.iload_n 0, 1) := by decide +kernel
theorem dJ6_bitCount_0f7a4_35 : decode cJ6_bitCount_0f7a4 35 = .ok (.iload_n 0, 1) := by decide +kernel
theorem dJ6_bitCount_0f7a4_36 : decode cJ6_bitCount_0f7a4 36 = .ok (.bipush 8, 2) := by decide +kernel
theorem dJ6_bitCount_0f7a4_38 : decode cJ6_bitCount_0f7a4 38 = .ok (.iushr, 1) := by decide +kernel
theorem dJ6_bitCount_0f7a4_39 : decode cJ6_bitCount_0f7a4 39 = .ok (.iadd, 1) := by decide +kernel
theorem dJ6_bitCount_0f7a4_40 : decode cJ6_bitCount_0f7a4 40 = .ok (.istore_n 0, 1) := by decide +kernel
theorem dJ6_bitCount_0f7a4_41 : decode cJ6_bitCount_0f7a4 41 = .ok (.iload_n 0, 1) := by decide +kernel
theorem dJ6_bitCount_0f7a4_42 : decode cJ6_bitCount_0f7a4 42 = .ok (.iload_n 0, 1) := by decide +kernel
theorem dJ6_bitCount_0f7a4_43 : decode cJ6_bitCount_0f7a4 43 = .ok (.bipush 16, 2) := by decide +kernel
theorem dJ6_bitCount_0f7a4_45 : decode cJ6_bitCount_0f7a4 45 = .ok (.iushr, 1) := by decide +kernel
theorem dJ6_bitCount_0f7a4_46 : decode cJ6_bitCount_0f7a4 46 = .ok (.iadd, 1) := by decide +kernel
theorem dJ6_bitCount_0f7a4_47 : decode cJ6_bitCount_0f7a4 47 = .ok (.istore_n 0, 1) := by decide +kernel
theorem dJ6_bitCount_0f7a4_48 : decode cJ6_bitCount_0f7a4 48 = .ok (.iload_n 0, 1) := by decide +kernel
theorem dJ6_bitCount_0f7a4_49 : decode cJ6_bitCount_0f7a4 49 = .ok (.bipush 63, 2) := by decide +kernel
theorem dJ6_bitCount_0f7a4_51 : decode cJ6_bitCount_0f7a4 51 = .ok (.iand, 1) := by decide +kernel
theorem dJ6_bitCount_0f7a4_52 : decode cJ6_bitCount_0f7a4 52 = .ok (.ireturn, 1) := by decide +kernel
set_option maxHeartbeats 4000000 in
set_option maxRecDepth 100000 in
theorem mJ6_bitCount {D : va_G} {U : zz_U} {ws : va_W} (i_ : Int32) (r : Int32) (hf : fJ6_bitCount i_ = some r) : zz_Met yJ6_bitCount_0f7a4 (.code yJ6_bitCount_0f7a4 cJ6_bitCount_0f7a4 1 (some .int)) 0 0 0 D U [.int i_] ws (zz_ok (some (.int r)) ws) zz_noth := by
  unfold fJ6_bitCount at hf
  refine zz_method RJ6 rfl (by decide +kernel) (Nat.le_of_ble_eq_true rfl) ?_
  intro p l e s m args below meth c A _ C
  refine zz_lvs (lv1 := [(0, .int i_)]) rfl ?_
  refine zz_iload_n C 0 dJ6_bitCount_0f7a4_0 rfl rfl ?_
  refine zz_iload_n C 0 dJ6_bitCount_0f7a4_1 rfl rfl ?_
  refine zz_iconst (v := (1 : Int32)) C dJ6_bitCount_0f7a4_2 (by decide) ?_
  refine zz_iushr C dJ6_bitCount_0f7a4_3 ?_
  refine zz_ldcw (v := (1431655765 : Int32)) C dJ6_bitCount_0f7a4_4 zw_42 ?_
  refine zz_iand C dJ6_bitCount_0f7a4_7 ?_
  refine zz_isub C dJ6_bitCount_0f7a4_8 ?_
  obtain ⟨x1, h2, hf⟩ := zz_bind hf
  refine zz_topi (Option.some.inj h2) ?_
  refine zz_istore_n C dJ6_bitCount_0f7a4_9 rfl (by decide) (lv' := [(0, .int x1)]) rfl ?_
  refine zz_iload_n C 0 dJ6_bitCount_0f7a4_10 rfl rfl ?_
  refine zz_ldcw (v := (858993459 : Int32)) C dJ6_bitCount_0f7a4_11 zw_43 ?_
  refine zz_iand C dJ6_bitCount_0f7a4_14 ?_
  refine zz_iload_n C 0 dJ6_bitCount_0f7a4_15 rfl rfl ?_
  refine zz_iconst (v := (2 : Int32)) C dJ6_bitCount_0f7a4_16 (by decide) ?_
  refine zz_iushr C dJ6_bitCount_0f7a4_17 ?_
  refine zz_ldcw (v := (858993459 : Int32)) C dJ6_bitCount_0f7a4_18 zw_43 ?_
  refine zz_iand C dJ6_bitCount_0f7a4_21 ?_
  refine zz_iadd C dJ6_bitCount_0f7a4_22 ?_
  obtain ⟨x3, h4, hf⟩ := zz_bind hf
  refine zz_topi (Option.some.inj h4) ?_
  refine zz_istore_n C dJ6_bitCount_0f7a4_23 rfl (by decide) (lv' := [(0, .int x3)]) rfl ?_
  refine zz_iload_n C 0 dJ6_bitCount_0f7a4_24 rfl rfl ?_
  refine zz_iload_n C 0 dJ6_bitCount_0f7a4_25 rfl rfl ?_
  refine zz_iconst (v := (4 : Int32)) C dJ6_bitCount_0f7a4_26 (by decide) ?_
  refine zz_iushr C dJ6_bitCount_0f7a4_27 ?_
  refine zz_iadd C dJ6_bitCount_0f7a4_28 ?_
  refine zz_ldcw (v := (252645135 : Int32)) C dJ6_bitCount_0f7a4_29 zw_44 ?_
  refine zz_iand C dJ6_bitCount_0f7a4_32 ?_
  obtain ⟨x5, h6, hf⟩ := zz_bind hf
  refine zz_topi (Option.some.inj h6) ?_
  refine zz_istore_n C dJ6_bitCount_0f7a4_33 rfl (by decide) (lv' := [(0, .int x5)]) rfl ?_
  refine zz_iload_n C 0 dJ6_bitCount_0f7a4_34 rfl rfl ?_
  refine zz_iload_n C 0 dJ6_bitCount_0f7a4_35 rfl rfl ?_
  refine zz_bipush (v := (8 : Int32)) C dJ6_bitCount_0f7a4_36 (by decide) ?_
  refine zz_iushr C dJ6_bitCount_0f7a4_38 ?_
  refine zz_iadd C dJ6_bitCount_0f7a4_39 ?_
  obtain ⟨x7, h8, hf⟩ := zz_bind hf
  refine zz_topi (Option.some.inj h8) ?_
  refine zz_istore_n C dJ6_bitCount_0f7a4_40 rfl (by decide) (lv' := [(0, .int x7)]) rfl ?_
  refine zz_iload_n C 0 dJ6_bitCount_0f7a4_41 rfl rfl ?_
  refine zz_iload_n C 0 dJ6_bitCount_0f7a4_42 rfl rfl ?_
  refine zz_bipush (v := (16 : Int32)) C dJ6_bitCount_0f7a4_43 (by decide) ?_
  refine zz_iushr C dJ6_bitCount_0f7a4_45 ?_
  refine zz_iadd C dJ6_bitCount_0f7a4_46 ?_
  obtain ⟨x9, h10, hf⟩ := zz_bind hf
  refine zz_topi (Option.some.inj h10) ?_
  refine zz_istore_n C dJ6_bitCount_0f7a4_47 rfl (by decide) (lv' := [(0, .int x9)]) rfl ?_
  refine zz_iload_n C 0 dJ6_bitCount_0f7a4_48 rfl rfl ?_
  refine zz_bipush (v := (63 : Int32)) C dJ6_bitCount_0f7a4_49 (by decide) ?_
  refine zz_iand C dJ6_bitCount_0f7a4_51 ?_
  cases hf
  exact zz_iret C dJ6_bitCount_0f7a4_52 (And.intro rfl rfl) (Nat.le_of_ble_eq_true rfl) (Nat.le_of_ble_eq_true rfl)
theorem dX5_crossings_0 : decode cX5_crossings 0 = .ok (.aload_n 0, 1) := by decide +kernel
theorem dX5_crossings_1 : decode cX5_crossings 1 = .ok (.getfield 29, 3) := by decide +kernel
theorem dX5_crossings_4 : decode cX5_crossings 4 = .ok (.iload_n 3, 1) := by decide +kernel
theorem dX5_crossings_5 : decode cX5_crossings 5 = .ok (.aaload, 1) := by decide +kernel
theorem dX5_crossings_6 : decode cX5_crossings 6 = .ok (.iload_n 1, 1) := by decide +kernel
theorem dX5_crossings_7 : decode cX5_crossings 7 = .ok (.iaload, 1) := by decide +kernel
theorem dX5_crossings_8 : decode cX5_crossings 8 = .ok (.aload_n 0, 1) := by decide +kernel
theorem dX5_crossings_9 : decode cX5_crossings 9 = .ok (.getfield 29, 3) := by decide +kernel
theorem dX5_crossings_12 : decode cX5_crossings 12 = .ok (.iload 4, 2) := by decide +kernel
theorem dX5_crossings_14 : decode cX5_crossings 14 = .ok (.aaload, 1) := by decide +kernel
theorem dX5_crossings_15 : decode cX5_crossings 15 = .ok (.iload_n 2, 1) := by decide +kernel
theorem dX5_crossings_16 : decode cX5_crossings 16 = .ok (.iaload, 1) := by decide +kernel
theorem dX5_crossings_17 : decode cX5_crossings 17 = .ok (.iand, 1) := by decide +kernel
theorem dX5_crossings_18 : decode cX5_crossings 18 = .ok (.invokestatic 43, 3) := by decide +kernel
theorem dX5_crossings_21 : decode cX5_crossings 21 = .ok (.aload_n 0, 1) := by decide +kernel
theorem dX5_crossings_22 : decode cX5_crossings 22 = .ok (.getfield 29, 3) := by decide +kernel
theorem dX5_crossings_25 : decode cX5_crossings 25 = .ok (.iload_n 3, 1) := by decide +kernel
theorem dX5_crossings_26 : decode cX5_crossings 26 = .ok (.aaload, 1) := by decide +kernel
theorem dX5_crossings_27 : decode cX5_crossings 27 = .ok (.iload_n 2, 1) := by decide +kernel
theorem dX5_crossings_28 : decode cX5_crossings 28 = .ok (.iaload, 1) := by decide +kernel
theorem dX5_crossings_29 : decode cX5_crossings 29 = .ok (.aload_n 0, 1) := by decide +kernel
theorem dX5_crossings_30 : decode cX5_crossings 30 = .ok (.getfield 29, 3) := by decide +kernel
theorem dX5_crossings_33 : decode cX5_crossings 33 = .ok (.iload 4, 2) := by decide +kernel
theorem dX5_crossings_35 : decode cX5_crossings 35 = .ok (.aaload, 1) := by decide +kernel
theorem dX5_crossings_36 : decode cX5_crossings 36 = .ok (.iload_n 1, 1) := by decide +kernel
theorem dX5_crossings_37 : decode cX5_crossings 37 = .ok (.iaload, 1) := by decide +kernel
theorem dX5_crossings_38 : decode cX5_crossings 38 = .ok (.iand, 1) := by decide +kernel
theorem dX5_crossings_39 : decode cX5_crossings 39 = .ok (.invokestatic 43, 3) := by decide +kernel
theorem dX5_crossings_42 : decode cX5_crossings 42 = .ok (.iadd, 1) := by decide +kernel
theorem dX5_crossings_43 : decode cX5_crossings 43 = .ok (.ireturn, 1) := by decide +kernel
set_option maxHeartbeats 4000000 in
set_option maxRecDepth 100000 in
theorem mX5_crossings {D : va_G} {U : zz_U} {ad : Nat → Nat} {X : va_W} (σ : zz_St) (a_ : Int32) (b_ : Int32) (what_ : Int32) (opposite_ : Int32) (r : Int32) (hf : fX5_crossings σ a_ b_ what_ opposite_ = some r) : zz_Met yX5_crossings (.code yX5_crossings cX5_crossings 5 (some .int)) 1 0 0 D U [.ref (ad 1), .int a_, .int b_, .int what_, .int opposite_] (zz_wc U ad σ X) (zz_ok (some (.int r)) (zz_wc U ad σ X)) zz_noth := by
  unfold fX5_crossings at hf
  refine zz_method RX5 rfl (by decide +kernel) (Nat.le_of_ble_eq_true rfl) ?_
  intro p l e s m args below meth c A _ C
  refine zz_lvs (lv1 := [(0, .ref (ad 1)), (1, .int a_), (2, .int b_), (3, .int what_), (4, .int opposite_)]) rfl ?_
  refine zz_aload_n C 0 dX5_crossings_0 rfl rfl ?_
  refine zf5_namesOf C dX5_crossings_1 zw_17 ?_
  refine zz_iload_n C 3 dX5_crossings_4 rfl rfl ?_
  obtain ⟨x1, h2, hf⟩ := zz_bind hf
  refine zr_7 C dX5_crossings_5 h2 ?_
  refine zz_iload_n C 1 dX5_crossings_6 rfl rfl ?_
  obtain ⟨x3, h4, hf⟩ := zz_bind hf
  refine zl_7 C dX5_crossings_7 h2 h4 ?_
  refine zz_aload_n C 0 dX5_crossings_8 rfl rfl ?_
  refine zf5_namesOf C dX5_crossings_9 zw_17 ?_
  refine zz_iload C 4 dX5_crossings_12 rfl ?_
  obtain ⟨x5, h6, hf⟩ := zz_bind hf
  refine zr_7 C dX5_crossings_14 h6 ?_
  refine zz_iload_n C 2 dX5_crossings_15 rfl rfl ?_
  obtain ⟨x7, h8, hf⟩ := zz_bind hf
  refine zl_7 C dX5_crossings_16 h6 h8 ?_
  refine zz_iand C dX5_crossings_17 ?_
  obtain ⟨x9, h10, hf⟩ := zz_bind hf
  refine zz_callS1 (As := [.int (x3 &&& x7)]) (rest := []) C (mJ6_bitCount (x3 &&& x7) x9 h10) dX5_crossings_18 rfl zw_45 zy_J6_bitCount_0f7a4 rfl (by decide) (by decide) (Nat.le_of_ble_eq_true rfl) (Nat.le_of_ble_eq_true rfl) (Nat.le_of_ble_eq_true rfl) rfl ?_
  refine zz_aload_n C 0 dX5_crossings_21 rfl rfl ?_
  refine zf5_namesOf C dX5_crossings_22 zw_17 ?_
  refine zz_iload_n C 3 dX5_crossings_25 rfl rfl ?_
  obtain ⟨x11, h12, hf⟩ := zz_bind hf
  refine zr_7 C dX5_crossings_26 h12 ?_
  refine zz_iload_n C 2 dX5_crossings_27 rfl rfl ?_
  obtain ⟨x13, h14, hf⟩ := zz_bind hf
  refine zl_7 C dX5_crossings_28 h12 h14 ?_
  refine zz_aload_n C 0 dX5_crossings_29 rfl rfl ?_
  refine zf5_namesOf C dX5_crossings_30 zw_17 ?_
  refine zz_iload C 4 dX5_crossings_33 rfl ?_
  obtain ⟨x15, h16, hf⟩ := zz_bind hf
  refine zr_7 C dX5_crossings_35 h16 ?_
  refine zz_iload_n C 1 dX5_crossings_36 rfl rfl ?_
  obtain ⟨x17, h18, hf⟩ := zz_bind hf
  refine zl_7 C dX5_crossings_37 h16 h18 ?_
  refine zz_iand C dX5_crossings_38 ?_
  obtain ⟨x19, h20, hf⟩ := zz_bind hf
  refine zz_callS1 (As := [.int (x13 &&& x17)]) (rest := [.int x9]) C (mJ6_bitCount (x13 &&& x17) x19 h20) dX5_crossings_39 rfl zw_45 zy_J6_bitCount_0f7a4 rfl (by decide) (by decide) (Nat.le_of_ble_eq_true rfl) (Nat.le_of_ble_eq_true rfl) (Nat.le_of_ble_eq_true rfl) rfl ?_
  refine zz_iadd C dX5_crossings_42 ?_
  cases hf
  exact zz_iret C dX5_crossings_43 (And.intro rfl rfl) (Nat.le_of_ble_eq_true rfl) (Nat.le_of_ble_eq_true rfl)
theorem dX5_everyNameOf_0 : decode cX5_everyNameOf 0 = .ok (.aload_n 0, 1) := by decide +kernel
theorem dX5_everyNameOf_1 : decode cX5_everyNameOf 1 = .ok (.getfield 29, 3) := by decide +kernel
theorem dX5_everyNameOf_4 : decode cX5_everyNameOf 4 = .ok (.iconst 0, 1) := by decide +kernel
theorem dX5_everyNameOf_5 : decode cX5_everyNameOf 5 = .ok (.aaload, 1) := by decide +kernel
theorem dX5_everyNameOf_6 : decode cX5_everyNameOf 6 = .ok (.iload_n 1, 1) := by decide +kernel
theorem dX5_everyNameOf_7 : decode cX5_everyNameOf 7 = .ok (.iaload, 1) := by decide +kernel
theorem dX5_everyNameOf_8 : decode cX5_everyNameOf 8 = .ok (.aload_n 0, 1) := by decide +kernel
theorem dX5_everyNameOf_9 : decode cX5_everyNameOf 9 = .ok (.getfield 29, 3) := by decide +kernel
theorem dX5_everyNameOf_12 : decode cX5_everyNameOf 12 = .ok (.iconst 1, 1) := by decide +kernel
theorem dX5_everyNameOf_13 : decode cX5_everyNameOf 13 = .ok (.aaload, 1) := by decide +kernel
theorem dX5_everyNameOf_14 : decode cX5_everyNameOf 14 = .ok (.iload_n 1, 1) := by decide +kernel
theorem dX5_everyNameOf_15 : decode cX5_everyNameOf 15 = .ok (.iaload, 1) := by decide +kernel
theorem dX5_everyNameOf_16 : decode cX5_everyNameOf 16 = .ok (.ior, 1) := by decide +kernel
theorem dX5_everyNameOf_17 : decode cX5_everyNameOf 17 = .ok (.aload_n 0, 1) := by decide +kernel
theorem dX5_everyNameOf_18 : decode cX5_everyNameOf 18 = .ok (.getfield 29, 3) := by decide +kernel
theorem dX5_everyNameOf_21 : decode cX5_everyNameOf 21 = .ok (.iconst 2, 1) := by decide +kernel
theorem dX5_everyNameOf_22 : decode cX5_everyNameOf 22 = .ok (.aaload, 1) := by decide +kernel
theorem dX5_everyNameOf_23 : decode cX5_everyNameOf 23 = .ok (.iload_n 1, 1) := by decide +kernel
theorem dX5_everyNameOf_24 : decode cX5_everyNameOf 24 = .ok (.iaload, 1) := by decide +kernel
theorem dX5_everyNameOf_25 : decode cX5_everyNameOf 25 = .ok (.ior, 1) := by decide +kernel
theorem dX5_everyNameOf_26 : decode cX5_everyNameOf 26 = .ok (.aload_n 0, 1) := by decide +kernel
theorem dX5_everyNameOf_27 : decode cX5_everyNameOf 27 = .ok (.getfield 29, 3) := by decide +kernel
theorem dX5_everyNameOf_30 : decode cX5_everyNameOf 30 = .ok (.iconst 3, 1) := by decide +kernel
theorem dX5_everyNameOf_31 : decode cX5_everyNameOf 31 = .ok (.aaload, 1) := by decide +kernel
theorem dX5_everyNameOf_32 : decode cX5_everyNameOf 32 = .ok (.iload_n 1, 1) := by decide +kernel
theorem dX5_everyNameOf_33 : decode cX5_everyNameOf 33 = .ok (.iaload, 1) := by decide +kernel
theorem dX5_everyNameOf_34 : decode cX5_everyNameOf 34 = .ok (.ior, 1) := by decide +kernel
theorem dX5_everyNameOf_35 : decode cX5_everyNameOf 35 = .ok (.ireturn, 1) := by decide +kernel
set_option maxHeartbeats 4000000 in
set_option maxRecDepth 100000 in
theorem mX5_everyNameOf {D : va_G} {U : zz_U} {ad : Nat → Nat} {X : va_W} (σ : zz_St) (piece_ : Int32) (r : Int32) (hf : fX5_everyNameOf σ piece_ = some r) : zz_Met yX5_everyNameOf (.code yX5_everyNameOf cX5_everyNameOf 2 (some .int)) 0 0 0 D U [.ref (ad 1), .int piece_] (zz_wc U ad σ X) (zz_ok (some (.int r)) (zz_wc U ad σ X)) zz_noth := by
  unfold fX5_everyNameOf at hf
  refine zz_method RX5 rfl (by decide +kernel) (Nat.le_of_ble_eq_true rfl) ?_
  intro p l e s m args below meth c A _ C
  refine zz_lvs (lv1 := [(0, .ref (ad 1)), (1, .int piece_)]) rfl ?_
  refine zz_aload_n C 0 dX5_everyNameOf_0 rfl rfl ?_
  refine zf5_namesOf C dX5_everyNameOf_1 zw_17 ?_
  refine zz_iconst (v := (0 : Int32)) C dX5_everyNameOf_4 (by decide) ?_
  obtain ⟨x1, h2, hf⟩ := zz_bind hf
  refine zr_7 C dX5_everyNameOf_5 h2 ?_
  refine zz_iload_n C 1 dX5_everyNameOf_6 rfl rfl ?_
  obtain ⟨x3, h4, hf⟩ := zz_bind hf
  refine zl_7 C dX5_everyNameOf_7 h2 h4 ?_
  refine zz_aload_n C 0 dX5_everyNameOf_8 rfl rfl ?_
  refine zf5_namesOf C dX5_everyNameOf_9 zw_17 ?_
  refine zz_iconst (v := (1 : Int32)) C dX5_everyNameOf_12 (by decide) ?_
  obtain ⟨x5, h6, hf⟩ := zz_bind hf
  refine zr_7 C dX5_everyNameOf_13 h6 ?_
  refine zz_iload_n C 1 dX5_everyNameOf_14 rfl rfl ?_
  obtain ⟨x7, h8, hf⟩ := zz_bind hf
  refine zl_7 C dX5_everyNameOf_15 h6 h8 ?_
  refine zz_ior C dX5_everyNameOf_16 ?_
  refine zz_aload_n C 0 dX5_everyNameOf_17 rfl rfl ?_
  refine zf5_namesOf C dX5_everyNameOf_18 zw_17 ?_
  refine zz_iconst (v := (2 : Int32)) C dX5_everyNameOf_21 (by decide) ?_
  obtain ⟨x9, h10, hf⟩ := zz_bind hf
  refine zr_7 C dX5_everyNameOf_22 h10 ?_
  refine zz_iload_n C 1 dX5_everyNameOf_23 rfl rfl ?_
  obtain ⟨x11, h12, hf⟩ := zz_bind hf
  refine zl_7 C dX5_everyNameOf_24 h10 h12 ?_
  refine zz_ior C dX5_everyNameOf_25 ?_
  refine zz_aload_n C 0 dX5_everyNameOf_26 rfl rfl ?_
  refine zf5_namesOf C dX5_everyNameOf_27 zw_17 ?_
  refine zz_iconst (v := (3 : Int32)) C dX5_everyNameOf_30 (by decide) ?_
  obtain ⟨x13, h14, hf⟩ := zz_bind hf
  refine zr_7 C dX5_everyNameOf_31 h14 ?_
  refine zz_iload_n C 1 dX5_everyNameOf_32 rfl rfl ?_
  obtain ⟨x15, h16, hf⟩ := zz_bind hf
  refine zl_7 C dX5_everyNameOf_33 h14 h16 ?_
  refine zz_ior C dX5_everyNameOf_34 ?_
  cases hf
  exact zz_iret C dX5_everyNameOf_35 (And.intro rfl rfl) (Nat.le_of_ble_eq_true rfl) (Nat.le_of_ble_eq_true rfl)
theorem dX2_shareOf_0 : decode cX2_shareOf 0 = .ok (.iload_n 1, 1) := by decide +kernel
theorem dX2_shareOf_1 : decode cX2_shareOf 1 = .ok (.iload_n 2, 1) := by decide +kernel
theorem dX2_shareOf_2 : decode cX2_shareOf 2 = .ok (.ior, 1) := by decide +kernel
theorem dX2_shareOf_3 : decode cX2_shareOf 3 = .ok (.invokestatic 52, 3) := by decide +kernel
theorem dX2_shareOf_6 : decode cX2_shareOf 6 = .ok (.istore_n 3, 1) := by decide +kernel
theorem dX2_shareOf_7 : decode cX2_shareOf 7 = .ok (.iload_n 3, 1) := by decide +kernel
theorem dX2_shareOf_8 : decode cX2_shareOf 8 = .ok (.ifCond .ne 7, 3) := by decide +kernel
theorem dX2_shareOf_11 : decode cX2_shareOf 11 = .ok (.iconst 0, 1) := by decide +kernel
theorem dX2_shareOf_12 : decode cX2_shareOf 12 = .ok (.goto 13, 3) := by decide +kernel
theorem dX2_shareOf_15 : decode cX2_shareOf 15 = .ok (.iload_n 0, 1) := by decide +kernel
theorem dX2_shareOf_16 : decode cX2_shareOf 16 = .ok (.iload_n 1, 1) := by decide +kernel
theorem dX2_shareOf_17 : decode cX2_shareOf 17 = .ok (.iload_n 2, 1) := by decide +kernel
theorem dX2_shareOf_18 : decode cX2_shareOf 18 = .ok (.iand, 1) := by decide +kernel
theorem dX2_shareOf_19 : decode cX2_shareOf 19 = .ok (.invokestatic 52, 3) := by decide +kernel
theorem dX2_shareOf_22 : decode cX2_shareOf 22 = .ok (.imul, 1) := by decide +kernel
theorem dX2_shareOf_23 : decode cX2_shareOf 23 = .ok (.iload_n 3, 1) := by decide +kernel
theorem dX2_shareOf_24 : decode cX2_shareOf 24 = .ok (.idiv, 1) := by decide +kernel
theorem dX2_shareOf_25 : decode cX2_shareOf 25 = .ok (.ireturn, 1) := by decide +kernel
set_option maxHeartbeats 4000000 in
set_option maxRecDepth 100000 in
theorem mX2_shareOf {D : va_G} {U : zz_U} {ad : Nat → Nat} {X : va_W} (σ : zz_St) (weight_ : Int32) (namesOfOne_ : Int32) (namesOfOther_ : Int32) (r : Int32) (hf : fX2_shareOf σ weight_ namesOfOne_ namesOfOther_ = some r) : zz_Met yX2_shareOf (.code yX2_shareOf cX2_shareOf 4 (some .int)) 1 0 0 D U [.int weight_, .int namesOfOne_, .int namesOfOther_] (zz_wc U ad σ X) (zz_ok (some (.int r)) (zz_wc U ad σ X)) zz_noth := by
  unfold fX2_shareOf at hf
  refine zz_method RX2 rfl (by decide +kernel) (Nat.le_of_ble_eq_true rfl) ?_
  intro p l e s m args below meth c A _ C
  refine zz_lvs (lv1 := [(0, .int weight_), (1, .int namesOfOne_), (2, .int namesOfOther_)]) rfl ?_
  refine zz_iload_n C 1 dX2_shareOf_0 rfl rfl ?_
  refine zz_iload_n C 2 dX2_shareOf_1 rfl rfl ?_
  refine zz_ior C dX2_shareOf_2 ?_
  obtain ⟨x1, h2, hf⟩ := zz_bind hf
  refine zz_callS1 (As := [.int (namesOfOne_ ||| namesOfOther_)]) (rest := []) C (mJ6_bitCount (namesOfOne_ ||| namesOfOther_) x1 h2) dX2_shareOf_3 rfl zw_47 zy_J6_bitCount_0f7a4 rfl (by decide) (by decide) (Nat.le_of_ble_eq_true rfl) (Nat.le_of_ble_eq_true rfl) (Nat.le_of_ble_eq_true rfl) rfl ?_
  refine zz_istore_n C dX2_shareOf_6 rfl (by decide) (lv' := [(3, .int x1), (0, .int weight_), (1, .int namesOfOne_), (2, .int namesOfOther_)]) rfl ?_
  obtain ⟨x3, h4, hf⟩ := zz_bind hf
  refine zz_cut 25 [(3, .int x1), (0, .int weight_), (1, .int namesOfOne_), (2, .int namesOfOther_)] [.int x3] (zz_wc U ad σ X) ?_ (fun J5 => ?_)
  · cases hf
    exact zz_iret C dX2_shareOf_25 (And.intro rfl rfl) (Nat.le_of_ble_eq_true rfl) (Nat.le_of_ble_eq_true rfl)
  refine zz_iload_n C 0 dX2_shareOf_7 rfl rfl ?_
  refine zz_if_ne (tgt := 15) C dX2_shareOf_8 (by decide) (fun g6 => ?_) (fun g6 => ?_)
  · rw [if_neg g6] at h4
    refine zz_iload_n C 1 dX2_shareOf_15 rfl rfl ?_
    refine zz_iload_n C 2 dX2_shareOf_16 rfl rfl ?_
    refine zz_iload_n C 3 dX2_shareOf_17 rfl rfl ?_
    refine zz_iand C dX2_shareOf_18 ?_
    obtain ⟨x7, h8, h4⟩ := zz_bind h4
    refine zz_callS1 (As := [.int (namesOfOne_ &&& namesOfOther_)]) (rest := [.int weight_]) C (mJ6_bitCount (namesOfOne_ &&& namesOfOther_) x7 h8) dX2_shareOf_19 rfl zw_47 zy_J6_bitCount_0f7a4 rfl (by decide) (by decide) (Nat.le_of_ble_eq_true rfl) (Nat.le_of_ble_eq_true rfl) (Nat.le_of_ble_eq_true rfl) rfl ?_
    refine zz_imul C dX2_shareOf_22 ?_
    refine zz_iload_n C 0 dX2_shareOf_23 rfl rfl ?_
    obtain ⟨x9, h10, h4⟩ := zz_bind h4
    refine zz_idiv C dX2_shareOf_24 (zz_dv_in h10).1 ?_
    refine zz_topi (zz_dv_in h10).2 ?_
    cases h4
    exact J5
  · rw [if_pos g6] at h4
    refine zz_iconst (v := (0 : Int32)) C dX2_shareOf_11 (by decide) ?_
    refine zz_goto (tgt := 25) C dX2_shareOf_12 (by decide) ?_
    cases h4
    exact J5
theorem dX2_pointsBy_0 : decode cX2_pointsBy 0 = .ok (.iload_n 1, 1) := by decide +kernel
theorem dX2_pointsBy_1 : decode cX2_pointsBy 1 = .ok (.tableswitch 108 0 3 #[31, 53, 70, 87], 31) := by decide +kernel
theorem dX2_pointsBy_32 : decode cX2_pointsBy 32 = .ok (.aload_n 0, 1) := by decide +kernel
theorem dX2_pointsBy_33 : decode cX2_pointsBy 33 = .ok (.aload_n 2, 1) := by decide +kernel
theorem dX2_pointsBy_34 : decode cX2_pointsBy 34 = .ok (.iload_n 3, 1) := by decide +kernel
theorem dX2_pointsBy_35 : decode cX2_pointsBy 35 = .ok (.iload 4, 2) := by decide +kernel
theorem dX2_pointsBy_37 : decode cX2_pointsBy 37 = .ok (.invokevirtual 19, 3) := by decide +kernel
theorem dX2_pointsBy_40 : decode cX2_pointsBy 40 = .ok (.ifCond .eq 12, 3) := by decide +kernel
theorem dX2_pointsBy_43 : decode cX2_pointsBy 43 = .ok (.aload_n 0, 1) := by decide +kernel
theorem dX2_pointsBy_44 : decode cX2_pointsBy 44 = .ok (.getfield 9, 3) := by decide +kernel
theorem dX2_pointsBy_47 : decode cX2_pointsBy 47 = .ok (.iconst 0, 1) := by decide +kernel
theorem dX2_pointsBy_48 : decode cX2_pointsBy 48 = .ok (.iaload, 1) := by decide +kernel
theorem dX2_pointsBy_49 : decode cX2_pointsBy 49 = .ok (.goto 4, 3) := by decide +kernel
theorem dX2_pointsBy_52 : decode cX2_pointsBy 52 = .ok (.iconst 0, 1) := by decide +kernel
theorem dX2_pointsBy_53 : decode cX2_pointsBy 53 = .ok (.ireturn, 1) := by decide +kernel
theorem dX2_pointsBy_54 : decode cX2_pointsBy 54 = .ok (.aload_n 0, 1) := by decide +kernel
theorem dX2_pointsBy_55 : decode cX2_pointsBy 55 = .ok (.getfield 9, 3) := by decide +kernel
theorem dX2_pointsBy_58 : decode cX2_pointsBy 58 = .ok (.iconst 1, 1) := by decide +kernel
theorem dX2_pointsBy_59 : decode cX2_pointsBy 59 = .ok (.iaload, 1) := by decide +kernel
theorem dX2_pointsBy_60 : decode cX2_pointsBy 60 = .ok (.aload_n 2, 1) := by decide +kernel
theorem dX2_pointsBy_61 : decode cX2_pointsBy 61 = .ok (.iload_n 3, 1) := by decide +kernel
theorem dX2_pointsBy_62 : decode cX2_pointsBy 62 = .ok (.iload 4, 2) := by decide +kernel
theorem dX2_pointsBy_64 : decode cX2_pointsBy 64 = .ok (.iconst 0, 1) := by decide +kernel
theorem dX2_pointsBy_65 : decode cX2_pointsBy 65 = .ok (.iconst 2, 1) := by decide +kernel
theorem dX2_pointsBy_66 : decode cX2_pointsBy 66 = .ok (.invokevirtual 23, 3) := by decide +kernel
theorem dX2_pointsBy_69 : decode cX2_pointsBy 69 = .ok (.imul, 1) := by decide +kernel
theorem dX2_pointsBy_70 : decode cX2_pointsBy 70 = .ok (.ireturn, 1) := by decide +kernel
theorem dX2_pointsBy_71 : decode cX2_pointsBy 71 = .ok (.aload_n 0, 1) := by decide +kernel
theorem dX2_pointsBy_72 : decode cX2_pointsBy 72 = .ok (.getfield 9, 3) := by decide +kernel
theorem dX2_pointsBy_75 : decode cX2_pointsBy 75 = .ok (.iconst 2, 1) := by decide +kernel
theorem dX2_pointsBy_76 : decode cX2_pointsBy 76 = .ok (.iaload, 1) := by decide +kernel
theorem dX2_pointsBy_77 : decode cX2_pointsBy 77 = .ok (.aload_n 2, 1) := by decide +kernel
theorem dX2_pointsBy_78 : decode cX2_pointsBy 78 = .ok (.iload_n 3, 1) := by decide +kernel
theorem dX2_pointsBy_79 : decode cX2_pointsBy 79 = .ok (.iload 4, 2) := by decide +kernel
theorem dX2_pointsBy_81 : decode cX2_pointsBy 81 = .ok (.iconst 1, 1) := by decide +kernel
theorem dX2_pointsBy_82 : decode cX2_pointsBy 82 = .ok (.iconst 0, 1) := by decide +kernel
theorem dX2_pointsBy_83 : decode cX2_pointsBy 83 = .ok (.invokevirtual 23, 3) := by decide +kernel
theorem dX2_pointsBy_86 : decode cX2_pointsBy 86 = .ok (.imul, 1) := by decide +kernel
theorem dX2_pointsBy_87 : decode cX2_pointsBy 87 = .ok (.ireturn, 1) := by decide +kernel
theorem dX2_pointsBy_88 : decode cX2_pointsBy 88 = .ok (.aload_n 0, 1) := by decide +kernel
theorem dX2_pointsBy_89 : decode cX2_pointsBy 89 = .ok (.getfield 9, 3) := by decide +kernel
theorem dX2_pointsBy_92 : decode cX2_pointsBy 92 = .ok (.iconst 3, 1) := by decide +kernel
theorem dX2_pointsBy_93 : decode cX2_pointsBy 93 = .ok (.iaload, 1) := by decide +kernel
theorem dX2_pointsBy_94 : decode cX2_pointsBy 94 = .ok (.aload_n 2, 1) := by decide +kernel
theorem dX2_pointsBy_95 : decode cX2_pointsBy 95 = .ok (.iload_n 3, 1) := by decide +kernel
theorem dX2_pointsBy_96 : decode cX2_pointsBy 96 = .ok (.invokevirtual 29, 3) := by decide +kernel
theorem dX2_pointsBy_99 : decode cX2_pointsBy 99 = .ok (.aload_n 2, 1) := by decide +kernel
theorem dX2_pointsBy_100 : decode cX2_pointsBy 100 = .ok (.iload 4, 2) := by decide +kernel
theorem dX2_pointsBy_102 : decode cX2_pointsBy 102 = .ok (.invokevirtual 29, 3) := by decide +kernel
theorem dX2_pointsBy_105 : decode cX2_pointsBy 105 = .ok (.invokestatic 33, 3) := by decide +kernel
theorem dX2_pointsBy_108 : decode cX2_pointsBy 108 = .ok (.ireturn, 1) := by decide +kernel
theorem dX2_pointsBy_109 : decode cX2_pointsBy 109 = .ok (.iconst 0, 1) := by decide +kernel
theorem dX2_pointsBy_110 : decode cX2_pointsBy 110 = .ok (.ireturn, 1) := by decide +kernel
set_option maxHeartbeats 4000000 in
set_option maxRecDepth 100000 in
theorem mX2_pointsBy {D : va_G} {U : zz_U} {ad : Nat → Nat} {X : va_W} (σ : zz_St) (kind_ : Int32) (a_ : Int32) (b_ : Int32) (r : Int32) (hf : fX2_pointsBy σ kind_ a_ b_ = some r) : zz_Met yX2_pointsBy (.code yX2_pointsBy cX2_pointsBy 5 (some .int)) 2 0 0 D U [.ref (ad 19), .int kind_, .ref (ad 1), .int a_, .int b_] (zz_wc U ad σ X) (zz_ok (some (.int r)) (zz_wc U ad σ X)) zz_noth := by
  unfold fX2_pointsBy at hf
  refine zz_method RX2 rfl (by decide +kernel) (Nat.le_of_ble_eq_true rfl) ?_
  intro p l e s m args below meth c A _ C
  refine zz_lvs (lv1 := [(0, .ref (ad 19)), (1, .int kind_), (2, .ref (ad 1)), (3, .int a_), (4, .int b_)]) rfl ?_
  refine zz_iload_n C 1 dX2_pointsBy_0 rfl rfl ?_
  by_cases g1 : kind_ = (0 : Int32)
  · rw [if_pos g1] at hf
    refine zz_tableIn (off := 31) (tgt := 32) C dX2_pointsBy_1 (by rw [g1]; decide) (by rw [g1]; decide) (by rw [g1]; rfl) (by decide) ?_
    obtain ⟨x2, h3, hf⟩ := zz_bind hf
    refine zz_cut 53 [(0, .ref (ad 19)), (1, .int kind_), (2, .ref (ad 1)), (3, .int a_), (4, .int b_)] [.int x2] (zz_wc U ad σ X) ?_ (fun J4 => ?_)
    · cases hf
      exact zz_iret C dX2_pointsBy_53 (And.intro rfl rfl) (Nat.le_of_ble_eq_true rfl) (Nat.le_of_ble_eq_true rfl)
    refine zz_aload_n C 0 dX2_pointsBy_32 rfl rfl ?_
    refine zz_aload_n C 2 dX2_pointsBy_33 rfl rfl ?_
    refine zz_iload_n C 3 dX2_pointsBy_34 rfl rfl ?_
    refine zz_iload C 4 dX2_pointsBy_35 rfl ?_
    obtain ⟨x5, h6, h3⟩ := zz_bind h3
    refine zz_callV1 (As := [.ref (ad 1), .int a_, .int b_]) (rest := []) C 19 (mX2_isNear σ a_ b_ x5 h6) dX2_pointsBy_37 rfl rfl rfl zw_41 zy_X2_isNear rfl (by decide) (by decide) (Nat.le_of_ble_eq_true rfl) (Nat.le_of_ble_eq_true rfl) (Nat.le_of_ble_eq_true rfl) rfl ?_
    refine zz_if_eq (tgt := 52) C dX2_pointsBy_40 (by decide) (fun g7 => ?_) (fun g7 => ?_)
    · rw [if_pos g7] at h3
      refine zz_iconst (v := (0 : Int32)) C dX2_pointsBy_52 (by decide) ?_
      cases h3
      exact J4
    · rw [if_neg g7] at h3
      refine zz_aload_n C 0 dX2_pointsBy_43 rfl rfl ?_
      refine zf2_weights C dX2_pointsBy_44 zw_40 ?_
      refine zz_iconst (v := (0 : Int32)) C dX2_pointsBy_47 (by decide) ?_
      obtain ⟨x8, h9, h3⟩ := zz_bind h3
      refine zl_20 C dX2_pointsBy_48 h9 ?_
      refine zz_goto (tgt := 53) C dX2_pointsBy_49 (by decide) ?_
      cases h3
      exact J4
  · rw [if_neg g1] at hf
    by_cases g10 : kind_ = (1 : Int32)
    · rw [if_pos g10] at hf
      refine zz_tableIn (off := 53) (tgt := 54) C dX2_pointsBy_1 (by rw [g10]; decide) (by rw [g10]; decide) (by rw [g10]; rfl) (by decide) ?_
      refine zz_aload_n C 0 dX2_pointsBy_54 rfl rfl ?_
      refine zf2_weights C dX2_pointsBy_55 zw_40 ?_
      refine zz_iconst (v := (1 : Int32)) C dX2_pointsBy_58 (by decide) ?_
      obtain ⟨x11, h12, hf⟩ := zz_bind hf
      refine zl_20 C dX2_pointsBy_59 h12 ?_
      refine zz_aload_n C 2 dX2_pointsBy_60 rfl rfl ?_
      refine zz_iload_n C 3 dX2_pointsBy_61 rfl rfl ?_
      refine zz_iload C 4 dX2_pointsBy_62 rfl ?_
      refine zz_iconst (v := (0 : Int32)) C dX2_pointsBy_64 (by decide) ?_
      refine zz_iconst (v := (2 : Int32)) C dX2_pointsBy_65 (by decide) ?_
      obtain ⟨x13, h14, hf⟩ := zz_bind hf
      refine zz_callV1 (As := [.int a_, .int b_, .int (0 : Int32), .int (2 : Int32)]) (rest := [.int x11]) C 1 (mX5_crossings σ a_ b_ (0 : Int32) (2 : Int32) x13 h14) dX2_pointsBy_66 rfl rfl rfl zw_46 zy_X5_crossings rfl (by decide) (by decide) (Nat.le_of_ble_eq_true rfl) (Nat.le_of_ble_eq_true rfl) (Nat.le_of_ble_eq_true rfl) rfl ?_
      refine zz_imul C dX2_pointsBy_69 ?_
      cases hf
      exact zz_iret C dX2_pointsBy_70 (And.intro rfl rfl) (Nat.le_of_ble_eq_true rfl) (Nat.le_of_ble_eq_true rfl)
    · rw [if_neg g10] at hf
      by_cases g15 : kind_ = (2 : Int32)
      · rw [if_pos g15] at hf
        refine zz_tableIn (off := 70) (tgt := 71) C dX2_pointsBy_1 (by rw [g15]; decide) (by rw [g15]; decide) (by rw [g15]; rfl) (by decide) ?_
        refine zz_aload_n C 0 dX2_pointsBy_71 rfl rfl ?_
        refine zf2_weights C dX2_pointsBy_72 zw_40 ?_
        refine zz_iconst (v := (2 : Int32)) C dX2_pointsBy_75 (by decide) ?_
        obtain ⟨x16, h17, hf⟩ := zz_bind hf
        refine zl_20 C dX2_pointsBy_76 h17 ?_
        refine zz_aload_n C 2 dX2_pointsBy_77 rfl rfl ?_
        refine zz_iload_n C 3 dX2_pointsBy_78 rfl rfl ?_
        refine zz_iload C 4 dX2_pointsBy_79 rfl ?_
        refine zz_iconst (v := (1 : Int32)) C dX2_pointsBy_81 (by decide) ?_
        refine zz_iconst (v := (0 : Int32)) C dX2_pointsBy_82 (by decide) ?_
        obtain ⟨x18, h19, hf⟩ := zz_bind hf
        refine zz_callV1 (As := [.int a_, .int b_, .int (1 : Int32), .int (0 : Int32)]) (rest := [.int x16]) C 1 (mX5_crossings σ a_ b_ (1 : Int32) (0 : Int32) x18 h19) dX2_pointsBy_83 rfl rfl rfl zw_46 zy_X5_crossings rfl (by decide) (by decide) (Nat.le_of_ble_eq_true rfl) (Nat.le_of_ble_eq_true rfl) (Nat.le_of_ble_eq_true rfl) rfl ?_
        refine zz_imul C dX2_pointsBy_86 ?_
        cases hf
        exact zz_iret C dX2_pointsBy_87 (And.intro rfl rfl) (Nat.le_of_ble_eq_true rfl) (Nat.le_of_ble_eq_true rfl)
      · rw [if_neg g15] at hf
        by_cases g20 : kind_ = (3 : Int32)
        · rw [if_pos g20] at hf
          refine zz_tableIn (off := 87) (tgt := 88) C dX2_pointsBy_1 (by rw [g20]; decide) (by rw [g20]; decide) (by rw [g20]; rfl) (by decide) ?_
          refine zz_aload_n C 0 dX2_pointsBy_88 rfl rfl ?_
          refine zf2_weights C dX2_pointsBy_89 zw_40 ?_
          refine zz_iconst (v := (3 : Int32)) C dX2_pointsBy_92 (by decide) ?_
          obtain ⟨x21, h22, hf⟩ := zz_bind hf
          refine zl_20 C dX2_pointsBy_93 h22 ?_
          refine zz_aload_n C 2 dX2_pointsBy_94 rfl rfl ?_
          refine zz_iload_n C 3 dX2_pointsBy_95 rfl rfl ?_
          obtain ⟨x23, h24, hf⟩ := zz_bind hf
          refine zz_callV1 (As := [.int a_]) (rest := [.int x21]) C 1 (mX5_everyNameOf σ a_ x23 h24) dX2_pointsBy_96 rfl rfl rfl zw_49 zy_X5_everyNameOf rfl (by decide) (by decide) (Nat.le_of_ble_eq_true rfl) (Nat.le_of_ble_eq_true rfl) (Nat.le_of_ble_eq_true rfl) rfl ?_
          refine zz_aload_n C 2 dX2_pointsBy_99 rfl rfl ?_
          refine zz_iload C 4 dX2_pointsBy_100 rfl ?_
          obtain ⟨x25, h26, hf⟩ := zz_bind hf
          refine zz_callV1 (As := [.int b_]) (rest := [.int x23, .int x21]) C 1 (mX5_everyNameOf σ b_ x25 h26) dX2_pointsBy_102 rfl rfl rfl zw_49 zy_X5_everyNameOf rfl (by decide) (by decide) (Nat.le_of_ble_eq_true rfl) (Nat.le_of_ble_eq_true rfl) (Nat.le_of_ble_eq_true rfl) rfl ?_
          obtain ⟨x27, h28, hf⟩ := zz_bind hf
          refine zz_callS1 (As := [.int x21, .int x23, .int x25]) (rest := []) C (mX2_shareOf σ x21 x23 x25 x27 h28) dX2_pointsBy_105 rfl zw_48 zy_X2_shareOf rfl (by decide) (by decide) (Nat.le_of_ble_eq_true rfl) (Nat.le_of_ble_eq_true rfl) (Nat.le_of_ble_eq_true rfl) rfl ?_
          cases hf
          exact zz_iret C dX2_pointsBy_108 (And.intro rfl rfl) (Nat.le_of_ble_eq_true rfl) (Nat.le_of_ble_eq_true rfl)
        · rw [if_neg g20] at hf
          refine zz_tableOut (tgt := 109) C dX2_pointsBy_1 (by have q0 := zz_sw 0 (0 : Int32) (by decide) g1; have q1 := zz_sw 1 (1 : Int32) (by decide) g10; have q2 := zz_sw 2 (2 : Int32) (by decide) g15; have q3 := zz_sw 3 (3 : Int32) (by decide) g20; omega) (by decide) ?_
          refine zz_iconst (v := (0 : Int32)) C dX2_pointsBy_109 (by decide) ?_
          cases hf
          exact zz_iret C dX2_pointsBy_110 (And.intro rfl rfl) (Nat.le_of_ble_eq_true rfl) (Nat.le_of_ble_eq_true rfl)
theorem dX2_sumOfPoints_0 : decode cX2_sumOfPoints 0 = .ok (.iconst 0, 1) := by decide +kernel
theorem dX2_sumOfPoints_1 : decode cX2_sumOfPoints 1 = .ok (.istore 4, 2) := by decide +kernel
theorem dX2_sumOfPoints_3 : decode cX2_sumOfPoints 3 = .ok (.iconst 0, 1) := by decide +kernel
theorem dX2_sumOfPoints_4 : decode cX2_sumOfPoints 4 = .ok (.istore 5, 2) := by decide +kernel
theorem dX2_sumOfPoints_6 : decode cX2_sumOfPoints 6 = .ok (.iload 5, 2) := by decide +kernel
theorem dX2_sumOfPoints_8 : decode cX2_sumOfPoints 8 = .ok (.iconst 4, 1) := by decide +kernel
theorem dX2_sumOfPoints_9 : decode cX2_sumOfPoints 9 = .ok (.if_icmp .ge 23, 3) := by decide +kernel
theorem dX2_sumOfPoints_12 : decode cX2_sumOfPoints 12 = .ok (.iload 4, 2) := by decide +kernel
theorem dX2_sumOfPoints_14 : decode cX2_sumOfPoints 14 = .ok (.aload_n 0, 1) := by decide +kernel
theorem dX2_sumOfPoints_15 : decode cX2_sumOfPoints 15 = .ok (.iload 5, 2) := by decide +kernel
theorem dX2_sumOfPoints_17 : decode cX2_sumOfPoints 17 = .ok (.aload_n 1, 1) := by decide +kernel
theorem dX2_sumOfPoints_18 : decode cX2_sumOfPoints 18 = .ok (.iload_n 2, 1) := by decide +kernel
theorem dX2_sumOfPoints_19 : decode cX2_sumOfPoints 19 = .ok (.iload_n 3, 1) := by decide +kernel
theorem dX2_sumOfPoints_20 : decode cX2_sumOfPoints 20 = .ok (.invokevirtual 37, 3) := by decide +kernel
theorem dX2_sumOfPoints_23 : decode cX2_sumOfPoints 23 = .ok (.iadd, 1) := by decide +kernel
theorem dX2_sumOfPoints_24 : decode cX2_sumOfPoints 24 = .ok (.istore 4, 2) := by decide +kernel
theorem dX2_sumOfPoints_26 : decode cX2_sumOfPoints 26 = .ok (.iinc 5 1, 3) := by decide +kernel
theorem dX2_sumOfPoints_29 : decode cX2_sumOfPoints 29 = .ok (.goto (-23), 3) := by decide +kernel
theorem dX2_sumOfPoints_32 : decode cX2_sumOfPoints 32 = .ok (.iload 4, 2) := by decide +kernel
theorem dX2_sumOfPoints_34 : decode cX2_sumOfPoints 34 = .ok (.ireturn, 1) := by decide +kernel
set_option maxHeartbeats 4000000 in
set_option maxRecDepth 100000 in
theorem mX2_sumOfPoints_L1 {p : Program} {l : Launch} {e : Env} {R : Room} {s : State} {m : MethodId} {args : Array Value} {below : List Frame} {meth : Method} {c : Code} {Q : State → Prop} {D : va_G} {U : zz_U} {A : Nat → Prop} {cells slots : Nat} {ad : Nat → Nat} {X : va_W} (C : zz_C p l R s m meth c D U A RX2 cX2_sumOfPoints 6 (some .int) [] 3) (hcR : cells ≤ R.cells) (hsR : slots ≤ R.slots) (σ : zz_St) (a_ : Int32) (b_ : Int32) : ∀ (n : Nat) (sum_ : Int32) (kind_ : Int32) (q : (Int32 × Int32)), fX2_sumOfPoints_L1 σ a_ b_ n sum_ kind_ = some q → (zz_Z p l e R s m args below meth c Q D A 6 cells slots (zz_wc U ad σ X) 32 [(0, .ref (ad 19)), (1, .ref (ad 1)), (2, .int a_), (3, .int b_), (4, .int q.1), (5, .int q.2)] []) → zz_Z p l e R s m args below meth c Q D A 6 cells slots (zz_wc U ad σ X) 6 [(0, .ref (ad 19)), (1, .ref (ad 1)), (2, .int a_), (3, .int b_), (4, .int sum_), (5, .int kind_)] [] := by
  intro n
  induction n with
  | zero => intro sum_ kind_ q hf; rw [fX2_sumOfPoints_L1] at hf; cases hf
  | succ n ih =>
    intro sum_ kind_ q hf kx
    rw [fX2_sumOfPoints_L1] at hf
    refine zz_iload C 5 dX2_sumOfPoints_6 rfl ?_
    refine zz_iconst (v := (4 : Int32)) C dX2_sumOfPoints_8 (by decide) ?_
    refine zz_icmp_ge (tgt := 32) C dX2_sumOfPoints_9 (by decide) (fun g1 => ?_) (fun g1 => ?_)
    · rw [if_pos g1] at hf
      cases hf
      exact kx
    · rw [if_neg g1] at hf
      refine zz_iload C 4 dX2_sumOfPoints_12 rfl ?_
      refine zz_aload_n C 0 dX2_sumOfPoints_14 rfl rfl ?_
      refine zz_iload C 5 dX2_sumOfPoints_15 rfl ?_
      refine zz_aload_n C 1 dX2_sumOfPoints_17 rfl rfl ?_
      refine zz_iload_n C 2 dX2_sumOfPoints_18 rfl rfl ?_
      refine zz_iload_n C 3 dX2_sumOfPoints_19 rfl rfl ?_
      obtain ⟨x2, h3, hf⟩ := zz_bind hf
      refine zz_callV1 (As := [.int kind_, .ref (ad 1), .int a_, .int b_]) (rest := [.int sum_]) C 19 (mX2_pointsBy σ kind_ a_ b_ x2 h3) dX2_sumOfPoints_20 rfl rfl rfl zw_50 zy_X2_pointsBy rfl (by decide) (by decide) (Nat.le_of_ble_eq_true rfl) hcR hsR rfl ?_
      refine zz_iadd C dX2_sumOfPoints_23 ?_
      obtain ⟨x4, h5, hf⟩ := zz_bind hf
      refine zz_topi (Option.some.inj h5) ?_
      refine zz_istore C dX2_sumOfPoints_24 (by decide) (lv' := [(4, .int x4), (0, .ref (ad 19)), (1, .ref (ad 1)), (2, .int a_), (3, .int b_), (5, .int kind_)]) rfl ?_
      refine zz_iinc (v := (kind_ + (1 : Int32))) C 5 dX2_sumOfPoints_26 rfl (by rfl) (by decide) (lv' := [(5, .int (kind_ + (1 : Int32))), (4, .int x4), (0, .ref (ad 19)), (1, .ref (ad 1)), (2, .int a_), (3, .int b_)]) rfl ?_
      refine zz_goto (tgt := 6) C dX2_sumOfPoints_29 (by decide) ?_
      refine zz_sub [2, 3, 4, 5, 1, 0] rfl ?_
      exact ih x4 (kind_ + (1 : Int32)) _ hf kx
set_option maxHeartbeats 4000000 in
set_option maxRecDepth 100000 in
theorem mX2_sumOfPoints {D : va_G} {U : zz_U} {ad : Nat → Nat} {X : va_W} (σ : zz_St) (a_ : Int32) (b_ : Int32) (r : Int32) (hf : fX2_sumOfPoints σ a_ b_ = some r) : zz_Met yX2_sumOfPoints (.code yX2_sumOfPoints cX2_sumOfPoints 6 (some .int)) 3 0 0 D U [.ref (ad 19), .ref (ad 1), .int a_, .int b_] (zz_wc U ad σ X) (zz_ok (some (.int r)) (zz_wc U ad σ X)) zz_noth := by
  unfold fX2_sumOfPoints at hf
  refine zz_method RX2 rfl (by decide +kernel) (Nat.le_of_ble_eq_true rfl) ?_
  intro p l e s m args below meth c A _ C
  refine zz_lvs (lv1 := [(0, .ref (ad 19)), (1, .ref (ad 1)), (2, .int a_), (3, .int b_)]) rfl ?_
  refine zz_iconst (v := (0 : Int32)) C dX2_sumOfPoints_0 (by decide) ?_
  refine zz_istore C dX2_sumOfPoints_1 (by decide) (lv' := [(4, .int (0 : Int32)), (0, .ref (ad 19)), (1, .ref (ad 1)), (2, .int a_), (3, .int b_)]) rfl ?_
  refine zz_iconst (v := (0 : Int32)) C dX2_sumOfPoints_3 (by decide) ?_
  refine zz_istore C dX2_sumOfPoints_4 (by decide) (lv' := [(5, .int (0 : Int32)), (4, .int (0 : Int32)), (0, .ref (ad 19)), (1, .ref (ad 1)), (2, .int a_), (3, .int b_)]) rfl ?_
  obtain ⟨q6, h7, hf⟩ := zz_bind hf
  refine zz_sub [2, 3, 4, 5, 1, 0] rfl ?_
  refine mX2_sumOfPoints_L1 C (Nat.le_of_ble_eq_true rfl) (Nat.le_of_ble_eq_true rfl) σ a_ b_ 1000 (0 : Int32) (0 : Int32) q6 h7 ?_
  refine zz_iload C 4 dX2_sumOfPoints_32 rfl ?_
  cases hf
  exact zz_iret C dX2_sumOfPoints_34 (And.intro rfl rfl) (Nat.le_of_ble_eq_true rfl) (Nat.le_of_ble_eq_true rfl)
theorem dX3_weighAll_0 : decode cX3_weighAll 0 = .ok (.iconst 1, 1) := by decide +kernel
theorem dX3_weighAll_1 : decode cX3_weighAll 1 = .ok (.istore_n 3, 1) := by decide +kernel
theorem dX3_weighAll_2 : decode cX3_weighAll 2 = .ok (.iload_n 3, 1) := by decide +kernel
theorem dX3_weighAll_3 : decode cX3_weighAll 3 = .ok (.aload_n 1, 1) := by decide +kernel
theorem dX3_weighAll_4 : decode cX3_weighAll 4 = .ok (.getfield 27, 3) := by decide +kernel
theorem dX3_weighAll_7 : decode cX3_weighAll 7 = .ok (.if_icmp .ge 56, 3) := by decide +kernel
theorem dX3_weighAll_10 : decode cX3_weighAll 10 = .ok (.iconst 0, 1) := by decide +kernel
theorem dX3_weighAll_11 : decode cX3_weighAll 11 = .ok (.istore 4, 2) := by decide +kernel
theorem dX3_weighAll_13 : decode cX3_weighAll 13 = .ok (.iload 4, 2) := by decide +kernel
theorem dX3_weighAll_15 : decode cX3_weighAll 15 = .ok (.iload_n 3, 1) := by decide +kernel
theorem dX3_weighAll_16 : decode cX3_weighAll 16 = .ok (.if_icmp .ge 41, 3) := by decide +kernel
theorem dX3_weighAll_19 : decode cX3_weighAll 19 = .ok (.aload_n 2, 1) := by decide +kernel
theorem dX3_weighAll_20 : decode cX3_weighAll 20 = .ok (.aload_n 1, 1) := by decide +kernel
theorem dX3_weighAll_21 : decode cX3_weighAll 21 = .ok (.iload 4, 2) := by decide +kernel
theorem dX3_weighAll_23 : decode cX3_weighAll 23 = .ok (.iload_n 3, 1) := by decide +kernel
theorem dX3_weighAll_24 : decode cX3_weighAll 24 = .ok (.invokevirtual 32, 3) := by decide +kernel
theorem dX3_weighAll_27 : decode cX3_weighAll 27 = .ok (.istore 5, 2) := by decide +kernel
theorem dX3_weighAll_29 : decode cX3_weighAll 29 = .ok (.aload_n 0, 1) := by decide +kernel
theorem dX3_weighAll_30 : decode cX3_weighAll 30 = .ok (.getfield 24, 3) := by decide +kernel
theorem dX3_weighAll_33 : decode cX3_weighAll 33 = .ok (.iload 4, 2) := by decide +kernel
theorem dX3_weighAll_35 : decode cX3_weighAll 35 = .ok (.aaload, 1) := by decide +kernel
theorem dX3_weighAll_36 : decode cX3_weighAll 36 = .ok (.iload_n 3, 1) := by decide +kernel
theorem dX3_weighAll_37 : decode cX3_weighAll 37 = .ok (.iload 5, 2) := by decide +kernel
theorem dX3_weighAll_39 : decode cX3_weighAll 39 = .ok (.iastore, 1) := by decide +kernel
theorem dX3_weighAll_40 : decode cX3_weighAll 40 = .ok (.aload_n 0, 1) := by decide +kernel
theorem dX3_weighAll_41 : decode cX3_weighAll 41 = .ok (.getfield 24, 3) := by decide +kernel
theorem dX3_weighAll_44 : decode cX3_weighAll 44 = .ok (.iload_n 3, 1) := by decide +kernel
theorem dX3_weighAll_45 : decode cX3_weighAll 45 = .ok (.aaload, 1) := by decide +kernel
theorem dX3_weighAll_46 : decode cX3_weighAll 46 = .ok (.iload 4, 2) := by decide +kernel
theorem dX3_weighAll_48 : decode cX3_weighAll 48 = .ok (.iload 5, 2) := by decide +kernel
theorem dX3_weighAll_50 : decode cX3_weighAll 50 = .ok (.iastore, 1) := by decide +kernel
theorem dX3_weighAll_51 : decode cX3_weighAll 51 = .ok (.iinc 4 1, 3) := by decide +kernel
theorem dX3_weighAll_54 : decode cX3_weighAll 54 = .ok (.goto (-41), 3) := by decide +kernel
theorem dX3_weighAll_57 : decode cX3_weighAll 57 = .ok (.iinc 3 1, 3) := by decide +kernel
theorem dX3_weighAll_60 : decode cX3_weighAll 60 = .ok (.goto (-58), 3) := by decide +kernel
theorem dX3_weighAll_63 : decode cX3_weighAll 63 = .ok (.return_, 1) := by decide +kernel
set_option maxHeartbeats 4000000 in
set_option maxRecDepth 100000 in
theorem mX3_weighAll_L2 {p : Program} {l : Launch} {e : Env} {R : Room} {s : State} {m : MethodId} {args : Array Value} {below : List Frame} {meth : Method} {c : Code} {Q : State → Prop} {D : va_G} {U : zz_U} {A : Nat → Prop} {cells slots : Nat} {ad : Nat → Nat} {X : va_W} (C : zz_C p l R s m meth c D U A RX3 cX3_weighAll 6 none [] 4) (hcR : cells ≤ R.cells) (hsR : slots ≤ R.slots) (b_ : Int32) : ∀ (n : Nat) (a_ : Int32) (σ : zz_St) (q : (Int32 × zz_St)), fX3_weighAll_L2 b_ n a_ σ = some q → (zz_Z p l e R s m args below meth c Q D A 6 cells slots (zz_wc U ad q.2 X) 57 [(0, .ref (ad 24)), (1, .ref (ad 1)), (2, .ref (ad 19)), (3, .int b_), (4, .int q.1)] []) → zz_Z p l e R s m args below meth c Q D A 6 cells slots (zz_wc U ad σ X) 13 [(0, .ref (ad 24)), (1, .ref (ad 1)), (2, .ref (ad 19)), (3, .int b_), (4, .int a_)] [] := by
  intro n
  induction n with
  | zero => intro a_ σ q hf; rw [fX3_weighAll_L2] at hf; cases hf
  | succ n ih =>
    intro a_ σ q hf kx
    rw [fX3_weighAll_L2] at hf
    refine zz_iload C 4 dX3_weighAll_13 rfl ?_
    refine zz_iload_n C 3 dX3_weighAll_15 rfl rfl ?_
    refine zz_icmp_ge (tgt := 57) C dX3_weighAll_16 (by decide) (fun g2 => ?_) (fun g2 => ?_)
    · rw [if_pos g2] at hf
      cases hf
      exact kx
    · rw [if_neg g2] at hf
      refine zz_aload_n C 2 dX3_weighAll_19 rfl rfl ?_
      refine zz_aload_n C 1 dX3_weighAll_20 rfl rfl ?_
      refine zz_iload C 4 dX3_weighAll_21 rfl ?_
      refine zz_iload_n C 3 dX3_weighAll_23 rfl rfl ?_
      obtain ⟨x3, h4, hf⟩ := zz_bind hf
      refine zz_callV1 (As := [.ref (ad 1), .int a_, .int b_]) (rest := []) C 19 (mX2_sumOfPoints σ a_ b_ x3 h4) dX3_weighAll_24 rfl rfl rfl zw_52 zy_X2_sumOfPoints rfl (by decide) (by decide) (Nat.le_of_ble_eq_true rfl) hcR hsR rfl ?_
      refine zz_istore C dX3_weighAll_27 (by decide) (lv' := [(5, .int x3), (0, .ref (ad 24)), (1, .ref (ad 1)), (2, .ref (ad 19)), (3, .int b_), (4, .int a_)]) rfl ?_
      refine zz_aload_n C 1 dX3_weighAll_29 rfl rfl ?_
      refine zf3_affinities C dX3_weighAll_30 zw_51 ?_
      refine zz_iload C 5 dX3_weighAll_33 rfl ?_
      obtain ⟨x5, h6, hf⟩ := zz_bind hf
      refine zr_26 C dX3_weighAll_35 h6 ?_
      refine zz_iload_n C 4 dX3_weighAll_36 rfl rfl ?_
      refine zz_iload C 0 dX3_weighAll_37 rfl ?_
      obtain ⟨σ7, h8, hf⟩ := zz_bind hf
      refine zs_26 C dX3_weighAll_39 h6 h8 ?_
      refine zz_aload_n C 1 dX3_weighAll_40 rfl rfl ?_
      refine zf3_affinities C dX3_weighAll_41 zw_51 ?_
      refine zz_iload_n C 4 dX3_weighAll_44 rfl rfl ?_
      obtain ⟨x9, h10, hf⟩ := zz_bind hf
      refine zr_26 C dX3_weighAll_45 h10 ?_
      refine zz_iload C 5 dX3_weighAll_46 rfl ?_
      refine zz_iload C 0 dX3_weighAll_48 rfl ?_
      obtain ⟨σ11, h12, hf⟩ := zz_bind hf
      refine zs_26 C dX3_weighAll_50 h10 h12 ?_
      refine zz_iinc (v := (a_ + (1 : Int32))) C 5 dX3_weighAll_51 rfl (by rfl) (by decide) (lv' := [(4, .int (a_ + (1 : Int32))), (5, .int x3), (0, .ref (ad 24)), (1, .ref (ad 1)), (2, .ref (ad 19)), (3, .int b_)]) rfl ?_
      refine zz_goto (tgt := 13) C dX3_weighAll_54 (by decide) ?_
      refine zz_sub [2, 3, 4, 5, 0] rfl ?_
      exact ih (a_ + (1 : Int32)) σ11 _ hf kx
set_option maxHeartbeats 4000000 in
set_option maxRecDepth 100000 in
theorem mX3_weighAll_L1 {p : Program} {l : Launch} {e : Env} {R : Room} {s : State} {m : MethodId} {args : Array Value} {below : List Frame} {meth : Method} {c : Code} {Q : State → Prop} {D : va_G} {U : zz_U} {A : Nat → Prop} {cells slots : Nat} {ad : Nat → Nat} {X : va_W} (C : zz_C p l R s m meth c D U A RX3 cX3_weighAll 6 none [] 4) (hcR : cells ≤ R.cells) (hsR : slots ≤ R.slots) : ∀ (n : Nat) (b_ : Int32) (σ : zz_St) (q : (Int32 × zz_St)), fX3_weighAll_L1 n b_ σ = some q → (zz_Z p l e R s m args below meth c Q D A 6 cells slots (zz_wc U ad q.2 X) 63 [(0, .ref (ad 24)), (1, .ref (ad 1)), (2, .ref (ad 19)), (3, .int q.1)] []) → zz_Z p l e R s m args below meth c Q D A 6 cells slots (zz_wc U ad σ X) 2 [(0, .ref (ad 24)), (1, .ref (ad 1)), (2, .ref (ad 19)), (3, .int b_)] [] := by
  intro n
  induction n with
  | zero => intro b_ σ q hf; rw [fX3_weighAll_L1] at hf; cases hf
  | succ n ih =>
    intro b_ σ q hf kx
    rw [fX3_weighAll_L1] at hf
    refine zz_iload_n C 3 dX3_weighAll_2 rfl rfl ?_
    refine zz_aload_n C 1 dX3_weighAll_3 rfl rfl ?_
    refine zf5_count C dX3_weighAll_4 zw_53 ?_
    refine zz_icmp_ge (tgt := 63) C dX3_weighAll_7 (by decide) (fun g1 => ?_) (fun g1 => ?_)
    · rw [if_pos g1] at hf
      cases hf
      exact kx
    · rw [if_neg g1] at hf
      refine zz_iconst (v := (0 : Int32)) C dX3_weighAll_10 (by decide) ?_
      refine zz_istore C dX3_weighAll_11 (by decide) (lv' := [(4, .int (0 : Int32)), (0, .ref (ad 24)), (1, .ref (ad 1)), (2, .ref (ad 19)), (3, .int b_)]) rfl ?_
      obtain ⟨q13, h14, hf⟩ := zz_bind hf
      refine zz_sub [1, 2, 3, 4, 0] rfl ?_
      refine mX3_weighAll_L2 C hcR hsR b_ 1000 (0 : Int32) σ q13 h14 ?_
      refine zz_iinc (v := (b_ + (1 : Int32))) C 3 dX3_weighAll_57 rfl (by rfl) (by decide) (lv' := [(3, .int (b_ + (1 : Int32))), (0, .ref (ad 24)), (1, .ref (ad 1)), (2, .ref (ad 19)), (4, .int q13.1)]) rfl ?_
      refine zz_goto (tgt := 2) C dX3_weighAll_60 (by decide) ?_
      refine zz_sub [1, 2, 3, 0] rfl ?_
      exact ih (b_ + (1 : Int32)) q13.2 _ hf kx
set_option maxHeartbeats 4000000 in
set_option maxRecDepth 100000 in
theorem mX3_weighAll {D : va_G} {U : zz_U} {ad : Nat → Nat} {X : va_W} (σ : zz_St) (r : zz_St) (hf : fX3_weighAll σ = some r) : zz_Met yX3_weighAll (.code yX3_weighAll cX3_weighAll 6 none) 4 0 0 D U [.ref (ad 24), .ref (ad 1), .ref (ad 19)] (zz_wc U ad σ X) (zz_ok none (zz_wc U ad r X)) zz_noth := by
  unfold fX3_weighAll at hf
  refine zz_method RX3 rfl (by decide +kernel) (Nat.le_of_ble_eq_true rfl) ?_
  intro p l e s m args below meth c A _ C
  refine zz_lvs (lv1 := [(0, .ref (ad 24)), (1, .ref (ad 1)), (2, .ref (ad 19))]) rfl ?_
  refine zz_iconst (v := (1 : Int32)) C dX3_weighAll_0 (by decide) ?_
  refine zz_istore_n C dX3_weighAll_1 rfl (by decide) (lv' := [(3, .int (1 : Int32)), (0, .ref (ad 24)), (1, .ref (ad 1)), (2, .ref (ad 19))]) rfl ?_
  obtain ⟨q15, h16, hf⟩ := zz_bind hf
  refine zz_sub [1, 2, 3, 0] rfl ?_
  refine mX3_weighAll_L1 C (Nat.le_of_ble_eq_true rfl) (Nat.le_of_ble_eq_true rfl) 1000 (1 : Int32) σ q15 h16 ?_
  cases hf
  exact zz_vret C dX3_weighAll_63 (And.intro rfl rfl) (Nat.le_of_ble_eq_true rfl) (Nat.le_of_ble_eq_true rfl)
