/-! the law's own methods, walked (by program) -/
theorem zwl_0 : zz_g (.constant RL 7 (2147483647)) := ⟨List.mem_of_getElem? (i := 601) (by decide +kernel), by decide +kernel⟩
theorem zwl_1 : zz_g (.constant RL 8 (790386105)) := ⟨List.mem_of_getElem? (i := 605) (by decide +kernel), by decide +kernel⟩
theorem zwl_2 : zz_g (.methodLink RL 9 yL_cell) := ⟨List.mem_of_getElem? (i := 602) (by decide +kernel), by decide +kernel⟩
theorem zwl_3 : zz_g (.methodLink RL 15 yL_below) := ⟨List.mem_of_getElem? (i := 598) (by decide +kernel), by decide +kernel⟩
theorem zwl_4 : zz_g (.methodLink RL 19 yX7_addPiece) := ⟨List.mem_of_getElem? (i := 609) (by decide +kernel), by decide +kernel⟩
theorem zwl_5 : zz_g (.methodLink RL 25 yX7_setNames) := ⟨List.mem_of_getElem? (i := 620) (by decide +kernel), by decide +kernel⟩
theorem zwl_6 : zz_g (.methodLink RL 29 yX7_setName) := ⟨List.mem_of_getElem? (i := 635) (by decide +kernel), by decide +kernel⟩
theorem zwl_7 : zz_g (.methodLink RL 33 yX7_pieceCount) := ⟨List.mem_of_getElem? (i := 646) (by decide +kernel), by decide +kernel⟩
theorem zwl_8 : zz_g (.methodLink RL 46 yJ9_min_7cf53) := ⟨List.mem_of_getElem? (i := 657) (by decide +kernel), by decide +kernel⟩
theorem zwl_9 : zz_g (.methodLink RL 37 yL_classes) := ⟨List.mem_of_getElem? (i := 654) (by decide +kernel), by decide +kernel⟩
theorem zwl_10 : zz_g (.methodLink RL 41 yX7_say) := ⟨List.mem_of_getElem? (i := 658) (by decide +kernel), by decide +kernel⟩
theorem zwl_11 : zz_g (.classLink RL 44 "java/lang/IllegalStateException") := ⟨List.mem_of_getElem? (i := 653) (by decide +kernel), by decide +kernel⟩
theorem zwl_12 : zz_g (.methodLink RL 60 yX7_setThreshold) := ⟨List.mem_of_getElem? (i := 232) (by decide +kernel), by decide +kernel⟩
theorem zwl_13 : zz_g (.methodLink RL 64 yX7_setManner) := ⟨List.mem_of_getElem? (i := 308) (by decide +kernel), by decide +kernel⟩
theorem zwl_14 : zz_g (.methodLink RL 67 yX7_groupCount) := ⟨List.mem_of_getElem? (i := 316) (by decide +kernel), by decide +kernel⟩
theorem zwl_15 : zz_g (.methodLink RL 70 yX7_group) := ⟨List.mem_of_getElem? (i := 436) (by decide +kernel), by decide +kernel⟩
theorem zwl_16 : zz_g (.methodLink RL 73 yJ6_numberOfTrailingZeros_0f7a4) := ⟨List.mem_of_getElem? (i := 681) (by decide +kernel), by decide +kernel⟩
theorem zwl_17 : zz_g (.methodLink RL 78 yX7_linkage) := ⟨List.mem_of_getElem? (i := 477) (by decide +kernel), by decide +kernel⟩
theorem zwl_18 : zz_g (.methodLink RL 81 yX7_lastLinkage) := ⟨List.mem_of_getElem? (i := 483) (by decide +kernel), by decide +kernel⟩
theorem zwl_19 : zz_g (.methodLink RL 84 yX7_groupOf) := ⟨List.mem_of_getElem? (i := 460) (by decide +kernel), by decide +kernel⟩
theorem zwl_20 : zz_g (.methodLink RL 87 yX7_parcelOf) := ⟨List.mem_of_getElem? (i := 509) (by decide +kernel), by decide +kernel⟩
theorem zwl_21 : zz_g (.methodLink RL 90 yX7_needs) := ⟨List.mem_of_getElem? (i := 487) (by decide +kernel), by decide +kernel⟩
theorem zwl_22 : zz_g (.methodLink RL 94 yX7_parcelCount) := ⟨List.mem_of_getElem? (i := 496) (by decide +kernel), by decide +kernel⟩
theorem zwl_23 : zz_g (.methodLink RL 97 yX7_parcel) := ⟨List.mem_of_getElem? (i := 500) (by decide +kernel), by decide +kernel⟩
theorem zwl_24 : zz_g (.methodLink RL 100 yX7_lines) := ⟨List.mem_of_getElem? (i := 517) (by decide +kernel), by decide +kernel⟩
theorem zwl_25 : zz_g (.methodLink RL 103 yX7_knots) := ⟨List.mem_of_getElem? (i := 513) (by decide +kernel), by decide +kernel⟩
theorem zwl_26 : zz_g (.methodLink RL 106 yX7_leastBreakage) := ⟨List.mem_of_getElem? (i := 548) (by decide +kernel), by decide +kernel⟩
theorem zwl_27 : zz_g (.methodLink RL 109 yX7_best) := ⟨List.mem_of_getElem? (i := 593) (by decide +kernel), by decide +kernel⟩
theorem zwl_28 : zz_g (.methodLink RL 112 yX7_broken) := ⟨List.mem_of_getElem? (i := 525) (by decide +kernel), by decide +kernel⟩
theorem zwl_29 : zz_g (.methodLink RL 115 yJ6_bitCount_0f7a4) := ⟨List.mem_of_getElem? (i := 685) (by decide +kernel), by decide +kernel⟩
theorem zwl_30 : zz_g (.methodLink RL 118 yX7_breakage) := ⟨List.mem_of_getElem? (i := 539) (by decide +kernel), by decide +kernel⟩
theorem zy_L_below : zz_YS yL_below (.code yL_below cL_below 2 (some .int)) 2 := ⟨⟨List.mem_of_getElem? (i := 599) (by decide +kernel), by decide +kernel⟩, ⟨List.mem_of_getElem? (i := 600) (by decide +kernel), by decide +kernel⟩, ⟨List.mem_of_getElem? (i := 21) (by decide +kernel), by decide +kernel⟩, by decide +kernel, by decide +kernel, by decide +kernel⟩
theorem dL_below_0 : decode cL_below 0 = .ok (.iload_n 0, 1) := by decide +kernel
theorem dL_below_1 : decode cL_below 1 = .ok (.ldc 7, 2) := by decide +kernel
theorem dL_below_3 : decode cL_below 3 = .ok (.iand, 1) := by decide +kernel
theorem dL_below_4 : decode cL_below 4 = .ok (.iload_n 1, 1) := by decide +kernel
theorem dL_below_5 : decode cL_below 5 = .ok (.irem, 1) := by decide +kernel
theorem dL_below_6 : decode cL_below 6 = .ok (.ireturn, 1) := by decide +kernel
set_option maxHeartbeats 4000000 in
set_option maxRecDepth 100000 in
theorem mL_below {D : va_G} {U : zz_U} {ws : va_W} (v_ : Int32) (n_ : Int32) (r : Int32) (hf : fL_below v_ n_ = some r) : zz_Met yL_below (.code yL_below cL_below 2 (some .int)) 0 0 0 D U [.int v_, .int n_] ws (zz_ok (some (.int r)) ws) zz_noth := by
  unfold fL_below at hf
  refine zz_method RL rfl (by decide +kernel) (Nat.le_of_ble_eq_true rfl) ?_
  intro p l e s m args below meth c A _ C
  refine zz_lvs (lv1 := [(0, .int v_), (1, .int n_)]) rfl ?_
  refine zz_iload_n C 0 dL_below_0 rfl rfl ?_
  refine zz_ldc (v := (2147483647 : Int32)) C dL_below_1 zwl_0 ?_
  refine zz_iand C dL_below_3 ?_
  refine zz_iload_n C 1 dL_below_4 rfl rfl ?_
  obtain ⟨x1, h2, hf⟩ := zz_bind hf
  refine zz_irem C dL_below_5 (zx_rm_in h2).1 ?_
  refine zz_topi (zx_rm_in h2).2 ?_
  cases hf
  exact zz_iret C dL_below_6 (And.intro rfl rfl) (Nat.le_of_ble_eq_true rfl) (Nat.le_of_ble_eq_true rfl)
theorem zy_L_cell : zz_YS yL_cell (.code yL_cell cL_cell 2 (some .int)) 2 := ⟨⟨List.mem_of_getElem? (i := 603) (by decide +kernel), by decide +kernel⟩, ⟨List.mem_of_getElem? (i := 604) (by decide +kernel), by decide +kernel⟩, ⟨List.mem_of_getElem? (i := 21) (by decide +kernel), by decide +kernel⟩, by decide +kernel, by decide +kernel, by decide +kernel⟩
theorem dL_cell_0 : decode cL_cell 0 = .ok (.iload_n 1, 1) := by decide +kernel
theorem dL_cell_1 : decode cL_cell 1 = .ok (.aload_n 0, 1) := by decide +kernel
theorem dL_cell_2 : decode cL_cell 2 = .ok (.arraylength, 1) := by decide +kernel
theorem dL_cell_3 : decode cL_cell 3 = .ok (.if_icmp .ge 9, 3) := by decide +kernel
theorem dL_cell_6 : decode cL_cell 6 = .ok (.aload_n 0, 1) := by decide +kernel
theorem dL_cell_7 : decode cL_cell 7 = .ok (.iload_n 1, 1) := by decide +kernel
theorem dL_cell_8 : decode cL_cell 8 = .ok (.iaload, 1) := by decide +kernel
theorem dL_cell_9 : decode cL_cell 9 = .ok (.goto 9, 3) := by decide +kernel
theorem dL_cell_12 : decode cL_cell 12 = .ok (.ldc 8, 2) := by decide +kernel
theorem dL_cell_14 : decode cL_cell 14 = .ok (.iload_n 1, 1) := by decide +kernel
theorem dL_cell_15 : decode cL_cell 15 = .ok (.iconst 3, 1) := by decide +kernel
theorem dL_cell_16 : decode cL_cell 16 = .ok (.iadd, 1) := by decide +kernel
theorem dL_cell_17 : decode cL_cell 17 = .ok (.imul, 1) := by decide +kernel
theorem dL_cell_18 : decode cL_cell 18 = .ok (.ireturn, 1) := by decide +kernel
set_option maxHeartbeats 4000000 in
set_option maxRecDepth 100000 in
theorem mL_cell {D : va_G} {U : zz_U} {ws : va_W} {b L : Nat} {xs : Nat → Int32} (k_ : Int32) (r : Int32) (hf : fL_cell xs L k_ = some r) : zb_Met yL_cell (.code yL_cell cL_cell 2 (some .int)) 0 0 0 D U b L xs [.ref b, .int k_] ws (zz_ok (some (.int r)) ws) zz_noth := by
  unfold fL_cell at hf
  refine zb_method RL rfl (by decide +kernel) (Nat.le_of_ble_eq_true rfl) ?_
  intro p l e s m args below meth c A _ C hX hbl hbA
  refine zz_lvs (lv1 := [(0, .ref b), (1, .int k_)]) rfl ?_
  obtain ⟨x1, h2, hf⟩ := zz_bind hf
  refine zx_cut 0 0 18 [(0, .ref b), (1, .int k_)] [.int x1] ws ?_ (fun J3 => ?_)
  · cases hf
    exact zz_iret C dL_cell_18 (And.intro rfl rfl) (Nat.le_of_ble_eq_true rfl) (Nat.le_of_ble_eq_true rfl)
  refine zz_iload_n C 1 dL_cell_0 rfl rfl ?_
  refine zz_aload_n C 0 dL_cell_1 rfl rfl ?_
  refine zz_slen C hX hbl hbA dL_cell_2 ?_
  refine zz_icmp_ge (tgt := 12) C dL_cell_3 (by decide) (fun g4 => ?_) (fun g4 => ?_)
  · rw [if_pos g4] at h2
    refine zz_ldc (v := (790386105 : Int32)) C dL_cell_12 zwl_1 ?_
    refine zz_iload_n C 1 dL_cell_14 rfl rfl ?_
    refine zz_iconst (v := (3 : Int32)) C dL_cell_15 (by decide) ?_
    refine zz_iadd C dL_cell_16 ?_
    refine zz_imul C dL_cell_17 ?_
    cases h2
    refine zz_widen (k := 0) (n := 0) (Nat.le_of_ble_eq_true rfl) (Nat.le_of_ble_eq_true rfl) ?_
    exact J3
  · rw [if_neg g4] at h2
    refine zz_aload_n C 0 dL_cell_6 rfl rfl ?_
    refine zz_iload_n C 1 dL_cell_7 rfl rfl ?_
    obtain ⟨x5, h6, h2⟩ := zz_bind h2
    refine zz_sld C hX hbl hbA dL_cell_8 h6 ?_
    refine zz_goto (tgt := 18) C dL_cell_9 (by decide) ?_
    cases h2
    refine zz_widen (k := 0) (n := 0) (Nat.le_of_ble_eq_true rfl) (Nat.le_of_ble_eq_true rfl) ?_
    exact J3
theorem zy_L_build : zz_YS yL_build (.code yL_build cL_build 11 (some .int)) 6 := ⟨⟨List.mem_of_getElem? (i := 607) (by decide +kernel), by decide +kernel⟩, ⟨List.mem_of_getElem? (i := 608) (by decide +kernel), by decide +kernel⟩, ⟨List.mem_of_getElem? (i := 21) (by decide +kernel), by decide +kernel⟩, by decide +kernel, by decide +kernel, by decide +kernel⟩
theorem dL_build_0 : decode cL_build 0 = .ok (.aload_n 1, 1) := by decide +kernel
theorem dL_build_1 : decode cL_build 1 = .ok (.iload_n 2, 1) := by decide +kernel
theorem dL_build_2 : decode cL_build 2 = .ok (.invokestatic 9, 3) := by decide +kernel
theorem dL_build_5 : decode cL_build 5 = .ok (.iload_n 3, 1) := by decide +kernel
theorem dL_build_6 : decode cL_build 6 = .ok (.iconst 1, 1) := by decide +kernel
theorem dL_build_7 : decode cL_build 7 = .ok (.iadd, 1) := by decide +kernel
theorem dL_build_8 : decode cL_build 8 = .ok (.invokestatic 15, 3) := by decide +kernel
theorem dL_build_11 : decode cL_build 11 = .ok (.istore 6, 2) := by decide +kernel
theorem dL_build_13 : decode cL_build 13 = .ok (.iconst 0, 1) := by decide +kernel
theorem dL_build_14 : decode cL_build 14 = .ok (.istore 7, 2) := by decide +kernel
theorem dL_build_16 : decode cL_build 16 = .ok (.iload 7, 2) := by decide +kernel
theorem dL_build_18 : decode cL_build 18 = .ok (.iload 6, 2) := by decide +kernel
theorem dL_build_20 : decode cL_build 20 = .ok (.if_icmp .ge 274, 3) := by decide +kernel
theorem dL_build_23 : decode cL_build 23 = .ok (.aload_n 1, 1) := by decide +kernel
theorem dL_build_24 : decode cL_build 24 = .ok (.iload_n 2, 1) := by decide +kernel
theorem dL_build_25 : decode cL_build 25 = .ok (.iconst 1, 1) := by decide +kernel
theorem dL_build_26 : decode cL_build 26 = .ok (.iadd, 1) := by decide +kernel
theorem dL_build_27 : decode cL_build 27 = .ok (.iload 7, 2) := by decide +kernel
theorem dL_build_29 : decode cL_build 29 = .ok (.bipush 7, 2) := by decide +kernel
theorem dL_build_31 : decode cL_build 31 = .ok (.irem, 1) := by decide +kernel
theorem dL_build_32 : decode cL_build 32 = .ok (.iadd, 1) := by decide +kernel
theorem dL_build_33 : decode cL_build 33 = .ok (.invokestatic 9, 3) := by decide +kernel
theorem dL_build_36 : decode cL_build 36 = .ok (.iload 7, 2) := by decide +kernel
theorem dL_build_38 : decode cL_build 38 = .ok (.bipush 7, 2) := by decide +kernel
theorem dL_build_40 : decode cL_build 40 = .ok (.idiv, 1) := by decide +kernel
theorem dL_build_41 : decode cL_build 41 = .ok (.bipush 9, 2) := by decide +kernel
theorem dL_build_43 : decode cL_build 43 = .ok (.imul, 1) := by decide +kernel
theorem dL_build_44 : decode cL_build 44 = .ok (.ishr, 1) := by decide +kernel
theorem dL_build_45 : decode cL_build 45 = .ok (.istore 8, 2) := by decide +kernel
theorem dL_build_47 : decode cL_build 47 = .ok (.aload 4, 2) := by decide +kernel
theorem dL_build_49 : decode cL_build 49 = .ok (.bipush 8, 2) := by decide +kernel
theorem dL_build_51 : decode cL_build 51 = .ok (.iload 7, 2) := by decide +kernel
theorem dL_build_53 : decode cL_build 53 = .ok (.imul, 1) := by decide +kernel
theorem dL_build_54 : decode cL_build 54 = .ok (.iload 8, 2) := by decide +kernel
theorem dL_build_56 : decode cL_build 56 = .ok (.iconst 2, 1) := by decide +kernel
theorem dL_build_57 : decode cL_build 57 = .ok (.invokestatic 15, 3) := by decide +kernel
theorem dL_build_60 : decode cL_build 60 = .ok (.iastore, 1) := by decide +kernel
theorem dL_build_61 : decode cL_build 61 = .ok (.aload 4, 2) := by decide +kernel
theorem dL_build_63 : decode cL_build 63 = .ok (.bipush 8, 2) := by decide +kernel
theorem dL_build_65 : decode cL_build 65 = .ok (.iload 7, 2) := by decide +kernel
theorem dL_build_67 : decode cL_build 67 = .ok (.imul, 1) := by decide +kernel
theorem dL_build_68 : decode cL_build 68 = .ok (.iconst 1, 1) := by decide +kernel
theorem dL_build_69 : decode cL_build 69 = .ok (.iadd, 1) := by decide +kernel
theorem dL_build_70 : decode cL_build 70 = .ok (.bipush 10, 2) := by decide +kernel
theorem dL_build_72 : decode cL_build 72 = .ok (.iload 8, 2) := by decide +kernel
theorem dL_build_74 : decode cL_build 74 = .ok (.iconst 1, 1) := by decide +kernel
theorem dL_build_75 : decode cL_build 75 = .ok (.ishr, 1) := by decide +kernel
theorem dL_build_76 : decode cL_build 76 = .ok (.bipush 6, 2) := by decide +kernel
theorem dL_build_78 : decode cL_build 78 = .ok (.invokestatic 15, 3) := by decide +kernel
theorem dL_build_81 : decode cL_build 81 = .ok (.imul, 1) := by decide +kernel
theorem dL_build_82 : decode cL_build 82 = .ok (.iastore, 1) := by decide +kernel
theorem dL_build_83 : decode cL_build 83 = .ok (.aload 4, 2) := by decide +kernel
theorem dL_build_85 : decode cL_build 85 = .ok (.bipush 8, 2) := by decide +kernel
theorem dL_build_87 : decode cL_build 87 = .ok (.iload 7, 2) := by decide +kernel
theorem dL_build_89 : decode cL_build 89 = .ok (.imul, 1) := by decide +kernel
theorem dL_build_90 : decode cL_build 90 = .ok (.iconst 2, 1) := by decide +kernel
theorem dL_build_91 : decode cL_build 91 = .ok (.iadd, 1) := by decide +kernel
theorem dL_build_92 : decode cL_build 92 = .ok (.iload 8, 2) := by decide +kernel
theorem dL_build_94 : decode cL_build 94 = .ok (.iconst 4, 1) := by decide +kernel
theorem dL_build_95 : decode cL_build 95 = .ok (.ishr, 1) := by decide +kernel
theorem dL_build_96 : decode cL_build 96 = .ok (.bipush 30, 2) := by decide +kernel
theorem dL_build_98 : decode cL_build 98 = .ok (.invokestatic 15, 3) := by decide +kernel
theorem dL_build_101 : decode cL_build 101 = .ok (.iastore, 1) := by decide +kernel
theorem dL_build_102 : decode cL_build 102 = .ok (.aload 4, 2) := by decide +kernel
theorem dL_build_104 : decode cL_build 104 = .ok (.bipush 8, 2) := by decide +kernel
theorem dL_build_106 : decode cL_build 106 = .ok (.iload 7, 2) := by decide +kernel
theorem dL_build_108 : decode cL_build 108 = .ok (.imul, 1) := by decide +kernel
theorem dL_build_109 : decode cL_build 109 = .ok (.iconst 3, 1) := by decide +kernel
theorem dL_build_110 : decode cL_build 110 = .ok (.iadd, 1) := by decide +kernel
theorem dL_build_111 : decode cL_build 111 = .ok (.iload 8, 2) := by decide +kernel
theorem dL_build_113 : decode cL_build 113 = .ok (.bipush 6, 2) := by decide +kernel
theorem dL_build_115 : decode cL_build 115 = .ok (.ishr, 1) := by decide +kernel
theorem dL_build_116 : decode cL_build 116 = .ok (.bipush 20, 2) := by decide +kernel
theorem dL_build_118 : decode cL_build 118 = .ok (.invokestatic 15, 3) := by decide +kernel
theorem dL_build_121 : decode cL_build 121 = .ok (.iastore, 1) := by decide +kernel
theorem dL_build_122 : decode cL_build 122 = .ok (.aload_n 0, 1) := by decide +kernel
theorem dL_build_123 : decode cL_build 123 = .ok (.aload 4, 2) := by decide +kernel
theorem dL_build_125 : decode cL_build 125 = .ok (.bipush 8, 2) := by decide +kernel
theorem dL_build_127 : decode cL_build 127 = .ok (.iload 7, 2) := by decide +kernel
theorem dL_build_129 : decode cL_build 129 = .ok (.imul, 1) := by decide +kernel
theorem dL_build_130 : decode cL_build 130 = .ok (.iaload, 1) := by decide +kernel
theorem dL_build_131 : decode cL_build 131 = .ok (.aload 4, 2) := by decide +kernel
theorem dL_build_133 : decode cL_build 133 = .ok (.bipush 8, 2) := by decide +kernel
theorem dL_build_135 : decode cL_build 135 = .ok (.iload 7, 2) := by decide +kernel
theorem dL_build_137 : decode cL_build 137 = .ok (.imul, 1) := by decide +kernel
theorem dL_build_138 : decode cL_build 138 = .ok (.iconst 1, 1) := by decide +kernel
theorem dL_build_139 : decode cL_build 139 = .ok (.iadd, 1) := by decide +kernel
theorem dL_build_140 : decode cL_build 140 = .ok (.iaload, 1) := by decide +kernel
theorem dL_build_141 : decode cL_build 141 = .ok (.aload 4, 2) := by decide +kernel
theorem dL_build_143 : decode cL_build 143 = .ok (.bipush 8, 2) := by decide +kernel
theorem dL_build_145 : decode cL_build 145 = .ok (.iload 7, 2) := by decide +kernel
theorem dL_build_147 : decode cL_build 147 = .ok (.imul, 1) := by decide +kernel
theorem dL_build_148 : decode cL_build 148 = .ok (.iconst 2, 1) := by decide +kernel
theorem dL_build_149 : decode cL_build 149 = .ok (.iadd, 1) := by decide +kernel
theorem dL_build_150 : decode cL_build 150 = .ok (.iaload, 1) := by decide +kernel
theorem dL_build_151 : decode cL_build 151 = .ok (.aload 4, 2) := by decide +kernel
theorem dL_build_153 : decode cL_build 153 = .ok (.bipush 8, 2) := by decide +kernel
theorem dL_build_155 : decode cL_build 155 = .ok (.iload 7, 2) := by decide +kernel
theorem dL_build_157 : decode cL_build 157 = .ok (.imul, 1) := by decide +kernel
theorem dL_build_158 : decode cL_build 158 = .ok (.iconst 3, 1) := by decide +kernel
theorem dL_build_159 : decode cL_build 159 = .ok (.iadd, 1) := by decide +kernel
theorem dL_build_160 : decode cL_build 160 = .ok (.iaload, 1) := by decide +kernel
theorem dL_build_161 : decode cL_build 161 = .ok (.invokevirtual 19, 3) := by decide +kernel
theorem dL_build_164 : decode cL_build 164 = .ok (.iload 7, 2) := by decide +kernel
theorem dL_build_166 : decode cL_build 166 = .ok (.if_icmp .eq 5, 3) := by decide +kernel
theorem dL_build_169 : decode cL_build 169 = .ok (.iconst (-1), 1) := by decide +kernel
theorem dL_build_170 : decode cL_build 170 = .ok (.ireturn, 1) := by decide +kernel
theorem dL_build_171 : decode cL_build 171 = .ok (.iconst 0, 1) := by decide +kernel
theorem dL_build_172 : decode cL_build 172 = .ok (.istore 9, 2) := by decide +kernel
theorem dL_build_174 : decode cL_build 174 = .ok (.iload 9, 2) := by decide +kernel
theorem dL_build_176 : decode cL_build 176 = .ok (.iconst 4, 1) := by decide +kernel
theorem dL_build_177 : decode cL_build 177 = .ok (.if_icmp .ge 111, 3) := by decide +kernel
theorem dL_build_180 : decode cL_build 180 = .ok (.iload 8, 2) := by decide +kernel
theorem dL_build_182 : decode cL_build 182 = .ok (.iconst 3, 1) := by decide +kernel
theorem dL_build_183 : decode cL_build 183 = .ok (.iconst 5, 1) := by decide +kernel
theorem dL_build_184 : decode cL_build 184 = .ok (.iload 9, 2) := by decide +kernel
theorem dL_build_186 : decode cL_build 186 = .ok (.imul, 1) := by decide +kernel
theorem dL_build_187 : decode cL_build 187 = .ok (.iadd, 1) := by decide +kernel
theorem dL_build_188 : decode cL_build 188 = .ok (.ishr, 1) := by decide +kernel
theorem dL_build_189 : decode cL_build 189 = .ok (.istore 10, 2) := by decide +kernel
theorem dL_build_191 : decode cL_build 191 = .ok (.aload 4, 2) := by decide +kernel
theorem dL_build_193 : decode cL_build 193 = .ok (.bipush 8, 2) := by decide +kernel
theorem dL_build_195 : decode cL_build 195 = .ok (.iload 7, 2) := by decide +kernel
theorem dL_build_197 : decode cL_build 197 = .ok (.imul, 1) := by decide +kernel
theorem dL_build_198 : decode cL_build 198 = .ok (.iconst 4, 1) := by decide +kernel
theorem dL_build_199 : decode cL_build 199 = .ok (.iadd, 1) := by decide +kernel
theorem dL_build_200 : decode cL_build 200 = .ok (.iload 9, 2) := by decide +kernel
theorem dL_build_202 : decode cL_build 202 = .ok (.iadd, 1) := by decide +kernel
theorem dL_build_203 : decode cL_build 203 = .ok (.iload 10, 2) := by decide +kernel
theorem dL_build_205 : decode cL_build 205 = .ok (.iconst 3, 1) := by decide +kernel
theorem dL_build_206 : decode cL_build 206 = .ok (.invokestatic 15, 3) := by decide +kernel
theorem dL_build_209 : decode cL_build 209 = .ok (.ifCond .ne 17, 3) := by decide +kernel
theorem dL_build_212 : decode cL_build 212 = .ok (.iconst 1, 1) := by decide +kernel
theorem dL_build_213 : decode cL_build 213 = .ok (.iload 10, 2) := by decide +kernel
theorem dL_build_215 : decode cL_build 215 = .ok (.iconst 2, 1) := by decide +kernel
theorem dL_build_216 : decode cL_build 216 = .ok (.ishr, 1) := by decide +kernel
theorem dL_build_217 : decode cL_build 217 = .ok (.bipush 6, 2) := by decide +kernel
theorem dL_build_219 : decode cL_build 219 = .ok (.invokestatic 15, 3) := by decide +kernel
theorem dL_build_222 : decode cL_build 222 = .ok (.ishl, 1) := by decide +kernel
theorem dL_build_223 : decode cL_build 223 = .ok (.goto 4, 3) := by decide +kernel
theorem dL_build_226 : decode cL_build 226 = .ok (.iconst 0, 1) := by decide +kernel
theorem dL_build_227 : decode cL_build 227 = .ok (.iload 10, 2) := by decide +kernel
theorem dL_build_229 : decode cL_build 229 = .ok (.iconst 5, 1) := by decide +kernel
theorem dL_build_230 : decode cL_build 230 = .ok (.ishr, 1) := by decide +kernel
theorem dL_build_231 : decode cL_build 231 = .ok (.iconst 4, 1) := by decide +kernel
theorem dL_build_232 : decode cL_build 232 = .ok (.invokestatic 15, 3) := by decide +kernel
theorem dL_build_235 : decode cL_build 235 = .ok (.ifCond .ne 18, 3) := by decide +kernel
theorem dL_build_238 : decode cL_build 238 = .ok (.iconst 1, 1) := by decide +kernel
theorem dL_build_239 : decode cL_build 239 = .ok (.iload 10, 2) := by decide +kernel
theorem dL_build_241 : decode cL_build 241 = .ok (.bipush 7, 2) := by decide +kernel
theorem dL_build_243 : decode cL_build 243 = .ok (.ishr, 1) := by decide +kernel
theorem dL_build_244 : decode cL_build 244 = .ok (.bipush 6, 2) := by decide +kernel
theorem dL_build_246 : decode cL_build 246 = .ok (.invokestatic 15, 3) := by decide +kernel
theorem dL_build_249 : decode cL_build 249 = .ok (.ishl, 1) := by decide +kernel
theorem dL_build_250 : decode cL_build 250 = .ok (.goto 4, 3) := by decide +kernel
theorem dL_build_253 : decode cL_build 253 = .ok (.iconst 0, 1) := by decide +kernel
theorem dL_build_254 : decode cL_build 254 = .ok (.ior, 1) := by decide +kernel
theorem dL_build_255 : decode cL_build 255 = .ok (.iastore, 1) := by decide +kernel
theorem dL_build_256 : decode cL_build 256 = .ok (.aload_n 0, 1) := by decide +kernel
theorem dL_build_257 : decode cL_build 257 = .ok (.iload 7, 2) := by decide +kernel
theorem dL_build_259 : decode cL_build 259 = .ok (.iload 9, 2) := by decide +kernel
theorem dL_build_261 : decode cL_build 261 = .ok (.aload 4, 2) := by decide +kernel
theorem dL_build_263 : decode cL_build 263 = .ok (.bipush 8, 2) := by decide +kernel
theorem dL_build_265 : decode cL_build 265 = .ok (.iload 7, 2) := by decide +kernel
theorem dL_build_267 : decode cL_build 267 = .ok (.imul, 1) := by decide +kernel
theorem dL_build_268 : decode cL_build 268 = .ok (.iconst 4, 1) := by decide +kernel
theorem dL_build_269 : decode cL_build 269 = .ok (.iadd, 1) := by decide +kernel
theorem dL_build_270 : decode cL_build 270 = .ok (.iload 9, 2) := by decide +kernel
theorem dL_build_272 : decode cL_build 272 = .ok (.iadd, 1) := by decide +kernel
theorem dL_build_273 : decode cL_build 273 = .ok (.iaload, 1) := by decide +kernel
theorem dL_build_274 : decode cL_build 274 = .ok (.invokevirtual 25, 3) := by decide +kernel
theorem dL_build_277 : decode cL_build 277 = .ok (.ifCond .eq 5, 3) := by decide +kernel
theorem dL_build_280 : decode cL_build 280 = .ok (.iconst (-1), 1) := by decide +kernel
theorem dL_build_281 : decode cL_build 281 = .ok (.ireturn, 1) := by decide +kernel
theorem dL_build_282 : decode cL_build 282 = .ok (.iinc 9 1, 3) := by decide +kernel
theorem dL_build_285 : decode cL_build 285 = .ok (.goto (-111), 3) := by decide +kernel
theorem dL_build_288 : decode cL_build 288 = .ok (.iinc 7 1, 3) := by decide +kernel
theorem dL_build_291 : decode cL_build 291 = .ok (.goto (-275), 3) := by decide +kernel
theorem dL_build_294 : decode cL_build 294 = .ok (.iconst 0, 1) := by decide +kernel
theorem dL_build_295 : decode cL_build 295 = .ok (.istore 7, 2) := by decide +kernel
theorem dL_build_297 : decode cL_build 297 = .ok (.iload 7, 2) := by decide +kernel
theorem dL_build_299 : decode cL_build 299 = .ok (.bipush 6, 2) := by decide +kernel
theorem dL_build_301 : decode cL_build 301 = .ok (.if_icmp .ge 132, 3) := by decide +kernel
theorem dL_build_304 : decode cL_build 304 = .ok (.aload_n 1, 1) := by decide +kernel
theorem dL_build_305 : decode cL_build 305 = .ok (.iload_n 2, 1) := by decide +kernel
theorem dL_build_306 : decode cL_build 306 = .ok (.bipush 8, 2) := by decide +kernel
theorem dL_build_308 : decode cL_build 308 = .ok (.iadd, 1) := by decide +kernel
theorem dL_build_309 : decode cL_build 309 = .ok (.invokestatic 9, 3) := by decide +kernel
theorem dL_build_312 : decode cL_build 312 = .ok (.iconst 3, 1) := by decide +kernel
theorem dL_build_313 : decode cL_build 313 = .ok (.iload 7, 2) := by decide +kernel
theorem dL_build_315 : decode cL_build 315 = .ok (.imul, 1) := by decide +kernel
theorem dL_build_316 : decode cL_build 316 = .ok (.ishr, 1) := by decide +kernel
theorem dL_build_317 : decode cL_build 317 = .ok (.istore 8, 2) := by decide +kernel
theorem dL_build_319 : decode cL_build 319 = .ok (.aload 5, 2) := by decide +kernel
theorem dL_build_321 : decode cL_build 321 = .ok (.iconst 2, 1) := by decide +kernel
theorem dL_build_322 : decode cL_build 322 = .ok (.iload 7, 2) := by decide +kernel
theorem dL_build_324 : decode cL_build 324 = .ok (.imul, 1) := by decide +kernel
theorem dL_build_325 : decode cL_build 325 = .ok (.iload 8, 2) := by decide +kernel
theorem dL_build_327 : decode cL_build 327 = .ok (.iconst 2, 1) := by decide +kernel
theorem dL_build_328 : decode cL_build 328 = .ok (.invokestatic 15, 3) := by decide +kernel
theorem dL_build_331 : decode cL_build 331 = .ok (.iastore, 1) := by decide +kernel
theorem dL_build_332 : decode cL_build 332 = .ok (.aload 5, 2) := by decide +kernel
theorem dL_build_334 : decode cL_build 334 = .ok (.iconst 2, 1) := by decide +kernel
theorem dL_build_335 : decode cL_build 335 = .ok (.iload 7, 2) := by decide +kernel
theorem dL_build_337 : decode cL_build 337 = .ok (.imul, 1) := by decide +kernel
theorem dL_build_338 : decode cL_build 338 = .ok (.iconst 1, 1) := by decide +kernel
theorem dL_build_339 : decode cL_build 339 = .ok (.iadd, 1) := by decide +kernel
theorem dL_build_340 : decode cL_build 340 = .ok (.iload 8, 2) := by decide +kernel
theorem dL_build_342 : decode cL_build 342 = .ok (.iconst 1, 1) := by decide +kernel
theorem dL_build_343 : decode cL_build 343 = .ok (.ishr, 1) := by decide +kernel
theorem dL_build_344 : decode cL_build 344 = .ok (.iconst 4, 1) := by decide +kernel
theorem dL_build_345 : decode cL_build 345 = .ok (.invokestatic 15, 3) := by decide +kernel
theorem dL_build_348 : decode cL_build 348 = .ok (.ifCond .ne 16, 3) := by decide +kernel
theorem dL_build_351 : decode cL_build 351 = .ok (.iconst 1, 1) := by decide +kernel
theorem dL_build_352 : decode cL_build 352 = .ok (.iload 8, 2) := by decide +kernel
theorem dL_build_354 : decode cL_build 354 = .ok (.iconst 2, 1) := by decide +kernel
theorem dL_build_355 : decode cL_build 355 = .ok (.ishr, 1) := by decide +kernel
theorem dL_build_356 : decode cL_build 356 = .ok (.iconst 2, 1) := by decide +kernel
theorem dL_build_357 : decode cL_build 357 = .ok (.invokestatic 15, 3) := by decide +kernel
theorem dL_build_360 : decode cL_build 360 = .ok (.iadd, 1) := by decide +kernel
theorem dL_build_361 : decode cL_build 361 = .ok (.goto 4, 3) := by decide +kernel
theorem dL_build_364 : decode cL_build 364 = .ok (.iconst 0, 1) := by decide +kernel
theorem dL_build_365 : decode cL_build 365 = .ok (.iastore, 1) := by decide +kernel
theorem dL_build_366 : decode cL_build 366 = .ok (.aload_n 0, 1) := by decide +kernel
theorem dL_build_367 : decode cL_build 367 = .ok (.iload 7, 2) := by decide +kernel
theorem dL_build_369 : decode cL_build 369 = .ok (.aload 5, 2) := by decide +kernel
theorem dL_build_371 : decode cL_build 371 = .ok (.iconst 2, 1) := by decide +kernel
theorem dL_build_372 : decode cL_build 372 = .ok (.iload 7, 2) := by decide +kernel
theorem dL_build_374 : decode cL_build 374 = .ok (.imul, 1) := by decide +kernel
theorem dL_build_375 : decode cL_build 375 = .ok (.iaload, 1) := by decide +kernel
theorem dL_build_376 : decode cL_build 376 = .ok (.iconst 1, 1) := by decide +kernel
theorem dL_build_377 : decode cL_build 377 = .ok (.if_icmp .ne 7, 3) := by decide +kernel
theorem dL_build_380 : decode cL_build 380 = .ok (.iconst 1, 1) := by decide +kernel
theorem dL_build_381 : decode cL_build 381 = .ok (.goto 4, 3) := by decide +kernel
theorem dL_build_384 : decode cL_build 384 = .ok (.iconst 0, 1) := by decide +kernel
theorem dL_build_385 : decode cL_build 385 = .ok (.aload 5, 2) := by decide +kernel
theorem dL_build_387 : decode cL_build 387 = .ok (.iconst 2, 1) := by decide +kernel
theorem dL_build_388 : decode cL_build 388 = .ok (.iload 7, 2) := by decide +kernel
theorem dL_build_390 : decode cL_build 390 = .ok (.imul, 1) := by decide +kernel
theorem dL_build_391 : decode cL_build 391 = .ok (.iconst 1, 1) := by decide +kernel
theorem dL_build_392 : decode cL_build 392 = .ok (.iadd, 1) := by decide +kernel
theorem dL_build_393 : decode cL_build 393 = .ok (.iaload, 1) := by decide +kernel
theorem dL_build_394 : decode cL_build 394 = .ok (.invokevirtual 29, 3) := by decide +kernel
theorem dL_build_397 : decode cL_build 397 = .ok (.aload 5, 2) := by decide +kernel
theorem dL_build_399 : decode cL_build 399 = .ok (.iconst 2, 1) := by decide +kernel
theorem dL_build_400 : decode cL_build 400 = .ok (.iload 7, 2) := by decide +kernel
theorem dL_build_402 : decode cL_build 402 = .ok (.imul, 1) := by decide +kernel
theorem dL_build_403 : decode cL_build 403 = .ok (.iaload, 1) := by decide +kernel
theorem dL_build_404 : decode cL_build 404 = .ok (.aload 5, 2) := by decide +kernel
theorem dL_build_406 : decode cL_build 406 = .ok (.iconst 2, 1) := by decide +kernel
theorem dL_build_407 : decode cL_build 407 = .ok (.iload 7, 2) := by decide +kernel
theorem dL_build_409 : decode cL_build 409 = .ok (.imul, 1) := by decide +kernel
theorem dL_build_410 : decode cL_build 410 = .ok (.iconst 1, 1) := by decide +kernel
theorem dL_build_411 : decode cL_build 411 = .ok (.iadd, 1) := by decide +kernel
theorem dL_build_412 : decode cL_build 412 = .ok (.iaload, 1) := by decide +kernel
theorem dL_build_413 : decode cL_build 413 = .ok (.iadd, 1) := by decide +kernel
theorem dL_build_414 : decode cL_build 414 = .ok (.ifCond .le 7, 3) := by decide +kernel
theorem dL_build_417 : decode cL_build 417 = .ok (.iconst 1, 1) := by decide +kernel
theorem dL_build_418 : decode cL_build 418 = .ok (.goto 4, 3) := by decide +kernel
theorem dL_build_421 : decode cL_build 421 = .ok (.iconst 0, 1) := by decide +kernel
theorem dL_build_422 : decode cL_build 422 = .ok (.if_icmp .eq 5, 3) := by decide +kernel
theorem dL_build_425 : decode cL_build 425 = .ok (.iconst (-1), 1) := by decide +kernel
theorem dL_build_426 : decode cL_build 426 = .ok (.ireturn, 1) := by decide +kernel
theorem dL_build_427 : decode cL_build 427 = .ok (.iinc 7 1, 3) := by decide +kernel
theorem dL_build_430 : decode cL_build 430 = .ok (.goto (-133), 3) := by decide +kernel
theorem dL_build_433 : decode cL_build 433 = .ok (.aload_n 0, 1) := by decide +kernel
theorem dL_build_434 : decode cL_build 434 = .ok (.invokevirtual 33, 3) := by decide +kernel
theorem dL_build_437 : decode cL_build 437 = .ok (.iload 6, 2) := by decide +kernel
theorem dL_build_439 : decode cL_build 439 = .ok (.if_icmp .ne 8, 3) := by decide +kernel
theorem dL_build_442 : decode cL_build 442 = .ok (.iload 6, 2) := by decide +kernel
theorem dL_build_444 : decode cL_build 444 = .ok (.goto 4, 3) := by decide +kernel
theorem dL_build_447 : decode cL_build 447 = .ok (.iconst (-1), 1) := by decide +kernel
theorem dL_build_448 : decode cL_build 448 = .ok (.ireturn, 1) := by decide +kernel
set_option maxHeartbeats 4000000 in
set_option maxRecDepth 100000 in
theorem mL_build_L2 {p : Program} {l : Launch} {e : Env} {R : Room} {s : State} {m : MethodId} {args : Array Value} {below : List Frame} {meth : Method} {c : Code} {Q : State → Prop} {D : va_G} {U : zz_U} {A : Nat → Prop} {ad : Nat → Nat} {b L : Nat} {xs : Nat → Int32} {r0 : Nat} {r1 : Nat} (C : zz_C p l R s m meth c D U A RL cL_build 11 (some .int) [] 9) (hX : va_X b L xs s s.heap) (hbl : b < s.heap.size) (hbA : ¬ A b) (K N : Nat) (hK : K ≤ R.cells) (hN : N ≤ R.slots) (u2 : (Nat → Int32)) (from_ : Int32) (most_ : Int32) (many_ : Int32) (p_ : Int32) (x_ : Int32) : ∀ (n : Nat) (what_ : Int32) (σ : zz_St) (u1 : (Nat → Int32)) (q : ((Int32 × zz_St × (Nat → Int32)) ⊕ (Int32 × zz_St × (Nat → Int32)))) (cells slots : Nat), fL_build_L2 p_ x_ n what_ σ u1 = some q → cells + n * 3 ≤ K → slots + n * 18 ≤ N → (∀ (v : Int32) (m0 : zz_St) (m1 : (Nat → Int32)) (pc' : Nat), q = .inl (v, m0, m1) → decode cL_build pc' = .ok (.ireturn, 1) → zz_Z p l e R s m args below meth c Q D A 11 K N (zz_wc U ad m0 [(r0, .inl (U.1, 112, .inl m1)), (r1, .inl (U.1, 12, .inl u2))]) pc' [] [.int v]) → (∀ w : Int32 × zz_St × (Nat → Int32), q = .inr w → zz_Z p l e R s m args below meth c Q D A 11 K N (zz_wc U ad w.2.1 [(r0, .inl (U.1, 112, .inl w.2.2)), (r1, .inl (U.1, 12, .inl u2))]) 288 [(0, .ref (ad 0)), (1, .ref b), (2, .int from_), (3, .int most_), (4, .ref r0), (5, .ref r1), (6, .int many_), (7, .int p_), (8, .int x_), (9, .int w.1)] []) → zz_Z p l e R s m args below meth c Q D A 11 cells slots (zz_wc U ad σ [(r0, .inl (U.1, 112, .inl u1)), (r1, .inl (U.1, 12, .inl u2))]) 174 [(0, .ref (ad 0)), (1, .ref b), (2, .int from_), (3, .int most_), (4, .ref r0), (5, .ref r1), (6, .int many_), (7, .int p_), (8, .int x_), (9, .int what_)] [] := by
  intro n
  induction n with
  | zero => intro what_ σ u1 q cells slots hf; rw [fL_build_L2] at hf; cases hf
  | succ n ih =>
    intro what_ σ u1 q cells slots hf hc hs kr kx
    rw [fL_build_L2] at hf
    rw [show (n + 1) * 3 = n * 3 + 3 from Nat.succ_mul n 3] at hc
    rw [show (n + 1) * 18 = n * 18 + 18 from Nat.succ_mul n 18] at hs
    generalize n * 3 = X1 at hc ih
    generalize n * 18 = X2 at hs ih
    refine zz_iload C 9 dL_build_174 rfl ?_
    refine zz_iconst (v := (4 : Int32)) C dL_build_176 (by decide) ?_
    refine zz_icmp_ge (tgt := 288) C dL_build_177 (by decide) (fun g42 => ?_) (fun g42 => ?_)
    · rw [if_pos g42] at hf
      cases hf
      refine zz_widen (k := K) (n := N) (by omega) (by omega) ?_
      exact kx _ rfl
    · rw [if_neg g42] at hf
      refine zz_iload C 8 dL_build_180 rfl ?_
      refine zz_iconst (v := (3 : Int32)) C dL_build_182 (by decide) ?_
      refine zz_iconst (v := (5 : Int32)) C dL_build_183 (by decide) ?_
      refine zz_iload C 9 dL_build_184 rfl ?_
      refine zz_imul C dL_build_186 ?_
      refine zz_iadd C dL_build_187 ?_
      refine zz_ishr C dL_build_188 ?_
      obtain ⟨x43, h44, hf⟩ := zz_bind hf
      refine zz_topi (Option.some.inj h44) ?_
      refine zz_istore C dL_build_189 (by decide) (lv' := [(10, .int x43), (0, .ref (ad 0)), (1, .ref b), (2, .int from_), (3, .int most_), (4, .ref r0), (5, .ref r1), (6, .int many_), (7, .int p_), (8, .int x_), (9, .int what_)]) rfl ?_
      refine zz_aload C 5 dL_build_191 rfl ?_
      refine zz_bipush (v := (8 : Int32)) C dL_build_193 (by decide) ?_
      refine zz_iload C 8 dL_build_195 rfl ?_
      refine zz_imul C dL_build_197 ?_
      refine zz_iconst (v := (4 : Int32)) C dL_build_198 (by decide) ?_
      refine zz_iadd C dL_build_199 ?_
      refine zz_iload C 10 dL_build_200 rfl ?_
      refine zz_iadd C dL_build_202 ?_
      obtain ⟨x45, h46, hf⟩ := zz_bind hf
      refine zx_cut (cells + 0) (slots + 0) 227 [(10, .int x43), (0, .ref (ad 0)), (1, .ref b), (2, .int from_), (3, .int most_), (4, .ref r0), (5, .ref r1), (6, .int many_), (7, .int p_), (8, .int x_), (9, .int what_)] [.int x45, .int ((((8 : Int32) * p_) + (4 : Int32)) + what_), .ref r0] (zz_wc U ad σ [(r0, .inl (U.1, 112, .inl u1)), (r1, .inl (U.1, 12, .inl u2))]) ?_ (fun J47 => ?_)
      · obtain ⟨x53, h54, hf⟩ := zz_bind hf
        refine zx_cut (cells + 0) (slots + 0) 254 [(10, .int x43), (0, .ref (ad 0)), (1, .ref b), (2, .int from_), (3, .int most_), (4, .ref r0), (5, .ref r1), (6, .int many_), (7, .int p_), (8, .int x_), (9, .int what_)] [.int x53, .int x45, .int ((((8 : Int32) * p_) + (4 : Int32)) + what_), .ref r0] (zz_wc U ad σ [(r0, .inl (U.1, 112, .inl u1)), (r1, .inl (U.1, 12, .inl u2))]) ?_ (fun J55 => ?_)
        · refine zz_ior C dL_build_254 ?_
          obtain ⟨y61, h62, hf⟩ := zz_bind hf
          refine zx_st 47 C dL_build_255 rfl h62 (ws1 := (zz_wc U ad σ [(r0, .inl (U.1, 112, .inl y61)), (r1, .inl (U.1, 12, .inl u2))])) rfl ?_
          refine zz_aload_n C 1 dL_build_256 rfl rfl ?_
          refine zz_iload C 8 dL_build_257 rfl ?_
          refine zz_iload C 10 dL_build_259 rfl ?_
          refine zz_aload C 5 dL_build_261 rfl ?_
          refine zz_bipush (v := (8 : Int32)) C dL_build_263 (by decide) ?_
          refine zz_iload C 8 dL_build_265 rfl ?_
          refine zz_imul C dL_build_267 ?_
          refine zz_iconst (v := (4 : Int32)) C dL_build_268 (by decide) ?_
          refine zz_iadd C dL_build_269 ?_
          refine zz_iload C 10 dL_build_270 rfl ?_
          refine zz_iadd C dL_build_272 ?_
          obtain ⟨x63, h64, hf⟩ := zz_bind hf
          refine zx_ld 47 C dL_build_273 rfl h64 ?_
          obtain ⟨⟨x65, σ67⟩, h66, hf⟩ := zz_bind hf
          rcases x65 with x65 | _
          · try dsimp only at hf
            refine zz_callV1 (As := [.int p_, .int what_, .int x63]) (rest := []) C 0 (mX7_setNames_r σ p_ what_ x63 x65 σ67 h66) dL_build_274 rfl rfl rfl zwl_5 zy_X7_setNames rfl (by decide) (by decide) (Nat.le_of_ble_eq_true rfl) (by omega) (by omega) rfl ?_
            refine zz_if_eq (tgt := 282) C dL_build_277 (by decide) (fun g68 => ?_) (fun g68 => ?_)
            · rw [if_pos g68] at hf
              refine zz_iinc (v := (what_ + (1 : Int32))) C 10 dL_build_282 rfl (by rfl) (by decide) (lv' := [(9, .int (what_ + (1 : Int32))), (10, .int x43), (0, .ref (ad 0)), (1, .ref b), (2, .int from_), (3, .int most_), (4, .ref r0), (5, .ref r1), (6, .int many_), (7, .int p_), (8, .int x_)]) rfl ?_
              refine zz_goto (tgt := 174) C dL_build_285 (by decide) ?_
              refine zz_sub [2, 3, 4, 5, 6, 7, 8, 9, 10, 0] rfl ?_
              refine zz_widen (k := cells + 3) (n := slots + 18) (by omega) (by omega) ?_
              exact ih (what_ + (1 : Int32)) σ67 y61 _ (cells + 3) (slots + 18) hf (by omega) (by omega) kr kx
            · rw [if_neg g68] at hf
              refine zz_iconst (v := (-1 : Int32)) C dL_build_280 (by decide) ?_
              refine zz_sub [] rfl ?_
              cases hf
              refine zz_widen (k := K) (n := N) (by omega) (by omega) ?_
              exact kr _ _ _ _ rfl dL_build_281
          · cases hf
        refine zz_iload C 0 dL_build_227 rfl ?_
        refine zz_iconst (v := (5 : Int32)) C dL_build_229 (by decide) ?_
        refine zz_ishr C dL_build_230 ?_
        refine zz_iconst (v := (4 : Int32)) C dL_build_231 (by decide) ?_
        obtain ⟨x56, h57, h54⟩ := zz_bind h54
        refine zz_callS1 (As := [.int (x43 >>> ((5 : Int32) &&& 31)), .int (4 : Int32)]) (rest := [.int x45, .int ((((8 : Int32) * p_) + (4 : Int32)) + what_), .ref r0]) C (mL_below (x43 >>> ((5 : Int32) &&& 31)) (4 : Int32) x56 h57) dL_build_232 rfl zwl_3 zy_L_below rfl (by decide) (by decide) (Nat.le_of_ble_eq_true rfl) (by omega) (by omega) rfl ?_
        refine zz_if_ne (tgt := 253) C dL_build_235 (by decide) (fun g58 => ?_) (fun g58 => ?_)
        · rw [if_neg g58] at h54
          refine zz_iconst (v := (0 : Int32)) C dL_build_253 (by decide) ?_
          cases h54
          refine zz_widen (k := (cells + 0)) (n := (slots + 0)) (by omega) (by omega) ?_
          exact J55
        · rw [if_pos g58] at h54
          refine zz_iconst (v := (1 : Int32)) C dL_build_238 (by decide) ?_
          refine zz_iload C 0 dL_build_239 rfl ?_
          refine zz_bipush (v := (7 : Int32)) C dL_build_241 (by decide) ?_
          refine zz_ishr C dL_build_243 ?_
          refine zz_bipush (v := (6 : Int32)) C dL_build_244 (by decide) ?_
          obtain ⟨x59, h60, h54⟩ := zz_bind h54
          refine zz_callS1 (As := [.int (x43 >>> ((7 : Int32) &&& 31)), .int (6 : Int32)]) (rest := [.int (1 : Int32), .int x45, .int ((((8 : Int32) * p_) + (4 : Int32)) + what_), .ref r0]) C (mL_below (x43 >>> ((7 : Int32) &&& 31)) (6 : Int32) x59 h60) dL_build_246 rfl zwl_3 zy_L_below rfl (by decide) (by decide) (Nat.le_of_ble_eq_true rfl) (by omega) (by omega) rfl ?_
          refine zz_ishl C dL_build_249 ?_
          refine zz_goto (tgt := 254) C dL_build_250 (by decide) ?_
          cases h54
          refine zz_widen (k := (cells + 0)) (n := (slots + 0)) (by omega) (by omega) ?_
          exact J55
      refine zz_iload C 0 dL_build_203 rfl ?_
      refine zz_iconst (v := (3 : Int32)) C dL_build_205 (by decide) ?_
      obtain ⟨x48, h49, h46⟩ := zz_bind h46
      refine zz_callS1 (As := [.int x43, .int (3 : Int32)]) (rest := [.int ((((8 : Int32) * p_) + (4 : Int32)) + what_), .ref r0]) C (mL_below x43 (3 : Int32) x48 h49) dL_build_206 rfl zwl_3 zy_L_below rfl (by decide) (by decide) (Nat.le_of_ble_eq_true rfl) (by omega) (by omega) rfl ?_
      refine zz_if_ne (tgt := 226) C dL_build_209 (by decide) (fun g50 => ?_) (fun g50 => ?_)
      · rw [if_neg g50] at h46
        refine zz_iconst (v := (0 : Int32)) C dL_build_226 (by decide) ?_
        cases h46
        refine zz_widen (k := (cells + 0)) (n := (slots + 0)) (by omega) (by omega) ?_
        exact J47
      · rw [if_pos g50] at h46
        refine zz_iconst (v := (1 : Int32)) C dL_build_212 (by decide) ?_
        refine zz_iload C 0 dL_build_213 rfl ?_
        refine zz_iconst (v := (2 : Int32)) C dL_build_215 (by decide) ?_
        refine zz_ishr C dL_build_216 ?_
        refine zz_bipush (v := (6 : Int32)) C dL_build_217 (by decide) ?_
        obtain ⟨x51, h52, h46⟩ := zz_bind h46
        refine zz_callS1 (As := [.int (x43 >>> ((2 : Int32) &&& 31)), .int (6 : Int32)]) (rest := [.int (1 : Int32), .int ((((8 : Int32) * p_) + (4 : Int32)) + what_), .ref r0]) C (mL_below (x43 >>> ((2 : Int32) &&& 31)) (6 : Int32) x51 h52) dL_build_219 rfl zwl_3 zy_L_below rfl (by decide) (by decide) (Nat.le_of_ble_eq_true rfl) (by omega) (by omega) rfl ?_
        refine zz_ishl C dL_build_222 ?_
        refine zz_goto (tgt := 227) C dL_build_223 (by decide) ?_
        cases h46
        refine zz_widen (k := (cells + 0)) (n := (slots + 0)) (by omega) (by omega) ?_
        exact J47
set_option maxHeartbeats 4000000 in
set_option maxRecDepth 100000 in
theorem mL_build_L1 {p : Program} {l : Launch} {e : Env} {R : Room} {s : State} {m : MethodId} {args : Array Value} {below : List Frame} {meth : Method} {c : Code} {Q : State → Prop} {D : va_G} {U : zz_U} {A : Nat → Prop} {ad : Nat → Nat} {b L : Nat} {xs : Nat → Int32} {r0 : Nat} {r1 : Nat} (C : zz_C p l R s m meth c D U A RL cL_build 11 (some .int) [] 9) (hX : va_X b L xs s s.heap) (hbl : b < s.heap.size) (hbA : ¬ A b) (K N : Nat) (hK : K ≤ R.cells) (hN : N ≤ R.slots) (u2 : (Nat → Int32)) (from_ : Int32) (most_ : Int32) (many_ : Int32) : ∀ (n : Nat) (p_ : Int32) (σ : zz_St) (u1 : (Nat → Int32)) (q : ((Int32 × zz_St × (Nat → Int32)) ⊕ (Int32 × zz_St × (Nat → Int32)))) (cells slots : Nat), fL_build_L1 xs L from_ many_ n p_ σ u1 = some q → cells + n * 43 ≤ K → slots + n * 258 ≤ N → (∀ (v : Int32) (m0 : zz_St) (m1 : (Nat → Int32)) (pc' : Nat), q = .inl (v, m0, m1) → decode cL_build pc' = .ok (.ireturn, 1) → zz_Z p l e R s m args below meth c Q D A 11 K N (zz_wc U ad m0 [(r0, .inl (U.1, 112, .inl m1)), (r1, .inl (U.1, 12, .inl u2))]) pc' [] [.int v]) → (∀ w : Int32 × zz_St × (Nat → Int32), q = .inr w → zz_Z p l e R s m args below meth c Q D A 11 K N (zz_wc U ad w.2.1 [(r0, .inl (U.1, 112, .inl w.2.2)), (r1, .inl (U.1, 12, .inl u2))]) 294 [(0, .ref (ad 0)), (1, .ref b), (2, .int from_), (3, .int most_), (4, .ref r0), (5, .ref r1), (6, .int many_), (7, .int w.1)] []) → zz_Z p l e R s m args below meth c Q D A 11 cells slots (zz_wc U ad σ [(r0, .inl (U.1, 112, .inl u1)), (r1, .inl (U.1, 12, .inl u2))]) 16 [(0, .ref (ad 0)), (1, .ref b), (2, .int from_), (3, .int most_), (4, .ref r0), (5, .ref r1), (6, .int many_), (7, .int p_)] [] := by
  intro n
  induction n with
  | zero => intro p_ σ u1 q cells slots hf; rw [fL_build_L1] at hf; cases hf
  | succ n ih =>
    intro p_ σ u1 q cells slots hf hc hs kr kx
    rw [fL_build_L1] at hf
    rw [show (n + 1) * 43 = n * 43 + 43 from Nat.succ_mul n 43] at hc
    rw [show (n + 1) * 258 = n * 258 + 258 from Nat.succ_mul n 258] at hs
    generalize n * 43 = X1 at hc ih
    generalize n * 258 = X2 at hs ih
    refine zz_iload C 7 dL_build_16 rfl ?_
    refine zz_iload C 6 dL_build_18 rfl ?_
    refine zz_icmp_ge (tgt := 294) C dL_build_20 (by decide) (fun g5 => ?_) (fun g5 => ?_)
    · rw [if_pos g5] at hf
      cases hf
      refine zz_widen (k := K) (n := N) (by omega) (by omega) ?_
      exact kx _ rfl
    · rw [if_neg g5] at hf
      refine zz_aload_n C 1 dL_build_23 rfl rfl ?_
      refine zz_iload_n C 2 dL_build_24 rfl rfl ?_
      refine zz_iconst (v := (1 : Int32)) C dL_build_25 (by decide) ?_
      refine zz_iadd C dL_build_26 ?_
      refine zz_iload C 7 dL_build_27 rfl ?_
      refine zz_bipush (v := (7 : Int32)) C dL_build_29 (by decide) ?_
      obtain ⟨x6, h7, hf⟩ := zz_bind hf
      refine zz_irem C dL_build_31 (zx_rm_in h7).1 ?_
      refine zz_topi (zx_rm_in h7).2 ?_
      refine zz_iadd C dL_build_32 ?_
      obtain ⟨x8, h9, hf⟩ := zz_bind hf
      refine zb_callS1 (As := [.ref b, .int ((from_ + (1 : Int32)) + x6)]) (rest := []) C hX hbl hbA (mL_cell ((from_ + (1 : Int32)) + x6) x8 h9) dL_build_33 rfl zwl_2 zy_L_cell rfl (by decide) (by decide) (Nat.le_of_ble_eq_true rfl) (by omega) (by omega) rfl ?_
      refine zz_iload C 7 dL_build_36 rfl ?_
      refine zz_bipush (v := (7 : Int32)) C dL_build_38 (by decide) ?_
      obtain ⟨x10, h11, hf⟩ := zz_bind hf
      refine zz_idiv C dL_build_40 (zz_dv_in h11).1 ?_
      refine zz_topi (zz_dv_in h11).2 ?_
      refine zz_bipush (v := (9 : Int32)) C dL_build_41 (by decide) ?_
      refine zz_imul C dL_build_43 ?_
      refine zz_ishr C dL_build_44 ?_
      obtain ⟨x12, h13, hf⟩ := zz_bind hf
      refine zz_topi (Option.some.inj h13) ?_
      refine zz_istore C dL_build_45 (by decide) (lv' := [(8, .int x12), (0, .ref (ad 0)), (1, .ref b), (2, .int from_), (3, .int most_), (4, .ref r0), (5, .ref r1), (6, .int many_), (7, .int p_)]) rfl ?_
      refine zz_aload C 5 dL_build_47 rfl ?_
      refine zz_bipush (v := (8 : Int32)) C dL_build_49 (by decide) ?_
      refine zz_iload C 8 dL_build_51 rfl ?_
      refine zz_imul C dL_build_53 ?_
      refine zz_iload C 0 dL_build_54 rfl ?_
      refine zz_iconst (v := (2 : Int32)) C dL_build_56 (by decide) ?_
      obtain ⟨x14, h15, hf⟩ := zz_bind hf
      refine zz_callS1 (As := [.int x12, .int (2 : Int32)]) (rest := [.int ((8 : Int32) * p_), .ref r0]) C (mL_below x12 (2 : Int32) x14 h15) dL_build_57 rfl zwl_3 zy_L_below rfl (by decide) (by decide) (Nat.le_of_ble_eq_true rfl) (by omega) (by omega) rfl ?_
      obtain ⟨y16, h17, hf⟩ := zz_bind hf
      refine zx_st 47 C dL_build_60 rfl h17 (ws1 := (zz_wc U ad σ [(r0, .inl (U.1, 112, .inl y16)), (r1, .inl (U.1, 12, .inl u2))])) rfl ?_
      refine zz_aload C 5 dL_build_61 rfl ?_
      refine zz_bipush (v := (8 : Int32)) C dL_build_63 (by decide) ?_
      refine zz_iload C 8 dL_build_65 rfl ?_
      refine zz_imul C dL_build_67 ?_
      refine zz_iconst (v := (1 : Int32)) C dL_build_68 (by decide) ?_
      refine zz_iadd C dL_build_69 ?_
      refine zz_bipush (v := (10 : Int32)) C dL_build_70 (by decide) ?_
      refine zz_iload C 0 dL_build_72 rfl ?_
      refine zz_iconst (v := (1 : Int32)) C dL_build_74 (by decide) ?_
      refine zz_ishr C dL_build_75 ?_
      refine zz_bipush (v := (6 : Int32)) C dL_build_76 (by decide) ?_
      obtain ⟨x18, h19, hf⟩ := zz_bind hf
      refine zz_callS1 (As := [.int (x12 >>> ((1 : Int32) &&& 31)), .int (6 : Int32)]) (rest := [.int (10 : Int32), .int (((8 : Int32) * p_) + (1 : Int32)), .ref r0]) C (mL_below (x12 >>> ((1 : Int32) &&& 31)) (6 : Int32) x18 h19) dL_build_78 rfl zwl_3 zy_L_below rfl (by decide) (by decide) (Nat.le_of_ble_eq_true rfl) (by omega) (by omega) rfl ?_
      refine zz_imul C dL_build_81 ?_
      obtain ⟨y20, h21, hf⟩ := zz_bind hf
      refine zx_st 47 C dL_build_82 rfl h21 (ws1 := (zz_wc U ad σ [(r0, .inl (U.1, 112, .inl y20)), (r1, .inl (U.1, 12, .inl u2))])) rfl ?_
      refine zz_aload C 5 dL_build_83 rfl ?_
      refine zz_bipush (v := (8 : Int32)) C dL_build_85 (by decide) ?_
      refine zz_iload C 8 dL_build_87 rfl ?_
      refine zz_imul C dL_build_89 ?_
      refine zz_iconst (v := (2 : Int32)) C dL_build_90 (by decide) ?_
      refine zz_iadd C dL_build_91 ?_
      refine zz_iload C 0 dL_build_92 rfl ?_
      refine zz_iconst (v := (4 : Int32)) C dL_build_94 (by decide) ?_
      refine zz_ishr C dL_build_95 ?_
      refine zz_bipush (v := (30 : Int32)) C dL_build_96 (by decide) ?_
      obtain ⟨x22, h23, hf⟩ := zz_bind hf
      refine zz_callS1 (As := [.int (x12 >>> ((4 : Int32) &&& 31)), .int (30 : Int32)]) (rest := [.int (((8 : Int32) * p_) + (2 : Int32)), .ref r0]) C (mL_below (x12 >>> ((4 : Int32) &&& 31)) (30 : Int32) x22 h23) dL_build_98 rfl zwl_3 zy_L_below rfl (by decide) (by decide) (Nat.le_of_ble_eq_true rfl) (by omega) (by omega) rfl ?_
      obtain ⟨y24, h25, hf⟩ := zz_bind hf
      refine zx_st 47 C dL_build_101 rfl h25 (ws1 := (zz_wc U ad σ [(r0, .inl (U.1, 112, .inl y24)), (r1, .inl (U.1, 12, .inl u2))])) rfl ?_
      refine zz_aload C 5 dL_build_102 rfl ?_
      refine zz_bipush (v := (8 : Int32)) C dL_build_104 (by decide) ?_
      refine zz_iload C 8 dL_build_106 rfl ?_
      refine zz_imul C dL_build_108 ?_
      refine zz_iconst (v := (3 : Int32)) C dL_build_109 (by decide) ?_
      refine zz_iadd C dL_build_110 ?_
      refine zz_iload C 0 dL_build_111 rfl ?_
      refine zz_bipush (v := (6 : Int32)) C dL_build_113 (by decide) ?_
      refine zz_ishr C dL_build_115 ?_
      refine zz_bipush (v := (20 : Int32)) C dL_build_116 (by decide) ?_
      obtain ⟨x26, h27, hf⟩ := zz_bind hf
      refine zz_callS1 (As := [.int (x12 >>> ((6 : Int32) &&& 31)), .int (20 : Int32)]) (rest := [.int (((8 : Int32) * p_) + (3 : Int32)), .ref r0]) C (mL_below (x12 >>> ((6 : Int32) &&& 31)) (20 : Int32) x26 h27) dL_build_118 rfl zwl_3 zy_L_below rfl (by decide) (by decide) (Nat.le_of_ble_eq_true rfl) (by omega) (by omega) rfl ?_
      obtain ⟨y28, h29, hf⟩ := zz_bind hf
      refine zx_st 47 C dL_build_121 rfl h29 (ws1 := (zz_wc U ad σ [(r0, .inl (U.1, 112, .inl y28)), (r1, .inl (U.1, 12, .inl u2))])) rfl ?_
      refine zz_aload_n C 1 dL_build_122 rfl rfl ?_
      refine zz_aload C 5 dL_build_123 rfl ?_
      refine zz_bipush (v := (8 : Int32)) C dL_build_125 (by decide) ?_
      refine zz_iload C 8 dL_build_127 rfl ?_
      refine zz_imul C dL_build_129 ?_
      obtain ⟨x30, h31, hf⟩ := zz_bind hf
      refine zx_ld 47 C dL_build_130 rfl h31 ?_
      refine zz_aload C 5 dL_build_131 rfl ?_
      refine zz_bipush (v := (8 : Int32)) C dL_build_133 (by decide) ?_
      refine zz_iload C 8 dL_build_135 rfl ?_
      refine zz_imul C dL_build_137 ?_
      refine zz_iconst (v := (1 : Int32)) C dL_build_138 (by decide) ?_
      refine zz_iadd C dL_build_139 ?_
      obtain ⟨x32, h33, hf⟩ := zz_bind hf
      refine zx_ld 47 C dL_build_140 rfl h33 ?_
      refine zz_aload C 5 dL_build_141 rfl ?_
      refine zz_bipush (v := (8 : Int32)) C dL_build_143 (by decide) ?_
      refine zz_iload C 8 dL_build_145 rfl ?_
      refine zz_imul C dL_build_147 ?_
      refine zz_iconst (v := (2 : Int32)) C dL_build_148 (by decide) ?_
      refine zz_iadd C dL_build_149 ?_
      obtain ⟨x34, h35, hf⟩ := zz_bind hf
      refine zx_ld 47 C dL_build_150 rfl h35 ?_
      refine zz_aload C 5 dL_build_151 rfl ?_
      refine zz_bipush (v := (8 : Int32)) C dL_build_153 (by decide) ?_
      refine zz_iload C 8 dL_build_155 rfl ?_
      refine zz_imul C dL_build_157 ?_
      refine zz_iconst (v := (3 : Int32)) C dL_build_158 (by decide) ?_
      refine zz_iadd C dL_build_159 ?_
      obtain ⟨x36, h37, hf⟩ := zz_bind hf
      refine zx_ld 47 C dL_build_160 rfl h37 ?_
      obtain ⟨⟨x38, σ40⟩, h39, hf⟩ := zz_bind hf
      rcases x38 with x38 | _
      · try dsimp only at hf
        refine zz_callV1 (As := [.int x30, .int x32, .int x34, .int x36]) (rest := []) C 0 (mX7_addPiece_r σ x30 x32 x34 x36 x38 σ40 h39) dL_build_161 rfl rfl rfl zwl_4 zy_X7_addPiece rfl (by decide) (by decide) (Nat.le_of_ble_eq_true rfl) (by omega) (by omega) rfl ?_
        refine zz_iload C 8 dL_build_164 rfl ?_
        refine zz_icmp_eq (tgt := 171) C dL_build_166 (by decide) (fun g41 => ?_) (fun g41 => ?_)
        · rw [if_pos g41] at hf
          refine zz_iconst (v := (0 : Int32)) C dL_build_171 (by decide) ?_
          refine zz_istore C dL_build_172 (by decide) (lv' := [(9, .int (0 : Int32)), (8, .int x12), (0, .ref (ad 0)), (1, .ref b), (2, .int from_), (3, .int most_), (4, .ref r0), (5, .ref r1), (6, .int many_), (7, .int p_)]) rfl ?_
          obtain ⟨q69, h70, hf⟩ := zz_bind hf
          refine zz_sub [2, 3, 4, 5, 6, 7, 8, 9, 1, 0] rfl ?_
          refine mL_build_L2 C hX hbl hbA (cells + 43) (slots + 258) (by omega) (by omega) u2 from_ most_ many_ p_ x12 14 (0 : Int32) σ40 y28 q69 _ _ h70 (by omega) (by omega) (fun v71 m76 m77 p75 e73 d74 => ?_) (fun w72 e73 => ?_)
          · subst e73
            cases hf
            refine zz_widen (k := K) (n := N) (by omega) (by omega) ?_
            exact kr _ _ _ _ rfl d74
          · subst e73
            refine zz_iinc (v := (p_ + (1 : Int32))) C 7 dL_build_288 rfl (by rfl) (by decide) (lv' := [(7, .int (p_ + (1 : Int32))), (0, .ref (ad 0)), (1, .ref b), (2, .int from_), (3, .int most_), (4, .ref r0), (5, .ref r1), (6, .int many_), (8, .int x12), (9, .int w72.1)]) rfl ?_
            refine zz_goto (tgt := 16) C dL_build_291 (by decide) ?_
            refine zz_sub [1, 2, 3, 4, 5, 6, 7, 0] rfl ?_
            refine zz_widen (k := cells + 43) (n := slots + 258) (by omega) (by omega) ?_
            exact ih (p_ + (1 : Int32)) w72.2.1 w72.2.2 _ (cells + 43) (slots + 258) hf (by omega) (by omega) kr kx
        · rw [if_neg g41] at hf
          refine zz_iconst (v := (-1 : Int32)) C dL_build_169 (by decide) ?_
          refine zz_sub [] rfl ?_
          cases hf
          refine zz_widen (k := K) (n := N) (by omega) (by omega) ?_
          exact kr _ _ _ _ rfl dL_build_170
      · cases hf
set_option maxHeartbeats 4000000 in
set_option maxRecDepth 100000 in
theorem mL_build_L3 {p : Program} {l : Launch} {e : Env} {R : Room} {s : State} {m : MethodId} {args : Array Value} {below : List Frame} {meth : Method} {c : Code} {Q : State → Prop} {D : va_G} {U : zz_U} {A : Nat → Prop} {ad : Nat → Nat} {b L : Nat} {xs : Nat → Int32} {r0 : Nat} {r1 : Nat} (C : zz_C p l R s m meth c D U A RL cL_build 11 (some .int) [] 9) (hX : va_X b L xs s s.heap) (hbl : b < s.heap.size) (hbA : ¬ A b) (K N : Nat) (hK : K ≤ R.cells) (hN : N ≤ R.slots) (u1 : (Nat → Int32)) (from_ : Int32) (most_ : Int32) (many_ : Int32) : ∀ (n : Nat) (n_ : Int32) (σ : zz_St) (u2 : (Nat → Int32)) (q : ((Int32 × zz_St × (Nat → Int32)) ⊕ (Int32 × zz_St × (Nat → Int32)))) (cells slots : Nat), fL_build_L3 xs L from_ n n_ σ u2 = some q → cells + n * 1 ≤ K → slots + n * 6 ≤ N → (∀ (v : Int32) (m0 : zz_St) (m1 : (Nat → Int32)) (pc' : Nat), q = .inl (v, m0, m1) → decode cL_build pc' = .ok (.ireturn, 1) → zz_Z p l e R s m args below meth c Q D A 11 K N (zz_wc U ad m0 [(r0, .inl (U.1, 112, .inl u1)), (r1, .inl (U.1, 12, .inl m1))]) pc' [] [.int v]) → (∀ w : Int32 × zz_St × (Nat → Int32), q = .inr w → zz_Z p l e R s m args below meth c Q D A 11 K N (zz_wc U ad w.2.1 [(r0, .inl (U.1, 112, .inl u1)), (r1, .inl (U.1, 12, .inl w.2.2))]) 433 [(0, .ref (ad 0)), (1, .ref b), (2, .int from_), (3, .int most_), (4, .ref r0), (5, .ref r1), (6, .int many_), (7, .int w.1)] []) → zz_Z p l e R s m args below meth c Q D A 11 cells slots (zz_wc U ad σ [(r0, .inl (U.1, 112, .inl u1)), (r1, .inl (U.1, 12, .inl u2))]) 297 [(0, .ref (ad 0)), (1, .ref b), (2, .int from_), (3, .int most_), (4, .ref r0), (5, .ref r1), (6, .int many_), (7, .int n_)] [] := by
  intro n
  induction n with
  | zero => intro n_ σ u2 q cells slots hf; rw [fL_build_L3] at hf; cases hf
  | succ n ih =>
    intro n_ σ u2 q cells slots hf hc hs kr kx
    rw [fL_build_L3] at hf
    rw [show (n + 1) * 1 = n * 1 + 1 from Nat.succ_mul n 1] at hc
    rw [show (n + 1) * 6 = n * 6 + 6 from Nat.succ_mul n 6] at hs
    generalize n * 1 = X1 at hc ih
    generalize n * 6 = X2 at hs ih
    refine zz_iload C 7 dL_build_297 rfl ?_
    refine zz_bipush (v := (6 : Int32)) C dL_build_299 (by decide) ?_
    refine zz_icmp_ge (tgt := 433) C dL_build_301 (by decide) (fun g87 => ?_) (fun g87 => ?_)
    · rw [if_pos g87] at hf
      cases hf
      refine zz_widen (k := K) (n := N) (by omega) (by omega) ?_
      exact kx _ rfl
    · rw [if_neg g87] at hf
      refine zz_aload_n C 1 dL_build_304 rfl rfl ?_
      refine zz_iload_n C 2 dL_build_305 rfl rfl ?_
      refine zz_bipush (v := (8 : Int32)) C dL_build_306 (by decide) ?_
      refine zz_iadd C dL_build_308 ?_
      obtain ⟨x88, h89, hf⟩ := zz_bind hf
      refine zb_callS1 (As := [.ref b, .int (from_ + (8 : Int32))]) (rest := []) C hX hbl hbA (mL_cell (from_ + (8 : Int32)) x88 h89) dL_build_309 rfl zwl_2 zy_L_cell rfl (by decide) (by decide) (Nat.le_of_ble_eq_true rfl) (by omega) (by omega) rfl ?_
      refine zz_iconst (v := (3 : Int32)) C dL_build_312 (by decide) ?_
      refine zz_iload C 7 dL_build_313 rfl ?_
      refine zz_imul C dL_build_315 ?_
      refine zz_ishr C dL_build_316 ?_
      obtain ⟨x90, h91, hf⟩ := zz_bind hf
      refine zz_topi (Option.some.inj h91) ?_
      refine zz_istore C dL_build_317 (by decide) (lv' := [(8, .int x90), (0, .ref (ad 0)), (1, .ref b), (2, .int from_), (3, .int most_), (4, .ref r0), (5, .ref r1), (6, .int many_), (7, .int n_)]) rfl ?_
      refine zz_aload C 6 dL_build_319 rfl ?_
      refine zz_iconst (v := (2 : Int32)) C dL_build_321 (by decide) ?_
      refine zz_iload C 8 dL_build_322 rfl ?_
      refine zz_imul C dL_build_324 ?_
      refine zz_iload C 0 dL_build_325 rfl ?_
      refine zz_iconst (v := (2 : Int32)) C dL_build_327 (by decide) ?_
      obtain ⟨x92, h93, hf⟩ := zz_bind hf
      refine zz_callS1 (As := [.int x90, .int (2 : Int32)]) (rest := [.int ((2 : Int32) * n_), .ref r1]) C (mL_below x90 (2 : Int32) x92 h93) dL_build_328 rfl zwl_3 zy_L_below rfl (by decide) (by decide) (Nat.le_of_ble_eq_true rfl) (by omega) (by omega) rfl ?_
      obtain ⟨y94, h95, hf⟩ := zz_bind hf
      refine zx_st 48 C dL_build_331 rfl h95 (ws1 := (zz_wc U ad σ [(r0, .inl (U.1, 112, .inl u1)), (r1, .inl (U.1, 12, .inl y94))])) rfl ?_
      refine zz_aload C 6 dL_build_332 rfl ?_
      refine zz_iconst (v := (2 : Int32)) C dL_build_334 (by decide) ?_
      refine zz_iload C 8 dL_build_335 rfl ?_
      refine zz_imul C dL_build_337 ?_
      refine zz_iconst (v := (1 : Int32)) C dL_build_338 (by decide) ?_
      refine zz_iadd C dL_build_339 ?_
      obtain ⟨x96, h97, hf⟩ := zz_bind hf
      refine zx_cut (cells + 0) (slots + 0) 365 [(8, .int x90), (0, .ref (ad 0)), (1, .ref b), (2, .int from_), (3, .int most_), (4, .ref r0), (5, .ref r1), (6, .int many_), (7, .int n_)] [.int x96, .int (((2 : Int32) * n_) + (1 : Int32)), .ref r1] (zz_wc U ad σ [(r0, .inl (U.1, 112, .inl u1)), (r1, .inl (U.1, 12, .inl y94))]) ?_ (fun J98 => ?_)
      · obtain ⟨y104, h105, hf⟩ := zz_bind hf
        refine zx_st 48 C dL_build_365 rfl h105 (ws1 := (zz_wc U ad σ [(r0, .inl (U.1, 112, .inl u1)), (r1, .inl (U.1, 12, .inl y104))])) rfl ?_
        refine zz_aload_n C 1 dL_build_366 rfl rfl ?_
        refine zz_iload C 8 dL_build_367 rfl ?_
        obtain ⟨b106, h107, hf⟩ := zz_bind hf
        refine zx_cut (cells + 0) (slots + 0) 385 [(8, .int x90), (0, .ref (ad 0)), (1, .ref b), (2, .int from_), (3, .int most_), (4, .ref r0), (5, .ref r1), (6, .int many_), (7, .int n_)] [.int (zz_bi b106), .int n_, .ref (ad 0)] (zz_wc U ad σ [(r0, .inl (U.1, 112, .inl u1)), (r1, .inl (U.1, 12, .inl y104))]) ?_ (fun J108 => ?_)
        · refine zz_aload C 6 dL_build_385 rfl ?_
          refine zz_iconst (v := (2 : Int32)) C dL_build_387 (by decide) ?_
          refine zz_iload C 8 dL_build_388 rfl ?_
          refine zz_imul C dL_build_390 ?_
          refine zz_iconst (v := (1 : Int32)) C dL_build_391 (by decide) ?_
          refine zz_iadd C dL_build_392 ?_
          obtain ⟨x112, h113, hf⟩ := zz_bind hf
          refine zx_ld 48 C dL_build_393 rfl h113 ?_
          obtain ⟨⟨x114, σ116⟩, h115, hf⟩ := zz_bind hf
          rcases x114 with x114 | _
          · try dsimp only at hf
            refine zz_callV1 (As := [.int n_, .int (zz_bi b106), .int x112]) (rest := []) C 0 (mX7_setName_r σ n_ (zz_bi b106) x112 x114 σ116 h115) dL_build_394 rfl rfl rfl zwl_6 zy_X7_setName rfl (by decide) (by decide) (Nat.le_of_ble_eq_true rfl) (by omega) (by omega) rfl ?_
            obtain ⟨b117, h118, hf⟩ := zz_bind hf
            refine zx_cut (cells + 1) (slots + 6) 422 [(8, .int x90), (0, .ref (ad 0)), (1, .ref b), (2, .int from_), (3, .int most_), (4, .ref r0), (5, .ref r1), (6, .int many_), (7, .int n_)] [.int (zz_bi b117), .int x114] (zz_wc U ad σ116 [(r0, .inl (U.1, 112, .inl u1)), (r1, .inl (U.1, 12, .inl y104))]) ?_ (fun J119 => ?_)
            · refine zz_icmp_eq (tgt := 427) C dL_build_422 (by decide) (fun g125 => ?_) (fun g125 => ?_)
              · rw [if_pos g125] at hf
                refine zz_iinc (v := (n_ + (1 : Int32))) C 8 dL_build_427 rfl (by rfl) (by decide) (lv' := [(7, .int (n_ + (1 : Int32))), (8, .int x90), (0, .ref (ad 0)), (1, .ref b), (2, .int from_), (3, .int most_), (4, .ref r0), (5, .ref r1), (6, .int many_)]) rfl ?_
                refine zz_goto (tgt := 297) C dL_build_430 (by decide) ?_
                refine zz_sub [2, 3, 4, 5, 6, 7, 8, 0] rfl ?_
                refine zz_widen (k := cells + 1) (n := slots + 6) (by omega) (by omega) ?_
                exact ih (n_ + (1 : Int32)) σ116 y104 _ (cells + 1) (slots + 6) hf (by omega) (by omega) kr kx
              · rw [if_neg g125] at hf
                refine zz_iconst (v := (-1 : Int32)) C dL_build_425 (by decide) ?_
                refine zz_sub [] rfl ?_
                cases hf
                refine zz_widen (k := K) (n := N) (by omega) (by omega) ?_
                exact kr _ _ _ _ rfl dL_build_426
            refine zz_aload C 6 dL_build_397 rfl ?_
            refine zz_iconst (v := (2 : Int32)) C dL_build_399 (by decide) ?_
            refine zz_iload C 8 dL_build_400 rfl ?_
            refine zz_imul C dL_build_402 ?_
            obtain ⟨x120, h121, h118⟩ := zz_bind h118
            refine zx_ld 48 C dL_build_403 rfl h121 ?_
            refine zz_aload C 6 dL_build_404 rfl ?_
            refine zz_iconst (v := (2 : Int32)) C dL_build_406 (by decide) ?_
            refine zz_iload C 8 dL_build_407 rfl ?_
            refine zz_imul C dL_build_409 ?_
            refine zz_iconst (v := (1 : Int32)) C dL_build_410 (by decide) ?_
            refine zz_iadd C dL_build_411 ?_
            obtain ⟨x122, h123, h118⟩ := zz_bind h118
            refine zx_ld 48 C dL_build_412 rfl h123 ?_
            refine zz_iadd C dL_build_413 ?_
            refine zz_if_le (tgt := 421) C dL_build_414 (by decide) (fun g124 => ?_) (fun g124 => ?_)
            · rw [if_pos g124] at h118
              refine zz_iconst (v := 0) C dL_build_421 (by decide) ?_
              cases h118
              refine zz_widen (k := (cells + 1)) (n := (slots + 6)) (by omega) (by omega) ?_
              exact J119
            · rw [if_neg g124] at h118
              refine zz_iconst (v := 1) C dL_build_417 (by decide) ?_
              refine zz_goto (tgt := 422) C dL_build_418 (by decide) ?_
              cases h118
              refine zz_widen (k := (cells + 1)) (n := (slots + 6)) (by omega) (by omega) ?_
              exact J119
          · cases hf
        refine zz_aload C 6 dL_build_369 rfl ?_
        refine zz_iconst (v := (2 : Int32)) C dL_build_371 (by decide) ?_
        refine zz_iload C 8 dL_build_372 rfl ?_
        refine zz_imul C dL_build_374 ?_
        obtain ⟨x109, h110, h107⟩ := zz_bind h107
        refine zx_ld 48 C dL_build_375 rfl h110 ?_
        refine zz_iconst (v := (1 : Int32)) C dL_build_376 (by decide) ?_
        refine zz_icmp_ne (tgt := 384) C dL_build_377 (by decide) (fun g111 => ?_) (fun g111 => ?_)
        · rw [if_neg g111] at h107
          refine zz_iconst (v := 0) C dL_build_384 (by decide) ?_
          cases h107
          refine zz_widen (k := (cells + 0)) (n := (slots + 0)) (by omega) (by omega) ?_
          exact J108
        · rw [if_pos g111] at h107
          refine zz_iconst (v := 1) C dL_build_380 (by decide) ?_
          refine zz_goto (tgt := 385) C dL_build_381 (by decide) ?_
          cases h107
          refine zz_widen (k := (cells + 0)) (n := (slots + 0)) (by omega) (by omega) ?_
          exact J108
      refine zz_iload C 0 dL_build_340 rfl ?_
      refine zz_iconst (v := (1 : Int32)) C dL_build_342 (by decide) ?_
      refine zz_ishr C dL_build_343 ?_
      refine zz_iconst (v := (4 : Int32)) C dL_build_344 (by decide) ?_
      obtain ⟨x99, h100, h97⟩ := zz_bind h97
      refine zz_callS1 (As := [.int (x90 >>> ((1 : Int32) &&& 31)), .int (4 : Int32)]) (rest := [.int (((2 : Int32) * n_) + (1 : Int32)), .ref r1]) C (mL_below (x90 >>> ((1 : Int32) &&& 31)) (4 : Int32) x99 h100) dL_build_345 rfl zwl_3 zy_L_below rfl (by decide) (by decide) (Nat.le_of_ble_eq_true rfl) (by omega) (by omega) rfl ?_
      refine zz_if_ne (tgt := 364) C dL_build_348 (by decide) (fun g101 => ?_) (fun g101 => ?_)
      · rw [if_neg g101] at h97
        refine zz_iconst (v := (0 : Int32)) C dL_build_364 (by decide) ?_
        cases h97
        refine zz_widen (k := (cells + 0)) (n := (slots + 0)) (by omega) (by omega) ?_
        exact J98
      · rw [if_pos g101] at h97
        refine zz_iconst (v := (1 : Int32)) C dL_build_351 (by decide) ?_
        refine zz_iload C 0 dL_build_352 rfl ?_
        refine zz_iconst (v := (2 : Int32)) C dL_build_354 (by decide) ?_
        refine zz_ishr C dL_build_355 ?_
        refine zz_iconst (v := (2 : Int32)) C dL_build_356 (by decide) ?_
        obtain ⟨x102, h103, h97⟩ := zz_bind h97
        refine zz_callS1 (As := [.int (x90 >>> ((2 : Int32) &&& 31)), .int (2 : Int32)]) (rest := [.int (1 : Int32), .int (((2 : Int32) * n_) + (1 : Int32)), .ref r1]) C (mL_below (x90 >>> ((2 : Int32) &&& 31)) (2 : Int32) x102 h103) dL_build_357 rfl zwl_3 zy_L_below rfl (by decide) (by decide) (Nat.le_of_ble_eq_true rfl) (by omega) (by omega) rfl ?_
        refine zz_iadd C dL_build_360 ?_
        refine zz_goto (tgt := 365) C dL_build_361 (by decide) ?_
        cases h97
        refine zz_widen (k := (cells + 0)) (n := (slots + 0)) (by omega) (by omega) ?_
        exact J98
set_option maxHeartbeats 4000000 in
set_option maxRecDepth 100000 in
theorem mL_build {D : va_G} {U : zz_U} {ad : Nat → Nat} {r0 : Nat} {r1 : Nat} {b L : Nat} {xs : Nat → Int32} (σ : zz_St) (u1 : (Nat → Int32)) (u2 : (Nat → Int32)) (from_ : Int32) (most_ : Int32) (r : (Int32 × zz_St × (Nat → Int32) × (Nat → Int32))) (hf : fL_build xs L σ u1 u2 from_ most_ = some r) : zb_Met yL_build (.code yL_build cL_build 11 (some .int)) 9 616 3696 D U b L xs [.ref (ad 0), .ref b, .int from_, .int most_, .ref r0, .ref r1] (zz_wc U ad σ [(r0, .inl (U.1, 112, .inl u1)), (r1, .inl (U.1, 12, .inl u2))]) (zz_ok (some (.int r.1)) (zz_wc U ad r.2.1 [(r0, .inl (U.1, 112, .inl r.2.2.1)), (r1, .inl (U.1, 12, .inl r.2.2.2))])) zz_noth := by
  unfold fL_build at hf
  refine zb_method RL rfl (by decide +kernel) (Nat.le_of_ble_eq_true rfl) ?_
  intro p l e s m args below meth c A _ C hX hbl hbA
  refine zz_lvs (lv1 := [(0, .ref (ad 0)), (1, .ref b), (2, .int from_), (3, .int most_), (4, .ref r0), (5, .ref r1)]) rfl ?_
  refine zz_aload_n C 1 dL_build_0 rfl rfl ?_
  refine zz_iload_n C 2 dL_build_1 rfl rfl ?_
  obtain ⟨x1, h2, hf⟩ := zz_bind hf
  refine zb_callS1 (As := [.ref b, .int from_]) (rest := []) C hX hbl hbA (mL_cell from_ x1 h2) dL_build_2 rfl zwl_2 zy_L_cell rfl (by decide) (by decide) (Nat.le_of_ble_eq_true rfl) (Nat.le_of_ble_eq_true rfl) (Nat.le_of_ble_eq_true rfl) rfl ?_
  refine zz_iload_n C 3 dL_build_5 rfl rfl ?_
  refine zz_iconst (v := (1 : Int32)) C dL_build_6 (by decide) ?_
  refine zz_iadd C dL_build_7 ?_
  obtain ⟨x3, h4, hf⟩ := zz_bind hf
  refine zz_callS1 (As := [.int x1, .int (most_ + (1 : Int32))]) (rest := []) C (mL_below x1 (most_ + (1 : Int32)) x3 h4) dL_build_8 rfl zwl_3 zy_L_below rfl (by decide) (by decide) (Nat.le_of_ble_eq_true rfl) (Nat.le_of_ble_eq_true rfl) (Nat.le_of_ble_eq_true rfl) rfl ?_
  refine zz_istore C dL_build_11 (by decide) (lv' := [(6, .int x3), (0, .ref (ad 0)), (1, .ref b), (2, .int from_), (3, .int most_), (4, .ref r0), (5, .ref r1)]) rfl ?_
  refine zz_iconst (v := (0 : Int32)) C dL_build_13 (by decide) ?_
  refine zz_istore C dL_build_14 (by decide) (lv' := [(7, .int (0 : Int32)), (6, .int x3), (0, .ref (ad 0)), (1, .ref b), (2, .int from_), (3, .int most_), (4, .ref r0), (5, .ref r1)]) rfl ?_
  obtain ⟨q78, h79, hf⟩ := zz_bind hf
  refine zz_sub [2, 3, 4, 5, 6, 7, 1, 0] rfl ?_
  refine mL_build_L1 C hX hbl hbA 602 3612 (Nat.le_of_ble_eq_true rfl) (Nat.le_of_ble_eq_true rfl) u2 from_ most_ x3 14 (0 : Int32) σ u1 q78 _ _ h79 (Nat.le_of_ble_eq_true rfl) (Nat.le_of_ble_eq_true rfl) (fun v80 m85 m86 p84 e82 d83 => ?_) (fun w81 e82 => ?_)
  · subst e82
    cases hf
    exact zz_iret C d83 (And.intro rfl rfl) (Nat.le_of_ble_eq_true rfl) (Nat.le_of_ble_eq_true rfl)
  · subst e82
    refine zz_iconst (v := (0 : Int32)) C dL_build_294 (by decide) ?_
    refine zz_istore C dL_build_295 (by decide) (lv' := [(7, .int (0 : Int32)), (0, .ref (ad 0)), (1, .ref b), (2, .int from_), (3, .int most_), (4, .ref r0), (5, .ref r1), (6, .int x3)]) rfl ?_
    obtain ⟨q126, h127, hf⟩ := zz_bind hf
    refine zz_sub [1, 2, 3, 4, 5, 6, 7, 0] rfl ?_
    refine mL_build_L3 C hX hbl hbA 616 3696 (Nat.le_of_ble_eq_true rfl) (Nat.le_of_ble_eq_true rfl) w81.2.2 from_ most_ x3 14 (0 : Int32) w81.2.1 u2 q126 _ _ h127 (Nat.le_of_ble_eq_true rfl) (Nat.le_of_ble_eq_true rfl) (fun v128 m133 m134 p132 e130 d131 => ?_) (fun w129 e130 => ?_)
    · subst e130
      cases hf
      exact zz_iret C d131 (And.intro rfl rfl) (Nat.le_of_ble_eq_true rfl) (Nat.le_of_ble_eq_true rfl)
    · subst e130
      obtain ⟨x135, h136, hf⟩ := zz_bind hf
      refine zx_cut 616 3696 448 [(0, .ref (ad 0)), (1, .ref b), (2, .int from_), (3, .int most_), (4, .ref r0), (5, .ref r1), (6, .int x3), (7, .int w129.1)] [.int x135] (zz_wc U ad w129.2.1 [(r0, .inl (U.1, 112, .inl w81.2.2)), (r1, .inl (U.1, 12, .inl w129.2.2))]) ?_ (fun J137 => ?_)
      · cases hf
        exact zz_iret C dL_build_448 (And.intro rfl rfl) (Nat.le_of_ble_eq_true rfl) (Nat.le_of_ble_eq_true rfl)
      refine zz_aload_n C 0 dL_build_433 rfl rfl ?_
      obtain ⟨x138, h139, h136⟩ := zz_bind h136
      refine zz_callV1 (As := []) (rest := []) C 0 (mX7_pieceCount w129.2.1 x138 h139) dL_build_434 rfl rfl rfl zwl_7 zy_X7_pieceCount rfl (by decide) (by decide) (Nat.le_of_ble_eq_true rfl) (Nat.le_of_ble_eq_true rfl) (Nat.le_of_ble_eq_true rfl) rfl ?_
      refine zz_iload C 6 dL_build_437 rfl ?_
      refine zz_icmp_ne (tgt := 447) C dL_build_439 (by decide) (fun g140 => ?_) (fun g140 => ?_)
      · rw [if_neg g140] at h136
        refine zz_iconst (v := (-1 : Int32)) C dL_build_447 (by decide) ?_
        cases h136
        refine zz_widen (k := 616) (n := 3696) (Nat.le_of_ble_eq_true rfl) (Nat.le_of_ble_eq_true rfl) ?_
        exact J137
      · rw [if_pos g140] at h136
        refine zz_iload C 6 dL_build_442 rfl ?_
        refine zz_goto (tgt := 448) C dL_build_444 (by decide) ?_
        cases h136
        refine zz_widen (k := 616) (n := 3696) (Nat.le_of_ble_eq_true rfl) (Nat.le_of_ble_eq_true rfl) ?_
        exact J137
theorem zy_L_classes : zz_YS yL_classes (.code yL_classes cL_classes 6 (some (.array .int))) 2 := ⟨⟨List.mem_of_getElem? (i := 655) (by decide +kernel), by decide +kernel⟩, ⟨List.mem_of_getElem? (i := 656) (by decide +kernel), by decide +kernel⟩, ⟨List.mem_of_getElem? (i := 21) (by decide +kernel), by decide +kernel⟩, by decide +kernel, by decide +kernel, by decide +kernel⟩
theorem dL_classes_0 : decode cL_classes 0 = .ok (.bipush 14, 2) := by decide +kernel
theorem dL_classes_2 : decode cL_classes 2 = .ok (.newarray .int, 2) := by decide +kernel
theorem dL_classes_4 : decode cL_classes 4 = .ok (.astore_n 2, 1) := by decide +kernel
theorem dL_classes_5 : decode cL_classes 5 = .ok (.iconst 0, 1) := by decide +kernel
theorem dL_classes_6 : decode cL_classes 6 = .ok (.istore_n 3, 1) := by decide +kernel
theorem dL_classes_7 : decode cL_classes 7 = .ok (.iload_n 3, 1) := by decide +kernel
theorem dL_classes_8 : decode cL_classes 8 = .ok (.iload_n 0, 1) := by decide +kernel
theorem dL_classes_9 : decode cL_classes 9 = .ok (.if_icmp .ge 13, 3) := by decide +kernel
theorem dL_classes_12 : decode cL_classes 12 = .ok (.aload_n 2, 1) := by decide +kernel
theorem dL_classes_13 : decode cL_classes 13 = .ok (.iload_n 3, 1) := by decide +kernel
theorem dL_classes_14 : decode cL_classes 14 = .ok (.iload_n 3, 1) := by decide +kernel
theorem dL_classes_15 : decode cL_classes 15 = .ok (.iastore, 1) := by decide +kernel
theorem dL_classes_16 : decode cL_classes 16 = .ok (.iinc 3 1, 3) := by decide +kernel
theorem dL_classes_19 : decode cL_classes 19 = .ok (.goto (-12), 3) := by decide +kernel
theorem dL_classes_22 : decode cL_classes 22 = .ok (.iconst 0, 1) := by decide +kernel
theorem dL_classes_23 : decode cL_classes 23 = .ok (.istore_n 3, 1) := by decide +kernel
theorem dL_classes_24 : decode cL_classes 24 = .ok (.iload_n 3, 1) := by decide +kernel
theorem dL_classes_25 : decode cL_classes 25 = .ok (.iload_n 0, 1) := by decide +kernel
theorem dL_classes_26 : decode cL_classes 26 = .ok (.if_icmp .ge 68, 3) := by decide +kernel
theorem dL_classes_29 : decode cL_classes 29 = .ok (.iconst 0, 1) := by decide +kernel
theorem dL_classes_30 : decode cL_classes 30 = .ok (.istore 4, 2) := by decide +kernel
theorem dL_classes_32 : decode cL_classes 32 = .ok (.iload 4, 2) := by decide +kernel
theorem dL_classes_34 : decode cL_classes 34 = .ok (.iload_n 0, 1) := by decide +kernel
theorem dL_classes_35 : decode cL_classes 35 = .ok (.if_icmp .ge 53, 3) := by decide +kernel
theorem dL_classes_38 : decode cL_classes 38 = .ok (.iconst 0, 1) := by decide +kernel
theorem dL_classes_39 : decode cL_classes 39 = .ok (.istore 5, 2) := by decide +kernel
theorem dL_classes_41 : decode cL_classes 41 = .ok (.iload 5, 2) := by decide +kernel
theorem dL_classes_43 : decode cL_classes 43 = .ok (.iload_n 0, 1) := by decide +kernel
theorem dL_classes_44 : decode cL_classes 44 = .ok (.if_icmp .ge 38, 3) := by decide +kernel
theorem dL_classes_47 : decode cL_classes 47 = .ok (.aload_n 1, 1) := by decide +kernel
theorem dL_classes_48 : decode cL_classes 48 = .ok (.bipush 16, 2) := by decide +kernel
theorem dL_classes_50 : decode cL_classes 50 = .ok (.iload 4, 2) := by decide +kernel
theorem dL_classes_52 : decode cL_classes 52 = .ok (.imul, 1) := by decide +kernel
theorem dL_classes_53 : decode cL_classes 53 = .ok (.iload 5, 2) := by decide +kernel
theorem dL_classes_55 : decode cL_classes 55 = .ok (.iadd, 1) := by decide +kernel
theorem dL_classes_56 : decode cL_classes 56 = .ok (.iaload, 1) := by decide +kernel
theorem dL_classes_57 : decode cL_classes 57 = .ok (.iconst 1, 1) := by decide +kernel
theorem dL_classes_58 : decode cL_classes 58 = .ok (.if_icmp .ne 18, 3) := by decide +kernel
theorem dL_classes_61 : decode cL_classes 61 = .ok (.aload_n 2, 1) := by decide +kernel
theorem dL_classes_62 : decode cL_classes 62 = .ok (.iload 4, 2) := by decide +kernel
theorem dL_classes_64 : decode cL_classes 64 = .ok (.aload_n 2, 1) := by decide +kernel
theorem dL_classes_65 : decode cL_classes 65 = .ok (.iload 4, 2) := by decide +kernel
theorem dL_classes_67 : decode cL_classes 67 = .ok (.iaload, 1) := by decide +kernel
theorem dL_classes_68 : decode cL_classes 68 = .ok (.aload_n 2, 1) := by decide +kernel
theorem dL_classes_69 : decode cL_classes 69 = .ok (.iload 5, 2) := by decide +kernel
theorem dL_classes_71 : decode cL_classes 71 = .ok (.iaload, 1) := by decide +kernel
theorem dL_classes_72 : decode cL_classes 72 = .ok (.invokestatic 46, 3) := by decide +kernel
theorem dL_classes_75 : decode cL_classes 75 = .ok (.iastore, 1) := by decide +kernel
theorem dL_classes_76 : decode cL_classes 76 = .ok (.iinc 5 1, 3) := by decide +kernel
theorem dL_classes_79 : decode cL_classes 79 = .ok (.goto (-38), 3) := by decide +kernel
theorem dL_classes_82 : decode cL_classes 82 = .ok (.iinc 4 1, 3) := by decide +kernel
theorem dL_classes_85 : decode cL_classes 85 = .ok (.goto (-53), 3) := by decide +kernel
theorem dL_classes_88 : decode cL_classes 88 = .ok (.iinc 3 1, 3) := by decide +kernel
theorem dL_classes_91 : decode cL_classes 91 = .ok (.goto (-67), 3) := by decide +kernel
theorem dL_classes_94 : decode cL_classes 94 = .ok (.aload_n 2, 1) := by decide +kernel
theorem dL_classes_95 : decode cL_classes 95 = .ok (.areturn, 1) := by decide +kernel
set_option maxHeartbeats 4000000 in
set_option maxRecDepth 100000 in
theorem mL_classes_L1 {p : Program} {l : Launch} {e : Env} {R : Room} {s : State} {m : MethodId} {args : Array Value} {below : List Frame} {meth : Method} {c : Code} {Q : State → Prop} {D : va_G} {U : zz_U} {A : Nat → Prop} {ad : Nat → Nat} {r0 : Nat} {r1 : Nat} (C : zz_C p l R s m meth c D U A RL cL_classes 6 (some (.array .int)) [] 1) (K N : Nat) (hK : K ≤ R.cells) (hN : N ≤ R.slots) (σ : zz_St) (u1 : (Nat → Int32)) (many_ : Int32) : ∀ (n : Nat) (p_ : Int32) (u2 : (Nat → Int32)) (q : (Int32 × (Nat → Int32))) (cells slots : Nat), fL_classes_L1 many_ n p_ u2 = some q → cells + n * 0 ≤ K → slots + n * 0 ≤ N → (zz_Z p l e R s m args below meth c Q D A 6 K N (zz_wc U ad σ [(r0, .inl (U.1, 256, .inl u1)), (r1, .inl (U.1, 14, .inl q.2))]) 22 [(0, .int many_), (1, .ref r0), (2, .ref r1), (3, .int q.1)] []) → zz_Z p l e R s m args below meth c Q D A 6 cells slots (zz_wc U ad σ [(r0, .inl (U.1, 256, .inl u1)), (r1, .inl (U.1, 14, .inl u2))]) 7 [(0, .int many_), (1, .ref r0), (2, .ref r1), (3, .int p_)] [] := by
  intro n
  induction n with
  | zero => intro p_ u2 q cells slots hf; rw [fL_classes_L1] at hf; cases hf
  | succ n ih =>
    intro p_ u2 q cells slots hf hc hs kx
    rw [fL_classes_L1] at hf
    rw [show (n + 1) * 0 = n * 0 + 0 from Nat.succ_mul n 0] at hc
    rw [show (n + 1) * 0 = n * 0 + 0 from Nat.succ_mul n 0] at hs
    generalize n * 0 = X1 at hc hs ih
    refine zz_iload_n C 3 dL_classes_7 rfl rfl ?_
    refine zz_iload_n C 0 dL_classes_8 rfl rfl ?_
    refine zz_icmp_ge (tgt := 22) C dL_classes_9 (by decide) (fun g1 => ?_) (fun g1 => ?_)
    · rw [if_pos g1] at hf
      cases hf
      refine zz_widen (k := K) (n := N) (by omega) (by omega) ?_
      exact kx
    · rw [if_neg g1] at hf
      refine zz_aload_n C 2 dL_classes_12 rfl rfl ?_
      refine zz_iload_n C 3 dL_classes_13 rfl rfl ?_
      refine zz_iload_n C 3 dL_classes_14 rfl rfl ?_
      obtain ⟨y2, h3, hf⟩ := zz_bind hf
      refine zx_st 48 C dL_classes_15 rfl h3 (ws1 := (zz_wc U ad σ [(r0, .inl (U.1, 256, .inl u1)), (r1, .inl (U.1, 14, .inl y2))])) rfl ?_
      refine zz_iinc (v := (p_ + (1 : Int32))) C 3 dL_classes_16 rfl (by rfl) (by decide) (lv' := [(3, .int (p_ + (1 : Int32))), (0, .int many_), (1, .ref r0), (2, .ref r1)]) rfl ?_
      refine zz_goto (tgt := 7) C dL_classes_19 (by decide) ?_
      refine zz_sub [1, 2, 3, 0] rfl ?_
      refine zz_widen (k := cells + 0) (n := slots + 0) (by omega) (by omega) ?_
      exact ih (p_ + (1 : Int32)) y2 _ (cells + 0) (slots + 0) hf (by omega) (by omega) kx
set_option maxHeartbeats 4000000 in
set_option maxRecDepth 100000 in
theorem mL_classes_L4 {p : Program} {l : Launch} {e : Env} {R : Room} {s : State} {m : MethodId} {args : Array Value} {below : List Frame} {meth : Method} {c : Code} {Q : State → Prop} {D : va_G} {U : zz_U} {A : Nat → Prop} {ad : Nat → Nat} {r0 : Nat} {r1 : Nat} (C : zz_C p l R s m meth c D U A RL cL_classes 6 (some (.array .int)) [] 1) (K N : Nat) (hK : K ≤ R.cells) (hN : N ≤ R.slots) (σ : zz_St) (u1 : (Nat → Int32)) (many_ : Int32) (round_ : Int32) (p_ : Int32) : ∀ (n : Nat) (q_ : Int32) (u2 : (Nat → Int32)) (q : (Int32 × (Nat → Int32))) (cells slots : Nat), fL_classes_L4 u1 many_ p_ n q_ u2 = some q → cells + n * 0 ≤ K → slots + n * 0 ≤ N → (zz_Z p l e R s m args below meth c Q D A 6 K N (zz_wc U ad σ [(r0, .inl (U.1, 256, .inl u1)), (r1, .inl (U.1, 14, .inl q.2))]) 82 [(0, .int many_), (1, .ref r0), (2, .ref r1), (3, .int round_), (4, .int p_), (5, .int q.1)] []) → zz_Z p l e R s m args below meth c Q D A 6 cells slots (zz_wc U ad σ [(r0, .inl (U.1, 256, .inl u1)), (r1, .inl (U.1, 14, .inl u2))]) 41 [(0, .int many_), (1, .ref r0), (2, .ref r1), (3, .int round_), (4, .int p_), (5, .int q_)] [] := by
  intro n
  induction n with
  | zero => intro q_ u2 q cells slots hf; rw [fL_classes_L4] at hf; cases hf
  | succ n ih =>
    intro q_ u2 q cells slots hf hc hs kx
    rw [fL_classes_L4] at hf
    rw [show (n + 1) * 0 = n * 0 + 0 from Nat.succ_mul n 0] at hc
    rw [show (n + 1) * 0 = n * 0 + 0 from Nat.succ_mul n 0] at hs
    generalize n * 0 = X1 at hc hs ih
    refine zz_iload C 5 dL_classes_41 rfl ?_
    refine zz_iload_n C 0 dL_classes_43 rfl rfl ?_
    refine zz_icmp_ge (tgt := 82) C dL_classes_44 (by decide) (fun g8 => ?_) (fun g8 => ?_)
    · rw [if_pos g8] at hf
      cases hf
      refine zz_widen (k := K) (n := N) (by omega) (by omega) ?_
      exact kx
    · rw [if_neg g8] at hf
      obtain ⟨x9, h10, hf⟩ := zz_bind hf
      refine zz_cut 76 [(0, .int many_), (1, .ref r0), (2, .ref r1), (3, .int round_), (4, .int p_), (5, .int q_)] [] (zz_wc U ad σ [(r0, .inl (U.1, 256, .inl u1)), (r1, .inl (U.1, 14, .inl x9))]) ?_ (fun J11 => ?_)
      · refine zz_iinc (v := (q_ + (1 : Int32))) C 5 dL_classes_76 rfl (by rfl) (by decide) (lv' := [(5, .int (q_ + (1 : Int32))), (0, .int many_), (1, .ref r0), (2, .ref r1), (3, .int round_), (4, .int p_)]) rfl ?_
        refine zz_goto (tgt := 41) C dL_classes_79 (by decide) ?_
        refine zz_sub [1, 2, 3, 4, 5, 0] rfl ?_
        refine zz_widen (k := cells + 0) (n := slots + 0) (by omega) (by omega) ?_
        exact ih (q_ + (1 : Int32)) x9 _ (cells + 0) (slots + 0) hf (by omega) (by omega) kx
      refine zz_aload_n C 1 dL_classes_47 rfl rfl ?_
      refine zz_bipush (v := (16 : Int32)) C dL_classes_48 (by decide) ?_
      refine zz_iload C 4 dL_classes_50 rfl ?_
      refine zz_imul C dL_classes_52 ?_
      refine zz_iload C 5 dL_classes_53 rfl ?_
      refine zz_iadd C dL_classes_55 ?_
      obtain ⟨x12, h13, h10⟩ := zz_bind h10
      refine zx_ld 47 C dL_classes_56 rfl h13 ?_
      refine zz_iconst (v := (1 : Int32)) C dL_classes_57 (by decide) ?_
      refine zz_icmp_ne (tgt := 76) C dL_classes_58 (by decide) (fun g14 => ?_) (fun g14 => ?_)
      · rw [if_neg g14] at h10
        cases h10
        exact J11
      · rw [if_pos g14] at h10
        refine zz_aload_n C 2 dL_classes_61 rfl rfl ?_
        refine zz_iload C 4 dL_classes_62 rfl ?_
        refine zz_aload_n C 2 dL_classes_64 rfl rfl ?_
        refine zz_iload C 4 dL_classes_65 rfl ?_
        obtain ⟨x15, h16, h10⟩ := zz_bind h10
        refine zx_ld 48 C dL_classes_67 rfl h16 ?_
        refine zz_aload_n C 2 dL_classes_68 rfl rfl ?_
        refine zz_iload C 5 dL_classes_69 rfl ?_
        obtain ⟨x17, h18, h10⟩ := zz_bind h10
        refine zx_ld 48 C dL_classes_71 rfl h18 ?_
        refine zz_mmin C dL_classes_72 zwl_8 zm_min_1 zm_min_2 zm_min_3 (by decide) (Nat.le_of_ble_eq_true rfl) (by omega) (by omega) ?_
        obtain ⟨y19, h20, h10⟩ := zz_bind h10
        refine zx_st 48 C dL_classes_75 rfl h20 (ws1 := (zz_wc U ad σ [(r0, .inl (U.1, 256, .inl u1)), (r1, .inl (U.1, 14, .inl y19))])) rfl ?_
        cases h10
        exact J11
set_option maxHeartbeats 4000000 in
set_option maxRecDepth 100000 in
theorem mL_classes_L3 {p : Program} {l : Launch} {e : Env} {R : Room} {s : State} {m : MethodId} {args : Array Value} {below : List Frame} {meth : Method} {c : Code} {Q : State → Prop} {D : va_G} {U : zz_U} {A : Nat → Prop} {ad : Nat → Nat} {r0 : Nat} {r1 : Nat} (C : zz_C p l R s m meth c D U A RL cL_classes 6 (some (.array .int)) [] 1) (K N : Nat) (hK : K ≤ R.cells) (hN : N ≤ R.slots) (σ : zz_St) (u1 : (Nat → Int32)) (many_ : Int32) (round_ : Int32) : ∀ (n : Nat) (p_ : Int32) (u2 : (Nat → Int32)) (q : (Int32 × (Nat → Int32))) (cells slots : Nat), fL_classes_L3 u1 many_ n p_ u2 = some q → cells + n * 0 ≤ K → slots + n * 0 ≤ N → (zz_Z p l e R s m args below meth c Q D A 6 K N (zz_wc U ad σ [(r0, .inl (U.1, 256, .inl u1)), (r1, .inl (U.1, 14, .inl q.2))]) 88 [(0, .int many_), (1, .ref r0), (2, .ref r1), (3, .int round_), (4, .int q.1)] []) → zz_Z p l e R s m args below meth c Q D A 6 cells slots (zz_wc U ad σ [(r0, .inl (U.1, 256, .inl u1)), (r1, .inl (U.1, 14, .inl u2))]) 32 [(0, .int many_), (1, .ref r0), (2, .ref r1), (3, .int round_), (4, .int p_)] [] := by
  intro n
  induction n with
  | zero => intro p_ u2 q cells slots hf; rw [fL_classes_L3] at hf; cases hf
  | succ n ih =>
    intro p_ u2 q cells slots hf hc hs kx
    rw [fL_classes_L3] at hf
    rw [show (n + 1) * 0 = n * 0 + 0 from Nat.succ_mul n 0] at hc
    rw [show (n + 1) * 0 = n * 0 + 0 from Nat.succ_mul n 0] at hs
    generalize n * 0 = X1 at hc hs ih
    refine zz_iload C 4 dL_classes_32 rfl ?_
    refine zz_iload_n C 0 dL_classes_34 rfl rfl ?_
    refine zz_icmp_ge (tgt := 88) C dL_classes_35 (by decide) (fun g7 => ?_) (fun g7 => ?_)
    · rw [if_pos g7] at hf
      cases hf
      refine zz_widen (k := K) (n := N) (by omega) (by omega) ?_
      exact kx
    · rw [if_neg g7] at hf
      refine zz_iconst (v := (0 : Int32)) C dL_classes_38 (by decide) ?_
      refine zz_istore C dL_classes_39 (by decide) (lv' := [(5, .int (0 : Int32)), (0, .int many_), (1, .ref r0), (2, .ref r1), (3, .int round_), (4, .int p_)]) rfl ?_
      obtain ⟨q21, h22, hf⟩ := zz_bind hf
      refine zz_sub [1, 2, 3, 4, 5, 0] rfl ?_
      refine mL_classes_L4 C (cells + 0) (slots + 0) (by omega) (by omega) σ u1 many_ round_ p_ 14 (0 : Int32) u2 q21 _ _ h22 (by omega) (by omega) ?_
      refine zz_iinc (v := (p_ + (1 : Int32))) C 4 dL_classes_82 rfl (by rfl) (by decide) (lv' := [(4, .int (p_ + (1 : Int32))), (0, .int many_), (1, .ref r0), (2, .ref r1), (3, .int round_), (5, .int q21.1)]) rfl ?_
      refine zz_goto (tgt := 32) C dL_classes_85 (by decide) ?_
      refine zz_sub [1, 2, 3, 4, 0] rfl ?_
      refine zz_widen (k := cells + 0) (n := slots + 0) (by omega) (by omega) ?_
      exact ih (p_ + (1 : Int32)) q21.2 _ (cells + 0) (slots + 0) hf (by omega) (by omega) kx
set_option maxHeartbeats 4000000 in
set_option maxRecDepth 100000 in
theorem mL_classes_L2 {p : Program} {l : Launch} {e : Env} {R : Room} {s : State} {m : MethodId} {args : Array Value} {below : List Frame} {meth : Method} {c : Code} {Q : State → Prop} {D : va_G} {U : zz_U} {A : Nat → Prop} {ad : Nat → Nat} {r0 : Nat} {r1 : Nat} (C : zz_C p l R s m meth c D U A RL cL_classes 6 (some (.array .int)) [] 1) (K N : Nat) (hK : K ≤ R.cells) (hN : N ≤ R.slots) (σ : zz_St) (u1 : (Nat → Int32)) (many_ : Int32) : ∀ (n : Nat) (round_ : Int32) (u2 : (Nat → Int32)) (q : (Int32 × (Nat → Int32))) (cells slots : Nat), fL_classes_L2 u1 many_ n round_ u2 = some q → cells + n * 0 ≤ K → slots + n * 0 ≤ N → (zz_Z p l e R s m args below meth c Q D A 6 K N (zz_wc U ad σ [(r0, .inl (U.1, 256, .inl u1)), (r1, .inl (U.1, 14, .inl q.2))]) 94 [(0, .int many_), (1, .ref r0), (2, .ref r1), (3, .int q.1)] []) → zz_Z p l e R s m args below meth c Q D A 6 cells slots (zz_wc U ad σ [(r0, .inl (U.1, 256, .inl u1)), (r1, .inl (U.1, 14, .inl u2))]) 24 [(0, .int many_), (1, .ref r0), (2, .ref r1), (3, .int round_)] [] := by
  intro n
  induction n with
  | zero => intro round_ u2 q cells slots hf; rw [fL_classes_L2] at hf; cases hf
  | succ n ih =>
    intro round_ u2 q cells slots hf hc hs kx
    rw [fL_classes_L2] at hf
    rw [show (n + 1) * 0 = n * 0 + 0 from Nat.succ_mul n 0] at hc
    rw [show (n + 1) * 0 = n * 0 + 0 from Nat.succ_mul n 0] at hs
    generalize n * 0 = X1 at hc hs ih
    refine zz_iload_n C 3 dL_classes_24 rfl rfl ?_
    refine zz_iload_n C 0 dL_classes_25 rfl rfl ?_
    refine zz_icmp_ge (tgt := 94) C dL_classes_26 (by decide) (fun g6 => ?_) (fun g6 => ?_)
    · rw [if_pos g6] at hf
      cases hf
      refine zz_widen (k := K) (n := N) (by omega) (by omega) ?_
      exact kx
    · rw [if_neg g6] at hf
      refine zz_iconst (v := (0 : Int32)) C dL_classes_29 (by decide) ?_
      refine zz_istore C dL_classes_30 (by decide) (lv' := [(4, .int (0 : Int32)), (0, .int many_), (1, .ref r0), (2, .ref r1), (3, .int round_)]) rfl ?_
      obtain ⟨q23, h24, hf⟩ := zz_bind hf
      refine zz_sub [1, 2, 3, 4, 0] rfl ?_
      refine mL_classes_L3 C (cells + 0) (slots + 0) (by omega) (by omega) σ u1 many_ round_ 14 (0 : Int32) u2 q23 _ _ h24 (by omega) (by omega) ?_
      refine zz_iinc (v := (round_ + (1 : Int32))) C 3 dL_classes_88 rfl (by rfl) (by decide) (lv' := [(3, .int (round_ + (1 : Int32))), (0, .int many_), (1, .ref r0), (2, .ref r1), (4, .int q23.1)]) rfl ?_
      refine zz_goto (tgt := 24) C dL_classes_91 (by decide) ?_
      refine zz_sub [1, 2, 3, 0] rfl ?_
      refine zz_widen (k := cells + 0) (n := slots + 0) (by omega) (by omega) ?_
      exact ih (round_ + (1 : Int32)) q23.2 _ (cells + 0) (slots + 0) hf (by omega) (by omega) kx
set_option maxHeartbeats 4000000 in
set_option maxRecDepth 100000 in
theorem mL_classes {D : va_G} {U : zz_U} {ad : Nat → Nat} {r0 : Nat} (σ : zz_St) (many_ : Int32) (u1 : Nat → Int32) (r : (Nat → Int32)) (hf : fL_classes many_ u1 = some r) : zz_Met yL_classes (.code yL_classes cL_classes 6 (some (.array .int))) 1 1 14 D U [.int many_, .ref r0] (zz_wc U ad σ [(r0, .inl (U.1, 256, .inl u1))]) (fun v w => ∃ q : Nat, v = some (.ref q) ∧ w = (zz_wc U ad σ [(r0, .inl (U.1, 256, .inl u1)), (q, .inl (U.1, 14, .inl r))])) zz_noth := by
  unfold fL_classes at hf
  refine zz_method RL rfl (by decide +kernel) (Nat.le_of_ble_eq_true rfl) ?_
  intro p l e s m args below meth c A _ C
  refine zz_lvs (lv1 := [(0, .int many_), (1, .ref r0)]) rfl ?_
  refine zz_bipush (v := (14 : Int32)) C dL_classes_0 (by decide) ?_
  refine zz_newi (N := 14) C dL_classes_2 zx_ai (by decide) (by decide) (Nat.le_of_ble_eq_true rfl) (Nat.le_of_ble_eq_true rfl) (Nat.le_of_ble_eq_true rfl) (fun r1 => ?_)
  refine zz_ren (ws' := (zz_wc U ad σ [(r0, .inl (U.1, 256, .inl u1)), (r1, .inl (U.1, 14, .inl (fun _ => 0)))])) zx_app ?_
  refine zz_astore_n C dL_classes_4 rfl (by decide) (lv' := [(2, .ref r1), (0, .int many_), (1, .ref r0)]) rfl ?_
  refine zz_iconst (v := (0 : Int32)) C dL_classes_5 (by decide) ?_
  refine zz_istore_n C dL_classes_6 rfl (by decide) (lv' := [(3, .int (0 : Int32)), (2, .ref r1), (0, .int many_), (1, .ref r0)]) rfl ?_
  obtain ⟨q4, h5, hf⟩ := zz_bind hf
  refine zz_sub [2, 3, 1, 0] rfl ?_
  refine mL_classes_L1 C 1 14 (Nat.le_of_ble_eq_true rfl) (Nat.le_of_ble_eq_true rfl) σ u1 many_ 14 (0 : Int32) (fun _ => 0) q4 _ _ h5 (Nat.le_of_ble_eq_true rfl) (Nat.le_of_ble_eq_true rfl) ?_
  refine zz_iconst (v := (0 : Int32)) C dL_classes_22 (by decide) ?_
  refine zz_istore_n C dL_classes_23 rfl (by decide) (lv' := [(3, .int (0 : Int32)), (0, .int many_), (1, .ref r0), (2, .ref r1)]) rfl ?_
  obtain ⟨q25, h26, hf⟩ := zz_bind hf
  refine zz_sub [1, 2, 3, 0] rfl ?_
  refine mL_classes_L2 C 1 14 (Nat.le_of_ble_eq_true rfl) (Nat.le_of_ble_eq_true rfl) σ u1 many_ 14 (0 : Int32) q4.2 q25 _ _ h26 (Nat.le_of_ble_eq_true rfl) (Nat.le_of_ble_eq_true rfl) ?_
  refine zz_aload_n C 2 dL_classes_94 rfl rfl ?_
  cases hf
  exact zx_aret C dL_classes_95 ⟨_, rfl, rfl⟩ (Nat.le_of_ble_eq_true rfl) (Nat.le_of_ble_eq_true rfl)
theorem zy_L_speak : zz_YS yL_speak (.codeWith yL_speak cL_speak 15 (some .boolean) [(185, 197, 200, 44)]) 5 := ⟨⟨List.mem_of_getElem? (i := 651) (by decide +kernel), by decide +kernel⟩, ⟨List.mem_of_getElem? (i := 652) (by decide +kernel), by decide +kernel⟩, ⟨List.mem_of_getElem? (i := 21) (by decide +kernel), by decide +kernel⟩, by decide +kernel, by decide +kernel, by decide +kernel⟩
theorem dL_speak_0 : decode cL_speak 0 = .ok (.iconst 0, 1) := by decide +kernel
theorem dL_speak_1 : decode cL_speak 1 = .ok (.istore 5, 2) := by decide +kernel
theorem dL_speak_3 : decode cL_speak 3 = .ok (.iload 5, 2) := by decide +kernel
theorem dL_speak_5 : decode cL_speak 5 = .ok (.iconst 4, 1) := by decide +kernel
theorem dL_speak_6 : decode cL_speak 6 = .ok (.if_icmp .ge 259, 3) := by decide +kernel
theorem dL_speak_9 : decode cL_speak 9 = .ok (.iload_n 3, 1) := by decide +kernel
theorem dL_speak_10 : decode cL_speak 10 = .ok (.iconst 1, 1) := by decide +kernel
theorem dL_speak_11 : decode cL_speak 11 = .ok (.if_icmp .le 254, 3) := by decide +kernel
theorem dL_speak_14 : decode cL_speak 14 = .ok (.aload_n 1, 1) := by decide +kernel
theorem dL_speak_15 : decode cL_speak 15 = .ok (.iload_n 2, 1) := by decide +kernel
theorem dL_speak_16 : decode cL_speak 16 = .ok (.iload 5, 2) := by decide +kernel
theorem dL_speak_18 : decode cL_speak 18 = .ok (.iadd, 1) := by decide +kernel
theorem dL_speak_19 : decode cL_speak 19 = .ok (.invokestatic 9, 3) := by decide +kernel
theorem dL_speak_22 : decode cL_speak 22 = .ok (.istore 6, 2) := by decide +kernel
theorem dL_speak_24 : decode cL_speak 24 = .ok (.iload 6, 2) := by decide +kernel
theorem dL_speak_26 : decode cL_speak 26 = .ok (.iload_n 3, 1) := by decide +kernel
theorem dL_speak_27 : decode cL_speak 27 = .ok (.invokestatic 15, 3) := by decide +kernel
theorem dL_speak_30 : decode cL_speak 30 = .ok (.istore 7, 2) := by decide +kernel
theorem dL_speak_32 : decode cL_speak 32 = .ok (.iload 7, 2) := by decide +kernel
theorem dL_speak_34 : decode cL_speak 34 = .ok (.iconst 1, 1) := by decide +kernel
theorem dL_speak_35 : decode cL_speak 35 = .ok (.iadd, 1) := by decide +kernel
theorem dL_speak_36 : decode cL_speak 36 = .ok (.iload 6, 2) := by decide +kernel
theorem dL_speak_38 : decode cL_speak 38 = .ok (.iconst 4, 1) := by decide +kernel
theorem dL_speak_39 : decode cL_speak 39 = .ok (.ishr, 1) := by decide +kernel
theorem dL_speak_40 : decode cL_speak 40 = .ok (.iload_n 3, 1) := by decide +kernel
theorem dL_speak_41 : decode cL_speak 41 = .ok (.iconst 1, 1) := by decide +kernel
theorem dL_speak_42 : decode cL_speak 42 = .ok (.isub, 1) := by decide +kernel
theorem dL_speak_43 : decode cL_speak 43 = .ok (.invokestatic 15, 3) := by decide +kernel
theorem dL_speak_46 : decode cL_speak 46 = .ok (.iadd, 1) := by decide +kernel
theorem dL_speak_47 : decode cL_speak 47 = .ok (.iload_n 3, 1) := by decide +kernel
theorem dL_speak_48 : decode cL_speak 48 = .ok (.irem, 1) := by decide +kernel
theorem dL_speak_49 : decode cL_speak 49 = .ok (.istore 8, 2) := by decide +kernel
theorem dL_speak_51 : decode cL_speak 51 = .ok (.iload 6, 2) := by decide +kernel
theorem dL_speak_53 : decode cL_speak 53 = .ok (.bipush 8, 2) := by decide +kernel
theorem dL_speak_55 : decode cL_speak 55 = .ok (.ishr, 1) := by decide +kernel
theorem dL_speak_56 : decode cL_speak 56 = .ok (.iconst 3, 1) := by decide +kernel
theorem dL_speak_57 : decode cL_speak 57 = .ok (.invokestatic 15, 3) := by decide +kernel
theorem dL_speak_60 : decode cL_speak 60 = .ok (.istore 9, 2) := by decide +kernel
theorem dL_speak_62 : decode cL_speak 62 = .ok (.aload 4, 2) := by decide +kernel
theorem dL_speak_64 : decode cL_speak 64 = .ok (.bipush 16, 2) := by decide +kernel
theorem dL_speak_66 : decode cL_speak 66 = .ok (.iload 7, 2) := by decide +kernel
theorem dL_speak_68 : decode cL_speak 68 = .ok (.imul, 1) := by decide +kernel
theorem dL_speak_69 : decode cL_speak 69 = .ok (.iload 8, 2) := by decide +kernel
theorem dL_speak_71 : decode cL_speak 71 = .ok (.iadd, 1) := by decide +kernel
theorem dL_speak_72 : decode cL_speak 72 = .ok (.iaload, 1) := by decide +kernel
theorem dL_speak_73 : decode cL_speak 73 = .ok (.istore 10, 2) := by decide +kernel
theorem dL_speak_75 : decode cL_speak 75 = .ok (.aload 4, 2) := by decide +kernel
theorem dL_speak_77 : decode cL_speak 77 = .ok (.bipush 16, 2) := by decide +kernel
theorem dL_speak_79 : decode cL_speak 79 = .ok (.iload 7, 2) := by decide +kernel
theorem dL_speak_81 : decode cL_speak 81 = .ok (.imul, 1) := by decide +kernel
theorem dL_speak_82 : decode cL_speak 82 = .ok (.iload 8, 2) := by decide +kernel
theorem dL_speak_84 : decode cL_speak 84 = .ok (.iadd, 1) := by decide +kernel
theorem dL_speak_85 : decode cL_speak 85 = .ok (.iload 9, 2) := by decide +kernel
theorem dL_speak_87 : decode cL_speak 87 = .ok (.iastore, 1) := by decide +kernel
theorem dL_speak_88 : decode cL_speak 88 = .ok (.aload 4, 2) := by decide +kernel
theorem dL_speak_90 : decode cL_speak 90 = .ok (.bipush 16, 2) := by decide +kernel
theorem dL_speak_92 : decode cL_speak 92 = .ok (.iload 8, 2) := by decide +kernel
theorem dL_speak_94 : decode cL_speak 94 = .ok (.imul, 1) := by decide +kernel
theorem dL_speak_95 : decode cL_speak 95 = .ok (.iload 7, 2) := by decide +kernel
theorem dL_speak_97 : decode cL_speak 97 = .ok (.iadd, 1) := by decide +kernel
theorem dL_speak_98 : decode cL_speak 98 = .ok (.iload 9, 2) := by decide +kernel
theorem dL_speak_100 : decode cL_speak 100 = .ok (.iastore, 1) := by decide +kernel
theorem dL_speak_101 : decode cL_speak 101 = .ok (.iconst 1, 1) := by decide +kernel
theorem dL_speak_102 : decode cL_speak 102 = .ok (.istore 11, 2) := by decide +kernel
theorem dL_speak_104 : decode cL_speak 104 = .ok (.iload_n 3, 1) := by decide +kernel
theorem dL_speak_105 : decode cL_speak 105 = .ok (.aload 4, 2) := by decide +kernel
theorem dL_speak_107 : decode cL_speak 107 = .ok (.invokestatic 37, 3) := by decide +kernel
theorem dL_speak_110 : decode cL_speak 110 = .ok (.astore 12, 2) := by decide +kernel
theorem dL_speak_112 : decode cL_speak 112 = .ok (.iconst 0, 1) := by decide +kernel
theorem dL_speak_113 : decode cL_speak 113 = .ok (.istore 13, 2) := by decide +kernel
theorem dL_speak_115 : decode cL_speak 115 = .ok (.iload 13, 2) := by decide +kernel
theorem dL_speak_117 : decode cL_speak 117 = .ok (.iload_n 3, 1) := by decide +kernel
theorem dL_speak_118 : decode cL_speak 118 = .ok (.if_icmp .ge 64, 3) := by decide +kernel
theorem dL_speak_121 : decode cL_speak 121 = .ok (.iconst 0, 1) := by decide +kernel
theorem dL_speak_122 : decode cL_speak 122 = .ok (.istore 14, 2) := by decide +kernel
theorem dL_speak_124 : decode cL_speak 124 = .ok (.iload 14, 2) := by decide +kernel
theorem dL_speak_126 : decode cL_speak 126 = .ok (.iload_n 3, 1) := by decide +kernel
theorem dL_speak_127 : decode cL_speak 127 = .ok (.if_icmp .ge 49, 3) := by decide +kernel
theorem dL_speak_130 : decode cL_speak 130 = .ok (.iload 11, 2) := by decide +kernel
theorem dL_speak_132 : decode cL_speak 132 = .ok (.ifCond .eq 35, 3) := by decide +kernel
theorem dL_speak_135 : decode cL_speak 135 = .ok (.aload 4, 2) := by decide +kernel
theorem dL_speak_137 : decode cL_speak 137 = .ok (.bipush 16, 2) := by decide +kernel
theorem dL_speak_139 : decode cL_speak 139 = .ok (.iload 13, 2) := by decide +kernel
theorem dL_speak_141 : decode cL_speak 141 = .ok (.imul, 1) := by decide +kernel
theorem dL_speak_142 : decode cL_speak 142 = .ok (.iload 14, 2) := by decide +kernel
theorem dL_speak_144 : decode cL_speak 144 = .ok (.iadd, 1) := by decide +kernel
theorem dL_speak_145 : decode cL_speak 145 = .ok (.iaload, 1) := by decide +kernel
theorem dL_speak_146 : decode cL_speak 146 = .ok (.iconst 2, 1) := by decide +kernel
theorem dL_speak_147 : decode cL_speak 147 = .ok (.if_icmp .ne 16, 3) := by decide +kernel
theorem dL_speak_150 : decode cL_speak 150 = .ok (.aload 12, 2) := by decide +kernel
theorem dL_speak_152 : decode cL_speak 152 = .ok (.iload 13, 2) := by decide +kernel
theorem dL_speak_154 : decode cL_speak 154 = .ok (.iaload, 1) := by decide +kernel
theorem dL_speak_155 : decode cL_speak 155 = .ok (.aload 12, 2) := by decide +kernel
theorem dL_speak_157 : decode cL_speak 157 = .ok (.iload 14, 2) := by decide +kernel
theorem dL_speak_159 : decode cL_speak 159 = .ok (.iaload, 1) := by decide +kernel
theorem dL_speak_160 : decode cL_speak 160 = .ok (.if_icmp .eq 7, 3) := by decide +kernel
theorem dL_speak_163 : decode cL_speak 163 = .ok (.iconst 1, 1) := by decide +kernel
theorem dL_speak_164 : decode cL_speak 164 = .ok (.goto 4, 3) := by decide +kernel
theorem dL_speak_167 : decode cL_speak 167 = .ok (.iconst 0, 1) := by decide +kernel
theorem dL_speak_168 : decode cL_speak 168 = .ok (.istore 11, 2) := by decide +kernel
theorem dL_speak_170 : decode cL_speak 170 = .ok (.iinc 14 1, 3) := by decide +kernel
theorem dL_speak_173 : decode cL_speak 173 = .ok (.goto (-49), 3) := by decide +kernel
theorem dL_speak_176 : decode cL_speak 176 = .ok (.iinc 13 1, 3) := by decide +kernel
theorem dL_speak_179 : decode cL_speak 179 = .ok (.goto (-64), 3) := by decide +kernel
theorem dL_speak_182 : decode cL_speak 182 = .ok (.iconst (-1), 1) := by decide +kernel
theorem dL_speak_183 : decode cL_speak 183 = .ok (.istore 13, 2) := by decide +kernel
theorem dL_speak_185 : decode cL_speak 185 = .ok (.aload_n 0, 1) := by decide +kernel
theorem dL_speak_186 : decode cL_speak 186 = .ok (.iload 7, 2) := by decide +kernel
theorem dL_speak_188 : decode cL_speak 188 = .ok (.iload 8, 2) := by decide +kernel
theorem dL_speak_190 : decode cL_speak 190 = .ok (.iload 9, 2) := by decide +kernel
theorem dL_speak_192 : decode cL_speak 192 = .ok (.invokevirtual 41, 3) := by decide +kernel
theorem dL_speak_195 : decode cL_speak 195 = .ok (.istore 13, 2) := by decide +kernel
theorem dL_speak_197 : decode cL_speak 197 = .ok (.goto 9, 3) := by decide +kernel
theorem dL_speak_200 : decode cL_speak 200 = .ok (.astore 14, 2) := by decide +kernel
theorem dL_speak_202 : decode cL_speak 202 = .ok (.bipush (-3), 2) := by decide +kernel
theorem dL_speak_204 : decode cL_speak 204 = .ok (.istore 13, 2) := by decide +kernel
theorem dL_speak_206 : decode cL_speak 206 = .ok (.iload 13, 2) := by decide +kernel
theorem dL_speak_208 : decode cL_speak 208 = .ok (.iload 11, 2) := by decide +kernel
theorem dL_speak_210 : decode cL_speak 210 = .ok (.ifCond .eq 8, 3) := by decide +kernel
theorem dL_speak_213 : decode cL_speak 213 = .ok (.iload 10, 2) := by decide +kernel
theorem dL_speak_215 : decode cL_speak 215 = .ok (.goto 5, 3) := by decide +kernel
theorem dL_speak_218 : decode cL_speak 218 = .ok (.bipush (-3), 2) := by decide +kernel
theorem dL_speak_220 : decode cL_speak 220 = .ok (.if_icmp .eq 5, 3) := by decide +kernel
theorem dL_speak_223 : decode cL_speak 223 = .ok (.iconst 0, 1) := by decide +kernel
theorem dL_speak_224 : decode cL_speak 224 = .ok (.ireturn, 1) := by decide +kernel
theorem dL_speak_225 : decode cL_speak 225 = .ok (.iload 11, 2) := by decide +kernel
theorem dL_speak_227 : decode cL_speak 227 = .ok (.ifCond .eq 6, 3) := by decide +kernel
theorem dL_speak_230 : decode cL_speak 230 = .ok (.goto 29, 3) := by decide +kernel
theorem dL_speak_233 : decode cL_speak 233 = .ok (.aload 4, 2) := by decide +kernel
theorem dL_speak_235 : decode cL_speak 235 = .ok (.bipush 16, 2) := by decide +kernel
theorem dL_speak_237 : decode cL_speak 237 = .ok (.iload 7, 2) := by decide +kernel
theorem dL_speak_239 : decode cL_speak 239 = .ok (.imul, 1) := by decide +kernel
theorem dL_speak_240 : decode cL_speak 240 = .ok (.iload 8, 2) := by decide +kernel
theorem dL_speak_242 : decode cL_speak 242 = .ok (.iadd, 1) := by decide +kernel
theorem dL_speak_243 : decode cL_speak 243 = .ok (.iload 10, 2) := by decide +kernel
theorem dL_speak_245 : decode cL_speak 245 = .ok (.iastore, 1) := by decide +kernel
theorem dL_speak_246 : decode cL_speak 246 = .ok (.aload 4, 2) := by decide +kernel
theorem dL_speak_248 : decode cL_speak 248 = .ok (.bipush 16, 2) := by decide +kernel
theorem dL_speak_250 : decode cL_speak 250 = .ok (.iload 8, 2) := by decide +kernel
theorem dL_speak_252 : decode cL_speak 252 = .ok (.imul, 1) := by decide +kernel
theorem dL_speak_253 : decode cL_speak 253 = .ok (.iload 7, 2) := by decide +kernel
theorem dL_speak_255 : decode cL_speak 255 = .ok (.iadd, 1) := by decide +kernel
theorem dL_speak_256 : decode cL_speak 256 = .ok (.iload 10, 2) := by decide +kernel
theorem dL_speak_258 : decode cL_speak 258 = .ok (.iastore, 1) := by decide +kernel
theorem dL_speak_259 : decode cL_speak 259 = .ok (.iinc 5 1, 3) := by decide +kernel
theorem dL_speak_262 : decode cL_speak 262 = .ok (.goto (-259), 3) := by decide +kernel
theorem dL_speak_265 : decode cL_speak 265 = .ok (.iconst 1, 1) := by decide +kernel
theorem dL_speak_266 : decode cL_speak 266 = .ok (.ireturn, 1) := by decide +kernel
set_option maxHeartbeats 4000000 in
set_option maxRecDepth 100000 in
theorem mL_speak_L3 {p : Program} {l : Launch} {e : Env} {R : Room} {s : State} {m : MethodId} {args : Array Value} {below : List Frame} {meth : Method} {c : Code} {Q : State → Prop} {D : va_G} {U : zz_U} {A : Nat → Prop} {ad : Nat → Nat} {b L : Nat} {xs : Nat → Int32} {r0 : Nat} {r1 : Nat} (C : zz_C p l R s m meth c D U A RL cL_speak 15 (some .boolean) [(185, 197, 200, 44)] 8) (hX : va_X b L xs s s.heap) (hbl : b < s.heap.size) (hbA : ¬ A b) (K N : Nat) (hK : K ≤ R.cells) (hN : N ≤ R.slots) (σ : zz_St) (u1 : (Nat → Int32)) (u2 : (Nat → Int32)) (from_ : Int32) (many_ : Int32) (k_ : Int32) (x_ : Int32) (a_ : Int32) (b_ : Int32) (what_ : Int32) (before_ : Int32) (p_ : Int32) : ∀ (n : Nat) (isPossible_ : Int32) (q_ : Int32) (q : (Int32 × Int32)) (cells slots : Nat), fL_speak_L3 u1 u2 many_ p_ n isPossible_ q_ = some q → cells + n * 0 ≤ K → slots + n * 0 ≤ N → (zz_Z p l e R s m args below meth c Q D A 15 K N (zz_wc U ad σ [(r0, .inl (U.1, 256, .inl u1)), (r1, .inl (U.1, 14, .inl u2))]) 176 [(0, .ref (ad 0)), (1, .ref b), (2, .int from_), (3, .int many_), (4, .ref r0), (5, .int k_), (6, .int x_), (7, .int a_), (8, .int b_), (9, .int what_), (10, .int before_), (11, .int q.1), (12, .ref r1), (13, .int p_), (14, .int q.2)] []) → zz_Z p l e R s m args below meth c Q D A 15 cells slots (zz_wc U ad σ [(r0, .inl (U.1, 256, .inl u1)), (r1, .inl (U.1, 14, .inl u2))]) 124 [(0, .ref (ad 0)), (1, .ref b), (2, .int from_), (3, .int many_), (4, .ref r0), (5, .int k_), (6, .int x_), (7, .int a_), (8, .int b_), (9, .int what_), (10, .int before_), (11, .int isPossible_), (12, .ref r1), (13, .int p_), (14, .int q_)] [] := by
  intro n
  induction n with
  | zero => intro isPossible_ q_ q cells slots hf; rw [fL_speak_L3] at hf; cases hf
  | succ n ih =>
    intro isPossible_ q_ q cells slots hf hc hs kx
    rw [fL_speak_L3] at hf
    rw [show (n + 1) * 0 = n * 0 + 0 from Nat.succ_mul n 0] at hc
    rw [show (n + 1) * 0 = n * 0 + 0 from Nat.succ_mul n 0] at hs
    generalize n * 0 = X1 at hc hs ih
    refine zz_iload C 14 dL_speak_124 rfl ?_
    refine zz_iload_n C 3 dL_speak_126 rfl rfl ?_
    refine zz_icmp_ge (tgt := 176) C dL_speak_127 (by decide) (fun g27 => ?_) (fun g27 => ?_)
    · rw [if_pos g27] at hf
      cases hf
      refine zz_widen (k := K) (n := N) (by omega) (by omega) ?_
      exact kx
    · rw [if_neg g27] at hf
      obtain ⟨b28, h29, hf⟩ := zz_bind hf
      refine zx_cut (cells + 0) (slots + 0) 168 [(0, .ref (ad 0)), (1, .ref b), (2, .int from_), (3, .int many_), (4, .ref r0), (5, .int k_), (6, .int x_), (7, .int a_), (8, .int b_), (9, .int what_), (10, .int before_), (11, .int isPossible_), (12, .ref r1), (13, .int p_), (14, .int q_)] [.int (zz_bi b28)] (zz_wc U ad σ [(r0, .inl (U.1, 256, .inl u1)), (r1, .inl (U.1, 14, .inl u2))]) ?_ (fun J30 => ?_)
      · obtain ⟨x40, h41, hf⟩ := zz_bind hf
        refine zz_topi (Option.some.inj h41) ?_
        refine zz_istore C dL_speak_168 (by decide) (lv' := [(11, .int x40), (0, .ref (ad 0)), (1, .ref b), (2, .int from_), (3, .int many_), (4, .ref r0), (5, .int k_), (6, .int x_), (7, .int a_), (8, .int b_), (9, .int what_), (10, .int before_), (12, .ref r1), (13, .int p_), (14, .int q_)]) rfl ?_
        refine zz_iinc (v := (q_ + (1 : Int32))) C 14 dL_speak_170 rfl (by rfl) (by decide) (lv' := [(14, .int (q_ + (1 : Int32))), (11, .int x40), (0, .ref (ad 0)), (1, .ref b), (2, .int from_), (3, .int many_), (4, .ref r0), (5, .int k_), (6, .int x_), (7, .int a_), (8, .int b_), (9, .int what_), (10, .int before_), (12, .ref r1), (13, .int p_)]) rfl ?_
        refine zz_goto (tgt := 124) C dL_speak_173 (by decide) ?_
        refine zz_sub [2, 3, 4, 5, 6, 7, 8, 9, 10, 11, 12, 1, 13, 14, 0] rfl ?_
        refine zz_widen (k := cells + 0) (n := slots + 0) (by omega) (by omega) ?_
        exact ih x40 (q_ + (1 : Int32)) _ (cells + 0) (slots + 0) hf (by omega) (by omega) kx
      refine zz_iload C 11 dL_speak_130 rfl ?_
      refine zz_if_eq (tgt := 167) C dL_speak_132 (by decide) (fun g31 => ?_) (fun g31 => ?_)
      · rw [if_pos g31] at h29
        refine zz_iconst (v := 0) C dL_speak_167 (by decide) ?_
        cases h29
        refine zz_widen (k := (cells + 0)) (n := (slots + 0)) (by omega) (by omega) ?_
        exact J30
      · rw [if_neg g31] at h29
        refine zz_aload C 4 dL_speak_135 rfl ?_
        refine zz_bipush (v := (16 : Int32)) C dL_speak_137 (by decide) ?_
        refine zz_iload C 13 dL_speak_139 rfl ?_
        refine zz_imul C dL_speak_141 ?_
        refine zz_iload C 14 dL_speak_142 rfl ?_
        refine zz_iadd C dL_speak_144 ?_
        obtain ⟨x32, h33, h29⟩ := zz_bind h29
        refine zx_ld 47 C dL_speak_145 rfl h33 ?_
        refine zz_iconst (v := (2 : Int32)) C dL_speak_146 (by decide) ?_
        refine zz_icmp_ne (tgt := 163) C dL_speak_147 (by decide) (fun g34 => ?_) (fun g34 => ?_)
        · rw [if_neg g34] at h29
          refine zz_iconst (v := 1) C dL_speak_163 (by decide) ?_
          refine zz_goto (tgt := 168) C dL_speak_164 (by decide) ?_
          cases h29
          refine zz_widen (k := (cells + 0)) (n := (slots + 0)) (by omega) (by omega) ?_
          exact J30
        · rw [if_pos g34] at h29
          refine zz_aload C 12 dL_speak_150 rfl ?_
          refine zz_iload C 13 dL_speak_152 rfl ?_
          obtain ⟨x35, h36, h29⟩ := zz_bind h29
          refine zx_ld 48 C dL_speak_154 rfl h36 ?_
          refine zz_aload C 12 dL_speak_155 rfl ?_
          refine zz_iload C 14 dL_speak_157 rfl ?_
          obtain ⟨x37, h38, h29⟩ := zz_bind h29
          refine zx_ld 48 C dL_speak_159 rfl h38 ?_
          refine zz_icmp_eq (tgt := 167) C dL_speak_160 (by decide) (fun g39 => ?_) (fun g39 => ?_)
          · rw [if_pos g39] at h29
            refine zz_iconst (v := 0) C dL_speak_167 (by decide) ?_
            cases h29
            refine zz_widen (k := (cells + 0)) (n := (slots + 0)) (by omega) (by omega) ?_
            exact J30
          · rw [if_neg g39] at h29
            refine zz_iconst (v := 1) C dL_speak_163 (by decide) ?_
            refine zz_goto (tgt := 168) C dL_speak_164 (by decide) ?_
            cases h29
            refine zz_widen (k := (cells + 0)) (n := (slots + 0)) (by omega) (by omega) ?_
            exact J30
set_option maxHeartbeats 4000000 in
set_option maxRecDepth 100000 in
theorem mL_speak_L2 {p : Program} {l : Launch} {e : Env} {R : Room} {s : State} {m : MethodId} {args : Array Value} {below : List Frame} {meth : Method} {c : Code} {Q : State → Prop} {D : va_G} {U : zz_U} {A : Nat → Prop} {ad : Nat → Nat} {b L : Nat} {xs : Nat → Int32} {r0 : Nat} {r1 : Nat} (C : zz_C p l R s m meth c D U A RL cL_speak 15 (some .boolean) [(185, 197, 200, 44)] 8) (hX : va_X b L xs s s.heap) (hbl : b < s.heap.size) (hbA : ¬ A b) (K N : Nat) (hK : K ≤ R.cells) (hN : N ≤ R.slots) (σ : zz_St) (u1 : (Nat → Int32)) (u2 : (Nat → Int32)) (from_ : Int32) (many_ : Int32) (k_ : Int32) (x_ : Int32) (a_ : Int32) (b_ : Int32) (what_ : Int32) (before_ : Int32) : ∀ (n : Nat) (isPossible_ : Int32) (p_ : Int32) (q : (Int32 × Int32)) (cells slots : Nat), fL_speak_L2 u1 u2 many_ n isPossible_ p_ = some q → cells + n * 0 ≤ K → slots + n * 0 ≤ N → (zz_Z p l e R s m args below meth c Q D A 15 K N (zz_wc U ad σ [(r0, .inl (U.1, 256, .inl u1)), (r1, .inl (U.1, 14, .inl u2))]) 182 [(0, .ref (ad 0)), (1, .ref b), (2, .int from_), (3, .int many_), (4, .ref r0), (5, .int k_), (6, .int x_), (7, .int a_), (8, .int b_), (9, .int what_), (10, .int before_), (11, .int q.1), (12, .ref r1), (13, .int q.2)] []) → zz_Z p l e R s m args below meth c Q D A 15 cells slots (zz_wc U ad σ [(r0, .inl (U.1, 256, .inl u1)), (r1, .inl (U.1, 14, .inl u2))]) 115 [(0, .ref (ad 0)), (1, .ref b), (2, .int from_), (3, .int many_), (4, .ref r0), (5, .int k_), (6, .int x_), (7, .int a_), (8, .int b_), (9, .int what_), (10, .int before_), (11, .int isPossible_), (12, .ref r1), (13, .int p_)] [] := by
  intro n
  induction n with
  | zero => intro isPossible_ p_ q cells slots hf; rw [fL_speak_L2] at hf; cases hf
  | succ n ih =>
    intro isPossible_ p_ q cells slots hf hc hs kx
    rw [fL_speak_L2] at hf
    rw [show (n + 1) * 0 = n * 0 + 0 from Nat.succ_mul n 0] at hc
    rw [show (n + 1) * 0 = n * 0 + 0 from Nat.succ_mul n 0] at hs
    generalize n * 0 = X1 at hc hs ih
    refine zz_iload C 13 dL_speak_115 rfl ?_
    refine zz_iload_n C 3 dL_speak_117 rfl rfl ?_
    refine zz_icmp_ge (tgt := 182) C dL_speak_118 (by decide) (fun g26 => ?_) (fun g26 => ?_)
    · rw [if_pos g26] at hf
      cases hf
      refine zz_widen (k := K) (n := N) (by omega) (by omega) ?_
      exact kx
    · rw [if_neg g26] at hf
      refine zz_iconst (v := (0 : Int32)) C dL_speak_121 (by decide) ?_
      refine zz_istore C dL_speak_122 (by decide) (lv' := [(14, .int (0 : Int32)), (0, .ref (ad 0)), (1, .ref b), (2, .int from_), (3, .int many_), (4, .ref r0), (5, .int k_), (6, .int x_), (7, .int a_), (8, .int b_), (9, .int what_), (10, .int before_), (11, .int isPossible_), (12, .ref r1), (13, .int p_)]) rfl ?_
      obtain ⟨q42, h43, hf⟩ := zz_bind hf
      refine zz_sub [1, 2, 3, 4, 5, 6, 7, 8, 9, 10, 11, 12, 13, 14, 0] rfl ?_
      refine mL_speak_L3 C hX hbl hbA (cells + 0) (slots + 0) (by omega) (by omega) σ u1 u2 from_ many_ k_ x_ a_ b_ what_ before_ p_ 14 isPossible_ (0 : Int32) q42 _ _ h43 (by omega) (by omega) ?_
      refine zz_iinc (v := (p_ + (1 : Int32))) C 13 dL_speak_176 rfl (by rfl) (by decide) (lv' := [(13, .int (p_ + (1 : Int32))), (0, .ref (ad 0)), (1, .ref b), (2, .int from_), (3, .int many_), (4, .ref r0), (5, .int k_), (6, .int x_), (7, .int a_), (8, .int b_), (9, .int what_), (10, .int before_), (11, .int q42.1), (12, .ref r1), (14, .int q42.2)]) rfl ?_
      refine zz_goto (tgt := 115) C dL_speak_179 (by decide) ?_
      refine zz_sub [1, 2, 3, 4, 5, 6, 7, 8, 9, 10, 11, 12, 13, 0] rfl ?_
      refine zz_widen (k := cells + 0) (n := slots + 0) (by omega) (by omega) ?_
      exact ih q42.1 (p_ + (1 : Int32)) _ (cells + 0) (slots + 0) hf (by omega) (by omega) kx
set_option maxHeartbeats 4000000 in
set_option maxRecDepth 100000 in
theorem mL_speak_L1 {p : Program} {l : Launch} {e : Env} {R : Room} {s : State} {m : MethodId} {args : Array Value} {below : List Frame} {meth : Method} {c : Code} {Q : State → Prop} {D : va_G} {U : zz_U} {A : Nat → Prop} {ad : Nat → Nat} {b L : Nat} {xs : Nat → Int32} {r0 : Nat} (C : zz_C p l R s m meth c D U A RL cL_speak 15 (some .boolean) [(185, 197, 200, 44)] 8) (hX : va_X b L xs s s.heap) (hbl : b < s.heap.size) (hbA : ¬ A b) (K N : Nat) (hK : K ≤ R.cells) (hN : N ≤ R.slots) (from_ : Int32) (many_ : Int32) : ∀ (n : Nat) (k_ : Int32) (σ : zz_St) (u1 : (Nat → Int32)) (q : ((Int32 × zz_St × (Nat → Int32)) ⊕ (Int32 × zz_St × (Nat → Int32)))) (cells slots : Nat), fL_speak_L1 xs L from_ many_ n k_ σ u1 = some q → cells + n * 5 ≤ K → slots + n * 38 ≤ N → (∀ (v : Int32) (m0 : zz_St) (m1 : (Nat → Int32)) (pc' : Nat), q = .inl (v, m0, m1) → decode cL_speak pc' = .ok (.ireturn, 1) → zz_Z p l e R s m args below meth c Q D A 15 K N (zz_wc U ad m0 [(r0, .inl (U.1, 256, .inl m1))]) pc' [] [.int v]) → (∀ w : Int32 × zz_St × (Nat → Int32), q = .inr w → zz_Z p l e R s m args below meth c Q D A 15 K N (zz_wc U ad w.2.1 [(r0, .inl (U.1, 256, .inl w.2.2))]) 265 [(0, .ref (ad 0)), (1, .ref b), (2, .int from_), (3, .int many_), (4, .ref r0), (5, .int w.1)] []) → zz_Z p l e R s m args below meth c Q D A 15 cells slots (zz_wc U ad σ [(r0, .inl (U.1, 256, .inl u1))]) 3 [(0, .ref (ad 0)), (1, .ref b), (2, .int from_), (3, .int many_), (4, .ref r0), (5, .int k_)] [] := by
  intro n
  induction n with
  | zero => intro k_ σ u1 q cells slots hf; rw [fL_speak_L1] at hf; cases hf
  | succ n ih =>
    intro k_ σ u1 q cells slots hf hc hs kr kx
    rw [fL_speak_L1] at hf
    rw [show (n + 1) * 5 = n * 5 + 5 from Nat.succ_mul n 5] at hc
    rw [show (n + 1) * 38 = n * 38 + 38 from Nat.succ_mul n 38] at hs
    generalize n * 5 = X1 at hc ih
    generalize n * 38 = X2 at hs ih
    obtain ⟨b1, h2, hf⟩ := zz_bind hf
    refine zx_cutI (P := b1 = true) (cells + 0) (slots + 0) 14 [(0, .ref (ad 0)), (1, .ref b), (2, .int from_), (3, .int many_), (4, .ref r0), (5, .int k_)] [] (zz_wc U ad σ [(r0, .inl (U.1, 256, .inl u1))]) (fun g5 => ?_) (fun J3 => ?_)
    · rw [if_pos g5] at hf
      refine zz_aload_n C 1 dL_speak_14 rfl rfl ?_
      refine zz_iload_n C 2 dL_speak_15 rfl rfl ?_
      refine zz_iload C 5 dL_speak_16 rfl ?_
      refine zz_iadd C dL_speak_18 ?_
      obtain ⟨x8, h9, hf⟩ := zz_bind hf
      refine zb_callS1 (As := [.ref b, .int (from_ + k_)]) (rest := []) C hX hbl hbA (mL_cell (from_ + k_) x8 h9) dL_speak_19 rfl zwl_2 zy_L_cell rfl (by decide) (by decide) (Nat.le_of_ble_eq_true rfl) (by omega) (by omega) rfl ?_
      refine zz_istore C dL_speak_22 (by decide) (lv' := [(6, .int x8), (0, .ref (ad 0)), (1, .ref b), (2, .int from_), (3, .int many_), (4, .ref r0), (5, .int k_)]) rfl ?_
      refine zz_iload C 0 dL_speak_24 rfl ?_
      refine zz_iload_n C 4 dL_speak_26 rfl rfl ?_
      obtain ⟨x10, h11, hf⟩ := zz_bind hf
      refine zz_callS1 (As := [.int x8, .int many_]) (rest := []) C (mL_below x8 many_ x10 h11) dL_speak_27 rfl zwl_3 zy_L_below rfl (by decide) (by decide) (Nat.le_of_ble_eq_true rfl) (by omega) (by omega) rfl ?_
      refine zz_istore C dL_speak_30 (by decide) (lv' := [(7, .int x10), (6, .int x8), (0, .ref (ad 0)), (1, .ref b), (2, .int from_), (3, .int many_), (4, .ref r0), (5, .int k_)]) rfl ?_
      refine zz_iload C 0 dL_speak_32 rfl ?_
      refine zz_iconst (v := (1 : Int32)) C dL_speak_34 (by decide) ?_
      refine zz_iadd C dL_speak_35 ?_
      refine zz_iload C 1 dL_speak_36 rfl ?_
      refine zz_iconst (v := (4 : Int32)) C dL_speak_38 (by decide) ?_
      refine zz_ishr C dL_speak_39 ?_
      refine zz_iload_n C 5 dL_speak_40 rfl rfl ?_
      refine zz_iconst (v := (1 : Int32)) C dL_speak_41 (by decide) ?_
      refine zz_isub C dL_speak_42 ?_
      obtain ⟨x12, h13, hf⟩ := zz_bind hf
      refine zz_callS1 (As := [.int (x8 >>> ((4 : Int32) &&& 31)), .int (many_ - (1 : Int32))]) (rest := [.int (x10 + (1 : Int32))]) C (mL_below (x8 >>> ((4 : Int32) &&& 31)) (many_ - (1 : Int32)) x12 h13) dL_speak_43 rfl zwl_3 zy_L_below rfl (by decide) (by decide) (Nat.le_of_ble_eq_true rfl) (by omega) (by omega) rfl ?_
      refine zz_iadd C dL_speak_46 ?_
      refine zz_iload_n C 5 dL_speak_47 rfl rfl ?_
      obtain ⟨x14, h15, hf⟩ := zz_bind hf
      refine zz_irem C dL_speak_48 (zx_rm_in h15).1 ?_
      refine zz_topi (zx_rm_in h15).2 ?_
      refine zz_istore C dL_speak_49 (by decide) (lv' := [(8, .int x14), (7, .int x10), (6, .int x8), (0, .ref (ad 0)), (1, .ref b), (2, .int from_), (3, .int many_), (4, .ref r0), (5, .int k_)]) rfl ?_
      refine zz_iload C 2 dL_speak_51 rfl ?_
      refine zz_bipush (v := (8 : Int32)) C dL_speak_53 (by decide) ?_
      refine zz_ishr C dL_speak_55 ?_
      refine zz_iconst (v := (3 : Int32)) C dL_speak_56 (by decide) ?_
      obtain ⟨x16, h17, hf⟩ := zz_bind hf
      refine zz_callS1 (As := [.int (x8 >>> ((8 : Int32) &&& 31)), .int (3 : Int32)]) (rest := []) C (mL_below (x8 >>> ((8 : Int32) &&& 31)) (3 : Int32) x16 h17) dL_speak_57 rfl zwl_3 zy_L_below rfl (by decide) (by decide) (Nat.le_of_ble_eq_true rfl) (by omega) (by omega) rfl ?_
      refine zz_istore C dL_speak_60 (by decide) (lv' := [(9, .int x16), (8, .int x14), (7, .int x10), (6, .int x8), (0, .ref (ad 0)), (1, .ref b), (2, .int from_), (3, .int many_), (4, .ref r0), (5, .int k_)]) rfl ?_
      refine zz_aload C 8 dL_speak_62 rfl ?_
      refine zz_bipush (v := (16 : Int32)) C dL_speak_64 (by decide) ?_
      refine zz_iload C 2 dL_speak_66 rfl ?_
      refine zz_imul C dL_speak_68 ?_
      refine zz_iload C 1 dL_speak_69 rfl ?_
      refine zz_iadd C dL_speak_71 ?_
      obtain ⟨x18, h19, hf⟩ := zz_bind hf
      refine zx_ld 47 C dL_speak_72 rfl h19 ?_
      refine zz_istore C dL_speak_73 (by decide) (lv' := [(10, .int x18), (9, .int x16), (8, .int x14), (7, .int x10), (6, .int x8), (0, .ref (ad 0)), (1, .ref b), (2, .int from_), (3, .int many_), (4, .ref r0), (5, .int k_)]) rfl ?_
      refine zz_aload C 9 dL_speak_75 rfl ?_
      refine zz_bipush (v := (16 : Int32)) C dL_speak_77 (by decide) ?_
      refine zz_iload C 3 dL_speak_79 rfl ?_
      refine zz_imul C dL_speak_81 ?_
      refine zz_iload C 2 dL_speak_82 rfl ?_
      refine zz_iadd C dL_speak_84 ?_
      refine zz_iload C 1 dL_speak_85 rfl ?_
      obtain ⟨y20, h21, hf⟩ := zz_bind hf
      refine zx_st 47 C dL_speak_87 rfl h21 (ws1 := (zz_wc U ad σ [(r0, .inl (U.1, 256, .inl y20))])) rfl ?_
      refine zz_aload C 9 dL_speak_88 rfl ?_
      refine zz_bipush (v := (16 : Int32)) C dL_speak_90 (by decide) ?_
      refine zz_iload C 2 dL_speak_92 rfl ?_
      refine zz_imul C dL_speak_94 ?_
      refine zz_iload C 3 dL_speak_95 rfl ?_
      refine zz_iadd C dL_speak_97 ?_
      refine zz_iload C 1 dL_speak_98 rfl ?_
      obtain ⟨y22, h23, hf⟩ := zz_bind hf
      refine zx_st 47 C dL_speak_100 rfl h23 (ws1 := (zz_wc U ad σ [(r0, .inl (U.1, 256, .inl y22))])) rfl ?_
      refine zz_iconst (v := (1 : Int32)) C dL_speak_101 (by decide) ?_
      refine zz_istore C dL_speak_102 (by decide) (lv' := [(11, .int (1 : Int32)), (10, .int x18), (9, .int x16), (8, .int x14), (7, .int x10), (6, .int x8), (0, .ref (ad 0)), (1, .ref b), (2, .int from_), (3, .int many_), (4, .ref r0), (5, .int k_)]) rfl ?_
      refine zz_iload_n C 9 dL_speak_104 rfl rfl ?_
      refine zz_aload C 10 dL_speak_105 rfl ?_
      obtain ⟨x24, h25, hf⟩ := zz_bind hf
      refine zz_callS (As := [.int many_, .ref r0]) (rest := []) C (mL_classes σ many_ y22 x24 h25) dL_speak_107 rfl zwl_9 zy_L_classes rfl (by decide) (by decide) (Nat.le_of_ble_eq_true rfl) (by omega) (by omega) (fun z65 w64 hz => ?_) (fun _ _ hz => False.elim hz)
      obtain ⟨r1, rfl, rfl⟩ := hz
      refine zz_ren (ws' := (zz_wc U ad σ [(r0, .inl (U.1, 256, .inl y22)), (r1, .inl (U.1, 14, .inl x24))])) rfl ?_
      refine zz_astore C dL_speak_110 (by decide) (lv' := [(12, .ref r1), (11, .int (1 : Int32)), (10, .int x18), (9, .int x16), (8, .int x14), (7, .int x10), (6, .int x8), (0, .ref (ad 0)), (1, .ref b), (2, .int from_), (3, .int many_), (4, .ref r0), (5, .int k_)]) rfl ?_
      refine zz_iconst (v := (0 : Int32)) C dL_speak_112 (by decide) ?_
      refine zz_istore C dL_speak_113 (by decide) (lv' := [(13, .int (0 : Int32)), (12, .ref r1), (11, .int (1 : Int32)), (10, .int x18), (9, .int x16), (8, .int x14), (7, .int x10), (6, .int x8), (0, .ref (ad 0)), (1, .ref b), (2, .int from_), (3, .int many_), (4, .ref r0), (5, .int k_)]) rfl ?_
      obtain ⟨q44, h45, hf⟩ := zz_bind hf
      refine zz_sub [8, 9, 10, 11, 12, 13, 7, 6, 5, 4, 3, 2, 1, 0] rfl ?_
      refine mL_speak_L2 C hX hbl hbA (cells + 1) (slots + 14) (by omega) (by omega) σ y22 x24 from_ many_ k_ x8 x10 x14 x16 x18 14 (1 : Int32) (0 : Int32) q44 _ _ h45 (by omega) (by omega) ?_
      refine zz_iconst (v := (-1 : Int32)) C dL_speak_182 (by decide) ?_
      refine zz_istore C dL_speak_183 (by decide) (lv' := [(13, .int (-1 : Int32)), (0, .ref (ad 0)), (1, .ref b), (2, .int from_), (3, .int many_), (4, .ref r0), (5, .int k_), (6, .int x8), (7, .int x10), (8, .int x14), (9, .int x16), (10, .int x18), (11, .int q44.1), (12, .ref r1)]) rfl ?_
      refine zz_aload_n C 1 dL_speak_185 rfl rfl ?_
      refine zz_iload C 8 dL_speak_186 rfl ?_
      refine zz_iload C 9 dL_speak_188 rfl ?_
      refine zz_iload C 10 dL_speak_190 rfl ?_
      obtain ⟨x50, h51, hf⟩ := zz_bind hf
      obtain ⟨⟨x46, σ47⟩, h48, h51⟩ := zz_bind h51
      refine zx_cut (cells + 5) (slots + 38) 206 [(13, .int x50.1), (0, .ref (ad 0)), (1, .ref b), (2, .int from_), (3, .int many_), (4, .ref r0), (5, .int k_), (6, .int x8), (7, .int x10), (8, .int x14), (9, .int x16), (10, .int x18), (11, .int q44.1), (12, .ref r1)] [] (zz_wc U ad x50.2 [(r0, .inl (U.1, 256, .inl y22)), (r1, .inl (U.1, 14, .inl x24))]) ?_ (fun J52 => ?_)
      · refine zz_iload C 0 dL_speak_206 rfl ?_
        obtain ⟨x54, h55, hf⟩ := zz_bind hf
        refine zx_cut (cells + 5) (slots + 38) 220 [(13, .int x50.1), (0, .ref (ad 0)), (1, .ref b), (2, .int from_), (3, .int many_), (4, .ref r0), (5, .int k_), (6, .int x8), (7, .int x10), (8, .int x14), (9, .int x16), (10, .int x18), (11, .int q44.1), (12, .ref r1)] [.int x54, .int x50.1] (zz_wc U ad x50.2 [(r0, .inl (U.1, 256, .inl y22)), (r1, .inl (U.1, 14, .inl x24))]) ?_ (fun J56 => ?_)
        · refine zz_icmp_eq (tgt := 225) C dL_speak_220 (by decide) (fun g58 => ?_) (fun g58 => ?_)
          · rw [if_pos g58] at hf
            refine zz_iload C 12 dL_speak_225 rfl ?_
            refine zz_if_eq (tgt := 233) C dL_speak_227 (by decide) (fun g59 => ?_) (fun g59 => ?_)
            · rw [if_pos g59] at hf
              refine zz_aload C 5 dL_speak_233 rfl ?_
              refine zz_bipush (v := (16 : Int32)) C dL_speak_235 (by decide) ?_
              refine zz_iload C 8 dL_speak_237 rfl ?_
              refine zz_imul C dL_speak_239 ?_
              refine zz_iload C 9 dL_speak_240 rfl ?_
              refine zz_iadd C dL_speak_242 ?_
              refine zz_iload C 11 dL_speak_243 rfl ?_
              obtain ⟨y60, h61, hf⟩ := zz_bind hf
              refine zx_st 47 C dL_speak_245 rfl h61 (ws1 := (zz_wc U ad x50.2 [(r0, .inl (U.1, 256, .inl y60)), (r1, .inl (U.1, 14, .inl x24))])) rfl ?_
              refine zz_aload C 5 dL_speak_246 rfl ?_
              refine zz_bipush (v := (16 : Int32)) C dL_speak_248 (by decide) ?_
              refine zz_iload C 9 dL_speak_250 rfl ?_
              refine zz_imul C dL_speak_252 ?_
              refine zz_iload C 8 dL_speak_253 rfl ?_
              refine zz_iadd C dL_speak_255 ?_
              refine zz_iload C 11 dL_speak_256 rfl ?_
              obtain ⟨y62, h63, hf⟩ := zz_bind hf
              refine zx_st 47 C dL_speak_258 rfl h63 (ws1 := (zz_wc U ad x50.2 [(r0, .inl (U.1, 256, .inl y62)), (r1, .inl (U.1, 14, .inl x24))])) rfl ?_
              refine zz_iinc (v := (k_ + (1 : Int32))) C 6 dL_speak_259 rfl (by rfl) (by decide) (lv' := [(5, .int (k_ + (1 : Int32))), (13, .int x50.1), (0, .ref (ad 0)), (1, .ref b), (2, .int from_), (3, .int many_), (4, .ref r0), (6, .int x8), (7, .int x10), (8, .int x14), (9, .int x16), (10, .int x18), (11, .int q44.1), (12, .ref r1)]) rfl ?_
              refine zz_goto (tgt := 3) C dL_speak_262 (by decide) ?_
              refine zz_sub [2, 3, 4, 5, 6, 0] rfl ?_
              refine zx_drop [(r0, .inl (U.1, 256, .inl y62))] (r1, .inl (U.1, 14, .inl x24)) ?_
              refine zz_widen (k := cells + 5) (n := slots + 38) (by omega) (by omega) ?_
              exact ih (k_ + (1 : Int32)) x50.2 y62 _ (cells + 5) (slots + 38) hf (by omega) (by omega) kr kx
            · rw [if_neg g59] at hf
              refine zz_goto (tgt := 259) C dL_speak_230 (by decide) ?_
              refine zz_iinc (v := (k_ + (1 : Int32))) C 6 dL_speak_259 rfl (by rfl) (by decide) (lv' := [(5, .int (k_ + (1 : Int32))), (13, .int x50.1), (0, .ref (ad 0)), (1, .ref b), (2, .int from_), (3, .int many_), (4, .ref r0), (6, .int x8), (7, .int x10), (8, .int x14), (9, .int x16), (10, .int x18), (11, .int q44.1), (12, .ref r1)]) rfl ?_
              refine zz_goto (tgt := 3) C dL_speak_262 (by decide) ?_
              refine zz_sub [2, 3, 4, 5, 6, 0] rfl ?_
              refine zx_drop [(r0, .inl (U.1, 256, .inl y22))] (r1, .inl (U.1, 14, .inl x24)) ?_
              refine zz_widen (k := cells + 5) (n := slots + 38) (by omega) (by omega) ?_
              exact ih (k_ + (1 : Int32)) x50.2 y22 _ (cells + 5) (slots + 38) hf (by omega) (by omega) kr kx
          · rw [if_neg g58] at hf
            refine zz_iconst (v := (0 : Int32)) C dL_speak_223 (by decide) ?_
            refine zz_sub [] rfl ?_
            cases hf
            refine zx_drop [(r0, .inl (U.1, 256, .inl y22))] (r1, .inl (U.1, 14, .inl x24)) ?_
            refine zz_widen (k := K) (n := N) (by omega) (by omega) ?_
            exact kr _ _ _ _ rfl dL_speak_224
        refine zz_iload C 12 dL_speak_208 rfl ?_
        refine zz_if_eq (tgt := 218) C dL_speak_210 (by decide) (fun g57 => ?_) (fun g57 => ?_)
        · rw [if_pos g57] at h55
          refine zz_bipush (v := (-3 : Int32)) C dL_speak_218 (by decide) ?_
          cases h55
          refine zz_widen (k := (cells + 5)) (n := (slots + 38)) (by omega) (by omega) ?_
          exact J56
        · rw [if_neg g57] at h55
          refine zz_iload C 11 dL_speak_213 rfl ?_
          refine zz_goto (tgt := 220) C dL_speak_215 (by decide) ?_
          cases h55
          refine zz_widen (k := (cells + 5)) (n := (slots + 38)) (by omega) (by omega) ?_
          exact J56
      rcases x46 with x46 | E49
      · try dsimp only at h51
        refine zz_callV1 (As := [.int x10, .int x14, .int x16]) (rest := []) C 0 (mX7_say_r σ x10 x14 x16 x46 σ47 h48) dL_speak_192 rfl rfl rfl zwl_10 zy_X7_say rfl (by decide) (by decide) (Nat.le_of_ble_eq_true rfl) (by omega) (by omega) rfl ?_
        refine zz_istore C dL_speak_195 (by decide) (lv' := [(13, .int x46), (0, .ref (ad 0)), (1, .ref b), (2, .int from_), (3, .int many_), (4, .ref r0), (5, .int k_), (6, .int x8), (7, .int x10), (8, .int x14), (9, .int x16), (10, .int x18), (11, .int q44.1), (12, .ref r1)]) rfl ?_
        refine zz_goto (tgt := 206) C dL_speak_197 (by decide) ?_
        cases h51
        refine zz_widen (k := (cells + 5)) (n := (slots + 38)) (by omega) (by omega) ?_
        exact J52
      · try dsimp only at h51
        by_cases g : E49 = "java/lang/IllegalStateException"
        · rw [if_pos g] at h51
          subst g
          cases h51
          refine zz_callVx (As := [.int x10, .int x14, .int x16]) (rest := []) C 0 (mX7_say_x σ x10 x14 x16 _ σ47 h48) dL_speak_192 rfl rfl rfl zwl_10 zy_X7_say rfl (by decide) (by decide) (Nat.le_of_ble_eq_true rfl) (by omega) (by omega) ?_
          refine zz_catch (lv0 := []) C (h := 200) [] ⟨185, 197, 200, 44⟩ [] rfl (fun z hz => nomatch hz) (by decide) (by decide) zwl_11 (by decide +kernel) rfl (fun qe => ?_)
          refine zz_astore C dL_speak_200 (by decide) (lv' := [(14, .ref qe), (13, .int (-1 : Int32)), (0, .ref (ad 0)), (1, .ref b), (2, .int from_), (3, .int many_), (4, .ref r0), (5, .int k_), (6, .int x8), (7, .int x10), (8, .int x14), (9, .int x16), (10, .int x18), (11, .int q44.1), (12, .ref r1)]) rfl ?_
          refine zz_bipush (v := (-3 : Int32)) C dL_speak_202 (by decide) ?_
          refine zz_istore C dL_speak_204 (by decide) (lv' := [(13, .int (-3 : Int32)), (14, .ref qe), (0, .ref (ad 0)), (1, .ref b), (2, .int from_), (3, .int many_), (4, .ref r0), (5, .int k_), (6, .int x8), (7, .int x10), (8, .int x14), (9, .int x16), (10, .int x18), (11, .int q44.1), (12, .ref r1)]) rfl ?_
          refine zz_sub [0, 2, 3, 4, 5, 6, 7, 8, 9, 10, 11, 12, 13, 14] rfl ?_
          refine zz_widen (k := (cells + 5)) (n := (slots + 38)) (by omega) (by omega) ?_
          exact J52
        · rw [if_neg g] at h51
          cases h51
    refine zx_cutI (P := b1 = false) (cells + 0) (slots + 0) 265 [(0, .ref (ad 0)), (1, .ref b), (2, .int from_), (3, .int many_), (4, .ref r0), (5, .int k_)] [] (zz_wc U ad σ [(r0, .inl (U.1, 256, .inl u1))]) (fun g5 => ?_) (fun J4 => ?_)
    · rw [if_neg (show ¬ b1 = true by rw [g5]; decide)] at hf
      cases hf
      refine zz_widen (k := K) (n := N) (by omega) (by omega) ?_
      exact kx _ rfl
    refine zz_iload C 5 dL_speak_3 rfl ?_
    refine zz_iconst (v := (4 : Int32)) C dL_speak_5 (by decide) ?_
    refine zz_icmp_ge (tgt := 265) C dL_speak_6 (by decide) (fun g6 => ?_) (fun g6 => ?_)
    · rw [if_pos g6] at h2
      cases h2
      refine zz_widen (k := (cells + 0)) (n := (slots + 0)) (by omega) (by omega) ?_
      exact J4 rfl
    · rw [if_neg g6] at h2
      refine zz_iload_n C 3 dL_speak_9 rfl rfl ?_
      refine zz_iconst (v := (1 : Int32)) C dL_speak_10 (by decide) ?_
      refine zz_icmp_le (tgt := 265) C dL_speak_11 (by decide) (fun g7 => ?_) (fun g7 => ?_)
      · rw [if_pos g7] at h2
        cases h2
        refine zz_widen (k := (cells + 0)) (n := (slots + 0)) (by omega) (by omega) ?_
        exact J4 rfl
      · rw [if_neg g7] at h2
        cases h2
        refine zz_widen (k := (cells + 0)) (n := (slots + 0)) (by omega) (by omega) ?_
        exact J3 rfl
set_option maxHeartbeats 4000000 in
set_option maxRecDepth 100000 in
theorem mL_speak {D : va_G} {U : zz_U} {ad : Nat → Nat} {r0 : Nat} {b L : Nat} {xs : Nat → Int32} (σ : zz_St) (u1 : (Nat → Int32)) (from_ : Int32) (many_ : Int32) (r : (Int32 × zz_St × (Nat → Int32))) (hf : fL_speak xs L σ u1 from_ many_ = some r) : zb_Met yL_speak (.codeWith yL_speak cL_speak 15 (some .boolean) [(185, 197, 200, 44)]) 8 70 532 D U b L xs [.ref (ad 0), .ref b, .int from_, .int many_, .ref r0] (zz_wc U ad σ [(r0, .inl (U.1, 256, .inl u1))]) (zz_ok (some (.int r.1)) (zz_wc U ad r.2.1 [(r0, .inl (U.1, 256, .inl r.2.2))])) zz_noth := by
  unfold fL_speak at hf
  refine zb_methodH RL rfl (by decide +kernel) (Nat.le_of_ble_eq_true rfl) ?_
  intro p l e s m args below meth c A _ C hX hbl hbA
  refine zz_lvs (lv1 := [(0, .ref (ad 0)), (1, .ref b), (2, .int from_), (3, .int many_), (4, .ref r0)]) rfl ?_
  refine zz_iconst (v := (0 : Int32)) C dL_speak_0 (by decide) ?_
  refine zz_istore C dL_speak_1 (by decide) (lv' := [(5, .int (0 : Int32)), (0, .ref (ad 0)), (1, .ref b), (2, .int from_), (3, .int many_), (4, .ref r0)]) rfl ?_
  obtain ⟨q66, h67, hf⟩ := zz_bind hf
  refine zz_sub [1, 2, 3, 4, 5, 0] rfl ?_
  refine mL_speak_L1 C hX hbl hbA 70 532 (Nat.le_of_ble_eq_true rfl) (Nat.le_of_ble_eq_true rfl) from_ many_ 14 (0 : Int32) σ u1 q66 _ _ h67 (Nat.le_of_ble_eq_true rfl) (Nat.le_of_ble_eq_true rfl) (fun v68 m73 m74 p72 e70 d71 => ?_) (fun w69 e70 => ?_)
  · subst e70
    obtain ⟨x77, h78, hf⟩ := zz_bind hf
    refine zz_topi (zz_bo_in h78).2 ?_
    cases hf
    exact zz_zret C d71 (by rw [← (zz_bo_in h78).2]; exact (zz_bo_in h78).1) (And.intro rfl rfl) (Nat.le_of_ble_eq_true rfl) (Nat.le_of_ble_eq_true rfl)
  · subst e70
    refine zz_iconst (v := (1 : Int32)) C dL_speak_265 (by decide) ?_
    obtain ⟨x75, h76, hf⟩ := zz_bind hf
    refine zz_topi (zz_bo_in h76).2 ?_
    cases hf
    exact zz_zret C dL_speak_266 (by rw [← (zz_bo_in h76).2]; exact (zz_bo_in h76).1) (And.intro rfl rfl) (Nat.le_of_ble_eq_true rfl) (Nat.le_of_ble_eq_true rfl)
