/-! the law's wrappers (by program) -/
section ZO
variable {p : Program} {l : Launch} {e : Env} {R : Room} {s : State} {m : MethodId} {args : Array Value} {below : List Frame} {meth : Method} {c : Code} {Q : State → Prop} {D : va_G} {U : zz_U} {A : Nat → Prop} {own : String} {cc : ByteArray} {nL d cells slots pc : Nat} {ret : Option FieldType} {hh : List (Nat × Nat × Nat × Nat)} {lv : List (Nat × Value)} {st : List Value} {ad : Nat → Nat} {σ τ : zz_St} {o : Nat → Int64}
theorem zz_lout (C : zz_C p l R s m meth c D U A own cc nL ret hh d) (hdg : decode cc pc = .ok (.laload, 1)) (k : zz_Z p l e R s m args below meth c Q D A nL cells slots (zz_wl U ad σ τ o) (pc + 1) lv (.long (o 0) :: st)) : zz_Z p l e R s m args below meth c Q D A nL cells slots (zz_wl U ad σ τ o) pc lv (.int 0 :: .ref (ad 62) :: st) := zz_lald C 62 hdg rfl zz_in01 k
theorem zz_sout (C : zz_C p l R s m meth c D U A own cc nL ret hh d) {v : Int64} (hdg : decode cc pc = .ok (.lastore, 1)) (k : zz_Z p l e R s m args below meth c Q D A nL cells slots (zz_wl U ad σ τ (vp_updL o 0 v)) (pc + 1) lv st) : zz_Z p l e R s m args below meth c Q D A nL cells slots (zz_wl U ad σ τ o) pc lv (.long v :: .int 0 :: .ref (ad 62) :: st) := zz_last C 62 hdg rfl zz_in01 zz_wl_out k
end ZO
theorem zwl_0 : zz_g (.methodLink RL 7 yX7_addPiece) := ⟨List.mem_of_getElem? (i := 454) (by decide +kernel), by decide +kernel⟩
theorem zwl_1 : zz_g (.classLink RL 13 "java/lang/IllegalArgumentException") := ⟨List.mem_of_getElem? (i := 452) (by decide +kernel), by decide +kernel⟩
theorem zwl_2 : zz_g (.classLink RL 15 "java/lang/IllegalStateException") := ⟨List.mem_of_getElem? (i := 453) (by decide +kernel), by decide +kernel⟩
theorem zwl_3 : zz_g (.methodLink RL 17 yX7_setNames) := ⟨List.mem_of_getElem? (i := 558) (by decide +kernel), by decide +kernel⟩
theorem zwl_4 : zz_g (.classLink RL 21 "java/lang/IndexOutOfBoundsException") := ⟨List.mem_of_getElem? (i := 557) (by decide +kernel), by decide +kernel⟩
theorem zwl_5 : zz_g (.methodLink RL 23 yX7_names) := ⟨List.mem_of_getElem? (i := 600) (by decide +kernel), by decide +kernel⟩
theorem zwl_6 : zz_g (.methodLink RL 27 yX7_setName) := ⟨List.mem_of_getElem? (i := 607) (by decide +kernel), by decide +kernel⟩
theorem zwl_7 : zz_g (.methodLink RL 31 yX7_dropPiece) := ⟨List.mem_of_getElem? (i := 621) (by decide +kernel), by decide +kernel⟩
theorem zwl_8 : zz_g (.methodLink RL 35 yX7_setWeight) := ⟨List.mem_of_getElem? (i := 642) (by decide +kernel), by decide +kernel⟩
theorem zwl_9 : zz_g (.methodLink RL 38 yX7_setSpan) := ⟨List.mem_of_getElem? (i := 654) (by decide +kernel), by decide +kernel⟩
theorem zwl_10 : zz_g (.methodLink RL 42 yX7_points) := ⟨List.mem_of_getElem? (i := 662) (by decide +kernel), by decide +kernel⟩
theorem zwl_11 : zz_g (.methodLink RL 45 yX7_affinity) := ⟨List.mem_of_getElem? (i := 674) (by decide +kernel), by decide +kernel⟩
theorem zwl_12 : zz_g (.methodLink RL 48 yX7_closest) := ⟨List.mem_of_getElem? (i := 682) (by decide +kernel), by decide +kernel⟩
theorem zwl_13 : zz_g (.methodLink RL 51 yX7_setThreshold) := ⟨List.mem_of_getElem? (i := 689) (by decide +kernel), by decide +kernel⟩
theorem zwl_14 : zz_g (.methodLink RL 54 yX7_setManner) := ⟨List.mem_of_getElem? (i := 697) (by decide +kernel), by decide +kernel⟩
theorem zwl_15 : zz_g (.methodLink RL 57 yX7_say) := ⟨List.mem_of_getElem? (i := 705) (by decide +kernel), by decide +kernel⟩
theorem zwl_16 : zz_g (.methodLink RL 60 yX7_group) := ⟨List.mem_of_getElem? (i := 727) (by decide +kernel), by decide +kernel⟩
theorem zwl_17 : zz_g (.methodLink RL 63 yX7_groupOf) := ⟨List.mem_of_getElem? (i := 739) (by decide +kernel), by decide +kernel⟩
theorem zwl_18 : zz_g (.methodLink RL 66 yX7_linkage) := ⟨List.mem_of_getElem? (i := 747) (by decide +kernel), by decide +kernel⟩
theorem zwl_19 : zz_g (.methodLink RL 69 yX7_needs) := ⟨List.mem_of_getElem? (i := 756) (by decide +kernel), by decide +kernel⟩
theorem zwl_20 : zz_g (.methodLink RL 73 yX7_parcel) := ⟨List.mem_of_getElem? (i := 764) (by decide +kernel), by decide +kernel⟩
theorem zwl_21 : zz_g (.methodLink RL 76 yX7_parcelOf) := ⟨List.mem_of_getElem? (i := 776) (by decide +kernel), by decide +kernel⟩
theorem zwl_22 : zz_g (.methodLink RL 79 yX7_lines) := ⟨List.mem_of_getElem? (i := 783) (by decide +kernel), by decide +kernel⟩
theorem zwl_23 : zz_g (.methodLink RL 82 yX7_broken) := ⟨List.mem_of_getElem? (i := 794) (by decide +kernel), by decide +kernel⟩
theorem zwl_24 : zz_g (.methodLink RL 85 yX7_leastBreakage) := ⟨List.mem_of_getElem? (i := 806) (by decide +kernel), by decide +kernel⟩
theorem zwl_25 : zz_g (.methodLink RL 88 yX7_best) := ⟨List.mem_of_getElem? (i := 839) (by decide +kernel), by decide +kernel⟩
theorem zwl_26 : zz_g (.methodLink RL 91 yX7_setPurpose) := ⟨List.mem_of_getElem? (i := 847) (by decide +kernel), by decide +kernel⟩
theorem zwl_27 : zz_g (.methodLink RL 104 yX8_thrown) := ⟨List.mem_of_getElem? (i := 923) (by decide +kernel), by decide +kernel⟩
theorem zwl_28 : zz_g (.methodLink RL 103 yX8_addPiece) := ⟨List.mem_of_getElem? (i := 927) (by decide +kernel), by decide +kernel⟩
theorem zwl_29 : zz_g (.methodLink RL 98 yL_addPiece) := ⟨List.mem_of_getElem? (i := 449) (by decide +kernel), by decide +kernel⟩
theorem zwl_30 : zz_g (.methodLink RL 110 yX8_setNames) := ⟨List.mem_of_getElem? (i := 938) (by decide +kernel), by decide +kernel⟩
theorem zwl_31 : zz_g (.methodLink RL 107 yL_setNames) := ⟨List.mem_of_getElem? (i := 554) (by decide +kernel), by decide +kernel⟩
theorem zwl_32 : zz_g (.methodLink RL 114 yX8_names) := ⟨List.mem_of_getElem? (i := 954) (by decide +kernel), by decide +kernel⟩
theorem zwl_33 : zz_g (.methodLink RL 111 yL_names) := ⟨List.mem_of_getElem? (i := 597) (by decide +kernel), by decide +kernel⟩
theorem zwl_34 : zz_g (.methodLink RL 118 yX8_setName) := ⟨List.mem_of_getElem? (i := 958) (by decide +kernel), by decide +kernel⟩
theorem zwl_35 : zz_g (.methodLink RL 115 yL_setName) := ⟨List.mem_of_getElem? (i := 604) (by decide +kernel), by decide +kernel⟩
theorem zwl_36 : zz_g (.methodLink RL 122 yX8_dropPiece) := ⟨List.mem_of_getElem? (i := 962) (by decide +kernel), by decide +kernel⟩
theorem zwl_37 : zz_g (.methodLink RL 119 yL_dropPiece) := ⟨List.mem_of_getElem? (i := 618) (by decide +kernel), by decide +kernel⟩
theorem zwl_38 : zz_g (.methodLink RL 126 yX8_pieceCount) := ⟨List.mem_of_getElem? (i := 966) (by decide +kernel), by decide +kernel⟩
theorem zwl_39 : zz_g (.methodLink RL 123 yX7_pieceCount) := ⟨List.mem_of_getElem? (i := 265) (by decide +kernel), by decide +kernel⟩
theorem zwl_40 : zz_g (.methodLink RL 129 yX8_setWeight) := ⟨List.mem_of_getElem? (i := 970) (by decide +kernel), by decide +kernel⟩
theorem zwl_41 : zz_g (.methodLink RL 127 yL_setWeight) := ⟨List.mem_of_getElem? (i := 639) (by decide +kernel), by decide +kernel⟩
theorem zwl_42 : zz_g (.methodLink RL 133 yX8_setSpan) := ⟨List.mem_of_getElem? (i := 974) (by decide +kernel), by decide +kernel⟩
theorem zwl_43 : zz_g (.methodLink RL 130 yL_setSpan) := ⟨List.mem_of_getElem? (i := 651) (by decide +kernel), by decide +kernel⟩
theorem zwl_44 : zz_g (.methodLink RL 136 yX8_points) := ⟨List.mem_of_getElem? (i := 978) (by decide +kernel), by decide +kernel⟩
theorem zwl_45 : zz_g (.methodLink RL 134 yL_points) := ⟨List.mem_of_getElem? (i := 659) (by decide +kernel), by decide +kernel⟩
theorem zwl_46 : zz_g (.methodLink RL 139 yX8_affinity) := ⟨List.mem_of_getElem? (i := 1000) (by decide +kernel), by decide +kernel⟩
theorem zwl_47 : zz_g (.methodLink RL 137 yL_affinity) := ⟨List.mem_of_getElem? (i := 671) (by decide +kernel), by decide +kernel⟩
theorem zwl_48 : zz_g (.methodLink RL 142 yX8_closest) := ⟨List.mem_of_getElem? (i := 1008) (by decide +kernel), by decide +kernel⟩
theorem zwl_49 : zz_g (.methodLink RL 140 yL_closest) := ⟨List.mem_of_getElem? (i := 679) (by decide +kernel), by decide +kernel⟩
theorem zwl_50 : zz_g (.methodLink RL 145 yX8_setThreshold) := ⟨List.mem_of_getElem? (i := 1012) (by decide +kernel), by decide +kernel⟩
theorem zwl_51 : zz_g (.methodLink RL 143 yL_setThreshold) := ⟨List.mem_of_getElem? (i := 686) (by decide +kernel), by decide +kernel⟩
theorem zwl_52 : zz_g (.methodLink RL 148 yX8_setManner) := ⟨List.mem_of_getElem? (i := 1016) (by decide +kernel), by decide +kernel⟩
theorem zwl_53 : zz_g (.methodLink RL 146 yL_setManner) := ⟨List.mem_of_getElem? (i := 694) (by decide +kernel), by decide +kernel⟩
theorem zwl_54 : zz_g (.methodLink RL 151 yX8_say) := ⟨List.mem_of_getElem? (i := 1020) (by decide +kernel), by decide +kernel⟩
theorem zwl_55 : zz_g (.methodLink RL 149 yL_say) := ⟨List.mem_of_getElem? (i := 702) (by decide +kernel), by decide +kernel⟩
theorem zwl_56 : zz_g (.methodLink RL 155 yX8_groupCount) := ⟨List.mem_of_getElem? (i := 1042) (by decide +kernel), by decide +kernel⟩
theorem zwl_57 : zz_g (.methodLink RL 152 yX7_groupCount) := ⟨List.mem_of_getElem? (i := 269) (by decide +kernel), by decide +kernel⟩
theorem zwl_58 : zz_g (.methodLink RL 158 yX8_group) := ⟨List.mem_of_getElem? (i := 1062) (by decide +kernel), by decide +kernel⟩
theorem zwl_59 : zz_g (.methodLink RL 156 yL_group) := ⟨List.mem_of_getElem? (i := 724) (by decide +kernel), by decide +kernel⟩
theorem zwl_60 : zz_g (.methodLink RL 161 yX8_groupOf) := ⟨List.mem_of_getElem? (i := 1074) (by decide +kernel), by decide +kernel⟩
theorem zwl_61 : zz_g (.methodLink RL 159 yL_groupOf) := ⟨List.mem_of_getElem? (i := 736) (by decide +kernel), by decide +kernel⟩
theorem zwl_62 : zz_g (.methodLink RL 164 yX8_linkage) := ⟨List.mem_of_getElem? (i := 1082) (by decide +kernel), by decide +kernel⟩
theorem zwl_63 : zz_g (.methodLink RL 162 yL_linkage) := ⟨List.mem_of_getElem? (i := 744) (by decide +kernel), by decide +kernel⟩
theorem zwl_64 : zz_g (.methodLink RL 168 yX8_lastLinkage) := ⟨List.mem_of_getElem? (i := 1086) (by decide +kernel), by decide +kernel⟩
theorem zwl_65 : zz_g (.methodLink RL 165 yX7_lastLinkage) := ⟨List.mem_of_getElem? (i := 389) (by decide +kernel), by decide +kernel⟩
theorem zwl_66 : zz_g (.methodLink RL 171 yX8_needs) := ⟨List.mem_of_getElem? (i := 1090) (by decide +kernel), by decide +kernel⟩
theorem zwl_67 : zz_g (.methodLink RL 169 yL_needs) := ⟨List.mem_of_getElem? (i := 753) (by decide +kernel), by decide +kernel⟩
theorem zwl_68 : zz_g (.methodLink RL 175 yX8_parcelCount) := ⟨List.mem_of_getElem? (i := 1102) (by decide +kernel), by decide +kernel⟩
theorem zwl_69 : zz_g (.methodLink RL 172 yX7_parcelCount) := ⟨List.mem_of_getElem? (i := 393) (by decide +kernel), by decide +kernel⟩
theorem zwl_70 : zz_g (.methodLink RL 178 yX8_parcel) := ⟨List.mem_of_getElem? (i := 1113) (by decide +kernel), by decide +kernel⟩
theorem zwl_71 : zz_g (.methodLink RL 176 yL_parcel) := ⟨List.mem_of_getElem? (i := 761) (by decide +kernel), by decide +kernel⟩
theorem zwl_72 : zz_g (.methodLink RL 181 yX8_parcelOf) := ⟨List.mem_of_getElem? (i := 1121) (by decide +kernel), by decide +kernel⟩
theorem zwl_73 : zz_g (.methodLink RL 179 yL_parcelOf) := ⟨List.mem_of_getElem? (i := 773) (by decide +kernel), by decide +kernel⟩
theorem zwl_74 : zz_g (.methodLink RL 185 yX8_knots) := ⟨List.mem_of_getElem? (i := 1125) (by decide +kernel), by decide +kernel⟩
theorem zwl_75 : zz_g (.methodLink RL 182 yX7_knots) := ⟨List.mem_of_getElem? (i := 397) (by decide +kernel), by decide +kernel⟩
theorem zwl_76 : zz_g (.methodLink RL 188 yX8_lines) := ⟨List.mem_of_getElem? (i := 1129) (by decide +kernel), by decide +kernel⟩
theorem zwl_77 : zz_g (.methodLink RL 186 yL_lines) := ⟨List.mem_of_getElem? (i := 780) (by decide +kernel), by decide +kernel⟩
theorem zwl_78 : zz_g (.methodLink RL 191 yX8_broken) := ⟨List.mem_of_getElem? (i := 1133) (by decide +kernel), by decide +kernel⟩
theorem zwl_79 : zz_g (.methodLink RL 189 yL_broken) := ⟨List.mem_of_getElem? (i := 791) (by decide +kernel), by decide +kernel⟩
theorem zwl_80 : zz_g (.methodLink RL 195 yX8_breakage) := ⟨List.mem_of_getElem? (i := 1145) (by decide +kernel), by decide +kernel⟩
theorem zwl_81 : zz_g (.methodLink RL 192 yX7_breakage) := ⟨List.mem_of_getElem? (i := 401) (by decide +kernel), by decide +kernel⟩
theorem zwl_82 : zz_g (.methodLink RL 198 yX8_leastBreakage) := ⟨List.mem_of_getElem? (i := 1157) (by decide +kernel), by decide +kernel⟩
theorem zwl_83 : zz_g (.methodLink RL 196 yL_leastBreakage) := ⟨List.mem_of_getElem? (i := 803) (by decide +kernel), by decide +kernel⟩
theorem zwl_84 : zz_g (.methodLink RL 201 yX8_best) := ⟨List.mem_of_getElem? (i := 1166) (by decide +kernel), by decide +kernel⟩
theorem zwl_85 : zz_g (.methodLink RL 199 yL_best) := ⟨List.mem_of_getElem? (i := 836) (by decide +kernel), by decide +kernel⟩
theorem zwl_86 : zz_g (.methodLink RL 204 yX8_setPurpose) := ⟨List.mem_of_getElem? (i := 1170) (by decide +kernel), by decide +kernel⟩
theorem zwl_87 : zz_g (.methodLink RL 202 yL_setPurpose) := ⟨List.mem_of_getElem? (i := 844) (by decide +kernel), by decide +kernel⟩
theorem zwl_88 : zz_g (.methodLink RL 209 yX8_agreement) := ⟨List.mem_of_getElem? (i := 1174) (by decide +kernel), by decide +kernel⟩
theorem zwl_89 : zz_g (.methodLink RL 205 yX7_agreement) := ⟨List.mem_of_getElem? (i := 415) (by decide +kernel), by decide +kernel⟩
theorem zwl_90 : zz_g (.methodLink RL 214 yX8_digest) := ⟨List.mem_of_getElem? (i := 1178) (by decide +kernel), by decide +kernel⟩
theorem zwl_91 : zz_g (.methodLink RL 210 yX7_digest) := ⟨List.mem_of_getElem? (i := 427) (by decide +kernel), by decide +kernel⟩
theorem zy_L_addPiece : zz_YS yL_addPiece (.codeWith yL_addPiece cL_addPiece 7 (some .int) [(0, 14, 17, 13), (0, 14, 21, 15)]) 6 := ⟨⟨List.mem_of_getElem? (i := 450) (by decide +kernel), by decide +kernel⟩, ⟨List.mem_of_getElem? (i := 451) (by decide +kernel), by decide +kernel⟩, ⟨List.mem_of_getElem? (i := 49) (by decide +kernel), by decide +kernel⟩, by decide +kernel, by decide +kernel, by decide +kernel⟩
def fL_addPiece (σ : zz_St) (o : Nat → Int64) (p0_ : Int32) (p1_ : Int32) (p2_ : Int32) (p3_ : Int32) : Option (Int32 × zz_St × (Nat → Int64)) :=
  (fX7_addPiece σ p0_ p1_ p2_ p3_).bind fun x =>
  match x with
  | (.inl v, σ1) => some ((0 : Int32), σ1, vp_updL o 0 v.toInt64)
  | (.inr E, σ1) => if E = "java/lang/IllegalArgumentException" then some ((1 : Int32), σ1, o) else if E = "java/lang/IllegalStateException" then some ((2 : Int32), σ1, o) else none
theorem dL_addPiece_0 : decode cL_addPiece 0 = .ok (.aload 5, 2) := by decide +kernel
theorem dL_addPiece_2 : decode cL_addPiece 2 = .ok (.iconst 0, 1) := by decide +kernel
theorem dL_addPiece_3 : decode cL_addPiece 3 = .ok (.aload_n 0, 1) := by decide +kernel
theorem dL_addPiece_4 : decode cL_addPiece 4 = .ok (.iload_n 1, 1) := by decide +kernel
theorem dL_addPiece_5 : decode cL_addPiece 5 = .ok (.iload_n 2, 1) := by decide +kernel
theorem dL_addPiece_6 : decode cL_addPiece 6 = .ok (.iload_n 3, 1) := by decide +kernel
theorem dL_addPiece_7 : decode cL_addPiece 7 = .ok (.iload 4, 2) := by decide +kernel
theorem dL_addPiece_9 : decode cL_addPiece 9 = .ok (.invokevirtual 7, 3) := by decide +kernel
theorem dL_addPiece_12 : decode cL_addPiece 12 = .ok (.i2l, 1) := by decide +kernel
theorem dL_addPiece_13 : decode cL_addPiece 13 = .ok (.lastore, 1) := by decide +kernel
theorem dL_addPiece_14 : decode cL_addPiece 14 = .ok (.goto 11, 3) := by decide +kernel
theorem dL_addPiece_17 : decode cL_addPiece 17 = .ok (.astore 6, 2) := by decide +kernel
theorem dL_addPiece_19 : decode cL_addPiece 19 = .ok (.iconst 1, 1) := by decide +kernel
theorem dL_addPiece_20 : decode cL_addPiece 20 = .ok (.ireturn, 1) := by decide +kernel
theorem dL_addPiece_21 : decode cL_addPiece 21 = .ok (.astore 6, 2) := by decide +kernel
theorem dL_addPiece_23 : decode cL_addPiece 23 = .ok (.iconst 2, 1) := by decide +kernel
theorem dL_addPiece_24 : decode cL_addPiece 24 = .ok (.ireturn, 1) := by decide +kernel
theorem dL_addPiece_25 : decode cL_addPiece 25 = .ok (.iconst 0, 1) := by decide +kernel
theorem dL_addPiece_26 : decode cL_addPiece 26 = .ok (.ireturn, 1) := by decide +kernel
set_option maxHeartbeats 4000000 in
set_option maxRecDepth 100000 in
theorem mL_addPiece {D : va_G} {U : zz_U} {ad : Nat → Nat} (σ τ : zz_St) (o : Nat → Int64) (p0_ : Int32) (p1_ : Int32) (p2_ : Int32) (p3_ : Int32) (r : (Int32 × zz_St × (Nat → Int64))) (hf : fL_addPiece σ o p0_ p1_ p2_ p3_ = some r) : zz_Met yL_addPiece (.codeWith yL_addPiece cL_addPiece 7 (some .int) [(0, 14, 17, 13), (0, 14, 21, 15)]) 7 1 6 D U [.ref (ad 0), .int p0_, .int p1_, .int p2_, .int p3_, .ref (ad 62)] (zz_wl U ad σ τ o) (zz_ok (some (.int r.1)) (zz_wl U ad r.2.1 τ r.2.2)) zz_noth := by
  unfold fL_addPiece at hf
  refine zz_methodH RL rfl (by decide +kernel) (Nat.le_of_ble_eq_true rfl) ?_
  intro p l e s m args below meth c A _ C
  refine zz_lvs (lv1 := [(0, .ref (ad 0)), (1, .int p0_), (2, .int p1_), (3, .int p2_), (4, .int p3_), (5, .ref (ad 62))]) rfl ?_
  refine zz_aload C 5 dL_addPiece_0 rfl ?_
  refine zz_iconst (v := (0 : Int32)) C dL_addPiece_2 (by decide) ?_
  refine zz_aload_n C 0 dL_addPiece_3 rfl rfl ?_
  refine zz_iload_n C 1 dL_addPiece_4 rfl rfl ?_
  refine zz_iload_n C 2 dL_addPiece_5 rfl rfl ?_
  refine zz_iload_n C 3 dL_addPiece_6 rfl rfl ?_
  refine zz_iload C 4 dL_addPiece_7 rfl ?_
  refine zz_ren (ws' := (zz_wc U ad σ (zz_cm U ad τ ++ [zz_oc U ad o]))) rfl ?_
  obtain ⟨⟨x, σ1⟩, h, hf⟩ := zz_bind hf
  rcases x with v | E
  · try dsimp only at hf
    refine zz_callV1 (As := [.int p0_, .int p1_, .int p2_, .int p3_]) (rest := [.int (0 : Int32), .ref (ad 62)]) C 0 (mX7_addPiece_r σ p0_ p1_ p2_ p3_ v σ1 h) dL_addPiece_9 rfl rfl rfl zwl_0 zy_X7_addPiece rfl (by decide) (by decide) (Nat.le_of_ble_eq_true rfl) (Nat.le_of_ble_eq_true rfl) (Nat.le_of_ble_eq_true rfl) rfl ?_
    refine zz_ren (ws' := zz_wl U ad σ1 τ o) rfl ?_
    refine zz_i2l C dL_addPiece_12 ?_
    refine zz_sout C dL_addPiece_13 ?_
    cases hf
    refine zz_goto (tgt := 25) C dL_addPiece_14 (by decide) ?_
    refine zz_iconst (v := (0 : Int32)) C dL_addPiece_25 (by decide) ?_
    exact zz_iret C dL_addPiece_26 (And.intro rfl rfl) (Nat.le_of_ble_eq_true rfl) (Nat.le_of_ble_eq_true rfl)
  · try dsimp only at hf
    by_cases g : E = "java/lang/IllegalArgumentException"
    · rw [if_pos g] at hf
      subst g
      cases hf
      refine zz_callVx (As := [.int p0_, .int p1_, .int p2_, .int p3_]) (rest := [.int (0 : Int32), .ref (ad 62)]) C 0 (mX7_addPiece_x σ p0_ p1_ p2_ p3_ _ σ1 h) dL_addPiece_9 rfl rfl rfl zwl_0 zy_X7_addPiece rfl (by decide) (by decide) (Nat.le_of_ble_eq_true rfl) (Nat.le_of_ble_eq_true rfl) (Nat.le_of_ble_eq_true rfl) ?_
      refine zz_catch (lv0 := []) C (h := 17) [] ⟨0, 14, 17, 13⟩ [⟨0, 14, 21, 15⟩] rfl (fun z hz => nomatch hz) (by decide) (by decide) zwl_1 (by decide +kernel) rfl (fun q => ?_)
      refine zz_ren (ws' := zz_wl U ad σ1 τ o) rfl ?_
      refine zz_astore C dL_addPiece_17 (by decide) (lv' := [(6, .ref q), (0, .ref (ad 0)), (1, .int p0_), (2, .int p1_), (3, .int p2_), (4, .int p3_), (5, .ref (ad 62))]) rfl ?_
      refine zz_iconst (v := (1 : Int32)) C dL_addPiece_19 (by decide) ?_
      exact zz_iret C dL_addPiece_20 (And.intro rfl rfl) (Nat.le_of_ble_eq_true rfl) (Nat.le_of_ble_eq_true rfl)
    · rw [if_neg g] at hf
      by_cases g : E = "java/lang/IllegalStateException"
      · rw [if_pos g] at hf
        subst g
        cases hf
        refine zz_callVx (As := [.int p0_, .int p1_, .int p2_, .int p3_]) (rest := [.int (0 : Int32), .ref (ad 62)]) C 0 (mX7_addPiece_x σ p0_ p1_ p2_ p3_ _ σ1 h) dL_addPiece_9 rfl rfl rfl zwl_0 zy_X7_addPiece rfl (by decide) (by decide) (Nat.le_of_ble_eq_true rfl) (Nat.le_of_ble_eq_true rfl) (Nat.le_of_ble_eq_true rfl) ?_
        refine zz_catch (lv0 := []) C (h := 21) [⟨0, 14, 17, 13⟩] ⟨0, 14, 21, 15⟩ [] rfl (fun z hz => by rw [List.mem_singleton] at hz; subst hz; exact Or.inr ⟨by decide, _, zwl_1, by decide +kernel⟩) (by decide) (by decide) zwl_2 (by decide +kernel) rfl (fun q => ?_)
        refine zz_ren (ws' := zz_wl U ad σ1 τ o) rfl ?_
        refine zz_astore C dL_addPiece_21 (by decide) (lv' := [(6, .ref q), (0, .ref (ad 0)), (1, .int p0_), (2, .int p1_), (3, .int p2_), (4, .int p3_), (5, .ref (ad 62))]) rfl ?_
        refine zz_iconst (v := (2 : Int32)) C dL_addPiece_23 (by decide) ?_
        exact zz_iret C dL_addPiece_24 (And.intro rfl rfl) (Nat.le_of_ble_eq_true rfl) (Nat.le_of_ble_eq_true rfl)
      · rw [if_neg g] at hf
        cases hf
theorem zy_L_setNames : zz_YS yL_setNames (.codeWith yL_setNames cL_setNames 6 (some .int) [(0, 12, 15, 21), (0, 12, 19, 13)]) 5 := ⟨⟨List.mem_of_getElem? (i := 555) (by decide +kernel), by decide +kernel⟩, ⟨List.mem_of_getElem? (i := 556) (by decide +kernel), by decide +kernel⟩, ⟨List.mem_of_getElem? (i := 49) (by decide +kernel), by decide +kernel⟩, by decide +kernel, by decide +kernel, by decide +kernel⟩
def fL_setNames (σ : zz_St) (o : Nat → Int64) (p0_ : Int32) (p1_ : Int32) (p2_ : Int32) : Option (Int32 × zz_St × (Nat → Int64)) :=
  (fX7_setNames σ p0_ p1_ p2_).bind fun x =>
  match x with
  | (.inl v, σ1) => some ((0 : Int32), σ1, vp_updL o 0 v.toInt64)
  | (.inr E, σ1) => if E = "java/lang/IndexOutOfBoundsException" then some ((1 : Int32), σ1, o) else if E = "java/lang/IllegalArgumentException" then some ((2 : Int32), σ1, o) else none
theorem dL_setNames_0 : decode cL_setNames 0 = .ok (.aload 4, 2) := by decide +kernel
theorem dL_setNames_2 : decode cL_setNames 2 = .ok (.iconst 0, 1) := by decide +kernel
theorem dL_setNames_3 : decode cL_setNames 3 = .ok (.aload_n 0, 1) := by decide +kernel
theorem dL_setNames_4 : decode cL_setNames 4 = .ok (.iload_n 1, 1) := by decide +kernel
theorem dL_setNames_5 : decode cL_setNames 5 = .ok (.iload_n 2, 1) := by decide +kernel
theorem dL_setNames_6 : decode cL_setNames 6 = .ok (.iload_n 3, 1) := by decide +kernel
theorem dL_setNames_7 : decode cL_setNames 7 = .ok (.invokevirtual 17, 3) := by decide +kernel
theorem dL_setNames_10 : decode cL_setNames 10 = .ok (.i2l, 1) := by decide +kernel
theorem dL_setNames_11 : decode cL_setNames 11 = .ok (.lastore, 1) := by decide +kernel
theorem dL_setNames_12 : decode cL_setNames 12 = .ok (.goto 11, 3) := by decide +kernel
theorem dL_setNames_15 : decode cL_setNames 15 = .ok (.astore 5, 2) := by decide +kernel
theorem dL_setNames_17 : decode cL_setNames 17 = .ok (.iconst 1, 1) := by decide +kernel
theorem dL_setNames_18 : decode cL_setNames 18 = .ok (.ireturn, 1) := by decide +kernel
theorem dL_setNames_19 : decode cL_setNames 19 = .ok (.astore 5, 2) := by decide +kernel
theorem dL_setNames_21 : decode cL_setNames 21 = .ok (.iconst 2, 1) := by decide +kernel
theorem dL_setNames_22 : decode cL_setNames 22 = .ok (.ireturn, 1) := by decide +kernel
theorem dL_setNames_23 : decode cL_setNames 23 = .ok (.iconst 0, 1) := by decide +kernel
theorem dL_setNames_24 : decode cL_setNames 24 = .ok (.ireturn, 1) := by decide +kernel
set_option maxHeartbeats 4000000 in
set_option maxRecDepth 100000 in
theorem mL_setNames {D : va_G} {U : zz_U} {ad : Nat → Nat} (σ τ : zz_St) (o : Nat → Int64) (p0_ : Int32) (p1_ : Int32) (p2_ : Int32) (r : (Int32 × zz_St × (Nat → Int64))) (hf : fL_setNames σ o p0_ p1_ p2_ = some r) : zz_Met yL_setNames (.codeWith yL_setNames cL_setNames 6 (some .int) [(0, 12, 15, 21), (0, 12, 19, 13)]) 9 3 18 D U [.ref (ad 0), .int p0_, .int p1_, .int p2_, .ref (ad 62)] (zz_wl U ad σ τ o) (zz_ok (some (.int r.1)) (zz_wl U ad r.2.1 τ r.2.2)) zz_noth := by
  unfold fL_setNames at hf
  refine zz_methodH RL rfl (by decide +kernel) (Nat.le_of_ble_eq_true rfl) ?_
  intro p l e s m args below meth c A _ C
  refine zz_lvs (lv1 := [(0, .ref (ad 0)), (1, .int p0_), (2, .int p1_), (3, .int p2_), (4, .ref (ad 62))]) rfl ?_
  refine zz_aload C 4 dL_setNames_0 rfl ?_
  refine zz_iconst (v := (0 : Int32)) C dL_setNames_2 (by decide) ?_
  refine zz_aload_n C 0 dL_setNames_3 rfl rfl ?_
  refine zz_iload_n C 1 dL_setNames_4 rfl rfl ?_
  refine zz_iload_n C 2 dL_setNames_5 rfl rfl ?_
  refine zz_iload_n C 3 dL_setNames_6 rfl rfl ?_
  refine zz_ren (ws' := (zz_wc U ad σ (zz_cm U ad τ ++ [zz_oc U ad o]))) rfl ?_
  obtain ⟨⟨x, σ1⟩, h, hf⟩ := zz_bind hf
  rcases x with v | E
  · try dsimp only at hf
    refine zz_callV1 (As := [.int p0_, .int p1_, .int p2_]) (rest := [.int (0 : Int32), .ref (ad 62)]) C 0 (mX7_setNames_r σ p0_ p1_ p2_ v σ1 h) dL_setNames_7 rfl rfl rfl zwl_3 zy_X7_setNames rfl (by decide) (by decide) (Nat.le_of_ble_eq_true rfl) (Nat.le_of_ble_eq_true rfl) (Nat.le_of_ble_eq_true rfl) rfl ?_
    refine zz_ren (ws' := zz_wl U ad σ1 τ o) rfl ?_
    refine zz_i2l C dL_setNames_10 ?_
    refine zz_sout C dL_setNames_11 ?_
    cases hf
    refine zz_goto (tgt := 23) C dL_setNames_12 (by decide) ?_
    refine zz_iconst (v := (0 : Int32)) C dL_setNames_23 (by decide) ?_
    exact zz_iret C dL_setNames_24 (And.intro rfl rfl) (Nat.le_of_ble_eq_true rfl) (Nat.le_of_ble_eq_true rfl)
  · try dsimp only at hf
    by_cases g : E = "java/lang/IndexOutOfBoundsException"
    · rw [if_pos g] at hf
      subst g
      cases hf
      refine zz_callVx (As := [.int p0_, .int p1_, .int p2_]) (rest := [.int (0 : Int32), .ref (ad 62)]) C 0 (mX7_setNames_x σ p0_ p1_ p2_ _ σ1 h) dL_setNames_7 rfl rfl rfl zwl_3 zy_X7_setNames rfl (by decide) (by decide) (Nat.le_of_ble_eq_true rfl) (Nat.le_of_ble_eq_true rfl) (Nat.le_of_ble_eq_true rfl) ?_
      refine zz_catch (lv0 := []) C (h := 15) [] ⟨0, 12, 15, 21⟩ [⟨0, 12, 19, 13⟩] rfl (fun z hz => nomatch hz) (by decide) (by decide) zwl_4 (by decide +kernel) rfl (fun q => ?_)
      refine zz_ren (ws' := zz_wl U ad σ1 τ o) rfl ?_
      refine zz_astore C dL_setNames_15 (by decide) (lv' := [(5, .ref q), (0, .ref (ad 0)), (1, .int p0_), (2, .int p1_), (3, .int p2_), (4, .ref (ad 62))]) rfl ?_
      refine zz_iconst (v := (1 : Int32)) C dL_setNames_17 (by decide) ?_
      exact zz_iret C dL_setNames_18 (And.intro rfl rfl) (Nat.le_of_ble_eq_true rfl) (Nat.le_of_ble_eq_true rfl)
    · rw [if_neg g] at hf
      by_cases g : E = "java/lang/IllegalArgumentException"
      · rw [if_pos g] at hf
        subst g
        cases hf
        refine zz_callVx (As := [.int p0_, .int p1_, .int p2_]) (rest := [.int (0 : Int32), .ref (ad 62)]) C 0 (mX7_setNames_x σ p0_ p1_ p2_ _ σ1 h) dL_setNames_7 rfl rfl rfl zwl_3 zy_X7_setNames rfl (by decide) (by decide) (Nat.le_of_ble_eq_true rfl) (Nat.le_of_ble_eq_true rfl) (Nat.le_of_ble_eq_true rfl) ?_
        refine zz_catch (lv0 := []) C (h := 19) [⟨0, 12, 15, 21⟩] ⟨0, 12, 19, 13⟩ [] rfl (fun z hz => by rw [List.mem_singleton] at hz; subst hz; exact Or.inr ⟨by decide, _, zwl_4, by decide +kernel⟩) (by decide) (by decide) zwl_1 (by decide +kernel) rfl (fun q => ?_)
        refine zz_ren (ws' := zz_wl U ad σ1 τ o) rfl ?_
        refine zz_astore C dL_setNames_19 (by decide) (lv' := [(5, .ref q), (0, .ref (ad 0)), (1, .int p0_), (2, .int p1_), (3, .int p2_), (4, .ref (ad 62))]) rfl ?_
        refine zz_iconst (v := (2 : Int32)) C dL_setNames_21 (by decide) ?_
        exact zz_iret C dL_setNames_22 (And.intro rfl rfl) (Nat.le_of_ble_eq_true rfl) (Nat.le_of_ble_eq_true rfl)
      · rw [if_neg g] at hf
        cases hf
theorem zy_L_names : zz_YS yL_names (.codeWith yL_names cL_names 5 (some .int) [(0, 10, 13, 21)]) 4 := ⟨⟨List.mem_of_getElem? (i := 598) (by decide +kernel), by decide +kernel⟩, ⟨List.mem_of_getElem? (i := 599) (by decide +kernel), by decide +kernel⟩, ⟨List.mem_of_getElem? (i := 49) (by decide +kernel), by decide +kernel⟩, by decide +kernel, by decide +kernel, by decide +kernel⟩
def fL_names (σ : zz_St) (o : Nat → Int64) (p0_ : Int32) (p1_ : Int32) : Option (Int32 × zz_St × (Nat → Int64)) :=
  (fX7_names σ p0_ p1_).bind fun x =>
  match x with
  | .inl v => some ((0 : Int32), σ, vp_updL o 0 v.toInt64)
  | .inr E => if E = "java/lang/IndexOutOfBoundsException" then some ((1 : Int32), σ, o) else none
theorem dL_names_0 : decode cL_names 0 = .ok (.aload_n 3, 1) := by decide +kernel
theorem dL_names_1 : decode cL_names 1 = .ok (.iconst 0, 1) := by decide +kernel
theorem dL_names_2 : decode cL_names 2 = .ok (.aload_n 0, 1) := by decide +kernel
theorem dL_names_3 : decode cL_names 3 = .ok (.iload_n 1, 1) := by decide +kernel
theorem dL_names_4 : decode cL_names 4 = .ok (.iload_n 2, 1) := by decide +kernel
theorem dL_names_5 : decode cL_names 5 = .ok (.invokevirtual 23, 3) := by decide +kernel
theorem dL_names_8 : decode cL_names 8 = .ok (.i2l, 1) := by decide +kernel
theorem dL_names_9 : decode cL_names 9 = .ok (.lastore, 1) := by decide +kernel
theorem dL_names_10 : decode cL_names 10 = .ok (.goto 7, 3) := by decide +kernel
theorem dL_names_13 : decode cL_names 13 = .ok (.astore 4, 2) := by decide +kernel
theorem dL_names_15 : decode cL_names 15 = .ok (.iconst 1, 1) := by decide +kernel
theorem dL_names_16 : decode cL_names 16 = .ok (.ireturn, 1) := by decide +kernel
theorem dL_names_17 : decode cL_names 17 = .ok (.iconst 0, 1) := by decide +kernel
theorem dL_names_18 : decode cL_names 18 = .ok (.ireturn, 1) := by decide +kernel
set_option maxHeartbeats 4000000 in
set_option maxRecDepth 100000 in
theorem mL_names {D : va_G} {U : zz_U} {ad : Nat → Nat} (σ τ : zz_St) (o : Nat → Int64) (p0_ : Int32) (p1_ : Int32) (r : (Int32 × zz_St × (Nat → Int64))) (hf : fL_names σ o p0_ p1_ = some r) : zz_Met yL_names (.codeWith yL_names cL_names 5 (some .int) [(0, 10, 13, 21)]) 9 2 12 D U [.ref (ad 0), .int p0_, .int p1_, .ref (ad 62)] (zz_wl U ad σ τ o) (zz_ok (some (.int r.1)) (zz_wl U ad r.2.1 τ r.2.2)) zz_noth := by
  unfold fL_names at hf
  refine zz_methodH RL rfl (by decide +kernel) (Nat.le_of_ble_eq_true rfl) ?_
  intro p l e s m args below meth c A _ C
  refine zz_lvs (lv1 := [(0, .ref (ad 0)), (1, .int p0_), (2, .int p1_), (3, .ref (ad 62))]) rfl ?_
  refine zz_aload_n C 3 dL_names_0 rfl rfl ?_
  refine zz_iconst (v := (0 : Int32)) C dL_names_1 (by decide) ?_
  refine zz_aload_n C 0 dL_names_2 rfl rfl ?_
  refine zz_iload_n C 1 dL_names_3 rfl rfl ?_
  refine zz_iload_n C 2 dL_names_4 rfl rfl ?_
  refine zz_ren (ws' := (zz_wc U ad σ (zz_cm U ad τ ++ [zz_oc U ad o]))) rfl ?_
  obtain ⟨x, h, hf⟩ := zz_bind hf
  rcases x with v | E
  · try dsimp only at hf
    refine zz_callV1 (As := [.int p0_, .int p1_]) (rest := [.int (0 : Int32), .ref (ad 62)]) C 0 (mX7_names_r σ p0_ p1_ v h) dL_names_5 rfl rfl rfl zwl_5 zy_X7_names rfl (by decide) (by decide) (Nat.le_of_ble_eq_true rfl) (Nat.le_of_ble_eq_true rfl) (Nat.le_of_ble_eq_true rfl) rfl ?_
    refine zz_ren (ws' := zz_wl U ad σ τ o) rfl ?_
    refine zz_i2l C dL_names_8 ?_
    refine zz_sout C dL_names_9 ?_
    cases hf
    refine zz_goto (tgt := 17) C dL_names_10 (by decide) ?_
    refine zz_iconst (v := (0 : Int32)) C dL_names_17 (by decide) ?_
    exact zz_iret C dL_names_18 (And.intro rfl rfl) (Nat.le_of_ble_eq_true rfl) (Nat.le_of_ble_eq_true rfl)
  · try dsimp only at hf
    by_cases g : E = "java/lang/IndexOutOfBoundsException"
    · rw [if_pos g] at hf
      subst g
      cases hf
      refine zz_callVx (As := [.int p0_, .int p1_]) (rest := [.int (0 : Int32), .ref (ad 62)]) C 0 (mX7_names_x σ p0_ p1_ _ h) dL_names_5 rfl rfl rfl zwl_5 zy_X7_names rfl (by decide) (by decide) (Nat.le_of_ble_eq_true rfl) (Nat.le_of_ble_eq_true rfl) (Nat.le_of_ble_eq_true rfl) ?_
      refine zz_catch (lv0 := []) C (h := 13) [] ⟨0, 10, 13, 21⟩ [] rfl (fun z hz => nomatch hz) (by decide) (by decide) zwl_4 (by decide +kernel) rfl (fun q => ?_)
      refine zz_ren (ws' := zz_wl U ad σ τ o) rfl ?_
      refine zz_astore C dL_names_13 (by decide) (lv' := [(4, .ref q), (0, .ref (ad 0)), (1, .int p0_), (2, .int p1_), (3, .ref (ad 62))]) rfl ?_
      refine zz_iconst (v := (1 : Int32)) C dL_names_15 (by decide) ?_
      exact zz_iret C dL_names_16 (And.intro rfl rfl) (Nat.le_of_ble_eq_true rfl) (Nat.le_of_ble_eq_true rfl)
    · rw [if_neg g] at hf
      cases hf
theorem zy_L_setName : zz_YS yL_setName (.codeWith yL_setName cL_setName 6 (some .int) [(0, 19, 22, 21), (0, 19, 26, 13)]) 5 := ⟨⟨List.mem_of_getElem? (i := 605) (by decide +kernel), by decide +kernel⟩, ⟨List.mem_of_getElem? (i := 606) (by decide +kernel), by decide +kernel⟩, ⟨List.mem_of_getElem? (i := 49) (by decide +kernel), by decide +kernel⟩, by decide +kernel, by decide +kernel, by decide +kernel⟩
def fL_setName (σ : zz_St) (o : Nat → Int64) (p0_ : Int32) (p1_ : Int32) (p2_ : Int32) : Option (Int32 × zz_St × (Nat → Int64)) :=
  (fX7_setName σ p0_ p1_ p2_).bind fun x =>
  match x with
  | (.inl v, σ1) => if v = 0 then some ((0 : Int32), σ1, vp_updL o 0 0) else some ((0 : Int32), σ1, vp_updL o 0 1)
  | (.inr E, σ1) => if E = "java/lang/IndexOutOfBoundsException" then some ((1 : Int32), σ1, o) else if E = "java/lang/IllegalArgumentException" then some ((2 : Int32), σ1, o) else none
theorem dL_setName_0 : decode cL_setName 0 = .ok (.aload 4, 2) := by decide +kernel
theorem dL_setName_2 : decode cL_setName 2 = .ok (.iconst 0, 1) := by decide +kernel
theorem dL_setName_3 : decode cL_setName 3 = .ok (.aload_n 0, 1) := by decide +kernel
theorem dL_setName_4 : decode cL_setName 4 = .ok (.iload_n 1, 1) := by decide +kernel
theorem dL_setName_5 : decode cL_setName 5 = .ok (.iload_n 2, 1) := by decide +kernel
theorem dL_setName_6 : decode cL_setName 6 = .ok (.iload_n 3, 1) := by decide +kernel
theorem dL_setName_7 : decode cL_setName 7 = .ok (.invokevirtual 27, 3) := by decide +kernel
theorem dL_setName_10 : decode cL_setName 10 = .ok (.ifCond .eq 7, 3) := by decide +kernel
theorem dL_setName_13 : decode cL_setName 13 = .ok (.lconst 1, 1) := by decide +kernel
theorem dL_setName_14 : decode cL_setName 14 = .ok (.goto 4, 3) := by decide +kernel
theorem dL_setName_17 : decode cL_setName 17 = .ok (.lconst 0, 1) := by decide +kernel
theorem dL_setName_18 : decode cL_setName 18 = .ok (.lastore, 1) := by decide +kernel
theorem dL_setName_19 : decode cL_setName 19 = .ok (.goto 11, 3) := by decide +kernel
theorem dL_setName_22 : decode cL_setName 22 = .ok (.astore 5, 2) := by decide +kernel
theorem dL_setName_24 : decode cL_setName 24 = .ok (.iconst 1, 1) := by decide +kernel
theorem dL_setName_25 : decode cL_setName 25 = .ok (.ireturn, 1) := by decide +kernel
theorem dL_setName_26 : decode cL_setName 26 = .ok (.astore 5, 2) := by decide +kernel
theorem dL_setName_28 : decode cL_setName 28 = .ok (.iconst 2, 1) := by decide +kernel
theorem dL_setName_29 : decode cL_setName 29 = .ok (.ireturn, 1) := by decide +kernel
theorem dL_setName_30 : decode cL_setName 30 = .ok (.iconst 0, 1) := by decide +kernel
theorem dL_setName_31 : decode cL_setName 31 = .ok (.ireturn, 1) := by decide +kernel
set_option maxHeartbeats 4000000 in
set_option maxRecDepth 100000 in
theorem mL_setName {D : va_G} {U : zz_U} {ad : Nat → Nat} (σ τ : zz_St) (o : Nat → Int64) (p0_ : Int32) (p1_ : Int32) (p2_ : Int32) (r : (Int32 × zz_St × (Nat → Int64))) (hf : fL_setName σ o p0_ p1_ p2_ = some r) : zz_Met yL_setName (.codeWith yL_setName cL_setName 6 (some .int) [(0, 19, 22, 21), (0, 19, 26, 13)]) 7 1 6 D U [.ref (ad 0), .int p0_, .int p1_, .int p2_, .ref (ad 62)] (zz_wl U ad σ τ o) (zz_ok (some (.int r.1)) (zz_wl U ad r.2.1 τ r.2.2)) zz_noth := by
  unfold fL_setName at hf
  refine zz_methodH RL rfl (by decide +kernel) (Nat.le_of_ble_eq_true rfl) ?_
  intro p l e s m args below meth c A _ C
  refine zz_lvs (lv1 := [(0, .ref (ad 0)), (1, .int p0_), (2, .int p1_), (3, .int p2_), (4, .ref (ad 62))]) rfl ?_
  refine zz_aload C 4 dL_setName_0 rfl ?_
  refine zz_iconst (v := (0 : Int32)) C dL_setName_2 (by decide) ?_
  refine zz_aload_n C 0 dL_setName_3 rfl rfl ?_
  refine zz_iload_n C 1 dL_setName_4 rfl rfl ?_
  refine zz_iload_n C 2 dL_setName_5 rfl rfl ?_
  refine zz_iload_n C 3 dL_setName_6 rfl rfl ?_
  refine zz_ren (ws' := (zz_wc U ad σ (zz_cm U ad τ ++ [zz_oc U ad o]))) rfl ?_
  obtain ⟨⟨x, σ1⟩, h, hf⟩ := zz_bind hf
  rcases x with v | E
  · try dsimp only at hf
    refine zz_callV1 (As := [.int p0_, .int p1_, .int p2_]) (rest := [.int (0 : Int32), .ref (ad 62)]) C 0 (mX7_setName_r σ p0_ p1_ p2_ v σ1 h) dL_setName_7 rfl rfl rfl zwl_6 zy_X7_setName rfl (by decide) (by decide) (Nat.le_of_ble_eq_true rfl) (Nat.le_of_ble_eq_true rfl) (Nat.le_of_ble_eq_true rfl) rfl ?_
    refine zz_ren (ws' := zz_wl U ad σ1 τ o) rfl ?_
    refine zz_if_eq (tgt := 17) C dL_setName_10 (by decide) (fun g => ?_) (fun g => ?_)
    · refine zz_lconst (v := 0) C dL_setName_17 (by decide) ?_
      rw [if_pos g] at hf
      cases hf
      refine zz_sout C dL_setName_18 ?_
      refine zz_goto (tgt := 30) C dL_setName_19 (by decide) ?_
      refine zz_iconst (v := (0 : Int32)) C dL_setName_30 (by decide) ?_
      exact zz_iret C dL_setName_31 (And.intro rfl rfl) (Nat.le_of_ble_eq_true rfl) (Nat.le_of_ble_eq_true rfl)
    · refine zz_lconst (v := 1) C dL_setName_13 (by decide) ?_
      refine zz_goto (tgt := 18) C dL_setName_14 (by decide) ?_
      rw [if_neg g] at hf
      cases hf
      refine zz_sout C dL_setName_18 ?_
      refine zz_goto (tgt := 30) C dL_setName_19 (by decide) ?_
      refine zz_iconst (v := (0 : Int32)) C dL_setName_30 (by decide) ?_
      exact zz_iret C dL_setName_31 (And.intro rfl rfl) (Nat.le_of_ble_eq_true rfl) (Nat.le_of_ble_eq_true rfl)
  · try dsimp only at hf
    by_cases g : E = "java/lang/IndexOutOfBoundsException"
    · rw [if_pos g] at hf
      subst g
      cases hf
      refine zz_callVx (As := [.int p0_, .int p1_, .int p2_]) (rest := [.int (0 : Int32), .ref (ad 62)]) C 0 (mX7_setName_x σ p0_ p1_ p2_ _ σ1 h) dL_setName_7 rfl rfl rfl zwl_6 zy_X7_setName rfl (by decide) (by decide) (Nat.le_of_ble_eq_true rfl) (Nat.le_of_ble_eq_true rfl) (Nat.le_of_ble_eq_true rfl) ?_
      refine zz_catch (lv0 := []) C (h := 22) [] ⟨0, 19, 22, 21⟩ [⟨0, 19, 26, 13⟩] rfl (fun z hz => nomatch hz) (by decide) (by decide) zwl_4 (by decide +kernel) rfl (fun q => ?_)
      refine zz_ren (ws' := zz_wl U ad σ1 τ o) rfl ?_
      refine zz_astore C dL_setName_22 (by decide) (lv' := [(5, .ref q), (0, .ref (ad 0)), (1, .int p0_), (2, .int p1_), (3, .int p2_), (4, .ref (ad 62))]) rfl ?_
      refine zz_iconst (v := (1 : Int32)) C dL_setName_24 (by decide) ?_
      exact zz_iret C dL_setName_25 (And.intro rfl rfl) (Nat.le_of_ble_eq_true rfl) (Nat.le_of_ble_eq_true rfl)
    · rw [if_neg g] at hf
      by_cases g : E = "java/lang/IllegalArgumentException"
      · rw [if_pos g] at hf
        subst g
        cases hf
        refine zz_callVx (As := [.int p0_, .int p1_, .int p2_]) (rest := [.int (0 : Int32), .ref (ad 62)]) C 0 (mX7_setName_x σ p0_ p1_ p2_ _ σ1 h) dL_setName_7 rfl rfl rfl zwl_6 zy_X7_setName rfl (by decide) (by decide) (Nat.le_of_ble_eq_true rfl) (Nat.le_of_ble_eq_true rfl) (Nat.le_of_ble_eq_true rfl) ?_
        refine zz_catch (lv0 := []) C (h := 26) [⟨0, 19, 22, 21⟩] ⟨0, 19, 26, 13⟩ [] rfl (fun z hz => by rw [List.mem_singleton] at hz; subst hz; exact Or.inr ⟨by decide, _, zwl_4, by decide +kernel⟩) (by decide) (by decide) zwl_1 (by decide +kernel) rfl (fun q => ?_)
        refine zz_ren (ws' := zz_wl U ad σ1 τ o) rfl ?_
        refine zz_astore C dL_setName_26 (by decide) (lv' := [(5, .ref q), (0, .ref (ad 0)), (1, .int p0_), (2, .int p1_), (3, .int p2_), (4, .ref (ad 62))]) rfl ?_
        refine zz_iconst (v := (2 : Int32)) C dL_setName_28 (by decide) ?_
        exact zz_iret C dL_setName_29 (And.intro rfl rfl) (Nat.le_of_ble_eq_true rfl) (Nat.le_of_ble_eq_true rfl)
      · rw [if_neg g] at hf
        cases hf
theorem zy_L_dropPiece : zz_YS yL_dropPiece (.codeWith yL_dropPiece cL_dropPiece 3 (some .int) [(0, 8, 11, 15)]) 2 := ⟨⟨List.mem_of_getElem? (i := 619) (by decide +kernel), by decide +kernel⟩, ⟨List.mem_of_getElem? (i := 620) (by decide +kernel), by decide +kernel⟩, ⟨List.mem_of_getElem? (i := 49) (by decide +kernel), by decide +kernel⟩, by decide +kernel, by decide +kernel, by decide +kernel⟩
def fL_dropPiece (σ : zz_St) (o : Nat → Int64) : Option (Int32 × zz_St × (Nat → Int64)) :=
  (fX7_dropPiece σ).bind fun x =>
  match x with
  | (.inl v, σ1) => some ((0 : Int32), σ1, vp_updL o 0 v.toInt64)
  | (.inr E, σ1) => if E = "java/lang/IllegalStateException" then some ((1 : Int32), σ1, o) else none
theorem dL_dropPiece_0 : decode cL_dropPiece 0 = .ok (.aload_n 1, 1) := by decide +kernel
theorem dL_dropPiece_1 : decode cL_dropPiece 1 = .ok (.iconst 0, 1) := by decide +kernel
theorem dL_dropPiece_2 : decode cL_dropPiece 2 = .ok (.aload_n 0, 1) := by decide +kernel
theorem dL_dropPiece_3 : decode cL_dropPiece 3 = .ok (.invokevirtual 31, 3) := by decide +kernel
theorem dL_dropPiece_6 : decode cL_dropPiece 6 = .ok (.i2l, 1) := by decide +kernel
theorem dL_dropPiece_7 : decode cL_dropPiece 7 = .ok (.lastore, 1) := by decide +kernel
theorem dL_dropPiece_8 : decode cL_dropPiece 8 = .ok (.goto 6, 3) := by decide +kernel
theorem dL_dropPiece_11 : decode cL_dropPiece 11 = .ok (.astore_n 2, 1) := by decide +kernel
theorem dL_dropPiece_12 : decode cL_dropPiece 12 = .ok (.iconst 1, 1) := by decide +kernel
theorem dL_dropPiece_13 : decode cL_dropPiece 13 = .ok (.ireturn, 1) := by decide +kernel
theorem dL_dropPiece_14 : decode cL_dropPiece 14 = .ok (.iconst 0, 1) := by decide +kernel
theorem dL_dropPiece_15 : decode cL_dropPiece 15 = .ok (.ireturn, 1) := by decide +kernel
set_option maxHeartbeats 4000000 in
set_option maxRecDepth 100000 in
theorem mL_dropPiece {D : va_G} {U : zz_U} {ad : Nat → Nat} (σ τ : zz_St) (o : Nat → Int64) (r : (Int32 × zz_St × (Nat → Int64))) (hf : fL_dropPiece σ o = some r) : zz_Met yL_dropPiece (.codeWith yL_dropPiece cL_dropPiece 3 (some .int) [(0, 8, 11, 15)]) 7 1 6 D U [.ref (ad 0), .ref (ad 62)] (zz_wl U ad σ τ o) (zz_ok (some (.int r.1)) (zz_wl U ad r.2.1 τ r.2.2)) zz_noth := by
  unfold fL_dropPiece at hf
  refine zz_methodH RL rfl (by decide +kernel) (Nat.le_of_ble_eq_true rfl) ?_
  intro p l e s m args below meth c A _ C
  refine zz_lvs (lv1 := [(0, .ref (ad 0)), (1, .ref (ad 62))]) rfl ?_
  refine zz_aload_n C 1 dL_dropPiece_0 rfl rfl ?_
  refine zz_iconst (v := (0 : Int32)) C dL_dropPiece_1 (by decide) ?_
  refine zz_aload_n C 0 dL_dropPiece_2 rfl rfl ?_
  refine zz_ren (ws' := (zz_wc U ad σ (zz_cm U ad τ ++ [zz_oc U ad o]))) rfl ?_
  obtain ⟨⟨x, σ1⟩, h, hf⟩ := zz_bind hf
  rcases x with v | E
  · try dsimp only at hf
    refine zz_callV1 (As := []) (rest := [.int (0 : Int32), .ref (ad 62)]) C 0 (mX7_dropPiece_r σ v σ1 h) dL_dropPiece_3 rfl rfl rfl zwl_7 zy_X7_dropPiece rfl (by decide) (by decide) (Nat.le_of_ble_eq_true rfl) (Nat.le_of_ble_eq_true rfl) (Nat.le_of_ble_eq_true rfl) rfl ?_
    refine zz_ren (ws' := zz_wl U ad σ1 τ o) rfl ?_
    refine zz_i2l C dL_dropPiece_6 ?_
    refine zz_sout C dL_dropPiece_7 ?_
    cases hf
    refine zz_goto (tgt := 14) C dL_dropPiece_8 (by decide) ?_
    refine zz_iconst (v := (0 : Int32)) C dL_dropPiece_14 (by decide) ?_
    exact zz_iret C dL_dropPiece_15 (And.intro rfl rfl) (Nat.le_of_ble_eq_true rfl) (Nat.le_of_ble_eq_true rfl)
  · try dsimp only at hf
    by_cases g : E = "java/lang/IllegalStateException"
    · rw [if_pos g] at hf
      subst g
      cases hf
      refine zz_callVx (As := []) (rest := [.int (0 : Int32), .ref (ad 62)]) C 0 (mX7_dropPiece_x σ _ σ1 h) dL_dropPiece_3 rfl rfl rfl zwl_7 zy_X7_dropPiece rfl (by decide) (by decide) (Nat.le_of_ble_eq_true rfl) (Nat.le_of_ble_eq_true rfl) (Nat.le_of_ble_eq_true rfl) ?_
      refine zz_catch (lv0 := []) C (h := 11) [] ⟨0, 8, 11, 15⟩ [] rfl (fun z hz => nomatch hz) (by decide) (by decide) zwl_2 (by decide +kernel) rfl (fun q => ?_)
      refine zz_ren (ws' := zz_wl U ad σ1 τ o) rfl ?_
      refine zz_astore_n C dL_dropPiece_11 rfl (by decide) (lv' := [(2, .ref q), (0, .ref (ad 0)), (1, .ref (ad 62))]) rfl ?_
      refine zz_iconst (v := (1 : Int32)) C dL_dropPiece_12 (by decide) ?_
      exact zz_iret C dL_dropPiece_13 (And.intro rfl rfl) (Nat.le_of_ble_eq_true rfl) (Nat.le_of_ble_eq_true rfl)
    · rw [if_neg g] at hf
      cases hf
theorem zy_L_setWeight : zz_YS yL_setWeight (.codeWith yL_setWeight cL_setWeight 5 (some .int) [(0, 10, 13, 21), (0, 10, 17, 13)]) 4 := ⟨⟨List.mem_of_getElem? (i := 640) (by decide +kernel), by decide +kernel⟩, ⟨List.mem_of_getElem? (i := 641) (by decide +kernel), by decide +kernel⟩, ⟨List.mem_of_getElem? (i := 49) (by decide +kernel), by decide +kernel⟩, by decide +kernel, by decide +kernel, by decide +kernel⟩
def fL_setWeight (σ : zz_St) (o : Nat → Int64) (p0_ : Int32) (p1_ : Int32) : Option (Int32 × zz_St × (Nat → Int64)) :=
  (fX7_setWeight σ p0_ p1_).bind fun x =>
  match x with
  | (.inl v, σ1) => some ((0 : Int32), σ1, vp_updL o 0 v.toInt64)
  | (.inr E, σ1) => if E = "java/lang/IndexOutOfBoundsException" then some ((1 : Int32), σ1, o) else if E = "java/lang/IllegalArgumentException" then some ((2 : Int32), σ1, o) else none
theorem dL_setWeight_0 : decode cL_setWeight 0 = .ok (.aload_n 3, 1) := by decide +kernel
theorem dL_setWeight_1 : decode cL_setWeight 1 = .ok (.iconst 0, 1) := by decide +kernel
theorem dL_setWeight_2 : decode cL_setWeight 2 = .ok (.aload_n 0, 1) := by decide +kernel
theorem dL_setWeight_3 : decode cL_setWeight 3 = .ok (.iload_n 1, 1) := by decide +kernel
theorem dL_setWeight_4 : decode cL_setWeight 4 = .ok (.iload_n 2, 1) := by decide +kernel
theorem dL_setWeight_5 : decode cL_setWeight 5 = .ok (.invokevirtual 35, 3) := by decide +kernel
theorem dL_setWeight_8 : decode cL_setWeight 8 = .ok (.i2l, 1) := by decide +kernel
theorem dL_setWeight_9 : decode cL_setWeight 9 = .ok (.lastore, 1) := by decide +kernel
theorem dL_setWeight_10 : decode cL_setWeight 10 = .ok (.goto 11, 3) := by decide +kernel
theorem dL_setWeight_13 : decode cL_setWeight 13 = .ok (.astore 4, 2) := by decide +kernel
theorem dL_setWeight_15 : decode cL_setWeight 15 = .ok (.iconst 1, 1) := by decide +kernel
theorem dL_setWeight_16 : decode cL_setWeight 16 = .ok (.ireturn, 1) := by decide +kernel
theorem dL_setWeight_17 : decode cL_setWeight 17 = .ok (.astore 4, 2) := by decide +kernel
theorem dL_setWeight_19 : decode cL_setWeight 19 = .ok (.iconst 2, 1) := by decide +kernel
theorem dL_setWeight_20 : decode cL_setWeight 20 = .ok (.ireturn, 1) := by decide +kernel
theorem dL_setWeight_21 : decode cL_setWeight 21 = .ok (.iconst 0, 1) := by decide +kernel
theorem dL_setWeight_22 : decode cL_setWeight 22 = .ok (.ireturn, 1) := by decide +kernel
set_option maxHeartbeats 4000000 in
set_option maxRecDepth 100000 in
theorem mL_setWeight {D : va_G} {U : zz_U} {ad : Nat → Nat} (σ τ : zz_St) (o : Nat → Int64) (p0_ : Int32) (p1_ : Int32) (r : (Int32 × zz_St × (Nat → Int64))) (hf : fL_setWeight σ o p0_ p1_ = some r) : zz_Met yL_setWeight (.codeWith yL_setWeight cL_setWeight 5 (some .int) [(0, 10, 13, 21), (0, 10, 17, 13)]) 8 2 12 D U [.ref (ad 0), .int p0_, .int p1_, .ref (ad 62)] (zz_wl U ad σ τ o) (zz_ok (some (.int r.1)) (zz_wl U ad r.2.1 τ r.2.2)) zz_noth := by
  unfold fL_setWeight at hf
  refine zz_methodH RL rfl (by decide +kernel) (Nat.le_of_ble_eq_true rfl) ?_
  intro p l e s m args below meth c A _ C
  refine zz_lvs (lv1 := [(0, .ref (ad 0)), (1, .int p0_), (2, .int p1_), (3, .ref (ad 62))]) rfl ?_
  refine zz_aload_n C 3 dL_setWeight_0 rfl rfl ?_
  refine zz_iconst (v := (0 : Int32)) C dL_setWeight_1 (by decide) ?_
  refine zz_aload_n C 0 dL_setWeight_2 rfl rfl ?_
  refine zz_iload_n C 1 dL_setWeight_3 rfl rfl ?_
  refine zz_iload_n C 2 dL_setWeight_4 rfl rfl ?_
  refine zz_ren (ws' := (zz_wc U ad σ (zz_cm U ad τ ++ [zz_oc U ad o]))) rfl ?_
  obtain ⟨⟨x, σ1⟩, h, hf⟩ := zz_bind hf
  rcases x with v | E
  · try dsimp only at hf
    refine zz_callV1 (As := [.int p0_, .int p1_]) (rest := [.int (0 : Int32), .ref (ad 62)]) C 0 (mX7_setWeight_r σ p0_ p1_ v σ1 h) dL_setWeight_5 rfl rfl rfl zwl_8 zy_X7_setWeight rfl (by decide) (by decide) (Nat.le_of_ble_eq_true rfl) (Nat.le_of_ble_eq_true rfl) (Nat.le_of_ble_eq_true rfl) rfl ?_
    refine zz_ren (ws' := zz_wl U ad σ1 τ o) rfl ?_
    refine zz_i2l C dL_setWeight_8 ?_
    refine zz_sout C dL_setWeight_9 ?_
    cases hf
    refine zz_goto (tgt := 21) C dL_setWeight_10 (by decide) ?_
    refine zz_iconst (v := (0 : Int32)) C dL_setWeight_21 (by decide) ?_
    exact zz_iret C dL_setWeight_22 (And.intro rfl rfl) (Nat.le_of_ble_eq_true rfl) (Nat.le_of_ble_eq_true rfl)
  · try dsimp only at hf
    by_cases g : E = "java/lang/IndexOutOfBoundsException"
    · rw [if_pos g] at hf
      subst g
      cases hf
      refine zz_callVx (As := [.int p0_, .int p1_]) (rest := [.int (0 : Int32), .ref (ad 62)]) C 0 (mX7_setWeight_x σ p0_ p1_ _ σ1 h) dL_setWeight_5 rfl rfl rfl zwl_8 zy_X7_setWeight rfl (by decide) (by decide) (Nat.le_of_ble_eq_true rfl) (Nat.le_of_ble_eq_true rfl) (Nat.le_of_ble_eq_true rfl) ?_
      refine zz_catch (lv0 := []) C (h := 13) [] ⟨0, 10, 13, 21⟩ [⟨0, 10, 17, 13⟩] rfl (fun z hz => nomatch hz) (by decide) (by decide) zwl_4 (by decide +kernel) rfl (fun q => ?_)
      refine zz_ren (ws' := zz_wl U ad σ1 τ o) rfl ?_
      refine zz_astore C dL_setWeight_13 (by decide) (lv' := [(4, .ref q), (0, .ref (ad 0)), (1, .int p0_), (2, .int p1_), (3, .ref (ad 62))]) rfl ?_
      refine zz_iconst (v := (1 : Int32)) C dL_setWeight_15 (by decide) ?_
      exact zz_iret C dL_setWeight_16 (And.intro rfl rfl) (Nat.le_of_ble_eq_true rfl) (Nat.le_of_ble_eq_true rfl)
    · rw [if_neg g] at hf
      by_cases g : E = "java/lang/IllegalArgumentException"
      · rw [if_pos g] at hf
        subst g
        cases hf
        refine zz_callVx (As := [.int p0_, .int p1_]) (rest := [.int (0 : Int32), .ref (ad 62)]) C 0 (mX7_setWeight_x σ p0_ p1_ _ σ1 h) dL_setWeight_5 rfl rfl rfl zwl_8 zy_X7_setWeight rfl (by decide) (by decide) (Nat.le_of_ble_eq_true rfl) (Nat.le_of_ble_eq_true rfl) (Nat.le_of_ble_eq_true rfl) ?_
        refine zz_catch (lv0 := []) C (h := 17) [⟨0, 10, 13, 21⟩] ⟨0, 10, 17, 13⟩ [] rfl (fun z hz => by rw [List.mem_singleton] at hz; subst hz; exact Or.inr ⟨by decide, _, zwl_4, by decide +kernel⟩) (by decide) (by decide) zwl_1 (by decide +kernel) rfl (fun q => ?_)
        refine zz_ren (ws' := zz_wl U ad σ1 τ o) rfl ?_
        refine zz_astore C dL_setWeight_17 (by decide) (lv' := [(4, .ref q), (0, .ref (ad 0)), (1, .int p0_), (2, .int p1_), (3, .ref (ad 62))]) rfl ?_
        refine zz_iconst (v := (2 : Int32)) C dL_setWeight_19 (by decide) ?_
        exact zz_iret C dL_setWeight_20 (And.intro rfl rfl) (Nat.le_of_ble_eq_true rfl) (Nat.le_of_ble_eq_true rfl)
      · rw [if_neg g] at hf
        cases hf
theorem zy_L_setSpan : zz_YS yL_setSpan (.codeWith yL_setSpan cL_setSpan 4 (some .int) [(0, 9, 12, 13)]) 3 := ⟨⟨List.mem_of_getElem? (i := 652) (by decide +kernel), by decide +kernel⟩, ⟨List.mem_of_getElem? (i := 653) (by decide +kernel), by decide +kernel⟩, ⟨List.mem_of_getElem? (i := 49) (by decide +kernel), by decide +kernel⟩, by decide +kernel, by decide +kernel, by decide +kernel⟩
def fL_setSpan (σ : zz_St) (o : Nat → Int64) (p0_ : Int32) : Option (Int32 × zz_St × (Nat → Int64)) :=
  (fX7_setSpan σ p0_).bind fun x =>
  match x with
  | (.inl v, σ1) => some ((0 : Int32), σ1, vp_updL o 0 v.toInt64)
  | (.inr E, σ1) => if E = "java/lang/IllegalArgumentException" then some ((1 : Int32), σ1, o) else none
theorem dL_setSpan_0 : decode cL_setSpan 0 = .ok (.aload_n 2, 1) := by decide +kernel
theorem dL_setSpan_1 : decode cL_setSpan 1 = .ok (.iconst 0, 1) := by decide +kernel
theorem dL_setSpan_2 : decode cL_setSpan 2 = .ok (.aload_n 0, 1) := by decide +kernel
theorem dL_setSpan_3 : decode cL_setSpan 3 = .ok (.iload_n 1, 1) := by decide +kernel
theorem dL_setSpan_4 : decode cL_setSpan 4 = .ok (.invokevirtual 38, 3) := by decide +kernel
theorem dL_setSpan_7 : decode cL_setSpan 7 = .ok (.i2l, 1) := by decide +kernel
theorem dL_setSpan_8 : decode cL_setSpan 8 = .ok (.lastore, 1) := by decide +kernel
theorem dL_setSpan_9 : decode cL_setSpan 9 = .ok (.goto 6, 3) := by decide +kernel
theorem dL_setSpan_12 : decode cL_setSpan 12 = .ok (.astore_n 3, 1) := by decide +kernel
theorem dL_setSpan_13 : decode cL_setSpan 13 = .ok (.iconst 1, 1) := by decide +kernel
theorem dL_setSpan_14 : decode cL_setSpan 14 = .ok (.ireturn, 1) := by decide +kernel
theorem dL_setSpan_15 : decode cL_setSpan 15 = .ok (.iconst 0, 1) := by decide +kernel
theorem dL_setSpan_16 : decode cL_setSpan 16 = .ok (.ireturn, 1) := by decide +kernel
set_option maxHeartbeats 4000000 in
set_option maxRecDepth 100000 in
theorem mL_setSpan {D : va_G} {U : zz_U} {ad : Nat → Nat} (σ τ : zz_St) (o : Nat → Int64) (p0_ : Int32) (r : (Int32 × zz_St × (Nat → Int64))) (hf : fL_setSpan σ o p0_ = some r) : zz_Met yL_setSpan (.codeWith yL_setSpan cL_setSpan 4 (some .int) [(0, 9, 12, 13)]) 7 1 6 D U [.ref (ad 0), .int p0_, .ref (ad 62)] (zz_wl U ad σ τ o) (zz_ok (some (.int r.1)) (zz_wl U ad r.2.1 τ r.2.2)) zz_noth := by
  unfold fL_setSpan at hf
  refine zz_methodH RL rfl (by decide +kernel) (Nat.le_of_ble_eq_true rfl) ?_
  intro p l e s m args below meth c A _ C
  refine zz_lvs (lv1 := [(0, .ref (ad 0)), (1, .int p0_), (2, .ref (ad 62))]) rfl ?_
  refine zz_aload_n C 2 dL_setSpan_0 rfl rfl ?_
  refine zz_iconst (v := (0 : Int32)) C dL_setSpan_1 (by decide) ?_
  refine zz_aload_n C 0 dL_setSpan_2 rfl rfl ?_
  refine zz_iload_n C 1 dL_setSpan_3 rfl rfl ?_
  refine zz_ren (ws' := (zz_wc U ad σ (zz_cm U ad τ ++ [zz_oc U ad o]))) rfl ?_
  obtain ⟨⟨x, σ1⟩, h, hf⟩ := zz_bind hf
  rcases x with v | E
  · try dsimp only at hf
    refine zz_callV1 (As := [.int p0_]) (rest := [.int (0 : Int32), .ref (ad 62)]) C 0 (mX7_setSpan_r σ p0_ v σ1 h) dL_setSpan_4 rfl rfl rfl zwl_9 zy_X7_setSpan rfl (by decide) (by decide) (Nat.le_of_ble_eq_true rfl) (Nat.le_of_ble_eq_true rfl) (Nat.le_of_ble_eq_true rfl) rfl ?_
    refine zz_ren (ws' := zz_wl U ad σ1 τ o) rfl ?_
    refine zz_i2l C dL_setSpan_7 ?_
    refine zz_sout C dL_setSpan_8 ?_
    cases hf
    refine zz_goto (tgt := 15) C dL_setSpan_9 (by decide) ?_
    refine zz_iconst (v := (0 : Int32)) C dL_setSpan_15 (by decide) ?_
    exact zz_iret C dL_setSpan_16 (And.intro rfl rfl) (Nat.le_of_ble_eq_true rfl) (Nat.le_of_ble_eq_true rfl)
  · try dsimp only at hf
    by_cases g : E = "java/lang/IllegalArgumentException"
    · rw [if_pos g] at hf
      subst g
      cases hf
      refine zz_callVx (As := [.int p0_]) (rest := [.int (0 : Int32), .ref (ad 62)]) C 0 (mX7_setSpan_x σ p0_ _ σ1 h) dL_setSpan_4 rfl rfl rfl zwl_9 zy_X7_setSpan rfl (by decide) (by decide) (Nat.le_of_ble_eq_true rfl) (Nat.le_of_ble_eq_true rfl) (Nat.le_of_ble_eq_true rfl) ?_
      refine zz_catch (lv0 := []) C (h := 12) [] ⟨0, 9, 12, 13⟩ [] rfl (fun z hz => nomatch hz) (by decide) (by decide) zwl_1 (by decide +kernel) rfl (fun q => ?_)
      refine zz_ren (ws' := zz_wl U ad σ1 τ o) rfl ?_
      refine zz_astore_n C dL_setSpan_12 rfl (by decide) (lv' := [(3, .ref q), (0, .ref (ad 0)), (1, .int p0_), (2, .ref (ad 62))]) rfl ?_
      refine zz_iconst (v := (1 : Int32)) C dL_setSpan_13 (by decide) ?_
      exact zz_iret C dL_setSpan_14 (And.intro rfl rfl) (Nat.le_of_ble_eq_true rfl) (Nat.le_of_ble_eq_true rfl)
    · rw [if_neg g] at hf
      cases hf
theorem zy_L_points : zz_YS yL_points (.codeWith yL_points cL_points 6 (some .int) [(0, 12, 15, 21), (0, 12, 19, 13)]) 5 := ⟨⟨List.mem_of_getElem? (i := 660) (by decide +kernel), by decide +kernel⟩, ⟨List.mem_of_getElem? (i := 661) (by decide +kernel), by decide +kernel⟩, ⟨List.mem_of_getElem? (i := 49) (by decide +kernel), by decide +kernel⟩, by decide +kernel, by decide +kernel, by decide +kernel⟩
def fL_points (σ : zz_St) (o : Nat → Int64) (p0_ : Int32) (p1_ : Int32) (p2_ : Int32) : Option (Int32 × zz_St × (Nat → Int64)) :=
  (fX7_points σ p0_ p1_ p2_).bind fun x =>
  match x with
  | .inl v => some ((0 : Int32), σ, vp_updL o 0 v.toInt64)
  | .inr E => if E = "java/lang/IndexOutOfBoundsException" then some ((1 : Int32), σ, o) else if E = "java/lang/IllegalArgumentException" then some ((2 : Int32), σ, o) else none
theorem dL_points_0 : decode cL_points 0 = .ok (.aload 4, 2) := by decide +kernel
theorem dL_points_2 : decode cL_points 2 = .ok (.iconst 0, 1) := by decide +kernel
theorem dL_points_3 : decode cL_points 3 = .ok (.aload_n 0, 1) := by decide +kernel
theorem dL_points_4 : decode cL_points 4 = .ok (.iload_n 1, 1) := by decide +kernel
theorem dL_points_5 : decode cL_points 5 = .ok (.iload_n 2, 1) := by decide +kernel
theorem dL_points_6 : decode cL_points 6 = .ok (.iload_n 3, 1) := by decide +kernel
theorem dL_points_7 : decode cL_points 7 = .ok (.invokevirtual 42, 3) := by decide +kernel
theorem dL_points_10 : decode cL_points 10 = .ok (.i2l, 1) := by decide +kernel
theorem dL_points_11 : decode cL_points 11 = .ok (.lastore, 1) := by decide +kernel
theorem dL_points_12 : decode cL_points 12 = .ok (.goto 11, 3) := by decide +kernel
theorem dL_points_15 : decode cL_points 15 = .ok (.astore 5, 2) := by decide +kernel
theorem dL_points_17 : decode cL_points 17 = .ok (.iconst 1, 1) := by decide +kernel
theorem dL_points_18 : decode cL_points 18 = .ok (.ireturn, 1) := by decide +kernel
theorem dL_points_19 : decode cL_points 19 = .ok (.astore 5, 2) := by decide +kernel
theorem dL_points_21 : decode cL_points 21 = .ok (.iconst 2, 1) := by decide +kernel
theorem dL_points_22 : decode cL_points 22 = .ok (.ireturn, 1) := by decide +kernel
theorem dL_points_23 : decode cL_points 23 = .ok (.iconst 0, 1) := by decide +kernel
theorem dL_points_24 : decode cL_points 24 = .ok (.ireturn, 1) := by decide +kernel
set_option maxHeartbeats 4000000 in
set_option maxRecDepth 100000 in
theorem mL_points {D : va_G} {U : zz_U} {ad : Nat → Nat} (σ τ : zz_St) (o : Nat → Int64) (p0_ : Int32) (p1_ : Int32) (p2_ : Int32) (r : (Int32 × zz_St × (Nat → Int64))) (hf : fL_points σ o p0_ p1_ p2_ = some r) : zz_Met yL_points (.codeWith yL_points cL_points 6 (some .int) [(0, 12, 15, 21), (0, 12, 19, 13)]) 8 4 24 D U [.ref (ad 0), .int p0_, .int p1_, .int p2_, .ref (ad 62)] (zz_wl U ad σ τ o) (zz_ok (some (.int r.1)) (zz_wl U ad r.2.1 τ r.2.2)) zz_noth := by
  unfold fL_points at hf
  refine zz_methodH RL rfl (by decide +kernel) (Nat.le_of_ble_eq_true rfl) ?_
  intro p l e s m args below meth c A _ C
  refine zz_lvs (lv1 := [(0, .ref (ad 0)), (1, .int p0_), (2, .int p1_), (3, .int p2_), (4, .ref (ad 62))]) rfl ?_
  refine zz_aload C 4 dL_points_0 rfl ?_
  refine zz_iconst (v := (0 : Int32)) C dL_points_2 (by decide) ?_
  refine zz_aload_n C 0 dL_points_3 rfl rfl ?_
  refine zz_iload_n C 1 dL_points_4 rfl rfl ?_
  refine zz_iload_n C 2 dL_points_5 rfl rfl ?_
  refine zz_iload_n C 3 dL_points_6 rfl rfl ?_
  refine zz_ren (ws' := (zz_wc U ad σ (zz_cm U ad τ ++ [zz_oc U ad o]))) rfl ?_
  obtain ⟨x, h, hf⟩ := zz_bind hf
  rcases x with v | E
  · try dsimp only at hf
    refine zz_callV1 (As := [.int p0_, .int p1_, .int p2_]) (rest := [.int (0 : Int32), .ref (ad 62)]) C 0 (mX7_points_r σ p0_ p1_ p2_ v h) dL_points_7 rfl rfl rfl zwl_10 zy_X7_points rfl (by decide) (by decide) (Nat.le_of_ble_eq_true rfl) (Nat.le_of_ble_eq_true rfl) (Nat.le_of_ble_eq_true rfl) rfl ?_
    refine zz_ren (ws' := zz_wl U ad σ τ o) rfl ?_
    refine zz_i2l C dL_points_10 ?_
    refine zz_sout C dL_points_11 ?_
    cases hf
    refine zz_goto (tgt := 23) C dL_points_12 (by decide) ?_
    refine zz_iconst (v := (0 : Int32)) C dL_points_23 (by decide) ?_
    exact zz_iret C dL_points_24 (And.intro rfl rfl) (Nat.le_of_ble_eq_true rfl) (Nat.le_of_ble_eq_true rfl)
  · try dsimp only at hf
    by_cases g : E = "java/lang/IndexOutOfBoundsException"
    · rw [if_pos g] at hf
      subst g
      cases hf
      refine zz_callVx (As := [.int p0_, .int p1_, .int p2_]) (rest := [.int (0 : Int32), .ref (ad 62)]) C 0 (mX7_points_x σ p0_ p1_ p2_ _ h) dL_points_7 rfl rfl rfl zwl_10 zy_X7_points rfl (by decide) (by decide) (Nat.le_of_ble_eq_true rfl) (Nat.le_of_ble_eq_true rfl) (Nat.le_of_ble_eq_true rfl) ?_
      refine zz_catch (lv0 := []) C (h := 15) [] ⟨0, 12, 15, 21⟩ [⟨0, 12, 19, 13⟩] rfl (fun z hz => nomatch hz) (by decide) (by decide) zwl_4 (by decide +kernel) rfl (fun q => ?_)
      refine zz_ren (ws' := zz_wl U ad σ τ o) rfl ?_
      refine zz_astore C dL_points_15 (by decide) (lv' := [(5, .ref q), (0, .ref (ad 0)), (1, .int p0_), (2, .int p1_), (3, .int p2_), (4, .ref (ad 62))]) rfl ?_
      refine zz_iconst (v := (1 : Int32)) C dL_points_17 (by decide) ?_
      exact zz_iret C dL_points_18 (And.intro rfl rfl) (Nat.le_of_ble_eq_true rfl) (Nat.le_of_ble_eq_true rfl)
    · rw [if_neg g] at hf
      by_cases g : E = "java/lang/IllegalArgumentException"
      · rw [if_pos g] at hf
        subst g
        cases hf
        refine zz_callVx (As := [.int p0_, .int p1_, .int p2_]) (rest := [.int (0 : Int32), .ref (ad 62)]) C 0 (mX7_points_x σ p0_ p1_ p2_ _ h) dL_points_7 rfl rfl rfl zwl_10 zy_X7_points rfl (by decide) (by decide) (Nat.le_of_ble_eq_true rfl) (Nat.le_of_ble_eq_true rfl) (Nat.le_of_ble_eq_true rfl) ?_
        refine zz_catch (lv0 := []) C (h := 19) [⟨0, 12, 15, 21⟩] ⟨0, 12, 19, 13⟩ [] rfl (fun z hz => by rw [List.mem_singleton] at hz; subst hz; exact Or.inr ⟨by decide, _, zwl_4, by decide +kernel⟩) (by decide) (by decide) zwl_1 (by decide +kernel) rfl (fun q => ?_)
        refine zz_ren (ws' := zz_wl U ad σ τ o) rfl ?_
        refine zz_astore C dL_points_19 (by decide) (lv' := [(5, .ref q), (0, .ref (ad 0)), (1, .int p0_), (2, .int p1_), (3, .int p2_), (4, .ref (ad 62))]) rfl ?_
        refine zz_iconst (v := (2 : Int32)) C dL_points_21 (by decide) ?_
        exact zz_iret C dL_points_22 (And.intro rfl rfl) (Nat.le_of_ble_eq_true rfl) (Nat.le_of_ble_eq_true rfl)
      · rw [if_neg g] at hf
        cases hf
theorem zy_L_affinity : zz_YS yL_affinity (.codeWith yL_affinity cL_affinity 5 (some .int) [(0, 10, 13, 21), (0, 10, 17, 13)]) 4 := ⟨⟨List.mem_of_getElem? (i := 672) (by decide +kernel), by decide +kernel⟩, ⟨List.mem_of_getElem? (i := 673) (by decide +kernel), by decide +kernel⟩, ⟨List.mem_of_getElem? (i := 49) (by decide +kernel), by decide +kernel⟩, by decide +kernel, by decide +kernel, by decide +kernel⟩
def fL_affinity (σ : zz_St) (o : Nat → Int64) (p0_ : Int32) (p1_ : Int32) : Option (Int32 × zz_St × (Nat → Int64)) :=
  (fX7_affinity σ p0_ p1_).bind fun x =>
  match x with
  | .inl v => some ((0 : Int32), σ, vp_updL o 0 v.toInt64)
  | .inr E => if E = "java/lang/IndexOutOfBoundsException" then some ((1 : Int32), σ, o) else if E = "java/lang/IllegalArgumentException" then some ((2 : Int32), σ, o) else none
theorem dL_affinity_0 : decode cL_affinity 0 = .ok (.aload_n 3, 1) := by decide +kernel
theorem dL_affinity_1 : decode cL_affinity 1 = .ok (.iconst 0, 1) := by decide +kernel
theorem dL_affinity_2 : decode cL_affinity 2 = .ok (.aload_n 0, 1) := by decide +kernel
theorem dL_affinity_3 : decode cL_affinity 3 = .ok (.iload_n 1, 1) := by decide +kernel
theorem dL_affinity_4 : decode cL_affinity 4 = .ok (.iload_n 2, 1) := by decide +kernel
theorem dL_affinity_5 : decode cL_affinity 5 = .ok (.invokevirtual 45, 3) := by decide +kernel
theorem dL_affinity_8 : decode cL_affinity 8 = .ok (.i2l, 1) := by decide +kernel
theorem dL_affinity_9 : decode cL_affinity 9 = .ok (.lastore, 1) := by decide +kernel
theorem dL_affinity_10 : decode cL_affinity 10 = .ok (.goto 11, 3) := by decide +kernel
theorem dL_affinity_13 : decode cL_affinity 13 = .ok (.astore 4, 2) := by decide +kernel
theorem dL_affinity_15 : decode cL_affinity 15 = .ok (.iconst 1, 1) := by decide +kernel
theorem dL_affinity_16 : decode cL_affinity 16 = .ok (.ireturn, 1) := by decide +kernel
theorem dL_affinity_17 : decode cL_affinity 17 = .ok (.astore 4, 2) := by decide +kernel
theorem dL_affinity_19 : decode cL_affinity 19 = .ok (.iconst 2, 1) := by decide +kernel
theorem dL_affinity_20 : decode cL_affinity 20 = .ok (.ireturn, 1) := by decide +kernel
theorem dL_affinity_21 : decode cL_affinity 21 = .ok (.iconst 0, 1) := by decide +kernel
theorem dL_affinity_22 : decode cL_affinity 22 = .ok (.ireturn, 1) := by decide +kernel
set_option maxHeartbeats 4000000 in
set_option maxRecDepth 100000 in
theorem mL_affinity {D : va_G} {U : zz_U} {ad : Nat → Nat} (σ τ : zz_St) (o : Nat → Int64) (p0_ : Int32) (p1_ : Int32) (r : (Int32 × zz_St × (Nat → Int64))) (hf : fL_affinity σ o p0_ p1_ = some r) : zz_Met yL_affinity (.codeWith yL_affinity cL_affinity 5 (some .int) [(0, 10, 13, 21), (0, 10, 17, 13)]) 8 3 18 D U [.ref (ad 0), .int p0_, .int p1_, .ref (ad 62)] (zz_wl U ad σ τ o) (zz_ok (some (.int r.1)) (zz_wl U ad r.2.1 τ r.2.2)) zz_noth := by
  unfold fL_affinity at hf
  refine zz_methodH RL rfl (by decide +kernel) (Nat.le_of_ble_eq_true rfl) ?_
  intro p l e s m args below meth c A _ C
  refine zz_lvs (lv1 := [(0, .ref (ad 0)), (1, .int p0_), (2, .int p1_), (3, .ref (ad 62))]) rfl ?_
  refine zz_aload_n C 3 dL_affinity_0 rfl rfl ?_
  refine zz_iconst (v := (0 : Int32)) C dL_affinity_1 (by decide) ?_
  refine zz_aload_n C 0 dL_affinity_2 rfl rfl ?_
  refine zz_iload_n C 1 dL_affinity_3 rfl rfl ?_
  refine zz_iload_n C 2 dL_affinity_4 rfl rfl ?_
  refine zz_ren (ws' := (zz_wc U ad σ (zz_cm U ad τ ++ [zz_oc U ad o]))) rfl ?_
  obtain ⟨x, h, hf⟩ := zz_bind hf
  rcases x with v | E
  · try dsimp only at hf
    refine zz_callV1 (As := [.int p0_, .int p1_]) (rest := [.int (0 : Int32), .ref (ad 62)]) C 0 (mX7_affinity_r σ p0_ p1_ v h) dL_affinity_5 rfl rfl rfl zwl_11 zy_X7_affinity rfl (by decide) (by decide) (Nat.le_of_ble_eq_true rfl) (Nat.le_of_ble_eq_true rfl) (Nat.le_of_ble_eq_true rfl) rfl ?_
    refine zz_ren (ws' := zz_wl U ad σ τ o) rfl ?_
    refine zz_i2l C dL_affinity_8 ?_
    refine zz_sout C dL_affinity_9 ?_
    cases hf
    refine zz_goto (tgt := 21) C dL_affinity_10 (by decide) ?_
    refine zz_iconst (v := (0 : Int32)) C dL_affinity_21 (by decide) ?_
    exact zz_iret C dL_affinity_22 (And.intro rfl rfl) (Nat.le_of_ble_eq_true rfl) (Nat.le_of_ble_eq_true rfl)
  · try dsimp only at hf
    by_cases g : E = "java/lang/IndexOutOfBoundsException"
    · rw [if_pos g] at hf
      subst g
      cases hf
      refine zz_callVx (As := [.int p0_, .int p1_]) (rest := [.int (0 : Int32), .ref (ad 62)]) C 0 (mX7_affinity_x σ p0_ p1_ _ h) dL_affinity_5 rfl rfl rfl zwl_11 zy_X7_affinity rfl (by decide) (by decide) (Nat.le_of_ble_eq_true rfl) (Nat.le_of_ble_eq_true rfl) (Nat.le_of_ble_eq_true rfl) ?_
      refine zz_catch (lv0 := []) C (h := 13) [] ⟨0, 10, 13, 21⟩ [⟨0, 10, 17, 13⟩] rfl (fun z hz => nomatch hz) (by decide) (by decide) zwl_4 (by decide +kernel) rfl (fun q => ?_)
      refine zz_ren (ws' := zz_wl U ad σ τ o) rfl ?_
      refine zz_astore C dL_affinity_13 (by decide) (lv' := [(4, .ref q), (0, .ref (ad 0)), (1, .int p0_), (2, .int p1_), (3, .ref (ad 62))]) rfl ?_
      refine zz_iconst (v := (1 : Int32)) C dL_affinity_15 (by decide) ?_
      exact zz_iret C dL_affinity_16 (And.intro rfl rfl) (Nat.le_of_ble_eq_true rfl) (Nat.le_of_ble_eq_true rfl)
    · rw [if_neg g] at hf
      by_cases g : E = "java/lang/IllegalArgumentException"
      · rw [if_pos g] at hf
        subst g
        cases hf
        refine zz_callVx (As := [.int p0_, .int p1_]) (rest := [.int (0 : Int32), .ref (ad 62)]) C 0 (mX7_affinity_x σ p0_ p1_ _ h) dL_affinity_5 rfl rfl rfl zwl_11 zy_X7_affinity rfl (by decide) (by decide) (Nat.le_of_ble_eq_true rfl) (Nat.le_of_ble_eq_true rfl) (Nat.le_of_ble_eq_true rfl) ?_
        refine zz_catch (lv0 := []) C (h := 17) [⟨0, 10, 13, 21⟩] ⟨0, 10, 17, 13⟩ [] rfl (fun z hz => by rw [List.mem_singleton] at hz; subst hz; exact Or.inr ⟨by decide, _, zwl_4, by decide +kernel⟩) (by decide) (by decide) zwl_1 (by decide +kernel) rfl (fun q => ?_)
        refine zz_ren (ws' := zz_wl U ad σ τ o) rfl ?_
        refine zz_astore C dL_affinity_17 (by decide) (lv' := [(4, .ref q), (0, .ref (ad 0)), (1, .int p0_), (2, .int p1_), (3, .ref (ad 62))]) rfl ?_
        refine zz_iconst (v := (2 : Int32)) C dL_affinity_19 (by decide) ?_
        exact zz_iret C dL_affinity_20 (And.intro rfl rfl) (Nat.le_of_ble_eq_true rfl) (Nat.le_of_ble_eq_true rfl)
      · rw [if_neg g] at hf
        cases hf
theorem zy_L_closest : zz_YS yL_closest (.codeWith yL_closest cL_closest 4 (some .int) [(0, 9, 12, 21)]) 3 := ⟨⟨List.mem_of_getElem? (i := 680) (by decide +kernel), by decide +kernel⟩, ⟨List.mem_of_getElem? (i := 681) (by decide +kernel), by decide +kernel⟩, ⟨List.mem_of_getElem? (i := 49) (by decide +kernel), by decide +kernel⟩, by decide +kernel, by decide +kernel, by decide +kernel⟩
def fL_closest (σ : zz_St) (o : Nat → Int64) (p0_ : Int32) : Option (Int32 × zz_St × (Nat → Int64)) :=
  (fX7_closest σ p0_).bind fun x =>
  match x with
  | .inl v => some ((0 : Int32), σ, vp_updL o 0 v.toInt64)
  | .inr E => if E = "java/lang/IndexOutOfBoundsException" then some ((1 : Int32), σ, o) else none
theorem dL_closest_0 : decode cL_closest 0 = .ok (.aload_n 2, 1) := by decide +kernel
theorem dL_closest_1 : decode cL_closest 1 = .ok (.iconst 0, 1) := by decide +kernel
theorem dL_closest_2 : decode cL_closest 2 = .ok (.aload_n 0, 1) := by decide +kernel
theorem dL_closest_3 : decode cL_closest 3 = .ok (.iload_n 1, 1) := by decide +kernel
theorem dL_closest_4 : decode cL_closest 4 = .ok (.invokevirtual 48, 3) := by decide +kernel
theorem dL_closest_7 : decode cL_closest 7 = .ok (.i2l, 1) := by decide +kernel
theorem dL_closest_8 : decode cL_closest 8 = .ok (.lastore, 1) := by decide +kernel
theorem dL_closest_9 : decode cL_closest 9 = .ok (.goto 6, 3) := by decide +kernel
theorem dL_closest_12 : decode cL_closest 12 = .ok (.astore_n 3, 1) := by decide +kernel
theorem dL_closest_13 : decode cL_closest 13 = .ok (.iconst 1, 1) := by decide +kernel
theorem dL_closest_14 : decode cL_closest 14 = .ok (.ireturn, 1) := by decide +kernel
theorem dL_closest_15 : decode cL_closest 15 = .ok (.iconst 0, 1) := by decide +kernel
theorem dL_closest_16 : decode cL_closest 16 = .ok (.ireturn, 1) := by decide +kernel
set_option maxHeartbeats 4000000 in
set_option maxRecDepth 100000 in
theorem mL_closest {D : va_G} {U : zz_U} {ad : Nat → Nat} (σ τ : zz_St) (o : Nat → Int64) (p0_ : Int32) (r : (Int32 × zz_St × (Nat → Int64))) (hf : fL_closest σ o p0_ = some r) : zz_Met yL_closest (.codeWith yL_closest cL_closest 4 (some .int) [(0, 9, 12, 21)]) 8 1 6 D U [.ref (ad 0), .int p0_, .ref (ad 62)] (zz_wl U ad σ τ o) (zz_ok (some (.int r.1)) (zz_wl U ad r.2.1 τ r.2.2)) zz_noth := by
  unfold fL_closest at hf
  refine zz_methodH RL rfl (by decide +kernel) (Nat.le_of_ble_eq_true rfl) ?_
  intro p l e s m args below meth c A _ C
  refine zz_lvs (lv1 := [(0, .ref (ad 0)), (1, .int p0_), (2, .ref (ad 62))]) rfl ?_
  refine zz_aload_n C 2 dL_closest_0 rfl rfl ?_
  refine zz_iconst (v := (0 : Int32)) C dL_closest_1 (by decide) ?_
  refine zz_aload_n C 0 dL_closest_2 rfl rfl ?_
  refine zz_iload_n C 1 dL_closest_3 rfl rfl ?_
  refine zz_ren (ws' := (zz_wc U ad σ (zz_cm U ad τ ++ [zz_oc U ad o]))) rfl ?_
  obtain ⟨x, h, hf⟩ := zz_bind hf
  rcases x with v | E
  · try dsimp only at hf
    refine zz_callV1 (As := [.int p0_]) (rest := [.int (0 : Int32), .ref (ad 62)]) C 0 (mX7_closest_r σ p0_ v h) dL_closest_4 rfl rfl rfl zwl_12 zy_X7_closest rfl (by decide) (by decide) (Nat.le_of_ble_eq_true rfl) (Nat.le_of_ble_eq_true rfl) (Nat.le_of_ble_eq_true rfl) rfl ?_
    refine zz_ren (ws' := zz_wl U ad σ τ o) rfl ?_
    refine zz_i2l C dL_closest_7 ?_
    refine zz_sout C dL_closest_8 ?_
    cases hf
    refine zz_goto (tgt := 15) C dL_closest_9 (by decide) ?_
    refine zz_iconst (v := (0 : Int32)) C dL_closest_15 (by decide) ?_
    exact zz_iret C dL_closest_16 (And.intro rfl rfl) (Nat.le_of_ble_eq_true rfl) (Nat.le_of_ble_eq_true rfl)
  · try dsimp only at hf
    by_cases g : E = "java/lang/IndexOutOfBoundsException"
    · rw [if_pos g] at hf
      subst g
      cases hf
      refine zz_callVx (As := [.int p0_]) (rest := [.int (0 : Int32), .ref (ad 62)]) C 0 (mX7_closest_x σ p0_ _ h) dL_closest_4 rfl rfl rfl zwl_12 zy_X7_closest rfl (by decide) (by decide) (Nat.le_of_ble_eq_true rfl) (Nat.le_of_ble_eq_true rfl) (Nat.le_of_ble_eq_true rfl) ?_
      refine zz_catch (lv0 := []) C (h := 12) [] ⟨0, 9, 12, 21⟩ [] rfl (fun z hz => nomatch hz) (by decide) (by decide) zwl_4 (by decide +kernel) rfl (fun q => ?_)
      refine zz_ren (ws' := zz_wl U ad σ τ o) rfl ?_
      refine zz_astore_n C dL_closest_12 rfl (by decide) (lv' := [(3, .ref q), (0, .ref (ad 0)), (1, .int p0_), (2, .ref (ad 62))]) rfl ?_
      refine zz_iconst (v := (1 : Int32)) C dL_closest_13 (by decide) ?_
      exact zz_iret C dL_closest_14 (And.intro rfl rfl) (Nat.le_of_ble_eq_true rfl) (Nat.le_of_ble_eq_true rfl)
    · rw [if_neg g] at hf
      cases hf
theorem zy_L_setThreshold : zz_YS yL_setThreshold (.codeWith yL_setThreshold cL_setThreshold 4 (some .int) [(0, 9, 12, 13)]) 3 := ⟨⟨List.mem_of_getElem? (i := 687) (by decide +kernel), by decide +kernel⟩, ⟨List.mem_of_getElem? (i := 688) (by decide +kernel), by decide +kernel⟩, ⟨List.mem_of_getElem? (i := 49) (by decide +kernel), by decide +kernel⟩, by decide +kernel, by decide +kernel, by decide +kernel⟩
def fL_setThreshold (σ : zz_St) (o : Nat → Int64) (p0_ : Int32) : Option (Int32 × zz_St × (Nat → Int64)) :=
  (fX7_setThreshold σ p0_).bind fun x =>
  match x with
  | (.inl v, σ1) => some ((0 : Int32), σ1, vp_updL o 0 v.toInt64)
  | (.inr E, σ1) => if E = "java/lang/IllegalArgumentException" then some ((1 : Int32), σ1, o) else none
theorem dL_setThreshold_0 : decode cL_setThreshold 0 = .ok (.aload_n 2, 1) := by decide +kernel
theorem dL_setThreshold_1 : decode cL_setThreshold 1 = .ok (.iconst 0, 1) := by decide +kernel
theorem dL_setThreshold_2 : decode cL_setThreshold 2 = .ok (.aload_n 0, 1) := by decide +kernel
theorem dL_setThreshold_3 : decode cL_setThreshold 3 = .ok (.iload_n 1, 1) := by decide +kernel
theorem dL_setThreshold_4 : decode cL_setThreshold 4 = .ok (.invokevirtual 51, 3) := by decide +kernel
theorem dL_setThreshold_7 : decode cL_setThreshold 7 = .ok (.i2l, 1) := by decide +kernel
theorem dL_setThreshold_8 : decode cL_setThreshold 8 = .ok (.lastore, 1) := by decide +kernel
theorem dL_setThreshold_9 : decode cL_setThreshold 9 = .ok (.goto 6, 3) := by decide +kernel
theorem dL_setThreshold_12 : decode cL_setThreshold 12 = .ok (.astore_n 3, 1) := by decide +kernel
theorem dL_setThreshold_13 : decode cL_setThreshold 13 = .ok (.iconst 1, 1) := by decide +kernel
theorem dL_setThreshold_14 : decode cL_setThreshold 14 = .ok (.ireturn, 1) := by decide +kernel
theorem dL_setThreshold_15 : decode cL_setThreshold 15 = .ok (.iconst 0, 1) := by decide +kernel
theorem dL_setThreshold_16 : decode cL_setThreshold 16 = .ok (.ireturn, 1) := by decide +kernel
set_option maxHeartbeats 4000000 in
set_option maxRecDepth 100000 in
theorem mL_setThreshold {D : va_G} {U : zz_U} {ad : Nat → Nat} (σ τ : zz_St) (o : Nat → Int64) (p0_ : Int32) (r : (Int32 × zz_St × (Nat → Int64))) (hf : fL_setThreshold σ o p0_ = some r) : zz_Met yL_setThreshold (.codeWith yL_setThreshold cL_setThreshold 4 (some .int) [(0, 9, 12, 13)]) 7 1 6 D U [.ref (ad 0), .int p0_, .ref (ad 62)] (zz_wl U ad σ τ o) (zz_ok (some (.int r.1)) (zz_wl U ad r.2.1 τ r.2.2)) zz_noth := by
  unfold fL_setThreshold at hf
  refine zz_methodH RL rfl (by decide +kernel) (Nat.le_of_ble_eq_true rfl) ?_
  intro p l e s m args below meth c A _ C
  refine zz_lvs (lv1 := [(0, .ref (ad 0)), (1, .int p0_), (2, .ref (ad 62))]) rfl ?_
  refine zz_aload_n C 2 dL_setThreshold_0 rfl rfl ?_
  refine zz_iconst (v := (0 : Int32)) C dL_setThreshold_1 (by decide) ?_
  refine zz_aload_n C 0 dL_setThreshold_2 rfl rfl ?_
  refine zz_iload_n C 1 dL_setThreshold_3 rfl rfl ?_
  refine zz_ren (ws' := (zz_wc U ad σ (zz_cm U ad τ ++ [zz_oc U ad o]))) rfl ?_
  obtain ⟨⟨x, σ1⟩, h, hf⟩ := zz_bind hf
  rcases x with v | E
  · try dsimp only at hf
    refine zz_callV1 (As := [.int p0_]) (rest := [.int (0 : Int32), .ref (ad 62)]) C 0 (mX7_setThreshold_r σ p0_ v σ1 h) dL_setThreshold_4 rfl rfl rfl zwl_13 zy_X7_setThreshold rfl (by decide) (by decide) (Nat.le_of_ble_eq_true rfl) (Nat.le_of_ble_eq_true rfl) (Nat.le_of_ble_eq_true rfl) rfl ?_
    refine zz_ren (ws' := zz_wl U ad σ1 τ o) rfl ?_
    refine zz_i2l C dL_setThreshold_7 ?_
    refine zz_sout C dL_setThreshold_8 ?_
    cases hf
    refine zz_goto (tgt := 15) C dL_setThreshold_9 (by decide) ?_
    refine zz_iconst (v := (0 : Int32)) C dL_setThreshold_15 (by decide) ?_
    exact zz_iret C dL_setThreshold_16 (And.intro rfl rfl) (Nat.le_of_ble_eq_true rfl) (Nat.le_of_ble_eq_true rfl)
  · try dsimp only at hf
    by_cases g : E = "java/lang/IllegalArgumentException"
    · rw [if_pos g] at hf
      subst g
      cases hf
      refine zz_callVx (As := [.int p0_]) (rest := [.int (0 : Int32), .ref (ad 62)]) C 0 (mX7_setThreshold_x σ p0_ _ σ1 h) dL_setThreshold_4 rfl rfl rfl zwl_13 zy_X7_setThreshold rfl (by decide) (by decide) (Nat.le_of_ble_eq_true rfl) (Nat.le_of_ble_eq_true rfl) (Nat.le_of_ble_eq_true rfl) ?_
      refine zz_catch (lv0 := []) C (h := 12) [] ⟨0, 9, 12, 13⟩ [] rfl (fun z hz => nomatch hz) (by decide) (by decide) zwl_1 (by decide +kernel) rfl (fun q => ?_)
      refine zz_ren (ws' := zz_wl U ad σ1 τ o) rfl ?_
      refine zz_astore_n C dL_setThreshold_12 rfl (by decide) (lv' := [(3, .ref q), (0, .ref (ad 0)), (1, .int p0_), (2, .ref (ad 62))]) rfl ?_
      refine zz_iconst (v := (1 : Int32)) C dL_setThreshold_13 (by decide) ?_
      exact zz_iret C dL_setThreshold_14 (And.intro rfl rfl) (Nat.le_of_ble_eq_true rfl) (Nat.le_of_ble_eq_true rfl)
    · rw [if_neg g] at hf
      cases hf
theorem zy_L_setManner : zz_YS yL_setManner (.codeWith yL_setManner cL_setManner 4 (some .int) [(0, 9, 12, 13)]) 3 := ⟨⟨List.mem_of_getElem? (i := 695) (by decide +kernel), by decide +kernel⟩, ⟨List.mem_of_getElem? (i := 696) (by decide +kernel), by decide +kernel⟩, ⟨List.mem_of_getElem? (i := 49) (by decide +kernel), by decide +kernel⟩, by decide +kernel, by decide +kernel, by decide +kernel⟩
def fL_setManner (σ : zz_St) (o : Nat → Int64) (p0_ : Int32) : Option (Int32 × zz_St × (Nat → Int64)) :=
  (fX7_setManner σ p0_).bind fun x =>
  match x with
  | (.inl v, σ1) => some ((0 : Int32), σ1, vp_updL o 0 v.toInt64)
  | (.inr E, σ1) => if E = "java/lang/IllegalArgumentException" then some ((1 : Int32), σ1, o) else none
theorem dL_setManner_0 : decode cL_setManner 0 = .ok (.aload_n 2, 1) := by decide +kernel
theorem dL_setManner_1 : decode cL_setManner 1 = .ok (.iconst 0, 1) := by decide +kernel
theorem dL_setManner_2 : decode cL_setManner 2 = .ok (.aload_n 0, 1) := by decide +kernel
theorem dL_setManner_3 : decode cL_setManner 3 = .ok (.iload_n 1, 1) := by decide +kernel
theorem dL_setManner_4 : decode cL_setManner 4 = .ok (.invokevirtual 54, 3) := by decide +kernel
theorem dL_setManner_7 : decode cL_setManner 7 = .ok (.i2l, 1) := by decide +kernel
theorem dL_setManner_8 : decode cL_setManner 8 = .ok (.lastore, 1) := by decide +kernel
theorem dL_setManner_9 : decode cL_setManner 9 = .ok (.goto 6, 3) := by decide +kernel
theorem dL_setManner_12 : decode cL_setManner 12 = .ok (.astore_n 3, 1) := by decide +kernel
theorem dL_setManner_13 : decode cL_setManner 13 = .ok (.iconst 1, 1) := by decide +kernel
theorem dL_setManner_14 : decode cL_setManner 14 = .ok (.ireturn, 1) := by decide +kernel
theorem dL_setManner_15 : decode cL_setManner 15 = .ok (.iconst 0, 1) := by decide +kernel
theorem dL_setManner_16 : decode cL_setManner 16 = .ok (.ireturn, 1) := by decide +kernel
set_option maxHeartbeats 4000000 in
set_option maxRecDepth 100000 in
theorem mL_setManner {D : va_G} {U : zz_U} {ad : Nat → Nat} (σ τ : zz_St) (o : Nat → Int64) (p0_ : Int32) (r : (Int32 × zz_St × (Nat → Int64))) (hf : fL_setManner σ o p0_ = some r) : zz_Met yL_setManner (.codeWith yL_setManner cL_setManner 4 (some .int) [(0, 9, 12, 13)]) 7 1 6 D U [.ref (ad 0), .int p0_, .ref (ad 62)] (zz_wl U ad σ τ o) (zz_ok (some (.int r.1)) (zz_wl U ad r.2.1 τ r.2.2)) zz_noth := by
  unfold fL_setManner at hf
  refine zz_methodH RL rfl (by decide +kernel) (Nat.le_of_ble_eq_true rfl) ?_
  intro p l e s m args below meth c A _ C
  refine zz_lvs (lv1 := [(0, .ref (ad 0)), (1, .int p0_), (2, .ref (ad 62))]) rfl ?_
  refine zz_aload_n C 2 dL_setManner_0 rfl rfl ?_
  refine zz_iconst (v := (0 : Int32)) C dL_setManner_1 (by decide) ?_
  refine zz_aload_n C 0 dL_setManner_2 rfl rfl ?_
  refine zz_iload_n C 1 dL_setManner_3 rfl rfl ?_
  refine zz_ren (ws' := (zz_wc U ad σ (zz_cm U ad τ ++ [zz_oc U ad o]))) rfl ?_
  obtain ⟨⟨x, σ1⟩, h, hf⟩ := zz_bind hf
  rcases x with v | E
  · try dsimp only at hf
    refine zz_callV1 (As := [.int p0_]) (rest := [.int (0 : Int32), .ref (ad 62)]) C 0 (mX7_setManner_r σ p0_ v σ1 h) dL_setManner_4 rfl rfl rfl zwl_14 zy_X7_setManner rfl (by decide) (by decide) (Nat.le_of_ble_eq_true rfl) (Nat.le_of_ble_eq_true rfl) (Nat.le_of_ble_eq_true rfl) rfl ?_
    refine zz_ren (ws' := zz_wl U ad σ1 τ o) rfl ?_
    refine zz_i2l C dL_setManner_7 ?_
    refine zz_sout C dL_setManner_8 ?_
    cases hf
    refine zz_goto (tgt := 15) C dL_setManner_9 (by decide) ?_
    refine zz_iconst (v := (0 : Int32)) C dL_setManner_15 (by decide) ?_
    exact zz_iret C dL_setManner_16 (And.intro rfl rfl) (Nat.le_of_ble_eq_true rfl) (Nat.le_of_ble_eq_true rfl)
  · try dsimp only at hf
    by_cases g : E = "java/lang/IllegalArgumentException"
    · rw [if_pos g] at hf
      subst g
      cases hf
      refine zz_callVx (As := [.int p0_]) (rest := [.int (0 : Int32), .ref (ad 62)]) C 0 (mX7_setManner_x σ p0_ _ σ1 h) dL_setManner_4 rfl rfl rfl zwl_14 zy_X7_setManner rfl (by decide) (by decide) (Nat.le_of_ble_eq_true rfl) (Nat.le_of_ble_eq_true rfl) (Nat.le_of_ble_eq_true rfl) ?_
      refine zz_catch (lv0 := []) C (h := 12) [] ⟨0, 9, 12, 13⟩ [] rfl (fun z hz => nomatch hz) (by decide) (by decide) zwl_1 (by decide +kernel) rfl (fun q => ?_)
      refine zz_ren (ws' := zz_wl U ad σ1 τ o) rfl ?_
      refine zz_astore_n C dL_setManner_12 rfl (by decide) (lv' := [(3, .ref q), (0, .ref (ad 0)), (1, .int p0_), (2, .ref (ad 62))]) rfl ?_
      refine zz_iconst (v := (1 : Int32)) C dL_setManner_13 (by decide) ?_
      exact zz_iret C dL_setManner_14 (And.intro rfl rfl) (Nat.le_of_ble_eq_true rfl) (Nat.le_of_ble_eq_true rfl)
    · rw [if_neg g] at hf
      cases hf
theorem zy_L_say : zz_YS yL_say (.codeWith yL_say cL_say 6 (some .int) [(0, 12, 15, 21), (0, 12, 19, 13), (0, 12, 23, 15)]) 5 := ⟨⟨List.mem_of_getElem? (i := 703) (by decide +kernel), by decide +kernel⟩, ⟨List.mem_of_getElem? (i := 704) (by decide +kernel), by decide +kernel⟩, ⟨List.mem_of_getElem? (i := 49) (by decide +kernel), by decide +kernel⟩, by decide +kernel, by decide +kernel, by decide +kernel⟩
def fL_say (σ : zz_St) (o : Nat → Int64) (p0_ : Int32) (p1_ : Int32) (p2_ : Int32) : Option (Int32 × zz_St × (Nat → Int64)) :=
  (fX7_say σ p0_ p1_ p2_).bind fun x =>
  match x with
  | (.inl v, σ1) => some ((0 : Int32), σ1, vp_updL o 0 v.toInt64)
  | (.inr E, σ1) => if E = "java/lang/IndexOutOfBoundsException" then some ((1 : Int32), σ1, o) else if E = "java/lang/IllegalArgumentException" then some ((2 : Int32), σ1, o) else if E = "java/lang/IllegalStateException" then some ((3 : Int32), σ1, o) else none
theorem dL_say_0 : decode cL_say 0 = .ok (.aload 4, 2) := by decide +kernel
theorem dL_say_2 : decode cL_say 2 = .ok (.iconst 0, 1) := by decide +kernel
theorem dL_say_3 : decode cL_say 3 = .ok (.aload_n 0, 1) := by decide +kernel
theorem dL_say_4 : decode cL_say 4 = .ok (.iload_n 1, 1) := by decide +kernel
theorem dL_say_5 : decode cL_say 5 = .ok (.iload_n 2, 1) := by decide +kernel
theorem dL_say_6 : decode cL_say 6 = .ok (.iload_n 3, 1) := by decide +kernel
theorem dL_say_7 : decode cL_say 7 = .ok (.invokevirtual 57, 3) := by decide +kernel
theorem dL_say_10 : decode cL_say 10 = .ok (.i2l, 1) := by decide +kernel
theorem dL_say_11 : decode cL_say 11 = .ok (.lastore, 1) := by decide +kernel
theorem dL_say_12 : decode cL_say 12 = .ok (.goto 15, 3) := by decide +kernel
theorem dL_say_15 : decode cL_say 15 = .ok (.astore 5, 2) := by decide +kernel
theorem dL_say_17 : decode cL_say 17 = .ok (.iconst 1, 1) := by decide +kernel
theorem dL_say_18 : decode cL_say 18 = .ok (.ireturn, 1) := by decide +kernel
theorem dL_say_19 : decode cL_say 19 = .ok (.astore 5, 2) := by decide +kernel
theorem dL_say_21 : decode cL_say 21 = .ok (.iconst 2, 1) := by decide +kernel
theorem dL_say_22 : decode cL_say 22 = .ok (.ireturn, 1) := by decide +kernel
theorem dL_say_23 : decode cL_say 23 = .ok (.astore 5, 2) := by decide +kernel
theorem dL_say_25 : decode cL_say 25 = .ok (.iconst 3, 1) := by decide +kernel
theorem dL_say_26 : decode cL_say 26 = .ok (.ireturn, 1) := by decide +kernel
theorem dL_say_27 : decode cL_say 27 = .ok (.iconst 0, 1) := by decide +kernel
theorem dL_say_28 : decode cL_say 28 = .ok (.ireturn, 1) := by decide +kernel
set_option maxHeartbeats 4000000 in
set_option maxRecDepth 100000 in
theorem mL_say {D : va_G} {U : zz_U} {ad : Nat → Nat} (σ τ : zz_St) (o : Nat → Int64) (p0_ : Int32) (p1_ : Int32) (p2_ : Int32) (r : (Int32 × zz_St × (Nat → Int64))) (hf : fL_say σ o p0_ p1_ p2_ = some r) : zz_Met yL_say (.codeWith yL_say cL_say 6 (some .int) [(0, 12, 15, 21), (0, 12, 19, 13), (0, 12, 23, 15)]) 8 4 24 D U [.ref (ad 0), .int p0_, .int p1_, .int p2_, .ref (ad 62)] (zz_wl U ad σ τ o) (zz_ok (some (.int r.1)) (zz_wl U ad r.2.1 τ r.2.2)) zz_noth := by
  unfold fL_say at hf
  refine zz_methodH RL rfl (by decide +kernel) (Nat.le_of_ble_eq_true rfl) ?_
  intro p l e s m args below meth c A _ C
  refine zz_lvs (lv1 := [(0, .ref (ad 0)), (1, .int p0_), (2, .int p1_), (3, .int p2_), (4, .ref (ad 62))]) rfl ?_
  refine zz_aload C 4 dL_say_0 rfl ?_
  refine zz_iconst (v := (0 : Int32)) C dL_say_2 (by decide) ?_
  refine zz_aload_n C 0 dL_say_3 rfl rfl ?_
  refine zz_iload_n C 1 dL_say_4 rfl rfl ?_
  refine zz_iload_n C 2 dL_say_5 rfl rfl ?_
  refine zz_iload_n C 3 dL_say_6 rfl rfl ?_
  refine zz_ren (ws' := (zz_wc U ad σ (zz_cm U ad τ ++ [zz_oc U ad o]))) rfl ?_
  obtain ⟨⟨x, σ1⟩, h, hf⟩ := zz_bind hf
  rcases x with v | E
  · try dsimp only at hf
    refine zz_callV1 (As := [.int p0_, .int p1_, .int p2_]) (rest := [.int (0 : Int32), .ref (ad 62)]) C 0 (mX7_say_r σ p0_ p1_ p2_ v σ1 h) dL_say_7 rfl rfl rfl zwl_15 zy_X7_say rfl (by decide) (by decide) (Nat.le_of_ble_eq_true rfl) (Nat.le_of_ble_eq_true rfl) (Nat.le_of_ble_eq_true rfl) rfl ?_
    refine zz_ren (ws' := zz_wl U ad σ1 τ o) rfl ?_
    refine zz_i2l C dL_say_10 ?_
    refine zz_sout C dL_say_11 ?_
    cases hf
    refine zz_goto (tgt := 27) C dL_say_12 (by decide) ?_
    refine zz_iconst (v := (0 : Int32)) C dL_say_27 (by decide) ?_
    exact zz_iret C dL_say_28 (And.intro rfl rfl) (Nat.le_of_ble_eq_true rfl) (Nat.le_of_ble_eq_true rfl)
  · try dsimp only at hf
    by_cases g : E = "java/lang/IndexOutOfBoundsException"
    · rw [if_pos g] at hf
      subst g
      cases hf
      refine zz_callVx (As := [.int p0_, .int p1_, .int p2_]) (rest := [.int (0 : Int32), .ref (ad 62)]) C 0 (mX7_say_x σ p0_ p1_ p2_ _ σ1 h) dL_say_7 rfl rfl rfl zwl_15 zy_X7_say rfl (by decide) (by decide) (Nat.le_of_ble_eq_true rfl) (Nat.le_of_ble_eq_true rfl) (Nat.le_of_ble_eq_true rfl) ?_
      refine zz_catch (lv0 := []) C (h := 15) [] ⟨0, 12, 15, 21⟩ [⟨0, 12, 19, 13⟩, ⟨0, 12, 23, 15⟩] rfl (fun z hz => nomatch hz) (by decide) (by decide) zwl_4 (by decide +kernel) rfl (fun q => ?_)
      refine zz_ren (ws' := zz_wl U ad σ1 τ o) rfl ?_
      refine zz_astore C dL_say_15 (by decide) (lv' := [(5, .ref q), (0, .ref (ad 0)), (1, .int p0_), (2, .int p1_), (3, .int p2_), (4, .ref (ad 62))]) rfl ?_
      refine zz_iconst (v := (1 : Int32)) C dL_say_17 (by decide) ?_
      exact zz_iret C dL_say_18 (And.intro rfl rfl) (Nat.le_of_ble_eq_true rfl) (Nat.le_of_ble_eq_true rfl)
    · rw [if_neg g] at hf
      by_cases g : E = "java/lang/IllegalArgumentException"
      · rw [if_pos g] at hf
        subst g
        cases hf
        refine zz_callVx (As := [.int p0_, .int p1_, .int p2_]) (rest := [.int (0 : Int32), .ref (ad 62)]) C 0 (mX7_say_x σ p0_ p1_ p2_ _ σ1 h) dL_say_7 rfl rfl rfl zwl_15 zy_X7_say rfl (by decide) (by decide) (Nat.le_of_ble_eq_true rfl) (Nat.le_of_ble_eq_true rfl) (Nat.le_of_ble_eq_true rfl) ?_
        refine zz_catch (lv0 := []) C (h := 19) [⟨0, 12, 15, 21⟩] ⟨0, 12, 19, 13⟩ [⟨0, 12, 23, 15⟩] rfl (fun z hz => by rw [List.mem_singleton] at hz; subst hz; exact Or.inr ⟨by decide, _, zwl_4, by decide +kernel⟩) (by decide) (by decide) zwl_1 (by decide +kernel) rfl (fun q => ?_)
        refine zz_ren (ws' := zz_wl U ad σ1 τ o) rfl ?_
        refine zz_astore C dL_say_19 (by decide) (lv' := [(5, .ref q), (0, .ref (ad 0)), (1, .int p0_), (2, .int p1_), (3, .int p2_), (4, .ref (ad 62))]) rfl ?_
        refine zz_iconst (v := (2 : Int32)) C dL_say_21 (by decide) ?_
        exact zz_iret C dL_say_22 (And.intro rfl rfl) (Nat.le_of_ble_eq_true rfl) (Nat.le_of_ble_eq_true rfl)
      · rw [if_neg g] at hf
        by_cases g : E = "java/lang/IllegalStateException"
        · rw [if_pos g] at hf
          subst g
          cases hf
          refine zz_callVx (As := [.int p0_, .int p1_, .int p2_]) (rest := [.int (0 : Int32), .ref (ad 62)]) C 0 (mX7_say_x σ p0_ p1_ p2_ _ σ1 h) dL_say_7 rfl rfl rfl zwl_15 zy_X7_say rfl (by decide) (by decide) (Nat.le_of_ble_eq_true rfl) (Nat.le_of_ble_eq_true rfl) (Nat.le_of_ble_eq_true rfl) ?_
          refine zz_catch (lv0 := []) C (h := 23) [⟨0, 12, 15, 21⟩, ⟨0, 12, 19, 13⟩] ⟨0, 12, 23, 15⟩ [] rfl (fun z hz => by rcases List.mem_cons.mp hz with rfl | hz; (exact Or.inr ⟨by decide, _, zwl_4, by decide +kernel⟩); rw [List.mem_singleton] at hz; subst hz; (exact Or.inr ⟨by decide, _, zwl_1, by decide +kernel⟩)) (by decide) (by decide) zwl_2 (by decide +kernel) rfl (fun q => ?_)
          refine zz_ren (ws' := zz_wl U ad σ1 τ o) rfl ?_
          refine zz_astore C dL_say_23 (by decide) (lv' := [(5, .ref q), (0, .ref (ad 0)), (1, .int p0_), (2, .int p1_), (3, .int p2_), (4, .ref (ad 62))]) rfl ?_
          refine zz_iconst (v := (3 : Int32)) C dL_say_25 (by decide) ?_
          exact zz_iret C dL_say_26 (And.intro rfl rfl) (Nat.le_of_ble_eq_true rfl) (Nat.le_of_ble_eq_true rfl)
        · rw [if_neg g] at hf
          cases hf
theorem zy_L_group : zz_YS yL_group (.codeWith yL_group cL_group 4 (some .int) [(0, 9, 12, 21)]) 3 := ⟨⟨List.mem_of_getElem? (i := 725) (by decide +kernel), by decide +kernel⟩, ⟨List.mem_of_getElem? (i := 726) (by decide +kernel), by decide +kernel⟩, ⟨List.mem_of_getElem? (i := 49) (by decide +kernel), by decide +kernel⟩, by decide +kernel, by decide +kernel, by decide +kernel⟩
def fL_group (σ : zz_St) (o : Nat → Int64) (p0_ : Int32) : Option (Int32 × zz_St × (Nat → Int64)) :=
  (fX7_group σ p0_).bind fun x =>
  match x with
  | (.inl v, σ1) => some ((0 : Int32), σ1, vp_updL o 0 v.toInt64)
  | (.inr E, σ1) => if E = "java/lang/IndexOutOfBoundsException" then some ((1 : Int32), σ1, o) else none
theorem dL_group_0 : decode cL_group 0 = .ok (.aload_n 2, 1) := by decide +kernel
theorem dL_group_1 : decode cL_group 1 = .ok (.iconst 0, 1) := by decide +kernel
theorem dL_group_2 : decode cL_group 2 = .ok (.aload_n 0, 1) := by decide +kernel
theorem dL_group_3 : decode cL_group 3 = .ok (.iload_n 1, 1) := by decide +kernel
theorem dL_group_4 : decode cL_group 4 = .ok (.invokevirtual 60, 3) := by decide +kernel
theorem dL_group_7 : decode cL_group 7 = .ok (.i2l, 1) := by decide +kernel
theorem dL_group_8 : decode cL_group 8 = .ok (.lastore, 1) := by decide +kernel
theorem dL_group_9 : decode cL_group 9 = .ok (.goto 6, 3) := by decide +kernel
theorem dL_group_12 : decode cL_group 12 = .ok (.astore_n 3, 1) := by decide +kernel
theorem dL_group_13 : decode cL_group 13 = .ok (.iconst 1, 1) := by decide +kernel
theorem dL_group_14 : decode cL_group 14 = .ok (.ireturn, 1) := by decide +kernel
theorem dL_group_15 : decode cL_group 15 = .ok (.iconst 0, 1) := by decide +kernel
theorem dL_group_16 : decode cL_group 16 = .ok (.ireturn, 1) := by decide +kernel
set_option maxHeartbeats 4000000 in
set_option maxRecDepth 100000 in
theorem mL_group {D : va_G} {U : zz_U} {ad : Nat → Nat} (σ τ : zz_St) (o : Nat → Int64) (p0_ : Int32) (r : (Int32 × zz_St × (Nat → Int64))) (hf : fL_group σ o p0_ = some r) : zz_Met yL_group (.codeWith yL_group cL_group 4 (some .int) [(0, 9, 12, 21)]) 8 1 6 D U [.ref (ad 0), .int p0_, .ref (ad 62)] (zz_wl U ad σ τ o) (zz_ok (some (.int r.1)) (zz_wl U ad r.2.1 τ r.2.2)) zz_noth := by
  unfold fL_group at hf
  refine zz_methodH RL rfl (by decide +kernel) (Nat.le_of_ble_eq_true rfl) ?_
  intro p l e s m args below meth c A _ C
  refine zz_lvs (lv1 := [(0, .ref (ad 0)), (1, .int p0_), (2, .ref (ad 62))]) rfl ?_
  refine zz_aload_n C 2 dL_group_0 rfl rfl ?_
  refine zz_iconst (v := (0 : Int32)) C dL_group_1 (by decide) ?_
  refine zz_aload_n C 0 dL_group_2 rfl rfl ?_
  refine zz_iload_n C 1 dL_group_3 rfl rfl ?_
  refine zz_ren (ws' := (zz_wc U ad σ (zz_cm U ad τ ++ [zz_oc U ad o]))) rfl ?_
  obtain ⟨⟨x, σ1⟩, h, hf⟩ := zz_bind hf
  rcases x with v | E
  · try dsimp only at hf
    refine zz_callV1 (As := [.int p0_]) (rest := [.int (0 : Int32), .ref (ad 62)]) C 0 (mX7_group_r σ p0_ v σ1 h) dL_group_4 rfl rfl rfl zwl_16 zy_X7_group rfl (by decide) (by decide) (Nat.le_of_ble_eq_true rfl) (Nat.le_of_ble_eq_true rfl) (Nat.le_of_ble_eq_true rfl) rfl ?_
    refine zz_ren (ws' := zz_wl U ad σ1 τ o) rfl ?_
    refine zz_i2l C dL_group_7 ?_
    refine zz_sout C dL_group_8 ?_
    cases hf
    refine zz_goto (tgt := 15) C dL_group_9 (by decide) ?_
    refine zz_iconst (v := (0 : Int32)) C dL_group_15 (by decide) ?_
    exact zz_iret C dL_group_16 (And.intro rfl rfl) (Nat.le_of_ble_eq_true rfl) (Nat.le_of_ble_eq_true rfl)
  · try dsimp only at hf
    by_cases g : E = "java/lang/IndexOutOfBoundsException"
    · rw [if_pos g] at hf
      subst g
      cases hf
      refine zz_callVx (As := [.int p0_]) (rest := [.int (0 : Int32), .ref (ad 62)]) C 0 (mX7_group_x σ p0_ _ σ1 h) dL_group_4 rfl rfl rfl zwl_16 zy_X7_group rfl (by decide) (by decide) (Nat.le_of_ble_eq_true rfl) (Nat.le_of_ble_eq_true rfl) (Nat.le_of_ble_eq_true rfl) ?_
      refine zz_catch (lv0 := []) C (h := 12) [] ⟨0, 9, 12, 21⟩ [] rfl (fun z hz => nomatch hz) (by decide) (by decide) zwl_4 (by decide +kernel) rfl (fun q => ?_)
      refine zz_ren (ws' := zz_wl U ad σ1 τ o) rfl ?_
      refine zz_astore_n C dL_group_12 rfl (by decide) (lv' := [(3, .ref q), (0, .ref (ad 0)), (1, .int p0_), (2, .ref (ad 62))]) rfl ?_
      refine zz_iconst (v := (1 : Int32)) C dL_group_13 (by decide) ?_
      exact zz_iret C dL_group_14 (And.intro rfl rfl) (Nat.le_of_ble_eq_true rfl) (Nat.le_of_ble_eq_true rfl)
    · rw [if_neg g] at hf
      cases hf
theorem zy_L_groupOf : zz_YS yL_groupOf (.codeWith yL_groupOf cL_groupOf 4 (some .int) [(0, 9, 12, 21)]) 3 := ⟨⟨List.mem_of_getElem? (i := 737) (by decide +kernel), by decide +kernel⟩, ⟨List.mem_of_getElem? (i := 738) (by decide +kernel), by decide +kernel⟩, ⟨List.mem_of_getElem? (i := 49) (by decide +kernel), by decide +kernel⟩, by decide +kernel, by decide +kernel, by decide +kernel⟩
def fL_groupOf (σ : zz_St) (o : Nat → Int64) (p0_ : Int32) : Option (Int32 × zz_St × (Nat → Int64)) :=
  (fX7_groupOf σ p0_).bind fun x =>
  match x with
  | (.inl v, σ1) => some ((0 : Int32), σ1, vp_updL o 0 v.toInt64)
  | (.inr E, σ1) => if E = "java/lang/IndexOutOfBoundsException" then some ((1 : Int32), σ1, o) else none
theorem dL_groupOf_0 : decode cL_groupOf 0 = .ok (.aload_n 2, 1) := by decide +kernel
theorem dL_groupOf_1 : decode cL_groupOf 1 = .ok (.iconst 0, 1) := by decide +kernel
theorem dL_groupOf_2 : decode cL_groupOf 2 = .ok (.aload_n 0, 1) := by decide +kernel
theorem dL_groupOf_3 : decode cL_groupOf 3 = .ok (.iload_n 1, 1) := by decide +kernel
theorem dL_groupOf_4 : decode cL_groupOf 4 = .ok (.invokevirtual 63, 3) := by decide +kernel
theorem dL_groupOf_7 : decode cL_groupOf 7 = .ok (.i2l, 1) := by decide +kernel
theorem dL_groupOf_8 : decode cL_groupOf 8 = .ok (.lastore, 1) := by decide +kernel
theorem dL_groupOf_9 : decode cL_groupOf 9 = .ok (.goto 6, 3) := by decide +kernel
theorem dL_groupOf_12 : decode cL_groupOf 12 = .ok (.astore_n 3, 1) := by decide +kernel
theorem dL_groupOf_13 : decode cL_groupOf 13 = .ok (.iconst 1, 1) := by decide +kernel
theorem dL_groupOf_14 : decode cL_groupOf 14 = .ok (.ireturn, 1) := by decide +kernel
theorem dL_groupOf_15 : decode cL_groupOf 15 = .ok (.iconst 0, 1) := by decide +kernel
theorem dL_groupOf_16 : decode cL_groupOf 16 = .ok (.ireturn, 1) := by decide +kernel
set_option maxHeartbeats 4000000 in
set_option maxRecDepth 100000 in
theorem mL_groupOf {D : va_G} {U : zz_U} {ad : Nat → Nat} (σ τ : zz_St) (o : Nat → Int64) (p0_ : Int32) (r : (Int32 × zz_St × (Nat → Int64))) (hf : fL_groupOf σ o p0_ = some r) : zz_Met yL_groupOf (.codeWith yL_groupOf cL_groupOf 4 (some .int) [(0, 9, 12, 21)]) 8 1 6 D U [.ref (ad 0), .int p0_, .ref (ad 62)] (zz_wl U ad σ τ o) (zz_ok (some (.int r.1)) (zz_wl U ad r.2.1 τ r.2.2)) zz_noth := by
  unfold fL_groupOf at hf
  refine zz_methodH RL rfl (by decide +kernel) (Nat.le_of_ble_eq_true rfl) ?_
  intro p l e s m args below meth c A _ C
  refine zz_lvs (lv1 := [(0, .ref (ad 0)), (1, .int p0_), (2, .ref (ad 62))]) rfl ?_
  refine zz_aload_n C 2 dL_groupOf_0 rfl rfl ?_
  refine zz_iconst (v := (0 : Int32)) C dL_groupOf_1 (by decide) ?_
  refine zz_aload_n C 0 dL_groupOf_2 rfl rfl ?_
  refine zz_iload_n C 1 dL_groupOf_3 rfl rfl ?_
  refine zz_ren (ws' := (zz_wc U ad σ (zz_cm U ad τ ++ [zz_oc U ad o]))) rfl ?_
  obtain ⟨⟨x, σ1⟩, h, hf⟩ := zz_bind hf
  rcases x with v | E
  · try dsimp only at hf
    refine zz_callV1 (As := [.int p0_]) (rest := [.int (0 : Int32), .ref (ad 62)]) C 0 (mX7_groupOf_r σ p0_ v σ1 h) dL_groupOf_4 rfl rfl rfl zwl_17 zy_X7_groupOf rfl (by decide) (by decide) (Nat.le_of_ble_eq_true rfl) (Nat.le_of_ble_eq_true rfl) (Nat.le_of_ble_eq_true rfl) rfl ?_
    refine zz_ren (ws' := zz_wl U ad σ1 τ o) rfl ?_
    refine zz_i2l C dL_groupOf_7 ?_
    refine zz_sout C dL_groupOf_8 ?_
    cases hf
    refine zz_goto (tgt := 15) C dL_groupOf_9 (by decide) ?_
    refine zz_iconst (v := (0 : Int32)) C dL_groupOf_15 (by decide) ?_
    exact zz_iret C dL_groupOf_16 (And.intro rfl rfl) (Nat.le_of_ble_eq_true rfl) (Nat.le_of_ble_eq_true rfl)
  · try dsimp only at hf
    by_cases g : E = "java/lang/IndexOutOfBoundsException"
    · rw [if_pos g] at hf
      subst g
      cases hf
      refine zz_callVx (As := [.int p0_]) (rest := [.int (0 : Int32), .ref (ad 62)]) C 0 (mX7_groupOf_x σ p0_ _ σ1 h) dL_groupOf_4 rfl rfl rfl zwl_17 zy_X7_groupOf rfl (by decide) (by decide) (Nat.le_of_ble_eq_true rfl) (Nat.le_of_ble_eq_true rfl) (Nat.le_of_ble_eq_true rfl) ?_
      refine zz_catch (lv0 := []) C (h := 12) [] ⟨0, 9, 12, 21⟩ [] rfl (fun z hz => nomatch hz) (by decide) (by decide) zwl_4 (by decide +kernel) rfl (fun q => ?_)
      refine zz_ren (ws' := zz_wl U ad σ1 τ o) rfl ?_
      refine zz_astore_n C dL_groupOf_12 rfl (by decide) (lv' := [(3, .ref q), (0, .ref (ad 0)), (1, .int p0_), (2, .ref (ad 62))]) rfl ?_
      refine zz_iconst (v := (1 : Int32)) C dL_groupOf_13 (by decide) ?_
      exact zz_iret C dL_groupOf_14 (And.intro rfl rfl) (Nat.le_of_ble_eq_true rfl) (Nat.le_of_ble_eq_true rfl)
    · rw [if_neg g] at hf
      cases hf
theorem zy_L_linkage : zz_YS yL_linkage (.codeWith yL_linkage cL_linkage 5 (some .int) [(0, 10, 13, 21), (0, 10, 17, 13)]) 4 := ⟨⟨List.mem_of_getElem? (i := 745) (by decide +kernel), by decide +kernel⟩, ⟨List.mem_of_getElem? (i := 746) (by decide +kernel), by decide +kernel⟩, ⟨List.mem_of_getElem? (i := 49) (by decide +kernel), by decide +kernel⟩, by decide +kernel, by decide +kernel, by decide +kernel⟩
def fL_linkage (σ : zz_St) (o : Nat → Int64) (p0_ : Int32) (p1_ : Int32) : Option (Int32 × zz_St × (Nat → Int64)) :=
  (fX7_linkage σ p0_ p1_).bind fun x =>
  match x with
  | (.inl v, σ1) => some ((0 : Int32), σ1, vp_updL o 0 v.toInt64)
  | (.inr E, σ1) => if E = "java/lang/IndexOutOfBoundsException" then some ((1 : Int32), σ1, o) else if E = "java/lang/IllegalArgumentException" then some ((2 : Int32), σ1, o) else none
theorem dL_linkage_0 : decode cL_linkage 0 = .ok (.aload_n 3, 1) := by decide +kernel
theorem dL_linkage_1 : decode cL_linkage 1 = .ok (.iconst 0, 1) := by decide +kernel
theorem dL_linkage_2 : decode cL_linkage 2 = .ok (.aload_n 0, 1) := by decide +kernel
theorem dL_linkage_3 : decode cL_linkage 3 = .ok (.iload_n 1, 1) := by decide +kernel
theorem dL_linkage_4 : decode cL_linkage 4 = .ok (.iload_n 2, 1) := by decide +kernel
theorem dL_linkage_5 : decode cL_linkage 5 = .ok (.invokevirtual 66, 3) := by decide +kernel
theorem dL_linkage_8 : decode cL_linkage 8 = .ok (.i2l, 1) := by decide +kernel
theorem dL_linkage_9 : decode cL_linkage 9 = .ok (.lastore, 1) := by decide +kernel
theorem dL_linkage_10 : decode cL_linkage 10 = .ok (.goto 11, 3) := by decide +kernel
theorem dL_linkage_13 : decode cL_linkage 13 = .ok (.astore 4, 2) := by decide +kernel
theorem dL_linkage_15 : decode cL_linkage 15 = .ok (.iconst 1, 1) := by decide +kernel
theorem dL_linkage_16 : decode cL_linkage 16 = .ok (.ireturn, 1) := by decide +kernel
theorem dL_linkage_17 : decode cL_linkage 17 = .ok (.astore 4, 2) := by decide +kernel
theorem dL_linkage_19 : decode cL_linkage 19 = .ok (.iconst 2, 1) := by decide +kernel
theorem dL_linkage_20 : decode cL_linkage 20 = .ok (.ireturn, 1) := by decide +kernel
theorem dL_linkage_21 : decode cL_linkage 21 = .ok (.iconst 0, 1) := by decide +kernel
theorem dL_linkage_22 : decode cL_linkage 22 = .ok (.ireturn, 1) := by decide +kernel
set_option maxHeartbeats 4000000 in
set_option maxRecDepth 100000 in
theorem mL_linkage {D : va_G} {U : zz_U} {ad : Nat → Nat} (σ τ : zz_St) (o : Nat → Int64) (p0_ : Int32) (p1_ : Int32) (r : (Int32 × zz_St × (Nat → Int64))) (hf : fL_linkage σ o p0_ p1_ = some r) : zz_Met yL_linkage (.codeWith yL_linkage cL_linkage 5 (some .int) [(0, 10, 13, 21), (0, 10, 17, 13)]) 8 3 18 D U [.ref (ad 0), .int p0_, .int p1_, .ref (ad 62)] (zz_wl U ad σ τ o) (zz_ok (some (.int r.1)) (zz_wl U ad r.2.1 τ r.2.2)) zz_noth := by
  unfold fL_linkage at hf
  refine zz_methodH RL rfl (by decide +kernel) (Nat.le_of_ble_eq_true rfl) ?_
  intro p l e s m args below meth c A _ C
  refine zz_lvs (lv1 := [(0, .ref (ad 0)), (1, .int p0_), (2, .int p1_), (3, .ref (ad 62))]) rfl ?_
  refine zz_aload_n C 3 dL_linkage_0 rfl rfl ?_
  refine zz_iconst (v := (0 : Int32)) C dL_linkage_1 (by decide) ?_
  refine zz_aload_n C 0 dL_linkage_2 rfl rfl ?_
  refine zz_iload_n C 1 dL_linkage_3 rfl rfl ?_
  refine zz_iload_n C 2 dL_linkage_4 rfl rfl ?_
  refine zz_ren (ws' := (zz_wc U ad σ (zz_cm U ad τ ++ [zz_oc U ad o]))) rfl ?_
  obtain ⟨⟨x, σ1⟩, h, hf⟩ := zz_bind hf
  rcases x with v | E
  · try dsimp only at hf
    refine zz_callV1 (As := [.int p0_, .int p1_]) (rest := [.int (0 : Int32), .ref (ad 62)]) C 0 (mX7_linkage_r σ p0_ p1_ v σ1 h) dL_linkage_5 rfl rfl rfl zwl_18 zy_X7_linkage rfl (by decide) (by decide) (Nat.le_of_ble_eq_true rfl) (Nat.le_of_ble_eq_true rfl) (Nat.le_of_ble_eq_true rfl) rfl ?_
    refine zz_ren (ws' := zz_wl U ad σ1 τ o) rfl ?_
    refine zz_i2l C dL_linkage_8 ?_
    refine zz_sout C dL_linkage_9 ?_
    cases hf
    refine zz_goto (tgt := 21) C dL_linkage_10 (by decide) ?_
    refine zz_iconst (v := (0 : Int32)) C dL_linkage_21 (by decide) ?_
    exact zz_iret C dL_linkage_22 (And.intro rfl rfl) (Nat.le_of_ble_eq_true rfl) (Nat.le_of_ble_eq_true rfl)
  · try dsimp only at hf
    by_cases g : E = "java/lang/IndexOutOfBoundsException"
    · rw [if_pos g] at hf
      subst g
      cases hf
      refine zz_callVx (As := [.int p0_, .int p1_]) (rest := [.int (0 : Int32), .ref (ad 62)]) C 0 (mX7_linkage_x σ p0_ p1_ _ σ1 h) dL_linkage_5 rfl rfl rfl zwl_18 zy_X7_linkage rfl (by decide) (by decide) (Nat.le_of_ble_eq_true rfl) (Nat.le_of_ble_eq_true rfl) (Nat.le_of_ble_eq_true rfl) ?_
      refine zz_catch (lv0 := []) C (h := 13) [] ⟨0, 10, 13, 21⟩ [⟨0, 10, 17, 13⟩] rfl (fun z hz => nomatch hz) (by decide) (by decide) zwl_4 (by decide +kernel) rfl (fun q => ?_)
      refine zz_ren (ws' := zz_wl U ad σ1 τ o) rfl ?_
      refine zz_astore C dL_linkage_13 (by decide) (lv' := [(4, .ref q), (0, .ref (ad 0)), (1, .int p0_), (2, .int p1_), (3, .ref (ad 62))]) rfl ?_
      refine zz_iconst (v := (1 : Int32)) C dL_linkage_15 (by decide) ?_
      exact zz_iret C dL_linkage_16 (And.intro rfl rfl) (Nat.le_of_ble_eq_true rfl) (Nat.le_of_ble_eq_true rfl)
    · rw [if_neg g] at hf
      by_cases g : E = "java/lang/IllegalArgumentException"
      · rw [if_pos g] at hf
        subst g
        cases hf
        refine zz_callVx (As := [.int p0_, .int p1_]) (rest := [.int (0 : Int32), .ref (ad 62)]) C 0 (mX7_linkage_x σ p0_ p1_ _ σ1 h) dL_linkage_5 rfl rfl rfl zwl_18 zy_X7_linkage rfl (by decide) (by decide) (Nat.le_of_ble_eq_true rfl) (Nat.le_of_ble_eq_true rfl) (Nat.le_of_ble_eq_true rfl) ?_
        refine zz_catch (lv0 := []) C (h := 17) [⟨0, 10, 13, 21⟩] ⟨0, 10, 17, 13⟩ [] rfl (fun z hz => by rw [List.mem_singleton] at hz; subst hz; exact Or.inr ⟨by decide, _, zwl_4, by decide +kernel⟩) (by decide) (by decide) zwl_1 (by decide +kernel) rfl (fun q => ?_)
        refine zz_ren (ws' := zz_wl U ad σ1 τ o) rfl ?_
        refine zz_astore C dL_linkage_17 (by decide) (lv' := [(4, .ref q), (0, .ref (ad 0)), (1, .int p0_), (2, .int p1_), (3, .ref (ad 62))]) rfl ?_
        refine zz_iconst (v := (2 : Int32)) C dL_linkage_19 (by decide) ?_
        exact zz_iret C dL_linkage_20 (And.intro rfl rfl) (Nat.le_of_ble_eq_true rfl) (Nat.le_of_ble_eq_true rfl)
      · rw [if_neg g] at hf
        cases hf
theorem zy_L_needs : zz_YS yL_needs (.codeWith yL_needs cL_needs 5 (some .int) [(0, 17, 20, 21), (0, 17, 24, 13)]) 4 := ⟨⟨List.mem_of_getElem? (i := 754) (by decide +kernel), by decide +kernel⟩, ⟨List.mem_of_getElem? (i := 755) (by decide +kernel), by decide +kernel⟩, ⟨List.mem_of_getElem? (i := 49) (by decide +kernel), by decide +kernel⟩, by decide +kernel, by decide +kernel, by decide +kernel⟩
def fL_needs (σ : zz_St) (o : Nat → Int64) (p0_ : Int32) (p1_ : Int32) : Option (Int32 × zz_St × (Nat → Int64)) :=
  (fX7_needs σ p0_ p1_).bind fun x =>
  match x with
  | .inl v => if v = 0 then some ((0 : Int32), σ, vp_updL o 0 0) else some ((0 : Int32), σ, vp_updL o 0 1)
  | .inr E => if E = "java/lang/IndexOutOfBoundsException" then some ((1 : Int32), σ, o) else if E = "java/lang/IllegalArgumentException" then some ((2 : Int32), σ, o) else none
theorem dL_needs_0 : decode cL_needs 0 = .ok (.aload_n 3, 1) := by decide +kernel
theorem dL_needs_1 : decode cL_needs 1 = .ok (.iconst 0, 1) := by decide +kernel
theorem dL_needs_2 : decode cL_needs 2 = .ok (.aload_n 0, 1) := by decide +kernel
theorem dL_needs_3 : decode cL_needs 3 = .ok (.iload_n 1, 1) := by decide +kernel
theorem dL_needs_4 : decode cL_needs 4 = .ok (.iload_n 2, 1) := by decide +kernel
theorem dL_needs_5 : decode cL_needs 5 = .ok (.invokevirtual 69, 3) := by decide +kernel
theorem dL_needs_8 : decode cL_needs 8 = .ok (.ifCond .eq 7, 3) := by decide +kernel
theorem dL_needs_11 : decode cL_needs 11 = .ok (.lconst 1, 1) := by decide +kernel
theorem dL_needs_12 : decode cL_needs 12 = .ok (.goto 4, 3) := by decide +kernel
theorem dL_needs_15 : decode cL_needs 15 = .ok (.lconst 0, 1) := by decide +kernel
theorem dL_needs_16 : decode cL_needs 16 = .ok (.lastore, 1) := by decide +kernel
theorem dL_needs_17 : decode cL_needs 17 = .ok (.goto 11, 3) := by decide +kernel
theorem dL_needs_20 : decode cL_needs 20 = .ok (.astore 4, 2) := by decide +kernel
theorem dL_needs_22 : decode cL_needs 22 = .ok (.iconst 1, 1) := by decide +kernel
theorem dL_needs_23 : decode cL_needs 23 = .ok (.ireturn, 1) := by decide +kernel
theorem dL_needs_24 : decode cL_needs 24 = .ok (.astore 4, 2) := by decide +kernel
theorem dL_needs_26 : decode cL_needs 26 = .ok (.iconst 2, 1) := by decide +kernel
theorem dL_needs_27 : decode cL_needs 27 = .ok (.ireturn, 1) := by decide +kernel
theorem dL_needs_28 : decode cL_needs 28 = .ok (.iconst 0, 1) := by decide +kernel
theorem dL_needs_29 : decode cL_needs 29 = .ok (.ireturn, 1) := by decide +kernel
set_option maxHeartbeats 4000000 in
set_option maxRecDepth 100000 in
theorem mL_needs {D : va_G} {U : zz_U} {ad : Nat → Nat} (σ τ : zz_St) (o : Nat → Int64) (p0_ : Int32) (p1_ : Int32) (r : (Int32 × zz_St × (Nat → Int64))) (hf : fL_needs σ o p0_ p1_ = some r) : zz_Met yL_needs (.codeWith yL_needs cL_needs 5 (some .int) [(0, 17, 20, 21), (0, 17, 24, 13)]) 8 3 18 D U [.ref (ad 0), .int p0_, .int p1_, .ref (ad 62)] (zz_wl U ad σ τ o) (zz_ok (some (.int r.1)) (zz_wl U ad r.2.1 τ r.2.2)) zz_noth := by
  unfold fL_needs at hf
  refine zz_methodH RL rfl (by decide +kernel) (Nat.le_of_ble_eq_true rfl) ?_
  intro p l e s m args below meth c A _ C
  refine zz_lvs (lv1 := [(0, .ref (ad 0)), (1, .int p0_), (2, .int p1_), (3, .ref (ad 62))]) rfl ?_
  refine zz_aload_n C 3 dL_needs_0 rfl rfl ?_
  refine zz_iconst (v := (0 : Int32)) C dL_needs_1 (by decide) ?_
  refine zz_aload_n C 0 dL_needs_2 rfl rfl ?_
  refine zz_iload_n C 1 dL_needs_3 rfl rfl ?_
  refine zz_iload_n C 2 dL_needs_4 rfl rfl ?_
  refine zz_ren (ws' := (zz_wc U ad σ (zz_cm U ad τ ++ [zz_oc U ad o]))) rfl ?_
  obtain ⟨x, h, hf⟩ := zz_bind hf
  rcases x with v | E
  · try dsimp only at hf
    refine zz_callV1 (As := [.int p0_, .int p1_]) (rest := [.int (0 : Int32), .ref (ad 62)]) C 0 (mX7_needs_r σ p0_ p1_ v h) dL_needs_5 rfl rfl rfl zwl_19 zy_X7_needs rfl (by decide) (by decide) (Nat.le_of_ble_eq_true rfl) (Nat.le_of_ble_eq_true rfl) (Nat.le_of_ble_eq_true rfl) rfl ?_
    refine zz_ren (ws' := zz_wl U ad σ τ o) rfl ?_
    refine zz_if_eq (tgt := 15) C dL_needs_8 (by decide) (fun g => ?_) (fun g => ?_)
    · refine zz_lconst (v := 0) C dL_needs_15 (by decide) ?_
      rw [if_pos g] at hf
      cases hf
      refine zz_sout C dL_needs_16 ?_
      refine zz_goto (tgt := 28) C dL_needs_17 (by decide) ?_
      refine zz_iconst (v := (0 : Int32)) C dL_needs_28 (by decide) ?_
      exact zz_iret C dL_needs_29 (And.intro rfl rfl) (Nat.le_of_ble_eq_true rfl) (Nat.le_of_ble_eq_true rfl)
    · refine zz_lconst (v := 1) C dL_needs_11 (by decide) ?_
      refine zz_goto (tgt := 16) C dL_needs_12 (by decide) ?_
      rw [if_neg g] at hf
      cases hf
      refine zz_sout C dL_needs_16 ?_
      refine zz_goto (tgt := 28) C dL_needs_17 (by decide) ?_
      refine zz_iconst (v := (0 : Int32)) C dL_needs_28 (by decide) ?_
      exact zz_iret C dL_needs_29 (And.intro rfl rfl) (Nat.le_of_ble_eq_true rfl) (Nat.le_of_ble_eq_true rfl)
  · try dsimp only at hf
    by_cases g : E = "java/lang/IndexOutOfBoundsException"
    · rw [if_pos g] at hf
      subst g
      cases hf
      refine zz_callVx (As := [.int p0_, .int p1_]) (rest := [.int (0 : Int32), .ref (ad 62)]) C 0 (mX7_needs_x σ p0_ p1_ _ h) dL_needs_5 rfl rfl rfl zwl_19 zy_X7_needs rfl (by decide) (by decide) (Nat.le_of_ble_eq_true rfl) (Nat.le_of_ble_eq_true rfl) (Nat.le_of_ble_eq_true rfl) ?_
      refine zz_catch (lv0 := []) C (h := 20) [] ⟨0, 17, 20, 21⟩ [⟨0, 17, 24, 13⟩] rfl (fun z hz => nomatch hz) (by decide) (by decide) zwl_4 (by decide +kernel) rfl (fun q => ?_)
      refine zz_ren (ws' := zz_wl U ad σ τ o) rfl ?_
      refine zz_astore C dL_needs_20 (by decide) (lv' := [(4, .ref q), (0, .ref (ad 0)), (1, .int p0_), (2, .int p1_), (3, .ref (ad 62))]) rfl ?_
      refine zz_iconst (v := (1 : Int32)) C dL_needs_22 (by decide) ?_
      exact zz_iret C dL_needs_23 (And.intro rfl rfl) (Nat.le_of_ble_eq_true rfl) (Nat.le_of_ble_eq_true rfl)
    · rw [if_neg g] at hf
      by_cases g : E = "java/lang/IllegalArgumentException"
      · rw [if_pos g] at hf
        subst g
        cases hf
        refine zz_callVx (As := [.int p0_, .int p1_]) (rest := [.int (0 : Int32), .ref (ad 62)]) C 0 (mX7_needs_x σ p0_ p1_ _ h) dL_needs_5 rfl rfl rfl zwl_19 zy_X7_needs rfl (by decide) (by decide) (Nat.le_of_ble_eq_true rfl) (Nat.le_of_ble_eq_true rfl) (Nat.le_of_ble_eq_true rfl) ?_
        refine zz_catch (lv0 := []) C (h := 24) [⟨0, 17, 20, 21⟩] ⟨0, 17, 24, 13⟩ [] rfl (fun z hz => by rw [List.mem_singleton] at hz; subst hz; exact Or.inr ⟨by decide, _, zwl_4, by decide +kernel⟩) (by decide) (by decide) zwl_1 (by decide +kernel) rfl (fun q => ?_)
        refine zz_ren (ws' := zz_wl U ad σ τ o) rfl ?_
        refine zz_astore C dL_needs_24 (by decide) (lv' := [(4, .ref q), (0, .ref (ad 0)), (1, .int p0_), (2, .int p1_), (3, .ref (ad 62))]) rfl ?_
        refine zz_iconst (v := (2 : Int32)) C dL_needs_26 (by decide) ?_
        exact zz_iret C dL_needs_27 (And.intro rfl rfl) (Nat.le_of_ble_eq_true rfl) (Nat.le_of_ble_eq_true rfl)
      · rw [if_neg g] at hf
        cases hf
theorem zy_L_parcel : zz_YS yL_parcel (.codeWith yL_parcel cL_parcel 4 (some .int) [(0, 9, 12, 21)]) 3 := ⟨⟨List.mem_of_getElem? (i := 762) (by decide +kernel), by decide +kernel⟩, ⟨List.mem_of_getElem? (i := 763) (by decide +kernel), by decide +kernel⟩, ⟨List.mem_of_getElem? (i := 49) (by decide +kernel), by decide +kernel⟩, by decide +kernel, by decide +kernel, by decide +kernel⟩
def fL_parcel (σ : zz_St) (o : Nat → Int64) (p0_ : Int32) : Option (Int32 × zz_St × (Nat → Int64)) :=
  (fX7_parcel σ p0_).bind fun x =>
  match x with
  | (.inl v, σ1) => some ((0 : Int32), σ1, vp_updL o 0 v.toInt64)
  | (.inr E, σ1) => if E = "java/lang/IndexOutOfBoundsException" then some ((1 : Int32), σ1, o) else none
theorem dL_parcel_0 : decode cL_parcel 0 = .ok (.aload_n 2, 1) := by decide +kernel
theorem dL_parcel_1 : decode cL_parcel 1 = .ok (.iconst 0, 1) := by decide +kernel
theorem dL_parcel_2 : decode cL_parcel 2 = .ok (.aload_n 0, 1) := by decide +kernel
theorem dL_parcel_3 : decode cL_parcel 3 = .ok (.iload_n 1, 1) := by decide +kernel
theorem dL_parcel_4 : decode cL_parcel 4 = .ok (.invokevirtual 73, 3) := by decide +kernel
theorem dL_parcel_7 : decode cL_parcel 7 = .ok (.i2l, 1) := by decide +kernel
theorem dL_parcel_8 : decode cL_parcel 8 = .ok (.lastore, 1) := by decide +kernel
theorem dL_parcel_9 : decode cL_parcel 9 = .ok (.goto 6, 3) := by decide +kernel
theorem dL_parcel_12 : decode cL_parcel 12 = .ok (.astore_n 3, 1) := by decide +kernel
theorem dL_parcel_13 : decode cL_parcel 13 = .ok (.iconst 1, 1) := by decide +kernel
theorem dL_parcel_14 : decode cL_parcel 14 = .ok (.ireturn, 1) := by decide +kernel
theorem dL_parcel_15 : decode cL_parcel 15 = .ok (.iconst 0, 1) := by decide +kernel
theorem dL_parcel_16 : decode cL_parcel 16 = .ok (.ireturn, 1) := by decide +kernel
set_option maxHeartbeats 4000000 in
set_option maxRecDepth 100000 in
theorem mL_parcel {D : va_G} {U : zz_U} {ad : Nat → Nat} (σ τ : zz_St) (o : Nat → Int64) (p0_ : Int32) (r : (Int32 × zz_St × (Nat → Int64))) (hf : fL_parcel σ o p0_ = some r) : zz_Met yL_parcel (.codeWith yL_parcel cL_parcel 4 (some .int) [(0, 9, 12, 21)]) 8 1 6 D U [.ref (ad 0), .int p0_, .ref (ad 62)] (zz_wl U ad σ τ o) (zz_ok (some (.int r.1)) (zz_wl U ad r.2.1 τ r.2.2)) zz_noth := by
  unfold fL_parcel at hf
  refine zz_methodH RL rfl (by decide +kernel) (Nat.le_of_ble_eq_true rfl) ?_
  intro p l e s m args below meth c A _ C
  refine zz_lvs (lv1 := [(0, .ref (ad 0)), (1, .int p0_), (2, .ref (ad 62))]) rfl ?_
  refine zz_aload_n C 2 dL_parcel_0 rfl rfl ?_
  refine zz_iconst (v := (0 : Int32)) C dL_parcel_1 (by decide) ?_
  refine zz_aload_n C 0 dL_parcel_2 rfl rfl ?_
  refine zz_iload_n C 1 dL_parcel_3 rfl rfl ?_
  refine zz_ren (ws' := (zz_wc U ad σ (zz_cm U ad τ ++ [zz_oc U ad o]))) rfl ?_
  obtain ⟨⟨x, σ1⟩, h, hf⟩ := zz_bind hf
  rcases x with v | E
  · try dsimp only at hf
    refine zz_callV1 (As := [.int p0_]) (rest := [.int (0 : Int32), .ref (ad 62)]) C 0 (mX7_parcel_r σ p0_ v σ1 h) dL_parcel_4 rfl rfl rfl zwl_20 zy_X7_parcel rfl (by decide) (by decide) (Nat.le_of_ble_eq_true rfl) (Nat.le_of_ble_eq_true rfl) (Nat.le_of_ble_eq_true rfl) rfl ?_
    refine zz_ren (ws' := zz_wl U ad σ1 τ o) rfl ?_
    refine zz_i2l C dL_parcel_7 ?_
    refine zz_sout C dL_parcel_8 ?_
    cases hf
    refine zz_goto (tgt := 15) C dL_parcel_9 (by decide) ?_
    refine zz_iconst (v := (0 : Int32)) C dL_parcel_15 (by decide) ?_
    exact zz_iret C dL_parcel_16 (And.intro rfl rfl) (Nat.le_of_ble_eq_true rfl) (Nat.le_of_ble_eq_true rfl)
  · try dsimp only at hf
    by_cases g : E = "java/lang/IndexOutOfBoundsException"
    · rw [if_pos g] at hf
      subst g
      cases hf
      refine zz_callVx (As := [.int p0_]) (rest := [.int (0 : Int32), .ref (ad 62)]) C 0 (mX7_parcel_x σ p0_ _ σ1 h) dL_parcel_4 rfl rfl rfl zwl_20 zy_X7_parcel rfl (by decide) (by decide) (Nat.le_of_ble_eq_true rfl) (Nat.le_of_ble_eq_true rfl) (Nat.le_of_ble_eq_true rfl) ?_
      refine zz_catch (lv0 := []) C (h := 12) [] ⟨0, 9, 12, 21⟩ [] rfl (fun z hz => nomatch hz) (by decide) (by decide) zwl_4 (by decide +kernel) rfl (fun q => ?_)
      refine zz_ren (ws' := zz_wl U ad σ1 τ o) rfl ?_
      refine zz_astore_n C dL_parcel_12 rfl (by decide) (lv' := [(3, .ref q), (0, .ref (ad 0)), (1, .int p0_), (2, .ref (ad 62))]) rfl ?_
      refine zz_iconst (v := (1 : Int32)) C dL_parcel_13 (by decide) ?_
      exact zz_iret C dL_parcel_14 (And.intro rfl rfl) (Nat.le_of_ble_eq_true rfl) (Nat.le_of_ble_eq_true rfl)
    · rw [if_neg g] at hf
      cases hf
theorem zy_L_parcelOf : zz_YS yL_parcelOf (.codeWith yL_parcelOf cL_parcelOf 4 (some .int) [(0, 9, 12, 21)]) 3 := ⟨⟨List.mem_of_getElem? (i := 774) (by decide +kernel), by decide +kernel⟩, ⟨List.mem_of_getElem? (i := 775) (by decide +kernel), by decide +kernel⟩, ⟨List.mem_of_getElem? (i := 49) (by decide +kernel), by decide +kernel⟩, by decide +kernel, by decide +kernel, by decide +kernel⟩
def fL_parcelOf (σ : zz_St) (o : Nat → Int64) (p0_ : Int32) : Option (Int32 × zz_St × (Nat → Int64)) :=
  (fX7_parcelOf σ p0_).bind fun x =>
  match x with
  | (.inl v, σ1) => some ((0 : Int32), σ1, vp_updL o 0 v.toInt64)
  | (.inr E, σ1) => if E = "java/lang/IndexOutOfBoundsException" then some ((1 : Int32), σ1, o) else none
theorem dL_parcelOf_0 : decode cL_parcelOf 0 = .ok (.aload_n 2, 1) := by decide +kernel
theorem dL_parcelOf_1 : decode cL_parcelOf 1 = .ok (.iconst 0, 1) := by decide +kernel
theorem dL_parcelOf_2 : decode cL_parcelOf 2 = .ok (.aload_n 0, 1) := by decide +kernel
theorem dL_parcelOf_3 : decode cL_parcelOf 3 = .ok (.iload_n 1, 1) := by decide +kernel
theorem dL_parcelOf_4 : decode cL_parcelOf 4 = .ok (.invokevirtual 76, 3) := by decide +kernel
theorem dL_parcelOf_7 : decode cL_parcelOf 7 = .ok (.i2l, 1) := by decide +kernel
theorem dL_parcelOf_8 : decode cL_parcelOf 8 = .ok (.lastore, 1) := by decide +kernel
theorem dL_parcelOf_9 : decode cL_parcelOf 9 = .ok (.goto 6, 3) := by decide +kernel
theorem dL_parcelOf_12 : decode cL_parcelOf 12 = .ok (.astore_n 3, 1) := by decide +kernel
theorem dL_parcelOf_13 : decode cL_parcelOf 13 = .ok (.iconst 1, 1) := by decide +kernel
theorem dL_parcelOf_14 : decode cL_parcelOf 14 = .ok (.ireturn, 1) := by decide +kernel
theorem dL_parcelOf_15 : decode cL_parcelOf 15 = .ok (.iconst 0, 1) := by decide +kernel
theorem dL_parcelOf_16 : decode cL_parcelOf 16 = .ok (.ireturn, 1) := by decide +kernel
set_option maxHeartbeats 4000000 in
set_option maxRecDepth 100000 in
theorem mL_parcelOf {D : va_G} {U : zz_U} {ad : Nat → Nat} (σ τ : zz_St) (o : Nat → Int64) (p0_ : Int32) (r : (Int32 × zz_St × (Nat → Int64))) (hf : fL_parcelOf σ o p0_ = some r) : zz_Met yL_parcelOf (.codeWith yL_parcelOf cL_parcelOf 4 (some .int) [(0, 9, 12, 21)]) 8 1 6 D U [.ref (ad 0), .int p0_, .ref (ad 62)] (zz_wl U ad σ τ o) (zz_ok (some (.int r.1)) (zz_wl U ad r.2.1 τ r.2.2)) zz_noth := by
  unfold fL_parcelOf at hf
  refine zz_methodH RL rfl (by decide +kernel) (Nat.le_of_ble_eq_true rfl) ?_
  intro p l e s m args below meth c A _ C
  refine zz_lvs (lv1 := [(0, .ref (ad 0)), (1, .int p0_), (2, .ref (ad 62))]) rfl ?_
  refine zz_aload_n C 2 dL_parcelOf_0 rfl rfl ?_
  refine zz_iconst (v := (0 : Int32)) C dL_parcelOf_1 (by decide) ?_
  refine zz_aload_n C 0 dL_parcelOf_2 rfl rfl ?_
  refine zz_iload_n C 1 dL_parcelOf_3 rfl rfl ?_
  refine zz_ren (ws' := (zz_wc U ad σ (zz_cm U ad τ ++ [zz_oc U ad o]))) rfl ?_
  obtain ⟨⟨x, σ1⟩, h, hf⟩ := zz_bind hf
  rcases x with v | E
  · try dsimp only at hf
    refine zz_callV1 (As := [.int p0_]) (rest := [.int (0 : Int32), .ref (ad 62)]) C 0 (mX7_parcelOf_r σ p0_ v σ1 h) dL_parcelOf_4 rfl rfl rfl zwl_21 zy_X7_parcelOf rfl (by decide) (by decide) (Nat.le_of_ble_eq_true rfl) (Nat.le_of_ble_eq_true rfl) (Nat.le_of_ble_eq_true rfl) rfl ?_
    refine zz_ren (ws' := zz_wl U ad σ1 τ o) rfl ?_
    refine zz_i2l C dL_parcelOf_7 ?_
    refine zz_sout C dL_parcelOf_8 ?_
    cases hf
    refine zz_goto (tgt := 15) C dL_parcelOf_9 (by decide) ?_
    refine zz_iconst (v := (0 : Int32)) C dL_parcelOf_15 (by decide) ?_
    exact zz_iret C dL_parcelOf_16 (And.intro rfl rfl) (Nat.le_of_ble_eq_true rfl) (Nat.le_of_ble_eq_true rfl)
  · try dsimp only at hf
    by_cases g : E = "java/lang/IndexOutOfBoundsException"
    · rw [if_pos g] at hf
      subst g
      cases hf
      refine zz_callVx (As := [.int p0_]) (rest := [.int (0 : Int32), .ref (ad 62)]) C 0 (mX7_parcelOf_x σ p0_ _ σ1 h) dL_parcelOf_4 rfl rfl rfl zwl_21 zy_X7_parcelOf rfl (by decide) (by decide) (Nat.le_of_ble_eq_true rfl) (Nat.le_of_ble_eq_true rfl) (Nat.le_of_ble_eq_true rfl) ?_
      refine zz_catch (lv0 := []) C (h := 12) [] ⟨0, 9, 12, 21⟩ [] rfl (fun z hz => nomatch hz) (by decide) (by decide) zwl_4 (by decide +kernel) rfl (fun q => ?_)
      refine zz_ren (ws' := zz_wl U ad σ1 τ o) rfl ?_
      refine zz_astore_n C dL_parcelOf_12 rfl (by decide) (lv' := [(3, .ref q), (0, .ref (ad 0)), (1, .int p0_), (2, .ref (ad 62))]) rfl ?_
      refine zz_iconst (v := (1 : Int32)) C dL_parcelOf_13 (by decide) ?_
      exact zz_iret C dL_parcelOf_14 (And.intro rfl rfl) (Nat.le_of_ble_eq_true rfl) (Nat.le_of_ble_eq_true rfl)
    · rw [if_neg g] at hf
      cases hf
theorem zy_L_lines : zz_YS yL_lines (.codeWith yL_lines cL_lines 4 (some .int) [(0, 9, 12, 21)]) 3 := ⟨⟨List.mem_of_getElem? (i := 781) (by decide +kernel), by decide +kernel⟩, ⟨List.mem_of_getElem? (i := 782) (by decide +kernel), by decide +kernel⟩, ⟨List.mem_of_getElem? (i := 49) (by decide +kernel), by decide +kernel⟩, by decide +kernel, by decide +kernel, by decide +kernel⟩
def fL_lines (σ : zz_St) (o : Nat → Int64) (p0_ : Int32) : Option (Int32 × zz_St × (Nat → Int64)) :=
  (fX7_lines σ p0_).bind fun x =>
  match x with
  | (.inl v, σ1) => some ((0 : Int32), σ1, vp_updL o 0 v.toInt64)
  | (.inr E, σ1) => if E = "java/lang/IndexOutOfBoundsException" then some ((1 : Int32), σ1, o) else none
theorem dL_lines_0 : decode cL_lines 0 = .ok (.aload_n 2, 1) := by decide +kernel
theorem dL_lines_1 : decode cL_lines 1 = .ok (.iconst 0, 1) := by decide +kernel
theorem dL_lines_2 : decode cL_lines 2 = .ok (.aload_n 0, 1) := by decide +kernel
theorem dL_lines_3 : decode cL_lines 3 = .ok (.iload_n 1, 1) := by decide +kernel
theorem dL_lines_4 : decode cL_lines 4 = .ok (.invokevirtual 79, 3) := by decide +kernel
theorem dL_lines_7 : decode cL_lines 7 = .ok (.i2l, 1) := by decide +kernel
theorem dL_lines_8 : decode cL_lines 8 = .ok (.lastore, 1) := by decide +kernel
theorem dL_lines_9 : decode cL_lines 9 = .ok (.goto 6, 3) := by decide +kernel
theorem dL_lines_12 : decode cL_lines 12 = .ok (.astore_n 3, 1) := by decide +kernel
theorem dL_lines_13 : decode cL_lines 13 = .ok (.iconst 1, 1) := by decide +kernel
theorem dL_lines_14 : decode cL_lines 14 = .ok (.ireturn, 1) := by decide +kernel
theorem dL_lines_15 : decode cL_lines 15 = .ok (.iconst 0, 1) := by decide +kernel
theorem dL_lines_16 : decode cL_lines 16 = .ok (.ireturn, 1) := by decide +kernel
set_option maxHeartbeats 4000000 in
set_option maxRecDepth 100000 in
theorem mL_lines {D : va_G} {U : zz_U} {ad : Nat → Nat} (σ τ : zz_St) (o : Nat → Int64) (p0_ : Int32) (r : (Int32 × zz_St × (Nat → Int64))) (hf : fL_lines σ o p0_ = some r) : zz_Met yL_lines (.codeWith yL_lines cL_lines 4 (some .int) [(0, 9, 12, 21)]) 8 1 6 D U [.ref (ad 0), .int p0_, .ref (ad 62)] (zz_wl U ad σ τ o) (zz_ok (some (.int r.1)) (zz_wl U ad r.2.1 τ r.2.2)) zz_noth := by
  unfold fL_lines at hf
  refine zz_methodH RL rfl (by decide +kernel) (Nat.le_of_ble_eq_true rfl) ?_
  intro p l e s m args below meth c A _ C
  refine zz_lvs (lv1 := [(0, .ref (ad 0)), (1, .int p0_), (2, .ref (ad 62))]) rfl ?_
  refine zz_aload_n C 2 dL_lines_0 rfl rfl ?_
  refine zz_iconst (v := (0 : Int32)) C dL_lines_1 (by decide) ?_
  refine zz_aload_n C 0 dL_lines_2 rfl rfl ?_
  refine zz_iload_n C 1 dL_lines_3 rfl rfl ?_
  refine zz_ren (ws' := (zz_wc U ad σ (zz_cm U ad τ ++ [zz_oc U ad o]))) rfl ?_
  obtain ⟨⟨x, σ1⟩, h, hf⟩ := zz_bind hf
  rcases x with v | E
  · try dsimp only at hf
    refine zz_callV1 (As := [.int p0_]) (rest := [.int (0 : Int32), .ref (ad 62)]) C 0 (mX7_lines_r σ p0_ v σ1 h) dL_lines_4 rfl rfl rfl zwl_22 zy_X7_lines rfl (by decide) (by decide) (Nat.le_of_ble_eq_true rfl) (Nat.le_of_ble_eq_true rfl) (Nat.le_of_ble_eq_true rfl) rfl ?_
    refine zz_ren (ws' := zz_wl U ad σ1 τ o) rfl ?_
    refine zz_i2l C dL_lines_7 ?_
    refine zz_sout C dL_lines_8 ?_
    cases hf
    refine zz_goto (tgt := 15) C dL_lines_9 (by decide) ?_
    refine zz_iconst (v := (0 : Int32)) C dL_lines_15 (by decide) ?_
    exact zz_iret C dL_lines_16 (And.intro rfl rfl) (Nat.le_of_ble_eq_true rfl) (Nat.le_of_ble_eq_true rfl)
  · try dsimp only at hf
    by_cases g : E = "java/lang/IndexOutOfBoundsException"
    · rw [if_pos g] at hf
      subst g
      cases hf
      refine zz_callVx (As := [.int p0_]) (rest := [.int (0 : Int32), .ref (ad 62)]) C 0 (mX7_lines_x σ p0_ _ σ1 h) dL_lines_4 rfl rfl rfl zwl_22 zy_X7_lines rfl (by decide) (by decide) (Nat.le_of_ble_eq_true rfl) (Nat.le_of_ble_eq_true rfl) (Nat.le_of_ble_eq_true rfl) ?_
      refine zz_catch (lv0 := []) C (h := 12) [] ⟨0, 9, 12, 21⟩ [] rfl (fun z hz => nomatch hz) (by decide) (by decide) zwl_4 (by decide +kernel) rfl (fun q => ?_)
      refine zz_ren (ws' := zz_wl U ad σ1 τ o) rfl ?_
      refine zz_astore_n C dL_lines_12 rfl (by decide) (lv' := [(3, .ref q), (0, .ref (ad 0)), (1, .int p0_), (2, .ref (ad 62))]) rfl ?_
      refine zz_iconst (v := (1 : Int32)) C dL_lines_13 (by decide) ?_
      exact zz_iret C dL_lines_14 (And.intro rfl rfl) (Nat.le_of_ble_eq_true rfl) (Nat.le_of_ble_eq_true rfl)
    · rw [if_neg g] at hf
      cases hf
theorem zy_L_broken : zz_YS yL_broken (.codeWith yL_broken cL_broken 4 (some .int) [(0, 9, 12, 13)]) 3 := ⟨⟨List.mem_of_getElem? (i := 792) (by decide +kernel), by decide +kernel⟩, ⟨List.mem_of_getElem? (i := 793) (by decide +kernel), by decide +kernel⟩, ⟨List.mem_of_getElem? (i := 49) (by decide +kernel), by decide +kernel⟩, by decide +kernel, by decide +kernel, by decide +kernel⟩
def fL_broken (σ : zz_St) (o : Nat → Int64) (p0_ : Int32) : Option (Int32 × zz_St × (Nat → Int64)) :=
  (fX7_broken σ p0_).bind fun x =>
  match x with
  | .inl v => some ((0 : Int32), σ, vp_updL o 0 v.toInt64)
  | .inr E => if E = "java/lang/IllegalArgumentException" then some ((1 : Int32), σ, o) else none
theorem dL_broken_0 : decode cL_broken 0 = .ok (.aload_n 2, 1) := by decide +kernel
theorem dL_broken_1 : decode cL_broken 1 = .ok (.iconst 0, 1) := by decide +kernel
theorem dL_broken_2 : decode cL_broken 2 = .ok (.aload_n 0, 1) := by decide +kernel
theorem dL_broken_3 : decode cL_broken 3 = .ok (.iload_n 1, 1) := by decide +kernel
theorem dL_broken_4 : decode cL_broken 4 = .ok (.invokevirtual 82, 3) := by decide +kernel
theorem dL_broken_7 : decode cL_broken 7 = .ok (.i2l, 1) := by decide +kernel
theorem dL_broken_8 : decode cL_broken 8 = .ok (.lastore, 1) := by decide +kernel
theorem dL_broken_9 : decode cL_broken 9 = .ok (.goto 6, 3) := by decide +kernel
theorem dL_broken_12 : decode cL_broken 12 = .ok (.astore_n 3, 1) := by decide +kernel
theorem dL_broken_13 : decode cL_broken 13 = .ok (.iconst 1, 1) := by decide +kernel
theorem dL_broken_14 : decode cL_broken 14 = .ok (.ireturn, 1) := by decide +kernel
theorem dL_broken_15 : decode cL_broken 15 = .ok (.iconst 0, 1) := by decide +kernel
theorem dL_broken_16 : decode cL_broken 16 = .ok (.ireturn, 1) := by decide +kernel
set_option maxHeartbeats 4000000 in
set_option maxRecDepth 100000 in
theorem mL_broken {D : va_G} {U : zz_U} {ad : Nat → Nat} (σ τ : zz_St) (o : Nat → Int64) (p0_ : Int32) (r : (Int32 × zz_St × (Nat → Int64))) (hf : fL_broken σ o p0_ = some r) : zz_Met yL_broken (.codeWith yL_broken cL_broken 4 (some .int) [(0, 9, 12, 13)]) 7 1 6 D U [.ref (ad 0), .int p0_, .ref (ad 62)] (zz_wl U ad σ τ o) (zz_ok (some (.int r.1)) (zz_wl U ad r.2.1 τ r.2.2)) zz_noth := by
  unfold fL_broken at hf
  refine zz_methodH RL rfl (by decide +kernel) (Nat.le_of_ble_eq_true rfl) ?_
  intro p l e s m args below meth c A _ C
  refine zz_lvs (lv1 := [(0, .ref (ad 0)), (1, .int p0_), (2, .ref (ad 62))]) rfl ?_
  refine zz_aload_n C 2 dL_broken_0 rfl rfl ?_
  refine zz_iconst (v := (0 : Int32)) C dL_broken_1 (by decide) ?_
  refine zz_aload_n C 0 dL_broken_2 rfl rfl ?_
  refine zz_iload_n C 1 dL_broken_3 rfl rfl ?_
  refine zz_ren (ws' := (zz_wc U ad σ (zz_cm U ad τ ++ [zz_oc U ad o]))) rfl ?_
  obtain ⟨x, h, hf⟩ := zz_bind hf
  rcases x with v | E
  · try dsimp only at hf
    refine zz_callV1 (As := [.int p0_]) (rest := [.int (0 : Int32), .ref (ad 62)]) C 0 (mX7_broken_r σ p0_ v h) dL_broken_4 rfl rfl rfl zwl_23 zy_X7_broken rfl (by decide) (by decide) (Nat.le_of_ble_eq_true rfl) (Nat.le_of_ble_eq_true rfl) (Nat.le_of_ble_eq_true rfl) rfl ?_
    refine zz_ren (ws' := zz_wl U ad σ τ o) rfl ?_
    refine zz_i2l C dL_broken_7 ?_
    refine zz_sout C dL_broken_8 ?_
    cases hf
    refine zz_goto (tgt := 15) C dL_broken_9 (by decide) ?_
    refine zz_iconst (v := (0 : Int32)) C dL_broken_15 (by decide) ?_
    exact zz_iret C dL_broken_16 (And.intro rfl rfl) (Nat.le_of_ble_eq_true rfl) (Nat.le_of_ble_eq_true rfl)
  · try dsimp only at hf
    by_cases g : E = "java/lang/IllegalArgumentException"
    · rw [if_pos g] at hf
      subst g
      cases hf
      refine zz_callVx (As := [.int p0_]) (rest := [.int (0 : Int32), .ref (ad 62)]) C 0 (mX7_broken_x σ p0_ _ h) dL_broken_4 rfl rfl rfl zwl_23 zy_X7_broken rfl (by decide) (by decide) (Nat.le_of_ble_eq_true rfl) (Nat.le_of_ble_eq_true rfl) (Nat.le_of_ble_eq_true rfl) ?_
      refine zz_catch (lv0 := []) C (h := 12) [] ⟨0, 9, 12, 13⟩ [] rfl (fun z hz => nomatch hz) (by decide) (by decide) zwl_1 (by decide +kernel) rfl (fun q => ?_)
      refine zz_ren (ws' := zz_wl U ad σ τ o) rfl ?_
      refine zz_astore_n C dL_broken_12 rfl (by decide) (lv' := [(3, .ref q), (0, .ref (ad 0)), (1, .int p0_), (2, .ref (ad 62))]) rfl ?_
      refine zz_iconst (v := (1 : Int32)) C dL_broken_13 (by decide) ?_
      exact zz_iret C dL_broken_14 (And.intro rfl rfl) (Nat.le_of_ble_eq_true rfl) (Nat.le_of_ble_eq_true rfl)
    · rw [if_neg g] at hf
      cases hf
theorem zy_L_leastBreakage : zz_YS yL_leastBreakage (.codeWith yL_leastBreakage cL_leastBreakage 3 (some .int) [(0, 8, 11, 15)]) 2 := ⟨⟨List.mem_of_getElem? (i := 804) (by decide +kernel), by decide +kernel⟩, ⟨List.mem_of_getElem? (i := 805) (by decide +kernel), by decide +kernel⟩, ⟨List.mem_of_getElem? (i := 49) (by decide +kernel), by decide +kernel⟩, by decide +kernel, by decide +kernel, by decide +kernel⟩
def fL_leastBreakage (σ : zz_St) (o : Nat → Int64) : Option (Int32 × zz_St × (Nat → Int64)) :=
  (fX7_leastBreakage σ).bind fun x =>
  match x with
  | (.inl v, σ1) => some ((0 : Int32), σ1, vp_updL o 0 v.toInt64)
  | (.inr E, σ1) => if E = "java/lang/IllegalStateException" then some ((1 : Int32), σ1, o) else none
theorem dL_leastBreakage_0 : decode cL_leastBreakage 0 = .ok (.aload_n 1, 1) := by decide +kernel
theorem dL_leastBreakage_1 : decode cL_leastBreakage 1 = .ok (.iconst 0, 1) := by decide +kernel
theorem dL_leastBreakage_2 : decode cL_leastBreakage 2 = .ok (.aload_n 0, 1) := by decide +kernel
theorem dL_leastBreakage_3 : decode cL_leastBreakage 3 = .ok (.invokevirtual 85, 3) := by decide +kernel
theorem dL_leastBreakage_6 : decode cL_leastBreakage 6 = .ok (.i2l, 1) := by decide +kernel
theorem dL_leastBreakage_7 : decode cL_leastBreakage 7 = .ok (.lastore, 1) := by decide +kernel
theorem dL_leastBreakage_8 : decode cL_leastBreakage 8 = .ok (.goto 6, 3) := by decide +kernel
theorem dL_leastBreakage_11 : decode cL_leastBreakage 11 = .ok (.astore_n 2, 1) := by decide +kernel
theorem dL_leastBreakage_12 : decode cL_leastBreakage 12 = .ok (.iconst 1, 1) := by decide +kernel
theorem dL_leastBreakage_13 : decode cL_leastBreakage 13 = .ok (.ireturn, 1) := by decide +kernel
theorem dL_leastBreakage_14 : decode cL_leastBreakage 14 = .ok (.iconst 0, 1) := by decide +kernel
theorem dL_leastBreakage_15 : decode cL_leastBreakage 15 = .ok (.ireturn, 1) := by decide +kernel
set_option maxHeartbeats 4000000 in
set_option maxRecDepth 100000 in
theorem mL_leastBreakage {D : va_G} {U : zz_U} {ad : Nat → Nat} (σ τ : zz_St) (o : Nat → Int64) (r : (Int32 × zz_St × (Nat → Int64))) (hf : fL_leastBreakage σ o = some r) : zz_Met yL_leastBreakage (.codeWith yL_leastBreakage cL_leastBreakage 3 (some .int) [(0, 8, 11, 15)]) 8 1 6 D U [.ref (ad 0), .ref (ad 62)] (zz_wl U ad σ τ o) (zz_ok (some (.int r.1)) (zz_wl U ad r.2.1 τ r.2.2)) zz_noth := by
  unfold fL_leastBreakage at hf
  refine zz_methodH RL rfl (by decide +kernel) (Nat.le_of_ble_eq_true rfl) ?_
  intro p l e s m args below meth c A _ C
  refine zz_lvs (lv1 := [(0, .ref (ad 0)), (1, .ref (ad 62))]) rfl ?_
  refine zz_aload_n C 1 dL_leastBreakage_0 rfl rfl ?_
  refine zz_iconst (v := (0 : Int32)) C dL_leastBreakage_1 (by decide) ?_
  refine zz_aload_n C 0 dL_leastBreakage_2 rfl rfl ?_
  refine zz_ren (ws' := (zz_wc U ad σ (zz_cm U ad τ ++ [zz_oc U ad o]))) rfl ?_
  obtain ⟨⟨x, σ1⟩, h, hf⟩ := zz_bind hf
  rcases x with v | E
  · try dsimp only at hf
    refine zz_callV1 (As := []) (rest := [.int (0 : Int32), .ref (ad 62)]) C 0 (mX7_leastBreakage_r σ v σ1 h) dL_leastBreakage_3 rfl rfl rfl zwl_24 zy_X7_leastBreakage rfl (by decide) (by decide) (Nat.le_of_ble_eq_true rfl) (Nat.le_of_ble_eq_true rfl) (Nat.le_of_ble_eq_true rfl) rfl ?_
    refine zz_ren (ws' := zz_wl U ad σ1 τ o) rfl ?_
    refine zz_i2l C dL_leastBreakage_6 ?_
    refine zz_sout C dL_leastBreakage_7 ?_
    cases hf
    refine zz_goto (tgt := 14) C dL_leastBreakage_8 (by decide) ?_
    refine zz_iconst (v := (0 : Int32)) C dL_leastBreakage_14 (by decide) ?_
    exact zz_iret C dL_leastBreakage_15 (And.intro rfl rfl) (Nat.le_of_ble_eq_true rfl) (Nat.le_of_ble_eq_true rfl)
  · try dsimp only at hf
    by_cases g : E = "java/lang/IllegalStateException"
    · rw [if_pos g] at hf
      subst g
      cases hf
      refine zz_callVx (As := []) (rest := [.int (0 : Int32), .ref (ad 62)]) C 0 (mX7_leastBreakage_x σ _ σ1 h) dL_leastBreakage_3 rfl rfl rfl zwl_24 zy_X7_leastBreakage rfl (by decide) (by decide) (Nat.le_of_ble_eq_true rfl) (Nat.le_of_ble_eq_true rfl) (Nat.le_of_ble_eq_true rfl) ?_
      refine zz_catch (lv0 := []) C (h := 11) [] ⟨0, 8, 11, 15⟩ [] rfl (fun z hz => nomatch hz) (by decide) (by decide) zwl_2 (by decide +kernel) rfl (fun q => ?_)
      refine zz_ren (ws' := zz_wl U ad σ1 τ o) rfl ?_
      refine zz_astore_n C dL_leastBreakage_11 rfl (by decide) (lv' := [(2, .ref q), (0, .ref (ad 0)), (1, .ref (ad 62))]) rfl ?_
      refine zz_iconst (v := (1 : Int32)) C dL_leastBreakage_12 (by decide) ?_
      exact zz_iret C dL_leastBreakage_13 (And.intro rfl rfl) (Nat.le_of_ble_eq_true rfl) (Nat.le_of_ble_eq_true rfl)
    · rw [if_neg g] at hf
      cases hf
theorem zy_L_best : zz_YS yL_best (.codeWith yL_best cL_best 4 (some .int) [(0, 9, 12, 15), (0, 9, 15, 21)]) 3 := ⟨⟨List.mem_of_getElem? (i := 837) (by decide +kernel), by decide +kernel⟩, ⟨List.mem_of_getElem? (i := 838) (by decide +kernel), by decide +kernel⟩, ⟨List.mem_of_getElem? (i := 49) (by decide +kernel), by decide +kernel⟩, by decide +kernel, by decide +kernel, by decide +kernel⟩
def fL_best (σ : zz_St) (o : Nat → Int64) (p0_ : Int32) : Option (Int32 × zz_St × (Nat → Int64)) :=
  (fX7_best σ p0_).bind fun x =>
  match x with
  | (.inl v, σ1) => some ((0 : Int32), σ1, vp_updL o 0 v.toInt64)
  | (.inr E, σ1) => if E = "java/lang/IllegalStateException" then some ((1 : Int32), σ1, o) else if E = "java/lang/IndexOutOfBoundsException" then some ((2 : Int32), σ1, o) else none
theorem dL_best_0 : decode cL_best 0 = .ok (.aload_n 2, 1) := by decide +kernel
theorem dL_best_1 : decode cL_best 1 = .ok (.iconst 0, 1) := by decide +kernel
theorem dL_best_2 : decode cL_best 2 = .ok (.aload_n 0, 1) := by decide +kernel
theorem dL_best_3 : decode cL_best 3 = .ok (.iload_n 1, 1) := by decide +kernel
theorem dL_best_4 : decode cL_best 4 = .ok (.invokevirtual 88, 3) := by decide +kernel
theorem dL_best_7 : decode cL_best 7 = .ok (.i2l, 1) := by decide +kernel
theorem dL_best_8 : decode cL_best 8 = .ok (.lastore, 1) := by decide +kernel
theorem dL_best_9 : decode cL_best 9 = .ok (.goto 9, 3) := by decide +kernel
theorem dL_best_12 : decode cL_best 12 = .ok (.astore_n 3, 1) := by decide +kernel
theorem dL_best_13 : decode cL_best 13 = .ok (.iconst 1, 1) := by decide +kernel
theorem dL_best_14 : decode cL_best 14 = .ok (.ireturn, 1) := by decide +kernel
theorem dL_best_15 : decode cL_best 15 = .ok (.astore_n 3, 1) := by decide +kernel
theorem dL_best_16 : decode cL_best 16 = .ok (.iconst 2, 1) := by decide +kernel
theorem dL_best_17 : decode cL_best 17 = .ok (.ireturn, 1) := by decide +kernel
theorem dL_best_18 : decode cL_best 18 = .ok (.iconst 0, 1) := by decide +kernel
theorem dL_best_19 : decode cL_best 19 = .ok (.ireturn, 1) := by decide +kernel
set_option maxHeartbeats 4000000 in
set_option maxRecDepth 100000 in
theorem mL_best {D : va_G} {U : zz_U} {ad : Nat → Nat} (σ τ : zz_St) (o : Nat → Int64) (p0_ : Int32) (r : (Int32 × zz_St × (Nat → Int64))) (hf : fL_best σ o p0_ = some r) : zz_Met yL_best (.codeWith yL_best cL_best 4 (some .int) [(0, 9, 12, 15), (0, 9, 15, 21)]) 8 2 12 D U [.ref (ad 0), .int p0_, .ref (ad 62)] (zz_wl U ad σ τ o) (zz_ok (some (.int r.1)) (zz_wl U ad r.2.1 τ r.2.2)) zz_noth := by
  unfold fL_best at hf
  refine zz_methodH RL rfl (by decide +kernel) (Nat.le_of_ble_eq_true rfl) ?_
  intro p l e s m args below meth c A _ C
  refine zz_lvs (lv1 := [(0, .ref (ad 0)), (1, .int p0_), (2, .ref (ad 62))]) rfl ?_
  refine zz_aload_n C 2 dL_best_0 rfl rfl ?_
  refine zz_iconst (v := (0 : Int32)) C dL_best_1 (by decide) ?_
  refine zz_aload_n C 0 dL_best_2 rfl rfl ?_
  refine zz_iload_n C 1 dL_best_3 rfl rfl ?_
  refine zz_ren (ws' := (zz_wc U ad σ (zz_cm U ad τ ++ [zz_oc U ad o]))) rfl ?_
  obtain ⟨⟨x, σ1⟩, h, hf⟩ := zz_bind hf
  rcases x with v | E
  · try dsimp only at hf
    refine zz_callV1 (As := [.int p0_]) (rest := [.int (0 : Int32), .ref (ad 62)]) C 0 (mX7_best_r σ p0_ v σ1 h) dL_best_4 rfl rfl rfl zwl_25 zy_X7_best rfl (by decide) (by decide) (Nat.le_of_ble_eq_true rfl) (Nat.le_of_ble_eq_true rfl) (Nat.le_of_ble_eq_true rfl) rfl ?_
    refine zz_ren (ws' := zz_wl U ad σ1 τ o) rfl ?_
    refine zz_i2l C dL_best_7 ?_
    refine zz_sout C dL_best_8 ?_
    cases hf
    refine zz_goto (tgt := 18) C dL_best_9 (by decide) ?_
    refine zz_iconst (v := (0 : Int32)) C dL_best_18 (by decide) ?_
    exact zz_iret C dL_best_19 (And.intro rfl rfl) (Nat.le_of_ble_eq_true rfl) (Nat.le_of_ble_eq_true rfl)
  · try dsimp only at hf
    by_cases g : E = "java/lang/IllegalStateException"
    · rw [if_pos g] at hf
      subst g
      cases hf
      refine zz_callVx (As := [.int p0_]) (rest := [.int (0 : Int32), .ref (ad 62)]) C 0 (mX7_best_x σ p0_ _ σ1 h) dL_best_4 rfl rfl rfl zwl_25 zy_X7_best rfl (by decide) (by decide) (Nat.le_of_ble_eq_true rfl) (Nat.le_of_ble_eq_true rfl) (Nat.le_of_ble_eq_true rfl) ?_
      refine zz_catch (lv0 := []) C (h := 12) [] ⟨0, 9, 12, 15⟩ [⟨0, 9, 15, 21⟩] rfl (fun z hz => nomatch hz) (by decide) (by decide) zwl_2 (by decide +kernel) rfl (fun q => ?_)
      refine zz_ren (ws' := zz_wl U ad σ1 τ o) rfl ?_
      refine zz_astore_n C dL_best_12 rfl (by decide) (lv' := [(3, .ref q), (0, .ref (ad 0)), (1, .int p0_), (2, .ref (ad 62))]) rfl ?_
      refine zz_iconst (v := (1 : Int32)) C dL_best_13 (by decide) ?_
      exact zz_iret C dL_best_14 (And.intro rfl rfl) (Nat.le_of_ble_eq_true rfl) (Nat.le_of_ble_eq_true rfl)
    · rw [if_neg g] at hf
      by_cases g : E = "java/lang/IndexOutOfBoundsException"
      · rw [if_pos g] at hf
        subst g
        cases hf
        refine zz_callVx (As := [.int p0_]) (rest := [.int (0 : Int32), .ref (ad 62)]) C 0 (mX7_best_x σ p0_ _ σ1 h) dL_best_4 rfl rfl rfl zwl_25 zy_X7_best rfl (by decide) (by decide) (Nat.le_of_ble_eq_true rfl) (Nat.le_of_ble_eq_true rfl) (Nat.le_of_ble_eq_true rfl) ?_
        refine zz_catch (lv0 := []) C (h := 15) [⟨0, 9, 12, 15⟩] ⟨0, 9, 15, 21⟩ [] rfl (fun z hz => by rw [List.mem_singleton] at hz; subst hz; exact Or.inr ⟨by decide, _, zwl_2, by decide +kernel⟩) (by decide) (by decide) zwl_4 (by decide +kernel) rfl (fun q => ?_)
        refine zz_ren (ws' := zz_wl U ad σ1 τ o) rfl ?_
        refine zz_astore_n C dL_best_15 rfl (by decide) (lv' := [(3, .ref q), (0, .ref (ad 0)), (1, .int p0_), (2, .ref (ad 62))]) rfl ?_
        refine zz_iconst (v := (2 : Int32)) C dL_best_16 (by decide) ?_
        exact zz_iret C dL_best_17 (And.intro rfl rfl) (Nat.le_of_ble_eq_true rfl) (Nat.le_of_ble_eq_true rfl)
      · rw [if_neg g] at hf
        cases hf
theorem zy_L_setPurpose : zz_YS yL_setPurpose (.codeWith yL_setPurpose cL_setPurpose 5 (some .int) [(0, 10, 13, 21), (0, 10, 17, 13)]) 4 := ⟨⟨List.mem_of_getElem? (i := 845) (by decide +kernel), by decide +kernel⟩, ⟨List.mem_of_getElem? (i := 846) (by decide +kernel), by decide +kernel⟩, ⟨List.mem_of_getElem? (i := 49) (by decide +kernel), by decide +kernel⟩, by decide +kernel, by decide +kernel, by decide +kernel⟩
def fL_setPurpose (σ : zz_St) (o : Nat → Int64) (p0_ : Int32) (p1_ : Int32) : Option (Int32 × zz_St × (Nat → Int64)) :=
  (fX7_setPurpose σ p0_ p1_).bind fun x =>
  match x with
  | (.inl v, σ1) => some ((0 : Int32), σ1, vp_updL o 0 v.toInt64)
  | (.inr E, σ1) => if E = "java/lang/IndexOutOfBoundsException" then some ((1 : Int32), σ1, o) else if E = "java/lang/IllegalArgumentException" then some ((2 : Int32), σ1, o) else none
theorem dL_setPurpose_0 : decode cL_setPurpose 0 = .ok (.aload_n 3, 1) := by decide +kernel
theorem dL_setPurpose_1 : decode cL_setPurpose 1 = .ok (.iconst 0, 1) := by decide +kernel
theorem dL_setPurpose_2 : decode cL_setPurpose 2 = .ok (.aload_n 0, 1) := by decide +kernel
theorem dL_setPurpose_3 : decode cL_setPurpose 3 = .ok (.iload_n 1, 1) := by decide +kernel
theorem dL_setPurpose_4 : decode cL_setPurpose 4 = .ok (.iload_n 2, 1) := by decide +kernel
theorem dL_setPurpose_5 : decode cL_setPurpose 5 = .ok (.invokevirtual 91, 3) := by decide +kernel
theorem dL_setPurpose_8 : decode cL_setPurpose 8 = .ok (.i2l, 1) := by decide +kernel
theorem dL_setPurpose_9 : decode cL_setPurpose 9 = .ok (.lastore, 1) := by decide +kernel
theorem dL_setPurpose_10 : decode cL_setPurpose 10 = .ok (.goto 11, 3) := by decide +kernel
theorem dL_setPurpose_13 : decode cL_setPurpose 13 = .ok (.astore 4, 2) := by decide +kernel
theorem dL_setPurpose_15 : decode cL_setPurpose 15 = .ok (.iconst 1, 1) := by decide +kernel
theorem dL_setPurpose_16 : decode cL_setPurpose 16 = .ok (.ireturn, 1) := by decide +kernel
theorem dL_setPurpose_17 : decode cL_setPurpose 17 = .ok (.astore 4, 2) := by decide +kernel
theorem dL_setPurpose_19 : decode cL_setPurpose 19 = .ok (.iconst 2, 1) := by decide +kernel
theorem dL_setPurpose_20 : decode cL_setPurpose 20 = .ok (.ireturn, 1) := by decide +kernel
theorem dL_setPurpose_21 : decode cL_setPurpose 21 = .ok (.iconst 0, 1) := by decide +kernel
theorem dL_setPurpose_22 : decode cL_setPurpose 22 = .ok (.ireturn, 1) := by decide +kernel
set_option maxHeartbeats 4000000 in
set_option maxRecDepth 100000 in
theorem mL_setPurpose {D : va_G} {U : zz_U} {ad : Nat → Nat} (σ τ : zz_St) (o : Nat → Int64) (p0_ : Int32) (p1_ : Int32) (r : (Int32 × zz_St × (Nat → Int64))) (hf : fL_setPurpose σ o p0_ p1_ = some r) : zz_Met yL_setPurpose (.codeWith yL_setPurpose cL_setPurpose 5 (some .int) [(0, 10, 13, 21), (0, 10, 17, 13)]) 8 2 12 D U [.ref (ad 0), .int p0_, .int p1_, .ref (ad 62)] (zz_wl U ad σ τ o) (zz_ok (some (.int r.1)) (zz_wl U ad r.2.1 τ r.2.2)) zz_noth := by
  unfold fL_setPurpose at hf
  refine zz_methodH RL rfl (by decide +kernel) (Nat.le_of_ble_eq_true rfl) ?_
  intro p l e s m args below meth c A _ C
  refine zz_lvs (lv1 := [(0, .ref (ad 0)), (1, .int p0_), (2, .int p1_), (3, .ref (ad 62))]) rfl ?_
  refine zz_aload_n C 3 dL_setPurpose_0 rfl rfl ?_
  refine zz_iconst (v := (0 : Int32)) C dL_setPurpose_1 (by decide) ?_
  refine zz_aload_n C 0 dL_setPurpose_2 rfl rfl ?_
  refine zz_iload_n C 1 dL_setPurpose_3 rfl rfl ?_
  refine zz_iload_n C 2 dL_setPurpose_4 rfl rfl ?_
  refine zz_ren (ws' := (zz_wc U ad σ (zz_cm U ad τ ++ [zz_oc U ad o]))) rfl ?_
  obtain ⟨⟨x, σ1⟩, h, hf⟩ := zz_bind hf
  rcases x with v | E
  · try dsimp only at hf
    refine zz_callV1 (As := [.int p0_, .int p1_]) (rest := [.int (0 : Int32), .ref (ad 62)]) C 0 (mX7_setPurpose_r σ p0_ p1_ v σ1 h) dL_setPurpose_5 rfl rfl rfl zwl_26 zy_X7_setPurpose rfl (by decide) (by decide) (Nat.le_of_ble_eq_true rfl) (Nat.le_of_ble_eq_true rfl) (Nat.le_of_ble_eq_true rfl) rfl ?_
    refine zz_ren (ws' := zz_wl U ad σ1 τ o) rfl ?_
    refine zz_i2l C dL_setPurpose_8 ?_
    refine zz_sout C dL_setPurpose_9 ?_
    cases hf
    refine zz_goto (tgt := 21) C dL_setPurpose_10 (by decide) ?_
    refine zz_iconst (v := (0 : Int32)) C dL_setPurpose_21 (by decide) ?_
    exact zz_iret C dL_setPurpose_22 (And.intro rfl rfl) (Nat.le_of_ble_eq_true rfl) (Nat.le_of_ble_eq_true rfl)
  · try dsimp only at hf
    by_cases g : E = "java/lang/IndexOutOfBoundsException"
    · rw [if_pos g] at hf
      subst g
      cases hf
      refine zz_callVx (As := [.int p0_, .int p1_]) (rest := [.int (0 : Int32), .ref (ad 62)]) C 0 (mX7_setPurpose_x σ p0_ p1_ _ σ1 h) dL_setPurpose_5 rfl rfl rfl zwl_26 zy_X7_setPurpose rfl (by decide) (by decide) (Nat.le_of_ble_eq_true rfl) (Nat.le_of_ble_eq_true rfl) (Nat.le_of_ble_eq_true rfl) ?_
      refine zz_catch (lv0 := []) C (h := 13) [] ⟨0, 10, 13, 21⟩ [⟨0, 10, 17, 13⟩] rfl (fun z hz => nomatch hz) (by decide) (by decide) zwl_4 (by decide +kernel) rfl (fun q => ?_)
      refine zz_ren (ws' := zz_wl U ad σ1 τ o) rfl ?_
      refine zz_astore C dL_setPurpose_13 (by decide) (lv' := [(4, .ref q), (0, .ref (ad 0)), (1, .int p0_), (2, .int p1_), (3, .ref (ad 62))]) rfl ?_
      refine zz_iconst (v := (1 : Int32)) C dL_setPurpose_15 (by decide) ?_
      exact zz_iret C dL_setPurpose_16 (And.intro rfl rfl) (Nat.le_of_ble_eq_true rfl) (Nat.le_of_ble_eq_true rfl)
    · rw [if_neg g] at hf
      by_cases g : E = "java/lang/IllegalArgumentException"
      · rw [if_pos g] at hf
        subst g
        cases hf
        refine zz_callVx (As := [.int p0_, .int p1_]) (rest := [.int (0 : Int32), .ref (ad 62)]) C 0 (mX7_setPurpose_x σ p0_ p1_ _ σ1 h) dL_setPurpose_5 rfl rfl rfl zwl_26 zy_X7_setPurpose rfl (by decide) (by decide) (Nat.le_of_ble_eq_true rfl) (Nat.le_of_ble_eq_true rfl) (Nat.le_of_ble_eq_true rfl) ?_
        refine zz_catch (lv0 := []) C (h := 17) [⟨0, 10, 13, 21⟩] ⟨0, 10, 17, 13⟩ [] rfl (fun z hz => by rw [List.mem_singleton] at hz; subst hz; exact Or.inr ⟨by decide, _, zwl_4, by decide +kernel⟩) (by decide) (by decide) zwl_1 (by decide +kernel) rfl (fun q => ?_)
        refine zz_ren (ws' := zz_wl U ad σ1 τ o) rfl ?_
        refine zz_astore C dL_setPurpose_17 (by decide) (lv' := [(4, .ref q), (0, .ref (ad 0)), (1, .int p0_), (2, .int p1_), (3, .ref (ad 62))]) rfl ?_
        refine zz_iconst (v := (2 : Int32)) C dL_setPurpose_19 (by decide) ?_
        exact zz_iret C dL_setPurpose_20 (And.intro rfl rfl) (Nat.le_of_ble_eq_true rfl) (Nat.le_of_ble_eq_true rfl)
      · rw [if_neg g] at hf
        cases hf
