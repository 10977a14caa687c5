/-! the constructors (by program) -/
theorem zr_fun {n : Nat} {r g : Nat → Nat} (h : ∀ i, i < n → r i = g i) : (fun i => if i < n then some (r i) else none) = (fun i => if i < n then some (g i) else none) := funext fun i => by
  by_cases z : i < n
  · rw [if_pos z, if_pos z, h i z]
  · rw [if_neg z, if_neg z]
theorem zo_1 : zz_g (.instanceMethod Lib.objectInit) := ⟨List.mem_of_getElem? (i := 44) (by decide +kernel), by decide +kernel⟩
theorem zo_2 : zz_g (.code Lib.objectInit ⟨#[0xb1]⟩ 1 none) := ⟨List.mem_of_getElem? (i := 45) (by decide +kernel), by decide +kernel⟩
theorem zi_X7_init : zz_YI yX7_init (.code yX7_init cX7_init 1 none) 0 := ⟨⟨List.mem_of_getElem? (i := 41) (by decide +kernel), by decide +kernel⟩, ⟨List.mem_of_getElem? (i := 42) (by decide +kernel), by decide +kernel⟩, ⟨List.mem_of_getElem? (i := 22) (by decide +kernel), by decide +kernel⟩, by decide +kernel, by decide +kernel, by decide +kernel⟩
theorem zi_X5_init : zz_YI yX5_init (.code yX5_init cX5_init 1 none) 0 := ⟨⟨List.mem_of_getElem? (i := 49) (by decide +kernel), by decide +kernel⟩, ⟨List.mem_of_getElem? (i := 50) (by decide +kernel), by decide +kernel⟩, ⟨List.mem_of_getElem? (i := 23) (by decide +kernel), by decide +kernel⟩, by decide +kernel, by decide +kernel, by decide +kernel⟩
theorem zi_X1_init : zz_YI yX1_init (.code yX1_init cX1_init 1 none) 0 := ⟨⟨List.mem_of_getElem? (i := 88) (by decide +kernel), by decide +kernel⟩, ⟨List.mem_of_getElem? (i := 89) (by decide +kernel), by decide +kernel⟩, ⟨List.mem_of_getElem? (i := 24) (by decide +kernel), by decide +kernel⟩, by decide +kernel, by decide +kernel, by decide +kernel⟩
theorem zi_X2_init : zz_YI yX2_init (.code yX2_init cX2_init 1 none) 0 := ⟨⟨List.mem_of_getElem? (i := 103) (by decide +kernel), by decide +kernel⟩, ⟨List.mem_of_getElem? (i := 104) (by decide +kernel), by decide +kernel⟩, ⟨List.mem_of_getElem? (i := 25) (by decide +kernel), by decide +kernel⟩, by decide +kernel, by decide +kernel, by decide +kernel⟩
theorem zi_X6_init : zz_YI yX6_init (.code yX6_init cX6_init 1 none) 0 := ⟨⟨List.mem_of_getElem? (i := 116) (by decide +kernel), by decide +kernel⟩, ⟨List.mem_of_getElem? (i := 117) (by decide +kernel), by decide +kernel⟩, ⟨List.mem_of_getElem? (i := 26) (by decide +kernel), by decide +kernel⟩, by decide +kernel, by decide +kernel, by decide +kernel⟩
theorem zi_X3_init : zz_YI yX3_init (.code yX3_init cX3_init 1 none) 0 := ⟨⟨List.mem_of_getElem? (i := 129) (by decide +kernel), by decide +kernel⟩, ⟨List.mem_of_getElem? (i := 130) (by decide +kernel), by decide +kernel⟩, ⟨List.mem_of_getElem? (i := 27) (by decide +kernel), by decide +kernel⟩, by decide +kernel, by decide +kernel, by decide +kernel⟩
theorem zi_X4_init : zz_YI yX4_init (.code yX4_init cX4_init 1 none) 0 := ⟨⟨List.mem_of_getElem? (i := 162) (by decide +kernel), by decide +kernel⟩, ⟨List.mem_of_getElem? (i := 163) (by decide +kernel), by decide +kernel⟩, ⟨List.mem_of_getElem? (i := 28) (by decide +kernel), by decide +kernel⟩, by decide +kernel, by decide +kernel, by decide +kernel⟩
theorem zi_X0_init : zz_YI yX0_init (.code yX0_init cX0_init 1 none) 0 := ⟨⟨List.mem_of_getElem? (i := 185) (by decide +kernel), by decide +kernel⟩, ⟨List.mem_of_getElem? (i := 186) (by decide +kernel), by decide +kernel⟩, ⟨List.mem_of_getElem? (i := 29) (by decide +kernel), by decide +kernel⟩, by decide +kernel, by decide +kernel, by decide +kernel⟩
theorem zwc_0 : zz_g (.methodLink RX5 3 Lib.objectInit) := ⟨List.mem_of_getElem? (i := 51) (by decide +kernel), by decide +kernel⟩
theorem zwc_1 : zz_g (.arrayClass .int) := ⟨List.mem_of_getElem? (i := 84) (by decide +kernel), by decide +kernel⟩
theorem zwc_2 : zz_g (.fieldLink RX5 9 "ChangeUntangler$Pieces" "files" "[I") := ⟨List.mem_of_getElem? (i := 57) (by decide +kernel), by decide +kernel⟩
theorem zwc_3 : zz_g (.fieldLink RX5 15 "ChangeUntangler$Pieces" "startLines" "[I") := ⟨List.mem_of_getElem? (i := 59) (by decide +kernel), by decide +kernel⟩
theorem zwc_4 : zz_g (.fieldLink RX5 18 "ChangeUntangler$Pieces" "added" "[I") := ⟨List.mem_of_getElem? (i := 61) (by decide +kernel), by decide +kernel⟩
theorem zwc_5 : zz_g (.fieldLink RX5 21 "ChangeUntangler$Pieces" "taken" "[I") := ⟨List.mem_of_getElem? (i := 62) (by decide +kernel), by decide +kernel⟩
theorem zwc_6 : zz_g (.fieldLink RX5 24 "ChangeUntangler$Pieces" "purposes" "[I") := ⟨List.mem_of_getElem? (i := 63) (by decide +kernel), by decide +kernel⟩
theorem zwc_7 : zz_g (.classLink RX5 27 "[[I") := ⟨List.mem_of_getElem? (i := 52) (by decide +kernel), by decide +kernel⟩
theorem zwc_8 : zz_g (.fieldLink RX5 29 "ChangeUntangler$Pieces" "namesOf" "[[I") := ⟨List.mem_of_getElem? (i := 64) (by decide +kernel), by decide +kernel⟩
theorem zwc_9 : zz_g (.fieldLink RX5 32 "ChangeUntangler$Pieces" "piecesWith" "[[I") := ⟨List.mem_of_getElem? (i := 65) (by decide +kernel), by decide +kernel⟩
theorem zwc_10 : zz_g (.methodLink RX1 3 Lib.objectInit) := ⟨List.mem_of_getElem? (i := 90) (by decide +kernel), by decide +kernel⟩
theorem zwc_11 : zz_g (.fieldLink RX1 9 "ChangeUntangler$Code" "otherUses" "[I") := ⟨List.mem_of_getElem? (i := 94) (by decide +kernel), by decide +kernel⟩
theorem zwc_12 : zz_g (.methodLink RX2 3 Lib.objectInit) := ⟨List.mem_of_getElem? (i := 105) (by decide +kernel), by decide +kernel⟩
theorem zwc_13 : zz_g (.fieldLink RX2 9 "ChangeUntangler$Evidence" "weights" "[I") := ⟨List.mem_of_getElem? (i := 106) (by decide +kernel), by decide +kernel⟩
theorem zwc_14 : zz_g (.fieldLink RX2 15 "ChangeUntangler$Evidence" "span" "I") := ⟨List.mem_of_getElem? (i := 107) (by decide +kernel), by decide +kernel⟩
theorem zwc_15 : zz_g (.methodLink RX6 3 Lib.objectInit) := ⟨List.mem_of_getElem? (i := 118) (by decide +kernel), by decide +kernel⟩
theorem zwc_16 : zz_g (.fieldLink RX6 9 "ChangeUntangler$Sayings" "must" "[I") := ⟨List.mem_of_getElem? (i := 119) (by decide +kernel), by decide +kernel⟩
theorem zwc_17 : zz_g (.fieldLink RX6 15 "ChangeUntangler$Sayings" "mustNot" "[I") := ⟨List.mem_of_getElem? (i := 120) (by decide +kernel), by decide +kernel⟩
theorem zwc_18 : zz_g (.methodLink RX3 3 Lib.objectInit) := ⟨List.mem_of_getElem? (i := 131) (by decide +kernel), by decide +kernel⟩
theorem zwc_19 : zz_g (.fieldLink RX3 9 "ChangeUntangler$Groups" "threshold" "I") := ⟨List.mem_of_getElem? (i := 133) (by decide +kernel), by decide +kernel⟩
theorem zwc_20 : zz_g (.fieldLink RX3 15 "ChangeUntangler$Groups" "manner" "I") := ⟨List.mem_of_getElem? (i := 135) (by decide +kernel), by decide +kernel⟩
theorem zwc_21 : zz_g (.fieldLink RX3 18 "ChangeUntangler$Groups" "sets" "[I") := ⟨List.mem_of_getElem? (i := 142) (by decide +kernel), by decide +kernel⟩
theorem zwc_22 : zz_g (.classLink RX3 22 "[[I") := ⟨List.mem_of_getElem? (i := 132) (by decide +kernel), by decide +kernel⟩
theorem zwc_23 : zz_g (.fieldLink RX3 24 "ChangeUntangler$Groups" "affinities" "[[I") := ⟨List.mem_of_getElem? (i := 145) (by decide +kernel), by decide +kernel⟩
theorem zwc_24 : zz_g (.methodLink RX4 3 Lib.objectInit) := ⟨List.mem_of_getElem? (i := 164) (by decide +kernel), by decide +kernel⟩
theorem zwc_25 : zz_g (.fieldLink RX4 9 "ChangeUntangler$Parcels" "sets" "[I") := ⟨List.mem_of_getElem? (i := 170) (by decide +kernel), by decide +kernel⟩
theorem zwc_26 : zz_g (.fieldLink RX4 15 "ChangeUntangler$Parcels" "needed" "[I") := ⟨List.mem_of_getElem? (i := 172) (by decide +kernel), by decide +kernel⟩
theorem zwc_27 : zz_g (.methodLink RX0 3 Lib.objectInit) := ⟨List.mem_of_getElem? (i := 187) (by decide +kernel), by decide +kernel⟩
theorem zwc_28 : zz_g (.fieldLink RX0 9 "ChangeUntangler$BestOrder" "order" "[I") := ⟨List.mem_of_getElem? (i := 192) (by decide +kernel), by decide +kernel⟩
theorem zwc_29 : zz_g (.fieldLink RX0 15 "ChangeUntangler$BestOrder" "fromThen" "[I") := ⟨List.mem_of_getElem? (i := 194) (by decide +kernel), by decide +kernel⟩
theorem zwc_30 : zz_g (.methodLink RX7 3 Lib.objectInit) := ⟨List.mem_of_getElem? (i := 43) (by decide +kernel), by decide +kernel⟩
theorem zwc_31 : zz_g (.classLink RX7 9 RX5) := ⟨List.mem_of_getElem? (i := 46) (by decide +kernel), by decide +kernel⟩
theorem zwc_32 : zz_g (.instantiable RX5 8) := ⟨List.mem_of_getElem? (i := 47) (by decide +kernel), by decide +kernel⟩
theorem zwc_33 : zz_g (.initialized RX5) := ⟨List.mem_of_getElem? (i := 23) (by decide +kernel), by decide +kernel⟩
theorem zwc_34 : zz_g (.fieldLink RX7 12 "ChangeUntangler" "pieces" "LChangeUntangler$Pieces;") := ⟨List.mem_of_getElem? (i := 204) (by decide +kernel), by decide +kernel⟩
theorem zwc_35 : zz_g (.classLink RX7 16 RX1) := ⟨List.mem_of_getElem? (i := 85) (by decide +kernel), by decide +kernel⟩
theorem zwc_36 : zz_g (.instantiable RX1 2) := ⟨List.mem_of_getElem? (i := 86) (by decide +kernel), by decide +kernel⟩
theorem zwc_37 : zz_g (.initialized RX1) := ⟨List.mem_of_getElem? (i := 24) (by decide +kernel), by decide +kernel⟩
theorem zwc_38 : zz_g (.fieldLink RX7 19 "ChangeUntangler" "code" "LChangeUntangler$Code;") := ⟨List.mem_of_getElem? (i := 205) (by decide +kernel), by decide +kernel⟩
theorem zwc_39 : zz_g (.classLink RX7 23 RX2) := ⟨List.mem_of_getElem? (i := 100) (by decide +kernel), by decide +kernel⟩
theorem zwc_40 : zz_g (.instantiable RX2 2) := ⟨List.mem_of_getElem? (i := 101) (by decide +kernel), by decide +kernel⟩
theorem zwc_41 : zz_g (.initialized RX2) := ⟨List.mem_of_getElem? (i := 25) (by decide +kernel), by decide +kernel⟩
theorem zwc_42 : zz_g (.methodLink RX7 25 yX2_init) := ⟨List.mem_of_getElem? (i := 102) (by decide +kernel), by decide +kernel⟩
theorem zwc_43 : zz_g (.fieldLink RX7 26 "ChangeUntangler" "evidence" "LChangeUntangler$Evidence;") := ⟨List.mem_of_getElem? (i := 206) (by decide +kernel), by decide +kernel⟩
theorem zwc_44 : zz_g (.classLink RX7 30 RX6) := ⟨List.mem_of_getElem? (i := 113) (by decide +kernel), by decide +kernel⟩
theorem zwc_45 : zz_g (.instantiable RX6 2) := ⟨List.mem_of_getElem? (i := 114) (by decide +kernel), by decide +kernel⟩
theorem zwc_46 : zz_g (.initialized RX6) := ⟨List.mem_of_getElem? (i := 26) (by decide +kernel), by decide +kernel⟩
theorem zwc_47 : zz_g (.fieldLink RX7 33 "ChangeUntangler" "sayings" "LChangeUntangler$Sayings;") := ⟨List.mem_of_getElem? (i := 207) (by decide +kernel), by decide +kernel⟩
theorem zwc_48 : zz_g (.classLink RX7 37 RX3) := ⟨List.mem_of_getElem? (i := 126) (by decide +kernel), by decide +kernel⟩
theorem zwc_49 : zz_g (.instantiable RX3 6) := ⟨List.mem_of_getElem? (i := 127) (by decide +kernel), by decide +kernel⟩
theorem zwc_50 : zz_g (.initialized RX3) := ⟨List.mem_of_getElem? (i := 27) (by decide +kernel), by decide +kernel⟩
theorem zwc_51 : zz_g (.fieldLink RX7 40 "ChangeUntangler" "groups" "LChangeUntangler$Groups;") := ⟨List.mem_of_getElem? (i := 208) (by decide +kernel), by decide +kernel⟩
theorem zwc_52 : zz_g (.classLink RX7 44 RX4) := ⟨List.mem_of_getElem? (i := 159) (by decide +kernel), by decide +kernel⟩
theorem zwc_53 : zz_g (.instantiable RX4 4) := ⟨List.mem_of_getElem? (i := 160) (by decide +kernel), by decide +kernel⟩
theorem zwc_54 : zz_g (.initialized RX4) := ⟨List.mem_of_getElem? (i := 28) (by decide +kernel), by decide +kernel⟩
theorem zwc_55 : zz_g (.fieldLink RX7 47 "ChangeUntangler" "parcels" "LChangeUntangler$Parcels;") := ⟨List.mem_of_getElem? (i := 209) (by decide +kernel), by decide +kernel⟩
theorem zwc_56 : zz_g (.classLink RX7 51 RX0) := ⟨List.mem_of_getElem? (i := 182) (by decide +kernel), by decide +kernel⟩
theorem zwc_57 : zz_g (.instantiable RX0 4) := ⟨List.mem_of_getElem? (i := 183) (by decide +kernel), by decide +kernel⟩
theorem zwc_58 : zz_g (.initialized RX0) := ⟨List.mem_of_getElem? (i := 29) (by decide +kernel), by decide +kernel⟩
theorem zwc_59 : zz_g (.fieldLink RX7 54 "ChangeUntangler" "bestOrder" "LChangeUntangler$BestOrder;") := ⟨List.mem_of_getElem? (i := 210) (by decide +kernel), by decide +kernel⟩
theorem dX5_init_0 : decode cX5_init 0 = .ok (.aload_n 0, 1) := by decide +kernel
theorem dX5_init_1 : decode cX5_init 1 = .ok (.invokespecial 3, 3) := by decide +kernel
theorem dX5_init_4 : decode cX5_init 4 = .ok (.aload_n 0, 1) := by decide +kernel
theorem dX5_init_5 : decode cX5_init 5 = .ok (.bipush 14, 2) := by decide +kernel
theorem dX5_init_7 : decode cX5_init 7 = .ok (.newarray .int, 2) := by decide +kernel
theorem dX5_init_9 : decode cX5_init 9 = .ok (.putfield 9, 3) := by decide +kernel
theorem dX5_init_12 : decode cX5_init 12 = .ok (.aload_n 0, 1) := by decide +kernel
theorem dX5_init_13 : decode cX5_init 13 = .ok (.bipush 14, 2) := by decide +kernel
theorem dX5_init_15 : decode cX5_init 15 = .ok (.newarray .int, 2) := by decide +kernel
theorem dX5_init_17 : decode cX5_init 17 = .ok (.putfield 15, 3) := by decide +kernel
theorem dX5_init_20 : decode cX5_init 20 = .ok (.aload_n 0, 1) := by decide +kernel
theorem dX5_init_21 : decode cX5_init 21 = .ok (.bipush 14, 2) := by decide +kernel
theorem dX5_init_23 : decode cX5_init 23 = .ok (.newarray .int, 2) := by decide +kernel
theorem dX5_init_25 : decode cX5_init 25 = .ok (.putfield 18, 3) := by decide +kernel
theorem dX5_init_28 : decode cX5_init 28 = .ok (.aload_n 0, 1) := by decide +kernel
theorem dX5_init_29 : decode cX5_init 29 = .ok (.bipush 14, 2) := by decide +kernel
theorem dX5_init_31 : decode cX5_init 31 = .ok (.newarray .int, 2) := by decide +kernel
theorem dX5_init_33 : decode cX5_init 33 = .ok (.putfield 21, 3) := by decide +kernel
theorem dX5_init_36 : decode cX5_init 36 = .ok (.aload_n 0, 1) := by decide +kernel
theorem dX5_init_37 : decode cX5_init 37 = .ok (.bipush 14, 2) := by decide +kernel
theorem dX5_init_39 : decode cX5_init 39 = .ok (.newarray .int, 2) := by decide +kernel
theorem dX5_init_41 : decode cX5_init 41 = .ok (.putfield 24, 3) := by decide +kernel
theorem dX5_init_44 : decode cX5_init 44 = .ok (.aload_n 0, 1) := by decide +kernel
theorem dX5_init_45 : decode cX5_init 45 = .ok (.iconst 4, 1) := by decide +kernel
theorem dX5_init_46 : decode cX5_init 46 = .ok (.bipush 14, 2) := by decide +kernel
theorem dX5_init_48 : decode cX5_init 48 = .ok (.multianewarray 27 2, 4) := by decide +kernel
theorem dX5_init_52 : decode cX5_init 52 = .ok (.putfield 29, 3) := by decide +kernel
theorem dX5_init_55 : decode cX5_init 55 = .ok (.aload_n 0, 1) := by decide +kernel
theorem dX5_init_56 : decode cX5_init 56 = .ok (.iconst 4, 1) := by decide +kernel
theorem dX5_init_57 : decode cX5_init 57 = .ok (.bipush 16, 2) := by decide +kernel
theorem dX5_init_59 : decode cX5_init 59 = .ok (.multianewarray 27 2, 4) := by decide +kernel
theorem dX5_init_63 : decode cX5_init 63 = .ok (.putfield 32, 3) := by decide +kernel
theorem dX5_init_66 : decode cX5_init 66 = .ok (.return_, 1) := by decide +kernel
set_option maxHeartbeats 4000000 in
set_option maxRecDepth 100000 in
theorem mk_X5 {D : va_G} {U : zz_U} (c0 : Nat × va_E) (h : Nat) : zz_Met yX5_init (.code yX5_init cX5_init 1 none) 1 15 198 D U [.ref h] [c0, (h, .inr (5, [.int 0, .null, .null, .null, .null, .null, .null, .null]))] (fun v ws1 => v = none ∧ ∃ q : Nat → Nat, ws1 = [c0, (h, .inr (5, [.int 0, .ref (q 0), .ref (q 1), .ref (q 2), .ref (q 3), .ref (q 4), .ref (q 5), .ref (q 10)])), ((q 0), .inl (U.1, 14, .inl (fun _ => 0))), ((q 1), .inl (U.1, 14, .inl (fun _ => 0))), ((q 2), .inl (U.1, 14, .inl (fun _ => 0))), ((q 3), .inl (U.1, 14, .inl (fun _ => 0))), ((q 4), .inl (U.1, 14, .inl (fun _ => 0))), ((q 5), .inl (U.2.2.2, 4, .inr (.inr (.inr (.inr (fun i => if i < 4 then some ((fun j => q (6 + j)) i) else none)))))), ((q 6), .inl (U.1, 14, .inl (fun _ => 0))), ((q 7), .inl (U.1, 14, .inl (fun _ => 0))), ((q 8), .inl (U.1, 14, .inl (fun _ => 0))), ((q 9), .inl (U.1, 14, .inl (fun _ => 0))), ((q 10), .inl (U.2.2.2, 4, .inr (.inr (.inr (.inr (fun i => if i < 4 then some ((fun j => q (11 + j)) i) else none)))))), ((q 11), .inl (U.1, 16, .inl (fun _ => 0))), ((q 12), .inl (U.1, 16, .inl (fun _ => 0))), ((q 13), .inl (U.1, 16, .inl (fun _ => 0))), ((q 14), .inl (U.1, 16, .inl (fun _ => 0)))]) zz_noth := by
  refine zz_method RX5 rfl (by decide +kernel) (Nat.le_of_ble_eq_true rfl) ?_
  intro p l e s m args below meth c A hnm C
  have hO := C.F.2.2.2.2.2.2
  refine zz_lvs (lv1 := [(0, .ref h)]) rfl ?_
  refine zz_aload_n C 0 dX5_init_0 rfl rfl ?_
  refine zz_objInit C dX5_init_1 zwc_0 zo_1 zo_2 (by decide) (Nat.le_of_ble_eq_true rfl) ?_
  refine zz_aload_n C 0 dX5_init_4 rfl rfl ?_
  refine zz_bipush (v := (14 : Int32)) C dX5_init_5 (by decide) ?_
  refine zz_newi (N := 14) C dX5_init_7 zwc_1 (by decide) (by decide) (Nat.le_of_ble_eq_true rfl) (Nat.le_of_ble_eq_true rfl) (Nat.le_of_ble_eq_true rfl) (fun q0 => ?_)
  refine zz_ren (ws' := [c0, (h, .inr (5, [.int 0, .null, .null, .null, .null, .null, .null, .null])), (q0, .inl (U.1, 14, .inl (fun _ => 0)))]) rfl ?_
  refine zz_putF (T := TX5) (v := .ref q0) (ty := (.array .int)) C 1 1 dX5_init_9 rfl rfl z_in5 (by decide +kernel) tyX5_ok nmX5 (by decide) zwc_2 rfl hnm rfl (by decide +kernel) rfl rfl (Nat.le_of_ble_eq_true rfl) (ws1 := [c0, (h, .inr (5, [.int 0, .ref q0, .null, .null, .null, .null, .null, .null])), (q0, .inl (U.1, 14, .inl (fun _ => 0)))]) rfl ?_
  refine zz_aload_n C 0 dX5_init_12 rfl rfl ?_
  refine zz_bipush (v := (14 : Int32)) C dX5_init_13 (by decide) ?_
  refine zz_newi (N := 14) C dX5_init_15 zwc_1 (by decide) (by decide) (Nat.le_of_ble_eq_true rfl) (Nat.le_of_ble_eq_true rfl) (Nat.le_of_ble_eq_true rfl) (fun q1 => ?_)
  refine zz_ren (ws' := [c0, (h, .inr (5, [.int 0, .ref q0, .null, .null, .null, .null, .null, .null])), (q0, .inl (U.1, 14, .inl (fun _ => 0))), (q1, .inl (U.1, 14, .inl (fun _ => 0)))]) rfl ?_
  refine zz_putF (T := TX5) (v := .ref q1) (ty := (.array .int)) C 1 2 dX5_init_17 rfl rfl z_in5 (by decide +kernel) tyX5_ok nmX5 (by decide) zwc_3 rfl hnm rfl (by decide +kernel) rfl rfl (Nat.le_of_ble_eq_true rfl) (ws1 := [c0, (h, .inr (5, [.int 0, .ref q0, .ref q1, .null, .null, .null, .null, .null])), (q0, .inl (U.1, 14, .inl (fun _ => 0))), (q1, .inl (U.1, 14, .inl (fun _ => 0)))]) rfl ?_
  refine zz_aload_n C 0 dX5_init_20 rfl rfl ?_
  refine zz_bipush (v := (14 : Int32)) C dX5_init_21 (by decide) ?_
  refine zz_newi (N := 14) C dX5_init_23 zwc_1 (by decide) (by decide) (Nat.le_of_ble_eq_true rfl) (Nat.le_of_ble_eq_true rfl) (Nat.le_of_ble_eq_true rfl) (fun q2 => ?_)
  refine zz_ren (ws' := [c0, (h, .inr (5, [.int 0, .ref q0, .ref q1, .null, .null, .null, .null, .null])), (q0, .inl (U.1, 14, .inl (fun _ => 0))), (q1, .inl (U.1, 14, .inl (fun _ => 0))), (q2, .inl (U.1, 14, .inl (fun _ => 0)))]) rfl ?_
  refine zz_putF (T := TX5) (v := .ref q2) (ty := (.array .int)) C 1 3 dX5_init_25 rfl rfl z_in5 (by decide +kernel) tyX5_ok nmX5 (by decide) zwc_4 rfl hnm rfl (by decide +kernel) rfl rfl (Nat.le_of_ble_eq_true rfl) (ws1 := [c0, (h, .inr (5, [.int 0, .ref q0, .ref q1, .ref q2, .null, .null, .null, .null])), (q0, .inl (U.1, 14, .inl (fun _ => 0))), (q1, .inl (U.1, 14, .inl (fun _ => 0))), (q2, .inl (U.1, 14, .inl (fun _ => 0)))]) rfl ?_
  refine zz_aload_n C 0 dX5_init_28 rfl rfl ?_
  refine zz_bipush (v := (14 : Int32)) C dX5_init_29 (by decide) ?_
  refine zz_newi (N := 14) C dX5_init_31 zwc_1 (by decide) (by decide) (Nat.le_of_ble_eq_true rfl) (Nat.le_of_ble_eq_true rfl) (Nat.le_of_ble_eq_true rfl) (fun q3 => ?_)
  refine zz_ren (ws' := [c0, (h, .inr (5, [.int 0, .ref q0, .ref q1, .ref q2, .null, .null, .null, .null])), (q0, .inl (U.1, 14, .inl (fun _ => 0))), (q1, .inl (U.1, 14, .inl (fun _ => 0))), (q2, .inl (U.1, 14, .inl (fun _ => 0))), (q3, .inl (U.1, 14, .inl (fun _ => 0)))]) rfl ?_
  refine zz_putF (T := TX5) (v := .ref q3) (ty := (.array .int)) C 1 4 dX5_init_33 rfl rfl z_in5 (by decide +kernel) tyX5_ok nmX5 (by decide) zwc_5 rfl hnm rfl (by decide +kernel) rfl rfl (Nat.le_of_ble_eq_true rfl) (ws1 := [c0, (h, .inr (5, [.int 0, .ref q0, .ref q1, .ref q2, .ref q3, .null, .null, .null])), (q0, .inl (U.1, 14, .inl (fun _ => 0))), (q1, .inl (U.1, 14, .inl (fun _ => 0))), (q2, .inl (U.1, 14, .inl (fun _ => 0))), (q3, .inl (U.1, 14, .inl (fun _ => 0)))]) rfl ?_
  refine zz_aload_n C 0 dX5_init_36 rfl rfl ?_
  refine zz_bipush (v := (14 : Int32)) C dX5_init_37 (by decide) ?_
  refine zz_newi (N := 14) C dX5_init_39 zwc_1 (by decide) (by decide) (Nat.le_of_ble_eq_true rfl) (Nat.le_of_ble_eq_true rfl) (Nat.le_of_ble_eq_true rfl) (fun q4 => ?_)
  refine zz_ren (ws' := [c0, (h, .inr (5, [.int 0, .ref q0, .ref q1, .ref q2, .ref q3, .null, .null, .null])), (q0, .inl (U.1, 14, .inl (fun _ => 0))), (q1, .inl (U.1, 14, .inl (fun _ => 0))), (q2, .inl (U.1, 14, .inl (fun _ => 0))), (q3, .inl (U.1, 14, .inl (fun _ => 0))), (q4, .inl (U.1, 14, .inl (fun _ => 0)))]) rfl ?_
  refine zz_putF (T := TX5) (v := .ref q4) (ty := (.array .int)) C 1 5 dX5_init_41 rfl rfl z_in5 (by decide +kernel) tyX5_ok nmX5 (by decide) zwc_6 rfl hnm rfl (by decide +kernel) rfl rfl (Nat.le_of_ble_eq_true rfl) (ws1 := [c0, (h, .inr (5, [.int 0, .ref q0, .ref q1, .ref q2, .ref q3, .ref q4, .null, .null])), (q0, .inl (U.1, 14, .inl (fun _ => 0))), (q1, .inl (U.1, 14, .inl (fun _ => 0))), (q2, .inl (U.1, 14, .inl (fun _ => 0))), (q3, .inl (U.1, 14, .inl (fun _ => 0))), (q4, .inl (U.1, 14, .inl (fun _ => 0)))]) rfl ?_
  refine zz_aload_n C 0 dX5_init_44 rfl rfl ?_
  refine zz_iconst (v := (4 : Int32)) C dX5_init_45 (by decide) ?_
  refine zz_bipush (v := (14 : Int32)) C dX5_init_46 (by decide) ?_
  refine zz_mna (N := 4) (K := 14) C dX5_init_48 zwc_7 hO zwc_1 (by decide) (by decide) (by decide) (by decide) (Nat.le_of_ble_eq_true rfl) (Nat.le_of_ble_eq_true rfl) (Nat.le_of_ble_eq_true rfl) (Nat.le_of_ble_eq_true rfl) (Nat.le_of_ble_eq_true rfl) (fun q5 r5 => ?_)
  refine zz_ren (ws' := [c0, (h, .inr (5, [.int 0, .ref q0, .ref q1, .ref q2, .ref q3, .ref q4, .null, .null])), (q0, .inl (U.1, 14, .inl (fun _ => 0))), (q1, .inl (U.1, 14, .inl (fun _ => 0))), (q2, .inl (U.1, 14, .inl (fun _ => 0))), (q3, .inl (U.1, 14, .inl (fun _ => 0))), (q4, .inl (U.1, 14, .inl (fun _ => 0))), (q5, .inl (U.2.2.2, 4, .inr (.inr (.inr (.inr (fun i => if i < 4 then some (r5 i) else none)))))), ((r5 0), .inl (U.1, 14, .inl (fun _ => 0))), ((r5 1), .inl (U.1, 14, .inl (fun _ => 0))), ((r5 2), .inl (U.1, 14, .inl (fun _ => 0))), ((r5 3), .inl (U.1, 14, .inl (fun _ => 0)))]) rfl ?_
  refine zz_putF (T := TX5) (v := .ref q5) (ty := (.array (.array .int))) C 1 6 dX5_init_52 rfl rfl z_in5 (by decide +kernel) tyX5_ok nmX5 (by decide) zwc_8 rfl hnm rfl (by decide +kernel) rfl rfl (Nat.le_of_ble_eq_true rfl) (ws1 := [c0, (h, .inr (5, [.int 0, .ref q0, .ref q1, .ref q2, .ref q3, .ref q4, .ref q5, .null])), (q0, .inl (U.1, 14, .inl (fun _ => 0))), (q1, .inl (U.1, 14, .inl (fun _ => 0))), (q2, .inl (U.1, 14, .inl (fun _ => 0))), (q3, .inl (U.1, 14, .inl (fun _ => 0))), (q4, .inl (U.1, 14, .inl (fun _ => 0))), (q5, .inl (U.2.2.2, 4, .inr (.inr (.inr (.inr (fun i => if i < 4 then some (r5 i) else none)))))), ((r5 0), .inl (U.1, 14, .inl (fun _ => 0))), ((r5 1), .inl (U.1, 14, .inl (fun _ => 0))), ((r5 2), .inl (U.1, 14, .inl (fun _ => 0))), ((r5 3), .inl (U.1, 14, .inl (fun _ => 0)))]) rfl ?_
  refine zz_aload_n C 0 dX5_init_55 rfl rfl ?_
  refine zz_iconst (v := (4 : Int32)) C dX5_init_56 (by decide) ?_
  refine zz_bipush (v := (16 : Int32)) C dX5_init_57 (by decide) ?_
  refine zz_mna (N := 4) (K := 16) C dX5_init_59 zwc_7 hO zwc_1 (by decide) (by decide) (by decide) (by decide) (Nat.le_of_ble_eq_true rfl) (Nat.le_of_ble_eq_true rfl) (Nat.le_of_ble_eq_true rfl) (Nat.le_of_ble_eq_true rfl) (Nat.le_of_ble_eq_true rfl) (fun q6 r6 => ?_)
  refine zz_ren (ws' := [c0, (h, .inr (5, [.int 0, .ref q0, .ref q1, .ref q2, .ref q3, .ref q4, .ref q5, .null])), (q0, .inl (U.1, 14, .inl (fun _ => 0))), (q1, .inl (U.1, 14, .inl (fun _ => 0))), (q2, .inl (U.1, 14, .inl (fun _ => 0))), (q3, .inl (U.1, 14, .inl (fun _ => 0))), (q4, .inl (U.1, 14, .inl (fun _ => 0))), (q5, .inl (U.2.2.2, 4, .inr (.inr (.inr (.inr (fun i => if i < 4 then some (r5 i) else none)))))), ((r5 0), .inl (U.1, 14, .inl (fun _ => 0))), ((r5 1), .inl (U.1, 14, .inl (fun _ => 0))), ((r5 2), .inl (U.1, 14, .inl (fun _ => 0))), ((r5 3), .inl (U.1, 14, .inl (fun _ => 0))), (q6, .inl (U.2.2.2, 4, .inr (.inr (.inr (.inr (fun i => if i < 4 then some (r6 i) else none)))))), ((r6 0), .inl (U.1, 16, .inl (fun _ => 0))), ((r6 1), .inl (U.1, 16, .inl (fun _ => 0))), ((r6 2), .inl (U.1, 16, .inl (fun _ => 0))), ((r6 3), .inl (U.1, 16, .inl (fun _ => 0)))]) rfl ?_
  refine zz_putF (T := TX5) (v := .ref q6) (ty := (.array (.array .int))) C 1 7 dX5_init_63 rfl rfl z_in5 (by decide +kernel) tyX5_ok nmX5 (by decide) zwc_9 rfl hnm rfl (by decide +kernel) rfl rfl (Nat.le_of_ble_eq_true rfl) (ws1 := [c0, (h, .inr (5, [.int 0, .ref q0, .ref q1, .ref q2, .ref q3, .ref q4, .ref q5, .ref q6])), (q0, .inl (U.1, 14, .inl (fun _ => 0))), (q1, .inl (U.1, 14, .inl (fun _ => 0))), (q2, .inl (U.1, 14, .inl (fun _ => 0))), (q3, .inl (U.1, 14, .inl (fun _ => 0))), (q4, .inl (U.1, 14, .inl (fun _ => 0))), (q5, .inl (U.2.2.2, 4, .inr (.inr (.inr (.inr (fun i => if i < 4 then some (r5 i) else none)))))), ((r5 0), .inl (U.1, 14, .inl (fun _ => 0))), ((r5 1), .inl (U.1, 14, .inl (fun _ => 0))), ((r5 2), .inl (U.1, 14, .inl (fun _ => 0))), ((r5 3), .inl (U.1, 14, .inl (fun _ => 0))), (q6, .inl (U.2.2.2, 4, .inr (.inr (.inr (.inr (fun i => if i < 4 then some (r6 i) else none)))))), ((r6 0), .inl (U.1, 16, .inl (fun _ => 0))), ((r6 1), .inl (U.1, 16, .inl (fun _ => 0))), ((r6 2), .inl (U.1, 16, .inl (fun _ => 0))), ((r6 3), .inl (U.1, 16, .inl (fun _ => 0)))]) rfl ?_
  have hE5 := zr_fun (n := 4) (r := r5) (g := fun j => (fun k => [q0, q1, q2, q3, q4, q5, (r5 0), (r5 1), (r5 2), (r5 3), q6, (r6 0), (r6 1), (r6 2), (r6 3)].getD k 0) (6 + j)) (fun i hi => by match i, hi with
      | 0, _ => rfl
      | 1, _ => rfl
      | 2, _ => rfl
      | 3, _ => rfl)
  have hE10 := zr_fun (n := 4) (r := r6) (g := fun j => (fun k => [q0, q1, q2, q3, q4, q5, (r5 0), (r5 1), (r5 2), (r5 3), q6, (r6 0), (r6 1), (r6 2), (r6 3)].getD k 0) (11 + j)) (fun i hi => by match i, hi with
      | 0, _ => rfl
      | 1, _ => rfl
      | 2, _ => rfl
      | 3, _ => rfl)
  exact zz_vret C dX5_init_66 (And.intro rfl ⟨fun k => [q0, q1, q2, q3, q4, q5, (r5 0), (r5 1), (r5 2), (r5 3), q6, (r6 0), (r6 1), (r6 2), (r6 3)].getD k 0, by rw [hE5, hE10]; rfl⟩) (Nat.le_of_ble_eq_true rfl) (Nat.le_of_ble_eq_true rfl)
theorem dX1_init_0 : decode cX1_init 0 = .ok (.aload_n 0, 1) := by decide +kernel
theorem dX1_init_1 : decode cX1_init 1 = .ok (.invokespecial 3, 3) := by decide +kernel
theorem dX1_init_4 : decode cX1_init 4 = .ok (.aload_n 0, 1) := by decide +kernel
theorem dX1_init_5 : decode cX1_init 5 = .ok (.bipush 16, 2) := by decide +kernel
theorem dX1_init_7 : decode cX1_init 7 = .ok (.newarray .int, 2) := by decide +kernel
theorem dX1_init_9 : decode cX1_init 9 = .ok (.putfield 9, 3) := by decide +kernel
theorem dX1_init_12 : decode cX1_init 12 = .ok (.return_, 1) := by decide +kernel
set_option maxHeartbeats 4000000 in
set_option maxRecDepth 100000 in
theorem mk_X1 {D : va_G} {U : zz_U} (c0 c1 c2 c3 c4 c5 c6 c7 c8 c9 c10 c11 c12 c13 c14 c15 c16 : Nat × va_E) (h : Nat) : zz_Met yX1_init (.code yX1_init cX1_init 1 none) 1 1 16 D U [.ref h] [c0, c1, c2, c3, c4, c5, c6, c7, c8, c9, c10, c11, c12, c13, c14, c15, c16, (h, .inr (1, [.int 0, .null]))] (fun v ws1 => v = none ∧ ∃ q : Nat → Nat, ws1 = [c0, c1, c2, c3, c4, c5, c6, c7, c8, c9, c10, c11, c12, c13, c14, c15, c16, (h, .inr (1, [.int 0, .ref (q 0)])), ((q 0), .inl (U.1, 16, .inl (fun _ => 0)))]) zz_noth := by
  refine zz_method RX1 rfl (by decide +kernel) (Nat.le_of_ble_eq_true rfl) ?_
  intro p l e s m args below meth c A hnm C
  have hO := C.F.2.2.2.2.2.2
  refine zz_lvs (lv1 := [(0, .ref h)]) rfl ?_
  refine zz_aload_n C 0 dX1_init_0 rfl rfl ?_
  refine zz_objInit C dX1_init_1 zwc_10 zo_1 zo_2 (by decide) (Nat.le_of_ble_eq_true rfl) ?_
  refine zz_aload_n C 0 dX1_init_4 rfl rfl ?_
  refine zz_bipush (v := (16 : Int32)) C dX1_init_5 (by decide) ?_
  refine zz_newi (N := 16) C dX1_init_7 zwc_1 (by decide) (by decide) (Nat.le_of_ble_eq_true rfl) (Nat.le_of_ble_eq_true rfl) (Nat.le_of_ble_eq_true rfl) (fun q0 => ?_)
  refine zz_ren (ws' := [c0, c1, c2, c3, c4, c5, c6, c7, c8, c9, c10, c11, c12, c13, c14, c15, c16, (h, .inr (1, [.int 0, .null])), (q0, .inl (U.1, 16, .inl (fun _ => 0)))]) rfl ?_
  refine zz_putF (T := TX1) (v := .ref q0) (ty := (.array .int)) C 17 1 dX1_init_9 rfl rfl z_in1 (by decide +kernel) tyX1_ok nmX1 (by decide) zwc_11 rfl hnm rfl (by decide +kernel) rfl rfl (Nat.le_of_ble_eq_true rfl) (ws1 := [c0, c1, c2, c3, c4, c5, c6, c7, c8, c9, c10, c11, c12, c13, c14, c15, c16, (h, .inr (1, [.int 0, .ref q0])), (q0, .inl (U.1, 16, .inl (fun _ => 0)))]) rfl ?_
  exact zz_vret C dX1_init_12 (And.intro rfl ⟨fun k => [q0].getD k 0, rfl⟩) (Nat.le_of_ble_eq_true rfl) (Nat.le_of_ble_eq_true rfl)
theorem dX2_init_0 : decode cX2_init 0 = .ok (.aload_n 0, 1) := by decide +kernel
theorem dX2_init_1 : decode cX2_init 1 = .ok (.invokespecial 3, 3) := by decide +kernel
theorem dX2_init_4 : decode cX2_init 4 = .ok (.aload_n 0, 1) := by decide +kernel
theorem dX2_init_5 : decode cX2_init 5 = .ok (.iconst 4, 1) := by decide +kernel
theorem dX2_init_6 : decode cX2_init 6 = .ok (.newarray .int, 2) := by decide +kernel
theorem dX2_init_8 : decode cX2_init 8 = .ok (.putfield 9, 3) := by decide +kernel
theorem dX2_init_11 : decode cX2_init 11 = .ok (.aload_n 0, 1) := by decide +kernel
theorem dX2_init_12 : decode cX2_init 12 = .ok (.getfield 9, 3) := by decide +kernel
theorem dX2_init_15 : decode cX2_init 15 = .ok (.iconst 0, 1) := by decide +kernel
theorem dX2_init_16 : decode cX2_init 16 = .ok (.bipush 6, 2) := by decide +kernel
theorem dX2_init_18 : decode cX2_init 18 = .ok (.iastore, 1) := by decide +kernel
theorem dX2_init_19 : decode cX2_init 19 = .ok (.aload_n 0, 1) := by decide +kernel
theorem dX2_init_20 : decode cX2_init 20 = .ok (.getfield 9, 3) := by decide +kernel
theorem dX2_init_23 : decode cX2_init 23 = .ok (.iconst 1, 1) := by decide +kernel
theorem dX2_init_24 : decode cX2_init 24 = .ok (.iconst 5, 1) := by decide +kernel
theorem dX2_init_25 : decode cX2_init 25 = .ok (.iastore, 1) := by decide +kernel
theorem dX2_init_26 : decode cX2_init 26 = .ok (.aload_n 0, 1) := by decide +kernel
theorem dX2_init_27 : decode cX2_init 27 = .ok (.getfield 9, 3) := by decide +kernel
theorem dX2_init_30 : decode cX2_init 30 = .ok (.iconst 2, 1) := by decide +kernel
theorem dX2_init_31 : decode cX2_init 31 = .ok (.bipush 8, 2) := by decide +kernel
theorem dX2_init_33 : decode cX2_init 33 = .ok (.iastore, 1) := by decide +kernel
theorem dX2_init_34 : decode cX2_init 34 = .ok (.aload_n 0, 1) := by decide +kernel
theorem dX2_init_35 : decode cX2_init 35 = .ok (.getfield 9, 3) := by decide +kernel
theorem dX2_init_38 : decode cX2_init 38 = .ok (.iconst 3, 1) := by decide +kernel
theorem dX2_init_39 : decode cX2_init 39 = .ok (.bipush 10, 2) := by decide +kernel
theorem dX2_init_41 : decode cX2_init 41 = .ok (.iastore, 1) := by decide +kernel
theorem dX2_init_42 : decode cX2_init 42 = .ok (.aload_n 0, 1) := by decide +kernel
theorem dX2_init_43 : decode cX2_init 43 = .ok (.bipush 20, 2) := by decide +kernel
theorem dX2_init_45 : decode cX2_init 45 = .ok (.putfield 15, 3) := by decide +kernel
theorem dX2_init_48 : decode cX2_init 48 = .ok (.return_, 1) := by decide +kernel
set_option maxHeartbeats 4000000 in
set_option maxRecDepth 100000 in
theorem mk_X2 {D : va_G} {U : zz_U} (c0 c1 c2 c3 c4 c5 c6 c7 c8 c9 c10 c11 c12 c13 c14 c15 c16 c17 c18 : Nat × va_E) (h : Nat) : zz_Met yX2_init (.code yX2_init cX2_init 1 none) 1 1 4 D U [.ref h] [c0, c1, c2, c3, c4, c5, c6, c7, c8, c9, c10, c11, c12, c13, c14, c15, c16, c17, c18, (h, .inr (2, [.null, .int 0]))] (fun v ws1 => v = none ∧ ∃ q : Nat → Nat, ws1 = [c0, c1, c2, c3, c4, c5, c6, c7, c8, c9, c10, c11, c12, c13, c14, c15, c16, c17, c18, (h, .inr (2, [.ref (q 0), .int 20])), ((q 0), .inl (U.1, 4, .inl (upd (upd (upd (upd (fun _ => 0) 0 6) 1 5) 2 8) 3 10)))]) zz_noth := by
  refine zz_method RX2 rfl (by decide +kernel) (Nat.le_of_ble_eq_true rfl) ?_
  intro p l e s m args below meth c A hnm C
  have hO := C.F.2.2.2.2.2.2
  refine zz_lvs (lv1 := [(0, .ref h)]) rfl ?_
  refine zz_aload_n C 0 dX2_init_0 rfl rfl ?_
  refine zz_objInit C dX2_init_1 zwc_12 zo_1 zo_2 (by decide) (Nat.le_of_ble_eq_true rfl) ?_
  refine zz_aload_n C 0 dX2_init_4 rfl rfl ?_
  refine zz_iconst (v := (4 : Int32)) C dX2_init_5 (by decide) ?_
  refine zz_newi (N := 4) C dX2_init_6 zwc_1 (by decide) (by decide) (Nat.le_of_ble_eq_true rfl) (Nat.le_of_ble_eq_true rfl) (Nat.le_of_ble_eq_true rfl) (fun q0 => ?_)
  refine zz_ren (ws' := [c0, c1, c2, c3, c4, c5, c6, c7, c8, c9, c10, c11, c12, c13, c14, c15, c16, c17, c18, (h, .inr (2, [.null, .int 0])), (q0, .inl (U.1, 4, .inl (fun _ => 0)))]) rfl ?_
  refine zz_putF (T := TX2) (v := .ref q0) (ty := (.array .int)) C 19 0 dX2_init_8 rfl rfl z_in2 (by decide +kernel) tyX2_ok nmX2 (by decide) zwc_13 rfl hnm rfl (by decide +kernel) rfl rfl (Nat.le_of_ble_eq_true rfl) (ws1 := [c0, c1, c2, c3, c4, c5, c6, c7, c8, c9, c10, c11, c12, c13, c14, c15, c16, c17, c18, (h, .inr (2, [.ref q0, .int 0])), (q0, .inl (U.1, 4, .inl (fun _ => 0)))]) rfl ?_
  refine zz_aload_n C 0 dX2_init_11 rfl rfl ?_
  refine zz_get (T := TX2) C 19 0 dX2_init_12 rfl rfl z_in2 (by decide +kernel) (by decide) zwc_13 rfl ?_
  refine zz_iconst (v := (0 : Int32)) C dX2_init_15 (by decide) ?_
  refine zz_bipush (v := (6 : Int32)) C dX2_init_16 (by decide) ?_
  refine zz_iast C 20 dX2_init_18 rfl (by unfold vp_in; decide) (ws1 := [c0, c1, c2, c3, c4, c5, c6, c7, c8, c9, c10, c11, c12, c13, c14, c15, c16, c17, c18, (h, .inr (2, [.ref q0, .int 0])), (q0, .inl (U.1, 4, .inl (upd (fun _ => 0) 0 6)))]) rfl ?_
  refine zz_aload_n C 0 dX2_init_19 rfl rfl ?_
  refine zz_get (T := TX2) C 19 0 dX2_init_20 rfl rfl z_in2 (by decide +kernel) (by decide) zwc_13 rfl ?_
  refine zz_iconst (v := (1 : Int32)) C dX2_init_23 (by decide) ?_
  refine zz_iconst (v := (5 : Int32)) C dX2_init_24 (by decide) ?_
  refine zz_iast C 20 dX2_init_25 rfl (by unfold vp_in; decide) (ws1 := [c0, c1, c2, c3, c4, c5, c6, c7, c8, c9, c10, c11, c12, c13, c14, c15, c16, c17, c18, (h, .inr (2, [.ref q0, .int 0])), (q0, .inl (U.1, 4, .inl (upd (upd (fun _ => 0) 0 6) 1 5)))]) rfl ?_
  refine zz_aload_n C 0 dX2_init_26 rfl rfl ?_
  refine zz_get (T := TX2) C 19 0 dX2_init_27 rfl rfl z_in2 (by decide +kernel) (by decide) zwc_13 rfl ?_
  refine zz_iconst (v := (2 : Int32)) C dX2_init_30 (by decide) ?_
  refine zz_bipush (v := (8 : Int32)) C dX2_init_31 (by decide) ?_
  refine zz_iast C 20 dX2_init_33 rfl (by unfold vp_in; decide) (ws1 := [c0, c1, c2, c3, c4, c5, c6, c7, c8, c9, c10, c11, c12, c13, c14, c15, c16, c17, c18, (h, .inr (2, [.ref q0, .int 0])), (q0, .inl (U.1, 4, .inl (upd (upd (upd (fun _ => 0) 0 6) 1 5) 2 8)))]) rfl ?_
  refine zz_aload_n C 0 dX2_init_34 rfl rfl ?_
  refine zz_get (T := TX2) C 19 0 dX2_init_35 rfl rfl z_in2 (by decide +kernel) (by decide) zwc_13 rfl ?_
  refine zz_iconst (v := (3 : Int32)) C dX2_init_38 (by decide) ?_
  refine zz_bipush (v := (10 : Int32)) C dX2_init_39 (by decide) ?_
  refine zz_iast C 20 dX2_init_41 rfl (by unfold vp_in; decide) (ws1 := [c0, c1, c2, c3, c4, c5, c6, c7, c8, c9, c10, c11, c12, c13, c14, c15, c16, c17, c18, (h, .inr (2, [.ref q0, .int 0])), (q0, .inl (U.1, 4, .inl (upd (upd (upd (upd (fun _ => 0) 0 6) 1 5) 2 8) 3 10)))]) rfl ?_
  refine zz_aload_n C 0 dX2_init_42 rfl rfl ?_
  refine zz_bipush (v := (20 : Int32)) C dX2_init_43 (by decide) ?_
  refine zz_put (T := TX2) (v := .int 20) (ty := .int) C 19 1 dX2_init_45 rfl rfl z_in2 (by decide +kernel) tyX2_ok nmX2 (by decide) zwc_14 rfl (by decide +kernel) rfl rfl (Nat.le_of_ble_eq_true rfl) (ws1 := [c0, c1, c2, c3, c4, c5, c6, c7, c8, c9, c10, c11, c12, c13, c14, c15, c16, c17, c18, (h, .inr (2, [.ref q0, .int 20])), (q0, .inl (U.1, 4, .inl (upd (upd (upd (upd (fun _ => 0) 0 6) 1 5) 2 8) 3 10)))]) rfl ?_
  exact zz_vret C dX2_init_48 (And.intro rfl ⟨fun k => [q0].getD k 0, rfl⟩) (Nat.le_of_ble_eq_true rfl) (Nat.le_of_ble_eq_true rfl)
theorem dX6_init_0 : decode cX6_init 0 = .ok (.aload_n 0, 1) := by decide +kernel
theorem dX6_init_1 : decode cX6_init 1 = .ok (.invokespecial 3, 3) := by decide +kernel
theorem dX6_init_4 : decode cX6_init 4 = .ok (.aload_n 0, 1) := by decide +kernel
theorem dX6_init_5 : decode cX6_init 5 = .ok (.bipush 14, 2) := by decide +kernel
theorem dX6_init_7 : decode cX6_init 7 = .ok (.newarray .int, 2) := by decide +kernel
theorem dX6_init_9 : decode cX6_init 9 = .ok (.putfield 9, 3) := by decide +kernel
theorem dX6_init_12 : decode cX6_init 12 = .ok (.aload_n 0, 1) := by decide +kernel
theorem dX6_init_13 : decode cX6_init 13 = .ok (.bipush 14, 2) := by decide +kernel
theorem dX6_init_15 : decode cX6_init 15 = .ok (.newarray .int, 2) := by decide +kernel
theorem dX6_init_17 : decode cX6_init 17 = .ok (.putfield 15, 3) := by decide +kernel
theorem dX6_init_20 : decode cX6_init 20 = .ok (.return_, 1) := by decide +kernel
set_option maxHeartbeats 4000000 in
set_option maxRecDepth 100000 in
theorem mk_X6 {D : va_G} {U : zz_U} (c0 c1 c2 c3 c4 c5 c6 c7 c8 c9 c10 c11 c12 c13 c14 c15 c16 c17 c18 c19 c20 : Nat × va_E) (h : Nat) : zz_Met yX6_init (.code yX6_init cX6_init 1 none) 1 2 28 D U [.ref h] [c0, c1, c2, c3, c4, c5, c6, c7, c8, c9, c10, c11, c12, c13, c14, c15, c16, c17, c18, c19, c20, (h, .inr (6, [.null, .null]))] (fun v ws1 => v = none ∧ ∃ q : Nat → Nat, ws1 = [c0, c1, c2, c3, c4, c5, c6, c7, c8, c9, c10, c11, c12, c13, c14, c15, c16, c17, c18, c19, c20, (h, .inr (6, [.ref (q 0), .ref (q 1)])), ((q 0), .inl (U.1, 14, .inl (fun _ => 0))), ((q 1), .inl (U.1, 14, .inl (fun _ => 0)))]) zz_noth := by
  refine zz_method RX6 rfl (by decide +kernel) (Nat.le_of_ble_eq_true rfl) ?_
  intro p l e s m args below meth c A hnm C
  have hO := C.F.2.2.2.2.2.2
  refine zz_lvs (lv1 := [(0, .ref h)]) rfl ?_
  refine zz_aload_n C 0 dX6_init_0 rfl rfl ?_
  refine zz_objInit C dX6_init_1 zwc_15 zo_1 zo_2 (by decide) (Nat.le_of_ble_eq_true rfl) ?_
  refine zz_aload_n C 0 dX6_init_4 rfl rfl ?_
  refine zz_bipush (v := (14 : Int32)) C dX6_init_5 (by decide) ?_
  refine zz_newi (N := 14) C dX6_init_7 zwc_1 (by decide) (by decide) (Nat.le_of_ble_eq_true rfl) (Nat.le_of_ble_eq_true rfl) (Nat.le_of_ble_eq_true rfl) (fun q0 => ?_)
  refine zz_ren (ws' := [c0, c1, c2, c3, c4, c5, c6, c7, c8, c9, c10, c11, c12, c13, c14, c15, c16, c17, c18, c19, c20, (h, .inr (6, [.null, .null])), (q0, .inl (U.1, 14, .inl (fun _ => 0)))]) rfl ?_
  refine zz_putF (T := TX6) (v := .ref q0) (ty := (.array .int)) C 21 0 dX6_init_9 rfl rfl z_in6 (by decide +kernel) tyX6_ok nmX6 (by decide) zwc_16 rfl hnm rfl (by decide +kernel) rfl rfl (Nat.le_of_ble_eq_true rfl) (ws1 := [c0, c1, c2, c3, c4, c5, c6, c7, c8, c9, c10, c11, c12, c13, c14, c15, c16, c17, c18, c19, c20, (h, .inr (6, [.ref q0, .null])), (q0, .inl (U.1, 14, .inl (fun _ => 0)))]) rfl ?_
  refine zz_aload_n C 0 dX6_init_12 rfl rfl ?_
  refine zz_bipush (v := (14 : Int32)) C dX6_init_13 (by decide) ?_
  refine zz_newi (N := 14) C dX6_init_15 zwc_1 (by decide) (by decide) (Nat.le_of_ble_eq_true rfl) (Nat.le_of_ble_eq_true rfl) (Nat.le_of_ble_eq_true rfl) (fun q1 => ?_)
  refine zz_ren (ws' := [c0, c1, c2, c3, c4, c5, c6, c7, c8, c9, c10, c11, c12, c13, c14, c15, c16, c17, c18, c19, c20, (h, .inr (6, [.ref q0, .null])), (q0, .inl (U.1, 14, .inl (fun _ => 0))), (q1, .inl (U.1, 14, .inl (fun _ => 0)))]) rfl ?_
  refine zz_putF (T := TX6) (v := .ref q1) (ty := (.array .int)) C 21 1 dX6_init_17 rfl rfl z_in6 (by decide +kernel) tyX6_ok nmX6 (by decide) zwc_17 rfl hnm rfl (by decide +kernel) rfl rfl (Nat.le_of_ble_eq_true rfl) (ws1 := [c0, c1, c2, c3, c4, c5, c6, c7, c8, c9, c10, c11, c12, c13, c14, c15, c16, c17, c18, c19, c20, (h, .inr (6, [.ref q0, .ref q1])), (q0, .inl (U.1, 14, .inl (fun _ => 0))), (q1, .inl (U.1, 14, .inl (fun _ => 0)))]) rfl ?_
  exact zz_vret C dX6_init_20 (And.intro rfl ⟨fun k => [q0, q1].getD k 0, rfl⟩) (Nat.le_of_ble_eq_true rfl) (Nat.le_of_ble_eq_true rfl)
theorem dX3_init_0 : decode cX3_init 0 = .ok (.aload_n 0, 1) := by decide +kernel
theorem dX3_init_1 : decode cX3_init 1 = .ok (.invokespecial 3, 3) := by decide +kernel
theorem dX3_init_4 : decode cX3_init 4 = .ok (.aload_n 0, 1) := by decide +kernel
theorem dX3_init_5 : decode cX3_init 5 = .ok (.bipush 12, 2) := by decide +kernel
theorem dX3_init_7 : decode cX3_init 7 = .ok (.putfield 9, 3) := by decide +kernel
theorem dX3_init_10 : decode cX3_init 10 = .ok (.aload_n 0, 1) := by decide +kernel
theorem dX3_init_11 : decode cX3_init 11 = .ok (.iconst 1, 1) := by decide +kernel
theorem dX3_init_12 : decode cX3_init 12 = .ok (.putfield 15, 3) := by decide +kernel
theorem dX3_init_15 : decode cX3_init 15 = .ok (.aload_n 0, 1) := by decide +kernel
theorem dX3_init_16 : decode cX3_init 16 = .ok (.bipush 14, 2) := by decide +kernel
theorem dX3_init_18 : decode cX3_init 18 = .ok (.newarray .int, 2) := by decide +kernel
theorem dX3_init_20 : decode cX3_init 20 = .ok (.putfield 18, 3) := by decide +kernel
theorem dX3_init_23 : decode cX3_init 23 = .ok (.aload_n 0, 1) := by decide +kernel
theorem dX3_init_24 : decode cX3_init 24 = .ok (.bipush 14, 2) := by decide +kernel
theorem dX3_init_26 : decode cX3_init 26 = .ok (.bipush 14, 2) := by decide +kernel
theorem dX3_init_28 : decode cX3_init 28 = .ok (.multianewarray 22 2, 4) := by decide +kernel
theorem dX3_init_32 : decode cX3_init 32 = .ok (.putfield 24, 3) := by decide +kernel
theorem dX3_init_35 : decode cX3_init 35 = .ok (.return_, 1) := by decide +kernel
set_option maxHeartbeats 4000000 in
set_option maxRecDepth 100000 in
theorem mk_X3 {D : va_G} {U : zz_U} (c0 c1 c2 c3 c4 c5 c6 c7 c8 c9 c10 c11 c12 c13 c14 c15 c16 c17 c18 c19 c20 c21 c22 c23 : Nat × va_E) (h : Nat) : zz_Met yX3_init (.code yX3_init cX3_init 1 none) 1 16 224 D U [.ref h] [c0, c1, c2, c3, c4, c5, c6, c7, c8, c9, c10, c11, c12, c13, c14, c15, c16, c17, c18, c19, c20, c21, c22, c23, (h, .inr (3, [.int 0, .int 0, .int 0, .int 0, .null, .null]))] (fun v ws1 => v = none ∧ ∃ q : Nat → Nat, ws1 = [c0, c1, c2, c3, c4, c5, c6, c7, c8, c9, c10, c11, c12, c13, c14, c15, c16, c17, c18, c19, c20, c21, c22, c23, (h, .inr (3, [.int 12, .int 1, .int 0, .int 0, .ref (q 0), .ref (q 1)])), ((q 0), .inl (U.1, 14, .inl (fun _ => 0))), ((q 1), .inl (U.2.2.2, 14, .inr (.inr (.inr (.inr (fun i => if i < 14 then some ((fun j => q (2 + j)) i) else none)))))), ((q 2), .inl (U.1, 14, .inl (fun _ => 0))), ((q 3), .inl (U.1, 14, .inl (fun _ => 0))), ((q 4), .inl (U.1, 14, .inl (fun _ => 0))), ((q 5), .inl (U.1, 14, .inl (fun _ => 0))), ((q 6), .inl (U.1, 14, .inl (fun _ => 0))), ((q 7), .inl (U.1, 14, .inl (fun _ => 0))), ((q 8), .inl (U.1, 14, .inl (fun _ => 0))), ((q 9), .inl (U.1, 14, .inl (fun _ => 0))), ((q 10), .inl (U.1, 14, .inl (fun _ => 0))), ((q 11), .inl (U.1, 14, .inl (fun _ => 0))), ((q 12), .inl (U.1, 14, .inl (fun _ => 0))), ((q 13), .inl (U.1, 14, .inl (fun _ => 0))), ((q 14), .inl (U.1, 14, .inl (fun _ => 0))), ((q 15), .inl (U.1, 14, .inl (fun _ => 0)))]) zz_noth := by
  refine zz_method RX3 rfl (by decide +kernel) (Nat.le_of_ble_eq_true rfl) ?_
  intro p l e s m args below meth c A hnm C
  have hO := C.F.2.2.2.2.2.2
  refine zz_lvs (lv1 := [(0, .ref h)]) rfl ?_
  refine zz_aload_n C 0 dX3_init_0 rfl rfl ?_
  refine zz_objInit C dX3_init_1 zwc_18 zo_1 zo_2 (by decide) (Nat.le_of_ble_eq_true rfl) ?_
  refine zz_aload_n C 0 dX3_init_4 rfl rfl ?_
  refine zz_bipush (v := (12 : Int32)) C dX3_init_5 (by decide) ?_
  refine zz_put (T := TX3) (v := .int 12) (ty := .int) C 24 0 dX3_init_7 rfl rfl z_in3 (by decide +kernel) tyX3_ok nmX3 (by decide) zwc_19 rfl (by decide +kernel) rfl rfl (Nat.le_of_ble_eq_true rfl) (ws1 := [c0, c1, c2, c3, c4, c5, c6, c7, c8, c9, c10, c11, c12, c13, c14, c15, c16, c17, c18, c19, c20, c21, c22, c23, (h, .inr (3, [.int 12, .int 0, .int 0, .int 0, .null, .null]))]) rfl ?_
  refine zz_aload_n C 0 dX3_init_10 rfl rfl ?_
  refine zz_iconst (v := (1 : Int32)) C dX3_init_11 (by decide) ?_
  refine zz_put (T := TX3) (v := .int 1) (ty := .int) C 24 1 dX3_init_12 rfl rfl z_in3 (by decide +kernel) tyX3_ok nmX3 (by decide) zwc_20 rfl (by decide +kernel) rfl rfl (Nat.le_of_ble_eq_true rfl) (ws1 := [c0, c1, c2, c3, c4, c5, c6, c7, c8, c9, c10, c11, c12, c13, c14, c15, c16, c17, c18, c19, c20, c21, c22, c23, (h, .inr (3, [.int 12, .int 1, .int 0, .int 0, .null, .null]))]) rfl ?_
  refine zz_aload_n C 0 dX3_init_15 rfl rfl ?_
  refine zz_bipush (v := (14 : Int32)) C dX3_init_16 (by decide) ?_
  refine zz_newi (N := 14) C dX3_init_18 zwc_1 (by decide) (by decide) (Nat.le_of_ble_eq_true rfl) (Nat.le_of_ble_eq_true rfl) (Nat.le_of_ble_eq_true rfl) (fun q0 => ?_)
  refine zz_ren (ws' := [c0, c1, c2, c3, c4, c5, c6, c7, c8, c9, c10, c11, c12, c13, c14, c15, c16, c17, c18, c19, c20, c21, c22, c23, (h, .inr (3, [.int 12, .int 1, .int 0, .int 0, .null, .null])), (q0, .inl (U.1, 14, .inl (fun _ => 0)))]) rfl ?_
  refine zz_putF (T := TX3) (v := .ref q0) (ty := (.array .int)) C 24 4 dX3_init_20 rfl rfl z_in3 (by decide +kernel) tyX3_ok nmX3 (by decide) zwc_21 rfl hnm rfl (by decide +kernel) rfl rfl (Nat.le_of_ble_eq_true rfl) (ws1 := [c0, c1, c2, c3, c4, c5, c6, c7, c8, c9, c10, c11, c12, c13, c14, c15, c16, c17, c18, c19, c20, c21, c22, c23, (h, .inr (3, [.int 12, .int 1, .int 0, .int 0, .ref q0, .null])), (q0, .inl (U.1, 14, .inl (fun _ => 0)))]) rfl ?_
  refine zz_aload_n C 0 dX3_init_23 rfl rfl ?_
  refine zz_bipush (v := (14 : Int32)) C dX3_init_24 (by decide) ?_
  refine zz_bipush (v := (14 : Int32)) C dX3_init_26 (by decide) ?_
  refine zz_mna (N := 14) (K := 14) C dX3_init_28 zwc_22 hO zwc_1 (by decide) (by decide) (by decide) (by decide) (Nat.le_of_ble_eq_true rfl) (Nat.le_of_ble_eq_true rfl) (Nat.le_of_ble_eq_true rfl) (Nat.le_of_ble_eq_true rfl) (Nat.le_of_ble_eq_true rfl) (fun q1 r1 => ?_)
  refine zz_ren (ws' := [c0, c1, c2, c3, c4, c5, c6, c7, c8, c9, c10, c11, c12, c13, c14, c15, c16, c17, c18, c19, c20, c21, c22, c23, (h, .inr (3, [.int 12, .int 1, .int 0, .int 0, .ref q0, .null])), (q0, .inl (U.1, 14, .inl (fun _ => 0))), (q1, .inl (U.2.2.2, 14, .inr (.inr (.inr (.inr (fun i => if i < 14 then some (r1 i) else none)))))), ((r1 0), .inl (U.1, 14, .inl (fun _ => 0))), ((r1 1), .inl (U.1, 14, .inl (fun _ => 0))), ((r1 2), .inl (U.1, 14, .inl (fun _ => 0))), ((r1 3), .inl (U.1, 14, .inl (fun _ => 0))), ((r1 4), .inl (U.1, 14, .inl (fun _ => 0))), ((r1 5), .inl (U.1, 14, .inl (fun _ => 0))), ((r1 6), .inl (U.1, 14, .inl (fun _ => 0))), ((r1 7), .inl (U.1, 14, .inl (fun _ => 0))), ((r1 8), .inl (U.1, 14, .inl (fun _ => 0))), ((r1 9), .inl (U.1, 14, .inl (fun _ => 0))), ((r1 10), .inl (U.1, 14, .inl (fun _ => 0))), ((r1 11), .inl (U.1, 14, .inl (fun _ => 0))), ((r1 12), .inl (U.1, 14, .inl (fun _ => 0))), ((r1 13), .inl (U.1, 14, .inl (fun _ => 0)))]) rfl ?_
  refine zz_putF (T := TX3) (v := .ref q1) (ty := (.array (.array .int))) C 24 5 dX3_init_32 rfl rfl z_in3 (by decide +kernel) tyX3_ok nmX3 (by decide) zwc_23 rfl hnm rfl (by decide +kernel) rfl rfl (Nat.le_of_ble_eq_true rfl) (ws1 := [c0, c1, c2, c3, c4, c5, c6, c7, c8, c9, c10, c11, c12, c13, c14, c15, c16, c17, c18, c19, c20, c21, c22, c23, (h, .inr (3, [.int 12, .int 1, .int 0, .int 0, .ref q0, .ref q1])), (q0, .inl (U.1, 14, .inl (fun _ => 0))), (q1, .inl (U.2.2.2, 14, .inr (.inr (.inr (.inr (fun i => if i < 14 then some (r1 i) else none)))))), ((r1 0), .inl (U.1, 14, .inl (fun _ => 0))), ((r1 1), .inl (U.1, 14, .inl (fun _ => 0))), ((r1 2), .inl (U.1, 14, .inl (fun _ => 0))), ((r1 3), .inl (U.1, 14, .inl (fun _ => 0))), ((r1 4), .inl (U.1, 14, .inl (fun _ => 0))), ((r1 5), .inl (U.1, 14, .inl (fun _ => 0))), ((r1 6), .inl (U.1, 14, .inl (fun _ => 0))), ((r1 7), .inl (U.1, 14, .inl (fun _ => 0))), ((r1 8), .inl (U.1, 14, .inl (fun _ => 0))), ((r1 9), .inl (U.1, 14, .inl (fun _ => 0))), ((r1 10), .inl (U.1, 14, .inl (fun _ => 0))), ((r1 11), .inl (U.1, 14, .inl (fun _ => 0))), ((r1 12), .inl (U.1, 14, .inl (fun _ => 0))), ((r1 13), .inl (U.1, 14, .inl (fun _ => 0)))]) rfl ?_
  have hE1 := zr_fun (n := 14) (r := r1) (g := fun j => (fun k => [q0, q1, (r1 0), (r1 1), (r1 2), (r1 3), (r1 4), (r1 5), (r1 6), (r1 7), (r1 8), (r1 9), (r1 10), (r1 11), (r1 12), (r1 13)].getD k 0) (2 + j)) (fun i hi => by match i, hi with
      | 0, _ => rfl
      | 1, _ => rfl
      | 2, _ => rfl
      | 3, _ => rfl
      | 4, _ => rfl
      | 5, _ => rfl
      | 6, _ => rfl
      | 7, _ => rfl
      | 8, _ => rfl
      | 9, _ => rfl
      | 10, _ => rfl
      | 11, _ => rfl
      | 12, _ => rfl
      | 13, _ => rfl)
  exact zz_vret C dX3_init_35 (And.intro rfl ⟨fun k => [q0, q1, (r1 0), (r1 1), (r1 2), (r1 3), (r1 4), (r1 5), (r1 6), (r1 7), (r1 8), (r1 9), (r1 10), (r1 11), (r1 12), (r1 13)].getD k 0, by rw [hE1]; rfl⟩) (Nat.le_of_ble_eq_true rfl) (Nat.le_of_ble_eq_true rfl)
theorem dX4_init_0 : decode cX4_init 0 = .ok (.aload_n 0, 1) := by decide +kernel
theorem dX4_init_1 : decode cX4_init 1 = .ok (.invokespecial 3, 3) := by decide +kernel
theorem dX4_init_4 : decode cX4_init 4 = .ok (.aload_n 0, 1) := by decide +kernel
theorem dX4_init_5 : decode cX4_init 5 = .ok (.bipush 14, 2) := by decide +kernel
theorem dX4_init_7 : decode cX4_init 7 = .ok (.newarray .int, 2) := by decide +kernel
theorem dX4_init_9 : decode cX4_init 9 = .ok (.putfield 9, 3) := by decide +kernel
theorem dX4_init_12 : decode cX4_init 12 = .ok (.aload_n 0, 1) := by decide +kernel
theorem dX4_init_13 : decode cX4_init 13 = .ok (.bipush 14, 2) := by decide +kernel
theorem dX4_init_15 : decode cX4_init 15 = .ok (.newarray .int, 2) := by decide +kernel
theorem dX4_init_17 : decode cX4_init 17 = .ok (.putfield 15, 3) := by decide +kernel
theorem dX4_init_20 : decode cX4_init 20 = .ok (.return_, 1) := by decide +kernel
set_option maxHeartbeats 4000000 in
set_option maxRecDepth 100000 in
theorem mk_X4 {D : va_G} {U : zz_U} (c0 c1 c2 c3 c4 c5 c6 c7 c8 c9 c10 c11 c12 c13 c14 c15 c16 c17 c18 c19 c20 c21 c22 c23 c24 c25 c26 c27 c28 c29 c30 c31 c32 c33 c34 c35 c36 c37 c38 c39 c40 : Nat × va_E) (h : Nat) : zz_Met yX4_init (.code yX4_init cX4_init 1 none) 1 2 28 D U [.ref h] [c0, c1, c2, c3, c4, c5, c6, c7, c8, c9, c10, c11, c12, c13, c14, c15, c16, c17, c18, c19, c20, c21, c22, c23, c24, c25, c26, c27, c28, c29, c30, c31, c32, c33, c34, c35, c36, c37, c38, c39, c40, (h, .inr (4, [.int 0, .int 0, .null, .null]))] (fun v ws1 => v = none ∧ ∃ q : Nat → Nat, ws1 = [c0, c1, c2, c3, c4, c5, c6, c7, c8, c9, c10, c11, c12, c13, c14, c15, c16, c17, c18, c19, c20, c21, c22, c23, c24, c25, c26, c27, c28, c29, c30, c31, c32, c33, c34, c35, c36, c37, c38, c39, c40, (h, .inr (4, [.int 0, .int 0, .ref (q 0), .ref (q 1)])), ((q 0), .inl (U.1, 14, .inl (fun _ => 0))), ((q 1), .inl (U.1, 14, .inl (fun _ => 0)))]) zz_noth := by
  refine zz_method RX4 rfl (by decide +kernel) (Nat.le_of_ble_eq_true rfl) ?_
  intro p l e s m args below meth c A hnm C
  have hO := C.F.2.2.2.2.2.2
  refine zz_lvs (lv1 := [(0, .ref h)]) rfl ?_
  refine zz_aload_n C 0 dX4_init_0 rfl rfl ?_
  refine zz_objInit C dX4_init_1 zwc_24 zo_1 zo_2 (by decide) (Nat.le_of_ble_eq_true rfl) ?_
  refine zz_aload_n C 0 dX4_init_4 rfl rfl ?_
  refine zz_bipush (v := (14 : Int32)) C dX4_init_5 (by decide) ?_
  refine zz_newi (N := 14) C dX4_init_7 zwc_1 (by decide) (by decide) (Nat.le_of_ble_eq_true rfl) (Nat.le_of_ble_eq_true rfl) (Nat.le_of_ble_eq_true rfl) (fun q0 => ?_)
  refine zz_ren (ws' := [c0, c1, c2, c3, c4, c5, c6, c7, c8, c9, c10, c11, c12, c13, c14, c15, c16, c17, c18, c19, c20, c21, c22, c23, c24, c25, c26, c27, c28, c29, c30, c31, c32, c33, c34, c35, c36, c37, c38, c39, c40, (h, .inr (4, [.int 0, .int 0, .null, .null])), (q0, .inl (U.1, 14, .inl (fun _ => 0)))]) rfl ?_
  refine zz_putF (T := TX4) (v := .ref q0) (ty := (.array .int)) C 41 2 dX4_init_9 rfl rfl z_in4 (by decide +kernel) tyX4_ok nmX4 (by decide) zwc_25 rfl hnm rfl (by decide +kernel) rfl rfl (Nat.le_of_ble_eq_true rfl) (ws1 := [c0, c1, c2, c3, c4, c5, c6, c7, c8, c9, c10, c11, c12, c13, c14, c15, c16, c17, c18, c19, c20, c21, c22, c23, c24, c25, c26, c27, c28, c29, c30, c31, c32, c33, c34, c35, c36, c37, c38, c39, c40, (h, .inr (4, [.int 0, .int 0, .ref q0, .null])), (q0, .inl (U.1, 14, .inl (fun _ => 0)))]) rfl ?_
  refine zz_aload_n C 0 dX4_init_12 rfl rfl ?_
  refine zz_bipush (v := (14 : Int32)) C dX4_init_13 (by decide) ?_
  refine zz_newi (N := 14) C dX4_init_15 zwc_1 (by decide) (by decide) (Nat.le_of_ble_eq_true rfl) (Nat.le_of_ble_eq_true rfl) (Nat.le_of_ble_eq_true rfl) (fun q1 => ?_)
  refine zz_ren (ws' := [c0, c1, c2, c3, c4, c5, c6, c7, c8, c9, c10, c11, c12, c13, c14, c15, c16, c17, c18, c19, c20, c21, c22, c23, c24, c25, c26, c27, c28, c29, c30, c31, c32, c33, c34, c35, c36, c37, c38, c39, c40, (h, .inr (4, [.int 0, .int 0, .ref q0, .null])), (q0, .inl (U.1, 14, .inl (fun _ => 0))), (q1, .inl (U.1, 14, .inl (fun _ => 0)))]) rfl ?_
  refine zz_putF (T := TX4) (v := .ref q1) (ty := (.array .int)) C 41 3 dX4_init_17 rfl rfl z_in4 (by decide +kernel) tyX4_ok nmX4 (by decide) zwc_26 rfl hnm rfl (by decide +kernel) rfl rfl (Nat.le_of_ble_eq_true rfl) (ws1 := [c0, c1, c2, c3, c4, c5, c6, c7, c8, c9, c10, c11, c12, c13, c14, c15, c16, c17, c18, c19, c20, c21, c22, c23, c24, c25, c26, c27, c28, c29, c30, c31, c32, c33, c34, c35, c36, c37, c38, c39, c40, (h, .inr (4, [.int 0, .int 0, .ref q0, .ref q1])), (q0, .inl (U.1, 14, .inl (fun _ => 0))), (q1, .inl (U.1, 14, .inl (fun _ => 0)))]) rfl ?_
  exact zz_vret C dX4_init_20 (And.intro rfl ⟨fun k => [q0, q1].getD k 0, rfl⟩) (Nat.le_of_ble_eq_true rfl) (Nat.le_of_ble_eq_true rfl)
theorem dX0_init_0 : decode cX0_init 0 = .ok (.aload_n 0, 1) := by decide +kernel
theorem dX0_init_1 : decode cX0_init 1 = .ok (.invokespecial 3, 3) := by decide +kernel
theorem dX0_init_4 : decode cX0_init 4 = .ok (.aload_n 0, 1) := by decide +kernel
theorem dX0_init_5 : decode cX0_init 5 = .ok (.bipush 9, 2) := by decide +kernel
theorem dX0_init_7 : decode cX0_init 7 = .ok (.newarray .int, 2) := by decide +kernel
theorem dX0_init_9 : decode cX0_init 9 = .ok (.putfield 9, 3) := by decide +kernel
theorem dX0_init_12 : decode cX0_init 12 = .ok (.aload_n 0, 1) := by decide +kernel
theorem dX0_init_13 : decode cX0_init 13 = .ok (.sipush 512, 3) := by decide +kernel
theorem dX0_init_16 : decode cX0_init 16 = .ok (.newarray .int, 2) := by decide +kernel
theorem dX0_init_18 : decode cX0_init 18 = .ok (.putfield 15, 3) := by decide +kernel
theorem dX0_init_21 : decode cX0_init 21 = .ok (.return_, 1) := by decide +kernel
set_option maxHeartbeats 4000000 in
set_option maxRecDepth 100000 in
theorem mk_X0 {D : va_G} {U : zz_U} (c0 c1 c2 c3 c4 c5 c6 c7 c8 c9 c10 c11 c12 c13 c14 c15 c16 c17 c18 c19 c20 c21 c22 c23 c24 c25 c26 c27 c28 c29 c30 c31 c32 c33 c34 c35 c36 c37 c38 c39 c40 c41 c42 c43 : Nat × va_E) (h : Nat) : zz_Met yX0_init (.code yX0_init cX0_init 1 none) 1 2 521 D U [.ref h] [c0, c1, c2, c3, c4, c5, c6, c7, c8, c9, c10, c11, c12, c13, c14, c15, c16, c17, c18, c19, c20, c21, c22, c23, c24, c25, c26, c27, c28, c29, c30, c31, c32, c33, c34, c35, c36, c37, c38, c39, c40, c41, c42, c43, (h, .inr (0, [.int 0, .int 0, .null, .null]))] (fun v ws1 => v = none ∧ ∃ q : Nat → Nat, ws1 = [c0, c1, c2, c3, c4, c5, c6, c7, c8, c9, c10, c11, c12, c13, c14, c15, c16, c17, c18, c19, c20, c21, c22, c23, c24, c25, c26, c27, c28, c29, c30, c31, c32, c33, c34, c35, c36, c37, c38, c39, c40, c41, c42, c43, (h, .inr (0, [.int 0, .int 0, .ref (q 0), .ref (q 1)])), ((q 0), .inl (U.1, 9, .inl (fun _ => 0))), ((q 1), .inl (U.1, 512, .inl (fun _ => 0)))]) zz_noth := by
  refine zz_method RX0 rfl (by decide +kernel) (Nat.le_of_ble_eq_true rfl) ?_
  intro p l e s m args below meth c A hnm C
  have hO := C.F.2.2.2.2.2.2
  refine zz_lvs (lv1 := [(0, .ref h)]) rfl ?_
  refine zz_aload_n C 0 dX0_init_0 rfl rfl ?_
  refine zz_objInit C dX0_init_1 zwc_27 zo_1 zo_2 (by decide) (Nat.le_of_ble_eq_true rfl) ?_
  refine zz_aload_n C 0 dX0_init_4 rfl rfl ?_
  refine zz_bipush (v := (9 : Int32)) C dX0_init_5 (by decide) ?_
  refine zz_newi (N := 9) C dX0_init_7 zwc_1 (by decide) (by decide) (Nat.le_of_ble_eq_true rfl) (Nat.le_of_ble_eq_true rfl) (Nat.le_of_ble_eq_true rfl) (fun q0 => ?_)
  refine zz_ren (ws' := [c0, c1, c2, c3, c4, c5, c6, c7, c8, c9, c10, c11, c12, c13, c14, c15, c16, c17, c18, c19, c20, c21, c22, c23, c24, c25, c26, c27, c28, c29, c30, c31, c32, c33, c34, c35, c36, c37, c38, c39, c40, c41, c42, c43, (h, .inr (0, [.int 0, .int 0, .null, .null])), (q0, .inl (U.1, 9, .inl (fun _ => 0)))]) rfl ?_
  refine zz_putF (T := TX0) (v := .ref q0) (ty := (.array .int)) C 44 2 dX0_init_9 rfl rfl z_in0 (by decide +kernel) tyX0_ok nmX0 (by decide) zwc_28 rfl hnm rfl (by decide +kernel) rfl rfl (Nat.le_of_ble_eq_true rfl) (ws1 := [c0, c1, c2, c3, c4, c5, c6, c7, c8, c9, c10, c11, c12, c13, c14, c15, c16, c17, c18, c19, c20, c21, c22, c23, c24, c25, c26, c27, c28, c29, c30, c31, c32, c33, c34, c35, c36, c37, c38, c39, c40, c41, c42, c43, (h, .inr (0, [.int 0, .int 0, .ref q0, .null])), (q0, .inl (U.1, 9, .inl (fun _ => 0)))]) rfl ?_
  refine zz_aload_n C 0 dX0_init_12 rfl rfl ?_
  refine zz_sipush (v := (512 : Int32)) C dX0_init_13 (by decide) ?_
  refine zz_newi (N := 512) C dX0_init_16 zwc_1 (by decide) (by decide) (Nat.le_of_ble_eq_true rfl) (Nat.le_of_ble_eq_true rfl) (Nat.le_of_ble_eq_true rfl) (fun q1 => ?_)
  refine zz_ren (ws' := [c0, c1, c2, c3, c4, c5, c6, c7, c8, c9, c10, c11, c12, c13, c14, c15, c16, c17, c18, c19, c20, c21, c22, c23, c24, c25, c26, c27, c28, c29, c30, c31, c32, c33, c34, c35, c36, c37, c38, c39, c40, c41, c42, c43, (h, .inr (0, [.int 0, .int 0, .ref q0, .null])), (q0, .inl (U.1, 9, .inl (fun _ => 0))), (q1, .inl (U.1, 512, .inl (fun _ => 0)))]) rfl ?_
  refine zz_putF (T := TX0) (v := .ref q1) (ty := (.array .int)) C 44 3 dX0_init_18 rfl rfl z_in0 (by decide +kernel) tyX0_ok nmX0 (by decide) zwc_29 rfl hnm rfl (by decide +kernel) rfl rfl (Nat.le_of_ble_eq_true rfl) (ws1 := [c0, c1, c2, c3, c4, c5, c6, c7, c8, c9, c10, c11, c12, c13, c14, c15, c16, c17, c18, c19, c20, c21, c22, c23, c24, c25, c26, c27, c28, c29, c30, c31, c32, c33, c34, c35, c36, c37, c38, c39, c40, c41, c42, c43, (h, .inr (0, [.int 0, .int 0, .ref q0, .ref q1])), (q0, .inl (U.1, 9, .inl (fun _ => 0))), (q1, .inl (U.1, 512, .inl (fun _ => 0)))]) rfl ?_
  exact zz_vret C dX0_init_21 (And.intro rfl ⟨fun k => [q0, q1].getD k 0, rfl⟩) (Nat.le_of_ble_eq_true rfl) (Nat.le_of_ble_eq_true rfl)
theorem dX7_init_0 : decode cX7_init 0 = .ok (.aload_n 0, 1) := by decide +kernel
theorem dX7_init_1 : decode cX7_init 1 = .ok (.invokespecial 3, 3) := by decide +kernel
theorem dX7_init_4 : decode cX7_init 4 = .ok (.aload_n 0, 1) := by decide +kernel
theorem dX7_init_5 : decode cX7_init 5 = .ok (.new 9, 3) := by decide +kernel
theorem dX7_init_8 : decode cX7_init 8 = .ok (.dup, 1) := by decide +kernel
theorem dX7_init_9 : decode cX7_init 9 = .ok (.invokespecial 11, 3) := by decide +kernel
theorem dX7_init_12 : decode cX7_init 12 = .ok (.putfield 12, 3) := by decide +kernel
theorem dX7_init_15 : decode cX7_init 15 = .ok (.aload_n 0, 1) := by decide +kernel
theorem dX7_init_16 : decode cX7_init 16 = .ok (.new 16, 3) := by decide +kernel
theorem dX7_init_19 : decode cX7_init 19 = .ok (.dup, 1) := by decide +kernel
theorem dX7_init_20 : decode cX7_init 20 = .ok (.invokespecial 18, 3) := by decide +kernel
theorem dX7_init_23 : decode cX7_init 23 = .ok (.putfield 19, 3) := by decide +kernel
theorem dX7_init_26 : decode cX7_init 26 = .ok (.aload_n 0, 1) := by decide +kernel
theorem dX7_init_27 : decode cX7_init 27 = .ok (.new 23, 3) := by decide +kernel
theorem dX7_init_30 : decode cX7_init 30 = .ok (.dup, 1) := by decide +kernel
theorem dX7_init_31 : decode cX7_init 31 = .ok (.invokespecial 25, 3) := by decide +kernel
theorem dX7_init_34 : decode cX7_init 34 = .ok (.putfield 26, 3) := by decide +kernel
theorem dX7_init_37 : decode cX7_init 37 = .ok (.aload_n 0, 1) := by decide +kernel
theorem dX7_init_38 : decode cX7_init 38 = .ok (.new 30, 3) := by decide +kernel
theorem dX7_init_41 : decode cX7_init 41 = .ok (.dup, 1) := by decide +kernel
theorem dX7_init_42 : decode cX7_init 42 = .ok (.invokespecial 32, 3) := by decide +kernel
theorem dX7_init_45 : decode cX7_init 45 = .ok (.putfield 33, 3) := by decide +kernel
theorem dX7_init_48 : decode cX7_init 48 = .ok (.aload_n 0, 1) := by decide +kernel
theorem dX7_init_49 : decode cX7_init 49 = .ok (.new 37, 3) := by decide +kernel
theorem dX7_init_52 : decode cX7_init 52 = .ok (.dup, 1) := by decide +kernel
theorem dX7_init_53 : decode cX7_init 53 = .ok (.invokespecial 39, 3) := by decide +kernel
theorem dX7_init_56 : decode cX7_init 56 = .ok (.putfield 40, 3) := by decide +kernel
theorem dX7_init_59 : decode cX7_init 59 = .ok (.aload_n 0, 1) := by decide +kernel
theorem dX7_init_60 : decode cX7_init 60 = .ok (.new 44, 3) := by decide +kernel
theorem dX7_init_63 : decode cX7_init 63 = .ok (.dup, 1) := by decide +kernel
theorem dX7_init_64 : decode cX7_init 64 = .ok (.invokespecial 46, 3) := by decide +kernel
theorem dX7_init_67 : decode cX7_init 67 = .ok (.putfield 47, 3) := by decide +kernel
theorem dX7_init_70 : decode cX7_init 70 = .ok (.aload_n 0, 1) := by decide +kernel
theorem dX7_init_71 : decode cX7_init 71 = .ok (.new 51, 3) := by decide +kernel
theorem dX7_init_74 : decode cX7_init 74 = .ok (.dup, 1) := by decide +kernel
theorem dX7_init_75 : decode cX7_init 75 = .ok (.invokespecial 53, 3) := by decide +kernel
theorem dX7_init_78 : decode cX7_init 78 = .ok (.putfield 54, 3) := by decide +kernel
theorem dX7_init_81 : decode cX7_init 81 = .ok (.return_, 1) := by decide +kernel
set_option maxHeartbeats 4000000 in
set_option maxRecDepth 100000 in
theorem mk_X7 {D : va_G} {U : zz_U} (h : Nat) : zz_Met yX7_init (.code yX7_init cX7_init 1 none) 2 46 1047 D U [.ref h] [(h, .inr (7, [.null, .null, .null, .null, .null, .null, .null, .int 0, .int 0]))] (fun v ws1 => v = none ∧ ∃ q : Nat → Nat, ws1 = [(h, .inr (7, [.ref (q 0), .ref (q 16), .ref (q 18), .ref (q 20), .ref (q 23), .ref (q 40), .ref (q 43), .int 0, .int 0])), ((q 0), .inr (5, [.int 0, .ref (q 1), .ref (q 2), .ref (q 3), .ref (q 4), .ref (q 5), .ref (q 6), .ref (q 11)])), ((q 1), .inl (U.1, 14, .inl (fun _ => 0))), ((q 2), .inl (U.1, 14, .inl (fun _ => 0))), ((q 3), .inl (U.1, 14, .inl (fun _ => 0))), ((q 4), .inl (U.1, 14, .inl (fun _ => 0))), ((q 5), .inl (U.1, 14, .inl (fun _ => 0))), ((q 6), .inl (U.2.2.2, 4, .inr (.inr (.inr (.inr (fun i => if i < 4 then some ((fun j => q (7 + j)) i) else none)))))), ((q 7), .inl (U.1, 14, .inl (fun _ => 0))), ((q 8), .inl (U.1, 14, .inl (fun _ => 0))), ((q 9), .inl (U.1, 14, .inl (fun _ => 0))), ((q 10), .inl (U.1, 14, .inl (fun _ => 0))), ((q 11), .inl (U.2.2.2, 4, .inr (.inr (.inr (.inr (fun i => if i < 4 then some ((fun j => q (12 + j)) i) else none)))))), ((q 12), .inl (U.1, 16, .inl (fun _ => 0))), ((q 13), .inl (U.1, 16, .inl (fun _ => 0))), ((q 14), .inl (U.1, 16, .inl (fun _ => 0))), ((q 15), .inl (U.1, 16, .inl (fun _ => 0))), ((q 16), .inr (1, [.int 0, .ref (q 17)])), ((q 17), .inl (U.1, 16, .inl (fun _ => 0))), ((q 18), .inr (2, [.ref (q 19), .int 20])), ((q 19), .inl (U.1, 4, .inl (upd (upd (upd (upd (fun _ => 0) 0 6) 1 5) 2 8) 3 10))), ((q 20), .inr (6, [.ref (q 21), .ref (q 22)])), ((q 21), .inl (U.1, 14, .inl (fun _ => 0))), ((q 22), .inl (U.1, 14, .inl (fun _ => 0))), ((q 23), .inr (3, [.int 12, .int 1, .int 0, .int 0, .ref (q 24), .ref (q 25)])), ((q 24), .inl (U.1, 14, .inl (fun _ => 0))), ((q 25), .inl (U.2.2.2, 14, .inr (.inr (.inr (.inr (fun i => if i < 14 then some ((fun j => q (26 + j)) i) else none)))))), ((q 26), .inl (U.1, 14, .inl (fun _ => 0))), ((q 27), .inl (U.1, 14, .inl (fun _ => 0))), ((q 28), .inl (U.1, 14, .inl (fun _ => 0))), ((q 29), .inl (U.1, 14, .inl (fun _ => 0))), ((q 30), .inl (U.1, 14, .inl (fun _ => 0))), ((q 31), .inl (U.1, 14, .inl (fun _ => 0))), ((q 32), .inl (U.1, 14, .inl (fun _ => 0))), ((q 33), .inl (U.1, 14, .inl (fun _ => 0))), ((q 34), .inl (U.1, 14, .inl (fun _ => 0))), ((q 35), .inl (U.1, 14, .inl (fun _ => 0))), ((q 36), .inl (U.1, 14, .inl (fun _ => 0))), ((q 37), .inl (U.1, 14, .inl (fun _ => 0))), ((q 38), .inl (U.1, 14, .inl (fun _ => 0))), ((q 39), .inl (U.1, 14, .inl (fun _ => 0))), ((q 40), .inr (4, [.int 0, .int 0, .ref (q 41), .ref (q 42)])), ((q 41), .inl (U.1, 14, .inl (fun _ => 0))), ((q 42), .inl (U.1, 14, .inl (fun _ => 0))), ((q 43), .inr (0, [.int 0, .int 0, .ref (q 44), .ref (q 45)])), ((q 44), .inl (U.1, 9, .inl (fun _ => 0))), ((q 45), .inl (U.1, 512, .inl (fun _ => 0)))]) zz_noth := by
  refine zz_method RX7 rfl (by decide +kernel) (Nat.le_of_ble_eq_true rfl) ?_
  intro p l e s m args below meth c A hnm C
  have hO := C.F.2.2.2.2.2.2
  refine zz_lvs (lv1 := [(0, .ref h)]) rfl ?_
  refine zz_aload_n C 0 dX7_init_0 rfl rfl ?_
  refine zz_objInit C dX7_init_1 zwc_30 zo_1 zo_2 (by decide) (Nat.le_of_ble_eq_true rfl) ?_
  refine zz_aload_n C 0 dX7_init_4 rfl rfl ?_
  refine zz_new (ci := 5) (T := TX5) (fs := [.int 0, .null, .null, .null, .null, .null, .null, .null]) C dX7_init_5 rfl z_in5 (by decide +kernel) tyX5_ok zwc_31 zwc_32 zwc_33 (fun j hj => by match j, hj with
      | 0, _ => rfl
      | 1, _ => rfl
      | 2, _ => rfl
      | 3, _ => rfl
      | 4, _ => rfl
      | 5, _ => rfl
      | 6, _ => rfl
      | 7, _ => rfl) (Nat.le_of_ble_eq_true rfl) (Nat.le_of_ble_eq_true rfl) (fun q0 => ?_)
  refine zz_ren (ws' := [(h, .inr (7, [.null, .null, .null, .null, .null, .null, .null, .int 0, .int 0])), (q0, .inr (5, [.int 0, .null, .null, .null, .null, .null, .null, .null]))]) rfl ?_
  refine zz_dup C dX7_init_8 rfl ?_
  refine zz_callIN (host := "ChangeUntangler") (As := []) (rest := [.ref q0, .ref h]) C (mk_X5 (h, .inr (7, [.null, .null, .null, .null, .null, .null, .null, .int 0, .int 0])) q0) (fun _ _ h => h) dX7_init_9 rfl rfl (by decide +kernel) zi_X5_init rfl (by decide) (by decide) (Nat.le_of_ble_eq_true rfl) (Nat.le_of_ble_eq_true rfl) (Nat.le_of_ble_eq_true rfl) (fun v ws1 hw => ?_)
  obtain ⟨rfl, k1, rfl⟩ := hw
  refine zz_putF (T := TX7) (v := .ref q0) (ty := (.object "ChangeUntangler$Pieces")) C 0 0 dX7_init_12 rfl rfl z_in7 (by decide +kernel) tyX7_ok nmX7 (by decide) zwc_34 rfl hnm rfl (by decide +kernel) rfl rfl (Nat.le_of_ble_eq_true rfl) (ws1 := [(h, .inr (7, [.ref q0, .null, .null, .null, .null, .null, .null, .int 0, .int 0])), (q0, .inr (5, [.int 0, .ref (k1 0), .ref (k1 1), .ref (k1 2), .ref (k1 3), .ref (k1 4), .ref (k1 5), .ref (k1 10)])), ((k1 0), .inl (U.1, 14, .inl (fun _ => 0))), ((k1 1), .inl (U.1, 14, .inl (fun _ => 0))), ((k1 2), .inl (U.1, 14, .inl (fun _ => 0))), ((k1 3), .inl (U.1, 14, .inl (fun _ => 0))), ((k1 4), .inl (U.1, 14, .inl (fun _ => 0))), ((k1 5), .inl (U.2.2.2, 4, .inr (.inr (.inr (.inr (fun i => if i < 4 then some ((fun j => k1 (6 + j)) i) else none)))))), ((k1 6), .inl (U.1, 14, .inl (fun _ => 0))), ((k1 7), .inl (U.1, 14, .inl (fun _ => 0))), ((k1 8), .inl (U.1, 14, .inl (fun _ => 0))), ((k1 9), .inl (U.1, 14, .inl (fun _ => 0))), ((k1 10), .inl (U.2.2.2, 4, .inr (.inr (.inr (.inr (fun i => if i < 4 then some ((fun j => k1 (11 + j)) i) else none)))))), ((k1 11), .inl (U.1, 16, .inl (fun _ => 0))), ((k1 12), .inl (U.1, 16, .inl (fun _ => 0))), ((k1 13), .inl (U.1, 16, .inl (fun _ => 0))), ((k1 14), .inl (U.1, 16, .inl (fun _ => 0)))]) rfl ?_
  refine zz_aload_n C 0 dX7_init_15 rfl rfl ?_
  refine zz_new (ci := 1) (T := TX1) (fs := [.int 0, .null]) C dX7_init_16 rfl z_in1 (by decide +kernel) tyX1_ok zwc_35 zwc_36 zwc_37 (fun j hj => by match j, hj with
      | 0, _ => rfl
      | 1, _ => rfl) (Nat.le_of_ble_eq_true rfl) (Nat.le_of_ble_eq_true rfl) (fun q2 => ?_)
  refine zz_ren (ws' := [(h, .inr (7, [.ref q0, .null, .null, .null, .null, .null, .null, .int 0, .int 0])), (q0, .inr (5, [.int 0, .ref (k1 0), .ref (k1 1), .ref (k1 2), .ref (k1 3), .ref (k1 4), .ref (k1 5), .ref (k1 10)])), ((k1 0), .inl (U.1, 14, .inl (fun _ => 0))), ((k1 1), .inl (U.1, 14, .inl (fun _ => 0))), ((k1 2), .inl (U.1, 14, .inl (fun _ => 0))), ((k1 3), .inl (U.1, 14, .inl (fun _ => 0))), ((k1 4), .inl (U.1, 14, .inl (fun _ => 0))), ((k1 5), .inl (U.2.2.2, 4, .inr (.inr (.inr (.inr (fun i => if i < 4 then some ((fun j => k1 (6 + j)) i) else none)))))), ((k1 6), .inl (U.1, 14, .inl (fun _ => 0))), ((k1 7), .inl (U.1, 14, .inl (fun _ => 0))), ((k1 8), .inl (U.1, 14, .inl (fun _ => 0))), ((k1 9), .inl (U.1, 14, .inl (fun _ => 0))), ((k1 10), .inl (U.2.2.2, 4, .inr (.inr (.inr (.inr (fun i => if i < 4 then some ((fun j => k1 (11 + j)) i) else none)))))), ((k1 11), .inl (U.1, 16, .inl (fun _ => 0))), ((k1 12), .inl (U.1, 16, .inl (fun _ => 0))), ((k1 13), .inl (U.1, 16, .inl (fun _ => 0))), ((k1 14), .inl (U.1, 16, .inl (fun _ => 0))), (q2, .inr (1, [.int 0, .null]))]) rfl ?_
  refine zz_dup C dX7_init_19 rfl ?_
  refine zz_callIN (host := "ChangeUntangler") (As := []) (rest := [.ref q2, .ref h]) C (mk_X1 (h, .inr (7, [.ref q0, .null, .null, .null, .null, .null, .null, .int 0, .int 0])) (q0, .inr (5, [.int 0, .ref (k1 0), .ref (k1 1), .ref (k1 2), .ref (k1 3), .ref (k1 4), .ref (k1 5), .ref (k1 10)])) ((k1 0), .inl (U.1, 14, .inl (fun _ => 0))) ((k1 1), .inl (U.1, 14, .inl (fun _ => 0))) ((k1 2), .inl (U.1, 14, .inl (fun _ => 0))) ((k1 3), .inl (U.1, 14, .inl (fun _ => 0))) ((k1 4), .inl (U.1, 14, .inl (fun _ => 0))) ((k1 5), .inl (U.2.2.2, 4, .inr (.inr (.inr (.inr (fun i => if i < 4 then some ((fun j => k1 (6 + j)) i) else none)))))) ((k1 6), .inl (U.1, 14, .inl (fun _ => 0))) ((k1 7), .inl (U.1, 14, .inl (fun _ => 0))) ((k1 8), .inl (U.1, 14, .inl (fun _ => 0))) ((k1 9), .inl (U.1, 14, .inl (fun _ => 0))) ((k1 10), .inl (U.2.2.2, 4, .inr (.inr (.inr (.inr (fun i => if i < 4 then some ((fun j => k1 (11 + j)) i) else none)))))) ((k1 11), .inl (U.1, 16, .inl (fun _ => 0))) ((k1 12), .inl (U.1, 16, .inl (fun _ => 0))) ((k1 13), .inl (U.1, 16, .inl (fun _ => 0))) ((k1 14), .inl (U.1, 16, .inl (fun _ => 0))) q2) (fun _ _ h => h) dX7_init_20 rfl rfl (by decide +kernel) zi_X1_init rfl (by decide) (by decide) (Nat.le_of_ble_eq_true rfl) (Nat.le_of_ble_eq_true rfl) (Nat.le_of_ble_eq_true rfl) (fun v ws1 hw => ?_)
  obtain ⟨rfl, k3, rfl⟩ := hw
  refine zz_putF (T := TX7) (v := .ref q2) (ty := (.object "ChangeUntangler$Code")) C 0 1 dX7_init_23 rfl rfl z_in7 (by decide +kernel) tyX7_ok nmX7 (by decide) zwc_38 rfl hnm rfl (by decide +kernel) rfl rfl (Nat.le_of_ble_eq_true rfl) (ws1 := [(h, .inr (7, [.ref q0, .ref q2, .null, .null, .null, .null, .null, .int 0, .int 0])), (q0, .inr (5, [.int 0, .ref (k1 0), .ref (k1 1), .ref (k1 2), .ref (k1 3), .ref (k1 4), .ref (k1 5), .ref (k1 10)])), ((k1 0), .inl (U.1, 14, .inl (fun _ => 0))), ((k1 1), .inl (U.1, 14, .inl (fun _ => 0))), ((k1 2), .inl (U.1, 14, .inl (fun _ => 0))), ((k1 3), .inl (U.1, 14, .inl (fun _ => 0))), ((k1 4), .inl (U.1, 14, .inl (fun _ => 0))), ((k1 5), .inl (U.2.2.2, 4, .inr (.inr (.inr (.inr (fun i => if i < 4 then some ((fun j => k1 (6 + j)) i) else none)))))), ((k1 6), .inl (U.1, 14, .inl (fun _ => 0))), ((k1 7), .inl (U.1, 14, .inl (fun _ => 0))), ((k1 8), .inl (U.1, 14, .inl (fun _ => 0))), ((k1 9), .inl (U.1, 14, .inl (fun _ => 0))), ((k1 10), .inl (U.2.2.2, 4, .inr (.inr (.inr (.inr (fun i => if i < 4 then some ((fun j => k1 (11 + j)) i) else none)))))), ((k1 11), .inl (U.1, 16, .inl (fun _ => 0))), ((k1 12), .inl (U.1, 16, .inl (fun _ => 0))), ((k1 13), .inl (U.1, 16, .inl (fun _ => 0))), ((k1 14), .inl (U.1, 16, .inl (fun _ => 0))), (q2, .inr (1, [.int 0, .ref (k3 0)])), ((k3 0), .inl (U.1, 16, .inl (fun _ => 0)))]) rfl ?_
  refine zz_aload_n C 0 dX7_init_26 rfl rfl ?_
  refine zz_new (ci := 2) (T := TX2) (fs := [.null, .int 0]) C dX7_init_27 rfl z_in2 (by decide +kernel) tyX2_ok zwc_39 zwc_40 zwc_41 (fun j hj => by match j, hj with
      | 0, _ => rfl
      | 1, _ => rfl) (Nat.le_of_ble_eq_true rfl) (Nat.le_of_ble_eq_true rfl) (fun q4 => ?_)
  refine zz_ren (ws' := [(h, .inr (7, [.ref q0, .ref q2, .null, .null, .null, .null, .null, .int 0, .int 0])), (q0, .inr (5, [.int 0, .ref (k1 0), .ref (k1 1), .ref (k1 2), .ref (k1 3), .ref (k1 4), .ref (k1 5), .ref (k1 10)])), ((k1 0), .inl (U.1, 14, .inl (fun _ => 0))), ((k1 1), .inl (U.1, 14, .inl (fun _ => 0))), ((k1 2), .inl (U.1, 14, .inl (fun _ => 0))), ((k1 3), .inl (U.1, 14, .inl (fun _ => 0))), ((k1 4), .inl (U.1, 14, .inl (fun _ => 0))), ((k1 5), .inl (U.2.2.2, 4, .inr (.inr (.inr (.inr (fun i => if i < 4 then some ((fun j => k1 (6 + j)) i) else none)))))), ((k1 6), .inl (U.1, 14, .inl (fun _ => 0))), ((k1 7), .inl (U.1, 14, .inl (fun _ => 0))), ((k1 8), .inl (U.1, 14, .inl (fun _ => 0))), ((k1 9), .inl (U.1, 14, .inl (fun _ => 0))), ((k1 10), .inl (U.2.2.2, 4, .inr (.inr (.inr (.inr (fun i => if i < 4 then some ((fun j => k1 (11 + j)) i) else none)))))), ((k1 11), .inl (U.1, 16, .inl (fun _ => 0))), ((k1 12), .inl (U.1, 16, .inl (fun _ => 0))), ((k1 13), .inl (U.1, 16, .inl (fun _ => 0))), ((k1 14), .inl (U.1, 16, .inl (fun _ => 0))), (q2, .inr (1, [.int 0, .ref (k3 0)])), ((k3 0), .inl (U.1, 16, .inl (fun _ => 0))), (q4, .inr (2, [.null, .int 0]))]) rfl ?_
  refine zz_dup C dX7_init_30 rfl ?_
  refine zz_callI (As := []) (rest := [.ref q4, .ref h]) C (mk_X2 (h, .inr (7, [.ref q0, .ref q2, .null, .null, .null, .null, .null, .int 0, .int 0])) (q0, .inr (5, [.int 0, .ref (k1 0), .ref (k1 1), .ref (k1 2), .ref (k1 3), .ref (k1 4), .ref (k1 5), .ref (k1 10)])) ((k1 0), .inl (U.1, 14, .inl (fun _ => 0))) ((k1 1), .inl (U.1, 14, .inl (fun _ => 0))) ((k1 2), .inl (U.1, 14, .inl (fun _ => 0))) ((k1 3), .inl (U.1, 14, .inl (fun _ => 0))) ((k1 4), .inl (U.1, 14, .inl (fun _ => 0))) ((k1 5), .inl (U.2.2.2, 4, .inr (.inr (.inr (.inr (fun i => if i < 4 then some ((fun j => k1 (6 + j)) i) else none)))))) ((k1 6), .inl (U.1, 14, .inl (fun _ => 0))) ((k1 7), .inl (U.1, 14, .inl (fun _ => 0))) ((k1 8), .inl (U.1, 14, .inl (fun _ => 0))) ((k1 9), .inl (U.1, 14, .inl (fun _ => 0))) ((k1 10), .inl (U.2.2.2, 4, .inr (.inr (.inr (.inr (fun i => if i < 4 then some ((fun j => k1 (11 + j)) i) else none)))))) ((k1 11), .inl (U.1, 16, .inl (fun _ => 0))) ((k1 12), .inl (U.1, 16, .inl (fun _ => 0))) ((k1 13), .inl (U.1, 16, .inl (fun _ => 0))) ((k1 14), .inl (U.1, 16, .inl (fun _ => 0))) (q2, .inr (1, [.int 0, .ref (k3 0)])) ((k3 0), .inl (U.1, 16, .inl (fun _ => 0))) q4) (fun _ _ h => h) dX7_init_31 rfl rfl zwc_42 zi_X2_init rfl (by decide) (by decide) (Nat.le_of_ble_eq_true rfl) (Nat.le_of_ble_eq_true rfl) (Nat.le_of_ble_eq_true rfl) (fun v ws1 hw => ?_)
  obtain ⟨rfl, k5, rfl⟩ := hw
  refine zz_putF (T := TX7) (v := .ref q4) (ty := (.object "ChangeUntangler$Evidence")) C 0 2 dX7_init_34 rfl rfl z_in7 (by decide +kernel) tyX7_ok nmX7 (by decide) zwc_43 rfl hnm rfl (by decide +kernel) rfl rfl (Nat.le_of_ble_eq_true rfl) (ws1 := [(h, .inr (7, [.ref q0, .ref q2, .ref q4, .null, .null, .null, .null, .int 0, .int 0])), (q0, .inr (5, [.int 0, .ref (k1 0), .ref (k1 1), .ref (k1 2), .ref (k1 3), .ref (k1 4), .ref (k1 5), .ref (k1 10)])), ((k1 0), .inl (U.1, 14, .inl (fun _ => 0))), ((k1 1), .inl (U.1, 14, .inl (fun _ => 0))), ((k1 2), .inl (U.1, 14, .inl (fun _ => 0))), ((k1 3), .inl (U.1, 14, .inl (fun _ => 0))), ((k1 4), .inl (U.1, 14, .inl (fun _ => 0))), ((k1 5), .inl (U.2.2.2, 4, .inr (.inr (.inr (.inr (fun i => if i < 4 then some ((fun j => k1 (6 + j)) i) else none)))))), ((k1 6), .inl (U.1, 14, .inl (fun _ => 0))), ((k1 7), .inl (U.1, 14, .inl (fun _ => 0))), ((k1 8), .inl (U.1, 14, .inl (fun _ => 0))), ((k1 9), .inl (U.1, 14, .inl (fun _ => 0))), ((k1 10), .inl (U.2.2.2, 4, .inr (.inr (.inr (.inr (fun i => if i < 4 then some ((fun j => k1 (11 + j)) i) else none)))))), ((k1 11), .inl (U.1, 16, .inl (fun _ => 0))), ((k1 12), .inl (U.1, 16, .inl (fun _ => 0))), ((k1 13), .inl (U.1, 16, .inl (fun _ => 0))), ((k1 14), .inl (U.1, 16, .inl (fun _ => 0))), (q2, .inr (1, [.int 0, .ref (k3 0)])), ((k3 0), .inl (U.1, 16, .inl (fun _ => 0))), (q4, .inr (2, [.ref (k5 0), .int 20])), ((k5 0), .inl (U.1, 4, .inl (upd (upd (upd (upd (fun _ => 0) 0 6) 1 5) 2 8) 3 10)))]) rfl ?_
  refine zz_aload_n C 0 dX7_init_37 rfl rfl ?_
  refine zz_new (ci := 6) (T := TX6) (fs := [.null, .null]) C dX7_init_38 rfl z_in6 (by decide +kernel) tyX6_ok zwc_44 zwc_45 zwc_46 (fun j hj => by match j, hj with
      | 0, _ => rfl
      | 1, _ => rfl) (Nat.le_of_ble_eq_true rfl) (Nat.le_of_ble_eq_true rfl) (fun q6 => ?_)
  refine zz_ren (ws' := [(h, .inr (7, [.ref q0, .ref q2, .ref q4, .null, .null, .null, .null, .int 0, .int 0])), (q0, .inr (5, [.int 0, .ref (k1 0), .ref (k1 1), .ref (k1 2), .ref (k1 3), .ref (k1 4), .ref (k1 5), .ref (k1 10)])), ((k1 0), .inl (U.1, 14, .inl (fun _ => 0))), ((k1 1), .inl (U.1, 14, .inl (fun _ => 0))), ((k1 2), .inl (U.1, 14, .inl (fun _ => 0))), ((k1 3), .inl (U.1, 14, .inl (fun _ => 0))), ((k1 4), .inl (U.1, 14, .inl (fun _ => 0))), ((k1 5), .inl (U.2.2.2, 4, .inr (.inr (.inr (.inr (fun i => if i < 4 then some ((fun j => k1 (6 + j)) i) else none)))))), ((k1 6), .inl (U.1, 14, .inl (fun _ => 0))), ((k1 7), .inl (U.1, 14, .inl (fun _ => 0))), ((k1 8), .inl (U.1, 14, .inl (fun _ => 0))), ((k1 9), .inl (U.1, 14, .inl (fun _ => 0))), ((k1 10), .inl (U.2.2.2, 4, .inr (.inr (.inr (.inr (fun i => if i < 4 then some ((fun j => k1 (11 + j)) i) else none)))))), ((k1 11), .inl (U.1, 16, .inl (fun _ => 0))), ((k1 12), .inl (U.1, 16, .inl (fun _ => 0))), ((k1 13), .inl (U.1, 16, .inl (fun _ => 0))), ((k1 14), .inl (U.1, 16, .inl (fun _ => 0))), (q2, .inr (1, [.int 0, .ref (k3 0)])), ((k3 0), .inl (U.1, 16, .inl (fun _ => 0))), (q4, .inr (2, [.ref (k5 0), .int 20])), ((k5 0), .inl (U.1, 4, .inl (upd (upd (upd (upd (fun _ => 0) 0 6) 1 5) 2 8) 3 10))), (q6, .inr (6, [.null, .null]))]) rfl ?_
  refine zz_dup C dX7_init_41 rfl ?_
  refine zz_callIN (host := "ChangeUntangler") (As := []) (rest := [.ref q6, .ref h]) C (mk_X6 (h, .inr (7, [.ref q0, .ref q2, .ref q4, .null, .null, .null, .null, .int 0, .int 0])) (q0, .inr (5, [.int 0, .ref (k1 0), .ref (k1 1), .ref (k1 2), .ref (k1 3), .ref (k1 4), .ref (k1 5), .ref (k1 10)])) ((k1 0), .inl (U.1, 14, .inl (fun _ => 0))) ((k1 1), .inl (U.1, 14, .inl (fun _ => 0))) ((k1 2), .inl (U.1, 14, .inl (fun _ => 0))) ((k1 3), .inl (U.1, 14, .inl (fun _ => 0))) ((k1 4), .inl (U.1, 14, .inl (fun _ => 0))) ((k1 5), .inl (U.2.2.2, 4, .inr (.inr (.inr (.inr (fun i => if i < 4 then some ((fun j => k1 (6 + j)) i) else none)))))) ((k1 6), .inl (U.1, 14, .inl (fun _ => 0))) ((k1 7), .inl (U.1, 14, .inl (fun _ => 0))) ((k1 8), .inl (U.1, 14, .inl (fun _ => 0))) ((k1 9), .inl (U.1, 14, .inl (fun _ => 0))) ((k1 10), .inl (U.2.2.2, 4, .inr (.inr (.inr (.inr (fun i => if i < 4 then some ((fun j => k1 (11 + j)) i) else none)))))) ((k1 11), .inl (U.1, 16, .inl (fun _ => 0))) ((k1 12), .inl (U.1, 16, .inl (fun _ => 0))) ((k1 13), .inl (U.1, 16, .inl (fun _ => 0))) ((k1 14), .inl (U.1, 16, .inl (fun _ => 0))) (q2, .inr (1, [.int 0, .ref (k3 0)])) ((k3 0), .inl (U.1, 16, .inl (fun _ => 0))) (q4, .inr (2, [.ref (k5 0), .int 20])) ((k5 0), .inl (U.1, 4, .inl (upd (upd (upd (upd (fun _ => 0) 0 6) 1 5) 2 8) 3 10))) q6) (fun _ _ h => h) dX7_init_42 rfl rfl (by decide +kernel) zi_X6_init rfl (by decide) (by decide) (Nat.le_of_ble_eq_true rfl) (Nat.le_of_ble_eq_true rfl) (Nat.le_of_ble_eq_true rfl) (fun v ws1 hw => ?_)
  obtain ⟨rfl, k7, rfl⟩ := hw
  refine zz_putF (T := TX7) (v := .ref q6) (ty := (.object "ChangeUntangler$Sayings")) C 0 3 dX7_init_45 rfl rfl z_in7 (by decide +kernel) tyX7_ok nmX7 (by decide) zwc_47 rfl hnm rfl (by decide +kernel) rfl rfl (Nat.le_of_ble_eq_true rfl) (ws1 := [(h, .inr (7, [.ref q0, .ref q2, .ref q4, .ref q6, .null, .null, .null, .int 0, .int 0])), (q0, .inr (5, [.int 0, .ref (k1 0), .ref (k1 1), .ref (k1 2), .ref (k1 3), .ref (k1 4), .ref (k1 5), .ref (k1 10)])), ((k1 0), .inl (U.1, 14, .inl (fun _ => 0))), ((k1 1), .inl (U.1, 14, .inl (fun _ => 0))), ((k1 2), .inl (U.1, 14, .inl (fun _ => 0))), ((k1 3), .inl (U.1, 14, .inl (fun _ => 0))), ((k1 4), .inl (U.1, 14, .inl (fun _ => 0))), ((k1 5), .inl (U.2.2.2, 4, .inr (.inr (.inr (.inr (fun i => if i < 4 then some ((fun j => k1 (6 + j)) i) else none)))))), ((k1 6), .inl (U.1, 14, .inl (fun _ => 0))), ((k1 7), .inl (U.1, 14, .inl (fun _ => 0))), ((k1 8), .inl (U.1, 14, .inl (fun _ => 0))), ((k1 9), .inl (U.1, 14, .inl (fun _ => 0))), ((k1 10), .inl (U.2.2.2, 4, .inr (.inr (.inr (.inr (fun i => if i < 4 then some ((fun j => k1 (11 + j)) i) else none)))))), ((k1 11), .inl (U.1, 16, .inl (fun _ => 0))), ((k1 12), .inl (U.1, 16, .inl (fun _ => 0))), ((k1 13), .inl (U.1, 16, .inl (fun _ => 0))), ((k1 14), .inl (U.1, 16, .inl (fun _ => 0))), (q2, .inr (1, [.int 0, .ref (k3 0)])), ((k3 0), .inl (U.1, 16, .inl (fun _ => 0))), (q4, .inr (2, [.ref (k5 0), .int 20])), ((k5 0), .inl (U.1, 4, .inl (upd (upd (upd (upd (fun _ => 0) 0 6) 1 5) 2 8) 3 10))), (q6, .inr (6, [.ref (k7 0), .ref (k7 1)])), ((k7 0), .inl (U.1, 14, .inl (fun _ => 0))), ((k7 1), .inl (U.1, 14, .inl (fun _ => 0)))]) rfl ?_
  refine zz_aload_n C 0 dX7_init_48 rfl rfl ?_
  refine zz_new (ci := 3) (T := TX3) (fs := [.int 0, .int 0, .int 0, .int 0, .null, .null]) C dX7_init_49 rfl z_in3 (by decide +kernel) tyX3_ok zwc_48 zwc_49 zwc_50 (fun j hj => by match j, hj with
      | 0, _ => rfl
      | 1, _ => rfl
      | 2, _ => rfl
      | 3, _ => rfl
      | 4, _ => rfl
      | 5, _ => rfl) (Nat.le_of_ble_eq_true rfl) (Nat.le_of_ble_eq_true rfl) (fun q8 => ?_)
  refine zz_ren (ws' := [(h, .inr (7, [.ref q0, .ref q2, .ref q4, .ref q6, .null, .null, .null, .int 0, .int 0])), (q0, .inr (5, [.int 0, .ref (k1 0), .ref (k1 1), .ref (k1 2), .ref (k1 3), .ref (k1 4), .ref (k1 5), .ref (k1 10)])), ((k1 0), .inl (U.1, 14, .inl (fun _ => 0))), ((k1 1), .inl (U.1, 14, .inl (fun _ => 0))), ((k1 2), .inl (U.1, 14, .inl (fun _ => 0))), ((k1 3), .inl (U.1, 14, .inl (fun _ => 0))), ((k1 4), .inl (U.1, 14, .inl (fun _ => 0))), ((k1 5), .inl (U.2.2.2, 4, .inr (.inr (.inr (.inr (fun i => if i < 4 then some ((fun j => k1 (6 + j)) i) else none)))))), ((k1 6), .inl (U.1, 14, .inl (fun _ => 0))), ((k1 7), .inl (U.1, 14, .inl (fun _ => 0))), ((k1 8), .inl (U.1, 14, .inl (fun _ => 0))), ((k1 9), .inl (U.1, 14, .inl (fun _ => 0))), ((k1 10), .inl (U.2.2.2, 4, .inr (.inr (.inr (.inr (fun i => if i < 4 then some ((fun j => k1 (11 + j)) i) else none)))))), ((k1 11), .inl (U.1, 16, .inl (fun _ => 0))), ((k1 12), .inl (U.1, 16, .inl (fun _ => 0))), ((k1 13), .inl (U.1, 16, .inl (fun _ => 0))), ((k1 14), .inl (U.1, 16, .inl (fun _ => 0))), (q2, .inr (1, [.int 0, .ref (k3 0)])), ((k3 0), .inl (U.1, 16, .inl (fun _ => 0))), (q4, .inr (2, [.ref (k5 0), .int 20])), ((k5 0), .inl (U.1, 4, .inl (upd (upd (upd (upd (fun _ => 0) 0 6) 1 5) 2 8) 3 10))), (q6, .inr (6, [.ref (k7 0), .ref (k7 1)])), ((k7 0), .inl (U.1, 14, .inl (fun _ => 0))), ((k7 1), .inl (U.1, 14, .inl (fun _ => 0))), (q8, .inr (3, [.int 0, .int 0, .int 0, .int 0, .null, .null]))]) rfl ?_
  refine zz_dup C dX7_init_52 rfl ?_
  refine zz_callIN (host := "ChangeUntangler") (As := []) (rest := [.ref q8, .ref h]) C (mk_X3 (h, .inr (7, [.ref q0, .ref q2, .ref q4, .ref q6, .null, .null, .null, .int 0, .int 0])) (q0, .inr (5, [.int 0, .ref (k1 0), .ref (k1 1), .ref (k1 2), .ref (k1 3), .ref (k1 4), .ref (k1 5), .ref (k1 10)])) ((k1 0), .inl (U.1, 14, .inl (fun _ => 0))) ((k1 1), .inl (U.1, 14, .inl (fun _ => 0))) ((k1 2), .inl (U.1, 14, .inl (fun _ => 0))) ((k1 3), .inl (U.1, 14, .inl (fun _ => 0))) ((k1 4), .inl (U.1, 14, .inl (fun _ => 0))) ((k1 5), .inl (U.2.2.2, 4, .inr (.inr (.inr (.inr (fun i => if i < 4 then some ((fun j => k1 (6 + j)) i) else none)))))) ((k1 6), .inl (U.1, 14, .inl (fun _ => 0))) ((k1 7), .inl (U.1, 14, .inl (fun _ => 0))) ((k1 8), .inl (U.1, 14, .inl (fun _ => 0))) ((k1 9), .inl (U.1, 14, .inl (fun _ => 0))) ((k1 10), .inl (U.2.2.2, 4, .inr (.inr (.inr (.inr (fun i => if i < 4 then some ((fun j => k1 (11 + j)) i) else none)))))) ((k1 11), .inl (U.1, 16, .inl (fun _ => 0))) ((k1 12), .inl (U.1, 16, .inl (fun _ => 0))) ((k1 13), .inl (U.1, 16, .inl (fun _ => 0))) ((k1 14), .inl (U.1, 16, .inl (fun _ => 0))) (q2, .inr (1, [.int 0, .ref (k3 0)])) ((k3 0), .inl (U.1, 16, .inl (fun _ => 0))) (q4, .inr (2, [.ref (k5 0), .int 20])) ((k5 0), .inl (U.1, 4, .inl (upd (upd (upd (upd (fun _ => 0) 0 6) 1 5) 2 8) 3 10))) (q6, .inr (6, [.ref (k7 0), .ref (k7 1)])) ((k7 0), .inl (U.1, 14, .inl (fun _ => 0))) ((k7 1), .inl (U.1, 14, .inl (fun _ => 0))) q8) (fun _ _ h => h) dX7_init_53 rfl rfl (by decide +kernel) zi_X3_init rfl (by decide) (by decide) (Nat.le_of_ble_eq_true rfl) (Nat.le_of_ble_eq_true rfl) (Nat.le_of_ble_eq_true rfl) (fun v ws1 hw => ?_)
  obtain ⟨rfl, k9, rfl⟩ := hw
  refine zz_putF (T := TX7) (v := .ref q8) (ty := (.object "ChangeUntangler$Groups")) C 0 4 dX7_init_56 rfl rfl z_in7 (by decide +kernel) tyX7_ok nmX7 (by decide) zwc_51 rfl hnm rfl (by decide +kernel) rfl rfl (Nat.le_of_ble_eq_true rfl) (ws1 := [(h, .inr (7, [.ref q0, .ref q2, .ref q4, .ref q6, .ref q8, .null, .null, .int 0, .int 0])), (q0, .inr (5, [.int 0, .ref (k1 0), .ref (k1 1), .ref (k1 2), .ref (k1 3), .ref (k1 4), .ref (k1 5), .ref (k1 10)])), ((k1 0), .inl (U.1, 14, .inl (fun _ => 0))), ((k1 1), .inl (U.1, 14, .inl (fun _ => 0))), ((k1 2), .inl (U.1, 14, .inl (fun _ => 0))), ((k1 3), .inl (U.1, 14, .inl (fun _ => 0))), ((k1 4), .inl (U.1, 14, .inl (fun _ => 0))), ((k1 5), .inl (U.2.2.2, 4, .inr (.inr (.inr (.inr (fun i => if i < 4 then some ((fun j => k1 (6 + j)) i) else none)))))), ((k1 6), .inl (U.1, 14, .inl (fun _ => 0))), ((k1 7), .inl (U.1, 14, .inl (fun _ => 0))), ((k1 8), .inl (U.1, 14, .inl (fun _ => 0))), ((k1 9), .inl (U.1, 14, .inl (fun _ => 0))), ((k1 10), .inl (U.2.2.2, 4, .inr (.inr (.inr (.inr (fun i => if i < 4 then some ((fun j => k1 (11 + j)) i) else none)))))), ((k1 11), .inl (U.1, 16, .inl (fun _ => 0))), ((k1 12), .inl (U.1, 16, .inl (fun _ => 0))), ((k1 13), .inl (U.1, 16, .inl (fun _ => 0))), ((k1 14), .inl (U.1, 16, .inl (fun _ => 0))), (q2, .inr (1, [.int 0, .ref (k3 0)])), ((k3 0), .inl (U.1, 16, .inl (fun _ => 0))), (q4, .inr (2, [.ref (k5 0), .int 20])), ((k5 0), .inl (U.1, 4, .inl (upd (upd (upd (upd (fun _ => 0) 0 6) 1 5) 2 8) 3 10))), (q6, .inr (6, [.ref (k7 0), .ref (k7 1)])), ((k7 0), .inl (U.1, 14, .inl (fun _ => 0))), ((k7 1), .inl (U.1, 14, .inl (fun _ => 0))), (q8, .inr (3, [.int 12, .int 1, .int 0, .int 0, .ref (k9 0), .ref (k9 1)])), ((k9 0), .inl (U.1, 14, .inl (fun _ => 0))), ((k9 1), .inl (U.2.2.2, 14, .inr (.inr (.inr (.inr (fun i => if i < 14 then some ((fun j => k9 (2 + j)) i) else none)))))), ((k9 2), .inl (U.1, 14, .inl (fun _ => 0))), ((k9 3), .inl (U.1, 14, .inl (fun _ => 0))), ((k9 4), .inl (U.1, 14, .inl (fun _ => 0))), ((k9 5), .inl (U.1, 14, .inl (fun _ => 0))), ((k9 6), .inl (U.1, 14, .inl (fun _ => 0))), ((k9 7), .inl (U.1, 14, .inl (fun _ => 0))), ((k9 8), .inl (U.1, 14, .inl (fun _ => 0))), ((k9 9), .inl (U.1, 14, .inl (fun _ => 0))), ((k9 10), .inl (U.1, 14, .inl (fun _ => 0))), ((k9 11), .inl (U.1, 14, .inl (fun _ => 0))), ((k9 12), .inl (U.1, 14, .inl (fun _ => 0))), ((k9 13), .inl (U.1, 14, .inl (fun _ => 0))), ((k9 14), .inl (U.1, 14, .inl (fun _ => 0))), ((k9 15), .inl (U.1, 14, .inl (fun _ => 0)))]) rfl ?_
  refine zz_aload_n C 0 dX7_init_59 rfl rfl ?_
  refine zz_new (ci := 4) (T := TX4) (fs := [.int 0, .int 0, .null, .null]) C dX7_init_60 rfl z_in4 (by decide +kernel) tyX4_ok zwc_52 zwc_53 zwc_54 (fun j hj => by match j, hj with
      | 0, _ => rfl
      | 1, _ => rfl
      | 2, _ => rfl
      | 3, _ => rfl) (Nat.le_of_ble_eq_true rfl) (Nat.le_of_ble_eq_true rfl) (fun q10 => ?_)
  refine zz_ren (ws' := [(h, .inr (7, [.ref q0, .ref q2, .ref q4, .ref q6, .ref q8, .null, .null, .int 0, .int 0])), (q0, .inr (5, [.int 0, .ref (k1 0), .ref (k1 1), .ref (k1 2), .ref (k1 3), .ref (k1 4), .ref (k1 5), .ref (k1 10)])), ((k1 0), .inl (U.1, 14, .inl (fun _ => 0))), ((k1 1), .inl (U.1, 14, .inl (fun _ => 0))), ((k1 2), .inl (U.1, 14, .inl (fun _ => 0))), ((k1 3), .inl (U.1, 14, .inl (fun _ => 0))), ((k1 4), .inl (U.1, 14, .inl (fun _ => 0))), ((k1 5), .inl (U.2.2.2, 4, .inr (.inr (.inr (.inr (fun i => if i < 4 then some ((fun j => k1 (6 + j)) i) else none)))))), ((k1 6), .inl (U.1, 14, .inl (fun _ => 0))), ((k1 7), .inl (U.1, 14, .inl (fun _ => 0))), ((k1 8), .inl (U.1, 14, .inl (fun _ => 0))), ((k1 9), .inl (U.1, 14, .inl (fun _ => 0))), ((k1 10), .inl (U.2.2.2, 4, .inr (.inr (.inr (.inr (fun i => if i < 4 then some ((fun j => k1 (11 + j)) i) else none)))))), ((k1 11), .inl (U.1, 16, .inl (fun _ => 0))), ((k1 12), .inl (U.1, 16, .inl (fun _ => 0))), ((k1 13), .inl (U.1, 16, .inl (fun _ => 0))), ((k1 14), .inl (U.1, 16, .inl (fun _ => 0))), (q2, .inr (1, [.int 0, .ref (k3 0)])), ((k3 0), .inl (U.1, 16, .inl (fun _ => 0))), (q4, .inr (2, [.ref (k5 0), .int 20])), ((k5 0), .inl (U.1, 4, .inl (upd (upd (upd (upd (fun _ => 0) 0 6) 1 5) 2 8) 3 10))), (q6, .inr (6, [.ref (k7 0), .ref (k7 1)])), ((k7 0), .inl (U.1, 14, .inl (fun _ => 0))), ((k7 1), .inl (U.1, 14, .inl (fun _ => 0))), (q8, .inr (3, [.int 12, .int 1, .int 0, .int 0, .ref (k9 0), .ref (k9 1)])), ((k9 0), .inl (U.1, 14, .inl (fun _ => 0))), ((k9 1), .inl (U.2.2.2, 14, .inr (.inr (.inr (.inr (fun i => if i < 14 then some ((fun j => k9 (2 + j)) i) else none)))))), ((k9 2), .inl (U.1, 14, .inl (fun _ => 0))), ((k9 3), .inl (U.1, 14, .inl (fun _ => 0))), ((k9 4), .inl (U.1, 14, .inl (fun _ => 0))), ((k9 5), .inl (U.1, 14, .inl (fun _ => 0))), ((k9 6), .inl (U.1, 14, .inl (fun _ => 0))), ((k9 7), .inl (U.1, 14, .inl (fun _ => 0))), ((k9 8), .inl (U.1, 14, .inl (fun _ => 0))), ((k9 9), .inl (U.1, 14, .inl (fun _ => 0))), ((k9 10), .inl (U.1, 14, .inl (fun _ => 0))), ((k9 11), .inl (U.1, 14, .inl (fun _ => 0))), ((k9 12), .inl (U.1, 14, .inl (fun _ => 0))), ((k9 13), .inl (U.1, 14, .inl (fun _ => 0))), ((k9 14), .inl (U.1, 14, .inl (fun _ => 0))), ((k9 15), .inl (U.1, 14, .inl (fun _ => 0))), (q10, .inr (4, [.int 0, .int 0, .null, .null]))]) rfl ?_
  refine zz_dup C dX7_init_63 rfl ?_
  refine zz_callIN (host := "ChangeUntangler") (As := []) (rest := [.ref q10, .ref h]) C (mk_X4 (h, .inr (7, [.ref q0, .ref q2, .ref q4, .ref q6, .ref q8, .null, .null, .int 0, .int 0])) (q0, .inr (5, [.int 0, .ref (k1 0), .ref (k1 1), .ref (k1 2), .ref (k1 3), .ref (k1 4), .ref (k1 5), .ref (k1 10)])) ((k1 0), .inl (U.1, 14, .inl (fun _ => 0))) ((k1 1), .inl (U.1, 14, .inl (fun _ => 0))) ((k1 2), .inl (U.1, 14, .inl (fun _ => 0))) ((k1 3), .inl (U.1, 14, .inl (fun _ => 0))) ((k1 4), .inl (U.1, 14, .inl (fun _ => 0))) ((k1 5), .inl (U.2.2.2, 4, .inr (.inr (.inr (.inr (fun i => if i < 4 then some ((fun j => k1 (6 + j)) i) else none)))))) ((k1 6), .inl (U.1, 14, .inl (fun _ => 0))) ((k1 7), .inl (U.1, 14, .inl (fun _ => 0))) ((k1 8), .inl (U.1, 14, .inl (fun _ => 0))) ((k1 9), .inl (U.1, 14, .inl (fun _ => 0))) ((k1 10), .inl (U.2.2.2, 4, .inr (.inr (.inr (.inr (fun i => if i < 4 then some ((fun j => k1 (11 + j)) i) else none)))))) ((k1 11), .inl (U.1, 16, .inl (fun _ => 0))) ((k1 12), .inl (U.1, 16, .inl (fun _ => 0))) ((k1 13), .inl (U.1, 16, .inl (fun _ => 0))) ((k1 14), .inl (U.1, 16, .inl (fun _ => 0))) (q2, .inr (1, [.int 0, .ref (k3 0)])) ((k3 0), .inl (U.1, 16, .inl (fun _ => 0))) (q4, .inr (2, [.ref (k5 0), .int 20])) ((k5 0), .inl (U.1, 4, .inl (upd (upd (upd (upd (fun _ => 0) 0 6) 1 5) 2 8) 3 10))) (q6, .inr (6, [.ref (k7 0), .ref (k7 1)])) ((k7 0), .inl (U.1, 14, .inl (fun _ => 0))) ((k7 1), .inl (U.1, 14, .inl (fun _ => 0))) (q8, .inr (3, [.int 12, .int 1, .int 0, .int 0, .ref (k9 0), .ref (k9 1)])) ((k9 0), .inl (U.1, 14, .inl (fun _ => 0))) ((k9 1), .inl (U.2.2.2, 14, .inr (.inr (.inr (.inr (fun i => if i < 14 then some ((fun j => k9 (2 + j)) i) else none)))))) ((k9 2), .inl (U.1, 14, .inl (fun _ => 0))) ((k9 3), .inl (U.1, 14, .inl (fun _ => 0))) ((k9 4), .inl (U.1, 14, .inl (fun _ => 0))) ((k9 5), .inl (U.1, 14, .inl (fun _ => 0))) ((k9 6), .inl (U.1, 14, .inl (fun _ => 0))) ((k9 7), .inl (U.1, 14, .inl (fun _ => 0))) ((k9 8), .inl (U.1, 14, .inl (fun _ => 0))) ((k9 9), .inl (U.1, 14, .inl (fun _ => 0))) ((k9 10), .inl (U.1, 14, .inl (fun _ => 0))) ((k9 11), .inl (U.1, 14, .inl (fun _ => 0))) ((k9 12), .inl (U.1, 14, .inl (fun _ => 0))) ((k9 13), .inl (U.1, 14, .inl (fun _ => 0))) ((k9 14), .inl (U.1, 14, .inl (fun _ => 0))) ((k9 15), .inl (U.1, 14, .inl (fun _ => 0))) q10) (fun _ _ h => h) dX7_init_64 rfl rfl (by decide +kernel) zi_X4_init rfl (by decide) (by decide) (Nat.le_of_ble_eq_true rfl) (Nat.le_of_ble_eq_true rfl) (Nat.le_of_ble_eq_true rfl) (fun v ws1 hw => ?_)
  obtain ⟨rfl, k11, rfl⟩ := hw
  refine zz_putF (T := TX7) (v := .ref q10) (ty := (.object "ChangeUntangler$Parcels")) C 0 5 dX7_init_67 rfl rfl z_in7 (by decide +kernel) tyX7_ok nmX7 (by decide) zwc_55 rfl hnm rfl (by decide +kernel) rfl rfl (Nat.le_of_ble_eq_true rfl) (ws1 := [(h, .inr (7, [.ref q0, .ref q2, .ref q4, .ref q6, .ref q8, .ref q10, .null, .int 0, .int 0])), (q0, .inr (5, [.int 0, .ref (k1 0), .ref (k1 1), .ref (k1 2), .ref (k1 3), .ref (k1 4), .ref (k1 5), .ref (k1 10)])), ((k1 0), .inl (U.1, 14, .inl (fun _ => 0))), ((k1 1), .inl (U.1, 14, .inl (fun _ => 0))), ((k1 2), .inl (U.1, 14, .inl (fun _ => 0))), ((k1 3), .inl (U.1, 14, .inl (fun _ => 0))), ((k1 4), .inl (U.1, 14, .inl (fun _ => 0))), ((k1 5), .inl (U.2.2.2, 4, .inr (.inr (.inr (.inr (fun i => if i < 4 then some ((fun j => k1 (6 + j)) i) else none)))))), ((k1 6), .inl (U.1, 14, .inl (fun _ => 0))), ((k1 7), .inl (U.1, 14, .inl (fun _ => 0))), ((k1 8), .inl (U.1, 14, .inl (fun _ => 0))), ((k1 9), .inl (U.1, 14, .inl (fun _ => 0))), ((k1 10), .inl (U.2.2.2, 4, .inr (.inr (.inr (.inr (fun i => if i < 4 then some ((fun j => k1 (11 + j)) i) else none)))))), ((k1 11), .inl (U.1, 16, .inl (fun _ => 0))), ((k1 12), .inl (U.1, 16, .inl (fun _ => 0))), ((k1 13), .inl (U.1, 16, .inl (fun _ => 0))), ((k1 14), .inl (U.1, 16, .inl (fun _ => 0))), (q2, .inr (1, [.int 0, .ref (k3 0)])), ((k3 0), .inl (U.1, 16, .inl (fun _ => 0))), (q4, .inr (2, [.ref (k5 0), .int 20])), ((k5 0), .inl (U.1, 4, .inl (upd (upd (upd (upd (fun _ => 0) 0 6) 1 5) 2 8) 3 10))), (q6, .inr (6, [.ref (k7 0), .ref (k7 1)])), ((k7 0), .inl (U.1, 14, .inl (fun _ => 0))), ((k7 1), .inl (U.1, 14, .inl (fun _ => 0))), (q8, .inr (3, [.int 12, .int 1, .int 0, .int 0, .ref (k9 0), .ref (k9 1)])), ((k9 0), .inl (U.1, 14, .inl (fun _ => 0))), ((k9 1), .inl (U.2.2.2, 14, .inr (.inr (.inr (.inr (fun i => if i < 14 then some ((fun j => k9 (2 + j)) i) else none)))))), ((k9 2), .inl (U.1, 14, .inl (fun _ => 0))), ((k9 3), .inl (U.1, 14, .inl (fun _ => 0))), ((k9 4), .inl (U.1, 14, .inl (fun _ => 0))), ((k9 5), .inl (U.1, 14, .inl (fun _ => 0))), ((k9 6), .inl (U.1, 14, .inl (fun _ => 0))), ((k9 7), .inl (U.1, 14, .inl (fun _ => 0))), ((k9 8), .inl (U.1, 14, .inl (fun _ => 0))), ((k9 9), .inl (U.1, 14, .inl (fun _ => 0))), ((k9 10), .inl (U.1, 14, .inl (fun _ => 0))), ((k9 11), .inl (U.1, 14, .inl (fun _ => 0))), ((k9 12), .inl (U.1, 14, .inl (fun _ => 0))), ((k9 13), .inl (U.1, 14, .inl (fun _ => 0))), ((k9 14), .inl (U.1, 14, .inl (fun _ => 0))), ((k9 15), .inl (U.1, 14, .inl (fun _ => 0))), (q10, .inr (4, [.int 0, .int 0, .ref (k11 0), .ref (k11 1)])), ((k11 0), .inl (U.1, 14, .inl (fun _ => 0))), ((k11 1), .inl (U.1, 14, .inl (fun _ => 0)))]) rfl ?_
  refine zz_aload_n C 0 dX7_init_70 rfl rfl ?_
  refine zz_new (ci := 0) (T := TX0) (fs := [.int 0, .int 0, .null, .null]) C dX7_init_71 rfl z_in0 (by decide +kernel) tyX0_ok zwc_56 zwc_57 zwc_58 (fun j hj => by match j, hj with
      | 0, _ => rfl
      | 1, _ => rfl
      | 2, _ => rfl
      | 3, _ => rfl) (Nat.le_of_ble_eq_true rfl) (Nat.le_of_ble_eq_true rfl) (fun q12 => ?_)
  refine zz_ren (ws' := [(h, .inr (7, [.ref q0, .ref q2, .ref q4, .ref q6, .ref q8, .ref q10, .null, .int 0, .int 0])), (q0, .inr (5, [.int 0, .ref (k1 0), .ref (k1 1), .ref (k1 2), .ref (k1 3), .ref (k1 4), .ref (k1 5), .ref (k1 10)])), ((k1 0), .inl (U.1, 14, .inl (fun _ => 0))), ((k1 1), .inl (U.1, 14, .inl (fun _ => 0))), ((k1 2), .inl (U.1, 14, .inl (fun _ => 0))), ((k1 3), .inl (U.1, 14, .inl (fun _ => 0))), ((k1 4), .inl (U.1, 14, .inl (fun _ => 0))), ((k1 5), .inl (U.2.2.2, 4, .inr (.inr (.inr (.inr (fun i => if i < 4 then some ((fun j => k1 (6 + j)) i) else none)))))), ((k1 6), .inl (U.1, 14, .inl (fun _ => 0))), ((k1 7), .inl (U.1, 14, .inl (fun _ => 0))), ((k1 8), .inl (U.1, 14, .inl (fun _ => 0))), ((k1 9), .inl (U.1, 14, .inl (fun _ => 0))), ((k1 10), .inl (U.2.2.2, 4, .inr (.inr (.inr (.inr (fun i => if i < 4 then some ((fun j => k1 (11 + j)) i) else none)))))), ((k1 11), .inl (U.1, 16, .inl (fun _ => 0))), ((k1 12), .inl (U.1, 16, .inl (fun _ => 0))), ((k1 13), .inl (U.1, 16, .inl (fun _ => 0))), ((k1 14), .inl (U.1, 16, .inl (fun _ => 0))), (q2, .inr (1, [.int 0, .ref (k3 0)])), ((k3 0), .inl (U.1, 16, .inl (fun _ => 0))), (q4, .inr (2, [.ref (k5 0), .int 20])), ((k5 0), .inl (U.1, 4, .inl (upd (upd (upd (upd (fun _ => 0) 0 6) 1 5) 2 8) 3 10))), (q6, .inr (6, [.ref (k7 0), .ref (k7 1)])), ((k7 0), .inl (U.1, 14, .inl (fun _ => 0))), ((k7 1), .inl (U.1, 14, .inl (fun _ => 0))), (q8, .inr (3, [.int 12, .int 1, .int 0, .int 0, .ref (k9 0), .ref (k9 1)])), ((k9 0), .inl (U.1, 14, .inl (fun _ => 0))), ((k9 1), .inl (U.2.2.2, 14, .inr (.inr (.inr (.inr (fun i => if i < 14 then some ((fun j => k9 (2 + j)) i) else none)))))), ((k9 2), .inl (U.1, 14, .inl (fun _ => 0))), ((k9 3), .inl (U.1, 14, .inl (fun _ => 0))), ((k9 4), .inl (U.1, 14, .inl (fun _ => 0))), ((k9 5), .inl (U.1, 14, .inl (fun _ => 0))), ((k9 6), .inl (U.1, 14, .inl (fun _ => 0))), ((k9 7), .inl (U.1, 14, .inl (fun _ => 0))), ((k9 8), .inl (U.1, 14, .inl (fun _ => 0))), ((k9 9), .inl (U.1, 14, .inl (fun _ => 0))), ((k9 10), .inl (U.1, 14, .inl (fun _ => 0))), ((k9 11), .inl (U.1, 14, .inl (fun _ => 0))), ((k9 12), .inl (U.1, 14, .inl (fun _ => 0))), ((k9 13), .inl (U.1, 14, .inl (fun _ => 0))), ((k9 14), .inl (U.1, 14, .inl (fun _ => 0))), ((k9 15), .inl (U.1, 14, .inl (fun _ => 0))), (q10, .inr (4, [.int 0, .int 0, .ref (k11 0), .ref (k11 1)])), ((k11 0), .inl (U.1, 14, .inl (fun _ => 0))), ((k11 1), .inl (U.1, 14, .inl (fun _ => 0))), (q12, .inr (0, [.int 0, .int 0, .null, .null]))]) rfl ?_
  refine zz_dup C dX7_init_74 rfl ?_
  refine zz_callIN (host := "ChangeUntangler") (As := []) (rest := [.ref q12, .ref h]) C (mk_X0 (h, .inr (7, [.ref q0, .ref q2, .ref q4, .ref q6, .ref q8, .ref q10, .null, .int 0, .int 0])) (q0, .inr (5, [.int 0, .ref (k1 0), .ref (k1 1), .ref (k1 2), .ref (k1 3), .ref (k1 4), .ref (k1 5), .ref (k1 10)])) ((k1 0), .inl (U.1, 14, .inl (fun _ => 0))) ((k1 1), .inl (U.1, 14, .inl (fun _ => 0))) ((k1 2), .inl (U.1, 14, .inl (fun _ => 0))) ((k1 3), .inl (U.1, 14, .inl (fun _ => 0))) ((k1 4), .inl (U.1, 14, .inl (fun _ => 0))) ((k1 5), .inl (U.2.2.2, 4, .inr (.inr (.inr (.inr (fun i => if i < 4 then some ((fun j => k1 (6 + j)) i) else none)))))) ((k1 6), .inl (U.1, 14, .inl (fun _ => 0))) ((k1 7), .inl (U.1, 14, .inl (fun _ => 0))) ((k1 8), .inl (U.1, 14, .inl (fun _ => 0))) ((k1 9), .inl (U.1, 14, .inl (fun _ => 0))) ((k1 10), .inl (U.2.2.2, 4, .inr (.inr (.inr (.inr (fun i => if i < 4 then some ((fun j => k1 (11 + j)) i) else none)))))) ((k1 11), .inl (U.1, 16, .inl (fun _ => 0))) ((k1 12), .inl (U.1, 16, .inl (fun _ => 0))) ((k1 13), .inl (U.1, 16, .inl (fun _ => 0))) ((k1 14), .inl (U.1, 16, .inl (fun _ => 0))) (q2, .inr (1, [.int 0, .ref (k3 0)])) ((k3 0), .inl (U.1, 16, .inl (fun _ => 0))) (q4, .inr (2, [.ref (k5 0), .int 20])) ((k5 0), .inl (U.1, 4, .inl (upd (upd (upd (upd (fun _ => 0) 0 6) 1 5) 2 8) 3 10))) (q6, .inr (6, [.ref (k7 0), .ref (k7 1)])) ((k7 0), .inl (U.1, 14, .inl (fun _ => 0))) ((k7 1), .inl (U.1, 14, .inl (fun _ => 0))) (q8, .inr (3, [.int 12, .int 1, .int 0, .int 0, .ref (k9 0), .ref (k9 1)])) ((k9 0), .inl (U.1, 14, .inl (fun _ => 0))) ((k9 1), .inl (U.2.2.2, 14, .inr (.inr (.inr (.inr (fun i => if i < 14 then some ((fun j => k9 (2 + j)) i) else none)))))) ((k9 2), .inl (U.1, 14, .inl (fun _ => 0))) ((k9 3), .inl (U.1, 14, .inl (fun _ => 0))) ((k9 4), .inl (U.1, 14, .inl (fun _ => 0))) ((k9 5), .inl (U.1, 14, .inl (fun _ => 0))) ((k9 6), .inl (U.1, 14, .inl (fun _ => 0))) ((k9 7), .inl (U.1, 14, .inl (fun _ => 0))) ((k9 8), .inl (U.1, 14, .inl (fun _ => 0))) ((k9 9), .inl (U.1, 14, .inl (fun _ => 0))) ((k9 10), .inl (U.1, 14, .inl (fun _ => 0))) ((k9 11), .inl (U.1, 14, .inl (fun _ => 0))) ((k9 12), .inl (U.1, 14, .inl (fun _ => 0))) ((k9 13), .inl (U.1, 14, .inl (fun _ => 0))) ((k9 14), .inl (U.1, 14, .inl (fun _ => 0))) ((k9 15), .inl (U.1, 14, .inl (fun _ => 0))) (q10, .inr (4, [.int 0, .int 0, .ref (k11 0), .ref (k11 1)])) ((k11 0), .inl (U.1, 14, .inl (fun _ => 0))) ((k11 1), .inl (U.1, 14, .inl (fun _ => 0))) q12) (fun _ _ h => h) dX7_init_75 rfl rfl (by decide +kernel) zi_X0_init rfl (by decide) (by decide) (Nat.le_of_ble_eq_true rfl) (Nat.le_of_ble_eq_true rfl) (Nat.le_of_ble_eq_true rfl) (fun v ws1 hw => ?_)
  obtain ⟨rfl, k13, rfl⟩ := hw
  refine zz_putF (T := TX7) (v := .ref q12) (ty := (.object "ChangeUntangler$BestOrder")) C 0 6 dX7_init_78 rfl rfl z_in7 (by decide +kernel) tyX7_ok nmX7 (by decide) zwc_59 rfl hnm rfl (by decide +kernel) rfl rfl (Nat.le_of_ble_eq_true rfl) (ws1 := [(h, .inr (7, [.ref q0, .ref q2, .ref q4, .ref q6, .ref q8, .ref q10, .ref q12, .int 0, .int 0])), (q0, .inr (5, [.int 0, .ref (k1 0), .ref (k1 1), .ref (k1 2), .ref (k1 3), .ref (k1 4), .ref (k1 5), .ref (k1 10)])), ((k1 0), .inl (U.1, 14, .inl (fun _ => 0))), ((k1 1), .inl (U.1, 14, .inl (fun _ => 0))), ((k1 2), .inl (U.1, 14, .inl (fun _ => 0))), ((k1 3), .inl (U.1, 14, .inl (fun _ => 0))), ((k1 4), .inl (U.1, 14, .inl (fun _ => 0))), ((k1 5), .inl (U.2.2.2, 4, .inr (.inr (.inr (.inr (fun i => if i < 4 then some ((fun j => k1 (6 + j)) i) else none)))))), ((k1 6), .inl (U.1, 14, .inl (fun _ => 0))), ((k1 7), .inl (U.1, 14, .inl (fun _ => 0))), ((k1 8), .inl (U.1, 14, .inl (fun _ => 0))), ((k1 9), .inl (U.1, 14, .inl (fun _ => 0))), ((k1 10), .inl (U.2.2.2, 4, .inr (.inr (.inr (.inr (fun i => if i < 4 then some ((fun j => k1 (11 + j)) i) else none)))))), ((k1 11), .inl (U.1, 16, .inl (fun _ => 0))), ((k1 12), .inl (U.1, 16, .inl (fun _ => 0))), ((k1 13), .inl (U.1, 16, .inl (fun _ => 0))), ((k1 14), .inl (U.1, 16, .inl (fun _ => 0))), (q2, .inr (1, [.int 0, .ref (k3 0)])), ((k3 0), .inl (U.1, 16, .inl (fun _ => 0))), (q4, .inr (2, [.ref (k5 0), .int 20])), ((k5 0), .inl (U.1, 4, .inl (upd (upd (upd (upd (fun _ => 0) 0 6) 1 5) 2 8) 3 10))), (q6, .inr (6, [.ref (k7 0), .ref (k7 1)])), ((k7 0), .inl (U.1, 14, .inl (fun _ => 0))), ((k7 1), .inl (U.1, 14, .inl (fun _ => 0))), (q8, .inr (3, [.int 12, .int 1, .int 0, .int 0, .ref (k9 0), .ref (k9 1)])), ((k9 0), .inl (U.1, 14, .inl (fun _ => 0))), ((k9 1), .inl (U.2.2.2, 14, .inr (.inr (.inr (.inr (fun i => if i < 14 then some ((fun j => k9 (2 + j)) i) else none)))))), ((k9 2), .inl (U.1, 14, .inl (fun _ => 0))), ((k9 3), .inl (U.1, 14, .inl (fun _ => 0))), ((k9 4), .inl (U.1, 14, .inl (fun _ => 0))), ((k9 5), .inl (U.1, 14, .inl (fun _ => 0))), ((k9 6), .inl (U.1, 14, .inl (fun _ => 0))), ((k9 7), .inl (U.1, 14, .inl (fun _ => 0))), ((k9 8), .inl (U.1, 14, .inl (fun _ => 0))), ((k9 9), .inl (U.1, 14, .inl (fun _ => 0))), ((k9 10), .inl (U.1, 14, .inl (fun _ => 0))), ((k9 11), .inl (U.1, 14, .inl (fun _ => 0))), ((k9 12), .inl (U.1, 14, .inl (fun _ => 0))), ((k9 13), .inl (U.1, 14, .inl (fun _ => 0))), ((k9 14), .inl (U.1, 14, .inl (fun _ => 0))), ((k9 15), .inl (U.1, 14, .inl (fun _ => 0))), (q10, .inr (4, [.int 0, .int 0, .ref (k11 0), .ref (k11 1)])), ((k11 0), .inl (U.1, 14, .inl (fun _ => 0))), ((k11 1), .inl (U.1, 14, .inl (fun _ => 0))), (q12, .inr (0, [.int 0, .int 0, .ref (k13 0), .ref (k13 1)])), ((k13 0), .inl (U.1, 9, .inl (fun _ => 0))), ((k13 1), .inl (U.1, 512, .inl (fun _ => 0)))]) rfl ?_
  have hE6 := zr_fun (n := 4) (r := (fun j => k1 (6 + j))) (g := fun j => (fun k => [q0, (k1 0), (k1 1), (k1 2), (k1 3), (k1 4), (k1 5), (k1 6), (k1 7), (k1 8), (k1 9), (k1 10), (k1 11), (k1 12), (k1 13), (k1 14), q2, (k3 0), q4, (k5 0), q6, (k7 0), (k7 1), q8, (k9 0), (k9 1), (k9 2), (k9 3), (k9 4), (k9 5), (k9 6), (k9 7), (k9 8), (k9 9), (k9 10), (k9 11), (k9 12), (k9 13), (k9 14), (k9 15), q10, (k11 0), (k11 1), q12, (k13 0), (k13 1)].getD k 0) (7 + j)) (fun i hi => by match i, hi with
      | 0, _ => rfl
      | 1, _ => rfl
      | 2, _ => rfl
      | 3, _ => rfl)
  have hE11 := zr_fun (n := 4) (r := (fun j => k1 (11 + j))) (g := fun j => (fun k => [q0, (k1 0), (k1 1), (k1 2), (k1 3), (k1 4), (k1 5), (k1 6), (k1 7), (k1 8), (k1 9), (k1 10), (k1 11), (k1 12), (k1 13), (k1 14), q2, (k3 0), q4, (k5 0), q6, (k7 0), (k7 1), q8, (k9 0), (k9 1), (k9 2), (k9 3), (k9 4), (k9 5), (k9 6), (k9 7), (k9 8), (k9 9), (k9 10), (k9 11), (k9 12), (k9 13), (k9 14), (k9 15), q10, (k11 0), (k11 1), q12, (k13 0), (k13 1)].getD k 0) (12 + j)) (fun i hi => by match i, hi with
      | 0, _ => rfl
      | 1, _ => rfl
      | 2, _ => rfl
      | 3, _ => rfl)
  have hE25 := zr_fun (n := 14) (r := (fun j => k9 (2 + j))) (g := fun j => (fun k => [q0, (k1 0), (k1 1), (k1 2), (k1 3), (k1 4), (k1 5), (k1 6), (k1 7), (k1 8), (k1 9), (k1 10), (k1 11), (k1 12), (k1 13), (k1 14), q2, (k3 0), q4, (k5 0), q6, (k7 0), (k7 1), q8, (k9 0), (k9 1), (k9 2), (k9 3), (k9 4), (k9 5), (k9 6), (k9 7), (k9 8), (k9 9), (k9 10), (k9 11), (k9 12), (k9 13), (k9 14), (k9 15), q10, (k11 0), (k11 1), q12, (k13 0), (k13 1)].getD k 0) (26 + j)) (fun i hi => by match i, hi with
      | 0, _ => rfl
      | 1, _ => rfl
      | 2, _ => rfl
      | 3, _ => rfl
      | 4, _ => rfl
      | 5, _ => rfl
      | 6, _ => rfl
      | 7, _ => rfl
      | 8, _ => rfl
      | 9, _ => rfl
      | 10, _ => rfl
      | 11, _ => rfl
      | 12, _ => rfl
      | 13, _ => rfl)
  exact zz_vret C dX7_init_81 (And.intro rfl ⟨fun k => [q0, (k1 0), (k1 1), (k1 2), (k1 3), (k1 4), (k1 5), (k1 6), (k1 7), (k1 8), (k1 9), (k1 10), (k1 11), (k1 12), (k1 13), (k1 14), q2, (k3 0), q4, (k5 0), q6, (k7 0), (k7 1), q8, (k9 0), (k9 1), (k9 2), (k9 3), (k9 4), (k9 5), (k9 6), (k9 7), (k9 8), (k9 9), (k9 10), (k9 11), (k9 12), (k9 13), (k9 14), (k9 15), q10, (k11 0), (k11 1), q12, (k13 0), (k13 1)].getD k 0, by rw [hE6, hE11, hE25]; rfl⟩) (Nat.le_of_ble_eq_true rfl) (Nat.le_of_ble_eq_true rfl)
