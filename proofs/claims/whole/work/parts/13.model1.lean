theorem dX8_thrown_0 : decode cX8_thrown 0 = .ok (.aload_n 0, 1) := by decide +kernel
theorem dX8_thrown_1 : decode cX8_thrown 1 = .ok (.getfield 63, 3) := by decide +kernel
theorem dX8_thrown_4 : decode cX8_thrown 4 = .ok (.ireturn, 1) := by decide +kernel
set_option maxHeartbeats 4000000 in
set_option maxRecDepth 100000 in
theorem mX8_thrown {D : va_G} {U : zz_U} {ad : Nat → Nat} {X : va_W} {ρ : zz_St} (σ : zz_St) (r : Int32) (hf : fX8_thrown σ = some r) : zz_Met yX8_thrown (.code yX8_thrown cX8_thrown 1 (some .int)) 0 0 0 D U [.ref (ad 47)] (zz_wm U ad ρ σ X) (zz_ok (some (.int r)) (zz_wm U ad ρ σ X)) zz_noth := by
  unfold fX8_thrown at hf
  refine zz_method RX8 rfl (by decide +kernel) (Nat.le_of_ble_eq_true rfl) ?_
  intro p l e s m args below meth c A _ C
  refine zz_lvs (lv1 := [(0, .ref (ad 47))]) rfl ?_
  refine zz_aload_n C 0 dX8_thrown_0 rfl rfl ?_
  refine zf8_thrown C dX8_thrown_1 zw_145 ?_
  cases hf
  exact zz_iret C dX8_thrown_4 (And.intro rfl rfl) (Nat.le_of_ble_eq_true rfl) (Nat.le_of_ble_eq_true rfl)
theorem dX8_isIn_0 : decode cX8_isIn 0 = .ok (.iload_n 0, 1) := by decide +kernel
theorem dX8_isIn_1 : decode cX8_isIn 1 = .ok (.iload_n 1, 1) := by decide +kernel
theorem dX8_isIn_2 : decode cX8_isIn 2 = .ok (.if_icmp .lt 12, 3) := by decide +kernel
theorem dX8_isIn_5 : decode cX8_isIn 5 = .ok (.iload_n 0, 1) := by decide +kernel
theorem dX8_isIn_6 : decode cX8_isIn 6 = .ok (.iload_n 2, 1) := by decide +kernel
theorem dX8_isIn_7 : decode cX8_isIn 7 = .ok (.if_icmp .gt 7, 3) := by decide +kernel
theorem dX8_isIn_10 : decode cX8_isIn 10 = .ok (.iconst 1, 1) := by decide +kernel
theorem dX8_isIn_11 : decode cX8_isIn 11 = .ok (.goto 4, 3) := by decide +kernel
theorem dX8_isIn_14 : decode cX8_isIn 14 = .ok (.iconst 0, 1) := by decide +kernel
theorem dX8_isIn_15 : decode cX8_isIn 15 = .ok (.ireturn, 1) := by decide +kernel
set_option maxHeartbeats 4000000 in
set_option maxRecDepth 100000 in
theorem mX8_isIn {D : va_G} {U : zz_U} {ad : Nat → Nat} {X : va_W} {ρ : zz_St} (σ : zz_St) (v_ : Int32) (low_ : Int32) (high_ : Int32) (r : Int32) (hf : fX8_isIn σ v_ low_ high_ = some r) : zz_Met yX8_isIn (.code yX8_isIn cX8_isIn 3 (some .boolean)) 0 0 0 D U [.int v_, .int low_, .int high_] (zz_wm U ad ρ σ X) (zz_ok (some (.int r)) (zz_wm U ad ρ σ X)) zz_noth := by
  unfold fX8_isIn at hf
  refine zz_method RX8 rfl (by decide +kernel) (Nat.le_of_ble_eq_true rfl) ?_
  intro p l e s m args below meth c A _ C
  refine zz_lvs (lv1 := [(0, .int v_), (1, .int low_), (2, .int high_)]) rfl ?_
  obtain ⟨b1, h2, hf⟩ := zz_bind hf
  refine zz_cut 15 [(0, .int v_), (1, .int low_), (2, .int high_)] [.int (zz_bi b1)] (zz_wm U ad ρ σ X) ?_ (fun J3 => ?_)
  · cases hf
    exact zz_zret C dX8_isIn_15 (zz_bi01 _) (And.intro rfl rfl) (Nat.le_of_ble_eq_true rfl) (Nat.le_of_ble_eq_true rfl)
  refine zz_iload_n C 0 dX8_isIn_0 rfl rfl ?_
  refine zz_iload_n C 1 dX8_isIn_1 rfl rfl ?_
  refine zz_icmp_lt (tgt := 14) C dX8_isIn_2 (by decide) (fun g4 => ?_) (fun g4 => ?_)
  · rw [if_pos g4] at h2
    refine zz_iconst (v := 0) C dX8_isIn_14 (by decide) ?_
    cases h2
    exact J3
  · rw [if_neg g4] at h2
    refine zz_iload_n C 0 dX8_isIn_5 rfl rfl ?_
    refine zz_iload_n C 2 dX8_isIn_6 rfl rfl ?_
    refine zz_icmp_gt (tgt := 14) C dX8_isIn_7 (by decide) (fun g5 => ?_) (fun g5 => ?_)
    · rw [if_pos g5] at h2
      refine zz_iconst (v := 0) C dX8_isIn_14 (by decide) ?_
      cases h2
      exact J3
    · rw [if_neg g5] at h2
      refine zz_iconst (v := 1) C dX8_isIn_10 (by decide) ?_
      refine zz_goto (tgt := 15) C dX8_isIn_11 (by decide) ?_
      cases h2
      exact J3
theorem dX8_no_0 : decode cX8_no 0 = .ok (.aload_n 0, 1) := by decide +kernel
theorem dX8_no_1 : decode cX8_no 1 = .ok (.iload_n 1, 1) := by decide +kernel
theorem dX8_no_2 : decode cX8_no 2 = .ok (.putfield 63, 3) := by decide +kernel
theorem dX8_no_5 : decode cX8_no 5 = .ok (.iconst 0, 1) := by decide +kernel
theorem dX8_no_6 : decode cX8_no 6 = .ok (.ireturn, 1) := by decide +kernel
set_option maxHeartbeats 4000000 in
set_option maxRecDepth 100000 in
theorem mX8_no {D : va_G} {U : zz_U} {ad : Nat → Nat} {X : va_W} {ρ : zz_St} (σ : zz_St) (number_ : Int32) (r : (Int32 × zz_St)) (hf : fX8_no σ number_ = some r) : zz_Met yX8_no (.code yX8_no cX8_no 2 (some .int)) 0 0 0 D U [.ref (ad 47), .int number_] (zz_wm U ad ρ σ X) (zz_ok (some (.int r.1)) (zz_wm U ad ρ r.2 X)) zz_noth := by
  unfold fX8_no at hf
  refine zz_method RX8 rfl (by decide +kernel) (Nat.le_of_ble_eq_true rfl) ?_
  intro p l e s m args below meth c A _ C
  refine zz_lvs (lv1 := [(0, .ref (ad 47)), (1, .int number_)]) rfl ?_
  refine zz_aload_n C 0 dX8_no_0 rfl rfl ?_
  refine zz_iload_n C 1 dX8_no_1 rfl rfl ?_
  refine zp8_thrown C dX8_no_2 zw_145 ?_
  refine zz_iconst (v := (0 : Int32)) C dX8_no_5 (by decide) ?_
  cases hf
  exact zz_iret C dX8_no_6 (And.intro rfl rfl) (Nat.le_of_ble_eq_true rfl) (Nat.le_of_ble_eq_true rfl)
theorem dX8_addPiece_0 : decode cX8_addPiece 0 = .ok (.aload_n 0, 1) := by decide +kernel
theorem dX8_addPiece_1 : decode cX8_addPiece 1 = .ok (.iconst 0, 1) := by decide +kernel
theorem dX8_addPiece_2 : decode cX8_addPiece 2 = .ok (.putfield 63, 3) := by decide +kernel
theorem dX8_addPiece_5 : decode cX8_addPiece 5 = .ok (.iload_n 1, 1) := by decide +kernel
theorem dX8_addPiece_6 : decode cX8_addPiece 6 = .ok (.iconst 0, 1) := by decide +kernel
theorem dX8_addPiece_7 : decode cX8_addPiece 7 = .ok (.bipush 9, 2) := by decide +kernel
theorem dX8_addPiece_9 : decode cX8_addPiece 9 = .ok (.invokestatic 69, 3) := by decide +kernel
theorem dX8_addPiece_12 : decode cX8_addPiece 12 = .ok (.ifCond .eq 37, 3) := by decide +kernel
theorem dX8_addPiece_15 : decode cX8_addPiece 15 = .ok (.iload_n 2, 1) := by decide +kernel
theorem dX8_addPiece_16 : decode cX8_addPiece 16 = .ok (.iconst 0, 1) := by decide +kernel
theorem dX8_addPiece_17 : decode cX8_addPiece 17 = .ok (.sipush 9999, 3) := by decide +kernel
theorem dX8_addPiece_20 : decode cX8_addPiece 20 = .ok (.invokestatic 69, 3) := by decide +kernel
theorem dX8_addPiece_23 : decode cX8_addPiece 23 = .ok (.ifCond .eq 26, 3) := by decide +kernel
theorem dX8_addPiece_26 : decode cX8_addPiece 26 = .ok (.iload_n 3, 1) := by decide +kernel
theorem dX8_addPiece_27 : decode cX8_addPiece 27 = .ok (.iconst 0, 1) := by decide +kernel
theorem dX8_addPiece_28 : decode cX8_addPiece 28 = .ok (.sipush 999, 3) := by decide +kernel
theorem dX8_addPiece_31 : decode cX8_addPiece 31 = .ok (.invokestatic 69, 3) := by decide +kernel
theorem dX8_addPiece_34 : decode cX8_addPiece 34 = .ok (.ifCond .eq 15, 3) := by decide +kernel
theorem dX8_addPiece_37 : decode cX8_addPiece 37 = .ok (.iload 4, 2) := by decide +kernel
theorem dX8_addPiece_39 : decode cX8_addPiece 39 = .ok (.iconst 0, 1) := by decide +kernel
theorem dX8_addPiece_40 : decode cX8_addPiece 40 = .ok (.sipush 999, 3) := by decide +kernel
theorem dX8_addPiece_43 : decode cX8_addPiece 43 = .ok (.invokestatic 69, 3) := by decide +kernel
theorem dX8_addPiece_46 : decode cX8_addPiece 46 = .ok (.ifCond .ne 9, 3) := by decide +kernel
theorem dX8_addPiece_49 : decode cX8_addPiece 49 = .ok (.aload_n 0, 1) := by decide +kernel
theorem dX8_addPiece_50 : decode cX8_addPiece 50 = .ok (.iconst 1, 1) := by decide +kernel
theorem dX8_addPiece_51 : decode cX8_addPiece 51 = .ok (.invokevirtual 73, 3) := by decide +kernel
theorem dX8_addPiece_54 : decode cX8_addPiece 54 = .ok (.ireturn, 1) := by decide +kernel
theorem dX8_addPiece_55 : decode cX8_addPiece 55 = .ok (.aload_n 0, 1) := by decide +kernel
theorem dX8_addPiece_56 : decode cX8_addPiece 56 = .ok (.getfield 66, 3) := by decide +kernel
theorem dX8_addPiece_59 : decode cX8_addPiece 59 = .ok (.bipush 14, 2) := by decide +kernel
theorem dX8_addPiece_61 : decode cX8_addPiece 61 = .ok (.if_icmp .ne 9, 3) := by decide +kernel
theorem dX8_addPiece_64 : decode cX8_addPiece 64 = .ok (.aload_n 0, 1) := by decide +kernel
theorem dX8_addPiece_65 : decode cX8_addPiece 65 = .ok (.iconst 2, 1) := by decide +kernel
theorem dX8_addPiece_66 : decode cX8_addPiece 66 = .ok (.invokevirtual 73, 3) := by decide +kernel
theorem dX8_addPiece_69 : decode cX8_addPiece 69 = .ok (.ireturn, 1) := by decide +kernel
theorem dX8_addPiece_70 : decode cX8_addPiece 70 = .ok (.iconst 4, 1) := by decide +kernel
theorem dX8_addPiece_71 : decode cX8_addPiece 71 = .ok (.aload_n 0, 1) := by decide +kernel
theorem dX8_addPiece_72 : decode cX8_addPiece 72 = .ok (.getfield 66, 3) := by decide +kernel
theorem dX8_addPiece_75 : decode cX8_addPiece 75 = .ok (.imul, 1) := by decide +kernel
theorem dX8_addPiece_76 : decode cX8_addPiece 76 = .ok (.istore 5, 2) := by decide +kernel
theorem dX8_addPiece_78 : decode cX8_addPiece 78 = .ok (.aload_n 0, 1) := by decide +kernel
theorem dX8_addPiece_79 : decode cX8_addPiece 79 = .ok (.getfield 9, 3) := by decide +kernel
theorem dX8_addPiece_82 : decode cX8_addPiece 82 = .ok (.iload 5, 2) := by decide +kernel
theorem dX8_addPiece_84 : decode cX8_addPiece 84 = .ok (.iload_n 1, 1) := by decide +kernel
theorem dX8_addPiece_85 : decode cX8_addPiece 85 = .ok (.iastore, 1) := by decide +kernel
theorem dX8_addPiece_86 : decode cX8_addPiece 86 = .ok (.aload_n 0, 1) := by decide +kernel
theorem dX8_addPiece_87 : decode cX8_addPiece 87 = .ok (.getfield 9, 3) := by decide +kernel
theorem dX8_addPiece_90 : decode cX8_addPiece 90 = .ok (.iload 5, 2) := by decide +kernel
theorem dX8_addPiece_92 : decode cX8_addPiece 92 = .ok (.iconst 1, 1) := by decide +kernel
theorem dX8_addPiece_93 : decode cX8_addPiece 93 = .ok (.iadd, 1) := by decide +kernel
theorem dX8_addPiece_94 : decode cX8_addPiece 94 = .ok (.iload_n 2, 1) := by decide +kernel
theorem dX8_addPiece_95 : decode cX8_addPiece 95 = .ok (.iastore, 1) := by decide +kernel
theorem dX8_addPiece_96 : decode cX8_addPiece 96 = .ok (.aload_n 0, 1) := by decide +kernel
theorem dX8_addPiece_97 : decode cX8_addPiece 97 = .ok (.getfield 9, 3) := by decide +kernel
theorem dX8_addPiece_100 : decode cX8_addPiece 100 = .ok (.iload 5, 2) := by decide +kernel
theorem dX8_addPiece_102 : decode cX8_addPiece 102 = .ok (.iconst 2, 1) := by decide +kernel
theorem dX8_addPiece_103 : decode cX8_addPiece 103 = .ok (.iadd, 1) := by decide +kernel
theorem dX8_addPiece_104 : decode cX8_addPiece 104 = .ok (.iload_n 3, 1) := by decide +kernel
theorem dX8_addPiece_105 : decode cX8_addPiece 105 = .ok (.iastore, 1) := by decide +kernel
theorem dX8_addPiece_106 : decode cX8_addPiece 106 = .ok (.aload_n 0, 1) := by decide +kernel
theorem dX8_addPiece_107 : decode cX8_addPiece 107 = .ok (.getfield 9, 3) := by decide +kernel
theorem dX8_addPiece_110 : decode cX8_addPiece 110 = .ok (.iload 5, 2) := by decide +kernel
theorem dX8_addPiece_112 : decode cX8_addPiece 112 = .ok (.iconst 3, 1) := by decide +kernel
theorem dX8_addPiece_113 : decode cX8_addPiece 113 = .ok (.iadd, 1) := by decide +kernel
theorem dX8_addPiece_114 : decode cX8_addPiece 114 = .ok (.iload 4, 2) := by decide +kernel
theorem dX8_addPiece_116 : decode cX8_addPiece 116 = .ok (.iastore, 1) := by decide +kernel
theorem dX8_addPiece_117 : decode cX8_addPiece 117 = .ok (.iconst 0, 1) := by decide +kernel
theorem dX8_addPiece_118 : decode cX8_addPiece 118 = .ok (.istore 6, 2) := by decide +kernel
theorem dX8_addPiece_120 : decode cX8_addPiece 120 = .ok (.iload 6, 2) := by decide +kernel
theorem dX8_addPiece_122 : decode cX8_addPiece 122 = .ok (.iconst 4, 1) := by decide +kernel
theorem dX8_addPiece_123 : decode cX8_addPiece 123 = .ok (.if_icmp .ge 24, 3) := by decide +kernel
theorem dX8_addPiece_126 : decode cX8_addPiece 126 = .ok (.aload_n 0, 1) := by decide +kernel
theorem dX8_addPiece_127 : decode cX8_addPiece 127 = .ok (.getfield 13, 3) := by decide +kernel
theorem dX8_addPiece_130 : decode cX8_addPiece 130 = .ok (.iconst 4, 1) := by decide +kernel
theorem dX8_addPiece_131 : decode cX8_addPiece 131 = .ok (.aload_n 0, 1) := by decide +kernel
theorem dX8_addPiece_132 : decode cX8_addPiece 132 = .ok (.getfield 66, 3) := by decide +kernel
theorem dX8_addPiece_135 : decode cX8_addPiece 135 = .ok (.imul, 1) := by decide +kernel
theorem dX8_addPiece_136 : decode cX8_addPiece 136 = .ok (.iload 6, 2) := by decide +kernel
theorem dX8_addPiece_138 : decode cX8_addPiece 138 = .ok (.iadd, 1) := by decide +kernel
theorem dX8_addPiece_139 : decode cX8_addPiece 139 = .ok (.iconst 0, 1) := by decide +kernel
theorem dX8_addPiece_140 : decode cX8_addPiece 140 = .ok (.iastore, 1) := by decide +kernel
theorem dX8_addPiece_141 : decode cX8_addPiece 141 = .ok (.iinc 6 1, 3) := by decide +kernel
theorem dX8_addPiece_144 : decode cX8_addPiece 144 = .ok (.goto (-24), 3) := by decide +kernel
theorem dX8_addPiece_147 : decode cX8_addPiece 147 = .ok (.iconst 0, 1) := by decide +kernel
theorem dX8_addPiece_148 : decode cX8_addPiece 148 = .ok (.istore 6, 2) := by decide +kernel
theorem dX8_addPiece_150 : decode cX8_addPiece 150 = .ok (.iload 6, 2) := by decide +kernel
theorem dX8_addPiece_152 : decode cX8_addPiece 152 = .ok (.bipush 14, 2) := by decide +kernel
theorem dX8_addPiece_154 : decode cX8_addPiece 154 = .ok (.if_icmp .ge 41, 3) := by decide +kernel
theorem dX8_addPiece_157 : decode cX8_addPiece 157 = .ok (.aload_n 0, 1) := by decide +kernel
theorem dX8_addPiece_158 : decode cX8_addPiece 158 = .ok (.getfield 19, 3) := by decide +kernel
theorem dX8_addPiece_161 : decode cX8_addPiece 161 = .ok (.bipush 14, 2) := by decide +kernel
theorem dX8_addPiece_163 : decode cX8_addPiece 163 = .ok (.aload_n 0, 1) := by decide +kernel
theorem dX8_addPiece_164 : decode cX8_addPiece 164 = .ok (.getfield 66, 3) := by decide +kernel
theorem dX8_addPiece_167 : decode cX8_addPiece 167 = .ok (.imul, 1) := by decide +kernel
theorem dX8_addPiece_168 : decode cX8_addPiece 168 = .ok (.iload 6, 2) := by decide +kernel
theorem dX8_addPiece_170 : decode cX8_addPiece 170 = .ok (.iadd, 1) := by decide +kernel
theorem dX8_addPiece_171 : decode cX8_addPiece 171 = .ok (.iconst 0, 1) := by decide +kernel
theorem dX8_addPiece_172 : decode cX8_addPiece 172 = .ok (.iastore, 1) := by decide +kernel
theorem dX8_addPiece_173 : decode cX8_addPiece 173 = .ok (.aload_n 0, 1) := by decide +kernel
theorem dX8_addPiece_174 : decode cX8_addPiece 174 = .ok (.getfield 19, 3) := by decide +kernel
theorem dX8_addPiece_177 : decode cX8_addPiece 177 = .ok (.bipush 14, 2) := by decide +kernel
theorem dX8_addPiece_179 : decode cX8_addPiece 179 = .ok (.iload 6, 2) := by decide +kernel
theorem dX8_addPiece_181 : decode cX8_addPiece 181 = .ok (.imul, 1) := by decide +kernel
theorem dX8_addPiece_182 : decode cX8_addPiece 182 = .ok (.aload_n 0, 1) := by decide +kernel
theorem dX8_addPiece_183 : decode cX8_addPiece 183 = .ok (.getfield 66, 3) := by decide +kernel
theorem dX8_addPiece_186 : decode cX8_addPiece 186 = .ok (.iadd, 1) := by decide +kernel
theorem dX8_addPiece_187 : decode cX8_addPiece 187 = .ok (.iconst 0, 1) := by decide +kernel
theorem dX8_addPiece_188 : decode cX8_addPiece 188 = .ok (.iastore, 1) := by decide +kernel
theorem dX8_addPiece_189 : decode cX8_addPiece 189 = .ok (.iinc 6 1, 3) := by decide +kernel
theorem dX8_addPiece_192 : decode cX8_addPiece 192 = .ok (.goto (-42), 3) := by decide +kernel
theorem dX8_addPiece_195 : decode cX8_addPiece 195 = .ok (.aload_n 0, 1) := by decide +kernel
theorem dX8_addPiece_196 : decode cX8_addPiece 196 = .ok (.getfield 16, 3) := by decide +kernel
theorem dX8_addPiece_199 : decode cX8_addPiece 199 = .ok (.aload_n 0, 1) := by decide +kernel
theorem dX8_addPiece_200 : decode cX8_addPiece 200 = .ok (.getfield 66, 3) := by decide +kernel
theorem dX8_addPiece_203 : decode cX8_addPiece 203 = .ok (.iconst 0, 1) := by decide +kernel
theorem dX8_addPiece_204 : decode cX8_addPiece 204 = .ok (.iastore, 1) := by decide +kernel
theorem dX8_addPiece_205 : decode cX8_addPiece 205 = .ok (.aload_n 0, 1) := by decide +kernel
theorem dX8_addPiece_206 : decode cX8_addPiece 206 = .ok (.dup, 1) := by decide +kernel
theorem dX8_addPiece_207 : decode cX8_addPiece 207 = .ok (.getfield 66, 3) := by decide +kernel
theorem dX8_addPiece_210 : decode cX8_addPiece 210 = .ok (.iconst 1, 1) := by decide +kernel
theorem dX8_addPiece_211 : decode cX8_addPiece 211 = .ok (.iadd, 1) := by decide +kernel
theorem dX8_addPiece_212 : decode cX8_addPiece 212 = .ok (.putfield 66, 3) := by decide +kernel
theorem dX8_addPiece_215 : decode cX8_addPiece 215 = .ok (.aload_n 0, 1) := by decide +kernel
theorem dX8_addPiece_216 : decode cX8_addPiece 216 = .ok (.getfield 66, 3) := by decide +kernel
theorem dX8_addPiece_219 : decode cX8_addPiece 219 = .ok (.iconst 1, 1) := by decide +kernel
theorem dX8_addPiece_220 : decode cX8_addPiece 220 = .ok (.isub, 1) := by decide +kernel
theorem dX8_addPiece_221 : decode cX8_addPiece 221 = .ok (.ireturn, 1) := by decide +kernel
set_option maxHeartbeats 4000000 in
set_option maxRecDepth 100000 in
theorem mX8_addPiece_L1 {p : Program} {l : Launch} {e : Env} {R : Room} {s : State} {m : MethodId} {args : Array Value} {below : List Frame} {meth : Method} {c : Code} {Q : State → Prop} {D : va_G} {U : zz_U} {A : Nat → Prop} {cells slots : Nat} {ad : Nat → Nat} {X : va_W} {ρ : zz_St} (C : zz_C p l R s m meth c D U A RX8 cX8_addPiece 7 (some .int) [] 1) (hcR : cells ≤ R.cells) (hsR : slots ≤ R.slots) (file_ : Int32) (line_ : Int32) (added_ : Int32) (taken_ : Int32) (at_ : Int32) : ∀ (n : Nat) (what_ : Int32) (σ : zz_St) (q : (Int32 × zz_St)), fX8_addPiece_L1 file_ line_ added_ taken_ at_ n what_ σ = some q → (zz_Z p l e R s m args below meth c Q D A 7 cells slots (zz_wm U ad ρ q.2 X) 147 [(0, .ref (ad 47)), (1, .int file_), (2, .int line_), (3, .int added_), (4, .int taken_), (5, .int at_), (6, .int q.1)] []) → zz_Z p l e R s m args below meth c Q D A 7 cells slots (zz_wm U ad ρ σ X) 120 [(0, .ref (ad 47)), (1, .int file_), (2, .int line_), (3, .int added_), (4, .int taken_), (5, .int at_), (6, .int what_)] [] := by
  intro n
  induction n with
  | zero => intro what_ σ q hf; rw [fX8_addPiece_L1] at hf; cases hf
  | succ n ih =>
    intro what_ σ q hf kx
    rw [fX8_addPiece_L1] at hf
    refine zz_iload C 6 dX8_addPiece_120 rfl ?_
    refine zz_iconst (v := (4 : Int32)) C dX8_addPiece_122 (by decide) ?_
    refine zz_icmp_ge (tgt := 147) C dX8_addPiece_123 (by decide) (fun g31 => ?_) (fun g31 => ?_)
    · rw [if_pos g31] at hf
      cases hf
      exact kx
    · rw [if_neg g31] at hf
      refine zz_aload_n C 0 dX8_addPiece_126 rfl rfl ?_
      refine zf8_names C dX8_addPiece_127 zw_149 ?_
      refine zz_iconst (v := (4 : Int32)) C dX8_addPiece_130 (by decide) ?_
      refine zz_aload_n C 0 dX8_addPiece_131 rfl rfl ?_
      refine zf8_pieces C dX8_addPiece_132 zw_148 ?_
      refine zz_imul C dX8_addPiece_135 ?_
      refine zz_iload C 6 dX8_addPiece_136 rfl ?_
      refine zz_iadd C dX8_addPiece_138 ?_
      refine zz_iconst (v := (0 : Int32)) C dX8_addPiece_139 (by decide) ?_
      obtain ⟨σ32, h33, hf⟩ := zz_bind hf
      refine zs_49 C dX8_addPiece_140 h33 ?_
      refine zz_iinc (v := (what_ + (1 : Int32))) C 6 dX8_addPiece_141 rfl (by rfl) (by decide) (lv' := [(6, .int (what_ + (1 : Int32))), (0, .ref (ad 47)), (1, .int file_), (2, .int line_), (3, .int added_), (4, .int taken_), (5, .int at_)]) rfl ?_
      refine zz_goto (tgt := 120) C dX8_addPiece_144 (by decide) ?_
      refine zz_sub [1, 2, 3, 4, 5, 6, 0] rfl ?_
      exact ih (what_ + (1 : Int32)) σ32 _ hf kx
set_option maxHeartbeats 4000000 in
set_option maxRecDepth 100000 in
theorem mX8_addPiece_L2 {p : Program} {l : Launch} {e : Env} {R : Room} {s : State} {m : MethodId} {args : Array Value} {below : List Frame} {meth : Method} {c : Code} {Q : State → Prop} {D : va_G} {U : zz_U} {A : Nat → Prop} {cells slots : Nat} {ad : Nat → Nat} {X : va_W} {ρ : zz_St} (C : zz_C p l R s m meth c D U A RX8 cX8_addPiece 7 (some .int) [] 1) (hcR : cells ≤ R.cells) (hsR : slots ≤ R.slots) (file_ : Int32) (line_ : Int32) (added_ : Int32) (taken_ : Int32) (at_ : Int32) : ∀ (n : Nat) (other_ : Int32) (σ : zz_St) (q : (Int32 × zz_St)), fX8_addPiece_L2 file_ line_ added_ taken_ at_ n other_ σ = some q → (zz_Z p l e R s m args below meth c Q D A 7 cells slots (zz_wm U ad ρ q.2 X) 195 [(0, .ref (ad 47)), (1, .int file_), (2, .int line_), (3, .int added_), (4, .int taken_), (5, .int at_), (6, .int q.1)] []) → zz_Z p l e R s m args below meth c Q D A 7 cells slots (zz_wm U ad ρ σ X) 150 [(0, .ref (ad 47)), (1, .int file_), (2, .int line_), (3, .int added_), (4, .int taken_), (5, .int at_), (6, .int other_)] [] := by
  intro n
  induction n with
  | zero => intro other_ σ q hf; rw [fX8_addPiece_L2] at hf; cases hf
  | succ n ih =>
    intro other_ σ q hf kx
    rw [fX8_addPiece_L2] at hf
    refine zz_iload C 6 dX8_addPiece_150 rfl ?_
    refine zz_bipush (v := (14 : Int32)) C dX8_addPiece_152 (by decide) ?_
    refine zz_icmp_ge (tgt := 195) C dX8_addPiece_154 (by decide) (fun g36 => ?_) (fun g36 => ?_)
    · rw [if_pos g36] at hf
      cases hf
      exact kx
    · rw [if_neg g36] at hf
      refine zz_aload_n C 0 dX8_addPiece_157 rfl rfl ?_
      refine zf8_said C dX8_addPiece_158 zw_150 ?_
      refine zz_bipush (v := (14 : Int32)) C dX8_addPiece_161 (by decide) ?_
      refine zz_aload_n C 0 dX8_addPiece_163 rfl rfl ?_
      refine zf8_pieces C dX8_addPiece_164 zw_148 ?_
      refine zz_imul C dX8_addPiece_167 ?_
      refine zz_iload C 6 dX8_addPiece_168 rfl ?_
      refine zz_iadd C dX8_addPiece_170 ?_
      refine zz_iconst (v := (0 : Int32)) C dX8_addPiece_171 (by decide) ?_
      obtain ⟨σ37, h38, hf⟩ := zz_bind hf
      refine zs_51 C dX8_addPiece_172 h38 ?_
      refine zz_aload_n C 0 dX8_addPiece_173 rfl rfl ?_
      refine zf8_said C dX8_addPiece_174 zw_150 ?_
      refine zz_bipush (v := (14 : Int32)) C dX8_addPiece_177 (by decide) ?_
      refine zz_iload C 6 dX8_addPiece_179 rfl ?_
      refine zz_imul C dX8_addPiece_181 ?_
      refine zz_aload_n C 0 dX8_addPiece_182 rfl rfl ?_
      refine zf8_pieces C dX8_addPiece_183 zw_148 ?_
      refine zz_iadd C dX8_addPiece_186 ?_
      refine zz_iconst (v := (0 : Int32)) C dX8_addPiece_187 (by decide) ?_
      obtain ⟨σ39, h40, hf⟩ := zz_bind hf
      refine zs_51 C dX8_addPiece_188 h40 ?_
      refine zz_iinc (v := (other_ + (1 : Int32))) C 6 dX8_addPiece_189 rfl (by rfl) (by decide) (lv' := [(6, .int (other_ + (1 : Int32))), (0, .ref (ad 47)), (1, .int file_), (2, .int line_), (3, .int added_), (4, .int taken_), (5, .int at_)]) rfl ?_
      refine zz_goto (tgt := 150) C dX8_addPiece_192 (by decide) ?_
      refine zz_sub [1, 2, 3, 4, 5, 6, 0] rfl ?_
      exact ih (other_ + (1 : Int32)) σ39 _ hf kx
set_option maxHeartbeats 4000000 in
set_option maxRecDepth 100000 in
theorem mX8_addPiece {D : va_G} {U : zz_U} {ad : Nat → Nat} {X : va_W} {ρ : zz_St} (σ : zz_St) (file_ : Int32) (line_ : Int32) (added_ : Int32) (taken_ : Int32) (r : (Int32 × zz_St)) (hf : fX8_addPiece σ file_ line_ added_ taken_ = some r) : zz_Met yX8_addPiece (.code yX8_addPiece cX8_addPiece 7 (some .int)) 1 0 0 D U [.ref (ad 47), .int file_, .int line_, .int added_, .int taken_] (zz_wm U ad ρ σ X) (zz_ok (some (.int r.1)) (zz_wm U ad ρ r.2 X)) zz_noth := by
  unfold fX8_addPiece at hf
  refine zz_method RX8 rfl (by decide +kernel) (Nat.le_of_ble_eq_true rfl) ?_
  intro p l e s m args below meth c A _ C
  refine zz_lvs (lv1 := [(0, .ref (ad 47)), (1, .int file_), (2, .int line_), (3, .int added_), (4, .int taken_)]) rfl ?_
  refine zz_aload_n C 0 dX8_addPiece_0 rfl rfl ?_
  refine zz_iconst (v := (0 : Int32)) C dX8_addPiece_1 (by decide) ?_
  refine zp8_thrown C dX8_addPiece_2 zw_145 ?_
  obtain ⟨b1, h2, hf⟩ := zz_bind hf
  refine zz_cutI (P := b1 = true) 49 [(0, .ref (ad 47)), (1, .int file_), (2, .int line_), (3, .int added_), (4, .int taken_)] [] (zz_wm U ad ρ (zz_u σ 47 0 (0 : Int32)) X) (fun g5 => ?_) (fun J3 => ?_)
  · rw [if_pos g5] at hf
    refine zz_aload_n C 0 dX8_addPiece_49 rfl rfl ?_
    refine zz_iconst (v := (1 : Int32)) C dX8_addPiece_50 (by decide) ?_
    obtain ⟨x18, h19, hf⟩ := zz_bind hf
    refine zz_callV1 (As := [.int (1 : Int32)]) (rest := []) C 47 (mX8_no (zz_u σ 47 0 (0 : Int32)) (1 : Int32) x18 h19) dX8_addPiece_51 rfl rfl rfl zw_147 zy_X8_no rfl (by decide) (by decide) (Nat.le_of_ble_eq_true rfl) (Nat.le_of_ble_eq_true rfl) (Nat.le_of_ble_eq_true rfl) rfl ?_
    cases hf
    exact zz_iret C dX8_addPiece_54 (And.intro rfl rfl) (Nat.le_of_ble_eq_true rfl) (Nat.le_of_ble_eq_true rfl)
  refine zz_cutI (P := b1 = false) 55 [(0, .ref (ad 47)), (1, .int file_), (2, .int line_), (3, .int added_), (4, .int taken_)] [] (zz_wm U ad ρ (zz_u σ 47 0 (0 : Int32)) X) (fun g5 => ?_) (fun J4 => ?_)
  · rw [if_neg (show ¬ b1 = true by rw [g5]; decide)] at hf
    refine zz_aload_n C 0 dX8_addPiece_55 rfl rfl ?_
    refine zf8_pieces C dX8_addPiece_56 zw_148 ?_
    refine zz_bipush (v := (14 : Int32)) C dX8_addPiece_59 (by decide) ?_
    refine zz_icmp_ne (tgt := 70) C dX8_addPiece_61 (by decide) (fun g20 => ?_) (fun g20 => ?_)
    · rw [if_neg g20] at hf
      refine zz_iconst (v := (4 : Int32)) C dX8_addPiece_70 (by decide) ?_
      refine zz_aload_n C 0 dX8_addPiece_71 rfl rfl ?_
      refine zf8_pieces C dX8_addPiece_72 zw_148 ?_
      refine zz_imul C dX8_addPiece_75 ?_
      obtain ⟨x21, h22, hf⟩ := zz_bind hf
      refine zz_topi (Option.some.inj h22) ?_
      refine zz_istore C dX8_addPiece_76 (by decide) (lv' := [(5, .int x21), (0, .ref (ad 47)), (1, .int file_), (2, .int line_), (3, .int added_), (4, .int taken_)]) rfl ?_
      refine zz_aload_n C 1 dX8_addPiece_78 rfl rfl ?_
      refine zf8_places C dX8_addPiece_79 zw_152 ?_
      refine zz_iload C 0 dX8_addPiece_82 rfl ?_
      refine zz_iload_n C 2 dX8_addPiece_84 rfl rfl ?_
      obtain ⟨σ23, h24, hf⟩ := zz_bind hf
      refine zs_48 C dX8_addPiece_85 h24 ?_
      refine zz_aload_n C 1 dX8_addPiece_86 rfl rfl ?_
      refine zf8_places C dX8_addPiece_87 zw_152 ?_
      refine zz_iload C 0 dX8_addPiece_90 rfl ?_
      refine zz_iconst (v := (1 : Int32)) C dX8_addPiece_92 (by decide) ?_
      refine zz_iadd C dX8_addPiece_93 ?_
      refine zz_iload_n C 3 dX8_addPiece_94 rfl rfl ?_
      obtain ⟨σ25, h26, hf⟩ := zz_bind hf
      refine zs_48 C dX8_addPiece_95 h26 ?_
      refine zz_aload_n C 1 dX8_addPiece_96 rfl rfl ?_
      refine zf8_places C dX8_addPiece_97 zw_152 ?_
      refine zz_iload C 0 dX8_addPiece_100 rfl ?_
      refine zz_iconst (v := (2 : Int32)) C dX8_addPiece_102 (by decide) ?_
      refine zz_iadd C dX8_addPiece_103 ?_
      refine zz_iload_n C 4 dX8_addPiece_104 rfl rfl ?_
      obtain ⟨σ27, h28, hf⟩ := zz_bind hf
      refine zs_48 C dX8_addPiece_105 h28 ?_
      refine zz_aload_n C 1 dX8_addPiece_106 rfl rfl ?_
      refine zf8_places C dX8_addPiece_107 zw_152 ?_
      refine zz_iload C 0 dX8_addPiece_110 rfl ?_
      refine zz_iconst (v := (3 : Int32)) C dX8_addPiece_112 (by decide) ?_
      refine zz_iadd C dX8_addPiece_113 ?_
      refine zz_iload C 5 dX8_addPiece_114 rfl ?_
      obtain ⟨σ29, h30, hf⟩ := zz_bind hf
      refine zs_48 C dX8_addPiece_116 h30 ?_
      refine zz_iconst (v := (0 : Int32)) C dX8_addPiece_117 (by decide) ?_
      refine zz_istore C dX8_addPiece_118 (by decide) (lv' := [(6, .int (0 : Int32)), (5, .int x21), (0, .ref (ad 47)), (1, .int file_), (2, .int line_), (3, .int added_), (4, .int taken_)]) rfl ?_
      obtain ⟨q34, h35, hf⟩ := zz_bind hf
      refine zz_sub [2, 3, 4, 5, 6, 1, 0] rfl ?_
      refine mX8_addPiece_L1 C (Nat.le_of_ble_eq_true rfl) (Nat.le_of_ble_eq_true rfl) file_ line_ added_ taken_ x21 1000 (0 : Int32) σ29 q34 h35 ?_
      refine zz_iconst (v := (0 : Int32)) C dX8_addPiece_147 (by decide) ?_
      refine zz_istore C dX8_addPiece_148 (by decide) (lv' := [(6, .int (0 : Int32)), (0, .ref (ad 47)), (1, .int file_), (2, .int line_), (3, .int added_), (4, .int taken_), (5, .int x21)]) rfl ?_
      obtain ⟨q41, h42, hf⟩ := zz_bind hf
      refine zz_sub [1, 2, 3, 4, 5, 6, 0] rfl ?_
      refine mX8_addPiece_L2 C (Nat.le_of_ble_eq_true rfl) (Nat.le_of_ble_eq_true rfl) file_ line_ added_ taken_ x21 1000 (0 : Int32) q34.2 q41 h42 ?_
      refine zz_aload_n C 0 dX8_addPiece_195 rfl rfl ?_
      refine zf8_purposes C dX8_addPiece_196 zw_151 ?_
      refine zz_aload_n C 0 dX8_addPiece_199 rfl rfl ?_
      refine zf8_pieces C dX8_addPiece_200 zw_148 ?_
      refine zz_iconst (v := (0 : Int32)) C dX8_addPiece_203 (by decide) ?_
      obtain ⟨σ43, h44, hf⟩ := zz_bind hf
      refine zs_50 C dX8_addPiece_204 h44 ?_
      refine zz_aload_n C 0 dX8_addPiece_205 rfl rfl ?_
      refine zz_dup C dX8_addPiece_206 rfl ?_
      refine zf8_pieces C dX8_addPiece_207 zw_148 ?_
      refine zz_iconst (v := (1 : Int32)) C dX8_addPiece_210 (by decide) ?_
      refine zz_iadd C dX8_addPiece_211 ?_
      refine zp8_pieces C dX8_addPiece_212 zw_148 ?_
      refine zz_aload_n C 0 dX8_addPiece_215 rfl rfl ?_
      refine zf8_pieces C dX8_addPiece_216 zw_148 ?_
      refine zz_iconst (v := (1 : Int32)) C dX8_addPiece_219 (by decide) ?_
      refine zz_isub C dX8_addPiece_220 ?_
      cases hf
      exact zz_iret C dX8_addPiece_221 (And.intro rfl rfl) (Nat.le_of_ble_eq_true rfl) (Nat.le_of_ble_eq_true rfl)
    · rw [if_pos g20] at hf
      refine zz_aload_n C 0 dX8_addPiece_64 rfl rfl ?_
      refine zz_iconst (v := (2 : Int32)) C dX8_addPiece_65 (by decide) ?_
      obtain ⟨x45, h46, hf⟩ := zz_bind hf
      refine zz_callV1 (As := [.int (2 : Int32)]) (rest := []) C 47 (mX8_no (zz_u σ 47 0 (0 : Int32)) (2 : Int32) x45 h46) dX8_addPiece_66 rfl rfl rfl zw_147 zy_X8_no rfl (by decide) (by decide) (Nat.le_of_ble_eq_true rfl) (Nat.le_of_ble_eq_true rfl) (Nat.le_of_ble_eq_true rfl) rfl ?_
      cases hf
      exact zz_iret C dX8_addPiece_69 (And.intro rfl rfl) (Nat.le_of_ble_eq_true rfl) (Nat.le_of_ble_eq_true rfl)
  refine zz_iload_n C 1 dX8_addPiece_5 rfl rfl ?_
  refine zz_iconst (v := (0 : Int32)) C dX8_addPiece_6 (by decide) ?_
  refine zz_bipush (v := (9 : Int32)) C dX8_addPiece_7 (by decide) ?_
  obtain ⟨x6, h7, h2⟩ := zz_bind h2
  refine zz_callS1 (As := [.int file_, .int (0 : Int32), .int (9 : Int32)]) (rest := []) C (mX8_isIn (zz_u σ 47 0 (0 : Int32)) file_ (0 : Int32) (9 : Int32) x6 h7) dX8_addPiece_9 rfl zw_146 zy_X8_isIn rfl (by decide) (by decide) (Nat.le_of_ble_eq_true rfl) (Nat.le_of_ble_eq_true rfl) (Nat.le_of_ble_eq_true rfl) rfl ?_
  refine zz_if_eq (tgt := 49) C dX8_addPiece_12 (by decide) (fun g8 => ?_) (fun g8 => ?_)
  · rw [if_pos g8] at h2
    cases h2
    exact J3 rfl
  · rw [if_neg g8] at h2
    refine zz_iload_n C 2 dX8_addPiece_15 rfl rfl ?_
    refine zz_iconst (v := (0 : Int32)) C dX8_addPiece_16 (by decide) ?_
    refine zz_sipush (v := (9999 : Int32)) C dX8_addPiece_17 (by decide) ?_
    obtain ⟨x9, h10, h2⟩ := zz_bind h2
    refine zz_callS1 (As := [.int line_, .int (0 : Int32), .int (9999 : Int32)]) (rest := []) C (mX8_isIn (zz_u σ 47 0 (0 : Int32)) line_ (0 : Int32) (9999 : Int32) x9 h10) dX8_addPiece_20 rfl zw_146 zy_X8_isIn rfl (by decide) (by decide) (Nat.le_of_ble_eq_true rfl) (Nat.le_of_ble_eq_true rfl) (Nat.le_of_ble_eq_true rfl) rfl ?_
    refine zz_if_eq (tgt := 49) C dX8_addPiece_23 (by decide) (fun g11 => ?_) (fun g11 => ?_)
    · rw [if_pos g11] at h2
      cases h2
      exact J3 rfl
    · rw [if_neg g11] at h2
      refine zz_iload_n C 3 dX8_addPiece_26 rfl rfl ?_
      refine zz_iconst (v := (0 : Int32)) C dX8_addPiece_27 (by decide) ?_
      refine zz_sipush (v := (999 : Int32)) C dX8_addPiece_28 (by decide) ?_
      obtain ⟨x12, h13, h2⟩ := zz_bind h2
      refine zz_callS1 (As := [.int added_, .int (0 : Int32), .int (999 : Int32)]) (rest := []) C (mX8_isIn (zz_u σ 47 0 (0 : Int32)) added_ (0 : Int32) (999 : Int32) x12 h13) dX8_addPiece_31 rfl zw_146 zy_X8_isIn rfl (by decide) (by decide) (Nat.le_of_ble_eq_true rfl) (Nat.le_of_ble_eq_true rfl) (Nat.le_of_ble_eq_true rfl) rfl ?_
      refine zz_if_eq (tgt := 49) C dX8_addPiece_34 (by decide) (fun g14 => ?_) (fun g14 => ?_)
      · rw [if_pos g14] at h2
        cases h2
        exact J3 rfl
      · rw [if_neg g14] at h2
        refine zz_iload C 4 dX8_addPiece_37 rfl ?_
        refine zz_iconst (v := (0 : Int32)) C dX8_addPiece_39 (by decide) ?_
        refine zz_sipush (v := (999 : Int32)) C dX8_addPiece_40 (by decide) ?_
        obtain ⟨x15, h16, h2⟩ := zz_bind h2
        refine zz_callS1 (As := [.int taken_, .int (0 : Int32), .int (999 : Int32)]) (rest := []) C (mX8_isIn (zz_u σ 47 0 (0 : Int32)) taken_ (0 : Int32) (999 : Int32) x15 h16) dX8_addPiece_43 rfl zw_146 zy_X8_isIn rfl (by decide) (by decide) (Nat.le_of_ble_eq_true rfl) (Nat.le_of_ble_eq_true rfl) (Nat.le_of_ble_eq_true rfl) rfl ?_
        refine zz_if_ne (tgt := 55) C dX8_addPiece_46 (by decide) (fun g17 => ?_) (fun g17 => ?_)
        · rw [if_neg g17] at h2
          cases h2
          exact J4 rfl
        · rw [if_pos g17] at h2
          cases h2
          exact J3 rfl
theorem dX8_isPiece_0 : decode cX8_isPiece 0 = .ok (.iload_n 1, 1) := by decide +kernel
theorem dX8_isPiece_1 : decode cX8_isPiece 1 = .ok (.iconst 0, 1) := by decide +kernel
theorem dX8_isPiece_2 : decode cX8_isPiece 2 = .ok (.aload_n 0, 1) := by decide +kernel
theorem dX8_isPiece_3 : decode cX8_isPiece 3 = .ok (.getfield 66, 3) := by decide +kernel
theorem dX8_isPiece_6 : decode cX8_isPiece 6 = .ok (.iconst 1, 1) := by decide +kernel
theorem dX8_isPiece_7 : decode cX8_isPiece 7 = .ok (.isub, 1) := by decide +kernel
theorem dX8_isPiece_8 : decode cX8_isPiece 8 = .ok (.invokestatic 69, 3) := by decide +kernel
theorem dX8_isPiece_11 : decode cX8_isPiece 11 = .ok (.ireturn, 1) := by decide +kernel
set_option maxHeartbeats 4000000 in
set_option maxRecDepth 100000 in
theorem mX8_isPiece {D : va_G} {U : zz_U} {ad : Nat → Nat} {X : va_W} {ρ : zz_St} (σ : zz_St) (p_ : Int32) (r : Int32) (hf : fX8_isPiece σ p_ = some r) : zz_Met yX8_isPiece (.code yX8_isPiece cX8_isPiece 2 (some .boolean)) 1 0 0 D U [.ref (ad 47), .int p_] (zz_wm U ad ρ σ X) (zz_ok (some (.int r)) (zz_wm U ad ρ σ X)) zz_noth := by
  unfold fX8_isPiece at hf
  refine zz_method RX8 rfl (by decide +kernel) (Nat.le_of_ble_eq_true rfl) ?_
  intro p l e s m args below meth c A _ C
  refine zz_lvs (lv1 := [(0, .ref (ad 47)), (1, .int p_)]) rfl ?_
  refine zz_iload_n C 1 dX8_isPiece_0 rfl rfl ?_
  refine zz_iconst (v := (0 : Int32)) C dX8_isPiece_1 (by decide) ?_
  refine zz_aload_n C 0 dX8_isPiece_2 rfl rfl ?_
  refine zf8_pieces C dX8_isPiece_3 zw_148 ?_
  refine zz_iconst (v := (1 : Int32)) C dX8_isPiece_6 (by decide) ?_
  refine zz_isub C dX8_isPiece_7 ?_
  obtain ⟨x1, h2, hf⟩ := zz_bind hf
  refine zz_callS1 (As := [.int p_, .int (0 : Int32), .int ((σ 47 1) - (1 : Int32))]) (rest := []) C (mX8_isIn σ p_ (0 : Int32) ((σ 47 1) - (1 : Int32)) x1 h2) dX8_isPiece_8 rfl zw_146 zy_X8_isIn rfl (by decide) (by decide) (Nat.le_of_ble_eq_true rfl) (Nat.le_of_ble_eq_true rfl) (Nat.le_of_ble_eq_true rfl) rfl ?_
  obtain ⟨x3, h4, hf⟩ := zz_bind hf
  refine zz_topi (zz_bo_in h4).2 ?_
  cases hf
  exact zz_zret C dX8_isPiece_11 (by rw [← (zz_bo_in h4).2]; exact (zz_bo_in h4).1) (And.intro rfl rfl) (Nat.le_of_ble_eq_true rfl) (Nat.le_of_ble_eq_true rfl)
theorem dX8_isKind_0 : decode cX8_isKind 0 = .ok (.iload_n 0, 1) := by decide +kernel
theorem dX8_isKind_1 : decode cX8_isKind 1 = .ok (.iconst 0, 1) := by decide +kernel
theorem dX8_isKind_2 : decode cX8_isKind 2 = .ok (.iconst 3, 1) := by decide +kernel
theorem dX8_isKind_3 : decode cX8_isKind 3 = .ok (.invokestatic 69, 3) := by decide +kernel
theorem dX8_isKind_6 : decode cX8_isKind 6 = .ok (.ireturn, 1) := by decide +kernel
set_option maxHeartbeats 4000000 in
set_option maxRecDepth 100000 in
theorem mX8_isKind {D : va_G} {U : zz_U} {ad : Nat → Nat} {X : va_W} {ρ : zz_St} (σ : zz_St) (kind_ : Int32) (r : Int32) (hf : fX8_isKind σ kind_ = some r) : zz_Met yX8_isKind (.code yX8_isKind cX8_isKind 1 (some .boolean)) 1 0 0 D U [.int kind_] (zz_wm U ad ρ σ X) (zz_ok (some (.int r)) (zz_wm U ad ρ σ X)) zz_noth := by
  unfold fX8_isKind at hf
  refine zz_method RX8 rfl (by decide +kernel) (Nat.le_of_ble_eq_true rfl) ?_
  intro p l e s m args below meth c A _ C
  refine zz_lvs (lv1 := [(0, .int kind_)]) rfl ?_
  refine zz_iload_n C 0 dX8_isKind_0 rfl rfl ?_
  refine zz_iconst (v := (0 : Int32)) C dX8_isKind_1 (by decide) ?_
  refine zz_iconst (v := (3 : Int32)) C dX8_isKind_2 (by decide) ?_
  obtain ⟨x1, h2, hf⟩ := zz_bind hf
  refine zz_callS1 (As := [.int kind_, .int (0 : Int32), .int (3 : Int32)]) (rest := []) C (mX8_isIn σ kind_ (0 : Int32) (3 : Int32) x1 h2) dX8_isKind_3 rfl zw_146 zy_X8_isIn rfl (by decide) (by decide) (Nat.le_of_ble_eq_true rfl) (Nat.le_of_ble_eq_true rfl) (Nat.le_of_ble_eq_true rfl) rfl ?_
  obtain ⟨x3, h4, hf⟩ := zz_bind hf
  refine zz_topi (zz_bo_in h4).2 ?_
  cases hf
  exact zz_zret C dX8_isKind_6 (by rw [← (zz_bo_in h4).2]; exact (zz_bo_in h4).1) (And.intro rfl rfl) (Nat.le_of_ble_eq_true rfl) (Nat.le_of_ble_eq_true rfl)
theorem dX8_namesOf_0 : decode cX8_namesOf 0 = .ok (.aload_n 0, 1) := by decide +kernel
theorem dX8_namesOf_1 : decode cX8_namesOf 1 = .ok (.getfield 13, 3) := by decide +kernel
theorem dX8_namesOf_4 : decode cX8_namesOf 4 = .ok (.iconst 4, 1) := by decide +kernel
theorem dX8_namesOf_5 : decode cX8_namesOf 5 = .ok (.iload_n 1, 1) := by decide +kernel
theorem dX8_namesOf_6 : decode cX8_namesOf 6 = .ok (.imul, 1) := by decide +kernel
theorem dX8_namesOf_7 : decode cX8_namesOf 7 = .ok (.iload_n 2, 1) := by decide +kernel
theorem dX8_namesOf_8 : decode cX8_namesOf 8 = .ok (.iadd, 1) := by decide +kernel
theorem dX8_namesOf_9 : decode cX8_namesOf 9 = .ok (.iaload, 1) := by decide +kernel
theorem dX8_namesOf_10 : decode cX8_namesOf 10 = .ok (.ireturn, 1) := by decide +kernel
set_option maxHeartbeats 4000000 in
set_option maxRecDepth 100000 in
theorem mX8_namesOf {D : va_G} {U : zz_U} {ad : Nat → Nat} {X : va_W} {ρ : zz_St} (σ : zz_St) (piece_ : Int32) (what_ : Int32) (r : Int32) (hf : fX8_namesOf σ piece_ what_ = some r) : zz_Met yX8_namesOf (.code yX8_namesOf cX8_namesOf 3 (some .int)) 0 0 0 D U [.ref (ad 47), .int piece_, .int what_] (zz_wm U ad ρ σ X) (zz_ok (some (.int r)) (zz_wm U ad ρ σ X)) zz_noth := by
  unfold fX8_namesOf at hf
  refine zz_method RX8 rfl (by decide +kernel) (Nat.le_of_ble_eq_true rfl) ?_
  intro p l e s m args below meth c A _ C
  refine zz_lvs (lv1 := [(0, .ref (ad 47)), (1, .int piece_), (2, .int what_)]) rfl ?_
  refine zz_aload_n C 0 dX8_namesOf_0 rfl rfl ?_
  refine zf8_names C dX8_namesOf_1 zw_149 ?_
  refine zz_iconst (v := (4 : Int32)) C dX8_namesOf_4 (by decide) ?_
  refine zz_iload_n C 1 dX8_namesOf_5 rfl rfl ?_
  refine zz_imul C dX8_namesOf_6 ?_
  refine zz_iload_n C 2 dX8_namesOf_7 rfl rfl ?_
  refine zz_iadd C dX8_namesOf_8 ?_
  obtain ⟨x1, h2, hf⟩ := zz_bind hf
  refine zl_49 C dX8_namesOf_9 h2 ?_
  cases hf
  exact zz_iret C dX8_namesOf_10 (And.intro rfl rfl) (Nat.le_of_ble_eq_true rfl) (Nat.le_of_ble_eq_true rfl)
theorem dX8_setNames_0 : decode cX8_setNames 0 = .ok (.aload_n 0, 1) := by decide +kernel
theorem dX8_setNames_1 : decode cX8_setNames 1 = .ok (.iconst 0, 1) := by decide +kernel
theorem dX8_setNames_2 : decode cX8_setNames 2 = .ok (.putfield 63, 3) := by decide +kernel
theorem dX8_setNames_5 : decode cX8_setNames 5 = .ok (.aload_n 0, 1) := by decide +kernel
theorem dX8_setNames_6 : decode cX8_setNames 6 = .ok (.iload_n 1, 1) := by decide +kernel
theorem dX8_setNames_7 : decode cX8_setNames 7 = .ok (.invokevirtual 77, 3) := by decide +kernel
theorem dX8_setNames_10 : decode cX8_setNames 10 = .ok (.ifCond .eq 10, 3) := by decide +kernel
theorem dX8_setNames_13 : decode cX8_setNames 13 = .ok (.iload_n 2, 1) := by decide +kernel
theorem dX8_setNames_14 : decode cX8_setNames 14 = .ok (.invokestatic 81, 3) := by decide +kernel
theorem dX8_setNames_17 : decode cX8_setNames 17 = .ok (.ifCond .ne 9, 3) := by decide +kernel
theorem dX8_setNames_20 : decode cX8_setNames 20 = .ok (.aload_n 0, 1) := by decide +kernel
theorem dX8_setNames_21 : decode cX8_setNames 21 = .ok (.iconst 1, 1) := by decide +kernel
theorem dX8_setNames_22 : decode cX8_setNames 22 = .ok (.invokevirtual 73, 3) := by decide +kernel
theorem dX8_setNames_25 : decode cX8_setNames 25 = .ok (.ireturn, 1) := by decide +kernel
theorem dX8_setNames_26 : decode cX8_setNames 26 = .ok (.iload_n 3, 1) := by decide +kernel
theorem dX8_setNames_27 : decode cX8_setNames 27 = .ok (.iconst 0, 1) := by decide +kernel
theorem dX8_setNames_28 : decode cX8_setNames 28 = .ok (.ldc 84, 2) := by decide +kernel
theorem dX8_setNames_30 : decode cX8_setNames 30 = .ok (.invokestatic 69, 3) := by decide +kernel
theorem dX8_setNames_33 : decode cX8_setNames 33 = .ok (.ifCond .ne 9, 3) := by decide +kernel
theorem dX8_setNames_36 : decode cX8_setNames 36 = .ok (.aload_n 0, 1) := by decide +kernel
theorem dX8_setNames_37 : decode cX8_setNames 37 = .ok (.iconst 2, 1) := by decide +kernel
theorem dX8_setNames_38 : decode cX8_setNames 38 = .ok (.invokevirtual 73, 3) := by decide +kernel
theorem dX8_setNames_41 : decode cX8_setNames 41 = .ok (.ireturn, 1) := by decide +kernel
theorem dX8_setNames_42 : decode cX8_setNames 42 = .ok (.aload_n 0, 1) := by decide +kernel
theorem dX8_setNames_43 : decode cX8_setNames 43 = .ok (.iload_n 1, 1) := by decide +kernel
theorem dX8_setNames_44 : decode cX8_setNames 44 = .ok (.iload_n 2, 1) := by decide +kernel
theorem dX8_setNames_45 : decode cX8_setNames 45 = .ok (.invokevirtual 85, 3) := by decide +kernel
theorem dX8_setNames_48 : decode cX8_setNames 48 = .ok (.istore 4, 2) := by decide +kernel
theorem dX8_setNames_50 : decode cX8_setNames 50 = .ok (.aload_n 0, 1) := by decide +kernel
theorem dX8_setNames_51 : decode cX8_setNames 51 = .ok (.getfield 13, 3) := by decide +kernel
theorem dX8_setNames_54 : decode cX8_setNames 54 = .ok (.iconst 4, 1) := by decide +kernel
theorem dX8_setNames_55 : decode cX8_setNames 55 = .ok (.iload_n 1, 1) := by decide +kernel
theorem dX8_setNames_56 : decode cX8_setNames 56 = .ok (.imul, 1) := by decide +kernel
theorem dX8_setNames_57 : decode cX8_setNames 57 = .ok (.iload_n 2, 1) := by decide +kernel
theorem dX8_setNames_58 : decode cX8_setNames 58 = .ok (.iadd, 1) := by decide +kernel
theorem dX8_setNames_59 : decode cX8_setNames 59 = .ok (.iload_n 3, 1) := by decide +kernel
theorem dX8_setNames_60 : decode cX8_setNames 60 = .ok (.iastore, 1) := by decide +kernel
theorem dX8_setNames_61 : decode cX8_setNames 61 = .ok (.iload 4, 2) := by decide +kernel
theorem dX8_setNames_63 : decode cX8_setNames 63 = .ok (.ireturn, 1) := by decide +kernel
set_option maxHeartbeats 4000000 in
set_option maxRecDepth 100000 in
theorem mX8_setNames {D : va_G} {U : zz_U} {ad : Nat → Nat} {X : va_W} {ρ : zz_St} (σ : zz_St) (piece_ : Int32) (what_ : Int32) (set_ : Int32) (r : (Int32 × zz_St)) (hf : fX8_setNames σ piece_ what_ set_ = some r) : zz_Met yX8_setNames (.code yX8_setNames cX8_setNames 5 (some .int)) 2 0 0 D U [.ref (ad 47), .int piece_, .int what_, .int set_] (zz_wm U ad ρ σ X) (zz_ok (some (.int r.1)) (zz_wm U ad ρ r.2 X)) zz_noth := by
  unfold fX8_setNames at hf
  refine zz_method RX8 rfl (by decide +kernel) (Nat.le_of_ble_eq_true rfl) ?_
  intro p l e s m args below meth c A _ C
  refine zz_lvs (lv1 := [(0, .ref (ad 47)), (1, .int piece_), (2, .int what_), (3, .int set_)]) rfl ?_
  refine zz_aload_n C 0 dX8_setNames_0 rfl rfl ?_
  refine zz_iconst (v := (0 : Int32)) C dX8_setNames_1 (by decide) ?_
  refine zp8_thrown C dX8_setNames_2 zw_145 ?_
  obtain ⟨b1, h2, hf⟩ := zz_bind hf
  refine zz_cutI (P := b1 = true) 20 [(0, .ref (ad 47)), (1, .int piece_), (2, .int what_), (3, .int set_)] [] (zz_wm U ad ρ (zz_u σ 47 0 (0 : Int32)) X) (fun g5 => ?_) (fun J3 => ?_)
  · rw [if_pos g5] at hf
    refine zz_aload_n C 0 dX8_setNames_20 rfl rfl ?_
    refine zz_iconst (v := (1 : Int32)) C dX8_setNames_21 (by decide) ?_
    obtain ⟨x12, h13, hf⟩ := zz_bind hf
    refine zz_callV1 (As := [.int (1 : Int32)]) (rest := []) C 47 (mX8_no (zz_u σ 47 0 (0 : Int32)) (1 : Int32) x12 h13) dX8_setNames_22 rfl rfl rfl zw_147 zy_X8_no rfl (by decide) (by decide) (Nat.le_of_ble_eq_true rfl) (Nat.le_of_ble_eq_true rfl) (Nat.le_of_ble_eq_true rfl) rfl ?_
    cases hf
    exact zz_iret C dX8_setNames_25 (And.intro rfl rfl) (Nat.le_of_ble_eq_true rfl) (Nat.le_of_ble_eq_true rfl)
  refine zz_cutI (P := b1 = false) 26 [(0, .ref (ad 47)), (1, .int piece_), (2, .int what_), (3, .int set_)] [] (zz_wm U ad ρ (zz_u σ 47 0 (0 : Int32)) X) (fun g5 => ?_) (fun J4 => ?_)
  · rw [if_neg (show ¬ b1 = true by rw [g5]; decide)] at hf
    refine zz_iload_n C 3 dX8_setNames_26 rfl rfl ?_
    refine zz_iconst (v := (0 : Int32)) C dX8_setNames_27 (by decide) ?_
    refine zz_ldc (v := (65535 : Int32)) C dX8_setNames_28 zw_155 ?_
    obtain ⟨x14, h15, hf⟩ := zz_bind hf
    refine zz_callS1 (As := [.int set_, .int (0 : Int32), .int (65535 : Int32)]) (rest := []) C (mX8_isIn (zz_u σ 47 0 (0 : Int32)) set_ (0 : Int32) (65535 : Int32) x14 h15) dX8_setNames_30 rfl zw_146 zy_X8_isIn rfl (by decide) (by decide) (Nat.le_of_ble_eq_true rfl) (Nat.le_of_ble_eq_true rfl) (Nat.le_of_ble_eq_true rfl) rfl ?_
    refine zz_if_ne (tgt := 42) C dX8_setNames_33 (by decide) (fun g16 => ?_) (fun g16 => ?_)
    · rw [if_neg g16] at hf
      refine zz_aload_n C 0 dX8_setNames_42 rfl rfl ?_
      refine zz_iload_n C 1 dX8_setNames_43 rfl rfl ?_
      refine zz_iload_n C 2 dX8_setNames_44 rfl rfl ?_
      obtain ⟨x17, h18, hf⟩ := zz_bind hf
      refine zz_callV1 (As := [.int piece_, .int what_]) (rest := []) C 47 (mX8_namesOf (zz_u σ 47 0 (0 : Int32)) piece_ what_ x17 h18) dX8_setNames_45 rfl rfl rfl zw_156 zy_X8_namesOf rfl (by decide) (by decide) (Nat.le_of_ble_eq_true rfl) (Nat.le_of_ble_eq_true rfl) (Nat.le_of_ble_eq_true rfl) rfl ?_
      refine zz_istore C dX8_setNames_48 (by decide) (lv' := [(4, .int x17), (0, .ref (ad 47)), (1, .int piece_), (2, .int what_), (3, .int set_)]) rfl ?_
      refine zz_aload_n C 1 dX8_setNames_50 rfl rfl ?_
      refine zf8_names C dX8_setNames_51 zw_149 ?_
      refine zz_iconst (v := (4 : Int32)) C dX8_setNames_54 (by decide) ?_
      refine zz_iload_n C 2 dX8_setNames_55 rfl rfl ?_
      refine zz_imul C dX8_setNames_56 ?_
      refine zz_iload_n C 3 dX8_setNames_57 rfl rfl ?_
      refine zz_iadd C dX8_setNames_58 ?_
      refine zz_iload_n C 4 dX8_setNames_59 rfl rfl ?_
      obtain ⟨σ19, h20, hf⟩ := zz_bind hf
      refine zs_49 C dX8_setNames_60 h20 ?_
      refine zz_iload C 0 dX8_setNames_61 rfl ?_
      cases hf
      exact zz_iret C dX8_setNames_63 (And.intro rfl rfl) (Nat.le_of_ble_eq_true rfl) (Nat.le_of_ble_eq_true rfl)
    · rw [if_pos g16] at hf
      refine zz_aload_n C 0 dX8_setNames_36 rfl rfl ?_
      refine zz_iconst (v := (2 : Int32)) C dX8_setNames_37 (by decide) ?_
      obtain ⟨x21, h22, hf⟩ := zz_bind hf
      refine zz_callV1 (As := [.int (2 : Int32)]) (rest := []) C 47 (mX8_no (zz_u σ 47 0 (0 : Int32)) (2 : Int32) x21 h22) dX8_setNames_38 rfl rfl rfl zw_147 zy_X8_no rfl (by decide) (by decide) (Nat.le_of_ble_eq_true rfl) (Nat.le_of_ble_eq_true rfl) (Nat.le_of_ble_eq_true rfl) rfl ?_
      cases hf
      exact zz_iret C dX8_setNames_41 (And.intro rfl rfl) (Nat.le_of_ble_eq_true rfl) (Nat.le_of_ble_eq_true rfl)
  refine zz_aload_n C 0 dX8_setNames_5 rfl rfl ?_
  refine zz_iload_n C 1 dX8_setNames_6 rfl rfl ?_
  obtain ⟨x6, h7, h2⟩ := zz_bind h2
  refine zz_callV1 (As := [.int piece_]) (rest := []) C 47 (mX8_isPiece (zz_u σ 47 0 (0 : Int32)) piece_ x6 h7) dX8_setNames_7 rfl rfl rfl zw_154 zy_X8_isPiece rfl (by decide) (by decide) (Nat.le_of_ble_eq_true rfl) (Nat.le_of_ble_eq_true rfl) (Nat.le_of_ble_eq_true rfl) rfl ?_
  refine zz_if_eq (tgt := 20) C dX8_setNames_10 (by decide) (fun g8 => ?_) (fun g8 => ?_)
  · rw [if_pos g8] at h2
    cases h2
    exact J3 rfl
  · rw [if_neg g8] at h2
    refine zz_iload_n C 2 dX8_setNames_13 rfl rfl ?_
    obtain ⟨x9, h10, h2⟩ := zz_bind h2
    refine zz_callS1 (As := [.int what_]) (rest := []) C (mX8_isKind (zz_u σ 47 0 (0 : Int32)) what_ x9 h10) dX8_setNames_14 rfl zw_153 zy_X8_isKind rfl (by decide) (by decide) (Nat.le_of_ble_eq_true rfl) (Nat.le_of_ble_eq_true rfl) (Nat.le_of_ble_eq_true rfl) rfl ?_
    refine zz_if_ne (tgt := 26) C dX8_setNames_17 (by decide) (fun g11 => ?_) (fun g11 => ?_)
    · rw [if_neg g11] at h2
      cases h2
      exact J4 rfl
    · rw [if_pos g11] at h2
      cases h2
      exact J3 rfl
theorem dX8_names_0 : decode cX8_names 0 = .ok (.aload_n 0, 1) := by decide +kernel
theorem dX8_names_1 : decode cX8_names 1 = .ok (.iconst 0, 1) := by decide +kernel
theorem dX8_names_2 : decode cX8_names 2 = .ok (.putfield 63, 3) := by decide +kernel
theorem dX8_names_5 : decode cX8_names 5 = .ok (.aload_n 0, 1) := by decide +kernel
theorem dX8_names_6 : decode cX8_names 6 = .ok (.iload_n 1, 1) := by decide +kernel
theorem dX8_names_7 : decode cX8_names 7 = .ok (.invokevirtual 77, 3) := by decide +kernel
theorem dX8_names_10 : decode cX8_names 10 = .ok (.ifCond .eq 19, 3) := by decide +kernel
theorem dX8_names_13 : decode cX8_names 13 = .ok (.iload_n 2, 1) := by decide +kernel
theorem dX8_names_14 : decode cX8_names 14 = .ok (.invokestatic 81, 3) := by decide +kernel
theorem dX8_names_17 : decode cX8_names 17 = .ok (.ifCond .eq 12, 3) := by decide +kernel
theorem dX8_names_20 : decode cX8_names 20 = .ok (.aload_n 0, 1) := by decide +kernel
theorem dX8_names_21 : decode cX8_names 21 = .ok (.iload_n 1, 1) := by decide +kernel
theorem dX8_names_22 : decode cX8_names 22 = .ok (.iload_n 2, 1) := by decide +kernel
theorem dX8_names_23 : decode cX8_names 23 = .ok (.invokevirtual 85, 3) := by decide +kernel
theorem dX8_names_26 : decode cX8_names 26 = .ok (.goto 8, 3) := by decide +kernel
theorem dX8_names_29 : decode cX8_names 29 = .ok (.aload_n 0, 1) := by decide +kernel
theorem dX8_names_30 : decode cX8_names 30 = .ok (.iconst 1, 1) := by decide +kernel
theorem dX8_names_31 : decode cX8_names 31 = .ok (.invokevirtual 73, 3) := by decide +kernel
theorem dX8_names_34 : decode cX8_names 34 = .ok (.ireturn, 1) := by decide +kernel
set_option maxHeartbeats 4000000 in
set_option maxRecDepth 100000 in
theorem mX8_names {D : va_G} {U : zz_U} {ad : Nat → Nat} {X : va_W} {ρ : zz_St} (σ : zz_St) (piece_ : Int32) (what_ : Int32) (r : (Int32 × zz_St)) (hf : fX8_names σ piece_ what_ = some r) : zz_Met yX8_names (.code yX8_names cX8_names 3 (some .int)) 2 0 0 D U [.ref (ad 47), .int piece_, .int what_] (zz_wm U ad ρ σ X) (zz_ok (some (.int r.1)) (zz_wm U ad ρ r.2 X)) zz_noth := by
  unfold fX8_names at hf
  refine zz_method RX8 rfl (by decide +kernel) (Nat.le_of_ble_eq_true rfl) ?_
  intro p l e s m args below meth c A _ C
  refine zz_lvs (lv1 := [(0, .ref (ad 47)), (1, .int piece_), (2, .int what_)]) rfl ?_
  refine zz_aload_n C 0 dX8_names_0 rfl rfl ?_
  refine zz_iconst (v := (0 : Int32)) C dX8_names_1 (by decide) ?_
  refine zp8_thrown C dX8_names_2 zw_145 ?_
  obtain ⟨x1, h2, hf⟩ := zz_bind hf
  refine zz_cut 34 [(0, .ref (ad 47)), (1, .int piece_), (2, .int what_)] [.int x1.1] (zz_wm U ad ρ x1.2 X) ?_ (fun J3 => ?_)
  · cases hf
    exact zz_iret C dX8_names_34 (And.intro rfl rfl) (Nat.le_of_ble_eq_true rfl) (Nat.le_of_ble_eq_true rfl)
  obtain ⟨b4, h5, h2⟩ := zz_bind h2
  refine zz_cutI (P := b4 = true) 20 [(0, .ref (ad 47)), (1, .int piece_), (2, .int what_)] [] (zz_wm U ad ρ (zz_u σ 47 0 (0 : Int32)) X) (fun g8 => ?_) (fun J6 => ?_)
  · rw [if_pos g8] at h2
    refine zz_aload_n C 0 dX8_names_20 rfl rfl ?_
    refine zz_iload_n C 1 dX8_names_21 rfl rfl ?_
    refine zz_iload_n C 2 dX8_names_22 rfl rfl ?_
    obtain ⟨x15, h16, h2⟩ := zz_bind h2
    refine zz_callV1 (As := [.int piece_, .int what_]) (rest := []) C 47 (mX8_namesOf (zz_u σ 47 0 (0 : Int32)) piece_ what_ x15 h16) dX8_names_23 rfl rfl rfl zw_156 zy_X8_namesOf rfl (by decide) (by decide) (Nat.le_of_ble_eq_true rfl) (Nat.le_of_ble_eq_true rfl) (Nat.le_of_ble_eq_true rfl) rfl ?_
    refine zz_goto (tgt := 34) C dX8_names_26 (by decide) ?_
    cases h2
    exact J3
  refine zz_cutI (P := b4 = false) 29 [(0, .ref (ad 47)), (1, .int piece_), (2, .int what_)] [] (zz_wm U ad ρ (zz_u σ 47 0 (0 : Int32)) X) (fun g8 => ?_) (fun J7 => ?_)
  · rw [if_neg (show ¬ b4 = true by rw [g8]; decide)] at h2
    refine zz_aload_n C 0 dX8_names_29 rfl rfl ?_
    refine zz_iconst (v := (1 : Int32)) C dX8_names_30 (by decide) ?_
    obtain ⟨x17, h18, h2⟩ := zz_bind h2
    refine zz_callV1 (As := [.int (1 : Int32)]) (rest := []) C 47 (mX8_no (zz_u σ 47 0 (0 : Int32)) (1 : Int32) x17 h18) dX8_names_31 rfl rfl rfl zw_147 zy_X8_no rfl (by decide) (by decide) (Nat.le_of_ble_eq_true rfl) (Nat.le_of_ble_eq_true rfl) (Nat.le_of_ble_eq_true rfl) rfl ?_
    cases h2
    exact J3
  refine zz_aload_n C 0 dX8_names_5 rfl rfl ?_
  refine zz_iload_n C 1 dX8_names_6 rfl rfl ?_
  obtain ⟨x9, h10, h5⟩ := zz_bind h5
  refine zz_callV1 (As := [.int piece_]) (rest := []) C 47 (mX8_isPiece (zz_u σ 47 0 (0 : Int32)) piece_ x9 h10) dX8_names_7 rfl rfl rfl zw_154 zy_X8_isPiece rfl (by decide) (by decide) (Nat.le_of_ble_eq_true rfl) (Nat.le_of_ble_eq_true rfl) (Nat.le_of_ble_eq_true rfl) rfl ?_
  refine zz_if_eq (tgt := 29) C dX8_names_10 (by decide) (fun g11 => ?_) (fun g11 => ?_)
  · rw [if_pos g11] at h5
    cases h5
    exact J7 rfl
  · rw [if_neg g11] at h5
    refine zz_iload_n C 2 dX8_names_13 rfl rfl ?_
    obtain ⟨x12, h13, h5⟩ := zz_bind h5
    refine zz_callS1 (As := [.int what_]) (rest := []) C (mX8_isKind (zz_u σ 47 0 (0 : Int32)) what_ x12 h13) dX8_names_14 rfl zw_153 zy_X8_isKind rfl (by decide) (by decide) (Nat.le_of_ble_eq_true rfl) (Nat.le_of_ble_eq_true rfl) (Nat.le_of_ble_eq_true rfl) rfl ?_
    refine zz_if_eq (tgt := 29) C dX8_names_17 (by decide) (fun g14 => ?_) (fun g14 => ?_)
    · rw [if_pos g14] at h5
      cases h5
      exact J7 rfl
    · rw [if_neg g14] at h5
      cases h5
      exact J6 rfl
theorem dX8_setName_0 : decode cX8_setName 0 = .ok (.aload_n 0, 1) := by decide +kernel
theorem dX8_setName_1 : decode cX8_setName 1 = .ok (.iload_n 1, 1) := by decide +kernel
theorem dX8_setName_2 : decode cX8_setName 2 = .ok (.iconst 0, 1) := by decide +kernel
theorem dX8_setName_3 : decode cX8_setName 3 = .ok (.bipush 15, 2) := by decide +kernel
theorem dX8_setName_5 : decode cX8_setName 5 = .ok (.invokestatic 69, 3) := by decide +kernel
theorem dX8_setName_8 : decode cX8_setName 8 = .ok (.ifCond .ne 7, 3) := by decide +kernel
theorem dX8_setName_11 : decode cX8_setName 11 = .ok (.iconst 1, 1) := by decide +kernel
theorem dX8_setName_12 : decode cX8_setName 12 = .ok (.goto 18, 3) := by decide +kernel
theorem dX8_setName_15 : decode cX8_setName 15 = .ok (.iload_n 3, 1) := by decide +kernel
theorem dX8_setName_16 : decode cX8_setName 16 = .ok (.iconst 0, 1) := by decide +kernel
theorem dX8_setName_17 : decode cX8_setName 17 = .ok (.bipush 9, 2) := by decide +kernel
theorem dX8_setName_19 : decode cX8_setName 19 = .ok (.invokestatic 69, 3) := by decide +kernel
theorem dX8_setName_22 : decode cX8_setName 22 = .ok (.ifCond .ne 7, 3) := by decide +kernel
theorem dX8_setName_25 : decode cX8_setName 25 = .ok (.iconst 2, 1) := by decide +kernel
theorem dX8_setName_26 : decode cX8_setName 26 = .ok (.goto 4, 3) := by decide +kernel
theorem dX8_setName_29 : decode cX8_setName 29 = .ok (.iconst 0, 1) := by decide +kernel
theorem dX8_setName_30 : decode cX8_setName 30 = .ok (.putfield 63, 3) := by decide +kernel
theorem dX8_setName_33 : decode cX8_setName 33 = .ok (.aload_n 0, 1) := by decide +kernel
theorem dX8_setName_34 : decode cX8_setName 34 = .ok (.getfield 63, 3) := by decide +kernel
theorem dX8_setName_37 : decode cX8_setName 37 = .ok (.ifCond .eq 5, 3) := by decide +kernel
theorem dX8_setName_40 : decode cX8_setName 40 = .ok (.iconst 0, 1) := by decide +kernel
theorem dX8_setName_41 : decode cX8_setName 41 = .ok (.ireturn, 1) := by decide +kernel
theorem dX8_setName_42 : decode cX8_setName 42 = .ok (.aload_n 0, 1) := by decide +kernel
theorem dX8_setName_43 : decode cX8_setName 43 = .ok (.getfield 22, 3) := by decide +kernel
theorem dX8_setName_46 : decode cX8_setName 46 = .ok (.iload_n 1, 1) := by decide +kernel
theorem dX8_setName_47 : decode cX8_setName 47 = .ok (.baload, 1) := by decide +kernel
theorem dX8_setName_48 : decode cX8_setName 48 = .ok (.iload_n 2, 1) := by decide +kernel
theorem dX8_setName_49 : decode cX8_setName 49 = .ok (.if_icmp .ne 13, 3) := by decide +kernel
theorem dX8_setName_52 : decode cX8_setName 52 = .ok (.aload_n 0, 1) := by decide +kernel
theorem dX8_setName_53 : decode cX8_setName 53 = .ok (.getfield 26, 3) := by decide +kernel
theorem dX8_setName_56 : decode cX8_setName 56 = .ok (.iload_n 1, 1) := by decide +kernel
theorem dX8_setName_57 : decode cX8_setName 57 = .ok (.iaload, 1) := by decide +kernel
theorem dX8_setName_58 : decode cX8_setName 58 = .ok (.iload_n 3, 1) := by decide +kernel
theorem dX8_setName_59 : decode cX8_setName 59 = .ok (.if_icmp .eq 7, 3) := by decide +kernel
theorem dX8_setName_62 : decode cX8_setName 62 = .ok (.iconst 1, 1) := by decide +kernel
theorem dX8_setName_63 : decode cX8_setName 63 = .ok (.goto 4, 3) := by decide +kernel
theorem dX8_setName_66 : decode cX8_setName 66 = .ok (.iconst 0, 1) := by decide +kernel
theorem dX8_setName_67 : decode cX8_setName 67 = .ok (.istore 4, 2) := by decide +kernel
theorem dX8_setName_69 : decode cX8_setName 69 = .ok (.aload_n 0, 1) := by decide +kernel
theorem dX8_setName_70 : decode cX8_setName 70 = .ok (.getfield 22, 3) := by decide +kernel
theorem dX8_setName_73 : decode cX8_setName 73 = .ok (.iload_n 1, 1) := by decide +kernel
theorem dX8_setName_74 : decode cX8_setName 74 = .ok (.iload_n 2, 1) := by decide +kernel
theorem dX8_setName_75 : decode cX8_setName 75 = .ok (.bastore, 1) := by decide +kernel
theorem dX8_setName_76 : decode cX8_setName 76 = .ok (.aload_n 0, 1) := by decide +kernel
theorem dX8_setName_77 : decode cX8_setName 77 = .ok (.getfield 26, 3) := by decide +kernel
theorem dX8_setName_80 : decode cX8_setName 80 = .ok (.iload_n 1, 1) := by decide +kernel
theorem dX8_setName_81 : decode cX8_setName 81 = .ok (.iload_n 3, 1) := by decide +kernel
theorem dX8_setName_82 : decode cX8_setName 82 = .ok (.iastore, 1) := by decide +kernel
theorem dX8_setName_83 : decode cX8_setName 83 = .ok (.iload 4, 2) := by decide +kernel
theorem dX8_setName_85 : decode cX8_setName 85 = .ok (.ireturn, 1) := by decide +kernel
set_option maxHeartbeats 4000000 in
set_option maxRecDepth 100000 in
theorem mX8_setName {D : va_G} {U : zz_U} {ad : Nat → Nat} {X : va_W} {ρ : zz_St} (σ : zz_St) (name_ : Int32) (isDefined_ : Int32) (uses_ : Int32) (r : (Int32 × zz_St)) (hf : fX8_setName σ name_ isDefined_ uses_ = some r) : zz_Met yX8_setName (.code yX8_setName cX8_setName 5 (some .boolean)) 1 0 0 D U [.ref (ad 47), .int name_, .int isDefined_, .int uses_] (zz_wm U ad ρ σ X) (zz_ok (some (.int r.1)) (zz_wm U ad ρ r.2 X)) zz_noth := by
  unfold fX8_setName at hf
  refine zz_method RX8 rfl (by decide +kernel) (Nat.le_of_ble_eq_true rfl) ?_
  intro p l e s m args below meth c A _ C
  refine zz_lvs (lv1 := [(0, .ref (ad 47)), (1, .int name_), (2, .int isDefined_), (3, .int uses_)]) rfl ?_
  refine zz_aload_n C 0 dX8_setName_0 rfl rfl ?_
  obtain ⟨x1, h2, hf⟩ := zz_bind hf
  refine zz_cut 30 [(0, .ref (ad 47)), (1, .int name_), (2, .int isDefined_), (3, .int uses_)] [.int x1, .ref (ad 47)] (zz_wm U ad ρ σ X) ?_ (fun J3 => ?_)
  · refine zp8_thrown C dX8_setName_30 zw_145 ?_
    refine zz_aload_n C 0 dX8_setName_33 rfl rfl ?_
    refine zf8_thrown C dX8_setName_34 zw_145 ?_
    refine zz_if_eq (tgt := 42) C dX8_setName_37 (by decide) (fun g13 => ?_) (fun g13 => ?_)
    · rw [if_pos g13] at hf
      obtain ⟨b14, h15, hf⟩ := zz_bind hf
      refine zz_cut 67 [(0, .ref (ad 47)), (1, .int name_), (2, .int isDefined_), (3, .int uses_)] [.int (zz_bi b14)] (zz_wm U ad ρ (zz_u σ 47 0 x1) X) ?_ (fun J16 => ?_)
      · obtain ⟨x23, h24, hf⟩ := zz_bind hf
        refine zz_topi (Option.some.inj h24) ?_
        refine zz_istore C dX8_setName_67 (by decide) (lv' := [(4, .int x23), (0, .ref (ad 47)), (1, .int name_), (2, .int isDefined_), (3, .int uses_)]) rfl ?_
        refine zz_aload_n C 1 dX8_setName_69 rfl rfl ?_
        refine zf8_areDefined C dX8_setName_70 zw_158 ?_
        refine zz_iload_n C 2 dX8_setName_73 rfl rfl ?_
        refine zz_iload_n C 3 dX8_setName_74 rfl rfl ?_
        obtain ⟨x27, h28, hf⟩ := zz_bind hf
        obtain ⟨σ25, h26, hf⟩ := zz_bind hf
        refine zz_topi (zz_bo_in h28).2 ?_
        refine zs_52 C dX8_setName_75 (by rw [← (zz_bo_in h28).2]; exact (zz_bo_in h28).1) h26 ?_
        refine zz_aload_n C 1 dX8_setName_76 rfl rfl ?_
        refine zf8_otherUses C dX8_setName_77 zw_157 ?_
        refine zz_iload_n C 2 dX8_setName_80 rfl rfl ?_
        refine zz_iload_n C 4 dX8_setName_81 rfl rfl ?_
        obtain ⟨σ29, h30, hf⟩ := zz_bind hf
        refine zs_53 C dX8_setName_82 h30 ?_
        refine zz_iload C 0 dX8_setName_83 rfl ?_
        obtain ⟨x31, h32, hf⟩ := zz_bind hf
        refine zz_topi (zz_bo_in h32).2 ?_
        cases hf
        exact zz_zret C dX8_setName_85 (by rw [← (zz_bo_in h32).2]; exact (zz_bo_in h32).1) (And.intro rfl rfl) (Nat.le_of_ble_eq_true rfl) (Nat.le_of_ble_eq_true rfl)
      refine zz_aload_n C 0 dX8_setName_42 rfl rfl ?_
      refine zf8_areDefined C dX8_setName_43 zw_158 ?_
      refine zz_iload_n C 1 dX8_setName_46 rfl rfl ?_
      obtain ⟨x17, h18, h15⟩ := zz_bind h15
      refine zl_52 C dX8_setName_47 h18 ?_
      refine zz_iload_n C 2 dX8_setName_48 rfl rfl ?_
      refine zz_icmp_ne (tgt := 62) C dX8_setName_49 (by decide) (fun g19 => ?_) (fun g19 => ?_)
      · rw [if_neg g19] at h15
        refine zz_iconst (v := 1) C dX8_setName_62 (by decide) ?_
        refine zz_goto (tgt := 67) C dX8_setName_63 (by decide) ?_
        cases h15
        exact J16
      · rw [if_pos g19] at h15
        refine zz_aload_n C 0 dX8_setName_52 rfl rfl ?_
        refine zf8_otherUses C dX8_setName_53 zw_157 ?_
        refine zz_iload_n C 1 dX8_setName_56 rfl rfl ?_
        obtain ⟨x20, h21, h15⟩ := zz_bind h15
        refine zl_53 C dX8_setName_57 h21 ?_
        refine zz_iload_n C 3 dX8_setName_58 rfl rfl ?_
        refine zz_icmp_eq (tgt := 66) C dX8_setName_59 (by decide) (fun g22 => ?_) (fun g22 => ?_)
        · rw [if_pos g22] at h15
          refine zz_iconst (v := 0) C dX8_setName_66 (by decide) ?_
          cases h15
          exact J16
        · rw [if_neg g22] at h15
          refine zz_iconst (v := 1) C dX8_setName_62 (by decide) ?_
          refine zz_goto (tgt := 67) C dX8_setName_63 (by decide) ?_
          cases h15
          exact J16
    · rw [if_neg g13] at hf
      refine zz_iconst (v := (0 : Int32)) C dX8_setName_40 (by decide) ?_
      cases hf
      exact zz_zret C dX8_setName_41 (Or.inl rfl) (And.intro rfl rfl) (Nat.le_of_ble_eq_true rfl) (Nat.le_of_ble_eq_true rfl)
  refine zz_iload_n C 1 dX8_setName_1 rfl rfl ?_
  refine zz_iconst (v := (0 : Int32)) C dX8_setName_2 (by decide) ?_
  refine zz_bipush (v := (15 : Int32)) C dX8_setName_3 (by decide) ?_
  obtain ⟨x4, h5, h2⟩ := zz_bind h2
  refine zz_callS1 (As := [.int name_, .int (0 : Int32), .int (15 : Int32)]) (rest := [.ref (ad 47)]) C (mX8_isIn σ name_ (0 : Int32) (15 : Int32) x4 h5) dX8_setName_5 rfl zw_146 zy_X8_isIn rfl (by decide) (by decide) (Nat.le_of_ble_eq_true rfl) (Nat.le_of_ble_eq_true rfl) (Nat.le_of_ble_eq_true rfl) rfl ?_
  refine zz_if_ne (tgt := 15) C dX8_setName_8 (by decide) (fun g6 => ?_) (fun g6 => ?_)
  · rw [if_neg g6] at h2
    obtain ⟨x7, h8, h2⟩ := zz_bind h2
    refine zz_cut 30 [(0, .ref (ad 47)), (1, .int name_), (2, .int isDefined_), (3, .int uses_)] [.int x7, .ref (ad 47)] (zz_wm U ad ρ σ X) ?_ (fun J9 => ?_)
    · cases h2
      exact J3
    refine zz_iload_n C 3 dX8_setName_15 rfl rfl ?_
    refine zz_iconst (v := (0 : Int32)) C dX8_setName_16 (by decide) ?_
    refine zz_bipush (v := (9 : Int32)) C dX8_setName_17 (by decide) ?_
    obtain ⟨x10, h11, h8⟩ := zz_bind h8
    refine zz_callS1 (As := [.int uses_, .int (0 : Int32), .int (9 : Int32)]) (rest := [.ref (ad 47)]) C (mX8_isIn σ uses_ (0 : Int32) (9 : Int32) x10 h11) dX8_setName_19 rfl zw_146 zy_X8_isIn rfl (by decide) (by decide) (Nat.le_of_ble_eq_true rfl) (Nat.le_of_ble_eq_true rfl) (Nat.le_of_ble_eq_true rfl) rfl ?_
    refine zz_if_ne (tgt := 29) C dX8_setName_22 (by decide) (fun g12 => ?_) (fun g12 => ?_)
    · rw [if_neg g12] at h8
      refine zz_iconst (v := (0 : Int32)) C dX8_setName_29 (by decide) ?_
      cases h8
      exact J9
    · rw [if_pos g12] at h8
      refine zz_iconst (v := (2 : Int32)) C dX8_setName_25 (by decide) ?_
      refine zz_goto (tgt := 30) C dX8_setName_26 (by decide) ?_
      cases h8
      exact J9
  · rw [if_pos g6] at h2
    refine zz_iconst (v := (1 : Int32)) C dX8_setName_11 (by decide) ?_
    refine zz_goto (tgt := 30) C dX8_setName_12 (by decide) ?_
    cases h2
    exact J3
theorem dX8_dropPiece_0 : decode cX8_dropPiece 0 = .ok (.aload_n 0, 1) := by decide +kernel
theorem dX8_dropPiece_1 : decode cX8_dropPiece 1 = .ok (.iconst 0, 1) := by decide +kernel
theorem dX8_dropPiece_2 : decode cX8_dropPiece 2 = .ok (.putfield 63, 3) := by decide +kernel
theorem dX8_dropPiece_5 : decode cX8_dropPiece 5 = .ok (.aload_n 0, 1) := by decide +kernel
theorem dX8_dropPiece_6 : decode cX8_dropPiece 6 = .ok (.getfield 66, 3) := by decide +kernel
theorem dX8_dropPiece_9 : decode cX8_dropPiece 9 = .ok (.ifCond .ne 9, 3) := by decide +kernel
theorem dX8_dropPiece_12 : decode cX8_dropPiece 12 = .ok (.aload_n 0, 1) := by decide +kernel
theorem dX8_dropPiece_13 : decode cX8_dropPiece 13 = .ok (.iconst 1, 1) := by decide +kernel
theorem dX8_dropPiece_14 : decode cX8_dropPiece 14 = .ok (.invokevirtual 73, 3) := by decide +kernel
theorem dX8_dropPiece_17 : decode cX8_dropPiece 17 = .ok (.ireturn, 1) := by decide +kernel
theorem dX8_dropPiece_18 : decode cX8_dropPiece 18 = .ok (.aload_n 0, 1) := by decide +kernel
theorem dX8_dropPiece_19 : decode cX8_dropPiece 19 = .ok (.dup, 1) := by decide +kernel
theorem dX8_dropPiece_20 : decode cX8_dropPiece 20 = .ok (.getfield 66, 3) := by decide +kernel
theorem dX8_dropPiece_23 : decode cX8_dropPiece 23 = .ok (.iconst 1, 1) := by decide +kernel
theorem dX8_dropPiece_24 : decode cX8_dropPiece 24 = .ok (.isub, 1) := by decide +kernel
theorem dX8_dropPiece_25 : decode cX8_dropPiece 25 = .ok (.putfield 66, 3) := by decide +kernel
theorem dX8_dropPiece_28 : decode cX8_dropPiece 28 = .ok (.aload_n 0, 1) := by decide +kernel
theorem dX8_dropPiece_29 : decode cX8_dropPiece 29 = .ok (.getfield 66, 3) := by decide +kernel
theorem dX8_dropPiece_32 : decode cX8_dropPiece 32 = .ok (.ireturn, 1) := by decide +kernel
set_option maxHeartbeats 4000000 in
set_option maxRecDepth 100000 in
theorem mX8_dropPiece {D : va_G} {U : zz_U} {ad : Nat → Nat} {X : va_W} {ρ : zz_St} (σ : zz_St) (r : (Int32 × zz_St)) (hf : fX8_dropPiece σ = some r) : zz_Met yX8_dropPiece (.code yX8_dropPiece cX8_dropPiece 1 (some .int)) 1 0 0 D U [.ref (ad 47)] (zz_wm U ad ρ σ X) (zz_ok (some (.int r.1)) (zz_wm U ad ρ r.2 X)) zz_noth := by
  unfold fX8_dropPiece at hf
  refine zz_method RX8 rfl (by decide +kernel) (Nat.le_of_ble_eq_true rfl) ?_
  intro p l e s m args below meth c A _ C
  refine zz_lvs (lv1 := [(0, .ref (ad 47))]) rfl ?_
  refine zz_aload_n C 0 dX8_dropPiece_0 rfl rfl ?_
  refine zz_iconst (v := (0 : Int32)) C dX8_dropPiece_1 (by decide) ?_
  refine zp8_thrown C dX8_dropPiece_2 zw_145 ?_
  refine zz_aload_n C 0 dX8_dropPiece_5 rfl rfl ?_
  refine zf8_pieces C dX8_dropPiece_6 zw_148 ?_
  refine zz_if_ne (tgt := 18) C dX8_dropPiece_9 (by decide) (fun g1 => ?_) (fun g1 => ?_)
  · rw [if_neg g1] at hf
    refine zz_aload_n C 0 dX8_dropPiece_18 rfl rfl ?_
    refine zz_dup C dX8_dropPiece_19 rfl ?_
    refine zf8_pieces C dX8_dropPiece_20 zw_148 ?_
    refine zz_iconst (v := (1 : Int32)) C dX8_dropPiece_23 (by decide) ?_
    refine zz_isub C dX8_dropPiece_24 ?_
    refine zp8_pieces C dX8_dropPiece_25 zw_148 ?_
    refine zz_aload_n C 0 dX8_dropPiece_28 rfl rfl ?_
    refine zf8_pieces C dX8_dropPiece_29 zw_148 ?_
    cases hf
    exact zz_iret C dX8_dropPiece_32 (And.intro rfl rfl) (Nat.le_of_ble_eq_true rfl) (Nat.le_of_ble_eq_true rfl)
  · rw [if_pos g1] at hf
    refine zz_aload_n C 0 dX8_dropPiece_12 rfl rfl ?_
    refine zz_iconst (v := (1 : Int32)) C dX8_dropPiece_13 (by decide) ?_
    obtain ⟨x2, h3, hf⟩ := zz_bind hf
    refine zz_callV1 (As := [.int (1 : Int32)]) (rest := []) C 47 (mX8_no (zz_u σ 47 0 (0 : Int32)) (1 : Int32) x2 h3) dX8_dropPiece_14 rfl rfl rfl zw_147 zy_X8_no rfl (by decide) (by decide) (Nat.le_of_ble_eq_true rfl) (Nat.le_of_ble_eq_true rfl) (Nat.le_of_ble_eq_true rfl) rfl ?_
    cases hf
    exact zz_iret C dX8_dropPiece_17 (And.intro rfl rfl) (Nat.le_of_ble_eq_true rfl) (Nat.le_of_ble_eq_true rfl)
theorem dX8_pieceCount_0 : decode cX8_pieceCount 0 = .ok (.aload_n 0, 1) := by decide +kernel
theorem dX8_pieceCount_1 : decode cX8_pieceCount 1 = .ok (.iconst 0, 1) := by decide +kernel
theorem dX8_pieceCount_2 : decode cX8_pieceCount 2 = .ok (.putfield 63, 3) := by decide +kernel
theorem dX8_pieceCount_5 : decode cX8_pieceCount 5 = .ok (.aload_n 0, 1) := by decide +kernel
theorem dX8_pieceCount_6 : decode cX8_pieceCount 6 = .ok (.getfield 66, 3) := by decide +kernel
theorem dX8_pieceCount_9 : decode cX8_pieceCount 9 = .ok (.ireturn, 1) := by decide +kernel
set_option maxHeartbeats 4000000 in
set_option maxRecDepth 100000 in
theorem mX8_pieceCount {D : va_G} {U : zz_U} {ad : Nat → Nat} {X : va_W} {ρ : zz_St} (σ : zz_St) (r : (Int32 × zz_St)) (hf : fX8_pieceCount σ = some r) : zz_Met yX8_pieceCount (.code yX8_pieceCount cX8_pieceCount 1 (some .int)) 0 0 0 D U [.ref (ad 47)] (zz_wm U ad ρ σ X) (zz_ok (some (.int r.1)) (zz_wm U ad ρ r.2 X)) zz_noth := by
  unfold fX8_pieceCount at hf
  refine zz_method RX8 rfl (by decide +kernel) (Nat.le_of_ble_eq_true rfl) ?_
  intro p l e s m args below meth c A _ C
  refine zz_lvs (lv1 := [(0, .ref (ad 47))]) rfl ?_
  refine zz_aload_n C 0 dX8_pieceCount_0 rfl rfl ?_
  refine zz_iconst (v := (0 : Int32)) C dX8_pieceCount_1 (by decide) ?_
  refine zp8_thrown C dX8_pieceCount_2 zw_145 ?_
  refine zz_aload_n C 0 dX8_pieceCount_5 rfl rfl ?_
  refine zf8_pieces C dX8_pieceCount_6 zw_148 ?_
  cases hf
  exact zz_iret C dX8_pieceCount_9 (And.intro rfl rfl) (Nat.le_of_ble_eq_true rfl) (Nat.le_of_ble_eq_true rfl)
theorem dX8_setWeight_0 : decode cX8_setWeight 0 = .ok (.aload_n 0, 1) := by decide +kernel
theorem dX8_setWeight_1 : decode cX8_setWeight 1 = .ok (.iconst 0, 1) := by decide +kernel
theorem dX8_setWeight_2 : decode cX8_setWeight 2 = .ok (.putfield 63, 3) := by decide +kernel
theorem dX8_setWeight_5 : decode cX8_setWeight 5 = .ok (.iload_n 1, 1) := by decide +kernel
theorem dX8_setWeight_6 : decode cX8_setWeight 6 = .ok (.invokestatic 81, 3) := by decide +kernel
theorem dX8_setWeight_9 : decode cX8_setWeight 9 = .ok (.ifCond .ne 9, 3) := by decide +kernel
theorem dX8_setWeight_12 : decode cX8_setWeight 12 = .ok (.aload_n 0, 1) := by decide +kernel
theorem dX8_setWeight_13 : decode cX8_setWeight 13 = .ok (.iconst 1, 1) := by decide +kernel
theorem dX8_setWeight_14 : decode cX8_setWeight 14 = .ok (.invokevirtual 73, 3) := by decide +kernel
theorem dX8_setWeight_17 : decode cX8_setWeight 17 = .ok (.ireturn, 1) := by decide +kernel
theorem dX8_setWeight_18 : decode cX8_setWeight 18 = .ok (.iload_n 2, 1) := by decide +kernel
theorem dX8_setWeight_19 : decode cX8_setWeight 19 = .ok (.iconst 0, 1) := by decide +kernel
theorem dX8_setWeight_20 : decode cX8_setWeight 20 = .ok (.bipush 50, 2) := by decide +kernel
theorem dX8_setWeight_22 : decode cX8_setWeight 22 = .ok (.invokestatic 69, 3) := by decide +kernel
theorem dX8_setWeight_25 : decode cX8_setWeight 25 = .ok (.ifCond .ne 9, 3) := by decide +kernel
theorem dX8_setWeight_28 : decode cX8_setWeight 28 = .ok (.aload_n 0, 1) := by decide +kernel
theorem dX8_setWeight_29 : decode cX8_setWeight 29 = .ok (.iconst 2, 1) := by decide +kernel
theorem dX8_setWeight_30 : decode cX8_setWeight 30 = .ok (.invokevirtual 73, 3) := by decide +kernel
theorem dX8_setWeight_33 : decode cX8_setWeight 33 = .ok (.ireturn, 1) := by decide +kernel
theorem dX8_setWeight_34 : decode cX8_setWeight 34 = .ok (.aload_n 0, 1) := by decide +kernel
theorem dX8_setWeight_35 : decode cX8_setWeight 35 = .ok (.getfield 29, 3) := by decide +kernel
theorem dX8_setWeight_38 : decode cX8_setWeight 38 = .ok (.iload_n 1, 1) := by decide +kernel
theorem dX8_setWeight_39 : decode cX8_setWeight 39 = .ok (.iaload, 1) := by decide +kernel
theorem dX8_setWeight_40 : decode cX8_setWeight 40 = .ok (.istore_n 3, 1) := by decide +kernel
theorem dX8_setWeight_41 : decode cX8_setWeight 41 = .ok (.aload_n 0, 1) := by decide +kernel
theorem dX8_setWeight_42 : decode cX8_setWeight 42 = .ok (.getfield 29, 3) := by decide +kernel
theorem dX8_setWeight_45 : decode cX8_setWeight 45 = .ok (.iload_n 1, 1) := by decide +kernel
theorem dX8_setWeight_46 : decode cX8_setWeight 46 = .ok (.iload_n 2, 1) := by decide +kernel
theorem dX8_setWeight_47 : decode cX8_setWeight 47 = .ok (.iastore, 1) := by decide +kernel
theorem dX8_setWeight_48 : decode cX8_setWeight 48 = .ok (.iload_n 3, 1) := by decide +kernel
theorem dX8_setWeight_49 : decode cX8_setWeight 49 = .ok (.ireturn, 1) := by decide +kernel
set_option maxHeartbeats 4000000 in
set_option maxRecDepth 100000 in
theorem mX8_setWeight {D : va_G} {U : zz_U} {ad : Nat → Nat} {X : va_W} {ρ : zz_St} (σ : zz_St) (kind_ : Int32) (weight_ : Int32) (r : (Int32 × zz_St)) (hf : fX8_setWeight σ kind_ weight_ = some r) : zz_Met yX8_setWeight (.code yX8_setWeight cX8_setWeight 4 (some .int)) 2 0 0 D U [.ref (ad 47), .int kind_, .int weight_] (zz_wm U ad ρ σ X) (zz_ok (some (.int r.1)) (zz_wm U ad ρ r.2 X)) zz_noth := by
  unfold fX8_setWeight at hf
  refine zz_method RX8 rfl (by decide +kernel) (Nat.le_of_ble_eq_true rfl) ?_
  intro p l e s m args below meth c A _ C
  refine zz_lvs (lv1 := [(0, .ref (ad 47)), (1, .int kind_), (2, .int weight_)]) rfl ?_
  refine zz_aload_n C 0 dX8_setWeight_0 rfl rfl ?_
  refine zz_iconst (v := (0 : Int32)) C dX8_setWeight_1 (by decide) ?_
  refine zp8_thrown C dX8_setWeight_2 zw_145 ?_
  refine zz_iload_n C 1 dX8_setWeight_5 rfl rfl ?_
  obtain ⟨x1, h2, hf⟩ := zz_bind hf
  refine zz_callS1 (As := [.int kind_]) (rest := []) C (mX8_isKind (zz_u σ 47 0 (0 : Int32)) kind_ x1 h2) dX8_setWeight_6 rfl zw_153 zy_X8_isKind rfl (by decide) (by decide) (Nat.le_of_ble_eq_true rfl) (Nat.le_of_ble_eq_true rfl) (Nat.le_of_ble_eq_true rfl) rfl ?_
  refine zz_if_ne (tgt := 18) C dX8_setWeight_9 (by decide) (fun g3 => ?_) (fun g3 => ?_)
  · rw [if_neg g3] at hf
    refine zz_iload_n C 2 dX8_setWeight_18 rfl rfl ?_
    refine zz_iconst (v := (0 : Int32)) C dX8_setWeight_19 (by decide) ?_
    refine zz_bipush (v := (50 : Int32)) C dX8_setWeight_20 (by decide) ?_
    obtain ⟨x4, h5, hf⟩ := zz_bind hf
    refine zz_callS1 (As := [.int weight_, .int (0 : Int32), .int (50 : Int32)]) (rest := []) C (mX8_isIn (zz_u σ 47 0 (0 : Int32)) weight_ (0 : Int32) (50 : Int32) x4 h5) dX8_setWeight_22 rfl zw_146 zy_X8_isIn rfl (by decide) (by decide) (Nat.le_of_ble_eq_true rfl) (Nat.le_of_ble_eq_true rfl) (Nat.le_of_ble_eq_true rfl) rfl ?_
    refine zz_if_ne (tgt := 34) C dX8_setWeight_25 (by decide) (fun g6 => ?_) (fun g6 => ?_)
    · rw [if_neg g6] at hf
      refine zz_aload_n C 0 dX8_setWeight_34 rfl rfl ?_
      refine zf8_weights C dX8_setWeight_35 zw_159 ?_
      refine zz_iload_n C 1 dX8_setWeight_38 rfl rfl ?_
      obtain ⟨x7, h8, hf⟩ := zz_bind hf
      refine zl_54 C dX8_setWeight_39 h8 ?_
      refine zz_istore_n C dX8_setWeight_40 rfl (by decide) (lv' := [(3, .int x7), (0, .ref (ad 47)), (1, .int kind_), (2, .int weight_)]) rfl ?_
      refine zz_aload_n C 1 dX8_setWeight_41 rfl rfl ?_
      refine zf8_weights C dX8_setWeight_42 zw_159 ?_
      refine zz_iload_n C 2 dX8_setWeight_45 rfl rfl ?_
      refine zz_iload_n C 3 dX8_setWeight_46 rfl rfl ?_
      obtain ⟨σ9, h10, hf⟩ := zz_bind hf
      refine zs_54 C dX8_setWeight_47 h10 ?_
      refine zz_iload_n C 0 dX8_setWeight_48 rfl rfl ?_
      cases hf
      exact zz_iret C dX8_setWeight_49 (And.intro rfl rfl) (Nat.le_of_ble_eq_true rfl) (Nat.le_of_ble_eq_true rfl)
    · rw [if_pos g6] at hf
      refine zz_aload_n C 0 dX8_setWeight_28 rfl rfl ?_
      refine zz_iconst (v := (2 : Int32)) C dX8_setWeight_29 (by decide) ?_
      obtain ⟨x11, h12, hf⟩ := zz_bind hf
      refine zz_callV1 (As := [.int (2 : Int32)]) (rest := []) C 47 (mX8_no (zz_u σ 47 0 (0 : Int32)) (2 : Int32) x11 h12) dX8_setWeight_30 rfl rfl rfl zw_147 zy_X8_no rfl (by decide) (by decide) (Nat.le_of_ble_eq_true rfl) (Nat.le_of_ble_eq_true rfl) (Nat.le_of_ble_eq_true rfl) rfl ?_
      cases hf
      exact zz_iret C dX8_setWeight_33 (And.intro rfl rfl) (Nat.le_of_ble_eq_true rfl) (Nat.le_of_ble_eq_true rfl)
  · rw [if_pos g3] at hf
    refine zz_aload_n C 0 dX8_setWeight_12 rfl rfl ?_
    refine zz_iconst (v := (1 : Int32)) C dX8_setWeight_13 (by decide) ?_
    obtain ⟨x13, h14, hf⟩ := zz_bind hf
    refine zz_callV1 (As := [.int (1 : Int32)]) (rest := []) C 47 (mX8_no (zz_u σ 47 0 (0 : Int32)) (1 : Int32) x13 h14) dX8_setWeight_14 rfl rfl rfl zw_147 zy_X8_no rfl (by decide) (by decide) (Nat.le_of_ble_eq_true rfl) (Nat.le_of_ble_eq_true rfl) (Nat.le_of_ble_eq_true rfl) rfl ?_
    cases hf
    exact zz_iret C dX8_setWeight_17 (And.intro rfl rfl) (Nat.le_of_ble_eq_true rfl) (Nat.le_of_ble_eq_true rfl)
theorem dX8_setSpan_0 : decode cX8_setSpan 0 = .ok (.aload_n 0, 1) := by decide +kernel
theorem dX8_setSpan_1 : decode cX8_setSpan 1 = .ok (.iconst 0, 1) := by decide +kernel
theorem dX8_setSpan_2 : decode cX8_setSpan 2 = .ok (.putfield 63, 3) := by decide +kernel
theorem dX8_setSpan_5 : decode cX8_setSpan 5 = .ok (.iload_n 1, 1) := by decide +kernel
theorem dX8_setSpan_6 : decode cX8_setSpan 6 = .ok (.iconst 0, 1) := by decide +kernel
theorem dX8_setSpan_7 : decode cX8_setSpan 7 = .ok (.sipush 999, 3) := by decide +kernel
theorem dX8_setSpan_10 : decode cX8_setSpan 10 = .ok (.invokestatic 69, 3) := by decide +kernel
theorem dX8_setSpan_13 : decode cX8_setSpan 13 = .ok (.ifCond .ne 9, 3) := by decide +kernel
theorem dX8_setSpan_16 : decode cX8_setSpan 16 = .ok (.aload_n 0, 1) := by decide +kernel
theorem dX8_setSpan_17 : decode cX8_setSpan 17 = .ok (.iconst 1, 1) := by decide +kernel
theorem dX8_setSpan_18 : decode cX8_setSpan 18 = .ok (.invokevirtual 73, 3) := by decide +kernel
theorem dX8_setSpan_21 : decode cX8_setSpan 21 = .ok (.ireturn, 1) := by decide +kernel
theorem dX8_setSpan_22 : decode cX8_setSpan 22 = .ok (.aload_n 0, 1) := by decide +kernel
theorem dX8_setSpan_23 : decode cX8_setSpan 23 = .ok (.getfield 32, 3) := by decide +kernel
theorem dX8_setSpan_26 : decode cX8_setSpan 26 = .ok (.istore_n 2, 1) := by decide +kernel
theorem dX8_setSpan_27 : decode cX8_setSpan 27 = .ok (.aload_n 0, 1) := by decide +kernel
theorem dX8_setSpan_28 : decode cX8_setSpan 28 = .ok (.iload_n 1, 1) := by decide +kernel
theorem dX8_setSpan_29 : decode cX8_setSpan 29 = .ok (.putfield 32, 3) := by decide +kernel
theorem dX8_setSpan_32 : decode cX8_setSpan 32 = .ok (.iload_n 2, 1) := by decide +kernel
theorem dX8_setSpan_33 : decode cX8_setSpan 33 = .ok (.ireturn, 1) := by decide +kernel
set_option maxHeartbeats 4000000 in
set_option maxRecDepth 100000 in
theorem mX8_setSpan {D : va_G} {U : zz_U} {ad : Nat → Nat} {X : va_W} {ρ : zz_St} (σ : zz_St) (newSpan_ : Int32) (r : (Int32 × zz_St)) (hf : fX8_setSpan σ newSpan_ = some r) : zz_Met yX8_setSpan (.code yX8_setSpan cX8_setSpan 3 (some .int)) 1 0 0 D U [.ref (ad 47), .int newSpan_] (zz_wm U ad ρ σ X) (zz_ok (some (.int r.1)) (zz_wm U ad ρ r.2 X)) zz_noth := by
  unfold fX8_setSpan at hf
  refine zz_method RX8 rfl (by decide +kernel) (Nat.le_of_ble_eq_true rfl) ?_
  intro p l e s m args below meth c A _ C
  refine zz_lvs (lv1 := [(0, .ref (ad 47)), (1, .int newSpan_)]) rfl ?_
  refine zz_aload_n C 0 dX8_setSpan_0 rfl rfl ?_
  refine zz_iconst (v := (0 : Int32)) C dX8_setSpan_1 (by decide) ?_
  refine zp8_thrown C dX8_setSpan_2 zw_145 ?_
  refine zz_iload_n C 1 dX8_setSpan_5 rfl rfl ?_
  refine zz_iconst (v := (0 : Int32)) C dX8_setSpan_6 (by decide) ?_
  refine zz_sipush (v := (999 : Int32)) C dX8_setSpan_7 (by decide) ?_
  obtain ⟨x1, h2, hf⟩ := zz_bind hf
  refine zz_callS1 (As := [.int newSpan_, .int (0 : Int32), .int (999 : Int32)]) (rest := []) C (mX8_isIn (zz_u σ 47 0 (0 : Int32)) newSpan_ (0 : Int32) (999 : Int32) x1 h2) dX8_setSpan_10 rfl zw_146 zy_X8_isIn rfl (by decide) (by decide) (Nat.le_of_ble_eq_true rfl) (Nat.le_of_ble_eq_true rfl) (Nat.le_of_ble_eq_true rfl) rfl ?_
  refine zz_if_ne (tgt := 22) C dX8_setSpan_13 (by decide) (fun g3 => ?_) (fun g3 => ?_)
  · rw [if_neg g3] at hf
    refine zz_aload_n C 0 dX8_setSpan_22 rfl rfl ?_
    refine zf8_span C dX8_setSpan_23 zw_160 ?_
    obtain ⟨x4, h5, hf⟩ := zz_bind hf
    refine zz_topi (Option.some.inj h5) ?_
    refine zz_istore_n C dX8_setSpan_26 rfl (by decide) (lv' := [(2, .int x4), (0, .ref (ad 47)), (1, .int newSpan_)]) rfl ?_
    refine zz_aload_n C 1 dX8_setSpan_27 rfl rfl ?_
    refine zz_iload_n C 2 dX8_setSpan_28 rfl rfl ?_
    refine zp8_span C dX8_setSpan_29 zw_160 ?_
    refine zz_iload_n C 0 dX8_setSpan_32 rfl rfl ?_
    cases hf
    exact zz_iret C dX8_setSpan_33 (And.intro rfl rfl) (Nat.le_of_ble_eq_true rfl) (Nat.le_of_ble_eq_true rfl)
  · rw [if_pos g3] at hf
    refine zz_aload_n C 0 dX8_setSpan_16 rfl rfl ?_
    refine zz_iconst (v := (1 : Int32)) C dX8_setSpan_17 (by decide) ?_
    obtain ⟨x6, h7, hf⟩ := zz_bind hf
    refine zz_callV1 (As := [.int (1 : Int32)]) (rest := []) C 47 (mX8_no (zz_u σ 47 0 (0 : Int32)) (1 : Int32) x6 h7) dX8_setSpan_18 rfl rfl rfl zw_147 zy_X8_no rfl (by decide) (by decide) (Nat.le_of_ble_eq_true rfl) (Nat.le_of_ble_eq_true rfl) (Nat.le_of_ble_eq_true rfl) rfl ?_
    cases hf
    exact zz_iret C dX8_setSpan_21 (And.intro rfl rfl) (Nat.le_of_ble_eq_true rfl) (Nat.le_of_ble_eq_true rfl)
theorem dX8_arePieces_0 : decode cX8_arePieces 0 = .ok (.aload_n 0, 1) := by decide +kernel
theorem dX8_arePieces_1 : decode cX8_arePieces 1 = .ok (.aload_n 0, 1) := by decide +kernel
theorem dX8_arePieces_2 : decode cX8_arePieces 2 = .ok (.iload_n 1, 1) := by decide +kernel
theorem dX8_arePieces_3 : decode cX8_arePieces 3 = .ok (.invokevirtual 77, 3) := by decide +kernel
theorem dX8_arePieces_6 : decode cX8_arePieces 6 = .ok (.ifCond .eq 11, 3) := by decide +kernel
theorem dX8_arePieces_9 : decode cX8_arePieces 9 = .ok (.aload_n 0, 1) := by decide +kernel
theorem dX8_arePieces_10 : decode cX8_arePieces 10 = .ok (.iload_n 2, 1) := by decide +kernel
theorem dX8_arePieces_11 : decode cX8_arePieces 11 = .ok (.invokevirtual 77, 3) := by decide +kernel
theorem dX8_arePieces_14 : decode cX8_arePieces 14 = .ok (.ifCond .ne 7, 3) := by decide +kernel
theorem dX8_arePieces_17 : decode cX8_arePieces 17 = .ok (.iconst 1, 1) := by decide +kernel
theorem dX8_arePieces_18 : decode cX8_arePieces 18 = .ok (.goto 4, 3) := by decide +kernel
theorem dX8_arePieces_21 : decode cX8_arePieces 21 = .ok (.iconst 0, 1) := by decide +kernel
theorem dX8_arePieces_22 : decode cX8_arePieces 22 = .ok (.putfield 63, 3) := by decide +kernel
theorem dX8_arePieces_25 : decode cX8_arePieces 25 = .ok (.aload_n 0, 1) := by decide +kernel
theorem dX8_arePieces_26 : decode cX8_arePieces 26 = .ok (.getfield 63, 3) := by decide +kernel
theorem dX8_arePieces_29 : decode cX8_arePieces 29 = .ok (.ifCond .ne 7, 3) := by decide +kernel
theorem dX8_arePieces_32 : decode cX8_arePieces 32 = .ok (.iconst 1, 1) := by decide +kernel
theorem dX8_arePieces_33 : decode cX8_arePieces 33 = .ok (.goto 4, 3) := by decide +kernel
theorem dX8_arePieces_36 : decode cX8_arePieces 36 = .ok (.iconst 0, 1) := by decide +kernel
theorem dX8_arePieces_37 : decode cX8_arePieces 37 = .ok (.ireturn, 1) := by decide +kernel
set_option maxHeartbeats 4000000 in
set_option maxRecDepth 100000 in
theorem mX8_arePieces {D : va_G} {U : zz_U} {ad : Nat → Nat} {X : va_W} {ρ : zz_St} (σ : zz_St) (a_ : Int32) (b_ : Int32) (r : (Int32 × zz_St)) (hf : fX8_arePieces σ a_ b_ = some r) : zz_Met yX8_arePieces (.code yX8_arePieces cX8_arePieces 3 (some .boolean)) 2 0 0 D U [.ref (ad 47), .int a_, .int b_] (zz_wm U ad ρ σ X) (zz_ok (some (.int r.1)) (zz_wm U ad ρ r.2 X)) zz_noth := by
  unfold fX8_arePieces at hf
  refine zz_method RX8 rfl (by decide +kernel) (Nat.le_of_ble_eq_true rfl) ?_
  intro p l e s m args below meth c A _ C
  refine zz_lvs (lv1 := [(0, .ref (ad 47)), (1, .int a_), (2, .int b_)]) rfl ?_
  refine zz_aload_n C 0 dX8_arePieces_0 rfl rfl ?_
  obtain ⟨x1, h2, hf⟩ := zz_bind hf
  refine zz_cut 22 [(0, .ref (ad 47)), (1, .int a_), (2, .int b_)] [.int x1, .ref (ad 47)] (zz_wm U ad ρ σ X) ?_ (fun J3 => ?_)
  · refine zp8_thrown C dX8_arePieces_22 zw_145 ?_
    obtain ⟨b15, h16, hf⟩ := zz_bind hf
    refine zz_cut 37 [(0, .ref (ad 47)), (1, .int a_), (2, .int b_)] [.int (zz_bi b15)] (zz_wm U ad ρ (zz_u σ 47 0 x1) X) ?_ (fun J17 => ?_)
    · cases hf
      exact zz_zret C dX8_arePieces_37 (zz_bi01 _) (And.intro rfl rfl) (Nat.le_of_ble_eq_true rfl) (Nat.le_of_ble_eq_true rfl)
    refine zz_aload_n C 0 dX8_arePieces_25 rfl rfl ?_
    refine zf8_thrown C dX8_arePieces_26 zw_145 ?_
    refine zz_if_ne (tgt := 36) C dX8_arePieces_29 (by decide) (fun g18 => ?_) (fun g18 => ?_)
    · rw [if_neg g18] at h16
      refine zz_iconst (v := 0) C dX8_arePieces_36 (by decide) ?_
      cases h16
      exact J17
    · rw [if_pos g18] at h16
      refine zz_iconst (v := 1) C dX8_arePieces_32 (by decide) ?_
      refine zz_goto (tgt := 37) C dX8_arePieces_33 (by decide) ?_
      cases h16
      exact J17
  obtain ⟨b4, h5, h2⟩ := zz_bind h2
  refine zz_cutI (P := b4 = true) 17 [(0, .ref (ad 47)), (1, .int a_), (2, .int b_)] [.ref (ad 47)] (zz_wm U ad ρ σ X) (fun g8 => ?_) (fun J6 => ?_)
  · rw [if_pos g8] at h2
    refine zz_iconst (v := (1 : Int32)) C dX8_arePieces_17 (by decide) ?_
    refine zz_goto (tgt := 22) C dX8_arePieces_18 (by decide) ?_
    cases h2
    exact J3
  refine zz_cutI (P := b4 = false) 21 [(0, .ref (ad 47)), (1, .int a_), (2, .int b_)] [.ref (ad 47)] (zz_wm U ad ρ σ X) (fun g8 => ?_) (fun J7 => ?_)
  · rw [if_neg (show ¬ b4 = true by rw [g8]; decide)] at h2
    refine zz_iconst (v := (0 : Int32)) C dX8_arePieces_21 (by decide) ?_
    cases h2
    exact J3
  refine zz_aload_n C 0 dX8_arePieces_1 rfl rfl ?_
  refine zz_iload_n C 1 dX8_arePieces_2 rfl rfl ?_
  obtain ⟨x9, h10, h5⟩ := zz_bind h5
  refine zz_callV1 (As := [.int a_]) (rest := [.ref (ad 47)]) C 47 (mX8_isPiece σ a_ x9 h10) dX8_arePieces_3 rfl rfl rfl zw_154 zy_X8_isPiece rfl (by decide) (by decide) (Nat.le_of_ble_eq_true rfl) (Nat.le_of_ble_eq_true rfl) (Nat.le_of_ble_eq_true rfl) rfl ?_
  refine zz_if_eq (tgt := 17) C dX8_arePieces_6 (by decide) (fun g11 => ?_) (fun g11 => ?_)
  · rw [if_pos g11] at h5
    cases h5
    exact J6 rfl
  · rw [if_neg g11] at h5
    refine zz_aload_n C 0 dX8_arePieces_9 rfl rfl ?_
    refine zz_iload_n C 2 dX8_arePieces_10 rfl rfl ?_
    obtain ⟨x12, h13, h5⟩ := zz_bind h5
    refine zz_callV1 (As := [.int b_]) (rest := [.ref (ad 47)]) C 47 (mX8_isPiece σ b_ x12 h13) dX8_arePieces_11 rfl rfl rfl zw_154 zy_X8_isPiece rfl (by decide) (by decide) (Nat.le_of_ble_eq_true rfl) (Nat.le_of_ble_eq_true rfl) (Nat.le_of_ble_eq_true rfl) rfl ?_
    refine zz_if_ne (tgt := 21) C dX8_arePieces_14 (by decide) (fun g14 => ?_) (fun g14 => ?_)
    · rw [if_neg g14] at h5
      cases h5
      exact J7 rfl
    · rw [if_pos g14] at h5
      cases h5
      exact J6 rfl
theorem dX8_allNames_0 : decode cX8_allNames 0 = .ok (.iconst 0, 1) := by decide +kernel
theorem dX8_allNames_1 : decode cX8_allNames 1 = .ok (.istore_n 2, 1) := by decide +kernel
theorem dX8_allNames_2 : decode cX8_allNames 2 = .ok (.iconst 0, 1) := by decide +kernel
theorem dX8_allNames_3 : decode cX8_allNames 3 = .ok (.istore_n 3, 1) := by decide +kernel
theorem dX8_allNames_4 : decode cX8_allNames 4 = .ok (.iload_n 3, 1) := by decide +kernel
theorem dX8_allNames_5 : decode cX8_allNames 5 = .ok (.iconst 4, 1) := by decide +kernel
theorem dX8_allNames_6 : decode cX8_allNames 6 = .ok (.if_icmp .ge 18, 3) := by decide +kernel
theorem dX8_allNames_9 : decode cX8_allNames 9 = .ok (.iload_n 2, 1) := by decide +kernel
theorem dX8_allNames_10 : decode cX8_allNames 10 = .ok (.aload_n 0, 1) := by decide +kernel
theorem dX8_allNames_11 : decode cX8_allNames 11 = .ok (.iload_n 1, 1) := by decide +kernel
theorem dX8_allNames_12 : decode cX8_allNames 12 = .ok (.iload_n 3, 1) := by decide +kernel
theorem dX8_allNames_13 : decode cX8_allNames 13 = .ok (.invokevirtual 85, 3) := by decide +kernel
theorem dX8_allNames_16 : decode cX8_allNames 16 = .ok (.ior, 1) := by decide +kernel
theorem dX8_allNames_17 : decode cX8_allNames 17 = .ok (.istore_n 2, 1) := by decide +kernel
theorem dX8_allNames_18 : decode cX8_allNames 18 = .ok (.iinc 3 1, 3) := by decide +kernel
theorem dX8_allNames_21 : decode cX8_allNames 21 = .ok (.goto (-17), 3) := by decide +kernel
theorem dX8_allNames_24 : decode cX8_allNames 24 = .ok (.iload_n 2, 1) := by decide +kernel
theorem dX8_allNames_25 : decode cX8_allNames 25 = .ok (.ireturn, 1) := by decide +kernel
set_option maxHeartbeats 4000000 in
set_option maxRecDepth 100000 in
theorem mX8_allNames_L1 {p : Program} {l : Launch} {e : Env} {R : Room} {s : State} {m : MethodId} {args : Array Value} {below : List Frame} {meth : Method} {c : Code} {Q : State → Prop} {D : va_G} {U : zz_U} {A : Nat → Prop} {cells slots : Nat} {ad : Nat → Nat} {X : va_W} {ρ : zz_St} (C : zz_C p l R s m meth c D U A RX8 cX8_allNames 4 (some .int) [] 1) (hcR : cells ≤ R.cells) (hsR : slots ≤ R.slots) (σ : zz_St) (piece_ : Int32) : ∀ (n : Nat) (set_ : Int32) (what_ : Int32) (q : (Int32 × Int32)), fX8_allNames_L1 σ piece_ n set_ what_ = some q → (zz_Z p l e R s m args below meth c Q D A 4 cells slots (zz_wm U ad ρ σ X) 24 [(0, .ref (ad 47)), (1, .int piece_), (2, .int q.1), (3, .int q.2)] []) → zz_Z p l e R s m args below meth c Q D A 4 cells slots (zz_wm U ad ρ σ X) 4 [(0, .ref (ad 47)), (1, .int piece_), (2, .int set_), (3, .int what_)] [] := by
  intro n
  induction n with
  | zero => intro set_ what_ q hf; rw [fX8_allNames_L1] at hf; cases hf
  | succ n ih =>
    intro set_ what_ q hf kx
    rw [fX8_allNames_L1] at hf
    refine zz_iload_n C 3 dX8_allNames_4 rfl rfl ?_
    refine zz_iconst (v := (4 : Int32)) C dX8_allNames_5 (by decide) ?_
    refine zz_icmp_ge (tgt := 24) C dX8_allNames_6 (by decide) (fun g1 => ?_) (fun g1 => ?_)
    · rw [if_pos g1] at hf
      cases hf
      exact kx
    · rw [if_neg g1] at hf
      refine zz_iload_n C 2 dX8_allNames_9 rfl rfl ?_
      refine zz_aload_n C 0 dX8_allNames_10 rfl rfl ?_
      refine zz_iload_n C 1 dX8_allNames_11 rfl rfl ?_
      refine zz_iload_n C 3 dX8_allNames_12 rfl rfl ?_
      obtain ⟨x2, h3, hf⟩ := zz_bind hf
      refine zz_callV1 (As := [.int piece_, .int what_]) (rest := [.int set_]) C 47 (mX8_namesOf σ piece_ what_ x2 h3) dX8_allNames_13 rfl rfl rfl zw_156 zy_X8_namesOf rfl (by decide) (by decide) (Nat.le_of_ble_eq_true rfl) hcR hsR rfl ?_
      refine zz_ior C dX8_allNames_16 ?_
      obtain ⟨x4, h5, hf⟩ := zz_bind hf
      refine zz_topi (Option.some.inj h5) ?_
      refine zz_istore_n C dX8_allNames_17 rfl (by decide) (lv' := [(2, .int x4), (0, .ref (ad 47)), (1, .int piece_), (3, .int what_)]) rfl ?_
      refine zz_iinc (v := (what_ + (1 : Int32))) C 3 dX8_allNames_18 rfl (by rfl) (by decide) (lv' := [(3, .int (what_ + (1 : Int32))), (2, .int x4), (0, .ref (ad 47)), (1, .int piece_)]) rfl ?_
      refine zz_goto (tgt := 4) C dX8_allNames_21 (by decide) ?_
      refine zz_sub [2, 3, 1, 0] rfl ?_
      exact ih x4 (what_ + (1 : Int32)) _ hf kx
set_option maxHeartbeats 4000000 in
set_option maxRecDepth 100000 in
theorem mX8_allNames {D : va_G} {U : zz_U} {ad : Nat → Nat} {X : va_W} {ρ : zz_St} (σ : zz_St) (piece_ : Int32) (r : Int32) (hf : fX8_allNames σ piece_ = some r) : zz_Met yX8_allNames (.code yX8_allNames cX8_allNames 4 (some .int)) 1 0 0 D U [.ref (ad 47), .int piece_] (zz_wm U ad ρ σ X) (zz_ok (some (.int r)) (zz_wm U ad ρ σ X)) zz_noth := by
  unfold fX8_allNames at hf
  refine zz_method RX8 rfl (by decide +kernel) (Nat.le_of_ble_eq_true rfl) ?_
  intro p l e s m args below meth c A _ C
  refine zz_lvs (lv1 := [(0, .ref (ad 47)), (1, .int piece_)]) rfl ?_
  refine zz_iconst (v := (0 : Int32)) C dX8_allNames_0 (by decide) ?_
  refine zz_istore_n C dX8_allNames_1 rfl (by decide) (lv' := [(2, .int (0 : Int32)), (0, .ref (ad 47)), (1, .int piece_)]) rfl ?_
  refine zz_iconst (v := (0 : Int32)) C dX8_allNames_2 (by decide) ?_
  refine zz_istore_n C dX8_allNames_3 rfl (by decide) (lv' := [(3, .int (0 : Int32)), (2, .int (0 : Int32)), (0, .ref (ad 47)), (1, .int piece_)]) rfl ?_
  obtain ⟨q6, h7, hf⟩ := zz_bind hf
  refine zz_sub [2, 3, 1, 0] rfl ?_
  refine mX8_allNames_L1 C (Nat.le_of_ble_eq_true rfl) (Nat.le_of_ble_eq_true rfl) σ piece_ 1000 (0 : Int32) (0 : Int32) q6 h7 ?_
  refine zz_iload_n C 2 dX8_allNames_24 rfl rfl ?_
  cases hf
  exact zz_iret C dX8_allNames_25 (And.intro rfl rfl) (Nat.le_of_ble_eq_true rfl) (Nat.le_of_ble_eq_true rfl)
theorem dX8_common_0 : decode cX8_common 0 = .ok (.aload_n 0, 1) := by decide +kernel
theorem dX8_common_1 : decode cX8_common 1 = .ok (.iload_n 1, 1) := by decide +kernel
theorem dX8_common_2 : decode cX8_common 2 = .ok (.iload_n 3, 1) := by decide +kernel
theorem dX8_common_3 : decode cX8_common 3 = .ok (.invokevirtual 85, 3) := by decide +kernel
theorem dX8_common_6 : decode cX8_common 6 = .ok (.aload_n 0, 1) := by decide +kernel
theorem dX8_common_7 : decode cX8_common 7 = .ok (.iload_n 2, 1) := by decide +kernel
theorem dX8_common_8 : decode cX8_common 8 = .ok (.iload 4, 2) := by decide +kernel
theorem dX8_common_10 : decode cX8_common 10 = .ok (.invokevirtual 85, 3) := by decide +kernel
theorem dX8_common_13 : decode cX8_common 13 = .ok (.iand, 1) := by decide +kernel
theorem dX8_common_14 : decode cX8_common 14 = .ok (.invokestatic 89, 3) := by decide +kernel
theorem dX8_common_17 : decode cX8_common 17 = .ok (.aload_n 0, 1) := by decide +kernel
theorem dX8_common_18 : decode cX8_common 18 = .ok (.iload_n 2, 1) := by decide +kernel
theorem dX8_common_19 : decode cX8_common 19 = .ok (.iload_n 3, 1) := by decide +kernel
theorem dX8_common_20 : decode cX8_common 20 = .ok (.invokevirtual 85, 3) := by decide +kernel
theorem dX8_common_23 : decode cX8_common 23 = .ok (.aload_n 0, 1) := by decide +kernel
theorem dX8_common_24 : decode cX8_common 24 = .ok (.iload_n 1, 1) := by decide +kernel
theorem dX8_common_25 : decode cX8_common 25 = .ok (.iload 4, 2) := by decide +kernel
theorem dX8_common_27 : decode cX8_common 27 = .ok (.invokevirtual 85, 3) := by decide +kernel
theorem dX8_common_30 : decode cX8_common 30 = .ok (.iand, 1) := by decide +kernel
theorem dX8_common_31 : decode cX8_common 31 = .ok (.invokestatic 89, 3) := by decide +kernel
theorem dX8_common_34 : decode cX8_common 34 = .ok (.iadd, 1) := by decide +kernel
theorem dX8_common_35 : decode cX8_common 35 = .ok (.ireturn, 1) := by decide +kernel
set_option maxHeartbeats 4000000 in
set_option maxRecDepth 100000 in
theorem mX8_common {D : va_G} {U : zz_U} {ad : Nat → Nat} {X : va_W} {ρ : zz_St} (σ : zz_St) (a_ : Int32) (b_ : Int32) (what_ : Int32) (other_ : Int32) (r : Int32) (hf : fX8_common σ a_ b_ what_ other_ = some r) : zz_Met yX8_common (.code yX8_common cX8_common 5 (some .int)) 1 0 0 D U [.ref (ad 47), .int a_, .int b_, .int what_, .int other_] (zz_wm U ad ρ σ X) (zz_ok (some (.int r)) (zz_wm U ad ρ σ X)) zz_noth := by
  unfold fX8_common at hf
  refine zz_method RX8 rfl (by decide +kernel) (Nat.le_of_ble_eq_true rfl) ?_
  intro p l e s m args below meth c A _ C
  refine zz_lvs (lv1 := [(0, .ref (ad 47)), (1, .int a_), (2, .int b_), (3, .int what_), (4, .int other_)]) rfl ?_
  refine zz_aload_n C 0 dX8_common_0 rfl rfl ?_
  refine zz_iload_n C 1 dX8_common_1 rfl rfl ?_
  refine zz_iload_n C 3 dX8_common_2 rfl rfl ?_
  obtain ⟨x1, h2, hf⟩ := zz_bind hf
  refine zz_callV1 (As := [.int a_, .int what_]) (rest := []) C 47 (mX8_namesOf σ a_ what_ x1 h2) dX8_common_3 rfl rfl rfl zw_156 zy_X8_namesOf rfl (by decide) (by decide) (Nat.le_of_ble_eq_true rfl) (Nat.le_of_ble_eq_true rfl) (Nat.le_of_ble_eq_true rfl) rfl ?_
  refine zz_aload_n C 0 dX8_common_6 rfl rfl ?_
  refine zz_iload_n C 2 dX8_common_7 rfl rfl ?_
  refine zz_iload C 4 dX8_common_8 rfl ?_
  obtain ⟨x3, h4, hf⟩ := zz_bind hf
  refine zz_callV1 (As := [.int b_, .int other_]) (rest := [.int x1]) C 47 (mX8_namesOf σ b_ other_ x3 h4) dX8_common_10 rfl rfl rfl zw_156 zy_X8_namesOf rfl (by decide) (by decide) (Nat.le_of_ble_eq_true rfl) (Nat.le_of_ble_eq_true rfl) (Nat.le_of_ble_eq_true rfl) rfl ?_
  refine zz_iand C dX8_common_13 ?_
  obtain ⟨x5, h6, hf⟩ := zz_bind hf
  refine zz_callS1 (As := [.int (x1 &&& x3)]) (rest := []) C (mJ6_bitCount (x1 &&& x3) x5 h6) dX8_common_14 rfl zw_161 zy_J6_bitCount_0f7a4 rfl (by decide) (by decide) (Nat.le_of_ble_eq_true rfl) (Nat.le_of_ble_eq_true rfl) (Nat.le_of_ble_eq_true rfl) rfl ?_
  refine zz_aload_n C 0 dX8_common_17 rfl rfl ?_
  refine zz_iload_n C 2 dX8_common_18 rfl rfl ?_
  refine zz_iload_n C 3 dX8_common_19 rfl rfl ?_
  obtain ⟨x7, h8, hf⟩ := zz_bind hf
  refine zz_callV1 (As := [.int b_, .int what_]) (rest := [.int x5]) C 47 (mX8_namesOf σ b_ what_ x7 h8) dX8_common_20 rfl rfl rfl zw_156 zy_X8_namesOf rfl (by decide) (by decide) (Nat.le_of_ble_eq_true rfl) (Nat.le_of_ble_eq_true rfl) (Nat.le_of_ble_eq_true rfl) rfl ?_
  refine zz_aload_n C 0 dX8_common_23 rfl rfl ?_
  refine zz_iload_n C 1 dX8_common_24 rfl rfl ?_
  refine zz_iload C 4 dX8_common_25 rfl ?_
  obtain ⟨x9, h10, hf⟩ := zz_bind hf
  refine zz_callV1 (As := [.int a_, .int other_]) (rest := [.int x7, .int x5]) C 47 (mX8_namesOf σ a_ other_ x9 h10) dX8_common_27 rfl rfl rfl zw_156 zy_X8_namesOf rfl (by decide) (by decide) (Nat.le_of_ble_eq_true rfl) (Nat.le_of_ble_eq_true rfl) (Nat.le_of_ble_eq_true rfl) rfl ?_
  refine zz_iand C dX8_common_30 ?_
  obtain ⟨x11, h12, hf⟩ := zz_bind hf
  refine zz_callS1 (As := [.int (x7 &&& x9)]) (rest := [.int x5]) C (mJ6_bitCount (x7 &&& x9) x11 h12) dX8_common_31 rfl zw_161 zy_J6_bitCount_0f7a4 rfl (by decide) (by decide) (Nat.le_of_ble_eq_true rfl) (Nat.le_of_ble_eq_true rfl) (Nat.le_of_ble_eq_true rfl) rfl ?_
  refine zz_iadd C dX8_common_34 ?_
  cases hf
  exact zz_iret C dX8_common_35 (And.intro rfl rfl) (Nat.le_of_ble_eq_true rfl) (Nat.le_of_ble_eq_true rfl)
theorem dX8_pointsOf_0 : decode cX8_pointsOf 0 = .ok (.aload_n 0, 1) := by decide +kernel
theorem dX8_pointsOf_1 : decode cX8_pointsOf 1 = .ok (.getfield 29, 3) := by decide +kernel
theorem dX8_pointsOf_4 : decode cX8_pointsOf 4 = .ok (.iload_n 3, 1) := by decide +kernel
theorem dX8_pointsOf_5 : decode cX8_pointsOf 5 = .ok (.iaload, 1) := by decide +kernel
theorem dX8_pointsOf_6 : decode cX8_pointsOf 6 = .ok (.istore 4, 2) := by decide +kernel
theorem dX8_pointsOf_8 : decode cX8_pointsOf 8 = .ok (.iload_n 3, 1) := by decide +kernel
theorem dX8_pointsOf_9 : decode cX8_pointsOf 9 = .ok (.ifCond .ne 60, 3) := by decide +kernel
theorem dX8_pointsOf_12 : decode cX8_pointsOf 12 = .ok (.aload_n 0, 1) := by decide +kernel
theorem dX8_pointsOf_13 : decode cX8_pointsOf 13 = .ok (.getfield 9, 3) := by decide +kernel
theorem dX8_pointsOf_16 : decode cX8_pointsOf 16 = .ok (.iconst 4, 1) := by decide +kernel
theorem dX8_pointsOf_17 : decode cX8_pointsOf 17 = .ok (.iload_n 1, 1) := by decide +kernel
theorem dX8_pointsOf_18 : decode cX8_pointsOf 18 = .ok (.imul, 1) := by decide +kernel
theorem dX8_pointsOf_19 : decode cX8_pointsOf 19 = .ok (.iaload, 1) := by decide +kernel
theorem dX8_pointsOf_20 : decode cX8_pointsOf 20 = .ok (.aload_n 0, 1) := by decide +kernel
theorem dX8_pointsOf_21 : decode cX8_pointsOf 21 = .ok (.getfield 9, 3) := by decide +kernel
theorem dX8_pointsOf_24 : decode cX8_pointsOf 24 = .ok (.iconst 4, 1) := by decide +kernel
theorem dX8_pointsOf_25 : decode cX8_pointsOf 25 = .ok (.iload_n 2, 1) := by decide +kernel
theorem dX8_pointsOf_26 : decode cX8_pointsOf 26 = .ok (.imul, 1) := by decide +kernel
theorem dX8_pointsOf_27 : decode cX8_pointsOf 27 = .ok (.iaload, 1) := by decide +kernel
theorem dX8_pointsOf_28 : decode cX8_pointsOf 28 = .ok (.if_icmp .ne 39, 3) := by decide +kernel
theorem dX8_pointsOf_31 : decode cX8_pointsOf 31 = .ok (.aload_n 0, 1) := by decide +kernel
theorem dX8_pointsOf_32 : decode cX8_pointsOf 32 = .ok (.getfield 9, 3) := by decide +kernel
theorem dX8_pointsOf_35 : decode cX8_pointsOf 35 = .ok (.iconst 4, 1) := by decide +kernel
theorem dX8_pointsOf_36 : decode cX8_pointsOf 36 = .ok (.iload_n 1, 1) := by decide +kernel
theorem dX8_pointsOf_37 : decode cX8_pointsOf 37 = .ok (.imul, 1) := by decide +kernel
theorem dX8_pointsOf_38 : decode cX8_pointsOf 38 = .ok (.iconst 1, 1) := by decide +kernel
theorem dX8_pointsOf_39 : decode cX8_pointsOf 39 = .ok (.iadd, 1) := by decide +kernel
theorem dX8_pointsOf_40 : decode cX8_pointsOf 40 = .ok (.iaload, 1) := by decide +kernel
theorem dX8_pointsOf_41 : decode cX8_pointsOf 41 = .ok (.aload_n 0, 1) := by decide +kernel
theorem dX8_pointsOf_42 : decode cX8_pointsOf 42 = .ok (.getfield 9, 3) := by decide +kernel
theorem dX8_pointsOf_45 : decode cX8_pointsOf 45 = .ok (.iconst 4, 1) := by decide +kernel
theorem dX8_pointsOf_46 : decode cX8_pointsOf 46 = .ok (.iload_n 2, 1) := by decide +kernel
theorem dX8_pointsOf_47 : decode cX8_pointsOf 47 = .ok (.imul, 1) := by decide +kernel
theorem dX8_pointsOf_48 : decode cX8_pointsOf 48 = .ok (.iconst 1, 1) := by decide +kernel
theorem dX8_pointsOf_49 : decode cX8_pointsOf 49 = .ok (.iadd, 1) := by decide +kernel
theorem dX8_pointsOf_50 : decode cX8_pointsOf 50 = .ok (.iaload, 1) := by decide +kernel
theorem dX8_pointsOf_51 : decode cX8_pointsOf 51 = .ok (.isub, 1) := by decide +kernel
theorem dX8_pointsOf_52 : decode cX8_pointsOf 52 = .ok (.invokestatic 94, 3) := by decide +kernel
theorem dX8_pointsOf_55 : decode cX8_pointsOf 55 = .ok (.aload_n 0, 1) := by decide +kernel
theorem dX8_pointsOf_56 : decode cX8_pointsOf 56 = .ok (.getfield 32, 3) := by decide +kernel
theorem dX8_pointsOf_59 : decode cX8_pointsOf 59 = .ok (.if_icmp .gt 8, 3) := by decide +kernel
theorem dX8_pointsOf_62 : decode cX8_pointsOf 62 = .ok (.iload 4, 2) := by decide +kernel
theorem dX8_pointsOf_64 : decode cX8_pointsOf 64 = .ok (.goto 4, 3) := by decide +kernel
theorem dX8_pointsOf_67 : decode cX8_pointsOf 67 = .ok (.iconst 0, 1) := by decide +kernel
theorem dX8_pointsOf_68 : decode cX8_pointsOf 68 = .ok (.ireturn, 1) := by decide +kernel
theorem dX8_pointsOf_69 : decode cX8_pointsOf 69 = .ok (.iload_n 3, 1) := by decide +kernel
theorem dX8_pointsOf_70 : decode cX8_pointsOf 70 = .ok (.iconst 1, 1) := by decide +kernel
theorem dX8_pointsOf_71 : decode cX8_pointsOf 71 = .ok (.if_icmp .ne 15, 3) := by decide +kernel
theorem dX8_pointsOf_74 : decode cX8_pointsOf 74 = .ok (.iload 4, 2) := by decide +kernel
theorem dX8_pointsOf_76 : decode cX8_pointsOf 76 = .ok (.aload_n 0, 1) := by decide +kernel
theorem dX8_pointsOf_77 : decode cX8_pointsOf 77 = .ok (.iload_n 1, 1) := by decide +kernel
theorem dX8_pointsOf_78 : decode cX8_pointsOf 78 = .ok (.iload_n 2, 1) := by decide +kernel
theorem dX8_pointsOf_79 : decode cX8_pointsOf 79 = .ok (.iconst 0, 1) := by decide +kernel
theorem dX8_pointsOf_80 : decode cX8_pointsOf 80 = .ok (.iconst 2, 1) := by decide +kernel
theorem dX8_pointsOf_81 : decode cX8_pointsOf 81 = .ok (.invokevirtual 99, 3) := by decide +kernel
theorem dX8_pointsOf_84 : decode cX8_pointsOf 84 = .ok (.imul, 1) := by decide +kernel
theorem dX8_pointsOf_85 : decode cX8_pointsOf 85 = .ok (.ireturn, 1) := by decide +kernel
theorem dX8_pointsOf_86 : decode cX8_pointsOf 86 = .ok (.iload_n 3, 1) := by decide +kernel
theorem dX8_pointsOf_87 : decode cX8_pointsOf 87 = .ok (.iconst 2, 1) := by decide +kernel
theorem dX8_pointsOf_88 : decode cX8_pointsOf 88 = .ok (.if_icmp .ne 15, 3) := by decide +kernel
theorem dX8_pointsOf_91 : decode cX8_pointsOf 91 = .ok (.iload 4, 2) := by decide +kernel
theorem dX8_pointsOf_93 : decode cX8_pointsOf 93 = .ok (.aload_n 0, 1) := by decide +kernel
theorem dX8_pointsOf_94 : decode cX8_pointsOf 94 = .ok (.iload_n 1, 1) := by decide +kernel
theorem dX8_pointsOf_95 : decode cX8_pointsOf 95 = .ok (.iload_n 2, 1) := by decide +kernel
theorem dX8_pointsOf_96 : decode cX8_pointsOf 96 = .ok (.iconst 1, 1) := by decide +kernel
theorem dX8_pointsOf_97 : decode cX8_pointsOf 97 = .ok (.iconst 0, 1) := by decide +kernel
theorem dX8_pointsOf_98 : decode cX8_pointsOf 98 = .ok (.invokevirtual 99, 3) := by decide +kernel
theorem dX8_pointsOf_101 : decode cX8_pointsOf 101 = .ok (.imul, 1) := by decide +kernel
theorem dX8_pointsOf_102 : decode cX8_pointsOf 102 = .ok (.ireturn, 1) := by decide +kernel
theorem dX8_pointsOf_103 : decode cX8_pointsOf 103 = .ok (.aload_n 0, 1) := by decide +kernel
theorem dX8_pointsOf_104 : decode cX8_pointsOf 104 = .ok (.iload_n 1, 1) := by decide +kernel
theorem dX8_pointsOf_105 : decode cX8_pointsOf 105 = .ok (.invokevirtual 103, 3) := by decide +kernel
theorem dX8_pointsOf_108 : decode cX8_pointsOf 108 = .ok (.aload_n 0, 1) := by decide +kernel
theorem dX8_pointsOf_109 : decode cX8_pointsOf 109 = .ok (.iload_n 2, 1) := by decide +kernel
theorem dX8_pointsOf_110 : decode cX8_pointsOf 110 = .ok (.invokevirtual 103, 3) := by decide +kernel
theorem dX8_pointsOf_113 : decode cX8_pointsOf 113 = .ok (.ior, 1) := by decide +kernel
theorem dX8_pointsOf_114 : decode cX8_pointsOf 114 = .ok (.invokestatic 89, 3) := by decide +kernel
theorem dX8_pointsOf_117 : decode cX8_pointsOf 117 = .ok (.istore 5, 2) := by decide +kernel
theorem dX8_pointsOf_119 : decode cX8_pointsOf 119 = .ok (.iload 5, 2) := by decide +kernel
theorem dX8_pointsOf_121 : decode cX8_pointsOf 121 = .ok (.ifCond .ne 7, 3) := by decide +kernel
theorem dX8_pointsOf_124 : decode cX8_pointsOf 124 = .ok (.iconst 0, 1) := by decide +kernel
theorem dX8_pointsOf_125 : decode cX8_pointsOf 125 = .ok (.goto 23, 3) := by decide +kernel
theorem dX8_pointsOf_128 : decode cX8_pointsOf 128 = .ok (.iload 4, 2) := by decide +kernel
theorem dX8_pointsOf_130 : decode cX8_pointsOf 130 = .ok (.aload_n 0, 1) := by decide +kernel
theorem dX8_pointsOf_131 : decode cX8_pointsOf 131 = .ok (.iload_n 1, 1) := by decide +kernel
theorem dX8_pointsOf_132 : decode cX8_pointsOf 132 = .ok (.invokevirtual 103, 3) := by decide +kernel
theorem dX8_pointsOf_135 : decode cX8_pointsOf 135 = .ok (.aload_n 0, 1) := by decide +kernel
theorem dX8_pointsOf_136 : decode cX8_pointsOf 136 = .ok (.iload_n 2, 1) := by decide +kernel
theorem dX8_pointsOf_137 : decode cX8_pointsOf 137 = .ok (.invokevirtual 103, 3) := by decide +kernel
theorem dX8_pointsOf_140 : decode cX8_pointsOf 140 = .ok (.iand, 1) := by decide +kernel
theorem dX8_pointsOf_141 : decode cX8_pointsOf 141 = .ok (.invokestatic 89, 3) := by decide +kernel
theorem dX8_pointsOf_144 : decode cX8_pointsOf 144 = .ok (.imul, 1) := by decide +kernel
theorem dX8_pointsOf_145 : decode cX8_pointsOf 145 = .ok (.iload 5, 2) := by decide +kernel
theorem dX8_pointsOf_147 : decode cX8_pointsOf 147 = .ok (.idiv, 1) := by decide +kernel
theorem dX8_pointsOf_148 : decode cX8_pointsOf 148 = .ok (.ireturn, 1) := by decide +kernel
set_option maxHeartbeats 4000000 in
set_option maxRecDepth 100000 in
theorem mX8_pointsOf {D : va_G} {U : zz_U} {ad : Nat → Nat} {X : va_W} {ρ : zz_St} (σ : zz_St) (a_ : Int32) (b_ : Int32) (kind_ : Int32) (r : Int32) (hf : fX8_pointsOf σ a_ b_ kind_ = some r) : zz_Met yX8_pointsOf (.code yX8_pointsOf cX8_pointsOf 6 (some .int)) 2 0 0 D U [.ref (ad 47), .int a_, .int b_, .int kind_] (zz_wm U ad ρ σ X) (zz_ok (some (.int r)) (zz_wm U ad ρ σ X)) zz_noth := by
  unfold fX8_pointsOf at hf
  refine zz_method RX8 rfl (by decide +kernel) (Nat.le_of_ble_eq_true rfl) ?_
  intro p l e s m args below meth c A _ C
  refine zz_lvs (lv1 := [(0, .ref (ad 47)), (1, .int a_), (2, .int b_), (3, .int kind_)]) rfl ?_
  refine zz_aload_n C 0 dX8_pointsOf_0 rfl rfl ?_
  refine zf8_weights C dX8_pointsOf_1 zw_159 ?_
  refine zz_iload_n C 3 dX8_pointsOf_4 rfl rfl ?_
  obtain ⟨x1, h2, hf⟩ := zz_bind hf
  refine zl_54 C dX8_pointsOf_5 h2 ?_
  refine zz_istore C dX8_pointsOf_6 (by decide) (lv' := [(4, .int x1), (0, .ref (ad 47)), (1, .int a_), (2, .int b_), (3, .int kind_)]) rfl ?_
  refine zz_iload_n C 4 dX8_pointsOf_8 rfl rfl ?_
  refine zz_if_ne (tgt := 69) C dX8_pointsOf_9 (by decide) (fun g3 => ?_) (fun g3 => ?_)
  · rw [if_neg g3] at hf
    refine zz_iload_n C 4 dX8_pointsOf_69 rfl rfl ?_
    refine zz_iconst (v := (1 : Int32)) C dX8_pointsOf_70 (by decide) ?_
    refine zz_icmp_ne (tgt := 86) C dX8_pointsOf_71 (by decide) (fun g4 => ?_) (fun g4 => ?_)
    · rw [if_neg g4] at hf
      refine zz_iload_n C 4 dX8_pointsOf_86 rfl rfl ?_
      refine zz_iconst (v := (2 : Int32)) C dX8_pointsOf_87 (by decide) ?_
      refine zz_icmp_ne (tgt := 103) C dX8_pointsOf_88 (by decide) (fun g5 => ?_) (fun g5 => ?_)
      · rw [if_neg g5] at hf
        refine zz_aload_n C 1 dX8_pointsOf_103 rfl rfl ?_
        refine zz_iload_n C 2 dX8_pointsOf_104 rfl rfl ?_
        obtain ⟨x6, h7, hf⟩ := zz_bind hf
        refine zz_callV1 (As := [.int a_]) (rest := []) C 47 (mX8_allNames σ a_ x6 h7) dX8_pointsOf_105 rfl rfl rfl zw_162 zy_X8_allNames rfl (by decide) (by decide) (Nat.le_of_ble_eq_true rfl) (Nat.le_of_ble_eq_true rfl) (Nat.le_of_ble_eq_true rfl) rfl ?_
        refine zz_aload_n C 1 dX8_pointsOf_108 rfl rfl ?_
        refine zz_iload_n C 3 dX8_pointsOf_109 rfl rfl ?_
        obtain ⟨x8, h9, hf⟩ := zz_bind hf
        refine zz_callV1 (As := [.int b_]) (rest := [.int x6]) C 47 (mX8_allNames σ b_ x8 h9) dX8_pointsOf_110 rfl rfl rfl zw_162 zy_X8_allNames rfl (by decide) (by decide) (Nat.le_of_ble_eq_true rfl) (Nat.le_of_ble_eq_true rfl) (Nat.le_of_ble_eq_true rfl) rfl ?_
        refine zz_ior C dX8_pointsOf_113 ?_
        obtain ⟨x10, h11, hf⟩ := zz_bind hf
        refine zz_callS1 (As := [.int (x6 ||| x8)]) (rest := []) C (mJ6_bitCount (x6 ||| x8) x10 h11) dX8_pointsOf_114 rfl zw_161 zy_J6_bitCount_0f7a4 rfl (by decide) (by decide) (Nat.le_of_ble_eq_true rfl) (Nat.le_of_ble_eq_true rfl) (Nat.le_of_ble_eq_true rfl) rfl ?_
        refine zz_istore C dX8_pointsOf_117 (by decide) (lv' := [(5, .int x10), (4, .int x1), (0, .ref (ad 47)), (1, .int a_), (2, .int b_), (3, .int kind_)]) rfl ?_
        obtain ⟨x12, h13, hf⟩ := zz_bind hf
        refine zz_cut 148 [(5, .int x10), (4, .int x1), (0, .ref (ad 47)), (1, .int a_), (2, .int b_), (3, .int kind_)] [.int x12] (zz_wm U ad ρ σ X) ?_ (fun J14 => ?_)
        · cases hf
          exact zz_iret C dX8_pointsOf_148 (And.intro rfl rfl) (Nat.le_of_ble_eq_true rfl) (Nat.le_of_ble_eq_true rfl)
        refine zz_iload C 0 dX8_pointsOf_119 rfl ?_
        refine zz_if_ne (tgt := 128) C dX8_pointsOf_121 (by decide) (fun g15 => ?_) (fun g15 => ?_)
        · rw [if_neg g15] at h13
          refine zz_iload C 1 dX8_pointsOf_128 rfl ?_
          refine zz_aload_n C 2 dX8_pointsOf_130 rfl rfl ?_
          refine zz_iload_n C 3 dX8_pointsOf_131 rfl rfl ?_
          obtain ⟨x16, h17, h13⟩ := zz_bind h13
          refine zz_callV1 (As := [.int a_]) (rest := [.int x1]) C 47 (mX8_allNames σ a_ x16 h17) dX8_pointsOf_132 rfl rfl rfl zw_162 zy_X8_allNames rfl (by decide) (by decide) (Nat.le_of_ble_eq_true rfl) (Nat.le_of_ble_eq_true rfl) (Nat.le_of_ble_eq_true rfl) rfl ?_
          refine zz_aload_n C 2 dX8_pointsOf_135 rfl rfl ?_
          refine zz_iload_n C 4 dX8_pointsOf_136 rfl rfl ?_
          obtain ⟨x18, h19, h13⟩ := zz_bind h13
          refine zz_callV1 (As := [.int b_]) (rest := [.int x16, .int x1]) C 47 (mX8_allNames σ b_ x18 h19) dX8_pointsOf_137 rfl rfl rfl zw_162 zy_X8_allNames rfl (by decide) (by decide) (Nat.le_of_ble_eq_true rfl) (Nat.le_of_ble_eq_true rfl) (Nat.le_of_ble_eq_true rfl) rfl ?_
          refine zz_iand C dX8_pointsOf_140 ?_
          obtain ⟨x20, h21, h13⟩ := zz_bind h13
          refine zz_callS1 (As := [.int (x16 &&& x18)]) (rest := [.int x1]) C (mJ6_bitCount (x16 &&& x18) x20 h21) dX8_pointsOf_141 rfl zw_161 zy_J6_bitCount_0f7a4 rfl (by decide) (by decide) (Nat.le_of_ble_eq_true rfl) (Nat.le_of_ble_eq_true rfl) (Nat.le_of_ble_eq_true rfl) rfl ?_
          refine zz_imul C dX8_pointsOf_144 ?_
          refine zz_iload C 0 dX8_pointsOf_145 rfl ?_
          obtain ⟨x22, h23, h13⟩ := zz_bind h13
          refine zz_idiv C dX8_pointsOf_147 (zz_dv_in h23).1 ?_
          refine zz_topi (zz_dv_in h23).2 ?_
          cases h13
          exact J14
        · rw [if_pos g15] at h13
          refine zz_iconst (v := (0 : Int32)) C dX8_pointsOf_124 (by decide) ?_
          refine zz_goto (tgt := 148) C dX8_pointsOf_125 (by decide) ?_
          cases h13
          exact J14
      · rw [if_pos g5] at hf
        refine zz_iload C 0 dX8_pointsOf_91 rfl ?_
        refine zz_aload_n C 1 dX8_pointsOf_93 rfl rfl ?_
        refine zz_iload_n C 2 dX8_pointsOf_94 rfl rfl ?_
        refine zz_iload_n C 3 dX8_pointsOf_95 rfl rfl ?_
        refine zz_iconst (v := (1 : Int32)) C dX8_pointsOf_96 (by decide) ?_
        refine zz_iconst (v := (0 : Int32)) C dX8_pointsOf_97 (by decide) ?_
        obtain ⟨x24, h25, hf⟩ := zz_bind hf
        refine zz_callV1 (As := [.int a_, .int b_, .int (1 : Int32), .int (0 : Int32)]) (rest := [.int x1]) C 47 (mX8_common σ a_ b_ (1 : Int32) (0 : Int32) x24 h25) dX8_pointsOf_98 rfl rfl rfl zw_163 zy_X8_common rfl (by decide) (by decide) (Nat.le_of_ble_eq_true rfl) (Nat.le_of_ble_eq_true rfl) (Nat.le_of_ble_eq_true rfl) rfl ?_
        refine zz_imul C dX8_pointsOf_101 ?_
        cases hf
        exact zz_iret C dX8_pointsOf_102 (And.intro rfl rfl) (Nat.le_of_ble_eq_true rfl) (Nat.le_of_ble_eq_true rfl)
    · rw [if_pos g4] at hf
      refine zz_iload C 0 dX8_pointsOf_74 rfl ?_
      refine zz_aload_n C 1 dX8_pointsOf_76 rfl rfl ?_
      refine zz_iload_n C 2 dX8_pointsOf_77 rfl rfl ?_
      refine zz_iload_n C 3 dX8_pointsOf_78 rfl rfl ?_
      refine zz_iconst (v := (0 : Int32)) C dX8_pointsOf_79 (by decide) ?_
      refine zz_iconst (v := (2 : Int32)) C dX8_pointsOf_80 (by decide) ?_
      obtain ⟨x26, h27, hf⟩ := zz_bind hf
      refine zz_callV1 (As := [.int a_, .int b_, .int (0 : Int32), .int (2 : Int32)]) (rest := [.int x1]) C 47 (mX8_common σ a_ b_ (0 : Int32) (2 : Int32) x26 h27) dX8_pointsOf_81 rfl rfl rfl zw_163 zy_X8_common rfl (by decide) (by decide) (Nat.le_of_ble_eq_true rfl) (Nat.le_of_ble_eq_true rfl) (Nat.le_of_ble_eq_true rfl) rfl ?_
      refine zz_imul C dX8_pointsOf_84 ?_
      cases hf
      exact zz_iret C dX8_pointsOf_85 (And.intro rfl rfl) (Nat.le_of_ble_eq_true rfl) (Nat.le_of_ble_eq_true rfl)
  · rw [if_pos g3] at hf
    obtain ⟨x28, h29, hf⟩ := zz_bind hf
    refine zz_cut 68 [(4, .int x1), (0, .ref (ad 47)), (1, .int a_), (2, .int b_), (3, .int kind_)] [.int x28] (zz_wm U ad ρ σ X) ?_ (fun J30 => ?_)
    · cases hf
      exact zz_iret C dX8_pointsOf_68 (And.intro rfl rfl) (Nat.le_of_ble_eq_true rfl) (Nat.le_of_ble_eq_true rfl)
    obtain ⟨b31, h32, h29⟩ := zz_bind h29
    refine zz_cutI (P := b31 = true) 62 [(4, .int x1), (0, .ref (ad 47)), (1, .int a_), (2, .int b_), (3, .int kind_)] [] (zz_wm U ad ρ σ X) (fun g35 => ?_) (fun J33 => ?_)
    · rw [if_pos g35] at h29
      refine zz_iload C 0 dX8_pointsOf_62 rfl ?_
      refine zz_goto (tgt := 68) C dX8_pointsOf_64 (by decide) ?_
      cases h29
      exact J30
    refine zz_cutI (P := b31 = false) 67 [(4, .int x1), (0, .ref (ad 47)), (1, .int a_), (2, .int b_), (3, .int kind_)] [] (zz_wm U ad ρ σ X) (fun g35 => ?_) (fun J34 => ?_)
    · rw [if_neg (show ¬ b31 = true by rw [g35]; decide)] at h29
      refine zz_iconst (v := (0 : Int32)) C dX8_pointsOf_67 (by decide) ?_
      cases h29
      exact J30
    refine zz_aload_n C 1 dX8_pointsOf_12 rfl rfl ?_
    refine zf8_places C dX8_pointsOf_13 zw_152 ?_
    refine zz_iconst (v := (4 : Int32)) C dX8_pointsOf_16 (by decide) ?_
    refine zz_iload_n C 2 dX8_pointsOf_17 rfl rfl ?_
    refine zz_imul C dX8_pointsOf_18 ?_
    obtain ⟨x36, h37, h32⟩ := zz_bind h32
    refine zl_48 C dX8_pointsOf_19 h37 ?_
    refine zz_aload_n C 1 dX8_pointsOf_20 rfl rfl ?_
    refine zf8_places C dX8_pointsOf_21 zw_152 ?_
    refine zz_iconst (v := (4 : Int32)) C dX8_pointsOf_24 (by decide) ?_
    refine zz_iload_n C 3 dX8_pointsOf_25 rfl rfl ?_
    refine zz_imul C dX8_pointsOf_26 ?_
    obtain ⟨x38, h39, h32⟩ := zz_bind h32
    refine zl_48 C dX8_pointsOf_27 h39 ?_
    refine zz_icmp_ne (tgt := 67) C dX8_pointsOf_28 (by decide) (fun g40 => ?_) (fun g40 => ?_)
    · rw [if_neg g40] at h32
      cases h32
      exact J34 rfl
    · rw [if_pos g40] at h32
      refine zz_aload_n C 1 dX8_pointsOf_31 rfl rfl ?_
      refine zf8_places C dX8_pointsOf_32 zw_152 ?_
      refine zz_iconst (v := (4 : Int32)) C dX8_pointsOf_35 (by decide) ?_
      refine zz_iload_n C 2 dX8_pointsOf_36 rfl rfl ?_
      refine zz_imul C dX8_pointsOf_37 ?_
      refine zz_iconst (v := (1 : Int32)) C dX8_pointsOf_38 (by decide) ?_
      refine zz_iadd C dX8_pointsOf_39 ?_
      obtain ⟨x41, h42, h32⟩ := zz_bind h32
      refine zl_48 C dX8_pointsOf_40 h42 ?_
      refine zz_aload_n C 1 dX8_pointsOf_41 rfl rfl ?_
      refine zf8_places C dX8_pointsOf_42 zw_152 ?_
      refine zz_iconst (v := (4 : Int32)) C dX8_pointsOf_45 (by decide) ?_
      refine zz_iload_n C 3 dX8_pointsOf_46 rfl rfl ?_
      refine zz_imul C dX8_pointsOf_47 ?_
      refine zz_iconst (v := (1 : Int32)) C dX8_pointsOf_48 (by decide) ?_
      refine zz_iadd C dX8_pointsOf_49 ?_
      obtain ⟨x43, h44, h32⟩ := zz_bind h32
      refine zl_48 C dX8_pointsOf_50 h44 ?_
      refine zz_isub C dX8_pointsOf_51 ?_
      refine zz_mabs (y := 0) C dX8_pointsOf_52 zw_164 zm_abs_1 zm_abs_2 zm_abs_3 (by decide) (Nat.le_of_ble_eq_true rfl) (Nat.le_of_ble_eq_true rfl) (Nat.le_of_ble_eq_true rfl) ?_
      refine zz_aload_n C 1 dX8_pointsOf_55 rfl rfl ?_
      refine zf8_span C dX8_pointsOf_56 zw_160 ?_
      refine zz_icmp_gt (tgt := 67) C dX8_pointsOf_59 (by decide) (fun g45 => ?_) (fun g45 => ?_)
      · rw [if_pos g45] at h32
        cases h32
        exact J34 rfl
      · rw [if_neg g45] at h32
        cases h32
        exact J33 rfl
theorem dX8_points_0 : decode cX8_points 0 = .ok (.aload_n 0, 1) := by decide +kernel
theorem dX8_points_1 : decode cX8_points 1 = .ok (.iload_n 1, 1) := by decide +kernel
theorem dX8_points_2 : decode cX8_points 2 = .ok (.iload_n 2, 1) := by decide +kernel
theorem dX8_points_3 : decode cX8_points 3 = .ok (.invokevirtual 110, 3) := by decide +kernel
theorem dX8_points_6 : decode cX8_points 6 = .ok (.ifCond .ne 5, 3) := by decide +kernel
theorem dX8_points_9 : decode cX8_points 9 = .ok (.iconst 0, 1) := by decide +kernel
theorem dX8_points_10 : decode cX8_points 10 = .ok (.ireturn, 1) := by decide +kernel
theorem dX8_points_11 : decode cX8_points 11 = .ok (.iload_n 3, 1) := by decide +kernel
theorem dX8_points_12 : decode cX8_points 12 = .ok (.invokestatic 81, 3) := by decide +kernel
theorem dX8_points_15 : decode cX8_points 15 = .ok (.ifCond .ne 9, 3) := by decide +kernel
theorem dX8_points_18 : decode cX8_points 18 = .ok (.aload_n 0, 1) := by decide +kernel
theorem dX8_points_19 : decode cX8_points 19 = .ok (.iconst 1, 1) := by decide +kernel
theorem dX8_points_20 : decode cX8_points 20 = .ok (.invokevirtual 73, 3) := by decide +kernel
theorem dX8_points_23 : decode cX8_points 23 = .ok (.ireturn, 1) := by decide +kernel
theorem dX8_points_24 : decode cX8_points 24 = .ok (.iload_n 1, 1) := by decide +kernel
theorem dX8_points_25 : decode cX8_points 25 = .ok (.iload_n 2, 1) := by decide +kernel
theorem dX8_points_26 : decode cX8_points 26 = .ok (.if_icmp .ne 11, 3) := by decide +kernel
theorem dX8_points_29 : decode cX8_points 29 = .ok (.aload_n 0, 1) := by decide +kernel
theorem dX8_points_30 : decode cX8_points 30 = .ok (.iconst 2, 1) := by decide +kernel
theorem dX8_points_31 : decode cX8_points 31 = .ok (.invokevirtual 73, 3) := by decide +kernel
theorem dX8_points_34 : decode cX8_points 34 = .ok (.goto 10, 3) := by decide +kernel
theorem dX8_points_37 : decode cX8_points 37 = .ok (.aload_n 0, 1) := by decide +kernel
theorem dX8_points_38 : decode cX8_points 38 = .ok (.iload_n 1, 1) := by decide +kernel
theorem dX8_points_39 : decode cX8_points 39 = .ok (.iload_n 2, 1) := by decide +kernel
theorem dX8_points_40 : decode cX8_points 40 = .ok (.iload_n 3, 1) := by decide +kernel
theorem dX8_points_41 : decode cX8_points 41 = .ok (.invokevirtual 106, 3) := by decide +kernel
theorem dX8_points_44 : decode cX8_points 44 = .ok (.ireturn, 1) := by decide +kernel
set_option maxHeartbeats 4000000 in
set_option maxRecDepth 100000 in
theorem mX8_points {D : va_G} {U : zz_U} {ad : Nat → Nat} {X : va_W} {ρ : zz_St} (σ : zz_St) (a_ : Int32) (b_ : Int32) (kind_ : Int32) (r : (Int32 × zz_St)) (hf : fX8_points σ a_ b_ kind_ = some r) : zz_Met yX8_points (.code yX8_points cX8_points 4 (some .int)) 3 0 0 D U [.ref (ad 47), .int a_, .int b_, .int kind_] (zz_wm U ad ρ σ X) (zz_ok (some (.int r.1)) (zz_wm U ad ρ r.2 X)) zz_noth := by
  unfold fX8_points at hf
  refine zz_method RX8 rfl (by decide +kernel) (Nat.le_of_ble_eq_true rfl) ?_
  intro p l e s m args below meth c A _ C
  refine zz_lvs (lv1 := [(0, .ref (ad 47)), (1, .int a_), (2, .int b_), (3, .int kind_)]) rfl ?_
  refine zz_aload_n C 0 dX8_points_0 rfl rfl ?_
  refine zz_iload_n C 1 dX8_points_1 rfl rfl ?_
  refine zz_iload_n C 2 dX8_points_2 rfl rfl ?_
  obtain ⟨x1, h2, hf⟩ := zz_bind hf
  refine zz_callV1 (As := [.int a_, .int b_]) (rest := []) C 47 (mX8_arePieces σ a_ b_ x1 h2) dX8_points_3 rfl rfl rfl zw_166 zy_X8_arePieces rfl (by decide) (by decide) (Nat.le_of_ble_eq_true rfl) (Nat.le_of_ble_eq_true rfl) (Nat.le_of_ble_eq_true rfl) rfl ?_
  refine zz_if_ne (tgt := 11) C dX8_points_6 (by decide) (fun g3 => ?_) (fun g3 => ?_)
  · rw [if_neg g3] at hf
    refine zz_iload_n C 3 dX8_points_11 rfl rfl ?_
    obtain ⟨x4, h5, hf⟩ := zz_bind hf
    refine zz_callS1 (As := [.int kind_]) (rest := []) C (mX8_isKind x1.2 kind_ x4 h5) dX8_points_12 rfl zw_153 zy_X8_isKind rfl (by decide) (by decide) (Nat.le_of_ble_eq_true rfl) (Nat.le_of_ble_eq_true rfl) (Nat.le_of_ble_eq_true rfl) rfl ?_
    refine zz_if_ne (tgt := 24) C dX8_points_15 (by decide) (fun g6 => ?_) (fun g6 => ?_)
    · rw [if_neg g6] at hf
      obtain ⟨x7, h8, hf⟩ := zz_bind hf
      refine zz_cut 44 [(0, .ref (ad 47)), (1, .int a_), (2, .int b_), (3, .int kind_)] [.int x7.1] (zz_wm U ad ρ x7.2 X) ?_ (fun J9 => ?_)
      · cases hf
        exact zz_iret C dX8_points_44 (And.intro rfl rfl) (Nat.le_of_ble_eq_true rfl) (Nat.le_of_ble_eq_true rfl)
      refine zz_iload_n C 1 dX8_points_24 rfl rfl ?_
      refine zz_iload_n C 2 dX8_points_25 rfl rfl ?_
      refine zz_icmp_ne (tgt := 37) C dX8_points_26 (by decide) (fun g10 => ?_) (fun g10 => ?_)
      · rw [if_neg g10] at h8
        refine zz_aload_n C 0 dX8_points_37 rfl rfl ?_
        refine zz_iload_n C 1 dX8_points_38 rfl rfl ?_
        refine zz_iload_n C 2 dX8_points_39 rfl rfl ?_
        refine zz_iload_n C 3 dX8_points_40 rfl rfl ?_
        obtain ⟨x11, h12, h8⟩ := zz_bind h8
        refine zz_callV1 (As := [.int a_, .int b_, .int kind_]) (rest := []) C 47 (mX8_pointsOf x1.2 a_ b_ kind_ x11 h12) dX8_points_41 rfl rfl rfl zw_165 zy_X8_pointsOf rfl (by decide) (by decide) (Nat.le_of_ble_eq_true rfl) (Nat.le_of_ble_eq_true rfl) (Nat.le_of_ble_eq_true rfl) rfl ?_
        cases h8
        exact J9
      · rw [if_pos g10] at h8
        refine zz_aload_n C 0 dX8_points_29 rfl rfl ?_
        refine zz_iconst (v := (2 : Int32)) C dX8_points_30 (by decide) ?_
        obtain ⟨x13, h14, h8⟩ := zz_bind h8
        refine zz_callV1 (As := [.int (2 : Int32)]) (rest := []) C 47 (mX8_no x1.2 (2 : Int32) x13 h14) dX8_points_31 rfl rfl rfl zw_147 zy_X8_no rfl (by decide) (by decide) (Nat.le_of_ble_eq_true rfl) (Nat.le_of_ble_eq_true rfl) (Nat.le_of_ble_eq_true rfl) rfl ?_
        refine zz_goto (tgt := 44) C dX8_points_34 (by decide) ?_
        cases h8
        exact J9
    · rw [if_pos g6] at hf
      refine zz_aload_n C 0 dX8_points_18 rfl rfl ?_
      refine zz_iconst (v := (1 : Int32)) C dX8_points_19 (by decide) ?_
      obtain ⟨x15, h16, hf⟩ := zz_bind hf
      refine zz_callV1 (As := [.int (1 : Int32)]) (rest := []) C 47 (mX8_no x1.2 (1 : Int32) x15 h16) dX8_points_20 rfl rfl rfl zw_147 zy_X8_no rfl (by decide) (by decide) (Nat.le_of_ble_eq_true rfl) (Nat.le_of_ble_eq_true rfl) (Nat.le_of_ble_eq_true rfl) rfl ?_
      cases hf
      exact zz_iret C dX8_points_23 (And.intro rfl rfl) (Nat.le_of_ble_eq_true rfl) (Nat.le_of_ble_eq_true rfl)
  · rw [if_pos g3] at hf
    refine zz_iconst (v := (0 : Int32)) C dX8_points_9 (by decide) ?_
    cases hf
    exact zz_iret C dX8_points_10 (And.intro rfl rfl) (Nat.le_of_ble_eq_true rfl) (Nat.le_of_ble_eq_true rfl)
theorem dX8_affinityOf_0 : decode cX8_affinityOf 0 = .ok (.iconst 0, 1) := by decide +kernel
theorem dX8_affinityOf_1 : decode cX8_affinityOf 1 = .ok (.istore_n 3, 1) := by decide +kernel
theorem dX8_affinityOf_2 : decode cX8_affinityOf 2 = .ok (.iconst 0, 1) := by decide +kernel
theorem dX8_affinityOf_3 : decode cX8_affinityOf 3 = .ok (.istore 4, 2) := by decide +kernel
theorem dX8_affinityOf_5 : decode cX8_affinityOf 5 = .ok (.iload 4, 2) := by decide +kernel
theorem dX8_affinityOf_7 : decode cX8_affinityOf 7 = .ok (.iconst 4, 1) := by decide +kernel
theorem dX8_affinityOf_8 : decode cX8_affinityOf 8 = .ok (.if_icmp .ge 20, 3) := by decide +kernel
theorem dX8_affinityOf_11 : decode cX8_affinityOf 11 = .ok (.iload_n 3, 1) := by decide +kernel
theorem dX8_affinityOf_12 : decode cX8_affinityOf 12 = .ok (.aload_n 0, 1) := by decide +kernel
theorem dX8_affinityOf_13 : decode cX8_affinityOf 13 = .ok (.iload_n 1, 1) := by decide +kernel
theorem dX8_affinityOf_14 : decode cX8_affinityOf 14 = .ok (.iload_n 2, 1) := by decide +kernel
theorem dX8_affinityOf_15 : decode cX8_affinityOf 15 = .ok (.iload 4, 2) := by decide +kernel
theorem dX8_affinityOf_17 : decode cX8_affinityOf 17 = .ok (.invokevirtual 106, 3) := by decide +kernel
theorem dX8_affinityOf_20 : decode cX8_affinityOf 20 = .ok (.iadd, 1) := by decide +kernel
theorem dX8_affinityOf_21 : decode cX8_affinityOf 21 = .ok (.istore_n 3, 1) := by decide +kernel
theorem dX8_affinityOf_22 : decode cX8_affinityOf 22 = .ok (.iinc 4 1, 3) := by decide +kernel
theorem dX8_affinityOf_25 : decode cX8_affinityOf 25 = .ok (.goto (-20), 3) := by decide +kernel
theorem dX8_affinityOf_28 : decode cX8_affinityOf 28 = .ok (.iload_n 3, 1) := by decide +kernel
theorem dX8_affinityOf_29 : decode cX8_affinityOf 29 = .ok (.ireturn, 1) := by decide +kernel
set_option maxHeartbeats 4000000 in
set_option maxRecDepth 100000 in
theorem mX8_affinityOf_L1 {p : Program} {l : Launch} {e : Env} {R : Room} {s : State} {m : MethodId} {args : Array Value} {below : List Frame} {meth : Method} {c : Code} {Q : State → Prop} {D : va_G} {U : zz_U} {A : Nat → Prop} {cells slots : Nat} {ad : Nat → Nat} {X : va_W} {ρ : zz_St} (C : zz_C p l R s m meth c D U A RX8 cX8_affinityOf 5 (some .int) [] 3) (hcR : cells ≤ R.cells) (hsR : slots ≤ R.slots) (σ : zz_St) (a_ : Int32) (b_ : Int32) : ∀ (n : Nat) (sum_ : Int32) (kind_ : Int32) (q : (Int32 × Int32)), fX8_affinityOf_L1 σ a_ b_ n sum_ kind_ = some q → (zz_Z p l e R s m args below meth c Q D A 5 cells slots (zz_wm U ad ρ σ X) 28 [(0, .ref (ad 47)), (1, .int a_), (2, .int b_), (3, .int q.1), (4, .int q.2)] []) → zz_Z p l e R s m args below meth c Q D A 5 cells slots (zz_wm U ad ρ σ X) 5 [(0, .ref (ad 47)), (1, .int a_), (2, .int b_), (3, .int sum_), (4, .int kind_)] [] := by
  intro n
  induction n with
  | zero => intro sum_ kind_ q hf; rw [fX8_affinityOf_L1] at hf; cases hf
  | succ n ih =>
    intro sum_ kind_ q hf kx
    rw [fX8_affinityOf_L1] at hf
    refine zz_iload C 4 dX8_affinityOf_5 rfl ?_
    refine zz_iconst (v := (4 : Int32)) C dX8_affinityOf_7 (by decide) ?_
    refine zz_icmp_ge (tgt := 28) C dX8_affinityOf_8 (by decide) (fun g1 => ?_) (fun g1 => ?_)
    · rw [if_pos g1] at hf
      cases hf
      exact kx
    · rw [if_neg g1] at hf
      refine zz_iload_n C 3 dX8_affinityOf_11 rfl rfl ?_
      refine zz_aload_n C 0 dX8_affinityOf_12 rfl rfl ?_
      refine zz_iload_n C 1 dX8_affinityOf_13 rfl rfl ?_
      refine zz_iload_n C 2 dX8_affinityOf_14 rfl rfl ?_
      refine zz_iload C 4 dX8_affinityOf_15 rfl ?_
      obtain ⟨x2, h3, hf⟩ := zz_bind hf
      refine zz_callV1 (As := [.int a_, .int b_, .int kind_]) (rest := [.int sum_]) C 47 (mX8_pointsOf σ a_ b_ kind_ x2 h3) dX8_affinityOf_17 rfl rfl rfl zw_165 zy_X8_pointsOf rfl (by decide) (by decide) (Nat.le_of_ble_eq_true rfl) hcR hsR rfl ?_
      refine zz_iadd C dX8_affinityOf_20 ?_
      obtain ⟨x4, h5, hf⟩ := zz_bind hf
      refine zz_topi (Option.some.inj h5) ?_
      refine zz_istore_n C dX8_affinityOf_21 rfl (by decide) (lv' := [(3, .int x4), (0, .ref (ad 47)), (1, .int a_), (2, .int b_), (4, .int kind_)]) rfl ?_
      refine zz_iinc (v := (kind_ + (1 : Int32))) C 4 dX8_affinityOf_22 rfl (by rfl) (by decide) (lv' := [(4, .int (kind_ + (1 : Int32))), (3, .int x4), (0, .ref (ad 47)), (1, .int a_), (2, .int b_)]) rfl ?_
      refine zz_goto (tgt := 5) C dX8_affinityOf_25 (by decide) ?_
      refine zz_sub [2, 3, 4, 1, 0] rfl ?_
      exact ih x4 (kind_ + (1 : Int32)) _ hf kx
set_option maxHeartbeats 4000000 in
set_option maxRecDepth 100000 in
theorem mX8_affinityOf {D : va_G} {U : zz_U} {ad : Nat → Nat} {X : va_W} {ρ : zz_St} (σ : zz_St) (a_ : Int32) (b_ : Int32) (r : Int32) (hf : fX8_affinityOf σ a_ b_ = some r) : zz_Met yX8_affinityOf (.code yX8_affinityOf cX8_affinityOf 5 (some .int)) 3 0 0 D U [.ref (ad 47), .int a_, .int b_] (zz_wm U ad ρ σ X) (zz_ok (some (.int r)) (zz_wm U ad ρ σ X)) zz_noth := by
  unfold fX8_affinityOf at hf
  refine zz_method RX8 rfl (by decide +kernel) (Nat.le_of_ble_eq_true rfl) ?_
  intro p l e s m args below meth c A _ C
  refine zz_lvs (lv1 := [(0, .ref (ad 47)), (1, .int a_), (2, .int b_)]) rfl ?_
  refine zz_iconst (v := (0 : Int32)) C dX8_affinityOf_0 (by decide) ?_
  refine zz_istore_n C dX8_affinityOf_1 rfl (by decide) (lv' := [(3, .int (0 : Int32)), (0, .ref (ad 47)), (1, .int a_), (2, .int b_)]) rfl ?_
  refine zz_iconst (v := (0 : Int32)) C dX8_affinityOf_2 (by decide) ?_
  refine zz_istore C dX8_affinityOf_3 (by decide) (lv' := [(4, .int (0 : Int32)), (3, .int (0 : Int32)), (0, .ref (ad 47)), (1, .int a_), (2, .int b_)]) rfl ?_
  obtain ⟨q6, h7, hf⟩ := zz_bind hf
  refine zz_sub [2, 3, 4, 1, 0] rfl ?_
  refine mX8_affinityOf_L1 C (Nat.le_of_ble_eq_true rfl) (Nat.le_of_ble_eq_true rfl) σ a_ b_ 1000 (0 : Int32) (0 : Int32) q6 h7 ?_
  refine zz_iload_n C 3 dX8_affinityOf_28 rfl rfl ?_
  cases hf
  exact zz_iret C dX8_affinityOf_29 (And.intro rfl rfl) (Nat.le_of_ble_eq_true rfl) (Nat.le_of_ble_eq_true rfl)
theorem dX8_affinity_0 : decode cX8_affinity 0 = .ok (.aload_n 0, 1) := by decide +kernel
theorem dX8_affinity_1 : decode cX8_affinity 1 = .ok (.iload_n 1, 1) := by decide +kernel
theorem dX8_affinity_2 : decode cX8_affinity 2 = .ok (.iload_n 2, 1) := by decide +kernel
theorem dX8_affinity_3 : decode cX8_affinity 3 = .ok (.invokevirtual 110, 3) := by decide +kernel
theorem dX8_affinity_6 : decode cX8_affinity 6 = .ok (.ifCond .ne 5, 3) := by decide +kernel
theorem dX8_affinity_9 : decode cX8_affinity 9 = .ok (.iconst 0, 1) := by decide +kernel
theorem dX8_affinity_10 : decode cX8_affinity 10 = .ok (.ireturn, 1) := by decide +kernel
theorem dX8_affinity_11 : decode cX8_affinity 11 = .ok (.iload_n 1, 1) := by decide +kernel
theorem dX8_affinity_12 : decode cX8_affinity 12 = .ok (.iload_n 2, 1) := by decide +kernel
theorem dX8_affinity_13 : decode cX8_affinity 13 = .ok (.if_icmp .ne 11, 3) := by decide +kernel
theorem dX8_affinity_16 : decode cX8_affinity 16 = .ok (.aload_n 0, 1) := by decide +kernel
theorem dX8_affinity_17 : decode cX8_affinity 17 = .ok (.iconst 2, 1) := by decide +kernel
theorem dX8_affinity_18 : decode cX8_affinity 18 = .ok (.invokevirtual 73, 3) := by decide +kernel
theorem dX8_affinity_21 : decode cX8_affinity 21 = .ok (.goto 9, 3) := by decide +kernel
theorem dX8_affinity_24 : decode cX8_affinity 24 = .ok (.aload_n 0, 1) := by decide +kernel
theorem dX8_affinity_25 : decode cX8_affinity 25 = .ok (.iload_n 1, 1) := by decide +kernel
theorem dX8_affinity_26 : decode cX8_affinity 26 = .ok (.iload_n 2, 1) := by decide +kernel
theorem dX8_affinity_27 : decode cX8_affinity 27 = .ok (.invokevirtual 114, 3) := by decide +kernel
theorem dX8_affinity_30 : decode cX8_affinity 30 = .ok (.ireturn, 1) := by decide +kernel
set_option maxHeartbeats 4000000 in
set_option maxRecDepth 100000 in
theorem mX8_affinity {D : va_G} {U : zz_U} {ad : Nat → Nat} {X : va_W} {ρ : zz_St} (σ : zz_St) (a_ : Int32) (b_ : Int32) (r : (Int32 × zz_St)) (hf : fX8_affinity σ a_ b_ = some r) : zz_Met yX8_affinity (.code yX8_affinity cX8_affinity 3 (some .int)) 4 0 0 D U [.ref (ad 47), .int a_, .int b_] (zz_wm U ad ρ σ X) (zz_ok (some (.int r.1)) (zz_wm U ad ρ r.2 X)) zz_noth := by
  unfold fX8_affinity at hf
  refine zz_method RX8 rfl (by decide +kernel) (Nat.le_of_ble_eq_true rfl) ?_
  intro p l e s m args below meth c A _ C
  refine zz_lvs (lv1 := [(0, .ref (ad 47)), (1, .int a_), (2, .int b_)]) rfl ?_
  refine zz_aload_n C 0 dX8_affinity_0 rfl rfl ?_
  refine zz_iload_n C 1 dX8_affinity_1 rfl rfl ?_
  refine zz_iload_n C 2 dX8_affinity_2 rfl rfl ?_
  obtain ⟨x1, h2, hf⟩ := zz_bind hf
  refine zz_callV1 (As := [.int a_, .int b_]) (rest := []) C 47 (mX8_arePieces σ a_ b_ x1 h2) dX8_affinity_3 rfl rfl rfl zw_166 zy_X8_arePieces rfl (by decide) (by decide) (Nat.le_of_ble_eq_true rfl) (Nat.le_of_ble_eq_true rfl) (Nat.le_of_ble_eq_true rfl) rfl ?_
  refine zz_if_ne (tgt := 11) C dX8_affinity_6 (by decide) (fun g3 => ?_) (fun g3 => ?_)
  · rw [if_neg g3] at hf
    obtain ⟨x4, h5, hf⟩ := zz_bind hf
    refine zz_cut 30 [(0, .ref (ad 47)), (1, .int a_), (2, .int b_)] [.int x4.1] (zz_wm U ad ρ x4.2 X) ?_ (fun J6 => ?_)
    · cases hf
      exact zz_iret C dX8_affinity_30 (And.intro rfl rfl) (Nat.le_of_ble_eq_true rfl) (Nat.le_of_ble_eq_true rfl)
    refine zz_iload_n C 1 dX8_affinity_11 rfl rfl ?_
    refine zz_iload_n C 2 dX8_affinity_12 rfl rfl ?_
    refine zz_icmp_ne (tgt := 24) C dX8_affinity_13 (by decide) (fun g7 => ?_) (fun g7 => ?_)
    · rw [if_neg g7] at h5
      refine zz_aload_n C 0 dX8_affinity_24 rfl rfl ?_
      refine zz_iload_n C 1 dX8_affinity_25 rfl rfl ?_
      refine zz_iload_n C 2 dX8_affinity_26 rfl rfl ?_
      obtain ⟨x8, h9, h5⟩ := zz_bind h5
      refine zz_callV1 (As := [.int a_, .int b_]) (rest := []) C 47 (mX8_affinityOf x1.2 a_ b_ x8 h9) dX8_affinity_27 rfl rfl rfl zw_167 zy_X8_affinityOf rfl (by decide) (by decide) (Nat.le_of_ble_eq_true rfl) (Nat.le_of_ble_eq_true rfl) (Nat.le_of_ble_eq_true rfl) rfl ?_
      cases h5
      exact J6
    · rw [if_pos g7] at h5
      refine zz_aload_n C 0 dX8_affinity_16 rfl rfl ?_
      refine zz_iconst (v := (2 : Int32)) C dX8_affinity_17 (by decide) ?_
      obtain ⟨x10, h11, h5⟩ := zz_bind h5
      refine zz_callV1 (As := [.int (2 : Int32)]) (rest := []) C 47 (mX8_no x1.2 (2 : Int32) x10 h11) dX8_affinity_18 rfl rfl rfl zw_147 zy_X8_no rfl (by decide) (by decide) (Nat.le_of_ble_eq_true rfl) (Nat.le_of_ble_eq_true rfl) (Nat.le_of_ble_eq_true rfl) rfl ?_
      refine zz_goto (tgt := 30) C dX8_affinity_21 (by decide) ?_
      cases h5
      exact J6
  · rw [if_pos g3] at hf
    refine zz_iconst (v := (0 : Int32)) C dX8_affinity_9 (by decide) ?_
    cases hf
    exact zz_iret C dX8_affinity_10 (And.intro rfl rfl) (Nat.le_of_ble_eq_true rfl) (Nat.le_of_ble_eq_true rfl)
theorem dX8_closest_0 : decode cX8_closest 0 = .ok (.aload_n 0, 1) := by decide +kernel
theorem dX8_closest_1 : decode cX8_closest 1 = .ok (.iconst 0, 1) := by decide +kernel
theorem dX8_closest_2 : decode cX8_closest 2 = .ok (.putfield 63, 3) := by decide +kernel
theorem dX8_closest_5 : decode cX8_closest 5 = .ok (.aload_n 0, 1) := by decide +kernel
theorem dX8_closest_6 : decode cX8_closest 6 = .ok (.iload_n 1, 1) := by decide +kernel
theorem dX8_closest_7 : decode cX8_closest 7 = .ok (.invokevirtual 77, 3) := by decide +kernel
theorem dX8_closest_10 : decode cX8_closest 10 = .ok (.ifCond .ne 9, 3) := by decide +kernel
theorem dX8_closest_13 : decode cX8_closest 13 = .ok (.aload_n 0, 1) := by decide +kernel
theorem dX8_closest_14 : decode cX8_closest 14 = .ok (.iconst 1, 1) := by decide +kernel
theorem dX8_closest_15 : decode cX8_closest 15 = .ok (.invokevirtual 73, 3) := by decide +kernel
theorem dX8_closest_18 : decode cX8_closest 18 = .ok (.ireturn, 1) := by decide +kernel
theorem dX8_closest_19 : decode cX8_closest 19 = .ok (.iconst (-1), 1) := by decide +kernel
theorem dX8_closest_20 : decode cX8_closest 20 = .ok (.istore_n 2, 1) := by decide +kernel
theorem dX8_closest_21 : decode cX8_closest 21 = .ok (.iconst 0, 1) := by decide +kernel
theorem dX8_closest_22 : decode cX8_closest 22 = .ok (.istore_n 3, 1) := by decide +kernel
theorem dX8_closest_23 : decode cX8_closest 23 = .ok (.iload_n 3, 1) := by decide +kernel
theorem dX8_closest_24 : decode cX8_closest 24 = .ok (.aload_n 0, 1) := by decide +kernel
theorem dX8_closest_25 : decode cX8_closest 25 = .ok (.getfield 66, 3) := by decide +kernel
theorem dX8_closest_28 : decode cX8_closest 28 = .ok (.if_icmp .ge 36, 3) := by decide +kernel
theorem dX8_closest_31 : decode cX8_closest 31 = .ok (.iload_n 3, 1) := by decide +kernel
theorem dX8_closest_32 : decode cX8_closest 32 = .ok (.iload_n 1, 1) := by decide +kernel
theorem dX8_closest_33 : decode cX8_closest 33 = .ok (.if_icmp .eq 25, 3) := by decide +kernel
theorem dX8_closest_36 : decode cX8_closest 36 = .ok (.iload_n 2, 1) := by decide +kernel
theorem dX8_closest_37 : decode cX8_closest 37 = .ok (.iconst (-1), 1) := by decide +kernel
theorem dX8_closest_38 : decode cX8_closest 38 = .ok (.if_icmp .eq 18, 3) := by decide +kernel
theorem dX8_closest_41 : decode cX8_closest 41 = .ok (.aload_n 0, 1) := by decide +kernel
theorem dX8_closest_42 : decode cX8_closest 42 = .ok (.iload_n 1, 1) := by decide +kernel
theorem dX8_closest_43 : decode cX8_closest 43 = .ok (.iload_n 3, 1) := by decide +kernel
theorem dX8_closest_44 : decode cX8_closest 44 = .ok (.invokevirtual 114, 3) := by decide +kernel
theorem dX8_closest_47 : decode cX8_closest 47 = .ok (.aload_n 0, 1) := by decide +kernel
theorem dX8_closest_48 : decode cX8_closest 48 = .ok (.iload_n 1, 1) := by decide +kernel
theorem dX8_closest_49 : decode cX8_closest 49 = .ok (.iload_n 2, 1) := by decide +kernel
theorem dX8_closest_50 : decode cX8_closest 50 = .ok (.invokevirtual 114, 3) := by decide +kernel
theorem dX8_closest_53 : decode cX8_closest 53 = .ok (.if_icmp .le 5, 3) := by decide +kernel
theorem dX8_closest_56 : decode cX8_closest 56 = .ok (.iload_n 3, 1) := by decide +kernel
theorem dX8_closest_57 : decode cX8_closest 57 = .ok (.istore_n 2, 1) := by decide +kernel
theorem dX8_closest_58 : decode cX8_closest 58 = .ok (.iinc 3 1, 3) := by decide +kernel
theorem dX8_closest_61 : decode cX8_closest 61 = .ok (.goto (-38), 3) := by decide +kernel
theorem dX8_closest_64 : decode cX8_closest 64 = .ok (.iload_n 2, 1) := by decide +kernel
theorem dX8_closest_65 : decode cX8_closest 65 = .ok (.ireturn, 1) := by decide +kernel
set_option maxHeartbeats 4000000 in
set_option maxRecDepth 100000 in
theorem mX8_closest_L1 {p : Program} {l : Launch} {e : Env} {R : Room} {s : State} {m : MethodId} {args : Array Value} {below : List Frame} {meth : Method} {c : Code} {Q : State → Prop} {D : va_G} {U : zz_U} {A : Nat → Prop} {cells slots : Nat} {ad : Nat → Nat} {X : va_W} {ρ : zz_St} (C : zz_C p l R s m meth c D U A RX8 cX8_closest 4 (some .int) [] 4) (hcR : cells ≤ R.cells) (hsR : slots ≤ R.slots) (σ : zz_St) (piece_ : Int32) : ∀ (n : Nat) (best_ : Int32) (other_ : Int32) (q : (Int32 × Int32)), fX8_closest_L1 σ piece_ n best_ other_ = some q → (zz_Z p l e R s m args below meth c Q D A 4 cells slots (zz_wm U ad ρ σ X) 64 [(0, .ref (ad 47)), (1, .int piece_), (2, .int q.1), (3, .int q.2)] []) → zz_Z p l e R s m args below meth c Q D A 4 cells slots (zz_wm U ad ρ σ X) 23 [(0, .ref (ad 47)), (1, .int piece_), (2, .int best_), (3, .int other_)] [] := by
  intro n
  induction n with
  | zero => intro best_ other_ q hf; rw [fX8_closest_L1] at hf; cases hf
  | succ n ih =>
    intro best_ other_ q hf kx
    rw [fX8_closest_L1] at hf
    refine zz_iload_n C 3 dX8_closest_23 rfl rfl ?_
    refine zz_aload_n C 0 dX8_closest_24 rfl rfl ?_
    refine zf8_pieces C dX8_closest_25 zw_148 ?_
    refine zz_icmp_ge (tgt := 64) C dX8_closest_28 (by decide) (fun g4 => ?_) (fun g4 => ?_)
    · rw [if_pos g4] at hf
      cases hf
      exact kx
    · rw [if_neg g4] at hf
      obtain ⟨x5, h6, hf⟩ := zz_bind hf
      refine zz_cut 58 [(0, .ref (ad 47)), (1, .int piece_), (2, .int x5), (3, .int other_)] [] (zz_wm U ad ρ σ X) ?_ (fun J7 => ?_)
      · refine zz_iinc (v := (other_ + (1 : Int32))) C 3 dX8_closest_58 rfl (by rfl) (by decide) (lv' := [(3, .int (other_ + (1 : Int32))), (0, .ref (ad 47)), (1, .int piece_), (2, .int x5)]) rfl ?_
        refine zz_goto (tgt := 23) C dX8_closest_61 (by decide) ?_
        refine zz_sub [1, 2, 3, 0] rfl ?_
        exact ih x5 (other_ + (1 : Int32)) _ hf kx
      obtain ⟨b8, h9, h6⟩ := zz_bind h6
      refine zz_cutI (P := b8 = true) 56 [(0, .ref (ad 47)), (1, .int piece_), (2, .int best_), (3, .int other_)] [] (zz_wm U ad ρ σ X) (fun g12 => ?_) (fun J10 => ?_)
      · rw [if_pos g12] at h6
        refine zz_iload_n C 3 dX8_closest_56 rfl rfl ?_
        refine zz_istore_n C dX8_closest_57 rfl (by decide) (lv' := [(2, .int other_), (0, .ref (ad 47)), (1, .int piece_), (3, .int other_)]) rfl ?_
        refine zz_sub [1, 2, 0, 3] rfl ?_
        cases h6
        exact J7
      refine zz_cutI (P := b8 = false) 58 [(0, .ref (ad 47)), (1, .int piece_), (2, .int best_), (3, .int other_)] [] (zz_wm U ad ρ σ X) (fun g12 => ?_) (fun J11 => ?_)
      · rw [if_neg (show ¬ b8 = true by rw [g12]; decide)] at h6
        cases h6
        exact J7
      refine zz_iload_n C 3 dX8_closest_31 rfl rfl ?_
      refine zz_iload_n C 1 dX8_closest_32 rfl rfl ?_
      refine zz_icmp_eq (tgt := 58) C dX8_closest_33 (by decide) (fun g13 => ?_) (fun g13 => ?_)
      · rw [if_pos g13] at h9
        cases h9
        exact J11 rfl
      · rw [if_neg g13] at h9
        refine zz_iload_n C 2 dX8_closest_36 rfl rfl ?_
        refine zz_iconst (v := (-1 : Int32)) C dX8_closest_37 (by decide) ?_
        refine zz_icmp_eq (tgt := 56) C dX8_closest_38 (by decide) (fun g14 => ?_) (fun g14 => ?_)
        · rw [if_pos g14] at h9
          cases h9
          exact J10 rfl
        · rw [if_neg g14] at h9
          refine zz_aload_n C 0 dX8_closest_41 rfl rfl ?_
          refine zz_iload_n C 1 dX8_closest_42 rfl rfl ?_
          refine zz_iload_n C 3 dX8_closest_43 rfl rfl ?_
          obtain ⟨x15, h16, h9⟩ := zz_bind h9
          refine zz_callV1 (As := [.int piece_, .int other_]) (rest := []) C 47 (mX8_affinityOf σ piece_ other_ x15 h16) dX8_closest_44 rfl rfl rfl zw_167 zy_X8_affinityOf rfl (by decide) (by decide) (Nat.le_of_ble_eq_true rfl) hcR hsR rfl ?_
          refine zz_aload_n C 0 dX8_closest_47 rfl rfl ?_
          refine zz_iload_n C 1 dX8_closest_48 rfl rfl ?_
          refine zz_iload_n C 2 dX8_closest_49 rfl rfl ?_
          obtain ⟨x17, h18, h9⟩ := zz_bind h9
          refine zz_callV1 (As := [.int piece_, .int best_]) (rest := [.int x15]) C 47 (mX8_affinityOf σ piece_ best_ x17 h18) dX8_closest_50 rfl rfl rfl zw_167 zy_X8_affinityOf rfl (by decide) (by decide) (Nat.le_of_ble_eq_true rfl) hcR hsR rfl ?_
          refine zz_icmp_le (tgt := 58) C dX8_closest_53 (by decide) (fun g19 => ?_) (fun g19 => ?_)
          · rw [if_pos g19] at h9
            cases h9
            exact J11 rfl
          · rw [if_neg g19] at h9
            cases h9
            exact J10 rfl
set_option maxHeartbeats 4000000 in
set_option maxRecDepth 100000 in
theorem mX8_closest {D : va_G} {U : zz_U} {ad : Nat → Nat} {X : va_W} {ρ : zz_St} (σ : zz_St) (piece_ : Int32) (r : (Int32 × zz_St)) (hf : fX8_closest σ piece_ = some r) : zz_Met yX8_closest (.code yX8_closest cX8_closest 4 (some .int)) 4 0 0 D U [.ref (ad 47), .int piece_] (zz_wm U ad ρ σ X) (zz_ok (some (.int r.1)) (zz_wm U ad ρ r.2 X)) zz_noth := by
  unfold fX8_closest at hf
  refine zz_method RX8 rfl (by decide +kernel) (Nat.le_of_ble_eq_true rfl) ?_
  intro p l e s m args below meth c A _ C
  refine zz_lvs (lv1 := [(0, .ref (ad 47)), (1, .int piece_)]) rfl ?_
  refine zz_aload_n C 0 dX8_closest_0 rfl rfl ?_
  refine zz_iconst (v := (0 : Int32)) C dX8_closest_1 (by decide) ?_
  refine zp8_thrown C dX8_closest_2 zw_145 ?_
  refine zz_aload_n C 0 dX8_closest_5 rfl rfl ?_
  refine zz_iload_n C 1 dX8_closest_6 rfl rfl ?_
  obtain ⟨x1, h2, hf⟩ := zz_bind hf
  refine zz_callV1 (As := [.int piece_]) (rest := []) C 47 (mX8_isPiece (zz_u σ 47 0 (0 : Int32)) piece_ x1 h2) dX8_closest_7 rfl rfl rfl zw_154 zy_X8_isPiece rfl (by decide) (by decide) (Nat.le_of_ble_eq_true rfl) (Nat.le_of_ble_eq_true rfl) (Nat.le_of_ble_eq_true rfl) rfl ?_
  refine zz_if_ne (tgt := 19) C dX8_closest_10 (by decide) (fun g3 => ?_) (fun g3 => ?_)
  · rw [if_neg g3] at hf
    refine zz_iconst (v := (-1 : Int32)) C dX8_closest_19 (by decide) ?_
    refine zz_istore_n C dX8_closest_20 rfl (by decide) (lv' := [(2, .int (-1 : Int32)), (0, .ref (ad 47)), (1, .int piece_)]) rfl ?_
    refine zz_iconst (v := (0 : Int32)) C dX8_closest_21 (by decide) ?_
    refine zz_istore_n C dX8_closest_22 rfl (by decide) (lv' := [(3, .int (0 : Int32)), (2, .int (-1 : Int32)), (0, .ref (ad 47)), (1, .int piece_)]) rfl ?_
    obtain ⟨q20, h21, hf⟩ := zz_bind hf
    refine zz_sub [2, 3, 1, 0] rfl ?_
    refine mX8_closest_L1 C (Nat.le_of_ble_eq_true rfl) (Nat.le_of_ble_eq_true rfl) (zz_u σ 47 0 (0 : Int32)) piece_ 1000 (-1 : Int32) (0 : Int32) q20 h21 ?_
    refine zz_iload_n C 2 dX8_closest_64 rfl rfl ?_
    cases hf
    exact zz_iret C dX8_closest_65 (And.intro rfl rfl) (Nat.le_of_ble_eq_true rfl) (Nat.le_of_ble_eq_true rfl)
  · rw [if_pos g3] at hf
    refine zz_aload_n C 0 dX8_closest_13 rfl rfl ?_
    refine zz_iconst (v := (1 : Int32)) C dX8_closest_14 (by decide) ?_
    obtain ⟨x22, h23, hf⟩ := zz_bind hf
    refine zz_callV1 (As := [.int (1 : Int32)]) (rest := []) C 47 (mX8_no (zz_u σ 47 0 (0 : Int32)) (1 : Int32) x22 h23) dX8_closest_15 rfl rfl rfl zw_147 zy_X8_no rfl (by decide) (by decide) (Nat.le_of_ble_eq_true rfl) (Nat.le_of_ble_eq_true rfl) (Nat.le_of_ble_eq_true rfl) rfl ?_
    cases hf
    exact zz_iret C dX8_closest_18 (And.intro rfl rfl) (Nat.le_of_ble_eq_true rfl) (Nat.le_of_ble_eq_true rfl)
theorem dX8_setThreshold_0 : decode cX8_setThreshold 0 = .ok (.aload_n 0, 1) := by decide +kernel
theorem dX8_setThreshold_1 : decode cX8_setThreshold 1 = .ok (.iconst 0, 1) := by decide +kernel
theorem dX8_setThreshold_2 : decode cX8_setThreshold 2 = .ok (.putfield 63, 3) := by decide +kernel
theorem dX8_setThreshold_5 : decode cX8_setThreshold 5 = .ok (.iload_n 1, 1) := by decide +kernel
theorem dX8_setThreshold_6 : decode cX8_setThreshold 6 = .ok (.iconst 1, 1) := by decide +kernel
theorem dX8_setThreshold_7 : decode cX8_setThreshold 7 = .ok (.sipush 999, 3) := by decide +kernel
theorem dX8_setThreshold_10 : decode cX8_setThreshold 10 = .ok (.invokestatic 69, 3) := by decide +kernel
theorem dX8_setThreshold_13 : decode cX8_setThreshold 13 = .ok (.ifCond .ne 9, 3) := by decide +kernel
theorem dX8_setThreshold_16 : decode cX8_setThreshold 16 = .ok (.aload_n 0, 1) := by decide +kernel
theorem dX8_setThreshold_17 : decode cX8_setThreshold 17 = .ok (.iconst 1, 1) := by decide +kernel
theorem dX8_setThreshold_18 : decode cX8_setThreshold 18 = .ok (.invokevirtual 73, 3) := by decide +kernel
theorem dX8_setThreshold_21 : decode cX8_setThreshold 21 = .ok (.ireturn, 1) := by decide +kernel
theorem dX8_setThreshold_22 : decode cX8_setThreshold 22 = .ok (.aload_n 0, 1) := by decide +kernel
theorem dX8_setThreshold_23 : decode cX8_setThreshold 23 = .ok (.getfield 36, 3) := by decide +kernel
theorem dX8_setThreshold_26 : decode cX8_setThreshold 26 = .ok (.istore_n 2, 1) := by decide +kernel
theorem dX8_setThreshold_27 : decode cX8_setThreshold 27 = .ok (.aload_n 0, 1) := by decide +kernel
theorem dX8_setThreshold_28 : decode cX8_setThreshold 28 = .ok (.iload_n 1, 1) := by decide +kernel
theorem dX8_setThreshold_29 : decode cX8_setThreshold 29 = .ok (.putfield 36, 3) := by decide +kernel
theorem dX8_setThreshold_32 : decode cX8_setThreshold 32 = .ok (.iload_n 2, 1) := by decide +kernel
theorem dX8_setThreshold_33 : decode cX8_setThreshold 33 = .ok (.ireturn, 1) := by decide +kernel
set_option maxHeartbeats 4000000 in
set_option maxRecDepth 100000 in
theorem mX8_setThreshold {D : va_G} {U : zz_U} {ad : Nat → Nat} {X : va_W} {ρ : zz_St} (σ : zz_St) (newThreshold_ : Int32) (r : (Int32 × zz_St)) (hf : fX8_setThreshold σ newThreshold_ = some r) : zz_Met yX8_setThreshold (.code yX8_setThreshold cX8_setThreshold 3 (some .int)) 1 0 0 D U [.ref (ad 47), .int newThreshold_] (zz_wm U ad ρ σ X) (zz_ok (some (.int r.1)) (zz_wm U ad ρ r.2 X)) zz_noth := by
  unfold fX8_setThreshold at hf
  refine zz_method RX8 rfl (by decide +kernel) (Nat.le_of_ble_eq_true rfl) ?_
  intro p l e s m args below meth c A _ C
  refine zz_lvs (lv1 := [(0, .ref (ad 47)), (1, .int newThreshold_)]) rfl ?_
  refine zz_aload_n C 0 dX8_setThreshold_0 rfl rfl ?_
  refine zz_iconst (v := (0 : Int32)) C dX8_setThreshold_1 (by decide) ?_
  refine zp8_thrown C dX8_setThreshold_2 zw_145 ?_
  refine zz_iload_n C 1 dX8_setThreshold_5 rfl rfl ?_
  refine zz_iconst (v := (1 : Int32)) C dX8_setThreshold_6 (by decide) ?_
  refine zz_sipush (v := (999 : Int32)) C dX8_setThreshold_7 (by decide) ?_
  obtain ⟨x1, h2, hf⟩ := zz_bind hf
  refine zz_callS1 (As := [.int newThreshold_, .int (1 : Int32), .int (999 : Int32)]) (rest := []) C (mX8_isIn (zz_u σ 47 0 (0 : Int32)) newThreshold_ (1 : Int32) (999 : Int32) x1 h2) dX8_setThreshold_10 rfl zw_146 zy_X8_isIn rfl (by decide) (by decide) (Nat.le_of_ble_eq_true rfl) (Nat.le_of_ble_eq_true rfl) (Nat.le_of_ble_eq_true rfl) rfl ?_
  refine zz_if_ne (tgt := 22) C dX8_setThreshold_13 (by decide) (fun g3 => ?_) (fun g3 => ?_)
  · rw [if_neg g3] at hf
    refine zz_aload_n C 0 dX8_setThreshold_22 rfl rfl ?_
    refine zf8_threshold C dX8_setThreshold_23 zw_168 ?_
    obtain ⟨x4, h5, hf⟩ := zz_bind hf
    refine zz_topi (Option.some.inj h5) ?_
    refine zz_istore_n C dX8_setThreshold_26 rfl (by decide) (lv' := [(2, .int x4), (0, .ref (ad 47)), (1, .int newThreshold_)]) rfl ?_
    refine zz_aload_n C 1 dX8_setThreshold_27 rfl rfl ?_
    refine zz_iload_n C 2 dX8_setThreshold_28 rfl rfl ?_
    refine zp8_threshold C dX8_setThreshold_29 zw_168 ?_
    refine zz_iload_n C 0 dX8_setThreshold_32 rfl rfl ?_
    cases hf
    exact zz_iret C dX8_setThreshold_33 (And.intro rfl rfl) (Nat.le_of_ble_eq_true rfl) (Nat.le_of_ble_eq_true rfl)
  · rw [if_pos g3] at hf
    refine zz_aload_n C 0 dX8_setThreshold_16 rfl rfl ?_
    refine zz_iconst (v := (1 : Int32)) C dX8_setThreshold_17 (by decide) ?_
    obtain ⟨x6, h7, hf⟩ := zz_bind hf
    refine zz_callV1 (As := [.int (1 : Int32)]) (rest := []) C 47 (mX8_no (zz_u σ 47 0 (0 : Int32)) (1 : Int32) x6 h7) dX8_setThreshold_18 rfl rfl rfl zw_147 zy_X8_no rfl (by decide) (by decide) (Nat.le_of_ble_eq_true rfl) (Nat.le_of_ble_eq_true rfl) (Nat.le_of_ble_eq_true rfl) rfl ?_
    cases hf
    exact zz_iret C dX8_setThreshold_21 (And.intro rfl rfl) (Nat.le_of_ble_eq_true rfl) (Nat.le_of_ble_eq_true rfl)
theorem dX8_setManner_0 : decode cX8_setManner 0 = .ok (.aload_n 0, 1) := by decide +kernel
theorem dX8_setManner_1 : decode cX8_setManner 1 = .ok (.iconst 0, 1) := by decide +kernel
theorem dX8_setManner_2 : decode cX8_setManner 2 = .ok (.putfield 63, 3) := by decide +kernel
theorem dX8_setManner_5 : decode cX8_setManner 5 = .ok (.iload_n 1, 1) := by decide +kernel
theorem dX8_setManner_6 : decode cX8_setManner 6 = .ok (.iconst 0, 1) := by decide +kernel
theorem dX8_setManner_7 : decode cX8_setManner 7 = .ok (.iconst 2, 1) := by decide +kernel
theorem dX8_setManner_8 : decode cX8_setManner 8 = .ok (.invokestatic 69, 3) := by decide +kernel
theorem dX8_setManner_11 : decode cX8_setManner 11 = .ok (.ifCond .ne 9, 3) := by decide +kernel
theorem dX8_setManner_14 : decode cX8_setManner 14 = .ok (.aload_n 0, 1) := by decide +kernel
theorem dX8_setManner_15 : decode cX8_setManner 15 = .ok (.iconst 1, 1) := by decide +kernel
theorem dX8_setManner_16 : decode cX8_setManner 16 = .ok (.invokevirtual 73, 3) := by decide +kernel
theorem dX8_setManner_19 : decode cX8_setManner 19 = .ok (.ireturn, 1) := by decide +kernel
theorem dX8_setManner_20 : decode cX8_setManner 20 = .ok (.aload_n 0, 1) := by decide +kernel
theorem dX8_setManner_21 : decode cX8_setManner 21 = .ok (.getfield 39, 3) := by decide +kernel
theorem dX8_setManner_24 : decode cX8_setManner 24 = .ok (.istore_n 2, 1) := by decide +kernel
theorem dX8_setManner_25 : decode cX8_setManner 25 = .ok (.aload_n 0, 1) := by decide +kernel
theorem dX8_setManner_26 : decode cX8_setManner 26 = .ok (.iload_n 1, 1) := by decide +kernel
theorem dX8_setManner_27 : decode cX8_setManner 27 = .ok (.putfield 39, 3) := by decide +kernel
theorem dX8_setManner_30 : decode cX8_setManner 30 = .ok (.iload_n 2, 1) := by decide +kernel
theorem dX8_setManner_31 : decode cX8_setManner 31 = .ok (.ireturn, 1) := by decide +kernel
set_option maxHeartbeats 4000000 in
set_option maxRecDepth 100000 in
theorem mX8_setManner {D : va_G} {U : zz_U} {ad : Nat → Nat} {X : va_W} {ρ : zz_St} (σ : zz_St) (newManner_ : Int32) (r : (Int32 × zz_St)) (hf : fX8_setManner σ newManner_ = some r) : zz_Met yX8_setManner (.code yX8_setManner cX8_setManner 3 (some .int)) 1 0 0 D U [.ref (ad 47), .int newManner_] (zz_wm U ad ρ σ X) (zz_ok (some (.int r.1)) (zz_wm U ad ρ r.2 X)) zz_noth := by
  unfold fX8_setManner at hf
  refine zz_method RX8 rfl (by decide +kernel) (Nat.le_of_ble_eq_true rfl) ?_
  intro p l e s m args below meth c A _ C
  refine zz_lvs (lv1 := [(0, .ref (ad 47)), (1, .int newManner_)]) rfl ?_
  refine zz_aload_n C 0 dX8_setManner_0 rfl rfl ?_
  refine zz_iconst (v := (0 : Int32)) C dX8_setManner_1 (by decide) ?_
  refine zp8_thrown C dX8_setManner_2 zw_145 ?_
  refine zz_iload_n C 1 dX8_setManner_5 rfl rfl ?_
  refine zz_iconst (v := (0 : Int32)) C dX8_setManner_6 (by decide) ?_
  refine zz_iconst (v := (2 : Int32)) C dX8_setManner_7 (by decide) ?_
  obtain ⟨x1, h2, hf⟩ := zz_bind hf
  refine zz_callS1 (As := [.int newManner_, .int (0 : Int32), .int (2 : Int32)]) (rest := []) C (mX8_isIn (zz_u σ 47 0 (0 : Int32)) newManner_ (0 : Int32) (2 : Int32) x1 h2) dX8_setManner_8 rfl zw_146 zy_X8_isIn rfl (by decide) (by decide) (Nat.le_of_ble_eq_true rfl) (Nat.le_of_ble_eq_true rfl) (Nat.le_of_ble_eq_true rfl) rfl ?_
  refine zz_if_ne (tgt := 20) C dX8_setManner_11 (by decide) (fun g3 => ?_) (fun g3 => ?_)
  · rw [if_neg g3] at hf
    refine zz_aload_n C 0 dX8_setManner_20 rfl rfl ?_
    refine zf8_manner C dX8_setManner_21 zw_169 ?_
    obtain ⟨x4, h5, hf⟩ := zz_bind hf
    refine zz_topi (Option.some.inj h5) ?_
    refine zz_istore_n C dX8_setManner_24 rfl (by decide) (lv' := [(2, .int x4), (0, .ref (ad 47)), (1, .int newManner_)]) rfl ?_
    refine zz_aload_n C 1 dX8_setManner_25 rfl rfl ?_
    refine zz_iload_n C 2 dX8_setManner_26 rfl rfl ?_
    refine zp8_manner C dX8_setManner_27 zw_169 ?_
    refine zz_iload_n C 0 dX8_setManner_30 rfl rfl ?_
    cases hf
    exact zz_iret C dX8_setManner_31 (And.intro rfl rfl) (Nat.le_of_ble_eq_true rfl) (Nat.le_of_ble_eq_true rfl)
  · rw [if_pos g3] at hf
    refine zz_aload_n C 0 dX8_setManner_14 rfl rfl ?_
    refine zz_iconst (v := (1 : Int32)) C dX8_setManner_15 (by decide) ?_
    obtain ⟨x6, h7, hf⟩ := zz_bind hf
    refine zz_callV1 (As := [.int (1 : Int32)]) (rest := []) C 47 (mX8_no (zz_u σ 47 0 (0 : Int32)) (1 : Int32) x6 h7) dX8_setManner_16 rfl rfl rfl zw_147 zy_X8_no rfl (by decide) (by decide) (Nat.le_of_ble_eq_true rfl) (Nat.le_of_ble_eq_true rfl) (Nat.le_of_ble_eq_true rfl) rfl ?_
    cases hf
    exact zz_iret C dX8_setManner_19 (And.intro rfl rfl) (Nat.le_of_ble_eq_true rfl) (Nat.le_of_ble_eq_true rfl)
theorem dX8_saidOf_0 : decode cX8_saidOf 0 = .ok (.aload_n 0, 1) := by decide +kernel
theorem dX8_saidOf_1 : decode cX8_saidOf 1 = .ok (.getfield 19, 3) := by decide +kernel
theorem dX8_saidOf_4 : decode cX8_saidOf 4 = .ok (.bipush 14, 2) := by decide +kernel
theorem dX8_saidOf_6 : decode cX8_saidOf 6 = .ok (.iload_n 1, 1) := by decide +kernel
theorem dX8_saidOf_7 : decode cX8_saidOf 7 = .ok (.imul, 1) := by decide +kernel
theorem dX8_saidOf_8 : decode cX8_saidOf 8 = .ok (.iload_n 2, 1) := by decide +kernel
theorem dX8_saidOf_9 : decode cX8_saidOf 9 = .ok (.iadd, 1) := by decide +kernel
theorem dX8_saidOf_10 : decode cX8_saidOf 10 = .ok (.iaload, 1) := by decide +kernel
theorem dX8_saidOf_11 : decode cX8_saidOf 11 = .ok (.ireturn, 1) := by decide +kernel
set_option maxHeartbeats 4000000 in
set_option maxRecDepth 100000 in
theorem mX8_saidOf {D : va_G} {U : zz_U} {ad : Nat → Nat} {X : va_W} {ρ : zz_St} (σ : zz_St) (a_ : Int32) (b_ : Int32) (r : Int32) (hf : fX8_saidOf σ a_ b_ = some r) : zz_Met yX8_saidOf (.code yX8_saidOf cX8_saidOf 3 (some .int)) 0 0 0 D U [.ref (ad 47), .int a_, .int b_] (zz_wm U ad ρ σ X) (zz_ok (some (.int r)) (zz_wm U ad ρ σ X)) zz_noth := by
  unfold fX8_saidOf at hf
  refine zz_method RX8 rfl (by decide +kernel) (Nat.le_of_ble_eq_true rfl) ?_
  intro p l e s m args below meth c A _ C
  refine zz_lvs (lv1 := [(0, .ref (ad 47)), (1, .int a_), (2, .int b_)]) rfl ?_
  refine zz_aload_n C 0 dX8_saidOf_0 rfl rfl ?_
  refine zf8_said C dX8_saidOf_1 zw_150 ?_
  refine zz_bipush (v := (14 : Int32)) C dX8_saidOf_4 (by decide) ?_
  refine zz_iload_n C 1 dX8_saidOf_6 rfl rfl ?_
  refine zz_imul C dX8_saidOf_7 ?_
  refine zz_iload_n C 2 dX8_saidOf_8 rfl rfl ?_
  refine zz_iadd C dX8_saidOf_9 ?_
  obtain ⟨x1, h2, hf⟩ := zz_bind hf
  refine zl_51 C dX8_saidOf_10 h2 ?_
  cases hf
  exact zz_iret C dX8_saidOf_11 (And.intro rfl rfl) (Nat.le_of_ble_eq_true rfl) (Nat.le_of_ble_eq_true rfl)
theorem dX8_put_0 : decode cX8_put 0 = .ok (.aload_n 0, 1) := by decide +kernel
theorem dX8_put_1 : decode cX8_put 1 = .ok (.getfield 19, 3) := by decide +kernel
theorem dX8_put_4 : decode cX8_put 4 = .ok (.bipush 14, 2) := by decide +kernel
theorem dX8_put_6 : decode cX8_put 6 = .ok (.iload_n 1, 1) := by decide +kernel
theorem dX8_put_7 : decode cX8_put 7 = .ok (.imul, 1) := by decide +kernel
theorem dX8_put_8 : decode cX8_put 8 = .ok (.iload_n 2, 1) := by decide +kernel
theorem dX8_put_9 : decode cX8_put 9 = .ok (.iadd, 1) := by decide +kernel
theorem dX8_put_10 : decode cX8_put 10 = .ok (.iload_n 3, 1) := by decide +kernel
theorem dX8_put_11 : decode cX8_put 11 = .ok (.iastore, 1) := by decide +kernel
theorem dX8_put_12 : decode cX8_put 12 = .ok (.aload_n 0, 1) := by decide +kernel
theorem dX8_put_13 : decode cX8_put 13 = .ok (.getfield 19, 3) := by decide +kernel
theorem dX8_put_16 : decode cX8_put 16 = .ok (.bipush 14, 2) := by decide +kernel
theorem dX8_put_18 : decode cX8_put 18 = .ok (.iload_n 2, 1) := by decide +kernel
theorem dX8_put_19 : decode cX8_put 19 = .ok (.imul, 1) := by decide +kernel
theorem dX8_put_20 : decode cX8_put 20 = .ok (.iload_n 1, 1) := by decide +kernel
theorem dX8_put_21 : decode cX8_put 21 = .ok (.iadd, 1) := by decide +kernel
theorem dX8_put_22 : decode cX8_put 22 = .ok (.iload_n 3, 1) := by decide +kernel
theorem dX8_put_23 : decode cX8_put 23 = .ok (.iastore, 1) := by decide +kernel
theorem dX8_put_24 : decode cX8_put 24 = .ok (.return_, 1) := by decide +kernel
set_option maxHeartbeats 4000000 in
set_option maxRecDepth 100000 in
theorem mX8_put {D : va_G} {U : zz_U} {ad : Nat → Nat} {X : va_W} {ρ : zz_St} (σ : zz_St) (a_ : Int32) (b_ : Int32) (what_ : Int32) (r : zz_St) (hf : fX8_put σ a_ b_ what_ = some r) : zz_Met yX8_put (.code yX8_put cX8_put 4 none) 0 0 0 D U [.ref (ad 47), .int a_, .int b_, .int what_] (zz_wm U ad ρ σ X) (zz_ok none (zz_wm U ad ρ r X)) zz_noth := by
  unfold fX8_put at hf
  refine zz_method RX8 rfl (by decide +kernel) (Nat.le_of_ble_eq_true rfl) ?_
  intro p l e s m args below meth c A _ C
  refine zz_lvs (lv1 := [(0, .ref (ad 47)), (1, .int a_), (2, .int b_), (3, .int what_)]) rfl ?_
  refine zz_aload_n C 0 dX8_put_0 rfl rfl ?_
  refine zf8_said C dX8_put_1 zw_150 ?_
  refine zz_bipush (v := (14 : Int32)) C dX8_put_4 (by decide) ?_
  refine zz_iload_n C 1 dX8_put_6 rfl rfl ?_
  refine zz_imul C dX8_put_7 ?_
  refine zz_iload_n C 2 dX8_put_8 rfl rfl ?_
  refine zz_iadd C dX8_put_9 ?_
  refine zz_iload_n C 3 dX8_put_10 rfl rfl ?_
  obtain ⟨σ1, h2, hf⟩ := zz_bind hf
  refine zs_51 C dX8_put_11 h2 ?_
  refine zz_aload_n C 0 dX8_put_12 rfl rfl ?_
  refine zf8_said C dX8_put_13 zw_150 ?_
  refine zz_bipush (v := (14 : Int32)) C dX8_put_16 (by decide) ?_
  refine zz_iload_n C 2 dX8_put_18 rfl rfl ?_
  refine zz_imul C dX8_put_19 ?_
  refine zz_iload_n C 1 dX8_put_20 rfl rfl ?_
  refine zz_iadd C dX8_put_21 ?_
  refine zz_iload_n C 3 dX8_put_22 rfl rfl ?_
  obtain ⟨σ3, h4, hf⟩ := zz_bind hf
  refine zs_51 C dX8_put_23 h4 ?_
  cases hf
  exact zz_vret C dX8_put_24 (And.intro rfl rfl) (Nat.le_of_ble_eq_true rfl) (Nat.le_of_ble_eq_true rfl)
theorem dX8_joinHeads_0 : decode cX8_joinHeads 0 = .ok (.iconst 0, 1) := by decide +kernel
theorem dX8_joinHeads_1 : decode cX8_joinHeads 1 = .ok (.istore_n 3, 1) := by decide +kernel
theorem dX8_joinHeads_2 : decode cX8_joinHeads 2 = .ok (.iload_n 3, 1) := by decide +kernel
theorem dX8_joinHeads_3 : decode cX8_joinHeads 3 = .ok (.aload_n 0, 1) := by decide +kernel
theorem dX8_joinHeads_4 : decode cX8_joinHeads 4 = .ok (.getfield 66, 3) := by decide +kernel
theorem dX8_joinHeads_7 : decode cX8_joinHeads 7 = .ok (.if_icmp .ge 34, 3) := by decide +kernel
theorem dX8_joinHeads_10 : decode cX8_joinHeads 10 = .ok (.aload_n 0, 1) := by decide +kernel
theorem dX8_joinHeads_11 : decode cX8_joinHeads 11 = .ok (.getfield 42, 3) := by decide +kernel
theorem dX8_joinHeads_14 : decode cX8_joinHeads 14 = .ok (.iload_n 3, 1) := by decide +kernel
theorem dX8_joinHeads_15 : decode cX8_joinHeads 15 = .ok (.iaload, 1) := by decide +kernel
theorem dX8_joinHeads_16 : decode cX8_joinHeads 16 = .ok (.iload_n 1, 1) := by decide +kernel
theorem dX8_joinHeads_17 : decode cX8_joinHeads 17 = .ok (.iload_n 2, 1) := by decide +kernel
theorem dX8_joinHeads_18 : decode cX8_joinHeads 18 = .ok (.invokestatic 117, 3) := by decide +kernel
theorem dX8_joinHeads_21 : decode cX8_joinHeads 21 = .ok (.if_icmp .ne 14, 3) := by decide +kernel
theorem dX8_joinHeads_24 : decode cX8_joinHeads 24 = .ok (.aload_n 0, 1) := by decide +kernel
theorem dX8_joinHeads_25 : decode cX8_joinHeads 25 = .ok (.getfield 42, 3) := by decide +kernel
theorem dX8_joinHeads_28 : decode cX8_joinHeads 28 = .ok (.iload_n 3, 1) := by decide +kernel
theorem dX8_joinHeads_29 : decode cX8_joinHeads 29 = .ok (.iload_n 1, 1) := by decide +kernel
theorem dX8_joinHeads_30 : decode cX8_joinHeads 30 = .ok (.iload_n 2, 1) := by decide +kernel
theorem dX8_joinHeads_31 : decode cX8_joinHeads 31 = .ok (.invokestatic 120, 3) := by decide +kernel
theorem dX8_joinHeads_34 : decode cX8_joinHeads 34 = .ok (.iastore, 1) := by decide +kernel
theorem dX8_joinHeads_35 : decode cX8_joinHeads 35 = .ok (.iinc 3 1, 3) := by decide +kernel
theorem dX8_joinHeads_38 : decode cX8_joinHeads 38 = .ok (.goto (-36), 3) := by decide +kernel
theorem dX8_joinHeads_41 : decode cX8_joinHeads 41 = .ok (.return_, 1) := by decide +kernel
set_option maxHeartbeats 4000000 in
set_option maxRecDepth 100000 in
theorem mX8_joinHeads_L1 {p : Program} {l : Launch} {e : Env} {R : Room} {s : State} {m : MethodId} {args : Array Value} {below : List Frame} {meth : Method} {c : Code} {Q : State → Prop} {D : va_G} {U : zz_U} {A : Nat → Prop} {cells slots : Nat} {ad : Nat → Nat} {X : va_W} {ρ : zz_St} (C : zz_C p l R s m meth c D U A RX8 cX8_joinHeads 4 none [] 1) (hcR : cells ≤ R.cells) (hsR : slots ≤ R.slots) (first_ : Int32) (second_ : Int32) : ∀ (n : Nat) (p_ : Int32) (σ : zz_St) (q : (Int32 × zz_St)), fX8_joinHeads_L1 first_ second_ n p_ σ = some q → (zz_Z p l e R s m args below meth c Q D A 4 cells slots (zz_wm U ad ρ q.2 X) 41 [(0, .ref (ad 47)), (1, .int first_), (2, .int second_), (3, .int q.1)] []) → zz_Z p l e R s m args below meth c Q D A 4 cells slots (zz_wm U ad ρ σ X) 2 [(0, .ref (ad 47)), (1, .int first_), (2, .int second_), (3, .int p_)] [] := by
  intro n
  induction n with
  | zero => intro p_ σ q hf; rw [fX8_joinHeads_L1] at hf; cases hf
  | succ n ih =>
    intro p_ σ q hf kx
    rw [fX8_joinHeads_L1] at hf
    refine zz_iload_n C 3 dX8_joinHeads_2 rfl rfl ?_
    refine zz_aload_n C 0 dX8_joinHeads_3 rfl rfl ?_
    refine zf8_pieces C dX8_joinHeads_4 zw_148 ?_
    refine zz_icmp_ge (tgt := 41) C dX8_joinHeads_7 (by decide) (fun g1 => ?_) (fun g1 => ?_)
    · rw [if_pos g1] at hf
      cases hf
      exact kx
    · rw [if_neg g1] at hf
      obtain ⟨x2, h3, hf⟩ := zz_bind hf
      refine zz_cut 35 [(0, .ref (ad 47)), (1, .int first_), (2, .int second_), (3, .int p_)] [] (zz_wm U ad ρ x2 X) ?_ (fun J4 => ?_)
      · refine zz_iinc (v := (p_ + (1 : Int32))) C 3 dX8_joinHeads_35 rfl (by rfl) (by decide) (lv' := [(3, .int (p_ + (1 : Int32))), (0, .ref (ad 47)), (1, .int first_), (2, .int second_)]) rfl ?_
        refine zz_goto (tgt := 2) C dX8_joinHeads_38 (by decide) ?_
        refine zz_sub [1, 2, 3, 0] rfl ?_
        exact ih (p_ + (1 : Int32)) x2 _ hf kx
      refine zz_aload_n C 0 dX8_joinHeads_10 rfl rfl ?_
      refine zf8_heads C dX8_joinHeads_11 zw_170 ?_
      refine zz_iload_n C 3 dX8_joinHeads_14 rfl rfl ?_
      obtain ⟨x5, h6, h3⟩ := zz_bind h3
      refine zl_55 C dX8_joinHeads_15 h6 ?_
      refine zz_iload_n C 1 dX8_joinHeads_16 rfl rfl ?_
      refine zz_iload_n C 2 dX8_joinHeads_17 rfl rfl ?_
      refine zz_mmax C dX8_joinHeads_18 zw_172 zm_max_1 zm_max_2 zm_max_3 (by decide) (Nat.le_of_ble_eq_true rfl) hcR hsR ?_
      refine zz_icmp_ne (tgt := 35) C dX8_joinHeads_21 (by decide) (fun g7 => ?_) (fun g7 => ?_)
      · rw [if_neg g7] at h3
        cases h3
        exact J4
      · rw [if_pos g7] at h3
        refine zz_aload_n C 0 dX8_joinHeads_24 rfl rfl ?_
        refine zf8_heads C dX8_joinHeads_25 zw_170 ?_
        refine zz_iload_n C 3 dX8_joinHeads_28 rfl rfl ?_
        refine zz_iload_n C 1 dX8_joinHeads_29 rfl rfl ?_
        refine zz_iload_n C 2 dX8_joinHeads_30 rfl rfl ?_
        refine zz_mmin C dX8_joinHeads_31 zw_173 zm_min_1 zm_min_2 zm_min_3 (by decide) (Nat.le_of_ble_eq_true rfl) hcR hsR ?_
        obtain ⟨σ8, h9, h3⟩ := zz_bind h3
        refine zs_55 C dX8_joinHeads_34 h9 ?_
        cases h3
        exact J4
set_option maxHeartbeats 4000000 in
set_option maxRecDepth 100000 in
theorem mX8_joinHeads {D : va_G} {U : zz_U} {ad : Nat → Nat} {X : va_W} {ρ : zz_St} (σ : zz_St) (first_ : Int32) (second_ : Int32) (r : zz_St) (hf : fX8_joinHeads σ first_ second_ = some r) : zz_Met yX8_joinHeads (.code yX8_joinHeads cX8_joinHeads 4 none) 1 0 0 D U [.ref (ad 47), .int first_, .int second_] (zz_wm U ad ρ σ X) (zz_ok none (zz_wm U ad ρ r X)) zz_noth := by
  unfold fX8_joinHeads at hf
  refine zz_method RX8 rfl (by decide +kernel) (Nat.le_of_ble_eq_true rfl) ?_
  intro p l e s m args below meth c A _ C
  refine zz_lvs (lv1 := [(0, .ref (ad 47)), (1, .int first_), (2, .int second_)]) rfl ?_
  refine zz_iconst (v := (0 : Int32)) C dX8_joinHeads_0 (by decide) ?_
  refine zz_istore_n C dX8_joinHeads_1 rfl (by decide) (lv' := [(3, .int (0 : Int32)), (0, .ref (ad 47)), (1, .int first_), (2, .int second_)]) rfl ?_
  obtain ⟨q10, h11, hf⟩ := zz_bind hf
  refine zz_sub [1, 2, 3, 0] rfl ?_
  refine mX8_joinHeads_L1 C (Nat.le_of_ble_eq_true rfl) (Nat.le_of_ble_eq_true rfl) first_ second_ 1000 (0 : Int32) σ q10 h11 ?_
  cases hf
  exact zz_vret C dX8_joinHeads_41 (And.intro rfl rfl) (Nat.le_of_ble_eq_true rfl) (Nat.le_of_ble_eq_true rfl)
theorem dX8_startGroups_0 : decode cX8_startGroups 0 = .ok (.iconst 0, 1) := by decide +kernel
theorem dX8_startGroups_1 : decode cX8_startGroups 1 = .ok (.istore_n 1, 1) := by decide +kernel
theorem dX8_startGroups_2 : decode cX8_startGroups 2 = .ok (.iload_n 1, 1) := by decide +kernel
theorem dX8_startGroups_3 : decode cX8_startGroups 3 = .ok (.aload_n 0, 1) := by decide +kernel
theorem dX8_startGroups_4 : decode cX8_startGroups 4 = .ok (.getfield 66, 3) := by decide +kernel
theorem dX8_startGroups_7 : decode cX8_startGroups 7 = .ok (.if_icmp .ge 16, 3) := by decide +kernel
theorem dX8_startGroups_10 : decode cX8_startGroups 10 = .ok (.aload_n 0, 1) := by decide +kernel
theorem dX8_startGroups_11 : decode cX8_startGroups 11 = .ok (.getfield 42, 3) := by decide +kernel
theorem dX8_startGroups_14 : decode cX8_startGroups 14 = .ok (.iload_n 1, 1) := by decide +kernel
theorem dX8_startGroups_15 : decode cX8_startGroups 15 = .ok (.iload_n 1, 1) := by decide +kernel
theorem dX8_startGroups_16 : decode cX8_startGroups 16 = .ok (.iastore, 1) := by decide +kernel
theorem dX8_startGroups_17 : decode cX8_startGroups 17 = .ok (.iinc 1 1, 3) := by decide +kernel
theorem dX8_startGroups_20 : decode cX8_startGroups 20 = .ok (.goto (-18), 3) := by decide +kernel
theorem dX8_startGroups_23 : decode cX8_startGroups 23 = .ok (.iconst 0, 1) := by decide +kernel
theorem dX8_startGroups_24 : decode cX8_startGroups 24 = .ok (.istore_n 1, 1) := by decide +kernel
theorem dX8_startGroups_25 : decode cX8_startGroups 25 = .ok (.iload_n 1, 1) := by decide +kernel
theorem dX8_startGroups_26 : decode cX8_startGroups 26 = .ok (.aload_n 0, 1) := by decide +kernel
theorem dX8_startGroups_27 : decode cX8_startGroups 27 = .ok (.getfield 66, 3) := by decide +kernel
theorem dX8_startGroups_30 : decode cX8_startGroups 30 = .ok (.if_icmp .ge 66, 3) := by decide +kernel
theorem dX8_startGroups_33 : decode cX8_startGroups 33 = .ok (.iconst 0, 1) := by decide +kernel
theorem dX8_startGroups_34 : decode cX8_startGroups 34 = .ok (.istore_n 2, 1) := by decide +kernel
theorem dX8_startGroups_35 : decode cX8_startGroups 35 = .ok (.iload_n 2, 1) := by decide +kernel
theorem dX8_startGroups_36 : decode cX8_startGroups 36 = .ok (.aload_n 0, 1) := by decide +kernel
theorem dX8_startGroups_37 : decode cX8_startGroups 37 = .ok (.getfield 66, 3) := by decide +kernel
theorem dX8_startGroups_40 : decode cX8_startGroups 40 = .ok (.if_icmp .ge 50, 3) := by decide +kernel
theorem dX8_startGroups_43 : decode cX8_startGroups 43 = .ok (.aload_n 0, 1) := by decide +kernel
theorem dX8_startGroups_44 : decode cX8_startGroups 44 = .ok (.iload_n 1, 1) := by decide +kernel
theorem dX8_startGroups_45 : decode cX8_startGroups 45 = .ok (.iload_n 2, 1) := by decide +kernel
theorem dX8_startGroups_46 : decode cX8_startGroups 46 = .ok (.invokevirtual 123, 3) := by decide +kernel
theorem dX8_startGroups_49 : decode cX8_startGroups 49 = .ok (.iconst 1, 1) := by decide +kernel
theorem dX8_startGroups_50 : decode cX8_startGroups 50 = .ok (.if_icmp .ne 34, 3) := by decide +kernel
theorem dX8_startGroups_53 : decode cX8_startGroups 53 = .ok (.aload_n 0, 1) := by decide +kernel
theorem dX8_startGroups_54 : decode cX8_startGroups 54 = .ok (.getfield 42, 3) := by decide +kernel
theorem dX8_startGroups_57 : decode cX8_startGroups 57 = .ok (.iload_n 1, 1) := by decide +kernel
theorem dX8_startGroups_58 : decode cX8_startGroups 58 = .ok (.iaload, 1) := by decide +kernel
theorem dX8_startGroups_59 : decode cX8_startGroups 59 = .ok (.aload_n 0, 1) := by decide +kernel
theorem dX8_startGroups_60 : decode cX8_startGroups 60 = .ok (.getfield 42, 3) := by decide +kernel
theorem dX8_startGroups_63 : decode cX8_startGroups 63 = .ok (.iload_n 2, 1) := by decide +kernel
theorem dX8_startGroups_64 : decode cX8_startGroups 64 = .ok (.iaload, 1) := by decide +kernel
theorem dX8_startGroups_65 : decode cX8_startGroups 65 = .ok (.if_icmp .eq 19, 3) := by decide +kernel
theorem dX8_startGroups_68 : decode cX8_startGroups 68 = .ok (.aload_n 0, 1) := by decide +kernel
theorem dX8_startGroups_69 : decode cX8_startGroups 69 = .ok (.aload_n 0, 1) := by decide +kernel
theorem dX8_startGroups_70 : decode cX8_startGroups 70 = .ok (.getfield 42, 3) := by decide +kernel
theorem dX8_startGroups_73 : decode cX8_startGroups 73 = .ok (.iload_n 1, 1) := by decide +kernel
theorem dX8_startGroups_74 : decode cX8_startGroups 74 = .ok (.iaload, 1) := by decide +kernel
theorem dX8_startGroups_75 : decode cX8_startGroups 75 = .ok (.aload_n 0, 1) := by decide +kernel
theorem dX8_startGroups_76 : decode cX8_startGroups 76 = .ok (.getfield 42, 3) := by decide +kernel
theorem dX8_startGroups_79 : decode cX8_startGroups 79 = .ok (.iload_n 2, 1) := by decide +kernel
theorem dX8_startGroups_80 : decode cX8_startGroups 80 = .ok (.iaload, 1) := by decide +kernel
theorem dX8_startGroups_81 : decode cX8_startGroups 81 = .ok (.invokevirtual 126, 3) := by decide +kernel
theorem dX8_startGroups_84 : decode cX8_startGroups 84 = .ok (.iinc 2 1, 3) := by decide +kernel
theorem dX8_startGroups_87 : decode cX8_startGroups 87 = .ok (.goto (-52), 3) := by decide +kernel
theorem dX8_startGroups_90 : decode cX8_startGroups 90 = .ok (.iinc 1 1, 3) := by decide +kernel
theorem dX8_startGroups_93 : decode cX8_startGroups 93 = .ok (.goto (-68), 3) := by decide +kernel
theorem dX8_startGroups_96 : decode cX8_startGroups 96 = .ok (.return_, 1) := by decide +kernel
set_option maxHeartbeats 4000000 in
set_option maxRecDepth 100000 in
theorem mX8_startGroups_L1 {p : Program} {l : Launch} {e : Env} {R : Room} {s : State} {m : MethodId} {args : Array Value} {below : List Frame} {meth : Method} {c : Code} {Q : State → Prop} {D : va_G} {U : zz_U} {A : Nat → Prop} {cells slots : Nat} {ad : Nat → Nat} {X : va_W} {ρ : zz_St} (C : zz_C p l R s m meth c D U A RX8 cX8_startGroups 3 none [] 2) (hcR : cells ≤ R.cells) (hsR : slots ≤ R.slots) : ∀ (n : Nat) (p_ : Int32) (σ : zz_St) (q : (Int32 × zz_St)), fX8_startGroups_L1 n p_ σ = some q → (zz_Z p l e R s m args below meth c Q D A 3 cells slots (zz_wm U ad ρ q.2 X) 23 [(0, .ref (ad 47)), (1, .int q.1)] []) → zz_Z p l e R s m args below meth c Q D A 3 cells slots (zz_wm U ad ρ σ X) 2 [(0, .ref (ad 47)), (1, .int p_)] [] := by
  intro n
  induction n with
  | zero => intro p_ σ q hf; rw [fX8_startGroups_L1] at hf; cases hf
  | succ n ih =>
    intro p_ σ q hf kx
    rw [fX8_startGroups_L1] at hf
    refine zz_iload_n C 1 dX8_startGroups_2 rfl rfl ?_
    refine zz_aload_n C 0 dX8_startGroups_3 rfl rfl ?_
    refine zf8_pieces C dX8_startGroups_4 zw_148 ?_
    refine zz_icmp_ge (tgt := 23) C dX8_startGroups_7 (by decide) (fun g1 => ?_) (fun g1 => ?_)
    · rw [if_pos g1] at hf
      cases hf
      exact kx
    · rw [if_neg g1] at hf
      refine zz_aload_n C 0 dX8_startGroups_10 rfl rfl ?_
      refine zf8_heads C dX8_startGroups_11 zw_170 ?_
      refine zz_iload_n C 1 dX8_startGroups_14 rfl rfl ?_
      refine zz_iload_n C 1 dX8_startGroups_15 rfl rfl ?_
      obtain ⟨σ2, h3, hf⟩ := zz_bind hf
      refine zs_55 C dX8_startGroups_16 h3 ?_
      refine zz_iinc (v := (p_ + (1 : Int32))) C 1 dX8_startGroups_17 rfl (by rfl) (by decide) (lv' := [(1, .int (p_ + (1 : Int32))), (0, .ref (ad 47))]) rfl ?_
      refine zz_goto (tgt := 2) C dX8_startGroups_20 (by decide) ?_
      refine zz_sub [1, 0] rfl ?_
      exact ih (p_ + (1 : Int32)) σ2 _ hf kx
set_option maxHeartbeats 4000000 in
set_option maxRecDepth 100000 in
theorem mX8_startGroups_L3 {p : Program} {l : Launch} {e : Env} {R : Room} {s : State} {m : MethodId} {args : Array Value} {below : List Frame} {meth : Method} {c : Code} {Q : State → Prop} {D : va_G} {U : zz_U} {A : Nat → Prop} {cells slots : Nat} {ad : Nat → Nat} {X : va_W} {ρ : zz_St} (C : zz_C p l R s m meth c D U A RX8 cX8_startGroups 3 none [] 2) (hcR : cells ≤ R.cells) (hsR : slots ≤ R.slots) (a_ : Int32) : ∀ (n : Nat) (b_ : Int32) (σ : zz_St) (q : (Int32 × zz_St)), fX8_startGroups_L3 a_ n b_ σ = some q → (zz_Z p l e R s m args below meth c Q D A 3 cells slots (zz_wm U ad ρ q.2 X) 90 [(0, .ref (ad 47)), (1, .int a_), (2, .int q.1)] []) → zz_Z p l e R s m args below meth c Q D A 3 cells slots (zz_wm U ad ρ σ X) 35 [(0, .ref (ad 47)), (1, .int a_), (2, .int b_)] [] := by
  intro n
  induction n with
  | zero => intro b_ σ q hf; rw [fX8_startGroups_L3] at hf; cases hf
  | succ n ih =>
    intro b_ σ q hf kx
    rw [fX8_startGroups_L3] at hf
    refine zz_iload_n C 2 dX8_startGroups_35 rfl rfl ?_
    refine zz_aload_n C 0 dX8_startGroups_36 rfl rfl ?_
    refine zf8_pieces C dX8_startGroups_37 zw_148 ?_
    refine zz_icmp_ge (tgt := 90) C dX8_startGroups_40 (by decide) (fun g7 => ?_) (fun g7 => ?_)
    · rw [if_pos g7] at hf
      cases hf
      exact kx
    · rw [if_neg g7] at hf
      obtain ⟨x8, h9, hf⟩ := zz_bind hf
      refine zz_cut 84 [(0, .ref (ad 47)), (1, .int a_), (2, .int b_)] [] (zz_wm U ad ρ x8 X) ?_ (fun J10 => ?_)
      · refine zz_iinc (v := (b_ + (1 : Int32))) C 2 dX8_startGroups_84 rfl (by rfl) (by decide) (lv' := [(2, .int (b_ + (1 : Int32))), (0, .ref (ad 47)), (1, .int a_)]) rfl ?_
        refine zz_goto (tgt := 35) C dX8_startGroups_87 (by decide) ?_
        refine zz_sub [1, 2, 0] rfl ?_
        exact ih (b_ + (1 : Int32)) x8 _ hf kx
      obtain ⟨b11, h12, h9⟩ := zz_bind h9
      refine zz_cutI (P := b11 = true) 68 [(0, .ref (ad 47)), (1, .int a_), (2, .int b_)] [] (zz_wm U ad ρ σ X) (fun g15 => ?_) (fun J13 => ?_)
      · rw [if_pos g15] at h9
        refine zz_aload_n C 0 dX8_startGroups_68 rfl rfl ?_
        refine zz_aload_n C 0 dX8_startGroups_69 rfl rfl ?_
        refine zf8_heads C dX8_startGroups_70 zw_170 ?_
        refine zz_iload_n C 1 dX8_startGroups_73 rfl rfl ?_
        obtain ⟨x24, h25, h9⟩ := zz_bind h9
        refine zl_55 C dX8_startGroups_74 h25 ?_
        refine zz_aload_n C 0 dX8_startGroups_75 rfl rfl ?_
        refine zf8_heads C dX8_startGroups_76 zw_170 ?_
        refine zz_iload_n C 2 dX8_startGroups_79 rfl rfl ?_
        obtain ⟨x26, h27, h9⟩ := zz_bind h9
        refine zl_55 C dX8_startGroups_80 h27 ?_
        obtain ⟨x28, h29, h9⟩ := zz_bind h9
        refine zz_callV1 (As := [.int x24, .int x26]) (rest := []) C 47 (mX8_joinHeads σ x24 x26 x28 h29) dX8_startGroups_81 rfl rfl rfl zw_174 zy_X8_joinHeads rfl (by decide) (by decide) (Nat.le_of_ble_eq_true rfl) hcR hsR rfl ?_
        cases h9
        exact J10
      refine zz_cutI (P := b11 = false) 84 [(0, .ref (ad 47)), (1, .int a_), (2, .int b_)] [] (zz_wm U ad ρ σ X) (fun g15 => ?_) (fun J14 => ?_)
      · rw [if_neg (show ¬ b11 = true by rw [g15]; decide)] at h9
        cases h9
        exact J10
      refine zz_aload_n C 0 dX8_startGroups_43 rfl rfl ?_
      refine zz_iload_n C 1 dX8_startGroups_44 rfl rfl ?_
      refine zz_iload_n C 2 dX8_startGroups_45 rfl rfl ?_
      obtain ⟨x16, h17, h12⟩ := zz_bind h12
      refine zz_callV1 (As := [.int a_, .int b_]) (rest := []) C 47 (mX8_saidOf σ a_ b_ x16 h17) dX8_startGroups_46 rfl rfl rfl zw_171 zy_X8_saidOf rfl (by decide) (by decide) (Nat.le_of_ble_eq_true rfl) hcR hsR rfl ?_
      refine zz_iconst (v := (1 : Int32)) C dX8_startGroups_49 (by decide) ?_
      refine zz_icmp_ne (tgt := 84) C dX8_startGroups_50 (by decide) (fun g18 => ?_) (fun g18 => ?_)
      · rw [if_neg g18] at h12
        cases h12
        exact J14 rfl
      · rw [if_pos g18] at h12
        refine zz_aload_n C 0 dX8_startGroups_53 rfl rfl ?_
        refine zf8_heads C dX8_startGroups_54 zw_170 ?_
        refine zz_iload_n C 1 dX8_startGroups_57 rfl rfl ?_
        obtain ⟨x19, h20, h12⟩ := zz_bind h12
        refine zl_55 C dX8_startGroups_58 h20 ?_
        refine zz_aload_n C 0 dX8_startGroups_59 rfl rfl ?_
        refine zf8_heads C dX8_startGroups_60 zw_170 ?_
        refine zz_iload_n C 2 dX8_startGroups_63 rfl rfl ?_
        obtain ⟨x21, h22, h12⟩ := zz_bind h12
        refine zl_55 C dX8_startGroups_64 h22 ?_
        refine zz_icmp_eq (tgt := 84) C dX8_startGroups_65 (by decide) (fun g23 => ?_) (fun g23 => ?_)
        · rw [if_pos g23] at h12
          cases h12
          exact J14 rfl
        · rw [if_neg g23] at h12
          cases h12
          exact J13 rfl
set_option maxHeartbeats 4000000 in
set_option maxRecDepth 100000 in
theorem mX8_startGroups_L2 {p : Program} {l : Launch} {e : Env} {R : Room} {s : State} {m : MethodId} {args : Array Value} {below : List Frame} {meth : Method} {c : Code} {Q : State → Prop} {D : va_G} {U : zz_U} {A : Nat → Prop} {cells slots : Nat} {ad : Nat → Nat} {X : va_W} {ρ : zz_St} (C : zz_C p l R s m meth c D U A RX8 cX8_startGroups 3 none [] 2) (hcR : cells ≤ R.cells) (hsR : slots ≤ R.slots) : ∀ (n : Nat) (a_ : Int32) (σ : zz_St) (q : (Int32 × zz_St)), fX8_startGroups_L2 n a_ σ = some q → (zz_Z p l e R s m args below meth c Q D A 3 cells slots (zz_wm U ad ρ q.2 X) 96 [(0, .ref (ad 47)), (1, .int q.1)] []) → zz_Z p l e R s m args below meth c Q D A 3 cells slots (zz_wm U ad ρ σ X) 25 [(0, .ref (ad 47)), (1, .int a_)] [] := by
  intro n
  induction n with
  | zero => intro a_ σ q hf; rw [fX8_startGroups_L2] at hf; cases hf
  | succ n ih =>
    intro a_ σ q hf kx
    rw [fX8_startGroups_L2] at hf
    refine zz_iload_n C 1 dX8_startGroups_25 rfl rfl ?_
    refine zz_aload_n C 0 dX8_startGroups_26 rfl rfl ?_
    refine zf8_pieces C dX8_startGroups_27 zw_148 ?_
    refine zz_icmp_ge (tgt := 96) C dX8_startGroups_30 (by decide) (fun g6 => ?_) (fun g6 => ?_)
    · rw [if_pos g6] at hf
      cases hf
      exact kx
    · rw [if_neg g6] at hf
      refine zz_iconst (v := (0 : Int32)) C dX8_startGroups_33 (by decide) ?_
      refine zz_istore_n C dX8_startGroups_34 rfl (by decide) (lv' := [(2, .int (0 : Int32)), (0, .ref (ad 47)), (1, .int a_)]) rfl ?_
      obtain ⟨q30, h31, hf⟩ := zz_bind hf
      refine zz_sub [1, 2, 0] rfl ?_
      refine mX8_startGroups_L3 C hcR hsR a_ 1000 (0 : Int32) σ q30 h31 ?_
      refine zz_iinc (v := (a_ + (1 : Int32))) C 1 dX8_startGroups_90 rfl (by rfl) (by decide) (lv' := [(1, .int (a_ + (1 : Int32))), (0, .ref (ad 47)), (2, .int q30.1)]) rfl ?_
      refine zz_goto (tgt := 25) C dX8_startGroups_93 (by decide) ?_
      refine zz_sub [1, 0] rfl ?_
      exact ih (a_ + (1 : Int32)) q30.2 _ hf kx
set_option maxHeartbeats 4000000 in
set_option maxRecDepth 100000 in
theorem mX8_startGroups {D : va_G} {U : zz_U} {ad : Nat → Nat} {X : va_W} {ρ : zz_St} (σ : zz_St) (r : zz_St) (hf : fX8_startGroups σ = some r) : zz_Met yX8_startGroups (.code yX8_startGroups cX8_startGroups 3 none) 2 0 0 D U [.ref (ad 47)] (zz_wm U ad ρ σ X) (zz_ok none (zz_wm U ad ρ r X)) zz_noth := by
  unfold fX8_startGroups at hf
  refine zz_method RX8 rfl (by decide +kernel) (Nat.le_of_ble_eq_true rfl) ?_
  intro p l e s m args below meth c A _ C
  refine zz_lvs (lv1 := [(0, .ref (ad 47))]) rfl ?_
  refine zz_iconst (v := (0 : Int32)) C dX8_startGroups_0 (by decide) ?_
  refine zz_istore_n C dX8_startGroups_1 rfl (by decide) (lv' := [(1, .int (0 : Int32)), (0, .ref (ad 47))]) rfl ?_
  obtain ⟨q4, h5, hf⟩ := zz_bind hf
  refine zz_sub [1, 0] rfl ?_
  refine mX8_startGroups_L1 C (Nat.le_of_ble_eq_true rfl) (Nat.le_of_ble_eq_true rfl) 1000 (0 : Int32) σ q4 h5 ?_
  refine zz_iconst (v := (0 : Int32)) C dX8_startGroups_23 (by decide) ?_
  refine zz_istore_n C dX8_startGroups_24 rfl (by decide) (lv' := [(1, .int (0 : Int32)), (0, .ref (ad 47))]) rfl ?_
  obtain ⟨q32, h33, hf⟩ := zz_bind hf
  refine zz_sub [1, 0] rfl ?_
  refine mX8_startGroups_L2 C (Nat.le_of_ble_eq_true rfl) (Nat.le_of_ble_eq_true rfl) 1000 (0 : Int32) q4.2 q32 h33 ?_
  cases hf
  exact zz_vret C dX8_startGroups_96 (And.intro rfl rfl) (Nat.le_of_ble_eq_true rfl) (Nat.le_of_ble_eq_true rfl)
