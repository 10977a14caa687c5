theorem dX8_agreement_0 : decode cX8_agreement 0 = .ok (.aload_n 0, 1) := by decide +kernel
theorem dX8_agreement_1 : decode cX8_agreement 1 = .ok (.iconst 0, 1) := by decide +kernel
theorem dX8_agreement_2 : decode cX8_agreement 2 = .ok (.putfield 63, 3) := by decide +kernel
theorem dX8_agreement_5 : decode cX8_agreement 5 = .ok (.aload_n 0, 1) := by decide +kernel
theorem dX8_agreement_6 : decode cX8_agreement 6 = .ok (.invokevirtual 146, 3) := by decide +kernel
theorem dX8_agreement_9 : decode cX8_agreement 9 = .ok (.iconst 0, 1) := by decide +kernel
theorem dX8_agreement_10 : decode cX8_agreement 10 = .ok (.istore_n 1, 1) := by decide +kernel
theorem dX8_agreement_11 : decode cX8_agreement 11 = .ok (.iconst 0, 1) := by decide +kernel
theorem dX8_agreement_12 : decode cX8_agreement 12 = .ok (.istore_n 2, 1) := by decide +kernel
theorem dX8_agreement_13 : decode cX8_agreement 13 = .ok (.iconst 0, 1) := by decide +kernel
theorem dX8_agreement_14 : decode cX8_agreement 14 = .ok (.istore_n 3, 1) := by decide +kernel
theorem dX8_agreement_15 : decode cX8_agreement 15 = .ok (.iload_n 3, 1) := by decide +kernel
theorem dX8_agreement_16 : decode cX8_agreement 16 = .ok (.aload_n 0, 1) := by decide +kernel
theorem dX8_agreement_17 : decode cX8_agreement 17 = .ok (.getfield 66, 3) := by decide +kernel
theorem dX8_agreement_20 : decode cX8_agreement 20 = .ok (.if_icmp .ge 85, 3) := by decide +kernel
theorem dX8_agreement_23 : decode cX8_agreement 23 = .ok (.iload_n 3, 1) := by decide +kernel
theorem dX8_agreement_24 : decode cX8_agreement 24 = .ok (.iconst 1, 1) := by decide +kernel
theorem dX8_agreement_25 : decode cX8_agreement 25 = .ok (.iadd, 1) := by decide +kernel
theorem dX8_agreement_26 : decode cX8_agreement 26 = .ok (.istore 4, 2) := by decide +kernel
theorem dX8_agreement_28 : decode cX8_agreement 28 = .ok (.iload 4, 2) := by decide +kernel
theorem dX8_agreement_30 : decode cX8_agreement 30 = .ok (.aload_n 0, 1) := by decide +kernel
theorem dX8_agreement_31 : decode cX8_agreement 31 = .ok (.getfield 66, 3) := by decide +kernel
theorem dX8_agreement_34 : decode cX8_agreement 34 = .ok (.if_icmp .ge 65, 3) := by decide +kernel
theorem dX8_agreement_37 : decode cX8_agreement 37 = .ok (.iinc 1 1, 3) := by decide +kernel
theorem dX8_agreement_40 : decode cX8_agreement 40 = .ok (.iload_n 2, 1) := by decide +kernel
theorem dX8_agreement_41 : decode cX8_agreement 41 = .ok (.aload_n 0, 1) := by decide +kernel
theorem dX8_agreement_42 : decode cX8_agreement 42 = .ok (.getfield 42, 3) := by decide +kernel
theorem dX8_agreement_45 : decode cX8_agreement 45 = .ok (.iload_n 3, 1) := by decide +kernel
theorem dX8_agreement_46 : decode cX8_agreement 46 = .ok (.iaload, 1) := by decide +kernel
theorem dX8_agreement_47 : decode cX8_agreement 47 = .ok (.aload_n 0, 1) := by decide +kernel
theorem dX8_agreement_48 : decode cX8_agreement 48 = .ok (.getfield 42, 3) := by decide +kernel
theorem dX8_agreement_51 : decode cX8_agreement 51 = .ok (.iload 4, 2) := by decide +kernel
theorem dX8_agreement_53 : decode cX8_agreement 53 = .ok (.iaload, 1) := by decide +kernel
theorem dX8_agreement_54 : decode cX8_agreement 54 = .ok (.if_icmp .ne 7, 3) := by decide +kernel
theorem dX8_agreement_57 : decode cX8_agreement 57 = .ok (.iconst 1, 1) := by decide +kernel
theorem dX8_agreement_58 : decode cX8_agreement 58 = .ok (.goto 4, 3) := by decide +kernel
theorem dX8_agreement_61 : decode cX8_agreement 61 = .ok (.iconst 0, 1) := by decide +kernel
theorem dX8_agreement_62 : decode cX8_agreement 62 = .ok (.aload_n 0, 1) := by decide +kernel
theorem dX8_agreement_63 : decode cX8_agreement 63 = .ok (.getfield 16, 3) := by decide +kernel
theorem dX8_agreement_66 : decode cX8_agreement 66 = .ok (.iload_n 3, 1) := by decide +kernel
theorem dX8_agreement_67 : decode cX8_agreement 67 = .ok (.iaload, 1) := by decide +kernel
theorem dX8_agreement_68 : decode cX8_agreement 68 = .ok (.aload_n 0, 1) := by decide +kernel
theorem dX8_agreement_69 : decode cX8_agreement 69 = .ok (.getfield 16, 3) := by decide +kernel
theorem dX8_agreement_72 : decode cX8_agreement 72 = .ok (.iload 4, 2) := by decide +kernel
theorem dX8_agreement_74 : decode cX8_agreement 74 = .ok (.iaload, 1) := by decide +kernel
theorem dX8_agreement_75 : decode cX8_agreement 75 = .ok (.if_icmp .ne 7, 3) := by decide +kernel
theorem dX8_agreement_78 : decode cX8_agreement 78 = .ok (.iconst 1, 1) := by decide +kernel
theorem dX8_agreement_79 : decode cX8_agreement 79 = .ok (.goto 4, 3) := by decide +kernel
theorem dX8_agreement_82 : decode cX8_agreement 82 = .ok (.iconst 0, 1) := by decide +kernel
theorem dX8_agreement_83 : decode cX8_agreement 83 = .ok (.if_icmp .ne 7, 3) := by decide +kernel
theorem dX8_agreement_86 : decode cX8_agreement 86 = .ok (.iconst 1, 1) := by decide +kernel
theorem dX8_agreement_87 : decode cX8_agreement 87 = .ok (.goto 4, 3) := by decide +kernel
theorem dX8_agreement_90 : decode cX8_agreement 90 = .ok (.iconst 0, 1) := by decide +kernel
theorem dX8_agreement_91 : decode cX8_agreement 91 = .ok (.iadd, 1) := by decide +kernel
theorem dX8_agreement_92 : decode cX8_agreement 92 = .ok (.istore_n 2, 1) := by decide +kernel
theorem dX8_agreement_93 : decode cX8_agreement 93 = .ok (.iinc 4 1, 3) := by decide +kernel
theorem dX8_agreement_96 : decode cX8_agreement 96 = .ok (.goto (-68), 3) := by decide +kernel
theorem dX8_agreement_99 : decode cX8_agreement 99 = .ok (.iinc 3 1, 3) := by decide +kernel
theorem dX8_agreement_102 : decode cX8_agreement 102 = .ok (.goto (-87), 3) := by decide +kernel
theorem dX8_agreement_105 : decode cX8_agreement 105 = .ok (.iload_n 1, 1) := by decide +kernel
theorem dX8_agreement_106 : decode cX8_agreement 106 = .ok (.ifCond .ne 7, 3) := by decide +kernel
theorem dX8_agreement_109 : decode cX8_agreement 109 = .ok (.dconst 1, 1) := by decide +kernel
theorem dX8_agreement_110 : decode cX8_agreement 110 = .ok (.goto 8, 3) := by decide +kernel
theorem dX8_agreement_113 : decode cX8_agreement 113 = .ok (.iload_n 2, 1) := by decide +kernel
theorem dX8_agreement_114 : decode cX8_agreement 114 = .ok (.i2d, 1) := by decide +kernel
theorem dX8_agreement_115 : decode cX8_agreement 115 = .ok (.iload_n 1, 1) := by decide +kernel
theorem dX8_agreement_116 : decode cX8_agreement 116 = .ok (.i2d, 1) := by decide +kernel
theorem dX8_agreement_117 : decode cX8_agreement 117 = .ok (.ddiv, 1) := by decide +kernel
theorem dX8_agreement_118 : decode cX8_agreement 118 = .ok (.dreturn, 1) := by decide +kernel
set_option maxHeartbeats 4000000 in
set_option maxRecDepth 100000 in
theorem mX8_agreement_L2 {p : Program} {l : Launch} {e : Env} {R : Room} {s : State} {m : MethodId} {args : Array Value} {below : List Frame} {meth : Method} {c : Code} {Q : State → Prop} {D : va_G} {U : zz_U} {A : Nat → Prop} {cells slots : Nat} {ad : Nat → Nat} {X : va_W} {ρ : zz_St} (C : zz_C p l R s m meth c D U A RX8 cX8_agreement 5 (some .double) [] 5) (hcR : cells ≤ R.cells) (hsR : slots ≤ R.slots) (σ : zz_St) (a_ : Int32) : ∀ (n : Nat) (all_ : Int32) (right_ : Int32) (b_ : Int32) (q : (Int32 × Int32 × Int32)), fX8_agreement_L2 σ a_ n all_ right_ b_ = some q → (zz_Z p l e R s m args below meth c Q D A 5 cells slots (zz_wm U ad ρ σ X) 99 [(0, .ref (ad 47)), (1, .int q.1), (2, .int q.2.1), (3, .int a_), (4, .int q.2.2)] []) → zz_Z p l e R s m args below meth c Q D A 5 cells slots (zz_wm U ad ρ σ X) 28 [(0, .ref (ad 47)), (1, .int all_), (2, .int right_), (3, .int a_), (4, .int b_)] [] := by
  intro n
  induction n with
  | zero => intro all_ right_ b_ q hf; rw [fX8_agreement_L2] at hf; cases hf
  | succ n ih =>
    intro all_ right_ b_ q hf kx
    rw [fX8_agreement_L2] at hf
    refine zz_iload C 4 dX8_agreement_28 rfl ?_
    refine zz_aload_n C 0 dX8_agreement_30 rfl rfl ?_
    refine zf8_pieces C dX8_agreement_31 zw_148 ?_
    refine zz_icmp_ge (tgt := 99) C dX8_agreement_34 (by decide) (fun g6 => ?_) (fun g6 => ?_)
    · rw [if_pos g6] at hf
      cases hf
      exact kx
    · rw [if_neg g6] at hf
      refine zz_iinc (v := (all_ + (1 : Int32))) C 1 dX8_agreement_37 rfl (by rfl) (by decide) (lv' := [(1, .int (all_ + (1 : Int32))), (0, .ref (ad 47)), (2, .int right_), (3, .int a_), (4, .int b_)]) rfl ?_
      refine zz_iload_n C 2 dX8_agreement_40 rfl rfl ?_
      obtain ⟨x7, h8, hf⟩ := zz_bind hf
      refine zz_cut 91 [(1, .int (all_ + (1 : Int32))), (0, .ref (ad 47)), (2, .int right_), (3, .int a_), (4, .int b_)] [.int x7, .int right_] (zz_wm U ad ρ σ X) ?_ (fun J9 => ?_)
      · refine zz_iadd C dX8_agreement_91 ?_
        obtain ⟨x27, h28, hf⟩ := zz_bind hf
        refine zz_topi (Option.some.inj h28) ?_
        refine zz_istore_n C dX8_agreement_92 rfl (by decide) (lv' := [(2, .int x27), (1, .int (all_ + (1 : Int32))), (0, .ref (ad 47)), (3, .int a_), (4, .int b_)]) rfl ?_
        refine zz_iinc (v := (b_ + (1 : Int32))) C 4 dX8_agreement_93 rfl (by rfl) (by decide) (lv' := [(4, .int (b_ + (1 : Int32))), (2, .int x27), (1, .int (all_ + (1 : Int32))), (0, .ref (ad 47)), (3, .int a_)]) rfl ?_
        refine zz_goto (tgt := 28) C dX8_agreement_96 (by decide) ?_
        refine zz_sub [3, 2, 1, 4, 0] rfl ?_
        exact ih (all_ + (1 : Int32)) x27 (b_ + (1 : Int32)) _ hf kx
      obtain ⟨b10, h11, h8⟩ := zz_bind h8
      refine zz_cut 62 [(1, .int (all_ + (1 : Int32))), (0, .ref (ad 47)), (2, .int right_), (3, .int a_), (4, .int b_)] [.int (zz_bi b10), .int right_] (zz_wm U ad ρ σ X) ?_ (fun J12 => ?_)
      · obtain ⟨b18, h19, h8⟩ := zz_bind h8
        refine zz_cut 83 [(1, .int (all_ + (1 : Int32))), (0, .ref (ad 47)), (2, .int right_), (3, .int a_), (4, .int b_)] [.int (zz_bi b18), .int (zz_bi b10), .int right_] (zz_wm U ad ρ σ X) ?_ (fun J20 => ?_)
        · refine zz_icmp_ne (tgt := 90) C dX8_agreement_83 (by decide) (fun g26 => ?_) (fun g26 => ?_)
          · rw [if_neg g26] at h8
            refine zz_iconst (v := (0 : Int32)) C dX8_agreement_90 (by decide) ?_
            cases h8
            exact J9
          · rw [if_pos g26] at h8
            refine zz_iconst (v := (1 : Int32)) C dX8_agreement_86 (by decide) ?_
            refine zz_goto (tgt := 91) C dX8_agreement_87 (by decide) ?_
            cases h8
            exact J9
        refine zz_aload_n C 1 dX8_agreement_62 rfl rfl ?_
        refine zf8_purposes C dX8_agreement_63 zw_151 ?_
        refine zz_iload_n C 3 dX8_agreement_66 rfl rfl ?_
        obtain ⟨x21, h22, h19⟩ := zz_bind h19
        refine zl_50 C dX8_agreement_67 h22 ?_
        refine zz_aload_n C 1 dX8_agreement_68 rfl rfl ?_
        refine zf8_purposes C dX8_agreement_69 zw_151 ?_
        refine zz_iload C 4 dX8_agreement_72 rfl ?_
        obtain ⟨x23, h24, h19⟩ := zz_bind h19
        refine zl_50 C dX8_agreement_74 h24 ?_
        refine zz_icmp_ne (tgt := 82) C dX8_agreement_75 (by decide) (fun g25 => ?_) (fun g25 => ?_)
        · rw [if_neg g25] at h19
          refine zz_iconst (v := 0) C dX8_agreement_82 (by decide) ?_
          cases h19
          exact J20
        · rw [if_pos g25] at h19
          refine zz_iconst (v := 1) C dX8_agreement_78 (by decide) ?_
          refine zz_goto (tgt := 83) C dX8_agreement_79 (by decide) ?_
          cases h19
          exact J20
      refine zz_aload_n C 1 dX8_agreement_41 rfl rfl ?_
      refine zf8_heads C dX8_agreement_42 zw_170 ?_
      refine zz_iload_n C 3 dX8_agreement_45 rfl rfl ?_
      obtain ⟨x13, h14, h11⟩ := zz_bind h11
      refine zl_55 C dX8_agreement_46 h14 ?_
      refine zz_aload_n C 1 dX8_agreement_47 rfl rfl ?_
      refine zf8_heads C dX8_agreement_48 zw_170 ?_
      refine zz_iload C 4 dX8_agreement_51 rfl ?_
      obtain ⟨x15, h16, h11⟩ := zz_bind h11
      refine zl_55 C dX8_agreement_53 h16 ?_
      refine zz_icmp_ne (tgt := 61) C dX8_agreement_54 (by decide) (fun g17 => ?_) (fun g17 => ?_)
      · rw [if_neg g17] at h11
        refine zz_iconst (v := 0) C dX8_agreement_61 (by decide) ?_
        cases h11
        exact J12
      · rw [if_pos g17] at h11
        refine zz_iconst (v := 1) C dX8_agreement_57 (by decide) ?_
        refine zz_goto (tgt := 62) C dX8_agreement_58 (by decide) ?_
        cases h11
        exact J12
set_option maxHeartbeats 4000000 in
set_option maxRecDepth 100000 in
theorem mX8_agreement_L1 {p : Program} {l : Launch} {e : Env} {R : Room} {s : State} {m : MethodId} {args : Array Value} {below : List Frame} {meth : Method} {c : Code} {Q : State → Prop} {D : va_G} {U : zz_U} {A : Nat → Prop} {cells slots : Nat} {ad : Nat → Nat} {X : va_W} {ρ : zz_St} (C : zz_C p l R s m meth c D U A RX8 cX8_agreement 5 (some .double) [] 5) (hcR : cells ≤ R.cells) (hsR : slots ≤ R.slots) (σ : zz_St) : ∀ (n : Nat) (all_ : Int32) (right_ : Int32) (a_ : Int32) (q : (Int32 × Int32 × Int32)), fX8_agreement_L1 σ n all_ right_ a_ = some q → (zz_Z p l e R s m args below meth c Q D A 5 cells slots (zz_wm U ad ρ σ X) 105 [(0, .ref (ad 47)), (1, .int q.1), (2, .int q.2.1), (3, .int q.2.2)] []) → zz_Z p l e R s m args below meth c Q D A 5 cells slots (zz_wm U ad ρ σ X) 15 [(0, .ref (ad 47)), (1, .int all_), (2, .int right_), (3, .int a_)] [] := by
  intro n
  induction n with
  | zero => intro all_ right_ a_ q hf; rw [fX8_agreement_L1] at hf; cases hf
  | succ n ih =>
    intro all_ right_ a_ q hf kx
    rw [fX8_agreement_L1] at hf
    refine zz_iload_n C 3 dX8_agreement_15 rfl rfl ?_
    refine zz_aload_n C 0 dX8_agreement_16 rfl rfl ?_
    refine zf8_pieces C dX8_agreement_17 zw_148 ?_
    refine zz_icmp_ge (tgt := 105) C dX8_agreement_20 (by decide) (fun g3 => ?_) (fun g3 => ?_)
    · rw [if_pos g3] at hf
      cases hf
      exact kx
    · rw [if_neg g3] at hf
      refine zz_iload_n C 3 dX8_agreement_23 rfl rfl ?_
      refine zz_iconst (v := (1 : Int32)) C dX8_agreement_24 (by decide) ?_
      refine zz_iadd C dX8_agreement_25 ?_
      obtain ⟨x4, h5, hf⟩ := zz_bind hf
      refine zz_topi (Option.some.inj h5) ?_
      refine zz_istore C dX8_agreement_26 (by decide) (lv' := [(4, .int x4), (0, .ref (ad 47)), (1, .int all_), (2, .int right_), (3, .int a_)]) rfl ?_
      obtain ⟨q29, h30, hf⟩ := zz_bind hf
      refine zz_sub [1, 2, 3, 4, 0] rfl ?_
      refine mX8_agreement_L2 C hcR hsR σ a_ 1000 all_ right_ x4 q29 h30 ?_
      refine zz_iinc (v := (a_ + (1 : Int32))) C 3 dX8_agreement_99 rfl (by rfl) (by decide) (lv' := [(3, .int (a_ + (1 : Int32))), (0, .ref (ad 47)), (1, .int q29.1), (2, .int q29.2.1), (4, .int q29.2.2)]) rfl ?_
      refine zz_goto (tgt := 15) C dX8_agreement_102 (by decide) ?_
      refine zz_sub [1, 2, 3, 0] rfl ?_
      exact ih q29.1 q29.2.1 (a_ + (1 : Int32)) _ hf kx
set_option maxHeartbeats 4000000 in
set_option maxRecDepth 100000 in
theorem mX8_agreement {D : va_G} {U : zz_U} {ad : Nat → Nat} {X : va_W} {ρ : zz_St} (σ : zz_St) (r : (UInt64 × zz_St)) (hf : fX8_agreement σ = some r) : zz_Met yX8_agreement (.code yX8_agreement cX8_agreement 5 (some .double)) 5 0 0 D U [.ref (ad 47)] (zz_wm U ad ρ σ X) (zz_ok (some (.double r.1)) (zz_wm U ad ρ r.2 X)) zz_noth := by
  unfold fX8_agreement at hf
  refine zz_method RX8 rfl (by decide +kernel) (Nat.le_of_ble_eq_true rfl) ?_
  intro p l e s m args below meth c A _ C
  refine zz_lvs (lv1 := [(0, .ref (ad 47))]) rfl ?_
  refine zz_aload_n C 0 dX8_agreement_0 rfl rfl ?_
  refine zz_iconst (v := (0 : Int32)) C dX8_agreement_1 (by decide) ?_
  refine zp8_thrown C dX8_agreement_2 zw_145 ?_
  refine zz_aload_n C 0 dX8_agreement_5 rfl rfl ?_
  obtain ⟨x1, h2, hf⟩ := zz_bind hf
  refine zz_callV1 (As := []) (rest := []) C 47 (mX8_makeGroups (zz_u σ 47 0 (0 : Int32)) x1 h2) dX8_agreement_6 rfl rfl rfl zw_182 zy_X8_makeGroups rfl (by decide) (by decide) (Nat.le_of_ble_eq_true rfl) (Nat.le_of_ble_eq_true rfl) (Nat.le_of_ble_eq_true rfl) rfl ?_
  refine zz_iconst (v := (0 : Int32)) C dX8_agreement_9 (by decide) ?_
  refine zz_istore_n C dX8_agreement_10 rfl (by decide) (lv' := [(1, .int (0 : Int32)), (0, .ref (ad 47))]) rfl ?_
  refine zz_iconst (v := (0 : Int32)) C dX8_agreement_11 (by decide) ?_
  refine zz_istore_n C dX8_agreement_12 rfl (by decide) (lv' := [(2, .int (0 : Int32)), (1, .int (0 : Int32)), (0, .ref (ad 47))]) rfl ?_
  refine zz_iconst (v := (0 : Int32)) C dX8_agreement_13 (by decide) ?_
  refine zz_istore_n C dX8_agreement_14 rfl (by decide) (lv' := [(3, .int (0 : Int32)), (2, .int (0 : Int32)), (1, .int (0 : Int32)), (0, .ref (ad 47))]) rfl ?_
  obtain ⟨q31, h32, hf⟩ := zz_bind hf
  refine zz_sub [3, 2, 1, 0] rfl ?_
  refine mX8_agreement_L1 C (Nat.le_of_ble_eq_true rfl) (Nat.le_of_ble_eq_true rfl) x1 1000 (0 : Int32) (0 : Int32) (0 : Int32) q31 h32 ?_
  obtain ⟨x33, h34, hf⟩ := zz_bind hf
  refine zz_cut 118 [(0, .ref (ad 47)), (1, .int q31.1), (2, .int q31.2.1), (3, .int q31.2.2)] [.double x33] (zz_wm U ad ρ x1 X) ?_ (fun J35 => ?_)
  · cases hf
    exact zz_dret C dX8_agreement_118 (And.intro rfl rfl) (Nat.le_of_ble_eq_true rfl) (Nat.le_of_ble_eq_true rfl)
  refine zz_iload_n C 1 dX8_agreement_105 rfl rfl ?_
  refine zz_if_ne (tgt := 113) C dX8_agreement_106 (by decide) (fun g36 => ?_) (fun g36 => ?_)
  · rw [if_neg g36] at h34
    refine zz_iload_n C 2 dX8_agreement_113 rfl rfl ?_
    refine zz_i2d C dX8_agreement_114 ?_
    refine zz_iload_n C 1 dX8_agreement_115 rfl rfl ?_
    refine zz_i2d C dX8_agreement_116 ?_
    obtain ⟨x37, h38, h34⟩ := zz_bind h34
    refine zz_ddiv C dX8_agreement_117 (zz_dd_in h38).1 ?_
    refine zz_topd (zz_dd_in h38).2 ?_
    cases h34
    exact J35
  · rw [if_pos g36] at h34
    refine zz_dconst1 C dX8_agreement_109 ?_
    refine zz_goto (tgt := 118) C dX8_agreement_110 (by decide) ?_
    cases h34
    exact J35
theorem dX8_digest_0 : decode cX8_digest 0 = .ok (.aload_n 0, 1) := by decide +kernel
theorem dX8_digest_1 : decode cX8_digest 1 = .ok (.iconst 0, 1) := by decide +kernel
theorem dX8_digest_2 : decode cX8_digest 2 = .ok (.putfield 63, 3) := by decide +kernel
theorem dX8_digest_5 : decode cX8_digest 5 = .ok (.ldc2_w 198, 3) := by decide +kernel
theorem dX8_digest_8 : decode cX8_digest 8 = .ok (.aload_n 0, 1) := by decide +kernel
theorem dX8_digest_9 : decode cX8_digest 9 = .ok (.getfield 66, 3) := by decide +kernel
theorem dX8_digest_12 : decode cX8_digest 12 = .ok (.i2l, 1) := by decide +kernel
theorem dX8_digest_13 : decode cX8_digest 13 = .ok (.ladd, 1) := by decide +kernel
theorem dX8_digest_14 : decode cX8_digest 14 = .ok (.lstore_n 1, 1) := by decide +kernel
theorem dX8_digest_15 : decode cX8_digest 15 = .ok (.iconst 0, 1) := by decide +kernel
theorem dX8_digest_16 : decode cX8_digest 16 = .ok (.istore_n 3, 1) := by decide +kernel
theorem dX8_digest_17 : decode cX8_digest 17 = .ok (.iload_n 3, 1) := by decide +kernel
theorem dX8_digest_18 : decode cX8_digest 18 = .ok (.aload_n 0, 1) := by decide +kernel
theorem dX8_digest_19 : decode cX8_digest 19 = .ok (.getfield 66, 3) := by decide +kernel
theorem dX8_digest_22 : decode cX8_digest 22 = .ok (.if_icmp .ge 87, 3) := by decide +kernel
theorem dX8_digest_25 : decode cX8_digest 25 = .ok (.iconst 0, 1) := by decide +kernel
theorem dX8_digest_26 : decode cX8_digest 26 = .ok (.istore 4, 2) := by decide +kernel
theorem dX8_digest_28 : decode cX8_digest 28 = .ok (.iload 4, 2) := by decide +kernel
theorem dX8_digest_30 : decode cX8_digest 30 = .ok (.iconst 4, 1) := by decide +kernel
theorem dX8_digest_31 : decode cX8_digest 31 = .ok (.if_icmp .ge 28, 3) := by decide +kernel
theorem dX8_digest_34 : decode cX8_digest 34 = .ok (.lload_n 1, 1) := by decide +kernel
theorem dX8_digest_35 : decode cX8_digest 35 = .ok (.ldc2_w 200, 3) := by decide +kernel
theorem dX8_digest_38 : decode cX8_digest 38 = .ok (.lmul, 1) := by decide +kernel
theorem dX8_digest_39 : decode cX8_digest 39 = .ok (.aload_n 0, 1) := by decide +kernel
theorem dX8_digest_40 : decode cX8_digest 40 = .ok (.getfield 9, 3) := by decide +kernel
theorem dX8_digest_43 : decode cX8_digest 43 = .ok (.iconst 4, 1) := by decide +kernel
theorem dX8_digest_44 : decode cX8_digest 44 = .ok (.iload_n 3, 1) := by decide +kernel
theorem dX8_digest_45 : decode cX8_digest 45 = .ok (.imul, 1) := by decide +kernel
theorem dX8_digest_46 : decode cX8_digest 46 = .ok (.iload 4, 2) := by decide +kernel
theorem dX8_digest_48 : decode cX8_digest 48 = .ok (.iadd, 1) := by decide +kernel
theorem dX8_digest_49 : decode cX8_digest 49 = .ok (.iaload, 1) := by decide +kernel
theorem dX8_digest_50 : decode cX8_digest 50 = .ok (.i2l, 1) := by decide +kernel
theorem dX8_digest_51 : decode cX8_digest 51 = .ok (.ladd, 1) := by decide +kernel
theorem dX8_digest_52 : decode cX8_digest 52 = .ok (.lstore_n 1, 1) := by decide +kernel
theorem dX8_digest_53 : decode cX8_digest 53 = .ok (.iinc 4 1, 3) := by decide +kernel
theorem dX8_digest_56 : decode cX8_digest 56 = .ok (.goto (-28), 3) := by decide +kernel
theorem dX8_digest_59 : decode cX8_digest 59 = .ok (.iconst 0, 1) := by decide +kernel
theorem dX8_digest_60 : decode cX8_digest 60 = .ok (.istore 4, 2) := by decide +kernel
theorem dX8_digest_62 : decode cX8_digest 62 = .ok (.iload 4, 2) := by decide +kernel
theorem dX8_digest_64 : decode cX8_digest 64 = .ok (.iconst 4, 1) := by decide +kernel
theorem dX8_digest_65 : decode cX8_digest 65 = .ok (.if_icmp .ge 24, 3) := by decide +kernel
theorem dX8_digest_68 : decode cX8_digest 68 = .ok (.lload_n 1, 1) := by decide +kernel
theorem dX8_digest_69 : decode cX8_digest 69 = .ok (.ldc2_w 200, 3) := by decide +kernel
theorem dX8_digest_72 : decode cX8_digest 72 = .ok (.lmul, 1) := by decide +kernel
theorem dX8_digest_73 : decode cX8_digest 73 = .ok (.aload_n 0, 1) := by decide +kernel
theorem dX8_digest_74 : decode cX8_digest 74 = .ok (.iload_n 3, 1) := by decide +kernel
theorem dX8_digest_75 : decode cX8_digest 75 = .ok (.iload 4, 2) := by decide +kernel
theorem dX8_digest_77 : decode cX8_digest 77 = .ok (.invokevirtual 85, 3) := by decide +kernel
theorem dX8_digest_80 : decode cX8_digest 80 = .ok (.i2l, 1) := by decide +kernel
theorem dX8_digest_81 : decode cX8_digest 81 = .ok (.ladd, 1) := by decide +kernel
theorem dX8_digest_82 : decode cX8_digest 82 = .ok (.lstore_n 1, 1) := by decide +kernel
theorem dX8_digest_83 : decode cX8_digest 83 = .ok (.iinc 4 1, 3) := by decide +kernel
theorem dX8_digest_86 : decode cX8_digest 86 = .ok (.goto (-24), 3) := by decide +kernel
theorem dX8_digest_89 : decode cX8_digest 89 = .ok (.lload_n 1, 1) := by decide +kernel
theorem dX8_digest_90 : decode cX8_digest 90 = .ok (.ldc2_w 200, 3) := by decide +kernel
theorem dX8_digest_93 : decode cX8_digest 93 = .ok (.lmul, 1) := by decide +kernel
theorem dX8_digest_94 : decode cX8_digest 94 = .ok (.aload_n 0, 1) := by decide +kernel
theorem dX8_digest_95 : decode cX8_digest 95 = .ok (.getfield 16, 3) := by decide +kernel
theorem dX8_digest_98 : decode cX8_digest 98 = .ok (.iload_n 3, 1) := by decide +kernel
theorem dX8_digest_99 : decode cX8_digest 99 = .ok (.iaload, 1) := by decide +kernel
theorem dX8_digest_100 : decode cX8_digest 100 = .ok (.i2l, 1) := by decide +kernel
theorem dX8_digest_101 : decode cX8_digest 101 = .ok (.ladd, 1) := by decide +kernel
theorem dX8_digest_102 : decode cX8_digest 102 = .ok (.lstore_n 1, 1) := by decide +kernel
theorem dX8_digest_103 : decode cX8_digest 103 = .ok (.iinc 3 1, 3) := by decide +kernel
theorem dX8_digest_106 : decode cX8_digest 106 = .ok (.goto (-89), 3) := by decide +kernel
theorem dX8_digest_109 : decode cX8_digest 109 = .ok (.iconst 0, 1) := by decide +kernel
theorem dX8_digest_110 : decode cX8_digest 110 = .ok (.istore_n 3, 1) := by decide +kernel
theorem dX8_digest_111 : decode cX8_digest 111 = .ok (.iload_n 3, 1) := by decide +kernel
theorem dX8_digest_112 : decode cX8_digest 112 = .ok (.iconst 4, 1) := by decide +kernel
theorem dX8_digest_113 : decode cX8_digest 113 = .ok (.if_icmp .ge 23, 3) := by decide +kernel
theorem dX8_digest_116 : decode cX8_digest 116 = .ok (.lload_n 1, 1) := by decide +kernel
theorem dX8_digest_117 : decode cX8_digest 117 = .ok (.ldc2_w 200, 3) := by decide +kernel
theorem dX8_digest_120 : decode cX8_digest 120 = .ok (.lmul, 1) := by decide +kernel
theorem dX8_digest_121 : decode cX8_digest 121 = .ok (.aload_n 0, 1) := by decide +kernel
theorem dX8_digest_122 : decode cX8_digest 122 = .ok (.getfield 29, 3) := by decide +kernel
theorem dX8_digest_125 : decode cX8_digest 125 = .ok (.iload_n 3, 1) := by decide +kernel
theorem dX8_digest_126 : decode cX8_digest 126 = .ok (.iaload, 1) := by decide +kernel
theorem dX8_digest_127 : decode cX8_digest 127 = .ok (.i2l, 1) := by decide +kernel
theorem dX8_digest_128 : decode cX8_digest 128 = .ok (.ladd, 1) := by decide +kernel
theorem dX8_digest_129 : decode cX8_digest 129 = .ok (.lstore_n 1, 1) := by decide +kernel
theorem dX8_digest_130 : decode cX8_digest 130 = .ok (.iinc 3 1, 3) := by decide +kernel
theorem dX8_digest_133 : decode cX8_digest 133 = .ok (.goto (-22), 3) := by decide +kernel
theorem dX8_digest_136 : decode cX8_digest 136 = .ok (.lload_n 1, 1) := by decide +kernel
theorem dX8_digest_137 : decode cX8_digest 137 = .ok (.ldc2_w 200, 3) := by decide +kernel
theorem dX8_digest_140 : decode cX8_digest 140 = .ok (.lmul, 1) := by decide +kernel
theorem dX8_digest_141 : decode cX8_digest 141 = .ok (.aload_n 0, 1) := by decide +kernel
theorem dX8_digest_142 : decode cX8_digest 142 = .ok (.getfield 32, 3) := by decide +kernel
theorem dX8_digest_145 : decode cX8_digest 145 = .ok (.i2l, 1) := by decide +kernel
theorem dX8_digest_146 : decode cX8_digest 146 = .ok (.ladd, 1) := by decide +kernel
theorem dX8_digest_147 : decode cX8_digest 147 = .ok (.ldc2_w 200, 3) := by decide +kernel
theorem dX8_digest_150 : decode cX8_digest 150 = .ok (.lmul, 1) := by decide +kernel
theorem dX8_digest_151 : decode cX8_digest 151 = .ok (.aload_n 0, 1) := by decide +kernel
theorem dX8_digest_152 : decode cX8_digest 152 = .ok (.getfield 36, 3) := by decide +kernel
theorem dX8_digest_155 : decode cX8_digest 155 = .ok (.i2l, 1) := by decide +kernel
theorem dX8_digest_156 : decode cX8_digest 156 = .ok (.ladd, 1) := by decide +kernel
theorem dX8_digest_157 : decode cX8_digest 157 = .ok (.ldc2_w 200, 3) := by decide +kernel
theorem dX8_digest_160 : decode cX8_digest 160 = .ok (.lmul, 1) := by decide +kernel
theorem dX8_digest_161 : decode cX8_digest 161 = .ok (.aload_n 0, 1) := by decide +kernel
theorem dX8_digest_162 : decode cX8_digest 162 = .ok (.getfield 39, 3) := by decide +kernel
theorem dX8_digest_165 : decode cX8_digest 165 = .ok (.i2l, 1) := by decide +kernel
theorem dX8_digest_166 : decode cX8_digest 166 = .ok (.ladd, 1) := by decide +kernel
theorem dX8_digest_167 : decode cX8_digest 167 = .ok (.lstore_n 1, 1) := by decide +kernel
theorem dX8_digest_168 : decode cX8_digest 168 = .ok (.iconst 0, 1) := by decide +kernel
theorem dX8_digest_169 : decode cX8_digest 169 = .ok (.istore_n 3, 1) := by decide +kernel
theorem dX8_digest_170 : decode cX8_digest 170 = .ok (.iload_n 3, 1) := by decide +kernel
theorem dX8_digest_171 : decode cX8_digest 171 = .ok (.bipush 16, 2) := by decide +kernel
theorem dX8_digest_173 : decode cX8_digest 173 = .ok (.if_icmp .ge 42, 3) := by decide +kernel
theorem dX8_digest_176 : decode cX8_digest 176 = .ok (.lload_n 1, 1) := by decide +kernel
theorem dX8_digest_177 : decode cX8_digest 177 = .ok (.ldc2_w 200, 3) := by decide +kernel
theorem dX8_digest_180 : decode cX8_digest 180 = .ok (.lmul, 1) := by decide +kernel
theorem dX8_digest_181 : decode cX8_digest 181 = .ok (.aload_n 0, 1) := by decide +kernel
theorem dX8_digest_182 : decode cX8_digest 182 = .ok (.getfield 22, 3) := by decide +kernel
theorem dX8_digest_185 : decode cX8_digest 185 = .ok (.iload_n 3, 1) := by decide +kernel
theorem dX8_digest_186 : decode cX8_digest 186 = .ok (.baload, 1) := by decide +kernel
theorem dX8_digest_187 : decode cX8_digest 187 = .ok (.ifCond .eq 7, 3) := by decide +kernel
theorem dX8_digest_190 : decode cX8_digest 190 = .ok (.lconst 1, 1) := by decide +kernel
theorem dX8_digest_191 : decode cX8_digest 191 = .ok (.goto 4, 3) := by decide +kernel
theorem dX8_digest_194 : decode cX8_digest 194 = .ok (.lconst 0, 1) := by decide +kernel
theorem dX8_digest_195 : decode cX8_digest 195 = .ok (.ladd, 1) := by decide +kernel
theorem dX8_digest_196 : decode cX8_digest 196 = .ok (.ldc2_w 200, 3) := by decide +kernel
theorem dX8_digest_199 : decode cX8_digest 199 = .ok (.lmul, 1) := by decide +kernel
theorem dX8_digest_200 : decode cX8_digest 200 = .ok (.aload_n 0, 1) := by decide +kernel
theorem dX8_digest_201 : decode cX8_digest 201 = .ok (.getfield 26, 3) := by decide +kernel
theorem dX8_digest_204 : decode cX8_digest 204 = .ok (.iload_n 3, 1) := by decide +kernel
theorem dX8_digest_205 : decode cX8_digest 205 = .ok (.iaload, 1) := by decide +kernel
theorem dX8_digest_206 : decode cX8_digest 206 = .ok (.i2l, 1) := by decide +kernel
theorem dX8_digest_207 : decode cX8_digest 207 = .ok (.ladd, 1) := by decide +kernel
theorem dX8_digest_208 : decode cX8_digest 208 = .ok (.lstore_n 1, 1) := by decide +kernel
theorem dX8_digest_209 : decode cX8_digest 209 = .ok (.iinc 3 1, 3) := by decide +kernel
theorem dX8_digest_212 : decode cX8_digest 212 = .ok (.goto (-42), 3) := by decide +kernel
theorem dX8_digest_215 : decode cX8_digest 215 = .ok (.aload_n 0, 1) := by decide +kernel
theorem dX8_digest_216 : decode cX8_digest 216 = .ok (.invokevirtual 191, 3) := by decide +kernel
theorem dX8_digest_219 : decode cX8_digest 219 = .ok (.istore_n 3, 1) := by decide +kernel
theorem dX8_digest_220 : decode cX8_digest 220 = .ok (.lload_n 1, 1) := by decide +kernel
theorem dX8_digest_221 : decode cX8_digest 221 = .ok (.ldc2_w 200, 3) := by decide +kernel
theorem dX8_digest_224 : decode cX8_digest 224 = .ok (.lmul, 1) := by decide +kernel
theorem dX8_digest_225 : decode cX8_digest 225 = .ok (.aload_n 0, 1) := by decide +kernel
theorem dX8_digest_226 : decode cX8_digest 226 = .ok (.aload_n 0, 1) := by decide +kernel
theorem dX8_digest_227 : decode cX8_digest 227 = .ok (.getfield 42, 3) := by decide +kernel
theorem dX8_digest_230 : decode cX8_digest 230 = .ok (.invokevirtual 149, 3) := by decide +kernel
theorem dX8_digest_233 : decode cX8_digest 233 = .ok (.i2l, 1) := by decide +kernel
theorem dX8_digest_234 : decode cX8_digest 234 = .ok (.ladd, 1) := by decide +kernel
theorem dX8_digest_235 : decode cX8_digest 235 = .ok (.lstore_n 1, 1) := by decide +kernel
theorem dX8_digest_236 : decode cX8_digest 236 = .ok (.iconst 0, 1) := by decide +kernel
theorem dX8_digest_237 : decode cX8_digest 237 = .ok (.istore 4, 2) := by decide +kernel
theorem dX8_digest_239 : decode cX8_digest 239 = .ok (.iload 4, 2) := by decide +kernel
theorem dX8_digest_241 : decode cX8_digest 241 = .ok (.aload_n 0, 1) := by decide +kernel
theorem dX8_digest_242 : decode cX8_digest 242 = .ok (.getfield 66, 3) := by decide +kernel
theorem dX8_digest_245 : decode cX8_digest 245 = .ok (.if_icmp .ge 39, 3) := by decide +kernel
theorem dX8_digest_248 : decode cX8_digest 248 = .ok (.aload_n 0, 1) := by decide +kernel
theorem dX8_digest_249 : decode cX8_digest 249 = .ok (.getfield 42, 3) := by decide +kernel
theorem dX8_digest_252 : decode cX8_digest 252 = .ok (.iload 4, 2) := by decide +kernel
theorem dX8_digest_254 : decode cX8_digest 254 = .ok (.iaload, 1) := by decide +kernel
theorem dX8_digest_255 : decode cX8_digest 255 = .ok (.iload 4, 2) := by decide +kernel
theorem dX8_digest_257 : decode cX8_digest 257 = .ok (.if_icmp .ne 21, 3) := by decide +kernel
theorem dX8_digest_260 : decode cX8_digest 260 = .ok (.lload_n 1, 1) := by decide +kernel
theorem dX8_digest_261 : decode cX8_digest 261 = .ok (.ldc2_w 200, 3) := by decide +kernel
theorem dX8_digest_264 : decode cX8_digest 264 = .ok (.lmul, 1) := by decide +kernel
theorem dX8_digest_265 : decode cX8_digest 265 = .ok (.aload_n 0, 1) := by decide +kernel
theorem dX8_digest_266 : decode cX8_digest 266 = .ok (.aload_n 0, 1) := by decide +kernel
theorem dX8_digest_267 : decode cX8_digest 267 = .ok (.getfield 42, 3) := by decide +kernel
theorem dX8_digest_270 : decode cX8_digest 270 = .ok (.iload 4, 2) := by decide +kernel
theorem dX8_digest_272 : decode cX8_digest 272 = .ok (.invokevirtual 157, 3) := by decide +kernel
theorem dX8_digest_275 : decode cX8_digest 275 = .ok (.i2l, 1) := by decide +kernel
theorem dX8_digest_276 : decode cX8_digest 276 = .ok (.ladd, 1) := by decide +kernel
theorem dX8_digest_277 : decode cX8_digest 277 = .ok (.lstore_n 1, 1) := by decide +kernel
theorem dX8_digest_278 : decode cX8_digest 278 = .ok (.iinc 4 1, 3) := by decide +kernel
theorem dX8_digest_281 : decode cX8_digest 281 = .ok (.goto (-42), 3) := by decide +kernel
theorem dX8_digest_284 : decode cX8_digest 284 = .ok (.lload_n 1, 1) := by decide +kernel
theorem dX8_digest_285 : decode cX8_digest 285 = .ok (.ldc2_w 200, 3) := by decide +kernel
theorem dX8_digest_288 : decode cX8_digest 288 = .ok (.lmul, 1) := by decide +kernel
theorem dX8_digest_289 : decode cX8_digest 289 = .ok (.aload_n 0, 1) := by decide +kernel
theorem dX8_digest_290 : decode cX8_digest 290 = .ok (.getfield 173, 3) := by decide +kernel
theorem dX8_digest_293 : decode cX8_digest 293 = .ok (.i2l, 1) := by decide +kernel
theorem dX8_digest_294 : decode cX8_digest 294 = .ok (.ladd, 1) := by decide +kernel
theorem dX8_digest_295 : decode cX8_digest 295 = .ok (.lstore_n 1, 1) := by decide +kernel
theorem dX8_digest_296 : decode cX8_digest 296 = .ok (.iconst 0, 1) := by decide +kernel
theorem dX8_digest_297 : decode cX8_digest 297 = .ok (.istore 4, 2) := by decide +kernel
theorem dX8_digest_299 : decode cX8_digest 299 = .ok (.iload 4, 2) := by decide +kernel
theorem dX8_digest_301 : decode cX8_digest 301 = .ok (.aload_n 0, 1) := by decide +kernel
theorem dX8_digest_302 : decode cX8_digest 302 = .ok (.getfield 173, 3) := by decide +kernel
theorem dX8_digest_305 : decode cX8_digest 305 = .ok (.if_icmp .ge 32, 3) := by decide +kernel
theorem dX8_digest_308 : decode cX8_digest 308 = .ok (.lload_n 1, 1) := by decide +kernel
theorem dX8_digest_309 : decode cX8_digest 309 = .ok (.ldc2_w 200, 3) := by decide +kernel
theorem dX8_digest_312 : decode cX8_digest 312 = .ok (.lmul, 1) := by decide +kernel
theorem dX8_digest_313 : decode cX8_digest 313 = .ok (.aload_n 0, 1) := by decide +kernel
theorem dX8_digest_314 : decode cX8_digest 314 = .ok (.aload_n 0, 1) := by decide +kernel
theorem dX8_digest_315 : decode cX8_digest 315 = .ok (.getfield 48, 3) := by decide +kernel
theorem dX8_digest_318 : decode cX8_digest 318 = .ok (.aload_n 0, 1) := by decide +kernel
theorem dX8_digest_319 : decode cX8_digest 319 = .ok (.getfield 51, 3) := by decide +kernel
theorem dX8_digest_322 : decode cX8_digest 322 = .ok (.iload 4, 2) := by decide +kernel
theorem dX8_digest_324 : decode cX8_digest 324 = .ok (.iaload, 1) := by decide +kernel
theorem dX8_digest_325 : decode cX8_digest 325 = .ok (.invokevirtual 157, 3) := by decide +kernel
theorem dX8_digest_328 : decode cX8_digest 328 = .ok (.i2l, 1) := by decide +kernel
theorem dX8_digest_329 : decode cX8_digest 329 = .ok (.ladd, 1) := by decide +kernel
theorem dX8_digest_330 : decode cX8_digest 330 = .ok (.lstore_n 1, 1) := by decide +kernel
theorem dX8_digest_331 : decode cX8_digest 331 = .ok (.iinc 4 1, 3) := by decide +kernel
theorem dX8_digest_334 : decode cX8_digest 334 = .ok (.goto (-35), 3) := by decide +kernel
theorem dX8_digest_337 : decode cX8_digest 337 = .ok (.lload_n 1, 1) := by decide +kernel
theorem dX8_digest_338 : decode cX8_digest 338 = .ok (.ldc2_w 200, 3) := by decide +kernel
theorem dX8_digest_341 : decode cX8_digest 341 = .ok (.lmul, 1) := by decide +kernel
theorem dX8_digest_342 : decode cX8_digest 342 = .ok (.iload_n 3, 1) := by decide +kernel
theorem dX8_digest_343 : decode cX8_digest 343 = .ok (.i2l, 1) := by decide +kernel
theorem dX8_digest_344 : decode cX8_digest 344 = .ok (.ladd, 1) := by decide +kernel
theorem dX8_digest_345 : decode cX8_digest 345 = .ok (.lreturn, 1) := by decide +kernel
set_option maxHeartbeats 4000000 in
set_option maxRecDepth 100000 in
theorem mX8_digest_L2 {p : Program} {l : Launch} {e : Env} {R : Room} {s : State} {m : MethodId} {args : Array Value} {below : List Frame} {meth : Method} {c : Code} {Q : State → Prop} {D : va_G} {U : zz_U} {A : Nat → Prop} {cells slots : Nat} {ad : Nat → Nat} {X : va_W} {ρ : zz_St} (C : zz_C p l R s m meth c D U A RX8 cX8_digest 5 (some .long) [] 7) (hcR : cells ≤ R.cells) (hsR : slots ≤ R.slots) (σ : zz_St) (p_ : Int32) : ∀ (n : Nat) (d_ : Int64) (k_ : Int32) (q : (Int64 × Int32)), fX8_digest_L2 σ p_ n d_ k_ = some q → (zz_Z p l e R s m args below meth c Q D A 5 cells slots (zz_wm U ad ρ σ X) 59 [(0, .ref (ad 47)), (1, .long q.1), (3, .int p_), (4, .int q.2)] []) → zz_Z p l e R s m args below meth c Q D A 5 cells slots (zz_wm U ad ρ σ X) 28 [(0, .ref (ad 47)), (1, .long d_), (3, .int p_), (4, .int k_)] [] := by
  intro n
  induction n with
  | zero => intro d_ k_ q hf; rw [fX8_digest_L2] at hf; cases hf
  | succ n ih =>
    intro d_ k_ q hf kx
    rw [fX8_digest_L2] at hf
    refine zz_iload C 3 dX8_digest_28 rfl ?_
    refine zz_iconst (v := (4 : Int32)) C dX8_digest_30 (by decide) ?_
    refine zz_icmp_ge (tgt := 59) C dX8_digest_31 (by decide) (fun g4 => ?_) (fun g4 => ?_)
    · rw [if_pos g4] at hf
      cases hf
      exact kx
    · rw [if_neg g4] at hf
      refine zz_lload_n C 1 dX8_digest_34 rfl rfl ?_
      refine zz_ldc2 (v := (31 : Int64)) C dX8_digest_35 zw_204 ?_
      refine zz_lmul C dX8_digest_38 ?_
      refine zz_aload_n C 0 dX8_digest_39 rfl rfl ?_
      refine zf8_places C dX8_digest_40 zw_152 ?_
      refine zz_iconst (v := (4 : Int32)) C dX8_digest_43 (by decide) ?_
      refine zz_iload_n C 2 dX8_digest_44 rfl rfl ?_
      refine zz_imul C dX8_digest_45 ?_
      refine zz_iload C 3 dX8_digest_46 rfl ?_
      refine zz_iadd C dX8_digest_48 ?_
      obtain ⟨x5, h6, hf⟩ := zz_bind hf
      refine zl_48 C dX8_digest_49 h6 ?_
      refine zz_i2l C dX8_digest_50 ?_
      refine zz_ladd C dX8_digest_51 ?_
      obtain ⟨x7, h8, hf⟩ := zz_bind hf
      refine zz_topl (Option.some.inj h8) ?_
      refine zz_lstore_n C dX8_digest_52 rfl (by decide) (lv' := [(1, .long x7), (0, .ref (ad 47)), (3, .int p_), (4, .int k_)]) rfl ?_
      refine zz_iinc (v := (k_ + (1 : Int32))) C 3 dX8_digest_53 rfl (by rfl) (by decide) (lv' := [(4, .int (k_ + (1 : Int32))), (1, .long x7), (0, .ref (ad 47)), (3, .int p_)]) rfl ?_
      refine zz_goto (tgt := 28) C dX8_digest_56 (by decide) ?_
      refine zz_sub [2, 1, 3, 0] rfl ?_
      exact ih x7 (k_ + (1 : Int32)) _ hf kx
set_option maxHeartbeats 4000000 in
set_option maxRecDepth 100000 in
theorem mX8_digest_L3 {p : Program} {l : Launch} {e : Env} {R : Room} {s : State} {m : MethodId} {args : Array Value} {below : List Frame} {meth : Method} {c : Code} {Q : State → Prop} {D : va_G} {U : zz_U} {A : Nat → Prop} {cells slots : Nat} {ad : Nat → Nat} {X : va_W} {ρ : zz_St} (C : zz_C p l R s m meth c D U A RX8 cX8_digest 5 (some .long) [] 7) (hcR : cells ≤ R.cells) (hsR : slots ≤ R.slots) (σ : zz_St) (p_ : Int32) : ∀ (n : Nat) (d_ : Int64) (what_ : Int32) (q : (Int64 × Int32)), fX8_digest_L3 σ p_ n d_ what_ = some q → (zz_Z p l e R s m args below meth c Q D A 5 cells slots (zz_wm U ad ρ σ X) 89 [(0, .ref (ad 47)), (1, .long q.1), (3, .int p_), (4, .int q.2)] []) → zz_Z p l e R s m args below meth c Q D A 5 cells slots (zz_wm U ad ρ σ X) 62 [(0, .ref (ad 47)), (1, .long d_), (3, .int p_), (4, .int what_)] [] := by
  intro n
  induction n with
  | zero => intro d_ what_ q hf; rw [fX8_digest_L3] at hf; cases hf
  | succ n ih =>
    intro d_ what_ q hf kx
    rw [fX8_digest_L3] at hf
    refine zz_iload C 3 dX8_digest_62 rfl ?_
    refine zz_iconst (v := (4 : Int32)) C dX8_digest_64 (by decide) ?_
    refine zz_icmp_ge (tgt := 89) C dX8_digest_65 (by decide) (fun g11 => ?_) (fun g11 => ?_)
    · rw [if_pos g11] at hf
      cases hf
      exact kx
    · rw [if_neg g11] at hf
      refine zz_lload_n C 1 dX8_digest_68 rfl rfl ?_
      refine zz_ldc2 (v := (31 : Int64)) C dX8_digest_69 zw_204 ?_
      refine zz_lmul C dX8_digest_72 ?_
      refine zz_aload_n C 0 dX8_digest_73 rfl rfl ?_
      refine zz_iload_n C 2 dX8_digest_74 rfl rfl ?_
      refine zz_iload C 3 dX8_digest_75 rfl ?_
      obtain ⟨x12, h13, hf⟩ := zz_bind hf
      refine zz_callV1 (As := [.int p_, .int what_]) (rest := [.long (d_ * (31 : Int64))]) C 47 (mX8_namesOf σ p_ what_ x12 h13) dX8_digest_77 rfl rfl rfl zw_156 zy_X8_namesOf rfl (by decide) (by decide) (Nat.le_of_ble_eq_true rfl) hcR hsR rfl ?_
      refine zz_i2l C dX8_digest_80 ?_
      refine zz_ladd C dX8_digest_81 ?_
      obtain ⟨x14, h15, hf⟩ := zz_bind hf
      refine zz_topl (Option.some.inj h15) ?_
      refine zz_lstore_n C dX8_digest_82 rfl (by decide) (lv' := [(1, .long x14), (0, .ref (ad 47)), (3, .int p_), (4, .int what_)]) rfl ?_
      refine zz_iinc (v := (what_ + (1 : Int32))) C 3 dX8_digest_83 rfl (by rfl) (by decide) (lv' := [(4, .int (what_ + (1 : Int32))), (1, .long x14), (0, .ref (ad 47)), (3, .int p_)]) rfl ?_
      refine zz_goto (tgt := 62) C dX8_digest_86 (by decide) ?_
      refine zz_sub [2, 1, 3, 0] rfl ?_
      exact ih x14 (what_ + (1 : Int32)) _ hf kx
set_option maxHeartbeats 4000000 in
set_option maxRecDepth 100000 in
theorem mX8_digest_L1 {p : Program} {l : Launch} {e : Env} {R : Room} {s : State} {m : MethodId} {args : Array Value} {below : List Frame} {meth : Method} {c : Code} {Q : State → Prop} {D : va_G} {U : zz_U} {A : Nat → Prop} {cells slots : Nat} {ad : Nat → Nat} {X : va_W} {ρ : zz_St} (C : zz_C p l R s m meth c D U A RX8 cX8_digest 5 (some .long) [] 7) (hcR : cells ≤ R.cells) (hsR : slots ≤ R.slots) (σ : zz_St) : ∀ (n : Nat) (d_ : Int64) (p_ : Int32) (q : (Int64 × Int32)), fX8_digest_L1 σ n d_ p_ = some q → (zz_Z p l e R s m args below meth c Q D A 5 cells slots (zz_wm U ad ρ σ X) 109 [(0, .ref (ad 47)), (1, .long q.1), (3, .int q.2)] []) → zz_Z p l e R s m args below meth c Q D A 5 cells slots (zz_wm U ad ρ σ X) 17 [(0, .ref (ad 47)), (1, .long d_), (3, .int p_)] [] := by
  intro n
  induction n with
  | zero => intro d_ p_ q hf; rw [fX8_digest_L1] at hf; cases hf
  | succ n ih =>
    intro d_ p_ q hf kx
    rw [fX8_digest_L1] at hf
    refine zz_iload_n C 2 dX8_digest_17 rfl rfl ?_
    refine zz_aload_n C 0 dX8_digest_18 rfl rfl ?_
    refine zf8_pieces C dX8_digest_19 zw_148 ?_
    refine zz_icmp_ge (tgt := 109) C dX8_digest_22 (by decide) (fun g3 => ?_) (fun g3 => ?_)
    · rw [if_pos g3] at hf
      cases hf
      exact kx
    · rw [if_neg g3] at hf
      refine zz_iconst (v := (0 : Int32)) C dX8_digest_25 (by decide) ?_
      refine zz_istore C dX8_digest_26 (by decide) (lv' := [(4, .int (0 : Int32)), (0, .ref (ad 47)), (1, .long d_), (3, .int p_)]) rfl ?_
      obtain ⟨q9, h10, hf⟩ := zz_bind hf
      refine zz_sub [1, 2, 3, 0] rfl ?_
      refine mX8_digest_L2 C hcR hsR σ p_ 1000 d_ (0 : Int32) q9 h10 ?_
      refine zz_iconst (v := (0 : Int32)) C dX8_digest_59 (by decide) ?_
      refine zz_istore C dX8_digest_60 (by decide) (lv' := [(4, .int (0 : Int32)), (0, .ref (ad 47)), (1, .long q9.1), (3, .int p_)]) rfl ?_
      obtain ⟨q16, h17, hf⟩ := zz_bind hf
      refine zz_sub [1, 2, 3, 0] rfl ?_
      refine mX8_digest_L3 C hcR hsR σ p_ 1000 q9.1 (0 : Int32) q16 h17 ?_
      refine zz_lload_n C 1 dX8_digest_89 rfl rfl ?_
      refine zz_ldc2 (v := (31 : Int64)) C dX8_digest_90 zw_204 ?_
      refine zz_lmul C dX8_digest_93 ?_
      refine zz_aload_n C 0 dX8_digest_94 rfl rfl ?_
      refine zf8_purposes C dX8_digest_95 zw_151 ?_
      refine zz_iload_n C 2 dX8_digest_98 rfl rfl ?_
      obtain ⟨x18, h19, hf⟩ := zz_bind hf
      refine zl_50 C dX8_digest_99 h19 ?_
      refine zz_i2l C dX8_digest_100 ?_
      refine zz_ladd C dX8_digest_101 ?_
      obtain ⟨x20, h21, hf⟩ := zz_bind hf
      refine zz_topl (Option.some.inj h21) ?_
      refine zz_lstore_n C dX8_digest_102 rfl (by decide) (lv' := [(1, .long x20), (0, .ref (ad 47)), (3, .int p_), (4, .int q16.2)]) rfl ?_
      refine zz_iinc (v := (p_ + (1 : Int32))) C 2 dX8_digest_103 rfl (by rfl) (by decide) (lv' := [(3, .int (p_ + (1 : Int32))), (1, .long x20), (0, .ref (ad 47)), (4, .int q16.2)]) rfl ?_
      refine zz_goto (tgt := 17) C dX8_digest_106 (by decide) ?_
      refine zz_sub [2, 1, 0] rfl ?_
      exact ih x20 (p_ + (1 : Int32)) _ hf kx
set_option maxHeartbeats 4000000 in
set_option maxRecDepth 100000 in
theorem mX8_digest_L4 {p : Program} {l : Launch} {e : Env} {R : Room} {s : State} {m : MethodId} {args : Array Value} {below : List Frame} {meth : Method} {c : Code} {Q : State → Prop} {D : va_G} {U : zz_U} {A : Nat → Prop} {cells slots : Nat} {ad : Nat → Nat} {X : va_W} {ρ : zz_St} (C : zz_C p l R s m meth c D U A RX8 cX8_digest 5 (some .long) [] 7) (hcR : cells ≤ R.cells) (hsR : slots ≤ R.slots) (σ : zz_St) : ∀ (n : Nat) (d_ : Int64) (kind_ : Int32) (q : (Int64 × Int32)), fX8_digest_L4 σ n d_ kind_ = some q → (zz_Z p l e R s m args below meth c Q D A 5 cells slots (zz_wm U ad ρ σ X) 136 [(0, .ref (ad 47)), (1, .long q.1), (3, .int q.2)] []) → zz_Z p l e R s m args below meth c Q D A 5 cells slots (zz_wm U ad ρ σ X) 111 [(0, .ref (ad 47)), (1, .long d_), (3, .int kind_)] [] := by
  intro n
  induction n with
  | zero => intro d_ kind_ q hf; rw [fX8_digest_L4] at hf; cases hf
  | succ n ih =>
    intro d_ kind_ q hf kx
    rw [fX8_digest_L4] at hf
    refine zz_iload_n C 2 dX8_digest_111 rfl rfl ?_
    refine zz_iconst (v := (4 : Int32)) C dX8_digest_112 (by decide) ?_
    refine zz_icmp_ge (tgt := 136) C dX8_digest_113 (by decide) (fun g24 => ?_) (fun g24 => ?_)
    · rw [if_pos g24] at hf
      cases hf
      exact kx
    · rw [if_neg g24] at hf
      refine zz_lload_n C 1 dX8_digest_116 rfl rfl ?_
      refine zz_ldc2 (v := (31 : Int64)) C dX8_digest_117 zw_204 ?_
      refine zz_lmul C dX8_digest_120 ?_
      refine zz_aload_n C 0 dX8_digest_121 rfl rfl ?_
      refine zf8_weights C dX8_digest_122 zw_159 ?_
      refine zz_iload_n C 2 dX8_digest_125 rfl rfl ?_
      obtain ⟨x25, h26, hf⟩ := zz_bind hf
      refine zl_54 C dX8_digest_126 h26 ?_
      refine zz_i2l C dX8_digest_127 ?_
      refine zz_ladd C dX8_digest_128 ?_
      obtain ⟨x27, h28, hf⟩ := zz_bind hf
      refine zz_topl (Option.some.inj h28) ?_
      refine zz_lstore_n C dX8_digest_129 rfl (by decide) (lv' := [(1, .long x27), (0, .ref (ad 47)), (3, .int kind_)]) rfl ?_
      refine zz_iinc (v := (kind_ + (1 : Int32))) C 2 dX8_digest_130 rfl (by rfl) (by decide) (lv' := [(3, .int (kind_ + (1 : Int32))), (1, .long x27), (0, .ref (ad 47))]) rfl ?_
      refine zz_goto (tgt := 111) C dX8_digest_133 (by decide) ?_
      refine zz_sub [2, 1, 0] rfl ?_
      exact ih x27 (kind_ + (1 : Int32)) _ hf kx
set_option maxHeartbeats 4000000 in
set_option maxRecDepth 100000 in
theorem mX8_digest_L5 {p : Program} {l : Launch} {e : Env} {R : Room} {s : State} {m : MethodId} {args : Array Value} {below : List Frame} {meth : Method} {c : Code} {Q : State → Prop} {D : va_G} {U : zz_U} {A : Nat → Prop} {cells slots : Nat} {ad : Nat → Nat} {X : va_W} {ρ : zz_St} (C : zz_C p l R s m meth c D U A RX8 cX8_digest 5 (some .long) [] 7) (hcR : cells ≤ R.cells) (hsR : slots ≤ R.slots) (σ : zz_St) : ∀ (n : Nat) (d_ : Int64) (name_ : Int32) (q : (Int64 × Int32)), fX8_digest_L5 σ n d_ name_ = some q → (zz_Z p l e R s m args below meth c Q D A 5 cells slots (zz_wm U ad ρ σ X) 215 [(0, .ref (ad 47)), (1, .long q.1), (3, .int q.2)] []) → zz_Z p l e R s m args below meth c Q D A 5 cells slots (zz_wm U ad ρ σ X) 170 [(0, .ref (ad 47)), (1, .long d_), (3, .int name_)] [] := by
  intro n
  induction n with
  | zero => intro d_ name_ q hf; rw [fX8_digest_L5] at hf; cases hf
  | succ n ih =>
    intro d_ name_ q hf kx
    rw [fX8_digest_L5] at hf
    refine zz_iload_n C 2 dX8_digest_170 rfl rfl ?_
    refine zz_bipush (v := (16 : Int32)) C dX8_digest_171 (by decide) ?_
    refine zz_icmp_ge (tgt := 215) C dX8_digest_173 (by decide) (fun g33 => ?_) (fun g33 => ?_)
    · rw [if_pos g33] at hf
      cases hf
      exact kx
    · rw [if_neg g33] at hf
      refine zz_lload_n C 1 dX8_digest_176 rfl rfl ?_
      refine zz_ldc2 (v := (31 : Int64)) C dX8_digest_177 zw_204 ?_
      refine zz_lmul C dX8_digest_180 ?_
      obtain ⟨x34, h35, hf⟩ := zz_bind hf
      refine zz_cut 195 [(0, .ref (ad 47)), (1, .long d_), (3, .int name_)] [.long x34, .long (d_ * (31 : Int64))] (zz_wm U ad ρ σ X) ?_ (fun J36 => ?_)
      · refine zz_ladd C dX8_digest_195 ?_
        refine zz_ldc2 (v := (31 : Int64)) C dX8_digest_196 zw_204 ?_
        refine zz_lmul C dX8_digest_199 ?_
        refine zz_aload_n C 0 dX8_digest_200 rfl rfl ?_
        refine zf8_otherUses C dX8_digest_201 zw_157 ?_
        refine zz_iload_n C 2 dX8_digest_204 rfl rfl ?_
        obtain ⟨x40, h41, hf⟩ := zz_bind hf
        refine zl_53 C dX8_digest_205 h41 ?_
        refine zz_i2l C dX8_digest_206 ?_
        refine zz_ladd C dX8_digest_207 ?_
        obtain ⟨x42, h43, hf⟩ := zz_bind hf
        refine zz_topl (Option.some.inj h43) ?_
        refine zz_lstore_n C dX8_digest_208 rfl (by decide) (lv' := [(1, .long x42), (0, .ref (ad 47)), (3, .int name_)]) rfl ?_
        refine zz_iinc (v := (name_ + (1 : Int32))) C 2 dX8_digest_209 rfl (by rfl) (by decide) (lv' := [(3, .int (name_ + (1 : Int32))), (1, .long x42), (0, .ref (ad 47))]) rfl ?_
        refine zz_goto (tgt := 170) C dX8_digest_212 (by decide) ?_
        refine zz_sub [2, 1, 0] rfl ?_
        exact ih x42 (name_ + (1 : Int32)) _ hf kx
      refine zz_aload_n C 0 dX8_digest_181 rfl rfl ?_
      refine zf8_areDefined C dX8_digest_182 zw_158 ?_
      refine zz_iload_n C 2 dX8_digest_185 rfl rfl ?_
      obtain ⟨x37, h38, h35⟩ := zz_bind h35
      refine zl_52 C dX8_digest_186 h38 ?_
      refine zz_if_eq (tgt := 194) C dX8_digest_187 (by decide) (fun g39 => ?_) (fun g39 => ?_)
      · rw [if_pos g39] at h35
        refine zz_lconst (v := (0 : Int64)) C dX8_digest_194 (by decide) ?_
        cases h35
        exact J36
      · rw [if_neg g39] at h35
        refine zz_lconst (v := (1 : Int64)) C dX8_digest_190 (by decide) ?_
        refine zz_goto (tgt := 195) C dX8_digest_191 (by decide) ?_
        cases h35
        exact J36
set_option maxHeartbeats 4000000 in
set_option maxRecDepth 100000 in
theorem mX8_digest_L6 {p : Program} {l : Launch} {e : Env} {R : Room} {s : State} {m : MethodId} {args : Array Value} {below : List Frame} {meth : Method} {c : Code} {Q : State → Prop} {D : va_G} {U : zz_U} {A : Nat → Prop} {cells slots : Nat} {ad : Nat → Nat} {X : va_W} {ρ : zz_St} (C : zz_C p l R s m meth c D U A RX8 cX8_digest 5 (some .long) [] 7) (hcR : cells ≤ R.cells) (hsR : slots ≤ R.slots) (σ : zz_St) (breakage_ : Int32) : ∀ (n : Nat) (d_ : Int64) (p_ : Int32) (q : (Int64 × Int32)), fX8_digest_L6 σ breakage_ n d_ p_ = some q → (zz_Z p l e R s m args below meth c Q D A 5 cells slots (zz_wm U ad ρ σ X) 284 [(0, .ref (ad 47)), (1, .long q.1), (3, .int breakage_), (4, .int q.2)] []) → zz_Z p l e R s m args below meth c Q D A 5 cells slots (zz_wm U ad ρ σ X) 239 [(0, .ref (ad 47)), (1, .long d_), (3, .int breakage_), (4, .int p_)] [] := by
  intro n
  induction n with
  | zero => intro d_ p_ q hf; rw [fX8_digest_L6] at hf; cases hf
  | succ n ih =>
    intro d_ p_ q hf kx
    rw [fX8_digest_L6] at hf
    refine zz_iload C 3 dX8_digest_239 rfl ?_
    refine zz_aload_n C 0 dX8_digest_241 rfl rfl ?_
    refine zf8_pieces C dX8_digest_242 zw_148 ?_
    refine zz_icmp_ge (tgt := 284) C dX8_digest_245 (by decide) (fun g52 => ?_) (fun g52 => ?_)
    · rw [if_pos g52] at hf
      cases hf
      exact kx
    · rw [if_neg g52] at hf
      obtain ⟨x53, h54, hf⟩ := zz_bind hf
      refine zz_cut 278 [(0, .ref (ad 47)), (1, .long x53), (3, .int breakage_), (4, .int p_)] [] (zz_wm U ad ρ σ X) ?_ (fun J55 => ?_)
      · refine zz_iinc (v := (p_ + (1 : Int32))) C 3 dX8_digest_278 rfl (by rfl) (by decide) (lv' := [(4, .int (p_ + (1 : Int32))), (0, .ref (ad 47)), (1, .long x53), (3, .int breakage_)]) rfl ?_
        refine zz_goto (tgt := 239) C dX8_digest_281 (by decide) ?_
        refine zz_sub [1, 2, 3, 0] rfl ?_
        exact ih x53 (p_ + (1 : Int32)) _ hf kx
      refine zz_aload_n C 0 dX8_digest_248 rfl rfl ?_
      refine zf8_heads C dX8_digest_249 zw_170 ?_
      refine zz_iload C 3 dX8_digest_252 rfl ?_
      obtain ⟨x56, h57, h54⟩ := zz_bind h54
      refine zl_55 C dX8_digest_254 h57 ?_
      refine zz_iload C 3 dX8_digest_255 rfl ?_
      refine zz_icmp_ne (tgt := 278) C dX8_digest_257 (by decide) (fun g58 => ?_) (fun g58 => ?_)
      · rw [if_neg g58] at h54
        cases h54
        exact J55
      · rw [if_pos g58] at h54
        refine zz_lload_n C 1 dX8_digest_260 rfl rfl ?_
        refine zz_ldc2 (v := (31 : Int64)) C dX8_digest_261 zw_204 ?_
        refine zz_lmul C dX8_digest_264 ?_
        refine zz_aload_n C 0 dX8_digest_265 rfl rfl ?_
        refine zz_aload_n C 0 dX8_digest_266 rfl rfl ?_
        refine zf8_heads C dX8_digest_267 zw_170 ?_
        refine zz_iload C 3 dX8_digest_270 rfl ?_
        obtain ⟨x59, h60, h54⟩ := zz_bind h54
        refine zz_callV1 (As := [.ref (ad 55), .int p_]) (rest := [.long (d_ * (31 : Int64))]) C 47 (mX8_setOf_a55 σ p_ x59 h60) dX8_digest_272 rfl rfl rfl zw_183 zy_X8_setOf rfl (by decide) (by decide) (Nat.le_of_ble_eq_true rfl) hcR hsR rfl ?_
        refine zz_i2l C dX8_digest_275 ?_
        refine zz_ladd C dX8_digest_276 ?_
        obtain ⟨x61, h62, h54⟩ := zz_bind h54
        refine zz_topl (Option.some.inj h62) ?_
        refine zz_lstore_n C dX8_digest_277 rfl (by decide) (lv' := [(1, .long x61), (0, .ref (ad 47)), (3, .int breakage_), (4, .int p_)]) rfl ?_
        refine zz_sub [1, 0, 2, 3] rfl ?_
        cases h54
        exact J55
set_option maxHeartbeats 4000000 in
set_option maxRecDepth 100000 in
theorem mX8_digest_L7 {p : Program} {l : Launch} {e : Env} {R : Room} {s : State} {m : MethodId} {args : Array Value} {below : List Frame} {meth : Method} {c : Code} {Q : State → Prop} {D : va_G} {U : zz_U} {A : Nat → Prop} {cells slots : Nat} {ad : Nat → Nat} {X : va_W} {ρ : zz_St} (C : zz_C p l R s m meth c D U A RX8 cX8_digest 5 (some .long) [] 7) (hcR : cells ≤ R.cells) (hsR : slots ≤ R.slots) (σ : zz_St) (breakage_ : Int32) : ∀ (n : Nat) (d_ : Int64) (k_ : Int32) (q : (Int64 × Int32)), fX8_digest_L7 σ breakage_ n d_ k_ = some q → (zz_Z p l e R s m args below meth c Q D A 5 cells slots (zz_wm U ad ρ σ X) 337 [(0, .ref (ad 47)), (1, .long q.1), (3, .int breakage_), (4, .int q.2)] []) → zz_Z p l e R s m args below meth c Q D A 5 cells slots (zz_wm U ad ρ σ X) 299 [(0, .ref (ad 47)), (1, .long d_), (3, .int breakage_), (4, .int k_)] [] := by
  intro n
  induction n with
  | zero => intro d_ k_ q hf; rw [fX8_digest_L7] at hf; cases hf
  | succ n ih =>
    intro d_ k_ q hf kx
    rw [fX8_digest_L7] at hf
    refine zz_iload C 3 dX8_digest_299 rfl ?_
    refine zz_aload_n C 0 dX8_digest_301 rfl rfl ?_
    refine zf8_parcels C dX8_digest_302 zw_191 ?_
    refine zz_icmp_ge (tgt := 337) C dX8_digest_305 (by decide) (fun g67 => ?_) (fun g67 => ?_)
    · rw [if_pos g67] at hf
      cases hf
      exact kx
    · rw [if_neg g67] at hf
      refine zz_lload_n C 1 dX8_digest_308 rfl rfl ?_
      refine zz_ldc2 (v := (31 : Int64)) C dX8_digest_309 zw_204 ?_
      refine zz_lmul C dX8_digest_312 ?_
      refine zz_aload_n C 0 dX8_digest_313 rfl rfl ?_
      refine zz_aload_n C 0 dX8_digest_314 rfl rfl ?_
      refine zf8_bundles C dX8_digest_315 zw_190 ?_
      refine zz_aload_n C 0 dX8_digest_318 rfl rfl ?_
      refine zf8_order C dX8_digest_319 zw_192 ?_
      refine zz_iload C 3 dX8_digest_322 rfl ?_
      obtain ⟨x68, h69, hf⟩ := zz_bind hf
      refine zl_58 C dX8_digest_324 h69 ?_
      obtain ⟨x70, h71, hf⟩ := zz_bind hf
      refine zz_callV1 (As := [.ref (ad 57), .int x68]) (rest := [.long (d_ * (31 : Int64))]) C 47 (mX8_setOf_a57 σ x68 x70 h71) dX8_digest_325 rfl rfl rfl zw_183 zy_X8_setOf rfl (by decide) (by decide) (Nat.le_of_ble_eq_true rfl) hcR hsR rfl ?_
      refine zz_i2l C dX8_digest_328 ?_
      refine zz_ladd C dX8_digest_329 ?_
      obtain ⟨x72, h73, hf⟩ := zz_bind hf
      refine zz_topl (Option.some.inj h73) ?_
      refine zz_lstore_n C dX8_digest_330 rfl (by decide) (lv' := [(1, .long x72), (0, .ref (ad 47)), (3, .int breakage_), (4, .int k_)]) rfl ?_
      refine zz_iinc (v := (k_ + (1 : Int32))) C 3 dX8_digest_331 rfl (by rfl) (by decide) (lv' := [(4, .int (k_ + (1 : Int32))), (1, .long x72), (0, .ref (ad 47)), (3, .int breakage_)]) rfl ?_
      refine zz_goto (tgt := 299) C dX8_digest_334 (by decide) ?_
      refine zz_sub [2, 1, 3, 0] rfl ?_
      exact ih x72 (k_ + (1 : Int32)) _ hf kx
set_option maxHeartbeats 4000000 in
set_option maxRecDepth 100000 in
theorem mX8_digest {D : va_G} {U : zz_U} {ad : Nat → Nat} {X : va_W} {ρ : zz_St} (σ : zz_St) (r : (Int64 × zz_St)) (hf : fX8_digest σ = some r) : zz_Met yX8_digest (.code yX8_digest cX8_digest 5 (some .long)) 7 0 0 D U [.ref (ad 47)] (zz_wm U ad ρ σ X) (zz_ok (some (.long r.1)) (zz_wm U ad ρ r.2 X)) zz_noth := by
  unfold fX8_digest at hf
  refine zz_method RX8 rfl (by decide +kernel) (Nat.le_of_ble_eq_true rfl) ?_
  intro p l e s m args below meth c A _ C
  refine zz_lvs (lv1 := [(0, .ref (ad 47))]) rfl ?_
  refine zz_aload_n C 0 dX8_digest_0 rfl rfl ?_
  refine zz_iconst (v := (0 : Int32)) C dX8_digest_1 (by decide) ?_
  refine zp8_thrown C dX8_digest_2 zw_145 ?_
  refine zz_ldc2 (v := (5363 : Int64)) C dX8_digest_5 zw_203 ?_
  refine zz_aload_n C 0 dX8_digest_8 rfl rfl ?_
  refine zf8_pieces C dX8_digest_9 zw_148 ?_
  refine zz_i2l C dX8_digest_12 ?_
  refine zz_ladd C dX8_digest_13 ?_
  obtain ⟨x1, h2, hf⟩ := zz_bind hf
  refine zz_topl (Option.some.inj h2) ?_
  refine zz_lstore_n C dX8_digest_14 rfl (by decide) (lv' := [(1, .long x1), (0, .ref (ad 47))]) rfl ?_
  refine zz_iconst (v := (0 : Int32)) C dX8_digest_15 (by decide) ?_
  refine zz_istore_n C dX8_digest_16 rfl (by decide) (lv' := [(3, .int (0 : Int32)), (1, .long x1), (0, .ref (ad 47))]) rfl ?_
  obtain ⟨q22, h23, hf⟩ := zz_bind hf
  refine zz_sub [2, 1, 0] rfl ?_
  refine mX8_digest_L1 C (Nat.le_of_ble_eq_true rfl) (Nat.le_of_ble_eq_true rfl) (zz_u σ 47 0 (0 : Int32)) 1000 x1 (0 : Int32) q22 h23 ?_
  refine zz_iconst (v := (0 : Int32)) C dX8_digest_109 (by decide) ?_
  refine zz_istore_n C dX8_digest_110 rfl (by decide) (lv' := [(3, .int (0 : Int32)), (0, .ref (ad 47)), (1, .long q22.1)]) rfl ?_
  obtain ⟨q29, h30, hf⟩ := zz_bind hf
  refine zz_sub [1, 2, 0] rfl ?_
  refine mX8_digest_L4 C (Nat.le_of_ble_eq_true rfl) (Nat.le_of_ble_eq_true rfl) (zz_u σ 47 0 (0 : Int32)) 1000 q22.1 (0 : Int32) q29 h30 ?_
  refine zz_lload_n C 1 dX8_digest_136 rfl rfl ?_
  refine zz_ldc2 (v := (31 : Int64)) C dX8_digest_137 zw_204 ?_
  refine zz_lmul C dX8_digest_140 ?_
  refine zz_aload_n C 0 dX8_digest_141 rfl rfl ?_
  refine zf8_span C dX8_digest_142 zw_160 ?_
  refine zz_i2l C dX8_digest_145 ?_
  refine zz_ladd C dX8_digest_146 ?_
  refine zz_ldc2 (v := (31 : Int64)) C dX8_digest_147 zw_204 ?_
  refine zz_lmul C dX8_digest_150 ?_
  refine zz_aload_n C 0 dX8_digest_151 rfl rfl ?_
  refine zf8_threshold C dX8_digest_152 zw_168 ?_
  refine zz_i2l C dX8_digest_155 ?_
  refine zz_ladd C dX8_digest_156 ?_
  refine zz_ldc2 (v := (31 : Int64)) C dX8_digest_157 zw_204 ?_
  refine zz_lmul C dX8_digest_160 ?_
  refine zz_aload_n C 0 dX8_digest_161 rfl rfl ?_
  refine zf8_manner C dX8_digest_162 zw_169 ?_
  refine zz_i2l C dX8_digest_165 ?_
  refine zz_ladd C dX8_digest_166 ?_
  obtain ⟨x31, h32, hf⟩ := zz_bind hf
  refine zz_topl (Option.some.inj h32) ?_
  refine zz_lstore_n C dX8_digest_167 rfl (by decide) (lv' := [(1, .long x31), (0, .ref (ad 47)), (3, .int q29.2)]) rfl ?_
  refine zz_iconst (v := (0 : Int32)) C dX8_digest_168 (by decide) ?_
  refine zz_istore_n C dX8_digest_169 rfl (by decide) (lv' := [(3, .int (0 : Int32)), (1, .long x31), (0, .ref (ad 47))]) rfl ?_
  obtain ⟨q44, h45, hf⟩ := zz_bind hf
  refine zz_sub [2, 1, 0] rfl ?_
  refine mX8_digest_L5 C (Nat.le_of_ble_eq_true rfl) (Nat.le_of_ble_eq_true rfl) (zz_u σ 47 0 (0 : Int32)) 1000 x31 (0 : Int32) q44 h45 ?_
  refine zz_aload_n C 0 dX8_digest_215 rfl rfl ?_
  obtain ⟨x46, h47, hf⟩ := zz_bind hf
  refine zz_callV1 (As := []) (rest := []) C 47 (mX8_breakageOf (zz_u σ 47 0 (0 : Int32)) x46 h47) dX8_digest_216 rfl rfl rfl zw_198 zy_X8_breakageOf rfl (by decide) (by decide) (Nat.le_of_ble_eq_true rfl) (Nat.le_of_ble_eq_true rfl) (Nat.le_of_ble_eq_true rfl) rfl ?_
  refine zz_istore_n C dX8_digest_219 rfl (by decide) (lv' := [(3, .int x46.1), (0, .ref (ad 47)), (1, .long q44.1)]) rfl ?_
  refine zz_lload_n C 2 dX8_digest_220 rfl rfl ?_
  refine zz_ldc2 (v := (31 : Int64)) C dX8_digest_221 zw_204 ?_
  refine zz_lmul C dX8_digest_224 ?_
  refine zz_aload_n C 1 dX8_digest_225 rfl rfl ?_
  refine zz_aload_n C 1 dX8_digest_226 rfl rfl ?_
  refine zf8_heads C dX8_digest_227 zw_170 ?_
  obtain ⟨x48, h49, hf⟩ := zz_bind hf
  refine zz_callV1 (As := [.ref (ad 55)]) (rest := [.long (q44.1 * (31 : Int64))]) C 47 (mX8_countOf_a55 x46.2 x48 h49) dX8_digest_230 rfl rfl rfl zw_181 zy_X8_countOf rfl (by decide) (by decide) (Nat.le_of_ble_eq_true rfl) (Nat.le_of_ble_eq_true rfl) (Nat.le_of_ble_eq_true rfl) rfl ?_
  refine zz_i2l C dX8_digest_233 ?_
  refine zz_ladd C dX8_digest_234 ?_
  obtain ⟨x50, h51, hf⟩ := zz_bind hf
  refine zz_topl (Option.some.inj h51) ?_
  refine zz_lstore_n C dX8_digest_235 rfl (by decide) (lv' := [(1, .long x50), (3, .int x46.1), (0, .ref (ad 47))]) rfl ?_
  refine zz_iconst (v := (0 : Int32)) C dX8_digest_236 (by decide) ?_
  refine zz_istore C dX8_digest_237 (by decide) (lv' := [(4, .int (0 : Int32)), (1, .long x50), (3, .int x46.1), (0, .ref (ad 47))]) rfl ?_
  obtain ⟨q63, h64, hf⟩ := zz_bind hf
  refine zz_sub [3, 1, 2, 0] rfl ?_
  refine mX8_digest_L6 C (Nat.le_of_ble_eq_true rfl) (Nat.le_of_ble_eq_true rfl) x46.2 x46.1 1000 x50 (0 : Int32) q63 h64 ?_
  refine zz_lload_n C 1 dX8_digest_284 rfl rfl ?_
  refine zz_ldc2 (v := (31 : Int64)) C dX8_digest_285 zw_204 ?_
  refine zz_lmul C dX8_digest_288 ?_
  refine zz_aload_n C 0 dX8_digest_289 rfl rfl ?_
  refine zf8_parcels C dX8_digest_290 zw_191 ?_
  refine zz_i2l C dX8_digest_293 ?_
  refine zz_ladd C dX8_digest_294 ?_
  obtain ⟨x65, h66, hf⟩ := zz_bind hf
  refine zz_topl (Option.some.inj h66) ?_
  refine zz_lstore_n C dX8_digest_295 rfl (by decide) (lv' := [(1, .long x65), (0, .ref (ad 47)), (3, .int x46.1), (4, .int q63.2)]) rfl ?_
  refine zz_iconst (v := (0 : Int32)) C dX8_digest_296 (by decide) ?_
  refine zz_istore C dX8_digest_297 (by decide) (lv' := [(4, .int (0 : Int32)), (1, .long x65), (0, .ref (ad 47)), (3, .int x46.1)]) rfl ?_
  obtain ⟨q74, h75, hf⟩ := zz_bind hf
  refine zz_sub [2, 1, 3, 0] rfl ?_
  refine mX8_digest_L7 C (Nat.le_of_ble_eq_true rfl) (Nat.le_of_ble_eq_true rfl) x46.2 x46.1 1000 x65 (0 : Int32) q74 h75 ?_
  refine zz_lload_n C 1 dX8_digest_337 rfl rfl ?_
  refine zz_ldc2 (v := (31 : Int64)) C dX8_digest_338 zw_204 ?_
  refine zz_lmul C dX8_digest_341 ?_
  refine zz_iload_n C 2 dX8_digest_342 rfl rfl ?_
  refine zz_i2l C dX8_digest_343 ?_
  refine zz_ladd C dX8_digest_344 ?_
  cases hf
  exact zz_lret C dX8_digest_345 (And.intro rfl rfl) (Nat.le_of_ble_eq_true rfl) (Nat.le_of_ble_eq_true rfl)
