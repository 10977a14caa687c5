theorem dX8_say_0 : decode cX8_say 0 = .ok (.aload_n 0, 1) := by decide +kernel
theorem dX8_say_1 : decode cX8_say 1 = .ok (.iload_n 1, 1) := by decide +kernel
theorem dX8_say_2 : decode cX8_say 2 = .ok (.iload_n 2, 1) := by decide +kernel
theorem dX8_say_3 : decode cX8_say 3 = .ok (.invokevirtual 110, 3) := by decide +kernel
theorem dX8_say_6 : decode cX8_say 6 = .ok (.ifCond .ne 5, 3) := by decide +kernel
theorem dX8_say_9 : decode cX8_say 9 = .ok (.iconst 0, 1) := by decide +kernel
theorem dX8_say_10 : decode cX8_say 10 = .ok (.ireturn, 1) := by decide +kernel
theorem dX8_say_11 : decode cX8_say 11 = .ok (.iload_n 1, 1) := by decide +kernel
theorem dX8_say_12 : decode cX8_say 12 = .ok (.iload_n 2, 1) := by decide +kernel
theorem dX8_say_13 : decode cX8_say 13 = .ok (.if_icmp .eq 12, 3) := by decide +kernel
theorem dX8_say_16 : decode cX8_say 16 = .ok (.iload_n 3, 1) := by decide +kernel
theorem dX8_say_17 : decode cX8_say 17 = .ok (.iconst 0, 1) := by decide +kernel
theorem dX8_say_18 : decode cX8_say 18 = .ok (.iconst 2, 1) := by decide +kernel
theorem dX8_say_19 : decode cX8_say 19 = .ok (.invokestatic 69, 3) := by decide +kernel
theorem dX8_say_22 : decode cX8_say 22 = .ok (.ifCond .ne 9, 3) := by decide +kernel
theorem dX8_say_25 : decode cX8_say 25 = .ok (.aload_n 0, 1) := by decide +kernel
theorem dX8_say_26 : decode cX8_say 26 = .ok (.iconst 2, 1) := by decide +kernel
theorem dX8_say_27 : decode cX8_say 27 = .ok (.invokevirtual 73, 3) := by decide +kernel
theorem dX8_say_30 : decode cX8_say 30 = .ok (.ireturn, 1) := by decide +kernel
theorem dX8_say_31 : decode cX8_say 31 = .ok (.aload_n 0, 1) := by decide +kernel
theorem dX8_say_32 : decode cX8_say 32 = .ok (.iload_n 1, 1) := by decide +kernel
theorem dX8_say_33 : decode cX8_say 33 = .ok (.iload_n 2, 1) := by decide +kernel
theorem dX8_say_34 : decode cX8_say 34 = .ok (.invokevirtual 123, 3) := by decide +kernel
theorem dX8_say_37 : decode cX8_say 37 = .ok (.istore 4, 2) := by decide +kernel
theorem dX8_say_39 : decode cX8_say 39 = .ok (.aload_n 0, 1) := by decide +kernel
theorem dX8_say_40 : decode cX8_say 40 = .ok (.iload_n 1, 1) := by decide +kernel
theorem dX8_say_41 : decode cX8_say 41 = .ok (.iload_n 2, 1) := by decide +kernel
theorem dX8_say_42 : decode cX8_say 42 = .ok (.iload_n 3, 1) := by decide +kernel
theorem dX8_say_43 : decode cX8_say 43 = .ok (.invokevirtual 142, 3) := by decide +kernel
theorem dX8_say_46 : decode cX8_say 46 = .ok (.aload_n 0, 1) := by decide +kernel
theorem dX8_say_47 : decode cX8_say 47 = .ok (.invokevirtual 130, 3) := by decide +kernel
theorem dX8_say_50 : decode cX8_say 50 = .ok (.iconst 0, 1) := by decide +kernel
theorem dX8_say_51 : decode cX8_say 51 = .ok (.istore 5, 2) := by decide +kernel
theorem dX8_say_53 : decode cX8_say 53 = .ok (.iload 5, 2) := by decide +kernel
theorem dX8_say_55 : decode cX8_say 55 = .ok (.aload_n 0, 1) := by decide +kernel
theorem dX8_say_56 : decode cX8_say 56 = .ok (.getfield 66, 3) := by decide +kernel
theorem dX8_say_59 : decode cX8_say 59 = .ok (.if_icmp .ge 61, 3) := by decide +kernel
theorem dX8_say_62 : decode cX8_say 62 = .ok (.iconst 0, 1) := by decide +kernel
theorem dX8_say_63 : decode cX8_say 63 = .ok (.istore 6, 2) := by decide +kernel
theorem dX8_say_65 : decode cX8_say 65 = .ok (.iload 6, 2) := by decide +kernel
theorem dX8_say_67 : decode cX8_say 67 = .ok (.aload_n 0, 1) := by decide +kernel
theorem dX8_say_68 : decode cX8_say 68 = .ok (.getfield 66, 3) := by decide +kernel
theorem dX8_say_71 : decode cX8_say 71 = .ok (.if_icmp .ge 43, 3) := by decide +kernel
theorem dX8_say_74 : decode cX8_say 74 = .ok (.aload_n 0, 1) := by decide +kernel
theorem dX8_say_75 : decode cX8_say 75 = .ok (.iload 5, 2) := by decide +kernel
theorem dX8_say_77 : decode cX8_say 77 = .ok (.iload 6, 2) := by decide +kernel
theorem dX8_say_79 : decode cX8_say 79 = .ok (.invokevirtual 123, 3) := by decide +kernel
theorem dX8_say_82 : decode cX8_say 82 = .ok (.iconst 2, 1) := by decide +kernel
theorem dX8_say_83 : decode cX8_say 83 = .ok (.if_icmp .ne 25, 3) := by decide +kernel
theorem dX8_say_86 : decode cX8_say 86 = .ok (.aload_n 0, 1) := by decide +kernel
theorem dX8_say_87 : decode cX8_say 87 = .ok (.getfield 42, 3) := by decide +kernel
theorem dX8_say_90 : decode cX8_say 90 = .ok (.iload 5, 2) := by decide +kernel
theorem dX8_say_92 : decode cX8_say 92 = .ok (.iaload, 1) := by decide +kernel
theorem dX8_say_93 : decode cX8_say 93 = .ok (.aload_n 0, 1) := by decide +kernel
theorem dX8_say_94 : decode cX8_say 94 = .ok (.getfield 42, 3) := by decide +kernel
theorem dX8_say_97 : decode cX8_say 97 = .ok (.iload 6, 2) := by decide +kernel
theorem dX8_say_99 : decode cX8_say 99 = .ok (.iaload, 1) := by decide +kernel
theorem dX8_say_100 : decode cX8_say 100 = .ok (.if_icmp .ne 8, 3) := by decide +kernel
theorem dX8_say_103 : decode cX8_say 103 = .ok (.aload_n 0, 1) := by decide +kernel
theorem dX8_say_104 : decode cX8_say 104 = .ok (.iconst 3, 1) := by decide +kernel
theorem dX8_say_105 : decode cX8_say 105 = .ok (.putfield 63, 3) := by decide +kernel
theorem dX8_say_108 : decode cX8_say 108 = .ok (.iinc 6 1, 3) := by decide +kernel
theorem dX8_say_111 : decode cX8_say 111 = .ok (.goto (-46), 3) := by decide +kernel
theorem dX8_say_114 : decode cX8_say 114 = .ok (.iinc 5 1, 3) := by decide +kernel
theorem dX8_say_117 : decode cX8_say 117 = .ok (.goto (-64), 3) := by decide +kernel
theorem dX8_say_120 : decode cX8_say 120 = .ok (.aload_n 0, 1) := by decide +kernel
theorem dX8_say_121 : decode cX8_say 121 = .ok (.getfield 63, 3) := by decide +kernel
theorem dX8_say_124 : decode cX8_say 124 = .ok (.ifCond .ne 6, 3) := by decide +kernel
theorem dX8_say_127 : decode cX8_say 127 = .ok (.iload 4, 2) := by decide +kernel
theorem dX8_say_129 : decode cX8_say 129 = .ok (.ireturn, 1) := by decide +kernel
theorem dX8_say_130 : decode cX8_say 130 = .ok (.aload_n 0, 1) := by decide +kernel
theorem dX8_say_131 : decode cX8_say 131 = .ok (.iload_n 1, 1) := by decide +kernel
theorem dX8_say_132 : decode cX8_say 132 = .ok (.iload_n 2, 1) := by decide +kernel
theorem dX8_say_133 : decode cX8_say 133 = .ok (.iload 4, 2) := by decide +kernel
theorem dX8_say_135 : decode cX8_say 135 = .ok (.invokevirtual 142, 3) := by decide +kernel
theorem dX8_say_138 : decode cX8_say 138 = .ok (.iconst 0, 1) := by decide +kernel
theorem dX8_say_139 : decode cX8_say 139 = .ok (.ireturn, 1) := by decide +kernel
set_option maxHeartbeats 4000000 in
set_option maxRecDepth 100000 in
theorem mX8_say_L2 {p : Program} {l : Launch} {e : Env} {R : Room} {s : State} {m : MethodId} {args : Array Value} {below : List Frame} {meth : Method} {c : Code} {Q : State → Prop} {D : va_G} {U : zz_U} {A : Nat → Prop} {cells slots : Nat} {ad : Nat → Nat} {X : va_W} {ρ : zz_St} (C : zz_C p l R s m meth c D U A RX8 cX8_say 7 (some .int) [] 3) (hcR : cells ≤ R.cells) (hsR : slots ≤ R.slots) (a_ : Int32) (b_ : Int32) (what_ : Int32) (was_ : Int32) (p_ : Int32) : ∀ (n : Nat) (q_ : Int32) (σ : zz_St) (q : (Int32 × zz_St)), fX8_say_L2 a_ b_ what_ was_ p_ n q_ σ = some q → (zz_Z p l e R s m args below meth c Q D A 7 cells slots (zz_wm U ad ρ q.2 X) 114 [(0, .ref (ad 47)), (1, .int a_), (2, .int b_), (3, .int what_), (4, .int was_), (5, .int p_), (6, .int q.1)] []) → zz_Z p l e R s m args below meth c Q D A 7 cells slots (zz_wm U ad ρ σ X) 65 [(0, .ref (ad 47)), (1, .int a_), (2, .int b_), (3, .int what_), (4, .int was_), (5, .int p_), (6, .int q_)] [] := by
  intro n
  induction n with
  | zero => intro q_ σ q hf; rw [fX8_say_L2] at hf; cases hf
  | succ n ih =>
    intro q_ σ q hf kx
    rw [fX8_say_L2] at hf
    refine zz_iload C 6 dX8_say_65 rfl ?_
    refine zz_aload_n C 0 dX8_say_67 rfl rfl ?_
    refine zf8_pieces C dX8_say_68 zw_148 ?_
    refine zz_icmp_ge (tgt := 114) C dX8_say_71 (by decide) (fun g22 => ?_) (fun g22 => ?_)
    · rw [if_pos g22] at hf
      cases hf
      exact kx
    · rw [if_neg g22] at hf
      obtain ⟨x23, h24, hf⟩ := zz_bind hf
      refine zz_cut 108 [(0, .ref (ad 47)), (1, .int a_), (2, .int b_), (3, .int what_), (4, .int was_), (5, .int p_), (6, .int q_)] [] (zz_wm U ad ρ x23 X) ?_ (fun J25 => ?_)
      · refine zz_iinc (v := (q_ + (1 : Int32))) C 6 dX8_say_108 rfl (by rfl) (by decide) (lv' := [(6, .int (q_ + (1 : Int32))), (0, .ref (ad 47)), (1, .int a_), (2, .int b_), (3, .int what_), (4, .int was_), (5, .int p_)]) rfl ?_
        refine zz_goto (tgt := 65) C dX8_say_111 (by decide) ?_
        refine zz_sub [1, 2, 3, 4, 5, 6, 0] rfl ?_
        exact ih (q_ + (1 : Int32)) x23 _ hf kx
      obtain ⟨b26, h27, h24⟩ := zz_bind h24
      refine zz_cutI (P := b26 = true) 103 [(0, .ref (ad 47)), (1, .int a_), (2, .int b_), (3, .int what_), (4, .int was_), (5, .int p_), (6, .int q_)] [] (zz_wm U ad ρ σ X) (fun g30 => ?_) (fun J28 => ?_)
      · rw [if_pos g30] at h24
        refine zz_aload_n C 0 dX8_say_103 rfl rfl ?_
        refine zz_iconst (v := (3 : Int32)) C dX8_say_104 (by decide) ?_
        refine zp8_thrown C dX8_say_105 zw_145 ?_
        cases h24
        exact J25
      refine zz_cutI (P := b26 = false) 108 [(0, .ref (ad 47)), (1, .int a_), (2, .int b_), (3, .int what_), (4, .int was_), (5, .int p_), (6, .int q_)] [] (zz_wm U ad ρ σ X) (fun g30 => ?_) (fun J29 => ?_)
      · rw [if_neg (show ¬ b26 = true by rw [g30]; decide)] at h24
        cases h24
        exact J25
      refine zz_aload_n C 0 dX8_say_74 rfl rfl ?_
      refine zz_iload C 5 dX8_say_75 rfl ?_
      refine zz_iload C 6 dX8_say_77 rfl ?_
      obtain ⟨x31, h32, h27⟩ := zz_bind h27
      refine zz_callV1 (As := [.int p_, .int q_]) (rest := []) C 47 (mX8_saidOf σ p_ q_ x31 h32) dX8_say_79 rfl rfl rfl zw_171 zy_X8_saidOf rfl (by decide) (by decide) (Nat.le_of_ble_eq_true rfl) hcR hsR rfl ?_
      refine zz_iconst (v := (2 : Int32)) C dX8_say_82 (by decide) ?_
      refine zz_icmp_ne (tgt := 108) C dX8_say_83 (by decide) (fun g33 => ?_) (fun g33 => ?_)
      · rw [if_neg g33] at h27
        cases h27
        exact J29 rfl
      · rw [if_pos g33] at h27
        refine zz_aload_n C 0 dX8_say_86 rfl rfl ?_
        refine zf8_heads C dX8_say_87 zw_170 ?_
        refine zz_iload C 5 dX8_say_90 rfl ?_
        obtain ⟨x34, h35, h27⟩ := zz_bind h27
        refine zl_55 C dX8_say_92 h35 ?_
        refine zz_aload_n C 0 dX8_say_93 rfl rfl ?_
        refine zf8_heads C dX8_say_94 zw_170 ?_
        refine zz_iload C 6 dX8_say_97 rfl ?_
        obtain ⟨x36, h37, h27⟩ := zz_bind h27
        refine zl_55 C dX8_say_99 h37 ?_
        refine zz_icmp_ne (tgt := 108) C dX8_say_100 (by decide) (fun g38 => ?_) (fun g38 => ?_)
        · rw [if_neg g38] at h27
          cases h27
          exact J29 rfl
        · rw [if_pos g38] at h27
          cases h27
          exact J28 rfl
set_option maxHeartbeats 4000000 in
set_option maxRecDepth 100000 in
theorem mX8_say_L1 {p : Program} {l : Launch} {e : Env} {R : Room} {s : State} {m : MethodId} {args : Array Value} {below : List Frame} {meth : Method} {c : Code} {Q : State → Prop} {D : va_G} {U : zz_U} {A : Nat → Prop} {cells slots : Nat} {ad : Nat → Nat} {X : va_W} {ρ : zz_St} (C : zz_C p l R s m meth c D U A RX8 cX8_say 7 (some .int) [] 3) (hcR : cells ≤ R.cells) (hsR : slots ≤ R.slots) (a_ : Int32) (b_ : Int32) (what_ : Int32) (was_ : Int32) : ∀ (n : Nat) (p_ : Int32) (σ : zz_St) (q : (Int32 × zz_St)), fX8_say_L1 a_ b_ what_ was_ n p_ σ = some q → (zz_Z p l e R s m args below meth c Q D A 7 cells slots (zz_wm U ad ρ q.2 X) 120 [(0, .ref (ad 47)), (1, .int a_), (2, .int b_), (3, .int what_), (4, .int was_), (5, .int q.1)] []) → zz_Z p l e R s m args below meth c Q D A 7 cells slots (zz_wm U ad ρ σ X) 53 [(0, .ref (ad 47)), (1, .int a_), (2, .int b_), (3, .int what_), (4, .int was_), (5, .int p_)] [] := by
  intro n
  induction n with
  | zero => intro p_ σ q hf; rw [fX8_say_L1] at hf; cases hf
  | succ n ih =>
    intro p_ σ q hf kx
    rw [fX8_say_L1] at hf
    refine zz_iload C 5 dX8_say_53 rfl ?_
    refine zz_aload_n C 0 dX8_say_55 rfl rfl ?_
    refine zf8_pieces C dX8_say_56 zw_148 ?_
    refine zz_icmp_ge (tgt := 120) C dX8_say_59 (by decide) (fun g21 => ?_) (fun g21 => ?_)
    · rw [if_pos g21] at hf
      cases hf
      exact kx
    · rw [if_neg g21] at hf
      refine zz_iconst (v := (0 : Int32)) C dX8_say_62 (by decide) ?_
      refine zz_istore C dX8_say_63 (by decide) (lv' := [(6, .int (0 : Int32)), (0, .ref (ad 47)), (1, .int a_), (2, .int b_), (3, .int what_), (4, .int was_), (5, .int p_)]) rfl ?_
      obtain ⟨q39, h40, hf⟩ := zz_bind hf
      refine zz_sub [1, 2, 3, 4, 5, 6, 0] rfl ?_
      refine mX8_say_L2 C hcR hsR a_ b_ what_ was_ p_ 1000 (0 : Int32) σ q39 h40 ?_
      refine zz_iinc (v := (p_ + (1 : Int32))) C 5 dX8_say_114 rfl (by rfl) (by decide) (lv' := [(5, .int (p_ + (1 : Int32))), (0, .ref (ad 47)), (1, .int a_), (2, .int b_), (3, .int what_), (4, .int was_), (6, .int q39.1)]) rfl ?_
      refine zz_goto (tgt := 53) C dX8_say_117 (by decide) ?_
      refine zz_sub [1, 2, 3, 4, 5, 0] rfl ?_
      exact ih (p_ + (1 : Int32)) q39.2 _ hf kx
set_option maxHeartbeats 4000000 in
set_option maxRecDepth 100000 in
theorem mX8_say {D : va_G} {U : zz_U} {ad : Nat → Nat} {X : va_W} {ρ : zz_St} (σ : zz_St) (a_ : Int32) (b_ : Int32) (what_ : Int32) (r : (Int32 × zz_St)) (hf : fX8_say σ a_ b_ what_ = some r) : zz_Met yX8_say (.code yX8_say cX8_say 7 (some .int)) 3 0 0 D U [.ref (ad 47), .int a_, .int b_, .int what_] (zz_wm U ad ρ σ X) (zz_ok (some (.int r.1)) (zz_wm U ad ρ r.2 X)) zz_noth := by
  unfold fX8_say at hf
  refine zz_method RX8 rfl (by decide +kernel) (Nat.le_of_ble_eq_true rfl) ?_
  intro p l e s m args below meth c A _ C
  refine zz_lvs (lv1 := [(0, .ref (ad 47)), (1, .int a_), (2, .int b_), (3, .int what_)]) rfl ?_
  refine zz_aload_n C 0 dX8_say_0 rfl rfl ?_
  refine zz_iload_n C 1 dX8_say_1 rfl rfl ?_
  refine zz_iload_n C 2 dX8_say_2 rfl rfl ?_
  obtain ⟨x1, h2, hf⟩ := zz_bind hf
  refine zz_callV1 (As := [.int a_, .int b_]) (rest := []) C 47 (mX8_arePieces σ a_ b_ x1 h2) dX8_say_3 rfl rfl rfl zw_166 zy_X8_arePieces rfl (by decide) (by decide) (Nat.le_of_ble_eq_true rfl) (Nat.le_of_ble_eq_true rfl) (Nat.le_of_ble_eq_true rfl) rfl ?_
  refine zz_if_ne (tgt := 11) C dX8_say_6 (by decide) (fun g3 => ?_) (fun g3 => ?_)
  · rw [if_neg g3] at hf
    obtain ⟨b4, h5, hf⟩ := zz_bind hf
    refine zz_cutI (P := b4 = true) 25 [(0, .ref (ad 47)), (1, .int a_), (2, .int b_), (3, .int what_)] [] (zz_wm U ad ρ x1.2 X) (fun g8 => ?_) (fun J6 => ?_)
    · rw [if_pos g8] at hf
      refine zz_aload_n C 0 dX8_say_25 rfl rfl ?_
      refine zz_iconst (v := (2 : Int32)) C dX8_say_26 (by decide) ?_
      obtain ⟨x13, h14, hf⟩ := zz_bind hf
      refine zz_callV1 (As := [.int (2 : Int32)]) (rest := []) C 47 (mX8_no x1.2 (2 : Int32) x13 h14) dX8_say_27 rfl rfl rfl zw_147 zy_X8_no rfl (by decide) (by decide) (Nat.le_of_ble_eq_true rfl) (Nat.le_of_ble_eq_true rfl) (Nat.le_of_ble_eq_true rfl) rfl ?_
      cases hf
      exact zz_iret C dX8_say_30 (And.intro rfl rfl) (Nat.le_of_ble_eq_true rfl) (Nat.le_of_ble_eq_true rfl)
    refine zz_cutI (P := b4 = false) 31 [(0, .ref (ad 47)), (1, .int a_), (2, .int b_), (3, .int what_)] [] (zz_wm U ad ρ x1.2 X) (fun g8 => ?_) (fun J7 => ?_)
    · rw [if_neg (show ¬ b4 = true by rw [g8]; decide)] at hf
      refine zz_aload_n C 0 dX8_say_31 rfl rfl ?_
      refine zz_iload_n C 1 dX8_say_32 rfl rfl ?_
      refine zz_iload_n C 2 dX8_say_33 rfl rfl ?_
      obtain ⟨x15, h16, hf⟩ := zz_bind hf
      refine zz_callV1 (As := [.int a_, .int b_]) (rest := []) C 47 (mX8_saidOf x1.2 a_ b_ x15 h16) dX8_say_34 rfl rfl rfl zw_171 zy_X8_saidOf rfl (by decide) (by decide) (Nat.le_of_ble_eq_true rfl) (Nat.le_of_ble_eq_true rfl) (Nat.le_of_ble_eq_true rfl) rfl ?_
      refine zz_istore C dX8_say_37 (by decide) (lv' := [(4, .int x15), (0, .ref (ad 47)), (1, .int a_), (2, .int b_), (3, .int what_)]) rfl ?_
      refine zz_aload_n C 1 dX8_say_39 rfl rfl ?_
      refine zz_iload_n C 2 dX8_say_40 rfl rfl ?_
      refine zz_iload_n C 3 dX8_say_41 rfl rfl ?_
      refine zz_iload_n C 4 dX8_say_42 rfl rfl ?_
      obtain ⟨x17, h18, hf⟩ := zz_bind hf
      refine zz_callV1 (As := [.int a_, .int b_, .int what_]) (rest := []) C 47 (mX8_put x1.2 a_ b_ what_ x17 h18) dX8_say_43 rfl rfl rfl zw_175 zy_X8_put rfl (by decide) (by decide) (Nat.le_of_ble_eq_true rfl) (Nat.le_of_ble_eq_true rfl) (Nat.le_of_ble_eq_true rfl) rfl ?_
      refine zz_aload_n C 1 dX8_say_46 rfl rfl ?_
      obtain ⟨x19, h20, hf⟩ := zz_bind hf
      refine zz_callV1 (As := []) (rest := []) C 47 (mX8_startGroups x17 x19 h20) dX8_say_47 rfl rfl rfl zw_176 zy_X8_startGroups rfl (by decide) (by decide) (Nat.le_of_ble_eq_true rfl) (Nat.le_of_ble_eq_true rfl) (Nat.le_of_ble_eq_true rfl) rfl ?_
      refine zz_iconst (v := (0 : Int32)) C dX8_say_50 (by decide) ?_
      refine zz_istore C dX8_say_51 (by decide) (lv' := [(5, .int (0 : Int32)), (4, .int x15), (0, .ref (ad 47)), (1, .int a_), (2, .int b_), (3, .int what_)]) rfl ?_
      obtain ⟨q41, h42, hf⟩ := zz_bind hf
      refine zz_sub [2, 3, 4, 5, 1, 0] rfl ?_
      refine mX8_say_L1 C (Nat.le_of_ble_eq_true rfl) (Nat.le_of_ble_eq_true rfl) a_ b_ what_ x15 1000 (0 : Int32) x19 q41 h42 ?_
      refine zz_aload_n C 0 dX8_say_120 rfl rfl ?_
      refine zf8_thrown C dX8_say_121 zw_145 ?_
      refine zz_if_ne (tgt := 130) C dX8_say_124 (by decide) (fun g43 => ?_) (fun g43 => ?_)
      · rw [if_neg g43] at hf
        refine zz_aload_n C 0 dX8_say_130 rfl rfl ?_
        refine zz_iload_n C 1 dX8_say_131 rfl rfl ?_
        refine zz_iload_n C 2 dX8_say_132 rfl rfl ?_
        refine zz_iload C 4 dX8_say_133 rfl ?_
        obtain ⟨x44, h45, hf⟩ := zz_bind hf
        refine zz_callV1 (As := [.int a_, .int b_, .int x15]) (rest := []) C 47 (mX8_put q41.2 a_ b_ x15 x44 h45) dX8_say_135 rfl rfl rfl zw_175 zy_X8_put rfl (by decide) (by decide) (Nat.le_of_ble_eq_true rfl) (Nat.le_of_ble_eq_true rfl) (Nat.le_of_ble_eq_true rfl) rfl ?_
        refine zz_iconst (v := (0 : Int32)) C dX8_say_138 (by decide) ?_
        cases hf
        exact zz_iret C dX8_say_139 (And.intro rfl rfl) (Nat.le_of_ble_eq_true rfl) (Nat.le_of_ble_eq_true rfl)
      · rw [if_pos g43] at hf
        refine zz_iload C 4 dX8_say_127 rfl ?_
        cases hf
        exact zz_iret C dX8_say_129 (And.intro rfl rfl) (Nat.le_of_ble_eq_true rfl) (Nat.le_of_ble_eq_true rfl)
    refine zz_iload_n C 1 dX8_say_11 rfl rfl ?_
    refine zz_iload_n C 2 dX8_say_12 rfl rfl ?_
    refine zz_icmp_eq (tgt := 25) C dX8_say_13 (by decide) (fun g9 => ?_) (fun g9 => ?_)
    · rw [if_pos g9] at h5
      cases h5
      exact J6 rfl
    · rw [if_neg g9] at h5
      refine zz_iload_n C 3 dX8_say_16 rfl rfl ?_
      refine zz_iconst (v := (0 : Int32)) C dX8_say_17 (by decide) ?_
      refine zz_iconst (v := (2 : Int32)) C dX8_say_18 (by decide) ?_
      obtain ⟨x10, h11, h5⟩ := zz_bind h5
      refine zz_callS1 (As := [.int what_, .int (0 : Int32), .int (2 : Int32)]) (rest := []) C (mX8_isIn x1.2 what_ (0 : Int32) (2 : Int32) x10 h11) dX8_say_19 rfl zw_146 zy_X8_isIn rfl (by decide) (by decide) (Nat.le_of_ble_eq_true rfl) (Nat.le_of_ble_eq_true rfl) (Nat.le_of_ble_eq_true rfl) rfl ?_
      refine zz_if_ne (tgt := 31) C dX8_say_22 (by decide) (fun g12 => ?_) (fun g12 => ?_)
      · rw [if_neg g12] at h5
        cases h5
        exact J7 rfl
      · rw [if_pos g12] at h5
        cases h5
        exact J6 rfl
  · rw [if_pos g3] at hf
    refine zz_iconst (v := (0 : Int32)) C dX8_say_9 (by decide) ?_
    cases hf
    exact zz_iret C dX8_say_10 (And.intro rfl rfl) (Nat.le_of_ble_eq_true rfl) (Nat.le_of_ble_eq_true rfl)
theorem dX8_areBarred_0 : decode cX8_areBarred 0 = .ok (.iconst 0, 1) := by decide +kernel
theorem dX8_areBarred_1 : decode cX8_areBarred 1 = .ok (.istore_n 3, 1) := by decide +kernel
theorem dX8_areBarred_2 : decode cX8_areBarred 2 = .ok (.iconst 0, 1) := by decide +kernel
theorem dX8_areBarred_3 : decode cX8_areBarred 3 = .ok (.istore 4, 2) := by decide +kernel
theorem dX8_areBarred_5 : decode cX8_areBarred 5 = .ok (.iload 4, 2) := by decide +kernel
theorem dX8_areBarred_7 : decode cX8_areBarred 7 = .ok (.aload_n 0, 1) := by decide +kernel
theorem dX8_areBarred_8 : decode cX8_areBarred 8 = .ok (.getfield 66, 3) := by decide +kernel
theorem dX8_areBarred_11 : decode cX8_areBarred 11 = .ok (.if_icmp .ge 71, 3) := by decide +kernel
theorem dX8_areBarred_14 : decode cX8_areBarred 14 = .ok (.iconst 0, 1) := by decide +kernel
theorem dX8_areBarred_15 : decode cX8_areBarred 15 = .ok (.istore 5, 2) := by decide +kernel
theorem dX8_areBarred_17 : decode cX8_areBarred 17 = .ok (.iload 5, 2) := by decide +kernel
theorem dX8_areBarred_19 : decode cX8_areBarred 19 = .ok (.aload_n 0, 1) := by decide +kernel
theorem dX8_areBarred_20 : decode cX8_areBarred 20 = .ok (.getfield 66, 3) := by decide +kernel
theorem dX8_areBarred_23 : decode cX8_areBarred 23 = .ok (.if_icmp .ge 53, 3) := by decide +kernel
theorem dX8_areBarred_26 : decode cX8_areBarred 26 = .ok (.iload_n 3, 1) := by decide +kernel
theorem dX8_areBarred_27 : decode cX8_areBarred 27 = .ok (.ifCond .ne 37, 3) := by decide +kernel
theorem dX8_areBarred_30 : decode cX8_areBarred 30 = .ok (.aload_n 0, 1) := by decide +kernel
theorem dX8_areBarred_31 : decode cX8_areBarred 31 = .ok (.getfield 42, 3) := by decide +kernel
theorem dX8_areBarred_34 : decode cX8_areBarred 34 = .ok (.iload 4, 2) := by decide +kernel
theorem dX8_areBarred_36 : decode cX8_areBarred 36 = .ok (.iaload, 1) := by decide +kernel
theorem dX8_areBarred_37 : decode cX8_areBarred 37 = .ok (.iload_n 1, 1) := by decide +kernel
theorem dX8_areBarred_38 : decode cX8_areBarred 38 = .ok (.if_icmp .ne 30, 3) := by decide +kernel
theorem dX8_areBarred_41 : decode cX8_areBarred 41 = .ok (.aload_n 0, 1) := by decide +kernel
theorem dX8_areBarred_42 : decode cX8_areBarred 42 = .ok (.getfield 42, 3) := by decide +kernel
theorem dX8_areBarred_45 : decode cX8_areBarred 45 = .ok (.iload 5, 2) := by decide +kernel
theorem dX8_areBarred_47 : decode cX8_areBarred 47 = .ok (.iaload, 1) := by decide +kernel
theorem dX8_areBarred_48 : decode cX8_areBarred 48 = .ok (.iload_n 2, 1) := by decide +kernel
theorem dX8_areBarred_49 : decode cX8_areBarred 49 = .ok (.if_icmp .ne 19, 3) := by decide +kernel
theorem dX8_areBarred_52 : decode cX8_areBarred 52 = .ok (.aload_n 0, 1) := by decide +kernel
theorem dX8_areBarred_53 : decode cX8_areBarred 53 = .ok (.iload 4, 2) := by decide +kernel
theorem dX8_areBarred_55 : decode cX8_areBarred 55 = .ok (.iload 5, 2) := by decide +kernel
theorem dX8_areBarred_57 : decode cX8_areBarred 57 = .ok (.invokevirtual 123, 3) := by decide +kernel
theorem dX8_areBarred_60 : decode cX8_areBarred 60 = .ok (.iconst 2, 1) := by decide +kernel
theorem dX8_areBarred_61 : decode cX8_areBarred 61 = .ok (.if_icmp .ne 7, 3) := by decide +kernel
theorem dX8_areBarred_64 : decode cX8_areBarred 64 = .ok (.iconst 1, 1) := by decide +kernel
theorem dX8_areBarred_65 : decode cX8_areBarred 65 = .ok (.goto 4, 3) := by decide +kernel
theorem dX8_areBarred_68 : decode cX8_areBarred 68 = .ok (.iconst 0, 1) := by decide +kernel
theorem dX8_areBarred_69 : decode cX8_areBarred 69 = .ok (.istore_n 3, 1) := by decide +kernel
theorem dX8_areBarred_70 : decode cX8_areBarred 70 = .ok (.iinc 5 1, 3) := by decide +kernel
theorem dX8_areBarred_73 : decode cX8_areBarred 73 = .ok (.goto (-56), 3) := by decide +kernel
theorem dX8_areBarred_76 : decode cX8_areBarred 76 = .ok (.iinc 4 1, 3) := by decide +kernel
theorem dX8_areBarred_79 : decode cX8_areBarred 79 = .ok (.goto (-74), 3) := by decide +kernel
theorem dX8_areBarred_82 : decode cX8_areBarred 82 = .ok (.iload_n 3, 1) := by decide +kernel
theorem dX8_areBarred_83 : decode cX8_areBarred 83 = .ok (.ireturn, 1) := by decide +kernel
set_option maxHeartbeats 4000000 in
set_option maxRecDepth 100000 in
theorem mX8_areBarred_L2 {p : Program} {l : Launch} {e : Env} {R : Room} {s : State} {m : MethodId} {args : Array Value} {below : List Frame} {meth : Method} {c : Code} {Q : State → Prop} {D : va_G} {U : zz_U} {A : Nat → Prop} {cells slots : Nat} {ad : Nat → Nat} {X : va_W} {ρ : zz_St} (C : zz_C p l R s m meth c D U A RX8 cX8_areBarred 6 (some .boolean) [] 1) (hcR : cells ≤ R.cells) (hsR : slots ≤ R.slots) (σ : zz_St) (first_ : Int32) (second_ : Int32) (a_ : Int32) : ∀ (n : Nat) (are_ : Int32) (b_ : Int32) (q : (Int32 × Int32)), fX8_areBarred_L2 σ first_ second_ a_ n are_ b_ = some q → (zz_Z p l e R s m args below meth c Q D A 6 cells slots (zz_wm U ad ρ σ X) 76 [(0, .ref (ad 47)), (1, .int first_), (2, .int second_), (3, .int q.1), (4, .int a_), (5, .int q.2)] []) → zz_Z p l e R s m args below meth c Q D A 6 cells slots (zz_wm U ad ρ σ X) 17 [(0, .ref (ad 47)), (1, .int first_), (2, .int second_), (3, .int are_), (4, .int a_), (5, .int b_)] [] := by
  intro n
  induction n with
  | zero => intro are_ b_ q hf; rw [fX8_areBarred_L2] at hf; cases hf
  | succ n ih =>
    intro are_ b_ q hf kx
    rw [fX8_areBarred_L2] at hf
    refine zz_iload C 5 dX8_areBarred_17 rfl ?_
    refine zz_aload_n C 0 dX8_areBarred_19 rfl rfl ?_
    refine zf8_pieces C dX8_areBarred_20 zw_148 ?_
    refine zz_icmp_ge (tgt := 76) C dX8_areBarred_23 (by decide) (fun g2 => ?_) (fun g2 => ?_)
    · rw [if_pos g2] at hf
      cases hf
      exact kx
    · rw [if_neg g2] at hf
      obtain ⟨b3, h4, hf⟩ := zz_bind hf
      refine zz_cut 69 [(0, .ref (ad 47)), (1, .int first_), (2, .int second_), (3, .int are_), (4, .int a_), (5, .int b_)] [.int (zz_bi b3)] (zz_wm U ad ρ σ X) ?_ (fun J5 => ?_)
      · obtain ⟨x16, h17, hf⟩ := zz_bind hf
        refine zz_topi (Option.some.inj h17) ?_
        refine zz_istore_n C dX8_areBarred_69 rfl (by decide) (lv' := [(3, .int x16), (0, .ref (ad 47)), (1, .int first_), (2, .int second_), (4, .int a_), (5, .int b_)]) rfl ?_
        refine zz_iinc (v := (b_ + (1 : Int32))) C 5 dX8_areBarred_70 rfl (by rfl) (by decide) (lv' := [(5, .int (b_ + (1 : Int32))), (3, .int x16), (0, .ref (ad 47)), (1, .int first_), (2, .int second_), (4, .int a_)]) rfl ?_
        refine zz_goto (tgt := 17) C dX8_areBarred_73 (by decide) ?_
        refine zz_sub [2, 3, 4, 1, 5, 0] rfl ?_
        exact ih x16 (b_ + (1 : Int32)) _ hf kx
      refine zz_iload_n C 3 dX8_areBarred_26 rfl rfl ?_
      refine zz_if_ne (tgt := 64) C dX8_areBarred_27 (by decide) (fun g6 => ?_) (fun g6 => ?_)
      · rw [if_neg g6] at h4
        refine zz_iconst (v := 1) C dX8_areBarred_64 (by decide) ?_
        refine zz_goto (tgt := 69) C dX8_areBarred_65 (by decide) ?_
        cases h4
        exact J5
      · rw [if_pos g6] at h4
        refine zz_aload_n C 0 dX8_areBarred_30 rfl rfl ?_
        refine zf8_heads C dX8_areBarred_31 zw_170 ?_
        refine zz_iload C 4 dX8_areBarred_34 rfl ?_
        obtain ⟨x7, h8, h4⟩ := zz_bind h4
        refine zl_55 C dX8_areBarred_36 h8 ?_
        refine zz_iload_n C 1 dX8_areBarred_37 rfl rfl ?_
        refine zz_icmp_ne (tgt := 68) C dX8_areBarred_38 (by decide) (fun g9 => ?_) (fun g9 => ?_)
        · rw [if_neg g9] at h4
          refine zz_iconst (v := 0) C dX8_areBarred_68 (by decide) ?_
          cases h4
          exact J5
        · rw [if_pos g9] at h4
          refine zz_aload_n C 0 dX8_areBarred_41 rfl rfl ?_
          refine zf8_heads C dX8_areBarred_42 zw_170 ?_
          refine zz_iload C 5 dX8_areBarred_45 rfl ?_
          obtain ⟨x10, h11, h4⟩ := zz_bind h4
          refine zl_55 C dX8_areBarred_47 h11 ?_
          refine zz_iload_n C 2 dX8_areBarred_48 rfl rfl ?_
          refine zz_icmp_ne (tgt := 68) C dX8_areBarred_49 (by decide) (fun g12 => ?_) (fun g12 => ?_)
          · rw [if_neg g12] at h4
            refine zz_iconst (v := 0) C dX8_areBarred_68 (by decide) ?_
            cases h4
            exact J5
          · rw [if_pos g12] at h4
            refine zz_aload_n C 0 dX8_areBarred_52 rfl rfl ?_
            refine zz_iload C 4 dX8_areBarred_53 rfl ?_
            refine zz_iload C 5 dX8_areBarred_55 rfl ?_
            obtain ⟨x13, h14, h4⟩ := zz_bind h4
            refine zz_callV1 (As := [.int a_, .int b_]) (rest := []) C 47 (mX8_saidOf σ a_ b_ x13 h14) dX8_areBarred_57 rfl rfl rfl zw_171 zy_X8_saidOf rfl (by decide) (by decide) (Nat.le_of_ble_eq_true rfl) hcR hsR rfl ?_
            refine zz_iconst (v := (2 : Int32)) C dX8_areBarred_60 (by decide) ?_
            refine zz_icmp_ne (tgt := 68) C dX8_areBarred_61 (by decide) (fun g15 => ?_) (fun g15 => ?_)
            · rw [if_neg g15] at h4
              refine zz_iconst (v := 0) C dX8_areBarred_68 (by decide) ?_
              cases h4
              exact J5
            · rw [if_pos g15] at h4
              refine zz_iconst (v := 1) C dX8_areBarred_64 (by decide) ?_
              refine zz_goto (tgt := 69) C dX8_areBarred_65 (by decide) ?_
              cases h4
              exact J5
set_option maxHeartbeats 4000000 in
set_option maxRecDepth 100000 in
theorem mX8_areBarred_L1 {p : Program} {l : Launch} {e : Env} {R : Room} {s : State} {m : MethodId} {args : Array Value} {below : List Frame} {meth : Method} {c : Code} {Q : State → Prop} {D : va_G} {U : zz_U} {A : Nat → Prop} {cells slots : Nat} {ad : Nat → Nat} {X : va_W} {ρ : zz_St} (C : zz_C p l R s m meth c D U A RX8 cX8_areBarred 6 (some .boolean) [] 1) (hcR : cells ≤ R.cells) (hsR : slots ≤ R.slots) (σ : zz_St) (first_ : Int32) (second_ : Int32) : ∀ (n : Nat) (are_ : Int32) (a_ : Int32) (q : (Int32 × Int32)), fX8_areBarred_L1 σ first_ second_ n are_ a_ = some q → (zz_Z p l e R s m args below meth c Q D A 6 cells slots (zz_wm U ad ρ σ X) 82 [(0, .ref (ad 47)), (1, .int first_), (2, .int second_), (3, .int q.1), (4, .int q.2)] []) → zz_Z p l e R s m args below meth c Q D A 6 cells slots (zz_wm U ad ρ σ X) 5 [(0, .ref (ad 47)), (1, .int first_), (2, .int second_), (3, .int are_), (4, .int a_)] [] := by
  intro n
  induction n with
  | zero => intro are_ a_ q hf; rw [fX8_areBarred_L1] at hf; cases hf
  | succ n ih =>
    intro are_ a_ q hf kx
    rw [fX8_areBarred_L1] at hf
    refine zz_iload C 4 dX8_areBarred_5 rfl ?_
    refine zz_aload_n C 0 dX8_areBarred_7 rfl rfl ?_
    refine zf8_pieces C dX8_areBarred_8 zw_148 ?_
    refine zz_icmp_ge (tgt := 82) C dX8_areBarred_11 (by decide) (fun g1 => ?_) (fun g1 => ?_)
    · rw [if_pos g1] at hf
      cases hf
      exact kx
    · rw [if_neg g1] at hf
      refine zz_iconst (v := (0 : Int32)) C dX8_areBarred_14 (by decide) ?_
      refine zz_istore C dX8_areBarred_15 (by decide) (lv' := [(5, .int (0 : Int32)), (0, .ref (ad 47)), (1, .int first_), (2, .int second_), (3, .int are_), (4, .int a_)]) rfl ?_
      obtain ⟨q18, h19, hf⟩ := zz_bind hf
      refine zz_sub [1, 2, 3, 4, 5, 0] rfl ?_
      refine mX8_areBarred_L2 C hcR hsR σ first_ second_ a_ 1000 are_ (0 : Int32) q18 h19 ?_
      refine zz_iinc (v := (a_ + (1 : Int32))) C 4 dX8_areBarred_76 rfl (by rfl) (by decide) (lv' := [(4, .int (a_ + (1 : Int32))), (0, .ref (ad 47)), (1, .int first_), (2, .int second_), (3, .int q18.1), (5, .int q18.2)]) rfl ?_
      refine zz_goto (tgt := 5) C dX8_areBarred_79 (by decide) ?_
      refine zz_sub [1, 2, 3, 4, 0] rfl ?_
      exact ih q18.1 (a_ + (1 : Int32)) _ hf kx
set_option maxHeartbeats 4000000 in
set_option maxRecDepth 100000 in
theorem mX8_areBarred {D : va_G} {U : zz_U} {ad : Nat → Nat} {X : va_W} {ρ : zz_St} (σ : zz_St) (first_ : Int32) (second_ : Int32) (r : Int32) (hf : fX8_areBarred σ first_ second_ = some r) : zz_Met yX8_areBarred (.code yX8_areBarred cX8_areBarred 6 (some .boolean)) 1 0 0 D U [.ref (ad 47), .int first_, .int second_] (zz_wm U ad ρ σ X) (zz_ok (some (.int r)) (zz_wm U ad ρ σ X)) zz_noth := by
  unfold fX8_areBarred at hf
  refine zz_method RX8 rfl (by decide +kernel) (Nat.le_of_ble_eq_true rfl) ?_
  intro p l e s m args below meth c A _ C
  refine zz_lvs (lv1 := [(0, .ref (ad 47)), (1, .int first_), (2, .int second_)]) rfl ?_
  refine zz_iconst (v := (0 : Int32)) C dX8_areBarred_0 (by decide) ?_
  refine zz_istore_n C dX8_areBarred_1 rfl (by decide) (lv' := [(3, .int (0 : Int32)), (0, .ref (ad 47)), (1, .int first_), (2, .int second_)]) rfl ?_
  refine zz_iconst (v := (0 : Int32)) C dX8_areBarred_2 (by decide) ?_
  refine zz_istore C dX8_areBarred_3 (by decide) (lv' := [(4, .int (0 : Int32)), (3, .int (0 : Int32)), (0, .ref (ad 47)), (1, .int first_), (2, .int second_)]) rfl ?_
  obtain ⟨q20, h21, hf⟩ := zz_bind hf
  refine zz_sub [2, 3, 4, 1, 0] rfl ?_
  refine mX8_areBarred_L1 C (Nat.le_of_ble_eq_true rfl) (Nat.le_of_ble_eq_true rfl) σ first_ second_ 1000 (0 : Int32) (0 : Int32) q20 h21 ?_
  refine zz_iload_n C 3 dX8_areBarred_82 rfl rfl ?_
  obtain ⟨x22, h23, hf⟩ := zz_bind hf
  refine zz_topi (zz_bo_in h23).2 ?_
  cases hf
  exact zz_zret C dX8_areBarred_83 (by rw [← (zz_bo_in h23).2]; exact (zz_bo_in h23).1) (And.intro rfl rfl) (Nat.le_of_ble_eq_true rfl) (Nat.le_of_ble_eq_true rfl)
theorem dX8_linkageOf_0 : decode cX8_linkageOf 0 = .ok (.iconst (-1), 1) := by decide +kernel
theorem dX8_linkageOf_1 : decode cX8_linkageOf 1 = .ok (.istore_n 3, 1) := by decide +kernel
theorem dX8_linkageOf_2 : decode cX8_linkageOf 2 = .ok (.iconst (-1), 1) := by decide +kernel
theorem dX8_linkageOf_3 : decode cX8_linkageOf 3 = .ok (.istore 4, 2) := by decide +kernel
theorem dX8_linkageOf_5 : decode cX8_linkageOf 5 = .ok (.iconst 0, 1) := by decide +kernel
theorem dX8_linkageOf_6 : decode cX8_linkageOf 6 = .ok (.istore 5, 2) := by decide +kernel
theorem dX8_linkageOf_8 : decode cX8_linkageOf 8 = .ok (.iconst 0, 1) := by decide +kernel
theorem dX8_linkageOf_9 : decode cX8_linkageOf 9 = .ok (.istore 6, 2) := by decide +kernel
theorem dX8_linkageOf_11 : decode cX8_linkageOf 11 = .ok (.iconst 0, 1) := by decide +kernel
theorem dX8_linkageOf_12 : decode cX8_linkageOf 12 = .ok (.istore 7, 2) := by decide +kernel
theorem dX8_linkageOf_14 : decode cX8_linkageOf 14 = .ok (.iload 7, 2) := by decide +kernel
theorem dX8_linkageOf_16 : decode cX8_linkageOf 16 = .ok (.aload_n 0, 1) := by decide +kernel
theorem dX8_linkageOf_17 : decode cX8_linkageOf 17 = .ok (.getfield 66, 3) := by decide +kernel
theorem dX8_linkageOf_20 : decode cX8_linkageOf 20 = .ok (.if_icmp .ge 104, 3) := by decide +kernel
theorem dX8_linkageOf_23 : decode cX8_linkageOf 23 = .ok (.iconst 0, 1) := by decide +kernel
theorem dX8_linkageOf_24 : decode cX8_linkageOf 24 = .ok (.istore 8, 2) := by decide +kernel
theorem dX8_linkageOf_26 : decode cX8_linkageOf 26 = .ok (.iload 8, 2) := by decide +kernel
theorem dX8_linkageOf_28 : decode cX8_linkageOf 28 = .ok (.aload_n 0, 1) := by decide +kernel
theorem dX8_linkageOf_29 : decode cX8_linkageOf 29 = .ok (.getfield 66, 3) := by decide +kernel
theorem dX8_linkageOf_32 : decode cX8_linkageOf 32 = .ok (.if_icmp .ge 86, 3) := by decide +kernel
theorem dX8_linkageOf_35 : decode cX8_linkageOf 35 = .ok (.aload_n 0, 1) := by decide +kernel
theorem dX8_linkageOf_36 : decode cX8_linkageOf 36 = .ok (.getfield 42, 3) := by decide +kernel
theorem dX8_linkageOf_39 : decode cX8_linkageOf 39 = .ok (.iload 7, 2) := by decide +kernel
theorem dX8_linkageOf_41 : decode cX8_linkageOf 41 = .ok (.iaload, 1) := by decide +kernel
theorem dX8_linkageOf_42 : decode cX8_linkageOf 42 = .ok (.iload_n 1, 1) := by decide +kernel
theorem dX8_linkageOf_43 : decode cX8_linkageOf 43 = .ok (.if_icmp .ne 69, 3) := by decide +kernel
theorem dX8_linkageOf_46 : decode cX8_linkageOf 46 = .ok (.aload_n 0, 1) := by decide +kernel
theorem dX8_linkageOf_47 : decode cX8_linkageOf 47 = .ok (.getfield 42, 3) := by decide +kernel
theorem dX8_linkageOf_50 : decode cX8_linkageOf 50 = .ok (.iload 8, 2) := by decide +kernel
theorem dX8_linkageOf_52 : decode cX8_linkageOf 52 = .ok (.iaload, 1) := by decide +kernel
theorem dX8_linkageOf_53 : decode cX8_linkageOf 53 = .ok (.iload_n 2, 1) := by decide +kernel
theorem dX8_linkageOf_54 : decode cX8_linkageOf 54 = .ok (.if_icmp .eq 6, 3) := by decide +kernel
theorem dX8_linkageOf_57 : decode cX8_linkageOf 57 = .ok (.goto 55, 3) := by decide +kernel
theorem dX8_linkageOf_60 : decode cX8_linkageOf 60 = .ok (.aload_n 0, 1) := by decide +kernel
theorem dX8_linkageOf_61 : decode cX8_linkageOf 61 = .ok (.getfield 45, 3) := by decide +kernel
theorem dX8_linkageOf_64 : decode cX8_linkageOf 64 = .ok (.bipush 14, 2) := by decide +kernel
theorem dX8_linkageOf_66 : decode cX8_linkageOf 66 = .ok (.iload 7, 2) := by decide +kernel
theorem dX8_linkageOf_68 : decode cX8_linkageOf 68 = .ok (.imul, 1) := by decide +kernel
theorem dX8_linkageOf_69 : decode cX8_linkageOf 69 = .ok (.iload 8, 2) := by decide +kernel
theorem dX8_linkageOf_71 : decode cX8_linkageOf 71 = .ok (.iadd, 1) := by decide +kernel
theorem dX8_linkageOf_72 : decode cX8_linkageOf 72 = .ok (.iaload, 1) := by decide +kernel
theorem dX8_linkageOf_73 : decode cX8_linkageOf 73 = .ok (.istore 9, 2) := by decide +kernel
theorem dX8_linkageOf_75 : decode cX8_linkageOf 75 = .ok (.iload_n 3, 1) := by decide +kernel
theorem dX8_linkageOf_76 : decode cX8_linkageOf 76 = .ok (.iload 9, 2) := by decide +kernel
theorem dX8_linkageOf_78 : decode cX8_linkageOf 78 = .ok (.invokestatic 117, 3) := by decide +kernel
theorem dX8_linkageOf_81 : decode cX8_linkageOf 81 = .ok (.istore_n 3, 1) := by decide +kernel
theorem dX8_linkageOf_82 : decode cX8_linkageOf 82 = .ok (.iload 4, 2) := by decide +kernel
theorem dX8_linkageOf_84 : decode cX8_linkageOf 84 = .ok (.iconst (-1), 1) := by decide +kernel
theorem dX8_linkageOf_85 : decode cX8_linkageOf 85 = .ok (.if_icmp .ne 8, 3) := by decide +kernel
theorem dX8_linkageOf_88 : decode cX8_linkageOf 88 = .ok (.iload 9, 2) := by decide +kernel
theorem dX8_linkageOf_90 : decode cX8_linkageOf 90 = .ok (.goto 10, 3) := by decide +kernel
theorem dX8_linkageOf_93 : decode cX8_linkageOf 93 = .ok (.iload 4, 2) := by decide +kernel
theorem dX8_linkageOf_95 : decode cX8_linkageOf 95 = .ok (.iload 9, 2) := by decide +kernel
theorem dX8_linkageOf_97 : decode cX8_linkageOf 97 = .ok (.invokestatic 120, 3) := by decide +kernel
theorem dX8_linkageOf_100 : decode cX8_linkageOf 100 = .ok (.istore 4, 2) := by decide +kernel
theorem dX8_linkageOf_102 : decode cX8_linkageOf 102 = .ok (.iload 5, 2) := by decide +kernel
theorem dX8_linkageOf_104 : decode cX8_linkageOf 104 = .ok (.iload 9, 2) := by decide +kernel
theorem dX8_linkageOf_106 : decode cX8_linkageOf 106 = .ok (.iadd, 1) := by decide +kernel
theorem dX8_linkageOf_107 : decode cX8_linkageOf 107 = .ok (.istore 5, 2) := by decide +kernel
theorem dX8_linkageOf_109 : decode cX8_linkageOf 109 = .ok (.iinc 6 1, 3) := by decide +kernel
theorem dX8_linkageOf_112 : decode cX8_linkageOf 112 = .ok (.iinc 8 1, 3) := by decide +kernel
theorem dX8_linkageOf_115 : decode cX8_linkageOf 115 = .ok (.goto (-89), 3) := by decide +kernel
theorem dX8_linkageOf_118 : decode cX8_linkageOf 118 = .ok (.iinc 7 1, 3) := by decide +kernel
theorem dX8_linkageOf_121 : decode cX8_linkageOf 121 = .ok (.goto (-107), 3) := by decide +kernel
theorem dX8_linkageOf_124 : decode cX8_linkageOf 124 = .ok (.aload_n 0, 1) := by decide +kernel
theorem dX8_linkageOf_125 : decode cX8_linkageOf 125 = .ok (.getfield 39, 3) := by decide +kernel
theorem dX8_linkageOf_128 : decode cX8_linkageOf 128 = .ok (.ifCond .ne 7, 3) := by decide +kernel
theorem dX8_linkageOf_131 : decode cX8_linkageOf 131 = .ok (.iload_n 3, 1) := by decide +kernel
theorem dX8_linkageOf_132 : decode cX8_linkageOf 132 = .ok (.goto 21, 3) := by decide +kernel
theorem dX8_linkageOf_135 : decode cX8_linkageOf 135 = .ok (.aload_n 0, 1) := by decide +kernel
theorem dX8_linkageOf_136 : decode cX8_linkageOf 136 = .ok (.getfield 39, 3) := by decide +kernel
theorem dX8_linkageOf_139 : decode cX8_linkageOf 139 = .ok (.iconst 1, 1) := by decide +kernel
theorem dX8_linkageOf_140 : decode cX8_linkageOf 140 = .ok (.if_icmp .ne 11, 3) := by decide +kernel
theorem dX8_linkageOf_143 : decode cX8_linkageOf 143 = .ok (.iload 5, 2) := by decide +kernel
theorem dX8_linkageOf_145 : decode cX8_linkageOf 145 = .ok (.iload 6, 2) := by decide +kernel
theorem dX8_linkageOf_147 : decode cX8_linkageOf 147 = .ok (.idiv, 1) := by decide +kernel
theorem dX8_linkageOf_148 : decode cX8_linkageOf 148 = .ok (.goto 5, 3) := by decide +kernel
theorem dX8_linkageOf_151 : decode cX8_linkageOf 151 = .ok (.iload 4, 2) := by decide +kernel
theorem dX8_linkageOf_153 : decode cX8_linkageOf 153 = .ok (.ireturn, 1) := by decide +kernel
set_option maxHeartbeats 4000000 in
set_option maxRecDepth 100000 in
theorem mX8_linkageOf_L2 {p : Program} {l : Launch} {e : Env} {R : Room} {s : State} {m : MethodId} {args : Array Value} {below : List Frame} {meth : Method} {c : Code} {Q : State → Prop} {D : va_G} {U : zz_U} {A : Nat → Prop} {cells slots : Nat} {ad : Nat → Nat} {X : va_W} {ρ : zz_St} (C : zz_C p l R s m meth c D U A RX8 cX8_linkageOf 10 (some .int) [] 1) (hcR : cells ≤ R.cells) (hsR : slots ≤ R.slots) (σ : zz_St) (first_ : Int32) (second_ : Int32) (a_ : Int32) : ∀ (n : Nat) (most_ : Int32) (least_ : Int32) (sum_ : Int32) (many_ : Int32) (b_ : Int32) (q : (Int32 × Int32 × Int32 × Int32 × Int32)), fX8_linkageOf_L2 σ first_ second_ a_ n most_ least_ sum_ many_ b_ = some q → (zz_Z p l e R s m args below meth c Q D A 10 cells slots (zz_wm U ad ρ σ X) 118 [(0, .ref (ad 47)), (1, .int first_), (2, .int second_), (3, .int q.1), (4, .int q.2.1), (5, .int q.2.2.1), (6, .int q.2.2.2.1), (7, .int a_), (8, .int q.2.2.2.2)] []) → zz_Z p l e R s m args below meth c Q D A 10 cells slots (zz_wm U ad ρ σ X) 26 [(0, .ref (ad 47)), (1, .int first_), (2, .int second_), (3, .int most_), (4, .int least_), (5, .int sum_), (6, .int many_), (7, .int a_), (8, .int b_)] [] := by
  intro n
  induction n with
  | zero => intro most_ least_ sum_ many_ b_ q hf; rw [fX8_linkageOf_L2] at hf; cases hf
  | succ n ih =>
    intro most_ least_ sum_ many_ b_ q hf kx
    rw [fX8_linkageOf_L2] at hf
    refine zz_iload C 8 dX8_linkageOf_26 rfl ?_
    refine zz_aload_n C 0 dX8_linkageOf_28 rfl rfl ?_
    refine zf8_pieces C dX8_linkageOf_29 zw_148 ?_
    refine zz_icmp_ge (tgt := 118) C dX8_linkageOf_32 (by decide) (fun g2 => ?_) (fun g2 => ?_)
    · rw [if_pos g2] at hf
      cases hf
      exact kx
    · rw [if_neg g2] at hf
      obtain ⟨b3, h4, hf⟩ := zz_bind hf
      refine zz_cutI (P := b3 = true) 112 [(0, .ref (ad 47)), (1, .int first_), (2, .int second_), (3, .int most_), (4, .int least_), (5, .int sum_), (6, .int many_), (7, .int a_), (8, .int b_)] [] (zz_wm U ad ρ σ X) (fun g7 => ?_) (fun J5 => ?_)
      · rw [if_pos g7] at hf
        refine zz_iinc (v := (b_ + (1 : Int32))) C 8 dX8_linkageOf_112 rfl (by rfl) (by decide) (lv' := [(8, .int (b_ + (1 : Int32))), (0, .ref (ad 47)), (1, .int first_), (2, .int second_), (3, .int most_), (4, .int least_), (5, .int sum_), (6, .int many_), (7, .int a_)]) rfl ?_
        refine zz_goto (tgt := 26) C dX8_linkageOf_115 (by decide) ?_
        refine zz_sub [1, 2, 3, 4, 5, 6, 7, 8, 0] rfl ?_
        exact ih most_ least_ sum_ many_ (b_ + (1 : Int32)) _ hf kx
      refine zz_cutI (P := b3 = false) 60 [(0, .ref (ad 47)), (1, .int first_), (2, .int second_), (3, .int most_), (4, .int least_), (5, .int sum_), (6, .int many_), (7, .int a_), (8, .int b_)] [] (zz_wm U ad ρ σ X) (fun g7 => ?_) (fun J6 => ?_)
      · rw [if_neg (show ¬ b3 = true by rw [g7]; decide)] at hf
        refine zz_aload_n C 0 dX8_linkageOf_60 rfl rfl ?_
        refine zf8_affinities C dX8_linkageOf_61 zw_177 ?_
        refine zz_bipush (v := (14 : Int32)) C dX8_linkageOf_64 (by decide) ?_
        refine zz_iload C 7 dX8_linkageOf_66 rfl ?_
        refine zz_imul C dX8_linkageOf_68 ?_
        refine zz_iload C 8 dX8_linkageOf_69 rfl ?_
        refine zz_iadd C dX8_linkageOf_71 ?_
        obtain ⟨x14, h15, hf⟩ := zz_bind hf
        refine zl_56 C dX8_linkageOf_72 h15 ?_
        refine zz_istore C dX8_linkageOf_73 (by decide) (lv' := [(9, .int x14), (0, .ref (ad 47)), (1, .int first_), (2, .int second_), (3, .int most_), (4, .int least_), (5, .int sum_), (6, .int many_), (7, .int a_), (8, .int b_)]) rfl ?_
        refine zz_iload_n C 4 dX8_linkageOf_75 rfl rfl ?_
        refine zz_iload C 0 dX8_linkageOf_76 rfl ?_
        refine zz_mmax C dX8_linkageOf_78 zw_172 zm_max_1 zm_max_2 zm_max_3 (by decide) (Nat.le_of_ble_eq_true rfl) hcR hsR ?_
        obtain ⟨x16, h17, hf⟩ := zz_bind hf
        refine zz_topi (Option.some.inj h17) ?_
        refine zz_istore_n C dX8_linkageOf_81 rfl (by decide) (lv' := [(3, .int x16), (9, .int x14), (0, .ref (ad 47)), (1, .int first_), (2, .int second_), (4, .int least_), (5, .int sum_), (6, .int many_), (7, .int a_), (8, .int b_)]) rfl ?_
        obtain ⟨x18, h19, hf⟩ := zz_bind hf
        refine zz_cut 100 [(3, .int x16), (9, .int x14), (0, .ref (ad 47)), (1, .int first_), (2, .int second_), (4, .int least_), (5, .int sum_), (6, .int many_), (7, .int a_), (8, .int b_)] [.int x18] (zz_wm U ad ρ σ X) ?_ (fun J20 => ?_)
        · refine zz_istore C dX8_linkageOf_100 (by decide) (lv' := [(4, .int x18), (3, .int x16), (9, .int x14), (0, .ref (ad 47)), (1, .int first_), (2, .int second_), (5, .int sum_), (6, .int many_), (7, .int a_), (8, .int b_)]) rfl ?_
          refine zz_iload C 6 dX8_linkageOf_102 rfl ?_
          refine zz_iload C 2 dX8_linkageOf_104 rfl ?_
          refine zz_iadd C dX8_linkageOf_106 ?_
          obtain ⟨x22, h23, hf⟩ := zz_bind hf
          refine zz_topi (Option.some.inj h23) ?_
          refine zz_istore C dX8_linkageOf_107 (by decide) (lv' := [(5, .int x22), (4, .int x18), (3, .int x16), (9, .int x14), (0, .ref (ad 47)), (1, .int first_), (2, .int second_), (6, .int many_), (7, .int a_), (8, .int b_)]) rfl ?_
          refine zz_iinc (v := (many_ + (1 : Int32))) C 7 dX8_linkageOf_109 rfl (by rfl) (by decide) (lv' := [(6, .int (many_ + (1 : Int32))), (5, .int x22), (4, .int x18), (3, .int x16), (9, .int x14), (0, .ref (ad 47)), (1, .int first_), (2, .int second_), (7, .int a_), (8, .int b_)]) rfl ?_
          refine zz_iinc (v := (b_ + (1 : Int32))) C 9 dX8_linkageOf_112 rfl (by rfl) (by decide) (lv' := [(8, .int (b_ + (1 : Int32))), (6, .int (many_ + (1 : Int32))), (5, .int x22), (4, .int x18), (3, .int x16), (9, .int x14), (0, .ref (ad 47)), (1, .int first_), (2, .int second_), (7, .int a_)]) rfl ?_
          refine zz_goto (tgt := 26) C dX8_linkageOf_115 (by decide) ?_
          refine zz_sub [6, 7, 8, 4, 3, 2, 1, 9, 0] rfl ?_
          exact ih x16 x18 x22 (many_ + (1 : Int32)) (b_ + (1 : Int32)) _ hf kx
        refine zz_iload C 5 dX8_linkageOf_82 rfl ?_
        refine zz_iconst (v := (-1 : Int32)) C dX8_linkageOf_84 (by decide) ?_
        refine zz_icmp_ne (tgt := 93) C dX8_linkageOf_85 (by decide) (fun g21 => ?_) (fun g21 => ?_)
        · rw [if_neg g21] at h19
          refine zz_iload C 5 dX8_linkageOf_93 rfl ?_
          refine zz_iload C 1 dX8_linkageOf_95 rfl ?_
          refine zz_mmin C dX8_linkageOf_97 zw_173 zm_min_1 zm_min_2 zm_min_3 (by decide) (Nat.le_of_ble_eq_true rfl) hcR hsR ?_
          cases h19
          exact J20
        · rw [if_pos g21] at h19
          refine zz_iload C 1 dX8_linkageOf_88 rfl ?_
          refine zz_goto (tgt := 100) C dX8_linkageOf_90 (by decide) ?_
          cases h19
          exact J20
      refine zz_aload_n C 0 dX8_linkageOf_35 rfl rfl ?_
      refine zf8_heads C dX8_linkageOf_36 zw_170 ?_
      refine zz_iload C 7 dX8_linkageOf_39 rfl ?_
      obtain ⟨x8, h9, h4⟩ := zz_bind h4
      refine zl_55 C dX8_linkageOf_41 h9 ?_
      refine zz_iload_n C 1 dX8_linkageOf_42 rfl rfl ?_
      refine zz_icmp_ne (tgt := 112) C dX8_linkageOf_43 (by decide) (fun g10 => ?_) (fun g10 => ?_)
      · rw [if_neg g10] at h4
        cases h4
        exact J5 rfl
      · rw [if_pos g10] at h4
        refine zz_aload_n C 0 dX8_linkageOf_46 rfl rfl ?_
        refine zf8_heads C dX8_linkageOf_47 zw_170 ?_
        refine zz_iload C 8 dX8_linkageOf_50 rfl ?_
        obtain ⟨x11, h12, h4⟩ := zz_bind h4
        refine zl_55 C dX8_linkageOf_52 h12 ?_
        refine zz_iload_n C 2 dX8_linkageOf_53 rfl rfl ?_
        refine zz_icmp_eq (tgt := 60) C dX8_linkageOf_54 (by decide) (fun g13 => ?_) (fun g13 => ?_)
        · rw [if_pos g13] at h4
          cases h4
          exact J6 rfl
        · rw [if_neg g13] at h4
          refine zz_goto (tgt := 112) C dX8_linkageOf_57 (by decide) ?_
          cases h4
          exact J5 rfl
set_option maxHeartbeats 4000000 in
set_option maxRecDepth 100000 in
theorem mX8_linkageOf_L1 {p : Program} {l : Launch} {e : Env} {R : Room} {s : State} {m : MethodId} {args : Array Value} {below : List Frame} {meth : Method} {c : Code} {Q : State → Prop} {D : va_G} {U : zz_U} {A : Nat → Prop} {cells slots : Nat} {ad : Nat → Nat} {X : va_W} {ρ : zz_St} (C : zz_C p l R s m meth c D U A RX8 cX8_linkageOf 10 (some .int) [] 1) (hcR : cells ≤ R.cells) (hsR : slots ≤ R.slots) (σ : zz_St) (first_ : Int32) (second_ : Int32) : ∀ (n : Nat) (most_ : Int32) (least_ : Int32) (sum_ : Int32) (many_ : Int32) (a_ : Int32) (q : (Int32 × Int32 × Int32 × Int32 × Int32)), fX8_linkageOf_L1 σ first_ second_ n most_ least_ sum_ many_ a_ = some q → (zz_Z p l e R s m args below meth c Q D A 10 cells slots (zz_wm U ad ρ σ X) 124 [(0, .ref (ad 47)), (1, .int first_), (2, .int second_), (3, .int q.1), (4, .int q.2.1), (5, .int q.2.2.1), (6, .int q.2.2.2.1), (7, .int q.2.2.2.2)] []) → zz_Z p l e R s m args below meth c Q D A 10 cells slots (zz_wm U ad ρ σ X) 14 [(0, .ref (ad 47)), (1, .int first_), (2, .int second_), (3, .int most_), (4, .int least_), (5, .int sum_), (6, .int many_), (7, .int a_)] [] := by
  intro n
  induction n with
  | zero => intro most_ least_ sum_ many_ a_ q hf; rw [fX8_linkageOf_L1] at hf; cases hf
  | succ n ih =>
    intro most_ least_ sum_ many_ a_ q hf kx
    rw [fX8_linkageOf_L1] at hf
    refine zz_iload C 7 dX8_linkageOf_14 rfl ?_
    refine zz_aload_n C 0 dX8_linkageOf_16 rfl rfl ?_
    refine zf8_pieces C dX8_linkageOf_17 zw_148 ?_
    refine zz_icmp_ge (tgt := 124) C dX8_linkageOf_20 (by decide) (fun g1 => ?_) (fun g1 => ?_)
    · rw [if_pos g1] at hf
      cases hf
      exact kx
    · rw [if_neg g1] at hf
      refine zz_iconst (v := (0 : Int32)) C dX8_linkageOf_23 (by decide) ?_
      refine zz_istore C dX8_linkageOf_24 (by decide) (lv' := [(8, .int (0 : Int32)), (0, .ref (ad 47)), (1, .int first_), (2, .int second_), (3, .int most_), (4, .int least_), (5, .int sum_), (6, .int many_), (7, .int a_)]) rfl ?_
      obtain ⟨q24, h25, hf⟩ := zz_bind hf
      refine zz_sub [1, 2, 3, 4, 5, 6, 7, 8, 0] rfl ?_
      refine mX8_linkageOf_L2 C hcR hsR σ first_ second_ a_ 1000 most_ least_ sum_ many_ (0 : Int32) q24 h25 ?_
      refine zz_iinc (v := (a_ + (1 : Int32))) C 7 dX8_linkageOf_118 rfl (by rfl) (by decide) (lv' := [(7, .int (a_ + (1 : Int32))), (0, .ref (ad 47)), (1, .int first_), (2, .int second_), (3, .int q24.1), (4, .int q24.2.1), (5, .int q24.2.2.1), (6, .int q24.2.2.2.1), (8, .int q24.2.2.2.2)]) rfl ?_
      refine zz_goto (tgt := 14) C dX8_linkageOf_121 (by decide) ?_
      refine zz_sub [1, 2, 3, 4, 5, 6, 7, 0] rfl ?_
      exact ih q24.1 q24.2.1 q24.2.2.1 q24.2.2.2.1 (a_ + (1 : Int32)) _ hf kx
set_option maxHeartbeats 4000000 in
set_option maxRecDepth 100000 in
theorem mX8_linkageOf {D : va_G} {U : zz_U} {ad : Nat → Nat} {X : va_W} {ρ : zz_St} (σ : zz_St) (first_ : Int32) (second_ : Int32) (r : Int32) (hf : fX8_linkageOf σ first_ second_ = some r) : zz_Met yX8_linkageOf (.code yX8_linkageOf cX8_linkageOf 10 (some .int)) 1 0 0 D U [.ref (ad 47), .int first_, .int second_] (zz_wm U ad ρ σ X) (zz_ok (some (.int r)) (zz_wm U ad ρ σ X)) zz_noth := by
  unfold fX8_linkageOf at hf
  refine zz_method RX8 rfl (by decide +kernel) (Nat.le_of_ble_eq_true rfl) ?_
  intro p l e s m args below meth c A _ C
  refine zz_lvs (lv1 := [(0, .ref (ad 47)), (1, .int first_), (2, .int second_)]) rfl ?_
  refine zz_iconst (v := (-1 : Int32)) C dX8_linkageOf_0 (by decide) ?_
  refine zz_istore_n C dX8_linkageOf_1 rfl (by decide) (lv' := [(3, .int (-1 : Int32)), (0, .ref (ad 47)), (1, .int first_), (2, .int second_)]) rfl ?_
  refine zz_iconst (v := (-1 : Int32)) C dX8_linkageOf_2 (by decide) ?_
  refine zz_istore C dX8_linkageOf_3 (by decide) (lv' := [(4, .int (-1 : Int32)), (3, .int (-1 : Int32)), (0, .ref (ad 47)), (1, .int first_), (2, .int second_)]) rfl ?_
  refine zz_iconst (v := (0 : Int32)) C dX8_linkageOf_5 (by decide) ?_
  refine zz_istore C dX8_linkageOf_6 (by decide) (lv' := [(5, .int (0 : Int32)), (4, .int (-1 : Int32)), (3, .int (-1 : Int32)), (0, .ref (ad 47)), (1, .int first_), (2, .int second_)]) rfl ?_
  refine zz_iconst (v := (0 : Int32)) C dX8_linkageOf_8 (by decide) ?_
  refine zz_istore C dX8_linkageOf_9 (by decide) (lv' := [(6, .int (0 : Int32)), (5, .int (0 : Int32)), (4, .int (-1 : Int32)), (3, .int (-1 : Int32)), (0, .ref (ad 47)), (1, .int first_), (2, .int second_)]) rfl ?_
  refine zz_iconst (v := (0 : Int32)) C dX8_linkageOf_11 (by decide) ?_
  refine zz_istore C dX8_linkageOf_12 (by decide) (lv' := [(7, .int (0 : Int32)), (6, .int (0 : Int32)), (5, .int (0 : Int32)), (4, .int (-1 : Int32)), (3, .int (-1 : Int32)), (0, .ref (ad 47)), (1, .int first_), (2, .int second_)]) rfl ?_
  obtain ⟨q26, h27, hf⟩ := zz_bind hf
  refine zz_sub [5, 6, 7, 4, 3, 2, 1, 0] rfl ?_
  refine mX8_linkageOf_L1 C (Nat.le_of_ble_eq_true rfl) (Nat.le_of_ble_eq_true rfl) σ first_ second_ 1000 (-1 : Int32) (-1 : Int32) (0 : Int32) (0 : Int32) (0 : Int32) q26 h27 ?_
  obtain ⟨x28, h29, hf⟩ := zz_bind hf
  refine zz_cut 153 [(0, .ref (ad 47)), (1, .int first_), (2, .int second_), (3, .int q26.1), (4, .int q26.2.1), (5, .int q26.2.2.1), (6, .int q26.2.2.2.1), (7, .int q26.2.2.2.2)] [.int x28] (zz_wm U ad ρ σ X) ?_ (fun J30 => ?_)
  · cases hf
    exact zz_iret C dX8_linkageOf_153 (And.intro rfl rfl) (Nat.le_of_ble_eq_true rfl) (Nat.le_of_ble_eq_true rfl)
  refine zz_aload_n C 0 dX8_linkageOf_124 rfl rfl ?_
  refine zf8_manner C dX8_linkageOf_125 zw_169 ?_
  refine zz_if_ne (tgt := 135) C dX8_linkageOf_128 (by decide) (fun g31 => ?_) (fun g31 => ?_)
  · rw [if_neg g31] at h29
    obtain ⟨x32, h33, h29⟩ := zz_bind h29
    refine zz_cut 153 [(0, .ref (ad 47)), (1, .int first_), (2, .int second_), (3, .int q26.1), (4, .int q26.2.1), (5, .int q26.2.2.1), (6, .int q26.2.2.2.1), (7, .int q26.2.2.2.2)] [.int x32] (zz_wm U ad ρ σ X) ?_ (fun J34 => ?_)
    · cases h29
      exact J30
    refine zz_aload_n C 0 dX8_linkageOf_135 rfl rfl ?_
    refine zf8_manner C dX8_linkageOf_136 zw_169 ?_
    refine zz_iconst (v := (1 : Int32)) C dX8_linkageOf_139 (by decide) ?_
    refine zz_icmp_ne (tgt := 151) C dX8_linkageOf_140 (by decide) (fun g35 => ?_) (fun g35 => ?_)
    · rw [if_neg g35] at h33
      refine zz_iload C 4 dX8_linkageOf_151 rfl ?_
      cases h33
      exact J34
    · rw [if_pos g35] at h33
      refine zz_iload C 5 dX8_linkageOf_143 rfl ?_
      refine zz_iload C 6 dX8_linkageOf_145 rfl ?_
      obtain ⟨x36, h37, h33⟩ := zz_bind h33
      refine zz_idiv C dX8_linkageOf_147 (zz_dv_in h37).1 ?_
      refine zz_topi (zz_dv_in h37).2 ?_
      refine zz_goto (tgt := 153) C dX8_linkageOf_148 (by decide) ?_
      cases h33
      exact J34
  · rw [if_pos g31] at h29
    refine zz_iload_n C 3 dX8_linkageOf_131 rfl rfl ?_
    refine zz_goto (tgt := 153) C dX8_linkageOf_132 (by decide) ?_
    cases h29
    exact J30
theorem dX8_makeGroups_0 : decode cX8_makeGroups 0 = .ok (.aload_n 0, 1) := by decide +kernel
theorem dX8_makeGroups_1 : decode cX8_makeGroups 1 = .ok (.invokevirtual 130, 3) := by decide +kernel
theorem dX8_makeGroups_4 : decode cX8_makeGroups 4 = .ok (.iconst 0, 1) := by decide +kernel
theorem dX8_makeGroups_5 : decode cX8_makeGroups 5 = .ok (.istore_n 1, 1) := by decide +kernel
theorem dX8_makeGroups_6 : decode cX8_makeGroups 6 = .ok (.iload_n 1, 1) := by decide +kernel
theorem dX8_makeGroups_7 : decode cX8_makeGroups 7 = .ok (.aload_n 0, 1) := by decide +kernel
theorem dX8_makeGroups_8 : decode cX8_makeGroups 8 = .ok (.getfield 66, 3) := by decide +kernel
theorem dX8_makeGroups_11 : decode cX8_makeGroups 11 = .ok (.if_icmp .ge 51, 3) := by decide +kernel
theorem dX8_makeGroups_14 : decode cX8_makeGroups 14 = .ok (.iconst 0, 1) := by decide +kernel
theorem dX8_makeGroups_15 : decode cX8_makeGroups 15 = .ok (.istore_n 2, 1) := by decide +kernel
theorem dX8_makeGroups_16 : decode cX8_makeGroups 16 = .ok (.iload_n 2, 1) := by decide +kernel
theorem dX8_makeGroups_17 : decode cX8_makeGroups 17 = .ok (.aload_n 0, 1) := by decide +kernel
theorem dX8_makeGroups_18 : decode cX8_makeGroups 18 = .ok (.getfield 66, 3) := by decide +kernel
theorem dX8_makeGroups_21 : decode cX8_makeGroups 21 = .ok (.if_icmp .ge 35, 3) := by decide +kernel
theorem dX8_makeGroups_24 : decode cX8_makeGroups 24 = .ok (.aload_n 0, 1) := by decide +kernel
theorem dX8_makeGroups_25 : decode cX8_makeGroups 25 = .ok (.getfield 45, 3) := by decide +kernel
theorem dX8_makeGroups_28 : decode cX8_makeGroups 28 = .ok (.bipush 14, 2) := by decide +kernel
theorem dX8_makeGroups_30 : decode cX8_makeGroups 30 = .ok (.iload_n 1, 1) := by decide +kernel
theorem dX8_makeGroups_31 : decode cX8_makeGroups 31 = .ok (.imul, 1) := by decide +kernel
theorem dX8_makeGroups_32 : decode cX8_makeGroups 32 = .ok (.iload_n 2, 1) := by decide +kernel
theorem dX8_makeGroups_33 : decode cX8_makeGroups 33 = .ok (.iadd, 1) := by decide +kernel
theorem dX8_makeGroups_34 : decode cX8_makeGroups 34 = .ok (.iload_n 1, 1) := by decide +kernel
theorem dX8_makeGroups_35 : decode cX8_makeGroups 35 = .ok (.iload_n 2, 1) := by decide +kernel
theorem dX8_makeGroups_36 : decode cX8_makeGroups 36 = .ok (.if_icmp .ne 7, 3) := by decide +kernel
theorem dX8_makeGroups_39 : decode cX8_makeGroups 39 = .ok (.iconst 0, 1) := by decide +kernel
theorem dX8_makeGroups_40 : decode cX8_makeGroups 40 = .ok (.goto 9, 3) := by decide +kernel
theorem dX8_makeGroups_43 : decode cX8_makeGroups 43 = .ok (.aload_n 0, 1) := by decide +kernel
theorem dX8_makeGroups_44 : decode cX8_makeGroups 44 = .ok (.iload_n 1, 1) := by decide +kernel
theorem dX8_makeGroups_45 : decode cX8_makeGroups 45 = .ok (.iload_n 2, 1) := by decide +kernel
theorem dX8_makeGroups_46 : decode cX8_makeGroups 46 = .ok (.invokevirtual 114, 3) := by decide +kernel
theorem dX8_makeGroups_49 : decode cX8_makeGroups 49 = .ok (.iastore, 1) := by decide +kernel
theorem dX8_makeGroups_50 : decode cX8_makeGroups 50 = .ok (.iinc 2 1, 3) := by decide +kernel
theorem dX8_makeGroups_53 : decode cX8_makeGroups 53 = .ok (.goto (-37), 3) := by decide +kernel
theorem dX8_makeGroups_56 : decode cX8_makeGroups 56 = .ok (.iinc 1 1, 3) := by decide +kernel
theorem dX8_makeGroups_59 : decode cX8_makeGroups 59 = .ok (.goto (-53), 3) := by decide +kernel
theorem dX8_makeGroups_62 : decode cX8_makeGroups 62 = .ok (.aload_n 0, 1) := by decide +kernel
theorem dX8_makeGroups_63 : decode cX8_makeGroups 63 = .ok (.iconst (-1), 1) := by decide +kernel
theorem dX8_makeGroups_64 : decode cX8_makeGroups 64 = .ok (.putfield 133, 3) := by decide +kernel
theorem dX8_makeGroups_67 : decode cX8_makeGroups 67 = .ok (.iconst 1, 1) := by decide +kernel
theorem dX8_makeGroups_68 : decode cX8_makeGroups 68 = .ok (.istore_n 1, 1) := by decide +kernel
theorem dX8_makeGroups_69 : decode cX8_makeGroups 69 = .ok (.iload_n 1, 1) := by decide +kernel
theorem dX8_makeGroups_70 : decode cX8_makeGroups 70 = .ok (.ifCond .eq 154, 3) := by decide +kernel
theorem dX8_makeGroups_73 : decode cX8_makeGroups 73 = .ok (.iconst (-1), 1) := by decide +kernel
theorem dX8_makeGroups_74 : decode cX8_makeGroups 74 = .ok (.istore_n 2, 1) := by decide +kernel
theorem dX8_makeGroups_75 : decode cX8_makeGroups 75 = .ok (.iconst (-1), 1) := by decide +kernel
theorem dX8_makeGroups_76 : decode cX8_makeGroups 76 = .ok (.istore_n 3, 1) := by decide +kernel
theorem dX8_makeGroups_77 : decode cX8_makeGroups 77 = .ok (.aload_n 0, 1) := by decide +kernel
theorem dX8_makeGroups_78 : decode cX8_makeGroups 78 = .ok (.getfield 36, 3) := by decide +kernel
theorem dX8_makeGroups_81 : decode cX8_makeGroups 81 = .ok (.iconst 1, 1) := by decide +kernel
theorem dX8_makeGroups_82 : decode cX8_makeGroups 82 = .ok (.isub, 1) := by decide +kernel
theorem dX8_makeGroups_83 : decode cX8_makeGroups 83 = .ok (.istore 4, 2) := by decide +kernel
theorem dX8_makeGroups_85 : decode cX8_makeGroups 85 = .ok (.iconst 0, 1) := by decide +kernel
theorem dX8_makeGroups_86 : decode cX8_makeGroups 86 = .ok (.istore 5, 2) := by decide +kernel
theorem dX8_makeGroups_88 : decode cX8_makeGroups 88 = .ok (.iload 5, 2) := by decide +kernel
theorem dX8_makeGroups_90 : decode cX8_makeGroups 90 = .ok (.aload_n 0, 1) := by decide +kernel
theorem dX8_makeGroups_91 : decode cX8_makeGroups 91 = .ok (.getfield 66, 3) := by decide +kernel
theorem dX8_makeGroups_94 : decode cX8_makeGroups 94 = .ok (.if_icmp .ge 97, 3) := by decide +kernel
theorem dX8_makeGroups_97 : decode cX8_makeGroups 97 = .ok (.iload 5, 2) := by decide +kernel
theorem dX8_makeGroups_99 : decode cX8_makeGroups 99 = .ok (.iconst 1, 1) := by decide +kernel
theorem dX8_makeGroups_100 : decode cX8_makeGroups 100 = .ok (.iadd, 1) := by decide +kernel
theorem dX8_makeGroups_101 : decode cX8_makeGroups 101 = .ok (.istore 6, 2) := by decide +kernel
theorem dX8_makeGroups_103 : decode cX8_makeGroups 103 = .ok (.iload 6, 2) := by decide +kernel
theorem dX8_makeGroups_105 : decode cX8_makeGroups 105 = .ok (.aload_n 0, 1) := by decide +kernel
theorem dX8_makeGroups_106 : decode cX8_makeGroups 106 = .ok (.getfield 66, 3) := by decide +kernel
theorem dX8_makeGroups_109 : decode cX8_makeGroups 109 = .ok (.if_icmp .ge 76, 3) := by decide +kernel
theorem dX8_makeGroups_112 : decode cX8_makeGroups 112 = .ok (.aload_n 0, 1) := by decide +kernel
theorem dX8_makeGroups_113 : decode cX8_makeGroups 113 = .ok (.getfield 42, 3) := by decide +kernel
theorem dX8_makeGroups_116 : decode cX8_makeGroups 116 = .ok (.iload 5, 2) := by decide +kernel
theorem dX8_makeGroups_118 : decode cX8_makeGroups 118 = .ok (.iaload, 1) := by decide +kernel
theorem dX8_makeGroups_119 : decode cX8_makeGroups 119 = .ok (.iload 5, 2) := by decide +kernel
theorem dX8_makeGroups_121 : decode cX8_makeGroups 121 = .ok (.if_icmp .ne 58, 3) := by decide +kernel
theorem dX8_makeGroups_124 : decode cX8_makeGroups 124 = .ok (.aload_n 0, 1) := by decide +kernel
theorem dX8_makeGroups_125 : decode cX8_makeGroups 125 = .ok (.getfield 42, 3) := by decide +kernel
theorem dX8_makeGroups_128 : decode cX8_makeGroups 128 = .ok (.iload 6, 2) := by decide +kernel
theorem dX8_makeGroups_130 : decode cX8_makeGroups 130 = .ok (.iaload, 1) := by decide +kernel
theorem dX8_makeGroups_131 : decode cX8_makeGroups 131 = .ok (.iload 6, 2) := by decide +kernel
theorem dX8_makeGroups_133 : decode cX8_makeGroups 133 = .ok (.if_icmp .ne 46, 3) := by decide +kernel
theorem dX8_makeGroups_136 : decode cX8_makeGroups 136 = .ok (.aload_n 0, 1) := by decide +kernel
theorem dX8_makeGroups_137 : decode cX8_makeGroups 137 = .ok (.iload 5, 2) := by decide +kernel
theorem dX8_makeGroups_139 : decode cX8_makeGroups 139 = .ok (.iload 6, 2) := by decide +kernel
theorem dX8_makeGroups_141 : decode cX8_makeGroups 141 = .ok (.invokevirtual 136, 3) := by decide +kernel
theorem dX8_makeGroups_144 : decode cX8_makeGroups 144 = .ok (.ifCond .ne 35, 3) := by decide +kernel
theorem dX8_makeGroups_147 : decode cX8_makeGroups 147 = .ok (.aload_n 0, 1) := by decide +kernel
theorem dX8_makeGroups_148 : decode cX8_makeGroups 148 = .ok (.iload 5, 2) := by decide +kernel
theorem dX8_makeGroups_150 : decode cX8_makeGroups 150 = .ok (.iload 6, 2) := by decide +kernel
theorem dX8_makeGroups_152 : decode cX8_makeGroups 152 = .ok (.invokevirtual 139, 3) := by decide +kernel
theorem dX8_makeGroups_155 : decode cX8_makeGroups 155 = .ok (.iload 4, 2) := by decide +kernel
theorem dX8_makeGroups_157 : decode cX8_makeGroups 157 = .ok (.if_icmp .gt 6, 3) := by decide +kernel
theorem dX8_makeGroups_160 : decode cX8_makeGroups 160 = .ok (.goto 19, 3) := by decide +kernel
theorem dX8_makeGroups_163 : decode cX8_makeGroups 163 = .ok (.aload_n 0, 1) := by decide +kernel
theorem dX8_makeGroups_164 : decode cX8_makeGroups 164 = .ok (.iload 5, 2) := by decide +kernel
theorem dX8_makeGroups_166 : decode cX8_makeGroups 166 = .ok (.iload 6, 2) := by decide +kernel
theorem dX8_makeGroups_168 : decode cX8_makeGroups 168 = .ok (.invokevirtual 139, 3) := by decide +kernel
theorem dX8_makeGroups_171 : decode cX8_makeGroups 171 = .ok (.istore 4, 2) := by decide +kernel
theorem dX8_makeGroups_173 : decode cX8_makeGroups 173 = .ok (.iload 5, 2) := by decide +kernel
theorem dX8_makeGroups_175 : decode cX8_makeGroups 175 = .ok (.istore_n 2, 1) := by decide +kernel
theorem dX8_makeGroups_176 : decode cX8_makeGroups 176 = .ok (.iload 6, 2) := by decide +kernel
theorem dX8_makeGroups_178 : decode cX8_makeGroups 178 = .ok (.istore_n 3, 1) := by decide +kernel
theorem dX8_makeGroups_179 : decode cX8_makeGroups 179 = .ok (.iinc 6 1, 3) := by decide +kernel
theorem dX8_makeGroups_182 : decode cX8_makeGroups 182 = .ok (.goto (-79), 3) := by decide +kernel
theorem dX8_makeGroups_185 : decode cX8_makeGroups 185 = .ok (.iinc 5 1, 3) := by decide +kernel
theorem dX8_makeGroups_188 : decode cX8_makeGroups 188 = .ok (.goto (-100), 3) := by decide +kernel
theorem dX8_makeGroups_191 : decode cX8_makeGroups 191 = .ok (.iload_n 2, 1) := by decide +kernel
theorem dX8_makeGroups_192 : decode cX8_makeGroups 192 = .ok (.iconst (-1), 1) := by decide +kernel
theorem dX8_makeGroups_193 : decode cX8_makeGroups 193 = .ok (.if_icmp .eq 7, 3) := by decide +kernel
theorem dX8_makeGroups_196 : decode cX8_makeGroups 196 = .ok (.iconst 1, 1) := by decide +kernel
theorem dX8_makeGroups_197 : decode cX8_makeGroups 197 = .ok (.goto 4, 3) := by decide +kernel
theorem dX8_makeGroups_200 : decode cX8_makeGroups 200 = .ok (.iconst 0, 1) := by decide +kernel
theorem dX8_makeGroups_201 : decode cX8_makeGroups 201 = .ok (.istore_n 1, 1) := by decide +kernel
theorem dX8_makeGroups_202 : decode cX8_makeGroups 202 = .ok (.iload_n 1, 1) := by decide +kernel
theorem dX8_makeGroups_203 : decode cX8_makeGroups 203 = .ok (.ifCond .ne 6, 3) := by decide +kernel
theorem dX8_makeGroups_206 : decode cX8_makeGroups 206 = .ok (.goto (-137), 3) := by decide +kernel
theorem dX8_makeGroups_209 : decode cX8_makeGroups 209 = .ok (.aload_n 0, 1) := by decide +kernel
theorem dX8_makeGroups_210 : decode cX8_makeGroups 210 = .ok (.iload 4, 2) := by decide +kernel
theorem dX8_makeGroups_212 : decode cX8_makeGroups 212 = .ok (.putfield 133, 3) := by decide +kernel
theorem dX8_makeGroups_215 : decode cX8_makeGroups 215 = .ok (.aload_n 0, 1) := by decide +kernel
theorem dX8_makeGroups_216 : decode cX8_makeGroups 216 = .ok (.iload_n 2, 1) := by decide +kernel
theorem dX8_makeGroups_217 : decode cX8_makeGroups 217 = .ok (.iload_n 3, 1) := by decide +kernel
theorem dX8_makeGroups_218 : decode cX8_makeGroups 218 = .ok (.invokevirtual 126, 3) := by decide +kernel
theorem dX8_makeGroups_221 : decode cX8_makeGroups 221 = .ok (.goto (-152), 3) := by decide +kernel
theorem dX8_makeGroups_224 : decode cX8_makeGroups 224 = .ok (.return_, 1) := by decide +kernel
set_option maxHeartbeats 4000000 in
set_option maxRecDepth 100000 in
theorem mX8_makeGroups_L2 {p : Program} {l : Launch} {e : Env} {R : Room} {s : State} {m : MethodId} {args : Array Value} {below : List Frame} {meth : Method} {c : Code} {Q : State → Prop} {D : va_G} {U : zz_U} {A : Nat → Prop} {cells slots : Nat} {ad : Nat → Nat} {X : va_W} {ρ : zz_St} (C : zz_C p l R s m meth c D U A RX8 cX8_makeGroups 7 none [] 4) (hcR : cells ≤ R.cells) (hsR : slots ≤ R.slots) (a_ : Int32) : ∀ (n : Nat) (b_ : Int32) (σ : zz_St) (q : (Int32 × zz_St)), fX8_makeGroups_L2 a_ n b_ σ = some q → (zz_Z p l e R s m args below meth c Q D A 7 cells slots (zz_wm U ad ρ q.2 X) 56 [(0, .ref (ad 47)), (1, .int a_), (2, .int q.1)] []) → zz_Z p l e R s m args below meth c Q D A 7 cells slots (zz_wm U ad ρ σ X) 16 [(0, .ref (ad 47)), (1, .int a_), (2, .int b_)] [] := by
  intro n
  induction n with
  | zero => intro b_ σ q hf; rw [fX8_makeGroups_L2] at hf; cases hf
  | succ n ih =>
    intro b_ σ q hf kx
    rw [fX8_makeGroups_L2] at hf
    refine zz_iload_n C 2 dX8_makeGroups_16 rfl rfl ?_
    refine zz_aload_n C 0 dX8_makeGroups_17 rfl rfl ?_
    refine zf8_pieces C dX8_makeGroups_18 zw_148 ?_
    refine zz_icmp_ge (tgt := 56) C dX8_makeGroups_21 (by decide) (fun g4 => ?_) (fun g4 => ?_)
    · rw [if_pos g4] at hf
      cases hf
      exact kx
    · rw [if_neg g4] at hf
      refine zz_aload_n C 0 dX8_makeGroups_24 rfl rfl ?_
      refine zf8_affinities C dX8_makeGroups_25 zw_177 ?_
      refine zz_bipush (v := (14 : Int32)) C dX8_makeGroups_28 (by decide) ?_
      refine zz_iload_n C 1 dX8_makeGroups_30 rfl rfl ?_
      refine zz_imul C dX8_makeGroups_31 ?_
      refine zz_iload_n C 2 dX8_makeGroups_32 rfl rfl ?_
      refine zz_iadd C dX8_makeGroups_33 ?_
      obtain ⟨x5, h6, hf⟩ := zz_bind hf
      refine zz_cut 49 [(0, .ref (ad 47)), (1, .int a_), (2, .int b_)] [.int x5, .int (((14 : Int32) * a_) + b_), .ref (ad 56)] (zz_wm U ad ρ σ X) ?_ (fun J7 => ?_)
      · obtain ⟨σ11, h12, hf⟩ := zz_bind hf
        refine zs_56 C dX8_makeGroups_49 h12 ?_
        refine zz_iinc (v := (b_ + (1 : Int32))) C 2 dX8_makeGroups_50 rfl (by rfl) (by decide) (lv' := [(2, .int (b_ + (1 : Int32))), (0, .ref (ad 47)), (1, .int a_)]) rfl ?_
        refine zz_goto (tgt := 16) C dX8_makeGroups_53 (by decide) ?_
        refine zz_sub [1, 2, 0] rfl ?_
        exact ih (b_ + (1 : Int32)) σ11 _ hf kx
      refine zz_iload_n C 1 dX8_makeGroups_34 rfl rfl ?_
      refine zz_iload_n C 2 dX8_makeGroups_35 rfl rfl ?_
      refine zz_icmp_ne (tgt := 43) C dX8_makeGroups_36 (by decide) (fun g8 => ?_) (fun g8 => ?_)
      · rw [if_neg g8] at h6
        refine zz_aload_n C 0 dX8_makeGroups_43 rfl rfl ?_
        refine zz_iload_n C 1 dX8_makeGroups_44 rfl rfl ?_
        refine zz_iload_n C 2 dX8_makeGroups_45 rfl rfl ?_
        obtain ⟨x9, h10, h6⟩ := zz_bind h6
        refine zz_callV1 (As := [.int a_, .int b_]) (rest := [.int (((14 : Int32) * a_) + b_), .ref (ad 56)]) C 47 (mX8_affinityOf σ a_ b_ x9 h10) dX8_makeGroups_46 rfl rfl rfl zw_167 zy_X8_affinityOf rfl (by decide) (by decide) (Nat.le_of_ble_eq_true rfl) hcR hsR rfl ?_
        cases h6
        exact J7
      · rw [if_pos g8] at h6
        refine zz_iconst (v := (0 : Int32)) C dX8_makeGroups_39 (by decide) ?_
        refine zz_goto (tgt := 49) C dX8_makeGroups_40 (by decide) ?_
        cases h6
        exact J7
set_option maxHeartbeats 4000000 in
set_option maxRecDepth 100000 in
theorem mX8_makeGroups_L1 {p : Program} {l : Launch} {e : Env} {R : Room} {s : State} {m : MethodId} {args : Array Value} {below : List Frame} {meth : Method} {c : Code} {Q : State → Prop} {D : va_G} {U : zz_U} {A : Nat → Prop} {cells slots : Nat} {ad : Nat → Nat} {X : va_W} {ρ : zz_St} (C : zz_C p l R s m meth c D U A RX8 cX8_makeGroups 7 none [] 4) (hcR : cells ≤ R.cells) (hsR : slots ≤ R.slots) : ∀ (n : Nat) (a_ : Int32) (σ : zz_St) (q : (Int32 × zz_St)), fX8_makeGroups_L1 n a_ σ = some q → (zz_Z p l e R s m args below meth c Q D A 7 cells slots (zz_wm U ad ρ q.2 X) 62 [(0, .ref (ad 47)), (1, .int q.1)] []) → zz_Z p l e R s m args below meth c Q D A 7 cells slots (zz_wm U ad ρ σ X) 6 [(0, .ref (ad 47)), (1, .int a_)] [] := by
  intro n
  induction n with
  | zero => intro a_ σ q hf; rw [fX8_makeGroups_L1] at hf; cases hf
  | succ n ih =>
    intro a_ σ q hf kx
    rw [fX8_makeGroups_L1] at hf
    refine zz_iload_n C 1 dX8_makeGroups_6 rfl rfl ?_
    refine zz_aload_n C 0 dX8_makeGroups_7 rfl rfl ?_
    refine zf8_pieces C dX8_makeGroups_8 zw_148 ?_
    refine zz_icmp_ge (tgt := 62) C dX8_makeGroups_11 (by decide) (fun g3 => ?_) (fun g3 => ?_)
    · rw [if_pos g3] at hf
      cases hf
      exact kx
    · rw [if_neg g3] at hf
      refine zz_iconst (v := (0 : Int32)) C dX8_makeGroups_14 (by decide) ?_
      refine zz_istore_n C dX8_makeGroups_15 rfl (by decide) (lv' := [(2, .int (0 : Int32)), (0, .ref (ad 47)), (1, .int a_)]) rfl ?_
      obtain ⟨q13, h14, hf⟩ := zz_bind hf
      refine zz_sub [1, 2, 0] rfl ?_
      refine mX8_makeGroups_L2 C hcR hsR a_ 1000 (0 : Int32) σ q13 h14 ?_
      refine zz_iinc (v := (a_ + (1 : Int32))) C 1 dX8_makeGroups_56 rfl (by rfl) (by decide) (lv' := [(1, .int (a_ + (1 : Int32))), (0, .ref (ad 47)), (2, .int q13.1)]) rfl ?_
      refine zz_goto (tgt := 6) C dX8_makeGroups_59 (by decide) ?_
      refine zz_sub [1, 0] rfl ?_
      exact ih (a_ + (1 : Int32)) q13.2 _ hf kx
set_option maxHeartbeats 4000000 in
set_option maxRecDepth 100000 in
theorem mX8_makeGroups_L5 {p : Program} {l : Launch} {e : Env} {R : Room} {s : State} {m : MethodId} {args : Array Value} {below : List Frame} {meth : Method} {c : Code} {Q : State → Prop} {D : va_G} {U : zz_U} {A : Nat → Prop} {cells slots : Nat} {ad : Nat → Nat} {X : va_W} {ρ : zz_St} (C : zz_C p l R s m meth c D U A RX8 cX8_makeGroups 7 none [] 4) (hcR : cells ≤ R.cells) (hsR : slots ≤ R.slots) (σ : zz_St) (isMore_ : Int32) (first_ : Int32) : ∀ (n : Nat) (bestFirst_ : Int32) (bestSecond_ : Int32) (best_ : Int32) (second_ : Int32) (q : (Int32 × Int32 × Int32 × Int32)), fX8_makeGroups_L5 σ isMore_ first_ n bestFirst_ bestSecond_ best_ second_ = some q → (zz_Z p l e R s m args below meth c Q D A 7 cells slots (zz_wm U ad ρ σ X) 185 [(0, .ref (ad 47)), (1, .int isMore_), (2, .int q.1), (3, .int q.2.1), (4, .int q.2.2.1), (5, .int first_), (6, .int q.2.2.2)] []) → zz_Z p l e R s m args below meth c Q D A 7 cells slots (zz_wm U ad ρ σ X) 103 [(0, .ref (ad 47)), (1, .int isMore_), (2, .int bestFirst_), (3, .int bestSecond_), (4, .int best_), (5, .int first_), (6, .int second_)] [] := by
  intro n
  induction n with
  | zero => intro bestFirst_ bestSecond_ best_ second_ q hf; rw [fX8_makeGroups_L5] at hf; cases hf
  | succ n ih =>
    intro bestFirst_ bestSecond_ best_ second_ q hf kx
    rw [fX8_makeGroups_L5] at hf
    refine zz_iload C 6 dX8_makeGroups_103 rfl ?_
    refine zz_aload_n C 0 dX8_makeGroups_105 rfl rfl ?_
    refine zf8_pieces C dX8_makeGroups_106 zw_148 ?_
    refine zz_icmp_ge (tgt := 185) C dX8_makeGroups_109 (by decide) (fun g23 => ?_) (fun g23 => ?_)
    · rw [if_pos g23] at hf
      cases hf
      exact kx
    · rw [if_neg g23] at hf
      obtain ⟨b24, h25, hf⟩ := zz_bind hf
      refine zz_cutI (P := b24 = true) 179 [(0, .ref (ad 47)), (1, .int isMore_), (2, .int bestFirst_), (3, .int bestSecond_), (4, .int best_), (5, .int first_), (6, .int second_)] [] (zz_wm U ad ρ σ X) (fun g28 => ?_) (fun J26 => ?_)
      · rw [if_pos g28] at hf
        refine zz_iinc (v := (second_ + (1 : Int32))) C 6 dX8_makeGroups_179 rfl (by rfl) (by decide) (lv' := [(6, .int (second_ + (1 : Int32))), (0, .ref (ad 47)), (1, .int isMore_), (2, .int bestFirst_), (3, .int bestSecond_), (4, .int best_), (5, .int first_)]) rfl ?_
        refine zz_goto (tgt := 103) C dX8_makeGroups_182 (by decide) ?_
        refine zz_sub [1, 2, 3, 4, 5, 6, 0] rfl ?_
        exact ih bestFirst_ bestSecond_ best_ (second_ + (1 : Int32)) _ hf kx
      refine zz_cutI (P := b24 = false) 163 [(0, .ref (ad 47)), (1, .int isMore_), (2, .int bestFirst_), (3, .int bestSecond_), (4, .int best_), (5, .int first_), (6, .int second_)] [] (zz_wm U ad ρ σ X) (fun g28 => ?_) (fun J27 => ?_)
      · rw [if_neg (show ¬ b24 = true by rw [g28]; decide)] at hf
        refine zz_aload_n C 0 dX8_makeGroups_163 rfl rfl ?_
        refine zz_iload C 5 dX8_makeGroups_164 rfl ?_
        refine zz_iload C 6 dX8_makeGroups_166 rfl ?_
        obtain ⟨x41, h42, hf⟩ := zz_bind hf
        refine zz_callV1 (As := [.int first_, .int second_]) (rest := []) C 47 (mX8_linkageOf σ first_ second_ x41 h42) dX8_makeGroups_168 rfl rfl rfl zw_178 zy_X8_linkageOf rfl (by decide) (by decide) (Nat.le_of_ble_eq_true rfl) hcR hsR rfl ?_
        refine zz_istore C dX8_makeGroups_171 (by decide) (lv' := [(4, .int x41), (0, .ref (ad 47)), (1, .int isMore_), (2, .int bestFirst_), (3, .int bestSecond_), (5, .int first_), (6, .int second_)]) rfl ?_
        refine zz_iload C 5 dX8_makeGroups_173 rfl ?_
        refine zz_istore_n C dX8_makeGroups_175 rfl (by decide) (lv' := [(2, .int first_), (4, .int x41), (0, .ref (ad 47)), (1, .int isMore_), (3, .int bestSecond_), (5, .int first_), (6, .int second_)]) rfl ?_
        refine zz_iload C 6 dX8_makeGroups_176 rfl ?_
        refine zz_istore_n C dX8_makeGroups_178 rfl (by decide) (lv' := [(3, .int second_), (2, .int first_), (4, .int x41), (0, .ref (ad 47)), (1, .int isMore_), (5, .int first_), (6, .int second_)]) rfl ?_
        refine zz_iinc (v := (second_ + (1 : Int32))) C 6 dX8_makeGroups_179 rfl (by rfl) (by decide) (lv' := [(6, .int (second_ + (1 : Int32))), (3, .int second_), (2, .int first_), (4, .int x41), (0, .ref (ad 47)), (1, .int isMore_), (5, .int first_)]) rfl ?_
        refine zz_goto (tgt := 103) C dX8_makeGroups_182 (by decide) ?_
        refine zz_sub [4, 5, 2, 1, 3, 6, 0] rfl ?_
        exact ih first_ second_ x41 (second_ + (1 : Int32)) _ hf kx
      refine zz_aload_n C 0 dX8_makeGroups_112 rfl rfl ?_
      refine zf8_heads C dX8_makeGroups_113 zw_170 ?_
      refine zz_iload C 5 dX8_makeGroups_116 rfl ?_
      obtain ⟨x29, h30, h25⟩ := zz_bind h25
      refine zl_55 C dX8_makeGroups_118 h30 ?_
      refine zz_iload C 5 dX8_makeGroups_119 rfl ?_
      refine zz_icmp_ne (tgt := 179) C dX8_makeGroups_121 (by decide) (fun g31 => ?_) (fun g31 => ?_)
      · rw [if_neg g31] at h25
        cases h25
        exact J26 rfl
      · rw [if_pos g31] at h25
        refine zz_aload_n C 0 dX8_makeGroups_124 rfl rfl ?_
        refine zf8_heads C dX8_makeGroups_125 zw_170 ?_
        refine zz_iload C 6 dX8_makeGroups_128 rfl ?_
        obtain ⟨x32, h33, h25⟩ := zz_bind h25
        refine zl_55 C dX8_makeGroups_130 h33 ?_
        refine zz_iload C 6 dX8_makeGroups_131 rfl ?_
        refine zz_icmp_ne (tgt := 179) C dX8_makeGroups_133 (by decide) (fun g34 => ?_) (fun g34 => ?_)
        · rw [if_neg g34] at h25
          cases h25
          exact J26 rfl
        · rw [if_pos g34] at h25
          refine zz_aload_n C 0 dX8_makeGroups_136 rfl rfl ?_
          refine zz_iload C 5 dX8_makeGroups_137 rfl ?_
          refine zz_iload C 6 dX8_makeGroups_139 rfl ?_
          obtain ⟨x35, h36, h25⟩ := zz_bind h25
          refine zz_callV1 (As := [.int first_, .int second_]) (rest := []) C 47 (mX8_areBarred σ first_ second_ x35 h36) dX8_makeGroups_141 rfl rfl rfl zw_179 zy_X8_areBarred rfl (by decide) (by decide) (Nat.le_of_ble_eq_true rfl) hcR hsR rfl ?_
          refine zz_if_ne (tgt := 179) C dX8_makeGroups_144 (by decide) (fun g37 => ?_) (fun g37 => ?_)
          · rw [if_neg g37] at h25
            cases h25
            exact J26 rfl
          · rw [if_pos g37] at h25
            refine zz_aload_n C 0 dX8_makeGroups_147 rfl rfl ?_
            refine zz_iload C 5 dX8_makeGroups_148 rfl ?_
            refine zz_iload C 6 dX8_makeGroups_150 rfl ?_
            obtain ⟨x38, h39, h25⟩ := zz_bind h25
            refine zz_callV1 (As := [.int first_, .int second_]) (rest := []) C 47 (mX8_linkageOf σ first_ second_ x38 h39) dX8_makeGroups_152 rfl rfl rfl zw_178 zy_X8_linkageOf rfl (by decide) (by decide) (Nat.le_of_ble_eq_true rfl) hcR hsR rfl ?_
            refine zz_iload C 4 dX8_makeGroups_155 rfl ?_
            refine zz_icmp_gt (tgt := 163) C dX8_makeGroups_157 (by decide) (fun g40 => ?_) (fun g40 => ?_)
            · rw [if_pos g40] at h25
              cases h25
              exact J27 rfl
            · rw [if_neg g40] at h25
              refine zz_goto (tgt := 179) C dX8_makeGroups_160 (by decide) ?_
              cases h25
              exact J26 rfl
set_option maxHeartbeats 4000000 in
set_option maxRecDepth 100000 in
theorem mX8_makeGroups_L4 {p : Program} {l : Launch} {e : Env} {R : Room} {s : State} {m : MethodId} {args : Array Value} {below : List Frame} {meth : Method} {c : Code} {Q : State → Prop} {D : va_G} {U : zz_U} {A : Nat → Prop} {cells slots : Nat} {ad : Nat → Nat} {X : va_W} {ρ : zz_St} (C : zz_C p l R s m meth c D U A RX8 cX8_makeGroups 7 none [] 4) (hcR : cells ≤ R.cells) (hsR : slots ≤ R.slots) (σ : zz_St) (isMore_ : Int32) : ∀ (n : Nat) (bestFirst_ : Int32) (bestSecond_ : Int32) (best_ : Int32) (first_ : Int32) (q : (Int32 × Int32 × Int32 × Int32)), fX8_makeGroups_L4 σ isMore_ n bestFirst_ bestSecond_ best_ first_ = some q → (zz_Z p l e R s m args below meth c Q D A 7 cells slots (zz_wm U ad ρ σ X) 191 [(0, .ref (ad 47)), (1, .int isMore_), (2, .int q.1), (3, .int q.2.1), (4, .int q.2.2.1), (5, .int q.2.2.2)] []) → zz_Z p l e R s m args below meth c Q D A 7 cells slots (zz_wm U ad ρ σ X) 88 [(0, .ref (ad 47)), (1, .int isMore_), (2, .int bestFirst_), (3, .int bestSecond_), (4, .int best_), (5, .int first_)] [] := by
  intro n
  induction n with
  | zero => intro bestFirst_ bestSecond_ best_ first_ q hf; rw [fX8_makeGroups_L4] at hf; cases hf
  | succ n ih =>
    intro bestFirst_ bestSecond_ best_ first_ q hf kx
    rw [fX8_makeGroups_L4] at hf
    refine zz_iload C 5 dX8_makeGroups_88 rfl ?_
    refine zz_aload_n C 0 dX8_makeGroups_90 rfl rfl ?_
    refine zf8_pieces C dX8_makeGroups_91 zw_148 ?_
    refine zz_icmp_ge (tgt := 191) C dX8_makeGroups_94 (by decide) (fun g20 => ?_) (fun g20 => ?_)
    · rw [if_pos g20] at hf
      cases hf
      exact kx
    · rw [if_neg g20] at hf
      refine zz_iload C 5 dX8_makeGroups_97 rfl ?_
      refine zz_iconst (v := (1 : Int32)) C dX8_makeGroups_99 (by decide) ?_
      refine zz_iadd C dX8_makeGroups_100 ?_
      obtain ⟨x21, h22, hf⟩ := zz_bind hf
      refine zz_topi (Option.some.inj h22) ?_
      refine zz_istore C dX8_makeGroups_101 (by decide) (lv' := [(6, .int x21), (0, .ref (ad 47)), (1, .int isMore_), (2, .int bestFirst_), (3, .int bestSecond_), (4, .int best_), (5, .int first_)]) rfl ?_
      obtain ⟨q43, h44, hf⟩ := zz_bind hf
      refine zz_sub [1, 2, 3, 4, 5, 6, 0] rfl ?_
      refine mX8_makeGroups_L5 C hcR hsR σ isMore_ first_ 1000 bestFirst_ bestSecond_ best_ x21 q43 h44 ?_
      refine zz_iinc (v := (first_ + (1 : Int32))) C 5 dX8_makeGroups_185 rfl (by rfl) (by decide) (lv' := [(5, .int (first_ + (1 : Int32))), (0, .ref (ad 47)), (1, .int isMore_), (2, .int q43.1), (3, .int q43.2.1), (4, .int q43.2.2.1), (6, .int q43.2.2.2)]) rfl ?_
      refine zz_goto (tgt := 88) C dX8_makeGroups_188 (by decide) ?_
      refine zz_sub [1, 2, 3, 4, 5, 0] rfl ?_
      exact ih q43.1 q43.2.1 q43.2.2.1 (first_ + (1 : Int32)) _ hf kx
set_option maxHeartbeats 4000000 in
set_option maxRecDepth 100000 in
theorem mX8_makeGroups_L3 {p : Program} {l : Launch} {e : Env} {R : Room} {s : State} {m : MethodId} {args : Array Value} {below : List Frame} {meth : Method} {c : Code} {Q : State → Prop} {D : va_G} {U : zz_U} {A : Nat → Prop} {cells slots : Nat} {ad : Nat → Nat} {X : va_W} {ρ : zz_St} (C : zz_C p l R s m meth c D U A RX8 cX8_makeGroups 7 none [] 4) (hcR : cells ≤ R.cells) (hsR : slots ≤ R.slots) : ∀ (n : Nat) (isMore_ : Int32) (σ : zz_St) (q : (Int32 × zz_St)), fX8_makeGroups_L3 n isMore_ σ = some q → (zz_Z p l e R s m args below meth c Q D A 7 cells slots (zz_wm U ad ρ q.2 X) 224 [(0, .ref (ad 47)), (1, .int q.1)] []) → zz_Z p l e R s m args below meth c Q D A 7 cells slots (zz_wm U ad ρ σ X) 69 [(0, .ref (ad 47)), (1, .int isMore_)] [] := by
  intro n
  induction n with
  | zero => intro isMore_ σ q hf; rw [fX8_makeGroups_L3] at hf; cases hf
  | succ n ih =>
    intro isMore_ σ q hf kx
    rw [fX8_makeGroups_L3] at hf
    refine zz_iload_n C 1 dX8_makeGroups_69 rfl rfl ?_
    refine zz_if_eq (tgt := 224) C dX8_makeGroups_70 (by decide) (fun g17 => ?_) (fun g17 => ?_)
    · rw [if_pos g17] at hf
      cases hf
      exact kx
    · rw [if_neg g17] at hf
      refine zz_iconst (v := (-1 : Int32)) C dX8_makeGroups_73 (by decide) ?_
      refine zz_istore_n C dX8_makeGroups_74 rfl (by decide) (lv' := [(2, .int (-1 : Int32)), (0, .ref (ad 47)), (1, .int isMore_)]) rfl ?_
      refine zz_iconst (v := (-1 : Int32)) C dX8_makeGroups_75 (by decide) ?_
      refine zz_istore_n C dX8_makeGroups_76 rfl (by decide) (lv' := [(3, .int (-1 : Int32)), (2, .int (-1 : Int32)), (0, .ref (ad 47)), (1, .int isMore_)]) rfl ?_
      refine zz_aload_n C 2 dX8_makeGroups_77 rfl rfl ?_
      refine zf8_threshold C dX8_makeGroups_78 zw_168 ?_
      refine zz_iconst (v := (1 : Int32)) C dX8_makeGroups_81 (by decide) ?_
      refine zz_isub C dX8_makeGroups_82 ?_
      obtain ⟨x18, h19, hf⟩ := zz_bind hf
      refine zz_topi (Option.some.inj h19) ?_
      refine zz_istore C dX8_makeGroups_83 (by decide) (lv' := [(4, .int x18), (3, .int (-1 : Int32)), (2, .int (-1 : Int32)), (0, .ref (ad 47)), (1, .int isMore_)]) rfl ?_
      refine zz_iconst (v := (0 : Int32)) C dX8_makeGroups_85 (by decide) ?_
      refine zz_istore C dX8_makeGroups_86 (by decide) (lv' := [(5, .int (0 : Int32)), (4, .int x18), (3, .int (-1 : Int32)), (2, .int (-1 : Int32)), (0, .ref (ad 47)), (1, .int isMore_)]) rfl ?_
      obtain ⟨q45, h46, hf⟩ := zz_bind hf
      refine zz_sub [4, 5, 3, 2, 1, 0] rfl ?_
      refine mX8_makeGroups_L4 C hcR hsR σ isMore_ 1000 (-1 : Int32) (-1 : Int32) x18 (0 : Int32) q45 h46 ?_
      obtain ⟨b47, h48, hf⟩ := zz_bind hf
      refine zz_cut 201 [(0, .ref (ad 47)), (1, .int isMore_), (2, .int q45.1), (3, .int q45.2.1), (4, .int q45.2.2.1), (5, .int q45.2.2.2)] [.int (zz_bi b47)] (zz_wm U ad ρ σ X) ?_ (fun J49 => ?_)
      · obtain ⟨x51, h52, hf⟩ := zz_bind hf
        refine zz_topi (Option.some.inj h52) ?_
        refine zz_istore_n C dX8_makeGroups_201 rfl (by decide) (lv' := [(1, .int x51), (0, .ref (ad 47)), (2, .int q45.1), (3, .int q45.2.1), (4, .int q45.2.2.1), (5, .int q45.2.2.2)]) rfl ?_
        refine zz_iload_n C 0 dX8_makeGroups_202 rfl rfl ?_
        refine zz_if_ne (tgt := 209) C dX8_makeGroups_203 (by decide) (fun g53 => ?_) (fun g53 => ?_)
        · rw [if_neg g53] at hf
          refine zz_aload_n C 1 dX8_makeGroups_209 rfl rfl ?_
          refine zz_iload C 4 dX8_makeGroups_210 rfl ?_
          refine zp8_last C dX8_makeGroups_212 zw_180 ?_
          refine zz_aload_n C 1 dX8_makeGroups_215 rfl rfl ?_
          refine zz_iload_n C 2 dX8_makeGroups_216 rfl rfl ?_
          refine zz_iload_n C 3 dX8_makeGroups_217 rfl rfl ?_
          obtain ⟨x54, h55, hf⟩ := zz_bind hf
          refine zz_callV1 (As := [.int q45.1, .int q45.2.1]) (rest := []) C 47 (mX8_joinHeads (zz_u σ 47 13 q45.2.2.1) q45.1 q45.2.1 x54 h55) dX8_makeGroups_218 rfl rfl rfl zw_174 zy_X8_joinHeads rfl (by decide) (by decide) (Nat.le_of_ble_eq_true rfl) hcR hsR rfl ?_
          refine zz_goto (tgt := 69) C dX8_makeGroups_221 (by decide) ?_
          refine zz_sub [1, 0] rfl ?_
          exact ih x51 x54 _ hf kx
        · rw [if_pos g53] at hf
          refine zz_goto (tgt := 69) C dX8_makeGroups_206 (by decide) ?_
          refine zz_sub [1, 0] rfl ?_
          exact ih x51 σ _ hf kx
      refine zz_iload_n C 2 dX8_makeGroups_191 rfl rfl ?_
      refine zz_iconst (v := (-1 : Int32)) C dX8_makeGroups_192 (by decide) ?_
      refine zz_icmp_eq (tgt := 200) C dX8_makeGroups_193 (by decide) (fun g50 => ?_) (fun g50 => ?_)
      · rw [if_pos g50] at h48
        refine zz_iconst (v := 0) C dX8_makeGroups_200 (by decide) ?_
        cases h48
        exact J49
      · rw [if_neg g50] at h48
        refine zz_iconst (v := 1) C dX8_makeGroups_196 (by decide) ?_
        refine zz_goto (tgt := 201) C dX8_makeGroups_197 (by decide) ?_
        cases h48
        exact J49
set_option maxHeartbeats 4000000 in
set_option maxRecDepth 100000 in
theorem mX8_makeGroups {D : va_G} {U : zz_U} {ad : Nat → Nat} {X : va_W} {ρ : zz_St} (σ : zz_St) (r : zz_St) (hf : fX8_makeGroups σ = some r) : zz_Met yX8_makeGroups (.code yX8_makeGroups cX8_makeGroups 7 none) 4 0 0 D U [.ref (ad 47)] (zz_wm U ad ρ σ X) (zz_ok none (zz_wm U ad ρ r X)) zz_noth := by
  unfold fX8_makeGroups at hf
  refine zz_method RX8 rfl (by decide +kernel) (Nat.le_of_ble_eq_true rfl) ?_
  intro p l e s m args below meth c A _ C
  refine zz_lvs (lv1 := [(0, .ref (ad 47))]) rfl ?_
  refine zz_aload_n C 0 dX8_makeGroups_0 rfl rfl ?_
  obtain ⟨x1, h2, hf⟩ := zz_bind hf
  refine zz_callV1 (As := []) (rest := []) C 47 (mX8_startGroups σ x1 h2) dX8_makeGroups_1 rfl rfl rfl zw_176 zy_X8_startGroups rfl (by decide) (by decide) (Nat.le_of_ble_eq_true rfl) (Nat.le_of_ble_eq_true rfl) (Nat.le_of_ble_eq_true rfl) rfl ?_
  refine zz_iconst (v := (0 : Int32)) C dX8_makeGroups_4 (by decide) ?_
  refine zz_istore_n C dX8_makeGroups_5 rfl (by decide) (lv' := [(1, .int (0 : Int32)), (0, .ref (ad 47))]) rfl ?_
  obtain ⟨q15, h16, hf⟩ := zz_bind hf
  refine zz_sub [1, 0] rfl ?_
  refine mX8_makeGroups_L1 C (Nat.le_of_ble_eq_true rfl) (Nat.le_of_ble_eq_true rfl) 1000 (0 : Int32) x1 q15 h16 ?_
  refine zz_aload_n C 0 dX8_makeGroups_62 rfl rfl ?_
  refine zz_iconst (v := (-1 : Int32)) C dX8_makeGroups_63 (by decide) ?_
  refine zp8_last C dX8_makeGroups_64 zw_180 ?_
  refine zz_iconst (v := (1 : Int32)) C dX8_makeGroups_67 (by decide) ?_
  refine zz_istore_n C dX8_makeGroups_68 rfl (by decide) (lv' := [(1, .int (1 : Int32)), (0, .ref (ad 47))]) rfl ?_
  obtain ⟨q56, h57, hf⟩ := zz_bind hf
  refine zz_sub [1, 0] rfl ?_
  refine mX8_makeGroups_L3 C (Nat.le_of_ble_eq_true rfl) (Nat.le_of_ble_eq_true rfl) 1000 (1 : Int32) (zz_u q15.2 47 13 (-1 : Int32)) q56 h57 ?_
  cases hf
  exact zz_vret C dX8_makeGroups_224 (And.intro rfl rfl) (Nat.le_of_ble_eq_true rfl) (Nat.le_of_ble_eq_true rfl)
theorem dX8_countOf_0 : decode cX8_countOf 0 = .ok (.iconst 0, 1) := by decide +kernel
theorem dX8_countOf_1 : decode cX8_countOf 1 = .ok (.istore_n 2, 1) := by decide +kernel
theorem dX8_countOf_2 : decode cX8_countOf 2 = .ok (.iconst 0, 1) := by decide +kernel
theorem dX8_countOf_3 : decode cX8_countOf 3 = .ok (.istore_n 3, 1) := by decide +kernel
theorem dX8_countOf_4 : decode cX8_countOf 4 = .ok (.iload_n 3, 1) := by decide +kernel
theorem dX8_countOf_5 : decode cX8_countOf 5 = .ok (.aload_n 0, 1) := by decide +kernel
theorem dX8_countOf_6 : decode cX8_countOf 6 = .ok (.getfield 66, 3) := by decide +kernel
theorem dX8_countOf_9 : decode cX8_countOf 9 = .ok (.if_icmp .ge 24, 3) := by decide +kernel
theorem dX8_countOf_12 : decode cX8_countOf 12 = .ok (.iload_n 2, 1) := by decide +kernel
theorem dX8_countOf_13 : decode cX8_countOf 13 = .ok (.aload_n 1, 1) := by decide +kernel
theorem dX8_countOf_14 : decode cX8_countOf 14 = .ok (.iload_n 3, 1) := by decide +kernel
theorem dX8_countOf_15 : decode cX8_countOf 15 = .ok (.iaload, 1) := by decide +kernel
theorem dX8_countOf_16 : decode cX8_countOf 16 = .ok (.iload_n 3, 1) := by decide +kernel
theorem dX8_countOf_17 : decode cX8_countOf 17 = .ok (.if_icmp .ne 7, 3) := by decide +kernel
theorem dX8_countOf_20 : decode cX8_countOf 20 = .ok (.iconst 1, 1) := by decide +kernel
theorem dX8_countOf_21 : decode cX8_countOf 21 = .ok (.goto 4, 3) := by decide +kernel
theorem dX8_countOf_24 : decode cX8_countOf 24 = .ok (.iconst 0, 1) := by decide +kernel
theorem dX8_countOf_25 : decode cX8_countOf 25 = .ok (.iadd, 1) := by decide +kernel
theorem dX8_countOf_26 : decode cX8_countOf 26 = .ok (.istore_n 2, 1) := by decide +kernel
theorem dX8_countOf_27 : decode cX8_countOf 27 = .ok (.iinc 3 1, 3) := by decide +kernel
theorem dX8_countOf_30 : decode cX8_countOf 30 = .ok (.goto (-26), 3) := by decide +kernel
theorem dX8_countOf_33 : decode cX8_countOf 33 = .ok (.iload_n 2, 1) := by decide +kernel
theorem dX8_countOf_34 : decode cX8_countOf 34 = .ok (.ireturn, 1) := by decide +kernel
set_option maxHeartbeats 4000000 in
set_option maxRecDepth 100000 in
theorem mX8_countOf_a55_L1 {p : Program} {l : Launch} {e : Env} {R : Room} {s : State} {m : MethodId} {args : Array Value} {below : List Frame} {meth : Method} {c : Code} {Q : State → Prop} {D : va_G} {U : zz_U} {A : Nat → Prop} {cells slots : Nat} {ad : Nat → Nat} {X : va_W} {ρ : zz_St} (C : zz_C p l R s m meth c D U A RX8 cX8_countOf 4 (some .int) [] 0) (hcR : cells ≤ R.cells) (hsR : slots ≤ R.slots) (σ : zz_St) : ∀ (n : Nat) (many_ : Int32) (p_ : Int32) (q : (Int32 × Int32)), fX8_countOf_a55_L1 σ n many_ p_ = some q → (zz_Z p l e R s m args below meth c Q D A 4 cells slots (zz_wm U ad ρ σ X) 33 [(0, .ref (ad 47)), (1, .ref (ad 55)), (2, .int q.1), (3, .int q.2)] []) → zz_Z p l e R s m args below meth c Q D A 4 cells slots (zz_wm U ad ρ σ X) 4 [(0, .ref (ad 47)), (1, .ref (ad 55)), (2, .int many_), (3, .int p_)] [] := by
  intro n
  induction n with
  | zero => intro many_ p_ q hf; rw [fX8_countOf_a55_L1] at hf; cases hf
  | succ n ih =>
    intro many_ p_ q hf kx
    rw [fX8_countOf_a55_L1] at hf
    refine zz_iload_n C 3 dX8_countOf_4 rfl rfl ?_
    refine zz_aload_n C 0 dX8_countOf_5 rfl rfl ?_
    refine zf8_pieces C dX8_countOf_6 zw_148 ?_
    refine zz_icmp_ge (tgt := 33) C dX8_countOf_9 (by decide) (fun g1 => ?_) (fun g1 => ?_)
    · rw [if_pos g1] at hf
      cases hf
      exact kx
    · rw [if_neg g1] at hf
      refine zz_iload_n C 2 dX8_countOf_12 rfl rfl ?_
      obtain ⟨x2, h3, hf⟩ := zz_bind hf
      refine zz_cut 25 [(0, .ref (ad 47)), (1, .ref (ad 55)), (2, .int many_), (3, .int p_)] [.int x2, .int many_] (zz_wm U ad ρ σ X) ?_ (fun J4 => ?_)
      · refine zz_iadd C dX8_countOf_25 ?_
        obtain ⟨x8, h9, hf⟩ := zz_bind hf
        refine zz_topi (Option.some.inj h9) ?_
        refine zz_istore_n C dX8_countOf_26 rfl (by decide) (lv' := [(2, .int x8), (0, .ref (ad 47)), (1, .ref (ad 55)), (3, .int p_)]) rfl ?_
        refine zz_iinc (v := (p_ + (1 : Int32))) C 3 dX8_countOf_27 rfl (by rfl) (by decide) (lv' := [(3, .int (p_ + (1 : Int32))), (2, .int x8), (0, .ref (ad 47)), (1, .ref (ad 55))]) rfl ?_
        refine zz_goto (tgt := 4) C dX8_countOf_30 (by decide) ?_
        refine zz_sub [2, 3, 1, 0] rfl ?_
        exact ih x8 (p_ + (1 : Int32)) _ hf kx
      refine zz_aload_n C 1 dX8_countOf_13 rfl rfl ?_
      refine zz_iload_n C 3 dX8_countOf_14 rfl rfl ?_
      obtain ⟨x5, h6, h3⟩ := zz_bind h3
      refine zl_55 C dX8_countOf_15 h6 ?_
      refine zz_iload_n C 3 dX8_countOf_16 rfl rfl ?_
      refine zz_icmp_ne (tgt := 24) C dX8_countOf_17 (by decide) (fun g7 => ?_) (fun g7 => ?_)
      · rw [if_neg g7] at h3
        refine zz_iconst (v := (0 : Int32)) C dX8_countOf_24 (by decide) ?_
        cases h3
        exact J4
      · rw [if_pos g7] at h3
        refine zz_iconst (v := (1 : Int32)) C dX8_countOf_20 (by decide) ?_
        refine zz_goto (tgt := 25) C dX8_countOf_21 (by decide) ?_
        cases h3
        exact J4
set_option maxHeartbeats 4000000 in
set_option maxRecDepth 100000 in
theorem mX8_countOf_a55 {D : va_G} {U : zz_U} {ad : Nat → Nat} {X : va_W} {ρ : zz_St} (σ : zz_St) (r : Int32) (hf : fX8_countOf_a55 σ = some r) : zz_Met yX8_countOf (.code yX8_countOf cX8_countOf 4 (some .int)) 0 0 0 D U [.ref (ad 47), .ref (ad 55)] (zz_wm U ad ρ σ X) (zz_ok (some (.int r)) (zz_wm U ad ρ σ X)) zz_noth := by
  unfold fX8_countOf_a55 at hf
  refine zz_method RX8 rfl (by decide +kernel) (Nat.le_of_ble_eq_true rfl) ?_
  intro p l e s m args below meth c A _ C
  refine zz_lvs (lv1 := [(0, .ref (ad 47)), (1, .ref (ad 55))]) rfl ?_
  refine zz_iconst (v := (0 : Int32)) C dX8_countOf_0 (by decide) ?_
  refine zz_istore_n C dX8_countOf_1 rfl (by decide) (lv' := [(2, .int (0 : Int32)), (0, .ref (ad 47)), (1, .ref (ad 55))]) rfl ?_
  refine zz_iconst (v := (0 : Int32)) C dX8_countOf_2 (by decide) ?_
  refine zz_istore_n C dX8_countOf_3 rfl (by decide) (lv' := [(3, .int (0 : Int32)), (2, .int (0 : Int32)), (0, .ref (ad 47)), (1, .ref (ad 55))]) rfl ?_
  obtain ⟨q10, h11, hf⟩ := zz_bind hf
  refine zz_sub [2, 3, 1, 0] rfl ?_
  refine mX8_countOf_a55_L1 C (Nat.le_of_ble_eq_true rfl) (Nat.le_of_ble_eq_true rfl) σ 1000 (0 : Int32) (0 : Int32) q10 h11 ?_
  refine zz_iload_n C 2 dX8_countOf_33 rfl rfl ?_
  cases hf
  exact zz_iret C dX8_countOf_34 (And.intro rfl rfl) (Nat.le_of_ble_eq_true rfl) (Nat.le_of_ble_eq_true rfl)
theorem dX8_groupCount_0 : decode cX8_groupCount 0 = .ok (.aload_n 0, 1) := by decide +kernel
theorem dX8_groupCount_1 : decode cX8_groupCount 1 = .ok (.iconst 0, 1) := by decide +kernel
theorem dX8_groupCount_2 : decode cX8_groupCount 2 = .ok (.putfield 63, 3) := by decide +kernel
theorem dX8_groupCount_5 : decode cX8_groupCount 5 = .ok (.aload_n 0, 1) := by decide +kernel
theorem dX8_groupCount_6 : decode cX8_groupCount 6 = .ok (.invokevirtual 146, 3) := by decide +kernel
theorem dX8_groupCount_9 : decode cX8_groupCount 9 = .ok (.aload_n 0, 1) := by decide +kernel
theorem dX8_groupCount_10 : decode cX8_groupCount 10 = .ok (.aload_n 0, 1) := by decide +kernel
theorem dX8_groupCount_11 : decode cX8_groupCount 11 = .ok (.getfield 42, 3) := by decide +kernel
theorem dX8_groupCount_14 : decode cX8_groupCount 14 = .ok (.invokevirtual 149, 3) := by decide +kernel
theorem dX8_groupCount_17 : decode cX8_groupCount 17 = .ok (.ireturn, 1) := by decide +kernel
set_option maxHeartbeats 4000000 in
set_option maxRecDepth 100000 in
theorem mX8_groupCount {D : va_G} {U : zz_U} {ad : Nat → Nat} {X : va_W} {ρ : zz_St} (σ : zz_St) (r : (Int32 × zz_St)) (hf : fX8_groupCount σ = some r) : zz_Met yX8_groupCount (.code yX8_groupCount cX8_groupCount 1 (some .int)) 5 0 0 D U [.ref (ad 47)] (zz_wm U ad ρ σ X) (zz_ok (some (.int r.1)) (zz_wm U ad ρ r.2 X)) zz_noth := by
  unfold fX8_groupCount at hf
  refine zz_method RX8 rfl (by decide +kernel) (Nat.le_of_ble_eq_true rfl) ?_
  intro p l e s m args below meth c A _ C
  refine zz_lvs (lv1 := [(0, .ref (ad 47))]) rfl ?_
  refine zz_aload_n C 0 dX8_groupCount_0 rfl rfl ?_
  refine zz_iconst (v := (0 : Int32)) C dX8_groupCount_1 (by decide) ?_
  refine zp8_thrown C dX8_groupCount_2 zw_145 ?_
  refine zz_aload_n C 0 dX8_groupCount_5 rfl rfl ?_
  obtain ⟨x1, h2, hf⟩ := zz_bind hf
  refine zz_callV1 (As := []) (rest := []) C 47 (mX8_makeGroups (zz_u σ 47 0 (0 : Int32)) x1 h2) dX8_groupCount_6 rfl rfl rfl zw_182 zy_X8_makeGroups rfl (by decide) (by decide) (Nat.le_of_ble_eq_true rfl) (Nat.le_of_ble_eq_true rfl) (Nat.le_of_ble_eq_true rfl) rfl ?_
  refine zz_aload_n C 0 dX8_groupCount_9 rfl rfl ?_
  refine zz_aload_n C 0 dX8_groupCount_10 rfl rfl ?_
  refine zf8_heads C dX8_groupCount_11 zw_170 ?_
  obtain ⟨x3, h4, hf⟩ := zz_bind hf
  refine zz_callV1 (As := [.ref (ad 55)]) (rest := []) C 47 (mX8_countOf_a55 x1 x3 h4) dX8_groupCount_14 rfl rfl rfl zw_181 zy_X8_countOf rfl (by decide) (by decide) (Nat.le_of_ble_eq_true rfl) (Nat.le_of_ble_eq_true rfl) (Nat.le_of_ble_eq_true rfl) rfl ?_
  cases hf
  exact zz_iret C dX8_groupCount_17 (And.intro rfl rfl) (Nat.le_of_ble_eq_true rfl) (Nat.le_of_ble_eq_true rfl)
theorem dX8_headAt_0 : decode cX8_headAt 0 = .ok (.iload_n 2, 1) := by decide +kernel
theorem dX8_headAt_1 : decode cX8_headAt 1 = .ok (.istore_n 3, 1) := by decide +kernel
theorem dX8_headAt_2 : decode cX8_headAt 2 = .ok (.iconst 0, 1) := by decide +kernel
theorem dX8_headAt_3 : decode cX8_headAt 3 = .ok (.istore 4, 2) := by decide +kernel
theorem dX8_headAt_5 : decode cX8_headAt 5 = .ok (.iload 4, 2) := by decide +kernel
theorem dX8_headAt_7 : decode cX8_headAt 7 = .ok (.aload_n 0, 1) := by decide +kernel
theorem dX8_headAt_8 : decode cX8_headAt 8 = .ok (.getfield 66, 3) := by decide +kernel
theorem dX8_headAt_11 : decode cX8_headAt 11 = .ok (.if_icmp .ge 35, 3) := by decide +kernel
theorem dX8_headAt_14 : decode cX8_headAt 14 = .ok (.iload_n 2, 1) := by decide +kernel
theorem dX8_headAt_15 : decode cX8_headAt 15 = .ok (.ifCond .lt 31, 3) := by decide +kernel
theorem dX8_headAt_18 : decode cX8_headAt 18 = .ok (.aload_n 1, 1) := by decide +kernel
theorem dX8_headAt_19 : decode cX8_headAt 19 = .ok (.iload 4, 2) := by decide +kernel
theorem dX8_headAt_21 : decode cX8_headAt 21 = .ok (.iaload, 1) := by decide +kernel
theorem dX8_headAt_22 : decode cX8_headAt 22 = .ok (.iload 4, 2) := by decide +kernel
theorem dX8_headAt_24 : decode cX8_headAt 24 = .ok (.if_icmp .eq 6, 3) := by decide +kernel
theorem dX8_headAt_27 : decode cX8_headAt 27 = .ok (.goto 13, 3) := by decide +kernel
theorem dX8_headAt_30 : decode cX8_headAt 30 = .ok (.iload_n 3, 1) := by decide +kernel
theorem dX8_headAt_31 : decode cX8_headAt 31 = .ok (.ifCond .ne 6, 3) := by decide +kernel
theorem dX8_headAt_34 : decode cX8_headAt 34 = .ok (.iload 4, 2) := by decide +kernel
theorem dX8_headAt_36 : decode cX8_headAt 36 = .ok (.ireturn, 1) := by decide +kernel
theorem dX8_headAt_37 : decode cX8_headAt 37 = .ok (.iinc 3 (-1), 3) := by decide +kernel
theorem dX8_headAt_40 : decode cX8_headAt 40 = .ok (.iinc 4 1, 3) := by decide +kernel
theorem dX8_headAt_43 : decode cX8_headAt 43 = .ok (.goto (-38), 3) := by decide +kernel
theorem dX8_headAt_46 : decode cX8_headAt 46 = .ok (.iconst (-1), 1) := by decide +kernel
theorem dX8_headAt_47 : decode cX8_headAt 47 = .ok (.ireturn, 1) := by decide +kernel
set_option maxHeartbeats 4000000 in
set_option maxRecDepth 100000 in
theorem mX8_headAt_a55_L1 {p : Program} {l : Launch} {e : Env} {R : Room} {s : State} {m : MethodId} {args : Array Value} {below : List Frame} {meth : Method} {c : Code} {Q : State → Prop} {D : va_G} {U : zz_U} {A : Nat → Prop} {cells slots : Nat} {ad : Nat → Nat} {X : va_W} {ρ : zz_St} (C : zz_C p l R s m meth c D U A RX8 cX8_headAt 5 (some .int) [] 0) (hcR : cells ≤ R.cells) (hsR : slots ≤ R.slots) (σ : zz_St) (index_ : Int32) : ∀ (n : Nat) (left_ : Int32) (p_ : Int32) (q : (Int32 ⊕ (Int32 × Int32))), fX8_headAt_a55_L1 σ index_ n left_ p_ = some q → (∀ v : Int32, q = .inl v → zz_Z p l e R s m args below meth c Q D A 5 cells slots (zz_wm U ad ρ σ X) 36 [] [.int v]) → (∀ w : Int32 × Int32, q = .inr w → zz_Z p l e R s m args below meth c Q D A 5 cells slots (zz_wm U ad ρ σ X) 46 [(0, .ref (ad 47)), (1, .ref (ad 55)), (2, .int index_), (3, .int w.1), (4, .int w.2)] []) → zz_Z p l e R s m args below meth c Q D A 5 cells slots (zz_wm U ad ρ σ X) 5 [(0, .ref (ad 47)), (1, .ref (ad 55)), (2, .int index_), (3, .int left_), (4, .int p_)] [] := by
  intro n
  induction n with
  | zero => intro left_ p_ q hf; rw [fX8_headAt_a55_L1] at hf; cases hf
  | succ n ih =>
    intro left_ p_ q hf kr kx
    rw [fX8_headAt_a55_L1] at hf
    obtain ⟨b1, h2, hf⟩ := zz_bind hf
    refine zz_cutI (P := b1 = true) 18 [(0, .ref (ad 47)), (1, .ref (ad 55)), (2, .int index_), (3, .int left_), (4, .int p_)] [] (zz_wm U ad ρ σ X) (fun g5 => ?_) (fun J3 => ?_)
    · rw [if_pos g5] at hf
      refine zz_aload_n C 1 dX8_headAt_18 rfl rfl ?_
      refine zz_iload C 4 dX8_headAt_19 rfl ?_
      obtain ⟨x8, h9, hf⟩ := zz_bind hf
      refine zl_55 C dX8_headAt_21 h9 ?_
      refine zz_iload C 4 dX8_headAt_22 rfl ?_
      refine zz_icmp_eq (tgt := 30) C dX8_headAt_24 (by decide) (fun g10 => ?_) (fun g10 => ?_)
      · rw [if_pos g10] at hf
        refine zz_iload_n C 3 dX8_headAt_30 rfl rfl ?_
        refine zz_if_ne (tgt := 37) C dX8_headAt_31 (by decide) (fun g11 => ?_) (fun g11 => ?_)
        · rw [if_neg g11] at hf
          refine zz_iinc (v := (left_ + (-1 : Int32))) C 3 dX8_headAt_37 rfl (by rfl) (by decide) (lv' := [(3, .int (left_ + (-1 : Int32))), (0, .ref (ad 47)), (1, .ref (ad 55)), (2, .int index_), (4, .int p_)]) rfl ?_
          refine zz_iinc (v := (p_ + (1 : Int32))) C 4 dX8_headAt_40 rfl (by rfl) (by decide) (lv' := [(4, .int (p_ + (1 : Int32))), (3, .int (left_ + (-1 : Int32))), (0, .ref (ad 47)), (1, .ref (ad 55)), (2, .int index_)]) rfl ?_
          refine zz_goto (tgt := 5) C dX8_headAt_43 (by decide) ?_
          refine zz_sub [2, 3, 4, 1, 0] rfl ?_
          exact ih (left_ + (-1 : Int32)) (p_ + (1 : Int32)) _ hf kr kx
        · rw [if_pos g11] at hf
          refine zz_iload C 4 dX8_headAt_34 rfl ?_
          cases hf
          refine zz_sub [] rfl ?_
          exact kr _ rfl
      · rw [if_neg g10] at hf
        refine zz_goto (tgt := 40) C dX8_headAt_27 (by decide) ?_
        refine zz_iinc (v := (p_ + (1 : Int32))) C 4 dX8_headAt_40 rfl (by rfl) (by decide) (lv' := [(4, .int (p_ + (1 : Int32))), (0, .ref (ad 47)), (1, .ref (ad 55)), (2, .int index_), (3, .int left_)]) rfl ?_
        refine zz_goto (tgt := 5) C dX8_headAt_43 (by decide) ?_
        refine zz_sub [1, 2, 3, 4, 0] rfl ?_
        exact ih left_ (p_ + (1 : Int32)) _ hf kr kx
    refine zz_cutI (P := b1 = false) 46 [(0, .ref (ad 47)), (1, .ref (ad 55)), (2, .int index_), (3, .int left_), (4, .int p_)] [] (zz_wm U ad ρ σ X) (fun g5 => ?_) (fun J4 => ?_)
    · rw [if_neg (show ¬ b1 = true by rw [g5]; decide)] at hf
      cases hf
      exact kx _ rfl
    refine zz_iload C 4 dX8_headAt_5 rfl ?_
    refine zz_aload_n C 0 dX8_headAt_7 rfl rfl ?_
    refine zf8_pieces C dX8_headAt_8 zw_148 ?_
    refine zz_icmp_ge (tgt := 46) C dX8_headAt_11 (by decide) (fun g6 => ?_) (fun g6 => ?_)
    · rw [if_pos g6] at h2
      cases h2
      exact J4 rfl
    · rw [if_neg g6] at h2
      refine zz_iload_n C 2 dX8_headAt_14 rfl rfl ?_
      refine zz_if_lt (tgt := 46) C dX8_headAt_15 (by decide) (fun g7 => ?_) (fun g7 => ?_)
      · rw [if_pos g7] at h2
        cases h2
        exact J4 rfl
      · rw [if_neg g7] at h2
        cases h2
        exact J3 rfl
set_option maxHeartbeats 4000000 in
set_option maxRecDepth 100000 in
theorem mX8_headAt_a55 {D : va_G} {U : zz_U} {ad : Nat → Nat} {X : va_W} {ρ : zz_St} (σ : zz_St) (index_ : Int32) (r : Int32) (hf : fX8_headAt_a55 σ index_ = some r) : zz_Met yX8_headAt (.code yX8_headAt cX8_headAt 5 (some .int)) 0 0 0 D U [.ref (ad 47), .ref (ad 55), .int index_] (zz_wm U ad ρ σ X) (zz_ok (some (.int r)) (zz_wm U ad ρ σ X)) zz_noth := by
  unfold fX8_headAt_a55 at hf
  refine zz_method RX8 rfl (by decide +kernel) (Nat.le_of_ble_eq_true rfl) ?_
  intro p l e s m args below meth c A _ C
  refine zz_lvs (lv1 := [(0, .ref (ad 47)), (1, .ref (ad 55)), (2, .int index_)]) rfl ?_
  refine zz_iload_n C 2 dX8_headAt_0 rfl rfl ?_
  refine zz_istore_n C dX8_headAt_1 rfl (by decide) (lv' := [(3, .int index_), (0, .ref (ad 47)), (1, .ref (ad 55)), (2, .int index_)]) rfl ?_
  refine zz_iconst (v := (0 : Int32)) C dX8_headAt_2 (by decide) ?_
  refine zz_istore C dX8_headAt_3 (by decide) (lv' := [(4, .int (0 : Int32)), (3, .int index_), (0, .ref (ad 47)), (1, .ref (ad 55)), (2, .int index_)]) rfl ?_
  obtain ⟨q12, h13, hf⟩ := zz_bind hf
  refine zz_sub [2, 3, 4, 1, 0] rfl ?_
  refine mX8_headAt_a55_L1 C (Nat.le_of_ble_eq_true rfl) (Nat.le_of_ble_eq_true rfl) σ index_ 1000 index_ (0 : Int32) q12 h13 (fun v14 h16 => ?_) (fun w15 h16 => ?_)
  · subst h16
    cases hf
    exact zz_iret C dX8_headAt_36 (And.intro rfl rfl) (Nat.le_of_ble_eq_true rfl) (Nat.le_of_ble_eq_true rfl)
  · subst h16
    refine zz_iconst (v := (-1 : Int32)) C dX8_headAt_46 (by decide) ?_
    cases hf
    exact zz_iret C dX8_headAt_47 (And.intro rfl rfl) (Nat.le_of_ble_eq_true rfl) (Nat.le_of_ble_eq_true rfl)
theorem dX8_setOf_0 : decode cX8_setOf 0 = .ok (.iconst 0, 1) := by decide +kernel
theorem dX8_setOf_1 : decode cX8_setOf 1 = .ok (.istore_n 3, 1) := by decide +kernel
theorem dX8_setOf_2 : decode cX8_setOf 2 = .ok (.iconst 0, 1) := by decide +kernel
theorem dX8_setOf_3 : decode cX8_setOf 3 = .ok (.istore 4, 2) := by decide +kernel
theorem dX8_setOf_5 : decode cX8_setOf 5 = .ok (.iload 4, 2) := by decide +kernel
theorem dX8_setOf_7 : decode cX8_setOf 7 = .ok (.aload_n 0, 1) := by decide +kernel
theorem dX8_setOf_8 : decode cX8_setOf 8 = .ok (.getfield 66, 3) := by decide +kernel
theorem dX8_setOf_11 : decode cX8_setOf 11 = .ok (.if_icmp .ge 24, 3) := by decide +kernel
theorem dX8_setOf_14 : decode cX8_setOf 14 = .ok (.aload_n 1, 1) := by decide +kernel
theorem dX8_setOf_15 : decode cX8_setOf 15 = .ok (.iload 4, 2) := by decide +kernel
theorem dX8_setOf_17 : decode cX8_setOf 17 = .ok (.iaload, 1) := by decide +kernel
theorem dX8_setOf_18 : decode cX8_setOf 18 = .ok (.iload_n 2, 1) := by decide +kernel
theorem dX8_setOf_19 : decode cX8_setOf 19 = .ok (.if_icmp .ne 10, 3) := by decide +kernel
theorem dX8_setOf_22 : decode cX8_setOf 22 = .ok (.iload_n 3, 1) := by decide +kernel
theorem dX8_setOf_23 : decode cX8_setOf 23 = .ok (.iconst 1, 1) := by decide +kernel
theorem dX8_setOf_24 : decode cX8_setOf 24 = .ok (.iload 4, 2) := by decide +kernel
theorem dX8_setOf_26 : decode cX8_setOf 26 = .ok (.ishl, 1) := by decide +kernel
theorem dX8_setOf_27 : decode cX8_setOf 27 = .ok (.ior, 1) := by decide +kernel
theorem dX8_setOf_28 : decode cX8_setOf 28 = .ok (.istore_n 3, 1) := by decide +kernel
theorem dX8_setOf_29 : decode cX8_setOf 29 = .ok (.iinc 4 1, 3) := by decide +kernel
theorem dX8_setOf_32 : decode cX8_setOf 32 = .ok (.goto (-27), 3) := by decide +kernel
theorem dX8_setOf_35 : decode cX8_setOf 35 = .ok (.iload_n 3, 1) := by decide +kernel
theorem dX8_setOf_36 : decode cX8_setOf 36 = .ok (.ireturn, 1) := by decide +kernel
set_option maxHeartbeats 4000000 in
set_option maxRecDepth 100000 in
theorem mX8_setOf_a55_L1 {p : Program} {l : Launch} {e : Env} {R : Room} {s : State} {m : MethodId} {args : Array Value} {below : List Frame} {meth : Method} {c : Code} {Q : State → Prop} {D : va_G} {U : zz_U} {A : Nat → Prop} {cells slots : Nat} {ad : Nat → Nat} {X : va_W} {ρ : zz_St} (C : zz_C p l R s m meth c D U A RX8 cX8_setOf 5 (some .int) [] 0) (hcR : cells ≤ R.cells) (hsR : slots ≤ R.slots) (σ : zz_St) (head_ : Int32) : ∀ (n : Nat) (set_ : Int32) (p_ : Int32) (q : (Int32 × Int32)), fX8_setOf_a55_L1 σ head_ n set_ p_ = some q → (zz_Z p l e R s m args below meth c Q D A 5 cells slots (zz_wm U ad ρ σ X) 35 [(0, .ref (ad 47)), (1, .ref (ad 55)), (2, .int head_), (3, .int q.1), (4, .int q.2)] []) → zz_Z p l e R s m args below meth c Q D A 5 cells slots (zz_wm U ad ρ σ X) 5 [(0, .ref (ad 47)), (1, .ref (ad 55)), (2, .int head_), (3, .int set_), (4, .int p_)] [] := by
  intro n
  induction n with
  | zero => intro set_ p_ q hf; rw [fX8_setOf_a55_L1] at hf; cases hf
  | succ n ih =>
    intro set_ p_ q hf kx
    rw [fX8_setOf_a55_L1] at hf
    refine zz_iload C 4 dX8_setOf_5 rfl ?_
    refine zz_aload_n C 0 dX8_setOf_7 rfl rfl ?_
    refine zf8_pieces C dX8_setOf_8 zw_148 ?_
    refine zz_icmp_ge (tgt := 35) C dX8_setOf_11 (by decide) (fun g1 => ?_) (fun g1 => ?_)
    · rw [if_pos g1] at hf
      cases hf
      exact kx
    · rw [if_neg g1] at hf
      obtain ⟨x2, h3, hf⟩ := zz_bind hf
      refine zz_cut 29 [(0, .ref (ad 47)), (1, .ref (ad 55)), (2, .int head_), (3, .int x2), (4, .int p_)] [] (zz_wm U ad ρ σ X) ?_ (fun J4 => ?_)
      · refine zz_iinc (v := (p_ + (1 : Int32))) C 4 dX8_setOf_29 rfl (by rfl) (by decide) (lv' := [(4, .int (p_ + (1 : Int32))), (0, .ref (ad 47)), (1, .ref (ad 55)), (2, .int head_), (3, .int x2)]) rfl ?_
        refine zz_goto (tgt := 5) C dX8_setOf_32 (by decide) ?_
        refine zz_sub [1, 2, 3, 4, 0] rfl ?_
        exact ih x2 (p_ + (1 : Int32)) _ hf kx
      refine zz_aload_n C 1 dX8_setOf_14 rfl rfl ?_
      refine zz_iload C 4 dX8_setOf_15 rfl ?_
      obtain ⟨x5, h6, h3⟩ := zz_bind h3
      refine zl_55 C dX8_setOf_17 h6 ?_
      refine zz_iload_n C 2 dX8_setOf_18 rfl rfl ?_
      refine zz_icmp_ne (tgt := 29) C dX8_setOf_19 (by decide) (fun g7 => ?_) (fun g7 => ?_)
      · rw [if_neg g7] at h3
        cases h3
        exact J4
      · rw [if_pos g7] at h3
        refine zz_iload_n C 3 dX8_setOf_22 rfl rfl ?_
        refine zz_iconst (v := (1 : Int32)) C dX8_setOf_23 (by decide) ?_
        refine zz_iload C 4 dX8_setOf_24 rfl ?_
        refine zz_ishl C dX8_setOf_26 ?_
        refine zz_ior C dX8_setOf_27 ?_
        obtain ⟨x8, h9, h3⟩ := zz_bind h3
        refine zz_topi (Option.some.inj h9) ?_
        refine zz_istore_n C dX8_setOf_28 rfl (by decide) (lv' := [(3, .int x8), (0, .ref (ad 47)), (1, .ref (ad 55)), (2, .int head_), (4, .int p_)]) rfl ?_
        refine zz_sub [1, 2, 3, 0, 4] rfl ?_
        cases h3
        exact J4
set_option maxHeartbeats 4000000 in
set_option maxRecDepth 100000 in
theorem mX8_setOf_a55 {D : va_G} {U : zz_U} {ad : Nat → Nat} {X : va_W} {ρ : zz_St} (σ : zz_St) (head_ : Int32) (r : Int32) (hf : fX8_setOf_a55 σ head_ = some r) : zz_Met yX8_setOf (.code yX8_setOf cX8_setOf 5 (some .int)) 0 0 0 D U [.ref (ad 47), .ref (ad 55), .int head_] (zz_wm U ad ρ σ X) (zz_ok (some (.int r)) (zz_wm U ad ρ σ X)) zz_noth := by
  unfold fX8_setOf_a55 at hf
  refine zz_method RX8 rfl (by decide +kernel) (Nat.le_of_ble_eq_true rfl) ?_
  intro p l e s m args below meth c A _ C
  refine zz_lvs (lv1 := [(0, .ref (ad 47)), (1, .ref (ad 55)), (2, .int head_)]) rfl ?_
  refine zz_iconst (v := (0 : Int32)) C dX8_setOf_0 (by decide) ?_
  refine zz_istore_n C dX8_setOf_1 rfl (by decide) (lv' := [(3, .int (0 : Int32)), (0, .ref (ad 47)), (1, .ref (ad 55)), (2, .int head_)]) rfl ?_
  refine zz_iconst (v := (0 : Int32)) C dX8_setOf_2 (by decide) ?_
  refine zz_istore C dX8_setOf_3 (by decide) (lv' := [(4, .int (0 : Int32)), (3, .int (0 : Int32)), (0, .ref (ad 47)), (1, .ref (ad 55)), (2, .int head_)]) rfl ?_
  obtain ⟨q10, h11, hf⟩ := zz_bind hf
  refine zz_sub [2, 3, 4, 1, 0] rfl ?_
  refine mX8_setOf_a55_L1 C (Nat.le_of_ble_eq_true rfl) (Nat.le_of_ble_eq_true rfl) σ head_ 1000 (0 : Int32) (0 : Int32) q10 h11 ?_
  refine zz_iload_n C 3 dX8_setOf_35 rfl rfl ?_
  cases hf
  exact zz_iret C dX8_setOf_36 (And.intro rfl rfl) (Nat.le_of_ble_eq_true rfl) (Nat.le_of_ble_eq_true rfl)
theorem dX8_group_0 : decode cX8_group 0 = .ok (.aload_n 0, 1) := by decide +kernel
theorem dX8_group_1 : decode cX8_group 1 = .ok (.iconst 0, 1) := by decide +kernel
theorem dX8_group_2 : decode cX8_group 2 = .ok (.putfield 63, 3) := by decide +kernel
theorem dX8_group_5 : decode cX8_group 5 = .ok (.aload_n 0, 1) := by decide +kernel
theorem dX8_group_6 : decode cX8_group 6 = .ok (.invokevirtual 146, 3) := by decide +kernel
theorem dX8_group_9 : decode cX8_group 9 = .ok (.aload_n 0, 1) := by decide +kernel
theorem dX8_group_10 : decode cX8_group 10 = .ok (.aload_n 0, 1) := by decide +kernel
theorem dX8_group_11 : decode cX8_group 11 = .ok (.getfield 42, 3) := by decide +kernel
theorem dX8_group_14 : decode cX8_group 14 = .ok (.iload_n 1, 1) := by decide +kernel
theorem dX8_group_15 : decode cX8_group 15 = .ok (.invokevirtual 153, 3) := by decide +kernel
theorem dX8_group_18 : decode cX8_group 18 = .ok (.istore_n 2, 1) := by decide +kernel
theorem dX8_group_19 : decode cX8_group 19 = .ok (.iload_n 2, 1) := by decide +kernel
theorem dX8_group_20 : decode cX8_group 20 = .ok (.iconst (-1), 1) := by decide +kernel
theorem dX8_group_21 : decode cX8_group 21 = .ok (.if_icmp .ne 11, 3) := by decide +kernel
theorem dX8_group_24 : decode cX8_group 24 = .ok (.aload_n 0, 1) := by decide +kernel
theorem dX8_group_25 : decode cX8_group 25 = .ok (.iconst 1, 1) := by decide +kernel
theorem dX8_group_26 : decode cX8_group 26 = .ok (.invokevirtual 73, 3) := by decide +kernel
theorem dX8_group_29 : decode cX8_group 29 = .ok (.goto 12, 3) := by decide +kernel
theorem dX8_group_32 : decode cX8_group 32 = .ok (.aload_n 0, 1) := by decide +kernel
theorem dX8_group_33 : decode cX8_group 33 = .ok (.aload_n 0, 1) := by decide +kernel
theorem dX8_group_34 : decode cX8_group 34 = .ok (.getfield 42, 3) := by decide +kernel
theorem dX8_group_37 : decode cX8_group 37 = .ok (.iload_n 2, 1) := by decide +kernel
theorem dX8_group_38 : decode cX8_group 38 = .ok (.invokevirtual 157, 3) := by decide +kernel
theorem dX8_group_41 : decode cX8_group 41 = .ok (.ireturn, 1) := by decide +kernel
set_option maxHeartbeats 4000000 in
set_option maxRecDepth 100000 in
theorem mX8_group {D : va_G} {U : zz_U} {ad : Nat → Nat} {X : va_W} {ρ : zz_St} (σ : zz_St) (group_ : Int32) (r : (Int32 × zz_St)) (hf : fX8_group σ group_ = some r) : zz_Met yX8_group (.code yX8_group cX8_group 3 (some .int)) 5 0 0 D U [.ref (ad 47), .int group_] (zz_wm U ad ρ σ X) (zz_ok (some (.int r.1)) (zz_wm U ad ρ r.2 X)) zz_noth := by
  unfold fX8_group at hf
  refine zz_method RX8 rfl (by decide +kernel) (Nat.le_of_ble_eq_true rfl) ?_
  intro p l e s m args below meth c A _ C
  refine zz_lvs (lv1 := [(0, .ref (ad 47)), (1, .int group_)]) rfl ?_
  refine zz_aload_n C 0 dX8_group_0 rfl rfl ?_
  refine zz_iconst (v := (0 : Int32)) C dX8_group_1 (by decide) ?_
  refine zp8_thrown C dX8_group_2 zw_145 ?_
  refine zz_aload_n C 0 dX8_group_5 rfl rfl ?_
  obtain ⟨x1, h2, hf⟩ := zz_bind hf
  refine zz_callV1 (As := []) (rest := []) C 47 (mX8_makeGroups (zz_u σ 47 0 (0 : Int32)) x1 h2) dX8_group_6 rfl rfl rfl zw_182 zy_X8_makeGroups rfl (by decide) (by decide) (Nat.le_of_ble_eq_true rfl) (Nat.le_of_ble_eq_true rfl) (Nat.le_of_ble_eq_true rfl) rfl ?_
  refine zz_aload_n C 0 dX8_group_9 rfl rfl ?_
  refine zz_aload_n C 0 dX8_group_10 rfl rfl ?_
  refine zf8_heads C dX8_group_11 zw_170 ?_
  refine zz_iload_n C 1 dX8_group_14 rfl rfl ?_
  obtain ⟨x3, h4, hf⟩ := zz_bind hf
  refine zz_callV1 (As := [.ref (ad 55), .int group_]) (rest := []) C 47 (mX8_headAt_a55 x1 group_ x3 h4) dX8_group_15 rfl rfl rfl zw_184 zy_X8_headAt rfl (by decide) (by decide) (Nat.le_of_ble_eq_true rfl) (Nat.le_of_ble_eq_true rfl) (Nat.le_of_ble_eq_true rfl) rfl ?_
  refine zz_istore_n C dX8_group_18 rfl (by decide) (lv' := [(2, .int x3), (0, .ref (ad 47)), (1, .int group_)]) rfl ?_
  obtain ⟨x5, h6, hf⟩ := zz_bind hf
  refine zz_cut 41 [(2, .int x3), (0, .ref (ad 47)), (1, .int group_)] [.int x5.1] (zz_wm U ad ρ x5.2 X) ?_ (fun J7 => ?_)
  · cases hf
    exact zz_iret C dX8_group_41 (And.intro rfl rfl) (Nat.le_of_ble_eq_true rfl) (Nat.le_of_ble_eq_true rfl)
  refine zz_iload_n C 0 dX8_group_19 rfl rfl ?_
  refine zz_iconst (v := (-1 : Int32)) C dX8_group_20 (by decide) ?_
  refine zz_icmp_ne (tgt := 32) C dX8_group_21 (by decide) (fun g8 => ?_) (fun g8 => ?_)
  · rw [if_neg g8] at h6
    refine zz_aload_n C 1 dX8_group_32 rfl rfl ?_
    refine zz_aload_n C 1 dX8_group_33 rfl rfl ?_
    refine zf8_heads C dX8_group_34 zw_170 ?_
    refine zz_iload_n C 0 dX8_group_37 rfl rfl ?_
    obtain ⟨x9, h10, h6⟩ := zz_bind h6
    refine zz_callV1 (As := [.ref (ad 55), .int x3]) (rest := []) C 47 (mX8_setOf_a55 x1 x3 x9 h10) dX8_group_38 rfl rfl rfl zw_183 zy_X8_setOf rfl (by decide) (by decide) (Nat.le_of_ble_eq_true rfl) (Nat.le_of_ble_eq_true rfl) (Nat.le_of_ble_eq_true rfl) rfl ?_
    cases h6
    exact J7
  · rw [if_pos g8] at h6
    refine zz_aload_n C 1 dX8_group_24 rfl rfl ?_
    refine zz_iconst (v := (1 : Int32)) C dX8_group_25 (by decide) ?_
    obtain ⟨x11, h12, h6⟩ := zz_bind h6
    refine zz_callV1 (As := [.int (1 : Int32)]) (rest := []) C 47 (mX8_no x1 (1 : Int32) x11 h12) dX8_group_26 rfl rfl rfl zw_147 zy_X8_no rfl (by decide) (by decide) (Nat.le_of_ble_eq_true rfl) (Nat.le_of_ble_eq_true rfl) (Nat.le_of_ble_eq_true rfl) rfl ?_
    refine zz_goto (tgt := 41) C dX8_group_29 (by decide) ?_
    cases h6
    exact J7
theorem dX8_indexOf_0 : decode cX8_indexOf 0 = .ok (.iconst 0, 1) := by decide +kernel
theorem dX8_indexOf_1 : decode cX8_indexOf 1 = .ok (.istore_n 3, 1) := by decide +kernel
theorem dX8_indexOf_2 : decode cX8_indexOf 2 = .ok (.iconst 0, 1) := by decide +kernel
theorem dX8_indexOf_3 : decode cX8_indexOf 3 = .ok (.istore 4, 2) := by decide +kernel
theorem dX8_indexOf_5 : decode cX8_indexOf 5 = .ok (.iload 4, 2) := by decide +kernel
theorem dX8_indexOf_7 : decode cX8_indexOf 7 = .ok (.iload_n 2, 1) := by decide +kernel
theorem dX8_indexOf_8 : decode cX8_indexOf 8 = .ok (.if_icmp .ge 26, 3) := by decide +kernel
theorem dX8_indexOf_11 : decode cX8_indexOf 11 = .ok (.iload_n 3, 1) := by decide +kernel
theorem dX8_indexOf_12 : decode cX8_indexOf 12 = .ok (.aload_n 1, 1) := by decide +kernel
theorem dX8_indexOf_13 : decode cX8_indexOf 13 = .ok (.iload 4, 2) := by decide +kernel
theorem dX8_indexOf_15 : decode cX8_indexOf 15 = .ok (.iaload, 1) := by decide +kernel
theorem dX8_indexOf_16 : decode cX8_indexOf 16 = .ok (.iload 4, 2) := by decide +kernel
theorem dX8_indexOf_18 : decode cX8_indexOf 18 = .ok (.if_icmp .ne 7, 3) := by decide +kernel
theorem dX8_indexOf_21 : decode cX8_indexOf 21 = .ok (.iconst 1, 1) := by decide +kernel
theorem dX8_indexOf_22 : decode cX8_indexOf 22 = .ok (.goto 4, 3) := by decide +kernel
theorem dX8_indexOf_25 : decode cX8_indexOf 25 = .ok (.iconst 0, 1) := by decide +kernel
theorem dX8_indexOf_26 : decode cX8_indexOf 26 = .ok (.iadd, 1) := by decide +kernel
theorem dX8_indexOf_27 : decode cX8_indexOf 27 = .ok (.istore_n 3, 1) := by decide +kernel
theorem dX8_indexOf_28 : decode cX8_indexOf 28 = .ok (.iinc 4 1, 3) := by decide +kernel
theorem dX8_indexOf_31 : decode cX8_indexOf 31 = .ok (.goto (-26), 3) := by decide +kernel
theorem dX8_indexOf_34 : decode cX8_indexOf 34 = .ok (.iload_n 3, 1) := by decide +kernel
theorem dX8_indexOf_35 : decode cX8_indexOf 35 = .ok (.ireturn, 1) := by decide +kernel
set_option maxHeartbeats 4000000 in
set_option maxRecDepth 100000 in
theorem mX8_indexOf_a55_L1 {p : Program} {l : Launch} {e : Env} {R : Room} {s : State} {m : MethodId} {args : Array Value} {below : List Frame} {meth : Method} {c : Code} {Q : State → Prop} {D : va_G} {U : zz_U} {A : Nat → Prop} {cells slots : Nat} {ad : Nat → Nat} {X : va_W} {ρ : zz_St} (C : zz_C p l R s m meth c D U A RX8 cX8_indexOf 5 (some .int) [] 0) (hcR : cells ≤ R.cells) (hsR : slots ≤ R.slots) (σ : zz_St) (head_ : Int32) : ∀ (n : Nat) (index_ : Int32) (p_ : Int32) (q : (Int32 × Int32)), fX8_indexOf_a55_L1 σ head_ n index_ p_ = some q → (zz_Z p l e R s m args below meth c Q D A 5 cells slots (zz_wm U ad ρ σ X) 34 [(0, .ref (ad 47)), (1, .ref (ad 55)), (2, .int head_), (3, .int q.1), (4, .int q.2)] []) → zz_Z p l e R s m args below meth c Q D A 5 cells slots (zz_wm U ad ρ σ X) 5 [(0, .ref (ad 47)), (1, .ref (ad 55)), (2, .int head_), (3, .int index_), (4, .int p_)] [] := by
  intro n
  induction n with
  | zero => intro index_ p_ q hf; rw [fX8_indexOf_a55_L1] at hf; cases hf
  | succ n ih =>
    intro index_ p_ q hf kx
    rw [fX8_indexOf_a55_L1] at hf
    refine zz_iload C 4 dX8_indexOf_5 rfl ?_
    refine zz_iload_n C 2 dX8_indexOf_7 rfl rfl ?_
    refine zz_icmp_ge (tgt := 34) C dX8_indexOf_8 (by decide) (fun g1 => ?_) (fun g1 => ?_)
    · rw [if_pos g1] at hf
      cases hf
      exact kx
    · rw [if_neg g1] at hf
      refine zz_iload_n C 3 dX8_indexOf_11 rfl rfl ?_
      obtain ⟨x2, h3, hf⟩ := zz_bind hf
      refine zz_cut 26 [(0, .ref (ad 47)), (1, .ref (ad 55)), (2, .int head_), (3, .int index_), (4, .int p_)] [.int x2, .int index_] (zz_wm U ad ρ σ X) ?_ (fun J4 => ?_)
      · refine zz_iadd C dX8_indexOf_26 ?_
        obtain ⟨x8, h9, hf⟩ := zz_bind hf
        refine zz_topi (Option.some.inj h9) ?_
        refine zz_istore_n C dX8_indexOf_27 rfl (by decide) (lv' := [(3, .int x8), (0, .ref (ad 47)), (1, .ref (ad 55)), (2, .int head_), (4, .int p_)]) rfl ?_
        refine zz_iinc (v := (p_ + (1 : Int32))) C 4 dX8_indexOf_28 rfl (by rfl) (by decide) (lv' := [(4, .int (p_ + (1 : Int32))), (3, .int x8), (0, .ref (ad 47)), (1, .ref (ad 55)), (2, .int head_)]) rfl ?_
        refine zz_goto (tgt := 5) C dX8_indexOf_31 (by decide) ?_
        refine zz_sub [2, 3, 4, 1, 0] rfl ?_
        exact ih x8 (p_ + (1 : Int32)) _ hf kx
      refine zz_aload_n C 1 dX8_indexOf_12 rfl rfl ?_
      refine zz_iload C 4 dX8_indexOf_13 rfl ?_
      obtain ⟨x5, h6, h3⟩ := zz_bind h3
      refine zl_55 C dX8_indexOf_15 h6 ?_
      refine zz_iload C 4 dX8_indexOf_16 rfl ?_
      refine zz_icmp_ne (tgt := 25) C dX8_indexOf_18 (by decide) (fun g7 => ?_) (fun g7 => ?_)
      · rw [if_neg g7] at h3
        refine zz_iconst (v := (0 : Int32)) C dX8_indexOf_25 (by decide) ?_
        cases h3
        exact J4
      · rw [if_pos g7] at h3
        refine zz_iconst (v := (1 : Int32)) C dX8_indexOf_21 (by decide) ?_
        refine zz_goto (tgt := 26) C dX8_indexOf_22 (by decide) ?_
        cases h3
        exact J4
set_option maxHeartbeats 4000000 in
set_option maxRecDepth 100000 in
theorem mX8_indexOf_a55 {D : va_G} {U : zz_U} {ad : Nat → Nat} {X : va_W} {ρ : zz_St} (σ : zz_St) (head_ : Int32) (r : Int32) (hf : fX8_indexOf_a55 σ head_ = some r) : zz_Met yX8_indexOf (.code yX8_indexOf cX8_indexOf 5 (some .int)) 0 0 0 D U [.ref (ad 47), .ref (ad 55), .int head_] (zz_wm U ad ρ σ X) (zz_ok (some (.int r)) (zz_wm U ad ρ σ X)) zz_noth := by
  unfold fX8_indexOf_a55 at hf
  refine zz_method RX8 rfl (by decide +kernel) (Nat.le_of_ble_eq_true rfl) ?_
  intro p l e s m args below meth c A _ C
  refine zz_lvs (lv1 := [(0, .ref (ad 47)), (1, .ref (ad 55)), (2, .int head_)]) rfl ?_
  refine zz_iconst (v := (0 : Int32)) C dX8_indexOf_0 (by decide) ?_
  refine zz_istore_n C dX8_indexOf_1 rfl (by decide) (lv' := [(3, .int (0 : Int32)), (0, .ref (ad 47)), (1, .ref (ad 55)), (2, .int head_)]) rfl ?_
  refine zz_iconst (v := (0 : Int32)) C dX8_indexOf_2 (by decide) ?_
  refine zz_istore C dX8_indexOf_3 (by decide) (lv' := [(4, .int (0 : Int32)), (3, .int (0 : Int32)), (0, .ref (ad 47)), (1, .ref (ad 55)), (2, .int head_)]) rfl ?_
  obtain ⟨q10, h11, hf⟩ := zz_bind hf
  refine zz_sub [2, 3, 4, 1, 0] rfl ?_
  refine mX8_indexOf_a55_L1 C (Nat.le_of_ble_eq_true rfl) (Nat.le_of_ble_eq_true rfl) σ head_ 1000 (0 : Int32) (0 : Int32) q10 h11 ?_
  refine zz_iload_n C 3 dX8_indexOf_34 rfl rfl ?_
  cases hf
  exact zz_iret C dX8_indexOf_35 (And.intro rfl rfl) (Nat.le_of_ble_eq_true rfl) (Nat.le_of_ble_eq_true rfl)
theorem dX8_groupOf_0 : decode cX8_groupOf 0 = .ok (.aload_n 0, 1) := by decide +kernel
theorem dX8_groupOf_1 : decode cX8_groupOf 1 = .ok (.iconst 0, 1) := by decide +kernel
theorem dX8_groupOf_2 : decode cX8_groupOf 2 = .ok (.putfield 63, 3) := by decide +kernel
theorem dX8_groupOf_5 : decode cX8_groupOf 5 = .ok (.aload_n 0, 1) := by decide +kernel
theorem dX8_groupOf_6 : decode cX8_groupOf 6 = .ok (.iload_n 1, 1) := by decide +kernel
theorem dX8_groupOf_7 : decode cX8_groupOf 7 = .ok (.invokevirtual 77, 3) := by decide +kernel
theorem dX8_groupOf_10 : decode cX8_groupOf 10 = .ok (.ifCond .ne 9, 3) := by decide +kernel
theorem dX8_groupOf_13 : decode cX8_groupOf 13 = .ok (.aload_n 0, 1) := by decide +kernel
theorem dX8_groupOf_14 : decode cX8_groupOf 14 = .ok (.iconst 1, 1) := by decide +kernel
theorem dX8_groupOf_15 : decode cX8_groupOf 15 = .ok (.invokevirtual 73, 3) := by decide +kernel
theorem dX8_groupOf_18 : decode cX8_groupOf 18 = .ok (.ireturn, 1) := by decide +kernel
theorem dX8_groupOf_19 : decode cX8_groupOf 19 = .ok (.aload_n 0, 1) := by decide +kernel
theorem dX8_groupOf_20 : decode cX8_groupOf 20 = .ok (.invokevirtual 146, 3) := by decide +kernel
theorem dX8_groupOf_23 : decode cX8_groupOf 23 = .ok (.aload_n 0, 1) := by decide +kernel
theorem dX8_groupOf_24 : decode cX8_groupOf 24 = .ok (.aload_n 0, 1) := by decide +kernel
theorem dX8_groupOf_25 : decode cX8_groupOf 25 = .ok (.getfield 42, 3) := by decide +kernel
theorem dX8_groupOf_28 : decode cX8_groupOf 28 = .ok (.aload_n 0, 1) := by decide +kernel
theorem dX8_groupOf_29 : decode cX8_groupOf 29 = .ok (.getfield 42, 3) := by decide +kernel
theorem dX8_groupOf_32 : decode cX8_groupOf 32 = .ok (.iload_n 1, 1) := by decide +kernel
theorem dX8_groupOf_33 : decode cX8_groupOf 33 = .ok (.iaload, 1) := by decide +kernel
theorem dX8_groupOf_34 : decode cX8_groupOf 34 = .ok (.invokevirtual 160, 3) := by decide +kernel
theorem dX8_groupOf_37 : decode cX8_groupOf 37 = .ok (.ireturn, 1) := by decide +kernel
set_option maxHeartbeats 4000000 in
set_option maxRecDepth 100000 in
theorem mX8_groupOf {D : va_G} {U : zz_U} {ad : Nat → Nat} {X : va_W} {ρ : zz_St} (σ : zz_St) (piece_ : Int32) (r : (Int32 × zz_St)) (hf : fX8_groupOf σ piece_ = some r) : zz_Met yX8_groupOf (.code yX8_groupOf cX8_groupOf 2 (some .int)) 5 0 0 D U [.ref (ad 47), .int piece_] (zz_wm U ad ρ σ X) (zz_ok (some (.int r.1)) (zz_wm U ad ρ r.2 X)) zz_noth := by
  unfold fX8_groupOf at hf
  refine zz_method RX8 rfl (by decide +kernel) (Nat.le_of_ble_eq_true rfl) ?_
  intro p l e s m args below meth c A _ C
  refine zz_lvs (lv1 := [(0, .ref (ad 47)), (1, .int piece_)]) rfl ?_
  refine zz_aload_n C 0 dX8_groupOf_0 rfl rfl ?_
  refine zz_iconst (v := (0 : Int32)) C dX8_groupOf_1 (by decide) ?_
  refine zp8_thrown C dX8_groupOf_2 zw_145 ?_
  refine zz_aload_n C 0 dX8_groupOf_5 rfl rfl ?_
  refine zz_iload_n C 1 dX8_groupOf_6 rfl rfl ?_
  obtain ⟨x1, h2, hf⟩ := zz_bind hf
  refine zz_callV1 (As := [.int piece_]) (rest := []) C 47 (mX8_isPiece (zz_u σ 47 0 (0 : Int32)) piece_ x1 h2) dX8_groupOf_7 rfl rfl rfl zw_154 zy_X8_isPiece rfl (by decide) (by decide) (Nat.le_of_ble_eq_true rfl) (Nat.le_of_ble_eq_true rfl) (Nat.le_of_ble_eq_true rfl) rfl ?_
  refine zz_if_ne (tgt := 19) C dX8_groupOf_10 (by decide) (fun g3 => ?_) (fun g3 => ?_)
  · rw [if_neg g3] at hf
    refine zz_aload_n C 0 dX8_groupOf_19 rfl rfl ?_
    obtain ⟨x4, h5, hf⟩ := zz_bind hf
    refine zz_callV1 (As := []) (rest := []) C 47 (mX8_makeGroups (zz_u σ 47 0 (0 : Int32)) x4 h5) dX8_groupOf_20 rfl rfl rfl zw_182 zy_X8_makeGroups rfl (by decide) (by decide) (Nat.le_of_ble_eq_true rfl) (Nat.le_of_ble_eq_true rfl) (Nat.le_of_ble_eq_true rfl) rfl ?_
    refine zz_aload_n C 0 dX8_groupOf_23 rfl rfl ?_
    refine zz_aload_n C 0 dX8_groupOf_24 rfl rfl ?_
    refine zf8_heads C dX8_groupOf_25 zw_170 ?_
    refine zz_aload_n C 0 dX8_groupOf_28 rfl rfl ?_
    refine zf8_heads C dX8_groupOf_29 zw_170 ?_
    refine zz_iload_n C 1 dX8_groupOf_32 rfl rfl ?_
    obtain ⟨x6, h7, hf⟩ := zz_bind hf
    refine zl_55 C dX8_groupOf_33 h7 ?_
    obtain ⟨x8, h9, hf⟩ := zz_bind hf
    refine zz_callV1 (As := [.ref (ad 55), .int x6]) (rest := []) C 47 (mX8_indexOf_a55 x4 x6 x8 h9) dX8_groupOf_34 rfl rfl rfl zw_185 zy_X8_indexOf rfl (by decide) (by decide) (Nat.le_of_ble_eq_true rfl) (Nat.le_of_ble_eq_true rfl) (Nat.le_of_ble_eq_true rfl) rfl ?_
    cases hf
    exact zz_iret C dX8_groupOf_37 (And.intro rfl rfl) (Nat.le_of_ble_eq_true rfl) (Nat.le_of_ble_eq_true rfl)
  · rw [if_pos g3] at hf
    refine zz_aload_n C 0 dX8_groupOf_13 rfl rfl ?_
    refine zz_iconst (v := (1 : Int32)) C dX8_groupOf_14 (by decide) ?_
    obtain ⟨x10, h11, hf⟩ := zz_bind hf
    refine zz_callV1 (As := [.int (1 : Int32)]) (rest := []) C 47 (mX8_no (zz_u σ 47 0 (0 : Int32)) (1 : Int32) x10 h11) dX8_groupOf_15 rfl rfl rfl zw_147 zy_X8_no rfl (by decide) (by decide) (Nat.le_of_ble_eq_true rfl) (Nat.le_of_ble_eq_true rfl) (Nat.le_of_ble_eq_true rfl) rfl ?_
    cases hf
    exact zz_iret C dX8_groupOf_18 (And.intro rfl rfl) (Nat.le_of_ble_eq_true rfl) (Nat.le_of_ble_eq_true rfl)
theorem dX8_linkage_0 : decode cX8_linkage 0 = .ok (.aload_n 0, 1) := by decide +kernel
theorem dX8_linkage_1 : decode cX8_linkage 1 = .ok (.iconst 0, 1) := by decide +kernel
theorem dX8_linkage_2 : decode cX8_linkage 2 = .ok (.putfield 63, 3) := by decide +kernel
theorem dX8_linkage_5 : decode cX8_linkage 5 = .ok (.aload_n 0, 1) := by decide +kernel
theorem dX8_linkage_6 : decode cX8_linkage 6 = .ok (.invokevirtual 146, 3) := by decide +kernel
theorem dX8_linkage_9 : decode cX8_linkage 9 = .ok (.aload_n 0, 1) := by decide +kernel
theorem dX8_linkage_10 : decode cX8_linkage 10 = .ok (.aload_n 0, 1) := by decide +kernel
theorem dX8_linkage_11 : decode cX8_linkage 11 = .ok (.getfield 42, 3) := by decide +kernel
theorem dX8_linkage_14 : decode cX8_linkage 14 = .ok (.iload_n 1, 1) := by decide +kernel
theorem dX8_linkage_15 : decode cX8_linkage 15 = .ok (.invokevirtual 153, 3) := by decide +kernel
theorem dX8_linkage_18 : decode cX8_linkage 18 = .ok (.istore_n 3, 1) := by decide +kernel
theorem dX8_linkage_19 : decode cX8_linkage 19 = .ok (.aload_n 0, 1) := by decide +kernel
theorem dX8_linkage_20 : decode cX8_linkage 20 = .ok (.aload_n 0, 1) := by decide +kernel
theorem dX8_linkage_21 : decode cX8_linkage 21 = .ok (.getfield 42, 3) := by decide +kernel
theorem dX8_linkage_24 : decode cX8_linkage 24 = .ok (.iload_n 2, 1) := by decide +kernel
theorem dX8_linkage_25 : decode cX8_linkage 25 = .ok (.invokevirtual 153, 3) := by decide +kernel
theorem dX8_linkage_28 : decode cX8_linkage 28 = .ok (.istore 4, 2) := by decide +kernel
theorem dX8_linkage_30 : decode cX8_linkage 30 = .ok (.iload_n 3, 1) := by decide +kernel
theorem dX8_linkage_31 : decode cX8_linkage 31 = .ok (.iconst (-1), 1) := by decide +kernel
theorem dX8_linkage_32 : decode cX8_linkage 32 = .ok (.if_icmp .eq 9, 3) := by decide +kernel
theorem dX8_linkage_35 : decode cX8_linkage 35 = .ok (.iload 4, 2) := by decide +kernel
theorem dX8_linkage_37 : decode cX8_linkage 37 = .ok (.iconst (-1), 1) := by decide +kernel
theorem dX8_linkage_38 : decode cX8_linkage 38 = .ok (.if_icmp .ne 9, 3) := by decide +kernel
theorem dX8_linkage_41 : decode cX8_linkage 41 = .ok (.aload_n 0, 1) := by decide +kernel
theorem dX8_linkage_42 : decode cX8_linkage 42 = .ok (.iconst 1, 1) := by decide +kernel
theorem dX8_linkage_43 : decode cX8_linkage 43 = .ok (.invokevirtual 73, 3) := by decide +kernel
theorem dX8_linkage_46 : decode cX8_linkage 46 = .ok (.ireturn, 1) := by decide +kernel
theorem dX8_linkage_47 : decode cX8_linkage 47 = .ok (.iload_n 1, 1) := by decide +kernel
theorem dX8_linkage_48 : decode cX8_linkage 48 = .ok (.iload_n 2, 1) := by decide +kernel
theorem dX8_linkage_49 : decode cX8_linkage 49 = .ok (.if_icmp .ne 11, 3) := by decide +kernel
theorem dX8_linkage_52 : decode cX8_linkage 52 = .ok (.aload_n 0, 1) := by decide +kernel
theorem dX8_linkage_53 : decode cX8_linkage 53 = .ok (.iconst 2, 1) := by decide +kernel
theorem dX8_linkage_54 : decode cX8_linkage 54 = .ok (.invokevirtual 73, 3) := by decide +kernel
theorem dX8_linkage_57 : decode cX8_linkage 57 = .ok (.goto 10, 3) := by decide +kernel
theorem dX8_linkage_60 : decode cX8_linkage 60 = .ok (.aload_n 0, 1) := by decide +kernel
theorem dX8_linkage_61 : decode cX8_linkage 61 = .ok (.iload_n 3, 1) := by decide +kernel
theorem dX8_linkage_62 : decode cX8_linkage 62 = .ok (.iload 4, 2) := by decide +kernel
theorem dX8_linkage_64 : decode cX8_linkage 64 = .ok (.invokevirtual 139, 3) := by decide +kernel
theorem dX8_linkage_67 : decode cX8_linkage 67 = .ok (.ireturn, 1) := by decide +kernel
set_option maxHeartbeats 4000000 in
set_option maxRecDepth 100000 in
theorem mX8_linkage {D : va_G} {U : zz_U} {ad : Nat → Nat} {X : va_W} {ρ : zz_St} (σ : zz_St) (a_ : Int32) (b_ : Int32) (r : (Int32 × zz_St)) (hf : fX8_linkage σ a_ b_ = some r) : zz_Met yX8_linkage (.code yX8_linkage cX8_linkage 5 (some .int)) 5 0 0 D U [.ref (ad 47), .int a_, .int b_] (zz_wm U ad ρ σ X) (zz_ok (some (.int r.1)) (zz_wm U ad ρ r.2 X)) zz_noth := by
  unfold fX8_linkage at hf
  refine zz_method RX8 rfl (by decide +kernel) (Nat.le_of_ble_eq_true rfl) ?_
  intro p l e s m args below meth c A _ C
  refine zz_lvs (lv1 := [(0, .ref (ad 47)), (1, .int a_), (2, .int b_)]) rfl ?_
  refine zz_aload_n C 0 dX8_linkage_0 rfl rfl ?_
  refine zz_iconst (v := (0 : Int32)) C dX8_linkage_1 (by decide) ?_
  refine zp8_thrown C dX8_linkage_2 zw_145 ?_
  refine zz_aload_n C 0 dX8_linkage_5 rfl rfl ?_
  obtain ⟨x1, h2, hf⟩ := zz_bind hf
  refine zz_callV1 (As := []) (rest := []) C 47 (mX8_makeGroups (zz_u σ 47 0 (0 : Int32)) x1 h2) dX8_linkage_6 rfl rfl rfl zw_182 zy_X8_makeGroups rfl (by decide) (by decide) (Nat.le_of_ble_eq_true rfl) (Nat.le_of_ble_eq_true rfl) (Nat.le_of_ble_eq_true rfl) rfl ?_
  refine zz_aload_n C 0 dX8_linkage_9 rfl rfl ?_
  refine zz_aload_n C 0 dX8_linkage_10 rfl rfl ?_
  refine zf8_heads C dX8_linkage_11 zw_170 ?_
  refine zz_iload_n C 1 dX8_linkage_14 rfl rfl ?_
  obtain ⟨x3, h4, hf⟩ := zz_bind hf
  refine zz_callV1 (As := [.ref (ad 55), .int a_]) (rest := []) C 47 (mX8_headAt_a55 x1 a_ x3 h4) dX8_linkage_15 rfl rfl rfl zw_184 zy_X8_headAt rfl (by decide) (by decide) (Nat.le_of_ble_eq_true rfl) (Nat.le_of_ble_eq_true rfl) (Nat.le_of_ble_eq_true rfl) rfl ?_
  refine zz_istore_n C dX8_linkage_18 rfl (by decide) (lv' := [(3, .int x3), (0, .ref (ad 47)), (1, .int a_), (2, .int b_)]) rfl ?_
  refine zz_aload_n C 1 dX8_linkage_19 rfl rfl ?_
  refine zz_aload_n C 1 dX8_linkage_20 rfl rfl ?_
  refine zf8_heads C dX8_linkage_21 zw_170 ?_
  refine zz_iload_n C 3 dX8_linkage_24 rfl rfl ?_
  obtain ⟨x5, h6, hf⟩ := zz_bind hf
  refine zz_callV1 (As := [.ref (ad 55), .int b_]) (rest := []) C 47 (mX8_headAt_a55 x1 b_ x5 h6) dX8_linkage_25 rfl rfl rfl zw_184 zy_X8_headAt rfl (by decide) (by decide) (Nat.le_of_ble_eq_true rfl) (Nat.le_of_ble_eq_true rfl) (Nat.le_of_ble_eq_true rfl) rfl ?_
  refine zz_istore C dX8_linkage_28 (by decide) (lv' := [(4, .int x5), (3, .int x3), (0, .ref (ad 47)), (1, .int a_), (2, .int b_)]) rfl ?_
  obtain ⟨b7, h8, hf⟩ := zz_bind hf
  refine zz_cutI (P := b7 = true) 41 [(4, .int x5), (3, .int x3), (0, .ref (ad 47)), (1, .int a_), (2, .int b_)] [] (zz_wm U ad ρ x1 X) (fun g11 => ?_) (fun J9 => ?_)
  · rw [if_pos g11] at hf
    refine zz_aload_n C 2 dX8_linkage_41 rfl rfl ?_
    refine zz_iconst (v := (1 : Int32)) C dX8_linkage_42 (by decide) ?_
    obtain ⟨x14, h15, hf⟩ := zz_bind hf
    refine zz_callV1 (As := [.int (1 : Int32)]) (rest := []) C 47 (mX8_no x1 (1 : Int32) x14 h15) dX8_linkage_43 rfl rfl rfl zw_147 zy_X8_no rfl (by decide) (by decide) (Nat.le_of_ble_eq_true rfl) (Nat.le_of_ble_eq_true rfl) (Nat.le_of_ble_eq_true rfl) rfl ?_
    cases hf
    exact zz_iret C dX8_linkage_46 (And.intro rfl rfl) (Nat.le_of_ble_eq_true rfl) (Nat.le_of_ble_eq_true rfl)
  refine zz_cutI (P := b7 = false) 47 [(4, .int x5), (3, .int x3), (0, .ref (ad 47)), (1, .int a_), (2, .int b_)] [] (zz_wm U ad ρ x1 X) (fun g11 => ?_) (fun J10 => ?_)
  · rw [if_neg (show ¬ b7 = true by rw [g11]; decide)] at hf
    obtain ⟨x16, h17, hf⟩ := zz_bind hf
    refine zz_cut 67 [(4, .int x5), (3, .int x3), (0, .ref (ad 47)), (1, .int a_), (2, .int b_)] [.int x16.1] (zz_wm U ad ρ x16.2 X) ?_ (fun J18 => ?_)
    · cases hf
      exact zz_iret C dX8_linkage_67 (And.intro rfl rfl) (Nat.le_of_ble_eq_true rfl) (Nat.le_of_ble_eq_true rfl)
    refine zz_iload_n C 3 dX8_linkage_47 rfl rfl ?_
    refine zz_iload_n C 4 dX8_linkage_48 rfl rfl ?_
    refine zz_icmp_ne (tgt := 60) C dX8_linkage_49 (by decide) (fun g19 => ?_) (fun g19 => ?_)
    · rw [if_neg g19] at h17
      refine zz_aload_n C 2 dX8_linkage_60 rfl rfl ?_
      refine zz_iload_n C 1 dX8_linkage_61 rfl rfl ?_
      refine zz_iload C 0 dX8_linkage_62 rfl ?_
      obtain ⟨x20, h21, h17⟩ := zz_bind h17
      refine zz_callV1 (As := [.int x3, .int x5]) (rest := []) C 47 (mX8_linkageOf x1 x3 x5 x20 h21) dX8_linkage_64 rfl rfl rfl zw_178 zy_X8_linkageOf rfl (by decide) (by decide) (Nat.le_of_ble_eq_true rfl) (Nat.le_of_ble_eq_true rfl) (Nat.le_of_ble_eq_true rfl) rfl ?_
      cases h17
      exact J18
    · rw [if_pos g19] at h17
      refine zz_aload_n C 2 dX8_linkage_52 rfl rfl ?_
      refine zz_iconst (v := (2 : Int32)) C dX8_linkage_53 (by decide) ?_
      obtain ⟨x22, h23, h17⟩ := zz_bind h17
      refine zz_callV1 (As := [.int (2 : Int32)]) (rest := []) C 47 (mX8_no x1 (2 : Int32) x22 h23) dX8_linkage_54 rfl rfl rfl zw_147 zy_X8_no rfl (by decide) (by decide) (Nat.le_of_ble_eq_true rfl) (Nat.le_of_ble_eq_true rfl) (Nat.le_of_ble_eq_true rfl) rfl ?_
      refine zz_goto (tgt := 67) C dX8_linkage_57 (by decide) ?_
      cases h17
      exact J18
  refine zz_iload_n C 1 dX8_linkage_30 rfl rfl ?_
  refine zz_iconst (v := (-1 : Int32)) C dX8_linkage_31 (by decide) ?_
  refine zz_icmp_eq (tgt := 41) C dX8_linkage_32 (by decide) (fun g12 => ?_) (fun g12 => ?_)
  · rw [if_pos g12] at h8
    cases h8
    exact J9 rfl
  · rw [if_neg g12] at h8
    refine zz_iload C 0 dX8_linkage_35 rfl ?_
    refine zz_iconst (v := (-1 : Int32)) C dX8_linkage_37 (by decide) ?_
    refine zz_icmp_ne (tgt := 47) C dX8_linkage_38 (by decide) (fun g13 => ?_) (fun g13 => ?_)
    · rw [if_neg g13] at h8
      cases h8
      exact J10 rfl
    · rw [if_pos g13] at h8
      cases h8
      exact J9 rfl
theorem dX8_lastLinkage_0 : decode cX8_lastLinkage 0 = .ok (.aload_n 0, 1) := by decide +kernel
theorem dX8_lastLinkage_1 : decode cX8_lastLinkage 1 = .ok (.iconst 0, 1) := by decide +kernel
theorem dX8_lastLinkage_2 : decode cX8_lastLinkage 2 = .ok (.putfield 63, 3) := by decide +kernel
theorem dX8_lastLinkage_5 : decode cX8_lastLinkage 5 = .ok (.aload_n 0, 1) := by decide +kernel
theorem dX8_lastLinkage_6 : decode cX8_lastLinkage 6 = .ok (.invokevirtual 146, 3) := by decide +kernel
theorem dX8_lastLinkage_9 : decode cX8_lastLinkage 9 = .ok (.aload_n 0, 1) := by decide +kernel
theorem dX8_lastLinkage_10 : decode cX8_lastLinkage 10 = .ok (.getfield 133, 3) := by decide +kernel
theorem dX8_lastLinkage_13 : decode cX8_lastLinkage 13 = .ok (.ireturn, 1) := by decide +kernel
set_option maxHeartbeats 4000000 in
set_option maxRecDepth 100000 in
theorem mX8_lastLinkage {D : va_G} {U : zz_U} {ad : Nat → Nat} {X : va_W} {ρ : zz_St} (σ : zz_St) (r : (Int32 × zz_St)) (hf : fX8_lastLinkage σ = some r) : zz_Met yX8_lastLinkage (.code yX8_lastLinkage cX8_lastLinkage 1 (some .int)) 5 0 0 D U [.ref (ad 47)] (zz_wm U ad ρ σ X) (zz_ok (some (.int r.1)) (zz_wm U ad ρ r.2 X)) zz_noth := by
  unfold fX8_lastLinkage at hf
  refine zz_method RX8 rfl (by decide +kernel) (Nat.le_of_ble_eq_true rfl) ?_
  intro p l e s m args below meth c A _ C
  refine zz_lvs (lv1 := [(0, .ref (ad 47))]) rfl ?_
  refine zz_aload_n C 0 dX8_lastLinkage_0 rfl rfl ?_
  refine zz_iconst (v := (0 : Int32)) C dX8_lastLinkage_1 (by decide) ?_
  refine zp8_thrown C dX8_lastLinkage_2 zw_145 ?_
  refine zz_aload_n C 0 dX8_lastLinkage_5 rfl rfl ?_
  obtain ⟨x1, h2, hf⟩ := zz_bind hf
  refine zz_callV1 (As := []) (rest := []) C 47 (mX8_makeGroups (zz_u σ 47 0 (0 : Int32)) x1 h2) dX8_lastLinkage_6 rfl rfl rfl zw_182 zy_X8_makeGroups rfl (by decide) (by decide) (Nat.le_of_ble_eq_true rfl) (Nat.le_of_ble_eq_true rfl) (Nat.le_of_ble_eq_true rfl) rfl ?_
  refine zz_aload_n C 0 dX8_lastLinkage_9 rfl rfl ?_
  refine zf8_last C dX8_lastLinkage_10 zw_180 ?_
  cases hf
  exact zz_iret C dX8_lastLinkage_13 (And.intro rfl rfl) (Nat.le_of_ble_eq_true rfl) (Nat.le_of_ble_eq_true rfl)
theorem dX8_undefined_0 : decode cX8_undefined 0 = .ok (.iconst 0, 1) := by decide +kernel
theorem dX8_undefined_1 : decode cX8_undefined 1 = .ok (.istore_n 1, 1) := by decide +kernel
theorem dX8_undefined_2 : decode cX8_undefined 2 = .ok (.iconst 0, 1) := by decide +kernel
theorem dX8_undefined_3 : decode cX8_undefined 3 = .ok (.istore_n 2, 1) := by decide +kernel
theorem dX8_undefined_4 : decode cX8_undefined 4 = .ok (.iload_n 2, 1) := by decide +kernel
theorem dX8_undefined_5 : decode cX8_undefined 5 = .ok (.bipush 16, 2) := by decide +kernel
theorem dX8_undefined_7 : decode cX8_undefined 7 = .ok (.if_icmp .ge 24, 3) := by decide +kernel
theorem dX8_undefined_10 : decode cX8_undefined 10 = .ok (.aload_n 0, 1) := by decide +kernel
theorem dX8_undefined_11 : decode cX8_undefined 11 = .ok (.getfield 22, 3) := by decide +kernel
theorem dX8_undefined_14 : decode cX8_undefined 14 = .ok (.iload_n 2, 1) := by decide +kernel
theorem dX8_undefined_15 : decode cX8_undefined 15 = .ok (.baload, 1) := by decide +kernel
theorem dX8_undefined_16 : decode cX8_undefined 16 = .ok (.ifCond .ne 9, 3) := by decide +kernel
theorem dX8_undefined_19 : decode cX8_undefined 19 = .ok (.iload_n 1, 1) := by decide +kernel
theorem dX8_undefined_20 : decode cX8_undefined 20 = .ok (.iconst 1, 1) := by decide +kernel
theorem dX8_undefined_21 : decode cX8_undefined 21 = .ok (.iload_n 2, 1) := by decide +kernel
theorem dX8_undefined_22 : decode cX8_undefined 22 = .ok (.ishl, 1) := by decide +kernel
theorem dX8_undefined_23 : decode cX8_undefined 23 = .ok (.ior, 1) := by decide +kernel
theorem dX8_undefined_24 : decode cX8_undefined 24 = .ok (.istore_n 1, 1) := by decide +kernel
theorem dX8_undefined_25 : decode cX8_undefined 25 = .ok (.iinc 2 1, 3) := by decide +kernel
theorem dX8_undefined_28 : decode cX8_undefined 28 = .ok (.goto (-24), 3) := by decide +kernel
theorem dX8_undefined_31 : decode cX8_undefined 31 = .ok (.iload_n 1, 1) := by decide +kernel
theorem dX8_undefined_32 : decode cX8_undefined 32 = .ok (.ireturn, 1) := by decide +kernel
set_option maxHeartbeats 4000000 in
set_option maxRecDepth 100000 in
theorem mX8_undefined_L1 {p : Program} {l : Launch} {e : Env} {R : Room} {s : State} {m : MethodId} {args : Array Value} {below : List Frame} {meth : Method} {c : Code} {Q : State → Prop} {D : va_G} {U : zz_U} {A : Nat → Prop} {cells slots : Nat} {ad : Nat → Nat} {X : va_W} {ρ : zz_St} (C : zz_C p l R s m meth c D U A RX8 cX8_undefined 3 (some .int) [] 0) (hcR : cells ≤ R.cells) (hsR : slots ≤ R.slots) (σ : zz_St) : ∀ (n : Nat) (set_ : Int32) (name_ : Int32) (q : (Int32 × Int32)), fX8_undefined_L1 σ n set_ name_ = some q → (zz_Z p l e R s m args below meth c Q D A 3 cells slots (zz_wm U ad ρ σ X) 31 [(0, .ref (ad 47)), (1, .int q.1), (2, .int q.2)] []) → zz_Z p l e R s m args below meth c Q D A 3 cells slots (zz_wm U ad ρ σ X) 4 [(0, .ref (ad 47)), (1, .int set_), (2, .int name_)] [] := by
  intro n
  induction n with
  | zero => intro set_ name_ q hf; rw [fX8_undefined_L1] at hf; cases hf
  | succ n ih =>
    intro set_ name_ q hf kx
    rw [fX8_undefined_L1] at hf
    refine zz_iload_n C 2 dX8_undefined_4 rfl rfl ?_
    refine zz_bipush (v := (16 : Int32)) C dX8_undefined_5 (by decide) ?_
    refine zz_icmp_ge (tgt := 31) C dX8_undefined_7 (by decide) (fun g1 => ?_) (fun g1 => ?_)
    · rw [if_pos g1] at hf
      cases hf
      exact kx
    · rw [if_neg g1] at hf
      obtain ⟨x2, h3, hf⟩ := zz_bind hf
      refine zz_cut 25 [(0, .ref (ad 47)), (1, .int x2), (2, .int name_)] [] (zz_wm U ad ρ σ X) ?_ (fun J4 => ?_)
      · refine zz_iinc (v := (name_ + (1 : Int32))) C 2 dX8_undefined_25 rfl (by rfl) (by decide) (lv' := [(2, .int (name_ + (1 : Int32))), (0, .ref (ad 47)), (1, .int x2)]) rfl ?_
        refine zz_goto (tgt := 4) C dX8_undefined_28 (by decide) ?_
        refine zz_sub [1, 2, 0] rfl ?_
        exact ih x2 (name_ + (1 : Int32)) _ hf kx
      refine zz_aload_n C 0 dX8_undefined_10 rfl rfl ?_
      refine zf8_areDefined C dX8_undefined_11 zw_158 ?_
      refine zz_iload_n C 2 dX8_undefined_14 rfl rfl ?_
      obtain ⟨x5, h6, h3⟩ := zz_bind h3
      refine zl_52 C dX8_undefined_15 h6 ?_
      refine zz_if_ne (tgt := 25) C dX8_undefined_16 (by decide) (fun g7 => ?_) (fun g7 => ?_)
      · rw [if_neg g7] at h3
        cases h3
        exact J4
      · rw [if_pos g7] at h3
        refine zz_iload_n C 1 dX8_undefined_19 rfl rfl ?_
        refine zz_iconst (v := (1 : Int32)) C dX8_undefined_20 (by decide) ?_
        refine zz_iload_n C 2 dX8_undefined_21 rfl rfl ?_
        refine zz_ishl C dX8_undefined_22 ?_
        refine zz_ior C dX8_undefined_23 ?_
        obtain ⟨x8, h9, h3⟩ := zz_bind h3
        refine zz_topi (Option.some.inj h9) ?_
        refine zz_istore_n C dX8_undefined_24 rfl (by decide) (lv' := [(1, .int x8), (0, .ref (ad 47)), (2, .int name_)]) rfl ?_
        refine zz_sub [1, 0, 2] rfl ?_
        cases h3
        exact J4
set_option maxHeartbeats 4000000 in
set_option maxRecDepth 100000 in
theorem mX8_undefined {D : va_G} {U : zz_U} {ad : Nat → Nat} {X : va_W} {ρ : zz_St} (σ : zz_St) (r : Int32) (hf : fX8_undefined σ = some r) : zz_Met yX8_undefined (.code yX8_undefined cX8_undefined 3 (some .int)) 0 0 0 D U [.ref (ad 47)] (zz_wm U ad ρ σ X) (zz_ok (some (.int r)) (zz_wm U ad ρ σ X)) zz_noth := by
  unfold fX8_undefined at hf
  refine zz_method RX8 rfl (by decide +kernel) (Nat.le_of_ble_eq_true rfl) ?_
  intro p l e s m args below meth c A _ C
  refine zz_lvs (lv1 := [(0, .ref (ad 47))]) rfl ?_
  refine zz_iconst (v := (0 : Int32)) C dX8_undefined_0 (by decide) ?_
  refine zz_istore_n C dX8_undefined_1 rfl (by decide) (lv' := [(1, .int (0 : Int32)), (0, .ref (ad 47))]) rfl ?_
  refine zz_iconst (v := (0 : Int32)) C dX8_undefined_2 (by decide) ?_
  refine zz_istore_n C dX8_undefined_3 rfl (by decide) (lv' := [(2, .int (0 : Int32)), (1, .int (0 : Int32)), (0, .ref (ad 47))]) rfl ?_
  obtain ⟨q10, h11, hf⟩ := zz_bind hf
  refine zz_sub [2, 1, 0] rfl ?_
  refine mX8_undefined_L1 C (Nat.le_of_ble_eq_true rfl) (Nat.le_of_ble_eq_true rfl) σ 1000 (0 : Int32) (0 : Int32) q10 h11 ?_
  refine zz_iload_n C 1 dX8_undefined_31 rfl rfl ?_
  cases hf
  exact zz_iret C dX8_undefined_32 (And.intro rfl rfl) (Nat.le_of_ble_eq_true rfl) (Nat.le_of_ble_eq_true rfl)
theorem dX8_needsOf_0 : decode cX8_needsOf 0 = .ok (.aload_n 0, 1) := by decide +kernel
theorem dX8_needsOf_1 : decode cX8_needsOf 1 = .ok (.iload_n 2, 1) := by decide +kernel
theorem dX8_needsOf_2 : decode cX8_needsOf 2 = .ok (.iconst 0, 1) := by decide +kernel
theorem dX8_needsOf_3 : decode cX8_needsOf 3 = .ok (.invokevirtual 85, 3) := by decide +kernel
theorem dX8_needsOf_6 : decode cX8_needsOf 6 = .ok (.aload_n 0, 1) := by decide +kernel
theorem dX8_needsOf_7 : decode cX8_needsOf 7 = .ok (.iload_n 1, 1) := by decide +kernel
theorem dX8_needsOf_8 : decode cX8_needsOf 8 = .ok (.iconst 2, 1) := by decide +kernel
theorem dX8_needsOf_9 : decode cX8_needsOf 9 = .ok (.invokevirtual 85, 3) := by decide +kernel
theorem dX8_needsOf_12 : decode cX8_needsOf 12 = .ok (.iand, 1) := by decide +kernel
theorem dX8_needsOf_13 : decode cX8_needsOf 13 = .ok (.aload_n 0, 1) := by decide +kernel
theorem dX8_needsOf_14 : decode cX8_needsOf 14 = .ok (.invokevirtual 163, 3) := by decide +kernel
theorem dX8_needsOf_17 : decode cX8_needsOf 17 = .ok (.iand, 1) := by decide +kernel
theorem dX8_needsOf_18 : decode cX8_needsOf 18 = .ok (.istore_n 3, 1) := by decide +kernel
theorem dX8_needsOf_19 : decode cX8_needsOf 19 = .ok (.iload_n 3, 1) := by decide +kernel
theorem dX8_needsOf_20 : decode cX8_needsOf 20 = .ok (.aload_n 0, 1) := by decide +kernel
theorem dX8_needsOf_21 : decode cX8_needsOf 21 = .ok (.iload_n 2, 1) := by decide +kernel
theorem dX8_needsOf_22 : decode cX8_needsOf 22 = .ok (.iconst 3, 1) := by decide +kernel
theorem dX8_needsOf_23 : decode cX8_needsOf 23 = .ok (.invokevirtual 85, 3) := by decide +kernel
theorem dX8_needsOf_26 : decode cX8_needsOf 26 = .ok (.aload_n 0, 1) := by decide +kernel
theorem dX8_needsOf_27 : decode cX8_needsOf 27 = .ok (.iload_n 1, 1) := by decide +kernel
theorem dX8_needsOf_28 : decode cX8_needsOf 28 = .ok (.iconst 1, 1) := by decide +kernel
theorem dX8_needsOf_29 : decode cX8_needsOf 29 = .ok (.invokevirtual 85, 3) := by decide +kernel
theorem dX8_needsOf_32 : decode cX8_needsOf 32 = .ok (.iand, 1) := by decide +kernel
theorem dX8_needsOf_33 : decode cX8_needsOf 33 = .ok (.ior, 1) := by decide +kernel
theorem dX8_needsOf_34 : decode cX8_needsOf 34 = .ok (.aload_n 0, 1) := by decide +kernel
theorem dX8_needsOf_35 : decode cX8_needsOf 35 = .ok (.iload_n 2, 1) := by decide +kernel
theorem dX8_needsOf_36 : decode cX8_needsOf 36 = .ok (.iconst 1, 1) := by decide +kernel
theorem dX8_needsOf_37 : decode cX8_needsOf 37 = .ok (.invokevirtual 85, 3) := by decide +kernel
theorem dX8_needsOf_40 : decode cX8_needsOf 40 = .ok (.aload_n 0, 1) := by decide +kernel
theorem dX8_needsOf_41 : decode cX8_needsOf 41 = .ok (.iload_n 1, 1) := by decide +kernel
theorem dX8_needsOf_42 : decode cX8_needsOf 42 = .ok (.iconst 0, 1) := by decide +kernel
theorem dX8_needsOf_43 : decode cX8_needsOf 43 = .ok (.invokevirtual 85, 3) := by decide +kernel
theorem dX8_needsOf_46 : decode cX8_needsOf 46 = .ok (.iand, 1) := by decide +kernel
theorem dX8_needsOf_47 : decode cX8_needsOf 47 = .ok (.ior, 1) := by decide +kernel
theorem dX8_needsOf_48 : decode cX8_needsOf 48 = .ok (.ifCond .eq 7, 3) := by decide +kernel
theorem dX8_needsOf_51 : decode cX8_needsOf 51 = .ok (.iconst 1, 1) := by decide +kernel
theorem dX8_needsOf_52 : decode cX8_needsOf 52 = .ok (.goto 4, 3) := by decide +kernel
theorem dX8_needsOf_55 : decode cX8_needsOf 55 = .ok (.iconst 0, 1) := by decide +kernel
theorem dX8_needsOf_56 : decode cX8_needsOf 56 = .ok (.ireturn, 1) := by decide +kernel
set_option maxHeartbeats 4000000 in
set_option maxRecDepth 100000 in
theorem mX8_needsOf {D : va_G} {U : zz_U} {ad : Nat → Nat} {X : va_W} {ρ : zz_St} (σ : zz_St) (a_ : Int32) (b_ : Int32) (r : Int32) (hf : fX8_needsOf σ a_ b_ = some r) : zz_Met yX8_needsOf (.code yX8_needsOf cX8_needsOf 4 (some .boolean)) 1 0 0 D U [.ref (ad 47), .int a_, .int b_] (zz_wm U ad ρ σ X) (zz_ok (some (.int r)) (zz_wm U ad ρ σ X)) zz_noth := by
  unfold fX8_needsOf at hf
  refine zz_method RX8 rfl (by decide +kernel) (Nat.le_of_ble_eq_true rfl) ?_
  intro p l e s m args below meth c A _ C
  refine zz_lvs (lv1 := [(0, .ref (ad 47)), (1, .int a_), (2, .int b_)]) rfl ?_
  refine zz_aload_n C 0 dX8_needsOf_0 rfl rfl ?_
  refine zz_iload_n C 2 dX8_needsOf_1 rfl rfl ?_
  refine zz_iconst (v := (0 : Int32)) C dX8_needsOf_2 (by decide) ?_
  obtain ⟨x1, h2, hf⟩ := zz_bind hf
  refine zz_callV1 (As := [.int b_, .int (0 : Int32)]) (rest := []) C 47 (mX8_namesOf σ b_ (0 : Int32) x1 h2) dX8_needsOf_3 rfl rfl rfl zw_156 zy_X8_namesOf rfl (by decide) (by decide) (Nat.le_of_ble_eq_true rfl) (Nat.le_of_ble_eq_true rfl) (Nat.le_of_ble_eq_true rfl) rfl ?_
  refine zz_aload_n C 0 dX8_needsOf_6 rfl rfl ?_
  refine zz_iload_n C 1 dX8_needsOf_7 rfl rfl ?_
  refine zz_iconst (v := (2 : Int32)) C dX8_needsOf_8 (by decide) ?_
  obtain ⟨x3, h4, hf⟩ := zz_bind hf
  refine zz_callV1 (As := [.int a_, .int (2 : Int32)]) (rest := [.int x1]) C 47 (mX8_namesOf σ a_ (2 : Int32) x3 h4) dX8_needsOf_9 rfl rfl rfl zw_156 zy_X8_namesOf rfl (by decide) (by decide) (Nat.le_of_ble_eq_true rfl) (Nat.le_of_ble_eq_true rfl) (Nat.le_of_ble_eq_true rfl) rfl ?_
  refine zz_iand C dX8_needsOf_12 ?_
  refine zz_aload_n C 0 dX8_needsOf_13 rfl rfl ?_
  obtain ⟨x5, h6, hf⟩ := zz_bind hf
  refine zz_callV1 (As := []) (rest := [.int (x1 &&& x3)]) C 47 (mX8_undefined σ x5 h6) dX8_needsOf_14 rfl rfl rfl zw_186 zy_X8_undefined rfl (by decide) (by decide) (Nat.le_of_ble_eq_true rfl) (Nat.le_of_ble_eq_true rfl) (Nat.le_of_ble_eq_true rfl) rfl ?_
  refine zz_iand C dX8_needsOf_17 ?_
  obtain ⟨x7, h8, hf⟩ := zz_bind hf
  refine zz_topi (Option.some.inj h8) ?_
  refine zz_istore_n C dX8_needsOf_18 rfl (by decide) (lv' := [(3, .int x7), (0, .ref (ad 47)), (1, .int a_), (2, .int b_)]) rfl ?_
  obtain ⟨b9, h10, hf⟩ := zz_bind hf
  refine zz_cut 56 [(3, .int x7), (0, .ref (ad 47)), (1, .int a_), (2, .int b_)] [.int (zz_bi b9)] (zz_wm U ad ρ σ X) ?_ (fun J11 => ?_)
  · cases hf
    exact zz_zret C dX8_needsOf_56 (zz_bi01 _) (And.intro rfl rfl) (Nat.le_of_ble_eq_true rfl) (Nat.le_of_ble_eq_true rfl)
  refine zz_iload_n C 0 dX8_needsOf_19 rfl rfl ?_
  refine zz_aload_n C 1 dX8_needsOf_20 rfl rfl ?_
  refine zz_iload_n C 3 dX8_needsOf_21 rfl rfl ?_
  refine zz_iconst (v := (3 : Int32)) C dX8_needsOf_22 (by decide) ?_
  obtain ⟨x12, h13, h10⟩ := zz_bind h10
  refine zz_callV1 (As := [.int b_, .int (3 : Int32)]) (rest := [.int x7]) C 47 (mX8_namesOf σ b_ (3 : Int32) x12 h13) dX8_needsOf_23 rfl rfl rfl zw_156 zy_X8_namesOf rfl (by decide) (by decide) (Nat.le_of_ble_eq_true rfl) (Nat.le_of_ble_eq_true rfl) (Nat.le_of_ble_eq_true rfl) rfl ?_
  refine zz_aload_n C 1 dX8_needsOf_26 rfl rfl ?_
  refine zz_iload_n C 2 dX8_needsOf_27 rfl rfl ?_
  refine zz_iconst (v := (1 : Int32)) C dX8_needsOf_28 (by decide) ?_
  obtain ⟨x14, h15, h10⟩ := zz_bind h10
  refine zz_callV1 (As := [.int a_, .int (1 : Int32)]) (rest := [.int x12, .int x7]) C 47 (mX8_namesOf σ a_ (1 : Int32) x14 h15) dX8_needsOf_29 rfl rfl rfl zw_156 zy_X8_namesOf rfl (by decide) (by decide) (Nat.le_of_ble_eq_true rfl) (Nat.le_of_ble_eq_true rfl) (Nat.le_of_ble_eq_true rfl) rfl ?_
  refine zz_iand C dX8_needsOf_32 ?_
  refine zz_ior C dX8_needsOf_33 ?_
  refine zz_aload_n C 1 dX8_needsOf_34 rfl rfl ?_
  refine zz_iload_n C 3 dX8_needsOf_35 rfl rfl ?_
  refine zz_iconst (v := (1 : Int32)) C dX8_needsOf_36 (by decide) ?_
  obtain ⟨x16, h17, h10⟩ := zz_bind h10
  refine zz_callV1 (As := [.int b_, .int (1 : Int32)]) (rest := [.int (x7 ||| (x12 &&& x14))]) C 47 (mX8_namesOf σ b_ (1 : Int32) x16 h17) dX8_needsOf_37 rfl rfl rfl zw_156 zy_X8_namesOf rfl (by decide) (by decide) (Nat.le_of_ble_eq_true rfl) (Nat.le_of_ble_eq_true rfl) (Nat.le_of_ble_eq_true rfl) rfl ?_
  refine zz_aload_n C 1 dX8_needsOf_40 rfl rfl ?_
  refine zz_iload_n C 2 dX8_needsOf_41 rfl rfl ?_
  refine zz_iconst (v := (0 : Int32)) C dX8_needsOf_42 (by decide) ?_
  obtain ⟨x18, h19, h10⟩ := zz_bind h10
  refine zz_callV1 (As := [.int a_, .int (0 : Int32)]) (rest := [.int x16, .int (x7 ||| (x12 &&& x14))]) C 47 (mX8_namesOf σ a_ (0 : Int32) x18 h19) dX8_needsOf_43 rfl rfl rfl zw_156 zy_X8_namesOf rfl (by decide) (by decide) (Nat.le_of_ble_eq_true rfl) (Nat.le_of_ble_eq_true rfl) (Nat.le_of_ble_eq_true rfl) rfl ?_
  refine zz_iand C dX8_needsOf_46 ?_
  refine zz_ior C dX8_needsOf_47 ?_
  refine zz_if_eq (tgt := 55) C dX8_needsOf_48 (by decide) (fun g20 => ?_) (fun g20 => ?_)
  · rw [if_pos g20] at h10
    refine zz_iconst (v := 0) C dX8_needsOf_55 (by decide) ?_
    cases h10
    exact J11
  · rw [if_neg g20] at h10
    refine zz_iconst (v := 1) C dX8_needsOf_51 (by decide) ?_
    refine zz_goto (tgt := 56) C dX8_needsOf_52 (by decide) ?_
    cases h10
    exact J11
theorem dX8_needs_0 : decode cX8_needs 0 = .ok (.aload_n 0, 1) := by decide +kernel
theorem dX8_needs_1 : decode cX8_needs 1 = .ok (.iload_n 1, 1) := by decide +kernel
theorem dX8_needs_2 : decode cX8_needs 2 = .ok (.iload_n 2, 1) := by decide +kernel
theorem dX8_needs_3 : decode cX8_needs 3 = .ok (.invokevirtual 110, 3) := by decide +kernel
theorem dX8_needs_6 : decode cX8_needs 6 = .ok (.ifCond .ne 5, 3) := by decide +kernel
theorem dX8_needs_9 : decode cX8_needs 9 = .ok (.iconst 0, 1) := by decide +kernel
theorem dX8_needs_10 : decode cX8_needs 10 = .ok (.ireturn, 1) := by decide +kernel
theorem dX8_needs_11 : decode cX8_needs 11 = .ok (.aload_n 0, 1) := by decide +kernel
theorem dX8_needs_12 : decode cX8_needs 12 = .ok (.iload_n 1, 1) := by decide +kernel
theorem dX8_needs_13 : decode cX8_needs 13 = .ok (.iload_n 2, 1) := by decide +kernel
theorem dX8_needs_14 : decode cX8_needs 14 = .ok (.if_icmp .ne 7, 3) := by decide +kernel
theorem dX8_needs_17 : decode cX8_needs 17 = .ok (.iconst 2, 1) := by decide +kernel
theorem dX8_needs_18 : decode cX8_needs 18 = .ok (.goto 4, 3) := by decide +kernel
theorem dX8_needs_21 : decode cX8_needs 21 = .ok (.iconst 0, 1) := by decide +kernel
theorem dX8_needs_22 : decode cX8_needs 22 = .ok (.putfield 63, 3) := by decide +kernel
theorem dX8_needs_25 : decode cX8_needs 25 = .ok (.aload_n 0, 1) := by decide +kernel
theorem dX8_needs_26 : decode cX8_needs 26 = .ok (.getfield 63, 3) := by decide +kernel
theorem dX8_needs_29 : decode cX8_needs 29 = .ok (.ifCond .ne 16, 3) := by decide +kernel
theorem dX8_needs_32 : decode cX8_needs 32 = .ok (.aload_n 0, 1) := by decide +kernel
theorem dX8_needs_33 : decode cX8_needs 33 = .ok (.iload_n 1, 1) := by decide +kernel
theorem dX8_needs_34 : decode cX8_needs 34 = .ok (.iload_n 2, 1) := by decide +kernel
theorem dX8_needs_35 : decode cX8_needs 35 = .ok (.invokevirtual 167, 3) := by decide +kernel
theorem dX8_needs_38 : decode cX8_needs 38 = .ok (.ifCond .eq 7, 3) := by decide +kernel
theorem dX8_needs_41 : decode cX8_needs 41 = .ok (.iconst 1, 1) := by decide +kernel
theorem dX8_needs_42 : decode cX8_needs 42 = .ok (.goto 4, 3) := by decide +kernel
theorem dX8_needs_45 : decode cX8_needs 45 = .ok (.iconst 0, 1) := by decide +kernel
theorem dX8_needs_46 : decode cX8_needs 46 = .ok (.ireturn, 1) := by decide +kernel
set_option maxHeartbeats 4000000 in
set_option maxRecDepth 100000 in
theorem mX8_needs {D : va_G} {U : zz_U} {ad : Nat → Nat} {X : va_W} {ρ : zz_St} (σ : zz_St) (a_ : Int32) (b_ : Int32) (r : (Int32 × zz_St)) (hf : fX8_needs σ a_ b_ = some r) : zz_Met yX8_needs (.code yX8_needs cX8_needs 3 (some .boolean)) 3 0 0 D U [.ref (ad 47), .int a_, .int b_] (zz_wm U ad ρ σ X) (zz_ok (some (.int r.1)) (zz_wm U ad ρ r.2 X)) zz_noth := by
  unfold fX8_needs at hf
  refine zz_method RX8 rfl (by decide +kernel) (Nat.le_of_ble_eq_true rfl) ?_
  intro p l e s m args below meth c A _ C
  refine zz_lvs (lv1 := [(0, .ref (ad 47)), (1, .int a_), (2, .int b_)]) rfl ?_
  refine zz_aload_n C 0 dX8_needs_0 rfl rfl ?_
  refine zz_iload_n C 1 dX8_needs_1 rfl rfl ?_
  refine zz_iload_n C 2 dX8_needs_2 rfl rfl ?_
  obtain ⟨x1, h2, hf⟩ := zz_bind hf
  refine zz_callV1 (As := [.int a_, .int b_]) (rest := []) C 47 (mX8_arePieces σ a_ b_ x1 h2) dX8_needs_3 rfl rfl rfl zw_166 zy_X8_arePieces rfl (by decide) (by decide) (Nat.le_of_ble_eq_true rfl) (Nat.le_of_ble_eq_true rfl) (Nat.le_of_ble_eq_true rfl) rfl ?_
  refine zz_if_ne (tgt := 11) C dX8_needs_6 (by decide) (fun g3 => ?_) (fun g3 => ?_)
  · rw [if_neg g3] at hf
    refine zz_aload_n C 0 dX8_needs_11 rfl rfl ?_
    obtain ⟨x4, h5, hf⟩ := zz_bind hf
    refine zz_cut 22 [(0, .ref (ad 47)), (1, .int a_), (2, .int b_)] [.int x4, .ref (ad 47)] (zz_wm U ad ρ x1.2 X) ?_ (fun J6 => ?_)
    · refine zp8_thrown C dX8_needs_22 zw_145 ?_
      obtain ⟨b8, h9, hf⟩ := zz_bind hf
      refine zz_cut 46 [(0, .ref (ad 47)), (1, .int a_), (2, .int b_)] [.int (zz_bi b8)] (zz_wm U ad ρ (zz_u x1.2 47 0 x4) X) ?_ (fun J10 => ?_)
      · cases hf
        exact zz_zret C dX8_needs_46 (zz_bi01 _) (And.intro rfl rfl) (Nat.le_of_ble_eq_true rfl) (Nat.le_of_ble_eq_true rfl)
      refine zz_aload_n C 0 dX8_needs_25 rfl rfl ?_
      refine zf8_thrown C dX8_needs_26 zw_145 ?_
      refine zz_if_ne (tgt := 45) C dX8_needs_29 (by decide) (fun g11 => ?_) (fun g11 => ?_)
      · rw [if_neg g11] at h9
        refine zz_iconst (v := 0) C dX8_needs_45 (by decide) ?_
        cases h9
        exact J10
      · rw [if_pos g11] at h9
        refine zz_aload_n C 0 dX8_needs_32 rfl rfl ?_
        refine zz_iload_n C 1 dX8_needs_33 rfl rfl ?_
        refine zz_iload_n C 2 dX8_needs_34 rfl rfl ?_
        obtain ⟨x12, h13, h9⟩ := zz_bind h9
        refine zz_callV1 (As := [.int a_, .int b_]) (rest := []) C 47 (mX8_needsOf (zz_u x1.2 47 0 x4) a_ b_ x12 h13) dX8_needs_35 rfl rfl rfl zw_187 zy_X8_needsOf rfl (by decide) (by decide) (Nat.le_of_ble_eq_true rfl) (Nat.le_of_ble_eq_true rfl) (Nat.le_of_ble_eq_true rfl) rfl ?_
        refine zz_if_eq (tgt := 45) C dX8_needs_38 (by decide) (fun g14 => ?_) (fun g14 => ?_)
        · rw [if_pos g14] at h9
          refine zz_iconst (v := 0) C dX8_needs_45 (by decide) ?_
          cases h9
          exact J10
        · rw [if_neg g14] at h9
          refine zz_iconst (v := 1) C dX8_needs_41 (by decide) ?_
          refine zz_goto (tgt := 46) C dX8_needs_42 (by decide) ?_
          cases h9
          exact J10
    refine zz_iload_n C 1 dX8_needs_12 rfl rfl ?_
    refine zz_iload_n C 2 dX8_needs_13 rfl rfl ?_
    refine zz_icmp_ne (tgt := 21) C dX8_needs_14 (by decide) (fun g7 => ?_) (fun g7 => ?_)
    · rw [if_neg g7] at h5
      refine zz_iconst (v := (0 : Int32)) C dX8_needs_21 (by decide) ?_
      cases h5
      exact J6
    · rw [if_pos g7] at h5
      refine zz_iconst (v := (2 : Int32)) C dX8_needs_17 (by decide) ?_
      refine zz_goto (tgt := 22) C dX8_needs_18 (by decide) ?_
      cases h5
      exact J6
  · rw [if_pos g3] at hf
    refine zz_iconst (v := (0 : Int32)) C dX8_needs_9 (by decide) ?_
    cases hf
    exact zz_zret C dX8_needs_10 (Or.inl rfl) (And.intro rfl rfl) (Nat.le_of_ble_eq_true rfl) (Nat.le_of_ble_eq_true rfl)
theorem dX8_has_0 : decode cX8_has 0 = .ok (.iload_n 0, 1) := by decide +kernel
theorem dX8_has_1 : decode cX8_has 1 = .ok (.iload_n 1, 1) := by decide +kernel
theorem dX8_has_2 : decode cX8_has 2 = .ok (.ishr, 1) := by decide +kernel
theorem dX8_has_3 : decode cX8_has 3 = .ok (.iconst 1, 1) := by decide +kernel
theorem dX8_has_4 : decode cX8_has 4 = .ok (.iand, 1) := by decide +kernel
theorem dX8_has_5 : decode cX8_has 5 = .ok (.iconst 1, 1) := by decide +kernel
theorem dX8_has_6 : decode cX8_has 6 = .ok (.if_icmp .ne 7, 3) := by decide +kernel
theorem dX8_has_9 : decode cX8_has 9 = .ok (.iconst 1, 1) := by decide +kernel
theorem dX8_has_10 : decode cX8_has 10 = .ok (.goto 4, 3) := by decide +kernel
theorem dX8_has_13 : decode cX8_has 13 = .ok (.iconst 0, 1) := by decide +kernel
theorem dX8_has_14 : decode cX8_has 14 = .ok (.ireturn, 1) := by decide +kernel
set_option maxHeartbeats 4000000 in
set_option maxRecDepth 100000 in
theorem mX8_has {D : va_G} {U : zz_U} {ad : Nat → Nat} {X : va_W} {ρ : zz_St} (σ : zz_St) (set_ : Int32) (member_ : Int32) (r : Int32) (hf : fX8_has σ set_ member_ = some r) : zz_Met yX8_has (.code yX8_has cX8_has 2 (some .boolean)) 0 0 0 D U [.int set_, .int member_] (zz_wm U ad ρ σ X) (zz_ok (some (.int r)) (zz_wm U ad ρ σ X)) zz_noth := by
  unfold fX8_has at hf
  refine zz_method RX8 rfl (by decide +kernel) (Nat.le_of_ble_eq_true rfl) ?_
  intro p l e s m args below meth c A _ C
  refine zz_lvs (lv1 := [(0, .int set_), (1, .int member_)]) rfl ?_
  obtain ⟨b1, h2, hf⟩ := zz_bind hf
  refine zz_cut 14 [(0, .int set_), (1, .int member_)] [.int (zz_bi b1)] (zz_wm U ad ρ σ X) ?_ (fun J3 => ?_)
  · cases hf
    exact zz_zret C dX8_has_14 (zz_bi01 _) (And.intro rfl rfl) (Nat.le_of_ble_eq_true rfl) (Nat.le_of_ble_eq_true rfl)
  refine zz_iload_n C 0 dX8_has_0 rfl rfl ?_
  refine zz_iload_n C 1 dX8_has_1 rfl rfl ?_
  refine zz_ishr C dX8_has_2 ?_
  refine zz_iconst (v := (1 : Int32)) C dX8_has_3 (by decide) ?_
  refine zz_iand C dX8_has_4 ?_
  refine zz_iconst (v := (1 : Int32)) C dX8_has_5 (by decide) ?_
  refine zz_icmp_ne (tgt := 13) C dX8_has_6 (by decide) (fun g4 => ?_) (fun g4 => ?_)
  · rw [if_neg g4] at h2
    refine zz_iconst (v := 0) C dX8_has_13 (by decide) ?_
    cases h2
    exact J3
  · rw [if_pos g4] at h2
    refine zz_iconst (v := 1) C dX8_has_9 (by decide) ?_
    refine zz_goto (tgt := 14) C dX8_has_10 (by decide) ?_
    cases h2
    exact J3
set_option maxHeartbeats 4000000 in
set_option maxRecDepth 100000 in
theorem mX8_setOf_a57_L1 {p : Program} {l : Launch} {e : Env} {R : Room} {s : State} {m : MethodId} {args : Array Value} {below : List Frame} {meth : Method} {c : Code} {Q : State → Prop} {D : va_G} {U : zz_U} {A : Nat → Prop} {cells slots : Nat} {ad : Nat → Nat} {X : va_W} {ρ : zz_St} (C : zz_C p l R s m meth c D U A RX8 cX8_setOf 5 (some .int) [] 0) (hcR : cells ≤ R.cells) (hsR : slots ≤ R.slots) (σ : zz_St) (head_ : Int32) : ∀ (n : Nat) (set_ : Int32) (p_ : Int32) (q : (Int32 × Int32)), fX8_setOf_a57_L1 σ head_ n set_ p_ = some q → (zz_Z p l e R s m args below meth c Q D A 5 cells slots (zz_wm U ad ρ σ X) 35 [(0, .ref (ad 47)), (1, .ref (ad 57)), (2, .int head_), (3, .int q.1), (4, .int q.2)] []) → zz_Z p l e R s m args below meth c Q D A 5 cells slots (zz_wm U ad ρ σ X) 5 [(0, .ref (ad 47)), (1, .ref (ad 57)), (2, .int head_), (3, .int set_), (4, .int p_)] [] := by
  intro n
  induction n with
  | zero => intro set_ p_ q hf; rw [fX8_setOf_a57_L1] at hf; cases hf
  | succ n ih =>
    intro set_ p_ q hf kx
    rw [fX8_setOf_a57_L1] at hf
    refine zz_iload C 4 dX8_setOf_5 rfl ?_
    refine zz_aload_n C 0 dX8_setOf_7 rfl rfl ?_
    refine zf8_pieces C dX8_setOf_8 zw_148 ?_
    refine zz_icmp_ge (tgt := 35) C dX8_setOf_11 (by decide) (fun g1 => ?_) (fun g1 => ?_)
    · rw [if_pos g1] at hf
      cases hf
      exact kx
    · rw [if_neg g1] at hf
      obtain ⟨x2, h3, hf⟩ := zz_bind hf
      refine zz_cut 29 [(0, .ref (ad 47)), (1, .ref (ad 57)), (2, .int head_), (3, .int x2), (4, .int p_)] [] (zz_wm U ad ρ σ X) ?_ (fun J4 => ?_)
      · refine zz_iinc (v := (p_ + (1 : Int32))) C 4 dX8_setOf_29 rfl (by rfl) (by decide) (lv' := [(4, .int (p_ + (1 : Int32))), (0, .ref (ad 47)), (1, .ref (ad 57)), (2, .int head_), (3, .int x2)]) rfl ?_
        refine zz_goto (tgt := 5) C dX8_setOf_32 (by decide) ?_
        refine zz_sub [1, 2, 3, 4, 0] rfl ?_
        exact ih x2 (p_ + (1 : Int32)) _ hf kx
      refine zz_aload_n C 1 dX8_setOf_14 rfl rfl ?_
      refine zz_iload C 4 dX8_setOf_15 rfl ?_
      obtain ⟨x5, h6, h3⟩ := zz_bind h3
      refine zl_57 C dX8_setOf_17 h6 ?_
      refine zz_iload_n C 2 dX8_setOf_18 rfl rfl ?_
      refine zz_icmp_ne (tgt := 29) C dX8_setOf_19 (by decide) (fun g7 => ?_) (fun g7 => ?_)
      · rw [if_neg g7] at h3
        cases h3
        exact J4
      · rw [if_pos g7] at h3
        refine zz_iload_n C 3 dX8_setOf_22 rfl rfl ?_
        refine zz_iconst (v := (1 : Int32)) C dX8_setOf_23 (by decide) ?_
        refine zz_iload C 4 dX8_setOf_24 rfl ?_
        refine zz_ishl C dX8_setOf_26 ?_
        refine zz_ior C dX8_setOf_27 ?_
        obtain ⟨x8, h9, h3⟩ := zz_bind h3
        refine zz_topi (Option.some.inj h9) ?_
        refine zz_istore_n C dX8_setOf_28 rfl (by decide) (lv' := [(3, .int x8), (0, .ref (ad 47)), (1, .ref (ad 57)), (2, .int head_), (4, .int p_)]) rfl ?_
        refine zz_sub [1, 2, 3, 0, 4] rfl ?_
        cases h3
        exact J4
set_option maxHeartbeats 4000000 in
set_option maxRecDepth 100000 in
theorem mX8_setOf_a57 {D : va_G} {U : zz_U} {ad : Nat → Nat} {X : va_W} {ρ : zz_St} (σ : zz_St) (head_ : Int32) (r : Int32) (hf : fX8_setOf_a57 σ head_ = some r) : zz_Met yX8_setOf (.code yX8_setOf cX8_setOf 5 (some .int)) 0 0 0 D U [.ref (ad 47), .ref (ad 57), .int head_] (zz_wm U ad ρ σ X) (zz_ok (some (.int r)) (zz_wm U ad ρ σ X)) zz_noth := by
  unfold fX8_setOf_a57 at hf
  refine zz_method RX8 rfl (by decide +kernel) (Nat.le_of_ble_eq_true rfl) ?_
  intro p l e s m args below meth c A _ C
  refine zz_lvs (lv1 := [(0, .ref (ad 47)), (1, .ref (ad 57)), (2, .int head_)]) rfl ?_
  refine zz_iconst (v := (0 : Int32)) C dX8_setOf_0 (by decide) ?_
  refine zz_istore_n C dX8_setOf_1 rfl (by decide) (lv' := [(3, .int (0 : Int32)), (0, .ref (ad 47)), (1, .ref (ad 57)), (2, .int head_)]) rfl ?_
  refine zz_iconst (v := (0 : Int32)) C dX8_setOf_2 (by decide) ?_
  refine zz_istore C dX8_setOf_3 (by decide) (lv' := [(4, .int (0 : Int32)), (3, .int (0 : Int32)), (0, .ref (ad 47)), (1, .ref (ad 57)), (2, .int head_)]) rfl ?_
  obtain ⟨q10, h11, hf⟩ := zz_bind hf
  refine zz_sub [2, 3, 4, 1, 0] rfl ?_
  refine mX8_setOf_a57_L1 C (Nat.le_of_ble_eq_true rfl) (Nat.le_of_ble_eq_true rfl) σ head_ 1000 (0 : Int32) (0 : Int32) q10 h11 ?_
  refine zz_iload_n C 3 dX8_setOf_35 rfl rfl ?_
  cases hf
  exact zz_iret C dX8_setOf_36 (And.intro rfl rfl) (Nat.le_of_ble_eq_true rfl) (Nat.le_of_ble_eq_true rfl)
