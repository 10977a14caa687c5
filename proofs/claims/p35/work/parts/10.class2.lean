theorem dX3_joinWhatMust_0 : decode cX3_joinWhatMust 0 = .ok (.aload_n 0, 1) := by decide +kernel
theorem dX3_joinWhatMust_1 : decode cX3_joinWhatMust 1 = .ok (.iconst 0, 1) := by decide +kernel
theorem dX3_joinWhatMust_2 : decode cX3_joinWhatMust 2 = .ok (.putfield 49, 3) := by decide +kernel
theorem dX3_joinWhatMust_5 : decode cX3_joinWhatMust 5 = .ok (.iconst 0, 1) := by decide +kernel
theorem dX3_joinWhatMust_6 : decode cX3_joinWhatMust 6 = .ok (.istore_n 3, 1) := by decide +kernel
theorem dX3_joinWhatMust_7 : decode cX3_joinWhatMust 7 = .ok (.iload_n 3, 1) := by decide +kernel
theorem dX3_joinWhatMust_8 : decode cX3_joinWhatMust 8 = .ok (.iload_n 1, 1) := by decide +kernel
theorem dX3_joinWhatMust_9 : decode cX3_joinWhatMust 9 = .ok (.if_icmp .ge 66, 3) := by decide +kernel
theorem dX3_joinWhatMust_12 : decode cX3_joinWhatMust 12 = .ok (.iload_n 3, 1) := by decide +kernel
theorem dX3_joinWhatMust_13 : decode cX3_joinWhatMust 13 = .ok (.bipush 14, 2) := by decide +kernel
theorem dX3_joinWhatMust_15 : decode cX3_joinWhatMust 15 = .ok (.if_icmp .ge 60, 3) := by decide +kernel
theorem dX3_joinWhatMust_18 : decode cX3_joinWhatMust 18 = .ok (.aload_n 2, 1) := by decide +kernel
theorem dX3_joinWhatMust_19 : decode cX3_joinWhatMust 19 = .ok (.iload_n 3, 1) := by decide +kernel
theorem dX3_joinWhatMust_20 : decode cX3_joinWhatMust 20 = .ok (.invokevirtual 50, 3) := by decide +kernel
theorem dX3_joinWhatMust_23 : decode cX3_joinWhatMust 23 = .ok (.istore 4, 2) := by decide +kernel
theorem dX3_joinWhatMust_25 : decode cX3_joinWhatMust 25 = .ok (.iload 4, 2) := by decide +kernel
theorem dX3_joinWhatMust_27 : decode cX3_joinWhatMust 27 = .ok (.iconst 1, 1) := by decide +kernel
theorem dX3_joinWhatMust_28 : decode cX3_joinWhatMust 28 = .ok (.iload_n 3, 1) := by decide +kernel
theorem dX3_joinWhatMust_29 : decode cX3_joinWhatMust 29 = .ok (.ishl, 1) := by decide +kernel
theorem dX3_joinWhatMust_30 : decode cX3_joinWhatMust 30 = .ok (.iconst 1, 1) := by decide +kernel
theorem dX3_joinWhatMust_31 : decode cX3_joinWhatMust 31 = .ok (.isub, 1) := by decide +kernel
theorem dX3_joinWhatMust_32 : decode cX3_joinWhatMust 32 = .ok (.iand, 1) := by decide +kernel
theorem dX3_joinWhatMust_33 : decode cX3_joinWhatMust 33 = .ok (.ifCond .ne 7, 3) := by decide +kernel
theorem dX3_joinWhatMust_36 : decode cX3_joinWhatMust 36 = .ok (.iconst 1, 1) := by decide +kernel
theorem dX3_joinWhatMust_37 : decode cX3_joinWhatMust 37 = .ok (.goto 4, 3) := by decide +kernel
theorem dX3_joinWhatMust_40 : decode cX3_joinWhatMust 40 = .ok (.iconst 0, 1) := by decide +kernel
theorem dX3_joinWhatMust_41 : decode cX3_joinWhatMust 41 = .ok (.istore 5, 2) := by decide +kernel
theorem dX3_joinWhatMust_43 : decode cX3_joinWhatMust 43 = .ok (.iload 5, 2) := by decide +kernel
theorem dX3_joinWhatMust_45 : decode cX3_joinWhatMust 45 = .ok (.ifCond .eq 24, 3) := by decide +kernel
theorem dX3_joinWhatMust_48 : decode cX3_joinWhatMust 48 = .ok (.aload_n 0, 1) := by decide +kernel
theorem dX3_joinWhatMust_49 : decode cX3_joinWhatMust 49 = .ok (.getfield 18, 3) := by decide +kernel
theorem dX3_joinWhatMust_52 : decode cX3_joinWhatMust 52 = .ok (.aload_n 0, 1) := by decide +kernel
theorem dX3_joinWhatMust_53 : decode cX3_joinWhatMust 53 = .ok (.getfield 49, 3) := by decide +kernel
theorem dX3_joinWhatMust_56 : decode cX3_joinWhatMust 56 = .ok (.iload 4, 2) := by decide +kernel
theorem dX3_joinWhatMust_58 : decode cX3_joinWhatMust 58 = .ok (.iastore, 1) := by decide +kernel
theorem dX3_joinWhatMust_59 : decode cX3_joinWhatMust 59 = .ok (.aload_n 0, 1) := by decide +kernel
theorem dX3_joinWhatMust_60 : decode cX3_joinWhatMust 60 = .ok (.dup, 1) := by decide +kernel
theorem dX3_joinWhatMust_61 : decode cX3_joinWhatMust 61 = .ok (.getfield 49, 3) := by decide +kernel
theorem dX3_joinWhatMust_64 : decode cX3_joinWhatMust 64 = .ok (.iconst 1, 1) := by decide +kernel
theorem dX3_joinWhatMust_65 : decode cX3_joinWhatMust 65 = .ok (.iadd, 1) := by decide +kernel
theorem dX3_joinWhatMust_66 : decode cX3_joinWhatMust 66 = .ok (.putfield 49, 3) := by decide +kernel
theorem dX3_joinWhatMust_69 : decode cX3_joinWhatMust 69 = .ok (.iinc 3 1, 3) := by decide +kernel
theorem dX3_joinWhatMust_72 : decode cX3_joinWhatMust 72 = .ok (.goto (-65), 3) := by decide +kernel
theorem dX3_joinWhatMust_75 : decode cX3_joinWhatMust 75 = .ok (.return_, 1) := by decide +kernel
set_option maxHeartbeats 4000000 in
set_option maxRecDepth 100000 in
theorem mX3_joinWhatMust_L1 {p : Program} {l : Launch} {e : Env} {R : Room} {s : State} {m : MethodId} {args : Array Value} {below : List Frame} {meth : Method} {c : Code} {Q : State → Prop} {D : va_G} {U : zz_U} {A : Nat → Prop} {cells slots : Nat} {ad : Nat → Nat} {X : va_W} (C : zz_C p l R s m meth c D U A RX3 cX3_joinWhatMust 6 none [] 2) (hcR : cells ≤ R.cells) (hsR : slots ≤ R.slots) (pieceTotal_ : Int32) : ∀ (n : Nat) (piece_ : Int32) (σ : zz_St) (q : (Int32 × zz_St)), fX3_joinWhatMust_L1 pieceTotal_ n piece_ σ = some q → (zz_Z p l e R s m args below meth c Q D A 6 cells slots (zz_wc U ad q.2 X) 75 [(0, .ref (ad 24)), (1, .int pieceTotal_), (2, .ref (ad 21)), (3, .int q.1)] []) → zz_Z p l e R s m args below meth c Q D A 6 cells slots (zz_wc U ad σ X) 7 [(0, .ref (ad 24)), (1, .int pieceTotal_), (2, .ref (ad 21)), (3, .int piece_)] [] := by
  intro n
  induction n with
  | zero => intro piece_ σ q hf; rw [fX3_joinWhatMust_L1] at hf; cases hf
  | succ n ih =>
    intro piece_ σ q hf kx
    rw [fX3_joinWhatMust_L1] at hf
    obtain ⟨b1, h2, hf⟩ := zz_bind hf
    refine zz_cutI (P := b1 = true) 18 [(0, .ref (ad 24)), (1, .int pieceTotal_), (2, .ref (ad 21)), (3, .int piece_)] [] (zz_wc U ad σ X) (fun g5 => ?_) (fun J3 => ?_)
    · rw [if_pos g5] at hf
      refine zz_aload_n C 2 dX3_joinWhatMust_18 rfl rfl ?_
      refine zz_iload_n C 3 dX3_joinWhatMust_19 rfl rfl ?_
      obtain ⟨x8, h9, hf⟩ := zz_bind hf
      refine zz_callV1 (As := [.int piece_]) (rest := []) C 21 (mX6_joinedTo σ piece_ x8 h9) dX3_joinWhatMust_20 rfl rfl rfl zw_56 zy_X6_joinedTo rfl (by decide) (by decide) (Nat.le_of_ble_eq_true rfl) hcR hsR rfl ?_
      refine zz_istore C dX3_joinWhatMust_23 (by decide) (lv' := [(4, .int x8), (0, .ref (ad 24)), (1, .int pieceTotal_), (2, .ref (ad 21)), (3, .int piece_)]) rfl ?_
      obtain ⟨b10, h11, hf⟩ := zz_bind hf
      refine zz_cut 41 [(4, .int x8), (0, .ref (ad 24)), (1, .int pieceTotal_), (2, .ref (ad 21)), (3, .int piece_)] [.int (zz_bi b10)] (zz_wc U ad σ X) ?_ (fun J12 => ?_)
      · obtain ⟨x14, h15, hf⟩ := zz_bind hf
        refine zz_topi (Option.some.inj h15) ?_
        refine zz_istore C dX3_joinWhatMust_41 (by decide) (lv' := [(5, .int x14), (4, .int x8), (0, .ref (ad 24)), (1, .int pieceTotal_), (2, .ref (ad 21)), (3, .int piece_)]) rfl ?_
        obtain ⟨x16, h17, hf⟩ := zz_bind hf
        refine zz_cut 69 [(0, .ref (ad 24)), (1, .int pieceTotal_), (2, .ref (ad 21)), (3, .int piece_), (4, .int x8), (5, .int x14)] [] (zz_wc U ad x16 X) ?_ (fun J18 => ?_)
        · refine zz_iinc (v := (piece_ + (1 : Int32))) C 3 dX3_joinWhatMust_69 rfl (by rfl) (by decide) (lv' := [(3, .int (piece_ + (1 : Int32))), (0, .ref (ad 24)), (1, .int pieceTotal_), (2, .ref (ad 21)), (4, .int x8), (5, .int x14)]) rfl ?_
          refine zz_goto (tgt := 7) C dX3_joinWhatMust_72 (by decide) ?_
          refine zz_sub [1, 2, 3, 0] rfl ?_
          exact ih (piece_ + (1 : Int32)) x16 _ hf kx
        refine zz_iload C 0 dX3_joinWhatMust_43 rfl ?_
        refine zz_if_eq (tgt := 69) C dX3_joinWhatMust_45 (by decide) (fun g19 => ?_) (fun g19 => ?_)
        · rw [if_pos g19] at h17
          refine zz_sub [2, 3, 4, 5, 1, 0] rfl ?_
          cases h17
          exact J18
        · rw [if_neg g19] at h17
          refine zz_aload_n C 2 dX3_joinWhatMust_48 rfl rfl ?_
          refine zf3_sets C dX3_joinWhatMust_49 zw_55 ?_
          refine zz_aload_n C 2 dX3_joinWhatMust_52 rfl rfl ?_
          refine zf3_count C dX3_joinWhatMust_53 zw_54 ?_
          refine zz_iload C 1 dX3_joinWhatMust_56 rfl ?_
          obtain ⟨σ20, h21, h17⟩ := zz_bind h17
          refine zs_25 C dX3_joinWhatMust_58 h21 ?_
          refine zz_aload_n C 2 dX3_joinWhatMust_59 rfl rfl ?_
          refine zz_dup C dX3_joinWhatMust_60 rfl ?_
          refine zf3_count C dX3_joinWhatMust_61 zw_54 ?_
          refine zz_iconst (v := (1 : Int32)) C dX3_joinWhatMust_64 (by decide) ?_
          refine zz_iadd C dX3_joinWhatMust_65 ?_
          refine zp3_count C dX3_joinWhatMust_66 zw_54 ?_
          refine zz_sub [2, 3, 4, 5, 1, 0] rfl ?_
          cases h17
          exact J18
      refine zz_iload C 0 dX3_joinWhatMust_25 rfl ?_
      refine zz_iconst (v := (1 : Int32)) C dX3_joinWhatMust_27 (by decide) ?_
      refine zz_iload_n C 4 dX3_joinWhatMust_28 rfl rfl ?_
      refine zz_ishl C dX3_joinWhatMust_29 ?_
      refine zz_iconst (v := (1 : Int32)) C dX3_joinWhatMust_30 (by decide) ?_
      refine zz_isub C dX3_joinWhatMust_31 ?_
      refine zz_iand C dX3_joinWhatMust_32 ?_
      refine zz_if_ne (tgt := 40) C dX3_joinWhatMust_33 (by decide) (fun g13 => ?_) (fun g13 => ?_)
      · rw [if_neg g13] at h11
        refine zz_iconst (v := 0) C dX3_joinWhatMust_40 (by decide) ?_
        cases h11
        exact J12
      · rw [if_pos g13] at h11
        refine zz_iconst (v := 1) C dX3_joinWhatMust_36 (by decide) ?_
        refine zz_goto (tgt := 41) C dX3_joinWhatMust_37 (by decide) ?_
        cases h11
        exact J12
    refine zz_cutI (P := b1 = false) 75 [(0, .ref (ad 24)), (1, .int pieceTotal_), (2, .ref (ad 21)), (3, .int piece_)] [] (zz_wc U ad σ X) (fun g5 => ?_) (fun J4 => ?_)
    · rw [if_neg (show ¬ b1 = true by rw [g5]; decide)] at hf
      cases hf
      exact kx
    refine zz_iload_n C 3 dX3_joinWhatMust_7 rfl rfl ?_
    refine zz_iload_n C 1 dX3_joinWhatMust_8 rfl rfl ?_
    refine zz_icmp_ge (tgt := 75) C dX3_joinWhatMust_9 (by decide) (fun g6 => ?_) (fun g6 => ?_)
    · rw [if_pos g6] at h2
      cases h2
      exact J4 rfl
    · rw [if_neg g6] at h2
      refine zz_iload_n C 3 dX3_joinWhatMust_12 rfl rfl ?_
      refine zz_bipush (v := (14 : Int32)) C dX3_joinWhatMust_13 (by decide) ?_
      refine zz_icmp_ge (tgt := 75) C dX3_joinWhatMust_15 (by decide) (fun g7 => ?_) (fun g7 => ?_)
      · rw [if_pos g7] at h2
        cases h2
        exact J4 rfl
      · rw [if_neg g7] at h2
        cases h2
        exact J3 rfl
set_option maxHeartbeats 4000000 in
set_option maxRecDepth 100000 in
theorem mX3_joinWhatMust {D : va_G} {U : zz_U} {ad : Nat → Nat} {X : va_W} (σ : zz_St) (pieceTotal_ : Int32) (r : zz_St) (hf : fX3_joinWhatMust σ pieceTotal_ = some r) : zz_Met yX3_joinWhatMust (.code yX3_joinWhatMust cX3_joinWhatMust 6 none) 2 0 0 D U [.ref (ad 24), .int pieceTotal_, .ref (ad 21)] (zz_wc U ad σ X) (zz_ok none (zz_wc U ad r X)) zz_noth := by
  unfold fX3_joinWhatMust at hf
  refine zz_method RX3 rfl (by decide +kernel) (Nat.le_of_ble_eq_true rfl) ?_
  intro p l e s m args below meth c A _ C
  refine zz_lvs (lv1 := [(0, .ref (ad 24)), (1, .int pieceTotal_), (2, .ref (ad 21))]) rfl ?_
  refine zz_aload_n C 0 dX3_joinWhatMust_0 rfl rfl ?_
  refine zz_iconst (v := (0 : Int32)) C dX3_joinWhatMust_1 (by decide) ?_
  refine zp3_count C dX3_joinWhatMust_2 zw_54 ?_
  refine zz_iconst (v := (0 : Int32)) C dX3_joinWhatMust_5 (by decide) ?_
  refine zz_istore_n C dX3_joinWhatMust_6 rfl (by decide) (lv' := [(3, .int (0 : Int32)), (0, .ref (ad 24)), (1, .int pieceTotal_), (2, .ref (ad 21))]) rfl ?_
  obtain ⟨q22, h23, hf⟩ := zz_bind hf
  refine zz_sub [1, 2, 3, 0] rfl ?_
  refine mX3_joinWhatMust_L1 C (Nat.le_of_ble_eq_true rfl) (Nat.le_of_ble_eq_true rfl) pieceTotal_ 1000 (0 : Int32) (zz_u σ 24 2 (0 : Int32)) q22 h23 ?_
  cases hf
  exact zz_vret C dX3_joinWhatMust_75 (And.intro rfl rfl) (Nat.le_of_ble_eq_true rfl) (Nat.le_of_ble_eq_true rfl)
theorem dX6_isForbidden_0 : decode cX6_isForbidden 0 = .ok (.iconst 0, 1) := by decide +kernel
theorem dX6_isForbidden_1 : decode cX6_isForbidden 1 = .ok (.istore_n 3, 1) := by decide +kernel
theorem dX6_isForbidden_2 : decode cX6_isForbidden 2 = .ok (.iload_n 3, 1) := by decide +kernel
theorem dX6_isForbidden_3 : decode cX6_isForbidden 3 = .ok (.bipush 14, 2) := by decide +kernel
theorem dX6_isForbidden_5 : decode cX6_isForbidden 5 = .ok (.if_icmp .ge 30, 3) := by decide +kernel
theorem dX6_isForbidden_8 : decode cX6_isForbidden 8 = .ok (.iload_n 3, 1) := by decide +kernel
theorem dX6_isForbidden_9 : decode cX6_isForbidden 9 = .ok (.iload_n 1, 1) := by decide +kernel
theorem dX6_isForbidden_10 : decode cX6_isForbidden 10 = .ok (.invokestatic 18, 3) := by decide +kernel
theorem dX6_isForbidden_13 : decode cX6_isForbidden 13 = .ok (.ifCond .eq 16, 3) := by decide +kernel
theorem dX6_isForbidden_16 : decode cX6_isForbidden 16 = .ok (.aload_n 0, 1) := by decide +kernel
theorem dX6_isForbidden_17 : decode cX6_isForbidden 17 = .ok (.getfield 15, 3) := by decide +kernel
theorem dX6_isForbidden_20 : decode cX6_isForbidden 20 = .ok (.iload_n 3, 1) := by decide +kernel
theorem dX6_isForbidden_21 : decode cX6_isForbidden 21 = .ok (.iaload, 1) := by decide +kernel
theorem dX6_isForbidden_22 : decode cX6_isForbidden 22 = .ok (.iload_n 2, 1) := by decide +kernel
theorem dX6_isForbidden_23 : decode cX6_isForbidden 23 = .ok (.iand, 1) := by decide +kernel
theorem dX6_isForbidden_24 : decode cX6_isForbidden 24 = .ok (.ifCond .eq 5, 3) := by decide +kernel
theorem dX6_isForbidden_27 : decode cX6_isForbidden 27 = .ok (.iconst 1, 1) := by decide +kernel
theorem dX6_isForbidden_28 : decode cX6_isForbidden 28 = .ok (.ireturn, 1) := by decide +kernel
theorem dX6_isForbidden_29 : decode cX6_isForbidden 29 = .ok (.iinc 3 1, 3) := by decide +kernel
theorem dX6_isForbidden_32 : decode cX6_isForbidden 32 = .ok (.goto (-30), 3) := by decide +kernel
theorem dX6_isForbidden_35 : decode cX6_isForbidden 35 = .ok (.iconst 0, 1) := by decide +kernel
theorem dX6_isForbidden_36 : decode cX6_isForbidden 36 = .ok (.ireturn, 1) := by decide +kernel
set_option maxHeartbeats 4000000 in
set_option maxRecDepth 100000 in
theorem mX6_isForbidden_L1 {p : Program} {l : Launch} {e : Env} {R : Room} {s : State} {m : MethodId} {args : Array Value} {below : List Frame} {meth : Method} {c : Code} {Q : State → Prop} {D : va_G} {U : zz_U} {A : Nat → Prop} {cells slots : Nat} {ad : Nat → Nat} {X : va_W} (C : zz_C p l R s m meth c D U A RX6 cX6_isForbidden 4 (some .boolean) [] 1) (hcR : cells ≤ R.cells) (hsR : slots ≤ R.slots) (σ : zz_St) (set_ : Int32) (otherSet_ : Int32) : ∀ (n : Nat) (piece_ : Int32) (q : (Int32 ⊕ (Int32))), fX6_isForbidden_L1 σ set_ otherSet_ n piece_ = some q → (∀ v : Int32, q = .inl v → zz_Z p l e R s m args below meth c Q D A 4 cells slots (zz_wc U ad σ X) 28 [] [.int v]) → (∀ w : Int32, q = .inr w → zz_Z p l e R s m args below meth c Q D A 4 cells slots (zz_wc U ad σ X) 35 [(0, .ref (ad 21)), (1, .int set_), (2, .int otherSet_), (3, .int w)] []) → zz_Z p l e R s m args below meth c Q D A 4 cells slots (zz_wc U ad σ X) 2 [(0, .ref (ad 21)), (1, .int set_), (2, .int otherSet_), (3, .int piece_)] [] := by
  intro n
  induction n with
  | zero => intro piece_ q hf; rw [fX6_isForbidden_L1] at hf; cases hf
  | succ n ih =>
    intro piece_ q hf kr kx
    rw [fX6_isForbidden_L1] at hf
    refine zz_iload_n C 3 dX6_isForbidden_2 rfl rfl ?_
    refine zz_bipush (v := (14 : Int32)) C dX6_isForbidden_3 (by decide) ?_
    refine zz_icmp_ge (tgt := 35) C dX6_isForbidden_5 (by decide) (fun g1 => ?_) (fun g1 => ?_)
    · rw [if_pos g1] at hf
      cases hf
      exact kx _ rfl
    · rw [if_neg g1] at hf
      obtain ⟨b2, h3, hf⟩ := zz_bind hf
      refine zz_cutI (P := b2 = true) 27 [(0, .ref (ad 21)), (1, .int set_), (2, .int otherSet_), (3, .int piece_)] [] (zz_wc U ad σ X) (fun g6 => ?_) (fun J4 => ?_)
      · rw [if_pos g6] at hf
        refine zz_iconst (v := (1 : Int32)) C dX6_isForbidden_27 (by decide) ?_
        cases hf
        refine zz_sub [] rfl ?_
        exact kr _ rfl
      refine zz_cutI (P := b2 = false) 29 [(0, .ref (ad 21)), (1, .int set_), (2, .int otherSet_), (3, .int piece_)] [] (zz_wc U ad σ X) (fun g6 => ?_) (fun J5 => ?_)
      · rw [if_neg (show ¬ b2 = true by rw [g6]; decide)] at hf
        refine zz_iinc (v := (piece_ + (1 : Int32))) C 3 dX6_isForbidden_29 rfl (by rfl) (by decide) (lv' := [(3, .int (piece_ + (1 : Int32))), (0, .ref (ad 21)), (1, .int set_), (2, .int otherSet_)]) rfl ?_
        refine zz_goto (tgt := 2) C dX6_isForbidden_32 (by decide) ?_
        refine zz_sub [1, 2, 3, 0] rfl ?_
        exact ih (piece_ + (1 : Int32)) _ hf kr kx
      refine zz_iload_n C 3 dX6_isForbidden_8 rfl rfl ?_
      refine zz_iload_n C 1 dX6_isForbidden_9 rfl rfl ?_
      obtain ⟨x7, h8, h3⟩ := zz_bind h3
      refine zz_callSN1 (host := "ChangeUntangler") (As := [.int piece_, .int set_]) (rest := []) C (mX7_isIn σ piece_ set_ x7 h8) dX6_isForbidden_10 rfl (by decide +kernel) zy_X7_isIn rfl (by decide) (by decide) (Nat.le_of_ble_eq_true rfl) hcR hsR rfl ?_
      refine zz_if_eq (tgt := 29) C dX6_isForbidden_13 (by decide) (fun g9 => ?_) (fun g9 => ?_)
      · rw [if_pos g9] at h3
        cases h3
        exact J5 rfl
      · rw [if_neg g9] at h3
        refine zz_aload_n C 0 dX6_isForbidden_16 rfl rfl ?_
        refine zf6_mustNot C dX6_isForbidden_17 zw_27 ?_
        refine zz_iload_n C 3 dX6_isForbidden_20 rfl rfl ?_
        obtain ⟨x10, h11, h3⟩ := zz_bind h3
        refine zl_23 C dX6_isForbidden_21 h11 ?_
        refine zz_iload_n C 2 dX6_isForbidden_22 rfl rfl ?_
        refine zz_iand C dX6_isForbidden_23 ?_
        refine zz_if_eq (tgt := 29) C dX6_isForbidden_24 (by decide) (fun g12 => ?_) (fun g12 => ?_)
        · rw [if_pos g12] at h3
          cases h3
          exact J5 rfl
        · rw [if_neg g12] at h3
          cases h3
          exact J4 rfl
set_option maxHeartbeats 4000000 in
set_option maxRecDepth 100000 in
theorem mX6_isForbidden {D : va_G} {U : zz_U} {ad : Nat → Nat} {X : va_W} (σ : zz_St) (set_ : Int32) (otherSet_ : Int32) (r : Int32) (hf : fX6_isForbidden σ set_ otherSet_ = some r) : zz_Met yX6_isForbidden (.code yX6_isForbidden cX6_isForbidden 4 (some .boolean)) 1 0 0 D U [.ref (ad 21), .int set_, .int otherSet_] (zz_wc U ad σ X) (zz_ok (some (.int r)) (zz_wc U ad σ X)) zz_noth := by
  unfold fX6_isForbidden at hf
  refine zz_method RX6 rfl (by decide +kernel) (Nat.le_of_ble_eq_true rfl) ?_
  intro p l e s m args below meth c A _ C
  refine zz_lvs (lv1 := [(0, .ref (ad 21)), (1, .int set_), (2, .int otherSet_)]) rfl ?_
  refine zz_iconst (v := (0 : Int32)) C dX6_isForbidden_0 (by decide) ?_
  refine zz_istore_n C dX6_isForbidden_1 rfl (by decide) (lv' := [(3, .int (0 : Int32)), (0, .ref (ad 21)), (1, .int set_), (2, .int otherSet_)]) rfl ?_
  obtain ⟨q13, h14, hf⟩ := zz_bind hf
  refine zz_sub [1, 2, 3, 0] rfl ?_
  refine mX6_isForbidden_L1 C (Nat.le_of_ble_eq_true rfl) (Nat.le_of_ble_eq_true rfl) σ set_ otherSet_ 1000 (0 : Int32) q13 h14 (fun v15 h17 => ?_) (fun w16 h17 => ?_)
  · subst h17
    obtain ⟨x18, h19, hf⟩ := zz_bind hf
    refine zz_topi (zz_bo_in h19).2 ?_
    cases hf
    exact zz_zret C dX6_isForbidden_28 (by rw [← (zz_bo_in h19).2]; exact (zz_bo_in h19).1) (And.intro rfl rfl) (Nat.le_of_ble_eq_true rfl) (Nat.le_of_ble_eq_true rfl)
  · subst h17
    refine zz_iconst (v := (0 : Int32)) C dX6_isForbidden_35 (by decide) ?_
    cases hf
    exact zz_zret C dX6_isForbidden_36 (Or.inl rfl) (And.intro rfl rfl) (Nat.le_of_ble_eq_true rfl) (Nat.le_of_ble_eq_true rfl)
theorem dX3_linkageOf_0 : decode cX3_linkageOf 0 = .ok (.iconst 0, 1) := by decide +kernel
theorem dX3_linkageOf_1 : decode cX3_linkageOf 1 = .ok (.istore_n 3, 1) := by decide +kernel
theorem dX3_linkageOf_2 : decode cX3_linkageOf 2 = .ok (.ldc 68, 2) := by decide +kernel
theorem dX3_linkageOf_4 : decode cX3_linkageOf 4 = .ok (.istore 4, 2) := by decide +kernel
theorem dX3_linkageOf_6 : decode cX3_linkageOf 6 = .ok (.iconst 0, 1) := by decide +kernel
theorem dX3_linkageOf_7 : decode cX3_linkageOf 7 = .ok (.istore 5, 2) := by decide +kernel
theorem dX3_linkageOf_9 : decode cX3_linkageOf 9 = .ok (.iconst 0, 1) := by decide +kernel
theorem dX3_linkageOf_10 : decode cX3_linkageOf 10 = .ok (.istore 6, 2) := by decide +kernel
theorem dX3_linkageOf_12 : decode cX3_linkageOf 12 = .ok (.iload 6, 2) := by decide +kernel
theorem dX3_linkageOf_14 : decode cX3_linkageOf 14 = .ok (.bipush 14, 2) := by decide +kernel
theorem dX3_linkageOf_16 : decode cX3_linkageOf 16 = .ok (.if_icmp .ge 90, 3) := by decide +kernel
theorem dX3_linkageOf_19 : decode cX3_linkageOf 19 = .ok (.iconst 0, 1) := by decide +kernel
theorem dX3_linkageOf_20 : decode cX3_linkageOf 20 = .ok (.istore 7, 2) := by decide +kernel
theorem dX3_linkageOf_22 : decode cX3_linkageOf 22 = .ok (.iload 7, 2) := by decide +kernel
theorem dX3_linkageOf_24 : decode cX3_linkageOf 24 = .ok (.bipush 14, 2) := by decide +kernel
theorem dX3_linkageOf_26 : decode cX3_linkageOf 26 = .ok (.if_icmp .ge 74, 3) := by decide +kernel
theorem dX3_linkageOf_29 : decode cX3_linkageOf 29 = .ok (.iload 6, 2) := by decide +kernel
theorem dX3_linkageOf_31 : decode cX3_linkageOf 31 = .ok (.iload_n 1, 1) := by decide +kernel
theorem dX3_linkageOf_32 : decode cX3_linkageOf 32 = .ok (.invokestatic 69, 3) := by decide +kernel
theorem dX3_linkageOf_35 : decode cX3_linkageOf 35 = .ok (.ifCond .eq 65, 3) := by decide +kernel
theorem dX3_linkageOf_38 : decode cX3_linkageOf 38 = .ok (.iload 7, 2) := by decide +kernel
theorem dX3_linkageOf_40 : decode cX3_linkageOf 40 = .ok (.iload_n 2, 1) := by decide +kernel
theorem dX3_linkageOf_41 : decode cX3_linkageOf 41 = .ok (.invokestatic 69, 3) := by decide +kernel
theorem dX3_linkageOf_44 : decode cX3_linkageOf 44 = .ok (.ifCond .eq 50, 3) := by decide +kernel
theorem dX3_linkageOf_47 : decode cX3_linkageOf 47 = .ok (.iload_n 3, 1) := by decide +kernel
theorem dX3_linkageOf_48 : decode cX3_linkageOf 48 = .ok (.aload_n 0, 1) := by decide +kernel
theorem dX3_linkageOf_49 : decode cX3_linkageOf 49 = .ok (.getfield 24, 3) := by decide +kernel
theorem dX3_linkageOf_52 : decode cX3_linkageOf 52 = .ok (.iload 6, 2) := by decide +kernel
theorem dX3_linkageOf_54 : decode cX3_linkageOf 54 = .ok (.aaload, 1) := by decide +kernel
theorem dX3_linkageOf_55 : decode cX3_linkageOf 55 = .ok (.iload 7, 2) := by decide +kernel
theorem dX3_linkageOf_57 : decode cX3_linkageOf 57 = .ok (.iaload, 1) := by decide +kernel
theorem dX3_linkageOf_58 : decode cX3_linkageOf 58 = .ok (.invokestatic 72, 3) := by decide +kernel
theorem dX3_linkageOf_61 : decode cX3_linkageOf 61 = .ok (.istore_n 3, 1) := by decide +kernel
theorem dX3_linkageOf_62 : decode cX3_linkageOf 62 = .ok (.iload 4, 2) := by decide +kernel
theorem dX3_linkageOf_64 : decode cX3_linkageOf 64 = .ok (.aload_n 0, 1) := by decide +kernel
theorem dX3_linkageOf_65 : decode cX3_linkageOf 65 = .ok (.getfield 24, 3) := by decide +kernel
theorem dX3_linkageOf_68 : decode cX3_linkageOf 68 = .ok (.iload 6, 2) := by decide +kernel
theorem dX3_linkageOf_70 : decode cX3_linkageOf 70 = .ok (.aaload, 1) := by decide +kernel
theorem dX3_linkageOf_71 : decode cX3_linkageOf 71 = .ok (.iload 7, 2) := by decide +kernel
theorem dX3_linkageOf_73 : decode cX3_linkageOf 73 = .ok (.iaload, 1) := by decide +kernel
theorem dX3_linkageOf_74 : decode cX3_linkageOf 74 = .ok (.invokestatic 77, 3) := by decide +kernel
theorem dX3_linkageOf_77 : decode cX3_linkageOf 77 = .ok (.istore 4, 2) := by decide +kernel
theorem dX3_linkageOf_79 : decode cX3_linkageOf 79 = .ok (.iload 5, 2) := by decide +kernel
theorem dX3_linkageOf_81 : decode cX3_linkageOf 81 = .ok (.aload_n 0, 1) := by decide +kernel
theorem dX3_linkageOf_82 : decode cX3_linkageOf 82 = .ok (.getfield 24, 3) := by decide +kernel
theorem dX3_linkageOf_85 : decode cX3_linkageOf 85 = .ok (.iload 6, 2) := by decide +kernel
theorem dX3_linkageOf_87 : decode cX3_linkageOf 87 = .ok (.aaload, 1) := by decide +kernel
theorem dX3_linkageOf_88 : decode cX3_linkageOf 88 = .ok (.iload 7, 2) := by decide +kernel
theorem dX3_linkageOf_90 : decode cX3_linkageOf 90 = .ok (.iaload, 1) := by decide +kernel
theorem dX3_linkageOf_91 : decode cX3_linkageOf 91 = .ok (.iadd, 1) := by decide +kernel
theorem dX3_linkageOf_92 : decode cX3_linkageOf 92 = .ok (.istore 5, 2) := by decide +kernel
theorem dX3_linkageOf_94 : decode cX3_linkageOf 94 = .ok (.iinc 7 1, 3) := by decide +kernel
theorem dX3_linkageOf_97 : decode cX3_linkageOf 97 = .ok (.goto (-75), 3) := by decide +kernel
theorem dX3_linkageOf_100 : decode cX3_linkageOf 100 = .ok (.iinc 6 1, 3) := by decide +kernel
theorem dX3_linkageOf_103 : decode cX3_linkageOf 103 = .ok (.goto (-91), 3) := by decide +kernel
theorem dX3_linkageOf_106 : decode cX3_linkageOf 106 = .ok (.iload_n 1, 1) := by decide +kernel
theorem dX3_linkageOf_107 : decode cX3_linkageOf 107 = .ok (.invokestatic 80, 3) := by decide +kernel
theorem dX3_linkageOf_110 : decode cX3_linkageOf 110 = .ok (.iload_n 2, 1) := by decide +kernel
theorem dX3_linkageOf_111 : decode cX3_linkageOf 111 = .ok (.invokestatic 80, 3) := by decide +kernel
theorem dX3_linkageOf_114 : decode cX3_linkageOf 114 = .ok (.imul, 1) := by decide +kernel
theorem dX3_linkageOf_115 : decode cX3_linkageOf 115 = .ok (.istore 6, 2) := by decide +kernel
theorem dX3_linkageOf_117 : decode cX3_linkageOf 117 = .ok (.iload 6, 2) := by decide +kernel
theorem dX3_linkageOf_119 : decode cX3_linkageOf 119 = .ok (.ifCond .ne 5, 3) := by decide +kernel
theorem dX3_linkageOf_122 : decode cX3_linkageOf 122 = .ok (.iconst 0, 1) := by decide +kernel
theorem dX3_linkageOf_123 : decode cX3_linkageOf 123 = .ok (.ireturn, 1) := by decide +kernel
theorem dX3_linkageOf_124 : decode cX3_linkageOf 124 = .ok (.aload_n 0, 1) := by decide +kernel
theorem dX3_linkageOf_125 : decode cX3_linkageOf 125 = .ok (.getfield 15, 3) := by decide +kernel
theorem dX3_linkageOf_128 : decode cX3_linkageOf 128 = .ok (.iconst 1, 1) := by decide +kernel
theorem dX3_linkageOf_129 : decode cX3_linkageOf 129 = .ok (.if_icmp .ne 9, 3) := by decide +kernel
theorem dX3_linkageOf_132 : decode cX3_linkageOf 132 = .ok (.iload 5, 2) := by decide +kernel
theorem dX3_linkageOf_134 : decode cX3_linkageOf 134 = .ok (.iload 6, 2) := by decide +kernel
theorem dX3_linkageOf_136 : decode cX3_linkageOf 136 = .ok (.idiv, 1) := by decide +kernel
theorem dX3_linkageOf_137 : decode cX3_linkageOf 137 = .ok (.ireturn, 1) := by decide +kernel
theorem dX3_linkageOf_138 : decode cX3_linkageOf 138 = .ok (.aload_n 0, 1) := by decide +kernel
theorem dX3_linkageOf_139 : decode cX3_linkageOf 139 = .ok (.getfield 15, 3) := by decide +kernel
theorem dX3_linkageOf_142 : decode cX3_linkageOf 142 = .ok (.ifCond .ne 7, 3) := by decide +kernel
theorem dX3_linkageOf_145 : decode cX3_linkageOf 145 = .ok (.iload_n 3, 1) := by decide +kernel
theorem dX3_linkageOf_146 : decode cX3_linkageOf 146 = .ok (.goto 5, 3) := by decide +kernel
theorem dX3_linkageOf_149 : decode cX3_linkageOf 149 = .ok (.iload 4, 2) := by decide +kernel
theorem dX3_linkageOf_151 : decode cX3_linkageOf 151 = .ok (.ireturn, 1) := by decide +kernel
set_option maxHeartbeats 4000000 in
set_option maxRecDepth 100000 in
theorem mX3_linkageOf_L2 {p : Program} {l : Launch} {e : Env} {R : Room} {s : State} {m : MethodId} {args : Array Value} {below : List Frame} {meth : Method} {c : Code} {Q : State → Prop} {D : va_G} {U : zz_U} {A : Nat → Prop} {cells slots : Nat} {ad : Nat → Nat} {X : va_W} (C : zz_C p l R s m meth c D U A RX3 cX3_linkageOf 8 (some .int) [] 1) (hcR : cells ≤ R.cells) (hsR : slots ≤ R.slots) (σ : zz_St) (set_ : Int32) (otherSet_ : Int32) (a_ : Int32) : ∀ (n : Nat) (greatest_ : Int32) (least_ : Int32) (sum_ : Int32) (b_ : Int32) (q : (Int32 × Int32 × Int32 × Int32)), fX3_linkageOf_L2 σ set_ otherSet_ a_ n greatest_ least_ sum_ b_ = some q → (zz_Z p l e R s m args below meth c Q D A 8 cells slots (zz_wc U ad σ X) 100 [(0, .ref (ad 24)), (1, .int set_), (2, .int otherSet_), (3, .int q.1), (4, .int q.2.1), (5, .int q.2.2.1), (6, .int a_), (7, .int q.2.2.2)] []) → zz_Z p l e R s m args below meth c Q D A 8 cells slots (zz_wc U ad σ X) 22 [(0, .ref (ad 24)), (1, .int set_), (2, .int otherSet_), (3, .int greatest_), (4, .int least_), (5, .int sum_), (6, .int a_), (7, .int b_)] [] := by
  intro n
  induction n with
  | zero => intro greatest_ least_ sum_ b_ q hf; rw [fX3_linkageOf_L2] at hf; cases hf
  | succ n ih =>
    intro greatest_ least_ sum_ b_ q hf kx
    rw [fX3_linkageOf_L2] at hf
    obtain ⟨b2, h3, hf⟩ := zz_bind hf
    refine zz_cutI (P := b2 = true) 38 [(0, .ref (ad 24)), (1, .int set_), (2, .int otherSet_), (3, .int greatest_), (4, .int least_), (5, .int sum_), (6, .int a_), (7, .int b_)] [] (zz_wc U ad σ X) (fun g6 => ?_) (fun J4 => ?_)
    · rw [if_pos g6] at hf
      obtain ⟨x11, h12, hf⟩ := zz_bind hf
      refine zz_cut 94 [(0, .ref (ad 24)), (1, .int set_), (2, .int otherSet_), (3, .int x11.1), (4, .int x11.2.1), (5, .int x11.2.2), (6, .int a_), (7, .int b_)] [] (zz_wc U ad σ X) ?_ (fun J13 => ?_)
      · refine zz_iinc (v := (b_ + (1 : Int32))) C 7 dX3_linkageOf_94 rfl (by rfl) (by decide) (lv' := [(7, .int (b_ + (1 : Int32))), (0, .ref (ad 24)), (1, .int set_), (2, .int otherSet_), (3, .int x11.1), (4, .int x11.2.1), (5, .int x11.2.2), (6, .int a_)]) rfl ?_
        refine zz_goto (tgt := 22) C dX3_linkageOf_97 (by decide) ?_
        refine zz_sub [1, 2, 3, 4, 5, 6, 7, 0] rfl ?_
        exact ih x11.1 x11.2.1 x11.2.2 (b_ + (1 : Int32)) _ hf kx
      refine zz_iload C 7 dX3_linkageOf_38 rfl ?_
      refine zz_iload_n C 2 dX3_linkageOf_40 rfl rfl ?_
      obtain ⟨x14, h15, h12⟩ := zz_bind h12
      refine zz_callSN1 (host := "ChangeUntangler") (As := [.int b_, .int otherSet_]) (rest := []) C (mX7_isIn σ b_ otherSet_ x14 h15) dX3_linkageOf_41 rfl (by decide +kernel) zy_X7_isIn rfl (by decide) (by decide) (Nat.le_of_ble_eq_true rfl) hcR hsR rfl ?_
      refine zz_if_eq (tgt := 94) C dX3_linkageOf_44 (by decide) (fun g16 => ?_) (fun g16 => ?_)
      · rw [if_pos g16] at h12
        cases h12
        exact J13
      · rw [if_neg g16] at h12
        refine zz_iload_n C 3 dX3_linkageOf_47 rfl rfl ?_
        refine zz_aload_n C 0 dX3_linkageOf_48 rfl rfl ?_
        refine zf3_affinities C dX3_linkageOf_49 zw_51 ?_
        refine zz_iload C 6 dX3_linkageOf_52 rfl ?_
        obtain ⟨x17, h18, h12⟩ := zz_bind h12
        refine zr_26 C dX3_linkageOf_54 h18 ?_
        refine zz_iload C 7 dX3_linkageOf_55 rfl ?_
        obtain ⟨x19, h20, h12⟩ := zz_bind h12
        refine zl_26 C dX3_linkageOf_57 h18 h20 ?_
        refine zz_mmax C dX3_linkageOf_58 zw_58 zm_max_1 zm_max_2 zm_max_3 (by decide) (Nat.le_of_ble_eq_true rfl) hcR hsR ?_
        obtain ⟨x21, h22, h12⟩ := zz_bind h12
        refine zz_topi (Option.some.inj h22) ?_
        refine zz_istore_n C dX3_linkageOf_61 rfl (by decide) (lv' := [(3, .int x21), (0, .ref (ad 24)), (1, .int set_), (2, .int otherSet_), (4, .int least_), (5, .int sum_), (6, .int a_), (7, .int b_)]) rfl ?_
        refine zz_iload C 4 dX3_linkageOf_62 rfl ?_
        refine zz_aload_n C 1 dX3_linkageOf_64 rfl rfl ?_
        refine zf3_affinities C dX3_linkageOf_65 zw_51 ?_
        refine zz_iload C 6 dX3_linkageOf_68 rfl ?_
        obtain ⟨x23, h24, h12⟩ := zz_bind h12
        refine zr_26 C dX3_linkageOf_70 h24 ?_
        refine zz_iload C 7 dX3_linkageOf_71 rfl ?_
        obtain ⟨x25, h26, h12⟩ := zz_bind h12
        refine zl_26 C dX3_linkageOf_73 h24 h26 ?_
        refine zz_mmin C dX3_linkageOf_74 zw_59 zm_min_1 zm_min_2 zm_min_3 (by decide) (Nat.le_of_ble_eq_true rfl) hcR hsR ?_
        obtain ⟨x27, h28, h12⟩ := zz_bind h12
        refine zz_topi (Option.some.inj h28) ?_
        refine zz_istore C dX3_linkageOf_77 (by decide) (lv' := [(4, .int x27), (3, .int x21), (0, .ref (ad 24)), (1, .int set_), (2, .int otherSet_), (5, .int sum_), (6, .int a_), (7, .int b_)]) rfl ?_
        refine zz_iload C 5 dX3_linkageOf_79 rfl ?_
        refine zz_aload_n C 2 dX3_linkageOf_81 rfl rfl ?_
        refine zf3_affinities C dX3_linkageOf_82 zw_51 ?_
        refine zz_iload C 6 dX3_linkageOf_85 rfl ?_
        obtain ⟨x29, h30, h12⟩ := zz_bind h12
        refine zr_26 C dX3_linkageOf_87 h30 ?_
        refine zz_iload C 7 dX3_linkageOf_88 rfl ?_
        obtain ⟨x31, h32, h12⟩ := zz_bind h12
        refine zl_26 C dX3_linkageOf_90 h30 h32 ?_
        refine zz_iadd C dX3_linkageOf_91 ?_
        obtain ⟨x33, h34, h12⟩ := zz_bind h12
        refine zz_topi (Option.some.inj h34) ?_
        refine zz_istore C dX3_linkageOf_92 (by decide) (lv' := [(5, .int x33), (4, .int x27), (3, .int x21), (0, .ref (ad 24)), (1, .int set_), (2, .int otherSet_), (6, .int a_), (7, .int b_)]) rfl ?_
        refine zz_sub [3, 4, 5, 2, 1, 0, 6, 7] rfl ?_
        cases h12
        exact J13
    refine zz_cutI (P := b2 = false) 100 [(0, .ref (ad 24)), (1, .int set_), (2, .int otherSet_), (3, .int greatest_), (4, .int least_), (5, .int sum_), (6, .int a_), (7, .int b_)] [] (zz_wc U ad σ X) (fun g6 => ?_) (fun J5 => ?_)
    · rw [if_neg (show ¬ b2 = true by rw [g6]; decide)] at hf
      cases hf
      exact kx
    refine zz_iload C 7 dX3_linkageOf_22 rfl ?_
    refine zz_bipush (v := (14 : Int32)) C dX3_linkageOf_24 (by decide) ?_
    refine zz_icmp_ge (tgt := 100) C dX3_linkageOf_26 (by decide) (fun g7 => ?_) (fun g7 => ?_)
    · rw [if_pos g7] at h3
      cases h3
      exact J5 rfl
    · rw [if_neg g7] at h3
      refine zz_iload C 6 dX3_linkageOf_29 rfl ?_
      refine zz_iload_n C 1 dX3_linkageOf_31 rfl rfl ?_
      obtain ⟨x8, h9, h3⟩ := zz_bind h3
      refine zz_callSN1 (host := "ChangeUntangler") (As := [.int a_, .int set_]) (rest := []) C (mX7_isIn σ a_ set_ x8 h9) dX3_linkageOf_32 rfl (by decide +kernel) zy_X7_isIn rfl (by decide) (by decide) (Nat.le_of_ble_eq_true rfl) hcR hsR rfl ?_
      refine zz_if_eq (tgt := 100) C dX3_linkageOf_35 (by decide) (fun g10 => ?_) (fun g10 => ?_)
      · rw [if_pos g10] at h3
        cases h3
        exact J5 rfl
      · rw [if_neg g10] at h3
        cases h3
        exact J4 rfl
set_option maxHeartbeats 4000000 in
set_option maxRecDepth 100000 in
theorem mX3_linkageOf_L1 {p : Program} {l : Launch} {e : Env} {R : Room} {s : State} {m : MethodId} {args : Array Value} {below : List Frame} {meth : Method} {c : Code} {Q : State → Prop} {D : va_G} {U : zz_U} {A : Nat → Prop} {cells slots : Nat} {ad : Nat → Nat} {X : va_W} (C : zz_C p l R s m meth c D U A RX3 cX3_linkageOf 8 (some .int) [] 1) (hcR : cells ≤ R.cells) (hsR : slots ≤ R.slots) (σ : zz_St) (set_ : Int32) (otherSet_ : Int32) : ∀ (n : Nat) (greatest_ : Int32) (least_ : Int32) (sum_ : Int32) (a_ : Int32) (q : (Int32 × Int32 × Int32 × Int32)), fX3_linkageOf_L1 σ set_ otherSet_ n greatest_ least_ sum_ a_ = some q → (zz_Z p l e R s m args below meth c Q D A 8 cells slots (zz_wc U ad σ X) 106 [(0, .ref (ad 24)), (1, .int set_), (2, .int otherSet_), (3, .int q.1), (4, .int q.2.1), (5, .int q.2.2.1), (6, .int q.2.2.2)] []) → zz_Z p l e R s m args below meth c Q D A 8 cells slots (zz_wc U ad σ X) 12 [(0, .ref (ad 24)), (1, .int set_), (2, .int otherSet_), (3, .int greatest_), (4, .int least_), (5, .int sum_), (6, .int a_)] [] := by
  intro n
  induction n with
  | zero => intro greatest_ least_ sum_ a_ q hf; rw [fX3_linkageOf_L1] at hf; cases hf
  | succ n ih =>
    intro greatest_ least_ sum_ a_ q hf kx
    rw [fX3_linkageOf_L1] at hf
    refine zz_iload C 6 dX3_linkageOf_12 rfl ?_
    refine zz_bipush (v := (14 : Int32)) C dX3_linkageOf_14 (by decide) ?_
    refine zz_icmp_ge (tgt := 106) C dX3_linkageOf_16 (by decide) (fun g1 => ?_) (fun g1 => ?_)
    · rw [if_pos g1] at hf
      cases hf
      exact kx
    · rw [if_neg g1] at hf
      refine zz_iconst (v := (0 : Int32)) C dX3_linkageOf_19 (by decide) ?_
      refine zz_istore C dX3_linkageOf_20 (by decide) (lv' := [(7, .int (0 : Int32)), (0, .ref (ad 24)), (1, .int set_), (2, .int otherSet_), (3, .int greatest_), (4, .int least_), (5, .int sum_), (6, .int a_)]) rfl ?_
      obtain ⟨q35, h36, hf⟩ := zz_bind hf
      refine zz_sub [1, 2, 3, 4, 5, 6, 7, 0] rfl ?_
      refine mX3_linkageOf_L2 C hcR hsR σ set_ otherSet_ a_ 1000 greatest_ least_ sum_ (0 : Int32) q35 h36 ?_
      refine zz_iinc (v := (a_ + (1 : Int32))) C 6 dX3_linkageOf_100 rfl (by rfl) (by decide) (lv' := [(6, .int (a_ + (1 : Int32))), (0, .ref (ad 24)), (1, .int set_), (2, .int otherSet_), (3, .int q35.1), (4, .int q35.2.1), (5, .int q35.2.2.1), (7, .int q35.2.2.2)]) rfl ?_
      refine zz_goto (tgt := 12) C dX3_linkageOf_103 (by decide) ?_
      refine zz_sub [1, 2, 3, 4, 5, 6, 0] rfl ?_
      exact ih q35.1 q35.2.1 q35.2.2.1 (a_ + (1 : Int32)) _ hf kx
set_option maxHeartbeats 4000000 in
set_option maxRecDepth 100000 in
theorem mX3_linkageOf {D : va_G} {U : zz_U} {ad : Nat → Nat} {X : va_W} (σ : zz_St) (set_ : Int32) (otherSet_ : Int32) (r : Int32) (hf : fX3_linkageOf σ set_ otherSet_ = some r) : zz_Met yX3_linkageOf (.code yX3_linkageOf cX3_linkageOf 8 (some .int)) 1 0 0 D U [.ref (ad 24), .int set_, .int otherSet_] (zz_wc U ad σ X) (zz_ok (some (.int r)) (zz_wc U ad σ X)) zz_noth := by
  unfold fX3_linkageOf at hf
  refine zz_method RX3 rfl (by decide +kernel) (Nat.le_of_ble_eq_true rfl) ?_
  intro p l e s m args below meth c A _ C
  refine zz_lvs (lv1 := [(0, .ref (ad 24)), (1, .int set_), (2, .int otherSet_)]) rfl ?_
  refine zz_iconst (v := (0 : Int32)) C dX3_linkageOf_0 (by decide) ?_
  refine zz_istore_n C dX3_linkageOf_1 rfl (by decide) (lv' := [(3, .int (0 : Int32)), (0, .ref (ad 24)), (1, .int set_), (2, .int otherSet_)]) rfl ?_
  refine zz_ldc (v := (1000000 : Int32)) C dX3_linkageOf_2 zw_57 ?_
  refine zz_istore C dX3_linkageOf_4 (by decide) (lv' := [(4, .int (1000000 : Int32)), (3, .int (0 : Int32)), (0, .ref (ad 24)), (1, .int set_), (2, .int otherSet_)]) rfl ?_
  refine zz_iconst (v := (0 : Int32)) C dX3_linkageOf_6 (by decide) ?_
  refine zz_istore C dX3_linkageOf_7 (by decide) (lv' := [(5, .int (0 : Int32)), (4, .int (1000000 : Int32)), (3, .int (0 : Int32)), (0, .ref (ad 24)), (1, .int set_), (2, .int otherSet_)]) rfl ?_
  refine zz_iconst (v := (0 : Int32)) C dX3_linkageOf_9 (by decide) ?_
  refine zz_istore C dX3_linkageOf_10 (by decide) (lv' := [(6, .int (0 : Int32)), (5, .int (0 : Int32)), (4, .int (1000000 : Int32)), (3, .int (0 : Int32)), (0, .ref (ad 24)), (1, .int set_), (2, .int otherSet_)]) rfl ?_
  obtain ⟨q37, h38, hf⟩ := zz_bind hf
  refine zz_sub [4, 5, 6, 3, 2, 1, 0] rfl ?_
  refine mX3_linkageOf_L1 C (Nat.le_of_ble_eq_true rfl) (Nat.le_of_ble_eq_true rfl) σ set_ otherSet_ 1000 (0 : Int32) (1000000 : Int32) (0 : Int32) (0 : Int32) q37 h38 ?_
  refine zz_iload_n C 1 dX3_linkageOf_106 rfl rfl ?_
  obtain ⟨x39, h40, hf⟩ := zz_bind hf
  refine zz_callS1 (As := [.int set_]) (rest := []) C (mJ6_bitCount set_ x39 h40) dX3_linkageOf_107 rfl zw_61 zy_J6_bitCount_0f7a4 rfl (by decide) (by decide) (Nat.le_of_ble_eq_true rfl) (Nat.le_of_ble_eq_true rfl) (Nat.le_of_ble_eq_true rfl) rfl ?_
  refine zz_iload_n C 2 dX3_linkageOf_110 rfl rfl ?_
  obtain ⟨x41, h42, hf⟩ := zz_bind hf
  refine zz_callS1 (As := [.int otherSet_]) (rest := [.int x39]) C (mJ6_bitCount otherSet_ x41 h42) dX3_linkageOf_111 rfl zw_61 zy_J6_bitCount_0f7a4 rfl (by decide) (by decide) (Nat.le_of_ble_eq_true rfl) (Nat.le_of_ble_eq_true rfl) (Nat.le_of_ble_eq_true rfl) rfl ?_
  refine zz_imul C dX3_linkageOf_114 ?_
  obtain ⟨x43, h44, hf⟩ := zz_bind hf
  refine zz_topi (Option.some.inj h44) ?_
  refine zz_istore C dX3_linkageOf_115 (by decide) (lv' := [(6, .int x43), (0, .ref (ad 24)), (1, .int set_), (2, .int otherSet_), (3, .int q37.1), (4, .int q37.2.1), (5, .int q37.2.2.1)]) rfl ?_
  refine zz_iload C 0 dX3_linkageOf_117 rfl ?_
  refine zz_if_ne (tgt := 124) C dX3_linkageOf_119 (by decide) (fun g45 => ?_) (fun g45 => ?_)
  · rw [if_neg g45] at hf
    refine zz_aload_n C 1 dX3_linkageOf_124 rfl rfl ?_
    refine zf3_manner C dX3_linkageOf_125 zw_60 ?_
    refine zz_iconst (v := (1 : Int32)) C dX3_linkageOf_128 (by decide) ?_
    refine zz_icmp_ne (tgt := 138) C dX3_linkageOf_129 (by decide) (fun g46 => ?_) (fun g46 => ?_)
    · rw [if_neg g46] at hf
      obtain ⟨x47, h48, hf⟩ := zz_bind hf
      refine zz_cut 151 [(6, .int x43), (0, .ref (ad 24)), (1, .int set_), (2, .int otherSet_), (3, .int q37.1), (4, .int q37.2.1), (5, .int q37.2.2.1)] [.int x47] (zz_wc U ad σ X) ?_ (fun J49 => ?_)
      · cases hf
        exact zz_iret C dX3_linkageOf_151 (And.intro rfl rfl) (Nat.le_of_ble_eq_true rfl) (Nat.le_of_ble_eq_true rfl)
      refine zz_aload_n C 1 dX3_linkageOf_138 rfl rfl ?_
      refine zf3_manner C dX3_linkageOf_139 zw_60 ?_
      refine zz_if_ne (tgt := 149) C dX3_linkageOf_142 (by decide) (fun g50 => ?_) (fun g50 => ?_)
      · rw [if_neg g50] at h48
        refine zz_iload C 5 dX3_linkageOf_149 rfl ?_
        cases h48
        exact J49
      · rw [if_pos g50] at h48
        refine zz_iload_n C 4 dX3_linkageOf_145 rfl rfl ?_
        refine zz_goto (tgt := 151) C dX3_linkageOf_146 (by decide) ?_
        cases h48
        exact J49
    · rw [if_pos g46] at hf
      refine zz_iload C 6 dX3_linkageOf_132 rfl ?_
      refine zz_iload C 0 dX3_linkageOf_134 rfl ?_
      obtain ⟨x51, h52, hf⟩ := zz_bind hf
      refine zz_idiv C dX3_linkageOf_136 (zz_dv_in h52).1 ?_
      refine zz_topi (zz_dv_in h52).2 ?_
      cases hf
      exact zz_iret C dX3_linkageOf_137 (And.intro rfl rfl) (Nat.le_of_ble_eq_true rfl) (Nat.le_of_ble_eq_true rfl)
  · rw [if_pos g45] at hf
    refine zz_iconst (v := (0 : Int32)) C dX3_linkageOf_122 (by decide) ?_
    cases hf
    exact zz_iret C dX3_linkageOf_123 (And.intro rfl rfl) (Nat.le_of_ble_eq_true rfl) (Nat.le_of_ble_eq_true rfl)
theorem dX3_join_0 : decode cX3_join 0 = .ok (.aload_n 0, 1) := by decide +kernel
theorem dX3_join_1 : decode cX3_join 1 = .ok (.getfield 18, 3) := by decide +kernel
theorem dX3_join_4 : decode cX3_join 4 = .ok (.iload_n 1, 1) := by decide +kernel
theorem dX3_join_5 : decode cX3_join 5 = .ok (.dup2, 1) := by decide +kernel
theorem dX3_join_6 : decode cX3_join 6 = .ok (.iaload, 1) := by decide +kernel
theorem dX3_join_7 : decode cX3_join 7 = .ok (.aload_n 0, 1) := by decide +kernel
theorem dX3_join_8 : decode cX3_join 8 = .ok (.getfield 18, 3) := by decide +kernel
theorem dX3_join_11 : decode cX3_join 11 = .ok (.iload_n 2, 1) := by decide +kernel
theorem dX3_join_12 : decode cX3_join 12 = .ok (.iaload, 1) := by decide +kernel
theorem dX3_join_13 : decode cX3_join 13 = .ok (.ior, 1) := by decide +kernel
theorem dX3_join_14 : decode cX3_join 14 = .ok (.iastore, 1) := by decide +kernel
theorem dX3_join_15 : decode cX3_join 15 = .ok (.iload_n 2, 1) := by decide +kernel
theorem dX3_join_16 : decode cX3_join 16 = .ok (.iconst 1, 1) := by decide +kernel
theorem dX3_join_17 : decode cX3_join 17 = .ok (.iadd, 1) := by decide +kernel
theorem dX3_join_18 : decode cX3_join 18 = .ok (.istore_n 3, 1) := by decide +kernel
theorem dX3_join_19 : decode cX3_join 19 = .ok (.iload_n 3, 1) := by decide +kernel
theorem dX3_join_20 : decode cX3_join 20 = .ok (.aload_n 0, 1) := by decide +kernel
theorem dX3_join_21 : decode cX3_join 21 = .ok (.getfield 49, 3) := by decide +kernel
theorem dX3_join_24 : decode cX3_join 24 = .ok (.if_icmp .ge 23, 3) := by decide +kernel
theorem dX3_join_27 : decode cX3_join 27 = .ok (.aload_n 0, 1) := by decide +kernel
theorem dX3_join_28 : decode cX3_join 28 = .ok (.getfield 18, 3) := by decide +kernel
theorem dX3_join_31 : decode cX3_join 31 = .ok (.iload_n 3, 1) := by decide +kernel
theorem dX3_join_32 : decode cX3_join 32 = .ok (.iconst 1, 1) := by decide +kernel
theorem dX3_join_33 : decode cX3_join 33 = .ok (.isub, 1) := by decide +kernel
theorem dX3_join_34 : decode cX3_join 34 = .ok (.aload_n 0, 1) := by decide +kernel
theorem dX3_join_35 : decode cX3_join 35 = .ok (.getfield 18, 3) := by decide +kernel
theorem dX3_join_38 : decode cX3_join 38 = .ok (.iload_n 3, 1) := by decide +kernel
theorem dX3_join_39 : decode cX3_join 39 = .ok (.iaload, 1) := by decide +kernel
theorem dX3_join_40 : decode cX3_join 40 = .ok (.iastore, 1) := by decide +kernel
theorem dX3_join_41 : decode cX3_join 41 = .ok (.iinc 3 1, 3) := by decide +kernel
theorem dX3_join_44 : decode cX3_join 44 = .ok (.goto (-25), 3) := by decide +kernel
theorem dX3_join_47 : decode cX3_join 47 = .ok (.aload_n 0, 1) := by decide +kernel
theorem dX3_join_48 : decode cX3_join 48 = .ok (.dup, 1) := by decide +kernel
theorem dX3_join_49 : decode cX3_join 49 = .ok (.getfield 49, 3) := by decide +kernel
theorem dX3_join_52 : decode cX3_join 52 = .ok (.iconst 1, 1) := by decide +kernel
theorem dX3_join_53 : decode cX3_join 53 = .ok (.isub, 1) := by decide +kernel
theorem dX3_join_54 : decode cX3_join 54 = .ok (.putfield 49, 3) := by decide +kernel
theorem dX3_join_57 : decode cX3_join 57 = .ok (.return_, 1) := by decide +kernel
set_option maxHeartbeats 4000000 in
set_option maxRecDepth 100000 in
theorem mX3_join_L1 {p : Program} {l : Launch} {e : Env} {R : Room} {s : State} {m : MethodId} {args : Array Value} {below : List Frame} {meth : Method} {c : Code} {Q : State → Prop} {D : va_G} {U : zz_U} {A : Nat → Prop} {cells slots : Nat} {ad : Nat → Nat} {X : va_W} (C : zz_C p l R s m meth c D U A RX3 cX3_join 4 none [] 0) (hcR : cells ≤ R.cells) (hsR : slots ≤ R.slots) (first_ : Int32) (second_ : Int32) : ∀ (n : Nat) (later_ : Int32) (σ : zz_St) (q : (Int32 × zz_St)), fX3_join_L1 first_ second_ n later_ σ = some q → (zz_Z p l e R s m args below meth c Q D A 4 cells slots (zz_wc U ad q.2 X) 47 [(0, .ref (ad 24)), (1, .int first_), (2, .int second_), (3, .int q.1)] []) → zz_Z p l e R s m args below meth c Q D A 4 cells slots (zz_wc U ad σ X) 19 [(0, .ref (ad 24)), (1, .int first_), (2, .int second_), (3, .int later_)] [] := by
  intro n
  induction n with
  | zero => intro later_ σ q hf; rw [fX3_join_L1] at hf; cases hf
  | succ n ih =>
    intro later_ σ q hf kx
    rw [fX3_join_L1] at hf
    refine zz_iload_n C 3 dX3_join_19 rfl rfl ?_
    refine zz_aload_n C 0 dX3_join_20 rfl rfl ?_
    refine zf3_count C dX3_join_21 zw_54 ?_
    refine zz_icmp_ge (tgt := 47) C dX3_join_24 (by decide) (fun g9 => ?_) (fun g9 => ?_)
    · rw [if_pos g9] at hf
      cases hf
      exact kx
    · rw [if_neg g9] at hf
      refine zz_aload_n C 0 dX3_join_27 rfl rfl ?_
      refine zf3_sets C dX3_join_28 zw_55 ?_
      refine zz_iload_n C 3 dX3_join_31 rfl rfl ?_
      refine zz_iconst (v := (1 : Int32)) C dX3_join_32 (by decide) ?_
      refine zz_isub C dX3_join_33 ?_
      refine zz_aload_n C 0 dX3_join_34 rfl rfl ?_
      refine zf3_sets C dX3_join_35 zw_55 ?_
      refine zz_iload_n C 3 dX3_join_38 rfl rfl ?_
      obtain ⟨x10, h11, hf⟩ := zz_bind hf
      refine zl_25 C dX3_join_39 h11 ?_
      obtain ⟨σ12, h13, hf⟩ := zz_bind hf
      refine zs_25 C dX3_join_40 h13 ?_
      refine zz_iinc (v := (later_ + (1 : Int32))) C 3 dX3_join_41 rfl (by rfl) (by decide) (lv' := [(3, .int (later_ + (1 : Int32))), (0, .ref (ad 24)), (1, .int first_), (2, .int second_)]) rfl ?_
      refine zz_goto (tgt := 19) C dX3_join_44 (by decide) ?_
      refine zz_sub [1, 2, 3, 0] rfl ?_
      exact ih (later_ + (1 : Int32)) σ12 _ hf kx
set_option maxHeartbeats 4000000 in
set_option maxRecDepth 100000 in
theorem mX3_join {D : va_G} {U : zz_U} {ad : Nat → Nat} {X : va_W} (σ : zz_St) (first_ : Int32) (second_ : Int32) (r : zz_St) (hf : fX3_join σ first_ second_ = some r) : zz_Met yX3_join (.code yX3_join cX3_join 4 none) 0 0 0 D U [.ref (ad 24), .int first_, .int second_] (zz_wc U ad σ X) (zz_ok none (zz_wc U ad r X)) zz_noth := by
  unfold fX3_join at hf
  refine zz_method RX3 rfl (by decide +kernel) (Nat.le_of_ble_eq_true rfl) ?_
  intro p l e s m args below meth c A _ C
  refine zz_lvs (lv1 := [(0, .ref (ad 24)), (1, .int first_), (2, .int second_)]) rfl ?_
  refine zz_aload_n C 0 dX3_join_0 rfl rfl ?_
  refine zf3_sets C dX3_join_1 zw_55 ?_
  refine zz_iload_n C 1 dX3_join_4 rfl rfl ?_
  refine zz_dup2_11 C dX3_join_5 rfl rfl ?_
  obtain ⟨x1, h2, hf⟩ := zz_bind hf
  refine zl_25 C dX3_join_6 h2 ?_
  refine zz_aload_n C 0 dX3_join_7 rfl rfl ?_
  refine zf3_sets C dX3_join_8 zw_55 ?_
  refine zz_iload_n C 2 dX3_join_11 rfl rfl ?_
  obtain ⟨x3, h4, hf⟩ := zz_bind hf
  refine zl_25 C dX3_join_12 h4 ?_
  refine zz_ior C dX3_join_13 ?_
  obtain ⟨σ5, h6, hf⟩ := zz_bind hf
  refine zs_25 C dX3_join_14 h6 ?_
  refine zz_iload_n C 2 dX3_join_15 rfl rfl ?_
  refine zz_iconst (v := (1 : Int32)) C dX3_join_16 (by decide) ?_
  refine zz_iadd C dX3_join_17 ?_
  obtain ⟨x7, h8, hf⟩ := zz_bind hf
  refine zz_topi (Option.some.inj h8) ?_
  refine zz_istore_n C dX3_join_18 rfl (by decide) (lv' := [(3, .int x7), (0, .ref (ad 24)), (1, .int first_), (2, .int second_)]) rfl ?_
  obtain ⟨q14, h15, hf⟩ := zz_bind hf
  refine zz_sub [1, 2, 3, 0] rfl ?_
  refine mX3_join_L1 C (Nat.le_of_ble_eq_true rfl) (Nat.le_of_ble_eq_true rfl) first_ second_ 1000 x7 σ5 q14 h15 ?_
  refine zz_aload_n C 0 dX3_join_47 rfl rfl ?_
  refine zz_dup C dX3_join_48 rfl ?_
  refine zf3_count C dX3_join_49 zw_54 ?_
  refine zz_iconst (v := (1 : Int32)) C dX3_join_52 (by decide) ?_
  refine zz_isub C dX3_join_53 ?_
  refine zp3_count C dX3_join_54 zw_54 ?_
  cases hf
  exact zz_vret C dX3_join_57 (And.intro rfl rfl) (Nat.le_of_ble_eq_true rfl) (Nat.le_of_ble_eq_true rfl)
theorem dX3_joinNearest_0 : decode cX3_joinNearest 0 = .ok (.iconst (-1), 1) := by decide +kernel
theorem dX3_joinNearest_1 : decode cX3_joinNearest 1 = .ok (.istore_n 2, 1) := by decide +kernel
theorem dX3_joinNearest_2 : decode cX3_joinNearest 2 = .ok (.iconst 0, 1) := by decide +kernel
theorem dX3_joinNearest_3 : decode cX3_joinNearest 3 = .ok (.istore_n 3, 1) := by decide +kernel
theorem dX3_joinNearest_4 : decode cX3_joinNearest 4 = .ok (.iconst 0, 1) := by decide +kernel
theorem dX3_joinNearest_5 : decode cX3_joinNearest 5 = .ok (.istore 4, 2) := by decide +kernel
theorem dX3_joinNearest_7 : decode cX3_joinNearest 7 = .ok (.iconst 0, 1) := by decide +kernel
theorem dX3_joinNearest_8 : decode cX3_joinNearest 8 = .ok (.istore 5, 2) := by decide +kernel
theorem dX3_joinNearest_10 : decode cX3_joinNearest 10 = .ok (.iload 5, 2) := by decide +kernel
theorem dX3_joinNearest_12 : decode cX3_joinNearest 12 = .ok (.aload_n 0, 1) := by decide +kernel
theorem dX3_joinNearest_13 : decode cX3_joinNearest 13 = .ok (.getfield 49, 3) := by decide +kernel
theorem dX3_joinNearest_16 : decode cX3_joinNearest 16 = .ok (.if_icmp .ge 91, 3) := by decide +kernel
theorem dX3_joinNearest_19 : decode cX3_joinNearest 19 = .ok (.iload 5, 2) := by decide +kernel
theorem dX3_joinNearest_21 : decode cX3_joinNearest 21 = .ok (.iconst 1, 1) := by decide +kernel
theorem dX3_joinNearest_22 : decode cX3_joinNearest 22 = .ok (.iadd, 1) := by decide +kernel
theorem dX3_joinNearest_23 : decode cX3_joinNearest 23 = .ok (.istore 6, 2) := by decide +kernel
theorem dX3_joinNearest_25 : decode cX3_joinNearest 25 = .ok (.iload 6, 2) := by decide +kernel
theorem dX3_joinNearest_27 : decode cX3_joinNearest 27 = .ok (.aload_n 0, 1) := by decide +kernel
theorem dX3_joinNearest_28 : decode cX3_joinNearest 28 = .ok (.getfield 49, 3) := by decide +kernel
theorem dX3_joinNearest_31 : decode cX3_joinNearest 31 = .ok (.if_icmp .ge 70, 3) := by decide +kernel
theorem dX3_joinNearest_34 : decode cX3_joinNearest 34 = .ok (.aload_n 1, 1) := by decide +kernel
theorem dX3_joinNearest_35 : decode cX3_joinNearest 35 = .ok (.aload_n 0, 1) := by decide +kernel
theorem dX3_joinNearest_36 : decode cX3_joinNearest 36 = .ok (.getfield 18, 3) := by decide +kernel
theorem dX3_joinNearest_39 : decode cX3_joinNearest 39 = .ok (.iload 5, 2) := by decide +kernel
theorem dX3_joinNearest_41 : decode cX3_joinNearest 41 = .ok (.iaload, 1) := by decide +kernel
theorem dX3_joinNearest_42 : decode cX3_joinNearest 42 = .ok (.aload_n 0, 1) := by decide +kernel
theorem dX3_joinNearest_43 : decode cX3_joinNearest 43 = .ok (.getfield 18, 3) := by decide +kernel
theorem dX3_joinNearest_46 : decode cX3_joinNearest 46 = .ok (.iload 6, 2) := by decide +kernel
theorem dX3_joinNearest_48 : decode cX3_joinNearest 48 = .ok (.iaload, 1) := by decide +kernel
theorem dX3_joinNearest_49 : decode cX3_joinNearest 49 = .ok (.invokevirtual 56, 3) := by decide +kernel
theorem dX3_joinNearest_52 : decode cX3_joinNearest 52 = .ok (.ifCond .eq 7, 3) := by decide +kernel
theorem dX3_joinNearest_55 : decode cX3_joinNearest 55 = .ok (.iconst (-1), 1) := by decide +kernel
theorem dX3_joinNearest_56 : decode cX3_joinNearest 56 = .ok (.goto 21, 3) := by decide +kernel
theorem dX3_joinNearest_59 : decode cX3_joinNearest 59 = .ok (.aload_n 0, 1) := by decide +kernel
theorem dX3_joinNearest_60 : decode cX3_joinNearest 60 = .ok (.aload_n 0, 1) := by decide +kernel
theorem dX3_joinNearest_61 : decode cX3_joinNearest 61 = .ok (.getfield 18, 3) := by decide +kernel
theorem dX3_joinNearest_64 : decode cX3_joinNearest 64 = .ok (.iload 5, 2) := by decide +kernel
theorem dX3_joinNearest_66 : decode cX3_joinNearest 66 = .ok (.iaload, 1) := by decide +kernel
theorem dX3_joinNearest_67 : decode cX3_joinNearest 67 = .ok (.aload_n 0, 1) := by decide +kernel
theorem dX3_joinNearest_68 : decode cX3_joinNearest 68 = .ok (.getfield 18, 3) := by decide +kernel
theorem dX3_joinNearest_71 : decode cX3_joinNearest 71 = .ok (.iload 6, 2) := by decide +kernel
theorem dX3_joinNearest_73 : decode cX3_joinNearest 73 = .ok (.iaload, 1) := by decide +kernel
theorem dX3_joinNearest_74 : decode cX3_joinNearest 74 = .ok (.invokevirtual 60, 3) := by decide +kernel
theorem dX3_joinNearest_77 : decode cX3_joinNearest 77 = .ok (.istore 7, 2) := by decide +kernel
theorem dX3_joinNearest_79 : decode cX3_joinNearest 79 = .ok (.iload 7, 2) := by decide +kernel
theorem dX3_joinNearest_81 : decode cX3_joinNearest 81 = .ok (.iload_n 2, 1) := by decide +kernel
theorem dX3_joinNearest_82 : decode cX3_joinNearest 82 = .ok (.if_icmp .le 13, 3) := by decide +kernel
theorem dX3_joinNearest_85 : decode cX3_joinNearest 85 = .ok (.iload 7, 2) := by decide +kernel
theorem dX3_joinNearest_87 : decode cX3_joinNearest 87 = .ok (.istore_n 2, 1) := by decide +kernel
theorem dX3_joinNearest_88 : decode cX3_joinNearest 88 = .ok (.iload 5, 2) := by decide +kernel
theorem dX3_joinNearest_90 : decode cX3_joinNearest 90 = .ok (.istore_n 3, 1) := by decide +kernel
theorem dX3_joinNearest_91 : decode cX3_joinNearest 91 = .ok (.iload 6, 2) := by decide +kernel
theorem dX3_joinNearest_93 : decode cX3_joinNearest 93 = .ok (.istore 4, 2) := by decide +kernel
theorem dX3_joinNearest_95 : decode cX3_joinNearest 95 = .ok (.iinc 6 1, 3) := by decide +kernel
theorem dX3_joinNearest_98 : decode cX3_joinNearest 98 = .ok (.goto (-73), 3) := by decide +kernel
theorem dX3_joinNearest_101 : decode cX3_joinNearest 101 = .ok (.iinc 5 1, 3) := by decide +kernel
theorem dX3_joinNearest_104 : decode cX3_joinNearest 104 = .ok (.goto (-94), 3) := by decide +kernel
theorem dX3_joinNearest_107 : decode cX3_joinNearest 107 = .ok (.iload_n 2, 1) := by decide +kernel
theorem dX3_joinNearest_108 : decode cX3_joinNearest 108 = .ok (.aload_n 0, 1) := by decide +kernel
theorem dX3_joinNearest_109 : decode cX3_joinNearest 109 = .ok (.getfield 9, 3) := by decide +kernel
theorem dX3_joinNearest_112 : decode cX3_joinNearest 112 = .ok (.if_icmp .ge 5, 3) := by decide +kernel
theorem dX3_joinNearest_115 : decode cX3_joinNearest 115 = .ok (.iconst 0, 1) := by decide +kernel
theorem dX3_joinNearest_116 : decode cX3_joinNearest 116 = .ok (.ireturn, 1) := by decide +kernel
theorem dX3_joinNearest_117 : decode cX3_joinNearest 117 = .ok (.aload_n 0, 1) := by decide +kernel
theorem dX3_joinNearest_118 : decode cX3_joinNearest 118 = .ok (.iload_n 3, 1) := by decide +kernel
theorem dX3_joinNearest_119 : decode cX3_joinNearest 119 = .ok (.iload 4, 2) := by decide +kernel
theorem dX3_joinNearest_121 : decode cX3_joinNearest 121 = .ok (.invokevirtual 64, 3) := by decide +kernel
theorem dX3_joinNearest_124 : decode cX3_joinNearest 124 = .ok (.aload_n 0, 1) := by decide +kernel
theorem dX3_joinNearest_125 : decode cX3_joinNearest 125 = .ok (.iload_n 2, 1) := by decide +kernel
theorem dX3_joinNearest_126 : decode cX3_joinNearest 126 = .ok (.putfield 42, 3) := by decide +kernel
theorem dX3_joinNearest_129 : decode cX3_joinNearest 129 = .ok (.iconst 1, 1) := by decide +kernel
theorem dX3_joinNearest_130 : decode cX3_joinNearest 130 = .ok (.ireturn, 1) := by decide +kernel
set_option maxHeartbeats 4000000 in
set_option maxRecDepth 100000 in
theorem mX3_joinNearest_L2 {p : Program} {l : Launch} {e : Env} {R : Room} {s : State} {m : MethodId} {args : Array Value} {below : List Frame} {meth : Method} {c : Code} {Q : State → Prop} {D : va_G} {U : zz_U} {A : Nat → Prop} {cells slots : Nat} {ad : Nat → Nat} {X : va_W} (C : zz_C p l R s m meth c D U A RX3 cX3_joinNearest 8 (some .boolean) [] 2) (hcR : cells ≤ R.cells) (hsR : slots ≤ R.slots) (σ : zz_St) (a_ : Int32) : ∀ (n : Nat) (greatest_ : Int32) (first_ : Int32) (second_ : Int32) (b_ : Int32) (q : (Int32 × Int32 × Int32 × Int32)), fX3_joinNearest_L2 σ a_ n greatest_ first_ second_ b_ = some q → (zz_Z p l e R s m args below meth c Q D A 8 cells slots (zz_wc U ad σ X) 101 [(0, .ref (ad 24)), (1, .ref (ad 21)), (2, .int q.1), (3, .int q.2.1), (4, .int q.2.2.1), (5, .int a_), (6, .int q.2.2.2)] []) → zz_Z p l e R s m args below meth c Q D A 8 cells slots (zz_wc U ad σ X) 25 [(0, .ref (ad 24)), (1, .ref (ad 21)), (2, .int greatest_), (3, .int first_), (4, .int second_), (5, .int a_), (6, .int b_)] [] := by
  intro n
  induction n with
  | zero => intro greatest_ first_ second_ b_ q hf; rw [fX3_joinNearest_L2] at hf; cases hf
  | succ n ih =>
    intro greatest_ first_ second_ b_ q hf kx
    rw [fX3_joinNearest_L2] at hf
    refine zz_iload C 6 dX3_joinNearest_25 rfl ?_
    refine zz_aload_n C 0 dX3_joinNearest_27 rfl rfl ?_
    refine zf3_count C dX3_joinNearest_28 zw_54 ?_
    refine zz_icmp_ge (tgt := 101) C dX3_joinNearest_31 (by decide) (fun g4 => ?_) (fun g4 => ?_)
    · rw [if_pos g4] at hf
      cases hf
      exact kx
    · rw [if_neg g4] at hf
      obtain ⟨x5, h6, hf⟩ := zz_bind hf
      refine zz_cut 77 [(0, .ref (ad 24)), (1, .ref (ad 21)), (2, .int greatest_), (3, .int first_), (4, .int second_), (5, .int a_), (6, .int b_)] [.int x5] (zz_wc U ad σ X) ?_ (fun J7 => ?_)
      · refine zz_istore C dX3_joinNearest_77 (by decide) (lv' := [(7, .int x5), (0, .ref (ad 24)), (1, .ref (ad 21)), (2, .int greatest_), (3, .int first_), (4, .int second_), (5, .int a_), (6, .int b_)]) rfl ?_
        obtain ⟨x21, h22, hf⟩ := zz_bind hf
        refine zz_cut 95 [(0, .ref (ad 24)), (1, .ref (ad 21)), (2, .int x21.1), (3, .int x21.2.1), (4, .int x21.2.2), (5, .int a_), (6, .int b_), (7, .int x5)] [] (zz_wc U ad σ X) ?_ (fun J23 => ?_)
        · refine zz_iinc (v := (b_ + (1 : Int32))) C 6 dX3_joinNearest_95 rfl (by rfl) (by decide) (lv' := [(6, .int (b_ + (1 : Int32))), (0, .ref (ad 24)), (1, .ref (ad 21)), (2, .int x21.1), (3, .int x21.2.1), (4, .int x21.2.2), (5, .int a_), (7, .int x5)]) rfl ?_
          refine zz_goto (tgt := 25) C dX3_joinNearest_98 (by decide) ?_
          refine zz_sub [1, 2, 3, 4, 5, 6, 0] rfl ?_
          exact ih x21.1 x21.2.1 x21.2.2 (b_ + (1 : Int32)) _ hf kx
        refine zz_iload C 0 dX3_joinNearest_79 rfl ?_
        refine zz_iload_n C 3 dX3_joinNearest_81 rfl rfl ?_
        refine zz_icmp_le (tgt := 95) C dX3_joinNearest_82 (by decide) (fun g24 => ?_) (fun g24 => ?_)
        · rw [if_pos g24] at h22
          refine zz_sub [1, 2, 3, 4, 5, 6, 7, 0] rfl ?_
          cases h22
          exact J23
        · rw [if_neg g24] at h22
          refine zz_iload C 0 dX3_joinNearest_85 rfl ?_
          refine zz_istore_n C dX3_joinNearest_87 rfl (by decide) (lv' := [(2, .int x5), (7, .int x5), (0, .ref (ad 24)), (1, .ref (ad 21)), (3, .int first_), (4, .int second_), (5, .int a_), (6, .int b_)]) rfl ?_
          refine zz_iload C 6 dX3_joinNearest_88 rfl ?_
          refine zz_istore_n C dX3_joinNearest_90 rfl (by decide) (lv' := [(3, .int a_), (2, .int x5), (7, .int x5), (0, .ref (ad 24)), (1, .ref (ad 21)), (4, .int second_), (5, .int a_), (6, .int b_)]) rfl ?_
          refine zz_iload C 7 dX3_joinNearest_91 rfl ?_
          refine zz_istore C dX3_joinNearest_93 (by decide) (lv' := [(4, .int b_), (3, .int a_), (2, .int x5), (7, .int x5), (0, .ref (ad 24)), (1, .ref (ad 21)), (5, .int a_), (6, .int b_)]) rfl ?_
          refine zz_sub [4, 5, 2, 1, 0, 6, 7, 3] rfl ?_
          cases h22
          exact J23
      refine zz_aload_n C 1 dX3_joinNearest_34 rfl rfl ?_
      refine zz_aload_n C 0 dX3_joinNearest_35 rfl rfl ?_
      refine zf3_sets C dX3_joinNearest_36 zw_55 ?_
      refine zz_iload C 5 dX3_joinNearest_39 rfl ?_
      obtain ⟨x8, h9, h6⟩ := zz_bind h6
      refine zl_25 C dX3_joinNearest_41 h9 ?_
      refine zz_aload_n C 0 dX3_joinNearest_42 rfl rfl ?_
      refine zf3_sets C dX3_joinNearest_43 zw_55 ?_
      refine zz_iload C 6 dX3_joinNearest_46 rfl ?_
      obtain ⟨x10, h11, h6⟩ := zz_bind h6
      refine zl_25 C dX3_joinNearest_48 h11 ?_
      obtain ⟨x12, h13, h6⟩ := zz_bind h6
      refine zz_callV1 (As := [.int x8, .int x10]) (rest := []) C 21 (mX6_isForbidden σ x8 x10 x12 h13) dX3_joinNearest_49 rfl rfl rfl zw_63 zy_X6_isForbidden rfl (by decide) (by decide) (Nat.le_of_ble_eq_true rfl) hcR hsR rfl ?_
      refine zz_if_eq (tgt := 59) C dX3_joinNearest_52 (by decide) (fun g14 => ?_) (fun g14 => ?_)
      · rw [if_pos g14] at h6
        refine zz_aload_n C 0 dX3_joinNearest_59 rfl rfl ?_
        refine zz_aload_n C 0 dX3_joinNearest_60 rfl rfl ?_
        refine zf3_sets C dX3_joinNearest_61 zw_55 ?_
        refine zz_iload C 5 dX3_joinNearest_64 rfl ?_
        obtain ⟨x15, h16, h6⟩ := zz_bind h6
        refine zl_25 C dX3_joinNearest_66 h16 ?_
        refine zz_aload_n C 0 dX3_joinNearest_67 rfl rfl ?_
        refine zf3_sets C dX3_joinNearest_68 zw_55 ?_
        refine zz_iload C 6 dX3_joinNearest_71 rfl ?_
        obtain ⟨x17, h18, h6⟩ := zz_bind h6
        refine zl_25 C dX3_joinNearest_73 h18 ?_
        obtain ⟨x19, h20, h6⟩ := zz_bind h6
        refine zz_callV1 (As := [.int x15, .int x17]) (rest := []) C 24 (mX3_linkageOf σ x15 x17 x19 h20) dX3_joinNearest_74 rfl rfl rfl zw_62 zy_X3_linkageOf rfl (by decide) (by decide) (Nat.le_of_ble_eq_true rfl) hcR hsR rfl ?_
        cases h6
        exact J7
      · rw [if_neg g14] at h6
        refine zz_iconst (v := (-1 : Int32)) C dX3_joinNearest_55 (by decide) ?_
        refine zz_goto (tgt := 77) C dX3_joinNearest_56 (by decide) ?_
        cases h6
        exact J7
set_option maxHeartbeats 4000000 in
set_option maxRecDepth 100000 in
theorem mX3_joinNearest_L1 {p : Program} {l : Launch} {e : Env} {R : Room} {s : State} {m : MethodId} {args : Array Value} {below : List Frame} {meth : Method} {c : Code} {Q : State → Prop} {D : va_G} {U : zz_U} {A : Nat → Prop} {cells slots : Nat} {ad : Nat → Nat} {X : va_W} (C : zz_C p l R s m meth c D U A RX3 cX3_joinNearest 8 (some .boolean) [] 2) (hcR : cells ≤ R.cells) (hsR : slots ≤ R.slots) (σ : zz_St) : ∀ (n : Nat) (greatest_ : Int32) (first_ : Int32) (second_ : Int32) (a_ : Int32) (q : (Int32 × Int32 × Int32 × Int32)), fX3_joinNearest_L1 σ n greatest_ first_ second_ a_ = some q → (zz_Z p l e R s m args below meth c Q D A 8 cells slots (zz_wc U ad σ X) 107 [(0, .ref (ad 24)), (1, .ref (ad 21)), (2, .int q.1), (3, .int q.2.1), (4, .int q.2.2.1), (5, .int q.2.2.2)] []) → zz_Z p l e R s m args below meth c Q D A 8 cells slots (zz_wc U ad σ X) 10 [(0, .ref (ad 24)), (1, .ref (ad 21)), (2, .int greatest_), (3, .int first_), (4, .int second_), (5, .int a_)] [] := by
  intro n
  induction n with
  | zero => intro greatest_ first_ second_ a_ q hf; rw [fX3_joinNearest_L1] at hf; cases hf
  | succ n ih =>
    intro greatest_ first_ second_ a_ q hf kx
    rw [fX3_joinNearest_L1] at hf
    refine zz_iload C 5 dX3_joinNearest_10 rfl ?_
    refine zz_aload_n C 0 dX3_joinNearest_12 rfl rfl ?_
    refine zf3_count C dX3_joinNearest_13 zw_54 ?_
    refine zz_icmp_ge (tgt := 107) C dX3_joinNearest_16 (by decide) (fun g1 => ?_) (fun g1 => ?_)
    · rw [if_pos g1] at hf
      cases hf
      exact kx
    · rw [if_neg g1] at hf
      refine zz_iload C 5 dX3_joinNearest_19 rfl ?_
      refine zz_iconst (v := (1 : Int32)) C dX3_joinNearest_21 (by decide) ?_
      refine zz_iadd C dX3_joinNearest_22 ?_
      obtain ⟨x2, h3, hf⟩ := zz_bind hf
      refine zz_topi (Option.some.inj h3) ?_
      refine zz_istore C dX3_joinNearest_23 (by decide) (lv' := [(6, .int x2), (0, .ref (ad 24)), (1, .ref (ad 21)), (2, .int greatest_), (3, .int first_), (4, .int second_), (5, .int a_)]) rfl ?_
      obtain ⟨q25, h26, hf⟩ := zz_bind hf
      refine zz_sub [1, 2, 3, 4, 5, 6, 0] rfl ?_
      refine mX3_joinNearest_L2 C hcR hsR σ a_ 1000 greatest_ first_ second_ x2 q25 h26 ?_
      refine zz_iinc (v := (a_ + (1 : Int32))) C 5 dX3_joinNearest_101 rfl (by rfl) (by decide) (lv' := [(5, .int (a_ + (1 : Int32))), (0, .ref (ad 24)), (1, .ref (ad 21)), (2, .int q25.1), (3, .int q25.2.1), (4, .int q25.2.2.1), (6, .int q25.2.2.2)]) rfl ?_
      refine zz_goto (tgt := 10) C dX3_joinNearest_104 (by decide) ?_
      refine zz_sub [1, 2, 3, 4, 5, 0] rfl ?_
      exact ih q25.1 q25.2.1 q25.2.2.1 (a_ + (1 : Int32)) _ hf kx
set_option maxHeartbeats 4000000 in
set_option maxRecDepth 100000 in
theorem mX3_joinNearest {D : va_G} {U : zz_U} {ad : Nat → Nat} {X : va_W} (σ : zz_St) (r : (Int32 × zz_St)) (hf : fX3_joinNearest σ = some r) : zz_Met yX3_joinNearest (.code yX3_joinNearest cX3_joinNearest 8 (some .boolean)) 2 0 0 D U [.ref (ad 24), .ref (ad 21)] (zz_wc U ad σ X) (zz_ok (some (.int r.1)) (zz_wc U ad r.2 X)) zz_noth := by
  unfold fX3_joinNearest at hf
  refine zz_method RX3 rfl (by decide +kernel) (Nat.le_of_ble_eq_true rfl) ?_
  intro p l e s m args below meth c A _ C
  refine zz_lvs (lv1 := [(0, .ref (ad 24)), (1, .ref (ad 21))]) rfl ?_
  refine zz_iconst (v := (-1 : Int32)) C dX3_joinNearest_0 (by decide) ?_
  refine zz_istore_n C dX3_joinNearest_1 rfl (by decide) (lv' := [(2, .int (-1 : Int32)), (0, .ref (ad 24)), (1, .ref (ad 21))]) rfl ?_
  refine zz_iconst (v := (0 : Int32)) C dX3_joinNearest_2 (by decide) ?_
  refine zz_istore_n C dX3_joinNearest_3 rfl (by decide) (lv' := [(3, .int (0 : Int32)), (2, .int (-1 : Int32)), (0, .ref (ad 24)), (1, .ref (ad 21))]) rfl ?_
  refine zz_iconst (v := (0 : Int32)) C dX3_joinNearest_4 (by decide) ?_
  refine zz_istore C dX3_joinNearest_5 (by decide) (lv' := [(4, .int (0 : Int32)), (3, .int (0 : Int32)), (2, .int (-1 : Int32)), (0, .ref (ad 24)), (1, .ref (ad 21))]) rfl ?_
  refine zz_iconst (v := (0 : Int32)) C dX3_joinNearest_7 (by decide) ?_
  refine zz_istore C dX3_joinNearest_8 (by decide) (lv' := [(5, .int (0 : Int32)), (4, .int (0 : Int32)), (3, .int (0 : Int32)), (2, .int (-1 : Int32)), (0, .ref (ad 24)), (1, .ref (ad 21))]) rfl ?_
  obtain ⟨q27, h28, hf⟩ := zz_bind hf
  refine zz_sub [4, 5, 3, 2, 1, 0] rfl ?_
  refine mX3_joinNearest_L1 C (Nat.le_of_ble_eq_true rfl) (Nat.le_of_ble_eq_true rfl) σ 1000 (-1 : Int32) (0 : Int32) (0 : Int32) (0 : Int32) q27 h28 ?_
  refine zz_iload_n C 2 dX3_joinNearest_107 rfl rfl ?_
  refine zz_aload_n C 0 dX3_joinNearest_108 rfl rfl ?_
  refine zf3_threshold C dX3_joinNearest_109 zw_66 ?_
  refine zz_icmp_ge (tgt := 117) C dX3_joinNearest_112 (by decide) (fun g29 => ?_) (fun g29 => ?_)
  · rw [if_pos g29] at hf
    refine zz_aload_n C 0 dX3_joinNearest_117 rfl rfl ?_
    refine zz_iload_n C 3 dX3_joinNearest_118 rfl rfl ?_
    refine zz_iload C 4 dX3_joinNearest_119 rfl ?_
    obtain ⟨x30, h31, hf⟩ := zz_bind hf
    refine zz_callV1 (As := [.int q27.2.1, .int q27.2.2.1]) (rest := []) C 24 (mX3_join σ q27.2.1 q27.2.2.1 x30 h31) dX3_joinNearest_121 rfl rfl rfl zw_65 zy_X3_join rfl (by decide) (by decide) (Nat.le_of_ble_eq_true rfl) (Nat.le_of_ble_eq_true rfl) (Nat.le_of_ble_eq_true rfl) rfl ?_
    refine zz_aload_n C 0 dX3_joinNearest_124 rfl rfl ?_
    refine zz_iload_n C 2 dX3_joinNearest_125 rfl rfl ?_
    refine zp3_linkageOfLastJoin C dX3_joinNearest_126 zw_64 ?_
    refine zz_iconst (v := (1 : Int32)) C dX3_joinNearest_129 (by decide) ?_
    cases hf
    exact zz_zret C dX3_joinNearest_130 (Or.inr rfl) (And.intro rfl rfl) (Nat.le_of_ble_eq_true rfl) (Nat.le_of_ble_eq_true rfl)
  · rw [if_neg g29] at hf
    refine zz_iconst (v := (0 : Int32)) C dX3_joinNearest_115 (by decide) ?_
    cases hf
    exact zz_zret C dX3_joinNearest_116 (Or.inl rfl) (And.intro rfl rfl) (Nat.le_of_ble_eq_true rfl) (Nat.le_of_ble_eq_true rfl)
theorem dX3_build_0 : decode cX3_build 0 = .ok (.aload_n 0, 1) := by decide +kernel
theorem dX3_build_1 : decode cX3_build 1 = .ok (.iload_n 1, 1) := by decide +kernel
theorem dX3_build_2 : decode cX3_build 2 = .ok (.aload_n 2, 1) := by decide +kernel
theorem dX3_build_3 : decode cX3_build 3 = .ok (.invokevirtual 38, 3) := by decide +kernel
theorem dX3_build_6 : decode cX3_build 6 = .ok (.aload_n 0, 1) := by decide +kernel
theorem dX3_build_7 : decode cX3_build 7 = .ok (.iconst (-1), 1) := by decide +kernel
theorem dX3_build_8 : decode cX3_build 8 = .ok (.putfield 42, 3) := by decide +kernel
theorem dX3_build_11 : decode cX3_build 11 = .ok (.iconst 1, 1) := by decide +kernel
theorem dX3_build_12 : decode cX3_build 12 = .ok (.istore_n 3, 1) := by decide +kernel
theorem dX3_build_13 : decode cX3_build 13 = .ok (.iconst 0, 1) := by decide +kernel
theorem dX3_build_14 : decode cX3_build 14 = .ok (.istore 4, 2) := by decide +kernel
theorem dX3_build_16 : decode cX3_build 16 = .ok (.iload 4, 2) := by decide +kernel
theorem dX3_build_18 : decode cX3_build 18 = .ok (.bipush 14, 2) := by decide +kernel
theorem dX3_build_20 : decode cX3_build 20 = .ok (.if_icmp .ge 19, 3) := by decide +kernel
theorem dX3_build_23 : decode cX3_build 23 = .ok (.iload_n 3, 1) := by decide +kernel
theorem dX3_build_24 : decode cX3_build 24 = .ok (.ifCond .eq 15, 3) := by decide +kernel
theorem dX3_build_27 : decode cX3_build 27 = .ok (.aload_n 0, 1) := by decide +kernel
theorem dX3_build_28 : decode cX3_build 28 = .ok (.aload_n 2, 1) := by decide +kernel
theorem dX3_build_29 : decode cX3_build 29 = .ok (.invokevirtual 45, 3) := by decide +kernel
theorem dX3_build_32 : decode cX3_build 32 = .ok (.istore_n 3, 1) := by decide +kernel
theorem dX3_build_33 : decode cX3_build 33 = .ok (.iinc 4 1, 3) := by decide +kernel
theorem dX3_build_36 : decode cX3_build 36 = .ok (.goto (-20), 3) := by decide +kernel
theorem dX3_build_39 : decode cX3_build 39 = .ok (.return_, 1) := by decide +kernel
set_option maxHeartbeats 4000000 in
set_option maxRecDepth 100000 in
theorem mX3_build_L1 {p : Program} {l : Launch} {e : Env} {R : Room} {s : State} {m : MethodId} {args : Array Value} {below : List Frame} {meth : Method} {c : Code} {Q : State → Prop} {D : va_G} {U : zz_U} {A : Nat → Prop} {cells slots : Nat} {ad : Nat → Nat} {X : va_W} (C : zz_C p l R s m meth c D U A RX3 cX3_build 5 none [] 3) (hcR : cells ≤ R.cells) (hsR : slots ≤ R.slots) (pieceTotal_ : Int32) : ∀ (n : Nat) (isJoined_ : Int32) (round_ : Int32) (σ : zz_St) (q : (Int32 × Int32 × zz_St)), fX3_build_L1 pieceTotal_ n isJoined_ round_ σ = some q → (zz_Z p l e R s m args below meth c Q D A 5 cells slots (zz_wc U ad q.2.2 X) 39 [(0, .ref (ad 24)), (1, .int pieceTotal_), (2, .ref (ad 21)), (3, .int q.1), (4, .int q.2.1)] []) → zz_Z p l e R s m args below meth c Q D A 5 cells slots (zz_wc U ad σ X) 16 [(0, .ref (ad 24)), (1, .int pieceTotal_), (2, .ref (ad 21)), (3, .int isJoined_), (4, .int round_)] [] := by
  intro n
  induction n with
  | zero => intro isJoined_ round_ σ q hf; rw [fX3_build_L1] at hf; cases hf
  | succ n ih =>
    intro isJoined_ round_ σ q hf kx
    rw [fX3_build_L1] at hf
    obtain ⟨b3, h4, hf⟩ := zz_bind hf
    refine zz_cutI (P := b3 = true) 27 [(0, .ref (ad 24)), (1, .int pieceTotal_), (2, .ref (ad 21)), (3, .int isJoined_), (4, .int round_)] [] (zz_wc U ad σ X) (fun g7 => ?_) (fun J5 => ?_)
    · rw [if_pos g7] at hf
      refine zz_aload_n C 0 dX3_build_27 rfl rfl ?_
      refine zz_aload_n C 2 dX3_build_28 rfl rfl ?_
      obtain ⟨x10, h11, hf⟩ := zz_bind hf
      refine zz_callV1 (As := [.ref (ad 21)]) (rest := []) C 24 (mX3_joinNearest σ x10 h11) dX3_build_29 rfl rfl rfl zw_67 zy_X3_joinNearest rfl (by decide) (by decide) (Nat.le_of_ble_eq_true rfl) hcR hsR rfl ?_
      refine zz_istore_n C dX3_build_32 rfl (by decide) (lv' := [(3, .int x10.1), (0, .ref (ad 24)), (1, .int pieceTotal_), (2, .ref (ad 21)), (4, .int round_)]) rfl ?_
      refine zz_iinc (v := (round_ + (1 : Int32))) C 4 dX3_build_33 rfl (by rfl) (by decide) (lv' := [(4, .int (round_ + (1 : Int32))), (3, .int x10.1), (0, .ref (ad 24)), (1, .int pieceTotal_), (2, .ref (ad 21))]) rfl ?_
      refine zz_goto (tgt := 16) C dX3_build_36 (by decide) ?_
      refine zz_sub [2, 3, 4, 1, 0] rfl ?_
      exact ih x10.1 (round_ + (1 : Int32)) x10.2 _ hf kx
    refine zz_cutI (P := b3 = false) 39 [(0, .ref (ad 24)), (1, .int pieceTotal_), (2, .ref (ad 21)), (3, .int isJoined_), (4, .int round_)] [] (zz_wc U ad σ X) (fun g7 => ?_) (fun J6 => ?_)
    · rw [if_neg (show ¬ b3 = true by rw [g7]; decide)] at hf
      cases hf
      exact kx
    refine zz_iload C 4 dX3_build_16 rfl ?_
    refine zz_bipush (v := (14 : Int32)) C dX3_build_18 (by decide) ?_
    refine zz_icmp_ge (tgt := 39) C dX3_build_20 (by decide) (fun g8 => ?_) (fun g8 => ?_)
    · rw [if_pos g8] at h4
      cases h4
      exact J6 rfl
    · rw [if_neg g8] at h4
      refine zz_iload_n C 3 dX3_build_23 rfl rfl ?_
      refine zz_if_eq (tgt := 39) C dX3_build_24 (by decide) (fun g9 => ?_) (fun g9 => ?_)
      · rw [if_pos g9] at h4
        cases h4
        exact J6 rfl
      · rw [if_neg g9] at h4
        cases h4
        exact J5 rfl
set_option maxHeartbeats 4000000 in
set_option maxRecDepth 100000 in
theorem mX3_build {D : va_G} {U : zz_U} {ad : Nat → Nat} {X : va_W} (σ : zz_St) (pieceTotal_ : Int32) (r : zz_St) (hf : fX3_build σ pieceTotal_ = some r) : zz_Met yX3_build (.code yX3_build cX3_build 5 none) 3 0 0 D U [.ref (ad 24), .int pieceTotal_, .ref (ad 21)] (zz_wc U ad σ X) (zz_ok none (zz_wc U ad r X)) zz_noth := by
  unfold fX3_build at hf
  refine zz_method RX3 rfl (by decide +kernel) (Nat.le_of_ble_eq_true rfl) ?_
  intro p l e s m args below meth c A _ C
  refine zz_lvs (lv1 := [(0, .ref (ad 24)), (1, .int pieceTotal_), (2, .ref (ad 21))]) rfl ?_
  refine zz_aload_n C 0 dX3_build_0 rfl rfl ?_
  refine zz_iload_n C 1 dX3_build_1 rfl rfl ?_
  refine zz_aload_n C 2 dX3_build_2 rfl rfl ?_
  obtain ⟨x1, h2, hf⟩ := zz_bind hf
  refine zz_callV1 (As := [.int pieceTotal_, .ref (ad 21)]) (rest := []) C 24 (mX3_joinWhatMust σ pieceTotal_ x1 h2) dX3_build_3 rfl rfl rfl zw_68 zy_X3_joinWhatMust rfl (by decide) (by decide) (Nat.le_of_ble_eq_true rfl) (Nat.le_of_ble_eq_true rfl) (Nat.le_of_ble_eq_true rfl) rfl ?_
  refine zz_aload_n C 0 dX3_build_6 rfl rfl ?_
  refine zz_iconst (v := (-1 : Int32)) C dX3_build_7 (by decide) ?_
  refine zp3_linkageOfLastJoin C dX3_build_8 zw_64 ?_
  refine zz_iconst (v := (1 : Int32)) C dX3_build_11 (by decide) ?_
  refine zz_istore_n C dX3_build_12 rfl (by decide) (lv' := [(3, .int (1 : Int32)), (0, .ref (ad 24)), (1, .int pieceTotal_), (2, .ref (ad 21))]) rfl ?_
  refine zz_iconst (v := (0 : Int32)) C dX3_build_13 (by decide) ?_
  refine zz_istore C dX3_build_14 (by decide) (lv' := [(4, .int (0 : Int32)), (3, .int (1 : Int32)), (0, .ref (ad 24)), (1, .int pieceTotal_), (2, .ref (ad 21))]) rfl ?_
  obtain ⟨q12, h13, hf⟩ := zz_bind hf
  refine zz_sub [2, 3, 4, 1, 0] rfl ?_
  refine mX3_build_L1 C (Nat.le_of_ble_eq_true rfl) (Nat.le_of_ble_eq_true rfl) pieceTotal_ 1000 (1 : Int32) (0 : Int32) (zz_u x1 24 3 (-1 : Int32)) q12 h13 ?_
  cases hf
  exact zz_vret C dX3_build_39 (And.intro rfl rfl) (Nat.le_of_ble_eq_true rfl) (Nat.le_of_ble_eq_true rfl)
theorem dX5_isNeeded_0 : decode cX5_isNeeded 0 = .ok (.aload_n 0, 1) := by decide +kernel
theorem dX5_isNeeded_1 : decode cX5_isNeeded 1 = .ok (.getfield 29, 3) := by decide +kernel
theorem dX5_isNeeded_4 : decode cX5_isNeeded 4 = .ok (.iconst 2, 1) := by decide +kernel
theorem dX5_isNeeded_5 : decode cX5_isNeeded 5 = .ok (.aaload, 1) := by decide +kernel
theorem dX5_isNeeded_6 : decode cX5_isNeeded 6 = .ok (.iload_n 1, 1) := by decide +kernel
theorem dX5_isNeeded_7 : decode cX5_isNeeded 7 = .ok (.iaload, 1) := by decide +kernel
theorem dX5_isNeeded_8 : decode cX5_isNeeded 8 = .ok (.aload_n 0, 1) := by decide +kernel
theorem dX5_isNeeded_9 : decode cX5_isNeeded 9 = .ok (.getfield 29, 3) := by decide +kernel
theorem dX5_isNeeded_12 : decode cX5_isNeeded 12 = .ok (.iconst 0, 1) := by decide +kernel
theorem dX5_isNeeded_13 : decode cX5_isNeeded 13 = .ok (.aaload, 1) := by decide +kernel
theorem dX5_isNeeded_14 : decode cX5_isNeeded 14 = .ok (.iload_n 2, 1) := by decide +kernel
theorem dX5_isNeeded_15 : decode cX5_isNeeded 15 = .ok (.iaload, 1) := by decide +kernel
theorem dX5_isNeeded_16 : decode cX5_isNeeded 16 = .ok (.iand, 1) := by decide +kernel
theorem dX5_isNeeded_17 : decode cX5_isNeeded 17 = .ok (.iload_n 3, 1) := by decide +kernel
theorem dX5_isNeeded_18 : decode cX5_isNeeded 18 = .ok (.iconst (-1), 1) := by decide +kernel
theorem dX5_isNeeded_19 : decode cX5_isNeeded 19 = .ok (.ixor, 1) := by decide +kernel
theorem dX5_isNeeded_20 : decode cX5_isNeeded 20 = .ok (.iand, 1) := by decide +kernel
theorem dX5_isNeeded_21 : decode cX5_isNeeded 21 = .ok (.istore 4, 2) := by decide +kernel
theorem dX5_isNeeded_23 : decode cX5_isNeeded 23 = .ok (.aload_n 0, 1) := by decide +kernel
theorem dX5_isNeeded_24 : decode cX5_isNeeded 24 = .ok (.getfield 29, 3) := by decide +kernel
theorem dX5_isNeeded_27 : decode cX5_isNeeded 27 = .ok (.iconst 1, 1) := by decide +kernel
theorem dX5_isNeeded_28 : decode cX5_isNeeded 28 = .ok (.aaload, 1) := by decide +kernel
theorem dX5_isNeeded_29 : decode cX5_isNeeded 29 = .ok (.iload_n 1, 1) := by decide +kernel
theorem dX5_isNeeded_30 : decode cX5_isNeeded 30 = .ok (.iaload, 1) := by decide +kernel
theorem dX5_isNeeded_31 : decode cX5_isNeeded 31 = .ok (.aload_n 0, 1) := by decide +kernel
theorem dX5_isNeeded_32 : decode cX5_isNeeded 32 = .ok (.getfield 29, 3) := by decide +kernel
theorem dX5_isNeeded_35 : decode cX5_isNeeded 35 = .ok (.iconst 3, 1) := by decide +kernel
theorem dX5_isNeeded_36 : decode cX5_isNeeded 36 = .ok (.aaload, 1) := by decide +kernel
theorem dX5_isNeeded_37 : decode cX5_isNeeded 37 = .ok (.iload_n 2, 1) := by decide +kernel
theorem dX5_isNeeded_38 : decode cX5_isNeeded 38 = .ok (.iaload, 1) := by decide +kernel
theorem dX5_isNeeded_39 : decode cX5_isNeeded 39 = .ok (.iand, 1) := by decide +kernel
theorem dX5_isNeeded_40 : decode cX5_isNeeded 40 = .ok (.istore 5, 2) := by decide +kernel
theorem dX5_isNeeded_42 : decode cX5_isNeeded 42 = .ok (.aload_n 0, 1) := by decide +kernel
theorem dX5_isNeeded_43 : decode cX5_isNeeded 43 = .ok (.getfield 29, 3) := by decide +kernel
theorem dX5_isNeeded_46 : decode cX5_isNeeded 46 = .ok (.iconst 0, 1) := by decide +kernel
theorem dX5_isNeeded_47 : decode cX5_isNeeded 47 = .ok (.aaload, 1) := by decide +kernel
theorem dX5_isNeeded_48 : decode cX5_isNeeded 48 = .ok (.iload_n 1, 1) := by decide +kernel
theorem dX5_isNeeded_49 : decode cX5_isNeeded 49 = .ok (.iaload, 1) := by decide +kernel
theorem dX5_isNeeded_50 : decode cX5_isNeeded 50 = .ok (.aload_n 0, 1) := by decide +kernel
theorem dX5_isNeeded_51 : decode cX5_isNeeded 51 = .ok (.getfield 29, 3) := by decide +kernel
theorem dX5_isNeeded_54 : decode cX5_isNeeded 54 = .ok (.iconst 1, 1) := by decide +kernel
theorem dX5_isNeeded_55 : decode cX5_isNeeded 55 = .ok (.aaload, 1) := by decide +kernel
theorem dX5_isNeeded_56 : decode cX5_isNeeded 56 = .ok (.iload_n 2, 1) := by decide +kernel
theorem dX5_isNeeded_57 : decode cX5_isNeeded 57 = .ok (.iaload, 1) := by decide +kernel
theorem dX5_isNeeded_58 : decode cX5_isNeeded 58 = .ok (.iand, 1) := by decide +kernel
theorem dX5_isNeeded_59 : decode cX5_isNeeded 59 = .ok (.istore 6, 2) := by decide +kernel
theorem dX5_isNeeded_61 : decode cX5_isNeeded 61 = .ok (.iload 4, 2) := by decide +kernel
theorem dX5_isNeeded_63 : decode cX5_isNeeded 63 = .ok (.iload 5, 2) := by decide +kernel
theorem dX5_isNeeded_65 : decode cX5_isNeeded 65 = .ok (.ior, 1) := by decide +kernel
theorem dX5_isNeeded_66 : decode cX5_isNeeded 66 = .ok (.iload 6, 2) := by decide +kernel
theorem dX5_isNeeded_68 : decode cX5_isNeeded 68 = .ok (.ior, 1) := by decide +kernel
theorem dX5_isNeeded_69 : decode cX5_isNeeded 69 = .ok (.ifCond .eq 7, 3) := by decide +kernel
theorem dX5_isNeeded_72 : decode cX5_isNeeded 72 = .ok (.iconst 1, 1) := by decide +kernel
theorem dX5_isNeeded_73 : decode cX5_isNeeded 73 = .ok (.goto 4, 3) := by decide +kernel
theorem dX5_isNeeded_76 : decode cX5_isNeeded 76 = .ok (.iconst 0, 1) := by decide +kernel
theorem dX5_isNeeded_77 : decode cX5_isNeeded 77 = .ok (.ireturn, 1) := by decide +kernel
set_option maxHeartbeats 4000000 in
set_option maxRecDepth 100000 in
theorem mX5_isNeeded {D : va_G} {U : zz_U} {ad : Nat → Nat} {X : va_W} (σ : zz_St) (piece_ : Int32) (ahead_ : Int32) (definedNames_ : Int32) (r : Int32) (hf : fX5_isNeeded σ piece_ ahead_ definedNames_ = some r) : zz_Met yX5_isNeeded (.code yX5_isNeeded cX5_isNeeded 7 (some .boolean)) 0 0 0 D U [.ref (ad 1), .int piece_, .int ahead_, .int definedNames_] (zz_wc U ad σ X) (zz_ok (some (.int r)) (zz_wc U ad σ X)) zz_noth := by
  unfold fX5_isNeeded at hf
  refine zz_method RX5 rfl (by decide +kernel) (Nat.le_of_ble_eq_true rfl) ?_
  intro p l e s m args below meth c A _ C
  refine zz_lvs (lv1 := [(0, .ref (ad 1)), (1, .int piece_), (2, .int ahead_), (3, .int definedNames_)]) rfl ?_
  refine zz_aload_n C 0 dX5_isNeeded_0 rfl rfl ?_
  refine zf5_namesOf C dX5_isNeeded_1 zw_17 ?_
  refine zz_iconst (v := (2 : Int32)) C dX5_isNeeded_4 (by decide) ?_
  obtain ⟨x1, h2, hf⟩ := zz_bind hf
  refine zr_7 C dX5_isNeeded_5 h2 ?_
  refine zz_iload_n C 1 dX5_isNeeded_6 rfl rfl ?_
  obtain ⟨x3, h4, hf⟩ := zz_bind hf
  refine zl_7 C dX5_isNeeded_7 h2 h4 ?_
  refine zz_aload_n C 0 dX5_isNeeded_8 rfl rfl ?_
  refine zf5_namesOf C dX5_isNeeded_9 zw_17 ?_
  refine zz_iconst (v := (0 : Int32)) C dX5_isNeeded_12 (by decide) ?_
  obtain ⟨x5, h6, hf⟩ := zz_bind hf
  refine zr_7 C dX5_isNeeded_13 h6 ?_
  refine zz_iload_n C 2 dX5_isNeeded_14 rfl rfl ?_
  obtain ⟨x7, h8, hf⟩ := zz_bind hf
  refine zl_7 C dX5_isNeeded_15 h6 h8 ?_
  refine zz_iand C dX5_isNeeded_16 ?_
  refine zz_iload_n C 3 dX5_isNeeded_17 rfl rfl ?_
  refine zz_iconst (v := (-1 : Int32)) C dX5_isNeeded_18 (by decide) ?_
  refine zz_ixor C dX5_isNeeded_19 ?_
  refine zz_iand C dX5_isNeeded_20 ?_
  obtain ⟨x9, h10, hf⟩ := zz_bind hf
  refine zz_topi (Option.some.inj h10) ?_
  refine zz_istore C dX5_isNeeded_21 (by decide) (lv' := [(4, .int x9), (0, .ref (ad 1)), (1, .int piece_), (2, .int ahead_), (3, .int definedNames_)]) rfl ?_
  refine zz_aload_n C 1 dX5_isNeeded_23 rfl rfl ?_
  refine zf5_namesOf C dX5_isNeeded_24 zw_17 ?_
  refine zz_iconst (v := (1 : Int32)) C dX5_isNeeded_27 (by decide) ?_
  obtain ⟨x11, h12, hf⟩ := zz_bind hf
  refine zr_7 C dX5_isNeeded_28 h12 ?_
  refine zz_iload_n C 2 dX5_isNeeded_29 rfl rfl ?_
  obtain ⟨x13, h14, hf⟩ := zz_bind hf
  refine zl_7 C dX5_isNeeded_30 h12 h14 ?_
  refine zz_aload_n C 1 dX5_isNeeded_31 rfl rfl ?_
  refine zf5_namesOf C dX5_isNeeded_32 zw_17 ?_
  refine zz_iconst (v := (3 : Int32)) C dX5_isNeeded_35 (by decide) ?_
  obtain ⟨x15, h16, hf⟩ := zz_bind hf
  refine zr_7 C dX5_isNeeded_36 h16 ?_
  refine zz_iload_n C 3 dX5_isNeeded_37 rfl rfl ?_
  obtain ⟨x17, h18, hf⟩ := zz_bind hf
  refine zl_7 C dX5_isNeeded_38 h16 h18 ?_
  refine zz_iand C dX5_isNeeded_39 ?_
  obtain ⟨x19, h20, hf⟩ := zz_bind hf
  refine zz_topi (Option.some.inj h20) ?_
  refine zz_istore C dX5_isNeeded_40 (by decide) (lv' := [(5, .int x19), (4, .int x9), (0, .ref (ad 1)), (1, .int piece_), (2, .int ahead_), (3, .int definedNames_)]) rfl ?_
  refine zz_aload_n C 2 dX5_isNeeded_42 rfl rfl ?_
  refine zf5_namesOf C dX5_isNeeded_43 zw_17 ?_
  refine zz_iconst (v := (0 : Int32)) C dX5_isNeeded_46 (by decide) ?_
  obtain ⟨x21, h22, hf⟩ := zz_bind hf
  refine zr_7 C dX5_isNeeded_47 h22 ?_
  refine zz_iload_n C 3 dX5_isNeeded_48 rfl rfl ?_
  obtain ⟨x23, h24, hf⟩ := zz_bind hf
  refine zl_7 C dX5_isNeeded_49 h22 h24 ?_
  refine zz_aload_n C 2 dX5_isNeeded_50 rfl rfl ?_
  refine zf5_namesOf C dX5_isNeeded_51 zw_17 ?_
  refine zz_iconst (v := (1 : Int32)) C dX5_isNeeded_54 (by decide) ?_
  obtain ⟨x25, h26, hf⟩ := zz_bind hf
  refine zr_7 C dX5_isNeeded_55 h26 ?_
  refine zz_iload_n C 4 dX5_isNeeded_56 rfl rfl ?_
  obtain ⟨x27, h28, hf⟩ := zz_bind hf
  refine zl_7 C dX5_isNeeded_57 h26 h28 ?_
  refine zz_iand C dX5_isNeeded_58 ?_
  obtain ⟨x29, h30, hf⟩ := zz_bind hf
  refine zz_topi (Option.some.inj h30) ?_
  refine zz_istore C dX5_isNeeded_59 (by decide) (lv' := [(6, .int x29), (5, .int x19), (4, .int x9), (0, .ref (ad 1)), (1, .int piece_), (2, .int ahead_), (3, .int definedNames_)]) rfl ?_
  obtain ⟨b31, h32, hf⟩ := zz_bind hf
  refine zz_cut 77 [(6, .int x29), (5, .int x19), (4, .int x9), (0, .ref (ad 1)), (1, .int piece_), (2, .int ahead_), (3, .int definedNames_)] [.int (zz_bi b31)] (zz_wc U ad σ X) ?_ (fun J33 => ?_)
  · cases hf
    exact zz_zret C dX5_isNeeded_77 (zz_bi01 _) (And.intro rfl rfl) (Nat.le_of_ble_eq_true rfl) (Nat.le_of_ble_eq_true rfl)
  refine zz_iload C 2 dX5_isNeeded_61 rfl ?_
  refine zz_iload C 1 dX5_isNeeded_63 rfl ?_
  refine zz_ior C dX5_isNeeded_65 ?_
  refine zz_iload C 0 dX5_isNeeded_66 rfl ?_
  refine zz_ior C dX5_isNeeded_68 ?_
  refine zz_if_eq (tgt := 76) C dX5_isNeeded_69 (by decide) (fun g34 => ?_) (fun g34 => ?_)
  · rw [if_pos g34] at h32
    refine zz_iconst (v := 0) C dX5_isNeeded_76 (by decide) ?_
    cases h32
    exact J33
  · rw [if_neg g34] at h32
    refine zz_iconst (v := 1) C dX5_isNeeded_72 (by decide) ?_
    refine zz_goto (tgt := 77) C dX5_isNeeded_73 (by decide) ?_
    cases h32
    exact J33
theorem dX5_neededBy_0 : decode cX5_neededBy 0 = .ok (.iconst 0, 1) := by decide +kernel
theorem dX5_neededBy_1 : decode cX5_neededBy 1 = .ok (.istore_n 3, 1) := by decide +kernel
theorem dX5_neededBy_2 : decode cX5_neededBy 2 = .ok (.iconst 0, 1) := by decide +kernel
theorem dX5_neededBy_3 : decode cX5_neededBy 3 = .ok (.istore 4, 2) := by decide +kernel
theorem dX5_neededBy_5 : decode cX5_neededBy 5 = .ok (.iload 4, 2) := by decide +kernel
theorem dX5_neededBy_7 : decode cX5_neededBy 7 = .ok (.aload_n 0, 1) := by decide +kernel
theorem dX5_neededBy_8 : decode cX5_neededBy 8 = .ok (.getfield 35, 3) := by decide +kernel
theorem dX5_neededBy_11 : decode cX5_neededBy 11 = .ok (.if_icmp .ge 62, 3) := by decide +kernel
theorem dX5_neededBy_14 : decode cX5_neededBy 14 = .ok (.iconst 0, 1) := by decide +kernel
theorem dX5_neededBy_15 : decode cX5_neededBy 15 = .ok (.istore 5, 2) := by decide +kernel
theorem dX5_neededBy_17 : decode cX5_neededBy 17 = .ok (.iload 5, 2) := by decide +kernel
theorem dX5_neededBy_19 : decode cX5_neededBy 19 = .ok (.aload_n 0, 1) := by decide +kernel
theorem dX5_neededBy_20 : decode cX5_neededBy 20 = .ok (.getfield 35, 3) := by decide +kernel
theorem dX5_neededBy_23 : decode cX5_neededBy 23 = .ok (.if_icmp .ge 44, 3) := by decide +kernel
theorem dX5_neededBy_26 : decode cX5_neededBy 26 = .ok (.iload 4, 2) := by decide +kernel
theorem dX5_neededBy_28 : decode cX5_neededBy 28 = .ok (.iload_n 1, 1) := by decide +kernel
theorem dX5_neededBy_29 : decode cX5_neededBy 29 = .ok (.invokestatic 49, 3) := by decide +kernel
theorem dX5_neededBy_32 : decode cX5_neededBy 32 = .ok (.ifCond .eq 35, 3) := by decide +kernel
theorem dX5_neededBy_35 : decode cX5_neededBy 35 = .ok (.iload 5, 2) := by decide +kernel
theorem dX5_neededBy_37 : decode cX5_neededBy 37 = .ok (.iload 4, 2) := by decide +kernel
theorem dX5_neededBy_39 : decode cX5_neededBy 39 = .ok (.if_icmp .eq 22, 3) := by decide +kernel
theorem dX5_neededBy_42 : decode cX5_neededBy 42 = .ok (.aload_n 0, 1) := by decide +kernel
theorem dX5_neededBy_43 : decode cX5_neededBy 43 = .ok (.iload 4, 2) := by decide +kernel
theorem dX5_neededBy_45 : decode cX5_neededBy 45 = .ok (.iload 5, 2) := by decide +kernel
theorem dX5_neededBy_47 : decode cX5_neededBy 47 = .ok (.iload_n 2, 1) := by decide +kernel
theorem dX5_neededBy_48 : decode cX5_neededBy 48 = .ok (.invokevirtual 53, 3) := by decide +kernel
theorem dX5_neededBy_51 : decode cX5_neededBy 51 = .ok (.ifCond .eq 10, 3) := by decide +kernel
theorem dX5_neededBy_54 : decode cX5_neededBy 54 = .ok (.iload_n 3, 1) := by decide +kernel
theorem dX5_neededBy_55 : decode cX5_neededBy 55 = .ok (.iconst 1, 1) := by decide +kernel
theorem dX5_neededBy_56 : decode cX5_neededBy 56 = .ok (.iload 5, 2) := by decide +kernel
theorem dX5_neededBy_58 : decode cX5_neededBy 58 = .ok (.ishl, 1) := by decide +kernel
theorem dX5_neededBy_59 : decode cX5_neededBy 59 = .ok (.ior, 1) := by decide +kernel
theorem dX5_neededBy_60 : decode cX5_neededBy 60 = .ok (.istore_n 3, 1) := by decide +kernel
theorem dX5_neededBy_61 : decode cX5_neededBy 61 = .ok (.iinc 5 1, 3) := by decide +kernel
theorem dX5_neededBy_64 : decode cX5_neededBy 64 = .ok (.goto (-47), 3) := by decide +kernel
theorem dX5_neededBy_67 : decode cX5_neededBy 67 = .ok (.iinc 4 1, 3) := by decide +kernel
theorem dX5_neededBy_70 : decode cX5_neededBy 70 = .ok (.goto (-65), 3) := by decide +kernel
theorem dX5_neededBy_73 : decode cX5_neededBy 73 = .ok (.iload_n 3, 1) := by decide +kernel
theorem dX5_neededBy_74 : decode cX5_neededBy 74 = .ok (.ireturn, 1) := by decide +kernel
set_option maxHeartbeats 4000000 in
set_option maxRecDepth 100000 in
theorem mX5_neededBy_L2 {p : Program} {l : Launch} {e : Env} {R : Room} {s : State} {m : MethodId} {args : Array Value} {below : List Frame} {meth : Method} {c : Code} {Q : State → Prop} {D : va_G} {U : zz_U} {A : Nat → Prop} {cells slots : Nat} {ad : Nat → Nat} {X : va_W} (C : zz_C p l R s m meth c D U A RX5 cX5_neededBy 6 (some .int) [] 1) (hcR : cells ≤ R.cells) (hsR : slots ≤ R.slots) (σ : zz_St) (set_ : Int32) (definedNames_ : Int32) (piece_ : Int32) : ∀ (n : Nat) (needed_ : Int32) (ahead_ : Int32) (q : (Int32 × Int32)), fX5_neededBy_L2 σ set_ definedNames_ piece_ n needed_ ahead_ = some q → (zz_Z p l e R s m args below meth c Q D A 6 cells slots (zz_wc U ad σ X) 67 [(0, .ref (ad 1)), (1, .int set_), (2, .int definedNames_), (3, .int q.1), (4, .int piece_), (5, .int q.2)] []) → zz_Z p l e R s m args below meth c Q D A 6 cells slots (zz_wc U ad σ X) 17 [(0, .ref (ad 1)), (1, .int set_), (2, .int definedNames_), (3, .int needed_), (4, .int piece_), (5, .int ahead_)] [] := by
  intro n
  induction n with
  | zero => intro needed_ ahead_ q hf; rw [fX5_neededBy_L2] at hf; cases hf
  | succ n ih =>
    intro needed_ ahead_ q hf kx
    rw [fX5_neededBy_L2] at hf
    obtain ⟨b2, h3, hf⟩ := zz_bind hf
    refine zz_cutI (P := b2 = true) 35 [(0, .ref (ad 1)), (1, .int set_), (2, .int definedNames_), (3, .int needed_), (4, .int piece_), (5, .int ahead_)] [] (zz_wc U ad σ X) (fun g6 => ?_) (fun J4 => ?_)
    · rw [if_pos g6] at hf
      obtain ⟨x11, h12, hf⟩ := zz_bind hf
      refine zz_cut 61 [(0, .ref (ad 1)), (1, .int set_), (2, .int definedNames_), (3, .int x11), (4, .int piece_), (5, .int ahead_)] [] (zz_wc U ad σ X) ?_ (fun J13 => ?_)
      · refine zz_iinc (v := (ahead_ + (1 : Int32))) C 5 dX5_neededBy_61 rfl (by rfl) (by decide) (lv' := [(5, .int (ahead_ + (1 : Int32))), (0, .ref (ad 1)), (1, .int set_), (2, .int definedNames_), (3, .int x11), (4, .int piece_)]) rfl ?_
        refine zz_goto (tgt := 17) C dX5_neededBy_64 (by decide) ?_
        refine zz_sub [1, 2, 3, 4, 5, 0] rfl ?_
        exact ih x11 (ahead_ + (1 : Int32)) _ hf kx
      obtain ⟨b14, h15, h12⟩ := zz_bind h12
      refine zz_cutI (P := b14 = true) 54 [(0, .ref (ad 1)), (1, .int set_), (2, .int definedNames_), (3, .int needed_), (4, .int piece_), (5, .int ahead_)] [] (zz_wc U ad σ X) (fun g18 => ?_) (fun J16 => ?_)
      · rw [if_pos g18] at h12
        refine zz_iload_n C 3 dX5_neededBy_54 rfl rfl ?_
        refine zz_iconst (v := (1 : Int32)) C dX5_neededBy_55 (by decide) ?_
        refine zz_iload C 5 dX5_neededBy_56 rfl ?_
        refine zz_ishl C dX5_neededBy_58 ?_
        refine zz_ior C dX5_neededBy_59 ?_
        obtain ⟨x23, h24, h12⟩ := zz_bind h12
        refine zz_topi (Option.some.inj h24) ?_
        refine zz_istore_n C dX5_neededBy_60 rfl (by decide) (lv' := [(3, .int x23), (0, .ref (ad 1)), (1, .int set_), (2, .int definedNames_), (4, .int piece_), (5, .int ahead_)]) rfl ?_
        refine zz_sub [1, 2, 3, 0, 4, 5] rfl ?_
        cases h12
        exact J13
      refine zz_cutI (P := b14 = false) 61 [(0, .ref (ad 1)), (1, .int set_), (2, .int definedNames_), (3, .int needed_), (4, .int piece_), (5, .int ahead_)] [] (zz_wc U ad σ X) (fun g18 => ?_) (fun J17 => ?_)
      · rw [if_neg (show ¬ b14 = true by rw [g18]; decide)] at h12
        cases h12
        exact J13
      refine zz_iload C 5 dX5_neededBy_35 rfl ?_
      refine zz_iload C 4 dX5_neededBy_37 rfl ?_
      refine zz_icmp_eq (tgt := 61) C dX5_neededBy_39 (by decide) (fun g19 => ?_) (fun g19 => ?_)
      · rw [if_pos g19] at h15
        cases h15
        exact J17 rfl
      · rw [if_neg g19] at h15
        refine zz_aload_n C 0 dX5_neededBy_42 rfl rfl ?_
        refine zz_iload C 4 dX5_neededBy_43 rfl ?_
        refine zz_iload C 5 dX5_neededBy_45 rfl ?_
        refine zz_iload_n C 2 dX5_neededBy_47 rfl rfl ?_
        obtain ⟨x20, h21, h15⟩ := zz_bind h15
        refine zz_callV1 (As := [.int piece_, .int ahead_, .int definedNames_]) (rest := []) C 1 (mX5_isNeeded σ piece_ ahead_ definedNames_ x20 h21) dX5_neededBy_48 rfl rfl rfl zw_69 zy_X5_isNeeded rfl (by decide) (by decide) (Nat.le_of_ble_eq_true rfl) hcR hsR rfl ?_
        refine zz_if_eq (tgt := 61) C dX5_neededBy_51 (by decide) (fun g22 => ?_) (fun g22 => ?_)
        · rw [if_pos g22] at h15
          cases h15
          exact J17 rfl
        · rw [if_neg g22] at h15
          cases h15
          exact J16 rfl
    refine zz_cutI (P := b2 = false) 67 [(0, .ref (ad 1)), (1, .int set_), (2, .int definedNames_), (3, .int needed_), (4, .int piece_), (5, .int ahead_)] [] (zz_wc U ad σ X) (fun g6 => ?_) (fun J5 => ?_)
    · rw [if_neg (show ¬ b2 = true by rw [g6]; decide)] at hf
      cases hf
      exact kx
    refine zz_iload C 5 dX5_neededBy_17 rfl ?_
    refine zz_aload_n C 0 dX5_neededBy_19 rfl rfl ?_
    refine zf5_count C dX5_neededBy_20 zw_3 ?_
    refine zz_icmp_ge (tgt := 67) C dX5_neededBy_23 (by decide) (fun g7 => ?_) (fun g7 => ?_)
    · rw [if_pos g7] at h3
      cases h3
      exact J5 rfl
    · rw [if_neg g7] at h3
      refine zz_iload C 4 dX5_neededBy_26 rfl ?_
      refine zz_iload_n C 1 dX5_neededBy_28 rfl rfl ?_
      obtain ⟨x8, h9, h3⟩ := zz_bind h3
      refine zz_callSN1 (host := "ChangeUntangler") (As := [.int piece_, .int set_]) (rest := []) C (mX7_isIn σ piece_ set_ x8 h9) dX5_neededBy_29 rfl (by decide +kernel) zy_X7_isIn rfl (by decide) (by decide) (Nat.le_of_ble_eq_true rfl) hcR hsR rfl ?_
      refine zz_if_eq (tgt := 67) C dX5_neededBy_32 (by decide) (fun g10 => ?_) (fun g10 => ?_)
      · rw [if_pos g10] at h3
        cases h3
        exact J5 rfl
      · rw [if_neg g10] at h3
        cases h3
        exact J4 rfl
set_option maxHeartbeats 4000000 in
set_option maxRecDepth 100000 in
theorem mX5_neededBy_L1 {p : Program} {l : Launch} {e : Env} {R : Room} {s : State} {m : MethodId} {args : Array Value} {below : List Frame} {meth : Method} {c : Code} {Q : State → Prop} {D : va_G} {U : zz_U} {A : Nat → Prop} {cells slots : Nat} {ad : Nat → Nat} {X : va_W} (C : zz_C p l R s m meth c D U A RX5 cX5_neededBy 6 (some .int) [] 1) (hcR : cells ≤ R.cells) (hsR : slots ≤ R.slots) (σ : zz_St) (set_ : Int32) (definedNames_ : Int32) : ∀ (n : Nat) (needed_ : Int32) (piece_ : Int32) (q : (Int32 × Int32)), fX5_neededBy_L1 σ set_ definedNames_ n needed_ piece_ = some q → (zz_Z p l e R s m args below meth c Q D A 6 cells slots (zz_wc U ad σ X) 73 [(0, .ref (ad 1)), (1, .int set_), (2, .int definedNames_), (3, .int q.1), (4, .int q.2)] []) → zz_Z p l e R s m args below meth c Q D A 6 cells slots (zz_wc U ad σ X) 5 [(0, .ref (ad 1)), (1, .int set_), (2, .int definedNames_), (3, .int needed_), (4, .int piece_)] [] := by
  intro n
  induction n with
  | zero => intro needed_ piece_ q hf; rw [fX5_neededBy_L1] at hf; cases hf
  | succ n ih =>
    intro needed_ piece_ q hf kx
    rw [fX5_neededBy_L1] at hf
    refine zz_iload C 4 dX5_neededBy_5 rfl ?_
    refine zz_aload_n C 0 dX5_neededBy_7 rfl rfl ?_
    refine zf5_count C dX5_neededBy_8 zw_3 ?_
    refine zz_icmp_ge (tgt := 73) C dX5_neededBy_11 (by decide) (fun g1 => ?_) (fun g1 => ?_)
    · rw [if_pos g1] at hf
      cases hf
      exact kx
    · rw [if_neg g1] at hf
      refine zz_iconst (v := (0 : Int32)) C dX5_neededBy_14 (by decide) ?_
      refine zz_istore C dX5_neededBy_15 (by decide) (lv' := [(5, .int (0 : Int32)), (0, .ref (ad 1)), (1, .int set_), (2, .int definedNames_), (3, .int needed_), (4, .int piece_)]) rfl ?_
      obtain ⟨q25, h26, hf⟩ := zz_bind hf
      refine zz_sub [1, 2, 3, 4, 5, 0] rfl ?_
      refine mX5_neededBy_L2 C hcR hsR σ set_ definedNames_ piece_ 1000 needed_ (0 : Int32) q25 h26 ?_
      refine zz_iinc (v := (piece_ + (1 : Int32))) C 4 dX5_neededBy_67 rfl (by rfl) (by decide) (lv' := [(4, .int (piece_ + (1 : Int32))), (0, .ref (ad 1)), (1, .int set_), (2, .int definedNames_), (3, .int q25.1), (5, .int q25.2)]) rfl ?_
      refine zz_goto (tgt := 5) C dX5_neededBy_70 (by decide) ?_
      refine zz_sub [1, 2, 3, 4, 0] rfl ?_
      exact ih q25.1 (piece_ + (1 : Int32)) _ hf kx
set_option maxHeartbeats 4000000 in
set_option maxRecDepth 100000 in
theorem mX5_neededBy {D : va_G} {U : zz_U} {ad : Nat → Nat} {X : va_W} (σ : zz_St) (set_ : Int32) (definedNames_ : Int32) (r : Int32) (hf : fX5_neededBy σ set_ definedNames_ = some r) : zz_Met yX5_neededBy (.code yX5_neededBy cX5_neededBy 6 (some .int)) 1 0 0 D U [.ref (ad 1), .int set_, .int definedNames_] (zz_wc U ad σ X) (zz_ok (some (.int r)) (zz_wc U ad σ X)) zz_noth := by
  unfold fX5_neededBy at hf
  refine zz_method RX5 rfl (by decide +kernel) (Nat.le_of_ble_eq_true rfl) ?_
  intro p l e s m args below meth c A _ C
  refine zz_lvs (lv1 := [(0, .ref (ad 1)), (1, .int set_), (2, .int definedNames_)]) rfl ?_
  refine zz_iconst (v := (0 : Int32)) C dX5_neededBy_0 (by decide) ?_
  refine zz_istore_n C dX5_neededBy_1 rfl (by decide) (lv' := [(3, .int (0 : Int32)), (0, .ref (ad 1)), (1, .int set_), (2, .int definedNames_)]) rfl ?_
  refine zz_iconst (v := (0 : Int32)) C dX5_neededBy_2 (by decide) ?_
  refine zz_istore C dX5_neededBy_3 (by decide) (lv' := [(4, .int (0 : Int32)), (3, .int (0 : Int32)), (0, .ref (ad 1)), (1, .int set_), (2, .int definedNames_)]) rfl ?_
  obtain ⟨q27, h28, hf⟩ := zz_bind hf
  refine zz_sub [2, 3, 4, 1, 0] rfl ?_
  refine mX5_neededBy_L1 C (Nat.le_of_ble_eq_true rfl) (Nat.le_of_ble_eq_true rfl) σ set_ definedNames_ 1000 (0 : Int32) (0 : Int32) q27 h28 ?_
  refine zz_iload_n C 3 dX5_neededBy_73 rfl rfl ?_
  cases hf
  exact zz_iret C dX5_neededBy_74 (And.intro rfl rfl) (Nat.le_of_ble_eq_true rfl) (Nat.le_of_ble_eq_true rfl)
theorem dX4_findNeeds_0 : decode cX4_findNeeds 0 = .ok (.iconst 0, 1) := by decide +kernel
theorem dX4_findNeeds_1 : decode cX4_findNeeds 1 = .ok (.istore 4, 2) := by decide +kernel
theorem dX4_findNeeds_3 : decode cX4_findNeeds 3 = .ok (.iload 4, 2) := by decide +kernel
theorem dX4_findNeeds_5 : decode cX4_findNeeds 5 = .ok (.aload_n 3, 1) := by decide +kernel
theorem dX4_findNeeds_6 : decode cX4_findNeeds 6 = .ok (.getfield 22, 3) := by decide +kernel
theorem dX4_findNeeds_9 : decode cX4_findNeeds 9 = .ok (.if_icmp .ge 86, 3) := by decide +kernel
theorem dX4_findNeeds_12 : decode cX4_findNeeds 12 = .ok (.aload_n 1, 1) := by decide +kernel
theorem dX4_findNeeds_13 : decode cX4_findNeeds 13 = .ok (.aload_n 3, 1) := by decide +kernel
theorem dX4_findNeeds_14 : decode cX4_findNeeds 14 = .ok (.getfield 44, 3) := by decide +kernel
theorem dX4_findNeeds_17 : decode cX4_findNeeds 17 = .ok (.iload 4, 2) := by decide +kernel
theorem dX4_findNeeds_19 : decode cX4_findNeeds 19 = .ok (.iaload, 1) := by decide +kernel
theorem dX4_findNeeds_20 : decode cX4_findNeeds 20 = .ok (.aload_n 2, 1) := by decide +kernel
theorem dX4_findNeeds_21 : decode cX4_findNeeds 21 = .ok (.getfield 45, 3) := by decide +kernel
theorem dX4_findNeeds_24 : decode cX4_findNeeds 24 = .ok (.invokevirtual 50, 3) := by decide +kernel
theorem dX4_findNeeds_27 : decode cX4_findNeeds 27 = .ok (.istore 5, 2) := by decide +kernel
theorem dX4_findNeeds_29 : decode cX4_findNeeds 29 = .ok (.aload_n 0, 1) := by decide +kernel
theorem dX4_findNeeds_30 : decode cX4_findNeeds 30 = .ok (.getfield 15, 3) := by decide +kernel
theorem dX4_findNeeds_33 : decode cX4_findNeeds 33 = .ok (.iload 4, 2) := by decide +kernel
theorem dX4_findNeeds_35 : decode cX4_findNeeds 35 = .ok (.iconst 0, 1) := by decide +kernel
theorem dX4_findNeeds_36 : decode cX4_findNeeds 36 = .ok (.iastore, 1) := by decide +kernel
theorem dX4_findNeeds_37 : decode cX4_findNeeds 37 = .ok (.iconst 0, 1) := by decide +kernel
theorem dX4_findNeeds_38 : decode cX4_findNeeds 38 = .ok (.istore 6, 2) := by decide +kernel
theorem dX4_findNeeds_40 : decode cX4_findNeeds 40 = .ok (.iload 6, 2) := by decide +kernel
theorem dX4_findNeeds_42 : decode cX4_findNeeds 42 = .ok (.aload_n 3, 1) := by decide +kernel
theorem dX4_findNeeds_43 : decode cX4_findNeeds 43 = .ok (.getfield 22, 3) := by decide +kernel
theorem dX4_findNeeds_46 : decode cX4_findNeeds 46 = .ok (.if_icmp .ge 43, 3) := by decide +kernel
theorem dX4_findNeeds_49 : decode cX4_findNeeds 49 = .ok (.iload 6, 2) := by decide +kernel
theorem dX4_findNeeds_51 : decode cX4_findNeeds 51 = .ok (.iload 4, 2) := by decide +kernel
theorem dX4_findNeeds_53 : decode cX4_findNeeds 53 = .ok (.if_icmp .eq 30, 3) := by decide +kernel
theorem dX4_findNeeds_56 : decode cX4_findNeeds 56 = .ok (.iload 5, 2) := by decide +kernel
theorem dX4_findNeeds_58 : decode cX4_findNeeds 58 = .ok (.aload_n 3, 1) := by decide +kernel
theorem dX4_findNeeds_59 : decode cX4_findNeeds 59 = .ok (.getfield 44, 3) := by decide +kernel
theorem dX4_findNeeds_62 : decode cX4_findNeeds 62 = .ok (.iload 6, 2) := by decide +kernel
theorem dX4_findNeeds_64 : decode cX4_findNeeds 64 = .ok (.iaload, 1) := by decide +kernel
theorem dX4_findNeeds_65 : decode cX4_findNeeds 65 = .ok (.iand, 1) := by decide +kernel
theorem dX4_findNeeds_66 : decode cX4_findNeeds 66 = .ok (.ifCond .eq 17, 3) := by decide +kernel
theorem dX4_findNeeds_69 : decode cX4_findNeeds 69 = .ok (.aload_n 0, 1) := by decide +kernel
theorem dX4_findNeeds_70 : decode cX4_findNeeds 70 = .ok (.getfield 15, 3) := by decide +kernel
theorem dX4_findNeeds_73 : decode cX4_findNeeds 73 = .ok (.iload 4, 2) := by decide +kernel
theorem dX4_findNeeds_75 : decode cX4_findNeeds 75 = .ok (.dup2, 1) := by decide +kernel
theorem dX4_findNeeds_76 : decode cX4_findNeeds 76 = .ok (.iaload, 1) := by decide +kernel
theorem dX4_findNeeds_77 : decode cX4_findNeeds 77 = .ok (.iconst 1, 1) := by decide +kernel
theorem dX4_findNeeds_78 : decode cX4_findNeeds 78 = .ok (.iload 6, 2) := by decide +kernel
theorem dX4_findNeeds_80 : decode cX4_findNeeds 80 = .ok (.ishl, 1) := by decide +kernel
theorem dX4_findNeeds_81 : decode cX4_findNeeds 81 = .ok (.ior, 1) := by decide +kernel
theorem dX4_findNeeds_82 : decode cX4_findNeeds 82 = .ok (.iastore, 1) := by decide +kernel
theorem dX4_findNeeds_83 : decode cX4_findNeeds 83 = .ok (.iinc 6 1, 3) := by decide +kernel
theorem dX4_findNeeds_86 : decode cX4_findNeeds 86 = .ok (.goto (-46), 3) := by decide +kernel
theorem dX4_findNeeds_89 : decode cX4_findNeeds 89 = .ok (.iinc 4 1, 3) := by decide +kernel
theorem dX4_findNeeds_92 : decode cX4_findNeeds 92 = .ok (.goto (-89), 3) := by decide +kernel
theorem dX4_findNeeds_95 : decode cX4_findNeeds 95 = .ok (.return_, 1) := by decide +kernel
set_option maxHeartbeats 4000000 in
set_option maxRecDepth 100000 in
theorem mX4_findNeeds_L2 {p : Program} {l : Launch} {e : Env} {R : Room} {s : State} {m : MethodId} {args : Array Value} {below : List Frame} {meth : Method} {c : Code} {Q : State → Prop} {D : va_G} {U : zz_U} {A : Nat → Prop} {cells slots : Nat} {ad : Nat → Nat} {X : va_W} (C : zz_C p l R s m meth c D U A RX4 cX4_findNeeds 7 none [] 2) (hcR : cells ≤ R.cells) (hsR : slots ≤ R.slots) (group_ : Int32) (neededPieces_ : Int32) : ∀ (n : Nat) (other_ : Int32) (σ : zz_St) (q : (Int32 × zz_St)), fX4_findNeeds_L2 group_ neededPieces_ n other_ σ = some q → (zz_Z p l e R s m args below meth c Q D A 7 cells slots (zz_wc U ad q.2 X) 89 [(0, .ref (ad 41)), (1, .ref (ad 1)), (2, .ref (ad 17)), (3, .ref (ad 24)), (4, .int group_), (5, .int neededPieces_), (6, .int q.1)] []) → zz_Z p l e R s m args below meth c Q D A 7 cells slots (zz_wc U ad σ X) 40 [(0, .ref (ad 41)), (1, .ref (ad 1)), (2, .ref (ad 17)), (3, .ref (ad 24)), (4, .int group_), (5, .int neededPieces_), (6, .int other_)] [] := by
  intro n
  induction n with
  | zero => intro other_ σ q hf; rw [fX4_findNeeds_L2] at hf; cases hf
  | succ n ih =>
    intro other_ σ q hf kx
    rw [fX4_findNeeds_L2] at hf
    refine zz_iload C 6 dX4_findNeeds_40 rfl ?_
    refine zz_aload_n C 3 dX4_findNeeds_42 rfl rfl ?_
    refine zf3_count C dX4_findNeeds_43 zw_72 ?_
    refine zz_icmp_ge (tgt := 89) C dX4_findNeeds_46 (by decide) (fun g8 => ?_) (fun g8 => ?_)
    · rw [if_pos g8] at hf
      cases hf
      exact kx
    · rw [if_neg g8] at hf
      obtain ⟨x9, h10, hf⟩ := zz_bind hf
      refine zz_cut 83 [(0, .ref (ad 41)), (1, .ref (ad 1)), (2, .ref (ad 17)), (3, .ref (ad 24)), (4, .int group_), (5, .int neededPieces_), (6, .int other_)] [] (zz_wc U ad x9 X) ?_ (fun J11 => ?_)
      · refine zz_iinc (v := (other_ + (1 : Int32))) C 6 dX4_findNeeds_83 rfl (by rfl) (by decide) (lv' := [(6, .int (other_ + (1 : Int32))), (0, .ref (ad 41)), (1, .ref (ad 1)), (2, .ref (ad 17)), (3, .ref (ad 24)), (4, .int group_), (5, .int neededPieces_)]) rfl ?_
        refine zz_goto (tgt := 40) C dX4_findNeeds_86 (by decide) ?_
        refine zz_sub [1, 2, 3, 4, 5, 6, 0] rfl ?_
        exact ih (other_ + (1 : Int32)) x9 _ hf kx
      obtain ⟨b12, h13, h10⟩ := zz_bind h10
      refine zz_cutI (P := b12 = true) 69 [(0, .ref (ad 41)), (1, .ref (ad 1)), (2, .ref (ad 17)), (3, .ref (ad 24)), (4, .int group_), (5, .int neededPieces_), (6, .int other_)] [] (zz_wc U ad σ X) (fun g16 => ?_) (fun J14 => ?_)
      · rw [if_pos g16] at h10
        refine zz_aload_n C 0 dX4_findNeeds_69 rfl rfl ?_
        refine zf4_needed C dX4_findNeeds_70 zw_71 ?_
        refine zz_iload C 4 dX4_findNeeds_73 rfl ?_
        refine zz_dup2_11 C dX4_findNeeds_75 rfl rfl ?_
        obtain ⟨x21, h22, h10⟩ := zz_bind h10
        refine zl_43 C dX4_findNeeds_76 h22 ?_
        refine zz_iconst (v := (1 : Int32)) C dX4_findNeeds_77 (by decide) ?_
        refine zz_iload C 6 dX4_findNeeds_78 rfl ?_
        refine zz_ishl C dX4_findNeeds_80 ?_
        refine zz_ior C dX4_findNeeds_81 ?_
        obtain ⟨σ23, h24, h10⟩ := zz_bind h10
        refine zs_43 C dX4_findNeeds_82 h24 ?_
        cases h10
        exact J11
      refine zz_cutI (P := b12 = false) 83 [(0, .ref (ad 41)), (1, .ref (ad 1)), (2, .ref (ad 17)), (3, .ref (ad 24)), (4, .int group_), (5, .int neededPieces_), (6, .int other_)] [] (zz_wc U ad σ X) (fun g16 => ?_) (fun J15 => ?_)
      · rw [if_neg (show ¬ b12 = true by rw [g16]; decide)] at h10
        cases h10
        exact J11
      refine zz_iload C 6 dX4_findNeeds_49 rfl ?_
      refine zz_iload C 4 dX4_findNeeds_51 rfl ?_
      refine zz_icmp_eq (tgt := 83) C dX4_findNeeds_53 (by decide) (fun g17 => ?_) (fun g17 => ?_)
      · rw [if_pos g17] at h13
        cases h13
        exact J15 rfl
      · rw [if_neg g17] at h13
        refine zz_iload C 5 dX4_findNeeds_56 rfl ?_
        refine zz_aload_n C 3 dX4_findNeeds_58 rfl rfl ?_
        refine zf3_sets C dX4_findNeeds_59 zw_70 ?_
        refine zz_iload C 6 dX4_findNeeds_62 rfl ?_
        obtain ⟨x18, h19, h13⟩ := zz_bind h13
        refine zl_25 C dX4_findNeeds_64 h19 ?_
        refine zz_iand C dX4_findNeeds_65 ?_
        refine zz_if_eq (tgt := 83) C dX4_findNeeds_66 (by decide) (fun g20 => ?_) (fun g20 => ?_)
        · rw [if_pos g20] at h13
          cases h13
          exact J15 rfl
        · rw [if_neg g20] at h13
          cases h13
          exact J14 rfl
set_option maxHeartbeats 4000000 in
set_option maxRecDepth 100000 in
theorem mX4_findNeeds_L1 {p : Program} {l : Launch} {e : Env} {R : Room} {s : State} {m : MethodId} {args : Array Value} {below : List Frame} {meth : Method} {c : Code} {Q : State → Prop} {D : va_G} {U : zz_U} {A : Nat → Prop} {cells slots : Nat} {ad : Nat → Nat} {X : va_W} (C : zz_C p l R s m meth c D U A RX4 cX4_findNeeds 7 none [] 2) (hcR : cells ≤ R.cells) (hsR : slots ≤ R.slots) : ∀ (n : Nat) (group_ : Int32) (σ : zz_St) (q : (Int32 × zz_St)), fX4_findNeeds_L1 n group_ σ = some q → (zz_Z p l e R s m args below meth c Q D A 7 cells slots (zz_wc U ad q.2 X) 95 [(0, .ref (ad 41)), (1, .ref (ad 1)), (2, .ref (ad 17)), (3, .ref (ad 24)), (4, .int q.1)] []) → zz_Z p l e R s m args below meth c Q D A 7 cells slots (zz_wc U ad σ X) 3 [(0, .ref (ad 41)), (1, .ref (ad 1)), (2, .ref (ad 17)), (3, .ref (ad 24)), (4, .int group_)] [] := by
  intro n
  induction n with
  | zero => intro group_ σ q hf; rw [fX4_findNeeds_L1] at hf; cases hf
  | succ n ih =>
    intro group_ σ q hf kx
    rw [fX4_findNeeds_L1] at hf
    refine zz_iload C 4 dX4_findNeeds_3 rfl ?_
    refine zz_aload_n C 3 dX4_findNeeds_5 rfl rfl ?_
    refine zf3_count C dX4_findNeeds_6 zw_72 ?_
    refine zz_icmp_ge (tgt := 95) C dX4_findNeeds_9 (by decide) (fun g1 => ?_) (fun g1 => ?_)
    · rw [if_pos g1] at hf
      cases hf
      exact kx
    · rw [if_neg g1] at hf
      refine zz_aload_n C 1 dX4_findNeeds_12 rfl rfl ?_
      refine zz_aload_n C 3 dX4_findNeeds_13 rfl rfl ?_
      refine zf3_sets C dX4_findNeeds_14 zw_70 ?_
      refine zz_iload C 4 dX4_findNeeds_17 rfl ?_
      obtain ⟨x2, h3, hf⟩ := zz_bind hf
      refine zl_25 C dX4_findNeeds_19 h3 ?_
      refine zz_aload_n C 2 dX4_findNeeds_20 rfl rfl ?_
      refine zf1_definedNames C dX4_findNeeds_21 zw_74 ?_
      obtain ⟨x4, h5, hf⟩ := zz_bind hf
      refine zz_callV1 (As := [.int x2, .int (σ 17 0)]) (rest := []) C 1 (mX5_neededBy σ x2 (σ 17 0) x4 h5) dX4_findNeeds_24 rfl rfl rfl zw_73 zy_X5_neededBy rfl (by decide) (by decide) (Nat.le_of_ble_eq_true rfl) hcR hsR rfl ?_
      refine zz_istore C dX4_findNeeds_27 (by decide) (lv' := [(5, .int x4), (0, .ref (ad 41)), (1, .ref (ad 1)), (2, .ref (ad 17)), (3, .ref (ad 24)), (4, .int group_)]) rfl ?_
      refine zz_aload_n C 1 dX4_findNeeds_29 rfl rfl ?_
      refine zf4_needed C dX4_findNeeds_30 zw_71 ?_
      refine zz_iload C 5 dX4_findNeeds_33 rfl ?_
      refine zz_iconst (v := (0 : Int32)) C dX4_findNeeds_35 (by decide) ?_
      obtain ⟨σ6, h7, hf⟩ := zz_bind hf
      refine zs_43 C dX4_findNeeds_36 h7 ?_
      refine zz_iconst (v := (0 : Int32)) C dX4_findNeeds_37 (by decide) ?_
      refine zz_istore C dX4_findNeeds_38 (by decide) (lv' := [(6, .int (0 : Int32)), (5, .int x4), (0, .ref (ad 41)), (1, .ref (ad 1)), (2, .ref (ad 17)), (3, .ref (ad 24)), (4, .int group_)]) rfl ?_
      obtain ⟨q25, h26, hf⟩ := zz_bind hf
      refine zz_sub [2, 3, 4, 5, 6, 1, 0] rfl ?_
      refine mX4_findNeeds_L2 C hcR hsR group_ x4 1000 (0 : Int32) σ6 q25 h26 ?_
      refine zz_iinc (v := (group_ + (1 : Int32))) C 4 dX4_findNeeds_89 rfl (by rfl) (by decide) (lv' := [(4, .int (group_ + (1 : Int32))), (0, .ref (ad 41)), (1, .ref (ad 1)), (2, .ref (ad 17)), (3, .ref (ad 24)), (5, .int x4), (6, .int q25.1)]) rfl ?_
      refine zz_goto (tgt := 3) C dX4_findNeeds_92 (by decide) ?_
      refine zz_sub [1, 2, 3, 4, 0] rfl ?_
      exact ih (group_ + (1 : Int32)) q25.2 _ hf kx
set_option maxHeartbeats 4000000 in
set_option maxRecDepth 100000 in
theorem mX4_findNeeds {D : va_G} {U : zz_U} {ad : Nat → Nat} {X : va_W} (σ : zz_St) (r : zz_St) (hf : fX4_findNeeds σ = some r) : zz_Met yX4_findNeeds (.code yX4_findNeeds cX4_findNeeds 7 none) 2 0 0 D U [.ref (ad 41), .ref (ad 1), .ref (ad 17), .ref (ad 24)] (zz_wc U ad σ X) (zz_ok none (zz_wc U ad r X)) zz_noth := by
  unfold fX4_findNeeds at hf
  refine zz_method RX4 rfl (by decide +kernel) (Nat.le_of_ble_eq_true rfl) ?_
  intro p l e s m args below meth c A _ C
  refine zz_lvs (lv1 := [(0, .ref (ad 41)), (1, .ref (ad 1)), (2, .ref (ad 17)), (3, .ref (ad 24))]) rfl ?_
  refine zz_iconst (v := (0 : Int32)) C dX4_findNeeds_0 (by decide) ?_
  refine zz_istore C dX4_findNeeds_1 (by decide) (lv' := [(4, .int (0 : Int32)), (0, .ref (ad 41)), (1, .ref (ad 1)), (2, .ref (ad 17)), (3, .ref (ad 24))]) rfl ?_
  obtain ⟨q27, h28, hf⟩ := zz_bind hf
  refine zz_sub [1, 2, 3, 4, 0] rfl ?_
  refine mX4_findNeeds_L1 C (Nat.le_of_ble_eq_true rfl) (Nat.le_of_ble_eq_true rfl) 1000 (0 : Int32) σ q27 h28 ?_
  cases hf
  exact zz_vret C dX4_findNeeds_95 (And.intro rfl rfl) (Nat.le_of_ble_eq_true rfl) (Nat.le_of_ble_eq_true rfl)
theorem dX4_needByWayOfOthers_0 : decode cX4_needByWayOfOthers 0 = .ok (.iconst 0, 1) := by decide +kernel
theorem dX4_needByWayOfOthers_1 : decode cX4_needByWayOfOthers 1 = .ok (.istore_n 2, 1) := by decide +kernel
theorem dX4_needByWayOfOthers_2 : decode cX4_needByWayOfOthers 2 = .ok (.iload_n 2, 1) := by decide +kernel
theorem dX4_needByWayOfOthers_3 : decode cX4_needByWayOfOthers 3 = .ok (.iload_n 1, 1) := by decide +kernel
theorem dX4_needByWayOfOthers_4 : decode cX4_needByWayOfOthers 4 = .ok (.if_icmp .ge 50, 3) := by decide +kernel
theorem dX4_needByWayOfOthers_7 : decode cX4_needByWayOfOthers 7 = .ok (.iconst 0, 1) := by decide +kernel
theorem dX4_needByWayOfOthers_8 : decode cX4_needByWayOfOthers 8 = .ok (.istore_n 3, 1) := by decide +kernel
theorem dX4_needByWayOfOthers_9 : decode cX4_needByWayOfOthers 9 = .ok (.iload_n 3, 1) := by decide +kernel
theorem dX4_needByWayOfOthers_10 : decode cX4_needByWayOfOthers 10 = .ok (.iload_n 1, 1) := by decide +kernel
theorem dX4_needByWayOfOthers_11 : decode cX4_needByWayOfOthers 11 = .ok (.if_icmp .ge 37, 3) := by decide +kernel
theorem dX4_needByWayOfOthers_14 : decode cX4_needByWayOfOthers 14 = .ok (.iload_n 2, 1) := by decide +kernel
theorem dX4_needByWayOfOthers_15 : decode cX4_needByWayOfOthers 15 = .ok (.aload_n 0, 1) := by decide +kernel
theorem dX4_needByWayOfOthers_16 : decode cX4_needByWayOfOthers 16 = .ok (.getfield 15, 3) := by decide +kernel
theorem dX4_needByWayOfOthers_19 : decode cX4_needByWayOfOthers 19 = .ok (.iload_n 3, 1) := by decide +kernel
theorem dX4_needByWayOfOthers_20 : decode cX4_needByWayOfOthers 20 = .ok (.iaload, 1) := by decide +kernel
theorem dX4_needByWayOfOthers_21 : decode cX4_needByWayOfOthers 21 = .ok (.invokestatic 55, 3) := by decide +kernel
theorem dX4_needByWayOfOthers_24 : decode cX4_needByWayOfOthers 24 = .ok (.ifCond .eq 18, 3) := by decide +kernel
theorem dX4_needByWayOfOthers_27 : decode cX4_needByWayOfOthers 27 = .ok (.aload_n 0, 1) := by decide +kernel
theorem dX4_needByWayOfOthers_28 : decode cX4_needByWayOfOthers 28 = .ok (.getfield 15, 3) := by decide +kernel
theorem dX4_needByWayOfOthers_31 : decode cX4_needByWayOfOthers 31 = .ok (.iload_n 3, 1) := by decide +kernel
theorem dX4_needByWayOfOthers_32 : decode cX4_needByWayOfOthers 32 = .ok (.dup2, 1) := by decide +kernel
theorem dX4_needByWayOfOthers_33 : decode cX4_needByWayOfOthers 33 = .ok (.iaload, 1) := by decide +kernel
theorem dX4_needByWayOfOthers_34 : decode cX4_needByWayOfOthers 34 = .ok (.aload_n 0, 1) := by decide +kernel
theorem dX4_needByWayOfOthers_35 : decode cX4_needByWayOfOthers 35 = .ok (.getfield 15, 3) := by decide +kernel
theorem dX4_needByWayOfOthers_38 : decode cX4_needByWayOfOthers 38 = .ok (.iload_n 2, 1) := by decide +kernel
theorem dX4_needByWayOfOthers_39 : decode cX4_needByWayOfOthers 39 = .ok (.iaload, 1) := by decide +kernel
theorem dX4_needByWayOfOthers_40 : decode cX4_needByWayOfOthers 40 = .ok (.ior, 1) := by decide +kernel
theorem dX4_needByWayOfOthers_41 : decode cX4_needByWayOfOthers 41 = .ok (.iastore, 1) := by decide +kernel
theorem dX4_needByWayOfOthers_42 : decode cX4_needByWayOfOthers 42 = .ok (.iinc 3 1, 3) := by decide +kernel
theorem dX4_needByWayOfOthers_45 : decode cX4_needByWayOfOthers 45 = .ok (.goto (-36), 3) := by decide +kernel
theorem dX4_needByWayOfOthers_48 : decode cX4_needByWayOfOthers 48 = .ok (.iinc 2 1, 3) := by decide +kernel
theorem dX4_needByWayOfOthers_51 : decode cX4_needByWayOfOthers 51 = .ok (.goto (-49), 3) := by decide +kernel
theorem dX4_needByWayOfOthers_54 : decode cX4_needByWayOfOthers 54 = .ok (.return_, 1) := by decide +kernel
set_option maxHeartbeats 4000000 in
set_option maxRecDepth 100000 in
theorem mX4_needByWayOfOthers_L2 {p : Program} {l : Launch} {e : Env} {R : Room} {s : State} {m : MethodId} {args : Array Value} {below : List Frame} {meth : Method} {c : Code} {Q : State → Prop} {D : va_G} {U : zz_U} {A : Nat → Prop} {cells slots : Nat} {ad : Nat → Nat} {X : va_W} (C : zz_C p l R s m meth c D U A RX4 cX4_needByWayOfOthers 4 none [] 1) (hcR : cells ≤ R.cells) (hsR : slots ≤ R.slots) (groupTotal_ : Int32) (way_ : Int32) : ∀ (n : Nat) (group_ : Int32) (σ : zz_St) (q : (Int32 × zz_St)), fX4_needByWayOfOthers_L2 groupTotal_ way_ n group_ σ = some q → (zz_Z p l e R s m args below meth c Q D A 4 cells slots (zz_wc U ad q.2 X) 48 [(0, .ref (ad 41)), (1, .int groupTotal_), (2, .int way_), (3, .int q.1)] []) → zz_Z p l e R s m args below meth c Q D A 4 cells slots (zz_wc U ad σ X) 9 [(0, .ref (ad 41)), (1, .int groupTotal_), (2, .int way_), (3, .int group_)] [] := by
  intro n
  induction n with
  | zero => intro group_ σ q hf; rw [fX4_needByWayOfOthers_L2] at hf; cases hf
  | succ n ih =>
    intro group_ σ q hf kx
    rw [fX4_needByWayOfOthers_L2] at hf
    refine zz_iload_n C 3 dX4_needByWayOfOthers_9 rfl rfl ?_
    refine zz_iload_n C 1 dX4_needByWayOfOthers_10 rfl rfl ?_
    refine zz_icmp_ge (tgt := 48) C dX4_needByWayOfOthers_11 (by decide) (fun g2 => ?_) (fun g2 => ?_)
    · rw [if_pos g2] at hf
      cases hf
      exact kx
    · rw [if_neg g2] at hf
      obtain ⟨x3, h4, hf⟩ := zz_bind hf
      refine zz_cut 42 [(0, .ref (ad 41)), (1, .int groupTotal_), (2, .int way_), (3, .int group_)] [] (zz_wc U ad x3 X) ?_ (fun J5 => ?_)
      · refine zz_iinc (v := (group_ + (1 : Int32))) C 3 dX4_needByWayOfOthers_42 rfl (by rfl) (by decide) (lv' := [(3, .int (group_ + (1 : Int32))), (0, .ref (ad 41)), (1, .int groupTotal_), (2, .int way_)]) rfl ?_
        refine zz_goto (tgt := 9) C dX4_needByWayOfOthers_45 (by decide) ?_
        refine zz_sub [1, 2, 3, 0] rfl ?_
        exact ih (group_ + (1 : Int32)) x3 _ hf kx
      refine zz_iload_n C 2 dX4_needByWayOfOthers_14 rfl rfl ?_
      refine zz_aload_n C 0 dX4_needByWayOfOthers_15 rfl rfl ?_
      refine zf4_needed C dX4_needByWayOfOthers_16 zw_71 ?_
      refine zz_iload_n C 3 dX4_needByWayOfOthers_19 rfl rfl ?_
      obtain ⟨x6, h7, h4⟩ := zz_bind h4
      refine zl_43 C dX4_needByWayOfOthers_20 h7 ?_
      obtain ⟨x8, h9, h4⟩ := zz_bind h4
      refine zz_callSN1 (host := "ChangeUntangler") (As := [.int way_, .int x6]) (rest := []) C (mX7_isIn σ way_ x6 x8 h9) dX4_needByWayOfOthers_21 rfl (by decide +kernel) zy_X7_isIn rfl (by decide) (by decide) (Nat.le_of_ble_eq_true rfl) hcR hsR rfl ?_
      refine zz_if_eq (tgt := 42) C dX4_needByWayOfOthers_24 (by decide) (fun g10 => ?_) (fun g10 => ?_)
      · rw [if_pos g10] at h4
        cases h4
        exact J5
      · rw [if_neg g10] at h4
        refine zz_aload_n C 0 dX4_needByWayOfOthers_27 rfl rfl ?_
        refine zf4_needed C dX4_needByWayOfOthers_28 zw_71 ?_
        refine zz_iload_n C 3 dX4_needByWayOfOthers_31 rfl rfl ?_
        refine zz_dup2_11 C dX4_needByWayOfOthers_32 rfl rfl ?_
        obtain ⟨x11, h12, h4⟩ := zz_bind h4
        refine zl_43 C dX4_needByWayOfOthers_33 h12 ?_
        refine zz_aload_n C 0 dX4_needByWayOfOthers_34 rfl rfl ?_
        refine zf4_needed C dX4_needByWayOfOthers_35 zw_71 ?_
        refine zz_iload_n C 2 dX4_needByWayOfOthers_38 rfl rfl ?_
        obtain ⟨x13, h14, h4⟩ := zz_bind h4
        refine zl_43 C dX4_needByWayOfOthers_39 h14 ?_
        refine zz_ior C dX4_needByWayOfOthers_40 ?_
        obtain ⟨σ15, h16, h4⟩ := zz_bind h4
        refine zs_43 C dX4_needByWayOfOthers_41 h16 ?_
        cases h4
        exact J5
set_option maxHeartbeats 4000000 in
set_option maxRecDepth 100000 in
theorem mX4_needByWayOfOthers_L1 {p : Program} {l : Launch} {e : Env} {R : Room} {s : State} {m : MethodId} {args : Array Value} {below : List Frame} {meth : Method} {c : Code} {Q : State → Prop} {D : va_G} {U : zz_U} {A : Nat → Prop} {cells slots : Nat} {ad : Nat → Nat} {X : va_W} (C : zz_C p l R s m meth c D U A RX4 cX4_needByWayOfOthers 4 none [] 1) (hcR : cells ≤ R.cells) (hsR : slots ≤ R.slots) (groupTotal_ : Int32) : ∀ (n : Nat) (way_ : Int32) (σ : zz_St) (q : (Int32 × zz_St)), fX4_needByWayOfOthers_L1 groupTotal_ n way_ σ = some q → (zz_Z p l e R s m args below meth c Q D A 4 cells slots (zz_wc U ad q.2 X) 54 [(0, .ref (ad 41)), (1, .int groupTotal_), (2, .int q.1)] []) → zz_Z p l e R s m args below meth c Q D A 4 cells slots (zz_wc U ad σ X) 2 [(0, .ref (ad 41)), (1, .int groupTotal_), (2, .int way_)] [] := by
  intro n
  induction n with
  | zero => intro way_ σ q hf; rw [fX4_needByWayOfOthers_L1] at hf; cases hf
  | succ n ih =>
    intro way_ σ q hf kx
    rw [fX4_needByWayOfOthers_L1] at hf
    refine zz_iload_n C 2 dX4_needByWayOfOthers_2 rfl rfl ?_
    refine zz_iload_n C 1 dX4_needByWayOfOthers_3 rfl rfl ?_
    refine zz_icmp_ge (tgt := 54) C dX4_needByWayOfOthers_4 (by decide) (fun g1 => ?_) (fun g1 => ?_)
    · rw [if_pos g1] at hf
      cases hf
      exact kx
    · rw [if_neg g1] at hf
      refine zz_iconst (v := (0 : Int32)) C dX4_needByWayOfOthers_7 (by decide) ?_
      refine zz_istore_n C dX4_needByWayOfOthers_8 rfl (by decide) (lv' := [(3, .int (0 : Int32)), (0, .ref (ad 41)), (1, .int groupTotal_), (2, .int way_)]) rfl ?_
      obtain ⟨q17, h18, hf⟩ := zz_bind hf
      refine zz_sub [1, 2, 3, 0] rfl ?_
      refine mX4_needByWayOfOthers_L2 C hcR hsR groupTotal_ way_ 1000 (0 : Int32) σ q17 h18 ?_
      refine zz_iinc (v := (way_ + (1 : Int32))) C 2 dX4_needByWayOfOthers_48 rfl (by rfl) (by decide) (lv' := [(2, .int (way_ + (1 : Int32))), (0, .ref (ad 41)), (1, .int groupTotal_), (3, .int q17.1)]) rfl ?_
      refine zz_goto (tgt := 2) C dX4_needByWayOfOthers_51 (by decide) ?_
      refine zz_sub [1, 2, 0] rfl ?_
      exact ih (way_ + (1 : Int32)) q17.2 _ hf kx
set_option maxHeartbeats 4000000 in
set_option maxRecDepth 100000 in
theorem mX4_needByWayOfOthers {D : va_G} {U : zz_U} {ad : Nat → Nat} {X : va_W} (σ : zz_St) (groupTotal_ : Int32) (r : zz_St) (hf : fX4_needByWayOfOthers σ groupTotal_ = some r) : zz_Met yX4_needByWayOfOthers (.code yX4_needByWayOfOthers cX4_needByWayOfOthers 4 none) 1 0 0 D U [.ref (ad 41), .int groupTotal_] (zz_wc U ad σ X) (zz_ok none (zz_wc U ad r X)) zz_noth := by
  unfold fX4_needByWayOfOthers at hf
  refine zz_method RX4 rfl (by decide +kernel) (Nat.le_of_ble_eq_true rfl) ?_
  intro p l e s m args below meth c A _ C
  refine zz_lvs (lv1 := [(0, .ref (ad 41)), (1, .int groupTotal_)]) rfl ?_
  refine zz_iconst (v := (0 : Int32)) C dX4_needByWayOfOthers_0 (by decide) ?_
  refine zz_istore_n C dX4_needByWayOfOthers_1 rfl (by decide) (lv' := [(2, .int (0 : Int32)), (0, .ref (ad 41)), (1, .int groupTotal_)]) rfl ?_
  obtain ⟨q19, h20, hf⟩ := zz_bind hf
  refine zz_sub [1, 2, 0] rfl ?_
  refine mX4_needByWayOfOthers_L1 C (Nat.le_of_ble_eq_true rfl) (Nat.le_of_ble_eq_true rfl) groupTotal_ 1000 (0 : Int32) σ q19 h20 ?_
  cases hf
  exact zz_vret C dX4_needByWayOfOthers_54 (And.intro rfl rfl) (Nat.le_of_ble_eq_true rfl) (Nat.le_of_ble_eq_true rfl)
theorem dX4_circleOf_0 : decode cX4_circleOf 0 = .ok (.iconst 1, 1) := by decide +kernel
theorem dX4_circleOf_1 : decode cX4_circleOf 1 = .ok (.iload_n 1, 1) := by decide +kernel
theorem dX4_circleOf_2 : decode cX4_circleOf 2 = .ok (.ishl, 1) := by decide +kernel
theorem dX4_circleOf_3 : decode cX4_circleOf 3 = .ok (.istore_n 3, 1) := by decide +kernel
theorem dX4_circleOf_4 : decode cX4_circleOf 4 = .ok (.iconst 0, 1) := by decide +kernel
theorem dX4_circleOf_5 : decode cX4_circleOf 5 = .ok (.istore 4, 2) := by decide +kernel
theorem dX4_circleOf_7 : decode cX4_circleOf 7 = .ok (.iload 4, 2) := by decide +kernel
theorem dX4_circleOf_9 : decode cX4_circleOf 9 = .ok (.iload_n 2, 1) := by decide +kernel
theorem dX4_circleOf_10 : decode cX4_circleOf 10 = .ok (.if_icmp .ge 44, 3) := by decide +kernel
theorem dX4_circleOf_13 : decode cX4_circleOf 13 = .ok (.iload 4, 2) := by decide +kernel
theorem dX4_circleOf_15 : decode cX4_circleOf 15 = .ok (.aload_n 0, 1) := by decide +kernel
theorem dX4_circleOf_16 : decode cX4_circleOf 16 = .ok (.getfield 15, 3) := by decide +kernel
theorem dX4_circleOf_19 : decode cX4_circleOf 19 = .ok (.iload_n 1, 1) := by decide +kernel
theorem dX4_circleOf_20 : decode cX4_circleOf 20 = .ok (.iaload, 1) := by decide +kernel
theorem dX4_circleOf_21 : decode cX4_circleOf 21 = .ok (.invokestatic 55, 3) := by decide +kernel
theorem dX4_circleOf_24 : decode cX4_circleOf 24 = .ok (.ifCond .eq 24, 3) := by decide +kernel
theorem dX4_circleOf_27 : decode cX4_circleOf 27 = .ok (.iload_n 1, 1) := by decide +kernel
theorem dX4_circleOf_28 : decode cX4_circleOf 28 = .ok (.aload_n 0, 1) := by decide +kernel
theorem dX4_circleOf_29 : decode cX4_circleOf 29 = .ok (.getfield 15, 3) := by decide +kernel
theorem dX4_circleOf_32 : decode cX4_circleOf 32 = .ok (.iload 4, 2) := by decide +kernel
theorem dX4_circleOf_34 : decode cX4_circleOf 34 = .ok (.iaload, 1) := by decide +kernel
theorem dX4_circleOf_35 : decode cX4_circleOf 35 = .ok (.invokestatic 55, 3) := by decide +kernel
theorem dX4_circleOf_38 : decode cX4_circleOf 38 = .ok (.ifCond .eq 10, 3) := by decide +kernel
theorem dX4_circleOf_41 : decode cX4_circleOf 41 = .ok (.iload_n 3, 1) := by decide +kernel
theorem dX4_circleOf_42 : decode cX4_circleOf 42 = .ok (.iconst 1, 1) := by decide +kernel
theorem dX4_circleOf_43 : decode cX4_circleOf 43 = .ok (.iload 4, 2) := by decide +kernel
theorem dX4_circleOf_45 : decode cX4_circleOf 45 = .ok (.ishl, 1) := by decide +kernel
theorem dX4_circleOf_46 : decode cX4_circleOf 46 = .ok (.ior, 1) := by decide +kernel
theorem dX4_circleOf_47 : decode cX4_circleOf 47 = .ok (.istore_n 3, 1) := by decide +kernel
theorem dX4_circleOf_48 : decode cX4_circleOf 48 = .ok (.iinc 4 1, 3) := by decide +kernel
theorem dX4_circleOf_51 : decode cX4_circleOf 51 = .ok (.goto (-44), 3) := by decide +kernel
theorem dX4_circleOf_54 : decode cX4_circleOf 54 = .ok (.iload_n 3, 1) := by decide +kernel
theorem dX4_circleOf_55 : decode cX4_circleOf 55 = .ok (.ireturn, 1) := by decide +kernel
set_option maxHeartbeats 4000000 in
set_option maxRecDepth 100000 in
theorem mX4_circleOf_L1 {p : Program} {l : Launch} {e : Env} {R : Room} {s : State} {m : MethodId} {args : Array Value} {below : List Frame} {meth : Method} {c : Code} {Q : State → Prop} {D : va_G} {U : zz_U} {A : Nat → Prop} {cells slots : Nat} {ad : Nat → Nat} {X : va_W} (C : zz_C p l R s m meth c D U A RX4 cX4_circleOf 5 (some .int) [] 1) (hcR : cells ≤ R.cells) (hsR : slots ≤ R.slots) (σ : zz_St) (group_ : Int32) (groupTotal_ : Int32) : ∀ (n : Nat) (circle_ : Int32) (other_ : Int32) (q : (Int32 × Int32)), fX4_circleOf_L1 σ group_ groupTotal_ n circle_ other_ = some q → (zz_Z p l e R s m args below meth c Q D A 5 cells slots (zz_wc U ad σ X) 54 [(0, .ref (ad 41)), (1, .int group_), (2, .int groupTotal_), (3, .int q.1), (4, .int q.2)] []) → zz_Z p l e R s m args below meth c Q D A 5 cells slots (zz_wc U ad σ X) 7 [(0, .ref (ad 41)), (1, .int group_), (2, .int groupTotal_), (3, .int circle_), (4, .int other_)] [] := by
  intro n
  induction n with
  | zero => intro circle_ other_ q hf; rw [fX4_circleOf_L1] at hf; cases hf
  | succ n ih =>
    intro circle_ other_ q hf kx
    rw [fX4_circleOf_L1] at hf
    refine zz_iload C 4 dX4_circleOf_7 rfl ?_
    refine zz_iload_n C 2 dX4_circleOf_9 rfl rfl ?_
    refine zz_icmp_ge (tgt := 54) C dX4_circleOf_10 (by decide) (fun g3 => ?_) (fun g3 => ?_)
    · rw [if_pos g3] at hf
      cases hf
      exact kx
    · rw [if_neg g3] at hf
      obtain ⟨x4, h5, hf⟩ := zz_bind hf
      refine zz_cut 48 [(0, .ref (ad 41)), (1, .int group_), (2, .int groupTotal_), (3, .int x4), (4, .int other_)] [] (zz_wc U ad σ X) ?_ (fun J6 => ?_)
      · refine zz_iinc (v := (other_ + (1 : Int32))) C 4 dX4_circleOf_48 rfl (by rfl) (by decide) (lv' := [(4, .int (other_ + (1 : Int32))), (0, .ref (ad 41)), (1, .int group_), (2, .int groupTotal_), (3, .int x4)]) rfl ?_
        refine zz_goto (tgt := 7) C dX4_circleOf_51 (by decide) ?_
        refine zz_sub [1, 2, 3, 4, 0] rfl ?_
        exact ih x4 (other_ + (1 : Int32)) _ hf kx
      obtain ⟨b7, h8, h5⟩ := zz_bind h5
      refine zz_cutI (P := b7 = true) 41 [(0, .ref (ad 41)), (1, .int group_), (2, .int groupTotal_), (3, .int circle_), (4, .int other_)] [] (zz_wc U ad σ X) (fun g11 => ?_) (fun J9 => ?_)
      · rw [if_pos g11] at h5
        refine zz_iload_n C 3 dX4_circleOf_41 rfl rfl ?_
        refine zz_iconst (v := (1 : Int32)) C dX4_circleOf_42 (by decide) ?_
        refine zz_iload C 4 dX4_circleOf_43 rfl ?_
        refine zz_ishl C dX4_circleOf_45 ?_
        refine zz_ior C dX4_circleOf_46 ?_
        obtain ⟨x22, h23, h5⟩ := zz_bind h5
        refine zz_topi (Option.some.inj h23) ?_
        refine zz_istore_n C dX4_circleOf_47 rfl (by decide) (lv' := [(3, .int x22), (0, .ref (ad 41)), (1, .int group_), (2, .int groupTotal_), (4, .int other_)]) rfl ?_
        refine zz_sub [1, 2, 3, 0, 4] rfl ?_
        cases h5
        exact J6
      refine zz_cutI (P := b7 = false) 48 [(0, .ref (ad 41)), (1, .int group_), (2, .int groupTotal_), (3, .int circle_), (4, .int other_)] [] (zz_wc U ad σ X) (fun g11 => ?_) (fun J10 => ?_)
      · rw [if_neg (show ¬ b7 = true by rw [g11]; decide)] at h5
        cases h5
        exact J6
      refine zz_iload C 4 dX4_circleOf_13 rfl ?_
      refine zz_aload_n C 0 dX4_circleOf_15 rfl rfl ?_
      refine zf4_needed C dX4_circleOf_16 zw_71 ?_
      refine zz_iload_n C 1 dX4_circleOf_19 rfl rfl ?_
      obtain ⟨x12, h13, h8⟩ := zz_bind h8
      refine zl_43 C dX4_circleOf_20 h13 ?_
      obtain ⟨x14, h15, h8⟩ := zz_bind h8
      refine zz_callSN1 (host := "ChangeUntangler") (As := [.int other_, .int x12]) (rest := []) C (mX7_isIn σ other_ x12 x14 h15) dX4_circleOf_21 rfl (by decide +kernel) zy_X7_isIn rfl (by decide) (by decide) (Nat.le_of_ble_eq_true rfl) hcR hsR rfl ?_
      refine zz_if_eq (tgt := 48) C dX4_circleOf_24 (by decide) (fun g16 => ?_) (fun g16 => ?_)
      · rw [if_pos g16] at h8
        cases h8
        exact J10 rfl
      · rw [if_neg g16] at h8
        refine zz_iload_n C 1 dX4_circleOf_27 rfl rfl ?_
        refine zz_aload_n C 0 dX4_circleOf_28 rfl rfl ?_
        refine zf4_needed C dX4_circleOf_29 zw_71 ?_
        refine zz_iload C 4 dX4_circleOf_32 rfl ?_
        obtain ⟨x17, h18, h8⟩ := zz_bind h8
        refine zl_43 C dX4_circleOf_34 h18 ?_
        obtain ⟨x19, h20, h8⟩ := zz_bind h8
        refine zz_callSN1 (host := "ChangeUntangler") (As := [.int group_, .int x17]) (rest := []) C (mX7_isIn σ group_ x17 x19 h20) dX4_circleOf_35 rfl (by decide +kernel) zy_X7_isIn rfl (by decide) (by decide) (Nat.le_of_ble_eq_true rfl) hcR hsR rfl ?_
        refine zz_if_eq (tgt := 48) C dX4_circleOf_38 (by decide) (fun g21 => ?_) (fun g21 => ?_)
        · rw [if_pos g21] at h8
          cases h8
          exact J10 rfl
        · rw [if_neg g21] at h8
          cases h8
          exact J9 rfl
set_option maxHeartbeats 4000000 in
set_option maxRecDepth 100000 in
theorem mX4_circleOf {D : va_G} {U : zz_U} {ad : Nat → Nat} {X : va_W} (σ : zz_St) (group_ : Int32) (groupTotal_ : Int32) (r : Int32) (hf : fX4_circleOf σ group_ groupTotal_ = some r) : zz_Met yX4_circleOf (.code yX4_circleOf cX4_circleOf 5 (some .int)) 1 0 0 D U [.ref (ad 41), .int group_, .int groupTotal_] (zz_wc U ad σ X) (zz_ok (some (.int r)) (zz_wc U ad σ X)) zz_noth := by
  unfold fX4_circleOf at hf
  refine zz_method RX4 rfl (by decide +kernel) (Nat.le_of_ble_eq_true rfl) ?_
  intro p l e s m args below meth c A _ C
  refine zz_lvs (lv1 := [(0, .ref (ad 41)), (1, .int group_), (2, .int groupTotal_)]) rfl ?_
  refine zz_iconst (v := (1 : Int32)) C dX4_circleOf_0 (by decide) ?_
  refine zz_iload_n C 1 dX4_circleOf_1 rfl rfl ?_
  refine zz_ishl C dX4_circleOf_2 ?_
  obtain ⟨x1, h2, hf⟩ := zz_bind hf
  refine zz_topi (Option.some.inj h2) ?_
  refine zz_istore_n C dX4_circleOf_3 rfl (by decide) (lv' := [(3, .int x1), (0, .ref (ad 41)), (1, .int group_), (2, .int groupTotal_)]) rfl ?_
  refine zz_iconst (v := (0 : Int32)) C dX4_circleOf_4 (by decide) ?_
  refine zz_istore C dX4_circleOf_5 (by decide) (lv' := [(4, .int (0 : Int32)), (3, .int x1), (0, .ref (ad 41)), (1, .int group_), (2, .int groupTotal_)]) rfl ?_
  obtain ⟨q24, h25, hf⟩ := zz_bind hf
  refine zz_sub [2, 3, 4, 1, 0] rfl ?_
  refine mX4_circleOf_L1 C (Nat.le_of_ble_eq_true rfl) (Nat.le_of_ble_eq_true rfl) σ group_ groupTotal_ 1000 x1 (0 : Int32) q24 h25 ?_
  refine zz_iload_n C 3 dX4_circleOf_54 rfl rfl ?_
  cases hf
  exact zz_iret C dX4_circleOf_55 (And.intro rfl rfl) (Nat.le_of_ble_eq_true rfl) (Nat.le_of_ble_eq_true rfl)
theorem dX4_nextCircle_0 : decode cX4_nextCircle 0 = .ok (.iconst 0, 1) := by decide +kernel
theorem dX4_nextCircle_1 : decode cX4_nextCircle 1 = .ok (.istore_n 3, 1) := by decide +kernel
theorem dX4_nextCircle_2 : decode cX4_nextCircle 2 = .ok (.iload_n 3, 1) := by decide +kernel
theorem dX4_nextCircle_3 : decode cX4_nextCircle 3 = .ok (.iload_n 1, 1) := by decide +kernel
theorem dX4_nextCircle_4 : decode cX4_nextCircle 4 = .ok (.if_icmp .ge 58, 3) := by decide +kernel
theorem dX4_nextCircle_7 : decode cX4_nextCircle 7 = .ok (.aload_n 0, 1) := by decide +kernel
theorem dX4_nextCircle_8 : decode cX4_nextCircle 8 = .ok (.iload_n 3, 1) := by decide +kernel
theorem dX4_nextCircle_9 : decode cX4_nextCircle 9 = .ok (.iload_n 1, 1) := by decide +kernel
theorem dX4_nextCircle_10 : decode cX4_nextCircle 10 = .ok (.invokevirtual 59, 3) := by decide +kernel
theorem dX4_nextCircle_13 : decode cX4_nextCircle 13 = .ok (.istore 4, 2) := by decide +kernel
theorem dX4_nextCircle_15 : decode cX4_nextCircle 15 = .ok (.aload_n 0, 1) := by decide +kernel
theorem dX4_nextCircle_16 : decode cX4_nextCircle 16 = .ok (.getfield 15, 3) := by decide +kernel
theorem dX4_nextCircle_19 : decode cX4_nextCircle 19 = .ok (.iload_n 3, 1) := by decide +kernel
theorem dX4_nextCircle_20 : decode cX4_nextCircle 20 = .ok (.iaload, 1) := by decide +kernel
theorem dX4_nextCircle_21 : decode cX4_nextCircle 21 = .ok (.iload 4, 2) := by decide +kernel
theorem dX4_nextCircle_23 : decode cX4_nextCircle 23 = .ok (.iconst (-1), 1) := by decide +kernel
theorem dX4_nextCircle_24 : decode cX4_nextCircle 24 = .ok (.ixor, 1) := by decide +kernel
theorem dX4_nextCircle_25 : decode cX4_nextCircle 25 = .ok (.iand, 1) := by decide +kernel
theorem dX4_nextCircle_26 : decode cX4_nextCircle 26 = .ok (.iload_n 2, 1) := by decide +kernel
theorem dX4_nextCircle_27 : decode cX4_nextCircle 27 = .ok (.iconst (-1), 1) := by decide +kernel
theorem dX4_nextCircle_28 : decode cX4_nextCircle 28 = .ok (.ixor, 1) := by decide +kernel
theorem dX4_nextCircle_29 : decode cX4_nextCircle 29 = .ok (.iand, 1) := by decide +kernel
theorem dX4_nextCircle_30 : decode cX4_nextCircle 30 = .ok (.ifCond .ne 7, 3) := by decide +kernel
theorem dX4_nextCircle_33 : decode cX4_nextCircle 33 = .ok (.iconst 1, 1) := by decide +kernel
theorem dX4_nextCircle_34 : decode cX4_nextCircle 34 = .ok (.goto 4, 3) := by decide +kernel
theorem dX4_nextCircle_37 : decode cX4_nextCircle 37 = .ok (.iconst 0, 1) := by decide +kernel
theorem dX4_nextCircle_38 : decode cX4_nextCircle 38 = .ok (.istore 5, 2) := by decide +kernel
theorem dX4_nextCircle_40 : decode cX4_nextCircle 40 = .ok (.iload_n 3, 1) := by decide +kernel
theorem dX4_nextCircle_41 : decode cX4_nextCircle 41 = .ok (.iload_n 2, 1) := by decide +kernel
theorem dX4_nextCircle_42 : decode cX4_nextCircle 42 = .ok (.invokestatic 55, 3) := by decide +kernel
theorem dX4_nextCircle_45 : decode cX4_nextCircle 45 = .ok (.ifCond .ne 11, 3) := by decide +kernel
theorem dX4_nextCircle_48 : decode cX4_nextCircle 48 = .ok (.iload 5, 2) := by decide +kernel
theorem dX4_nextCircle_50 : decode cX4_nextCircle 50 = .ok (.ifCond .eq 6, 3) := by decide +kernel
theorem dX4_nextCircle_53 : decode cX4_nextCircle 53 = .ok (.iload 4, 2) := by decide +kernel
theorem dX4_nextCircle_55 : decode cX4_nextCircle 55 = .ok (.ireturn, 1) := by decide +kernel
theorem dX4_nextCircle_56 : decode cX4_nextCircle 56 = .ok (.iinc 3 1, 3) := by decide +kernel
theorem dX4_nextCircle_59 : decode cX4_nextCircle 59 = .ok (.goto (-57), 3) := by decide +kernel
theorem dX4_nextCircle_62 : decode cX4_nextCircle 62 = .ok (.iconst 0, 1) := by decide +kernel
theorem dX4_nextCircle_63 : decode cX4_nextCircle 63 = .ok (.ireturn, 1) := by decide +kernel
set_option maxHeartbeats 4000000 in
set_option maxRecDepth 100000 in
theorem mX4_nextCircle_L1 {p : Program} {l : Launch} {e : Env} {R : Room} {s : State} {m : MethodId} {args : Array Value} {below : List Frame} {meth : Method} {c : Code} {Q : State → Prop} {D : va_G} {U : zz_U} {A : Nat → Prop} {cells slots : Nat} {ad : Nat → Nat} {X : va_W} (C : zz_C p l R s m meth c D U A RX4 cX4_nextCircle 6 (some .int) [] 2) (hcR : cells ≤ R.cells) (hsR : slots ≤ R.slots) (σ : zz_St) (groupTotal_ : Int32) (placed_ : Int32) : ∀ (n : Nat) (group_ : Int32) (q : (Int32 ⊕ (Int32))), fX4_nextCircle_L1 σ groupTotal_ placed_ n group_ = some q → (∀ v : Int32, q = .inl v → zz_Z p l e R s m args below meth c Q D A 6 cells slots (zz_wc U ad σ X) 55 [] [.int v]) → (∀ w : Int32, q = .inr w → zz_Z p l e R s m args below meth c Q D A 6 cells slots (zz_wc U ad σ X) 62 [(0, .ref (ad 41)), (1, .int groupTotal_), (2, .int placed_), (3, .int w)] []) → zz_Z p l e R s m args below meth c Q D A 6 cells slots (zz_wc U ad σ X) 2 [(0, .ref (ad 41)), (1, .int groupTotal_), (2, .int placed_), (3, .int group_)] [] := by
  intro n
  induction n with
  | zero => intro group_ q hf; rw [fX4_nextCircle_L1] at hf; cases hf
  | succ n ih =>
    intro group_ q hf kr kx
    rw [fX4_nextCircle_L1] at hf
    refine zz_iload_n C 3 dX4_nextCircle_2 rfl rfl ?_
    refine zz_iload_n C 1 dX4_nextCircle_3 rfl rfl ?_
    refine zz_icmp_ge (tgt := 62) C dX4_nextCircle_4 (by decide) (fun g1 => ?_) (fun g1 => ?_)
    · rw [if_pos g1] at hf
      cases hf
      exact kx _ rfl
    · rw [if_neg g1] at hf
      refine zz_aload_n C 0 dX4_nextCircle_7 rfl rfl ?_
      refine zz_iload_n C 3 dX4_nextCircle_8 rfl rfl ?_
      refine zz_iload_n C 1 dX4_nextCircle_9 rfl rfl ?_
      obtain ⟨x2, h3, hf⟩ := zz_bind hf
      refine zz_callV1 (As := [.int group_, .int groupTotal_]) (rest := []) C 41 (mX4_circleOf σ group_ groupTotal_ x2 h3) dX4_nextCircle_10 rfl rfl rfl zw_75 zy_X4_circleOf rfl (by decide) (by decide) (Nat.le_of_ble_eq_true rfl) hcR hsR rfl ?_
      refine zz_istore C dX4_nextCircle_13 (by decide) (lv' := [(4, .int x2), (0, .ref (ad 41)), (1, .int groupTotal_), (2, .int placed_), (3, .int group_)]) rfl ?_
      obtain ⟨b4, h5, hf⟩ := zz_bind hf
      refine zz_cut 38 [(4, .int x2), (0, .ref (ad 41)), (1, .int groupTotal_), (2, .int placed_), (3, .int group_)] [.int (zz_bi b4)] (zz_wc U ad σ X) ?_ (fun J6 => ?_)
      · obtain ⟨x10, h11, hf⟩ := zz_bind hf
        refine zz_topi (Option.some.inj h11) ?_
        refine zz_istore C dX4_nextCircle_38 (by decide) (lv' := [(5, .int x10), (4, .int x2), (0, .ref (ad 41)), (1, .int groupTotal_), (2, .int placed_), (3, .int group_)]) rfl ?_
        obtain ⟨b12, h13, hf⟩ := zz_bind hf
        refine zz_cutI (P := b12 = true) 53 [(5, .int x10), (4, .int x2), (0, .ref (ad 41)), (1, .int groupTotal_), (2, .int placed_), (3, .int group_)] [] (zz_wc U ad σ X) (fun g16 => ?_) (fun J14 => ?_)
        · rw [if_pos g16] at hf
          refine zz_iload C 1 dX4_nextCircle_53 rfl ?_
          cases hf
          refine zz_sub [] rfl ?_
          exact kr _ rfl
        refine zz_cutI (P := b12 = false) 56 [(5, .int x10), (4, .int x2), (0, .ref (ad 41)), (1, .int groupTotal_), (2, .int placed_), (3, .int group_)] [] (zz_wc U ad σ X) (fun g16 => ?_) (fun J15 => ?_)
        · rw [if_neg (show ¬ b12 = true by rw [g16]; decide)] at hf
          refine zz_iinc (v := (group_ + (1 : Int32))) C 5 dX4_nextCircle_56 rfl (by rfl) (by decide) (lv' := [(3, .int (group_ + (1 : Int32))), (5, .int x10), (4, .int x2), (0, .ref (ad 41)), (1, .int groupTotal_), (2, .int placed_)]) rfl ?_
          refine zz_goto (tgt := 2) C dX4_nextCircle_59 (by decide) ?_
          refine zz_sub [3, 4, 5, 0] rfl ?_
          exact ih (group_ + (1 : Int32)) _ hf kr kx
        refine zz_iload_n C 5 dX4_nextCircle_40 rfl rfl ?_
        refine zz_iload_n C 4 dX4_nextCircle_41 rfl rfl ?_
        obtain ⟨x17, h18, h13⟩ := zz_bind h13
        refine zz_callSN1 (host := "ChangeUntangler") (As := [.int group_, .int placed_]) (rest := []) C (mX7_isIn σ group_ placed_ x17 h18) dX4_nextCircle_42 rfl (by decide +kernel) zy_X7_isIn rfl (by decide) (by decide) (Nat.le_of_ble_eq_true rfl) hcR hsR rfl ?_
        refine zz_if_ne (tgt := 56) C dX4_nextCircle_45 (by decide) (fun g19 => ?_) (fun g19 => ?_)
        · rw [if_neg g19] at h13
          cases h13
          exact J15 rfl
        · rw [if_pos g19] at h13
          refine zz_iload C 0 dX4_nextCircle_48 rfl ?_
          refine zz_if_eq (tgt := 56) C dX4_nextCircle_50 (by decide) (fun g20 => ?_) (fun g20 => ?_)
          · rw [if_pos g20] at h13
            cases h13
            exact J15 rfl
          · rw [if_neg g20] at h13
            cases h13
            exact J14 rfl
      refine zz_aload_n C 1 dX4_nextCircle_15 rfl rfl ?_
      refine zf4_needed C dX4_nextCircle_16 zw_71 ?_
      refine zz_iload_n C 4 dX4_nextCircle_19 rfl rfl ?_
      obtain ⟨x7, h8, h5⟩ := zz_bind h5
      refine zl_43 C dX4_nextCircle_20 h8 ?_
      refine zz_iload C 0 dX4_nextCircle_21 rfl ?_
      refine zz_iconst (v := (-1 : Int32)) C dX4_nextCircle_23 (by decide) ?_
      refine zz_ixor C dX4_nextCircle_24 ?_
      refine zz_iand C dX4_nextCircle_25 ?_
      refine zz_iload_n C 3 dX4_nextCircle_26 rfl rfl ?_
      refine zz_iconst (v := (-1 : Int32)) C dX4_nextCircle_27 (by decide) ?_
      refine zz_ixor C dX4_nextCircle_28 ?_
      refine zz_iand C dX4_nextCircle_29 ?_
      refine zz_if_ne (tgt := 37) C dX4_nextCircle_30 (by decide) (fun g9 => ?_) (fun g9 => ?_)
      · rw [if_neg g9] at h5
        refine zz_iconst (v := 0) C dX4_nextCircle_37 (by decide) ?_
        cases h5
        exact J6
      · rw [if_pos g9] at h5
        refine zz_iconst (v := 1) C dX4_nextCircle_33 (by decide) ?_
        refine zz_goto (tgt := 38) C dX4_nextCircle_34 (by decide) ?_
        cases h5
        exact J6
set_option maxHeartbeats 4000000 in
set_option maxRecDepth 100000 in
theorem mX4_nextCircle {D : va_G} {U : zz_U} {ad : Nat → Nat} {X : va_W} (σ : zz_St) (groupTotal_ : Int32) (placed_ : Int32) (r : Int32) (hf : fX4_nextCircle σ groupTotal_ placed_ = some r) : zz_Met yX4_nextCircle (.code yX4_nextCircle cX4_nextCircle 6 (some .int)) 2 0 0 D U [.ref (ad 41), .int groupTotal_, .int placed_] (zz_wc U ad σ X) (zz_ok (some (.int r)) (zz_wc U ad σ X)) zz_noth := by
  unfold fX4_nextCircle at hf
  refine zz_method RX4 rfl (by decide +kernel) (Nat.le_of_ble_eq_true rfl) ?_
  intro p l e s m args below meth c A _ C
  refine zz_lvs (lv1 := [(0, .ref (ad 41)), (1, .int groupTotal_), (2, .int placed_)]) rfl ?_
  refine zz_iconst (v := (0 : Int32)) C dX4_nextCircle_0 (by decide) ?_
  refine zz_istore_n C dX4_nextCircle_1 rfl (by decide) (lv' := [(3, .int (0 : Int32)), (0, .ref (ad 41)), (1, .int groupTotal_), (2, .int placed_)]) rfl ?_
  obtain ⟨q21, h22, hf⟩ := zz_bind hf
  refine zz_sub [1, 2, 3, 0] rfl ?_
  refine mX4_nextCircle_L1 C (Nat.le_of_ble_eq_true rfl) (Nat.le_of_ble_eq_true rfl) σ groupTotal_ placed_ 1000 (0 : Int32) q21 h22 (fun v23 h25 => ?_) (fun w24 h25 => ?_)
  · subst h25
    cases hf
    exact zz_iret C dX4_nextCircle_55 (And.intro rfl rfl) (Nat.le_of_ble_eq_true rfl) (Nat.le_of_ble_eq_true rfl)
  · subst h25
    refine zz_iconst (v := (0 : Int32)) C dX4_nextCircle_62 (by decide) ?_
    cases hf
    exact zz_iret C dX4_nextCircle_63 (And.intro rfl rfl) (Nat.le_of_ble_eq_true rfl) (Nat.le_of_ble_eq_true rfl)
theorem dX4_append_0 : decode cX4_append 0 = .ok (.aload_n 0, 1) := by decide +kernel
theorem dX4_append_1 : decode cX4_append 1 = .ok (.getfield 32, 3) := by decide +kernel
theorem dX4_append_4 : decode cX4_append 4 = .ok (.bipush 14, 2) := by decide +kernel
theorem dX4_append_6 : decode cX4_append 6 = .ok (.if_icmp .lt 4, 3) := by decide +kernel
theorem dX4_append_9 : decode cX4_append 9 = .ok (.return_, 1) := by decide +kernel
theorem dX4_append_10 : decode cX4_append 10 = .ok (.aload_n 0, 1) := by decide +kernel
theorem dX4_append_11 : decode cX4_append 11 = .ok (.getfield 9, 3) := by decide +kernel
theorem dX4_append_14 : decode cX4_append 14 = .ok (.aload_n 0, 1) := by decide +kernel
theorem dX4_append_15 : decode cX4_append 15 = .ok (.getfield 32, 3) := by decide +kernel
theorem dX4_append_18 : decode cX4_append 18 = .ok (.iconst 0, 1) := by decide +kernel
theorem dX4_append_19 : decode cX4_append 19 = .ok (.iastore, 1) := by decide +kernel
theorem dX4_append_20 : decode cX4_append 20 = .ok (.iconst 0, 1) := by decide +kernel
theorem dX4_append_21 : decode cX4_append 21 = .ok (.istore_n 3, 1) := by decide +kernel
theorem dX4_append_22 : decode cX4_append 22 = .ok (.iload_n 3, 1) := by decide +kernel
theorem dX4_append_23 : decode cX4_append 23 = .ok (.aload_n 2, 1) := by decide +kernel
theorem dX4_append_24 : decode cX4_append 24 = .ok (.getfield 22, 3) := by decide +kernel
theorem dX4_append_27 : decode cX4_append 27 = .ok (.if_icmp .ge 39, 3) := by decide +kernel
theorem dX4_append_30 : decode cX4_append 30 = .ok (.aload_n 0, 1) := by decide +kernel
theorem dX4_append_31 : decode cX4_append 31 = .ok (.getfield 9, 3) := by decide +kernel
theorem dX4_append_34 : decode cX4_append 34 = .ok (.aload_n 0, 1) := by decide +kernel
theorem dX4_append_35 : decode cX4_append 35 = .ok (.getfield 32, 3) := by decide +kernel
theorem dX4_append_38 : decode cX4_append 38 = .ok (.dup2, 1) := by decide +kernel
theorem dX4_append_39 : decode cX4_append 39 = .ok (.iaload, 1) := by decide +kernel
theorem dX4_append_40 : decode cX4_append 40 = .ok (.iload_n 3, 1) := by decide +kernel
theorem dX4_append_41 : decode cX4_append 41 = .ok (.iload_n 1, 1) := by decide +kernel
theorem dX4_append_42 : decode cX4_append 42 = .ok (.invokestatic 55, 3) := by decide +kernel
theorem dX4_append_45 : decode cX4_append 45 = .ok (.ifCond .eq 12, 3) := by decide +kernel
theorem dX4_append_48 : decode cX4_append 48 = .ok (.aload_n 2, 1) := by decide +kernel
theorem dX4_append_49 : decode cX4_append 49 = .ok (.getfield 44, 3) := by decide +kernel
theorem dX4_append_52 : decode cX4_append 52 = .ok (.iload_n 3, 1) := by decide +kernel
theorem dX4_append_53 : decode cX4_append 53 = .ok (.iaload, 1) := by decide +kernel
theorem dX4_append_54 : decode cX4_append 54 = .ok (.goto 4, 3) := by decide +kernel
theorem dX4_append_57 : decode cX4_append 57 = .ok (.iconst 0, 1) := by decide +kernel
theorem dX4_append_58 : decode cX4_append 58 = .ok (.ior, 1) := by decide +kernel
theorem dX4_append_59 : decode cX4_append 59 = .ok (.iastore, 1) := by decide +kernel
theorem dX4_append_60 : decode cX4_append 60 = .ok (.iinc 3 1, 3) := by decide +kernel
theorem dX4_append_63 : decode cX4_append 63 = .ok (.goto (-41), 3) := by decide +kernel
theorem dX4_append_66 : decode cX4_append 66 = .ok (.aload_n 0, 1) := by decide +kernel
theorem dX4_append_67 : decode cX4_append 67 = .ok (.dup, 1) := by decide +kernel
theorem dX4_append_68 : decode cX4_append 68 = .ok (.getfield 32, 3) := by decide +kernel
theorem dX4_append_71 : decode cX4_append 71 = .ok (.iconst 1, 1) := by decide +kernel
theorem dX4_append_72 : decode cX4_append 72 = .ok (.iadd, 1) := by decide +kernel
theorem dX4_append_73 : decode cX4_append 73 = .ok (.putfield 32, 3) := by decide +kernel
theorem dX4_append_76 : decode cX4_append 76 = .ok (.iload_n 1, 1) := by decide +kernel
theorem dX4_append_77 : decode cX4_append 77 = .ok (.invokestatic 62, 3) := by decide +kernel
theorem dX4_append_80 : decode cX4_append 80 = .ok (.iconst 1, 1) := by decide +kernel
theorem dX4_append_81 : decode cX4_append 81 = .ok (.if_icmp .le 13, 3) := by decide +kernel
theorem dX4_append_84 : decode cX4_append 84 = .ok (.aload_n 0, 1) := by decide +kernel
theorem dX4_append_85 : decode cX4_append 85 = .ok (.dup, 1) := by decide +kernel
theorem dX4_append_86 : decode cX4_append 86 = .ok (.getfield 33, 3) := by decide +kernel
theorem dX4_append_89 : decode cX4_append 89 = .ok (.iconst 1, 1) := by decide +kernel
theorem dX4_append_90 : decode cX4_append 90 = .ok (.iadd, 1) := by decide +kernel
theorem dX4_append_91 : decode cX4_append 91 = .ok (.putfield 33, 3) := by decide +kernel
theorem dX4_append_94 : decode cX4_append 94 = .ok (.return_, 1) := by decide +kernel
set_option maxHeartbeats 4000000 in
set_option maxRecDepth 100000 in
theorem mX4_append_L1 {p : Program} {l : Launch} {e : Env} {R : Room} {s : State} {m : MethodId} {args : Array Value} {below : List Frame} {meth : Method} {c : Code} {Q : State → Prop} {D : va_G} {U : zz_U} {A : Nat → Prop} {cells slots : Nat} {ad : Nat → Nat} {X : va_W} (C : zz_C p l R s m meth c D U A RX4 cX4_append 4 none [] 1) (hcR : cells ≤ R.cells) (hsR : slots ≤ R.slots) (circle_ : Int32) : ∀ (n : Nat) (group_ : Int32) (σ : zz_St) (q : (Int32 × zz_St)), fX4_append_L1 circle_ n group_ σ = some q → (zz_Z p l e R s m args below meth c Q D A 4 cells slots (zz_wc U ad q.2 X) 66 [(0, .ref (ad 41)), (1, .int circle_), (2, .ref (ad 24)), (3, .int q.1)] []) → zz_Z p l e R s m args below meth c Q D A 4 cells slots (zz_wc U ad σ X) 22 [(0, .ref (ad 41)), (1, .int circle_), (2, .ref (ad 24)), (3, .int group_)] [] := by
  intro n
  induction n with
  | zero => intro group_ σ q hf; rw [fX4_append_L1] at hf; cases hf
  | succ n ih =>
    intro group_ σ q hf kx
    rw [fX4_append_L1] at hf
    refine zz_iload_n C 3 dX4_append_22 rfl rfl ?_
    refine zz_aload_n C 2 dX4_append_23 rfl rfl ?_
    refine zf3_count C dX4_append_24 zw_72 ?_
    refine zz_icmp_ge (tgt := 66) C dX4_append_27 (by decide) (fun g4 => ?_) (fun g4 => ?_)
    · rw [if_pos g4] at hf
      cases hf
      exact kx
    · rw [if_neg g4] at hf
      refine zz_aload_n C 0 dX4_append_30 rfl rfl ?_
      refine zf4_sets C dX4_append_31 zw_77 ?_
      refine zz_aload_n C 0 dX4_append_34 rfl rfl ?_
      refine zf4_count C dX4_append_35 zw_76 ?_
      refine zz_dup2_11 C dX4_append_38 rfl rfl ?_
      obtain ⟨x5, h6, hf⟩ := zz_bind hf
      refine zl_42 C dX4_append_39 h6 ?_
      obtain ⟨x7, h8, hf⟩ := zz_bind hf
      refine zz_cut 58 [(0, .ref (ad 41)), (1, .int circle_), (2, .ref (ad 24)), (3, .int group_)] [.int x7, .int x5, .int (σ 41 0), .ref (ad 42)] (zz_wc U ad σ X) ?_ (fun J9 => ?_)
      · refine zz_ior C dX4_append_58 ?_
        obtain ⟨σ15, h16, hf⟩ := zz_bind hf
        refine zs_42 C dX4_append_59 h16 ?_
        refine zz_iinc (v := (group_ + (1 : Int32))) C 3 dX4_append_60 rfl (by rfl) (by decide) (lv' := [(3, .int (group_ + (1 : Int32))), (0, .ref (ad 41)), (1, .int circle_), (2, .ref (ad 24))]) rfl ?_
        refine zz_goto (tgt := 22) C dX4_append_63 (by decide) ?_
        refine zz_sub [1, 2, 3, 0] rfl ?_
        exact ih (group_ + (1 : Int32)) σ15 _ hf kx
      refine zz_iload_n C 3 dX4_append_40 rfl rfl ?_
      refine zz_iload_n C 1 dX4_append_41 rfl rfl ?_
      obtain ⟨x10, h11, h8⟩ := zz_bind h8
      refine zz_callSN1 (host := "ChangeUntangler") (As := [.int group_, .int circle_]) (rest := [.int x5, .int (σ 41 0), .ref (ad 42)]) C (mX7_isIn σ group_ circle_ x10 h11) dX4_append_42 rfl (by decide +kernel) zy_X7_isIn rfl (by decide) (by decide) (Nat.le_of_ble_eq_true rfl) hcR hsR rfl ?_
      refine zz_if_eq (tgt := 57) C dX4_append_45 (by decide) (fun g12 => ?_) (fun g12 => ?_)
      · rw [if_pos g12] at h8
        refine zz_iconst (v := (0 : Int32)) C dX4_append_57 (by decide) ?_
        cases h8
        exact J9
      · rw [if_neg g12] at h8
        refine zz_aload_n C 2 dX4_append_48 rfl rfl ?_
        refine zf3_sets C dX4_append_49 zw_70 ?_
        refine zz_iload_n C 3 dX4_append_52 rfl rfl ?_
        obtain ⟨x13, h14, h8⟩ := zz_bind h8
        refine zl_25 C dX4_append_53 h14 ?_
        refine zz_goto (tgt := 58) C dX4_append_54 (by decide) ?_
        cases h8
        exact J9
set_option maxHeartbeats 4000000 in
set_option maxRecDepth 100000 in
theorem mX4_append {D : va_G} {U : zz_U} {ad : Nat → Nat} {X : va_W} (σ : zz_St) (circle_ : Int32) (r : zz_St) (hf : fX4_append σ circle_ = some r) : zz_Met yX4_append (.code yX4_append cX4_append 4 none) 1 0 0 D U [.ref (ad 41), .int circle_, .ref (ad 24)] (zz_wc U ad σ X) (zz_ok none (zz_wc U ad r X)) zz_noth := by
  unfold fX4_append at hf
  refine zz_method RX4 rfl (by decide +kernel) (Nat.le_of_ble_eq_true rfl) ?_
  intro p l e s m args below meth c A _ C
  refine zz_lvs (lv1 := [(0, .ref (ad 41)), (1, .int circle_), (2, .ref (ad 24))]) rfl ?_
  refine zz_aload_n C 0 dX4_append_0 rfl rfl ?_
  refine zf4_count C dX4_append_1 zw_76 ?_
  refine zz_bipush (v := (14 : Int32)) C dX4_append_4 (by decide) ?_
  refine zz_icmp_lt (tgt := 10) C dX4_append_6 (by decide) (fun g1 => ?_) (fun g1 => ?_)
  · rw [if_pos g1] at hf
    refine zz_aload_n C 0 dX4_append_10 rfl rfl ?_
    refine zf4_sets C dX4_append_11 zw_77 ?_
    refine zz_aload_n C 0 dX4_append_14 rfl rfl ?_
    refine zf4_count C dX4_append_15 zw_76 ?_
    refine zz_iconst (v := (0 : Int32)) C dX4_append_18 (by decide) ?_
    obtain ⟨σ2, h3, hf⟩ := zz_bind hf
    refine zs_42 C dX4_append_19 h3 ?_
    refine zz_iconst (v := (0 : Int32)) C dX4_append_20 (by decide) ?_
    refine zz_istore_n C dX4_append_21 rfl (by decide) (lv' := [(3, .int (0 : Int32)), (0, .ref (ad 41)), (1, .int circle_), (2, .ref (ad 24))]) rfl ?_
    obtain ⟨q17, h18, hf⟩ := zz_bind hf
    refine zz_sub [1, 2, 3, 0] rfl ?_
    refine mX4_append_L1 C (Nat.le_of_ble_eq_true rfl) (Nat.le_of_ble_eq_true rfl) circle_ 1000 (0 : Int32) σ2 q17 h18 ?_
    refine zz_aload_n C 0 dX4_append_66 rfl rfl ?_
    refine zz_dup C dX4_append_67 rfl ?_
    refine zf4_count C dX4_append_68 zw_76 ?_
    refine zz_iconst (v := (1 : Int32)) C dX4_append_71 (by decide) ?_
    refine zz_iadd C dX4_append_72 ?_
    refine zp4_count C dX4_append_73 zw_76 ?_
    obtain ⟨x19, h20, hf⟩ := zz_bind hf
    refine zz_cut 94 [(0, .ref (ad 41)), (1, .int circle_), (2, .ref (ad 24))] [] (zz_wc U ad x19 X) ?_ (fun J21 => ?_)
    · cases hf
      exact zz_vret C dX4_append_94 (And.intro rfl rfl) (Nat.le_of_ble_eq_true rfl) (Nat.le_of_ble_eq_true rfl)
    refine zz_iload_n C 1 dX4_append_76 rfl rfl ?_
    obtain ⟨x22, h23, h20⟩ := zz_bind h20
    refine zz_callS1 (As := [.int circle_]) (rest := []) C (mJ6_bitCount circle_ x22 h23) dX4_append_77 rfl zw_79 zy_J6_bitCount_0f7a4 rfl (by decide) (by decide) (Nat.le_of_ble_eq_true rfl) (Nat.le_of_ble_eq_true rfl) (Nat.le_of_ble_eq_true rfl) rfl ?_
    refine zz_iconst (v := (1 : Int32)) C dX4_append_80 (by decide) ?_
    refine zz_icmp_le (tgt := 94) C dX4_append_81 (by decide) (fun g24 => ?_) (fun g24 => ?_)
    · rw [if_pos g24] at h20
      refine zz_sub [0, 1, 2] rfl ?_
      cases h20
      exact J21
    · rw [if_neg g24] at h20
      refine zz_aload_n C 0 dX4_append_84 rfl rfl ?_
      refine zz_dup C dX4_append_85 rfl ?_
      refine zf4_knotCount C dX4_append_86 zw_78 ?_
      refine zz_iconst (v := (1 : Int32)) C dX4_append_89 (by decide) ?_
      refine zz_iadd C dX4_append_90 ?_
      refine zp4_knotCount C dX4_append_91 zw_78 ?_
      refine zz_sub [0, 1, 2] rfl ?_
      cases h20
      exact J21
  · rw [if_neg g1] at hf
    cases hf
    exact zz_vret C dX4_append_9 (And.intro rfl rfl) (Nat.le_of_ble_eq_true rfl) (Nat.le_of_ble_eq_true rfl)
theorem dX4_build_0 : decode cX4_build 0 = .ok (.aload_n 0, 1) := by decide +kernel
theorem dX4_build_1 : decode cX4_build 1 = .ok (.aload_n 1, 1) := by decide +kernel
theorem dX4_build_2 : decode cX4_build 2 = .ok (.aload_n 2, 1) := by decide +kernel
theorem dX4_build_3 : decode cX4_build 3 = .ok (.aload_n 3, 1) := by decide +kernel
theorem dX4_build_4 : decode cX4_build 4 = .ok (.invokevirtual 18, 3) := by decide +kernel
theorem dX4_build_7 : decode cX4_build 7 = .ok (.aload_n 0, 1) := by decide +kernel
theorem dX4_build_8 : decode cX4_build 8 = .ok (.aload_n 3, 1) := by decide +kernel
theorem dX4_build_9 : decode cX4_build 9 = .ok (.getfield 22, 3) := by decide +kernel
theorem dX4_build_12 : decode cX4_build 12 = .ok (.invokevirtual 28, 3) := by decide +kernel
theorem dX4_build_15 : decode cX4_build 15 = .ok (.aload_n 0, 1) := by decide +kernel
theorem dX4_build_16 : decode cX4_build 16 = .ok (.iconst 0, 1) := by decide +kernel
theorem dX4_build_17 : decode cX4_build 17 = .ok (.putfield 32, 3) := by decide +kernel
theorem dX4_build_20 : decode cX4_build 20 = .ok (.aload_n 0, 1) := by decide +kernel
theorem dX4_build_21 : decode cX4_build 21 = .ok (.iconst 0, 1) := by decide +kernel
theorem dX4_build_22 : decode cX4_build 22 = .ok (.putfield 33, 3) := by decide +kernel
theorem dX4_build_25 : decode cX4_build 25 = .ok (.iconst 0, 1) := by decide +kernel
theorem dX4_build_26 : decode cX4_build 26 = .ok (.istore 4, 2) := by decide +kernel
theorem dX4_build_28 : decode cX4_build 28 = .ok (.iconst 0, 1) := by decide +kernel
theorem dX4_build_29 : decode cX4_build 29 = .ok (.istore 5, 2) := by decide +kernel
theorem dX4_build_31 : decode cX4_build 31 = .ok (.iload 5, 2) := by decide +kernel
theorem dX4_build_33 : decode cX4_build 33 = .ok (.aload_n 3, 1) := by decide +kernel
theorem dX4_build_34 : decode cX4_build 34 = .ok (.getfield 22, 3) := by decide +kernel
theorem dX4_build_37 : decode cX4_build 37 = .ok (.if_icmp .ge 40, 3) := by decide +kernel
theorem dX4_build_40 : decode cX4_build 40 = .ok (.aload_n 0, 1) := by decide +kernel
theorem dX4_build_41 : decode cX4_build 41 = .ok (.aload_n 3, 1) := by decide +kernel
theorem dX4_build_42 : decode cX4_build 42 = .ok (.getfield 22, 3) := by decide +kernel
theorem dX4_build_45 : decode cX4_build 45 = .ok (.iload 4, 2) := by decide +kernel
theorem dX4_build_47 : decode cX4_build 47 = .ok (.invokevirtual 36, 3) := by decide +kernel
theorem dX4_build_50 : decode cX4_build 50 = .ok (.istore 6, 2) := by decide +kernel
theorem dX4_build_52 : decode cX4_build 52 = .ok (.iload 6, 2) := by decide +kernel
theorem dX4_build_54 : decode cX4_build 54 = .ok (.ifCond .eq 17, 3) := by decide +kernel
theorem dX4_build_57 : decode cX4_build 57 = .ok (.iload 4, 2) := by decide +kernel
theorem dX4_build_59 : decode cX4_build 59 = .ok (.iload 6, 2) := by decide +kernel
theorem dX4_build_61 : decode cX4_build 61 = .ok (.ior, 1) := by decide +kernel
theorem dX4_build_62 : decode cX4_build 62 = .ok (.istore 4, 2) := by decide +kernel
theorem dX4_build_64 : decode cX4_build 64 = .ok (.aload_n 0, 1) := by decide +kernel
theorem dX4_build_65 : decode cX4_build 65 = .ok (.iload 6, 2) := by decide +kernel
theorem dX4_build_67 : decode cX4_build 67 = .ok (.aload_n 3, 1) := by decide +kernel
theorem dX4_build_68 : decode cX4_build 68 = .ok (.invokevirtual 40, 3) := by decide +kernel
theorem dX4_build_71 : decode cX4_build 71 = .ok (.iinc 5 1, 3) := by decide +kernel
theorem dX4_build_74 : decode cX4_build 74 = .ok (.goto (-43), 3) := by decide +kernel
theorem dX4_build_77 : decode cX4_build 77 = .ok (.return_, 1) := by decide +kernel
set_option maxHeartbeats 4000000 in
set_option maxRecDepth 100000 in
theorem mX4_build_L1 {p : Program} {l : Launch} {e : Env} {R : Room} {s : State} {m : MethodId} {args : Array Value} {below : List Frame} {meth : Method} {c : Code} {Q : State → Prop} {D : va_G} {U : zz_U} {A : Nat → Prop} {cells slots : Nat} {ad : Nat → Nat} {X : va_W} (C : zz_C p l R s m meth c D U A RX4 cX4_build 7 none [] 3) (hcR : cells ≤ R.cells) (hsR : slots ≤ R.slots) : ∀ (n : Nat) (placed_ : Int32) (round_ : Int32) (σ : zz_St) (q : (Int32 × Int32 × zz_St)), fX4_build_L1 n placed_ round_ σ = some q → (zz_Z p l e R s m args below meth c Q D A 7 cells slots (zz_wc U ad q.2.2 X) 77 [(0, .ref (ad 41)), (1, .ref (ad 1)), (2, .ref (ad 17)), (3, .ref (ad 24)), (4, .int q.1), (5, .int q.2.1)] []) → zz_Z p l e R s m args below meth c Q D A 7 cells slots (zz_wc U ad σ X) 31 [(0, .ref (ad 41)), (1, .ref (ad 1)), (2, .ref (ad 17)), (3, .ref (ad 24)), (4, .int placed_), (5, .int round_)] [] := by
  intro n
  induction n with
  | zero => intro placed_ round_ σ q hf; rw [fX4_build_L1] at hf; cases hf
  | succ n ih =>
    intro placed_ round_ σ q hf kx
    rw [fX4_build_L1] at hf
    refine zz_iload C 5 dX4_build_31 rfl ?_
    refine zz_aload_n C 3 dX4_build_33 rfl rfl ?_
    refine zf3_count C dX4_build_34 zw_72 ?_
    refine zz_icmp_ge (tgt := 77) C dX4_build_37 (by decide) (fun g5 => ?_) (fun g5 => ?_)
    · rw [if_pos g5] at hf
      cases hf
      exact kx
    · rw [if_neg g5] at hf
      refine zz_aload_n C 0 dX4_build_40 rfl rfl ?_
      refine zz_aload_n C 3 dX4_build_41 rfl rfl ?_
      refine zf3_count C dX4_build_42 zw_72 ?_
      refine zz_iload C 4 dX4_build_45 rfl ?_
      obtain ⟨x6, h7, hf⟩ := zz_bind hf
      refine zz_callV1 (As := [.int (σ 24 2), .int placed_]) (rest := []) C 41 (mX4_nextCircle σ (σ 24 2) placed_ x6 h7) dX4_build_47 rfl rfl rfl zw_81 zy_X4_nextCircle rfl (by decide) (by decide) (Nat.le_of_ble_eq_true rfl) hcR hsR rfl ?_
      refine zz_istore C dX4_build_50 (by decide) (lv' := [(6, .int x6), (0, .ref (ad 41)), (1, .ref (ad 1)), (2, .ref (ad 17)), (3, .ref (ad 24)), (4, .int placed_), (5, .int round_)]) rfl ?_
      obtain ⟨x8, h9, hf⟩ := zz_bind hf
      refine zz_cut 71 [(0, .ref (ad 41)), (1, .ref (ad 1)), (2, .ref (ad 17)), (3, .ref (ad 24)), (4, .int x8.1), (5, .int round_), (6, .int x6)] [] (zz_wc U ad x8.2 X) ?_ (fun J10 => ?_)
      · refine zz_iinc (v := (round_ + (1 : Int32))) C 5 dX4_build_71 rfl (by rfl) (by decide) (lv' := [(5, .int (round_ + (1 : Int32))), (0, .ref (ad 41)), (1, .ref (ad 1)), (2, .ref (ad 17)), (3, .ref (ad 24)), (4, .int x8.1), (6, .int x6)]) rfl ?_
        refine zz_goto (tgt := 31) C dX4_build_74 (by decide) ?_
        refine zz_sub [1, 2, 3, 4, 5, 0] rfl ?_
        exact ih x8.1 (round_ + (1 : Int32)) x8.2 _ hf kx
      refine zz_iload C 0 dX4_build_52 rfl ?_
      refine zz_if_eq (tgt := 71) C dX4_build_54 (by decide) (fun g11 => ?_) (fun g11 => ?_)
      · rw [if_pos g11] at h9
        refine zz_sub [1, 2, 3, 4, 5, 6, 0] rfl ?_
        cases h9
        exact J10
      · rw [if_neg g11] at h9
        refine zz_iload C 5 dX4_build_57 rfl ?_
        refine zz_iload C 0 dX4_build_59 rfl ?_
        refine zz_ior C dX4_build_61 ?_
        obtain ⟨x12, h13, h9⟩ := zz_bind h9
        refine zz_topi (Option.some.inj h13) ?_
        refine zz_istore C dX4_build_62 (by decide) (lv' := [(4, .int x12), (6, .int x6), (0, .ref (ad 41)), (1, .ref (ad 1)), (2, .ref (ad 17)), (3, .ref (ad 24)), (5, .int round_)]) rfl ?_
        refine zz_aload_n C 2 dX4_build_64 rfl rfl ?_
        refine zz_iload C 1 dX4_build_65 rfl ?_
        refine zz_aload_n C 5 dX4_build_67 rfl rfl ?_
        obtain ⟨x14, h15, h9⟩ := zz_bind h9
        refine zz_callV1 (As := [.int x6, .ref (ad 24)]) (rest := []) C 41 (mX4_append σ x6 x14 h15) dX4_build_68 rfl rfl rfl zw_80 zy_X4_append rfl (by decide) (by decide) (Nat.le_of_ble_eq_true rfl) hcR hsR rfl ?_
        refine zz_sub [2, 3, 4, 5, 0, 6, 1] rfl ?_
        cases h9
        exact J10
set_option maxHeartbeats 4000000 in
set_option maxRecDepth 100000 in
theorem mX4_build {D : va_G} {U : zz_U} {ad : Nat → Nat} {X : va_W} (σ : zz_St) (r : zz_St) (hf : fX4_build σ = some r) : zz_Met yX4_build (.code yX4_build cX4_build 7 none) 3 0 0 D U [.ref (ad 41), .ref (ad 1), .ref (ad 17), .ref (ad 24)] (zz_wc U ad σ X) (zz_ok none (zz_wc U ad r X)) zz_noth := by
  unfold fX4_build at hf
  refine zz_method RX4 rfl (by decide +kernel) (Nat.le_of_ble_eq_true rfl) ?_
  intro p l e s m args below meth c A _ C
  refine zz_lvs (lv1 := [(0, .ref (ad 41)), (1, .ref (ad 1)), (2, .ref (ad 17)), (3, .ref (ad 24))]) rfl ?_
  refine zz_aload_n C 0 dX4_build_0 rfl rfl ?_
  refine zz_aload_n C 1 dX4_build_1 rfl rfl ?_
  refine zz_aload_n C 2 dX4_build_2 rfl rfl ?_
  refine zz_aload_n C 3 dX4_build_3 rfl rfl ?_
  obtain ⟨x1, h2, hf⟩ := zz_bind hf
  refine zz_callV1 (As := [.ref (ad 1), .ref (ad 17), .ref (ad 24)]) (rest := []) C 41 (mX4_findNeeds σ x1 h2) dX4_build_4 rfl rfl rfl zw_83 zy_X4_findNeeds rfl (by decide) (by decide) (Nat.le_of_ble_eq_true rfl) (Nat.le_of_ble_eq_true rfl) (Nat.le_of_ble_eq_true rfl) rfl ?_
  refine zz_aload_n C 0 dX4_build_7 rfl rfl ?_
  refine zz_aload_n C 3 dX4_build_8 rfl rfl ?_
  refine zf3_count C dX4_build_9 zw_72 ?_
  obtain ⟨x3, h4, hf⟩ := zz_bind hf
  refine zz_callV1 (As := [.int (x1 24 2)]) (rest := []) C 41 (mX4_needByWayOfOthers x1 (x1 24 2) x3 h4) dX4_build_12 rfl rfl rfl zw_82 zy_X4_needByWayOfOthers rfl (by decide) (by decide) (Nat.le_of_ble_eq_true rfl) (Nat.le_of_ble_eq_true rfl) (Nat.le_of_ble_eq_true rfl) rfl ?_
  refine zz_aload_n C 0 dX4_build_15 rfl rfl ?_
  refine zz_iconst (v := (0 : Int32)) C dX4_build_16 (by decide) ?_
  refine zp4_count C dX4_build_17 zw_76 ?_
  refine zz_aload_n C 0 dX4_build_20 rfl rfl ?_
  refine zz_iconst (v := (0 : Int32)) C dX4_build_21 (by decide) ?_
  refine zp4_knotCount C dX4_build_22 zw_78 ?_
  refine zz_iconst (v := (0 : Int32)) C dX4_build_25 (by decide) ?_
  refine zz_istore C dX4_build_26 (by decide) (lv' := [(4, .int (0 : Int32)), (0, .ref (ad 41)), (1, .ref (ad 1)), (2, .ref (ad 17)), (3, .ref (ad 24))]) rfl ?_
  refine zz_iconst (v := (0 : Int32)) C dX4_build_28 (by decide) ?_
  refine zz_istore C dX4_build_29 (by decide) (lv' := [(5, .int (0 : Int32)), (4, .int (0 : Int32)), (0, .ref (ad 41)), (1, .ref (ad 1)), (2, .ref (ad 17)), (3, .ref (ad 24))]) rfl ?_
  obtain ⟨q16, h17, hf⟩ := zz_bind hf
  refine zz_sub [2, 3, 4, 5, 1, 0] rfl ?_
  refine mX4_build_L1 C (Nat.le_of_ble_eq_true rfl) (Nat.le_of_ble_eq_true rfl) 1000 (0 : Int32) (0 : Int32) (zz_u (zz_u x3 41 0 (0 : Int32)) 41 1 (0 : Int32)) q16 h17 ?_
  cases hf
  exact zz_vret C dX4_build_77 (And.intro rfl rfl) (Nat.le_of_ble_eq_true rfl) (Nat.le_of_ble_eq_true rfl)
theorem dX7_putTogether_0 : decode cX7_putTogether 0 = .ok (.aload_n 0, 1) := by decide +kernel
theorem dX7_putTogether_1 : decode cX7_putTogether 1 = .ok (.getfield 267, 3) := by decide +kernel
theorem dX7_putTogether_4 : decode cX7_putTogether 4 = .ok (.ifCond .ne 60, 3) := by decide +kernel
theorem dX7_putTogether_7 : decode cX7_putTogether 7 = .ok (.aload_n 0, 1) := by decide +kernel
theorem dX7_putTogether_8 : decode cX7_putTogether 8 = .ok (.getfield 40, 3) := by decide +kernel
theorem dX7_putTogether_11 : decode cX7_putTogether 11 = .ok (.aload_n 0, 1) := by decide +kernel
theorem dX7_putTogether_12 : decode cX7_putTogether 12 = .ok (.getfield 12, 3) := by decide +kernel
theorem dX7_putTogether_15 : decode cX7_putTogether 15 = .ok (.aload_n 0, 1) := by decide +kernel
theorem dX7_putTogether_16 : decode cX7_putTogether 16 = .ok (.getfield 26, 3) := by decide +kernel
theorem dX7_putTogether_19 : decode cX7_putTogether 19 = .ok (.invokevirtual 274, 3) := by decide +kernel
theorem dX7_putTogether_22 : decode cX7_putTogether 22 = .ok (.aload_n 0, 1) := by decide +kernel
theorem dX7_putTogether_23 : decode cX7_putTogether 23 = .ok (.getfield 40, 3) := by decide +kernel
theorem dX7_putTogether_26 : decode cX7_putTogether 26 = .ok (.aload_n 0, 1) := by decide +kernel
theorem dX7_putTogether_27 : decode cX7_putTogether 27 = .ok (.getfield 12, 3) := by decide +kernel
theorem dX7_putTogether_30 : decode cX7_putTogether 30 = .ok (.getfield 71, 3) := by decide +kernel
theorem dX7_putTogether_33 : decode cX7_putTogether 33 = .ok (.aload_n 0, 1) := by decide +kernel
theorem dX7_putTogether_34 : decode cX7_putTogether 34 = .ok (.getfield 33, 3) := by decide +kernel
theorem dX7_putTogether_37 : decode cX7_putTogether 37 = .ok (.invokevirtual 278, 3) := by decide +kernel
theorem dX7_putTogether_40 : decode cX7_putTogether 40 = .ok (.aload_n 0, 1) := by decide +kernel
theorem dX7_putTogether_41 : decode cX7_putTogether 41 = .ok (.getfield 47, 3) := by decide +kernel
theorem dX7_putTogether_44 : decode cX7_putTogether 44 = .ok (.aload_n 0, 1) := by decide +kernel
theorem dX7_putTogether_45 : decode cX7_putTogether 45 = .ok (.getfield 12, 3) := by decide +kernel
theorem dX7_putTogether_48 : decode cX7_putTogether 48 = .ok (.aload_n 0, 1) := by decide +kernel
theorem dX7_putTogether_49 : decode cX7_putTogether 49 = .ok (.getfield 19, 3) := by decide +kernel
theorem dX7_putTogether_52 : decode cX7_putTogether 52 = .ok (.aload_n 0, 1) := by decide +kernel
theorem dX7_putTogether_53 : decode cX7_putTogether 53 = .ok (.getfield 40, 3) := by decide +kernel
theorem dX7_putTogether_56 : decode cX7_putTogether 56 = .ok (.invokevirtual 282, 3) := by decide +kernel
theorem dX7_putTogether_59 : decode cX7_putTogether 59 = .ok (.aload_n 0, 1) := by decide +kernel
theorem dX7_putTogether_60 : decode cX7_putTogether 60 = .ok (.iconst 1, 1) := by decide +kernel
theorem dX7_putTogether_61 : decode cX7_putTogether 61 = .ok (.putfield 267, 3) := by decide +kernel
theorem dX7_putTogether_64 : decode cX7_putTogether 64 = .ok (.return_, 1) := by decide +kernel
set_option maxHeartbeats 4000000 in
set_option maxRecDepth 100000 in
theorem mX7_putTogether {D : va_G} {U : zz_U} {ad : Nat → Nat} {X : va_W} (σ : zz_St) (r : zz_St) (hf : fX7_putTogether σ = some r) : zz_Met yX7_putTogether (.code yX7_putTogether cX7_putTogether 1 none) 5 0 0 D U [.ref (ad 0)] (zz_wc U ad σ X) (zz_ok none (zz_wc U ad r X)) zz_noth := by
  unfold fX7_putTogether at hf
  refine zz_method RX7 rfl (by decide +kernel) (Nat.le_of_ble_eq_true rfl) ?_
  intro p l e s m args below meth c A _ C
  refine zz_lvs (lv1 := [(0, .ref (ad 0))]) rfl ?_
  obtain ⟨x1, h2, hf⟩ := zz_bind hf
  refine zz_cut 64 [(0, .ref (ad 0))] [] (zz_wc U ad x1 X) ?_ (fun J3 => ?_)
  · cases hf
    exact zz_vret C dX7_putTogether_64 (And.intro rfl rfl) (Nat.le_of_ble_eq_true rfl) (Nat.le_of_ble_eq_true rfl)
  refine zz_aload_n C 0 dX7_putTogether_0 rfl rfl ?_
  refine zf7_isPutTogether C dX7_putTogether_1 zw_2 ?_
  refine zz_if_ne (tgt := 64) C dX7_putTogether_4 (by decide) (fun g4 => ?_) (fun g4 => ?_)
  · rw [if_neg g4] at h2
    cases h2
    exact J3
  · rw [if_pos g4] at h2
    refine zz_aload_n C 0 dX7_putTogether_7 rfl rfl ?_
    refine zf7_groups C dX7_putTogether_8 zw_25 ?_
    refine zz_aload_n C 0 dX7_putTogether_11 rfl rfl ?_
    refine zf7_pieces C dX7_putTogether_12 zw_10 ?_
    refine zz_aload_n C 0 dX7_putTogether_15 rfl rfl ?_
    refine zf7_evidence C dX7_putTogether_16 zw_88 ?_
    obtain ⟨x5, h6, h2⟩ := zz_bind h2
    refine zz_callV1 (As := [.ref (ad 1), .ref (ad 19)]) (rest := []) C 24 (mX3_weighAll σ x5 h6) dX7_putTogether_19 rfl rfl rfl zw_87 zy_X3_weighAll rfl (by decide) (by decide) (Nat.le_of_ble_eq_true rfl) (Nat.le_of_ble_eq_true rfl) (Nat.le_of_ble_eq_true rfl) rfl ?_
    refine zz_aload_n C 0 dX7_putTogether_22 rfl rfl ?_
    refine zf7_groups C dX7_putTogether_23 zw_25 ?_
    refine zz_aload_n C 0 dX7_putTogether_26 rfl rfl ?_
    refine zf7_pieces C dX7_putTogether_27 zw_10 ?_
    refine zf5_count C dX7_putTogether_30 zw_12 ?_
    refine zz_aload_n C 0 dX7_putTogether_33 rfl rfl ?_
    refine zf7_sayings C dX7_putTogether_34 zw_32 ?_
    obtain ⟨x7, h8, h2⟩ := zz_bind h2
    refine zz_callV1 (As := [.int (x5 1 0), .ref (ad 21)]) (rest := []) C 24 (mX3_build x5 (x5 1 0) x7 h8) dX7_putTogether_37 rfl rfl rfl zw_86 zy_X3_build rfl (by decide) (by decide) (Nat.le_of_ble_eq_true rfl) (Nat.le_of_ble_eq_true rfl) (Nat.le_of_ble_eq_true rfl) rfl ?_
    refine zz_aload_n C 0 dX7_putTogether_40 rfl rfl ?_
    refine zf7_parcels C dX7_putTogether_41 zw_85 ?_
    refine zz_aload_n C 0 dX7_putTogether_44 rfl rfl ?_
    refine zf7_pieces C dX7_putTogether_45 zw_10 ?_
    refine zz_aload_n C 0 dX7_putTogether_48 rfl rfl ?_
    refine zf7_code C dX7_putTogether_49 zw_23 ?_
    refine zz_aload_n C 0 dX7_putTogether_52 rfl rfl ?_
    refine zf7_groups C dX7_putTogether_53 zw_25 ?_
    obtain ⟨x9, h10, h2⟩ := zz_bind h2
    refine zz_callV1 (As := [.ref (ad 1), .ref (ad 17), .ref (ad 24)]) (rest := []) C 41 (mX4_build x7 x9 h10) dX7_putTogether_56 rfl rfl rfl zw_84 zy_X4_build rfl (by decide) (by decide) (Nat.le_of_ble_eq_true rfl) (Nat.le_of_ble_eq_true rfl) (Nat.le_of_ble_eq_true rfl) rfl ?_
    refine zz_aload_n C 0 dX7_putTogether_59 rfl rfl ?_
    refine zz_iconst (v := (1 : Int32)) C dX7_putTogether_60 (by decide) ?_
    refine zp7_isPutTogether C dX7_putTogether_61 zw_2 (Or.inr rfl) ?_
    cases h2
    exact J3
theorem dX7_groupCount_0 : decode cX7_groupCount 0 = .ok (.aload_n 0, 1) := by decide +kernel
theorem dX7_groupCount_1 : decode cX7_groupCount 1 = .ok (.invokevirtual 176, 3) := by decide +kernel
theorem dX7_groupCount_4 : decode cX7_groupCount 4 = .ok (.aload_n 0, 1) := by decide +kernel
theorem dX7_groupCount_5 : decode cX7_groupCount 5 = .ok (.getfield 40, 3) := by decide +kernel
theorem dX7_groupCount_8 : decode cX7_groupCount 8 = .ok (.getfield 179, 3) := by decide +kernel
theorem dX7_groupCount_11 : decode cX7_groupCount 11 = .ok (.ireturn, 1) := by decide +kernel
set_option maxHeartbeats 4000000 in
set_option maxRecDepth 100000 in
theorem mX7_groupCount {D : va_G} {U : zz_U} {ad : Nat → Nat} {X : va_W} (σ : zz_St) (r : (Int32 × zz_St)) (hf : fX7_groupCount σ = some r) : zz_Met yX7_groupCount (.code yX7_groupCount cX7_groupCount 1 (some .int)) 6 0 0 D U [.ref (ad 0)] (zz_wc U ad σ X) (zz_ok (some (.int r.1)) (zz_wc U ad r.2 X)) zz_noth := by
  unfold fX7_groupCount at hf
  refine zz_method RX7 rfl (by decide +kernel) (Nat.le_of_ble_eq_true rfl) ?_
  intro p l e s m args below meth c A _ C
  refine zz_lvs (lv1 := [(0, .ref (ad 0))]) rfl ?_
  refine zz_aload_n C 0 dX7_groupCount_0 rfl rfl ?_
  obtain ⟨x1, h2, hf⟩ := zz_bind hf
  refine zz_callV1 (As := []) (rest := []) C 0 (mX7_putTogether σ x1 h2) dX7_groupCount_1 rfl rfl rfl zw_90 zy_X7_putTogether rfl (by decide) (by decide) (Nat.le_of_ble_eq_true rfl) (Nat.le_of_ble_eq_true rfl) (Nat.le_of_ble_eq_true rfl) rfl ?_
  refine zz_aload_n C 0 dX7_groupCount_4 rfl rfl ?_
  refine zf7_groups C dX7_groupCount_5 zw_25 ?_
  refine zf3_count C dX7_groupCount_8 zw_89 ?_
  cases hf
  exact zz_iret C dX7_groupCount_11 (And.intro rfl rfl) (Nat.le_of_ble_eq_true rfl) (Nat.le_of_ble_eq_true rfl)
theorem dX7_requireGroup_0 : decode cX7_requireGroup 0 = .ok (.aload_n 0, 1) := by decide +kernel
theorem dX7_requireGroup_1 : decode cX7_requireGroup 1 = .ok (.invokevirtual 176, 3) := by decide +kernel
theorem dX7_requireGroup_4 : decode cX7_requireGroup 4 = .ok (.iload_n 1, 1) := by decide +kernel
theorem dX7_requireGroup_5 : decode cX7_requireGroup 5 = .ok (.ifCond .lt 14, 3) := by decide +kernel
theorem dX7_requireGroup_8 : decode cX7_requireGroup 8 = .ok (.iload_n 1, 1) := by decide +kernel
theorem dX7_requireGroup_9 : decode cX7_requireGroup 9 = .ok (.aload_n 0, 1) := by decide +kernel
theorem dX7_requireGroup_10 : decode cX7_requireGroup 10 = .ok (.getfield 40, 3) := by decide +kernel
theorem dX7_requireGroup_13 : decode cX7_requireGroup 13 = .ok (.getfield 179, 3) := by decide +kernel
theorem dX7_requireGroup_16 : decode cX7_requireGroup 16 = .ok (.if_icmp .lt 14, 3) := by decide +kernel
theorem dX7_requireGroup_19 : decode cX7_requireGroup 19 = .ok (.new 102, 3) := by decide +kernel
theorem dX7_requireGroup_22 : decode cX7_requireGroup 22 = .ok (.dup, 1) := by decide +kernel
theorem dX7_requireGroup_23 : decode cX7_requireGroup 23 = .ok (.ldc_w 304, 3) := by decide +kernel
theorem dX7_requireGroup_26 : decode cX7_requireGroup 26 = .ok (.invokespecial 106, 3) := by decide +kernel
theorem dX7_requireGroup_29 : decode cX7_requireGroup 29 = .ok (.athrow, 1) := by decide +kernel
theorem dX7_requireGroup_30 : decode cX7_requireGroup 30 = .ok (.return_, 1) := by decide +kernel
set_option maxHeartbeats 4000000 in
set_option maxRecDepth 100000 in
theorem mX7_requireGroup {D : va_G} {U : zz_U} {ad : Nat → Nat} {X : va_W} (σ : zz_St) (group_ : Int32) (r : ((Unit ⊕ String) × zz_St)) (hf : fX7_requireGroup σ group_ = some r) : zz_Met yX7_requireGroup (.code yX7_requireGroup cX7_requireGroup 2 none) 6 1 6 D U [.ref (ad 0), .int group_] (zz_wc U ad σ X) (match r.1 with | .inl _ => zz_ok none (zz_wc U ad r.2 X) | .inr _ => zz_none) (match r.1 with | .inl _ => zz_noth | .inr E => zz_th E (zz_wc U ad r.2 X)) := by
  unfold fX7_requireGroup at hf
  refine zz_method RX7 rfl (by decide +kernel) (Nat.le_of_ble_eq_true rfl) ?_
  intro p l e s m args below meth c A _ C
  refine zz_lvs (lv1 := [(0, .ref (ad 0)), (1, .int group_)]) rfl ?_
  refine zz_aload_n C 0 dX7_requireGroup_0 rfl rfl ?_
  obtain ⟨x1, h2, hf⟩ := zz_bind hf
  refine zz_callV1 (As := []) (rest := []) C 0 (mX7_putTogether σ x1 h2) dX7_requireGroup_1 rfl rfl rfl zw_90 zy_X7_putTogether rfl (by decide) (by decide) (Nat.le_of_ble_eq_true rfl) (Nat.le_of_ble_eq_true rfl) (Nat.le_of_ble_eq_true rfl) rfl ?_
  obtain ⟨b3, h4, hf⟩ := zz_bind hf
  refine zz_cutI (P := b3 = true) 19 [(0, .ref (ad 0)), (1, .int group_)] [] (zz_wc U ad x1 X) (fun g7 => ?_) (fun J5 => ?_)
  · rw [if_pos g7] at hf
    cases hf
    exact zz_throwSW (cls := "java/lang/IndexOutOfBoundsException") (text := "no such group") C zt_2 (by decide +kernel) dX7_requireGroup_19 dX7_requireGroup_22 dX7_requireGroup_23 dX7_requireGroup_26 dX7_requireGroup_29 (by decide) (Nat.le_of_ble_eq_true rfl) (Nat.le_of_ble_eq_true rfl) (Nat.le_of_ble_eq_true rfl) (Nat.le_of_ble_eq_true rfl) (Nat.le_of_ble_eq_true rfl) (And.intro rfl rfl)
  refine zz_cutI (P := b3 = false) 30 [(0, .ref (ad 0)), (1, .int group_)] [] (zz_wc U ad x1 X) (fun g7 => ?_) (fun J6 => ?_)
  · rw [if_neg (show ¬ b3 = true by rw [g7]; decide)] at hf
    cases hf
    exact zz_vret C dX7_requireGroup_30 (And.intro rfl rfl) (Nat.le_of_ble_eq_true rfl) (Nat.le_of_ble_eq_true rfl)
  refine zz_iload_n C 1 dX7_requireGroup_4 rfl rfl ?_
  refine zz_if_lt (tgt := 19) C dX7_requireGroup_5 (by decide) (fun g8 => ?_) (fun g8 => ?_)
  · rw [if_pos g8] at h4
    cases h4
    exact J5 rfl
  · rw [if_neg g8] at h4
    refine zz_iload_n C 1 dX7_requireGroup_8 rfl rfl ?_
    refine zz_aload_n C 0 dX7_requireGroup_9 rfl rfl ?_
    refine zf7_groups C dX7_requireGroup_10 zw_25 ?_
    refine zf3_count C dX7_requireGroup_13 zw_89 ?_
    refine zz_icmp_lt (tgt := 30) C dX7_requireGroup_16 (by decide) (fun g9 => ?_) (fun g9 => ?_)
    · rw [if_pos g9] at h4
      cases h4
      exact J6 rfl
    · rw [if_neg g9] at h4
      cases h4
      exact J5 rfl
theorem mX7_requireGroup_r {D : va_G} {U : zz_U} {ad : Nat → Nat} {X : va_W} (σ : zz_St) (group_ : Int32) (x : Unit) (σ1 : zz_St) (hf : fX7_requireGroup σ group_ = some (.inl x, σ1)) : zz_Met yX7_requireGroup (.code yX7_requireGroup cX7_requireGroup 2 none) 6 1 6 D U [.ref (ad 0), .int group_] (zz_wc U ad σ X) (zz_ok none (zz_wc U ad σ1 X)) zz_noth := mX7_requireGroup σ group_ (.inl x, σ1) hf
theorem mX7_requireGroup_x {D : va_G} {U : zz_U} {ad : Nat → Nat} {X : va_W} (σ : zz_St) (group_ : Int32) (x : String) (σ1 : zz_St) (hf : fX7_requireGroup σ group_ = some (.inr x, σ1)) : zz_Met yX7_requireGroup (.code yX7_requireGroup cX7_requireGroup 2 none) 6 1 6 D U [.ref (ad 0), .int group_] (zz_wc U ad σ X) zz_none (zz_th x (zz_wc U ad σ1 X)) := mX7_requireGroup σ group_ (.inr x, σ1) hf
theorem dX7_group_0 : decode cX7_group 0 = .ok (.aload_n 0, 1) := by decide +kernel
theorem dX7_group_1 : decode cX7_group 1 = .ok (.iload_n 1, 1) := by decide +kernel
theorem dX7_group_2 : decode cX7_group 2 = .ok (.invokevirtual 180, 3) := by decide +kernel
theorem dX7_group_5 : decode cX7_group 5 = .ok (.aload_n 0, 1) := by decide +kernel
theorem dX7_group_6 : decode cX7_group 6 = .ok (.getfield 40, 3) := by decide +kernel
theorem dX7_group_9 : decode cX7_group 9 = .ok (.getfield 183, 3) := by decide +kernel
theorem dX7_group_12 : decode cX7_group 12 = .ok (.iload_n 1, 1) := by decide +kernel
theorem dX7_group_13 : decode cX7_group 13 = .ok (.iaload, 1) := by decide +kernel
theorem dX7_group_14 : decode cX7_group 14 = .ok (.ireturn, 1) := by decide +kernel
set_option maxHeartbeats 4000000 in
set_option maxRecDepth 100000 in
theorem mX7_group {D : va_G} {U : zz_U} {ad : Nat → Nat} {X : va_W} (σ : zz_St) (group_ : Int32) (r : ((Int32 ⊕ String) × zz_St)) (hf : fX7_group σ group_ = some r) : zz_Met yX7_group (.code yX7_group cX7_group 2 (some .int)) 7 1 6 D U [.ref (ad 0), .int group_] (zz_wc U ad σ X) (match r.1 with | .inl x => zz_ok (some (.int x)) (zz_wc U ad r.2 X) | .inr _ => zz_none) (match r.1 with | .inl _ => zz_noth | .inr E => zz_th E (zz_wc U ad r.2 X)) := by
  unfold fX7_group at hf
  refine zz_method RX7 rfl (by decide +kernel) (Nat.le_of_ble_eq_true rfl) ?_
  intro p l e s m args below meth c A _ C
  refine zz_lvs (lv1 := [(0, .ref (ad 0)), (1, .int group_)]) rfl ?_
  refine zz_aload_n C 0 dX7_group_0 rfl rfl ?_
  refine zz_iload_n C 1 dX7_group_1 rfl rfl ?_
  obtain ⟨⟨x1, σ4⟩, h2, hf⟩ := zz_bind hf
  rcases x1 with x1 | E3
  · try dsimp only at hf
    refine zz_callV1 (As := [.int group_]) (rest := []) C 0 (mX7_requireGroup_r σ group_ x1 σ4 h2) dX7_group_2 rfl rfl rfl zw_92 zy_X7_requireGroup rfl (by decide) (by decide) (Nat.le_of_ble_eq_true rfl) (Nat.le_of_ble_eq_true rfl) (Nat.le_of_ble_eq_true rfl) rfl ?_
    refine zz_aload_n C 0 dX7_group_5 rfl rfl ?_
    refine zf7_groups C dX7_group_6 zw_25 ?_
    refine zf3_sets C dX7_group_9 zw_91 ?_
    refine zz_iload_n C 1 dX7_group_12 rfl rfl ?_
    obtain ⟨x5, h6, hf⟩ := zz_bind hf
    refine zl_25 C dX7_group_13 h6 ?_
    cases hf
    exact zz_iret C dX7_group_14 (And.intro rfl rfl) (Nat.le_of_ble_eq_true rfl) (Nat.le_of_ble_eq_true rfl)
  · refine zz_callVx (As := [.int group_]) (rest := []) C 0 (mX7_requireGroup_x σ group_ E3 σ4 h2) dX7_group_2 rfl rfl rfl zw_92 zy_X7_requireGroup rfl (by decide) (by decide) (Nat.le_of_ble_eq_true rfl) (Nat.le_of_ble_eq_true rfl) (Nat.le_of_ble_eq_true rfl) ?_
    cases hf
    exact zz_out C (And.intro rfl rfl) (Nat.le_of_ble_eq_true rfl) (Nat.le_of_ble_eq_true rfl)
theorem mX7_group_r {D : va_G} {U : zz_U} {ad : Nat → Nat} {X : va_W} (σ : zz_St) (group_ : Int32) (x : Int32) (σ1 : zz_St) (hf : fX7_group σ group_ = some (.inl x, σ1)) : zz_Met yX7_group (.code yX7_group cX7_group 2 (some .int)) 7 1 6 D U [.ref (ad 0), .int group_] (zz_wc U ad σ X) (zz_ok (some (.int x)) (zz_wc U ad σ1 X)) zz_noth := mX7_group σ group_ (.inl x, σ1) hf
theorem mX7_group_x {D : va_G} {U : zz_U} {ad : Nat → Nat} {X : va_W} (σ : zz_St) (group_ : Int32) (x : String) (σ1 : zz_St) (hf : fX7_group σ group_ = some (.inr x, σ1)) : zz_Met yX7_group (.code yX7_group cX7_group 2 (some .int)) 7 1 6 D U [.ref (ad 0), .int group_] (zz_wc U ad σ X) zz_none (zz_th x (zz_wc U ad σ1 X)) := mX7_group σ group_ (.inr x, σ1) hf
