theorem dX7_placeOf_0 : decode cX7_placeOf 0 = .ok (.iconst 0, 1) := by decide +kernel
theorem dX7_placeOf_1 : decode cX7_placeOf 1 = .ok (.istore_n 3, 1) := by decide +kernel
theorem dX7_placeOf_2 : decode cX7_placeOf 2 = .ok (.iload_n 3, 1) := by decide +kernel
theorem dX7_placeOf_3 : decode cX7_placeOf 3 = .ok (.iload_n 2, 1) := by decide +kernel
theorem dX7_placeOf_4 : decode cX7_placeOf 4 = .ok (.if_icmp .ge 27, 3) := by decide +kernel
theorem dX7_placeOf_7 : decode cX7_placeOf 7 = .ok (.iload_n 3, 1) := by decide +kernel
theorem dX7_placeOf_8 : decode cX7_placeOf 8 = .ok (.aload_n 1, 1) := by decide +kernel
theorem dX7_placeOf_9 : decode cX7_placeOf 9 = .ok (.arraylength, 1) := by decide +kernel
theorem dX7_placeOf_10 : decode cX7_placeOf 10 = .ok (.if_icmp .ge 21, 3) := by decide +kernel
theorem dX7_placeOf_13 : decode cX7_placeOf 13 = .ok (.iload_n 0, 1) := by decide +kernel
theorem dX7_placeOf_14 : decode cX7_placeOf 14 = .ok (.aload_n 1, 1) := by decide +kernel
theorem dX7_placeOf_15 : decode cX7_placeOf 15 = .ok (.iload_n 3, 1) := by decide +kernel
theorem dX7_placeOf_16 : decode cX7_placeOf 16 = .ok (.iaload, 1) := by decide +kernel
theorem dX7_placeOf_17 : decode cX7_placeOf 17 = .ok (.invokestatic 312, 3) := by decide +kernel
theorem dX7_placeOf_20 : decode cX7_placeOf 20 = .ok (.ifCond .eq 5, 3) := by decide +kernel
theorem dX7_placeOf_23 : decode cX7_placeOf 23 = .ok (.iload_n 3, 1) := by decide +kernel
theorem dX7_placeOf_24 : decode cX7_placeOf 24 = .ok (.ireturn, 1) := by decide +kernel
theorem dX7_placeOf_25 : decode cX7_placeOf 25 = .ok (.iinc 3 1, 3) := by decide +kernel
theorem dX7_placeOf_28 : decode cX7_placeOf 28 = .ok (.goto (-26), 3) := by decide +kernel
theorem dX7_placeOf_31 : decode cX7_placeOf 31 = .ok (.iconst (-1), 1) := by decide +kernel
theorem dX7_placeOf_32 : decode cX7_placeOf 32 = .ok (.ireturn, 1) := by decide +kernel
set_option maxHeartbeats 4000000 in
set_option maxRecDepth 100000 in
theorem mX7_placeOf_a25_L1 {p : Program} {l : Launch} {e : Env} {R : Room} {s : State} {m : MethodId} {args : Array Value} {below : List Frame} {meth : Method} {c : Code} {Q : State → Prop} {D : va_G} {U : zz_U} {A : Nat → Prop} {cells slots : Nat} {ad : Nat → Nat} {X : va_W} (C : zz_C p l R s m meth c D U A RX7 cX7_placeOf 4 (some .int) [] 1) (hcR : cells ≤ R.cells) (hsR : slots ≤ R.slots) (σ : zz_St) (piece_ : Int32) (count_ : Int32) : ∀ (n : Nat) (place_ : Int32) (q : (Int32 ⊕ (Int32))), fX7_placeOf_a25_L1 σ piece_ count_ n place_ = some q → (∀ v : Int32, q = .inl v → zz_Z p l e R s m args below meth c Q D A 4 cells slots (zz_wc U ad σ X) 24 [] [.int v]) → (∀ w : Int32, q = .inr w → zz_Z p l e R s m args below meth c Q D A 4 cells slots (zz_wc U ad σ X) 31 [(0, .int piece_), (1, .ref (ad 25)), (2, .int count_), (3, .int w)] []) → zz_Z p l e R s m args below meth c Q D A 4 cells slots (zz_wc U ad σ X) 2 [(0, .int piece_), (1, .ref (ad 25)), (2, .int count_), (3, .int place_)] [] := by
  intro n
  induction n with
  | zero => intro place_ q hf; rw [fX7_placeOf_a25_L1] at hf; cases hf
  | succ n ih =>
    intro place_ q hf kr kx
    rw [fX7_placeOf_a25_L1] at hf
    obtain ⟨b1, h2, hf⟩ := zz_bind hf
    refine zz_cutI (P := b1 = true) 13 [(0, .int piece_), (1, .ref (ad 25)), (2, .int count_), (3, .int place_)] [] (zz_wc U ad σ X) (fun g5 => ?_) (fun J3 => ?_)
    · rw [if_pos g5] at hf
      refine zz_iload_n C 0 dX7_placeOf_13 rfl rfl ?_
      refine zz_aload_n C 1 dX7_placeOf_14 rfl rfl ?_
      refine zz_iload_n C 3 dX7_placeOf_15 rfl rfl ?_
      obtain ⟨x8, h9, hf⟩ := zz_bind hf
      refine zl_25 C dX7_placeOf_16 h9 ?_
      obtain ⟨x10, h11, hf⟩ := zz_bind hf
      refine zz_callS1 (As := [.int piece_, .int x8]) (rest := []) C (mX7_isIn σ piece_ x8 x10 h11) dX7_placeOf_17 rfl zw_93 zy_X7_isIn rfl (by decide) (by decide) (Nat.le_of_ble_eq_true rfl) hcR hsR rfl ?_
      refine zz_if_eq (tgt := 25) C dX7_placeOf_20 (by decide) (fun g12 => ?_) (fun g12 => ?_)
      · rw [if_pos g12] at hf
        refine zz_iinc (v := (place_ + (1 : Int32))) C 3 dX7_placeOf_25 rfl (by rfl) (by decide) (lv' := [(3, .int (place_ + (1 : Int32))), (0, .int piece_), (1, .ref (ad 25)), (2, .int count_)]) rfl ?_
        refine zz_goto (tgt := 2) C dX7_placeOf_28 (by decide) ?_
        refine zz_sub [1, 2, 3, 0] rfl ?_
        exact ih (place_ + (1 : Int32)) _ hf kr kx
      · rw [if_neg g12] at hf
        refine zz_iload_n C 3 dX7_placeOf_23 rfl rfl ?_
        cases hf
        refine zz_sub [] rfl ?_
        exact kr _ rfl
    refine zz_cutI (P := b1 = false) 31 [(0, .int piece_), (1, .ref (ad 25)), (2, .int count_), (3, .int place_)] [] (zz_wc U ad σ X) (fun g5 => ?_) (fun J4 => ?_)
    · rw [if_neg (show ¬ b1 = true by rw [g5]; decide)] at hf
      cases hf
      exact kx _ rfl
    refine zz_iload_n C 3 dX7_placeOf_2 rfl rfl ?_
    refine zz_iload_n C 2 dX7_placeOf_3 rfl rfl ?_
    refine zz_icmp_ge (tgt := 31) C dX7_placeOf_4 (by decide) (fun g6 => ?_) (fun g6 => ?_)
    · rw [if_pos g6] at h2
      cases h2
      exact J4 rfl
    · rw [if_neg g6] at h2
      refine zz_iload_n C 3 dX7_placeOf_7 rfl rfl ?_
      refine zz_aload_n C 1 dX7_placeOf_8 rfl rfl ?_
      refine zz_alen (v := (14 : Int32)) C 25 0 dX7_placeOf_9 rfl rfl rfl ?_
      refine zz_icmp_ge (tgt := 31) C dX7_placeOf_10 (by decide) (fun g7 => ?_) (fun g7 => ?_)
      · rw [if_pos g7] at h2
        cases h2
        exact J4 rfl
      · rw [if_neg g7] at h2
        cases h2
        exact J3 rfl
set_option maxHeartbeats 4000000 in
set_option maxRecDepth 100000 in
theorem mX7_placeOf_a25 {D : va_G} {U : zz_U} {ad : Nat → Nat} {X : va_W} (σ : zz_St) (piece_ : Int32) (count_ : Int32) (r : Int32) (hf : fX7_placeOf_a25 σ piece_ count_ = some r) : zz_Met yX7_placeOf (.code yX7_placeOf cX7_placeOf 4 (some .int)) 1 0 0 D U [.int piece_, .ref (ad 25), .int count_] (zz_wc U ad σ X) (zz_ok (some (.int r)) (zz_wc U ad σ X)) zz_noth := by
  unfold fX7_placeOf_a25 at hf
  refine zz_method RX7 rfl (by decide +kernel) (Nat.le_of_ble_eq_true rfl) ?_
  intro p l e s m args below meth c A _ C
  refine zz_lvs (lv1 := [(0, .int piece_), (1, .ref (ad 25)), (2, .int count_)]) rfl ?_
  refine zz_iconst (v := (0 : Int32)) C dX7_placeOf_0 (by decide) ?_
  refine zz_istore_n C dX7_placeOf_1 rfl (by decide) (lv' := [(3, .int (0 : Int32)), (0, .int piece_), (1, .ref (ad 25)), (2, .int count_)]) rfl ?_
  obtain ⟨q13, h14, hf⟩ := zz_bind hf
  refine zz_sub [1, 2, 3, 0] rfl ?_
  refine mX7_placeOf_a25_L1 C (Nat.le_of_ble_eq_true rfl) (Nat.le_of_ble_eq_true rfl) σ piece_ count_ 1000 (0 : Int32) q13 h14 (fun v15 h17 => ?_) (fun w16 h17 => ?_)
  · subst h17
    cases hf
    exact zz_iret C dX7_placeOf_24 (And.intro rfl rfl) (Nat.le_of_ble_eq_true rfl) (Nat.le_of_ble_eq_true rfl)
  · subst h17
    refine zz_iconst (v := (-1 : Int32)) C dX7_placeOf_31 (by decide) ?_
    cases hf
    exact zz_iret C dX7_placeOf_32 (And.intro rfl rfl) (Nat.le_of_ble_eq_true rfl) (Nat.le_of_ble_eq_true rfl)
theorem dX7_groupOf_0 : decode cX7_groupOf 0 = .ok (.aload_n 0, 1) := by decide +kernel
theorem dX7_groupOf_1 : decode cX7_groupOf 1 = .ok (.iload_n 1, 1) := by decide +kernel
theorem dX7_groupOf_2 : decode cX7_groupOf 2 = .ok (.invokevirtual 136, 3) := by decide +kernel
theorem dX7_groupOf_5 : decode cX7_groupOf 5 = .ok (.aload_n 0, 1) := by decide +kernel
theorem dX7_groupOf_6 : decode cX7_groupOf 6 = .ok (.invokevirtual 176, 3) := by decide +kernel
theorem dX7_groupOf_9 : decode cX7_groupOf 9 = .ok (.iload_n 1, 1) := by decide +kernel
theorem dX7_groupOf_10 : decode cX7_groupOf 10 = .ok (.aload_n 0, 1) := by decide +kernel
theorem dX7_groupOf_11 : decode cX7_groupOf 11 = .ok (.getfield 40, 3) := by decide +kernel
theorem dX7_groupOf_14 : decode cX7_groupOf 14 = .ok (.getfield 183, 3) := by decide +kernel
theorem dX7_groupOf_17 : decode cX7_groupOf 17 = .ok (.aload_n 0, 1) := by decide +kernel
theorem dX7_groupOf_18 : decode cX7_groupOf 18 = .ok (.getfield 40, 3) := by decide +kernel
theorem dX7_groupOf_21 : decode cX7_groupOf 21 = .ok (.getfield 179, 3) := by decide +kernel
theorem dX7_groupOf_24 : decode cX7_groupOf 24 = .ok (.invokestatic 186, 3) := by decide +kernel
theorem dX7_groupOf_27 : decode cX7_groupOf 27 = .ok (.ireturn, 1) := by decide +kernel
set_option maxHeartbeats 4000000 in
set_option maxRecDepth 100000 in
theorem mX7_groupOf {D : va_G} {U : zz_U} {ad : Nat → Nat} {X : va_W} (σ : zz_St) (piece_ : Int32) (r : ((Int32 ⊕ String) × zz_St)) (hf : fX7_groupOf σ piece_ = some r) : zz_Met yX7_groupOf (.code yX7_groupOf cX7_groupOf 2 (some .int)) 7 1 6 D U [.ref (ad 0), .int piece_] (zz_wc U ad σ X) (match r.1 with | .inl x => zz_ok (some (.int x)) (zz_wc U ad r.2 X) | .inr _ => zz_none) (match r.1 with | .inl _ => zz_noth | .inr E => zz_th E (zz_wc U ad r.2 X)) := by
  unfold fX7_groupOf at hf
  refine zz_method RX7 rfl (by decide +kernel) (Nat.le_of_ble_eq_true rfl) ?_
  intro p l e s m args below meth c A _ C
  refine zz_lvs (lv1 := [(0, .ref (ad 0)), (1, .int piece_)]) rfl ?_
  refine zz_aload_n C 0 dX7_groupOf_0 rfl rfl ?_
  refine zz_iload_n C 1 dX7_groupOf_1 rfl rfl ?_
  obtain ⟨x1, h2, hf⟩ := zz_bind hf
  rcases x1 with x1 | E3
  · refine zz_callV1 (As := [.int piece_]) (rest := []) C 0 (mX7_requirePiece_r σ piece_ x1 h2) dX7_groupOf_2 rfl rfl rfl zw_14 zy_X7_requirePiece rfl (by decide) (by decide) (Nat.le_of_ble_eq_true rfl) (Nat.le_of_ble_eq_true rfl) (Nat.le_of_ble_eq_true rfl) rfl ?_
    refine zz_aload_n C 0 dX7_groupOf_5 rfl rfl ?_
    obtain ⟨x4, h5, hf⟩ := zz_bind hf
    refine zz_callV1 (As := []) (rest := []) C 0 (mX7_putTogether σ x4 h5) dX7_groupOf_6 rfl rfl rfl zw_90 zy_X7_putTogether rfl (by decide) (by decide) (Nat.le_of_ble_eq_true rfl) (Nat.le_of_ble_eq_true rfl) (Nat.le_of_ble_eq_true rfl) rfl ?_
    refine zz_iload_n C 1 dX7_groupOf_9 rfl rfl ?_
    refine zz_aload_n C 0 dX7_groupOf_10 rfl rfl ?_
    refine zf7_groups C dX7_groupOf_11 zw_25 ?_
    refine zf3_sets C dX7_groupOf_14 zw_91 ?_
    refine zz_aload_n C 0 dX7_groupOf_17 rfl rfl ?_
    refine zf7_groups C dX7_groupOf_18 zw_25 ?_
    refine zf3_count C dX7_groupOf_21 zw_89 ?_
    obtain ⟨x6, h7, hf⟩ := zz_bind hf
    refine zz_callS1 (As := [.int piece_, .ref (ad 25), .int (x4 24 2)]) (rest := []) C (mX7_placeOf_a25 x4 piece_ (x4 24 2) x6 h7) dX7_groupOf_24 rfl zw_94 zy_X7_placeOf rfl (by decide) (by decide) (Nat.le_of_ble_eq_true rfl) (Nat.le_of_ble_eq_true rfl) (Nat.le_of_ble_eq_true rfl) rfl ?_
    cases hf
    exact zz_iret C dX7_groupOf_27 (And.intro rfl rfl) (Nat.le_of_ble_eq_true rfl) (Nat.le_of_ble_eq_true rfl)
  · refine zz_callVx (As := [.int piece_]) (rest := []) C 0 (mX7_requirePiece_x σ piece_ E3 h2) dX7_groupOf_2 rfl rfl rfl zw_14 zy_X7_requirePiece rfl (by decide) (by decide) (Nat.le_of_ble_eq_true rfl) (Nat.le_of_ble_eq_true rfl) (Nat.le_of_ble_eq_true rfl) ?_
    cases hf
    exact zz_out C (And.intro rfl rfl) (Nat.le_of_ble_eq_true rfl) (Nat.le_of_ble_eq_true rfl)
theorem mX7_groupOf_r {D : va_G} {U : zz_U} {ad : Nat → Nat} {X : va_W} (σ : zz_St) (piece_ : Int32) (x : Int32) (σ1 : zz_St) (hf : fX7_groupOf σ piece_ = some (.inl x, σ1)) : zz_Met yX7_groupOf (.code yX7_groupOf cX7_groupOf 2 (some .int)) 7 1 6 D U [.ref (ad 0), .int piece_] (zz_wc U ad σ X) (zz_ok (some (.int x)) (zz_wc U ad σ1 X)) zz_noth := mX7_groupOf σ piece_ (.inl x, σ1) hf
theorem mX7_groupOf_x {D : va_G} {U : zz_U} {ad : Nat → Nat} {X : va_W} (σ : zz_St) (piece_ : Int32) (x : String) (σ1 : zz_St) (hf : fX7_groupOf σ piece_ = some (.inr x, σ1)) : zz_Met yX7_groupOf (.code yX7_groupOf cX7_groupOf 2 (some .int)) 7 1 6 D U [.ref (ad 0), .int piece_] (zz_wc U ad σ X) zz_none (zz_th x (zz_wc U ad σ1 X)) := mX7_groupOf σ piece_ (.inr x, σ1) hf
theorem dX7_linkage_0 : decode cX7_linkage 0 = .ok (.aload_n 0, 1) := by decide +kernel
theorem dX7_linkage_1 : decode cX7_linkage 1 = .ok (.iload_n 1, 1) := by decide +kernel
theorem dX7_linkage_2 : decode cX7_linkage 2 = .ok (.invokevirtual 180, 3) := by decide +kernel
theorem dX7_linkage_5 : decode cX7_linkage 5 = .ok (.aload_n 0, 1) := by decide +kernel
theorem dX7_linkage_6 : decode cX7_linkage 6 = .ok (.iload_n 2, 1) := by decide +kernel
theorem dX7_linkage_7 : decode cX7_linkage 7 = .ok (.invokevirtual 180, 3) := by decide +kernel
theorem dX7_linkage_10 : decode cX7_linkage 10 = .ok (.iload_n 1, 1) := by decide +kernel
theorem dX7_linkage_11 : decode cX7_linkage 11 = .ok (.iload_n 2, 1) := by decide +kernel
theorem dX7_linkage_12 : decode cX7_linkage 12 = .ok (.if_icmp .ne 13, 3) := by decide +kernel
theorem dX7_linkage_15 : decode cX7_linkage 15 = .ok (.new 62, 3) := by decide +kernel
theorem dX7_linkage_18 : decode cX7_linkage 18 = .ok (.dup, 1) := by decide +kernel
theorem dX7_linkage_19 : decode cX7_linkage 19 = .ok (.ldc 190, 2) := by decide +kernel
theorem dX7_linkage_21 : decode cX7_linkage 21 = .ok (.invokespecial 66, 3) := by decide +kernel
theorem dX7_linkage_24 : decode cX7_linkage 24 = .ok (.athrow, 1) := by decide +kernel
theorem dX7_linkage_25 : decode cX7_linkage 25 = .ok (.aload_n 0, 1) := by decide +kernel
theorem dX7_linkage_26 : decode cX7_linkage 26 = .ok (.getfield 40, 3) := by decide +kernel
theorem dX7_linkage_29 : decode cX7_linkage 29 = .ok (.aload_n 0, 1) := by decide +kernel
theorem dX7_linkage_30 : decode cX7_linkage 30 = .ok (.getfield 40, 3) := by decide +kernel
theorem dX7_linkage_33 : decode cX7_linkage 33 = .ok (.getfield 183, 3) := by decide +kernel
theorem dX7_linkage_36 : decode cX7_linkage 36 = .ok (.iload_n 1, 1) := by decide +kernel
theorem dX7_linkage_37 : decode cX7_linkage 37 = .ok (.iaload, 1) := by decide +kernel
theorem dX7_linkage_38 : decode cX7_linkage 38 = .ok (.aload_n 0, 1) := by decide +kernel
theorem dX7_linkage_39 : decode cX7_linkage 39 = .ok (.getfield 40, 3) := by decide +kernel
theorem dX7_linkage_42 : decode cX7_linkage 42 = .ok (.getfield 183, 3) := by decide +kernel
theorem dX7_linkage_45 : decode cX7_linkage 45 = .ok (.iload_n 2, 1) := by decide +kernel
theorem dX7_linkage_46 : decode cX7_linkage 46 = .ok (.iaload, 1) := by decide +kernel
theorem dX7_linkage_47 : decode cX7_linkage 47 = .ok (.invokevirtual 192, 3) := by decide +kernel
theorem dX7_linkage_50 : decode cX7_linkage 50 = .ok (.ireturn, 1) := by decide +kernel
set_option maxHeartbeats 4000000 in
set_option maxRecDepth 100000 in
theorem mX7_linkage {D : va_G} {U : zz_U} {ad : Nat → Nat} {X : va_W} (σ : zz_St) (a_ : Int32) (b_ : Int32) (r : ((Int32 ⊕ String) × zz_St)) (hf : fX7_linkage σ a_ b_ = some r) : zz_Met yX7_linkage (.code yX7_linkage cX7_linkage 3 (some .int)) 7 3 18 D U [.ref (ad 0), .int a_, .int b_] (zz_wc U ad σ X) (match r.1 with | .inl x => zz_ok (some (.int x)) (zz_wc U ad r.2 X) | .inr _ => zz_none) (match r.1 with | .inl _ => zz_noth | .inr E => zz_th E (zz_wc U ad r.2 X)) := by
  unfold fX7_linkage at hf
  refine zz_method RX7 rfl (by decide +kernel) (Nat.le_of_ble_eq_true rfl) ?_
  intro p l e s m args below meth c A _ C
  refine zz_lvs (lv1 := [(0, .ref (ad 0)), (1, .int a_), (2, .int b_)]) rfl ?_
  refine zz_aload_n C 0 dX7_linkage_0 rfl rfl ?_
  refine zz_iload_n C 1 dX7_linkage_1 rfl rfl ?_
  obtain ⟨⟨x1, σ4⟩, h2, hf⟩ := zz_bind hf
  rcases x1 with x1 | E3
  · try dsimp only at hf
    refine zz_callV1 (As := [.int a_]) (rest := []) C 0 (mX7_requireGroup_r σ a_ x1 σ4 h2) dX7_linkage_2 rfl rfl rfl zw_92 zy_X7_requireGroup rfl (by decide) (by decide) (Nat.le_of_ble_eq_true rfl) (Nat.le_of_ble_eq_true rfl) (Nat.le_of_ble_eq_true rfl) rfl ?_
    refine zz_aload_n C 0 dX7_linkage_5 rfl rfl ?_
    refine zz_iload_n C 2 dX7_linkage_6 rfl rfl ?_
    obtain ⟨⟨x5, σ8⟩, h6, hf⟩ := zz_bind hf
    rcases x5 with x5 | E7
    · try dsimp only at hf
      refine zz_callV1 (As := [.int b_]) (rest := []) C 0 (mX7_requireGroup_r σ4 b_ x5 σ8 h6) dX7_linkage_7 rfl rfl rfl zw_92 zy_X7_requireGroup rfl (by decide) (by decide) (Nat.le_of_ble_eq_true rfl) (Nat.le_of_ble_eq_true rfl) (Nat.le_of_ble_eq_true rfl) rfl ?_
      refine zz_iload_n C 1 dX7_linkage_10 rfl rfl ?_
      refine zz_iload_n C 2 dX7_linkage_11 rfl rfl ?_
      refine zz_icmp_ne (tgt := 25) C dX7_linkage_12 (by decide) (fun g9 => ?_) (fun g9 => ?_)
      · rw [if_neg g9] at hf
        refine zz_aload_n C 0 dX7_linkage_25 rfl rfl ?_
        refine zf7_groups C dX7_linkage_26 zw_25 ?_
        refine zz_aload_n C 0 dX7_linkage_29 rfl rfl ?_
        refine zf7_groups C dX7_linkage_30 zw_25 ?_
        refine zf3_sets C dX7_linkage_33 zw_91 ?_
        refine zz_iload_n C 1 dX7_linkage_36 rfl rfl ?_
        obtain ⟨x10, h11, hf⟩ := zz_bind hf
        refine zl_25 C dX7_linkage_37 h11 ?_
        refine zz_aload_n C 0 dX7_linkage_38 rfl rfl ?_
        refine zf7_groups C dX7_linkage_39 zw_25 ?_
        refine zf3_sets C dX7_linkage_42 zw_91 ?_
        refine zz_iload_n C 2 dX7_linkage_45 rfl rfl ?_
        obtain ⟨x12, h13, hf⟩ := zz_bind hf
        refine zl_25 C dX7_linkage_46 h13 ?_
        obtain ⟨x14, h15, hf⟩ := zz_bind hf
        refine zz_callV1 (As := [.int x10, .int x12]) (rest := []) C 24 (mX3_linkageOf σ8 x10 x12 x14 h15) dX7_linkage_47 rfl rfl rfl zw_95 zy_X3_linkageOf rfl (by decide) (by decide) (Nat.le_of_ble_eq_true rfl) (Nat.le_of_ble_eq_true rfl) (Nat.le_of_ble_eq_true rfl) rfl ?_
        cases hf
        exact zz_iret C dX7_linkage_50 (And.intro rfl rfl) (Nat.le_of_ble_eq_true rfl) (Nat.le_of_ble_eq_true rfl)
      · rw [if_pos g9] at hf
        cases hf
        exact zz_throwS (cls := "java/lang/IllegalArgumentException") (text := "the same group twice") C zt_0 (by decide +kernel) dX7_linkage_15 dX7_linkage_18 dX7_linkage_19 dX7_linkage_21 dX7_linkage_24 (by decide) (Nat.le_of_ble_eq_true rfl) (Nat.le_of_ble_eq_true rfl) (Nat.le_of_ble_eq_true rfl) (Nat.le_of_ble_eq_true rfl) (Nat.le_of_ble_eq_true rfl) (And.intro rfl rfl)
    · refine zz_callVx (As := [.int b_]) (rest := []) C 0 (mX7_requireGroup_x σ4 b_ E7 σ8 h6) dX7_linkage_7 rfl rfl rfl zw_92 zy_X7_requireGroup rfl (by decide) (by decide) (Nat.le_of_ble_eq_true rfl) (Nat.le_of_ble_eq_true rfl) (Nat.le_of_ble_eq_true rfl) ?_
      cases hf
      exact zz_out C (And.intro rfl rfl) (Nat.le_of_ble_eq_true rfl) (Nat.le_of_ble_eq_true rfl)
  · refine zz_callVx (As := [.int a_]) (rest := []) C 0 (mX7_requireGroup_x σ a_ E3 σ4 h2) dX7_linkage_2 rfl rfl rfl zw_92 zy_X7_requireGroup rfl (by decide) (by decide) (Nat.le_of_ble_eq_true rfl) (Nat.le_of_ble_eq_true rfl) (Nat.le_of_ble_eq_true rfl) ?_
    cases hf
    exact zz_out C (And.intro rfl rfl) (Nat.le_of_ble_eq_true rfl) (Nat.le_of_ble_eq_true rfl)
theorem mX7_linkage_r {D : va_G} {U : zz_U} {ad : Nat → Nat} {X : va_W} (σ : zz_St) (a_ : Int32) (b_ : Int32) (x : Int32) (σ1 : zz_St) (hf : fX7_linkage σ a_ b_ = some (.inl x, σ1)) : zz_Met yX7_linkage (.code yX7_linkage cX7_linkage 3 (some .int)) 7 3 18 D U [.ref (ad 0), .int a_, .int b_] (zz_wc U ad σ X) (zz_ok (some (.int x)) (zz_wc U ad σ1 X)) zz_noth := mX7_linkage σ a_ b_ (.inl x, σ1) hf
theorem mX7_linkage_x {D : va_G} {U : zz_U} {ad : Nat → Nat} {X : va_W} (σ : zz_St) (a_ : Int32) (b_ : Int32) (x : String) (σ1 : zz_St) (hf : fX7_linkage σ a_ b_ = some (.inr x, σ1)) : zz_Met yX7_linkage (.code yX7_linkage cX7_linkage 3 (some .int)) 7 3 18 D U [.ref (ad 0), .int a_, .int b_] (zz_wc U ad σ X) zz_none (zz_th x (zz_wc U ad σ1 X)) := mX7_linkage σ a_ b_ (.inr x, σ1) hf
theorem dX7_lastLinkage_0 : decode cX7_lastLinkage 0 = .ok (.aload_n 0, 1) := by decide +kernel
theorem dX7_lastLinkage_1 : decode cX7_lastLinkage 1 = .ok (.invokevirtual 176, 3) := by decide +kernel
theorem dX7_lastLinkage_4 : decode cX7_lastLinkage 4 = .ok (.aload_n 0, 1) := by decide +kernel
theorem dX7_lastLinkage_5 : decode cX7_lastLinkage 5 = .ok (.getfield 40, 3) := by decide +kernel
theorem dX7_lastLinkage_8 : decode cX7_lastLinkage 8 = .ok (.getfield 195, 3) := by decide +kernel
theorem dX7_lastLinkage_11 : decode cX7_lastLinkage 11 = .ok (.ireturn, 1) := by decide +kernel
set_option maxHeartbeats 4000000 in
set_option maxRecDepth 100000 in
theorem mX7_lastLinkage {D : va_G} {U : zz_U} {ad : Nat → Nat} {X : va_W} (σ : zz_St) (r : (Int32 × zz_St)) (hf : fX7_lastLinkage σ = some r) : zz_Met yX7_lastLinkage (.code yX7_lastLinkage cX7_lastLinkage 1 (some .int)) 6 0 0 D U [.ref (ad 0)] (zz_wc U ad σ X) (zz_ok (some (.int r.1)) (zz_wc U ad r.2 X)) zz_noth := by
  unfold fX7_lastLinkage at hf
  refine zz_method RX7 rfl (by decide +kernel) (Nat.le_of_ble_eq_true rfl) ?_
  intro p l e s m args below meth c A _ C
  refine zz_lvs (lv1 := [(0, .ref (ad 0))]) rfl ?_
  refine zz_aload_n C 0 dX7_lastLinkage_0 rfl rfl ?_
  obtain ⟨x1, h2, hf⟩ := zz_bind hf
  refine zz_callV1 (As := []) (rest := []) C 0 (mX7_putTogether σ x1 h2) dX7_lastLinkage_1 rfl rfl rfl zw_90 zy_X7_putTogether rfl (by decide) (by decide) (Nat.le_of_ble_eq_true rfl) (Nat.le_of_ble_eq_true rfl) (Nat.le_of_ble_eq_true rfl) rfl ?_
  refine zz_aload_n C 0 dX7_lastLinkage_4 rfl rfl ?_
  refine zf7_groups C dX7_lastLinkage_5 zw_25 ?_
  refine zf3_linkageOfLastJoin C dX7_lastLinkage_8 zw_96 ?_
  cases hf
  exact zz_iret C dX7_lastLinkage_11 (And.intro rfl rfl) (Nat.le_of_ble_eq_true rfl) (Nat.le_of_ble_eq_true rfl)
theorem dX7_needs_0 : decode cX7_needs 0 = .ok (.aload_n 0, 1) := by decide +kernel
theorem dX7_needs_1 : decode cX7_needs 1 = .ok (.iload_n 1, 1) := by decide +kernel
theorem dX7_needs_2 : decode cX7_needs 2 = .ok (.invokevirtual 136, 3) := by decide +kernel
theorem dX7_needs_5 : decode cX7_needs 5 = .ok (.aload_n 0, 1) := by decide +kernel
theorem dX7_needs_6 : decode cX7_needs 6 = .ok (.iload_n 2, 1) := by decide +kernel
theorem dX7_needs_7 : decode cX7_needs 7 = .ok (.invokevirtual 136, 3) := by decide +kernel
theorem dX7_needs_10 : decode cX7_needs 10 = .ok (.iload_n 1, 1) := by decide +kernel
theorem dX7_needs_11 : decode cX7_needs 11 = .ok (.iload_n 2, 1) := by decide +kernel
theorem dX7_needs_12 : decode cX7_needs 12 = .ok (.invokestatic 139, 3) := by decide +kernel
theorem dX7_needs_15 : decode cX7_needs 15 = .ok (.aload_n 0, 1) := by decide +kernel
theorem dX7_needs_16 : decode cX7_needs 16 = .ok (.getfield 12, 3) := by decide +kernel
theorem dX7_needs_19 : decode cX7_needs 19 = .ok (.iload_n 1, 1) := by decide +kernel
theorem dX7_needs_20 : decode cX7_needs 20 = .ok (.iload_n 2, 1) := by decide +kernel
theorem dX7_needs_21 : decode cX7_needs 21 = .ok (.aload_n 0, 1) := by decide +kernel
theorem dX7_needs_22 : decode cX7_needs 22 = .ok (.getfield 19, 3) := by decide +kernel
theorem dX7_needs_25 : decode cX7_needs 25 = .ok (.getfield 198, 3) := by decide +kernel
theorem dX7_needs_28 : decode cX7_needs 28 = .ok (.invokevirtual 201, 3) := by decide +kernel
theorem dX7_needs_31 : decode cX7_needs 31 = .ok (.ireturn, 1) := by decide +kernel
set_option maxHeartbeats 4000000 in
set_option maxRecDepth 100000 in
theorem mX7_needs {D : va_G} {U : zz_U} {ad : Nat → Nat} {X : va_W} (σ : zz_St) (a_ : Int32) (b_ : Int32) (r : (Int32 ⊕ String)) (hf : fX7_needs σ a_ b_ = some r) : zz_Met yX7_needs (.code yX7_needs cX7_needs 3 (some .boolean)) 7 3 18 D U [.ref (ad 0), .int a_, .int b_] (zz_wc U ad σ X) (match r with | .inl x => zz_ok (some (.int x)) (zz_wc U ad σ X) | .inr _ => zz_none) (match r with | .inl _ => zz_noth | .inr E => zz_th E (zz_wc U ad σ X)) := by
  unfold fX7_needs at hf
  refine zz_method RX7 rfl (by decide +kernel) (Nat.le_of_ble_eq_true rfl) ?_
  intro p l e s m args below meth c A _ C
  refine zz_lvs (lv1 := [(0, .ref (ad 0)), (1, .int a_), (2, .int b_)]) rfl ?_
  refine zz_aload_n C 0 dX7_needs_0 rfl rfl ?_
  refine zz_iload_n C 1 dX7_needs_1 rfl rfl ?_
  obtain ⟨x1, h2, hf⟩ := zz_bind hf
  rcases x1 with x1 | E3
  · refine zz_callV1 (As := [.int a_]) (rest := []) C 0 (mX7_requirePiece_r σ a_ x1 h2) dX7_needs_2 rfl rfl rfl zw_14 zy_X7_requirePiece rfl (by decide) (by decide) (Nat.le_of_ble_eq_true rfl) (Nat.le_of_ble_eq_true rfl) (Nat.le_of_ble_eq_true rfl) rfl ?_
    refine zz_aload_n C 0 dX7_needs_5 rfl rfl ?_
    refine zz_iload_n C 2 dX7_needs_6 rfl rfl ?_
    obtain ⟨x4, h5, hf⟩ := zz_bind hf
    rcases x4 with x4 | E6
    · refine zz_callV1 (As := [.int b_]) (rest := []) C 0 (mX7_requirePiece_r σ b_ x4 h5) dX7_needs_7 rfl rfl rfl zw_14 zy_X7_requirePiece rfl (by decide) (by decide) (Nat.le_of_ble_eq_true rfl) (Nat.le_of_ble_eq_true rfl) (Nat.le_of_ble_eq_true rfl) rfl ?_
      refine zz_iload_n C 1 dX7_needs_10 rfl rfl ?_
      refine zz_iload_n C 2 dX7_needs_11 rfl rfl ?_
      obtain ⟨x7, h8, hf⟩ := zz_bind hf
      rcases x7 with x7 | E9
      · refine zz_callS1 (As := [.int a_, .int b_]) (rest := []) C (mX7_requireDifferent_r σ a_ b_ x7 h8) dX7_needs_12 rfl zw_35 zy_X7_requireDifferent rfl (by decide) (by decide) (Nat.le_of_ble_eq_true rfl) (Nat.le_of_ble_eq_true rfl) (Nat.le_of_ble_eq_true rfl) rfl ?_
        refine zz_aload_n C 0 dX7_needs_15 rfl rfl ?_
        refine zf7_pieces C dX7_needs_16 zw_10 ?_
        refine zz_iload_n C 1 dX7_needs_19 rfl rfl ?_
        refine zz_iload_n C 2 dX7_needs_20 rfl rfl ?_
        refine zz_aload_n C 0 dX7_needs_21 rfl rfl ?_
        refine zf7_code C dX7_needs_22 zw_23 ?_
        refine zf1_definedNames C dX7_needs_25 zw_98 ?_
        obtain ⟨x10, h11, hf⟩ := zz_bind hf
        refine zz_callV1 (As := [.int a_, .int b_, .int (σ 17 0)]) (rest := []) C 1 (mX5_isNeeded σ a_ b_ (σ 17 0) x10 h11) dX7_needs_28 rfl rfl rfl zw_97 zy_X5_isNeeded rfl (by decide) (by decide) (Nat.le_of_ble_eq_true rfl) (Nat.le_of_ble_eq_true rfl) (Nat.le_of_ble_eq_true rfl) rfl ?_
        obtain ⟨x12, h13, hf⟩ := zz_bind hf
        refine zz_topi (zz_bo_in h13).2 ?_
        cases hf
        exact zz_zret C dX7_needs_31 (by rw [← (zz_bo_in h13).2]; exact (zz_bo_in h13).1) (And.intro rfl rfl) (Nat.le_of_ble_eq_true rfl) (Nat.le_of_ble_eq_true rfl)
      · refine zz_callSx (As := [.int a_, .int b_]) (rest := []) C (mX7_requireDifferent_x σ a_ b_ E9 h8) dX7_needs_12 rfl zw_35 zy_X7_requireDifferent rfl (by decide) (by decide) (Nat.le_of_ble_eq_true rfl) (Nat.le_of_ble_eq_true rfl) (Nat.le_of_ble_eq_true rfl) ?_
        cases hf
        exact zz_out C (And.intro rfl rfl) (Nat.le_of_ble_eq_true rfl) (Nat.le_of_ble_eq_true rfl)
    · refine zz_callVx (As := [.int b_]) (rest := []) C 0 (mX7_requirePiece_x σ b_ E6 h5) dX7_needs_7 rfl rfl rfl zw_14 zy_X7_requirePiece rfl (by decide) (by decide) (Nat.le_of_ble_eq_true rfl) (Nat.le_of_ble_eq_true rfl) (Nat.le_of_ble_eq_true rfl) ?_
      cases hf
      exact zz_out C (And.intro rfl rfl) (Nat.le_of_ble_eq_true rfl) (Nat.le_of_ble_eq_true rfl)
  · refine zz_callVx (As := [.int a_]) (rest := []) C 0 (mX7_requirePiece_x σ a_ E3 h2) dX7_needs_2 rfl rfl rfl zw_14 zy_X7_requirePiece rfl (by decide) (by decide) (Nat.le_of_ble_eq_true rfl) (Nat.le_of_ble_eq_true rfl) (Nat.le_of_ble_eq_true rfl) ?_
    cases hf
    exact zz_out C (And.intro rfl rfl) (Nat.le_of_ble_eq_true rfl) (Nat.le_of_ble_eq_true rfl)
theorem mX7_needs_r {D : va_G} {U : zz_U} {ad : Nat → Nat} {X : va_W} (σ : zz_St) (a_ : Int32) (b_ : Int32) (x : Int32) (hf : fX7_needs σ a_ b_ = some (.inl x)) : zz_Met yX7_needs (.code yX7_needs cX7_needs 3 (some .boolean)) 7 3 18 D U [.ref (ad 0), .int a_, .int b_] (zz_wc U ad σ X) (zz_ok (some (.int x)) (zz_wc U ad σ X)) zz_noth := mX7_needs σ a_ b_ (.inl x) hf
theorem mX7_needs_x {D : va_G} {U : zz_U} {ad : Nat → Nat} {X : va_W} (σ : zz_St) (a_ : Int32) (b_ : Int32) (E : String) (hf : fX7_needs σ a_ b_ = some (.inr E)) : zz_Met yX7_needs (.code yX7_needs cX7_needs 3 (some .boolean)) 7 3 18 D U [.ref (ad 0), .int a_, .int b_] (zz_wc U ad σ X) zz_none (zz_th E (zz_wc U ad σ X)) := mX7_needs σ a_ b_ (.inr E) hf
theorem dX7_parcelCount_0 : decode cX7_parcelCount 0 = .ok (.aload_n 0, 1) := by decide +kernel
theorem dX7_parcelCount_1 : decode cX7_parcelCount 1 = .ok (.invokevirtual 176, 3) := by decide +kernel
theorem dX7_parcelCount_4 : decode cX7_parcelCount 4 = .ok (.aload_n 0, 1) := by decide +kernel
theorem dX7_parcelCount_5 : decode cX7_parcelCount 5 = .ok (.getfield 47, 3) := by decide +kernel
theorem dX7_parcelCount_8 : decode cX7_parcelCount 8 = .ok (.getfield 205, 3) := by decide +kernel
theorem dX7_parcelCount_11 : decode cX7_parcelCount 11 = .ok (.ireturn, 1) := by decide +kernel
set_option maxHeartbeats 4000000 in
set_option maxRecDepth 100000 in
theorem mX7_parcelCount {D : va_G} {U : zz_U} {ad : Nat → Nat} {X : va_W} (σ : zz_St) (r : (Int32 × zz_St)) (hf : fX7_parcelCount σ = some r) : zz_Met yX7_parcelCount (.code yX7_parcelCount cX7_parcelCount 1 (some .int)) 6 0 0 D U [.ref (ad 0)] (zz_wc U ad σ X) (zz_ok (some (.int r.1)) (zz_wc U ad r.2 X)) zz_noth := by
  unfold fX7_parcelCount at hf
  refine zz_method RX7 rfl (by decide +kernel) (Nat.le_of_ble_eq_true rfl) ?_
  intro p l e s m args below meth c A _ C
  refine zz_lvs (lv1 := [(0, .ref (ad 0))]) rfl ?_
  refine zz_aload_n C 0 dX7_parcelCount_0 rfl rfl ?_
  obtain ⟨x1, h2, hf⟩ := zz_bind hf
  refine zz_callV1 (As := []) (rest := []) C 0 (mX7_putTogether σ x1 h2) dX7_parcelCount_1 rfl rfl rfl zw_90 zy_X7_putTogether rfl (by decide) (by decide) (Nat.le_of_ble_eq_true rfl) (Nat.le_of_ble_eq_true rfl) (Nat.le_of_ble_eq_true rfl) rfl ?_
  refine zz_aload_n C 0 dX7_parcelCount_4 rfl rfl ?_
  refine zf7_parcels C dX7_parcelCount_5 zw_85 ?_
  refine zf4_count C dX7_parcelCount_8 zw_99 ?_
  cases hf
  exact zz_iret C dX7_parcelCount_11 (And.intro rfl rfl) (Nat.le_of_ble_eq_true rfl) (Nat.le_of_ble_eq_true rfl)
theorem dX7_requireParcel_0 : decode cX7_requireParcel 0 = .ok (.aload_n 0, 1) := by decide +kernel
theorem dX7_requireParcel_1 : decode cX7_requireParcel 1 = .ok (.invokevirtual 176, 3) := by decide +kernel
theorem dX7_requireParcel_4 : decode cX7_requireParcel 4 = .ok (.iload_n 1, 1) := by decide +kernel
theorem dX7_requireParcel_5 : decode cX7_requireParcel 5 = .ok (.ifCond .lt 14, 3) := by decide +kernel
theorem dX7_requireParcel_8 : decode cX7_requireParcel 8 = .ok (.iload_n 1, 1) := by decide +kernel
theorem dX7_requireParcel_9 : decode cX7_requireParcel 9 = .ok (.aload_n 0, 1) := by decide +kernel
theorem dX7_requireParcel_10 : decode cX7_requireParcel 10 = .ok (.getfield 47, 3) := by decide +kernel
theorem dX7_requireParcel_13 : decode cX7_requireParcel 13 = .ok (.getfield 205, 3) := by decide +kernel
theorem dX7_requireParcel_16 : decode cX7_requireParcel 16 = .ok (.if_icmp .lt 14, 3) := by decide +kernel
theorem dX7_requireParcel_19 : decode cX7_requireParcel 19 = .ok (.new 102, 3) := by decide +kernel
theorem dX7_requireParcel_22 : decode cX7_requireParcel 22 = .ok (.dup, 1) := by decide +kernel
theorem dX7_requireParcel_23 : decode cX7_requireParcel 23 = .ok (.ldc_w 306, 3) := by decide +kernel
theorem dX7_requireParcel_26 : decode cX7_requireParcel 26 = .ok (.invokespecial 106, 3) := by decide +kernel
theorem dX7_requireParcel_29 : decode cX7_requireParcel 29 = .ok (.athrow, 1) := by decide +kernel
theorem dX7_requireParcel_30 : decode cX7_requireParcel 30 = .ok (.return_, 1) := by decide +kernel
set_option maxHeartbeats 4000000 in
set_option maxRecDepth 100000 in
theorem mX7_requireParcel {D : va_G} {U : zz_U} {ad : Nat → Nat} {X : va_W} (σ : zz_St) (parcel_ : Int32) (r : ((Unit ⊕ String) × zz_St)) (hf : fX7_requireParcel σ parcel_ = some r) : zz_Met yX7_requireParcel (.code yX7_requireParcel cX7_requireParcel 2 none) 6 1 6 D U [.ref (ad 0), .int parcel_] (zz_wc U ad σ X) (match r.1 with | .inl _ => zz_ok none (zz_wc U ad r.2 X) | .inr _ => zz_none) (match r.1 with | .inl _ => zz_noth | .inr E => zz_th E (zz_wc U ad r.2 X)) := by
  unfold fX7_requireParcel at hf
  refine zz_method RX7 rfl (by decide +kernel) (Nat.le_of_ble_eq_true rfl) ?_
  intro p l e s m args below meth c A _ C
  refine zz_lvs (lv1 := [(0, .ref (ad 0)), (1, .int parcel_)]) rfl ?_
  refine zz_aload_n C 0 dX7_requireParcel_0 rfl rfl ?_
  obtain ⟨x1, h2, hf⟩ := zz_bind hf
  refine zz_callV1 (As := []) (rest := []) C 0 (mX7_putTogether σ x1 h2) dX7_requireParcel_1 rfl rfl rfl zw_90 zy_X7_putTogether rfl (by decide) (by decide) (Nat.le_of_ble_eq_true rfl) (Nat.le_of_ble_eq_true rfl) (Nat.le_of_ble_eq_true rfl) rfl ?_
  obtain ⟨b3, h4, hf⟩ := zz_bind hf
  refine zz_cutI (P := b3 = true) 19 [(0, .ref (ad 0)), (1, .int parcel_)] [] (zz_wc U ad x1 X) (fun g7 => ?_) (fun J5 => ?_)
  · rw [if_pos g7] at hf
    cases hf
    exact zz_throwSW (cls := "java/lang/IndexOutOfBoundsException") (text := "no such parcel") C zt_2 (by decide +kernel) dX7_requireParcel_19 dX7_requireParcel_22 dX7_requireParcel_23 dX7_requireParcel_26 dX7_requireParcel_29 (by decide) (Nat.le_of_ble_eq_true rfl) (Nat.le_of_ble_eq_true rfl) (Nat.le_of_ble_eq_true rfl) (Nat.le_of_ble_eq_true rfl) (Nat.le_of_ble_eq_true rfl) (And.intro rfl rfl)
  refine zz_cutI (P := b3 = false) 30 [(0, .ref (ad 0)), (1, .int parcel_)] [] (zz_wc U ad x1 X) (fun g7 => ?_) (fun J6 => ?_)
  · rw [if_neg (show ¬ b3 = true by rw [g7]; decide)] at hf
    cases hf
    exact zz_vret C dX7_requireParcel_30 (And.intro rfl rfl) (Nat.le_of_ble_eq_true rfl) (Nat.le_of_ble_eq_true rfl)
  refine zz_iload_n C 1 dX7_requireParcel_4 rfl rfl ?_
  refine zz_if_lt (tgt := 19) C dX7_requireParcel_5 (by decide) (fun g8 => ?_) (fun g8 => ?_)
  · rw [if_pos g8] at h4
    cases h4
    exact J5 rfl
  · rw [if_neg g8] at h4
    refine zz_iload_n C 1 dX7_requireParcel_8 rfl rfl ?_
    refine zz_aload_n C 0 dX7_requireParcel_9 rfl rfl ?_
    refine zf7_parcels C dX7_requireParcel_10 zw_85 ?_
    refine zf4_count C dX7_requireParcel_13 zw_99 ?_
    refine zz_icmp_lt (tgt := 30) C dX7_requireParcel_16 (by decide) (fun g9 => ?_) (fun g9 => ?_)
    · rw [if_pos g9] at h4
      cases h4
      exact J6 rfl
    · rw [if_neg g9] at h4
      cases h4
      exact J5 rfl
theorem mX7_requireParcel_r {D : va_G} {U : zz_U} {ad : Nat → Nat} {X : va_W} (σ : zz_St) (parcel_ : Int32) (x : Unit) (σ1 : zz_St) (hf : fX7_requireParcel σ parcel_ = some (.inl x, σ1)) : zz_Met yX7_requireParcel (.code yX7_requireParcel cX7_requireParcel 2 none) 6 1 6 D U [.ref (ad 0), .int parcel_] (zz_wc U ad σ X) (zz_ok none (zz_wc U ad σ1 X)) zz_noth := mX7_requireParcel σ parcel_ (.inl x, σ1) hf
theorem mX7_requireParcel_x {D : va_G} {U : zz_U} {ad : Nat → Nat} {X : va_W} (σ : zz_St) (parcel_ : Int32) (x : String) (σ1 : zz_St) (hf : fX7_requireParcel σ parcel_ = some (.inr x, σ1)) : zz_Met yX7_requireParcel (.code yX7_requireParcel cX7_requireParcel 2 none) 6 1 6 D U [.ref (ad 0), .int parcel_] (zz_wc U ad σ X) zz_none (zz_th x (zz_wc U ad σ1 X)) := mX7_requireParcel σ parcel_ (.inr x, σ1) hf
theorem dX7_parcel_0 : decode cX7_parcel 0 = .ok (.aload_n 0, 1) := by decide +kernel
theorem dX7_parcel_1 : decode cX7_parcel 1 = .ok (.iload_n 1, 1) := by decide +kernel
theorem dX7_parcel_2 : decode cX7_parcel 2 = .ok (.invokevirtual 206, 3) := by decide +kernel
theorem dX7_parcel_5 : decode cX7_parcel 5 = .ok (.aload_n 0, 1) := by decide +kernel
theorem dX7_parcel_6 : decode cX7_parcel 6 = .ok (.getfield 47, 3) := by decide +kernel
theorem dX7_parcel_9 : decode cX7_parcel 9 = .ok (.getfield 209, 3) := by decide +kernel
theorem dX7_parcel_12 : decode cX7_parcel 12 = .ok (.iload_n 1, 1) := by decide +kernel
theorem dX7_parcel_13 : decode cX7_parcel 13 = .ok (.iaload, 1) := by decide +kernel
theorem dX7_parcel_14 : decode cX7_parcel 14 = .ok (.ireturn, 1) := by decide +kernel
set_option maxHeartbeats 4000000 in
set_option maxRecDepth 100000 in
theorem mX7_parcel {D : va_G} {U : zz_U} {ad : Nat → Nat} {X : va_W} (σ : zz_St) (parcel_ : Int32) (r : ((Int32 ⊕ String) × zz_St)) (hf : fX7_parcel σ parcel_ = some r) : zz_Met yX7_parcel (.code yX7_parcel cX7_parcel 2 (some .int)) 7 1 6 D U [.ref (ad 0), .int parcel_] (zz_wc U ad σ X) (match r.1 with | .inl x => zz_ok (some (.int x)) (zz_wc U ad r.2 X) | .inr _ => zz_none) (match r.1 with | .inl _ => zz_noth | .inr E => zz_th E (zz_wc U ad r.2 X)) := by
  unfold fX7_parcel at hf
  refine zz_method RX7 rfl (by decide +kernel) (Nat.le_of_ble_eq_true rfl) ?_
  intro p l e s m args below meth c A _ C
  refine zz_lvs (lv1 := [(0, .ref (ad 0)), (1, .int parcel_)]) rfl ?_
  refine zz_aload_n C 0 dX7_parcel_0 rfl rfl ?_
  refine zz_iload_n C 1 dX7_parcel_1 rfl rfl ?_
  obtain ⟨⟨x1, σ4⟩, h2, hf⟩ := zz_bind hf
  rcases x1 with x1 | E3
  · try dsimp only at hf
    refine zz_callV1 (As := [.int parcel_]) (rest := []) C 0 (mX7_requireParcel_r σ parcel_ x1 σ4 h2) dX7_parcel_2 rfl rfl rfl zw_101 zy_X7_requireParcel rfl (by decide) (by decide) (Nat.le_of_ble_eq_true rfl) (Nat.le_of_ble_eq_true rfl) (Nat.le_of_ble_eq_true rfl) rfl ?_
    refine zz_aload_n C 0 dX7_parcel_5 rfl rfl ?_
    refine zf7_parcels C dX7_parcel_6 zw_85 ?_
    refine zf4_sets C dX7_parcel_9 zw_100 ?_
    refine zz_iload_n C 1 dX7_parcel_12 rfl rfl ?_
    obtain ⟨x5, h6, hf⟩ := zz_bind hf
    refine zl_42 C dX7_parcel_13 h6 ?_
    cases hf
    exact zz_iret C dX7_parcel_14 (And.intro rfl rfl) (Nat.le_of_ble_eq_true rfl) (Nat.le_of_ble_eq_true rfl)
  · refine zz_callVx (As := [.int parcel_]) (rest := []) C 0 (mX7_requireParcel_x σ parcel_ E3 σ4 h2) dX7_parcel_2 rfl rfl rfl zw_101 zy_X7_requireParcel rfl (by decide) (by decide) (Nat.le_of_ble_eq_true rfl) (Nat.le_of_ble_eq_true rfl) (Nat.le_of_ble_eq_true rfl) ?_
    cases hf
    exact zz_out C (And.intro rfl rfl) (Nat.le_of_ble_eq_true rfl) (Nat.le_of_ble_eq_true rfl)
theorem mX7_parcel_r {D : va_G} {U : zz_U} {ad : Nat → Nat} {X : va_W} (σ : zz_St) (parcel_ : Int32) (x : Int32) (σ1 : zz_St) (hf : fX7_parcel σ parcel_ = some (.inl x, σ1)) : zz_Met yX7_parcel (.code yX7_parcel cX7_parcel 2 (some .int)) 7 1 6 D U [.ref (ad 0), .int parcel_] (zz_wc U ad σ X) (zz_ok (some (.int x)) (zz_wc U ad σ1 X)) zz_noth := mX7_parcel σ parcel_ (.inl x, σ1) hf
theorem mX7_parcel_x {D : va_G} {U : zz_U} {ad : Nat → Nat} {X : va_W} (σ : zz_St) (parcel_ : Int32) (x : String) (σ1 : zz_St) (hf : fX7_parcel σ parcel_ = some (.inr x, σ1)) : zz_Met yX7_parcel (.code yX7_parcel cX7_parcel 2 (some .int)) 7 1 6 D U [.ref (ad 0), .int parcel_] (zz_wc U ad σ X) zz_none (zz_th x (zz_wc U ad σ1 X)) := mX7_parcel σ parcel_ (.inr x, σ1) hf
set_option maxHeartbeats 4000000 in
set_option maxRecDepth 100000 in
theorem mX7_placeOf_a42_L1 {p : Program} {l : Launch} {e : Env} {R : Room} {s : State} {m : MethodId} {args : Array Value} {below : List Frame} {meth : Method} {c : Code} {Q : State → Prop} {D : va_G} {U : zz_U} {A : Nat → Prop} {cells slots : Nat} {ad : Nat → Nat} {X : va_W} (C : zz_C p l R s m meth c D U A RX7 cX7_placeOf 4 (some .int) [] 1) (hcR : cells ≤ R.cells) (hsR : slots ≤ R.slots) (σ : zz_St) (piece_ : Int32) (count_ : Int32) : ∀ (n : Nat) (place_ : Int32) (q : (Int32 ⊕ (Int32))), fX7_placeOf_a42_L1 σ piece_ count_ n place_ = some q → (∀ v : Int32, q = .inl v → zz_Z p l e R s m args below meth c Q D A 4 cells slots (zz_wc U ad σ X) 24 [] [.int v]) → (∀ w : Int32, q = .inr w → zz_Z p l e R s m args below meth c Q D A 4 cells slots (zz_wc U ad σ X) 31 [(0, .int piece_), (1, .ref (ad 42)), (2, .int count_), (3, .int w)] []) → zz_Z p l e R s m args below meth c Q D A 4 cells slots (zz_wc U ad σ X) 2 [(0, .int piece_), (1, .ref (ad 42)), (2, .int count_), (3, .int place_)] [] := by
  intro n
  induction n with
  | zero => intro place_ q hf; rw [fX7_placeOf_a42_L1] at hf; cases hf
  | succ n ih =>
    intro place_ q hf kr kx
    rw [fX7_placeOf_a42_L1] at hf
    obtain ⟨b1, h2, hf⟩ := zz_bind hf
    refine zz_cutI (P := b1 = true) 13 [(0, .int piece_), (1, .ref (ad 42)), (2, .int count_), (3, .int place_)] [] (zz_wc U ad σ X) (fun g5 => ?_) (fun J3 => ?_)
    · rw [if_pos g5] at hf
      refine zz_iload_n C 0 dX7_placeOf_13 rfl rfl ?_
      refine zz_aload_n C 1 dX7_placeOf_14 rfl rfl ?_
      refine zz_iload_n C 3 dX7_placeOf_15 rfl rfl ?_
      obtain ⟨x8, h9, hf⟩ := zz_bind hf
      refine zl_42 C dX7_placeOf_16 h9 ?_
      obtain ⟨x10, h11, hf⟩ := zz_bind hf
      refine zz_callS1 (As := [.int piece_, .int x8]) (rest := []) C (mX7_isIn σ piece_ x8 x10 h11) dX7_placeOf_17 rfl zw_93 zy_X7_isIn rfl (by decide) (by decide) (Nat.le_of_ble_eq_true rfl) hcR hsR rfl ?_
      refine zz_if_eq (tgt := 25) C dX7_placeOf_20 (by decide) (fun g12 => ?_) (fun g12 => ?_)
      · rw [if_pos g12] at hf
        refine zz_iinc (v := (place_ + (1 : Int32))) C 3 dX7_placeOf_25 rfl (by rfl) (by decide) (lv' := [(3, .int (place_ + (1 : Int32))), (0, .int piece_), (1, .ref (ad 42)), (2, .int count_)]) rfl ?_
        refine zz_goto (tgt := 2) C dX7_placeOf_28 (by decide) ?_
        refine zz_sub [1, 2, 3, 0] rfl ?_
        exact ih (place_ + (1 : Int32)) _ hf kr kx
      · rw [if_neg g12] at hf
        refine zz_iload_n C 3 dX7_placeOf_23 rfl rfl ?_
        cases hf
        refine zz_sub [] rfl ?_
        exact kr _ rfl
    refine zz_cutI (P := b1 = false) 31 [(0, .int piece_), (1, .ref (ad 42)), (2, .int count_), (3, .int place_)] [] (zz_wc U ad σ X) (fun g5 => ?_) (fun J4 => ?_)
    · rw [if_neg (show ¬ b1 = true by rw [g5]; decide)] at hf
      cases hf
      exact kx _ rfl
    refine zz_iload_n C 3 dX7_placeOf_2 rfl rfl ?_
    refine zz_iload_n C 2 dX7_placeOf_3 rfl rfl ?_
    refine zz_icmp_ge (tgt := 31) C dX7_placeOf_4 (by decide) (fun g6 => ?_) (fun g6 => ?_)
    · rw [if_pos g6] at h2
      cases h2
      exact J4 rfl
    · rw [if_neg g6] at h2
      refine zz_iload_n C 3 dX7_placeOf_7 rfl rfl ?_
      refine zz_aload_n C 1 dX7_placeOf_8 rfl rfl ?_
      refine zz_alen (v := (14 : Int32)) C 42 0 dX7_placeOf_9 rfl rfl rfl ?_
      refine zz_icmp_ge (tgt := 31) C dX7_placeOf_10 (by decide) (fun g7 => ?_) (fun g7 => ?_)
      · rw [if_pos g7] at h2
        cases h2
        exact J4 rfl
      · rw [if_neg g7] at h2
        cases h2
        exact J3 rfl
set_option maxHeartbeats 4000000 in
set_option maxRecDepth 100000 in
theorem mX7_placeOf_a42 {D : va_G} {U : zz_U} {ad : Nat → Nat} {X : va_W} (σ : zz_St) (piece_ : Int32) (count_ : Int32) (r : Int32) (hf : fX7_placeOf_a42 σ piece_ count_ = some r) : zz_Met yX7_placeOf (.code yX7_placeOf cX7_placeOf 4 (some .int)) 1 0 0 D U [.int piece_, .ref (ad 42), .int count_] (zz_wc U ad σ X) (zz_ok (some (.int r)) (zz_wc U ad σ X)) zz_noth := by
  unfold fX7_placeOf_a42 at hf
  refine zz_method RX7 rfl (by decide +kernel) (Nat.le_of_ble_eq_true rfl) ?_
  intro p l e s m args below meth c A _ C
  refine zz_lvs (lv1 := [(0, .int piece_), (1, .ref (ad 42)), (2, .int count_)]) rfl ?_
  refine zz_iconst (v := (0 : Int32)) C dX7_placeOf_0 (by decide) ?_
  refine zz_istore_n C dX7_placeOf_1 rfl (by decide) (lv' := [(3, .int (0 : Int32)), (0, .int piece_), (1, .ref (ad 42)), (2, .int count_)]) rfl ?_
  obtain ⟨q13, h14, hf⟩ := zz_bind hf
  refine zz_sub [1, 2, 3, 0] rfl ?_
  refine mX7_placeOf_a42_L1 C (Nat.le_of_ble_eq_true rfl) (Nat.le_of_ble_eq_true rfl) σ piece_ count_ 1000 (0 : Int32) q13 h14 (fun v15 h17 => ?_) (fun w16 h17 => ?_)
  · subst h17
    cases hf
    exact zz_iret C dX7_placeOf_24 (And.intro rfl rfl) (Nat.le_of_ble_eq_true rfl) (Nat.le_of_ble_eq_true rfl)
  · subst h17
    refine zz_iconst (v := (-1 : Int32)) C dX7_placeOf_31 (by decide) ?_
    cases hf
    exact zz_iret C dX7_placeOf_32 (And.intro rfl rfl) (Nat.le_of_ble_eq_true rfl) (Nat.le_of_ble_eq_true rfl)
theorem dX7_parcelOf_0 : decode cX7_parcelOf 0 = .ok (.aload_n 0, 1) := by decide +kernel
theorem dX7_parcelOf_1 : decode cX7_parcelOf 1 = .ok (.iload_n 1, 1) := by decide +kernel
theorem dX7_parcelOf_2 : decode cX7_parcelOf 2 = .ok (.invokevirtual 136, 3) := by decide +kernel
theorem dX7_parcelOf_5 : decode cX7_parcelOf 5 = .ok (.aload_n 0, 1) := by decide +kernel
theorem dX7_parcelOf_6 : decode cX7_parcelOf 6 = .ok (.invokevirtual 176, 3) := by decide +kernel
theorem dX7_parcelOf_9 : decode cX7_parcelOf 9 = .ok (.iload_n 1, 1) := by decide +kernel
theorem dX7_parcelOf_10 : decode cX7_parcelOf 10 = .ok (.aload_n 0, 1) := by decide +kernel
theorem dX7_parcelOf_11 : decode cX7_parcelOf 11 = .ok (.getfield 47, 3) := by decide +kernel
theorem dX7_parcelOf_14 : decode cX7_parcelOf 14 = .ok (.getfield 209, 3) := by decide +kernel
theorem dX7_parcelOf_17 : decode cX7_parcelOf 17 = .ok (.aload_n 0, 1) := by decide +kernel
theorem dX7_parcelOf_18 : decode cX7_parcelOf 18 = .ok (.getfield 47, 3) := by decide +kernel
theorem dX7_parcelOf_21 : decode cX7_parcelOf 21 = .ok (.getfield 205, 3) := by decide +kernel
theorem dX7_parcelOf_24 : decode cX7_parcelOf 24 = .ok (.invokestatic 186, 3) := by decide +kernel
theorem dX7_parcelOf_27 : decode cX7_parcelOf 27 = .ok (.ireturn, 1) := by decide +kernel
set_option maxHeartbeats 4000000 in
set_option maxRecDepth 100000 in
theorem mX7_parcelOf {D : va_G} {U : zz_U} {ad : Nat → Nat} {X : va_W} (σ : zz_St) (piece_ : Int32) (r : ((Int32 ⊕ String) × zz_St)) (hf : fX7_parcelOf σ piece_ = some r) : zz_Met yX7_parcelOf (.code yX7_parcelOf cX7_parcelOf 2 (some .int)) 7 1 6 D U [.ref (ad 0), .int piece_] (zz_wc U ad σ X) (match r.1 with | .inl x => zz_ok (some (.int x)) (zz_wc U ad r.2 X) | .inr _ => zz_none) (match r.1 with | .inl _ => zz_noth | .inr E => zz_th E (zz_wc U ad r.2 X)) := by
  unfold fX7_parcelOf at hf
  refine zz_method RX7 rfl (by decide +kernel) (Nat.le_of_ble_eq_true rfl) ?_
  intro p l e s m args below meth c A _ C
  refine zz_lvs (lv1 := [(0, .ref (ad 0)), (1, .int piece_)]) rfl ?_
  refine zz_aload_n C 0 dX7_parcelOf_0 rfl rfl ?_
  refine zz_iload_n C 1 dX7_parcelOf_1 rfl rfl ?_
  obtain ⟨x1, h2, hf⟩ := zz_bind hf
  rcases x1 with x1 | E3
  · refine zz_callV1 (As := [.int piece_]) (rest := []) C 0 (mX7_requirePiece_r σ piece_ x1 h2) dX7_parcelOf_2 rfl rfl rfl zw_14 zy_X7_requirePiece rfl (by decide) (by decide) (Nat.le_of_ble_eq_true rfl) (Nat.le_of_ble_eq_true rfl) (Nat.le_of_ble_eq_true rfl) rfl ?_
    refine zz_aload_n C 0 dX7_parcelOf_5 rfl rfl ?_
    obtain ⟨x4, h5, hf⟩ := zz_bind hf
    refine zz_callV1 (As := []) (rest := []) C 0 (mX7_putTogether σ x4 h5) dX7_parcelOf_6 rfl rfl rfl zw_90 zy_X7_putTogether rfl (by decide) (by decide) (Nat.le_of_ble_eq_true rfl) (Nat.le_of_ble_eq_true rfl) (Nat.le_of_ble_eq_true rfl) rfl ?_
    refine zz_iload_n C 1 dX7_parcelOf_9 rfl rfl ?_
    refine zz_aload_n C 0 dX7_parcelOf_10 rfl rfl ?_
    refine zf7_parcels C dX7_parcelOf_11 zw_85 ?_
    refine zf4_sets C dX7_parcelOf_14 zw_100 ?_
    refine zz_aload_n C 0 dX7_parcelOf_17 rfl rfl ?_
    refine zf7_parcels C dX7_parcelOf_18 zw_85 ?_
    refine zf4_count C dX7_parcelOf_21 zw_99 ?_
    obtain ⟨x6, h7, hf⟩ := zz_bind hf
    refine zz_callS1 (As := [.int piece_, .ref (ad 42), .int (x4 41 0)]) (rest := []) C (mX7_placeOf_a42 x4 piece_ (x4 41 0) x6 h7) dX7_parcelOf_24 rfl zw_94 zy_X7_placeOf rfl (by decide) (by decide) (Nat.le_of_ble_eq_true rfl) (Nat.le_of_ble_eq_true rfl) (Nat.le_of_ble_eq_true rfl) rfl ?_
    cases hf
    exact zz_iret C dX7_parcelOf_27 (And.intro rfl rfl) (Nat.le_of_ble_eq_true rfl) (Nat.le_of_ble_eq_true rfl)
  · refine zz_callVx (As := [.int piece_]) (rest := []) C 0 (mX7_requirePiece_x σ piece_ E3 h2) dX7_parcelOf_2 rfl rfl rfl zw_14 zy_X7_requirePiece rfl (by decide) (by decide) (Nat.le_of_ble_eq_true rfl) (Nat.le_of_ble_eq_true rfl) (Nat.le_of_ble_eq_true rfl) ?_
    cases hf
    exact zz_out C (And.intro rfl rfl) (Nat.le_of_ble_eq_true rfl) (Nat.le_of_ble_eq_true rfl)
theorem mX7_parcelOf_r {D : va_G} {U : zz_U} {ad : Nat → Nat} {X : va_W} (σ : zz_St) (piece_ : Int32) (x : Int32) (σ1 : zz_St) (hf : fX7_parcelOf σ piece_ = some (.inl x, σ1)) : zz_Met yX7_parcelOf (.code yX7_parcelOf cX7_parcelOf 2 (some .int)) 7 1 6 D U [.ref (ad 0), .int piece_] (zz_wc U ad σ X) (zz_ok (some (.int x)) (zz_wc U ad σ1 X)) zz_noth := mX7_parcelOf σ piece_ (.inl x, σ1) hf
theorem mX7_parcelOf_x {D : va_G} {U : zz_U} {ad : Nat → Nat} {X : va_W} (σ : zz_St) (piece_ : Int32) (x : String) (σ1 : zz_St) (hf : fX7_parcelOf σ piece_ = some (.inr x, σ1)) : zz_Met yX7_parcelOf (.code yX7_parcelOf cX7_parcelOf 2 (some .int)) 7 1 6 D U [.ref (ad 0), .int piece_] (zz_wc U ad σ X) zz_none (zz_th x (zz_wc U ad σ1 X)) := mX7_parcelOf σ piece_ (.inr x, σ1) hf
theorem dX7_knots_0 : decode cX7_knots 0 = .ok (.aload_n 0, 1) := by decide +kernel
theorem dX7_knots_1 : decode cX7_knots 1 = .ok (.invokevirtual 176, 3) := by decide +kernel
theorem dX7_knots_4 : decode cX7_knots 4 = .ok (.aload_n 0, 1) := by decide +kernel
theorem dX7_knots_5 : decode cX7_knots 5 = .ok (.getfield 47, 3) := by decide +kernel
theorem dX7_knots_8 : decode cX7_knots 8 = .ok (.getfield 210, 3) := by decide +kernel
theorem dX7_knots_11 : decode cX7_knots 11 = .ok (.ireturn, 1) := by decide +kernel
set_option maxHeartbeats 4000000 in
set_option maxRecDepth 100000 in
theorem mX7_knots {D : va_G} {U : zz_U} {ad : Nat → Nat} {X : va_W} (σ : zz_St) (r : (Int32 × zz_St)) (hf : fX7_knots σ = some r) : zz_Met yX7_knots (.code yX7_knots cX7_knots 1 (some .int)) 6 0 0 D U [.ref (ad 0)] (zz_wc U ad σ X) (zz_ok (some (.int r.1)) (zz_wc U ad r.2 X)) zz_noth := by
  unfold fX7_knots at hf
  refine zz_method RX7 rfl (by decide +kernel) (Nat.le_of_ble_eq_true rfl) ?_
  intro p l e s m args below meth c A _ C
  refine zz_lvs (lv1 := [(0, .ref (ad 0))]) rfl ?_
  refine zz_aload_n C 0 dX7_knots_0 rfl rfl ?_
  obtain ⟨x1, h2, hf⟩ := zz_bind hf
  refine zz_callV1 (As := []) (rest := []) C 0 (mX7_putTogether σ x1 h2) dX7_knots_1 rfl rfl rfl zw_90 zy_X7_putTogether rfl (by decide) (by decide) (Nat.le_of_ble_eq_true rfl) (Nat.le_of_ble_eq_true rfl) (Nat.le_of_ble_eq_true rfl) rfl ?_
  refine zz_aload_n C 0 dX7_knots_4 rfl rfl ?_
  refine zf7_parcels C dX7_knots_5 zw_85 ?_
  refine zf4_knotCount C dX7_knots_8 zw_102 ?_
  cases hf
  exact zz_iret C dX7_knots_11 (And.intro rfl rfl) (Nat.le_of_ble_eq_true rfl) (Nat.le_of_ble_eq_true rfl)
theorem dX5_linesOf_0 : decode cX5_linesOf 0 = .ok (.iconst 0, 1) := by decide +kernel
theorem dX5_linesOf_1 : decode cX5_linesOf 1 = .ok (.istore_n 2, 1) := by decide +kernel
theorem dX5_linesOf_2 : decode cX5_linesOf 2 = .ok (.iconst 0, 1) := by decide +kernel
theorem dX5_linesOf_3 : decode cX5_linesOf 3 = .ok (.istore_n 3, 1) := by decide +kernel
theorem dX5_linesOf_4 : decode cX5_linesOf 4 = .ok (.iload_n 3, 1) := by decide +kernel
theorem dX5_linesOf_5 : decode cX5_linesOf 5 = .ok (.aload_n 0, 1) := by decide +kernel
theorem dX5_linesOf_6 : decode cX5_linesOf 6 = .ok (.getfield 35, 3) := by decide +kernel
theorem dX5_linesOf_9 : decode cX5_linesOf 9 = .ok (.if_icmp .ge 33, 3) := by decide +kernel
theorem dX5_linesOf_12 : decode cX5_linesOf 12 = .ok (.iload_n 3, 1) := by decide +kernel
theorem dX5_linesOf_13 : decode cX5_linesOf 13 = .ok (.iload_n 1, 1) := by decide +kernel
theorem dX5_linesOf_14 : decode cX5_linesOf 14 = .ok (.invokestatic 49, 3) := by decide +kernel
theorem dX5_linesOf_17 : decode cX5_linesOf 17 = .ok (.ifCond .eq 19, 3) := by decide +kernel
theorem dX5_linesOf_20 : decode cX5_linesOf 20 = .ok (.iload_n 2, 1) := by decide +kernel
theorem dX5_linesOf_21 : decode cX5_linesOf 21 = .ok (.aload_n 0, 1) := by decide +kernel
theorem dX5_linesOf_22 : decode cX5_linesOf 22 = .ok (.getfield 18, 3) := by decide +kernel
theorem dX5_linesOf_25 : decode cX5_linesOf 25 = .ok (.iload_n 3, 1) := by decide +kernel
theorem dX5_linesOf_26 : decode cX5_linesOf 26 = .ok (.iaload, 1) := by decide +kernel
theorem dX5_linesOf_27 : decode cX5_linesOf 27 = .ok (.aload_n 0, 1) := by decide +kernel
theorem dX5_linesOf_28 : decode cX5_linesOf 28 = .ok (.getfield 21, 3) := by decide +kernel
theorem dX5_linesOf_31 : decode cX5_linesOf 31 = .ok (.iload_n 3, 1) := by decide +kernel
theorem dX5_linesOf_32 : decode cX5_linesOf 32 = .ok (.iaload, 1) := by decide +kernel
theorem dX5_linesOf_33 : decode cX5_linesOf 33 = .ok (.iadd, 1) := by decide +kernel
theorem dX5_linesOf_34 : decode cX5_linesOf 34 = .ok (.iadd, 1) := by decide +kernel
theorem dX5_linesOf_35 : decode cX5_linesOf 35 = .ok (.istore_n 2, 1) := by decide +kernel
theorem dX5_linesOf_36 : decode cX5_linesOf 36 = .ok (.iinc 3 1, 3) := by decide +kernel
theorem dX5_linesOf_39 : decode cX5_linesOf 39 = .ok (.goto (-35), 3) := by decide +kernel
theorem dX5_linesOf_42 : decode cX5_linesOf 42 = .ok (.iload_n 2, 1) := by decide +kernel
theorem dX5_linesOf_43 : decode cX5_linesOf 43 = .ok (.ireturn, 1) := by decide +kernel
set_option maxHeartbeats 4000000 in
set_option maxRecDepth 100000 in
theorem mX5_linesOf_L1 {p : Program} {l : Launch} {e : Env} {R : Room} {s : State} {m : MethodId} {args : Array Value} {below : List Frame} {meth : Method} {c : Code} {Q : State → Prop} {D : va_G} {U : zz_U} {A : Nat → Prop} {cells slots : Nat} {ad : Nat → Nat} {X : va_W} (C : zz_C p l R s m meth c D U A RX5 cX5_linesOf 4 (some .int) [] 1) (hcR : cells ≤ R.cells) (hsR : slots ≤ R.slots) (σ : zz_St) (set_ : Int32) : ∀ (n : Nat) (sum_ : Int32) (piece_ : Int32) (q : (Int32 × Int32)), fX5_linesOf_L1 σ set_ n sum_ piece_ = some q → (zz_Z p l e R s m args below meth c Q D A 4 cells slots (zz_wc U ad σ X) 42 [(0, .ref (ad 1)), (1, .int set_), (2, .int q.1), (3, .int q.2)] []) → zz_Z p l e R s m args below meth c Q D A 4 cells slots (zz_wc U ad σ X) 4 [(0, .ref (ad 1)), (1, .int set_), (2, .int sum_), (3, .int piece_)] [] := by
  intro n
  induction n with
  | zero => intro sum_ piece_ q hf; rw [fX5_linesOf_L1] at hf; cases hf
  | succ n ih =>
    intro sum_ piece_ q hf kx
    rw [fX5_linesOf_L1] at hf
    refine zz_iload_n C 3 dX5_linesOf_4 rfl rfl ?_
    refine zz_aload_n C 0 dX5_linesOf_5 rfl rfl ?_
    refine zf5_count C dX5_linesOf_6 zw_3 ?_
    refine zz_icmp_ge (tgt := 42) C dX5_linesOf_9 (by decide) (fun g1 => ?_) (fun g1 => ?_)
    · rw [if_pos g1] at hf
      cases hf
      exact kx
    · rw [if_neg g1] at hf
      obtain ⟨x2, h3, hf⟩ := zz_bind hf
      refine zz_cut 36 [(0, .ref (ad 1)), (1, .int set_), (2, .int x2), (3, .int piece_)] [] (zz_wc U ad σ X) ?_ (fun J4 => ?_)
      · refine zz_iinc (v := (piece_ + (1 : Int32))) C 3 dX5_linesOf_36 rfl (by rfl) (by decide) (lv' := [(3, .int (piece_ + (1 : Int32))), (0, .ref (ad 1)), (1, .int set_), (2, .int x2)]) rfl ?_
        refine zz_goto (tgt := 4) C dX5_linesOf_39 (by decide) ?_
        refine zz_sub [1, 2, 3, 0] rfl ?_
        exact ih x2 (piece_ + (1 : Int32)) _ hf kx
      refine zz_iload_n C 3 dX5_linesOf_12 rfl rfl ?_
      refine zz_iload_n C 1 dX5_linesOf_13 rfl rfl ?_
      obtain ⟨x5, h6, h3⟩ := zz_bind h3
      refine zz_callSN1 (host := "ChangeUntangler") (As := [.int piece_, .int set_]) (rest := []) C (mX7_isIn σ piece_ set_ x5 h6) dX5_linesOf_14 rfl (by decide +kernel) zy_X7_isIn rfl (by decide) (by decide) (Nat.le_of_ble_eq_true rfl) hcR hsR rfl ?_
      refine zz_if_eq (tgt := 36) C dX5_linesOf_17 (by decide) (fun g7 => ?_) (fun g7 => ?_)
      · rw [if_pos g7] at h3
        cases h3
        exact J4
      · rw [if_neg g7] at h3
        refine zz_iload_n C 2 dX5_linesOf_20 rfl rfl ?_
        refine zz_aload_n C 0 dX5_linesOf_21 rfl rfl ?_
        refine zf5_added C dX5_linesOf_22 zw_6 ?_
        refine zz_iload_n C 3 dX5_linesOf_25 rfl rfl ?_
        obtain ⟨x8, h9, h3⟩ := zz_bind h3
        refine zl_4 C dX5_linesOf_26 h9 ?_
        refine zz_aload_n C 0 dX5_linesOf_27 rfl rfl ?_
        refine zf5_taken C dX5_linesOf_28 zw_5 ?_
        refine zz_iload_n C 3 dX5_linesOf_31 rfl rfl ?_
        obtain ⟨x10, h11, h3⟩ := zz_bind h3
        refine zl_5 C dX5_linesOf_32 h11 ?_
        refine zz_iadd C dX5_linesOf_33 ?_
        refine zz_iadd C dX5_linesOf_34 ?_
        obtain ⟨x12, h13, h3⟩ := zz_bind h3
        refine zz_topi (Option.some.inj h13) ?_
        refine zz_istore_n C dX5_linesOf_35 rfl (by decide) (lv' := [(2, .int x12), (0, .ref (ad 1)), (1, .int set_), (3, .int piece_)]) rfl ?_
        refine zz_sub [1, 2, 0, 3] rfl ?_
        cases h3
        exact J4
set_option maxHeartbeats 4000000 in
set_option maxRecDepth 100000 in
theorem mX5_linesOf {D : va_G} {U : zz_U} {ad : Nat → Nat} {X : va_W} (σ : zz_St) (set_ : Int32) (r : Int32) (hf : fX5_linesOf σ set_ = some r) : zz_Met yX5_linesOf (.code yX5_linesOf cX5_linesOf 4 (some .int)) 1 0 0 D U [.ref (ad 1), .int set_] (zz_wc U ad σ X) (zz_ok (some (.int r)) (zz_wc U ad σ X)) zz_noth := by
  unfold fX5_linesOf at hf
  refine zz_method RX5 rfl (by decide +kernel) (Nat.le_of_ble_eq_true rfl) ?_
  intro p l e s m args below meth c A _ C
  refine zz_lvs (lv1 := [(0, .ref (ad 1)), (1, .int set_)]) rfl ?_
  refine zz_iconst (v := (0 : Int32)) C dX5_linesOf_0 (by decide) ?_
  refine zz_istore_n C dX5_linesOf_1 rfl (by decide) (lv' := [(2, .int (0 : Int32)), (0, .ref (ad 1)), (1, .int set_)]) rfl ?_
  refine zz_iconst (v := (0 : Int32)) C dX5_linesOf_2 (by decide) ?_
  refine zz_istore_n C dX5_linesOf_3 rfl (by decide) (lv' := [(3, .int (0 : Int32)), (2, .int (0 : Int32)), (0, .ref (ad 1)), (1, .int set_)]) rfl ?_
  obtain ⟨q14, h15, hf⟩ := zz_bind hf
  refine zz_sub [2, 3, 1, 0] rfl ?_
  refine mX5_linesOf_L1 C (Nat.le_of_ble_eq_true rfl) (Nat.le_of_ble_eq_true rfl) σ set_ 1000 (0 : Int32) (0 : Int32) q14 h15 ?_
  refine zz_iload_n C 2 dX5_linesOf_42 rfl rfl ?_
  cases hf
  exact zz_iret C dX5_linesOf_43 (And.intro rfl rfl) (Nat.le_of_ble_eq_true rfl) (Nat.le_of_ble_eq_true rfl)
theorem dX7_lines_0 : decode cX7_lines 0 = .ok (.aload_n 0, 1) := by decide +kernel
theorem dX7_lines_1 : decode cX7_lines 1 = .ok (.iload_n 1, 1) := by decide +kernel
theorem dX7_lines_2 : decode cX7_lines 2 = .ok (.invokevirtual 206, 3) := by decide +kernel
theorem dX7_lines_5 : decode cX7_lines 5 = .ok (.aload_n 0, 1) := by decide +kernel
theorem dX7_lines_6 : decode cX7_lines 6 = .ok (.getfield 12, 3) := by decide +kernel
theorem dX7_lines_9 : decode cX7_lines 9 = .ok (.aload_n 0, 1) := by decide +kernel
theorem dX7_lines_10 : decode cX7_lines 10 = .ok (.getfield 47, 3) := by decide +kernel
theorem dX7_lines_13 : decode cX7_lines 13 = .ok (.getfield 209, 3) := by decide +kernel
theorem dX7_lines_16 : decode cX7_lines 16 = .ok (.iload_n 1, 1) := by decide +kernel
theorem dX7_lines_17 : decode cX7_lines 17 = .ok (.iaload, 1) := by decide +kernel
theorem dX7_lines_18 : decode cX7_lines 18 = .ok (.invokevirtual 213, 3) := by decide +kernel
theorem dX7_lines_21 : decode cX7_lines 21 = .ok (.ireturn, 1) := by decide +kernel
set_option maxHeartbeats 4000000 in
set_option maxRecDepth 100000 in
theorem mX7_lines {D : va_G} {U : zz_U} {ad : Nat → Nat} {X : va_W} (σ : zz_St) (parcel_ : Int32) (r : ((Int32 ⊕ String) × zz_St)) (hf : fX7_lines σ parcel_ = some r) : zz_Met yX7_lines (.code yX7_lines cX7_lines 2 (some .int)) 7 1 6 D U [.ref (ad 0), .int parcel_] (zz_wc U ad σ X) (match r.1 with | .inl x => zz_ok (some (.int x)) (zz_wc U ad r.2 X) | .inr _ => zz_none) (match r.1 with | .inl _ => zz_noth | .inr E => zz_th E (zz_wc U ad r.2 X)) := by
  unfold fX7_lines at hf
  refine zz_method RX7 rfl (by decide +kernel) (Nat.le_of_ble_eq_true rfl) ?_
  intro p l e s m args below meth c A _ C
  refine zz_lvs (lv1 := [(0, .ref (ad 0)), (1, .int parcel_)]) rfl ?_
  refine zz_aload_n C 0 dX7_lines_0 rfl rfl ?_
  refine zz_iload_n C 1 dX7_lines_1 rfl rfl ?_
  obtain ⟨⟨x1, σ4⟩, h2, hf⟩ := zz_bind hf
  rcases x1 with x1 | E3
  · try dsimp only at hf
    refine zz_callV1 (As := [.int parcel_]) (rest := []) C 0 (mX7_requireParcel_r σ parcel_ x1 σ4 h2) dX7_lines_2 rfl rfl rfl zw_101 zy_X7_requireParcel rfl (by decide) (by decide) (Nat.le_of_ble_eq_true rfl) (Nat.le_of_ble_eq_true rfl) (Nat.le_of_ble_eq_true rfl) rfl ?_
    refine zz_aload_n C 0 dX7_lines_5 rfl rfl ?_
    refine zf7_pieces C dX7_lines_6 zw_10 ?_
    refine zz_aload_n C 0 dX7_lines_9 rfl rfl ?_
    refine zf7_parcels C dX7_lines_10 zw_85 ?_
    refine zf4_sets C dX7_lines_13 zw_100 ?_
    refine zz_iload_n C 1 dX7_lines_16 rfl rfl ?_
    obtain ⟨x5, h6, hf⟩ := zz_bind hf
    refine zl_42 C dX7_lines_17 h6 ?_
    obtain ⟨x7, h8, hf⟩ := zz_bind hf
    refine zz_callV1 (As := [.int x5]) (rest := []) C 1 (mX5_linesOf σ4 x5 x7 h8) dX7_lines_18 rfl rfl rfl zw_103 zy_X5_linesOf rfl (by decide) (by decide) (Nat.le_of_ble_eq_true rfl) (Nat.le_of_ble_eq_true rfl) (Nat.le_of_ble_eq_true rfl) rfl ?_
    cases hf
    exact zz_iret C dX7_lines_21 (And.intro rfl rfl) (Nat.le_of_ble_eq_true rfl) (Nat.le_of_ble_eq_true rfl)
  · refine zz_callVx (As := [.int parcel_]) (rest := []) C 0 (mX7_requireParcel_x σ parcel_ E3 σ4 h2) dX7_lines_2 rfl rfl rfl zw_101 zy_X7_requireParcel rfl (by decide) (by decide) (Nat.le_of_ble_eq_true rfl) (Nat.le_of_ble_eq_true rfl) (Nat.le_of_ble_eq_true rfl) ?_
    cases hf
    exact zz_out C (And.intro rfl rfl) (Nat.le_of_ble_eq_true rfl) (Nat.le_of_ble_eq_true rfl)
theorem mX7_lines_r {D : va_G} {U : zz_U} {ad : Nat → Nat} {X : va_W} (σ : zz_St) (parcel_ : Int32) (x : Int32) (σ1 : zz_St) (hf : fX7_lines σ parcel_ = some (.inl x, σ1)) : zz_Met yX7_lines (.code yX7_lines cX7_lines 2 (some .int)) 7 1 6 D U [.ref (ad 0), .int parcel_] (zz_wc U ad σ X) (zz_ok (some (.int x)) (zz_wc U ad σ1 X)) zz_noth := mX7_lines σ parcel_ (.inl x, σ1) hf
theorem mX7_lines_x {D : va_G} {U : zz_U} {ad : Nat → Nat} {X : va_W} (σ : zz_St) (parcel_ : Int32) (x : String) (σ1 : zz_St) (hf : fX7_lines σ parcel_ = some (.inr x, σ1)) : zz_Met yX7_lines (.code yX7_lines cX7_lines 2 (some .int)) 7 1 6 D U [.ref (ad 0), .int parcel_] (zz_wc U ad σ X) zz_none (zz_th x (zz_wc U ad σ1 X)) := mX7_lines σ parcel_ (.inr x, σ1) hf
theorem dX5_all_0 : decode cX5_all 0 = .ok (.iconst 1, 1) := by decide +kernel
theorem dX5_all_1 : decode cX5_all 1 = .ok (.aload_n 0, 1) := by decide +kernel
theorem dX5_all_2 : decode cX5_all 2 = .ok (.getfield 35, 3) := by decide +kernel
theorem dX5_all_5 : decode cX5_all 5 = .ok (.ishl, 1) := by decide +kernel
theorem dX5_all_6 : decode cX5_all 6 = .ok (.iconst 1, 1) := by decide +kernel
theorem dX5_all_7 : decode cX5_all 7 = .ok (.isub, 1) := by decide +kernel
theorem dX5_all_8 : decode cX5_all 8 = .ok (.ireturn, 1) := by decide +kernel
set_option maxHeartbeats 4000000 in
set_option maxRecDepth 100000 in
theorem mX5_all {D : va_G} {U : zz_U} {ad : Nat → Nat} {X : va_W} (σ : zz_St) (r : Int32) (hf : fX5_all σ = some r) : zz_Met yX5_all (.code yX5_all cX5_all 1 (some .int)) 0 0 0 D U [.ref (ad 1)] (zz_wc U ad σ X) (zz_ok (some (.int r)) (zz_wc U ad σ X)) zz_noth := by
  unfold fX5_all at hf
  refine zz_method RX5 rfl (by decide +kernel) (Nat.le_of_ble_eq_true rfl) ?_
  intro p l e s m args below meth c A _ C
  refine zz_lvs (lv1 := [(0, .ref (ad 1))]) rfl ?_
  refine zz_iconst (v := (1 : Int32)) C dX5_all_0 (by decide) ?_
  refine zz_aload_n C 0 dX5_all_1 rfl rfl ?_
  refine zf5_count C dX5_all_2 zw_3 ?_
  refine zz_ishl C dX5_all_5 ?_
  refine zz_iconst (v := (1 : Int32)) C dX5_all_6 (by decide) ?_
  refine zz_isub C dX5_all_7 ?_
  cases hf
  exact zz_iret C dX5_all_8 (And.intro rfl rfl) (Nat.le_of_ble_eq_true rfl) (Nat.le_of_ble_eq_true rfl)
theorem dX1_brokenBy_0 : decode cX1_brokenBy 0 = .ok (.iconst 0, 1) := by decide +kernel
theorem dX1_brokenBy_1 : decode cX1_brokenBy 1 = .ok (.istore_n 3, 1) := by decide +kernel
theorem dX1_brokenBy_2 : decode cX1_brokenBy 2 = .ok (.iconst 0, 1) := by decide +kernel
theorem dX1_brokenBy_3 : decode cX1_brokenBy 3 = .ok (.istore 4, 2) := by decide +kernel
theorem dX1_brokenBy_5 : decode cX1_brokenBy 5 = .ok (.iload 4, 2) := by decide +kernel
theorem dX1_brokenBy_7 : decode cX1_brokenBy 7 = .ok (.bipush 16, 2) := by decide +kernel
theorem dX1_brokenBy_9 : decode cX1_brokenBy 9 = .ok (.if_icmp .ge 114, 3) := by decide +kernel
theorem dX1_brokenBy_12 : decode cX1_brokenBy 12 = .ok (.aload_n 0, 1) := by decide +kernel
theorem dX1_brokenBy_13 : decode cX1_brokenBy 13 = .ok (.getfield 15, 3) := by decide +kernel
theorem dX1_brokenBy_16 : decode cX1_brokenBy 16 = .ok (.iload 4, 2) := by decide +kernel
theorem dX1_brokenBy_18 : decode cX1_brokenBy 18 = .ok (.ishr, 1) := by decide +kernel
theorem dX1_brokenBy_19 : decode cX1_brokenBy 19 = .ok (.iconst 1, 1) := by decide +kernel
theorem dX1_brokenBy_20 : decode cX1_brokenBy 20 = .ok (.iand, 1) := by decide +kernel
theorem dX1_brokenBy_21 : decode cX1_brokenBy 21 = .ok (.aload_n 1, 1) := by decide +kernel
theorem dX1_brokenBy_22 : decode cX1_brokenBy 22 = .ok (.getfield 23, 3) := by decide +kernel
theorem dX1_brokenBy_25 : decode cX1_brokenBy 25 = .ok (.iconst 0, 1) := by decide +kernel
theorem dX1_brokenBy_26 : decode cX1_brokenBy 26 = .ok (.aaload, 1) := by decide +kernel
theorem dX1_brokenBy_27 : decode cX1_brokenBy 27 = .ok (.iload 4, 2) := by decide +kernel
theorem dX1_brokenBy_29 : decode cX1_brokenBy 29 = .ok (.iaload, 1) := by decide +kernel
theorem dX1_brokenBy_30 : decode cX1_brokenBy 30 = .ok (.iload_n 2, 1) := by decide +kernel
theorem dX1_brokenBy_31 : decode cX1_brokenBy 31 = .ok (.iand, 1) := by decide +kernel
theorem dX1_brokenBy_32 : decode cX1_brokenBy 32 = .ok (.invokestatic 29, 3) := by decide +kernel
theorem dX1_brokenBy_35 : decode cX1_brokenBy 35 = .ok (.iadd, 1) := by decide +kernel
theorem dX1_brokenBy_36 : decode cX1_brokenBy 36 = .ok (.aload_n 1, 1) := by decide +kernel
theorem dX1_brokenBy_37 : decode cX1_brokenBy 37 = .ok (.getfield 23, 3) := by decide +kernel
theorem dX1_brokenBy_40 : decode cX1_brokenBy 40 = .ok (.iconst 1, 1) := by decide +kernel
theorem dX1_brokenBy_41 : decode cX1_brokenBy 41 = .ok (.aaload, 1) := by decide +kernel
theorem dX1_brokenBy_42 : decode cX1_brokenBy 42 = .ok (.iload 4, 2) := by decide +kernel
theorem dX1_brokenBy_44 : decode cX1_brokenBy 44 = .ok (.iaload, 1) := by decide +kernel
theorem dX1_brokenBy_45 : decode cX1_brokenBy 45 = .ok (.iload_n 2, 1) := by decide +kernel
theorem dX1_brokenBy_46 : decode cX1_brokenBy 46 = .ok (.iand, 1) := by decide +kernel
theorem dX1_brokenBy_47 : decode cX1_brokenBy 47 = .ok (.invokestatic 29, 3) := by decide +kernel
theorem dX1_brokenBy_50 : decode cX1_brokenBy 50 = .ok (.isub, 1) := by decide +kernel
theorem dX1_brokenBy_51 : decode cX1_brokenBy 51 = .ok (.istore 5, 2) := by decide +kernel
theorem dX1_brokenBy_53 : decode cX1_brokenBy 53 = .ok (.aload_n 0, 1) := by decide +kernel
theorem dX1_brokenBy_54 : decode cX1_brokenBy 54 = .ok (.getfield 9, 3) := by decide +kernel
theorem dX1_brokenBy_57 : decode cX1_brokenBy 57 = .ok (.iload 4, 2) := by decide +kernel
theorem dX1_brokenBy_59 : decode cX1_brokenBy 59 = .ok (.iaload, 1) := by decide +kernel
theorem dX1_brokenBy_60 : decode cX1_brokenBy 60 = .ok (.aload_n 1, 1) := by decide +kernel
theorem dX1_brokenBy_61 : decode cX1_brokenBy 61 = .ok (.getfield 23, 3) := by decide +kernel
theorem dX1_brokenBy_64 : decode cX1_brokenBy 64 = .ok (.iconst 2, 1) := by decide +kernel
theorem dX1_brokenBy_65 : decode cX1_brokenBy 65 = .ok (.aaload, 1) := by decide +kernel
theorem dX1_brokenBy_66 : decode cX1_brokenBy 66 = .ok (.iload 4, 2) := by decide +kernel
theorem dX1_brokenBy_68 : decode cX1_brokenBy 68 = .ok (.iaload, 1) := by decide +kernel
theorem dX1_brokenBy_69 : decode cX1_brokenBy 69 = .ok (.iload_n 2, 1) := by decide +kernel
theorem dX1_brokenBy_70 : decode cX1_brokenBy 70 = .ok (.iand, 1) := by decide +kernel
theorem dX1_brokenBy_71 : decode cX1_brokenBy 71 = .ok (.invokestatic 29, 3) := by decide +kernel
theorem dX1_brokenBy_74 : decode cX1_brokenBy 74 = .ok (.iadd, 1) := by decide +kernel
theorem dX1_brokenBy_75 : decode cX1_brokenBy 75 = .ok (.aload_n 1, 1) := by decide +kernel
theorem dX1_brokenBy_76 : decode cX1_brokenBy 76 = .ok (.getfield 23, 3) := by decide +kernel
theorem dX1_brokenBy_79 : decode cX1_brokenBy 79 = .ok (.iconst 3, 1) := by decide +kernel
theorem dX1_brokenBy_80 : decode cX1_brokenBy 80 = .ok (.aaload, 1) := by decide +kernel
theorem dX1_brokenBy_81 : decode cX1_brokenBy 81 = .ok (.iload 4, 2) := by decide +kernel
theorem dX1_brokenBy_83 : decode cX1_brokenBy 83 = .ok (.iaload, 1) := by decide +kernel
theorem dX1_brokenBy_84 : decode cX1_brokenBy 84 = .ok (.iload_n 2, 1) := by decide +kernel
theorem dX1_brokenBy_85 : decode cX1_brokenBy 85 = .ok (.iand, 1) := by decide +kernel
theorem dX1_brokenBy_86 : decode cX1_brokenBy 86 = .ok (.invokestatic 29, 3) := by decide +kernel
theorem dX1_brokenBy_89 : decode cX1_brokenBy 89 = .ok (.isub, 1) := by decide +kernel
theorem dX1_brokenBy_90 : decode cX1_brokenBy 90 = .ok (.istore 6, 2) := by decide +kernel
theorem dX1_brokenBy_92 : decode cX1_brokenBy 92 = .ok (.iload 5, 2) := by decide +kernel
theorem dX1_brokenBy_94 : decode cX1_brokenBy 94 = .ok (.iconst 1, 1) := by decide +kernel
theorem dX1_brokenBy_95 : decode cX1_brokenBy 95 = .ok (.if_icmp .gt 15, 3) := by decide +kernel
theorem dX1_brokenBy_98 : decode cX1_brokenBy 98 = .ok (.iload 5, 2) := by decide +kernel
theorem dX1_brokenBy_100 : decode cX1_brokenBy 100 = .ok (.iconst 1, 1) := by decide +kernel
theorem dX1_brokenBy_101 : decode cX1_brokenBy 101 = .ok (.if_icmp .ge 16, 3) := by decide +kernel
theorem dX1_brokenBy_104 : decode cX1_brokenBy 104 = .ok (.iload 6, 2) := by decide +kernel
theorem dX1_brokenBy_106 : decode cX1_brokenBy 106 = .ok (.iconst 1, 1) := by decide +kernel
theorem dX1_brokenBy_107 : decode cX1_brokenBy 107 = .ok (.if_icmp .lt 10, 3) := by decide +kernel
theorem dX1_brokenBy_110 : decode cX1_brokenBy 110 = .ok (.iload_n 3, 1) := by decide +kernel
theorem dX1_brokenBy_111 : decode cX1_brokenBy 111 = .ok (.iconst 1, 1) := by decide +kernel
theorem dX1_brokenBy_112 : decode cX1_brokenBy 112 = .ok (.iload 4, 2) := by decide +kernel
theorem dX1_brokenBy_114 : decode cX1_brokenBy 114 = .ok (.ishl, 1) := by decide +kernel
theorem dX1_brokenBy_115 : decode cX1_brokenBy 115 = .ok (.ior, 1) := by decide +kernel
theorem dX1_brokenBy_116 : decode cX1_brokenBy 116 = .ok (.istore_n 3, 1) := by decide +kernel
theorem dX1_brokenBy_117 : decode cX1_brokenBy 117 = .ok (.iinc 4 1, 3) := by decide +kernel
theorem dX1_brokenBy_120 : decode cX1_brokenBy 120 = .ok (.goto (-115), 3) := by decide +kernel
theorem dX1_brokenBy_123 : decode cX1_brokenBy 123 = .ok (.iload_n 3, 1) := by decide +kernel
theorem dX1_brokenBy_124 : decode cX1_brokenBy 124 = .ok (.ireturn, 1) := by decide +kernel
set_option maxHeartbeats 4000000 in
set_option maxRecDepth 100000 in
theorem mX1_brokenBy_L1 {p : Program} {l : Launch} {e : Env} {R : Room} {s : State} {m : MethodId} {args : Array Value} {below : List Frame} {meth : Method} {c : Code} {Q : State → Prop} {D : va_G} {U : zz_U} {A : Nat → Prop} {cells slots : Nat} {ad : Nat → Nat} {X : va_W} (C : zz_C p l R s m meth c D U A RX1 cX1_brokenBy 7 (some .int) [] 1) (hcR : cells ≤ R.cells) (hsR : slots ≤ R.slots) (σ : zz_St) (applied_ : Int32) : ∀ (n : Nat) (found_ : Int32) (name_ : Int32) (q : (Int32 × Int32)), fX1_brokenBy_L1 σ applied_ n found_ name_ = some q → (zz_Z p l e R s m args below meth c Q D A 7 cells slots (zz_wc U ad σ X) 123 [(0, .ref (ad 17)), (1, .ref (ad 1)), (2, .int applied_), (3, .int q.1), (4, .int q.2)] []) → zz_Z p l e R s m args below meth c Q D A 7 cells slots (zz_wc U ad σ X) 5 [(0, .ref (ad 17)), (1, .ref (ad 1)), (2, .int applied_), (3, .int found_), (4, .int name_)] [] := by
  intro n
  induction n with
  | zero => intro found_ name_ q hf; rw [fX1_brokenBy_L1] at hf; cases hf
  | succ n ih =>
    intro found_ name_ q hf kx
    rw [fX1_brokenBy_L1] at hf
    refine zz_iload C 4 dX1_brokenBy_5 rfl ?_
    refine zz_bipush (v := (16 : Int32)) C dX1_brokenBy_7 (by decide) ?_
    refine zz_icmp_ge (tgt := 123) C dX1_brokenBy_9 (by decide) (fun g1 => ?_) (fun g1 => ?_)
    · rw [if_pos g1] at hf
      cases hf
      exact kx
    · rw [if_neg g1] at hf
      refine zz_aload_n C 0 dX1_brokenBy_12 rfl rfl ?_
      refine zf1_definedNames C dX1_brokenBy_13 zw_21 ?_
      refine zz_iload C 4 dX1_brokenBy_16 rfl ?_
      refine zz_ishr C dX1_brokenBy_18 ?_
      refine zz_iconst (v := (1 : Int32)) C dX1_brokenBy_19 (by decide) ?_
      refine zz_iand C dX1_brokenBy_20 ?_
      refine zz_aload_n C 1 dX1_brokenBy_21 rfl rfl ?_
      refine zf5_piecesWith C dX1_brokenBy_22 zw_105 ?_
      refine zz_iconst (v := (0 : Int32)) C dX1_brokenBy_25 (by decide) ?_
      obtain ⟨x2, h3, hf⟩ := zz_bind hf
      refine zr_12 C dX1_brokenBy_26 h3 ?_
      refine zz_iload C 4 dX1_brokenBy_27 rfl ?_
      obtain ⟨x4, h5, hf⟩ := zz_bind hf
      refine zl_12 C dX1_brokenBy_29 h3 h5 ?_
      refine zz_iload_n C 2 dX1_brokenBy_30 rfl rfl ?_
      refine zz_iand C dX1_brokenBy_31 ?_
      obtain ⟨x6, h7, hf⟩ := zz_bind hf
      refine zz_callS1 (As := [.int (x4 &&& applied_)]) (rest := [.int (((σ 17 0) >>> (name_ &&& 31)) &&& (1 : Int32))]) C (mJ6_bitCount (x4 &&& applied_) x6 h7) dX1_brokenBy_32 rfl zw_104 zy_J6_bitCount_0f7a4 rfl (by decide) (by decide) (Nat.le_of_ble_eq_true rfl) hcR hsR rfl ?_
      refine zz_iadd C dX1_brokenBy_35 ?_
      refine zz_aload_n C 1 dX1_brokenBy_36 rfl rfl ?_
      refine zf5_piecesWith C dX1_brokenBy_37 zw_105 ?_
      refine zz_iconst (v := (1 : Int32)) C dX1_brokenBy_40 (by decide) ?_
      obtain ⟨x8, h9, hf⟩ := zz_bind hf
      refine zr_12 C dX1_brokenBy_41 h9 ?_
      refine zz_iload C 4 dX1_brokenBy_42 rfl ?_
      obtain ⟨x10, h11, hf⟩ := zz_bind hf
      refine zl_12 C dX1_brokenBy_44 h9 h11 ?_
      refine zz_iload_n C 2 dX1_brokenBy_45 rfl rfl ?_
      refine zz_iand C dX1_brokenBy_46 ?_
      obtain ⟨x12, h13, hf⟩ := zz_bind hf
      refine zz_callS1 (As := [.int (x10 &&& applied_)]) (rest := [.int ((((σ 17 0) >>> (name_ &&& 31)) &&& (1 : Int32)) + x6)]) C (mJ6_bitCount (x10 &&& applied_) x12 h13) dX1_brokenBy_47 rfl zw_104 zy_J6_bitCount_0f7a4 rfl (by decide) (by decide) (Nat.le_of_ble_eq_true rfl) hcR hsR rfl ?_
      refine zz_isub C dX1_brokenBy_50 ?_
      obtain ⟨x14, h15, hf⟩ := zz_bind hf
      refine zz_topi (Option.some.inj h15) ?_
      refine zz_istore C dX1_brokenBy_51 (by decide) (lv' := [(5, .int x14), (0, .ref (ad 17)), (1, .ref (ad 1)), (2, .int applied_), (3, .int found_), (4, .int name_)]) rfl ?_
      refine zz_aload_n C 1 dX1_brokenBy_53 rfl rfl ?_
      refine zf1_otherUses C dX1_brokenBy_54 zw_20 ?_
      refine zz_iload C 5 dX1_brokenBy_57 rfl ?_
      obtain ⟨x16, h17, hf⟩ := zz_bind hf
      refine zl_18 C dX1_brokenBy_59 h17 ?_
      refine zz_aload_n C 2 dX1_brokenBy_60 rfl rfl ?_
      refine zf5_piecesWith C dX1_brokenBy_61 zw_105 ?_
      refine zz_iconst (v := (2 : Int32)) C dX1_brokenBy_64 (by decide) ?_
      obtain ⟨x18, h19, hf⟩ := zz_bind hf
      refine zr_12 C dX1_brokenBy_65 h19 ?_
      refine zz_iload C 5 dX1_brokenBy_66 rfl ?_
      obtain ⟨x20, h21, hf⟩ := zz_bind hf
      refine zl_12 C dX1_brokenBy_68 h19 h21 ?_
      refine zz_iload_n C 3 dX1_brokenBy_69 rfl rfl ?_
      refine zz_iand C dX1_brokenBy_70 ?_
      obtain ⟨x22, h23, hf⟩ := zz_bind hf
      refine zz_callS1 (As := [.int (x20 &&& applied_)]) (rest := [.int x16]) C (mJ6_bitCount (x20 &&& applied_) x22 h23) dX1_brokenBy_71 rfl zw_104 zy_J6_bitCount_0f7a4 rfl (by decide) (by decide) (Nat.le_of_ble_eq_true rfl) hcR hsR rfl ?_
      refine zz_iadd C dX1_brokenBy_74 ?_
      refine zz_aload_n C 2 dX1_brokenBy_75 rfl rfl ?_
      refine zf5_piecesWith C dX1_brokenBy_76 zw_105 ?_
      refine zz_iconst (v := (3 : Int32)) C dX1_brokenBy_79 (by decide) ?_
      obtain ⟨x24, h25, hf⟩ := zz_bind hf
      refine zr_12 C dX1_brokenBy_80 h25 ?_
      refine zz_iload C 5 dX1_brokenBy_81 rfl ?_
      obtain ⟨x26, h27, hf⟩ := zz_bind hf
      refine zl_12 C dX1_brokenBy_83 h25 h27 ?_
      refine zz_iload_n C 3 dX1_brokenBy_84 rfl rfl ?_
      refine zz_iand C dX1_brokenBy_85 ?_
      obtain ⟨x28, h29, hf⟩ := zz_bind hf
      refine zz_callS1 (As := [.int (x26 &&& applied_)]) (rest := [.int (x16 + x22)]) C (mJ6_bitCount (x26 &&& applied_) x28 h29) dX1_brokenBy_86 rfl zw_104 zy_J6_bitCount_0f7a4 rfl (by decide) (by decide) (Nat.le_of_ble_eq_true rfl) hcR hsR rfl ?_
      refine zz_isub C dX1_brokenBy_89 ?_
      obtain ⟨x30, h31, hf⟩ := zz_bind hf
      refine zz_topi (Option.some.inj h31) ?_
      refine zz_istore C dX1_brokenBy_90 (by decide) (lv' := [(6, .int x30), (5, .int x14), (0, .ref (ad 17)), (1, .ref (ad 1)), (2, .int applied_), (3, .int found_), (4, .int name_)]) rfl ?_
      obtain ⟨x32, h33, hf⟩ := zz_bind hf
      refine zz_cut 117 [(0, .ref (ad 17)), (1, .ref (ad 1)), (2, .int applied_), (3, .int x32), (4, .int name_), (5, .int x14), (6, .int x30)] [] (zz_wc U ad σ X) ?_ (fun J34 => ?_)
      · refine zz_iinc (v := (name_ + (1 : Int32))) C 4 dX1_brokenBy_117 rfl (by rfl) (by decide) (lv' := [(4, .int (name_ + (1 : Int32))), (0, .ref (ad 17)), (1, .ref (ad 1)), (2, .int applied_), (3, .int x32), (5, .int x14), (6, .int x30)]) rfl ?_
        refine zz_goto (tgt := 5) C dX1_brokenBy_120 (by decide) ?_
        refine zz_sub [1, 2, 3, 4, 0] rfl ?_
        exact ih x32 (name_ + (1 : Int32)) _ hf kx
      obtain ⟨b35, h36, h33⟩ := zz_bind h33
      refine zz_cutI (P := b35 = true) 110 [(6, .int x30), (5, .int x14), (0, .ref (ad 17)), (1, .ref (ad 1)), (2, .int applied_), (3, .int found_), (4, .int name_)] [] (zz_wc U ad σ X) (fun g39 => ?_) (fun J37 => ?_)
      · rw [if_pos g39] at h33
        refine zz_iload_n C 5 dX1_brokenBy_110 rfl rfl ?_
        refine zz_iconst (v := (1 : Int32)) C dX1_brokenBy_111 (by decide) ?_
        refine zz_iload C 6 dX1_brokenBy_112 rfl ?_
        refine zz_ishl C dX1_brokenBy_114 ?_
        refine zz_ior C dX1_brokenBy_115 ?_
        obtain ⟨x43, h44, h33⟩ := zz_bind h33
        refine zz_topi (Option.some.inj h44) ?_
        refine zz_istore_n C dX1_brokenBy_116 rfl (by decide) (lv' := [(3, .int x43), (6, .int x30), (5, .int x14), (0, .ref (ad 17)), (1, .ref (ad 1)), (2, .int applied_), (4, .int name_)]) rfl ?_
        refine zz_sub [3, 4, 5, 0, 6, 2, 1] rfl ?_
        cases h33
        exact J34
      refine zz_cutI (P := b35 = false) 117 [(6, .int x30), (5, .int x14), (0, .ref (ad 17)), (1, .ref (ad 1)), (2, .int applied_), (3, .int found_), (4, .int name_)] [] (zz_wc U ad σ X) (fun g39 => ?_) (fun J38 => ?_)
      · rw [if_neg (show ¬ b35 = true by rw [g39]; decide)] at h33
        refine zz_sub [2, 3, 4, 5, 6, 1, 0] rfl ?_
        cases h33
        exact J34
      refine zz_iload C 1 dX1_brokenBy_92 rfl ?_
      refine zz_iconst (v := (1 : Int32)) C dX1_brokenBy_94 (by decide) ?_
      refine zz_icmp_gt (tgt := 110) C dX1_brokenBy_95 (by decide) (fun g40 => ?_) (fun g40 => ?_)
      · rw [if_pos g40] at h36
        cases h36
        exact J37 rfl
      · rw [if_neg g40] at h36
        refine zz_iload C 1 dX1_brokenBy_98 rfl ?_
        refine zz_iconst (v := (1 : Int32)) C dX1_brokenBy_100 (by decide) ?_
        refine zz_icmp_ge (tgt := 117) C dX1_brokenBy_101 (by decide) (fun g41 => ?_) (fun g41 => ?_)
        · rw [if_pos g41] at h36
          cases h36
          exact J38 rfl
        · rw [if_neg g41] at h36
          refine zz_iload C 0 dX1_brokenBy_104 rfl ?_
          refine zz_iconst (v := (1 : Int32)) C dX1_brokenBy_106 (by decide) ?_
          refine zz_icmp_lt (tgt := 117) C dX1_brokenBy_107 (by decide) (fun g42 => ?_) (fun g42 => ?_)
          · rw [if_pos g42] at h36
            cases h36
            exact J38 rfl
          · rw [if_neg g42] at h36
            cases h36
            exact J37 rfl
set_option maxHeartbeats 4000000 in
set_option maxRecDepth 100000 in
theorem mX1_brokenBy {D : va_G} {U : zz_U} {ad : Nat → Nat} {X : va_W} (σ : zz_St) (applied_ : Int32) (r : Int32) (hf : fX1_brokenBy σ applied_ = some r) : zz_Met yX1_brokenBy (.code yX1_brokenBy cX1_brokenBy 7 (some .int)) 1 0 0 D U [.ref (ad 17), .ref (ad 1), .int applied_] (zz_wc U ad σ X) (zz_ok (some (.int r)) (zz_wc U ad σ X)) zz_noth := by
  unfold fX1_brokenBy at hf
  refine zz_method RX1 rfl (by decide +kernel) (Nat.le_of_ble_eq_true rfl) ?_
  intro p l e s m args below meth c A _ C
  refine zz_lvs (lv1 := [(0, .ref (ad 17)), (1, .ref (ad 1)), (2, .int applied_)]) rfl ?_
  refine zz_iconst (v := (0 : Int32)) C dX1_brokenBy_0 (by decide) ?_
  refine zz_istore_n C dX1_brokenBy_1 rfl (by decide) (lv' := [(3, .int (0 : Int32)), (0, .ref (ad 17)), (1, .ref (ad 1)), (2, .int applied_)]) rfl ?_
  refine zz_iconst (v := (0 : Int32)) C dX1_brokenBy_2 (by decide) ?_
  refine zz_istore C dX1_brokenBy_3 (by decide) (lv' := [(4, .int (0 : Int32)), (3, .int (0 : Int32)), (0, .ref (ad 17)), (1, .ref (ad 1)), (2, .int applied_)]) rfl ?_
  obtain ⟨q45, h46, hf⟩ := zz_bind hf
  refine zz_sub [2, 3, 4, 1, 0] rfl ?_
  refine mX1_brokenBy_L1 C (Nat.le_of_ble_eq_true rfl) (Nat.le_of_ble_eq_true rfl) σ applied_ 1000 (0 : Int32) (0 : Int32) q45 h46 ?_
  refine zz_iload_n C 3 dX1_brokenBy_123 rfl rfl ?_
  cases hf
  exact zz_iret C dX1_brokenBy_124 (And.intro rfl rfl) (Nat.le_of_ble_eq_true rfl) (Nat.le_of_ble_eq_true rfl)
theorem dX7_broken_0 : decode cX7_broken 0 = .ok (.iload_n 1, 1) := by decide +kernel
theorem dX7_broken_1 : decode cX7_broken 1 = .ok (.aload_n 0, 1) := by decide +kernel
theorem dX7_broken_2 : decode cX7_broken 2 = .ok (.getfield 12, 3) := by decide +kernel
theorem dX7_broken_5 : decode cX7_broken 5 = .ok (.invokevirtual 217, 3) := by decide +kernel
theorem dX7_broken_8 : decode cX7_broken 8 = .ok (.iconst (-1), 1) := by decide +kernel
theorem dX7_broken_9 : decode cX7_broken 9 = .ok (.ixor, 1) := by decide +kernel
theorem dX7_broken_10 : decode cX7_broken 10 = .ok (.iand, 1) := by decide +kernel
theorem dX7_broken_11 : decode cX7_broken 11 = .ok (.ifCond .eq 13, 3) := by decide +kernel
theorem dX7_broken_14 : decode cX7_broken 14 = .ok (.new 62, 3) := by decide +kernel
theorem dX7_broken_17 : decode cX7_broken 17 = .ok (.dup, 1) := by decide +kernel
theorem dX7_broken_18 : decode cX7_broken 18 = .ok (.ldc 221, 2) := by decide +kernel
theorem dX7_broken_20 : decode cX7_broken 20 = .ok (.invokespecial 66, 3) := by decide +kernel
theorem dX7_broken_23 : decode cX7_broken 23 = .ok (.athrow, 1) := by decide +kernel
theorem dX7_broken_24 : decode cX7_broken 24 = .ok (.aload_n 0, 1) := by decide +kernel
theorem dX7_broken_25 : decode cX7_broken 25 = .ok (.getfield 19, 3) := by decide +kernel
theorem dX7_broken_28 : decode cX7_broken 28 = .ok (.aload_n 0, 1) := by decide +kernel
theorem dX7_broken_29 : decode cX7_broken 29 = .ok (.getfield 12, 3) := by decide +kernel
theorem dX7_broken_32 : decode cX7_broken 32 = .ok (.iload_n 1, 1) := by decide +kernel
theorem dX7_broken_33 : decode cX7_broken 33 = .ok (.invokevirtual 223, 3) := by decide +kernel
theorem dX7_broken_36 : decode cX7_broken 36 = .ok (.ireturn, 1) := by decide +kernel
set_option maxHeartbeats 4000000 in
set_option maxRecDepth 100000 in
theorem mX7_broken {D : va_G} {U : zz_U} {ad : Nat → Nat} {X : va_W} (σ : zz_St) (pieces_ : Int32) (r : (Int32 ⊕ String)) (hf : fX7_broken σ pieces_ = some r) : zz_Met yX7_broken (.code yX7_broken cX7_broken 2 (some .int)) 6 1 6 D U [.ref (ad 0), .int pieces_] (zz_wc U ad σ X) (match r with | .inl x => zz_ok (some (.int x)) (zz_wc U ad σ X) | .inr _ => zz_none) (match r with | .inl _ => zz_noth | .inr E => zz_th E (zz_wc U ad σ X)) := by
  unfold fX7_broken at hf
  refine zz_method RX7 rfl (by decide +kernel) (Nat.le_of_ble_eq_true rfl) ?_
  intro p l e s m args below meth c A _ C
  refine zz_lvs (lv1 := [(0, .ref (ad 0)), (1, .int pieces_)]) rfl ?_
  refine zz_iload_n C 1 dX7_broken_0 rfl rfl ?_
  refine zz_aload_n C 0 dX7_broken_1 rfl rfl ?_
  refine zf7_pieces C dX7_broken_2 zw_10 ?_
  obtain ⟨x1, h2, hf⟩ := zz_bind hf
  refine zz_callV1 (As := []) (rest := [.int pieces_]) C 1 (mX5_all σ x1 h2) dX7_broken_5 rfl rfl rfl zw_107 zy_X5_all rfl (by decide) (by decide) (Nat.le_of_ble_eq_true rfl) (Nat.le_of_ble_eq_true rfl) (Nat.le_of_ble_eq_true rfl) rfl ?_
  refine zz_iconst (v := (-1 : Int32)) C dX7_broken_8 (by decide) ?_
  refine zz_ixor C dX7_broken_9 ?_
  refine zz_iand C dX7_broken_10 ?_
  refine zz_if_eq (tgt := 24) C dX7_broken_11 (by decide) (fun g3 => ?_) (fun g3 => ?_)
  · rw [if_pos g3] at hf
    refine zz_aload_n C 0 dX7_broken_24 rfl rfl ?_
    refine zf7_code C dX7_broken_25 zw_23 ?_
    refine zz_aload_n C 0 dX7_broken_28 rfl rfl ?_
    refine zf7_pieces C dX7_broken_29 zw_10 ?_
    refine zz_iload_n C 1 dX7_broken_32 rfl rfl ?_
    obtain ⟨x4, h5, hf⟩ := zz_bind hf
    refine zz_callV1 (As := [.ref (ad 1), .int pieces_]) (rest := []) C 17 (mX1_brokenBy σ pieces_ x4 h5) dX7_broken_33 rfl rfl rfl zw_106 zy_X1_brokenBy rfl (by decide) (by decide) (Nat.le_of_ble_eq_true rfl) (Nat.le_of_ble_eq_true rfl) (Nat.le_of_ble_eq_true rfl) rfl ?_
    cases hf
    exact zz_iret C dX7_broken_36 (And.intro rfl rfl) (Nat.le_of_ble_eq_true rfl) (Nat.le_of_ble_eq_true rfl)
  · rw [if_neg g3] at hf
    cases hf
    exact zz_throwS (cls := "java/lang/IllegalArgumentException") (text := "not a set of pieces") C zt_0 (by decide +kernel) dX7_broken_14 dX7_broken_17 dX7_broken_18 dX7_broken_20 dX7_broken_23 (by decide) (Nat.le_of_ble_eq_true rfl) (Nat.le_of_ble_eq_true rfl) (Nat.le_of_ble_eq_true rfl) (Nat.le_of_ble_eq_true rfl) (Nat.le_of_ble_eq_true rfl) (And.intro rfl rfl)
theorem mX7_broken_r {D : va_G} {U : zz_U} {ad : Nat → Nat} {X : va_W} (σ : zz_St) (pieces_ : Int32) (x : Int32) (hf : fX7_broken σ pieces_ = some (.inl x)) : zz_Met yX7_broken (.code yX7_broken cX7_broken 2 (some .int)) 6 1 6 D U [.ref (ad 0), .int pieces_] (zz_wc U ad σ X) (zz_ok (some (.int x)) (zz_wc U ad σ X)) zz_noth := mX7_broken σ pieces_ (.inl x) hf
theorem mX7_broken_x {D : va_G} {U : zz_U} {ad : Nat → Nat} {X : va_W} (σ : zz_St) (pieces_ : Int32) (E : String) (hf : fX7_broken σ pieces_ = some (.inr E)) : zz_Met yX7_broken (.code yX7_broken cX7_broken 2 (some .int)) 6 1 6 D U [.ref (ad 0), .int pieces_] (zz_wc U ad σ X) zz_none (zz_th E (zz_wc U ad σ X)) := mX7_broken σ pieces_ (.inr E) hf
theorem dX7_breakageInOrder_0 : decode cX7_breakageInOrder 0 = .ok (.iconst 0, 1) := by decide +kernel
theorem dX7_breakageInOrder_1 : decode cX7_breakageInOrder 1 = .ok (.istore_n 1, 1) := by decide +kernel
theorem dX7_breakageInOrder_2 : decode cX7_breakageInOrder 2 = .ok (.iconst 0, 1) := by decide +kernel
theorem dX7_breakageInOrder_3 : decode cX7_breakageInOrder 3 = .ok (.istore_n 2, 1) := by decide +kernel
theorem dX7_breakageInOrder_4 : decode cX7_breakageInOrder 4 = .ok (.iconst 0, 1) := by decide +kernel
theorem dX7_breakageInOrder_5 : decode cX7_breakageInOrder 5 = .ok (.istore_n 3, 1) := by decide +kernel
theorem dX7_breakageInOrder_6 : decode cX7_breakageInOrder 6 = .ok (.iload_n 3, 1) := by decide +kernel
theorem dX7_breakageInOrder_7 : decode cX7_breakageInOrder 7 = .ok (.aload_n 0, 1) := by decide +kernel
theorem dX7_breakageInOrder_8 : decode cX7_breakageInOrder 8 = .ok (.getfield 47, 3) := by decide +kernel
theorem dX7_breakageInOrder_11 : decode cX7_breakageInOrder 11 = .ok (.getfield 205, 3) := by decide +kernel
theorem dX7_breakageInOrder_14 : decode cX7_breakageInOrder 14 = .ok (.if_icmp .ge 39, 3) := by decide +kernel
theorem dX7_breakageInOrder_17 : decode cX7_breakageInOrder 17 = .ok (.iload_n 1, 1) := by decide +kernel
theorem dX7_breakageInOrder_18 : decode cX7_breakageInOrder 18 = .ok (.aload_n 0, 1) := by decide +kernel
theorem dX7_breakageInOrder_19 : decode cX7_breakageInOrder 19 = .ok (.getfield 47, 3) := by decide +kernel
theorem dX7_breakageInOrder_22 : decode cX7_breakageInOrder 22 = .ok (.getfield 209, 3) := by decide +kernel
theorem dX7_breakageInOrder_25 : decode cX7_breakageInOrder 25 = .ok (.iload_n 3, 1) := by decide +kernel
theorem dX7_breakageInOrder_26 : decode cX7_breakageInOrder 26 = .ok (.iaload, 1) := by decide +kernel
theorem dX7_breakageInOrder_27 : decode cX7_breakageInOrder 27 = .ok (.ior, 1) := by decide +kernel
theorem dX7_breakageInOrder_28 : decode cX7_breakageInOrder 28 = .ok (.istore_n 1, 1) := by decide +kernel
theorem dX7_breakageInOrder_29 : decode cX7_breakageInOrder 29 = .ok (.iload_n 2, 1) := by decide +kernel
theorem dX7_breakageInOrder_30 : decode cX7_breakageInOrder 30 = .ok (.aload_n 0, 1) := by decide +kernel
theorem dX7_breakageInOrder_31 : decode cX7_breakageInOrder 31 = .ok (.getfield 19, 3) := by decide +kernel
theorem dX7_breakageInOrder_34 : decode cX7_breakageInOrder 34 = .ok (.aload_n 0, 1) := by decide +kernel
theorem dX7_breakageInOrder_35 : decode cX7_breakageInOrder 35 = .ok (.getfield 12, 3) := by decide +kernel
theorem dX7_breakageInOrder_38 : decode cX7_breakageInOrder 38 = .ok (.iload_n 1, 1) := by decide +kernel
theorem dX7_breakageInOrder_39 : decode cX7_breakageInOrder 39 = .ok (.invokevirtual 223, 3) := by decide +kernel
theorem dX7_breakageInOrder_42 : decode cX7_breakageInOrder 42 = .ok (.invokestatic 285, 3) := by decide +kernel
theorem dX7_breakageInOrder_45 : decode cX7_breakageInOrder 45 = .ok (.iadd, 1) := by decide +kernel
theorem dX7_breakageInOrder_46 : decode cX7_breakageInOrder 46 = .ok (.istore_n 2, 1) := by decide +kernel
theorem dX7_breakageInOrder_47 : decode cX7_breakageInOrder 47 = .ok (.iinc 3 1, 3) := by decide +kernel
theorem dX7_breakageInOrder_50 : decode cX7_breakageInOrder 50 = .ok (.goto (-44), 3) := by decide +kernel
theorem dX7_breakageInOrder_53 : decode cX7_breakageInOrder 53 = .ok (.iload_n 2, 1) := by decide +kernel
theorem dX7_breakageInOrder_54 : decode cX7_breakageInOrder 54 = .ok (.ireturn, 1) := by decide +kernel
set_option maxHeartbeats 4000000 in
set_option maxRecDepth 100000 in
theorem mX7_breakageInOrder_L1 {p : Program} {l : Launch} {e : Env} {R : Room} {s : State} {m : MethodId} {args : Array Value} {below : List Frame} {meth : Method} {c : Code} {Q : State → Prop} {D : va_G} {U : zz_U} {A : Nat → Prop} {cells slots : Nat} {ad : Nat → Nat} {X : va_W} (C : zz_C p l R s m meth c D U A RX7 cX7_breakageInOrder 4 (some .int) [] 2) (hcR : cells ≤ R.cells) (hsR : slots ≤ R.slots) (σ : zz_St) : ∀ (n : Nat) (applied_ : Int32) (sum_ : Int32) (parcel_ : Int32) (q : (Int32 × Int32 × Int32)), fX7_breakageInOrder_L1 σ n applied_ sum_ parcel_ = some q → (zz_Z p l e R s m args below meth c Q D A 4 cells slots (zz_wc U ad σ X) 53 [(0, .ref (ad 0)), (1, .int q.1), (2, .int q.2.1), (3, .int q.2.2)] []) → zz_Z p l e R s m args below meth c Q D A 4 cells slots (zz_wc U ad σ X) 6 [(0, .ref (ad 0)), (1, .int applied_), (2, .int sum_), (3, .int parcel_)] [] := by
  intro n
  induction n with
  | zero => intro applied_ sum_ parcel_ q hf; rw [fX7_breakageInOrder_L1] at hf; cases hf
  | succ n ih =>
    intro applied_ sum_ parcel_ q hf kx
    rw [fX7_breakageInOrder_L1] at hf
    refine zz_iload_n C 3 dX7_breakageInOrder_6 rfl rfl ?_
    refine zz_aload_n C 0 dX7_breakageInOrder_7 rfl rfl ?_
    refine zf7_parcels C dX7_breakageInOrder_8 zw_85 ?_
    refine zf4_count C dX7_breakageInOrder_11 zw_99 ?_
    refine zz_icmp_ge (tgt := 53) C dX7_breakageInOrder_14 (by decide) (fun g1 => ?_) (fun g1 => ?_)
    · rw [if_pos g1] at hf
      cases hf
      exact kx
    · rw [if_neg g1] at hf
      refine zz_iload_n C 1 dX7_breakageInOrder_17 rfl rfl ?_
      refine zz_aload_n C 0 dX7_breakageInOrder_18 rfl rfl ?_
      refine zf7_parcels C dX7_breakageInOrder_19 zw_85 ?_
      refine zf4_sets C dX7_breakageInOrder_22 zw_100 ?_
      refine zz_iload_n C 3 dX7_breakageInOrder_25 rfl rfl ?_
      obtain ⟨x2, h3, hf⟩ := zz_bind hf
      refine zl_42 C dX7_breakageInOrder_26 h3 ?_
      refine zz_ior C dX7_breakageInOrder_27 ?_
      obtain ⟨x4, h5, hf⟩ := zz_bind hf
      refine zz_topi (Option.some.inj h5) ?_
      refine zz_istore_n C dX7_breakageInOrder_28 rfl (by decide) (lv' := [(1, .int x4), (0, .ref (ad 0)), (2, .int sum_), (3, .int parcel_)]) rfl ?_
      refine zz_iload_n C 2 dX7_breakageInOrder_29 rfl rfl ?_
      refine zz_aload_n C 1 dX7_breakageInOrder_30 rfl rfl ?_
      refine zf7_code C dX7_breakageInOrder_31 zw_23 ?_
      refine zz_aload_n C 1 dX7_breakageInOrder_34 rfl rfl ?_
      refine zf7_pieces C dX7_breakageInOrder_35 zw_10 ?_
      refine zz_iload_n C 0 dX7_breakageInOrder_38 rfl rfl ?_
      obtain ⟨x6, h7, hf⟩ := zz_bind hf
      refine zz_callV1 (As := [.ref (ad 1), .int x4]) (rest := [.int sum_]) C 17 (mX1_brokenBy σ x4 x6 h7) dX7_breakageInOrder_39 rfl rfl rfl zw_106 zy_X1_brokenBy rfl (by decide) (by decide) (Nat.le_of_ble_eq_true rfl) hcR hsR rfl ?_
      obtain ⟨x8, h9, hf⟩ := zz_bind hf
      refine zz_callS1 (As := [.int x6]) (rest := [.int sum_]) C (mJ6_bitCount x6 x8 h9) dX7_breakageInOrder_42 rfl zw_108 zy_J6_bitCount_0f7a4 rfl (by decide) (by decide) (Nat.le_of_ble_eq_true rfl) hcR hsR rfl ?_
      refine zz_iadd C dX7_breakageInOrder_45 ?_
      obtain ⟨x10, h11, hf⟩ := zz_bind hf
      refine zz_topi (Option.some.inj h11) ?_
      refine zz_istore_n C dX7_breakageInOrder_46 rfl (by decide) (lv' := [(2, .int x10), (1, .int x4), (0, .ref (ad 0)), (3, .int parcel_)]) rfl ?_
      refine zz_iinc (v := (parcel_ + (1 : Int32))) C 3 dX7_breakageInOrder_47 rfl (by rfl) (by decide) (lv' := [(3, .int (parcel_ + (1 : Int32))), (2, .int x10), (1, .int x4), (0, .ref (ad 0))]) rfl ?_
      refine zz_goto (tgt := 6) C dX7_breakageInOrder_50 (by decide) ?_
      refine zz_sub [3, 2, 1, 0] rfl ?_
      exact ih x4 x10 (parcel_ + (1 : Int32)) _ hf kx
set_option maxHeartbeats 4000000 in
set_option maxRecDepth 100000 in
theorem mX7_breakageInOrder {D : va_G} {U : zz_U} {ad : Nat → Nat} {X : va_W} (σ : zz_St) (r : Int32) (hf : fX7_breakageInOrder σ = some r) : zz_Met yX7_breakageInOrder (.code yX7_breakageInOrder cX7_breakageInOrder 4 (some .int)) 2 0 0 D U [.ref (ad 0)] (zz_wc U ad σ X) (zz_ok (some (.int r)) (zz_wc U ad σ X)) zz_noth := by
  unfold fX7_breakageInOrder at hf
  refine zz_method RX7 rfl (by decide +kernel) (Nat.le_of_ble_eq_true rfl) ?_
  intro p l e s m args below meth c A _ C
  refine zz_lvs (lv1 := [(0, .ref (ad 0))]) rfl ?_
  refine zz_iconst (v := (0 : Int32)) C dX7_breakageInOrder_0 (by decide) ?_
  refine zz_istore_n C dX7_breakageInOrder_1 rfl (by decide) (lv' := [(1, .int (0 : Int32)), (0, .ref (ad 0))]) rfl ?_
  refine zz_iconst (v := (0 : Int32)) C dX7_breakageInOrder_2 (by decide) ?_
  refine zz_istore_n C dX7_breakageInOrder_3 rfl (by decide) (lv' := [(2, .int (0 : Int32)), (1, .int (0 : Int32)), (0, .ref (ad 0))]) rfl ?_
  refine zz_iconst (v := (0 : Int32)) C dX7_breakageInOrder_4 (by decide) ?_
  refine zz_istore_n C dX7_breakageInOrder_5 rfl (by decide) (lv' := [(3, .int (0 : Int32)), (2, .int (0 : Int32)), (1, .int (0 : Int32)), (0, .ref (ad 0))]) rfl ?_
  obtain ⟨q12, h13, hf⟩ := zz_bind hf
  refine zz_sub [3, 2, 1, 0] rfl ?_
  refine mX7_breakageInOrder_L1 C (Nat.le_of_ble_eq_true rfl) (Nat.le_of_ble_eq_true rfl) σ 1000 (0 : Int32) (0 : Int32) (0 : Int32) q12 h13 ?_
  refine zz_iload_n C 2 dX7_breakageInOrder_53 rfl rfl ?_
  cases hf
  exact zz_iret C dX7_breakageInOrder_54 (And.intro rfl rfl) (Nat.le_of_ble_eq_true rfl) (Nat.le_of_ble_eq_true rfl)
theorem dX7_breakage_0 : decode cX7_breakage 0 = .ok (.aload_n 0, 1) := by decide +kernel
theorem dX7_breakage_1 : decode cX7_breakage 1 = .ok (.invokevirtual 176, 3) := by decide +kernel
theorem dX7_breakage_4 : decode cX7_breakage 4 = .ok (.aload_n 0, 1) := by decide +kernel
theorem dX7_breakage_5 : decode cX7_breakage 5 = .ok (.invokevirtual 227, 3) := by decide +kernel
theorem dX7_breakage_8 : decode cX7_breakage 8 = .ok (.ireturn, 1) := by decide +kernel
set_option maxHeartbeats 4000000 in
set_option maxRecDepth 100000 in
theorem mX7_breakage {D : va_G} {U : zz_U} {ad : Nat → Nat} {X : va_W} (σ : zz_St) (r : (Int32 × zz_St)) (hf : fX7_breakage σ = some r) : zz_Met yX7_breakage (.code yX7_breakage cX7_breakage 1 (some .int)) 6 0 0 D U [.ref (ad 0)] (zz_wc U ad σ X) (zz_ok (some (.int r.1)) (zz_wc U ad r.2 X)) zz_noth := by
  unfold fX7_breakage at hf
  refine zz_method RX7 rfl (by decide +kernel) (Nat.le_of_ble_eq_true rfl) ?_
  intro p l e s m args below meth c A _ C
  refine zz_lvs (lv1 := [(0, .ref (ad 0))]) rfl ?_
  refine zz_aload_n C 0 dX7_breakage_0 rfl rfl ?_
  obtain ⟨x1, h2, hf⟩ := zz_bind hf
  refine zz_callV1 (As := []) (rest := []) C 0 (mX7_putTogether σ x1 h2) dX7_breakage_1 rfl rfl rfl zw_90 zy_X7_putTogether rfl (by decide) (by decide) (Nat.le_of_ble_eq_true rfl) (Nat.le_of_ble_eq_true rfl) (Nat.le_of_ble_eq_true rfl) rfl ?_
  refine zz_aload_n C 0 dX7_breakage_4 rfl rfl ?_
  obtain ⟨x3, h4, hf⟩ := zz_bind hf
  refine zz_callV1 (As := []) (rest := []) C 0 (mX7_breakageInOrder x1 x3 h4) dX7_breakage_5 rfl rfl rfl zw_109 zy_X7_breakageInOrder rfl (by decide) (by decide) (Nat.le_of_ble_eq_true rfl) (Nat.le_of_ble_eq_true rfl) (Nat.le_of_ble_eq_true rfl) rfl ?_
  cases hf
  exact zz_iret C dX7_breakage_8 (And.intro rfl rfl) (Nat.le_of_ble_eq_true rfl) (Nat.le_of_ble_eq_true rfl)
theorem dX0_nextAfter_0 : decode cX0_nextAfter 0 = .ok (.iconst (-1), 1) := by decide +kernel
theorem dX0_nextAfter_1 : decode cX0_nextAfter 1 = .ok (.istore_n 2, 1) := by decide +kernel
theorem dX0_nextAfter_2 : decode cX0_nextAfter 2 = .ok (.ldc 57, 2) := by decide +kernel
theorem dX0_nextAfter_4 : decode cX0_nextAfter 4 = .ok (.istore_n 3, 1) := by decide +kernel
theorem dX0_nextAfter_5 : decode cX0_nextAfter 5 = .ok (.iconst 0, 1) := by decide +kernel
theorem dX0_nextAfter_6 : decode cX0_nextAfter 6 = .ok (.istore 4, 2) := by decide +kernel
theorem dX0_nextAfter_8 : decode cX0_nextAfter 8 = .ok (.iload 4, 2) := by decide +kernel
theorem dX0_nextAfter_10 : decode cX0_nextAfter 10 = .ok (.aload_n 0, 1) := by decide +kernel
theorem dX0_nextAfter_11 : decode cX0_nextAfter 11 = .ok (.getfield 30, 3) := by decide +kernel
theorem dX0_nextAfter_14 : decode cX0_nextAfter 14 = .ok (.if_icmp .ge 48, 3) := by decide +kernel
theorem dX0_nextAfter_17 : decode cX0_nextAfter 17 = .ok (.iload 4, 2) := by decide +kernel
theorem dX0_nextAfter_19 : decode cX0_nextAfter 19 = .ok (.iload_n 1, 1) := by decide +kernel
theorem dX0_nextAfter_20 : decode cX0_nextAfter 20 = .ok (.invokestatic 58, 3) := by decide +kernel
theorem dX0_nextAfter_23 : decode cX0_nextAfter 23 = .ok (.ifCond .ne 33, 3) := by decide +kernel
theorem dX0_nextAfter_26 : decode cX0_nextAfter 26 = .ok (.aload_n 0, 1) := by decide +kernel
theorem dX0_nextAfter_27 : decode cX0_nextAfter 27 = .ok (.getfield 15, 3) := by decide +kernel
theorem dX0_nextAfter_30 : decode cX0_nextAfter 30 = .ok (.iload_n 1, 1) := by decide +kernel
theorem dX0_nextAfter_31 : decode cX0_nextAfter 31 = .ok (.iconst 1, 1) := by decide +kernel
theorem dX0_nextAfter_32 : decode cX0_nextAfter 32 = .ok (.iload 4, 2) := by decide +kernel
theorem dX0_nextAfter_34 : decode cX0_nextAfter 34 = .ok (.ishl, 1) := by decide +kernel
theorem dX0_nextAfter_35 : decode cX0_nextAfter 35 = .ok (.ior, 1) := by decide +kernel
theorem dX0_nextAfter_36 : decode cX0_nextAfter 36 = .ok (.iaload, 1) := by decide +kernel
theorem dX0_nextAfter_37 : decode cX0_nextAfter 37 = .ok (.iload_n 3, 1) := by decide +kernel
theorem dX0_nextAfter_38 : decode cX0_nextAfter 38 = .ok (.if_icmp .ge 18, 3) := by decide +kernel
theorem dX0_nextAfter_41 : decode cX0_nextAfter 41 = .ok (.aload_n 0, 1) := by decide +kernel
theorem dX0_nextAfter_42 : decode cX0_nextAfter 42 = .ok (.getfield 15, 3) := by decide +kernel
theorem dX0_nextAfter_45 : decode cX0_nextAfter 45 = .ok (.iload_n 1, 1) := by decide +kernel
theorem dX0_nextAfter_46 : decode cX0_nextAfter 46 = .ok (.iconst 1, 1) := by decide +kernel
theorem dX0_nextAfter_47 : decode cX0_nextAfter 47 = .ok (.iload 4, 2) := by decide +kernel
theorem dX0_nextAfter_49 : decode cX0_nextAfter 49 = .ok (.ishl, 1) := by decide +kernel
theorem dX0_nextAfter_50 : decode cX0_nextAfter 50 = .ok (.ior, 1) := by decide +kernel
theorem dX0_nextAfter_51 : decode cX0_nextAfter 51 = .ok (.iaload, 1) := by decide +kernel
theorem dX0_nextAfter_52 : decode cX0_nextAfter 52 = .ok (.istore_n 3, 1) := by decide +kernel
theorem dX0_nextAfter_53 : decode cX0_nextAfter 53 = .ok (.iload 4, 2) := by decide +kernel
theorem dX0_nextAfter_55 : decode cX0_nextAfter 55 = .ok (.istore_n 2, 1) := by decide +kernel
theorem dX0_nextAfter_56 : decode cX0_nextAfter 56 = .ok (.iinc 4 1, 3) := by decide +kernel
theorem dX0_nextAfter_59 : decode cX0_nextAfter 59 = .ok (.goto (-51), 3) := by decide +kernel
theorem dX0_nextAfter_62 : decode cX0_nextAfter 62 = .ok (.iload_n 2, 1) := by decide +kernel
theorem dX0_nextAfter_63 : decode cX0_nextAfter 63 = .ok (.ireturn, 1) := by decide +kernel
set_option maxHeartbeats 4000000 in
set_option maxRecDepth 100000 in
theorem mX0_nextAfter_L1 {p : Program} {l : Launch} {e : Env} {R : Room} {s : State} {m : MethodId} {args : Array Value} {below : List Frame} {meth : Method} {c : Code} {Q : State → Prop} {D : va_G} {U : zz_U} {A : Nat → Prop} {cells slots : Nat} {ad : Nat → Nat} {X : va_W} (C : zz_C p l R s m meth c D U A RX0 cX0_nextAfter 5 (some .int) [] 1) (hcR : cells ≤ R.cells) (hsR : slots ≤ R.slots) (σ : zz_St) (chosen_ : Int32) : ∀ (n : Nat) (found_ : Int32) (leastThen_ : Int32) (parcel_ : Int32) (q : (Int32 × Int32 × Int32)), fX0_nextAfter_L1 σ chosen_ n found_ leastThen_ parcel_ = some q → (zz_Z p l e R s m args below meth c Q D A 5 cells slots (zz_wc U ad σ X) 62 [(0, .ref (ad 44)), (1, .int chosen_), (2, .int q.1), (3, .int q.2.1), (4, .int q.2.2)] []) → zz_Z p l e R s m args below meth c Q D A 5 cells slots (zz_wc U ad σ X) 8 [(0, .ref (ad 44)), (1, .int chosen_), (2, .int found_), (3, .int leastThen_), (4, .int parcel_)] [] := by
  intro n
  induction n with
  | zero => intro found_ leastThen_ parcel_ q hf; rw [fX0_nextAfter_L1] at hf; cases hf
  | succ n ih =>
    intro found_ leastThen_ parcel_ q hf kx
    rw [fX0_nextAfter_L1] at hf
    refine zz_iload C 4 dX0_nextAfter_8 rfl ?_
    refine zz_aload_n C 0 dX0_nextAfter_10 rfl rfl ?_
    refine zf0_length C dX0_nextAfter_11 zw_113 ?_
    refine zz_icmp_ge (tgt := 62) C dX0_nextAfter_14 (by decide) (fun g1 => ?_) (fun g1 => ?_)
    · rw [if_pos g1] at hf
      cases hf
      exact kx
    · rw [if_neg g1] at hf
      obtain ⟨x2, h3, hf⟩ := zz_bind hf
      refine zz_cut 56 [(0, .ref (ad 44)), (1, .int chosen_), (2, .int x2.1), (3, .int x2.2), (4, .int parcel_)] [] (zz_wc U ad σ X) ?_ (fun J4 => ?_)
      · refine zz_iinc (v := (parcel_ + (1 : Int32))) C 4 dX0_nextAfter_56 rfl (by rfl) (by decide) (lv' := [(4, .int (parcel_ + (1 : Int32))), (0, .ref (ad 44)), (1, .int chosen_), (2, .int x2.1), (3, .int x2.2)]) rfl ?_
        refine zz_goto (tgt := 8) C dX0_nextAfter_59 (by decide) ?_
        refine zz_sub [1, 2, 3, 4, 0] rfl ?_
        exact ih x2.1 x2.2 (parcel_ + (1 : Int32)) _ hf kx
      obtain ⟨b5, h6, h3⟩ := zz_bind h3
      refine zz_cutI (P := b5 = true) 41 [(0, .ref (ad 44)), (1, .int chosen_), (2, .int found_), (3, .int leastThen_), (4, .int parcel_)] [] (zz_wc U ad σ X) (fun g9 => ?_) (fun J7 => ?_)
      · rw [if_pos g9] at h3
        refine zz_aload_n C 0 dX0_nextAfter_41 rfl rfl ?_
        refine zf0_fromThen C dX0_nextAfter_42 zw_112 ?_
        refine zz_iload_n C 1 dX0_nextAfter_45 rfl rfl ?_
        refine zz_iconst (v := (1 : Int32)) C dX0_nextAfter_46 (by decide) ?_
        refine zz_iload C 4 dX0_nextAfter_47 rfl ?_
        refine zz_ishl C dX0_nextAfter_49 ?_
        refine zz_ior C dX0_nextAfter_50 ?_
        obtain ⟨x16, h17, h3⟩ := zz_bind h3
        refine zl_46 C dX0_nextAfter_51 h17 ?_
        refine zz_istore_n C dX0_nextAfter_52 rfl (by decide) (lv' := [(3, .int x16), (0, .ref (ad 44)), (1, .int chosen_), (2, .int found_), (4, .int parcel_)]) rfl ?_
        refine zz_iload C 4 dX0_nextAfter_53 rfl ?_
        refine zz_istore_n C dX0_nextAfter_55 rfl (by decide) (lv' := [(2, .int parcel_), (3, .int x16), (0, .ref (ad 44)), (1, .int chosen_), (4, .int parcel_)]) rfl ?_
        refine zz_sub [2, 3, 0, 1, 4] rfl ?_
        cases h3
        exact J4
      refine zz_cutI (P := b5 = false) 56 [(0, .ref (ad 44)), (1, .int chosen_), (2, .int found_), (3, .int leastThen_), (4, .int parcel_)] [] (zz_wc U ad σ X) (fun g9 => ?_) (fun J8 => ?_)
      · rw [if_neg (show ¬ b5 = true by rw [g9]; decide)] at h3
        cases h3
        exact J4
      refine zz_iload C 4 dX0_nextAfter_17 rfl ?_
      refine zz_iload_n C 1 dX0_nextAfter_19 rfl rfl ?_
      obtain ⟨x10, h11, h6⟩ := zz_bind h6
      refine zz_callSN1 (host := "ChangeUntangler") (As := [.int parcel_, .int chosen_]) (rest := []) C (mX7_isIn σ parcel_ chosen_ x10 h11) dX0_nextAfter_20 rfl (by decide +kernel) zy_X7_isIn rfl (by decide) (by decide) (Nat.le_of_ble_eq_true rfl) hcR hsR rfl ?_
      refine zz_if_ne (tgt := 56) C dX0_nextAfter_23 (by decide) (fun g12 => ?_) (fun g12 => ?_)
      · rw [if_neg g12] at h6
        cases h6
        exact J8 rfl
      · rw [if_pos g12] at h6
        refine zz_aload_n C 0 dX0_nextAfter_26 rfl rfl ?_
        refine zf0_fromThen C dX0_nextAfter_27 zw_112 ?_
        refine zz_iload_n C 1 dX0_nextAfter_30 rfl rfl ?_
        refine zz_iconst (v := (1 : Int32)) C dX0_nextAfter_31 (by decide) ?_
        refine zz_iload C 4 dX0_nextAfter_32 rfl ?_
        refine zz_ishl C dX0_nextAfter_34 ?_
        refine zz_ior C dX0_nextAfter_35 ?_
        obtain ⟨x13, h14, h6⟩ := zz_bind h6
        refine zl_46 C dX0_nextAfter_36 h14 ?_
        refine zz_iload_n C 3 dX0_nextAfter_37 rfl rfl ?_
        refine zz_icmp_ge (tgt := 56) C dX0_nextAfter_38 (by decide) (fun g15 => ?_) (fun g15 => ?_)
        · rw [if_pos g15] at h6
          cases h6
          exact J8 rfl
        · rw [if_neg g15] at h6
          cases h6
          exact J7 rfl
set_option maxHeartbeats 4000000 in
set_option maxRecDepth 100000 in
theorem mX0_nextAfter {D : va_G} {U : zz_U} {ad : Nat → Nat} {X : va_W} (σ : zz_St) (chosen_ : Int32) (r : Int32) (hf : fX0_nextAfter σ chosen_ = some r) : zz_Met yX0_nextAfter (.code yX0_nextAfter cX0_nextAfter 5 (some .int)) 1 0 0 D U [.ref (ad 44), .int chosen_] (zz_wc U ad σ X) (zz_ok (some (.int r)) (zz_wc U ad σ X)) zz_noth := by
  unfold fX0_nextAfter at hf
  refine zz_method RX0 rfl (by decide +kernel) (Nat.le_of_ble_eq_true rfl) ?_
  intro p l e s m args below meth c A _ C
  refine zz_lvs (lv1 := [(0, .ref (ad 44)), (1, .int chosen_)]) rfl ?_
  refine zz_iconst (v := (-1 : Int32)) C dX0_nextAfter_0 (by decide) ?_
  refine zz_istore_n C dX0_nextAfter_1 rfl (by decide) (lv' := [(2, .int (-1 : Int32)), (0, .ref (ad 44)), (1, .int chosen_)]) rfl ?_
  refine zz_ldc (v := (1000000 : Int32)) C dX0_nextAfter_2 zw_111 ?_
  refine zz_istore_n C dX0_nextAfter_4 rfl (by decide) (lv' := [(3, .int (1000000 : Int32)), (2, .int (-1 : Int32)), (0, .ref (ad 44)), (1, .int chosen_)]) rfl ?_
  refine zz_iconst (v := (0 : Int32)) C dX0_nextAfter_5 (by decide) ?_
  refine zz_istore C dX0_nextAfter_6 (by decide) (lv' := [(4, .int (0 : Int32)), (3, .int (1000000 : Int32)), (2, .int (-1 : Int32)), (0, .ref (ad 44)), (1, .int chosen_)]) rfl ?_
  obtain ⟨q18, h19, hf⟩ := zz_bind hf
  refine zz_sub [3, 4, 2, 1, 0] rfl ?_
  refine mX0_nextAfter_L1 C (Nat.le_of_ble_eq_true rfl) (Nat.le_of_ble_eq_true rfl) σ chosen_ 1000 (-1 : Int32) (1000000 : Int32) (0 : Int32) q18 h19 ?_
  refine zz_iload_n C 2 dX0_nextAfter_62 rfl rfl ?_
  cases hf
  exact zz_iret C dX0_nextAfter_63 (And.intro rfl rfl) (Nat.le_of_ble_eq_true rfl) (Nat.le_of_ble_eq_true rfl)
theorem dX4_piecesIn_0 : decode cX4_piecesIn 0 = .ok (.iconst 0, 1) := by decide +kernel
theorem dX4_piecesIn_1 : decode cX4_piecesIn 1 = .ok (.istore_n 2, 1) := by decide +kernel
theorem dX4_piecesIn_2 : decode cX4_piecesIn 2 = .ok (.iconst 0, 1) := by decide +kernel
theorem dX4_piecesIn_3 : decode cX4_piecesIn 3 = .ok (.istore_n 3, 1) := by decide +kernel
theorem dX4_piecesIn_4 : decode cX4_piecesIn 4 = .ok (.iload_n 3, 1) := by decide +kernel
theorem dX4_piecesIn_5 : decode cX4_piecesIn 5 = .ok (.aload_n 0, 1) := by decide +kernel
theorem dX4_piecesIn_6 : decode cX4_piecesIn 6 = .ok (.getfield 32, 3) := by decide +kernel
theorem dX4_piecesIn_9 : decode cX4_piecesIn 9 = .ok (.if_icmp .ge 30, 3) := by decide +kernel
theorem dX4_piecesIn_12 : decode cX4_piecesIn 12 = .ok (.iload_n 2, 1) := by decide +kernel
theorem dX4_piecesIn_13 : decode cX4_piecesIn 13 = .ok (.iload_n 3, 1) := by decide +kernel
theorem dX4_piecesIn_14 : decode cX4_piecesIn 14 = .ok (.iload_n 1, 1) := by decide +kernel
theorem dX4_piecesIn_15 : decode cX4_piecesIn 15 = .ok (.invokestatic 55, 3) := by decide +kernel
theorem dX4_piecesIn_18 : decode cX4_piecesIn 18 = .ok (.ifCond .eq 12, 3) := by decide +kernel
theorem dX4_piecesIn_21 : decode cX4_piecesIn 21 = .ok (.aload_n 0, 1) := by decide +kernel
theorem dX4_piecesIn_22 : decode cX4_piecesIn 22 = .ok (.getfield 9, 3) := by decide +kernel
theorem dX4_piecesIn_25 : decode cX4_piecesIn 25 = .ok (.iload_n 3, 1) := by decide +kernel
theorem dX4_piecesIn_26 : decode cX4_piecesIn 26 = .ok (.iaload, 1) := by decide +kernel
theorem dX4_piecesIn_27 : decode cX4_piecesIn 27 = .ok (.goto 4, 3) := by decide +kernel
theorem dX4_piecesIn_30 : decode cX4_piecesIn 30 = .ok (.iconst 0, 1) := by decide +kernel
theorem dX4_piecesIn_31 : decode cX4_piecesIn 31 = .ok (.ior, 1) := by decide +kernel
theorem dX4_piecesIn_32 : decode cX4_piecesIn 32 = .ok (.istore_n 2, 1) := by decide +kernel
theorem dX4_piecesIn_33 : decode cX4_piecesIn 33 = .ok (.iinc 3 1, 3) := by decide +kernel
theorem dX4_piecesIn_36 : decode cX4_piecesIn 36 = .ok (.goto (-32), 3) := by decide +kernel
theorem dX4_piecesIn_39 : decode cX4_piecesIn 39 = .ok (.iload_n 2, 1) := by decide +kernel
theorem dX4_piecesIn_40 : decode cX4_piecesIn 40 = .ok (.ireturn, 1) := by decide +kernel
set_option maxHeartbeats 4000000 in
set_option maxRecDepth 100000 in
theorem mX4_piecesIn_L1 {p : Program} {l : Launch} {e : Env} {R : Room} {s : State} {m : MethodId} {args : Array Value} {below : List Frame} {meth : Method} {c : Code} {Q : State → Prop} {D : va_G} {U : zz_U} {A : Nat → Prop} {cells slots : Nat} {ad : Nat → Nat} {X : va_W} (C : zz_C p l R s m meth c D U A RX4 cX4_piecesIn 4 (some .int) [] 1) (hcR : cells ≤ R.cells) (hsR : slots ≤ R.slots) (σ : zz_St) (chosen_ : Int32) : ∀ (n : Nat) (set_ : Int32) (parcel_ : Int32) (q : (Int32 × Int32)), fX4_piecesIn_L1 σ chosen_ n set_ parcel_ = some q → (zz_Z p l e R s m args below meth c Q D A 4 cells slots (zz_wc U ad σ X) 39 [(0, .ref (ad 41)), (1, .int chosen_), (2, .int q.1), (3, .int q.2)] []) → zz_Z p l e R s m args below meth c Q D A 4 cells slots (zz_wc U ad σ X) 4 [(0, .ref (ad 41)), (1, .int chosen_), (2, .int set_), (3, .int parcel_)] [] := by
  intro n
  induction n with
  | zero => intro set_ parcel_ q hf; rw [fX4_piecesIn_L1] at hf; cases hf
  | succ n ih =>
    intro set_ parcel_ q hf kx
    rw [fX4_piecesIn_L1] at hf
    refine zz_iload_n C 3 dX4_piecesIn_4 rfl rfl ?_
    refine zz_aload_n C 0 dX4_piecesIn_5 rfl rfl ?_
    refine zf4_count C dX4_piecesIn_6 zw_76 ?_
    refine zz_icmp_ge (tgt := 39) C dX4_piecesIn_9 (by decide) (fun g1 => ?_) (fun g1 => ?_)
    · rw [if_pos g1] at hf
      cases hf
      exact kx
    · rw [if_neg g1] at hf
      refine zz_iload_n C 2 dX4_piecesIn_12 rfl rfl ?_
      obtain ⟨x2, h3, hf⟩ := zz_bind hf
      refine zz_cut 31 [(0, .ref (ad 41)), (1, .int chosen_), (2, .int set_), (3, .int parcel_)] [.int x2, .int set_] (zz_wc U ad σ X) ?_ (fun J4 => ?_)
      · refine zz_ior C dX4_piecesIn_31 ?_
        obtain ⟨x10, h11, hf⟩ := zz_bind hf
        refine zz_topi (Option.some.inj h11) ?_
        refine zz_istore_n C dX4_piecesIn_32 rfl (by decide) (lv' := [(2, .int x10), (0, .ref (ad 41)), (1, .int chosen_), (3, .int parcel_)]) rfl ?_
        refine zz_iinc (v := (parcel_ + (1 : Int32))) C 3 dX4_piecesIn_33 rfl (by rfl) (by decide) (lv' := [(3, .int (parcel_ + (1 : Int32))), (2, .int x10), (0, .ref (ad 41)), (1, .int chosen_)]) rfl ?_
        refine zz_goto (tgt := 4) C dX4_piecesIn_36 (by decide) ?_
        refine zz_sub [2, 3, 1, 0] rfl ?_
        exact ih x10 (parcel_ + (1 : Int32)) _ hf kx
      refine zz_iload_n C 3 dX4_piecesIn_13 rfl rfl ?_
      refine zz_iload_n C 1 dX4_piecesIn_14 rfl rfl ?_
      obtain ⟨x5, h6, h3⟩ := zz_bind h3
      refine zz_callSN1 (host := "ChangeUntangler") (As := [.int parcel_, .int chosen_]) (rest := [.int set_]) C (mX7_isIn σ parcel_ chosen_ x5 h6) dX4_piecesIn_15 rfl (by decide +kernel) zy_X7_isIn rfl (by decide) (by decide) (Nat.le_of_ble_eq_true rfl) hcR hsR rfl ?_
      refine zz_if_eq (tgt := 30) C dX4_piecesIn_18 (by decide) (fun g7 => ?_) (fun g7 => ?_)
      · rw [if_pos g7] at h3
        refine zz_iconst (v := (0 : Int32)) C dX4_piecesIn_30 (by decide) ?_
        cases h3
        exact J4
      · rw [if_neg g7] at h3
        refine zz_aload_n C 0 dX4_piecesIn_21 rfl rfl ?_
        refine zf4_sets C dX4_piecesIn_22 zw_77 ?_
        refine zz_iload_n C 3 dX4_piecesIn_25 rfl rfl ?_
        obtain ⟨x8, h9, h3⟩ := zz_bind h3
        refine zl_42 C dX4_piecesIn_26 h9 ?_
        refine zz_goto (tgt := 31) C dX4_piecesIn_27 (by decide) ?_
        cases h3
        exact J4
set_option maxHeartbeats 4000000 in
set_option maxRecDepth 100000 in
theorem mX4_piecesIn {D : va_G} {U : zz_U} {ad : Nat → Nat} {X : va_W} (σ : zz_St) (chosen_ : Int32) (r : Int32) (hf : fX4_piecesIn σ chosen_ = some r) : zz_Met yX4_piecesIn (.code yX4_piecesIn cX4_piecesIn 4 (some .int)) 1 0 0 D U [.ref (ad 41), .int chosen_] (zz_wc U ad σ X) (zz_ok (some (.int r)) (zz_wc U ad σ X)) zz_noth := by
  unfold fX4_piecesIn at hf
  refine zz_method RX4 rfl (by decide +kernel) (Nat.le_of_ble_eq_true rfl) ?_
  intro p l e s m args below meth c A _ C
  refine zz_lvs (lv1 := [(0, .ref (ad 41)), (1, .int chosen_)]) rfl ?_
  refine zz_iconst (v := (0 : Int32)) C dX4_piecesIn_0 (by decide) ?_
  refine zz_istore_n C dX4_piecesIn_1 rfl (by decide) (lv' := [(2, .int (0 : Int32)), (0, .ref (ad 41)), (1, .int chosen_)]) rfl ?_
  refine zz_iconst (v := (0 : Int32)) C dX4_piecesIn_2 (by decide) ?_
  refine zz_istore_n C dX4_piecesIn_3 rfl (by decide) (lv' := [(3, .int (0 : Int32)), (2, .int (0 : Int32)), (0, .ref (ad 41)), (1, .int chosen_)]) rfl ?_
  obtain ⟨q12, h13, hf⟩ := zz_bind hf
  refine zz_sub [2, 3, 1, 0] rfl ?_
  refine mX4_piecesIn_L1 C (Nat.le_of_ble_eq_true rfl) (Nat.le_of_ble_eq_true rfl) σ chosen_ 1000 (0 : Int32) (0 : Int32) q12 h13 ?_
  refine zz_iload_n C 2 dX4_piecesIn_39 rfl rfl ?_
  cases hf
  exact zz_iret C dX4_piecesIn_40 (And.intro rfl rfl) (Nat.le_of_ble_eq_true rfl) (Nat.le_of_ble_eq_true rfl)
theorem dX0_walk_0 : decode cX0_walk 0 = .ok (.iconst 0, 1) := by decide +kernel
theorem dX0_walk_1 : decode cX0_walk 1 = .ok (.istore_n 1, 1) := by decide +kernel
theorem dX0_walk_2 : decode cX0_walk 2 = .ok (.iconst 0, 1) := by decide +kernel
theorem dX0_walk_3 : decode cX0_walk 3 = .ok (.istore_n 2, 1) := by decide +kernel
theorem dX0_walk_4 : decode cX0_walk 4 = .ok (.iload_n 2, 1) := by decide +kernel
theorem dX0_walk_5 : decode cX0_walk 5 = .ok (.aload_n 0, 1) := by decide +kernel
theorem dX0_walk_6 : decode cX0_walk 6 = .ok (.getfield 30, 3) := by decide +kernel
theorem dX0_walk_9 : decode cX0_walk 9 = .ok (.if_icmp .ge 32, 3) := by decide +kernel
theorem dX0_walk_12 : decode cX0_walk 12 = .ok (.aload_n 0, 1) := by decide +kernel
theorem dX0_walk_13 : decode cX0_walk 13 = .ok (.iload_n 1, 1) := by decide +kernel
theorem dX0_walk_14 : decode cX0_walk 14 = .ok (.invokevirtual 33, 3) := by decide +kernel
theorem dX0_walk_17 : decode cX0_walk 17 = .ok (.istore_n 3, 1) := by decide +kernel
theorem dX0_walk_18 : decode cX0_walk 18 = .ok (.iload_n 3, 1) := by decide +kernel
theorem dX0_walk_19 : decode cX0_walk 19 = .ok (.ifCond .lt 16, 3) := by decide +kernel
theorem dX0_walk_22 : decode cX0_walk 22 = .ok (.aload_n 0, 1) := by decide +kernel
theorem dX0_walk_23 : decode cX0_walk 23 = .ok (.getfield 9, 3) := by decide +kernel
theorem dX0_walk_26 : decode cX0_walk 26 = .ok (.iload_n 2, 1) := by decide +kernel
theorem dX0_walk_27 : decode cX0_walk 27 = .ok (.iload_n 3, 1) := by decide +kernel
theorem dX0_walk_28 : decode cX0_walk 28 = .ok (.iastore, 1) := by decide +kernel
theorem dX0_walk_29 : decode cX0_walk 29 = .ok (.iload_n 1, 1) := by decide +kernel
theorem dX0_walk_30 : decode cX0_walk 30 = .ok (.iconst 1, 1) := by decide +kernel
theorem dX0_walk_31 : decode cX0_walk 31 = .ok (.iload_n 3, 1) := by decide +kernel
theorem dX0_walk_32 : decode cX0_walk 32 = .ok (.ishl, 1) := by decide +kernel
theorem dX0_walk_33 : decode cX0_walk 33 = .ok (.ior, 1) := by decide +kernel
theorem dX0_walk_34 : decode cX0_walk 34 = .ok (.istore_n 1, 1) := by decide +kernel
theorem dX0_walk_35 : decode cX0_walk 35 = .ok (.iinc 2 1, 3) := by decide +kernel
theorem dX0_walk_38 : decode cX0_walk 38 = .ok (.goto (-34), 3) := by decide +kernel
theorem dX0_walk_41 : decode cX0_walk 41 = .ok (.return_, 1) := by decide +kernel
set_option maxHeartbeats 4000000 in
set_option maxRecDepth 100000 in
theorem mX0_walk_L1 {p : Program} {l : Launch} {e : Env} {R : Room} {s : State} {m : MethodId} {args : Array Value} {below : List Frame} {meth : Method} {c : Code} {Q : State → Prop} {D : va_G} {U : zz_U} {A : Nat → Prop} {cells slots : Nat} {ad : Nat → Nat} {X : va_W} (C : zz_C p l R s m meth c D U A RX0 cX0_walk 4 none [] 2) (hcR : cells ≤ R.cells) (hsR : slots ≤ R.slots) : ∀ (n : Nat) (chosen_ : Int32) (place_ : Int32) (σ : zz_St) (q : (Int32 × Int32 × zz_St)), fX0_walk_L1 n chosen_ place_ σ = some q → (zz_Z p l e R s m args below meth c Q D A 4 cells slots (zz_wc U ad q.2.2 X) 41 [(0, .ref (ad 44)), (1, .int q.1), (2, .int q.2.1)] []) → zz_Z p l e R s m args below meth c Q D A 4 cells slots (zz_wc U ad σ X) 4 [(0, .ref (ad 44)), (1, .int chosen_), (2, .int place_)] [] := by
  intro n
  induction n with
  | zero => intro chosen_ place_ σ q hf; rw [fX0_walk_L1] at hf; cases hf
  | succ n ih =>
    intro chosen_ place_ σ q hf kx
    rw [fX0_walk_L1] at hf
    refine zz_iload_n C 2 dX0_walk_4 rfl rfl ?_
    refine zz_aload_n C 0 dX0_walk_5 rfl rfl ?_
    refine zf0_length C dX0_walk_6 zw_113 ?_
    refine zz_icmp_ge (tgt := 41) C dX0_walk_9 (by decide) (fun g1 => ?_) (fun g1 => ?_)
    · rw [if_pos g1] at hf
      cases hf
      exact kx
    · rw [if_neg g1] at hf
      refine zz_aload_n C 0 dX0_walk_12 rfl rfl ?_
      refine zz_iload_n C 1 dX0_walk_13 rfl rfl ?_
      obtain ⟨x2, h3, hf⟩ := zz_bind hf
      refine zz_callV1 (As := [.int chosen_]) (rest := []) C 44 (mX0_nextAfter σ chosen_ x2 h3) dX0_walk_14 rfl rfl rfl zw_117 zy_X0_nextAfter rfl (by decide) (by decide) (Nat.le_of_ble_eq_true rfl) hcR hsR rfl ?_
      refine zz_istore_n C dX0_walk_17 rfl (by decide) (lv' := [(3, .int x2), (0, .ref (ad 44)), (1, .int chosen_), (2, .int place_)]) rfl ?_
      obtain ⟨x4, h5, hf⟩ := zz_bind hf
      refine zz_cut 35 [(0, .ref (ad 44)), (1, .int x4.1), (2, .int place_), (3, .int x2)] [] (zz_wc U ad x4.2 X) ?_ (fun J6 => ?_)
      · refine zz_iinc (v := (place_ + (1 : Int32))) C 2 dX0_walk_35 rfl (by rfl) (by decide) (lv' := [(2, .int (place_ + (1 : Int32))), (0, .ref (ad 44)), (1, .int x4.1), (3, .int x2)]) rfl ?_
        refine zz_goto (tgt := 4) C dX0_walk_38 (by decide) ?_
        refine zz_sub [1, 2, 0] rfl ?_
        exact ih x4.1 (place_ + (1 : Int32)) x4.2 _ hf kx
      refine zz_iload_n C 0 dX0_walk_18 rfl rfl ?_
      refine zz_if_lt (tgt := 35) C dX0_walk_19 (by decide) (fun g7 => ?_) (fun g7 => ?_)
      · rw [if_pos g7] at h5
        refine zz_sub [1, 2, 3, 0] rfl ?_
        cases h5
        exact J6
      · rw [if_neg g7] at h5
        refine zz_aload_n C 1 dX0_walk_22 rfl rfl ?_
        refine zf0_order C dX0_walk_23 zw_118 ?_
        refine zz_iload_n C 3 dX0_walk_26 rfl rfl ?_
        refine zz_iload_n C 0 dX0_walk_27 rfl rfl ?_
        obtain ⟨σ8, h9, h5⟩ := zz_bind h5
        refine zs_45 C dX0_walk_28 h9 ?_
        refine zz_iload_n C 2 dX0_walk_29 rfl rfl ?_
        refine zz_iconst (v := (1 : Int32)) C dX0_walk_30 (by decide) ?_
        refine zz_iload_n C 0 dX0_walk_31 rfl rfl ?_
        refine zz_ishl C dX0_walk_32 ?_
        refine zz_ior C dX0_walk_33 ?_
        obtain ⟨x10, h11, h5⟩ := zz_bind h5
        refine zz_topi (Option.some.inj h11) ?_
        refine zz_istore_n C dX0_walk_34 rfl (by decide) (lv' := [(1, .int x10), (3, .int x2), (0, .ref (ad 44)), (2, .int place_)]) rfl ?_
        refine zz_sub [2, 0, 3, 1] rfl ?_
        cases h5
        exact J6
set_option maxHeartbeats 4000000 in
set_option maxRecDepth 100000 in
theorem mX0_walk {D : va_G} {U : zz_U} {ad : Nat → Nat} {X : va_W} (σ : zz_St) (r : zz_St) (hf : fX0_walk σ = some r) : zz_Met yX0_walk (.code yX0_walk cX0_walk 4 none) 2 0 0 D U [.ref (ad 44)] (zz_wc U ad σ X) (zz_ok none (zz_wc U ad r X)) zz_noth := by
  unfold fX0_walk at hf
  refine zz_method RX0 rfl (by decide +kernel) (Nat.le_of_ble_eq_true rfl) ?_
  intro p l e s m args below meth c A _ C
  refine zz_lvs (lv1 := [(0, .ref (ad 44))]) rfl ?_
  refine zz_iconst (v := (0 : Int32)) C dX0_walk_0 (by decide) ?_
  refine zz_istore_n C dX0_walk_1 rfl (by decide) (lv' := [(1, .int (0 : Int32)), (0, .ref (ad 44))]) rfl ?_
  refine zz_iconst (v := (0 : Int32)) C dX0_walk_2 (by decide) ?_
  refine zz_istore_n C dX0_walk_3 rfl (by decide) (lv' := [(2, .int (0 : Int32)), (1, .int (0 : Int32)), (0, .ref (ad 44))]) rfl ?_
  obtain ⟨q12, h13, hf⟩ := zz_bind hf
  refine zz_sub [2, 1, 0] rfl ?_
  refine mX0_walk_L1 C (Nat.le_of_ble_eq_true rfl) (Nat.le_of_ble_eq_true rfl) 1000 (0 : Int32) (0 : Int32) σ q12 h13 ?_
  cases hf
  exact zz_vret C dX0_walk_41 (And.intro rfl rfl) (Nat.le_of_ble_eq_true rfl) (Nat.le_of_ble_eq_true rfl)
theorem dX0_find_0 : decode cX0_find 0 = .ok (.aload_n 0, 1) := by decide +kernel
theorem dX0_find_1 : decode cX0_find 1 = .ok (.aload_n 1, 1) := by decide +kernel
theorem dX0_find_2 : decode cX0_find 2 = .ok (.getfield 18, 3) := by decide +kernel
theorem dX0_find_5 : decode cX0_find 5 = .ok (.bipush 9, 2) := by decide +kernel
theorem dX0_find_7 : decode cX0_find 7 = .ok (.invokestatic 24, 3) := by decide +kernel
theorem dX0_find_10 : decode cX0_find 10 = .ok (.putfield 30, 3) := by decide +kernel
theorem dX0_find_13 : decode cX0_find 13 = .ok (.iconst 1, 1) := by decide +kernel
theorem dX0_find_14 : decode cX0_find 14 = .ok (.aload_n 0, 1) := by decide +kernel
theorem dX0_find_15 : decode cX0_find 15 = .ok (.getfield 30, 3) := by decide +kernel
theorem dX0_find_18 : decode cX0_find 18 = .ok (.ishl, 1) := by decide +kernel
theorem dX0_find_19 : decode cX0_find 19 = .ok (.iconst 1, 1) := by decide +kernel
theorem dX0_find_20 : decode cX0_find 20 = .ok (.isub, 1) := by decide +kernel
theorem dX0_find_21 : decode cX0_find 21 = .ok (.istore 4, 2) := by decide +kernel
theorem dX0_find_23 : decode cX0_find 23 = .ok (.iload 4, 2) := by decide +kernel
theorem dX0_find_25 : decode cX0_find 25 = .ok (.ifCond .lt 77, 3) := by decide +kernel
theorem dX0_find_28 : decode cX0_find 28 = .ok (.aload_n 0, 1) := by decide +kernel
theorem dX0_find_29 : decode cX0_find 29 = .ok (.iload 4, 2) := by decide +kernel
theorem dX0_find_31 : decode cX0_find 31 = .ok (.invokevirtual 33, 3) := by decide +kernel
theorem dX0_find_34 : decode cX0_find 34 = .ok (.istore 5, 2) := by decide +kernel
theorem dX0_find_36 : decode cX0_find 36 = .ok (.iload 5, 2) := by decide +kernel
theorem dX0_find_38 : decode cX0_find 38 = .ok (.ifCond .ge 7, 3) := by decide +kernel
theorem dX0_find_41 : decode cX0_find 41 = .ok (.iconst 0, 1) := by decide +kernel
theorem dX0_find_42 : decode cX0_find 42 = .ok (.goto 15, 3) := by decide +kernel
theorem dX0_find_45 : decode cX0_find 45 = .ok (.aload_n 0, 1) := by decide +kernel
theorem dX0_find_46 : decode cX0_find 46 = .ok (.getfield 15, 3) := by decide +kernel
theorem dX0_find_49 : decode cX0_find 49 = .ok (.iload 4, 2) := by decide +kernel
theorem dX0_find_51 : decode cX0_find 51 = .ok (.iconst 1, 1) := by decide +kernel
theorem dX0_find_52 : decode cX0_find 52 = .ok (.iload 5, 2) := by decide +kernel
theorem dX0_find_54 : decode cX0_find 54 = .ok (.ishl, 1) := by decide +kernel
theorem dX0_find_55 : decode cX0_find 55 = .ok (.ior, 1) := by decide +kernel
theorem dX0_find_56 : decode cX0_find 56 = .ok (.iaload, 1) := by decide +kernel
theorem dX0_find_57 : decode cX0_find 57 = .ok (.istore 6, 2) := by decide +kernel
theorem dX0_find_59 : decode cX0_find 59 = .ok (.iload 4, 2) := by decide +kernel
theorem dX0_find_61 : decode cX0_find 61 = .ok (.ifCond .ne 7, 3) := by decide +kernel
theorem dX0_find_64 : decode cX0_find 64 = .ok (.iconst 0, 1) := by decide +kernel
theorem dX0_find_65 : decode cX0_find 65 = .ok (.goto 17, 3) := by decide +kernel
theorem dX0_find_68 : decode cX0_find 68 = .ok (.aload_n 3, 1) := by decide +kernel
theorem dX0_find_69 : decode cX0_find 69 = .ok (.aload_n 2, 1) := by decide +kernel
theorem dX0_find_70 : decode cX0_find 70 = .ok (.aload_n 1, 1) := by decide +kernel
theorem dX0_find_71 : decode cX0_find 71 = .ok (.iload 4, 2) := by decide +kernel
theorem dX0_find_73 : decode cX0_find 73 = .ok (.invokevirtual 37, 3) := by decide +kernel
theorem dX0_find_76 : decode cX0_find 76 = .ok (.invokevirtual 40, 3) := by decide +kernel
theorem dX0_find_79 : decode cX0_find 79 = .ok (.invokestatic 46, 3) := by decide +kernel
theorem dX0_find_82 : decode cX0_find 82 = .ok (.istore 7, 2) := by decide +kernel
theorem dX0_find_84 : decode cX0_find 84 = .ok (.aload_n 0, 1) := by decide +kernel
theorem dX0_find_85 : decode cX0_find 85 = .ok (.getfield 15, 3) := by decide +kernel
theorem dX0_find_88 : decode cX0_find 88 = .ok (.iload 4, 2) := by decide +kernel
theorem dX0_find_90 : decode cX0_find 90 = .ok (.iload 7, 2) := by decide +kernel
theorem dX0_find_92 : decode cX0_find 92 = .ok (.iload 6, 2) := by decide +kernel
theorem dX0_find_94 : decode cX0_find 94 = .ok (.iadd, 1) := by decide +kernel
theorem dX0_find_95 : decode cX0_find 95 = .ok (.iastore, 1) := by decide +kernel
theorem dX0_find_96 : decode cX0_find 96 = .ok (.iinc 4 (-1), 3) := by decide +kernel
theorem dX0_find_99 : decode cX0_find 99 = .ok (.goto (-76), 3) := by decide +kernel
theorem dX0_find_102 : decode cX0_find 102 = .ok (.aload_n 0, 1) := by decide +kernel
theorem dX0_find_103 : decode cX0_find 103 = .ok (.aload_n 0, 1) := by decide +kernel
theorem dX0_find_104 : decode cX0_find 104 = .ok (.getfield 15, 3) := by decide +kernel
theorem dX0_find_107 : decode cX0_find 107 = .ok (.iconst 0, 1) := by decide +kernel
theorem dX0_find_108 : decode cX0_find 108 = .ok (.iaload, 1) := by decide +kernel
theorem dX0_find_109 : decode cX0_find 109 = .ok (.putfield 51, 3) := by decide +kernel
theorem dX0_find_112 : decode cX0_find 112 = .ok (.aload_n 0, 1) := by decide +kernel
theorem dX0_find_113 : decode cX0_find 113 = .ok (.invokevirtual 54, 3) := by decide +kernel
theorem dX0_find_116 : decode cX0_find 116 = .ok (.return_, 1) := by decide +kernel
set_option maxHeartbeats 4000000 in
set_option maxRecDepth 100000 in
theorem mX0_find_L1 {p : Program} {l : Launch} {e : Env} {R : Room} {s : State} {m : MethodId} {args : Array Value} {below : List Frame} {meth : Method} {c : Code} {Q : State → Prop} {D : va_G} {U : zz_U} {A : Nat → Prop} {cells slots : Nat} {ad : Nat → Nat} {X : va_W} (C : zz_C p l R s m meth c D U A RX0 cX0_find 8 none [] 3) (hcR : cells ≤ R.cells) (hsR : slots ≤ R.slots) : ∀ (n : Nat) (chosen_ : Int32) (σ : zz_St) (q : (Int32 × zz_St)), fX0_find_L1 n chosen_ σ = some q → (zz_Z p l e R s m args below meth c Q D A 8 cells slots (zz_wc U ad q.2 X) 102 [(0, .ref (ad 44)), (1, .ref (ad 41)), (2, .ref (ad 1)), (3, .ref (ad 17)), (4, .int q.1)] []) → zz_Z p l e R s m args below meth c Q D A 8 cells slots (zz_wc U ad σ X) 23 [(0, .ref (ad 44)), (1, .ref (ad 41)), (2, .ref (ad 1)), (3, .ref (ad 17)), (4, .int chosen_)] [] := by
  intro n
  induction n with
  | zero => intro chosen_ σ q hf; rw [fX0_find_L1] at hf; cases hf
  | succ n ih =>
    intro chosen_ σ q hf kx
    rw [fX0_find_L1] at hf
    refine zz_iload C 4 dX0_find_23 rfl ?_
    refine zz_if_lt (tgt := 102) C dX0_find_25 (by decide) (fun g3 => ?_) (fun g3 => ?_)
    · rw [if_pos g3] at hf
      cases hf
      exact kx
    · rw [if_neg g3] at hf
      refine zz_aload_n C 0 dX0_find_28 rfl rfl ?_
      refine zz_iload C 4 dX0_find_29 rfl ?_
      obtain ⟨x4, h5, hf⟩ := zz_bind hf
      refine zz_callV1 (As := [.int chosen_]) (rest := []) C 44 (mX0_nextAfter σ chosen_ x4 h5) dX0_find_31 rfl rfl rfl zw_117 zy_X0_nextAfter rfl (by decide) (by decide) (Nat.le_of_ble_eq_true rfl) hcR hsR rfl ?_
      refine zz_istore C dX0_find_34 (by decide) (lv' := [(5, .int x4), (0, .ref (ad 44)), (1, .ref (ad 41)), (2, .ref (ad 1)), (3, .ref (ad 17)), (4, .int chosen_)]) rfl ?_
      obtain ⟨x6, h7, hf⟩ := zz_bind hf
      refine zz_cut 57 [(5, .int x4), (0, .ref (ad 44)), (1, .ref (ad 41)), (2, .ref (ad 1)), (3, .ref (ad 17)), (4, .int chosen_)] [.int x6] (zz_wc U ad σ X) ?_ (fun J8 => ?_)
      · refine zz_istore C dX0_find_57 (by decide) (lv' := [(6, .int x6), (5, .int x4), (0, .ref (ad 44)), (1, .ref (ad 41)), (2, .ref (ad 1)), (3, .ref (ad 17)), (4, .int chosen_)]) rfl ?_
        obtain ⟨x12, h13, hf⟩ := zz_bind hf
        refine zz_cut 82 [(6, .int x6), (5, .int x4), (0, .ref (ad 44)), (1, .ref (ad 41)), (2, .ref (ad 1)), (3, .ref (ad 17)), (4, .int chosen_)] [.int x12] (zz_wc U ad σ X) ?_ (fun J14 => ?_)
        · refine zz_istore C dX0_find_82 (by decide) (lv' := [(7, .int x12), (6, .int x6), (5, .int x4), (0, .ref (ad 44)), (1, .ref (ad 41)), (2, .ref (ad 1)), (3, .ref (ad 17)), (4, .int chosen_)]) rfl ?_
          refine zz_aload_n C 3 dX0_find_84 rfl rfl ?_
          refine zf0_fromThen C dX0_find_85 zw_112 ?_
          refine zz_iload C 7 dX0_find_88 rfl ?_
          refine zz_iload C 0 dX0_find_90 rfl ?_
          refine zz_iload C 1 dX0_find_92 rfl ?_
          refine zz_iadd C dX0_find_94 ?_
          obtain ⟨σ22, h23, hf⟩ := zz_bind hf
          refine zs_46 C dX0_find_95 h23 ?_
          refine zz_iinc (v := (chosen_ + (-1 : Int32))) C 7 dX0_find_96 rfl (by rfl) (by decide) (lv' := [(4, .int (chosen_ + (-1 : Int32))), (7, .int x12), (6, .int x6), (5, .int x4), (0, .ref (ad 44)), (1, .ref (ad 41)), (2, .ref (ad 1)), (3, .ref (ad 17))]) rfl ?_
          refine zz_goto (tgt := 23) C dX0_find_99 (by decide) ?_
          refine zz_sub [4, 5, 6, 7, 0] rfl ?_
          exact ih (chosen_ + (-1 : Int32)) σ22 _ hf kx
        refine zz_iload C 6 dX0_find_59 rfl ?_
        refine zz_if_ne (tgt := 68) C dX0_find_61 (by decide) (fun g15 => ?_) (fun g15 => ?_)
        · rw [if_neg g15] at h13
          refine zz_aload_n C 5 dX0_find_68 rfl rfl ?_
          refine zz_aload_n C 4 dX0_find_69 rfl rfl ?_
          refine zz_aload_n C 3 dX0_find_70 rfl rfl ?_
          refine zz_iload C 6 dX0_find_71 rfl ?_
          obtain ⟨x16, h17, h13⟩ := zz_bind h13
          refine zz_callV1 (As := [.int chosen_]) (rest := [.ref (ad 1), .ref (ad 17)]) C 41 (mX4_piecesIn σ chosen_ x16 h17) dX0_find_73 rfl rfl rfl zw_116 zy_X4_piecesIn rfl (by decide) (by decide) (Nat.le_of_ble_eq_true rfl) hcR hsR rfl ?_
          obtain ⟨x18, h19, h13⟩ := zz_bind h13
          refine zz_callV1 (As := [.ref (ad 1), .int x16]) (rest := []) C 17 (mX1_brokenBy σ x16 x18 h19) dX0_find_76 rfl rfl rfl zw_115 zy_X1_brokenBy rfl (by decide) (by decide) (Nat.le_of_ble_eq_true rfl) hcR hsR rfl ?_
          obtain ⟨x20, h21, h13⟩ := zz_bind h13
          refine zz_callS1 (As := [.int x18]) (rest := []) C (mJ6_bitCount x18 x20 h21) dX0_find_79 rfl zw_114 zy_J6_bitCount_0f7a4 rfl (by decide) (by decide) (Nat.le_of_ble_eq_true rfl) hcR hsR rfl ?_
          cases h13
          exact J14
        · rw [if_pos g15] at h13
          refine zz_iconst (v := (0 : Int32)) C dX0_find_64 (by decide) ?_
          refine zz_goto (tgt := 82) C dX0_find_65 (by decide) ?_
          cases h13
          exact J14
      refine zz_iload C 0 dX0_find_36 rfl ?_
      refine zz_if_ge (tgt := 45) C dX0_find_38 (by decide) (fun g9 => ?_) (fun g9 => ?_)
      · rw [if_pos g9] at h7
        refine zz_aload_n C 1 dX0_find_45 rfl rfl ?_
        refine zf0_fromThen C dX0_find_46 zw_112 ?_
        refine zz_iload C 5 dX0_find_49 rfl ?_
        refine zz_iconst (v := (1 : Int32)) C dX0_find_51 (by decide) ?_
        refine zz_iload C 0 dX0_find_52 rfl ?_
        refine zz_ishl C dX0_find_54 ?_
        refine zz_ior C dX0_find_55 ?_
        obtain ⟨x10, h11, h7⟩ := zz_bind h7
        refine zl_46 C dX0_find_56 h11 ?_
        cases h7
        exact J8
      · rw [if_neg g9] at h7
        refine zz_iconst (v := (0 : Int32)) C dX0_find_41 (by decide) ?_
        refine zz_goto (tgt := 57) C dX0_find_42 (by decide) ?_
        cases h7
        exact J8
set_option maxHeartbeats 4000000 in
set_option maxRecDepth 100000 in
theorem mX0_find {D : va_G} {U : zz_U} {ad : Nat → Nat} {X : va_W} (σ : zz_St) (r : zz_St) (hf : fX0_find σ = some r) : zz_Met yX0_find (.code yX0_find cX0_find 8 none) 3 0 0 D U [.ref (ad 44), .ref (ad 41), .ref (ad 1), .ref (ad 17)] (zz_wc U ad σ X) (zz_ok none (zz_wc U ad r X)) zz_noth := by
  unfold fX0_find at hf
  refine zz_method RX0 rfl (by decide +kernel) (Nat.le_of_ble_eq_true rfl) ?_
  intro p l e s m args below meth c A _ C
  refine zz_lvs (lv1 := [(0, .ref (ad 44)), (1, .ref (ad 41)), (2, .ref (ad 1)), (3, .ref (ad 17))]) rfl ?_
  refine zz_aload_n C 0 dX0_find_0 rfl rfl ?_
  refine zz_aload_n C 1 dX0_find_1 rfl rfl ?_
  refine zf4_count C dX0_find_2 zw_121 ?_
  refine zz_bipush (v := (9 : Int32)) C dX0_find_5 (by decide) ?_
  refine zz_mmin C dX0_find_7 zw_110 zm_min_1 zm_min_2 zm_min_3 (by decide) (Nat.le_of_ble_eq_true rfl) (Nat.le_of_ble_eq_true rfl) (Nat.le_of_ble_eq_true rfl) ?_
  refine zp0_length C dX0_find_10 zw_113 ?_
  refine zz_iconst (v := (1 : Int32)) C dX0_find_13 (by decide) ?_
  refine zz_aload_n C 0 dX0_find_14 rfl rfl ?_
  refine zf0_length C dX0_find_15 zw_113 ?_
  refine zz_ishl C dX0_find_18 ?_
  refine zz_iconst (v := (1 : Int32)) C dX0_find_19 (by decide) ?_
  refine zz_isub C dX0_find_20 ?_
  obtain ⟨x1, h2, hf⟩ := zz_bind hf
  refine zz_topi (Option.some.inj h2) ?_
  refine zz_istore C dX0_find_21 (by decide) (lv' := [(4, .int x1), (0, .ref (ad 44)), (1, .ref (ad 41)), (2, .ref (ad 1)), (3, .ref (ad 17))]) rfl ?_
  obtain ⟨q24, h25, hf⟩ := zz_bind hf
  refine zz_sub [1, 2, 3, 4, 0] rfl ?_
  refine mX0_find_L1 C (Nat.le_of_ble_eq_true rfl) (Nat.le_of_ble_eq_true rfl) 1000 x1 (zz_u σ 44 1 (zz_min (σ 41 0) (9 : Int32))) q24 h25 ?_
  refine zz_aload_n C 0 dX0_find_102 rfl rfl ?_
  refine zz_aload_n C 0 dX0_find_103 rfl rfl ?_
  refine zf0_fromThen C dX0_find_104 zw_112 ?_
  refine zz_iconst (v := (0 : Int32)) C dX0_find_107 (by decide) ?_
  obtain ⟨x26, h27, hf⟩ := zz_bind hf
  refine zl_46 C dX0_find_108 h27 ?_
  refine zp0_least C dX0_find_109 zw_120 ?_
  refine zz_aload_n C 0 dX0_find_112 rfl rfl ?_
  obtain ⟨x28, h29, hf⟩ := zz_bind hf
  refine zz_callV1 (As := []) (rest := []) C 44 (mX0_walk (zz_u q24.2 44 0 x26) x28 h29) dX0_find_113 rfl rfl rfl zw_119 zy_X0_walk rfl (by decide) (by decide) (Nat.le_of_ble_eq_true rfl) (Nat.le_of_ble_eq_true rfl) (Nat.le_of_ble_eq_true rfl) rfl ?_
  cases hf
  exact zz_vret C dX0_find_116 (And.intro rfl rfl) (Nat.le_of_ble_eq_true rfl) (Nat.le_of_ble_eq_true rfl)
theorem dX7_findBest_0 : decode cX7_findBest 0 = .ok (.aload_n 0, 1) := by decide +kernel
theorem dX7_findBest_1 : decode cX7_findBest 1 = .ok (.invokevirtual 176, 3) := by decide +kernel
theorem dX7_findBest_4 : decode cX7_findBest 4 = .ok (.aload_n 0, 1) := by decide +kernel
theorem dX7_findBest_5 : decode cX7_findBest 5 = .ok (.getfield 47, 3) := by decide +kernel
theorem dX7_findBest_8 : decode cX7_findBest 8 = .ok (.getfield 205, 3) := by decide +kernel
theorem dX7_findBest_11 : decode cX7_findBest 11 = .ok (.bipush 9, 2) := by decide +kernel
theorem dX7_findBest_13 : decode cX7_findBest 13 = .ok (.if_icmp .le 14, 3) := by decide +kernel
theorem dX7_findBest_16 : decode cX7_findBest 16 = .ok (.new 75, 3) := by decide +kernel
theorem dX7_findBest_19 : decode cX7_findBest 19 = .ok (.dup, 1) := by decide +kernel
theorem dX7_findBest_20 : decode cX7_findBest 20 = .ok (.ldc_w 290, 3) := by decide +kernel
theorem dX7_findBest_23 : decode cX7_findBest 23 = .ok (.invokespecial 79, 3) := by decide +kernel
theorem dX7_findBest_26 : decode cX7_findBest 26 = .ok (.athrow, 1) := by decide +kernel
theorem dX7_findBest_27 : decode cX7_findBest 27 = .ok (.aload_n 0, 1) := by decide +kernel
theorem dX7_findBest_28 : decode cX7_findBest 28 = .ok (.getfield 271, 3) := by decide +kernel
theorem dX7_findBest_31 : decode cX7_findBest 31 = .ok (.ifCond .ne 27, 3) := by decide +kernel
theorem dX7_findBest_34 : decode cX7_findBest 34 = .ok (.aload_n 0, 1) := by decide +kernel
theorem dX7_findBest_35 : decode cX7_findBest 35 = .ok (.getfield 54, 3) := by decide +kernel
theorem dX7_findBest_38 : decode cX7_findBest 38 = .ok (.aload_n 0, 1) := by decide +kernel
theorem dX7_findBest_39 : decode cX7_findBest 39 = .ok (.getfield 47, 3) := by decide +kernel
theorem dX7_findBest_42 : decode cX7_findBest 42 = .ok (.aload_n 0, 1) := by decide +kernel
theorem dX7_findBest_43 : decode cX7_findBest 43 = .ok (.getfield 12, 3) := by decide +kernel
theorem dX7_findBest_46 : decode cX7_findBest 46 = .ok (.aload_n 0, 1) := by decide +kernel
theorem dX7_findBest_47 : decode cX7_findBest 47 = .ok (.getfield 19, 3) := by decide +kernel
theorem dX7_findBest_50 : decode cX7_findBest 50 = .ok (.invokevirtual 292, 3) := by decide +kernel
theorem dX7_findBest_53 : decode cX7_findBest 53 = .ok (.aload_n 0, 1) := by decide +kernel
theorem dX7_findBest_54 : decode cX7_findBest 54 = .ok (.iconst 1, 1) := by decide +kernel
theorem dX7_findBest_55 : decode cX7_findBest 55 = .ok (.putfield 271, 3) := by decide +kernel
theorem dX7_findBest_58 : decode cX7_findBest 58 = .ok (.return_, 1) := by decide +kernel
set_option maxHeartbeats 4000000 in
set_option maxRecDepth 100000 in
theorem mX7_findBest {D : va_G} {U : zz_U} {ad : Nat → Nat} {X : va_W} (σ : zz_St) (r : ((Unit ⊕ String) × zz_St)) (hf : fX7_findBest σ = some r) : zz_Met yX7_findBest (.code yX7_findBest cX7_findBest 1 none) 6 1 6 D U [.ref (ad 0)] (zz_wc U ad σ X) (match r.1 with | .inl _ => zz_ok none (zz_wc U ad r.2 X) | .inr _ => zz_none) (match r.1 with | .inl _ => zz_noth | .inr E => zz_th E (zz_wc U ad r.2 X)) := by
  unfold fX7_findBest at hf
  refine zz_method RX7 rfl (by decide +kernel) (Nat.le_of_ble_eq_true rfl) ?_
  intro p l e s m args below meth c A _ C
  refine zz_lvs (lv1 := [(0, .ref (ad 0))]) rfl ?_
  refine zz_aload_n C 0 dX7_findBest_0 rfl rfl ?_
  obtain ⟨x1, h2, hf⟩ := zz_bind hf
  refine zz_callV1 (As := []) (rest := []) C 0 (mX7_putTogether σ x1 h2) dX7_findBest_1 rfl rfl rfl zw_90 zy_X7_putTogether rfl (by decide) (by decide) (Nat.le_of_ble_eq_true rfl) (Nat.le_of_ble_eq_true rfl) (Nat.le_of_ble_eq_true rfl) rfl ?_
  refine zz_aload_n C 0 dX7_findBest_4 rfl rfl ?_
  refine zf7_parcels C dX7_findBest_5 zw_85 ?_
  refine zf4_count C dX7_findBest_8 zw_99 ?_
  refine zz_bipush (v := (9 : Int32)) C dX7_findBest_11 (by decide) ?_
  refine zz_icmp_le (tgt := 27) C dX7_findBest_13 (by decide) (fun g3 => ?_) (fun g3 => ?_)
  · rw [if_pos g3] at hf
    obtain ⟨x4, h5, hf⟩ := zz_bind hf
    refine zz_cut 58 [(0, .ref (ad 0))] [] (zz_wc U ad x4 X) ?_ (fun J6 => ?_)
    · cases hf
      exact zz_vret C dX7_findBest_58 (And.intro rfl rfl) (Nat.le_of_ble_eq_true rfl) (Nat.le_of_ble_eq_true rfl)
    refine zz_aload_n C 0 dX7_findBest_27 rfl rfl ?_
    refine zf7_isBestKnown C dX7_findBest_28 zw_1 ?_
    refine zz_if_ne (tgt := 58) C dX7_findBest_31 (by decide) (fun g7 => ?_) (fun g7 => ?_)
    · rw [if_neg g7] at h5
      cases h5
      exact J6
    · rw [if_pos g7] at h5
      refine zz_aload_n C 0 dX7_findBest_34 rfl rfl ?_
      refine zf7_bestOrder C dX7_findBest_35 zw_123 ?_
      refine zz_aload_n C 0 dX7_findBest_38 rfl rfl ?_
      refine zf7_parcels C dX7_findBest_39 zw_85 ?_
      refine zz_aload_n C 0 dX7_findBest_42 rfl rfl ?_
      refine zf7_pieces C dX7_findBest_43 zw_10 ?_
      refine zz_aload_n C 0 dX7_findBest_46 rfl rfl ?_
      refine zf7_code C dX7_findBest_47 zw_23 ?_
      obtain ⟨x8, h9, h5⟩ := zz_bind h5
      refine zz_callV1 (As := [.ref (ad 41), .ref (ad 1), .ref (ad 17)]) (rest := []) C 44 (mX0_find x1 x8 h9) dX7_findBest_50 rfl rfl rfl zw_122 zy_X0_find rfl (by decide) (by decide) (Nat.le_of_ble_eq_true rfl) (Nat.le_of_ble_eq_true rfl) (Nat.le_of_ble_eq_true rfl) rfl ?_
      refine zz_aload_n C 0 dX7_findBest_53 rfl rfl ?_
      refine zz_iconst (v := (1 : Int32)) C dX7_findBest_54 (by decide) ?_
      refine zp7_isBestKnown C dX7_findBest_55 zw_1 (Or.inr rfl) ?_
      cases h5
      exact J6
  · rw [if_neg g3] at hf
    cases hf
    exact zz_throwSW (cls := "java/lang/IllegalStateException") (text := "too many parcels") C zt_1 (by decide +kernel) dX7_findBest_16 dX7_findBest_19 dX7_findBest_20 dX7_findBest_23 dX7_findBest_26 (by decide) (Nat.le_of_ble_eq_true rfl) (Nat.le_of_ble_eq_true rfl) (Nat.le_of_ble_eq_true rfl) (Nat.le_of_ble_eq_true rfl) (Nat.le_of_ble_eq_true rfl) (And.intro rfl rfl)
theorem mX7_findBest_r {D : va_G} {U : zz_U} {ad : Nat → Nat} {X : va_W} (σ : zz_St) (x : Unit) (σ1 : zz_St) (hf : fX7_findBest σ = some (.inl x, σ1)) : zz_Met yX7_findBest (.code yX7_findBest cX7_findBest 1 none) 6 1 6 D U [.ref (ad 0)] (zz_wc U ad σ X) (zz_ok none (zz_wc U ad σ1 X)) zz_noth := mX7_findBest σ (.inl x, σ1) hf
theorem mX7_findBest_x {D : va_G} {U : zz_U} {ad : Nat → Nat} {X : va_W} (σ : zz_St) (x : String) (σ1 : zz_St) (hf : fX7_findBest σ = some (.inr x, σ1)) : zz_Met yX7_findBest (.code yX7_findBest cX7_findBest 1 none) 6 1 6 D U [.ref (ad 0)] (zz_wc U ad σ X) zz_none (zz_th x (zz_wc U ad σ1 X)) := mX7_findBest σ (.inr x, σ1) hf
theorem dX7_leastBreakage_0 : decode cX7_leastBreakage 0 = .ok (.aload_n 0, 1) := by decide +kernel
theorem dX7_leastBreakage_1 : decode cX7_leastBreakage 1 = .ok (.invokevirtual 230, 3) := by decide +kernel
theorem dX7_leastBreakage_4 : decode cX7_leastBreakage 4 = .ok (.aload_n 0, 1) := by decide +kernel
theorem dX7_leastBreakage_5 : decode cX7_leastBreakage 5 = .ok (.getfield 54, 3) := by decide +kernel
theorem dX7_leastBreakage_8 : decode cX7_leastBreakage 8 = .ok (.getfield 233, 3) := by decide +kernel
theorem dX7_leastBreakage_11 : decode cX7_leastBreakage 11 = .ok (.ireturn, 1) := by decide +kernel
set_option maxHeartbeats 4000000 in
set_option maxRecDepth 100000 in
theorem mX7_leastBreakage {D : va_G} {U : zz_U} {ad : Nat → Nat} {X : va_W} (σ : zz_St) (r : ((Int32 ⊕ String) × zz_St)) (hf : fX7_leastBreakage σ = some r) : zz_Met yX7_leastBreakage (.code yX7_leastBreakage cX7_leastBreakage 1 (some .int)) 7 1 6 D U [.ref (ad 0)] (zz_wc U ad σ X) (match r.1 with | .inl x => zz_ok (some (.int x)) (zz_wc U ad r.2 X) | .inr _ => zz_none) (match r.1 with | .inl _ => zz_noth | .inr E => zz_th E (zz_wc U ad r.2 X)) := by
  unfold fX7_leastBreakage at hf
  refine zz_method RX7 rfl (by decide +kernel) (Nat.le_of_ble_eq_true rfl) ?_
  intro p l e s m args below meth c A _ C
  refine zz_lvs (lv1 := [(0, .ref (ad 0))]) rfl ?_
  refine zz_aload_n C 0 dX7_leastBreakage_0 rfl rfl ?_
  obtain ⟨⟨x1, σ4⟩, h2, hf⟩ := zz_bind hf
  rcases x1 with x1 | E3
  · try dsimp only at hf
    refine zz_callV1 (As := []) (rest := []) C 0 (mX7_findBest_r σ x1 σ4 h2) dX7_leastBreakage_1 rfl rfl rfl zw_125 zy_X7_findBest rfl (by decide) (by decide) (Nat.le_of_ble_eq_true rfl) (Nat.le_of_ble_eq_true rfl) (Nat.le_of_ble_eq_true rfl) rfl ?_
    refine zz_aload_n C 0 dX7_leastBreakage_4 rfl rfl ?_
    refine zf7_bestOrder C dX7_leastBreakage_5 zw_123 ?_
    refine zf0_least C dX7_leastBreakage_8 zw_124 ?_
    cases hf
    exact zz_iret C dX7_leastBreakage_11 (And.intro rfl rfl) (Nat.le_of_ble_eq_true rfl) (Nat.le_of_ble_eq_true rfl)
  · refine zz_callVx (As := []) (rest := []) C 0 (mX7_findBest_x σ E3 σ4 h2) dX7_leastBreakage_1 rfl rfl rfl zw_125 zy_X7_findBest rfl (by decide) (by decide) (Nat.le_of_ble_eq_true rfl) (Nat.le_of_ble_eq_true rfl) (Nat.le_of_ble_eq_true rfl) ?_
    cases hf
    exact zz_out C (And.intro rfl rfl) (Nat.le_of_ble_eq_true rfl) (Nat.le_of_ble_eq_true rfl)
theorem mX7_leastBreakage_r {D : va_G} {U : zz_U} {ad : Nat → Nat} {X : va_W} (σ : zz_St) (x : Int32) (σ1 : zz_St) (hf : fX7_leastBreakage σ = some (.inl x, σ1)) : zz_Met yX7_leastBreakage (.code yX7_leastBreakage cX7_leastBreakage 1 (some .int)) 7 1 6 D U [.ref (ad 0)] (zz_wc U ad σ X) (zz_ok (some (.int x)) (zz_wc U ad σ1 X)) zz_noth := mX7_leastBreakage σ (.inl x, σ1) hf
theorem mX7_leastBreakage_x {D : va_G} {U : zz_U} {ad : Nat → Nat} {X : va_W} (σ : zz_St) (x : String) (σ1 : zz_St) (hf : fX7_leastBreakage σ = some (.inr x, σ1)) : zz_Met yX7_leastBreakage (.code yX7_leastBreakage cX7_leastBreakage 1 (some .int)) 7 1 6 D U [.ref (ad 0)] (zz_wc U ad σ X) zz_none (zz_th x (zz_wc U ad σ1 X)) := mX7_leastBreakage σ (.inr x, σ1) hf
theorem dX7_best_0 : decode cX7_best 0 = .ok (.aload_n 0, 1) := by decide +kernel
theorem dX7_best_1 : decode cX7_best 1 = .ok (.invokevirtual 230, 3) := by decide +kernel
theorem dX7_best_4 : decode cX7_best 4 = .ok (.iload_n 1, 1) := by decide +kernel
theorem dX7_best_5 : decode cX7_best 5 = .ok (.ifCond .lt 14, 3) := by decide +kernel
theorem dX7_best_8 : decode cX7_best 8 = .ok (.iload_n 1, 1) := by decide +kernel
theorem dX7_best_9 : decode cX7_best 9 = .ok (.aload_n 0, 1) := by decide +kernel
theorem dX7_best_10 : decode cX7_best 10 = .ok (.getfield 54, 3) := by decide +kernel
theorem dX7_best_13 : decode cX7_best 13 = .ok (.getfield 236, 3) := by decide +kernel
theorem dX7_best_16 : decode cX7_best 16 = .ok (.if_icmp .lt 13, 3) := by decide +kernel
theorem dX7_best_19 : decode cX7_best 19 = .ok (.new 102, 3) := by decide +kernel
theorem dX7_best_22 : decode cX7_best 22 = .ok (.dup, 1) := by decide +kernel
theorem dX7_best_23 : decode cX7_best 23 = .ok (.ldc 239, 2) := by decide +kernel
theorem dX7_best_25 : decode cX7_best 25 = .ok (.invokespecial 106, 3) := by decide +kernel
theorem dX7_best_28 : decode cX7_best 28 = .ok (.athrow, 1) := by decide +kernel
theorem dX7_best_29 : decode cX7_best 29 = .ok (.aload_n 0, 1) := by decide +kernel
theorem dX7_best_30 : decode cX7_best 30 = .ok (.getfield 54, 3) := by decide +kernel
theorem dX7_best_33 : decode cX7_best 33 = .ok (.getfield 241, 3) := by decide +kernel
theorem dX7_best_36 : decode cX7_best 36 = .ok (.iload_n 1, 1) := by decide +kernel
theorem dX7_best_37 : decode cX7_best 37 = .ok (.iaload, 1) := by decide +kernel
theorem dX7_best_38 : decode cX7_best 38 = .ok (.ireturn, 1) := by decide +kernel
set_option maxHeartbeats 4000000 in
set_option maxRecDepth 100000 in
theorem mX7_best {D : va_G} {U : zz_U} {ad : Nat → Nat} {X : va_W} (σ : zz_St) (place_ : Int32) (r : ((Int32 ⊕ String) × zz_St)) (hf : fX7_best σ place_ = some r) : zz_Met yX7_best (.code yX7_best cX7_best 2 (some .int)) 7 2 12 D U [.ref (ad 0), .int place_] (zz_wc U ad σ X) (match r.1 with | .inl x => zz_ok (some (.int x)) (zz_wc U ad r.2 X) | .inr _ => zz_none) (match r.1 with | .inl _ => zz_noth | .inr E => zz_th E (zz_wc U ad r.2 X)) := by
  unfold fX7_best at hf
  refine zz_method RX7 rfl (by decide +kernel) (Nat.le_of_ble_eq_true rfl) ?_
  intro p l e s m args below meth c A _ C
  refine zz_lvs (lv1 := [(0, .ref (ad 0)), (1, .int place_)]) rfl ?_
  refine zz_aload_n C 0 dX7_best_0 rfl rfl ?_
  obtain ⟨⟨x1, σ4⟩, h2, hf⟩ := zz_bind hf
  rcases x1 with x1 | E3
  · try dsimp only at hf
    refine zz_callV1 (As := []) (rest := []) C 0 (mX7_findBest_r σ x1 σ4 h2) dX7_best_1 rfl rfl rfl zw_125 zy_X7_findBest rfl (by decide) (by decide) (Nat.le_of_ble_eq_true rfl) (Nat.le_of_ble_eq_true rfl) (Nat.le_of_ble_eq_true rfl) rfl ?_
    obtain ⟨b5, h6, hf⟩ := zz_bind hf
    refine zz_cutI (P := b5 = true) 19 [(0, .ref (ad 0)), (1, .int place_)] [] (zz_wc U ad σ4 X) (fun g9 => ?_) (fun J7 => ?_)
    · rw [if_pos g9] at hf
      cases hf
      exact zz_throwS (cls := "java/lang/IndexOutOfBoundsException") (text := "no such place") C zt_2 (by decide +kernel) dX7_best_19 dX7_best_22 dX7_best_23 dX7_best_25 dX7_best_28 (by decide) (Nat.le_of_ble_eq_true rfl) (Nat.le_of_ble_eq_true rfl) (Nat.le_of_ble_eq_true rfl) (Nat.le_of_ble_eq_true rfl) (Nat.le_of_ble_eq_true rfl) (And.intro rfl rfl)
    refine zz_cutI (P := b5 = false) 29 [(0, .ref (ad 0)), (1, .int place_)] [] (zz_wc U ad σ4 X) (fun g9 => ?_) (fun J8 => ?_)
    · rw [if_neg (show ¬ b5 = true by rw [g9]; decide)] at hf
      refine zz_aload_n C 0 dX7_best_29 rfl rfl ?_
      refine zf7_bestOrder C dX7_best_30 zw_123 ?_
      refine zf0_order C dX7_best_33 zw_127 ?_
      refine zz_iload_n C 1 dX7_best_36 rfl rfl ?_
      obtain ⟨x12, h13, hf⟩ := zz_bind hf
      refine zl_45 C dX7_best_37 h13 ?_
      cases hf
      exact zz_iret C dX7_best_38 (And.intro rfl rfl) (Nat.le_of_ble_eq_true rfl) (Nat.le_of_ble_eq_true rfl)
    refine zz_iload_n C 1 dX7_best_4 rfl rfl ?_
    refine zz_if_lt (tgt := 19) C dX7_best_5 (by decide) (fun g10 => ?_) (fun g10 => ?_)
    · rw [if_pos g10] at h6
      cases h6
      exact J7 rfl
    · rw [if_neg g10] at h6
      refine zz_iload_n C 1 dX7_best_8 rfl rfl ?_
      refine zz_aload_n C 0 dX7_best_9 rfl rfl ?_
      refine zf7_bestOrder C dX7_best_10 zw_123 ?_
      refine zf0_length C dX7_best_13 zw_126 ?_
      refine zz_icmp_lt (tgt := 29) C dX7_best_16 (by decide) (fun g11 => ?_) (fun g11 => ?_)
      · rw [if_pos g11] at h6
        cases h6
        exact J8 rfl
      · rw [if_neg g11] at h6
        cases h6
        exact J7 rfl
  · refine zz_callVx (As := []) (rest := []) C 0 (mX7_findBest_x σ E3 σ4 h2) dX7_best_1 rfl rfl rfl zw_125 zy_X7_findBest rfl (by decide) (by decide) (Nat.le_of_ble_eq_true rfl) (Nat.le_of_ble_eq_true rfl) (Nat.le_of_ble_eq_true rfl) ?_
    cases hf
    exact zz_out C (And.intro rfl rfl) (Nat.le_of_ble_eq_true rfl) (Nat.le_of_ble_eq_true rfl)
theorem mX7_best_r {D : va_G} {U : zz_U} {ad : Nat → Nat} {X : va_W} (σ : zz_St) (place_ : Int32) (x : Int32) (σ1 : zz_St) (hf : fX7_best σ place_ = some (.inl x, σ1)) : zz_Met yX7_best (.code yX7_best cX7_best 2 (some .int)) 7 2 12 D U [.ref (ad 0), .int place_] (zz_wc U ad σ X) (zz_ok (some (.int x)) (zz_wc U ad σ1 X)) zz_noth := mX7_best σ place_ (.inl x, σ1) hf
theorem mX7_best_x {D : va_G} {U : zz_U} {ad : Nat → Nat} {X : va_W} (σ : zz_St) (place_ : Int32) (x : String) (σ1 : zz_St) (hf : fX7_best σ place_ = some (.inr x, σ1)) : zz_Met yX7_best (.code yX7_best cX7_best 2 (some .int)) 7 2 12 D U [.ref (ad 0), .int place_] (zz_wc U ad σ X) zz_none (zz_th x (zz_wc U ad σ1 X)) := mX7_best σ place_ (.inr x, σ1) hf
theorem dJ6_numberOfTrailingZeros_0f7a4_0 : decode cJ6_numberOfTrailingZeros_0f7a4 0 = .ok (.iload_n 0, 1) := by decide +kernel
theorem dJ6_numberOfTrailingZeros_0f7a4_1 : decode cJ6_numberOfTrailingZeros_0f7a4 1 = .ok (.iconst (-1), 1) := by decide +kernel
theorem dJ6_numberOfTrailingZeros_0f7a4_2 : decode cJ6_numberOfTrailingZeros_0f7a4 2 = .ok (.ixor, 1) := by decide +kernel
theorem dJ6_numberOfTrailingZeros_0f7a4_3 : decode cJ6_numberOfTrailingZeros_0f7a4 3 = .ok (.iload_n 0, 1) := by decide +kernel
theorem dJ6_numberOfTrailingZeros_0f7a4_4 : decode cJ6_numberOfTrailingZeros_0f7a4 4 = .ok (.iconst 1, 1) := by decide +kernel
theorem dJ6_numberOfTrailingZeros_0f7a4_5 : decode cJ6_numberOfTrailingZeros_0f7a4 5 = .ok (.isub, 1) := by decide +kernel
theorem dJ6_numberOfTrailingZeros_0f7a4_6 : decode cJ6_numberOfTrailingZeros_0f7a4 6 = .ok (.iand, 1) := by decide +kernel
theorem dJ6_numberOfTrailingZeros_0f7a4_7 : decode cJ6_numberOfTrailingZeros_0f7a4 7 = .ok (.istore_n 0, 1) := by decide +kernel
theorem dJ6_numberOfTrailingZeros_0f7a4_8 : decode cJ6_numberOfTrailingZeros_0f7a4 8 = .ok (.iload_n 0, 1) := by decide +kernel
theorem dJ6_numberOfTrailingZeros_0f7a4_9 : decode cJ6_numberOfTrailingZeros_0f7a4 9 = .ok (.ifCond .gt 8, 3) := by decide +kernel
theorem dJ6_numberOfTrailingZeros_0f7a4_12 : decode cJ6_numberOfTrailingZeros_0f7a4 12 = .ok (.iload_n 0, 1) := by decide +kernel
theorem dJ6_numberOfTrailingZeros_0f7a4_13 : decode cJ6_numberOfTrailingZeros_0f7a4 13 = .ok (.bipush 32, 2) := by decide +kernel
theorem dJ6_numberOfTrailingZeros_0f7a4_15 : decode cJ6_numberOfTrailingZeros_0f7a4 15 = .ok (.iand, 1) := by decide +kernel
theorem dJ6_numberOfTrailingZeros_0f7a4_16 : decode cJ6_numberOfTrailingZeros_0f7a4 16 = .ok (.ireturn, 1) := by decide +kernel
theorem dJ6_numberOfTrailingZeros_0f7a4_17 : decode cJ6_numberOfTrailingZeros_0f7a4 17 = .ok (.iconst 1, 1) := by decide +kernel
theorem dJ6_numberOfTrailingZeros_0f7a4_18 : decode cJ6_numberOfTrailingZeros_0f7a4 18 = .ok (.istore_n 1, 1) := by decide +kernel
theorem dJ6_numberOfTrailingZeros_0f7a4_19 : decode cJ6_numberOfTrailingZeros_0f7a4 19 = .ok (.iload_n 0, 1) := by decide +kernel
theorem dJ6_numberOfTrailingZeros_0f7a4_20 : decode cJ6_numberOfTrailingZeros_0f7a4 20 = .ok (.ldc_w 264, 3) := by decide +kernel
theorem dJ6_numberOfTrailingZeros_0f7a4_23 : decode cJ6_numberOfTrailingZeros_0f7a4 23 = .ok (.if_icmp .le 11, 3) := by decide +kernel
theorem dJ6_numberOfTrailingZeros_0f7a4_26 : decode cJ6_numberOfTrailingZeros_0f7a4 26 = .ok (.iinc 1 16, 3) := by decide +kernel
theorem dJ6_numberOfTrailingZeros_0f7a4_29 : decode cJ6_numberOfTrailingZeros_0f7a4 29 = .ok (.iload_n 0, 1) := by decide +kernel
theorem dJ6_numberOfTrailingZeros_0f7a4_30 : decode cJ6_numberOfTrailingZeros_0f7a4 30 = .ok (.bipush 16, 2) := by decide +kernel
theorem dJ6_numberOfTrailingZeros_0f7a4_32 : decode cJ6_numberOfTrailingZeros_0f7a4 32 = .ok (.iushr, 1) := by decide +kernel
theorem dJ6_numberOfTrailingZeros_0f7a4_33 : decode cJ6_numberOfTrailingZeros_0f7a4 33 = .ok (.istore_n 0, 1) := by decide +kernel
theorem dJ6_numberOfTrailingZeros_0f7a4_34 : decode cJ6_numberOfTrailingZeros_0f7a4 34 = .ok (.iload_n 0, 1) := by decide +kernel
theorem dJ6_numberOfTrailingZeros_0f7a4_35 : decode cJ6_numberOfTrailingZeros_0f7a4 35 = .ok (.sipush 256, 3) := by decide +kernel
theorem dJ6_numberOfTrailingZeros_0f7a4_38 : decode cJ6_numberOfTrailingZeros_0f7a4 38 = .ok (.if_icmp .le 11, 3) := by decide +kernel
theorem dJ6_numberOfTrailingZeros_0f7a4_41 : decode cJ6_numberOfTrailingZeros_0f7a4 41 = .ok (.iinc 1 8, 3) := by decide +kernel
theorem dJ6_numberOfTrailingZeros_0f7a4_44 : decode cJ6_numberOfTrailingZeros_0f7a4 44 = .ok (.iload_n 0, 1) := by decide +kernel
theorem dJ6_numberOfTrailingZeros_0f7a4_45 : decode cJ6_numberOfTrailingZeros_0f7a4 45 = .ok (.bipush 8, 2) := by decide +kernel
theorem dJ6_numberOfTrailingZeros_0f7a4_47 : decode cJ6_numberOfTrailingZeros_0f7a4 47 = .ok (.iushr, 1) := by decide +kernel
theorem dJ6_numberOfTrailingZeros_0f7a4_48 : decode cJ6_numberOfTrailingZeros_0f7a4 48 = .ok (.istore_n 0, 1) := by decide +kernel
theorem dJ6_numberOfTrailingZeros_0f7a4_49 : decode cJ6_numberOfTrailingZeros_0f7a4 49 = .ok (.iload_n 0, 1) := by decide +kernel
theorem dJ6_numberOfTrailingZeros_0f7a4_50 : decode cJ6_numberOfTrailingZeros_0f7a4 50 = .ok (.bipush 16, 2) := by decide +kernel
theorem dJ6_numberOfTrailingZeros_0f7a4_52 : decode cJ6_numberOfTrailingZeros_0f7a4 52 = .ok (.if_icmp .le 10, 3) := by decide +kernel
theorem dJ6_numberOfTrailingZeros_0f7a4_55 : decode cJ6_numberOfTrailingZeros_0f7a4 55 = .ok (.iinc 1 4, 3) := by decide +kernel
theorem dJ6_numberOfTrailingZeros_0f7a4_58 : decode cJ6_numberOfTrailingZeros_0f7a4 58 = .ok (.iload_n 0, 1) := by decide +kernel
theorem dJ6_numberOfTrailingZeros_0f7a4_59 : decode cJ6_numberOfTrailingZeros_0f7a4 59 = .ok (.iconst 4, 1) := by decide +kernel
theorem dJ6_numberOfTrailingZeros_0f7a4_60 : decode cJ6_numberOfTrailingZeros_0f7a4 60 = .ok (.iushr, 1) := by decide +kernel
theorem dJ6_numberOfTrailingZeros_0f7a4_61 : decode cJ6_numberOfTrailingZeros_0f7a4 61 = .ok (.istore_n 0, 1) := by decide +kernel
theorem dJ6_numberOfTrailingZeros_0f7a4_62 : decode cJ6_numberOfTrailingZeros_0f7a4 62 = .ok (.iload_n 0, 1) := by decide +kernel
theorem dJ6_numberOfTrailingZeros_0f7a4_63 : decode cJ6_numberOfTrailingZeros_0f7a4 63 = .ok (.iconst 4, 1) := by decide +kernel
theorem dJ6_numberOfTrailingZeros_0f7a4_64 : decode cJ6_numberOfTrailingZeros_0f7a4 64 = .ok (.if_icmp .le 10, 3) := by decide +kernel
theorem dJ6_numberOfTrailingZeros_0f7a4_67 : decode cJ6_numberOfTrailingZeros_0f7a4 67 = .ok (.iinc 1 2, 3) := by decide +kernel
theorem dJ6_numberOfTrailingZeros_0f7a4_70 : decode cJ6_numberOfTrailingZeros_0f7a4 70 = .ok (.iload_n 0, 1) := by decide +kernel
theorem dJ6_numberOfTrailingZeros_0f7a4_71 : decode cJ6_numberOfTrailingZeros_0f7a4 71 = .ok (.iconst 2, 1) := by decide +kernel
theorem dJ6_numberOfTrailingZeros_0f7a4_72 : decode cJ6_numberOfTrailingZeros_0f7a4 72 = .ok (.iushr, 1) := by decide +kernel
theorem dJ6_numberOfTrailingZeros_0f7a4_73 : decode cJ6_numberOfTrailingZeros_0f7a4 73 = .ok (.istore_n 0, 1) := by decide +kernel
theorem dJ6_numberOfTrailingZeros_0f7a4_74 : decode cJ6_numberOfTrailingZeros_0f7a4 74 = .ok (.iload_n 1, 1) := by decide +kernel
theorem dJ6_numberOfTrailingZeros_0f7a4_75 : decode cJ6_numberOfTrailingZeros_0f7a4 75 = .ok (.iload_n 0, 1) := by decide +kernel
theorem dJ6_numberOfTrailingZeros_0f7a4_76 : decode cJ6_numberOfTrailingZeros_0f7a4 76 = .ok (.iconst 1, 1) := by decide +kernel
theorem dJ6_numberOfTrailingZeros_0f7a4_77 : decode cJ6_numberOfTrailingZeros_0f7a4 77 = .ok (.iushr, 1) := by decide +kernel
theorem dJ6_numberOfTrailingZeros_0f7a4_78 : decode cJ6_numberOfTrailingZeros_0f7a4 78 = .ok (.iadd, 1) := by decide +kernel
theorem dJ6_numberOfTrailingZeros_0f7a4_79 : decode cJ6_numberOfTrailingZeros_0f7a4 79 = .ok (.ireturn, 1) := by decide +kernel
set_option maxHeartbeats 4000000 in
set_option maxRecDepth 100000 in
theorem mJ6_numberOfTrailingZeros {D : va_G} {U : zz_U} {ws : va_W} (i_ : Int32) (r : Int32) (hf : fJ6_numberOfTrailingZeros i_ = some r) : zz_Met yJ6_numberOfTrailingZeros_0f7a4 (.code yJ6_numberOfTrailingZeros_0f7a4 cJ6_numberOfTrailingZeros_0f7a4 2 (some .int)) 0 0 0 D U [.int i_] ws (zz_ok (some (.int r)) ws) zz_noth := by
  unfold fJ6_numberOfTrailingZeros at hf
  refine zz_method RJ6 rfl (by decide +kernel) (Nat.le_of_ble_eq_true rfl) ?_
  intro p l e s m args below meth c A _ C
  refine zz_lvs (lv1 := [(0, .int i_)]) rfl ?_
  refine zz_iload_n C 0 dJ6_numberOfTrailingZeros_0f7a4_0 rfl rfl ?_
  refine zz_iconst (v := (-1 : Int32)) C dJ6_numberOfTrailingZeros_0f7a4_1 (by decide) ?_
  refine zz_ixor C dJ6_numberOfTrailingZeros_0f7a4_2 ?_
  refine zz_iload_n C 0 dJ6_numberOfTrailingZeros_0f7a4_3 rfl rfl ?_
  refine zz_iconst (v := (1 : Int32)) C dJ6_numberOfTrailingZeros_0f7a4_4 (by decide) ?_
  refine zz_isub C dJ6_numberOfTrailingZeros_0f7a4_5 ?_
  refine zz_iand C dJ6_numberOfTrailingZeros_0f7a4_6 ?_
  obtain ⟨x1, h2, hf⟩ := zz_bind hf
  refine zz_topi (Option.some.inj h2) ?_
  refine zz_istore_n C dJ6_numberOfTrailingZeros_0f7a4_7 rfl (by decide) (lv' := [(0, .int x1)]) rfl ?_
  refine zz_iload_n C 0 dJ6_numberOfTrailingZeros_0f7a4_8 rfl rfl ?_
  refine zz_if_gt (tgt := 17) C dJ6_numberOfTrailingZeros_0f7a4_9 (by decide) (fun g3 => ?_) (fun g3 => ?_)
  · rw [if_pos g3] at hf
    refine zz_iconst (v := (1 : Int32)) C dJ6_numberOfTrailingZeros_0f7a4_17 (by decide) ?_
    refine zz_istore_n C dJ6_numberOfTrailingZeros_0f7a4_18 rfl (by decide) (lv' := [(1, .int (1 : Int32)), (0, .int x1)]) rfl ?_
    obtain ⟨x4, h5, hf⟩ := zz_bind hf
    refine zz_cut 34 [(0, .int x4.1), (1, .int x4.2)] [] ws ?_ (fun J6 => ?_)
    · obtain ⟨x10, h11, hf⟩ := zz_bind hf
      refine zz_cut 49 [(0, .int x10.1), (1, .int x10.2)] [] ws ?_ (fun J12 => ?_)
      · obtain ⟨x16, h17, hf⟩ := zz_bind hf
        refine zz_cut 62 [(0, .int x16.1), (1, .int x16.2)] [] ws ?_ (fun J18 => ?_)
        · obtain ⟨x22, h23, hf⟩ := zz_bind hf
          refine zz_cut 74 [(0, .int x22.1), (1, .int x22.2)] [] ws ?_ (fun J24 => ?_)
          · refine zz_iload_n C 1 dJ6_numberOfTrailingZeros_0f7a4_74 rfl rfl ?_
            refine zz_iload_n C 0 dJ6_numberOfTrailingZeros_0f7a4_75 rfl rfl ?_
            refine zz_iconst (v := (1 : Int32)) C dJ6_numberOfTrailingZeros_0f7a4_76 (by decide) ?_
            refine zz_iushr C dJ6_numberOfTrailingZeros_0f7a4_77 ?_
            refine zz_iadd C dJ6_numberOfTrailingZeros_0f7a4_78 ?_
            cases hf
            exact zz_iret C dJ6_numberOfTrailingZeros_0f7a4_79 (And.intro rfl rfl) (Nat.le_of_ble_eq_true rfl) (Nat.le_of_ble_eq_true rfl)
          refine zz_iload_n C 0 dJ6_numberOfTrailingZeros_0f7a4_62 rfl rfl ?_
          refine zz_iconst (v := (4 : Int32)) C dJ6_numberOfTrailingZeros_0f7a4_63 (by decide) ?_
          refine zz_icmp_le (tgt := 74) C dJ6_numberOfTrailingZeros_0f7a4_64 (by decide) (fun g25 => ?_) (fun g25 => ?_)
          · rw [if_pos g25] at h23
            cases h23
            exact J24
          · rw [if_neg g25] at h23
            refine zz_iinc (v := (x16.2 + (2 : Int32))) C 1 dJ6_numberOfTrailingZeros_0f7a4_67 rfl (by rfl) (by decide) (lv' := [(1, .int (x16.2 + (2 : Int32))), (0, .int x16.1)]) rfl ?_
            refine zz_iload_n C 1 dJ6_numberOfTrailingZeros_0f7a4_70 rfl rfl ?_
            refine zz_iconst (v := (2 : Int32)) C dJ6_numberOfTrailingZeros_0f7a4_71 (by decide) ?_
            refine zz_iushr C dJ6_numberOfTrailingZeros_0f7a4_72 ?_
            obtain ⟨x26, h27, h23⟩ := zz_bind h23
            refine zz_topi (Option.some.inj h27) ?_
            refine zz_istore_n C dJ6_numberOfTrailingZeros_0f7a4_73 rfl (by decide) (lv' := [(0, .int x26), (1, .int (x16.2 + (2 : Int32)))]) rfl ?_
            cases h23
            exact J24
        refine zz_iload_n C 0 dJ6_numberOfTrailingZeros_0f7a4_49 rfl rfl ?_
        refine zz_bipush (v := (16 : Int32)) C dJ6_numberOfTrailingZeros_0f7a4_50 (by decide) ?_
        refine zz_icmp_le (tgt := 62) C dJ6_numberOfTrailingZeros_0f7a4_52 (by decide) (fun g19 => ?_) (fun g19 => ?_)
        · rw [if_pos g19] at h17
          cases h17
          exact J18
        · rw [if_neg g19] at h17
          refine zz_iinc (v := (x10.2 + (4 : Int32))) C 1 dJ6_numberOfTrailingZeros_0f7a4_55 rfl (by rfl) (by decide) (lv' := [(1, .int (x10.2 + (4 : Int32))), (0, .int x10.1)]) rfl ?_
          refine zz_iload_n C 1 dJ6_numberOfTrailingZeros_0f7a4_58 rfl rfl ?_
          refine zz_iconst (v := (4 : Int32)) C dJ6_numberOfTrailingZeros_0f7a4_59 (by decide) ?_
          refine zz_iushr C dJ6_numberOfTrailingZeros_0f7a4_60 ?_
          obtain ⟨x20, h21, h17⟩ := zz_bind h17
          refine zz_topi (Option.some.inj h21) ?_
          refine zz_istore_n C dJ6_numberOfTrailingZeros_0f7a4_61 rfl (by decide) (lv' := [(0, .int x20), (1, .int (x10.2 + (4 : Int32)))]) rfl ?_
          cases h17
          exact J18
      refine zz_iload_n C 0 dJ6_numberOfTrailingZeros_0f7a4_34 rfl rfl ?_
      refine zz_sipush (v := (256 : Int32)) C dJ6_numberOfTrailingZeros_0f7a4_35 (by decide) ?_
      refine zz_icmp_le (tgt := 49) C dJ6_numberOfTrailingZeros_0f7a4_38 (by decide) (fun g13 => ?_) (fun g13 => ?_)
      · rw [if_pos g13] at h11
        cases h11
        exact J12
      · rw [if_neg g13] at h11
        refine zz_iinc (v := (x4.2 + (8 : Int32))) C 1 dJ6_numberOfTrailingZeros_0f7a4_41 rfl (by rfl) (by decide) (lv' := [(1, .int (x4.2 + (8 : Int32))), (0, .int x4.1)]) rfl ?_
        refine zz_iload_n C 1 dJ6_numberOfTrailingZeros_0f7a4_44 rfl rfl ?_
        refine zz_bipush (v := (8 : Int32)) C dJ6_numberOfTrailingZeros_0f7a4_45 (by decide) ?_
        refine zz_iushr C dJ6_numberOfTrailingZeros_0f7a4_47 ?_
        obtain ⟨x14, h15, h11⟩ := zz_bind h11
        refine zz_topi (Option.some.inj h15) ?_
        refine zz_istore_n C dJ6_numberOfTrailingZeros_0f7a4_48 rfl (by decide) (lv' := [(0, .int x14), (1, .int (x4.2 + (8 : Int32)))]) rfl ?_
        cases h11
        exact J12
    refine zz_iload_n C 1 dJ6_numberOfTrailingZeros_0f7a4_19 rfl rfl ?_
    refine zz_ldcw (v := (65536 : Int32)) C dJ6_numberOfTrailingZeros_0f7a4_20 zw_128 ?_
    refine zz_icmp_le (tgt := 34) C dJ6_numberOfTrailingZeros_0f7a4_23 (by decide) (fun g7 => ?_) (fun g7 => ?_)
    · rw [if_pos g7] at h5
      refine zz_sub [1, 0] rfl ?_
      cases h5
      exact J6
    · rw [if_neg g7] at h5
      refine zz_iinc (v := ((1 : Int32) + (16 : Int32))) C 0 dJ6_numberOfTrailingZeros_0f7a4_26 rfl (by rfl) (by decide) (lv' := [(1, .int ((1 : Int32) + (16 : Int32))), (0, .int x1)]) rfl ?_
      refine zz_iload_n C 1 dJ6_numberOfTrailingZeros_0f7a4_29 rfl rfl ?_
      refine zz_bipush (v := (16 : Int32)) C dJ6_numberOfTrailingZeros_0f7a4_30 (by decide) ?_
      refine zz_iushr C dJ6_numberOfTrailingZeros_0f7a4_32 ?_
      obtain ⟨x8, h9, h5⟩ := zz_bind h5
      refine zz_topi (Option.some.inj h9) ?_
      refine zz_istore_n C dJ6_numberOfTrailingZeros_0f7a4_33 rfl (by decide) (lv' := [(0, .int x8), (1, .int ((1 : Int32) + (16 : Int32)))]) rfl ?_
      cases h5
      exact J6
  · rw [if_neg g3] at hf
    refine zz_iload_n C 0 dJ6_numberOfTrailingZeros_0f7a4_12 rfl rfl ?_
    refine zz_bipush (v := (32 : Int32)) C dJ6_numberOfTrailingZeros_0f7a4_13 (by decide) ?_
    refine zz_iand C dJ6_numberOfTrailingZeros_0f7a4_15 ?_
    cases hf
    exact zz_iret C dJ6_numberOfTrailingZeros_0f7a4_16 (And.intro rfl rfl) (Nat.le_of_ble_eq_true rfl) (Nat.le_of_ble_eq_true rfl)
