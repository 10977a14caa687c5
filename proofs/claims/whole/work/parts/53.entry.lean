/-! the law's entry: the new class, the new reference, the row; then the loop; then the end -/
section WS
variable {U : zz_U}
abbrev zqw7 (U : zz_U) (h : Nat) (q : Nat → Nat) : va_W := [(h, .inr (7, [.ref (q 0), .ref (q 16), .ref (q 18), .ref (q 20), .ref (q 23), .ref (q 40), .ref (q 43), .int 0, .int 0])), ((q 0), .inr (5, [.int 0, .ref (q 1), .ref (q 2), .ref (q 3), .ref (q 4), .ref (q 5), .ref (q 6), .ref (q 11)])), ((q 1), .inl (U.1, 14, .inl (fun _ => 0))), ((q 2), .inl (U.1, 14, .inl (fun _ => 0))), ((q 3), .inl (U.1, 14, .inl (fun _ => 0))), ((q 4), .inl (U.1, 14, .inl (fun _ => 0))), ((q 5), .inl (U.1, 14, .inl (fun _ => 0))), ((q 6), .inl (U.2.2.2, 4, .inr (.inr (.inr (.inr (fun i => if i < 4 then some ((fun j => q (7 + j)) i) else none)))))), ((q 7), .inl (U.1, 14, .inl (fun _ => 0))), ((q 8), .inl (U.1, 14, .inl (fun _ => 0))), ((q 9), .inl (U.1, 14, .inl (fun _ => 0))), ((q 10), .inl (U.1, 14, .inl (fun _ => 0))), ((q 11), .inl (U.2.2.2, 4, .inr (.inr (.inr (.inr (fun i => if i < 4 then some ((fun j => q (12 + j)) i) else none)))))), ((q 12), .inl (U.1, 16, .inl (fun _ => 0))), ((q 13), .inl (U.1, 16, .inl (fun _ => 0))), ((q 14), .inl (U.1, 16, .inl (fun _ => 0))), ((q 15), .inl (U.1, 16, .inl (fun _ => 0))), ((q 16), .inr (1, [.int 0, .ref (q 17)])), ((q 17), .inl (U.1, 16, .inl (fun _ => 0))), ((q 18), .inr (2, [.ref (q 19), .int 20])), ((q 19), .inl (U.1, 4, .inl (upd (upd (upd (upd (fun _ => 0) 0 6) 1 5) 2 8) 3 10))), ((q 20), .inr (6, [.ref (q 21), .ref (q 22)])), ((q 21), .inl (U.1, 14, .inl (fun _ => 0))), ((q 22), .inl (U.1, 14, .inl (fun _ => 0))), ((q 23), .inr (3, [.int 12, .int 1, .int 0, .int 0, .ref (q 24), .ref (q 25)])), ((q 24), .inl (U.1, 14, .inl (fun _ => 0))), ((q 25), .inl (U.2.2.2, 14, .inr (.inr (.inr (.inr (fun i => if i < 14 then some ((fun j => q (26 + j)) i) else none)))))), ((q 26), .inl (U.1, 14, .inl (fun _ => 0))), ((q 27), .inl (U.1, 14, .inl (fun _ => 0))), ((q 28), .inl (U.1, 14, .inl (fun _ => 0))), ((q 29), .inl (U.1, 14, .inl (fun _ => 0))), ((q 30), .inl (U.1, 14, .inl (fun _ => 0))), ((q 31), .inl (U.1, 14, .inl (fun _ => 0))), ((q 32), .inl (U.1, 14, .inl (fun _ => 0))), ((q 33), .inl (U.1, 14, .inl (fun _ => 0))), ((q 34), .inl (U.1, 14, .inl (fun _ => 0))), ((q 35), .inl (U.1, 14, .inl (fun _ => 0))), ((q 36), .inl (U.1, 14, .inl (fun _ => 0))), ((q 37), .inl (U.1, 14, .inl (fun _ => 0))), ((q 38), .inl (U.1, 14, .inl (fun _ => 0))), ((q 39), .inl (U.1, 14, .inl (fun _ => 0))), ((q 40), .inr (4, [.int 0, .int 0, .ref (q 41), .ref (q 42)])), ((q 41), .inl (U.1, 14, .inl (fun _ => 0))), ((q 42), .inl (U.1, 14, .inl (fun _ => 0))), ((q 43), .inr (0, [.int 0, .int 0, .ref (q 44), .ref (q 45)])), ((q 44), .inl (U.1, 9, .inl (fun _ => 0))), ((q 45), .inl (U.1, 512, .inl (fun _ => 0)))]
abbrev zqw8 (U : zz_U) (h : Nat) (q : Nat → Nat) : va_W := [(h, .inr (8, [.int 0, .int 0, .ref (q 0), .ref (q 1), .ref (q 2), .ref (q 3), .ref (q 4), .ref (q 5), .ref (q 6), .int 20, .int 12, .int 1, .ref (q 7), .int 0, .ref (q 8), .ref (q 9), .ref (q 10), .int 0, .ref (q 11), .ref (q 12), .ref (q 13)])), ((q 0), .inl (U.1, 56, .inl (fun _ => 0))), ((q 1), .inl (U.1, 56, .inl (fun _ => 0))), ((q 2), .inl (U.1, 14, .inl (fun _ => 0))), ((q 3), .inl (U.1, 196, .inl (fun _ => 0))), ((q 4), .inl (U.2.2.1, 16, .inl (fun _ => 0))), ((q 5), .inl (U.1, 16, .inl (fun _ => 0))), ((q 6), .inl (U.1, 4, .inl (upd (upd (upd (upd (fun _ => 0) 0 6) 1 5) 2 8) 3 10))), ((q 7), .inl (U.1, 14, .inl (fun _ => 0))), ((q 8), .inl (U.1, 196, .inl (fun _ => 0))), ((q 9), .inl (U.1, 14, .inl (fun _ => 0))), ((q 10), .inl (U.1, 14, .inl (fun _ => 0))), ((q 11), .inl (U.1, 14, .inl (fun _ => 0))), ((q 12), .inl (U.1, 512, .inl (fun _ => 0))), ((q 13), .inl (U.1, 512, .inl (fun _ => 0)))]
set_option maxRecDepth 100000 in
theorem zq_1 (ad : Nat → Nat) : zqw7 U (ad 0) (fun k => ad (k + 1)) = zz_cc U ad vS0 := by
  have e7 : (fun i => if i < 4 then some (ad (8 + i)) else none) = fun i => if i < 4 then some ((fun j => (fun k => ad (k + 1)) (7 + j)) i) else none := zr_fun (fun i hi => by show ad (8 + i) = ad (7 + i + 1); congr 1; omega)
  have e12 : (fun i => if i < 4 then some (ad (13 + i)) else none) = fun i => if i < 4 then some ((fun j => (fun k => ad (k + 1)) (12 + j)) i) else none := zr_fun (fun i hi => by show ad (13 + i) = ad (12 + i + 1); congr 1; omega)
  have e26 : (fun i => if i < 14 then some (ad (27 + i)) else none) = fun i => if i < 14 then some ((fun j => (fun k => ad (k + 1)) (26 + j)) i) else none := zr_fun (fun i hi => by show ad (27 + i) = ad (26 + i + 1); congr 1; omega)
  unfold zz_cc
  rw [e7, e12, e26]
  rfl
set_option maxRecDepth 100000 in
theorem zq_2 {ad ad' : Nat → Nat} {σ : zz_St} (h : ∀ k, k < 47 → ad k = ad' k) : zz_cc U ad σ = zz_cc U ad' σ := by
  have e7 : (fun i => if i < 4 then some (ad (8 + i)) else none) = fun i => if i < 4 then some (ad' (8 + i)) else none := zr_fun (r := fun i => ad (8 + i)) (g := fun i => ad' (8 + i)) (fun i hi => h _ (by omega))
  have e12 : (fun i => if i < 4 then some (ad (13 + i)) else none) = fun i => if i < 4 then some (ad' (13 + i)) else none := zr_fun (r := fun i => ad (13 + i)) (g := fun i => ad' (13 + i)) (fun i hi => h _ (by omega))
  have e26 : (fun i => if i < 14 then some (ad (27 + i)) else none) = fun i => if i < 14 then some (ad' (27 + i)) else none := zr_fun (r := fun i => ad (27 + i)) (g := fun i => ad' (27 + i)) (fun i hi => h _ (by omega))
  unfold zz_cc
  rw [e7, e12, e26, h 0 (by decide), h 1 (by decide), h 2 (by decide), h 3 (by decide), h 4 (by decide), h 5 (by decide), h 6 (by decide), h 7 (by decide), h 8 (by decide), h 9 (by decide), h 10 (by decide), h 11 (by decide), h 12 (by decide), h 13 (by decide), h 14 (by decide), h 15 (by decide), h 16 (by decide), h 17 (by decide), h 18 (by decide), h 19 (by decide), h 20 (by decide), h 21 (by decide), h 22 (by decide), h 23 (by decide), h 24 (by decide), h 25 (by decide), h 26 (by decide), h 27 (by decide), h 28 (by decide), h 29 (by decide), h 30 (by decide), h 31 (by decide), h 32 (by decide), h 33 (by decide), h 34 (by decide), h 35 (by decide), h 36 (by decide), h 37 (by decide), h 38 (by decide), h 39 (by decide), h 40 (by decide), h 41 (by decide), h 42 (by decide), h 43 (by decide), h 44 (by decide), h 45 (by decide), h 46 (by decide)]
def zq_a (h : Nat) (q : Nat → Nat) : Nat → Nat := fun k => match k with
  | 0 => h
  | k + 1 => q k
def zq_b (a : Nat → Nat) (h : Nat) (q : Nat → Nat) (r : Nat) : Nat → Nat := fun k => bif Nat.blt k 47 then a k else bif Nat.beq k 47 then h else bif Nat.blt k 62 then q (k - 48) else r
end WS
theorem zwl_x1 : zz_g (.classLink RL 8 RX7) := ⟨by decide +kernel, by decide +kernel⟩
theorem zwl_x2 : zz_g (.instantiable RX7 9) := ⟨by decide +kernel, by decide +kernel⟩
theorem zwl_x3 : zz_g (.initialized RX7) := ⟨by decide +kernel, by decide +kernel⟩
theorem zwl_x4 : zz_g (.methodLink RL 94 yX7_init) := ⟨by decide +kernel, by decide +kernel⟩
theorem zwl_x5 : zz_g (.classLink RL 95 RX8) := ⟨by decide +kernel, by decide +kernel⟩
theorem zwl_x6 : zz_g (.instantiable RX8 21) := ⟨by decide +kernel, by decide +kernel⟩
theorem zwl_x7 : zz_g (.initialized RX8) := ⟨by decide +kernel, by decide +kernel⟩
theorem zwl_x8 : zz_g (.methodLink RL 97 yX8_init) := ⟨by decide +kernel, by decide +kernel⟩
theorem zwl_x9 : zz_g (.arrayClass .long) := ⟨by decide +kernel, by decide +kernel⟩
set_option maxHeartbeats 4000000 in
set_option maxRecDepth 100000 in
theorem whole_start {p : Program} {e : Env} {s : State} {m : MethodId} {below : List Frame} {meth : Method} {c : Code} (l : Launch) (hflags : l.flags = flags0) {b L : Nat} {xs : Nat → Int32} (hL : L ≤ 2560) (htab : ∀ x ∈ c.exceptionTable.toList, False) (C0 : lw_At p s m meth c b L xs) : W p l e room_1 s m #[Value.ref b] below meth c s.heap [] 0 0 (lw_Z below #[Value.ref b] s) (entryFrame m ([Value.ref b] : List Value).toArray 9) := by
  obtain ⟨hx, hb, hr, hml, hown, hts, hX, hbl, hlocks, hgv⟩ := id C0
  have hF := z_F0 hts hgv
  obtain ⟨D, U, hK⟩ := z_K0 hts hF
  have hA : ∀ q : Nat, s.heap.size ≤ q → (fun q : Nat => s.heap.size ≤ q) q := fun _ h => h
  have hbA : ¬ (fun q : Nat => s.heap.size ≤ q) b := Nat.not_le.mpr hbl
  have htr : l.stackTraces = false := by unfold Launch.stackTraces; rw [hflags]; decide +kernel
  have htb : c.exceptionTable.toList = tableOf [] := by
    show _ = []
    cases hq : c.exceptionTable.toList with
    | nil => rfl
    | cons z r => exact (htab z (by rw [hq]; exact List.mem_cons_self)).elim
  have C : zz_C p l room_1 s m meth c D U (fun q : Nat => s.heap.size ≤ q) RL code 9 ret [] 12 := ⟨hx, hb, hml, hown, hF, hlocks, htr, hK, hA, z_S0 hts hgv (fun a h => Nat.not_le.mpr h), Nat.le_of_ble_eq_true rfl, Nat.le_of_ble_eq_true rfl, hr, htb⟩
  have hl := lv_entry ([.ref b]) (n := 9) (Nat.le_of_ble_eq_true rfl)
  rw [lg_entry_eq]
  generalize (lg_sl ([.ref b]) ++ List.replicate (9 - (lg_sl ([.ref b])).length) Slot.unset).toArray = ls at hl ⊢
  have hl : lv_has ls 9 [(0, .ref b)] := hl
  have hP : va_P D zcl [] s.heap := fun k q h => by simp at h
  have hD : va_D (fun q : Nat => s.heap.size ≤ q) [] := ⟨fun i j p q h => by simp at h, fun k q h => by simp at h⟩
  suffices K : zz_Z p l e room_1 s m #[Value.ref b] below meth c (lw_Z below #[Value.ref b] s) D (fun q : Nat => s.heap.size ≤ q) 9 0 0 [] 0 [(0, .ref b)] [] from K s.heap [] ls hP hD va_S.rf hl
  refine zz_new (ci := 7) (T := TX7) (fs := [.null, .null, .null, .null, .null, .null, .null, .int 0, .int 0]) C dL_law_0 rfl z_in7 (by decide +kernel) tyX7_ok zwl_x1 zwl_x2 zwl_x3 (fun j hj => by match j, hj with
      | 0, _ => rfl
      | 1, _ => rfl
      | 2, _ => rfl
      | 3, _ => rfl
      | 4, _ => rfl
      | 5, _ => rfl
      | 6, _ => rfl
      | 7, _ => rfl
      | 8, _ => rfl) (Nat.le_of_ble_eq_true rfl) (Nat.le_of_ble_eq_true rfl) (fun h => ?_)
  refine zz_ren (ws' := [(h, .inr (7, [.null, .null, .null, .null, .null, .null, .null, .int 0, .int 0]))]) rfl ?_
  refine zz_dup C dL_law_3 rfl ?_
  refine zz_callI (As := []) (rest := [.ref h]) C (mk_X7 h) (fun _ _ h => h) dL_law_4 rfl rfl zwl_x4 zi_X7_init rfl (by decide) (by decide) (Nat.le_of_ble_eq_true rfl) (Nat.le_of_ble_eq_true rfl) (Nat.le_of_ble_eq_true rfl) (fun v ws1 hw => ?_)
  obtain ⟨rfl, q, hw⟩ := hw
  have e1 : ws1 = zz_cc U (zq_a h q) vS0 := hw.trans (zq_1 (zq_a h q))
  subst e1
  refine zz_astore_n (lv' := [(1, .ref h), (0, .ref b)]) C dL_law_7 rfl (by decide) rfl ?_
  refine zz_new (ci := 8) (T := TX8) (fs := [.int 0, .int 0, .null, .null, .null, .null, .null, .null, .null, .int 0, .int 0, .int 0, .null, .int 0, .null, .null, .null, .int 0, .null, .null, .null]) C dL_law_8 rfl z_in8 (by decide +kernel) tyX8_ok zwl_x5 zwl_x6 zwl_x7 (fun j hj => by match j, hj with
      | 0, _ => rfl
      | 1, _ => rfl
      | 2, _ => rfl
      | 3, _ => rfl
      | 4, _ => rfl
      | 5, _ => rfl
      | 6, _ => rfl
      | 7, _ => rfl
      | 8, _ => rfl
      | 9, _ => rfl
      | 10, _ => rfl
      | 11, _ => rfl
      | 12, _ => rfl
      | 13, _ => rfl
      | 14, _ => rfl
      | 15, _ => rfl
      | 16, _ => rfl
      | 17, _ => rfl
      | 18, _ => rfl
      | 19, _ => rfl
      | 20, _ => rfl
      | j + 21, h => exact absurd h (Nat.not_lt.mpr (Nat.le_add_left 21 j))) (Nat.le_of_ble_eq_true rfl) (Nat.le_of_ble_eq_true rfl) (fun h2 => ?_)
  refine zz_dup C dL_law_11 rfl ?_
  refine zz_callI (As := []) (rest := [.ref h2]) C (mk_X8 (zq_a h q) vS0 h2) (fun _ _ h => h) dL_law_12 rfl rfl zwl_x8 zi_X8_init rfl (by decide) (by decide) (Nat.le_of_ble_eq_true rfl) (Nat.le_of_ble_eq_true rfl) (Nat.le_of_ble_eq_true rfl) (fun v ws1 hw => ?_)
  obtain ⟨rfl, q2, hw⟩ := hw
  have e2 : ws1 = zz_cc U (zq_a h q) vS0 ++ zqw8 U h2 q2 := hw
  subst e2
  refine zz_astore_n (lv' := [(2, .ref h2), (1, .ref h), (0, .ref b)]) C dL_law_15 rfl (by decide) rfl ?_
  refine zz_iconst (v := (1 : Int32)) C dL_law_16 (by decide) ?_
  refine zz_newl (N := 1) C dL_law_17 zwl_x9 (by decide) (by decide) (Nat.le_of_ble_eq_true rfl) (Nat.le_of_ble_eq_true rfl) (Nat.le_of_ble_eq_true rfl) (fun r => ?_)
  refine zz_ren (ws' := zz_wl U (zq_b (zq_a h q) h2 q2 r) vS0 vT0 (fun _ => 0)) ?_ ?_
  · unfold zz_wl
    rw [zq_2 (ad := zq_a h q) (ad' := zq_b (zq_a h q) h2 q2 r) (fun k hk => by unfold zq_b; rw [show Nat.blt k 47 = true from Nat.ble_eq_true_of_le hk]; rfl), List.append_assoc]
    rfl
  refine zz_astore_n (lv' := [(3, .ref r), (2, .ref h2), (1, .ref h), (0, .ref b)]) C dL_law_19 rfl (by decide) rfl ?_
  refine zz_iconst (v := (0 : Int32)) C dL_law_20 (by decide) ?_
  refine zz_istore (lv' := [(4, .int 0), (3, .ref r), (2, .ref h2), (1, .ref h), (0, .ref b)]) C dL_law_21 (by decide) rfl ?_
  refine zz_sub [4, 3, 2, 1, 0] (lv' := [(0, .ref b), (1, .ref (zq_b (zq_a h q) h2 q2 r 0)), (2, .ref (zq_b (zq_a h q) h2 q2 r 47)), (3, .ref (zq_b (zq_a h q) h2 q2 r 62)), (4, .int 0)]) rfl ?_
  obtain ⟨w, hw⟩ := z_loop (xs := xs) (L := L) hL 513 0 0 (vS0, vT0, fun _ => 0) z_init (Nat.zero_le _) (by omega)
  refine mL_loop C hX hbl hbA 513 0 (vS0, vT0, fun _ => 0) w _ _ hw (Nat.le_of_ble_eq_true rfl) (Nat.le_of_ble_eq_true rfl) (fun j => ?_)
  refine zz_iconst (v := (1 : Int32)) C dL_law_1873 (by decide) ?_
  intro H locs ls9 hP9 hD9 hS9 hl9
  refine va_forget (fun q hq => hS9.2.2 q hq) ?_
  exact lw_ret (d0 := s.drawn) (Drawn.sameBut.refl s.drawn lw_cs) hx hb hr hlocks dL_law_1874
