/-! the law's entry: the new class, its rows; build, speak; then the rest; then the end -/
section WS
variable {U : zz_U}
abbrev zqw7 (U : zz_U) (h : Nat) (q : Nat → Nat) : va_W := [(h, .inr (7, [.ref (q 0), .ref (q 16), .ref (q 18), .ref (q 20), .ref (q 23), .ref (q 40), .ref (q 43), .int 0, .int 0])), ((q 0), .inr (5, [.int 0, .ref (q 1), .ref (q 2), .ref (q 3), .ref (q 4), .ref (q 5), .ref (q 6), .ref (q 11)])), ((q 1), .inl (U.1, 14, .inl (fun _ => 0))), ((q 2), .inl (U.1, 14, .inl (fun _ => 0))), ((q 3), .inl (U.1, 14, .inl (fun _ => 0))), ((q 4), .inl (U.1, 14, .inl (fun _ => 0))), ((q 5), .inl (U.1, 14, .inl (fun _ => 0))), ((q 6), .inl (U.2.2.2, 4, .inr (.inr (.inr (.inr (fun i => if i < 4 then some ((fun j => q (7 + j)) i) else none)))))), ((q 7), .inl (U.1, 14, .inl (fun _ => 0))), ((q 8), .inl (U.1, 14, .inl (fun _ => 0))), ((q 9), .inl (U.1, 14, .inl (fun _ => 0))), ((q 10), .inl (U.1, 14, .inl (fun _ => 0))), ((q 11), .inl (U.2.2.2, 4, .inr (.inr (.inr (.inr (fun i => if i < 4 then some ((fun j => q (12 + j)) i) else none)))))), ((q 12), .inl (U.1, 16, .inl (fun _ => 0))), ((q 13), .inl (U.1, 16, .inl (fun _ => 0))), ((q 14), .inl (U.1, 16, .inl (fun _ => 0))), ((q 15), .inl (U.1, 16, .inl (fun _ => 0))), ((q 16), .inr (1, [.int 0, .ref (q 17)])), ((q 17), .inl (U.1, 16, .inl (fun _ => 0))), ((q 18), .inr (2, [.ref (q 19), .int 20])), ((q 19), .inl (U.1, 4, .inl (upd (upd (upd (upd (fun _ => 0) 0 6) 1 5) 2 8) 3 10))), ((q 20), .inr (6, [.ref (q 21), .ref (q 22)])), ((q 21), .inl (U.1, 14, .inl (fun _ => 0))), ((q 22), .inl (U.1, 14, .inl (fun _ => 0))), ((q 23), .inr (3, [.int 12, .int 1, .int 0, .int 0, .ref (q 24), .ref (q 25)])), ((q 24), .inl (U.1, 14, .inl (fun _ => 0))), ((q 25), .inl (U.2.2.2, 14, .inr (.inr (.inr (.inr (fun i => if i < 14 then some ((fun j => q (26 + j)) i) else none)))))), ((q 26), .inl (U.1, 14, .inl (fun _ => 0))), ((q 27), .inl (U.1, 14, .inl (fun _ => 0))), ((q 28), .inl (U.1, 14, .inl (fun _ => 0))), ((q 29), .inl (U.1, 14, .inl (fun _ => 0))), ((q 30), .inl (U.1, 14, .inl (fun _ => 0))), ((q 31), .inl (U.1, 14, .inl (fun _ => 0))), ((q 32), .inl (U.1, 14, .inl (fun _ => 0))), ((q 33), .inl (U.1, 14, .inl (fun _ => 0))), ((q 34), .inl (U.1, 14, .inl (fun _ => 0))), ((q 35), .inl (U.1, 14, .inl (fun _ => 0))), ((q 36), .inl (U.1, 14, .inl (fun _ => 0))), ((q 37), .inl (U.1, 14, .inl (fun _ => 0))), ((q 38), .inl (U.1, 14, .inl (fun _ => 0))), ((q 39), .inl (U.1, 14, .inl (fun _ => 0))), ((q 40), .inr (4, [.int 0, .int 0, .ref (q 41), .ref (q 42)])), ((q 41), .inl (U.1, 14, .inl (fun _ => 0))), ((q 42), .inl (U.1, 14, .inl (fun _ => 0))), ((q 43), .inr (0, [.int 0, .int 0, .ref (q 44), .ref (q 45)])), ((q 44), .inl (U.1, 9, .inl (fun _ => 0))), ((q 45), .inl (U.1, 512, .inl (fun _ => 0)))]
set_option maxRecDepth 100000 in
theorem zq_1 (ad : Nat → Nat) : zqw7 U (ad 0) (fun k => ad (k + 1)) = zz_cc U ad vS0 := by
  have e7 : (fun i => if i < 4 then some (ad (8 + i)) else none) = fun i => if i < 4 then some ((fun j => (fun k => ad (k + 1)) (7 + j)) i) else none := zr_fun (fun i hi => by show ad (8 + i) = ad (7 + i + 1); congr 1; omega)
  have e12 : (fun i => if i < 4 then some (ad (13 + i)) else none) = fun i => if i < 4 then some ((fun j => (fun k => ad (k + 1)) (12 + j)) i) else none := zr_fun (fun i hi => by show ad (13 + i) = ad (12 + i + 1); congr 1; omega)
  have e26 : (fun i => if i < 14 then some (ad (27 + i)) else none) = fun i => if i < 14 then some ((fun j => (fun k => ad (k + 1)) (26 + j)) i) else none := zr_fun (fun i hi => by show ad (27 + i) = ad (26 + i + 1); congr 1; omega)
  unfold zz_cc
  rw [e7, e12, e26]
  rfl
def zq_a (h : Nat) (q : Nat → Nat) : Nat → Nat := fun k => match k with
  | 0 => h
  | k + 1 => q k
end WS
theorem zwe_1 : zz_g (.classLink RL 20 RX7) := ⟨by decide +kernel, by decide +kernel⟩
theorem zwe_2 : zz_g (.instantiable RX7 9) := ⟨by decide +kernel, by decide +kernel⟩
theorem zwe_3 : zz_g (.initialized RX7) := ⟨by decide +kernel, by decide +kernel⟩
theorem zwe_4 : zz_g (.methodLink RL 51 yX7_init) := ⟨by decide +kernel, by decide +kernel⟩
theorem zwe_5 : zz_g (.methodLink RL 52 yL_build) := ⟨by decide +kernel, by decide +kernel⟩
theorem zwe_6 : zz_g (.methodLink RL 56 yL_speak) := ⟨by decide +kernel, by decide +kernel⟩
set_option maxHeartbeats 4000000 in
set_option maxRecDepth 100000 in
theorem whole_start {p : Program} {e : Env} {s : State} {m : MethodId} {below : List Frame} {meth : Method} {c : Code} (l : Launch) (hflags : l.flags = flags0) {b L : Nat} {xs : Nat → Int32} (hL : L ≤ 260) (htab : ∀ x ∈ c.exceptionTable.toList, False) (C0 : lw_At p s m meth c b L xs) : W p l e room_1 s m #[Value.ref b] below meth c s.heap [] 0 0 (lw_Z below #[Value.ref b] s) (entryFrame m ([Value.ref b] : List Value).toArray 16) := by
  obtain ⟨hx, hb, hr, hml, hown, hts, hX, hbl, hlocks, hgv⟩ := id C0
  have hF := z_F0 hts hgv
  obtain ⟨D, U, hK⟩ := z_K0 hts hF
  have hA : ∀ q : Nat, s.heap.size ≤ q → (fun q : Nat => s.heap.size ≤ q) q := fun _ h => h
  have hbA : ¬ (fun q : Nat => s.heap.size ≤ q) b := Nat.not_le.mpr hbl
  have htr : l.stackTraces = false := by unfold Launch.stackTraces; rw [hflags]; decide +kernel
  have htb : c.exceptionTable.toList = tableOf [] := by
    show _ = []
    cases hq : c.exceptionTable.toList with
    | nil => rfl
    | cons z r => exact (htab z (by rw [hq]; exact List.mem_cons_self)).elim
  have C : zz_C p l room_1 s m meth c D U (fun q : Nat => s.heap.size ≤ q) RL code 16 ret [] 12 := ⟨hx, hb, hml, hown, hF, hlocks, htr, hK, hA, z_S0 hts hgv (fun a h => Nat.not_le.mpr h), Nat.le_of_ble_eq_true rfl, Nat.le_of_ble_eq_true rfl, hr, htb⟩
  have hl := lv_entry ([.ref b]) (n := 16) (Nat.le_of_ble_eq_true rfl)
  rw [lg_entry_eq]
  generalize (lg_sl ([.ref b]) ++ List.replicate (16 - (lg_sl ([.ref b])).length) Slot.unset).toArray = ls at hl ⊢
  have hl : lv_has ls 16 [(0, .ref b)] := hl
  have hP : va_P D zcl [] s.heap := fun k q h => by simp at h
  have hD : va_D (fun q : Nat => s.heap.size ≤ q) [] := ⟨fun i j p q h => by simp at h, fun k q h => by simp at h⟩
  suffices K : zz_Z p l e room_1 s m #[Value.ref b] below meth c (lw_Z below #[Value.ref b] s) D (fun q : Nat => s.heap.size ≤ q) 16 0 0 [] 0 [(0, .ref b)] [] from K s.heap [] ls hP hD va_S.rf hl
  refine zz_new (ci := 7) (T := TX7) (fs := [.null, .null, .null, .null, .null, .null, .null, .int 0, .int 0]) C dL_law_0 rfl z_in7 (by decide +kernel) tyX7_ok zwe_1 zwe_2 zwe_3 (fun j hj => by match j, hj with
      | 0, _ => rfl
      | 1, _ => rfl
      | 2, _ => rfl
      | 3, _ => rfl
      | 4, _ => rfl
      | 5, _ => rfl
      | 6, _ => rfl
      | 7, _ => rfl
      | 8, _ => rfl) (Nat.le_of_ble_eq_true rfl) (Nat.le_of_ble_eq_true rfl) (fun h => ?_)
  refine zz_ren (ws' := [(h, .inr (7, [.null, .null, .null, .null, .null, .null, .null, .int 0, .int 0]))]) rfl ?_
  refine zz_dup C dL_law_3 rfl ?_
  refine zz_callI (As := []) (rest := [.ref h]) C (mk_X7 h) (fun _ _ h => h) dL_law_4 rfl rfl zwe_4 zi_X7_init rfl (by decide) (by decide) (Nat.le_of_ble_eq_true rfl) (Nat.le_of_ble_eq_true rfl) (Nat.le_of_ble_eq_true rfl) (fun v ws1 hw => ?_)
  obtain ⟨rfl, q, hw⟩ := hw
  have e1 : ws1 = zz_cc U (zq_a h q) vS0 := hw.trans (zq_1 (zq_a h q))
  subst e1
  refine zz_astore_n (lv' := [(1, .ref h), (0, .ref b)]) C dL_law_7 rfl (by decide) rfl ?_
  refine zz_aload_n C 0 dL_law_8 rfl rfl ?_
  refine zz_aload_n C 1 dL_law_9 rfl rfl ?_
  refine zz_iconst (v := (0 : Int32)) C dL_law_10 (by decide) ?_
  refine zz_bipush (v := (12 : Int32)) C dL_law_11 (by decide) ?_
  refine zz_bipush (v := (112 : Int32)) C dL_law_13 (by decide) ?_
  refine zz_newi (N := 112) C dL_law_15 zx_ai (by decide) (by decide) (Nat.le_of_ble_eq_true rfl) (Nat.le_of_ble_eq_true rfl) (Nat.le_of_ble_eq_true rfl) (fun r0 => ?_)
  refine zz_ren (ws' := zz_wc U (zq_a h q) vS0 [(r0, .inl (U.1, 112, .inl (fun _ => 0)))]) rfl ?_
  refine zz_bipush (v := (12 : Int32)) C dL_law_17 (by decide) ?_
  refine zz_newi (N := 12) C dL_law_19 zx_ai (by decide) (by decide) (Nat.le_of_ble_eq_true rfl) (Nat.le_of_ble_eq_true rfl) (Nat.le_of_ble_eq_true rfl) (fun r1 => ?_)
  refine zz_ren (ws' := zz_wc U (zq_a h q) vS0 [(r0, .inl (U.1, 112, .inl (fun _ => 0))), (r1, .inl (U.1, 12, .inl (fun _ => 0)))]) zx_app ?_
  obtain ⟨n, σ, rw, nm, hn, eb, V, X, h22, h23⟩ := z_build (xs := xs) hL
  refine zb_callS1 (As := [.ref (zq_a h q 0), .ref b, .int 0, .int 12, .ref r0, .ref r1]) (rest := []) C hX hbl hbA (mL_build vS0 (fun _ => 0) (fun _ => 0) 0 12 _ eb) dL_law_21 rfl zwe_5 zy_L_build rfl (by decide) (by decide) (Nat.le_of_ble_eq_true rfl) (Nat.le_of_ble_eq_true rfl) (Nat.le_of_ble_eq_true rfl) rfl ?_
  refine zz_istore_n (lv' := [(2, .int (nI n)), (1, .ref h), (0, .ref b)]) C dL_law_24 rfl (by decide) rfl ?_
  refine zz_iload_n C 0 dL_law_25 rfl rfl ?_
  refine zz_if_ge (tgt := 31) C dL_law_26 (by decide) (fun _ => ?_) (fun g => absurd (nI_pos' (n := n) (by omega)) g)
  refine zx_drop [(r0, .inl (U.1, 112, .inl rw))] (r1, .inl (U.1, 12, .inl nm)) ?_
  refine zx_drop [] (r0, .inl (U.1, 112, .inl rw)) ?_
  refine zz_sipush (v := (256 : Int32)) C dL_law_31 (by decide) ?_
  refine zz_newi (N := 256) C dL_law_34 zx_ai (by decide) (by decide) (Nat.le_of_ble_eq_true rfl) (Nat.le_of_ble_eq_true rfl) (Nat.le_of_ble_eq_true rfl) (fun r2 => ?_)
  refine zz_ren (ws' := zz_wc U (zq_a h q) σ [(r2, .inl (U.1, 256, .inl (fun _ => 0)))]) zx_app ?_
  refine zz_astore_n (lv' := [(3, .ref r2), (2, .int (nI n)), (1, .ref h), (0, .ref b)]) C dL_law_36 rfl (by decide) rfl ?_
  refine zz_aload_n C 2 dL_law_37 rfl rfl ?_
  refine zz_aload_n C 3 dL_law_38 rfl rfl ?_
  refine zz_bipush (v := (11 : Int32)) C dL_law_39 (by decide) ?_
  refine zz_iload_n C 1 dL_law_41 rfl rfl ?_
  refine zz_aload_n C 0 dL_law_42 rfl rfl ?_
  obtain ⟨σ1, sd, es, V1, X1, cn1, S1⟩ := z_speak (xs := xs) hL hn V X h22 h23
  refine zb_callSH1 (As := [.ref (zq_a h q 0), .ref b, .int 11, .int (nI n), .ref r2]) (rest := []) C hX hbl hbA (mL_speak σ (fun _ => 0) 11 (nI n) _ es) dL_law_43 rfl zwe_6 zy_L_speak rfl (by decide) (by decide) (Nat.le_of_ble_eq_true rfl) (Nat.le_of_ble_eq_true rfl) (Nat.le_of_ble_eq_true rfl) rfl ?_
  refine zz_if_ne (tgt := 51) C dL_law_46 (by decide) (fun _ => ?_) (fun g => absurd g (show ¬ (1 : Int32) = 0 by decide))
  refine zz_sub [3, 2, 1, 0] (lv' := [(0, .ref b), (1, .ref (zq_a h q 0)), (2, .int (nI n)), (3, .ref r2)]) rfl ?_
  obtain ⟨σ2, em⟩ := z_main (xs := xs) hL hn V1 X1 cn1 S1
  refine mL_main C hX hbl hbA 600104 7301314 (Nat.le_of_ble_eq_true rfl) (Nat.le_of_ble_eq_true rfl) σ1 sd (nI n) (1, σ2) _ _ em (Nat.le_of_ble_eq_true rfl) (Nat.le_of_ble_eq_true rfl) (fun v m0 pc' ev hd => ?_)
  obtain ⟨rfl, rfl⟩ := Prod.mk.inj ev
  intro H locs ls9 hP9 hD9 hS9 hl9
  refine va_forget (fun q hq => hS9.2.2 q hq) ?_
  exact lw_ret hx hb hr hlocks hd
