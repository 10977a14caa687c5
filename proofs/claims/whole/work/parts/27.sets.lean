/-! pure part: what is set, points, affinity, closest, needs -/
section ST
variable {n : Nat} {σ σ' τ τ' : zz_St}
/-- from one state to the next, where the class's state changed in some cells after it forgot -/
theorem pI_fg (I : pz_I n σ τ) : pz_CW n (pz_fg σ) ∧ pz_RL n (pz_fg σ) τ := ⟨ps_CW pfg_sa I.1, ps_RL pfg_sa (pfg_q (by decide)) I.2.1⟩
theorem pK_fg (h : σ' 0 = pz_fg σ 0) : pz_K n σ' := Or.inl ⟨by rw [h]; exact pfg_7, by rw [h]; exact pfg_8⟩
theorem t_setSpan (I : pz_I n σ τ) (v : Int32) : ∃ rc σ' b τ', fX7_setSpan σ v = some (rc, σ') ∧ fX8_setSpan τ v = some (b, τ') ∧ pz_I n σ' τ' ∧ pz_a1 "java/lang/IllegalArgumentException" rc b (τ' 47 0) := by
  unfold fX7_setSpan fX8_setSpan
  rw [fc_up, pz_bs, fm_in, pz_bs]
  cases hx : pz_in 0 999 v with
  | false => exact ⟨_, σ, _, zz_u (zz_u τ 47 0 0) 47 0 1, rfl, rfl, pI_m I (pm_tr (pm_u0 τ 0) (pm_u0 _ 1)), Or.inr ⟨rfl, pz_us⟩⟩
  | true =>
    rw [if_neg (by decide), if_neg (by decide), fc_fg, pz_bs, pz_bs, pz_bs]
    obtain ⟨⟨c1, c2, c3, c5, c6⟩, ⟨r1, r2, r3, r4, r5, r6⟩⟩ := pI_fg I
    refine ⟨_, zz_u (pz_fg σ) 19 1 v, _, zz_u (zz_u τ 47 0 0) 47 9 v, rfl, rfl, ⟨⟨cw1_c (pz_uq (by decide)) c1, cw2_c (pz_uq (by decide)) c2, cw3_c (fun q a b => pz_uq (by omega)) c3, cw5_c (pz_uq (by decide)) (by rw [pz_uq (by decide)]) (by rw [pz_uq (by decide)]) c5, cw6_c (pz_uq (by decide)) (pz_uq (by decide)) c6⟩, ⟨by rw [pz_uj (by decide), pz_uj (by decide)]; exact r1, rl2_c (fun q a b => pz_uq (by omega)) (by rw [pz_uq (by decide), pz_uq (by decide)]) (by rw [pz_uq (by decide), pz_uq (by decide)]) r2, rl3_c (fun q a b => pz_uq (by omega)) (by rw [pz_uq (by decide), pz_uq (by decide)]) r3, rl4_c (pz_uq (by decide)) (pz_uq (by decide)) (by rw [pz_uq (by decide), pz_uq (by decide)]) (by rw [pz_uq (by decide), pz_uq (by decide)]) r4, ?_, rl6_c (pz_uq (by decide)) (pz_uq (by decide)) (by rw [pz_uq (by decide), pz_uq (by decide)]) r6⟩, pK_fg (pz_uq (by decide))⟩, Or.inl ⟨?_, ?_⟩⟩
    · obtain ⟨a, b, c, d⟩ := r5
      refine ⟨?_, ?_, ?_, ?_⟩
      · rw [pz_uq (by decide), pz_uq (by decide), pz_uq (by decide)]; exact a
      · rw [pz_us, pz_us]
      · rw [pz_uq (by decide), pz_uj (by decide), pz_uj (by decide)]; exact c
      · rw [pz_uq (by decide), pz_uj (by decide), pz_uj (by decide)]; exact d
    · rw [pz_uj (by decide), ← r5.2.1]
    · rw [pz_uj (by decide), pz_us]
theorem t_setThreshold (I : pz_I n σ τ) (v : Int32) : ∃ rc σ' b τ', fX7_setThreshold σ v = some (rc, σ') ∧ fX8_setThreshold τ v = some (b, τ') ∧ pz_I n σ' τ' ∧ pz_a1 "java/lang/IllegalArgumentException" rc b (τ' 47 0) := by
  unfold fX7_setThreshold fX8_setThreshold
  rw [fm_in, pz_bs]
  have e : (if v < 1 then some true else if v ≤ 999 then some false else some true) = some (!pz_in 1 999 v) := by
    unfold pz_in
    by_cases g : v < 1
    · rw [if_pos g, decide_eq_false (Int32.not_le.mpr g)]; rfl
    · rw [if_neg g, decide_eq_true (Int32.not_lt.mp g)]
      by_cases g2 : v ≤ 999
      · rw [if_pos g2, decide_eq_true g2]; rfl
      · rw [if_neg g2, decide_eq_false g2]; rfl
  rw [e, pz_bs]
  cases hx : pz_in 1 999 v with
  | false => exact ⟨_, σ, _, zz_u (zz_u τ 47 0 0) 47 0 1, rfl, rfl, pI_m I (pm_tr (pm_u0 τ 0) (pm_u0 _ 1)), Or.inr ⟨rfl, pz_us⟩⟩
  | true =>
    rw [if_neg (by decide), if_neg (by decide), fc_fg, pz_bs, pz_bs, pz_bs]
    obtain ⟨⟨c1, c2, c3, c5, c6⟩, ⟨r1, r2, r3, r4, r5, r6⟩⟩ := pI_fg I
    refine ⟨_, zz_u (pz_fg σ) 24 0 v, _, zz_u (zz_u τ 47 0 0) 47 10 v, rfl, rfl, ⟨⟨cw1_c (pz_uq (by decide)) c1, cw2_c (pz_uq (by decide)) c2, cw3_c (fun q a b => pz_uq (by omega)) c3, ?_, cw6_c (pz_uq (by decide)) (pz_uq (by decide)) c6⟩, ⟨by rw [pz_uj (by decide), pz_uj (by decide)]; exact r1, rl2_c (fun q a b => pz_uq (by omega)) (by rw [pz_uq (by decide), pz_uq (by decide)]) (by rw [pz_uq (by decide), pz_uq (by decide)]) r2, rl3_c (fun q a b => pz_uq (by omega)) (by rw [pz_uq (by decide), pz_uq (by decide)]) r3, rl4_c (pz_uq (by decide)) (pz_uq (by decide)) (by rw [pz_uq (by decide), pz_uq (by decide)]) (by rw [pz_uq (by decide), pz_uq (by decide)]) r4, ?_, rl6_c (pz_uq (by decide)) (pz_uq (by decide)) (by rw [pz_uq (by decide), pz_uq (by decide)]) r6⟩, pK_fg (pz_uq (by decide))⟩, Or.inl ⟨?_, ?_⟩⟩
    · obtain ⟨a, b, c⟩ := c5
      refine ⟨?_, ?_, ?_⟩
      · rw [pz_uq (by decide)]; exact a
      · rw [pz_us]
        unfold pz_in at hx
        rw [Bool.and_eq_true, decide_eq_true_iff, decide_eq_true_iff] at hx
        have h1 := Int32.le_iff_toInt_le.mp hx.1
        have h0 : ¬ v < 0 := Int32.not_lt.mpr (Int32.le_trans (by decide) hx.1)
        obtain ⟨t, ht, e⟩ := nI_of2 (M := nI 999) (n := 999) (nI_toInt (by omega)) h0 hx.2
        refine ⟨t, ?_, ht, e⟩
        rw [e, nI_toInt (by omega)] at h1
        have : (1 : Int32).toInt = 1 := by decide
        omega
      · rw [pz_uj (by decide)]; exact c
    · obtain ⟨a, b, c, d⟩ := r5
      refine ⟨?_, ?_, ?_, ?_⟩
      · rw [pz_uq (by decide), pz_uq (by decide), pz_uq (by decide)]; exact a
      · rw [pz_uq (by decide), pz_uj (by decide), pz_uj (by decide)]; exact b
      · rw [pz_us, pz_us]
      · rw [pz_uj (by decide), pz_uj (by decide), pz_uj (by decide)]; exact d
    · rw [pz_uj (by decide), ← r5.2.2.1]
    · rw [pz_uj (by decide), pz_us]
theorem t_setManner (I : pz_I n σ τ) (v : Int32) : ∃ rc σ' b τ', fX7_setManner σ v = some (rc, σ') ∧ fX8_setManner τ v = some (b, τ') ∧ pz_I n σ' τ' ∧ pz_a1 "java/lang/IllegalArgumentException" rc b (τ' 47 0) := by
  unfold fX7_setManner fX8_setManner
  rw [fc_up, pz_bs, fm_in, pz_bs]
  cases hx : pz_in 0 2 v with
  | false => exact ⟨_, σ, _, zz_u (zz_u τ 47 0 0) 47 0 1, rfl, rfl, pI_m I (pm_tr (pm_u0 τ 0) (pm_u0 _ 1)), Or.inr ⟨rfl, pz_us⟩⟩
  | true =>
    rw [if_neg (by decide), if_neg (by decide), fc_fg, pz_bs, pz_bs, pz_bs]
    obtain ⟨⟨c1, c2, c3, c5, c6⟩, ⟨r1, r2, r3, r4, r5, r6⟩⟩ := pI_fg I
    refine ⟨_, zz_u (pz_fg σ) 24 1 v, _, zz_u (zz_u τ 47 0 0) 47 11 v, rfl, rfl, ⟨⟨cw1_c (pz_uq (by decide)) c1, cw2_c (pz_uq (by decide)) c2, cw3_c (fun q a b => pz_uq (by omega)) c3, ?_, cw6_c (pz_uq (by decide)) (pz_uq (by decide)) c6⟩, ⟨by rw [pz_uj (by decide), pz_uj (by decide)]; exact r1, rl2_c (fun q a b => pz_uq (by omega)) (by rw [pz_uq (by decide), pz_uq (by decide)]) (by rw [pz_uq (by decide), pz_uq (by decide)]) r2, rl3_c (fun q a b => pz_uq (by omega)) (by rw [pz_uq (by decide), pz_uq (by decide)]) r3, rl4_c (pz_uq (by decide)) (pz_uq (by decide)) (by rw [pz_uq (by decide), pz_uq (by decide)]) (by rw [pz_uq (by decide), pz_uq (by decide)]) r4, ?_, rl6_c (pz_uq (by decide)) (pz_uq (by decide)) (by rw [pz_uq (by decide), pz_uq (by decide)]) r6⟩, pK_fg (pz_uq (by decide))⟩, Or.inl ⟨?_, ?_⟩⟩
    · obtain ⟨a, b, c⟩ := c5
      refine ⟨?_, ?_, ?_⟩
      · rw [pz_uq (by decide)]; exact a
      · rw [pz_uj (by decide)]; exact b
      · rw [pz_us]; exact pin_e (m := 2) (by decide) hx
    · obtain ⟨a, b, c, d⟩ := r5
      refine ⟨?_, ?_, ?_, ?_⟩
      · rw [pz_uq (by decide), pz_uq (by decide), pz_uq (by decide)]; exact a
      · rw [pz_uq (by decide), pz_uj (by decide), pz_uj (by decide)]; exact b
      · rw [pz_uj (by decide), pz_uj (by decide), pz_uj (by decide)]; exact c
      · rw [pz_us, pz_us]
    · rw [pz_uj (by decide), ← r5.2.2.2]
    · rw [pz_uj (by decide), pz_us]
theorem t_setWeight (I : pz_I n σ τ) (u v : Int32) : ∃ rc σ' b τ', fX7_setWeight σ u v = some (rc, σ') ∧ fX8_setWeight τ u v = some (b, τ') ∧ pz_I n σ' τ' ∧ pz_a2 "java/lang/IndexOutOfBoundsException" "java/lang/IllegalArgumentException" rc b (τ' 47 0) := by
  unfold fX7_setWeight fX8_setWeight
  rcases pbd 4 (by decide) u with q | ⟨k, hk, rfl⟩
  · rw [fc_rk_n q, pz_bs, fm_kd_n q, pz_bs]
    exact ⟨_, σ, _, zz_u (zz_u τ 47 0 0) 47 0 1, rfl, rfl, pI_m I (pm_tr (pm_u0 τ 0) (pm_u0 _ 1)), Or.inr (Or.inl ⟨rfl, pz_us⟩)⟩
  rw [fc_rk_y hk, pz_bs, fm_kd_y hk, pz_bs, if_neg (by decide), fm_in, pz_bs]
  show ∃ rc σ' b τ', (fX7_isUpTo σ v 50).bind _ = _ ∧ _
  rw [fc_up, pz_bs]
  cases hx : pz_in 0 50 v with
  | false => exact ⟨_, σ, _, zz_u (zz_u τ 47 0 0) 47 0 2, rfl, rfl, pI_m I (pm_tr (pm_u0 τ 0) (pm_u0 _ 2)), Or.inr (Or.inr ⟨rfl, pz_us⟩)⟩
  | true =>
    rw [if_neg (by decide), if_neg (by decide), fc_fg, pz_bs, pz_ga hk (by decide), pz_bs, pz_pa hk (by decide), pz_bs, pz_ga hk (by decide), pz_bs, pz_pa hk (by decide), pz_bs]
    obtain ⟨⟨c1, c2, c3, c5, c6⟩, ⟨r1, r2, r3, r4, r5, r6⟩⟩ := pI_fg I
    refine ⟨_, zz_u (pz_fg σ) 20 k v, _, zz_u (zz_u τ 47 0 0) 54 k v, rfl, rfl, ⟨⟨cw1_c (pz_uq (by decide)) c1, cw2_c (pz_uq (by decide)) c2, cw3_c (fun q a b => pz_uq (by omega)) c3, ?_, cw6_c (pz_uq (by decide)) (pz_uq (by decide)) c6⟩, ⟨by rw [pz_uq (by decide), pz_uj (by decide)]; exact r1, rl2_c (fun q a b => pz_uq (by omega)) (by rw [pz_uq (by decide), pz_uq (by decide)]) (by rw [pz_uq (by decide), pz_uq (by decide)]) r2, rl3_c (fun q a b => pz_uq (by omega)) (by rw [pz_uq (by decide), pz_uq (by decide)]) r3, rl4_c (pz_uq (by decide)) (pz_uq (by decide)) (by rw [pz_uq (by decide), pz_uq (by decide)]) (by rw [pz_uq (by decide), pz_uq (by decide)]) r4, ?_, rl6_c (pz_uq (by decide)) (pz_uq (by decide)) (by rw [pz_uq (by decide), pz_uq (by decide)]) r6⟩, pK_fg (pz_uq (by decide))⟩, Or.inl ⟨?_, ?_⟩⟩
    · obtain ⟨a, b, c⟩ := c5
      refine ⟨?_, ?_, ?_⟩
      · intro j hj
        rw [pz_u]
        by_cases g : j = k
        · rw [if_pos ⟨rfl, g⟩]; exact pin_e (m := 50) (by decide) hx
        · rw [if_neg (by omega)]; exact a j hj
      · rw [pz_uq (by decide)]; exact b
      · rw [pz_uq (by decide)]; exact c
    · obtain ⟨a, b, c, d⟩ := r5
      refine ⟨?_, ?_, ?_, ?_⟩
      · intro j hj
        rw [pz_u, pz_u]
        by_cases g : j = k
        · rw [if_pos ⟨rfl, g⟩, if_pos ⟨rfl, g⟩]
        · rw [if_neg (by omega), if_neg (by omega), pz_uq (by decide)]; exact a j hj
      · rw [pz_uq (by decide), pz_uq (by decide), pz_uj (by decide)]; exact b
      · rw [pz_uq (by decide), pz_uq (by decide), pz_uj (by decide)]; exact c
      · rw [pz_uq (by decide), pz_uq (by decide), pz_uj (by decide)]; exact d
    · rw [pz_uq (by decide), ← r5.1 k hk]
    · rw [pz_uq (by decide), pz_us]
theorem t_setPurpose (I : pz_I n σ τ) (u v : Int32) : ∃ rc σ' b τ', fX7_setPurpose σ u v = some (rc, σ') ∧ fX8_setPurpose τ u v = some (b, τ') ∧ pz_I n σ' τ' ∧ pz_a2 "java/lang/IndexOutOfBoundsException" "java/lang/IllegalArgumentException" rc b (τ' 47 0) := by
  have hn := pI_n I
  have hc := pI_c I
  have ht : zz_u τ 47 0 0 47 1 = nI n := by rw [pz_uj (by decide)]; exact pI_t I
  unfold fX7_setPurpose fX8_setPurpose
  rcases pbd n (by omega) u with q | ⟨p, hp, rfl⟩
  · rw [fc_rp_n hc q, pz_bs, fm_pc_n ht hn q, pz_bs]
    exact ⟨_, σ, _, zz_u (zz_u τ 47 0 0) 47 0 1, rfl, rfl, pI_m I (pm_tr (pm_u0 τ 0) (pm_u0 _ 1)), Or.inr (Or.inl ⟨rfl, pz_us⟩)⟩
  rw [fc_rp_y hc hn hp, pz_bs, fm_pc_y ht hn hp, pz_bs, if_neg (by decide), fm_in, pz_bs]
  show ∃ rc σ' b τ', (fX7_isUpTo σ v 9).bind _ = _ ∧ _
  rw [fc_up, pz_bs]
  cases hx : pz_in 0 9 v with
  | false => exact ⟨_, σ, _, zz_u (zz_u τ 47 0 0) 47 0 2, rfl, rfl, pI_m I (pm_tr (pm_u0 τ 0) (pm_u0 _ 2)), Or.inr (Or.inr ⟨rfl, pz_us⟩)⟩
  | true =>
    rw [if_neg (by decide), if_neg (by decide), pz_ga (by omega) (by decide), pz_bs, pz_pa (by omega) (by decide), pz_bs, pz_ga (by omega) (by decide), pz_bs, pz_pa (by omega) (by decide), pz_bs]
    obtain ⟨r1, r2, r3, r4, r5, r6⟩ := I.2.1
    have hs : pz_sa σ (zz_u σ 6 p v) := ⟨fun q a b c => pz_uq (by omega), by rw [pz_uq (by decide)], by rw [pz_uq (by decide)]⟩
    refine ⟨_, zz_u σ 6 p v, _, zz_u (zz_u τ 47 0 0) 50 p v, rfl, rfl, ⟨ps_CW hs I.1, ⟨by rw [pz_uq (by decide), pz_uj (by decide)]; exact r1, ?_, rl3_c (fun q a b => pz_uq (by omega)) (by rw [pz_uq (by decide), pz_uq (by decide)]) r3, rl4_c (pz_uq (by decide)) (pz_uq (by decide)) (by rw [pz_uq (by decide), pz_uq (by decide)]) (by rw [pz_uq (by decide), pz_uq (by decide)]) r4, rl5_c (pz_uq (by decide)) (by rw [pz_uq (by decide)]) (by rw [pz_uq (by decide)]) (by rw [pz_uq (by decide)]) (by rw [pz_uq (by decide), pz_uq (by decide)]) (by rw [pz_uq (by decide), pz_uj (by decide)]) (by rw [pz_uq (by decide), pz_uj (by decide)]) (by rw [pz_uq (by decide), pz_uj (by decide)]) r5, rl6_c (pz_uq (by decide)) (pz_uq (by decide)) (by rw [pz_uq (by decide), pz_uq (by decide)]) r6⟩, ?_⟩, Or.inl ⟨?_, ?_⟩⟩
    · intro j hj
      obtain ⟨a, b, c, d, e⟩ := r2 j hj
      rw [pz_uq (by decide), pz_uq (by decide), pz_uq (by decide), pz_uq (by decide), pz_uq (by decide), pz_uq (by decide)]
      refine ⟨a, b, c, d, ?_⟩
      rw [pz_u, pz_u]
      by_cases g : j = p
      · rw [if_pos ⟨rfl, g⟩, if_pos ⟨rfl, g⟩]
      · rw [if_neg (by omega), if_neg (by omega), pz_uq (by decide)]; exact e
    · unfold pz_K
      rw [pz_uq (by decide)]
      rcases I.2.2 with k | ⟨k, d, k2⟩
      · exact Or.inl k
      · refine Or.inr ⟨k, ps_D hn hs (fun q a b => pz_uq (by omega)) d, ?_⟩
        rcases k2 with k2 | ⟨k2, d2⟩
        · exact Or.inl k2
        · refine Or.inr ⟨k2, ?_⟩
          unfold pz_DB at *
          rw [ps_M hs, ps_Cs hs, pz_uq (by decide), pz_uq (by decide)]
          exact d2
    · rw [pz_uq (by decide), ← (r2 p hp).2.2.2.2]
    · rw [pz_uq (by decide), pz_us]
end ST
