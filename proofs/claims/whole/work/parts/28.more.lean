/-! pure part: setName, points, affinity, closest, needs -/
section MO
variable {n : Nat} {σ σ' τ τ' : zz_St}
theorem fm_are_n (I : pz_I n σ τ) {u v : Int32} (h : pz_bd n u ∨ pz_bd n v) : fX8_arePieces τ u v = some (0, zz_u τ 47 0 1) := by
  have hn := pI_n I
  have ht := pI_t I
  unfold fX8_arePieces
  rcases pbd n (by omega) u with q | ⟨p, hp, rfl⟩
  · rw [fm_pc_n ht hn q, pz_bs, if_pos rfl, pz_bs, if_pos rfl, pz_bs, pz_us, if_neg (by decide)]; rfl
  · rcases h with q | q
    · rw [fm_pc_n ht hn q, pz_bs, if_pos rfl, pz_bs, if_pos rfl, pz_bs, pz_us, if_neg (by decide)]; rfl
    · rw [fm_pc_y ht hn hp, pz_bs, if_neg (by decide), fm_pc_n ht hn q, pz_bs, if_pos rfl, pz_bs, if_pos rfl, pz_bs, pz_us, if_neg (by decide)]; rfl
theorem fm_are_y (I : pz_I n σ τ) {p q : Nat} (hp : p < n) (hq : q < n) : fX8_arePieces τ (nI p) (nI q) = some (1, zz_u τ 47 0 0) := by
  have hn := pI_n I
  have ht := pI_t I
  unfold fX8_arePieces
  rw [fm_pc_y ht hn hp, pz_bs, if_neg (by decide), fm_pc_y ht hn hq, pz_bs, if_neg (by decide), pz_bs, if_neg (by decide), pz_bs, pz_us, if_pos rfl]; rfl
theorem t_points (I : pz_I n σ τ) (u v w : Int32) : ∃ rc b τ', fX7_points σ u v w = some rc ∧ fX8_points τ u v w = some (b, τ') ∧ pz_I n σ τ' ∧ pz_a2 "java/lang/IndexOutOfBoundsException" "java/lang/IllegalArgumentException" rc b (τ' 47 0) := by
  have hn := pI_n I
  have hc := pI_c I
  unfold fX7_points fX8_points
  rcases pbd n (by omega) u with q | ⟨a, ha, rfl⟩
  · rw [fc_rp_n hc q, pz_bs, fm_are_n I (Or.inl q), pz_bs]
    exact ⟨_, _, zz_u τ 47 0 1, rfl, rfl, pI_m I (pm_u0 τ 1), Or.inr (Or.inl ⟨rfl, pz_us⟩)⟩
  rw [fc_rp_y hc hn ha, pz_bs]
  rcases pbd n (by omega) v with q | ⟨b, hb, rfl⟩
  · rw [fm_are_n I (Or.inr q), pz_bs]
    show ∃ rc b τ', (fX7_requirePiece σ v).bind _ = _ ∧ _
    rw [fc_rp_n hc q, pz_bs]
    exact ⟨_, _, zz_u τ 47 0 1, rfl, rfl, pI_m I (pm_u0 τ 1), Or.inr (Or.inl ⟨rfl, pz_us⟩)⟩
  rw [fm_are_y I ha hb, pz_bs, if_neg (show ¬ ((1 : Int32), zz_u τ 47 0 0).1 = 0 from (by decide : ¬ (1 : Int32) = 0))]
  show ∃ rc b' τ', (fX7_requirePiece σ (nI b)).bind _ = _ ∧ _
  rw [fc_rp_y hc hn hb, pz_bs]
  show ∃ rc b' τ', (fX7_requireKind σ w).bind _ = _ ∧ _
  rcases pbd 4 (by decide) w with q | ⟨k, hk, rfl⟩
  · rw [fc_rk_n q, pz_bs, fm_kd_n q, pz_bs]
    exact ⟨_, _, zz_u (zz_u τ 47 0 0) 47 0 1, rfl, rfl, pI_m I (pm_tr (pm_u0 τ 0) (pm_u0 _ 1)), Or.inr (Or.inl ⟨rfl, pz_us⟩)⟩
  rw [fc_rk_y hk, pz_bs, fm_kd_y hk, pz_bs, if_neg (by decide)]
  show ∃ rc b' τ', (fX7_requireDifferent σ (nI a) (nI b)).bind _ = _ ∧ _
  by_cases g : nI a = nI b
  · rw [g, fc_rd_n, pz_bs, if_pos rfl]
    exact ⟨_, _, zz_u (zz_u τ 47 0 0) 47 0 2, rfl, rfl, pI_m I (pm_tr (pm_u0 τ 0) (pm_u0 _ 2)), Or.inr (Or.inr ⟨rfl, pz_us⟩)⟩
  · have R := (pI_m I (pm_u0 τ 0)).2.1
    rw [fc_rd_y g, pz_bs, if_neg g, fm_points I.1.2.2.1 I.1.2.2.2.1 hn R.2.1 R.2.2.1 R.2.2.2.2.1 ha hb hk]
    refine ⟨_, _, zz_u τ 47 0 0, ?_, rfl, pI_m I (pm_u0 τ 0), Or.inl ⟨rfl, pz_us⟩⟩
    show (fX2_pointsBy σ (nI k) (nI a) (nI b)).bind _ = _
    rw [fc_points I.1.2.2.1 I.1.2.2.2.1 (by omega) (by omega) hk]
    rfl
theorem t_affinity (I : pz_I n σ τ) (u v : Int32) : ∃ rc b τ', fX7_affinity σ u v = some rc ∧ fX8_affinity τ u v = some (b, τ') ∧ pz_I n σ τ' ∧ pz_a2 "java/lang/IndexOutOfBoundsException" "java/lang/IllegalArgumentException" rc b (τ' 47 0) := by
  have hn := pI_n I
  have hc := pI_c I
  unfold fX7_affinity fX8_affinity
  rcases pbd n (by omega) u with q | ⟨a, ha, rfl⟩
  · rw [fc_rp_n hc q, pz_bs, fm_are_n I (Or.inl q), pz_bs]
    exact ⟨_, _, zz_u τ 47 0 1, rfl, rfl, pI_m I (pm_u0 τ 1), Or.inr (Or.inl ⟨rfl, pz_us⟩)⟩
  rw [fc_rp_y hc hn ha, pz_bs]
  rcases pbd n (by omega) v with q | ⟨b, hb, rfl⟩
  · rw [fm_are_n I (Or.inr q), pz_bs]
    show ∃ rc b τ', (fX7_requirePiece σ v).bind _ = _ ∧ _
    rw [fc_rp_n hc q, pz_bs]
    exact ⟨_, _, zz_u τ 47 0 1, rfl, rfl, pI_m I (pm_u0 τ 1), Or.inr (Or.inl ⟨rfl, pz_us⟩)⟩
  rw [fm_are_y I ha hb, pz_bs, if_neg (show ¬ ((1 : Int32), zz_u τ 47 0 0).1 = 0 from (by decide : ¬ (1 : Int32) = 0))]
  show ∃ rc b' τ', (fX7_requirePiece σ (nI b)).bind _ = _ ∧ _
  rw [fc_rp_y hc hn hb, pz_bs]
  show ∃ rc b' τ', (fX7_requireDifferent σ (nI a) (nI b)).bind _ = _ ∧ _
  by_cases g : nI a = nI b
  · rw [g, fc_rd_n, pz_bs, if_pos rfl]
    exact ⟨_, _, zz_u (zz_u τ 47 0 0) 47 0 2, rfl, rfl, pI_m I (pm_tr (pm_u0 τ 0) (pm_u0 _ 2)), Or.inr (Or.inr ⟨rfl, pz_us⟩)⟩
  · have R := (pI_m I (pm_u0 τ 0)).2.1
    rw [fc_rd_y g, pz_bs, if_neg g, fm_aff I.1.2.2.1 I.1.2.2.2.1 hn R.2.1 R.2.2.1 R.2.2.2.2.1 ha hb]
    refine ⟨_, _, zz_u τ 47 0 0, ?_, rfl, pI_m I (pm_u0 τ 0), Or.inl ⟨rfl, pz_us⟩⟩
    show (fX2_sumOfPoints σ (nI a) (nI b)).bind _ = _
    rw [fc_aff I.1.2.2.1 I.1.2.2.2.1 (by omega) (by omega)]
    rfl
/-- the closest: none so far, or the first of the greatest -/
theorem t_closest (I : pz_I n σ τ) (u : Int32) : ∃ rc b τ', fX7_closest σ u = some rc ∧ fX8_closest τ u = some (b, τ') ∧ pz_I n σ τ' ∧ pz_a1 "java/lang/IndexOutOfBoundsException" rc b (τ' 47 0) := by
  have hn := pI_n I
  have hc := pI_c I
  have ht : zz_u τ 47 0 0 47 1 = nI n := by rw [pz_uj (by decide)]; exact pI_t I
  unfold fX7_closest fX8_closest
  rcases pbd n (by omega) u with q | ⟨p, hp, rfl⟩
  · rw [fc_rp_n hc q, pz_bs, fm_pc_n ht hn q, pz_bs]
    exact ⟨_, _, zz_u (zz_u τ 47 0 0) 47 0 1, rfl, rfl, pI_m I (pm_tr (pm_u0 τ 0) (pm_u0 _ 1)), Or.inr ⟨rfl, pz_us⟩⟩
  rw [fc_rp_y hc hn hp, pz_bs, fm_pc_y ht hn hp, pz_bs, if_neg (by decide)]
  have R := (pI_m I (pm_u0 τ 0)).2.1
  have c5 := I.1.2.2.2.1
  -- both loops, by one fold: found (n if none) and its affinity
  let F : Nat → Option Nat → Option Nat := fun k y => if k = p then y else match y with
    | none => some k
    | some b => if vAf σ p b < vAf σ p k then some k else some b
  let W : Nat → Option Nat → Prop := fun k y => match y with
    | none => True
    | some b => b < k ∧ b < n
  have hW : ∀ k, k ≤ n → W k (pz_fd F none k) := fun k hk => pd_inv (fun k y => W k y) trivial k (fun j y hj hy => by
    show W (j + 1) (F j y)
    simp only [F]
    by_cases g : j = p
    · rw [if_pos g]
      cases y with
      | none => trivial
      | some b => exact ⟨Nat.lt_succ_of_lt hy.1, hy.2⟩
    · rw [if_neg g]
      cases y with
      | none => exact ⟨Nat.lt_succ_self j, by omega⟩
      | some b =>
        show W (j + 1) (if vAf σ p b < vAf σ p j then some j else some b)
        split
        · exact ⟨Nat.lt_succ_self j, by omega⟩
        · exact ⟨Nat.lt_succ_of_lt hy.1, hy.2⟩)
  let c1 : Option Nat → Int32 := fun y => match y with
    | none => -1
    | some b => nI b
  let c2 : Option Nat → Int32 := fun y => match y with
    | none => -1
    | some b => nI (vAf σ p b)
  have e1 := pz_for (S := Option Nat) (R := Int32 × Int32 × Int32) (fun f k y => fX7_closest_L1 σ (nI p) f (c1 y) (c2 y) (nI k)) F (fun y => (c1 y, c2 y, nI n)) n none (fun k f hk => by
    show fX7_closest_L1 σ (nI p) (f + 1) _ _ (nI k) = _
    have hw := hW k (by omega)
    generalize pz_fd F none k = y at hw
    rw [fX7_closest_L1, hc, if_neg (nI_ge hk (by omega))]
    show _ = fX7_closest_L1 σ (nI p) f (c1 (F k y)) (c2 (F k y)) (nI (k + 1))
    simp only [F]
    by_cases g : k = p
    · rw [if_pos (by rw [g]), pz_bs, if_pos g]
      have : (-1 : Int32) ≤ c2 y := by
        cases y with
        | none => exact Int32.le_refl _
        | some b => exact Int32.le_trans (by decide) (nI_pos' (n := vAf σ p b) (by have := vAf_le c5 p b; omega))
      rw [if_pos this, pz_bs, nI_1]
    · rw [if_neg (by rw [nI_eq (by omega) (by omega)]; exact g), fc_aff I.1.2.2.1 c5 (by omega) (by omega), pz_bs, pz_bs, if_neg g]
      have hk2 := vAf_le c5 p k
      cases y with
      | none =>
        have : ¬ nI (vAf σ p k) ≤ (-1 : Int32) := fun q => absurd (Int32.le_trans (nI_pos' (n := vAf σ p k) (by omega)) q) (by decide)
        rw [if_neg this, pz_bs, nI_1]
      | some b =>
        have hb2 := vAf_le c5 p b
        show (if nI (vAf σ p k) ≤ nI (vAf σ p b) then _ else _ : Option (Int32 × Int32)).bind _ = _
        by_cases q : vAf σ p b < vAf σ p k
        · rw [if_neg (by rw [nI_leI (by omega) (by omega)]; omega), pz_bs]
          show _ = fX7_closest_L1 σ (nI p) f (c1 (if vAf σ p b < vAf σ p k then some k else some b)) (c2 (if vAf σ p b < vAf σ p k then some k else some b)) (nI (k + 1))
          rw [if_pos q, nI_1]
        · rw [if_pos (by rw [nI_leI (by omega) (by omega)]; omega), pz_bs]
          show _ = fX7_closest_L1 σ (nI p) f (c1 (if vAf σ p b < vAf σ p k then some k else some b)) (c2 (if vAf σ p b < vAf σ p k then some k else some b)) (nI (k + 1))
          rw [if_neg q, nI_1]) (fun f => by
    show fX7_closest_L1 σ (nI p) (f + 1) _ _ (nI n) = _
    rw [fX7_closest_L1, hc, if_pos (Int32.le_refl _)]) 1000 0 (by omega) (by omega)
  have e2 := pz_for (S := Option Nat) (R := Int32 × Int32) (fun f k y => fX8_closest_L1 (zz_u τ 47 0 0) (nI p) f (c1 y) (nI k)) F (fun y => (c1 y, nI n)) n none (fun k f hk => by
    show fX8_closest_L1 (zz_u τ 47 0 0) (nI p) (f + 1) _ (nI k) = _
    have hw := hW k (by omega)
    generalize pz_fd F none k = y at hw
    rw [fX8_closest_L1, ht, if_neg (nI_ge hk (by omega))]
    show _ = fX8_closest_L1 (zz_u τ 47 0 0) (nI p) f (c1 (F k y)) (nI (k + 1))
    simp only [F]
    by_cases g : k = p
    · rw [if_pos (by rw [g]), pz_bs, if_pos g, if_neg (by decide), pz_bs, nI_1]
    · rw [if_neg (by rw [nI_eq (by omega) (by omega)]; exact g), if_neg g]
      cases y with
      | none => rw [if_pos (show c1 none = -1 from rfl), pz_bs, if_pos rfl, pz_bs, nI_1]
      | some b =>
        have hb := hw.2
        have hk2 := vAf_le c5 p k
        have hb2 := vAf_le c5 p b
        rw [if_neg (show ¬ c1 (some b) = -1 from fun q => absurd (nI_pos' (n := b) (by omega)) (by rw [show nI b = -1 from q]; decide))]
        show (((fX8_affinityOf (zz_u τ 47 0 0) (nI p) (nI k)).bind fun x15 => (fX8_affinityOf (zz_u τ 47 0 0) (nI p) (nI b)).bind _).bind _).bind _ = _
        rw [fm_aff I.1.2.2.1 c5 hn R.2.1 R.2.2.1 R.2.2.2.2.1 hp hk, pz_bs, fm_aff I.1.2.2.1 c5 hn R.2.1 R.2.2.1 R.2.2.2.2.1 hp hb, pz_bs]
        show _ = fX8_closest_L1 (zz_u τ 47 0 0) (nI p) f (c1 (if vAf σ p b < vAf σ p k then some k else some b)) (nI (k + 1))
        by_cases q : vAf σ p b < vAf σ p k
        · rw [if_neg (by rw [nI_leI (by omega) (by omega)]; omega), pz_bs, if_pos rfl, pz_bs, if_pos q, nI_1]
        · rw [if_pos (by rw [nI_leI (by omega) (by omega)]; omega), pz_bs, if_neg (by decide), pz_bs, if_neg q, nI_1]) (fun f => by
    show fX8_closest_L1 (zz_u τ 47 0 0) (nI p) (f + 1) _ (nI n) = _
    rw [fX8_closest_L1, ht, if_pos (Int32.le_refl _)]) 1000 0 (by omega) (by omega)
  refine ⟨.inl (c1 (pz_fd F none n)), c1 (pz_fd F none n), zz_u τ 47 0 0, ?_, ?_, pI_m I (pm_u0 τ 0), Or.inl ⟨rfl, pz_us⟩⟩
  · show (fX7_closest_L1 σ (nI p) 1000 (-1) (-1) 0).bind _ = _
    rw [show fX7_closest_L1 σ (nI p) 1000 (-1) (-1) 0 = _ from e1]
    rfl
  · rw [show fX8_closest_L1 (zz_u τ 47 0 0) (nI p) 1000 (-1) 0 = _ from e2]
    rfl
/-- needs -/
theorem pn_fin (X : Int32) : ((if X = 0 then some false else some true).bind fun b => some (zz_bi b)) = some (zz_bi (!decide (X = 0))) := by
  by_cases g : X = 0
  · rw [if_pos g, decide_eq_true g]; rfl
  · rw [if_neg g, decide_eq_false g]; rfl
theorem fc_need {a b : Nat} (ha : a < 14) (hb : b < 14) : fX5_isNeeded σ (nI a) (nI b) (σ 17 0) = some (zz_bi (vNd σ a b)) := by
  unfold fX5_isNeeded
  simp (disch := omega) only [pz_lit, pz_ix, pz_ga, pz_bs]
  exact pn_fin _
theorem fm_undef (r4 : pz_RL4 σ τ) : ∃ v, fX8_undefined τ = some v ∧ ∀ i, pz_b v i = (decide (i < 16) && !pz_b (σ 17 0) i) := by
  unfold fX8_undefined
  obtain ⟨r, hr, e⟩ := pz_loop (S := Int32) (R := Int32 × Int32) (fun f k s => fX8_undefined_L1 τ f s (nI k)) (fun k s => ∀ i, pz_b s i = (decide (i < k) && !pz_b (σ 17 0) i)) (fun r => ∀ i, pz_b r.1 i = (decide (i < 16) && !pz_b (σ 17 0) i)) 16
    (fun k f s hk hP => by
      refine Or.inl ⟨if pz_b (σ 17 0) k = true then s else s ||| ((1 : Int32) <<< (nI k &&& 31)), fun i => ?_, ?_⟩
      · have h := hP i
        by_cases g : i = k
        · subst g
          cases c : pz_b (σ 17 0) i with
          | true => rw [if_pos rfl, h, c]; simp
          | false => rw [if_neg (by decide), pb_or, pb_one (by omega)]; simp
        · have e : decide (i < k + 1) = decide (i < k) := by
            by_cases q : i < k
            · rw [decide_eq_true q, decide_eq_true (by omega)]
            · rw [decide_eq_false q, decide_eq_false (by omega)]
          rw [e, ← h]
          split
          · rfl
          · rw [pb_or, pb_one (by omega), decide_eq_false g, Bool.or_false]
      · show fX8_undefined_L1 τ (f + 1) s (nI k) = _
        rw [fX8_undefined_L1, if_neg (show ¬ (16 : Int32) ≤ nI k from nI_ge (a := k) (b := 16) hk (by decide)), pz_ga hk (by decide), pz_bs, (r4 k hk).1]
        cases c : pz_b (σ 17 0) k with
        | true => rw [if_neg (by decide), pz_bs, nI_1, if_pos rfl]
        | false => rw [if_pos (by decide), pz_bs, pz_bs, nI_1, if_neg (by decide)])
    (fun f s hP => ⟨(s, 16), hP, by
      show fX8_undefined_L1 τ (f + 1) s (nI 16) = _
      rw [fX8_undefined_L1, if_pos (by decide)]
      rfl⟩) 1000 0 0 (by decide) (fun i => by rw [pb_0, decide_eq_false (by omega)]; rfl) (by decide)
  exact ⟨r.1, by rw [show fX8_undefined_L1 τ 1000 (0 : Int32) (0 : Int32) = _ from e, pz_bs], hr⟩
theorem fm_need (c3 : pz_CW3 n σ) (hn : n ≤ 14) (r3 : pz_RL3 n σ τ) (r4 : pz_RL4 σ τ) {a b : Nat} (ha : a < n) (hb : b < n) : fX8_needsOf τ (nI a) (nI b) = some (zz_bi (vNd σ a b)) := by
  unfold fX8_needsOf vNd
  obtain ⟨v, e, hv⟩ := fm_undef r4
  rw [show (0 : Int32) = nI 0 from rfl, show (2 : Int32) = nI 2 from rfl, show (3 : Int32) = nI 3 from rfl, show (1 : Int32) = nI 1 from rfl, fm_names r3 hn hb (by decide), pz_bs, fm_names r3 hn ha (by decide), pz_bs, e, pz_bs, pz_bs, fm_names r3 hn hb (by decide), pz_bs, fm_names r3 hn ha (by decide), pz_bs, fm_names r3 hn hb (by decide), pz_bs, fm_names r3 hn ha (by decide), pz_bs]
  have q : (σ (8 + 0) b &&& σ (8 + 2) a &&& v ||| σ (8 + 3) b &&& σ (8 + 1) a) ||| (σ (8 + 1) b &&& σ (8 + 0) a) = (((σ 10 a &&& σ 8 b) &&& (σ 17 0 ^^^ (-1))) ||| (σ 9 a &&& σ 11 b)) ||| (σ 8 a &&& σ 9 b) := by
    apply pb_ext
    intro i hi
    rw [pb_or, pb_or, pb_and, pb_and, pb_and, pb_and, pb_or, pb_or, pb_and, pb_and, pb_and, pb_and, pb_not hi, hv]
    show (pz_b (σ 8 b) i && pz_b (σ 10 a) i && (decide (i < 16) && !pz_b (σ 17 0) i) || pz_b (σ 11 b) i && pz_b (σ 9 a) i || pz_b (σ 9 b) i && pz_b (σ 8 a) i) = _
    have d : pz_b (σ 8 b) i = true → decide (i < 16) = true := fun h => by
      rcases Nat.lt_or_ge i 16 with g | g
      · exact decide_eq_true g
      · rw [show pz_b (σ 8 b) i = false from pc_b16 c3 (w := 0) (by decide) (by omega) g] at h; cases h
    cases h1 : pz_b (σ 8 b) i with
    | false => cases pz_b (σ 10 a) i <;> cases pz_b (σ 11 b) i <;> cases pz_b (σ 9 a) i <;> cases pz_b (σ 9 b) i <;> cases pz_b (σ 8 a) i <;> cases pz_b (σ 17 0) i <;> rfl
    | true => rw [d h1]; cases pz_b (σ 10 a) i <;> cases pz_b (σ 11 b) i <;> cases pz_b (σ 9 a) i <;> cases pz_b (σ 9 b) i <;> cases pz_b (σ 8 a) i <;> cases pz_b (σ 17 0) i <;> rfl
  rw [q]
  exact pn_fin _
theorem t_needs (I : pz_I n σ τ) (u v : Int32) : ∃ rc b τ', fX7_needs σ u v = some rc ∧ fX8_needs τ u v = some (b, τ') ∧ pz_I n σ τ' ∧ pz_a2 "java/lang/IndexOutOfBoundsException" "java/lang/IllegalArgumentException" rc b (τ' 47 0) ∧ (b = 0 ∨ b = 1) := by
  have hn := pI_n I
  have hc := pI_c I
  unfold fX7_needs fX8_needs
  rcases pbd n (by omega) u with q | ⟨a, ha, rfl⟩
  · rw [fc_rp_n hc q, pz_bs, fm_are_n I (Or.inl q), pz_bs]
    exact ⟨_, _, zz_u τ 47 0 1, rfl, rfl, pI_m I (pm_u0 τ 1), Or.inr (Or.inl ⟨rfl, pz_us⟩), Or.inl rfl⟩
  rw [fc_rp_y hc hn ha, pz_bs]
  rcases pbd n (by omega) v with q | ⟨b, hb, rfl⟩
  · rw [fm_are_n I (Or.inr q), pz_bs]
    show ∃ rc b τ', (fX7_requirePiece σ v).bind _ = _ ∧ _
    rw [fc_rp_n hc q, pz_bs]
    exact ⟨_, _, zz_u τ 47 0 1, rfl, rfl, pI_m I (pm_u0 τ 1), Or.inr (Or.inl ⟨rfl, pz_us⟩), Or.inl rfl⟩
  rw [fm_are_y I ha hb, pz_bs, if_neg (show ¬ ((1 : Int32), zz_u τ 47 0 0).1 = 0 from (by decide : ¬ (1 : Int32) = 0))]
  show ∃ rc b' τ', (fX7_requirePiece σ (nI b)).bind _ = _ ∧ _
  rw [fc_rp_y hc hn hb, pz_bs]
  show ∃ rc b' τ', (fX7_requireDifferent σ (nI a) (nI b)).bind _ = _ ∧ _
  by_cases g : nI a = nI b
  · rw [g, fc_rd_n, pz_bs, if_pos rfl, pz_bs, pz_us, if_neg (by decide)]
    exact ⟨_, _, zz_u (zz_u τ 47 0 0) 47 0 2, rfl, rfl, pI_m I (pm_tr (pm_u0 τ 0) (pm_u0 _ 2)), Or.inr (Or.inr ⟨rfl, pz_us⟩), Or.inl rfl⟩
  · have I2 := pI_m (pI_m I (pm_u0 τ 0)) (pm_u0 _ 0)
    have R := I2.2.1
    rw [fc_rd_y g, pz_bs, if_neg g, pz_bs, pz_us, if_pos rfl, fm_need I.1.2.2.1 hn R.2.2.1 R.2.2.2.1 ha hb, pz_bs]
    refine ⟨.inl (zz_bi (vNd σ a b)), zz_bi (vNd σ a b), zz_u (zz_u τ 47 0 0) 47 0 0, ?_, ?_, I2, Or.inl ⟨rfl, pz_us⟩, zz_bi01 _⟩
    · show (fX5_isNeeded σ (nI a) (nI b) (σ 17 0)).bind _ = _
      rw [fc_need (by omega) (by omega), pz_bs, pz_bo, pz_bs]
    · cases vNd σ a b <;> rfl
theorem t_setName (I : pz_I n σ τ) (u w v : Int32) (hw : w = 0 ∨ w = 1) : ∃ rc σ' b τ', fX7_setName σ u w v = some (rc, σ') ∧ fX8_setName τ u w v = some (b, τ') ∧ pz_I n σ' τ' ∧ pz_a2 "java/lang/IndexOutOfBoundsException" "java/lang/IllegalArgumentException" rc b (τ' 47 0) ∧ (b = 0 ∨ b = 1) := by
  unfold fX7_setName fX8_setName
  have e : (if u < 0 then some true else if u < 16 then some false else some true) = some (!pz_in 0 15 u) := by
    rcases pbd 16 (by decide) u with q | ⟨k, hk, rfl⟩
    · rw [show pz_in 0 15 u = false from pin_b (m := 15) (by decide) q]
      by_cases g : u < 0
      · rw [if_pos g]; rfl
      · rcases q with q | q
        · exact absurd q g
        · rw [if_neg g, if_neg (show ¬ u < 16 from Int32.not_lt.mpr q)]; rfl
    · rw [show pz_in 0 15 (nI k) = true from pin_y (m := 15) (by decide) (by omega), if_neg (nI_pos (n := k) (by omega)), if_pos (show nI k < 16 from nI_lt (a := k) (b := 16) hk (by decide))]; rfl
  rw [e, pz_bs, fm_in, pz_bs]
  rcases pbd 16 (by decide) u with q | ⟨x, hx, rfl⟩
  · rw [show pz_in 0 15 u = false from pin_b (m := 15) (by decide) q, if_pos (by decide), if_pos (by decide), pz_bs, pz_us, if_neg (by decide)]
    exact ⟨_, σ, _, zz_u τ 47 0 1, rfl, rfl, pI_m I (pm_u0 τ 1), Or.inr (Or.inl ⟨rfl, pz_us⟩), Or.inl rfl⟩
  rw [show pz_in 0 15 (nI x) = true from pin_y (m := 15) (by decide) (by omega), if_neg (by decide), if_neg (by decide), fc_up, pz_bs, fm_in, pz_bs]
  cases hv : pz_in 0 9 v with
  | false =>
    rw [if_pos (by decide), if_pos (by decide), pz_bs, pz_bs, pz_us, if_neg (by decide)]
    exact ⟨_, σ, _, zz_u τ 47 0 2, rfl, rfl, pI_m I (pm_u0 τ 2), Or.inr (Or.inr ⟨rfl, pz_us⟩), Or.inl rfl⟩
  | true =>
    obtain ⟨⟨c1, c2, c3, c5, c6⟩, ⟨r1, r2, r3, r4, r5, r6⟩⟩ := pI_fg I
    have hwb : zz_bo w = some w := by unfold zz_bo; rw [if_pos hw]
    obtain ⟨d, hd⟩ : ∃ d : Bool, w = zz_bi d := by
      rcases hw with h | h
      · exact ⟨false, h⟩
      · exact ⟨true, h⟩
    obtain ⟨x52, x53⟩ := r4 x hx
    have e1 : fX1_learn (pz_fg σ) (nI x) w v = some (zz_bi (!(decide (d = pz_b (pz_fg σ 17 0) x) && decide (v = pz_fg σ 18 x))), zz_u (zz_u (pz_fg σ) 17 0 (if d = true then pz_fg σ 17 0 ||| ((1 : Int32) <<< (nI x &&& 31)) else pz_fg σ 17 0 &&& (((1 : Int32) <<< (nI x &&& 31)) ^^^ (-1)))) 18 x v) := by
      unfold fX1_learn
      rw [pf_isIn (by omega), pz_bs, hd]
      by_cases g : d = pz_b (pz_fg σ 17 0) x
      · rw [if_pos (by rw [g]), pz_ga (by omega) (by decide), pz_bs, decide_eq_true g]
        by_cases g2 : v = pz_fg σ 18 x
        · rw [if_pos g2, decide_eq_true g2, pz_bs, pz_bs]
          cases d <;> (simp (disch := omega) only [pz_pa]; rfl)
        · rw [if_neg g2, decide_eq_false g2, pz_bs, pz_bs]
          cases d <;> (simp (disch := omega) only [pz_pa]; rfl)
      · rw [if_neg (by rw [pz_bii]; exact g), decide_eq_false g, pz_bs, pz_bs]
        cases d <;> (simp (disch := omega) only [pz_pa]; rfl)
    rw [if_neg (by decide), if_neg (by decide), fc_fg, pz_bs, e1, pz_bs, pz_bo, pz_bs, pz_bs, pz_bs, pz_us, if_pos rfl, pz_uq (by decide), pz_uq (by decide), pz_ga (by omega) (by decide), pz_bs, x52]
    have e2 : (if zz_bi (pz_b (pz_fg σ 17 0) x) = w then (zz_ga (τ 53) 16 (nI x)).bind fun x20 => if x20 = v then some false else some true else some true) = some (!(decide (d = pz_b (pz_fg σ 17 0) x) && decide (v = pz_fg σ 18 x))) := by
      rw [hd, pz_ga (by omega) (by decide), pz_bs, ← x53]
      by_cases g : d = pz_b (pz_fg σ 17 0) x
      · rw [if_pos (by rw [g]), decide_eq_true g]
        by_cases g2 : v = pz_fg σ 18 x
        · rw [if_pos g2.symm, decide_eq_true g2]; rfl
        · rw [if_neg (fun q => g2 q.symm), decide_eq_false g2]; rfl
      · rw [if_neg (by rw [pz_bii]; exact fun q => g q.symm), decide_eq_false g]; rfl
    rw [e2, pz_bs, pz_bs, hwb, pz_bs, pz_pa (by omega) (by decide), pz_bs, pz_pa (by omega) (by decide), pz_bs, pz_bo, pz_bs]
    refine ⟨_, _, _, _, rfl, rfl, ?_, Or.inl ⟨rfl, ?_⟩, zz_bi01 _⟩
    · generalize hN : (if d = true then pz_fg σ 17 0 ||| ((1 : Int32) <<< (nI x &&& 31)) else pz_fg σ 17 0 &&& (((1 : Int32) <<< (nI x &&& 31)) ^^^ (-1))) = N
      show pz_I n (zz_u (zz_u (pz_fg σ) 17 0 N) 18 x v) (zz_u (zz_u (zz_u τ 47 0 0) 52 x w) 53 x v)
      have hb : ∀ i, i < 16 → pz_b N i = if i = x then d else pz_b (pz_fg σ 17 0) i := by
        intro i hi
        rw [← hN]
        cases d with
        | true =>
          rw [if_pos rfl, pb_or, pb_one (by omega)]
          by_cases g : i = x
          · rw [if_pos g, decide_eq_true g, Bool.or_true]
          · rw [if_neg g, decide_eq_false g, Bool.or_false]
        | false =>
          rw [if_neg (by decide), pb_nand (by omega)]
          by_cases g : i = x
          · rw [if_pos g, decide_eq_true g]; simp
          · rw [if_neg g, decide_eq_false g]; simp
      refine ⟨⟨cw1_c (by rw [pz_uq (by decide), pz_uq (by decide)]) c1, cw2_c (by rw [pz_uq (by decide), pz_uq (by decide)]) c2, cw3_c (fun q a b => by rw [pz_uq (by omega), pz_uq (by omega)]) c3, cw5_c (by rw [pz_uq (by decide), pz_uq (by decide)]) (by rw [pz_uq (by decide), pz_uq (by decide)]) (by rw [pz_uq (by decide), pz_uq (by decide)]) c5, cw6_c (by rw [pz_uq (by decide), pz_uq (by decide)]) (by rw [pz_uq (by decide), pz_uq (by decide)]) c6⟩, ⟨by rw [pz_uq (by decide), pz_uq (by decide), pz_uj (by decide)]; exact r1, rl2_c (fun q a b => by rw [pz_uq (by omega), pz_uq (by omega)]) (by rw [pz_uq (by decide), pz_uq (by decide), pz_uq (by decide)]) (by rw [pz_uq (by decide), pz_uq (by decide), pz_uq (by decide)]) r2, rl3_c (fun q a b => by rw [pz_uq (by omega), pz_uq (by omega)]) (by rw [pz_uq (by decide), pz_uq (by decide), pz_uq (by decide)]) r3, ?_, rl5_c (by rw [pz_uq (by decide), pz_uq (by decide)]) (by rw [pz_uq (by decide), pz_uq (by decide)]) (by rw [pz_uq (by decide), pz_uq (by decide)]) (by rw [pz_uq (by decide), pz_uq (by decide)]) (by rw [pz_uq (by decide), pz_uq (by decide), pz_uq (by decide)]) (by rw [pz_uq (by decide), pz_uq (by decide), pz_uj (by decide)]) (by rw [pz_uq (by decide), pz_uq (by decide), pz_uj (by decide)]) (by rw [pz_uq (by decide), pz_uq (by decide), pz_uj (by decide)]) r5, rl6_c (by rw [pz_uq (by decide), pz_uq (by decide)]) (by rw [pz_uq (by decide), pz_uq (by decide)]) (by rw [pz_uq (by decide), pz_uq (by decide), pz_uq (by decide)]) r6⟩, pK_fg (by rw [pz_uq (by decide), pz_uq (by decide)])⟩
      intro y hy
      obtain ⟨a, b⟩ := r4 y hy
      rw [pz_uq (show 52 ≠ 53 by decide), pz_uq (show 17 ≠ 18 by decide), pz_us, pz_u, pz_u _ 18, pz_u _ 53, hb y hy]
      by_cases g : y = x
      · rw [if_pos ⟨rfl, g⟩, if_pos g, if_pos ⟨rfl, g⟩, if_pos ⟨rfl, g⟩, hd]; exact ⟨rfl, rfl⟩
      · rw [if_neg (by omega), if_neg g, if_neg (by omega), if_neg (by omega), pz_uq (by decide), pz_uq (by decide), pz_uq (by decide)]
        rw [pz_uq (by decide)]
        exact ⟨a, b⟩
    · rw [pz_uq (by decide), pz_uq (by decide), pz_us]
end MO
