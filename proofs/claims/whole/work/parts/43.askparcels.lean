/-! pure part: what is asked of parcels; what is broken -/
section QP
variable {n : Nat} {σ σ' τ τ' : zz_St}
theorem t_parcelCount (I : pz_I n σ τ) : ∃ b σ' τ', fX7_parcelCount σ = some (b, σ') ∧ fX8_parcelCount τ = some (b, τ') ∧ pz_I n σ' τ' := by
  obtain ⟨σ', e, I', D, _⟩ := fc_together I
  obtain ⟨τ', e2, I2, H, P, z⟩ := fm_p I'
  refine ⟨σ' 41 0, σ', τ', ?_, ?_, I2⟩
  · unfold fX7_parcelCount; rw [e, pz_bs]
  · unfold fX8_parcelCount; rw [e2, pz_bs, P.1, D.2.2.2.1]
theorem vM_le (n : Nat) (σ : zz_St) : vM n σ ≤ n := ppc_le
theorem fc_rq_y {k : Nat} (e : fX7_putTogether σ = some σ') (hk : σ' 41 0 = nI k) (hk2 : k ≤ 14) {i : Nat} (hi : i < k) : fX7_requireParcel σ (nI i) = some (.inl (), σ') := by
  unfold fX7_requireParcel
  rw [e, pz_bs, hk, if_neg (nI_pos (n := i) (by omega)), if_pos (nI_lt hi (by omega))]
  rfl
theorem fc_rq_n {k : Nat} (e : fX7_putTogether σ = some σ') (hk : σ' 41 0 = nI k) {v : Int32} (hv : pz_bd k v) : fX7_requireParcel σ v = some (.inr "java/lang/IndexOutOfBoundsException", σ') := by
  unfold fX7_requireParcel
  rw [e, pz_bs, hk]
  by_cases g : v < 0
  · rw [if_pos g]; rfl
  · rcases hv with q | q
    · exact absurd q g
    · rw [if_neg g, if_neg (Int32.not_lt.mpr q)]; rfl
theorem fm_ip {k : Nat} (hk : k ≤ 14) (v : Int32) : (pz_bd k v → pz_in 0 (nI k - 1) v = false) ∧ (∀ i, i < k → pz_in 0 (nI k - 1) (nI i) = true) := by
  constructor
  · intro hv
    cases k with
    | zero =>
      unfold pz_in
      rw [show nI 0 - 1 = -1 by decide]
      cases q : decide ((0 : Int32) ≤ v) with
      | false => rfl
      | true =>
        rw [decide_eq_false, Bool.and_false]
        intro g
        have := Int32.le_trans (of_decide_eq_true q) g
        exact absurd this (by decide)
    | succ k => rw [show nI (k + 1) - 1 = nI k from nI_pred k, pin_b (by omega) hv]
  · intro i hi
    rw [show nI k - 1 = nI (k - 1) from pk_sub (a := k) (b := 1) (by omega), pin_y (by omega) (by omega)]
theorem fm_isParcel (I : pz_I n σ τ) : ∃ τ', pz_I n σ τ' ∧ pz_HH n (vH n σ) τ' ∧ pz_MP n σ τ' ∧ τ' 47 0 = 0 ∧ (∀ v, pz_bd (vM n σ) v → fX8_isParcel (zz_u τ 47 0 0) v = some (0, τ')) ∧ (∀ i, i < vM n σ → fX8_isParcel (zz_u τ 47 0 0) (nI i) = some (1, τ')) := by
  obtain ⟨τ', e2, I2, H, P, z⟩ := fm_p I
  have hn := pI_n I
  have := vM_le n σ
  refine ⟨τ', I2, H, P, z, fun v hv => ?_, fun i hi => ?_⟩
  · unfold fX8_isParcel
    rw [e2, pz_bs, P.1, fm_in, (fm_ip (by omega) v).1 hv]
    rfl
  · unfold fX8_isParcel
    rw [e2, pz_bs, P.1, fm_in, (fm_ip (by omega) (nI i)).2 i hi]
    rfl
theorem fm_pset (I : pz_I n σ τ) (P : pz_MP n σ τ) {i : Nat} (hi : i < vM n σ) : ∃ x, fX8_setOf_a57 τ (nI (pz_od n (vF n σ) i)) = some x ∧ ∀ b, pz_b x b = pz_P n (vF n σ) i b := by
  have o := pod_ok (vF_eq n σ) hi
  have hn := pI_n I
  exact fm_set57 (B := pz_lo (vF n σ)) (pI_t I) hn (fun p hp => ⟨P.2.1 p hp, by have := pl_le (vF n σ) p; omega⟩) (by omega)
theorem t_parcel (I : pz_I n σ τ) (v : Int32) : ∃ rc σ' b τ', fX7_parcel σ v = some (rc, σ') ∧ fX8_parcel τ v = some (b, τ') ∧ pz_I n σ' τ' ∧ pz_a1 "java/lang/IndexOutOfBoundsException" rc b (τ' 47 0) := by
  have hn := pI_n I
  obtain ⟨σ', e, I', D, _⟩ := fc_together I
  obtain ⟨τ', I2, H, P, z, pn, py⟩ := fm_isParcel I'
  have hm := vM_le n σ'
  unfold fX7_parcel fX8_parcel
  rcases pbd (vM n σ') (by omega) v with q | ⟨i, hi, rfl⟩
  · rw [fc_rq_n e D.2.2.2.1 q, pz_bs, pn v q, pz_bs, if_pos rfl]
    exact ⟨_, σ', _, zz_u τ' 47 0 1, rfl, rfl, pI_m I2 (pm_u0 τ' 1), Or.inr ⟨rfl, pz_us⟩⟩
  · obtain ⟨x, ex, hx⟩ := fm_pset I2 P hi
    rw [fc_rq_y e D.2.2.2.1 (by omega) hi, pz_bs, py i hi, pz_bs, if_neg (show ¬ ((1 : Int32), τ').1 = 0 from (by decide : ¬ (1 : Int32) = 0)), pz_ga (by omega) (by decide), pz_bs]
    show ∃ rc σ'' b τ'', _ ∧ ((fX8_setOf_a57 τ' (τ' 58 i)).bind fun x11 => some (x11, τ')).bind _ = _ ∧ _
    rw [P.2.2 i hi, ex]
    refine ⟨.inl (σ' 42 i), σ', x, τ', ?_, rfl, I2, Or.inl ⟨?_, z⟩⟩
    · show (zz_ga (σ' 42) 14 (nI i)).bind _ = _
      rw [pz_ga (by omega) (by decide), pz_bs]
    · congr 1
      exact pb_ext fun b _ => by rw [D.2.2.2.2.2 i hi, hx]
theorem t_parcelOf (I : pz_I n σ τ) (v : Int32) : ∃ rc σ' b τ', fX7_parcelOf σ v = some (rc, σ') ∧ fX8_parcelOf τ v = some (b, τ') ∧ pz_I n σ' τ' ∧ pz_a1 "java/lang/IndexOutOfBoundsException" rc b (τ' 47 0) := by
  have hn := pI_n I
  have hc := pI_c I
  have ht : zz_u τ 47 0 0 47 1 = nI n := by rw [pz_uj (by decide)]; exact pI_t I
  unfold fX7_parcelOf fX8_parcelOf
  rcases pbd n (by omega) v with q | ⟨p, hp, rfl⟩
  · rw [fc_rp_n hc q, pz_bs, fm_pc_n ht hn q, pz_bs, if_pos rfl]
    exact ⟨_, σ, _, zz_u (zz_u τ 47 0 0) 47 0 1, rfl, rfl, pI_m I (pm_tr (pm_u0 τ 0) (pm_u0 _ 1)), Or.inr ⟨rfl, pz_us⟩⟩
  obtain ⟨σ', e, I', D, _⟩ := fc_together I
  obtain ⟨τ', e2, I2, H, P, z⟩ := fm_p I'
  have hm := vM_le n σ'
  -- the first parcel that has it
  obtain ⟨j, hj, hP⟩ := ppc_all (vF_eq n σ') hp
  have lt : pz_f (fun k => pz_P n (vF n σ') k p) (vM n σ') < vM n σ' := by
    have := pf_le (P := fun k => pz_P n (vF n σ') k p) (n := vM n σ') hP
    unfold vM at *
    omega
  have yes := pf3 (fun k => pz_P n (vF n σ') k p) (vM n σ') lt
  have no := pf2 (fun k => pz_P n (vF n σ') k p) (vM n σ')
  generalize pz_f (fun k => pz_P n (vF n σ') k p) (vM n σ') = K at lt yes no
  have e7 : fX7_placeOf_a42 σ' (nI p) (nI (vM n σ')) = some (nI K) := by
    unfold fX7_placeOf_a42
    obtain ⟨r, hr, er⟩ := pz_loop (S := Unit) (R := Int32 ⊕ Int32) (fun f j _ => fX7_placeOf_a42_L1 σ' (nI p) (nI (vM n σ')) f (nI j)) (fun _ _ => True) (fun r => r = .inl (nI K)) K
      (fun j f _ hj _ => Or.inl ⟨(), trivial, by
        show fX7_placeOf_a42_L1 σ' (nI p) (nI (vM n σ')) (f + 1) (nI j) = _
        have b := no j hj
        rw [fX7_placeOf_a42_L1, if_neg (nI_ge (show j < vM n σ' by omega) (by omega)), if_neg (show ¬ (14 : Int32) ≤ nI j from nI_ge (a := j) (b := 14) (by omega) (by decide)), pz_bs, if_pos rfl, pz_ga (by omega) (by decide), pz_bs, pf_isIn (by omega), pz_bs, D.2.2.2.2.2 j (by omega), b, if_pos (by decide), nI_1]⟩)
      (fun f _ _ => ⟨_, rfl, by
        show fX7_placeOf_a42_L1 σ' (nI p) (nI (vM n σ')) (f + 1) (nI K) = _
        rw [fX7_placeOf_a42_L1, if_neg (nI_ge lt (by omega)), if_neg (show ¬ (14 : Int32) ≤ nI K from nI_ge (a := K) (b := 14) (by omega) (by decide)), pz_bs, if_pos rfl, pz_ga (by omega) (by decide), pz_bs, pf_isIn (by omega), pz_bs, D.2.2.2.2.2 K lt, yes, if_neg (by decide)]⟩) 1000 0 () (Nat.zero_le _) trivial (by omega)
    rw [show fX7_placeOf_a42_L1 σ' (nI p) (nI (vM n σ')) 1000 (0 : Int32) = _ from er, pz_bs, hr]
  have lo := pl_le (vF n σ') p
  have e8 : fX8_parcelOf_L1 τ' (nI p) 1000 0 = some (nI K) := by
    have un : ∀ f j, j < vM n σ' → fX8_parcelOf_L1 τ' (nI p) (f + 1) (nI j) = if pz_P n (vF n σ') j p = true then some (nI j) else fX8_parcelOf_L1 τ' (nI p) f (nI (j + 1)) := by
      intro f j hj
      have o := pod_ok (vF_eq n σ') hj
      rw [fX8_parcelOf_L1, pz_ga (by omega) (by decide), pz_bs, P.2.2 j hj, pz_ga (by omega) (by decide), pz_bs, P.2.1 p hp]
      by_cases g : pz_od n (vF n σ') j = pz_lo (vF n σ') p
      · rw [if_pos (by rw [g]), if_pos (pP.mpr ⟨hp, g.symm⟩)]
      · rw [if_neg (by rw [nI_eq (by omega) (by omega)]; exact g), if_neg (fun q => g (pP.mp q).2.symm), nI_1]
    obtain ⟨r, hr, er⟩ := pz_loop (S := Unit) (R := Int32) (fun f j _ => fX8_parcelOf_L1 τ' (nI p) f (nI j)) (fun _ _ => True) (fun r => r = nI K) K
      (fun j f _ hj _ => Or.inl ⟨(), trivial, by
        show fX8_parcelOf_L1 τ' (nI p) (f + 1) (nI j) = _
        rw [un f j (by omega), if_neg (by rw [no j hj]; decide)]⟩)
      (fun f _ _ => ⟨_, rfl, by
        show fX8_parcelOf_L1 τ' (nI p) (f + 1) (nI K) = _
        rw [un f K lt, if_pos yes]⟩) 1000 0 () (Nat.zero_le _) trivial (by omega)
    rw [← hr]; exact er
  rw [fc_rp_y hc hn hp, pz_bs, fm_pc_y ht hn hp, pz_bs, if_neg (by decide), e2, pz_bs, e8]
  refine ⟨.inl (nI K), σ', nI K, τ', ?_, rfl, I2, Or.inl ⟨rfl, z⟩⟩
  show (fX7_putTogether σ).bind _ = _
  rw [e, pz_bs, D.2.2.2.1, e7, pz_bs]
theorem t_knots (I : pz_I n σ τ) : ∃ b σ' τ', fX7_knots σ = some (b, σ') ∧ fX8_knots τ = some (b, τ') ∧ pz_I n σ' τ' := by
  have hn := pI_n I
  obtain ⟨σ', e, I', D, _⟩ := fc_together I
  obtain ⟨τ', e2, I2, H, P, z⟩ := fm_p I'
  have hm := vM_le n σ'
  have hh := vH_Hd (n := n) I'.1.2.2.2.1
  refine ⟨σ' 41 1, σ', τ', ?_, ?_, I2⟩
  · unfold fX7_knots; rw [e, pz_bs]
  · unfold fX8_knots
    rw [e2, pz_bs, D.2.2.2.2.1]
    unfold pz_kn
    obtain ⟨r, hr, er⟩ := pz_loop (S := Int32) (R := Int32 × Int32) (fun f k s => fX8_knots_L1 τ' f s (nI k)) (fun k s => s = nI (pz_ct (fun j => pz_ex (fun q => pz_P n (vF n σ') j q && !decide (vH n σ' q = pz_od n (vF n σ') j)) n) k)) (fun r => r.1 = nI (pz_ct (fun j => pz_ex (fun q => pz_P n (vF n σ') j q && !decide (vH n σ' q = pz_od n (vF n σ') j)) n) (vM n σ'))) (vM n σ')
      (fun k f s hk hP => by
        have o := pod_ok (vF_eq n σ') hk
        obtain ⟨x, ex, hx⟩ := fm_pset I2 P hk
        obtain ⟨y, ey, hy⟩ := fm_set55 (pI_t I2) hn hh H (v := pz_od n (vF n σ') k) (by omega)
        refine Or.inl ⟨_, rfl, ?_⟩
        show fX8_knots_L1 τ' (f + 1) s (nI k) = _
        rw [fX8_knots_L1, P.1, if_neg (nI_ge hk (by omega)), pz_ga (by omega) (by decide), pz_bs, P.2.2 k hk, ex, pz_bs, pz_bs, ey, pz_bs, pz_ct, hP]
        have same : x = y ↔ pz_ex (fun q => pz_P n (vF n σ') k q && !decide (vH n σ' q = pz_od n (vF n σ') k)) n = false := by
          rw [pex_f]
          constructor
          · intro g q hq
            have := hx q
            rw [g, hy] at this
            rw [← this]
            unfold pz_G
            cases decide (vH n σ' q = pz_od n (vF n σ') k) <;> cases decide (q < n) <;> rfl
          · intro g
            apply pb_ext
            intro q _
            rw [hx, hy, Bool.eq_iff_iff, pP, pG]
            constructor
            · rintro ⟨a, b⟩
              refine ⟨a, ?_⟩
              have := g q a
              rw [pP.mpr ⟨a, b⟩, Bool.true_and, Bool.not_eq_false', decide_eq_true_iff] at this
              exact this
            · rintro ⟨a, b⟩
              exact ⟨a, by rw [← vLo_h I'.1.2.2.2.1 a, b]; exact o.2.2.2⟩
        cases g : pz_ex (fun q => pz_P n (vF n σ') k q && !decide (vH n σ' q = pz_od n (vF n σ') k)) n with
        | false => rw [if_pos (same.mpr g), pz_bs, pz_bs, if_neg (by decide), nI_1, show (0 : Int32) = nI 0 from rfl, nI_add]
        | true => rw [if_neg (fun q => by rw [same.mp q] at g; cases g), pz_bs, pz_bs, if_pos rfl, nI_1, nI_1])
      (fun f s hP => ⟨(s, nI (vM n σ')), hP, by
        show fX8_knots_L1 τ' (f + 1) s (nI (vM n σ')) = _
        rw [fX8_knots_L1, P.1, if_pos (Int32.le_refl _)]⟩) 1000 0 0 (Nat.zero_le _) rfl (by omega)
    rw [show fX8_knots_L1 τ' 1000 (0 : Int32) (0 : Int32) = _ from er, pz_bs, hr]
    rfl
theorem t_lines (I : pz_I n σ τ) (v : Int32) : ∃ rc σ' b τ', fX7_lines σ v = some (rc, σ') ∧ fX8_lines τ v = some (b, τ') ∧ pz_I n σ' τ' ∧ pz_a1 "java/lang/IndexOutOfBoundsException" rc b (τ' 47 0) := by
  have hn := pI_n I
  obtain ⟨σ', e, I', D, _⟩ := fc_together I
  obtain ⟨τ', I2, H, P, z, pn, py⟩ := fm_isParcel I'
  have hm := vM_le n σ'
  unfold fX7_lines fX8_lines
  rcases pbd (vM n σ') (by omega) v with q | ⟨i, hi, rfl⟩
  · rw [fc_rq_n e D.2.2.2.1 q, pz_bs, pn v q, pz_bs, if_pos rfl]
    exact ⟨_, σ', _, zz_u τ' 47 0 1, rfl, rfl, pI_m I2 (pm_u0 τ' 1), Or.inr ⟨rfl, pz_us⟩⟩
  · have o := pod_ok (vF_eq n σ') hi
    let F : Nat → Int32 → Int32 := fun p s => if pz_P n (vF n σ') i p = true then s + (σ' 4 p + σ' 5 p) else s
    have e7 : fX5_linesOf σ' (σ' 42 i) = some (pz_fd F 0 n) := by
      unfold fX5_linesOf
      have e := pz_for (S := Int32) (fun f p s => fX5_linesOf_L1 σ' (σ' 42 i) f s (nI p)) F (fun s => (s, nI n)) n 0 (fun p f hp => by
        show fX5_linesOf_L1 σ' (σ' 42 i) (f + 1) _ (nI p) = _
        rw [fX5_linesOf_L1, pI_c I', if_neg (nI_ge hp (by omega)), pf_isIn (by omega), pz_bs, D.2.2.2.2.2 i hi, pz_ga (by omega) (by decide), pz_bs, pz_ga (by omega) (by decide), pz_bs, pz_bs]
        generalize pz_fd F 0 p = s
        show _ = fX5_linesOf_L1 σ' (σ' 42 i) f (if pz_P n (vF n σ') i p = true then s + (σ' 4 p + σ' 5 p) else s) (nI (p + 1))
        cases pz_P n (vF n σ') i p with
        | true => rw [if_neg (by decide), pz_bs, if_pos rfl, nI_1]
        | false => rw [if_pos (by decide), pz_bs, if_neg (by decide), nI_1]) (fun f => by
        show fX5_linesOf_L1 σ' (σ' 42 i) (f + 1) _ (nI n) = _
        rw [fX5_linesOf_L1, pI_c I', if_pos (Int32.le_refl _)]) 1000 0 (Nat.zero_le _) (by omega)
      rw [show fX5_linesOf_L1 σ' (σ' 42 i) 1000 (0 : Int32) (0 : Int32) = _ from e, pz_bs]
    have e8 : fX8_lines_L1 τ' (nI i) 1000 0 0 = some (pz_fd F 0 n, nI n) := by
      exact pz_for (S := Int32) (fun f p s => fX8_lines_L1 τ' (nI i) f s (nI p)) F (fun s => (s, nI n)) n 0 (fun p f hp => by
        have lo := pl_le (vF n σ') p
        have r2 := I2.2.1.2.1 p hp
        show fX8_lines_L1 τ' (nI i) (f + 1) _ (nI p) = _
        rw [fX8_lines_L1, pI_t I2, if_neg (nI_ge hp (by omega)), pz_ga (by omega) (by decide), pz_bs, P.2.1 p hp, pz_ga (by omega) (by decide), pz_bs, P.2.2 i hi, show (4 : Int32) = nI 4 from rfl, pk_mul, show (2 : Int32) = nI 2 from rfl, nI_add, pz_ga (by omega) (by decide), pz_bs, show (3 : Int32) = nI 3 from rfl, nI_add, pz_ga (by omega) (by decide), pz_bs, ← r2.2.2.1, ← r2.2.2.2.1]
        generalize pz_fd F 0 p = s
        show _ = fX8_lines_L1 τ' (nI i) f (if pz_P n (vF n σ') i p = true then s + (σ' 4 p + σ' 5 p) else s) (nI (p + 1))
        by_cases g : pz_lo (vF n σ') p = pz_od n (vF n σ') i
        · rw [if_pos (by rw [g]), pz_bs, pz_bs, if_pos (pP.mpr ⟨hp, g⟩), nI_1]
        · rw [if_neg (by rw [nI_eq (by omega) (by omega)]; exact g), pz_bs, pz_bs, if_neg (fun q => g (pP.mp q).2), nI_1, Int32.add_zero]) (fun f => by
        show fX8_lines_L1 τ' (nI i) (f + 1) _ (nI n) = _
        rw [fX8_lines_L1, pI_t I2, if_pos (Int32.le_refl _)]) 1000 0 (Nat.zero_le _) (by omega)
    rw [fc_rq_y e D.2.2.2.1 (by omega) hi, pz_bs, py i hi, pz_bs, if_neg (show ¬ ((1 : Int32), τ').1 = 0 from (by decide : ¬ (1 : Int32) = 0)), e8, pz_bs]
    refine ⟨.inl (pz_fd F 0 n), σ', _, τ', ?_, rfl, I2, Or.inl ⟨rfl, z⟩⟩
    show (zz_ga (σ' 42) 14 (nI i)).bind _ = _
    rw [pz_ga (by omega) (by decide), pz_bs, e7, pz_bs]
/-! broken -/
/-- the class's word for a set of pieces, as far as names -/
theorem fc_count (c3 : pz_CW3 n σ) {w x : Nat} (hw : w < 4) (hx : x < 16) (s : Int32) : fJ6_bitCount (σ (13 + w) x &&& s) = some (nI (pz_ct (fun p => pz_b (σ (8 + w) p) x && pz_b s p) 14)) := by
  have hb := (c3 w hw).2.2 x
  rw [pf_bc (fun i hi => by rw [pb_and, hb i hx, decide_eq_false (show ¬ i < 14 by omega)]; rfl)]
  congr 2
  rw [pz_ct, pz_ct, pb_and, pb_and, hb 15 hx, hb 14 hx]
  show pz_ct _ 14 + 0 + 0 = _
  exact pc_cong fun i hi => by rw [pb_and, hb i hx, decide_eq_true hi, Bool.true_and]
theorem fc_broken (c3 : pz_CW3 n σ) (s : Int32) : ∃ v, fX1_brokenBy σ s = some v ∧ ∀ i, pz_b v i = (decide (i < 16) && vBk σ (pz_b s) i) := by
  unfold fX1_brokenBy
  obtain ⟨r, hr, e⟩ := pz_loop (S := Int32) (R := Int32 × Int32) (fun f k t => fX1_brokenBy_L1 σ s f t (nI k)) (fun k t => ∀ i, pz_b t i = (decide (i < k) && vBk σ (pz_b s) i)) (fun r => ∀ i, pz_b r.1 i = (decide (i < 16) && vBk σ (pz_b s) i)) 16
    (fun k f t hk hP => by
      have un : fX1_brokenBy_L1 σ s (f + 1) t (nI k) = fX1_brokenBy_L1 σ s f (if vBk σ (pz_b s) k = true then t ||| ((1 : Int32) <<< (nI k &&& 31)) else t) (nI (k + 1)) := by
        rw [fX1_brokenBy_L1, if_neg (show ¬ (16 : Int32) ≤ nI k from nI_ge (a := k) (b := 16) hk (by decide)), show zz_ix 4 (0 : Int32) = some 0 from pz_ix (k := 0) (by decide) (by decide), pz_bs, pz_ga hk (by decide), pz_bs, fc_count c3 (w := 0) (by decide) hk, pz_bs, show zz_ix 4 (1 : Int32) = some 1 from pz_ix (k := 1) (by decide) (by decide), pz_bs, pz_ga hk (by decide), pz_bs, fc_count c3 (w := 1) (by decide) hk, pz_bs, pz_bs, pz_ga hk (by decide), pz_bs, show zz_ix 4 (2 : Int32) = some 2 from pz_ix (k := 2) (by decide) (by decide), pz_bs, pz_ga hk (by decide), pz_bs, fc_count c3 (w := 2) (by decide) hk, pz_bs, show zz_ix 4 (3 : Int32) = some 3 from pz_ix (k := 3) (by decide) (by decide), pz_bs, pz_ga hk (by decide), pz_bs, fc_count c3 (w := 3) (by decide) hk, pz_bs, pz_bs, pb_bit (by omega), nI_1]
        show ((if 1 < vDf σ (pz_b s) k then some true else if 1 ≤ vDf σ (pz_b s) k then some false else if vUs σ (pz_b s) k < 1 then some false else some true).bind fun b35 => if b35 = true then (some (t ||| ((1 : Int32) <<< (nI k &&& 31)))).bind fun x43 => some x43 else some t).bind _ = _
        unfold vBk
        by_cases g1 : 1 < vDf σ (pz_b s) k
        · rw [if_pos g1, pz_bs, if_pos rfl, pz_bs, pz_bs, decide_eq_true g1, if_pos (Bool.true_or _)]
        · rw [if_neg g1, decide_eq_false g1, Bool.false_or]
          by_cases g2 : 1 ≤ vDf σ (pz_b s) k
          · rw [if_pos g2, pz_bs, if_neg (by decide), pz_bs, decide_eq_false (Int32.not_lt.mpr g2), if_neg (by simp)]
          · rw [if_neg g2, decide_eq_true (Int32.not_le.mp g2), Bool.true_and]
            by_cases g3 : vUs σ (pz_b s) k < 1
            · rw [if_pos g3, pz_bs, if_neg (by decide), pz_bs, decide_eq_false (Int32.not_le.mpr g3), if_neg (by decide)]
            · rw [if_neg g3, pz_bs, if_pos rfl, pz_bs, pz_bs, decide_eq_true (Int32.not_lt.mp g3), if_pos rfl]
      refine Or.inl ⟨_, fun i => ?_, un⟩
      cases w : vBk σ (pz_b s) k with
      | true =>
        rw [if_pos rfl, pb_or, pb_one (by omega), hP]
        by_cases c : i = k
        · rw [c, w, decide_eq_true (show k < k + 1 by omega), decide_eq_true rfl, Bool.or_true]; rfl
        · rw [decide_eq_false c, Bool.or_false]
          by_cases d : i < k
          · rw [decide_eq_true d, decide_eq_true (show i < k + 1 by omega)]
          · rw [decide_eq_false d, decide_eq_false (show ¬ i < k + 1 by omega)]
      | false =>
        rw [if_neg (by decide), hP]
        by_cases c : i = k
        · rw [c, w, Bool.and_false, Bool.and_false]
        · by_cases d : i < k
          · rw [decide_eq_true d, decide_eq_true (show i < k + 1 by omega)]
          · rw [decide_eq_false d, decide_eq_false (show ¬ i < k + 1 by omega)])
    (fun f t hP => ⟨(t, 16), hP, by
      show fX1_brokenBy_L1 σ s (f + 1) t (nI 16) = _
      rw [fX1_brokenBy_L1, if_pos (by decide)]
      rfl⟩) 1000 0 0 (Nat.zero_le _) (fun i => by rw [pb_0, decide_eq_false (show ¬ i < 0 by omega)]; rfl) (by decide)
  exact ⟨r.1, by rw [show fX1_brokenBy_L1 σ s 1000 (0 : Int32) (0 : Int32) = _ from e, pz_bs], hr⟩
theorem i_diff (d : Int32) (a b : Nat) (u v : Bool) : (d + nI a - nI b) + (zz_bi u - zz_bi v) = d + nI (a + if u = true then 1 else 0) - nI (b + if v = true then 1 else 0) := by
  have hu : zz_bi u = nI (if u = true then 1 else 0) := by cases u <;> rfl
  have hv : zz_bi v = nI (if v = true then 1 else 0) := by cases v <;> rfl
  rw [hu, hv, ← nI_add, ← nI_add]
  generalize nI a = A
  generalize nI b = B
  generalize nI (if u = true then 1 else 0) = U
  generalize nI (if v = true then 1 else 0) = V
  grind
theorem fm_isBroken (c : pz_CW n σ) (R : pz_RL n σ τ) {x : Nat} (hx : x < 16) (s : Int32) : fX8_isBroken τ (nI x) s = some (zz_bi (vBk σ (pz_b s) x)) := by
  obtain ⟨⟨hn, hc⟩, c2, c3, c5, c6⟩ := c
  obtain ⟨r1, r2, r3, r4, r5, r6⟩ := R
  obtain ⟨x52, x53⟩ := r4 x hx
  unfold fX8_isBroken
  rw [pz_ga hx (by decide), pz_bs, x52, pz_ga hx (by decide), ← x53]
  have e0 : (if zz_bi (pz_b (σ 17 0) x) = 0 then some (0 : Int32) else some 1) = some (zz_bi (pz_b (σ 17 0) x)) := by cases pz_b (σ 17 0) x <;> rfl
  rw [e0, pz_bs, pz_bs]
  let D : Nat → Int32 := fun k => zz_bi (pz_b (σ 17 0) x) + nI (pz_ct (fun p => pz_b (σ 8 p) x && pz_b s p) k) - nI (pz_ct (fun p => pz_b (σ 9 p) x && pz_b s p) k)
  let U : Nat → Int32 := fun k => σ 18 x + nI (pz_ct (fun p => pz_b (σ 10 p) x && pz_b s p) k) - nI (pz_ct (fun p => pz_b (σ 11 p) x && pz_b s p) k)
  obtain ⟨r, hr, e⟩ := pz_loop (S := Int32 × Int32) (R := Int32 × Int32 × Int32) (fun f k t => fX8_isBroken_L1 τ (nI x) s f t.1 t.2 (nI k)) (fun k t => t.1 = D k ∧ t.2 = U k) (fun r => r.1 = D n ∧ r.2.1 = U n) n
    (fun k f t hk hP => by
      obtain ⟨d, u⟩ := t
      have h1 : d = D k := hP.1
      have h2 : u = U k := hP.2
      have n0 := fm_names r3 hn hk (w := 0) (by decide)
      have n1 := fm_names r3 hn hk (w := 1) (by decide)
      have n2 := fm_names r3 hn hk (w := 2) (by decide)
      have n3 := fm_names r3 hn hk (w := 3) (by decide)
      cases g : pz_b s k with
      | false =>
        refine Or.inl ⟨(d, u), ⟨?_, ?_⟩, ?_⟩
        · show d = D (k + 1)
          rw [h1]
          show _ = zz_bi (pz_b (σ 17 0) x) + nI (pz_ct _ (k + 1)) - nI (pz_ct _ (k + 1))
          rw [pz_ct, pz_ct, g, Bool.and_false, Bool.and_false]
          rfl
        · show u = U (k + 1)
          rw [h2]
          show _ = σ 18 x + nI (pz_ct _ (k + 1)) - nI (pz_ct _ (k + 1))
          rw [pz_ct, pz_ct, g, Bool.and_false, Bool.and_false]
          rfl
        · show fX8_isBroken_L1 τ (nI x) s (f + 1) d u (nI k) = _
          rw [fX8_isBroken_L1, r1, if_neg (nI_ge hk (by omega)), pf_has (by omega), pz_bs, g, if_pos (by decide), nI_1]
      | true =>
        refine Or.inl ⟨(D (k + 1), U (k + 1)), ⟨rfl, rfl⟩, ?_⟩
        show fX8_isBroken_L1 τ (nI x) s (f + 1) d u (nI k) = fX8_isBroken_L1 τ (nI x) s f (D (k + 1)) (U (k + 1)) (nI (k + 1))
        rw [fX8_isBroken_L1, r1, if_neg (nI_ge hk (by omega)), pf_has (by omega), pz_bs, g, if_neg (by decide), show (0 : Int32) = nI 0 from rfl, n0, pz_bs, show fX8_namesOf τ (nI k) 1 = _ from n1, pz_bs, pz_bs, show fX8_namesOf τ (nI k) 2 = _ from n2, pz_bs, show fX8_namesOf τ (nI k) 3 = _ from n3, pz_bs, pz_bs, pb_bit (by omega), pb_bit (by omega), pb_bit (by omega), pb_bit (by omega), nI_1, h1, h2]
        have eD : D k + (zz_bi (pz_b (σ (8 + 0) k) x) - zz_bi (pz_b (σ (8 + 1) k) x)) = D (k + 1) := by
          show (zz_bi (pz_b (σ 17 0) x) + nI (pz_ct _ k) - nI (pz_ct _ k)) + _ = zz_bi (pz_b (σ 17 0) x) + nI (pz_ct _ (k + 1)) - nI (pz_ct _ (k + 1))
          rw [i_diff, pz_ct, pz_ct, g, Bool.and_true, Bool.and_true]
        have eU : U k + (zz_bi (pz_b (σ (8 + 2) k) x) - zz_bi (pz_b (σ (8 + 3) k) x)) = U (k + 1) := by
          show (σ 18 x + nI (pz_ct _ k) - nI (pz_ct _ k)) + _ = σ 18 x + nI (pz_ct _ (k + 1)) - nI (pz_ct _ (k + 1))
          rw [i_diff, pz_ct, pz_ct, g, Bool.and_true, Bool.and_true]
        rw [eD, eU])
    (fun f t hP => ⟨(t.1, t.2, nI n), hP, by
      show fX8_isBroken_L1 τ (nI x) s (f + 1) t.1 t.2 (nI n) = _
      rw [fX8_isBroken_L1, r1, if_pos (Int32.le_refl _)]⟩) 1000 0 (zz_bi (pz_b (σ 17 0) x), σ 18 x) (Nat.zero_le _) ⟨by
        show zz_bi (pz_b (σ 17 0) x) = zz_bi (pz_b (σ 17 0) x) + nI 0 - nI 0
        rw [show nI 0 = 0 from rfl, Int32.add_zero, Int32.sub_zero], by
        show σ 18 x = σ 18 x + nI 0 - nI 0
        rw [show nI 0 = 0 from rfl, Int32.add_zero, Int32.sub_zero]⟩ (by omega)
  have out : ∀ w, w < 4 → pz_ct (fun p => pz_b (σ (8 + w) p) x && pz_b s p) n = pz_ct (fun p => pz_b (σ (8 + w) p) x && pz_b s p) 14 := fun w hw => (pc_gap 14 hn (fun j h1 h2 => by rw [(c3 w hw).1 j h2 h1, pb_0]; rfl)).symm
  have eD : D n = vDf σ (pz_b s) x := by
    show zz_bi (pz_b (σ 17 0) x) + nI (pz_ct (fun p => pz_b (σ (8 + 0) p) x && pz_b s p) n) - nI (pz_ct (fun p => pz_b (σ (8 + 1) p) x && pz_b s p) n) = _
    rw [out 0 (by decide), out 1 (by decide)]
    rfl
  have eU : U n = vUs σ (pz_b s) x := by
    show σ 18 x + nI (pz_ct (fun p => pz_b (σ (8 + 2) p) x && pz_b s p) n) - nI (pz_ct (fun p => pz_b (σ (8 + 3) p) x && pz_b s p) n) = _
    rw [out 2 (by decide), out 3 (by decide)]
    rfl
  rw [show fX8_isBroken_L1 τ (nI x) s 1000 (zz_bi (pz_b (σ 17 0) x)) (σ 18 x) (0 : Int32) = _ from e, pz_bs, hr.1, hr.2, eD, eU]
  unfold vBk
  by_cases g1 : 1 < vDf σ (pz_b s) x
  · rw [if_pos g1, decide_eq_true g1]; rfl
  · rw [if_neg g1, decide_eq_false g1]
    by_cases g2 : 1 ≤ vDf σ (pz_b s) x
    · rw [if_pos g2, decide_eq_false (Int32.not_lt.mpr g2)]; rfl
    · rw [if_neg g2, decide_eq_true (Int32.not_le.mp g2)]
      have iff : vUs σ (pz_b s) x ≤ 0 ↔ ¬ 1 ≤ vUs σ (pz_b s) x := by
        rw [Int32.le_iff_toInt_le, Int32.le_iff_toInt_le, show (0 : Int32).toInt = 0 by decide, show (1 : Int32).toInt = 1 by decide]
        omega
      by_cases g3 : vUs σ (pz_b s) x ≤ 0
      · rw [if_pos g3, decide_eq_false (iff.mp g3)]; rfl
      · rw [if_neg g3, decide_eq_true (Classical.byContradiction fun q => g3 (iff.mpr q))]; rfl
theorem fm_broken (c : pz_CW n σ) (R : pz_RL n σ τ) (s : Int32) : ∃ v, fX8_brokenBy τ s = some v ∧ ∀ i, pz_b v i = (decide (i < 16) && vBk σ (pz_b s) i) := by
  unfold fX8_brokenBy
  obtain ⟨r, hr, e⟩ := pz_loop (S := Int32) (R := Int32 × Int32) (fun f k t => fX8_brokenBy_L1 τ s f t (nI k)) (fun k t => ∀ i, pz_b t i = (decide (i < k) && vBk σ (pz_b s) i)) (fun r => ∀ i, pz_b r.1 i = (decide (i < 16) && vBk σ (pz_b s) i)) 16
    (fun k f t hk hP => by
      have un : fX8_brokenBy_L1 τ s (f + 1) t (nI k) = fX8_brokenBy_L1 τ s f (if vBk σ (pz_b s) k = true then t ||| ((1 : Int32) <<< (nI k &&& 31)) else t) (nI (k + 1)) := by
        rw [fX8_brokenBy_L1, if_neg (show ¬ (16 : Int32) ≤ nI k from nI_ge (a := k) (b := 16) hk (by decide)), fm_isBroken c R hk, pz_bs, nI_1]
        cases vBk σ (pz_b s) k with
        | true => rw [if_neg (by decide), pz_bs, pz_bs, if_pos rfl]
        | false => rw [if_pos (by decide), pz_bs, if_neg (by decide)]
      refine Or.inl ⟨_, fun i => ?_, un⟩
      cases w : vBk σ (pz_b s) k with
      | true =>
        rw [if_pos rfl, pb_or, pb_one (by omega), hP]
        by_cases c : i = k
        · rw [c, w, decide_eq_true (show k < k + 1 by omega), decide_eq_true rfl, Bool.or_true]; rfl
        · rw [decide_eq_false c, Bool.or_false]
          by_cases d : i < k
          · rw [decide_eq_true d, decide_eq_true (show i < k + 1 by omega)]
          · rw [decide_eq_false d, decide_eq_false (show ¬ i < k + 1 by omega)]
      | false =>
        rw [if_neg (by decide), hP]
        by_cases c : i = k
        · rw [c, w, Bool.and_false, Bool.and_false]
        · by_cases d : i < k
          · rw [decide_eq_true d, decide_eq_true (show i < k + 1 by omega)]
          · rw [decide_eq_false d, decide_eq_false (show ¬ i < k + 1 by omega)])
    (fun f t hP => ⟨(t, 16), hP, by
      show fX8_brokenBy_L1 τ s (f + 1) t (nI 16) = _
      rw [fX8_brokenBy_L1, if_pos (by decide)]
      rfl⟩) 1000 0 0 (Nat.zero_le _) (fun i => by rw [pb_0, decide_eq_false (show ¬ i < 0 by omega)]; rfl) (by decide)
  exact ⟨r.1, by rw [show fX8_brokenBy_L1 τ s 1000 (0 : Int32) (0 : Int32) = _ from e, pz_bs], hr⟩
/-- both, and how many -/
theorem f_broken (c : pz_CW n σ) (R : pz_RL n σ τ) (s : Int32) : ∃ v, fX1_brokenBy σ s = some v ∧ fX8_brokenBy τ s = some v ∧ fJ6_bitCount v = some (nI (vCt σ (pz_b s))) := by
  obtain ⟨v, e1, h1⟩ := fc_broken c.2.2.1 s
  obtain ⟨w, e2, h2⟩ := fm_broken c R s
  have : w = v := pb_ext fun i _ => by rw [h1, h2]
  refine ⟨v, e1, by rw [e2, this], ?_⟩
  rw [pf_bc (fun i hi => by rw [h1, decide_eq_false (show ¬ i < 16 by omega)]; rfl)]
  unfold vCt
  rw [pc_cong (P' := vBk σ (pz_b s)) fun i hi => by rw [h1, decide_eq_true hi, Bool.true_and]]
theorem t_broken (I : pz_I n σ τ) (v : Int32) : ∃ rc b τ', fX7_broken σ v = some rc ∧ fX8_broken τ v = some (b, τ') ∧ pz_I n σ τ' ∧ pz_a1 "java/lang/IllegalArgumentException" rc b (τ' 47 0) := by
  have hn := pI_n I
  have hc := pI_c I
  have I0 := pI_m I (pm_u0 τ 0)
  have ht := pI_t I0
  unfold fX7_broken fX8_broken fX5_all
  rw [hc, ht, pz_bs, fm_in, pz_bs]
  obtain ⟨x, e1, e2, _⟩ := f_broken I.1 I0.2.1 v
  have all2 : ((1 : Int32) <<< (nI n &&& 31)) - 1 = nI (2 ^ n - 1) := (by decide +kernel : ∀ n, n ≤ 14 → ((1 : Int32) <<< (nI n &&& 31)) - 1 = nI (2 ^ n - 1)) n hn
  have hp : 2 ^ n ≤ 2 ^ 14 := Nat.pow_le_pow_right (by decide) hn
  have h0 : 0 < 2 ^ n := Nat.two_pow_pos n
  have key : (v &&& ((((1 : Int32) <<< (nI n &&& 31)) - 1) ^^^ (-1)) = 0) ↔ pz_in 0 (((1 : Int32) <<< (nI n &&& 31)) - 1) v = true := by
    rw [pb_z]
    constructor
    · intro g
      have hv : v.toBitVec.toNat < 2 ^ n := by
        refine Nat.lt_pow_two_of_testBit _ fun i hi => ?_
        rcases Nat.lt_or_ge i 32 with q | q
        · have := g i q
          rw [pb_and, pb_not q, pb_all (by omega), decide_eq_false (show ¬ i < n by omega)] at this
          cases w : pz_b v i with
          | false => exact w
          | true => rw [w] at this; cases this
        · exact pb_big q
      have ev : v = nI v.toBitVec.toNat := (Int32.toBitVec_inj.mp (by show BitVec.ofNat 32 _ = _; simp)).symm
      rw [all2, ev]
      exact pin_y (by omega) (by omega)
    · intro g i hi
      rw [all2] at g
      obtain ⟨j, hj, rfl⟩ := pin_e (m := 2 ^ n - 1) (by omega) g
      rw [pb_and, pb_not hi, pb_all (by omega)]
      by_cases c : i < n
      · rw [decide_eq_true c]; simp
      · have : pz_b (nI j) i = false := by
          show (BitVec.ofNat 32 j).getLsbD i = false
          rw [BitVec.getLsbD_ofNat, Nat.testBit_lt_two_pow (Nat.lt_of_lt_of_le (show j < 2 ^ n by omega) (Nat.pow_le_pow_right (by decide) (show n ≤ i by omega))), Bool.and_false]
        rw [this]; rfl
  cases g : pz_in 0 (((1 : Int32) <<< (nI n &&& 31)) - 1) v with
  | true =>
    rw [if_pos (key.mpr g), if_neg (by decide), e1, pz_bs, e2]
    exact ⟨_, x, zz_u τ 47 0 0, rfl, rfl, I0, Or.inl ⟨rfl, pz_us⟩⟩
  | false =>
    rw [if_neg (fun q => by rw [key.mp q] at g; cases g), if_pos (by decide)]
    exact ⟨_, _, zz_u (zz_u τ 47 0 0) 47 0 1, rfl, rfl, pI_m I0 (pm_u0 _ 1), Or.inr ⟨rfl, pz_us⟩⟩
end QP
