/-! pure part: what is asked of groups -/
section QG
variable {n : Nat} {σ σ' τ τ' : zz_St}
theorem pc_gap {P : Nat → Bool} {a : Nat} : ∀ b, a ≤ b → (∀ j, a ≤ j → j < b → P j = false) → pz_ct P b = pz_ct P a
  | 0, h, _ => by rw [show a = 0 by omega]
  | b + 1, h, g => by
    by_cases c : a = b + 1
    · rw [c]
    · rw [pz_ct, g b (by omega) (by omega), pc_gap b (by omega) (fun j h1 h2 => g j h1 (by omega))]
      rfl
theorem pEn_ct {h : Nat → Nat} {k : Nat} {e : Nat → Nat} (E : pz_En n h k e) : ∀ i, i ≤ k → pz_ct (fun p => decide (h p = p)) (e i) = i
  | 0, _ => by
    rw [pc_gap (a := 0) (e 0) (Nat.zero_le _) (fun j _ hj => decide_eq_false (pEn_low E hj))]
    rfl
  | i + 1, hi => by
    have ih := pEn_ct E i (by omega)
    have lt := E.2.1 i (i + 1) (by omega) hi
    rw [pc_gap (a := e i + 1) (e (i + 1)) (by omega) (fun j h1 h2 => decide_eq_false (pEn_gap E (by omega) (by omega) h2)), pz_ct, ih, decide_eq_true (E.1 i (by omega)).2]
    rfl
theorem pEn_hc {h : Nat → Nat} {k : Nat} {e : Nat → Nat} (E : pz_En n h k e) : pz_hc n h = k := by
  unfold pz_hc
  have := pEn_ct E k (Nat.le_refl k)
  rw [E.2.2.1] at this
  exact this
/-- the reference's groups, from a call's start -/
theorem fm_g (I : pz_I n σ τ) : ∃ τ', fX8_makeGroups (zz_u τ 47 0 0) = some τ' ∧ pz_I n σ τ' ∧ pz_HH n (vH n σ) τ' ∧ τ' 47 13 = (vMk n σ).2 ∧ pz_MA n σ τ' ∧ τ' 47 0 = 0 := by
  have I0 := pI_m I (pm_u0 τ 0)
  obtain ⟨τ', e, H, l, A, f, g⟩ := fm_groups (σ := σ) (τ := zz_u τ 47 0 0) ⟨I0.1, I0.2.1⟩
  have sm : pz_sm' (zz_u τ 47 0 0) τ' := ⟨fun q h1 h2 => f q (by omega) (by omega) (by omega), g 1 (by decide), g 9 (by decide), g 10 (by decide), g 11 (by decide)⟩
  exact ⟨τ', e, pI_m I0 sm, H, l, A, by rw [g 0 (by decide), pz_us]⟩
theorem fm_p (I : pz_I n σ τ) : ∃ τ', fX8_makeParcels (zz_u τ 47 0 0) = some τ' ∧ pz_I n σ τ' ∧ pz_HH n (vH n σ) τ' ∧ pz_MP n σ τ' ∧ τ' 47 0 = 0 := by
  have I0 := pI_m I (pm_u0 τ 0)
  obtain ⟨τ', e, H, l, P, sm, z⟩ := fm_parcels (σ := σ) (τ := zz_u τ 47 0 0) ⟨I0.1, I0.2.1⟩
  exact ⟨τ', e, pI_m I0 sm, H, P, by rw [z, pz_us]⟩
theorem fm_count {h : Nat → Nat} (ht : τ 47 1 = nI n) (hn : n ≤ 14) (hh : pz_Hd n h) (H : pz_HH n h τ) : fX8_countOf_a55 τ = some (nI (pz_hc n h)) := by
  unfold fX8_countOf_a55 pz_hc
  obtain ⟨r, hr, e⟩ := pz_loop (S := Int32) (R := Int32 × Int32) (fun f k s => fX8_countOf_a55_L1 τ f s (nI k)) (fun k s => s = nI (pz_ct (fun p => decide (h p = p)) k)) (fun r => r.1 = nI (pz_ct (fun p => decide (h p = p)) n)) n
    (fun k f s hk hP => by
      have lk := (hh k hk).1
      refine Or.inl ⟨nI (pz_ct (fun p => decide (h p = p)) (k + 1)), rfl, ?_⟩
      show fX8_countOf_a55_L1 τ (f + 1) s (nI k) = _
      rw [fX8_countOf_a55_L1, ht, if_neg (nI_ge hk (by omega)), pz_ga (by omega) (by decide), pz_bs, H k hk, pz_ct, hP]
      by_cases g : h k = k
      · rw [if_pos (by rw [g]), pz_bs, pz_bs, if_pos (decide_eq_true g), nI_1, nI_1]
      · rw [if_neg (by rw [nI_eq (by omega) (by omega)]; exact g), pz_bs, pz_bs, if_neg (by rw [decide_eq_false g]; decide), nI_1, show (0 : Int32) = nI 0 from rfl, nI_add])
    (fun f s hP => ⟨(s, nI n), hP, by
      show fX8_countOf_a55_L1 τ (f + 1) s (nI n) = _
      rw [fX8_countOf_a55_L1, ht, if_pos (Int32.le_refl _)]⟩) 1000 0 0 (Nat.zero_le _) rfl (by omega)
  rw [show fX8_countOf_a55_L1 τ 1000 (0 : Int32) (0 : Int32) = _ from e, pz_bs, hr]
theorem t_groupCount (I : pz_I n σ τ) : ∃ b σ' τ', fX7_groupCount σ = some (b, σ') ∧ fX8_groupCount τ = some (b, τ') ∧ pz_I n σ' τ' := by
  obtain ⟨σ', e, I', D, _⟩ := fc_together I
  obtain ⟨τ', e2, I2, H, l, A, z⟩ := fm_g I'
  obtain ⟨⟨k, ee, E, hk, hs⟩, _⟩ := D
  refine ⟨nI k, σ', τ', ?_, ?_, I2⟩
  · unfold fX7_groupCount
    rw [e, pz_bs, hk]
  · unfold fX8_groupCount
    rw [e2, pz_bs, fm_count (pI_t I2) (pI_n I) (vH_Hd I'.1.2.2.2.1) H, pz_bs, pEn_hc E]
theorem t_lastLinkage (I : pz_I n σ τ) : ∃ b σ' τ', fX7_lastLinkage σ = some (b, σ') ∧ fX8_lastLinkage τ = some (b, τ') ∧ pz_I n σ' τ' := by
  obtain ⟨σ', e, I', D, _⟩ := fc_together I
  obtain ⟨τ', e2, I2, H, l, A, z⟩ := fm_g I'
  refine ⟨σ' 24 3, σ', τ', ?_, ?_, I2⟩
  · unfold fX7_lastLinkage; rw [e, pz_bs]
  · unfold fX8_lastLinkage; rw [e2, pz_bs, l, D.2.2.1]
theorem fm_headAt_y {h : Nat → Nat} {k : Nat} {e : Nat → Nat} (ht : τ 47 1 = nI n) (hn : n ≤ 14) (hh : pz_Hd n h) (H : pz_HH n h τ) (E : pz_En n h k e) {i : Nat} (hi : i < k) : fX8_headAt_a55 τ (nI i) = some (nI (e i)) := by
  have hkn := pEn_k E
  unfold fX8_headAt_a55
  obtain ⟨r, hr, er⟩ := pz_loop (S := Int32) (R := Int32 ⊕ (Int32 × Int32)) (fun f p s => fX8_headAt_a55_L1 τ (nI i) f s (nI p)) (fun p s => p ≤ e i ∧ s = nI (i - pz_ct (fun p => decide (h p = p)) p)) (fun r => r = .inl (nI (e i))) n
    (fun p f s hp hP => by
      obtain ⟨h1, h2⟩ := hP
      have lp := (hh p hp).1
      have hei := E.1 i hi
      have ci := pEn_ct E i (by omega)
      have un : fX8_headAt_a55_L1 τ (nI i) (f + 1) s (nI p) = if h p = p then (if s = 0 then some (.inl (nI p)) else fX8_headAt_a55_L1 τ (nI i) f (s + (-1)) (nI (p + 1))) else fX8_headAt_a55_L1 τ (nI i) f s (nI (p + 1)) := by
        rw [fX8_headAt_a55_L1, ht, if_neg (nI_ge hp (by omega)), if_neg (nI_pos (n := i) (by omega)), pz_bs, if_pos rfl, pz_ga (by omega) (by decide), pz_bs, H p hp, nI_1]
        by_cases g : h p = p
        · rw [if_pos (by rw [g]), if_pos g]
        · rw [if_neg (by rw [nI_eq (by omega) (by omega)]; exact g), if_neg g]
      by_cases c : p = e i
      · refine Or.inr ⟨.inl (nI p), by rw [c], ?_⟩
        show fX8_headAt_a55_L1 τ (nI i) (f + 1) s (nI p) = _
        rw [un, if_pos (by rw [c]; exact hei.2), if_pos (by rw [h2, c, ci, Nat.sub_self]; rfl)]
      · have lt : p < e i := by omega
        by_cases g : h p = p
        · obtain ⟨j, hj, ej⟩ := E.2.2.2 p hp g
          have hji : j < i := by
            rcases Nat.lt_or_ge j i with q | q
            · exact q
            · by_cases d : j = i
              · rw [d] at ej; omega
              · have := E.2.1 i j (by omega) (by omega); omega
          have cj := pEn_ct E j (by omega)
          rw [ej] at cj
          refine Or.inl ⟨nI (i - pz_ct (fun p => decide (h p = p)) (p + 1)), ⟨by omega, rfl⟩, ?_⟩
          show fX8_headAt_a55_L1 τ (nI i) (f + 1) s (nI p) = _
          rw [un, if_pos g, h2, cj, if_neg (nI_ne0 (n := i - j) (by omega) (by omega)), pz_ct, cj, if_pos (decide_eq_true g), show i - j = (i - (j + 1)) + 1 by omega, pk_m1]
        · refine Or.inl ⟨s, ⟨by omega, ?_⟩, ?_⟩
          · rw [pz_ct, if_neg (by rw [decide_eq_false g]; decide)]; exact h2
          · show fX8_headAt_a55_L1 τ (nI i) (f + 1) s (nI p) = _
            rw [un, if_neg g])
    (fun f s hP => by
      have := (E.1 i hi).1
      have := hP.1
      omega) 1000 0 (nI i) (Nat.zero_le _) ⟨Nat.zero_le _, rfl⟩ (by omega)
  rw [show fX8_headAt_a55_L1 τ (nI i) 1000 (nI i) (0 : Int32) = _ from er, pz_bs, hr]
theorem fm_headAt_n {h : Nat → Nat} {k : Nat} {e : Nat → Nat} (ht : τ 47 1 = nI n) (hn : n ≤ 14) (hh : pz_Hd n h) (H : pz_HH n h τ) (E : pz_En n h k e) {v : Int32} (hv : pz_bd k v) : fX8_headAt_a55 τ v = some (-1) := by
  have hkn := pEn_k E
  unfold fX8_headAt_a55
  by_cases neg : v < 0
  · have : fX8_headAt_a55_L1 τ v 1000 v 0 = some (.inr (v, 0)) := by
      rw [show (1000 : Nat) = 999 + 1 from rfl, fX8_headAt_a55_L1]
      by_cases z : τ 47 1 ≤ 0
      · rw [if_pos z, pz_bs, if_neg (by decide)]
      · rw [if_neg z, if_pos neg, pz_bs, if_neg (by decide)]
    rw [this, pz_bs]
  · obtain ⟨i, hi, rfl⟩ := nI_of neg
    have hki : k ≤ i := by
      rcases hv with q | q
      · exact absurd q neg
      · rw [nI_leI (by omega) hi] at q; exact q
    obtain ⟨r, hr, er⟩ := pz_loop (S := Int32) (R := Int32 ⊕ (Int32 × Int32)) (fun f p s => fX8_headAt_a55_L1 τ (nI i) f s (nI p)) (fun p s => s = nI (i - pz_ct (fun p => decide (h p = p)) p)) (fun r => ∃ w, r = .inr w) n
      (fun p f s hp h2 => by
        have lp := (hh p hp).1
        have un : fX8_headAt_a55_L1 τ (nI i) (f + 1) s (nI p) = if h p = p then (if s = 0 then some (.inl (nI p)) else fX8_headAt_a55_L1 τ (nI i) f (s + (-1)) (nI (p + 1))) else fX8_headAt_a55_L1 τ (nI i) f s (nI (p + 1)) := by
          rw [fX8_headAt_a55_L1, ht, if_neg (nI_ge hp (by omega)), if_neg neg, pz_bs, if_pos rfl, pz_ga (by omega) (by decide), pz_bs, H p hp, nI_1]
          by_cases g : h p = p
          · rw [if_pos (by rw [g]), if_pos g]
          · rw [if_neg (by rw [nI_eq (by omega) (by omega)]; exact g), if_neg g]
        by_cases g : h p = p
        · obtain ⟨j, hj, ej⟩ := E.2.2.2 p hp g
          have cj := pEn_ct E j (by omega)
          rw [ej] at cj
          refine Or.inl ⟨nI (i - pz_ct (fun p => decide (h p = p)) (p + 1)), rfl, ?_⟩
          show fX8_headAt_a55_L1 τ (nI i) (f + 1) s (nI p) = _
          rw [un, if_pos g, h2, cj, if_neg (nI_ne0 (n := i - j) (by omega) (by omega)), pz_ct, cj, if_pos (decide_eq_true g), show i - j = (i - (j + 1)) + 1 by omega, pk_m1]
        · refine Or.inl ⟨s, ?_, ?_⟩
          · show s = nI (i - pz_ct _ (p + 1))
            rw [pz_ct, if_neg (by rw [decide_eq_false g]; decide)]; exact h2
          · show fX8_headAt_a55_L1 τ (nI i) (f + 1) s (nI p) = _
            rw [un, if_neg g])
      (fun f s hP => ⟨.inr (s, nI n), ⟨_, rfl⟩, by
        show fX8_headAt_a55_L1 τ (nI i) (f + 1) s (nI n) = _
        rw [fX8_headAt_a55_L1, ht, if_pos (Int32.le_refl _), pz_bs, if_neg (by decide)]⟩) 1000 0 (nI i) (Nat.zero_le _) rfl (by omega)
    obtain ⟨w, hw⟩ := hr
    rw [show fX8_headAt_a55_L1 τ (nI i) 1000 (nI i) (0 : Int32) = _ from er, pz_bs, hw]
theorem fm_set55 {h : Nat → Nat} (ht : τ 47 1 = nI n) (hn : n ≤ 14) (hh : pz_Hd n h) (H : pz_HH n h τ) {v : Nat} (hv : v < 1000) : ∃ x, fX8_setOf_a55 τ (nI v) = some x ∧ ∀ b, pz_b x b = pz_G n h v b := by
  unfold fX8_setOf_a55
  obtain ⟨r, hr, e⟩ := pz_loop (S := Int32) (R := Int32 × Int32) (fun f k s => fX8_setOf_a55_L1 τ (nI v) f s (nI k)) (fun k s => ∀ b, pz_b s b = (decide (b < k) && decide (h b = v))) (fun r => ∀ b, pz_b r.1 b = (decide (b < n) && decide (h b = v))) n
    (fun k f s hk hP => by
      have lk := (hh k hk).1
      have un : fX8_setOf_a55_L1 τ (nI v) (f + 1) s (nI k) = fX8_setOf_a55_L1 τ (nI v) f (if h k = v then s ||| ((1 : Int32) <<< (nI k &&& 31)) else s) (nI (k + 1)) := by
        rw [fX8_setOf_a55_L1, ht, if_neg (nI_ge hk (by omega)), pz_ga (by omega) (by decide), pz_bs, H k hk]
        by_cases g : h k = v
        · rw [if_pos (by rw [g]), pz_bs, pz_bs, if_pos g, nI_1]
        · rw [if_neg (by rw [nI_eq (by omega) (by omega)]; exact g), pz_bs, if_neg g, nI_1]
      refine Or.inl ⟨_, fun b => ?_, un⟩
      by_cases g : h k = v
      · rw [if_pos g, pb_or, pb_one (by omega), hP]
        by_cases c : b = k
        · rw [c, decide_eq_true rfl, decide_eq_true (show k < k + 1 by omega), decide_eq_true g, Bool.or_true]; rfl
        · rw [decide_eq_false c, Bool.or_false]
          by_cases d : b < k
          · rw [decide_eq_true d, decide_eq_true (show b < k + 1 by omega)]
          · rw [decide_eq_false d, decide_eq_false (show ¬ b < k + 1 by omega)]
      · rw [if_neg g, hP]
        by_cases c : b = k
        · rw [c, decide_eq_false g, Bool.and_false, Bool.and_false]
        · by_cases d : b < k
          · rw [decide_eq_true d, decide_eq_true (show b < k + 1 by omega)]
          · rw [decide_eq_false d, decide_eq_false (show ¬ b < k + 1 by omega)])
    (fun f s hP => ⟨(s, nI n), hP, by
      show fX8_setOf_a55_L1 τ (nI v) (f + 1) s (nI n) = _
      rw [fX8_setOf_a55_L1, ht, if_pos (Int32.le_refl _)]⟩) 1000 0 0 (by omega) (fun b => by rw [pb_0, decide_eq_false (by omega)]; rfl) (by omega)
  exact ⟨r.1, by rw [show fX8_setOf_a55_L1 τ (nI v) 1000 (0 : Int32) (0 : Int32) = _ from e, pz_bs], hr⟩
theorem fc_rg_y {k : Nat} (e : fX7_putTogether σ = some σ') (hk : σ' 24 2 = nI k) (hk2 : k ≤ 14) {i : Nat} (hi : i < k) : fX7_requireGroup σ (nI i) = some (.inl (), σ') := by
  unfold fX7_requireGroup
  rw [e, pz_bs, hk, if_neg (nI_pos (n := i) (by omega)), if_pos (nI_lt hi (by omega))]
  rfl
theorem fc_rg_n {k : Nat} (e : fX7_putTogether σ = some σ') (hk : σ' 24 2 = nI k) {v : Int32} (hv : pz_bd k v) : fX7_requireGroup σ v = some (.inr "java/lang/IndexOutOfBoundsException", σ') := by
  unfold fX7_requireGroup
  rw [e, pz_bs, hk]
  by_cases g : v < 0
  · rw [if_pos g]; rfl
  · rcases hv with q | q
    · exact absurd q g
    · rw [if_neg g, if_neg (Int32.not_lt.mpr q)]; rfl
theorem pn_m1 {v : Nat} (h : v < 2147483648) : ¬ nI v = (-1 : Int32) := fun z => absurd (nI_pos' h) (by rw [z]; decide)
theorem t_group (I : pz_I n σ τ) (v : Int32) : ∃ rc σ' b τ', fX7_group σ v = some (rc, σ') ∧ fX8_group τ v = some (b, τ') ∧ pz_I n σ' τ' ∧ pz_a1 "java/lang/IndexOutOfBoundsException" rc b (τ' 47 0) := by
  have hn := pI_n I
  obtain ⟨σ', e, I', D, _⟩ := fc_together I
  obtain ⟨τ', e2, I2, H, l, A, z⟩ := fm_g I'
  obtain ⟨⟨k, ee, E, hk, hs⟩, _⟩ := D
  have hkn := pEn_k E
  have hh := vH_Hd (n := n) I'.1.2.2.2.1
  unfold fX7_group fX8_group
  rw [e2, pz_bs]
  rcases pbd k (by omega) v with q | ⟨i, hi, rfl⟩
  · rw [fc_rg_n e hk q, pz_bs, fm_headAt_n (pI_t I2) hn hh H E q, pz_bs, if_pos rfl]
    exact ⟨_, σ', _, zz_u τ' 47 0 1, rfl, rfl, pI_m I2 (pm_u0 τ' 1), Or.inr ⟨rfl, pz_us⟩⟩
  · have ei := E.1 i hi
    obtain ⟨x, ex, hx⟩ := fm_set55 (pI_t I2) hn hh H (v := ee i) (by omega)
    rw [fc_rg_y e hk (by omega) hi, pz_bs, fm_headAt_y (pI_t I2) hn hh H E hi, pz_bs, if_neg (pn_m1 (by omega)), ex]
    refine ⟨.inl (σ' 25 i), σ', x, τ', ?_, rfl, I2, Or.inl ⟨?_, z⟩⟩
    · show (zz_ga (σ' 25) 14 (nI i)).bind _ = _
      rw [pz_ga (by omega) (by decide), pz_bs]
    · congr 1
      exact pb_ext fun b _ => by rw [hs i hi, hx]
theorem t_linkage (I : pz_I n σ τ) (u v : Int32) : ∃ rc σ' b τ', fX7_linkage σ u v = some (rc, σ') ∧ fX8_linkage τ u v = some (b, τ') ∧ pz_I n σ' τ' ∧ pz_a2 "java/lang/IndexOutOfBoundsException" "java/lang/IllegalArgumentException" rc b (τ' 47 0) := by
  have hn := pI_n I
  obtain ⟨σ', e, I', D, h07, _⟩ := fc_together I
  obtain ⟨σ'', e', _, _, _, _, _, sameσ⟩ := fc_together I'
  have es : fX7_putTogether σ' = some σ' := by rw [e', sameσ h07]
  obtain ⟨τ', e2, I2, H, l, A, z⟩ := fm_g I'
  obtain ⟨⟨k, ee, E, hk, hs⟩, dA, _⟩ := D
  have hkn := pEn_k E
  have hh := vH_Hd (n := n) I'.1.2.2.2.1
  unfold fX7_linkage fX8_linkage
  rw [e2, pz_bs]
  rcases pbd k (by omega) u with q | ⟨i, hi, rfl⟩
  · rw [fc_rg_n e hk q, pz_bs, fm_headAt_n (pI_t I2) hn hh H E q, pz_bs]
    rcases pbd k (by omega) v with q2 | ⟨j, hj, rfl⟩
    · rw [fm_headAt_n (pI_t I2) hn hh H E q2, pz_bs, if_pos rfl, pz_bs, if_pos rfl]
      exact ⟨_, σ', _, zz_u τ' 47 0 1, rfl, rfl, pI_m I2 (pm_u0 τ' 1), Or.inr (Or.inl ⟨rfl, pz_us⟩)⟩
    · rw [fm_headAt_y (pI_t I2) hn hh H E hj, pz_bs, if_pos rfl, pz_bs, if_pos rfl]
      exact ⟨_, σ', _, zz_u τ' 47 0 1, rfl, rfl, pI_m I2 (pm_u0 τ' 1), Or.inr (Or.inl ⟨rfl, pz_us⟩)⟩
  · have ei := E.1 i hi
    rw [fc_rg_y e hk (by omega) hi, pz_bs, fm_headAt_y (pI_t I2) hn hh H E hi, pz_bs]
    rcases pbd k (by omega) v with q2 | ⟨j, hj, rfl⟩
    · rw [fm_headAt_n (pI_t I2) hn hh H E q2, pz_bs, if_neg (pn_m1 (by omega)), if_pos rfl, pz_bs, if_pos rfl]
      refine ⟨_, σ', _, zz_u τ' 47 0 1, ?_, rfl, pI_m I2 (pm_u0 τ' 1), Or.inr (Or.inl ⟨rfl, pz_us⟩)⟩
      show (fX7_requireGroup σ' v).bind _ = _
      rw [fc_rg_n es hk q2, pz_bs]
    · have ej := E.1 j hj
      rw [fm_headAt_y (pI_t I2) hn hh H E hj, pz_bs, if_neg (pn_m1 (by omega)), if_neg (pn_m1 (by omega)), pz_bs, if_neg (by decide)]
      show ∃ rc σ'' b τ'', (fX7_requireGroup σ' (nI j)).bind _ = _ ∧ _
      rw [fc_rg_y es hk (by omega) hj, pz_bs]
      by_cases g : i = j
      · rw [if_pos (by rw [g])]
        refine ⟨.inr "java/lang/IllegalArgumentException", σ', 0, zz_u τ' 47 0 2, ?_, rfl, pI_m I2 (pm_u0 τ' 2), Or.inr (Or.inr ⟨rfl, pz_us⟩)⟩
        exact if_pos (by rw [g])
      · have hne : ee i ≠ ee j := fun q => g (pEn_inj E (by omega) (by omega) q)
        rw [if_neg (by rw [nI_eq (by omega) (by omega)]; exact g), fm_link ⟨I2.1, I2.2.1⟩ A H hh hne ei.1 ej.1 ei.2 ej.2]
        refine ⟨.inl (nI (pz_lk n (vAf σ') (vMa σ') (vH n σ') (ee i) (ee j))), σ', _, τ', ?_, rfl, I2, Or.inl ⟨rfl, z⟩⟩
        show (if nI i = nI j then _ else (zz_ga (σ' 25) 14 (nI i)).bind _) = _
        rw [if_neg (by rw [nI_eq (by omega) (by omega)]; exact g), pz_ga (by omega) (by decide), pz_bs, pz_ga (by omega) (by decide), pz_bs, (fc_link hn I'.1.2.2.2.1 dA hne ei.1 ej.1 ei.2 ej.2 (hs i hi) (hs j hj)).1, pz_bs]
theorem fc_place25 {k : Nat} {e : Nat → Nat} {h : Nat → Nat} (hn : n ≤ 14) (E : pz_En n h k e) (hs : ∀ i, i < k → ∀ b, pz_b (σ 25 i) b = pz_G n h (e i) b) {p i : Nat} (hp : p < n) (hi : i < k) (hpi : h p = e i) : fX7_placeOf_a25 σ (nI p) (nI k) = some (nI i) := by
  have hkn := pEn_k E
  unfold fX7_placeOf_a25
  obtain ⟨r, hr, er⟩ := pz_loop (S := Unit) (R := Int32 ⊕ Int32) (fun f j _ => fX7_placeOf_a25_L1 σ (nI p) (nI k) f (nI j)) (fun _ _ => True) (fun r => r = .inl (nI i)) i
    (fun j f _ hj _ => Or.inl ⟨(), trivial, by
      show fX7_placeOf_a25_L1 σ (nI p) (nI k) (f + 1) (nI j) = _
      have b : pz_G n h (e j) p = false := by
        unfold pz_G
        rw [decide_eq_false (show ¬ h p = e j from fun q => by have := pEn_inj E (i := i) (j := j) (by omega) (by omega) (by rw [← hpi, q]); omega), Bool.and_false]
      rw [fX7_placeOf_a25_L1, if_neg (nI_ge (show j < k by omega) (by omega)), if_neg (show ¬ (14 : Int32) ≤ nI j from nI_ge (a := j) (b := 14) (by omega) (by decide)), pz_bs, if_pos rfl, pz_ga (by omega) (by decide), pz_bs, pf_isIn (by omega), pz_bs, hs j (by omega), b, if_pos (by decide), nI_1]⟩)
    (fun f _ _ => ⟨_, rfl, by
      show fX7_placeOf_a25_L1 σ (nI p) (nI k) (f + 1) (nI i) = _
      rw [fX7_placeOf_a25_L1, if_neg (nI_ge hi (by omega)), if_neg (show ¬ (14 : Int32) ≤ nI i from nI_ge (a := i) (b := 14) (by omega) (by decide)), pz_bs, if_pos rfl, pz_ga (by omega) (by decide), pz_bs, pf_isIn (by omega), pz_bs, hs i hi, pG.mpr ⟨hp, hpi⟩, if_neg (by decide)]⟩) 1000 0 () (Nat.zero_le _) trivial (by omega)
  rw [show fX7_placeOf_a25_L1 σ (nI p) (nI k) 1000 (0 : Int32) = _ from er, pz_bs, hr]
theorem fm_index {h : Nat → Nat} (hn : n ≤ 14) (hh : pz_Hd n h) (H : pz_HH n h τ) {m : Nat} (hm : m ≤ n) : fX8_indexOf_a55 τ (nI m) = some (nI (pz_ct (fun p => decide (h p = p)) m)) := by
  unfold fX8_indexOf_a55
  obtain ⟨r, hr, e⟩ := pz_loop (S := Int32) (R := Int32 × Int32) (fun f k s => fX8_indexOf_a55_L1 τ (nI m) f s (nI k)) (fun k s => s = nI (pz_ct (fun p => decide (h p = p)) k)) (fun r => r.1 = nI (pz_ct (fun p => decide (h p = p)) m)) m
    (fun k f s hk hP => by
      have lk := (hh k (by omega)).1
      refine Or.inl ⟨nI (pz_ct (fun p => decide (h p = p)) (k + 1)), rfl, ?_⟩
      show fX8_indexOf_a55_L1 τ (nI m) (f + 1) s (nI k) = _
      rw [fX8_indexOf_a55_L1, if_neg (nI_ge hk (by omega)), pz_ga (by omega) (by decide), pz_bs, H k (by omega), pz_ct, hP]
      by_cases g : h k = k
      · rw [if_pos (by rw [g]), pz_bs, pz_bs, if_pos (decide_eq_true g), nI_1, nI_1]
      · rw [if_neg (by rw [nI_eq (by omega) (by omega)]; exact g), pz_bs, pz_bs, if_neg (by rw [decide_eq_false g]; decide), nI_1, show (0 : Int32) = nI 0 from rfl, nI_add])
    (fun f s hP => ⟨(s, nI m), hP, by
      show fX8_indexOf_a55_L1 τ (nI m) (f + 1) s (nI m) = _
      rw [fX8_indexOf_a55_L1, if_pos (Int32.le_refl _)]⟩) 1000 0 0 (Nat.zero_le _) rfl (by omega)
  rw [show fX8_indexOf_a55_L1 τ (nI m) 1000 (0 : Int32) (0 : Int32) = _ from e, pz_bs, hr]
theorem t_groupOf (I : pz_I n σ τ) (v : Int32) : ∃ rc σ' b τ', fX7_groupOf σ v = some (rc, σ') ∧ fX8_groupOf τ v = some (b, τ') ∧ pz_I n σ' τ' ∧ pz_a1 "java/lang/IndexOutOfBoundsException" rc b (τ' 47 0) := by
  have hn := pI_n I
  have hc := pI_c I
  have ht : zz_u τ 47 0 0 47 1 = nI n := by rw [pz_uj (by decide)]; exact pI_t I
  unfold fX7_groupOf fX8_groupOf
  rcases pbd n (by omega) v with q | ⟨p, hp, rfl⟩
  · rw [fc_rp_n hc q, pz_bs, fm_pc_n ht hn q, pz_bs, if_pos rfl]
    exact ⟨_, σ, _, zz_u (zz_u τ 47 0 0) 47 0 1, rfl, rfl, pI_m I (pm_tr (pm_u0 τ 0) (pm_u0 _ 1)), Or.inr ⟨rfl, pz_us⟩⟩
  obtain ⟨σ', e, I', D, _⟩ := fc_together I
  obtain ⟨τ', e2, I2, H, l, A, z⟩ := fm_g I'
  obtain ⟨⟨k, ee, E, hk, hs⟩, _⟩ := D
  have hkn := pEn_k E
  have hh := vH_Hd (n := n) I'.1.2.2.2.1
  have hhp := hh p hp
  obtain ⟨i, hi, ei⟩ := E.2.2.2 (vH n σ' p) (by omega) hhp.2
  have ci := pEn_ct E i (by omega)
  rw [fc_rp_y hc hn hp, pz_bs, fm_pc_y ht hn hp, pz_bs, if_neg (by decide), e2, pz_bs, pz_ga (by omega) (by decide), pz_bs, H p hp, fm_index hn hh H (by omega), ← ei, ci]
  refine ⟨.inl (nI i), σ', nI i, τ', ?_, rfl, I2, Or.inl ⟨rfl, z⟩⟩
  show (fX7_putTogether σ).bind _ = _
  rw [e, pz_bs, hk, fc_place25 hn E hs hp hi ei.symm, pz_bs]
end QG
