/-! pure part: leastBreakage, best -/
section BP
variable {n : Nat} {σ σ' τ τ' : zz_St}
theorem pfirst {m : Nat} {c R : Nat → Nat} (h : pz_IsR m c R) {S p : Nat} (hS : S < 2 ^ m - 1) (hp : p < m) (hb : S.testBit p = false) (best : ∀ q, q < m → S.testBit q = false → c (S ||| 2 ^ p) + R (S ||| 2 ^ p) ≤ c (S ||| 2 ^ q) + R (S ||| 2 ^ q) ∧ (q < p → c (S ||| 2 ^ p) + R (S ||| 2 ^ p) < c (S ||| 2 ^ q) + R (S ||| 2 ^ q))) : p = pz_wn m c R S := by
  obtain ⟨a, k, hk, hkb, e⟩ := h.2 S hS
  have e1 : c (S ||| 2 ^ p) + R (S ||| 2 ^ p) = R S := by
    have := (best k hk hkb).1
    have := a p hp hb
    omega
  refine (pf_is (by omega) (fun q hq => ?_) (fun _ => ?_)).symm
  · cases w : S.testBit q with
    | true => rfl
    | false =>
      have := (best q (by omega) w).2 hq
      rw [decide_eq_false (by omega)]
      rfl
  · rw [hb, decide_eq_true e1]; rfl
theorem fc_walk {m : Nat} {c R : Nat → Nat} (hm : m ≤ 9) (h : pz_IsR m c R) (hb : ∀ S, S < 2 ^ m → R S ≤ 16 * (2 ^ m - 1 - S)) (hc : ∀ S, c S ≤ 16) (h44 : σ 44 1 = nI m) (hv : ∀ S, S < 2 ^ m → 0 < S → σ 46 S = nI (c S + R S)) : ∃ σ', fX0_walk σ = some σ' ∧ (∀ q, q ≠ 45 → σ' q = σ q) ∧ ∀ k, k < m → σ' 45 k = nI (pz_wn m c R (pz_wk m c R k)) := by
  have h512 : 2 ^ m ≤ 512 := Nat.pow_le_pow_right (n := 2) (by decide) hm
  unfold fX0_walk
  obtain ⟨r, hr, e⟩ := pz_loop (S := Int32 × zz_St) (R := Int32 × Int32 × zz_St) (fun f k t => fX0_walk_L1 f t.1 (nI k) t.2) (fun k t => t.1 = nI (pz_wk m c R k) ∧ (∀ q, q ≠ 45 → t.2 q = σ q) ∧ ∀ j, j < k → t.2 45 j = nI (pz_wn m c R (pz_wk m c R j))) (fun r => (∀ q, q ≠ 45 → r.2.2 q = σ q) ∧ ∀ k, k < m → r.2.2 45 k = nI (pz_wn m c R (pz_wk m c R k))) m
    (fun k f t hk hP => by
      obtain ⟨a, s⟩ := t
      have h1 : a = nI (pz_wk m c R k) := hP.1
      have h2 : ∀ q, q ≠ 45 → s q = σ q := hP.2.1
      have h3 : ∀ j, j < k → s 45 j = nI (pz_wn m c R (pz_wk m c R j)) := hP.2.2
      have w := pwk_ne h hk
      have vl : ∀ p, p < m → (pz_wk m c R k).testBit p = false → s 46 (pz_wk m c R k ||| 2 ^ p) = nI (c (pz_wk m c R k ||| 2 ^ p) + R (pz_wk m c R k ||| 2 ^ p)) ∧ c (pz_wk m c R k ||| 2 ^ p) + R (pz_wk m c R k ||| 2 ^ p) < 1000000 := by
        intro p hp b
        have u := pn_up (show pz_wk m c R k < 2 ^ m by omega) hp b
        have x := hb _ u.2
        have y := hc (pz_wk m c R k ||| 2 ^ p)
        exact ⟨by rw [h2 46 (by decide)]; exact hv _ u.2 (by omega), by omega⟩
      have hs44 : s 44 1 = nI m := by rw [h2 44 (by decide)]; exact h44
      rcases fc_after (σ := s) hm (show pz_wk m c R k < 2 ^ m by omega) hs44 vl with ⟨full, _⟩ | ⟨p, hp, b, en, best⟩
      · obtain ⟨j, hj, z⟩ := pn_all (show pz_wk m c R k < 2 ^ m by omega) (by omega)
        rw [full j hj] at z; cases z
      · have pe := pfirst h w hp b best
        refine Or.inl ⟨(nI (pz_wk m c R (k + 1)), zz_u s 45 k (nI p)), ⟨rfl, fun q hq => by show zz_u s 45 k (nI p) q = _; rw [pz_uq hq]; exact h2 q hq, fun j hj => ?_⟩, ?_⟩
        · show zz_u s 45 k (nI p) 45 j = _
          rw [pz_u]
          by_cases d : j = k
          · rw [if_pos ⟨rfl, d⟩, d, ← pe]
          · rw [if_neg (by omega)]; exact h3 j (by omega)
        · show fX0_walk_L1 (f + 1) a (nI k) s = _
          rw [fX0_walk_L1, hs44, if_neg (nI_ge hk (by omega)), h1, en, pz_bs, if_neg (nI_pos (n := p) (by omega)), pz_pa (by omega) (by decide), pz_bs, pz_bs, pz_bs, pn_or (by omega), nI_1, pz_wk, ← pe])
    (fun f t hP => ⟨(t.1, nI m, t.2), hP.2, by
      show fX0_walk_L1 (f + 1) t.1 (nI m) t.2 = _
      rw [fX0_walk_L1, show t.2 44 1 = nI m by rw [hP.2.1 44 (by decide)]; exact h44, if_pos (Int32.le_refl _)]⟩) 1000 0 (0, σ) (Nat.zero_le _) ⟨rfl, fun _ _ => rfl, fun j hj => by omega⟩ (by omega)
  exact ⟨r.2.2, by rw [show fX0_walk_L1 1000 (0 : Int32) (0 : Int32) σ = _ from e, pz_bs], hr⟩
theorem fc_best (I : pz_I n σ τ) : ∃ σ', pz_I n σ' τ ∧ ((9 < vM n σ' ∧ fX7_findBest σ = some (.inr "java/lang/IllegalStateException", σ')) ∨ (vM n σ' ≤ 9 ∧ pz_DB n σ' ∧ fX7_findBest σ = some (.inl (), σ'))) := by
  have hn := pI_n I
  obtain ⟨σ', e, I', D, h07, _⟩ := fc_together I
  have hm := vM_le n σ'
  unfold fX7_findBest
  rw [e, pz_bs, D.2.2.2.1]
  by_cases big : vM n σ' ≤ 9
  · rw [if_pos (show nI (vM n σ') ≤ 9 from nI_le (b := 9) big (by decide))]
    rcases I'.2.2 with ⟨k1, _⟩ | ⟨k1, _, k2 | ⟨k2, db⟩⟩
    · rw [h07] at k1; exact absurd k1 (by decide)
    · rw [k2, if_pos rfl]
      unfold fX0_find
      have mn : zz_min (σ' 41 0) (9 : Int32) = nI (vM n σ') := by
        rw [D.2.2.2.1, show (9 : Int32) = nI 9 from rfl, pz_minI (by omega) (by decide), Nat.min_eq_left big]
      rw [mn, pz_us, pz_bs]
      generalize hs1 : zz_u σ' 44 1 (nI (vM n σ')) = σ1
      have q1 : ∀ q, q ≠ 44 → σ1 q = σ' q := fun q h => by rw [← hs1, pz_uq h]
      have sa1 : pz_sa σ' σ1 := ps_fr (fun q h => q1 q (by omega)) (by rw [q1 24 (by decide)]) (by rw [q1 24 (by decide)])
      have dp1 : pz_DP n σ1 := by
        have := D.2.2.2
        unfold pz_DP at *
        rw [ps_M sa1, ps_F sa1, ps_H sa1, q1 41 (by decide), q1 42 (by decide)]
        exact this
      have M1 : vM n σ1 = vM n σ' := ps_M sa1
      obtain ⟨σ2, q, e2, f2, R, hR, hRb, hv⟩ := fc_fill (ps_CW sa1 I'.1) (ps_RL sa1 (q1 6 (by decide)) I'.2.1) dp1 (by rw [M1]; exact big) (by rw [M1, ← hs1, pz_us])
      rw [M1, ps_Cs sa1] at hR
      rw [M1] at hRb hv e2
      have hpos := Nat.two_pow_pos (vM n σ')
      have x1 : ((1 : Int32) <<< (nI (vM n σ') &&& 31)) - 1 = nI (2 ^ vM n σ') + (-1) := (by decide +kernel : ∀ m, m ≤ 9 → ((1 : Int32) <<< (nI m &&& 31)) - 1 = nI (2 ^ m) + (-1)) _ big
      rw [x1, e2, pz_bs]
      show ∃ σ'', _ ∧ (_ ∨ (_ ∧ _ ∧ ((((zz_ga (σ2 46) 512 0).bind fun x26 => (fX0_walk (zz_u σ2 44 0 x26)).bind fun x28 => some x28).bind fun x8 => some (zz_u x8 0 8 1)).bind _) = _))
      rw [show zz_ga (σ2 46) 512 0 = some (σ2 46 0) from pz_ga (k := 0) (by decide) (by decide), pz_bs]
      generalize hs3 : zz_u σ2 44 0 (σ2 46 0) = σ3
      have q3 : ∀ q, q ≠ 44 → σ3 q = σ2 q := fun q h => by rw [← hs3, pz_uq h]
      have cs : ∀ S, vCs n σ1 S = vCs n σ' S := fun S => by rw [ps_Cs sa1]
      obtain ⟨σ4, e4, f4, o4⟩ := fc_walk (σ := σ3) (c := vCs n σ') (R := R) big hR hRb (vCs_le n σ') (by rw [← hs3, pz_uj (by decide), f2 44 (by decide), ← hs1, pz_us]) (fun S h1 h2 => by
        rw [q3 46 (by decide), hv S h1]
        unfold pz_vl
        rw [if_neg (by omega), cs])
      rw [e4, pz_bs, pz_bs, pz_bs]
      have q4 : ∀ q, q ≠ 0 → q ≠ 44 → q ≠ 45 → q ≠ 46 → zz_u σ4 0 8 1 q = σ' q := fun q a b c d => by rw [pz_uq a, f4 q c, q3 q b, f2 q d, q1 q b]
      have sa : pz_sa σ' (zz_u σ4 0 8 1) := ⟨fun q a b _ => q4 q (by omega) (by omega) (by omega) (by omega), by rw [q4 24 (by decide) (by decide) (by decide) (by decide)], by rw [q4 24 (by decide) (by decide) (by decide) (by decide)]⟩
      have r0 : σ2 46 0 = nI (R 0) := by
        rw [hv 0 hpos]
        unfold pz_vl
        rw [if_pos rfl, Nat.zero_add]
      have db : pz_DB n (zz_u σ4 0 8 1) := by
        unfold pz_DB
        rw [ps_M sa, ps_Cs sa]
        refine ⟨big, R, hR, ?_, ?_, fun k hk => ?_⟩
        · rw [pz_uq (by decide), f4 44 (by decide), ← hs3, pz_us, r0]
        · rw [pz_uq (by decide), f4 44 (by decide), ← hs3, pz_uj (by decide), f2 44 (by decide), ← hs1, pz_us]
        · rw [pz_uq (by decide)]; exact o4 k hk
      have z07 : zz_u σ4 0 8 1 0 7 = 1 := by rw [pz_uj (by decide), f4 0 (by decide), q3 0 (by decide), f2 0 (by decide), q1 0 (by decide)]; exact h07
      exact ⟨zz_u σ4 0 8 1, ⟨ps_CW sa I'.1, ps_RL sa (q4 6 (by decide) (by decide) (by decide) (by decide)) I'.2.1, Or.inr ⟨z07, ps_D hn sa (fun q a b => q4 q (by omega) (by omega) (by omega) (by omega)) D, Or.inr ⟨pz_us, db⟩⟩⟩, Or.inr ⟨by rw [ps_M sa]; exact big, db, rfl⟩⟩
    · rw [k2, if_neg (by decide), pz_bs]
      exact ⟨σ', I', Or.inr ⟨big, db, rfl⟩⟩
  · rw [if_neg (show ¬ nI (vM n σ') ≤ 9 from nI_ge (a := 9) (by omega) (by omega))]
    exact ⟨σ', I', Or.inl ⟨by omega, rfl⟩⟩
/-- the reference's least -/
theorem fm_least (I : pz_I n σ τ) (P : pz_MP n σ τ) (h9 : vM n σ ≤ 9) : ∃ τ', fX8_findLeast τ = some τ' ∧ (∀ q, q ≠ 60 → q ≠ 61 → τ' q = τ q) ∧ ∃ R, pz_IsR (vM n σ) (vCs n σ) R ∧ (∀ S, S < 2 ^ vM n σ → R S ≤ 16 * (2 ^ vM n σ - 1 - S)) ∧ ∀ S, S < 2 ^ vM n σ → τ' 60 S = nI (vCs n σ S) ∧ τ' 61 S = nI (R S) := by
  have hn := pI_n I
  unfold fX8_findLeast
  rw [P.1]
  generalize hM : vM n σ = m at *
  have h512 : 2 ^ m ≤ 512 := Nat.pow_le_pow_right (n := 2) (by decide) h9
  have hpos := Nat.two_pow_pos m
  have x1 : ((1 : Int32) <<< (nI m &&& 31)) - 1 = nI (2 ^ m) + (-1) := (by decide +kernel : ∀ m, m ≤ 9 → ((1 : Int32) <<< (nI m &&& 31)) - 1 = nI (2 ^ m) + (-1)) _ h9
  have x2 : nI (2 ^ m) + (-1) = nI (2 ^ m - 1) := by rw [show 2 ^ m = (2 ^ m - 1) + 1 by omega, pk_m1]; rfl
  rw [pz_bs, x1]
  -- one row
  have row : ∀ S s (g : Nat → Nat), S < 2 ^ m → s 47 17 = nI m → (∀ p, p < m → S.testBit p = false → g p < 1000000 ∧ s 60 (S ||| 2 ^ p) + s 61 (S ||| 2 ^ p) = nI (g p)) → ∃ r : Int32 × zz_St, ((∀ q, q ≠ 61 → r.2 q = s q) ∧ (∀ T, T ≠ S → r.2 61 T = s 61 T) ∧ (((∀ p, p < m → S.testBit p = true) ∧ r.2 61 S = s 61 S) ∨ ((∃ p0, p0 < m ∧ S.testBit p0 = false) ∧ (s 61 S = 2147483647 → ∃ p, p < m ∧ S.testBit p = false ∧ r.2 61 S = nI (g p) ∧ ∀ q, q < m → S.testBit q = false → g p ≤ g q)))) ∧ fX8_findLeast_L2 (nI (2 ^ m) + (-1)) (nI S) 1000 0 s = some r := by
    intro S s g hS h47 hg
    exact pz_loop (S := zz_St) (R := Int32 × zz_St) (fun f k t => fX8_findLeast_L2 (nI (2 ^ m) + (-1)) (nI S) f (nI k) t) (fun k t => (∀ q, q ≠ 61 → t q = s q) ∧ (∀ T, T ≠ S → t 61 T = s 61 T) ∧ (((∀ p, p < k → S.testBit p = true) ∧ t 61 S = s 61 S) ∨ ((∃ p0, p0 < k ∧ S.testBit p0 = false) ∧ (s 61 S = 2147483647 → ∃ p, p < k ∧ S.testBit p = false ∧ t 61 S = nI (g p) ∧ ∀ q, q < k → S.testBit q = false → g p ≤ g q)))) (fun r => (∀ q, q ≠ 61 → r.2 q = s q) ∧ (∀ T, T ≠ S → r.2 61 T = s 61 T) ∧ (((∀ p, p < m → S.testBit p = true) ∧ r.2 61 S = s 61 S) ∨ ((∃ p0, p0 < m ∧ S.testBit p0 = false) ∧ (s 61 S = 2147483647 → ∃ p, p < m ∧ S.testBit p = false ∧ r.2 61 S = nI (g p) ∧ ∀ q, q < m → S.testBit q = false → g p ≤ g q)))) m
      (fun k f t hk hP => by
        obtain ⟨i1, i2, i3⟩ := hP
        have un : fX8_findLeast_L2 (nI (2 ^ m) + (-1)) (nI S) (f + 1) (nI k) t = fX8_findLeast_L2 (nI (2 ^ m) + (-1)) (nI S) f (nI (k + 1)) (if S.testBit k = true then t else zz_u t 61 S (zz_min (t 61 S) (nI (g k)))) := by
          rw [fX8_findLeast_L2, i1 47 (by decide), h47, if_neg (nI_ge hk (by omega)), pf_has (by omega), pz_bs, pb_nI (by omega), nI_1]
          cases w : S.testBit k with
          | true => rw [if_neg (by decide), pz_bs, if_pos rfl]
          | false =>
            have u := pn_up hS hk w
            rw [if_pos (by decide), pz_ga (by omega) (by decide), pz_bs, pn_or (by omega), pz_ga (by omega) (by decide), pz_bs, pz_ga (by omega) (by decide), pz_bs, i1 60 (by decide), i2 (S ||| 2 ^ k) (by omega), (hg k hk w).2, pz_pa (by omega) (by decide), pz_bs, pz_bs, if_neg (by decide)]
        refine Or.inl ⟨_, ?_, un⟩
        cases w : S.testBit k with
        | true =>
          rw [if_pos rfl]
          refine ⟨i1, i2, ?_⟩
          rcases i3 with ⟨a, b⟩ | ⟨⟨p0, hp0, hb0⟩, a⟩
          · refine Or.inl ⟨fun p hp => ?_, b⟩
            by_cases d : p = k
            · rw [d]; exact w
            · exact a p (by omega)
          · refine Or.inr ⟨⟨p0, by omega, hb0⟩, fun z => ?_⟩
            obtain ⟨p, h1, h2, h3, h4⟩ := a z
            refine ⟨p, by omega, h2, h3, fun q hq hb => ?_⟩
            by_cases d : q = k
            · rw [d, w] at hb; cases hb
            · exact h4 q (by omega) hb
        | false =>
          rw [if_neg (by decide)]
          have gk := (hg k hk w).1
          refine ⟨fun q hq => by rw [pz_uq hq]; exact i1 q hq, fun T hT => by rw [pz_uj hT]; exact i2 T hT, Or.inr ⟨⟨k, by omega, w⟩, fun z => ?_⟩⟩
          rw [pz_us]
          rcases i3 with ⟨a, b⟩ | ⟨_, a⟩
          · refine ⟨k, by omega, w, ?_, fun q hq hb => ?_⟩
            · rw [b, z]
              exact if_pos (nI_lt (b := 2147483647) (by omega) (by decide))
            · by_cases d : q = k
              · rw [d]; omega
              · have := a q (by omega); rw [this] at hb; cases hb
          · obtain ⟨p, h1, h2, h3, h4⟩ := a z
            have gp := (hg p (by omega) h2).1
            rw [h3, pz_minI (by omega) (by omega)]
            rcases Nat.le_total (g p) (g k) with y | y
            · refine ⟨p, by omega, h2, by rw [Nat.min_eq_left y], fun q hq hb => ?_⟩
              by_cases d : q = k
              · rw [d]; exact y
              · exact h4 q (by omega) hb
            · refine ⟨k, by omega, w, by rw [Nat.min_eq_right y], fun q hq hb => ?_⟩
              by_cases d : q = k
              · rw [d]; omega
              · have := h4 q (by omega) hb; omega)
      (fun f t hP => ⟨(nI m, t), hP, by
        show fX8_findLeast_L2 (nI (2 ^ m) + (-1)) (nI S) (f + 1) (nI m) t = _
        rw [fX8_findLeast_L2, hP.1 47 (by decide), h47, if_pos (Int32.le_refl _)]⟩) 1000 0 s (Nat.zero_le _) ⟨fun _ _ => rfl, fun _ _ => rfl, Or.inl ⟨fun p hp => by omega, rfl⟩⟩ (by omega)
  obtain ⟨r, hr, e⟩ := pz_down (S := zz_St) (R := Int32 × zz_St) (fun f k s => fX8_findLeast_L1 (nI (2 ^ m) + (-1)) f (nI k + (-1)) s)
    (fun k s => k ≤ 2 ^ m ∧ (∀ q, q ≠ 60 → q ≠ 61 → s q = τ q) ∧ ∃ R, pz_fr m (vCs n σ) R k ∧ ∀ S, k ≤ S → S < 2 ^ m → s 60 S = nI (vCs n σ S) ∧ s 61 S = nI (R S))
    (fun r => (∀ q, q ≠ 60 → q ≠ 61 → r.2 q = τ q) ∧ ∃ R, pz_fr m (vCs n σ) R 0 ∧ ∀ S, S < 2 ^ m → r.2 60 S = nI (vCs n σ S) ∧ r.2 61 S = nI (R S))
    (fun S f s hP => by
      obtain ⟨hk, i1, R, hR, hv⟩ := hP
      have hS : S < 2 ^ m := by omega
      have sm : pz_sm' τ s := ⟨fun q h1 h2 => i1 q (by omega) (by omega), by rw [i1 47 (by decide) (by decide)], by rw [i1 47 (by decide) (by decide)], by rw [i1 47 (by decide) (by decide)], by rw [i1 47 (by decide) (by decide)]⟩
      have Is := pI_m I sm
      have Ps : pz_MP n σ s := by
        unfold pz_MP at *
        rw [i1 47 (by decide) (by decide), i1 57 (by decide) (by decide), i1 58 (by decide) (by decide)]
        exact P
      obtain ⟨x, ex, hx⟩ := fm_piecesOf Is Ps (nI S)
      have xq : pz_b x = vQ n σ S := funext fun q => by
        rw [hx]
        unfold vQ
        rw [Bool.eq_iff_iff, pex, pex]
        have := vM_le n σ
        constructor <;> rintro ⟨k, hk, h⟩
        · exact ⟨k, hk, by rw [← pb_nI (by omega)]; exact h⟩
        · exact ⟨k, hk, by rw [pb_nI (by omega)]; exact h⟩
      obtain ⟨v, _, e2, e3⟩ := f_broken Is.1 Is.2.1 x
      rw [xq] at e3
      generalize hs2 : zz_u (zz_u s 60 S (nI (vCs n σ S))) 61 S (if S = 2 ^ m - 1 then 0 else 2147483647) = s2
      have s2q : ∀ q, q ≠ 60 → q ≠ 61 → s2 q = s q := fun q a b => by rw [← hs2, pz_uq b, pz_uq a]
      have s60 : ∀ T, T ≠ S → s2 60 T = s 60 T := fun T hT => by rw [← hs2, pz_uq (by decide), pz_uj hT]
      have s61 : ∀ T, T ≠ S → s2 61 T = s 61 T := fun T hT => by rw [← hs2, pz_uj hT, pz_uq (by decide)]
      have s60S : s2 60 S = nI (vCs n σ S) := by rw [← hs2, pz_uq (by decide), pz_us]
      have s61S : s2 61 S = if S = 2 ^ m - 1 then 0 else 2147483647 := by rw [← hs2, pz_us]
      have vl : ∀ p, p < m → S.testBit p = false → vCs n σ (S ||| 2 ^ p) + R (S ||| 2 ^ p) < 1000000 ∧ s2 60 (S ||| 2 ^ p) + s2 61 (S ||| 2 ^ p) = nI (vCs n σ (S ||| 2 ^ p) + R (S ||| 2 ^ p)) := by
        intro p hp hb
        have u := pn_up hS hp hb
        have b := (hR _ (show S + 1 ≤ S ||| 2 ^ p by omega) u.2).2
        have cc := vCs_le n σ (S ||| 2 ^ p)
        have w := hv _ (show S + 1 ≤ S ||| 2 ^ p by omega) u.2
        refine ⟨by omega, ?_⟩
        rw [s60 _ (by omega), s61 _ (by omega), w.1, w.2, nI_add]
      obtain ⟨r, ⟨r1, r2, r3⟩, er⟩ := row S s2 (fun p => vCs n σ (S ||| 2 ^ p) + R (S ||| 2 ^ p)) hS (by rw [s2q 47 (by decide) (by decide), i1 47 (by decide) (by decide), P.1, hM]) vl
      have un : fX8_findLeast_L1 (nI (2 ^ m) + (-1)) (f + 1) (nI (S + 1) + (-1)) s = fX8_findLeast_L1 (nI (2 ^ m) + (-1)) f (nI S + (-1)) r.2 := by
        have dec : (if nI S = nI (2 ^ m) + (-1) then some (0 : Int32) else some 2147483647) = some (if S = 2 ^ m - 1 then 0 else 2147483647) := by
          rw [x2]
          by_cases g : S = 2 ^ m - 1
          · rw [if_pos (by rw [g]), if_pos g]
          · rw [if_neg (by rw [nI_eq (by omega) (by omega)]; exact g), if_neg g]
        rw [pk_m1, fX8_findLeast_L1, if_neg (nI_pos (n := S) (by omega)), ex, pz_bs, e2, pz_bs, e3, pz_bs, pz_pa (by omega) (by decide), pz_bs, dec, pz_bs, pz_pa (by omega) (by decide), pz_bs]
        show (fX8_findLeast_L2 (nI (2 ^ m) + (-1)) (nI S) 1000 0 (zz_u (zz_u s 60 S (nI (vCs n σ S))) 61 S (if S = 2 ^ m - 1 then 0 else 2147483647))).bind _ = _
        rw [hs2, er, pz_bs]
      have fin : ∀ w, (if S = 2 ^ m - 1 then w = 0 else (∀ k, k < m → S.testBit k = false → w ≤ vCs n σ (S ||| 2 ^ k) + R (S ||| 2 ^ k)) ∧ (∃ k, k < m ∧ S.testBit k = false ∧ w = vCs n σ (S ||| 2 ^ k) + R (S ||| 2 ^ k))) → r.2 61 S = nI w → (S ≤ 2 ^ m ∧ (∀ q, q ≠ 60 → q ≠ 61 → r.2 q = τ q) ∧ ∃ R, pz_fr m (vCs n σ) R S ∧ ∀ T, S ≤ T → T < 2 ^ m → r.2 60 T = nI (vCs n σ T) ∧ r.2 61 T = nI (R T)) := by
        intro w hw hval
        refine ⟨by omega, fun q a b => by rw [r1 q b, s2q q a b]; exact i1 q a b, fun T => if T = S then w else R T, fun T h1 h2 => ?_, fun T h1 h2 => ?_⟩
        · by_cases d : T = S
          · rw [d]
            have ne : ∀ k, k < m → S.testBit k = false → ¬ (S ||| 2 ^ k) = S := fun k hk w => by have := (pn_up hS hk w).1; omega
            constructor
            · unfold pz_at
              by_cases g : S = 2 ^ m - 1
              · rw [if_pos g] at hw ⊢
                simp only [↓reduceIte]; exact hw
              · rw [if_neg g] at hw ⊢
                refine ⟨fun k hk y => ?_, ?_⟩
                · simp only [↓reduceIte, if_neg (ne k hk y)]
                  exact hw.1 k hk y
                · obtain ⟨k, hk, y, e⟩ := hw.2
                  refine ⟨k, hk, y, ?_⟩
                  simp only [↓reduceIte, if_neg (ne k hk y)]
                  exact e
            · simp only [↓reduceIte]
              by_cases g : S = 2 ^ m - 1
              · rw [if_pos g] at hw; omega
              · rw [if_neg g] at hw
                obtain ⟨k, hk, y, e⟩ := hw.2
                have u := pn_up hS hk y
                have b := (hR _ (show S + 1 ≤ S ||| 2 ^ k by omega) u.2).2
                have cc := vCs_le n σ (S ||| 2 ^ k)
                omega
          · have hT := hR T (by omega) h2
            have ne : ∀ k, k < m → T.testBit k = false → ¬ (T ||| 2 ^ k) = S := fun k hk w => by have := (pn_up h2 hk w).1; omega
            constructor
            · have a := hT.1
              unfold pz_at at a ⊢
              by_cases g : T = 2 ^ m - 1
              · rw [if_pos g] at a ⊢
                simp only [if_neg d]; exact a
              · rw [if_neg g] at a ⊢
                refine ⟨fun k hk w => ?_, ?_⟩
                · simp only [if_neg d, if_neg (ne k hk w)]
                  exact a.1 k hk w
                · obtain ⟨k, hk, w, e⟩ := a.2
                  refine ⟨k, hk, w, ?_⟩
                  simp only [if_neg d, if_neg (ne k hk w)]
                  exact e
            · simp only [if_neg d]; exact hT.2
        · by_cases d : T = S
          · rw [d, r1 60 (by decide)]
            simp only [↓reduceIte]
            exact ⟨s60S, hval⟩
          · have w' := hv T (by omega) h2
            rw [r1 60 (by decide), s60 T d, r2 T d, s61 T d]
            simp only [if_neg d]
            exact w'
      refine Or.inl ⟨r.2, ?_, un⟩
      by_cases g : S = 2 ^ m - 1
      · rcases r3 with ⟨a, b⟩ | a
        · exact fin 0 (by rw [if_pos g]) (by rw [b, s61S, if_pos g]; rfl)
        · obtain ⟨⟨p0, hp0, hb0⟩, _⟩ := a
          rw [g, Nat.testBit_two_pow_sub_one, decide_eq_true hp0] at hb0
          cases hb0
      · rcases r3 with ⟨a, b⟩ | a
        · obtain ⟨k, hk, y⟩ := pn_all hS g
          rw [a k hk] at y; cases y
        · obtain ⟨p, hp, hb, hval, best⟩ := a.2 (by rw [s61S, if_neg g])
          exact fin _ (by rw [if_neg g]; exact ⟨fun k hk y => best k hk y, p, hp, hb, rfl⟩) hval)
    (fun f s hP => by
      obtain ⟨hk, i1, R, hR, hv⟩ := hP
      refine ⟨(-1, s), ⟨i1, R, hR, fun S hS => hv S (Nat.zero_le _) hS⟩, ?_⟩
      show fX8_findLeast_L1 (nI (2 ^ m) + (-1)) (f + 1) (nI 0 + (-1)) s = _
      rw [show nI 0 + (-1) = (-1 : Int32) by decide, fX8_findLeast_L1, if_pos (by decide)]) 1000 (2 ^ m) τ ⟨Nat.le_refl _, fun _ _ _ => rfl, fun _ => 0, fun S h1 h2 => by omega, fun S h1 h2 => by omega⟩ (by omega)
  obtain ⟨i1, R, hR, hv⟩ := hr
  exact ⟨r.2, by rw [e, pz_bs], i1, R, pR_is hR, fun S hS => (hR S (Nat.zero_le _) hS).2, hv⟩
end BP
