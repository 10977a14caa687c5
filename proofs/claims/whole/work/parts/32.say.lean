/-! pure part: say -/
section SY
variable {n : Nat} {σ σ' τ τ' : zz_St}
/-- two that MUST NOT be together are joined -/
def pz_cn (n : Nat) (σ : zz_St) : Prop := ∃ p q, p < n ∧ q < n ∧ vNo σ p q = true ∧ pz_C n (vMu σ) p q = true
theorem fc_contra (c6 : pz_CW6 n σ) (hn : n ≤ 14) : ∃ b : Bool, fX6_isContradiction σ = some (zz_bi b) ∧ (b = true ↔ pz_cn n σ) := by
  unfold fX6_isContradiction
  obtain ⟨r, hr, e⟩ := pz_loop (S := Unit) (R := Int32 ⊕ Int32) (fun f k _ => fX6_isContradiction_L1 σ f (nI k))
    (fun k _ => ∀ p q, p < k → ¬ (vNo σ p q = true ∧ pz_C n (vMu σ) p q = true))
    (fun r => (r = .inl 1 ∧ pz_cn n σ) ∨ (r = .inr 14 ∧ ¬ pz_cn n σ)) 14
    (fun k f s hk hP => by
      have hga := pz_ga (f := σ 23) (n := 14) hk (by decide)
      have hun : fX6_isContradiction_L1 σ (f + 1) (nI k) = (((zz_ga (σ 23) 14 (nI k)).bind fun x7 => if x7 = 0 then some false else (fX6_joinedTo σ (nI k)).bind fun x10 => (zz_ga (σ 23) 14 (nI k)).bind fun x12 => if (x10 &&& x12) = 0 then some false else some true).bind fun b2 => if b2 = true then some (.inl (1 : Int32)) else fX6_isContradiction_L1 σ f (nI k + (1 : Int32))) := by
        rw [fX6_isContradiction_L1, if_neg (show ¬ (14 : Int32) ≤ nI k from nI_ge (a := k) (b := 14) hk (by decide))]
      rw [hga, pz_bs] at hun
      by_cases g : σ 23 k = 0
      · refine Or.inl ⟨(), fun p q hp => ?_, ?_⟩
        · by_cases c : p = k
          · rw [c]
            rintro ⟨h, _⟩
            unfold vNo at h
            rw [g, pb_0] at h; cases h
          · exact hP p q (by omega)
        · show fX6_isContradiction_L1 σ (f + 1) (nI k) = _
          rw [hun, if_pos g, pz_bs, if_neg (by decide), nI_1]
      · have hkn : k < n := by
          obtain ⟨i, hi, h⟩ := pb_nz.mp g
          exact (c6.1 k i hk (Or.inr h)).1
        obtain ⟨J, eJ, hJ⟩ := fc_joined c6 hn hkn
        rw [if_neg g, eJ, pz_bs, pz_bs] at hun
        by_cases g2 : J &&& σ 23 k = 0
        · refine Or.inl ⟨(), fun p q hp => ?_, ?_⟩
          · by_cases c : p = k
            · rw [c]
              rintro ⟨h, h2⟩
              have hq : q < 32 := by
                rcases Nat.lt_or_ge q 32 with z | z
                · exact z
                · unfold vNo at h; rw [pb_big z] at h; cases h
              have := pb_z.mp g2 q hq
              rw [pb_and, hJ, h2] at this
              unfold vNo at h
              rw [h] at this; cases this
            · exact hP p q (by omega)
          · show fX6_isContradiction_L1 σ (f + 1) (nI k) = _
            rw [hun, if_pos g2, pz_bs, if_neg (by decide), nI_1]
        · refine Or.inr ⟨.inl 1, Or.inl ⟨rfl, ?_⟩, ?_⟩
          · obtain ⟨i, hi, h⟩ := pb_nz.mp g2
            rw [pb_and, Bool.and_eq_true, hJ] at h
            exact ⟨k, i, hkn, (c6.1 k i hk (Or.inr h.2)).2, h.2, h.1⟩
          · show fX6_isContradiction_L1 σ (f + 1) (nI k) = _
            rw [hun, if_neg g2, pz_bs, if_pos rfl])
    (fun f s hP => ⟨.inr 14, Or.inr ⟨rfl, fun ⟨p, q, hp, hq, h1, h2⟩ => hP p q (by omega) ⟨h1, h2⟩⟩, by
      show fX6_isContradiction_L1 σ (f + 1) (nI 14) = _
      rw [fX6_isContradiction_L1, if_pos (by decide)]
      rfl⟩) 1000 0 () (by decide) (fun p q hp => by omega) (by decide)
  rw [show fX6_isContradiction_L1 σ 1000 (0 : Int32) = _ from e, pz_bs]
  rcases hr with ⟨rfl, h⟩ | ⟨rfl, h⟩
  · exact ⟨true, rfl, ⟨fun _ => h, fun _ => rfl⟩⟩
  · exact ⟨false, rfl, ⟨fun q => absurd q (by decide), fun q => absurd q h⟩⟩
theorem fm_saycheck (c6 : pz_CW6 n σ) (hn : n ≤ 14) (ht : τ 47 1 = nI n) (r6 : pz_RL6 n σ τ) (H : pz_HH n (pz_h0 n (vMu σ)) τ) (x y z w : Int32) : ∃ τ' b, fX8_say_L1 x y z w 1000 0 τ = some (b, τ') ∧ (∀ q, q ≠ 47 → τ' q = τ q) ∧ (∀ j, j ≠ 0 → τ' 47 j = τ 47 j) ∧ (pz_cn n σ → τ' 47 0 = 3) ∧ (¬ pz_cn n σ → τ' 47 0 = τ 47 0) := by
  have hC := pC_eq n (vMu σ)
  have hS : ∀ {a b}, pz_C n (vMu σ) a b = true → pz_C n (vMu σ) b a = true := fun h => pC_sy (vMu_sy c6) h
  let Bad : Nat → Nat → Prop := fun p q => vNo σ p q = true ∧ pz_C n (vMu σ) p q = true
  let Inv : Nat → Nat → zz_St → Prop := fun a b s => (∀ q, q ≠ 47 → s q = τ q) ∧ (∀ j, j ≠ 0 → s 47 j = τ 47 j) ∧ ((s 47 0 = 3 ∧ ∃ p q, p < n ∧ q < n ∧ Bad p q) ∨ (s 47 0 = τ 47 0 ∧ ∀ p q, p < n → q < n → (p < a ∨ (p = a ∧ q < b)) → ¬ Bad p q))
  have inner : ∀ a s, a < n → Inv a 0 s → ∃ r, Inv (a + 1) 0 r.2 ∧ fX8_say_L2 x y z w (nI a) 1000 0 s = some r := by
    intro a s ha hI
    exact pz_loop (S := zz_St) (R := Int32 × zz_St) (fun f k s => fX8_say_L2 x y z w (nI a) f (nI k) s) (fun k s => Inv a k s) (fun r => Inv (a + 1) 0 r.2) n
      (fun b f s hb hP => by
        obtain ⟨i1, i2, i3⟩ := hP
        have R6 : pz_RL6 n σ s := rl6_c (σ := σ) rfl rfl (i1 51 (by decide)) r6
        have e1 : fX8_say_L2 x y z w (nI a) (f + 1) (nI b) s = fX8_say_L2 x y z w (nI a) f (nI (b + 1)) (if vNo σ a b = true ∧ pz_h0 n (vMu σ) a = pz_h0 n (vMu σ) b then zz_u s 47 0 3 else s) := by
          have la := (ph0 n (vMu σ) a ha).1
          have lb := (ph0 n (vMu σ) b hb).1
          rw [fX8_say_L2, i2 1 (by decide), ht, if_neg (nI_ge hb (by omega)), fm_said R6 hn ha hb, pz_bs]
          by_cases g : vNo σ a b = true
          · have m : vMu σ a b = false := by
              cases d : vMu σ a b with
              | false => rfl
              | true => exact absurd ⟨d, g⟩ (c6.2 a b ha hb).2.2
            rw [if_pos (pn_said2.mpr ⟨m, g⟩), i1 55 (by decide), pz_ga (by omega) (by decide), pz_bs, pz_ga (by omega) (by decide), pz_bs, H a ha, H b hb]
            by_cases g2 : pz_h0 n (vMu σ) a = pz_h0 n (vMu σ) b
            · rw [if_pos (by rw [g2]), pz_bs, if_pos rfl, pz_bs, if_pos ⟨g, g2⟩, nI_1]
            · rw [if_neg (by rw [nI_eq (by omega) (by omega)]; exact g2), pz_bs, if_neg (by decide), pz_bs, if_neg (fun q => g2 q.2), nI_1]
          · rw [if_neg (fun q => g (pn_said2.mp q).2), pz_bs, if_neg (by decide), pz_bs, if_neg (fun q => g q.1), nI_1]
        refine Or.inl ⟨_, ?_, e1⟩
        have eqv : pz_h0 n (vMu σ) a = pz_h0 n (vMu σ) b ↔ pz_C n (vMu σ) a b = true := ⟨fun h => ((pl_iff hC ha hb).mp h).1, fun h => (pl_iff hC ha hb).mpr ⟨h, hS h⟩⟩
        by_cases g : vNo σ a b = true ∧ pz_h0 n (vMu σ) a = pz_h0 n (vMu σ) b
        · rw [if_pos g]
          refine ⟨fun q hq => by rw [pz_uq hq]; exact i1 q hq, fun j hj => by rw [pz_uj hj]; exact i2 j hj, Or.inl ⟨pz_us, a, b, ha, hb, g.1, eqv.mp g.2⟩⟩
        · rw [if_neg g]
          refine ⟨i1, i2, ?_⟩
          rcases i3 with i3 | ⟨i3, i4⟩
          · exact Or.inl i3
          · refine Or.inr ⟨i3, fun p q hp hq hpq => ?_⟩
            by_cases c : p = a ∧ q = b
            · rw [c.1, c.2]
              exact fun h => g ⟨h.1, eqv.mpr h.2⟩
            · exact i4 p q hp hq (by omega))
      (fun f s hP => ⟨(nI n, s), by
        obtain ⟨i1, i2, i3⟩ := hP
        refine ⟨i1, i2, ?_⟩
        rcases i3 with i3 | ⟨i3, i4⟩
        · exact Or.inl i3
        · exact Or.inr ⟨i3, fun p q hp hq hpq => i4 p q hp hq (by omega)⟩, by
        show fX8_say_L2 x y z w (nI a) (f + 1) (nI n) s = _
        rw [fX8_say_L2, hP.2.1 1 (by decide), ht, if_pos (Int32.le_refl _)]⟩) 1000 0 s (by omega) hI (by omega)
  obtain ⟨r2, hr2, e2⟩ := pz_loop (S := zz_St) (R := Int32 × zz_St) (fun f k s => fX8_say_L1 x y z w f (nI k) s) (fun k s => Inv k 0 s) (fun r => Inv n 0 r.2) n
    (fun k f s hk hP => by
      obtain ⟨r, hr, e⟩ := inner k s hk hP
      refine Or.inl ⟨r.2, hr, ?_⟩
      show fX8_say_L1 x y z w (f + 1) (nI k) s = _
      rw [fX8_say_L1, hP.2.1 1 (by decide), ht, if_neg (nI_ge hk (by omega)), e, pz_bs, nI_1])
    (fun f s hP => ⟨(nI n, s), hP, by
      show fX8_say_L1 x y z w (f + 1) (nI n) s = _
      rw [fX8_say_L1, hP.2.1 1 (by decide), ht, if_pos (Int32.le_refl _)]⟩) 1000 0 τ (by omega) ⟨fun _ _ => rfl, fun _ _ => rfl, Or.inr ⟨rfl, fun p q _ _ hpq => by omega⟩⟩ (by omega)
  obtain ⟨i1, i2, i3⟩ := hr2
  refine ⟨r2.2, r2.1, e2, i1, i2, fun ⟨p, q, hp, hq, h1, h2⟩ => ?_, fun no => ?_⟩
  · rcases i3 with i3 | ⟨i3, i4⟩
    · exact i3.1
    · exact absurd ⟨h1, h2⟩ (i4 p q hp hq (by omega))
  · rcases i3 with ⟨_, p, q, hp, hq, h1, h2⟩ | ⟨i3, i4⟩
    · exact absurd ⟨p, q, hp, hq, h1, h2⟩ no
    · exact i3
theorem fc_said (c6 : pz_CW6 n σ) {a b : Nat} (ha : a < 14) (hb : b < 14) : fX6_saidOf σ (nI a) (nI b) = some (if vMu σ a b = true then 1 else if vNo σ a b = true then 2 else 0) := by
  unfold fX6_saidOf
  rw [pz_ga ha (by decide), pz_bs, pf_isIn (by omega), pz_bs, pz_ga ha (by decide), pz_bs, pf_isIn (by omega), pz_bs]
  unfold vMu vNo
  cases pz_b (σ 22 a) b <;> cases pz_b (σ 23 a) b <;> rfl
theorem fm_put {a b : Nat} (ha : a < 14) (hb : b < 14) (w : Int32) : fX8_put τ (nI a) (nI b) w = some (zz_u (zz_u τ 51 (14 * a + b) w) 51 (14 * b + a) w) := by
  unfold fX8_put
  rw [show (14 : Int32) = nI 14 from rfl, pk_mul, nI_add, pz_pa (by omega) (by decide), pz_bs, pk_mul, nI_add, pz_pa (by omega) (by decide), pz_bs]
/-- the class's and the reference's put, together -/
theorem p_put (c6 : pz_CW6 n σ) (hn : n ≤ 14) (r6 : pz_RL6 n σ τ) {a b : Nat} (ha : a < n) (hb : b < n) (hab : a ≠ b) {w : Int32} (hw : w = 0 ∨ w = 1 ∨ w = 2)
    (h22 : ∀ c i, pz_b (σ' 22 c) i = if (c = a ∧ i = b) ∨ (c = b ∧ i = a) then decide (w = 1) else pz_b (σ 22 c) i) (h23 : ∀ c i, pz_b (σ' 23 c) i = if (c = a ∧ i = b) ∨ (c = b ∧ i = a) then decide (w = 2) else pz_b (σ 23 c) i) (h51 : τ' 51 = zz_u (zz_u τ 51 (14 * a + b) w) 51 (14 * b + a) w 51) : pz_CW6 n σ' ∧ pz_RL6 n σ' τ' := by
  refine ⟨⟨fun p q hp h => ?_, fun p q hp hq => ?_⟩, fun p q hp hq => ?_⟩
  · rw [h22, h23] at h
    by_cases g : (p = a ∧ q = b) ∨ (p = b ∧ q = a)
    · omega
    · rw [if_neg g, if_neg g] at h
      exact c6.1 p q hp h
  · rw [h22, h22, h23, h23]
    by_cases g : (p = a ∧ q = b) ∨ (p = b ∧ q = a)
    · rw [if_pos g, if_pos (show (q = a ∧ p = b) ∨ (q = b ∧ p = a) by omega), if_pos g, if_pos (show (q = a ∧ p = b) ∨ (q = b ∧ p = a) by omega)]
      refine ⟨rfl, rfl, fun h => ?_⟩
      rw [decide_eq_true_iff, decide_eq_true_iff] at h
      rw [h.1] at h
      exact absurd h.2 (by decide)
    · rw [if_neg g, if_neg (show ¬ ((q = a ∧ p = b) ∨ (q = b ∧ p = a)) by omega), if_neg g, if_neg (show ¬ ((q = a ∧ p = b) ∨ (q = b ∧ p = a)) by omega)]
      exact c6.2 p q hp hq
  · rw [h51, h22, h23, pz_u, pz_u]
    by_cases g : (p = a ∧ q = b) ∨ (p = b ∧ q = a)
    · have e : (if (51 : Nat) = 51 ∧ 14 * p + q = 14 * b + a then w else if (51 : Nat) = 51 ∧ 14 * p + q = 14 * a + b then w else τ 51 (14 * p + q)) = w := by
        rcases g with g | g
        · rw [g.1, g.2]
          split
          · rfl
          · rw [if_pos ⟨rfl, rfl⟩]
        · rw [g.1, g.2, if_pos ⟨rfl, rfl⟩]
      rw [e, if_pos g, if_pos g]
      rcases hw with h | h | h <;> (rw [h]; decide)
    · rw [if_neg (by omega), if_neg (by omega), if_neg g, if_neg g]
      exact r6 p q hp hq
theorem t_say (I : pz_I n σ τ) (u v x : Int32) : ∃ rc σ' b τ', fX7_say σ u v x = some (rc, σ') ∧ fX8_say τ u v x = some (b, τ') ∧ pz_I n σ' τ' ∧ pz_a3 "java/lang/IndexOutOfBoundsException" "java/lang/IllegalArgumentException" "java/lang/IllegalStateException" rc b (τ' 47 0) := by
  have hn := pI_n I
  have hc := pI_c I
  unfold fX7_say fX8_say
  rcases pbd n (by omega) u with q | ⟨a, ha, rfl⟩
  · rw [fc_rp_n hc q, pz_bs, fm_are_n I (Or.inl q), pz_bs]
    exact ⟨_, σ, _, zz_u τ 47 0 1, rfl, rfl, pI_m I (pm_u0 τ 1), Or.inr (Or.inl ⟨rfl, pz_us⟩)⟩
  rw [fc_rp_y hc hn ha, pz_bs]
  rcases pbd n (by omega) v with q | ⟨b, hb, rfl⟩
  · rw [fm_are_n I (Or.inr q), pz_bs]
    show ∃ rc σ' b τ', (fX7_requirePiece σ v).bind _ = _ ∧ _
    rw [fc_rp_n hc q, pz_bs]
    exact ⟨_, σ, _, zz_u τ 47 0 1, rfl, rfl, pI_m I (pm_u0 τ 1), Or.inr (Or.inl ⟨rfl, pz_us⟩)⟩
  rw [fm_are_y I ha hb, pz_bs, if_neg (show ¬ ((1 : Int32), zz_u τ 47 0 0).1 = 0 from (by decide : ¬ (1 : Int32) = 0))]
  show ∃ rc σ' b' τ', (fX7_requirePiece σ (nI b)).bind _ = _ ∧ _
  rw [fc_rp_y hc hn hb, pz_bs]
  show ∃ rc σ' b' τ', (fX7_requireDifferent σ (nI a) (nI b)).bind _ = _ ∧ _
  by_cases g : nI a = nI b
  · rw [g, fc_rd_n, pz_bs, if_pos rfl, pz_bs, if_pos rfl]
    exact ⟨_, σ, _, zz_u (zz_u τ 47 0 0) 47 0 2, rfl, rfl, pI_m I (pm_tr (pm_u0 τ 0) (pm_u0 _ 2)), Or.inr (Or.inr (Or.inl ⟨rfl, pz_us⟩))⟩
  have hab : a ≠ b := fun q => g (by rw [q])
  rw [fc_rd_y g, pz_bs, if_neg g, fm_in, pz_bs]
  show ∃ rc σ' b' τ', (fX7_isUpTo σ x 2).bind _ = _ ∧ _
  rw [fc_up, pz_bs]
  cases hx : pz_in 0 2 x with
  | false =>
    rw [if_pos (by decide), if_pos (by decide), pz_bs, if_pos rfl]
    exact ⟨_, σ, _, zz_u (zz_u τ 47 0 0) 47 0 2, rfl, rfl, pI_m I (pm_tr (pm_u0 τ 0) (pm_u0 _ 2)), Or.inr (Or.inr (Or.inl ⟨rfl, pz_us⟩))⟩
  | true =>
  have hw : x = 0 ∨ x = 1 ∨ x = 2 := by
    obtain ⟨j, hj, e⟩ := pin_e (m := 2) (by decide) hx
    rcases (by omega : j = 0 ∨ j = 1 ∨ j = 2) with q | q | q <;> rw [q] at e
    · exact Or.inl e
    · exact Or.inr (Or.inl e)
    · exact Or.inr (Or.inr e)
  obtain ⟨c1, c2, c3, c5, c6⟩ := I.1
  have I0 := pI_m I (pm_u0 τ 0)
  obtain ⟨r1, r2, r3, r4, r5, r6⟩ := I0.2.1
  rw [if_neg (by decide), if_neg (by decide), pz_bs, if_neg (by decide), fc_said c6 (by omega) (by omega), pz_bs]
  show ∃ rc σ' b' τ', _ ∧ ((fX8_saidOf (zz_u τ 47 0 0) (nI a) (nI b)).bind fun x15 => (fX8_put (zz_u τ 47 0 0) (nI a) (nI b) x).bind _) = _ ∧ _
  rw [fm_said r6 hn ha hb, pz_bs, fm_put (by omega) (by omega), pz_bs]
  obtain ⟨σ1, e1, a1, b1, d1⟩ := fc_put (σ := σ) (a := a) (b := b) (by omega) (by omega) x
  rw [e1, pz_bs]
  generalize hτ1 : zz_u (zz_u (zz_u τ 47 0 0) 51 (14 * a + b) x) 51 (14 * b + a) x = τ1
  have t1q : ∀ q, q ≠ 51 → τ1 q = zz_u τ 47 0 0 q := fun q h => by rw [← hτ1, pz_uq h, pz_uq h]
  obtain ⟨c6', r6'⟩ := p_put c6 hn r6 ha hb hab hw b1 d1 (τ' := τ1) (by rw [← hτ1])
  have ht1 : τ1 47 1 = nI n := by rw [t1q 47 (by decide)]; exact r1
  obtain ⟨τ2, e2, a2, H2⟩ := fm_start c6' hn ht1 r6'
  obtain ⟨τ3, b3, e3, a3, z3, y3, n3⟩ := fm_saycheck c6' hn (by rw [a2 47 (by decide)]; exact ht1) (rl6_c (σ := σ1) rfl rfl (a2 51 (by decide)) r6') H2 (nI a) (nI b) x (if vMu σ a b = true then 1 else if vNo σ a b = true then 2 else 0)
  obtain ⟨bb, e4, h4⟩ := fc_contra c6' hn
  rw [e2, pz_bs, e3, pz_bs, e4, pz_bs]
  have q3 : ∀ q, q ≠ 47 → q ≠ 51 → q ≠ 55 → τ3 q = zz_u τ 47 0 0 q := fun q x y z => by rw [a3 q x, a2 q z, t1q q y]
  have q47 : ∀ j, j ≠ 0 → τ3 47 j = zz_u τ 47 0 0 47 j := fun j hj => by rw [z3 j hj, a2 47 (by decide), t1q 47 (by decide)]
  have q51 : τ3 51 = τ1 51 := by rw [a3 51 (by decide), a2 51 (by decide)]
  cases bb with
  | false =>
    have no : ¬ pz_cn n σ1 := fun h => by have := h4.mpr h; cases this
    have z : τ3 47 0 = 0 := by rw [n3 no, a2 47 (by decide), t1q 47 (by decide), pz_us]
    rw [if_pos (by decide), fc_fg, pz_bs]
    show ∃ rc σ' b' τ', _ ∧ (if τ3 47 0 = 0 then _ else _) = _ ∧ _
    rw [if_pos z]
    have sq : ∀ q, q ≠ 0 → q ≠ 22 → q ≠ 23 → pz_fg σ1 q = σ q := fun q x y z => by rw [pfg_q x, a1 q y z]
    refine ⟨_, pz_fg σ1, _, τ3, rfl, rfl, ⟨⟨cw1_c (sq 1 (by decide) (by decide) (by decide)) c1, cw2_c (sq 3 (by decide) (by decide) (by decide)) c2, cw3_c (fun q h h2 => sq q (by omega) (by omega) (by omega)) c3, cw5_c (sq 20 (by decide) (by decide) (by decide)) (by rw [sq 24 (by decide) (by decide) (by decide)]) (by rw [sq 24 (by decide) (by decide) (by decide)]) c5, cw6_c (pfg_q (by decide)) (pfg_q (by decide)) c6'⟩, ⟨by rw [q47 1 (by decide)]; exact r1, rl2_c (fun q h h2 => sq q (by omega) (by omega) (by omega)) (q3 48 (by decide) (by decide) (by decide)) (q3 50 (by decide) (by decide) (by decide)) r2, rl3_c (fun q h h2 => sq q (by omega) (by omega) (by omega)) (q3 49 (by decide) (by decide) (by decide)) r3, rl4_c (sq 17 (by decide) (by decide) (by decide)) (sq 18 (by decide) (by decide) (by decide)) (q3 52 (by decide) (by decide) (by decide)) (q3 53 (by decide) (by decide) (by decide)) r4, rl5_c (sq 20 (by decide) (by decide) (by decide)) (by rw [sq 19 (by decide) (by decide) (by decide)]) (by rw [sq 24 (by decide) (by decide) (by decide)]) (by rw [sq 24 (by decide) (by decide) (by decide)]) (q3 54 (by decide) (by decide) (by decide)) (q47 9 (by decide)) (q47 10 (by decide)) (q47 11 (by decide)) r5, rl6_c (pfg_q (by decide)) (pfg_q (by decide)) q51 r6'⟩, pK_fg rfl⟩, Or.inl ⟨rfl, z⟩⟩
  | true =>
    have yes : pz_cn n σ1 := h4.mp rfl
    have z : τ3 47 0 = 3 := y3 yes
    rw [if_neg (by decide)]
    show ∃ rc σ' b' τ', _ ∧ (if τ3 47 0 = 0 then _ else (fX8_put τ3 (nI a) (nI b) _).bind _) = _ ∧ _
    rw [z, if_neg (show ¬ (3 : Int32) = 0 by decide), fm_put (by omega) (by omega), pz_bs]
    generalize hws : (if vMu σ a b = true then (1 : Int32) else if vNo σ a b = true then 2 else 0) = ws
    have hs1 := (c6.2 a b ha hb).1
    have hs2 := (c6.2 a b ha hb).2.1
    have hs3 := (c6.2 a b ha hb).2.2
    obtain ⟨σ2, e5, a5, b5, d5⟩ := fc_put (σ := σ1) (a := a) (b := b) (by omega) (by omega) ws
    rw [e5, pz_bs]
    have f22 : σ2 22 = σ 22 := by
      funext c
      apply pb_ext
      intro i _
      rw [b5, b1]
      by_cases g : (c = a ∧ i = b) ∨ (c = b ∧ i = a)
      · rw [if_pos g]
        have e : pz_b (σ 22 c) i = pz_b (σ 22 a) b := by
          rcases g with g | g
          · rw [g.1, g.2]
          · rw [g.1, g.2]; exact hs1.symm
        rw [e, ← hws]
        unfold vMu vNo
        cases h1 : pz_b (σ 22 a) b <;> cases h2 : pz_b (σ 23 a) b <;> first | rfl | decide | exact absurd ⟨h1, h2⟩ hs3
      · rw [if_neg g, if_neg g]
    have f23 : σ2 23 = σ 23 := by
      funext c
      apply pb_ext
      intro i _
      rw [d5, d1]
      by_cases g : (c = a ∧ i = b) ∨ (c = b ∧ i = a)
      · rw [if_pos g]
        have e : pz_b (σ 23 c) i = pz_b (σ 23 a) b := by
          rcases g with g | g
          · rw [g.1, g.2]
          · rw [g.1, g.2]; exact hs2.symm
        rw [e, ← hws]
        unfold vMu vNo
        cases h1 : pz_b (σ 22 a) b <;> cases h2 : pz_b (σ 23 a) b <;> first | rfl | decide | exact absurd ⟨h1, h2⟩ hs3
      · rw [if_neg g, if_neg g]
    have same : σ2 = σ := by
      funext q
      by_cases g : q = 22
      · rw [g]; exact f22
      · by_cases g2 : q = 23
        · rw [g2]; exact f23
        · rw [a5 q g g2, a1 q g g2]
    rw [same]
    refine ⟨_, σ, _, zz_u (zz_u τ3 51 (14 * a + b) ws) 51 (14 * b + a) ws, rfl, rfl, ⟨I.1, ⟨by rw [pz_uq (by decide), pz_uq (by decide), q47 1 (by decide)]; exact r1, rl2_c (σ := σ) (fun q h h2 => rfl) (by rw [pz_uq (by decide), pz_uq (by decide)]; exact q3 48 (by decide) (by decide) (by decide)) (by rw [pz_uq (by decide), pz_uq (by decide)]; exact q3 50 (by decide) (by decide) (by decide)) r2, rl3_c (σ := σ) (fun q h h2 => rfl) (by rw [pz_uq (by decide), pz_uq (by decide)]; exact q3 49 (by decide) (by decide) (by decide)) r3, rl4_c (σ := σ) rfl rfl (by rw [pz_uq (by decide), pz_uq (by decide)]; exact q3 52 (by decide) (by decide) (by decide)) (by rw [pz_uq (by decide), pz_uq (by decide)]; exact q3 53 (by decide) (by decide) (by decide)) r4, rl5_c (σ := σ) rfl rfl rfl rfl (by rw [pz_uq (by decide), pz_uq (by decide)]; exact q3 54 (by decide) (by decide) (by decide)) (by rw [pz_uq (by decide), pz_uq (by decide)]; exact q47 9 (by decide)) (by rw [pz_uq (by decide), pz_uq (by decide)]; exact q47 10 (by decide)) (by rw [pz_uq (by decide), pz_uq (by decide)]; exact q47 11 (by decide)) r5, ?_⟩, I.2.2⟩, Or.inr (Or.inr (Or.inr ⟨rfl, by rw [pz_uq (by decide), pz_uq (by decide)]; exact z⟩))⟩
    rw [← same]
    have hws3 : ws = 0 ∨ ws = 1 ∨ ws = 2 := by
      rw [← hws]
      cases vMu σ a b <;> cases vNo σ a b <;> decide
    exact (p_put c6' hn (τ := τ3) (rl6_c (σ := σ1) rfl rfl q51 r6') ha hb hab hws3 b5 d5 rfl).2
end SY
