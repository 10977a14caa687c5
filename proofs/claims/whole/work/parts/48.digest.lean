/-! pure part: digest -/
section DG
variable {n : Nat} {σ σ' τ τ' : zz_St}
def vD1 (σ : zz_St) (p : Nat) (d : Int64) : Int64 := ((((((((d * 31 + (σ 2 p).toInt64) * 31 + (σ 3 p).toInt64) * 31 + (σ 4 p).toInt64) * 31 + (σ 5 p).toInt64) * 31 + (σ 8 p).toInt64) * 31 + (σ 9 p).toInt64) * 31 + (σ 10 p).toInt64) * 31 + (σ 11 p).toInt64) * 31 + (σ 6 p).toInt64
def vD2 (σ : zz_St) (k : Nat) (d : Int64) : Int64 := d * 31 + (σ 20 k).toInt64
def vD3 (σ : zz_St) (x : Nat) (d : Int64) : Int64 := (d * 31 + (zz_bi (pz_b (σ 17 0) x)).toInt64) * 31 + (σ 18 x).toInt64
def vD4 (σ : zz_St) (i : Nat) (d : Int64) : Int64 := d * 31 + (σ 25 i).toInt64
def vD5 (σ : zz_St) (i : Nat) (d : Int64) : Int64 := d * 31 + (σ 42 i).toInt64
theorem fc_d1 (hc : σ 1 0 = nI n) (hn : n ≤ 14) (d : Int64) : fX5_mixInto σ d = some (pz_fd (vD1 σ) (d * 31 + (nI n).toInt64) n) := by
  unfold fX5_mixInto fX7_mix
  rw [pz_bs, hc]
  have inner : ∀ p, p < n → ∀ x, fX5_mixInto_L2 σ d (nI p) 1000 x 0 = some ((((x * 31 + (σ 8 p).toInt64) * 31 + (σ 9 p).toInt64) * 31 + (σ 10 p).toInt64) * 31 + (σ 11 p).toInt64, 4) := by
    intro p hp x
    exact pz_for (S := Int64) (fun f w y => fX5_mixInto_L2 σ d (nI p) f y (nI w)) (fun w y => y * 31 + (σ (8 + w) p).toInt64) (fun y => (y, (4 : Int32))) 4 x (fun w f hw => by
      show fX5_mixInto_L2 σ d (nI p) (f + 1) _ (nI w) = _
      rw [fX5_mixInto_L2, if_neg (show ¬ (4 : Int32) ≤ nI w from nI_ge (a := w) (b := 4) hw (by decide)), pz_ix hw (by decide), pz_bs, pz_ga (by omega) (by decide), pz_bs]
      unfold fX7_mix
      rw [pz_bs, nI_1]) (fun f => by
      show fX5_mixInto_L2 σ d (nI p) (f + 1) _ (nI 4) = _
      rw [fX5_mixInto_L2, if_pos (by decide)]
      rfl) 1000 0 (by decide) (by decide)
  have e := pz_for (S := Int64) (fun f p y => fX5_mixInto_L1 σ d f y (nI p)) (vD1 σ) (fun y => (y, nI n)) n (d * 31 + (nI n).toInt64) (fun p f hp => by
    show fX5_mixInto_L1 σ d (f + 1) _ (nI p) = _
    rw [fX5_mixInto_L1, hc, if_neg (nI_ge hp (by omega)), pz_ga (by omega) (by decide), pz_bs, pz_ga (by omega) (by decide), pz_ga (by omega) (by decide), pz_ga (by omega) (by decide), pz_ga (by omega) (by decide)]
    unfold fX7_mix
    simp only [pz_bs, inner p hp, nI_1]
    rfl) (fun f => by
    show fX5_mixInto_L1 σ d (f + 1) _ (nI n) = _
    rw [fX5_mixInto_L1, hc, if_pos (Int32.le_refl _)]) 1000 0 (Nat.zero_le _) (by omega)
  rw [show fX5_mixInto_L1 σ d 1000 (d * 31 + (nI n).toInt64) (0 : Int32) = _ from e, pz_bs]
theorem fc_d2 (d : Int64) : fX7_mixRow_a20 σ d 4 = some (pz_fd (vD2 σ) d 4) := by
  unfold fX7_mixRow_a20
  have e := pz_for (S := Int64) (fun f k y => fX7_mixRow_a20_L1 σ d 4 f y (nI k)) (vD2 σ) (fun y => (y, (4 : Int32))) 4 d (fun k f hk => by
    show fX7_mixRow_a20_L1 σ d 4 (f + 1) _ (nI k) = _
    rw [fX7_mixRow_a20_L1, if_neg (show ¬ (4 : Int32) ≤ nI k from nI_ge (a := k) (b := 4) hk (by decide)), if_neg (show ¬ (4 : Int32) ≤ nI k from nI_ge (a := k) (b := 4) hk (by decide)), pz_bs, if_pos rfl, pz_ga hk (by decide), pz_bs]
    unfold fX7_mix
    rw [pz_bs, nI_1]
    rfl) (fun f => by
    show fX7_mixRow_a20_L1 σ d 4 (f + 1) _ (nI 4) = _
    rw [fX7_mixRow_a20_L1, if_pos (by decide), pz_bs, if_neg (by decide)]
    rfl) 1000 0 (by decide) (by decide)
  rw [show fX7_mixRow_a20_L1 σ d 4 1000 d (0 : Int32) = _ from e, pz_bs]
theorem fc_d3 (d : Int64) : fX1_mixInto σ d = some (pz_fd (vD3 σ) d 16) := by
  unfold fX1_mixInto
  have e := pz_for (S := Int64) (fun f k y => fX1_mixInto_L1 σ d f y (nI k)) (vD3 σ) (fun y => (y, (16 : Int32))) 16 d (fun k f hk => by
    show fX1_mixInto_L1 σ d (f + 1) _ (nI k) = _
    rw [fX1_mixInto_L1, if_neg (show ¬ (16 : Int32) ≤ nI k from nI_ge (a := k) (b := 16) hk (by decide)), pb_bit (by omega), pz_ga hk (by decide)]
    unfold fX7_mix
    rw [pz_bs, pz_bs, pz_bs, nI_1]
    rfl) (fun f => by
    show fX1_mixInto_L1 σ d (f + 1) _ (nI 16) = _
    rw [fX1_mixInto_L1, if_pos (by decide)]
    rfl) 1000 0 (by decide) (by decide)
  rw [show fX1_mixInto_L1 σ d 1000 d (0 : Int32) = _ from e, pz_bs]
theorem fc_d4 {k : Nat} (hk : k ≤ 14) (d : Int64) : fX7_mixRow_a25 σ d (nI k) = some (pz_fd (vD4 σ) d k) := by
  unfold fX7_mixRow_a25
  have e := pz_for (S := Int64) (fun f i y => fX7_mixRow_a25_L1 σ d (nI k) f y (nI i)) (vD4 σ) (fun y => (y, nI k)) k d (fun i f hi => by
    show fX7_mixRow_a25_L1 σ d (nI k) (f + 1) _ (nI i) = _
    rw [fX7_mixRow_a25_L1, if_neg (nI_ge hi (by omega)), if_neg (show ¬ (14 : Int32) ≤ nI i from nI_ge (a := i) (b := 14) (by omega) (by decide)), pz_bs, if_pos rfl, pz_ga (by omega) (by decide), pz_bs]
    unfold fX7_mix
    rw [pz_bs, nI_1]
    rfl) (fun f => by
    show fX7_mixRow_a25_L1 σ d (nI k) (f + 1) _ (nI k) = _
    rw [fX7_mixRow_a25_L1, if_pos (Int32.le_refl _), pz_bs, if_neg (by decide)]) 1000 0 (Nat.zero_le _) (by omega)
  rw [show fX7_mixRow_a25_L1 σ d (nI k) 1000 d (0 : Int32) = _ from e, pz_bs]
theorem fc_d5 {k : Nat} (hk : k ≤ 14) (d : Int64) : fX7_mixRow_a42 σ d (nI k) = some (pz_fd (vD5 σ) d k) := by
  unfold fX7_mixRow_a42
  have e := pz_for (S := Int64) (fun f i y => fX7_mixRow_a42_L1 σ d (nI k) f y (nI i)) (vD5 σ) (fun y => (y, nI k)) k d (fun i f hi => by
    show fX7_mixRow_a42_L1 σ d (nI k) (f + 1) _ (nI i) = _
    rw [fX7_mixRow_a42_L1, if_neg (nI_ge hi (by omega)), if_neg (show ¬ (14 : Int32) ≤ nI i from nI_ge (a := i) (b := 14) (by omega) (by decide)), pz_bs, if_pos rfl, pz_ga (by omega) (by decide), pz_bs]
    unfold fX7_mix
    rw [pz_bs, nI_1]
    rfl) (fun f => by
    show fX7_mixRow_a42_L1 σ d (nI k) (f + 1) _ (nI k) = _
    rw [fX7_mixRow_a42_L1, if_pos (Int32.le_refl _), pz_bs, if_neg (by decide)]) 1000 0 (Nat.zero_le _) (by omega)
  rw [show fX7_mixRow_a42_L1 σ d (nI k) 1000 d (0 : Int32) = _ from e, pz_bs]
/-! the reference's -/
theorem fm_d1 (I : pz_I n σ τ) (d : Int64) : ∃ q, fX8_digest_L1 τ 1000 d 0 = some (pz_fd (vD1 σ) d n, q) := by
  have hn := pI_n I
  have ht := pI_t I
  have r2 := I.2.1.2.1
  have r3 := I.2.1.2.2.1
  have in2 : ∀ p, p < n → ∀ x, fX8_digest_L2 τ (nI p) 1000 x 0 = some ((((x * 31 + (σ 2 p).toInt64) * 31 + (σ 3 p).toInt64) * 31 + (σ 4 p).toInt64) * 31 + (σ 5 p).toInt64, 4) := by
    intro p hp x
    have e := pz_for (S := Int64) (fun f w y => fX8_digest_L2 τ (nI p) f y (nI w)) (fun w y => y * 31 + (τ 48 (4 * p + w)).toInt64) (fun y => (y, (4 : Int32))) 4 x (fun w f hw => by
      show fX8_digest_L2 τ (nI p) (f + 1) _ (nI w) = _
      rw [fX8_digest_L2, if_neg (show ¬ (4 : Int32) ≤ nI w from nI_ge (a := w) (b := 4) hw (by decide)), show (4 : Int32) = nI 4 from rfl, pk_mul, nI_add, pz_ga (by omega) (by decide), pz_bs, pz_bs, nI_1]) (fun f => by
      show fX8_digest_L2 τ (nI p) (f + 1) _ (nI 4) = _
      rw [fX8_digest_L2, if_pos (by decide)]
      rfl) 1000 0 (by decide) (by decide)
    obtain ⟨a, b, c, d, _⟩ := r2 p hp
    rw [show fX8_digest_L2 τ (nI p) 1000 x 0 = _ from e, a, b, c, d]
    rfl
  have in3 : ∀ p, p < n → ∀ x, fX8_digest_L3 τ (nI p) 1000 x 0 = some ((((x * 31 + (σ 8 p).toInt64) * 31 + (σ 9 p).toInt64) * 31 + (σ 10 p).toInt64) * 31 + (σ 11 p).toInt64, 4) := by
    intro p hp x
    exact pz_for (S := Int64) (fun f w y => fX8_digest_L3 τ (nI p) f y (nI w)) (fun w y => y * 31 + (σ (8 + w) p).toInt64) (fun y => (y, (4 : Int32))) 4 x (fun w f hw => by
      show fX8_digest_L3 τ (nI p) (f + 1) _ (nI w) = _
      rw [fX8_digest_L3, if_neg (show ¬ (4 : Int32) ≤ nI w from nI_ge (a := w) (b := 4) hw (by decide)), fm_names r3 hn hp hw, pz_bs, pz_bs, nI_1]) (fun f => by
      show fX8_digest_L3 τ (nI p) (f + 1) _ (nI 4) = _
      rw [fX8_digest_L3, if_pos (by decide)]
      rfl) 1000 0 (by decide) (by decide)
  refine ⟨nI n, ?_⟩
  exact pz_for (S := Int64) (fun f p y => fX8_digest_L1 τ f y (nI p)) (vD1 σ) (fun y => (y, nI n)) n d (fun p f hp => by
    show fX8_digest_L1 τ (f + 1) _ (nI p) = _
    rw [fX8_digest_L1, ht, if_neg (nI_ge hp (by omega)), in2 p hp, pz_bs, in3 p hp, pz_bs, pz_ga (by omega) (by decide), pz_bs, pz_bs, nI_1, ← (r2 p hp).2.2.2.2]
    rfl) (fun f => by
    show fX8_digest_L1 τ (f + 1) _ (nI n) = _
    rw [fX8_digest_L1, ht, if_pos (Int32.le_refl _)]) 1000 0 (Nat.zero_le _) (by omega)
theorem fm_d2 (I : pz_I n σ τ) (d : Int64) : ∃ q, fX8_digest_L4 τ 1000 d 0 = some (pz_fd (vD2 σ) d 4, q) := by
  refine ⟨4, ?_⟩
  exact pz_for (S := Int64) (fun f k y => fX8_digest_L4 τ f y (nI k)) (vD2 σ) (fun y => (y, (4 : Int32))) 4 d (fun k f hk => by
    show fX8_digest_L4 τ (f + 1) _ (nI k) = _
    rw [fX8_digest_L4, if_neg (show ¬ (4 : Int32) ≤ nI k from nI_ge (a := k) (b := 4) hk (by decide)), pz_ga hk (by decide), pz_bs, pz_bs, nI_1, ← I.2.1.2.2.2.2.1.1 k hk]
    rfl) (fun f => by
    show fX8_digest_L4 τ (f + 1) _ (nI 4) = _
    rw [fX8_digest_L4, if_pos (by decide)]
    rfl) 1000 0 (by decide) (by decide)
theorem fm_d3 (I : pz_I n σ τ) (d : Int64) : ∃ q, fX8_digest_L5 τ 1000 d 0 = some (pz_fd (vD3 σ) d 16, q) := by
  refine ⟨16, ?_⟩
  exact pz_for (S := Int64) (fun f k y => fX8_digest_L5 τ f y (nI k)) (vD3 σ) (fun y => (y, (16 : Int32))) 16 d (fun k f hk => by
    obtain ⟨a, b⟩ := I.2.1.2.2.2.1 k hk
    show fX8_digest_L5 τ (f + 1) _ (nI k) = _
    rw [fX8_digest_L5, if_neg (show ¬ (16 : Int32) ≤ nI k from nI_ge (a := k) (b := 16) hk (by decide)), pz_ga hk (by decide), pz_bs, pz_ga hk (by decide), a, ← b]
    have e0 : (if zz_bi (pz_b (σ 17 0) k) = 0 then some (0 : Int64) else some 1) = some (zz_bi (pz_b (σ 17 0) k)).toInt64 := by cases pz_b (σ 17 0) k <;> decide
    rw [e0, pz_bs, pz_bs, pz_bs, nI_1]
    rfl) (fun f => by
    show fX8_digest_L5 τ (f + 1) _ (nI 16) = _
    rw [fX8_digest_L5, if_pos (by decide)]
    rfl) 1000 0 (by decide) (by decide)
theorem fm_d4 (I : pz_I n σ τ) (H : pz_HH n (vH n σ) τ) {k : Nat} {e : Nat → Nat} (E : pz_En n (vH n σ) k e) (hs : ∀ i, i < k → ∀ b, pz_b (σ 25 i) b = pz_G n (vH n σ) (e i) b) (x : Int32) (d : Int64) : ∃ q, fX8_digest_L6 τ x 1000 d 0 = some (pz_fd (vD4 σ) d k, q) := by
  have hn := pI_n I
  have ht := pI_t I
  have hkn := pEn_k E
  have hh := vH_Hd (n := n) I.1.2.2.2.1
  -- the set that a head has
  let T : Nat → Int32 := fun p => (fX8_setOf_a55 τ (nI p)).getD 0
  have hT : ∀ p, p < n → fX8_setOf_a55 τ (nI p) = some (T p) ∧ ∀ b, pz_b (T p) b = pz_G n (vH n σ) p b := fun p hp => by
    obtain ⟨y, ey, hy⟩ := fm_set55 ht hn hh H (v := p) (by omega)
    have : T p = y := by show (fX8_setOf_a55 τ (nI p)).getD 0 = y; rw [ey]; rfl
    rw [this]
    exact ⟨ey, hy⟩
  let G : Nat → Int64 → Int64 := fun p y => if vH n σ p = p then y * 31 + (T p).toInt64 else y
  have e1 : fX8_digest_L6 τ x 1000 d 0 = some (pz_fd G d n, nI n) := by
    exact pz_for (S := Int64) (fun f p y => fX8_digest_L6 τ x f y (nI p)) G (fun y => (y, nI n)) n d (fun p f hp => by
      have lp := (hh p hp).1
      show fX8_digest_L6 τ x (f + 1) _ (nI p) = fX8_digest_L6 τ x f (if vH n σ p = p then _ * 31 + (T p).toInt64 else _) (nI (p + 1))
      rw [fX8_digest_L6, ht, if_neg (nI_ge hp (by omega)), pz_ga (by omega) (by decide), pz_bs, H p hp, (hT p hp).1]
      by_cases g : vH n σ p = p
      · rw [if_pos (by rw [g]), pz_bs, pz_bs, pz_bs, if_pos g, nI_1]
      · rw [if_neg (by rw [nI_eq (by omega) (by omega)]; exact g), pz_bs, if_neg g, nI_1]) (fun f => by
      show fX8_digest_L6 τ x (f + 1) _ (nI n) = _
      rw [fX8_digest_L6, ht, if_pos (Int32.le_refl _)]) 1000 0 (Nat.zero_le _) (by omega)
  have noop : ∀ p, vH n σ p ≠ p → ∀ y, G p y = y := fun p h y => if_neg h
  have e2 : ∀ i, i ≤ k → pz_fd G d (e i) = pz_fd (vD4 σ) d i := by
    intro i
    induction i with
    | zero =>
      intro _
      rw [pd_skip (m := 0) _ (Nat.zero_le _) (fun s _ h y => noop s (pEn_low E h) y)]
      rfl
    | succ i ih =>
      intro hi
      have lt := E.2.1 i (i + 1) (by omega) hi
      have ei := E.1 i (by omega)
      rw [pd_skip (m := e i + 1) _ (by omega) (fun s a b y => noop s (pEn_gap E (by omega) (by omega) b) y), pz_fd, pz_fd, ih (by omega)]
      show (if vH n σ (e i) = e i then _ * 31 + (T (e i)).toInt64 else _) = _ * 31 + (σ 25 i).toInt64
      rw [if_pos ei.2, show T (e i) = σ 25 i from pb_ext fun b _ => by rw [(hT (e i) ei.1).2, hs i (by omega)]]
  have := e2 k (Nat.le_refl k)
  rw [E.2.2.1] at this
  exact ⟨nI n, by rw [e1, this]⟩
theorem fm_d5 (I : pz_I n σ τ) (P : pz_MP n σ τ) (dp : pz_DP n σ) (x : Int32) (d : Int64) : ∃ q, fX8_digest_L7 τ x 1000 d 0 = some (pz_fd (vD5 σ) d (vM n σ), q) := by
  have hn := pI_n I
  have hm := vM_le n σ
  refine ⟨nI (vM n σ), ?_⟩
  exact pz_for (S := Int64) (fun f k y => fX8_digest_L7 τ x f y (nI k)) (vD5 σ) (fun y => (y, nI (vM n σ))) (vM n σ) d (fun k f hk => by
    obtain ⟨y, ey, hy⟩ := fm_pset I P hk
    have ys : y = σ 42 k := pb_ext fun b _ => by rw [hy, dp.2.2 k hk]
    show fX8_digest_L7 τ x (f + 1) _ (nI k) = _
    rw [fX8_digest_L7, P.1, if_neg (nI_ge hk (by omega)), pz_ga (by omega) (by decide), pz_bs, P.2.2 k hk, ey, pz_bs, pz_bs, nI_1, ys]
    rfl) (fun f => by
    show fX8_digest_L7 τ x (f + 1) _ (nI (vM n σ)) = _
    rw [fX8_digest_L7, P.1, if_pos (Int32.le_refl _)]) 1000 0 (Nat.zero_le _) (by omega)
theorem t_digest (I : pz_I n σ τ) : ∃ b σ' τ', fX7_digest σ = some (b, σ') ∧ fX8_digest τ = some (b, τ') ∧ pz_I n σ' τ' := by
  have hn := pI_n I
  obtain ⟨σ', e, I', D, _⟩ := fc_together I
  obtain ⟨τ', e2, I2, H, P, z⟩ := fm_breakage I'
  have I0 := pI_m I' (pm_u0 τ 0)
  have hm := vM_le n σ'
  have Dg := D.1
  obtain ⟨k, ee, E, hk, hs⟩ := Dg
  have hkn := pEn_k E
  have hh := vH_Hd (n := n) I'.1.2.2.2.1
  obtain ⟨q1, m1⟩ := fm_d1 I0 (5363 + (nI n).toInt64)
  obtain ⟨q2, m2⟩ := fm_d2 I0 (pz_fd (vD1 σ') (5363 + (nI n).toInt64) n)
  generalize hA : pz_fd (vD2 σ') (pz_fd (vD1 σ') (5363 + (nI n).toInt64) n) 4 = A at m2
  obtain ⟨r5a, r5b, r5c, r5d⟩ := I0.2.1.2.2.2.2.1
  generalize hB : ((A * 31 + (σ' 19 1).toInt64) * 31 + (σ' 24 0).toInt64) * 31 + (σ' 24 1).toInt64 = B
  obtain ⟨q3, m3⟩ := fm_d3 I0 B
  generalize hC : pz_fd (vD3 σ') B 16 = C at m3
  obtain ⟨q4, m4⟩ := fm_d4 I2 H E hs (nI (vBs n σ' (vM n σ'))) (C * 31 + (nI k).toInt64)
  generalize hG : pz_fd (vD4 σ') (C * 31 + (nI k).toInt64) k = G at m4
  obtain ⟨q5, m5⟩ := fm_d5 I2 P D.2.2.2 (nI (vBs n σ' (vM n σ'))) (G * 31 + (nI (vM n σ')).toInt64)
  generalize hL : pz_fd (vD5 σ') (G * 31 + (nI (vM n σ')).toInt64) (vM n σ') = L at m5
  refine ⟨L * 31 + (nI (vBs n σ' (vM n σ'))).toInt64, σ', τ', ?_, ?_, I2⟩
  · unfold fX7_digest
    have x0 : (173 : Int64) * 31 + (nI n).toInt64 = 5363 + (nI n).toInt64 := rfl
    rw [e, pz_bs, fc_d1 (pI_c I') hn, pz_bs, x0, fc_d2, pz_bs, hA]
    unfold fX7_mix
    rw [pz_bs, pz_bs, pz_bs, hB, fc_d3, pz_bs, hC, pz_bs, hk, fc_d4 (by omega), pz_bs, hG, pz_bs, D.2.2.2.1, fc_d5 (by omega), pz_bs, hL, fc_breakage I' D, pz_bs, pz_bs]
  · unfold fX8_digest
    rw [pz_bs, pI_t I0, m1, pz_bs]
    show ((fX8_digest_L4 (zz_u τ 47 0 0) 1000 (pz_fd (vD1 σ') (5363 + (nI n).toInt64) n) 0).bind _) = _
    rw [m2, pz_bs, ← r5b, ← r5c, ← r5d, pz_bs]
    show ((fX8_digest_L5 (zz_u τ 47 0 0) 1000 (((A * 31 + (σ' 19 1).toInt64) * 31 + (σ' 24 0).toInt64) * 31 + (σ' 24 1).toInt64) 0).bind _) = _
    rw [hB, m3, pz_bs, e2, pz_bs, fm_count (pI_t I2) hn hh H, pz_bs, pEn_hc E, pz_bs]
    show ((fX8_digest_L6 τ' (nI (vBs n σ' (vM n σ'))) 1000 (C * 31 + (nI k).toInt64) 0).bind _) = _
    rw [m4, pz_bs]
    show ((some (G * 31 + (τ' 47 17).toInt64)).bind fun x65 => (fX8_digest_L7 τ' (nI (vBs n σ' (vM n σ'))) 1000 x65 0).bind _) = _
    rw [P.1, pz_bs]
    show ((fX8_digest_L7 τ' (nI (vBs n σ' (vM n σ'))) 1000 (G * 31 + (nI (vM n σ')).toInt64) 0).bind _) = _
    rw [m5, pz_bs]
end DG
