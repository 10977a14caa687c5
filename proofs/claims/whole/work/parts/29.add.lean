/-! pure part: addPiece, dropPiece -/
section AD
variable {n : Nat} {σ σ' τ τ' : zz_St}
theorem zb0 : (zz_bi false = (0 : Int32)) = True := by decide
theorem zb1 : (zz_bi true = (0 : Int32)) = False := by decide
theorem fm_add1 {f l a t c : Int32} (ht : τ 47 1 = nI n) (hn : n < 14) : ∃ τ', fX8_addPiece_L1 f l a t c 1000 0 τ = some (4, τ') ∧ (∀ q, q ≠ 49 → τ' q = τ q) ∧ (∀ j, τ' 49 j = if 4 * n ≤ j ∧ j < 4 * n + 4 then 0 else τ 49 j) := by
  obtain ⟨r, hr, e⟩ := pz_loop (S := zz_St) (R := Int32 × zz_St) (fun g k s => fX8_addPiece_L1 f l a t c g (nI k) s) (fun k s => (∀ q, q ≠ 49 → s q = τ q) ∧ (∀ j, s 49 j = if 4 * n ≤ j ∧ j < 4 * n + k then 0 else τ 49 j)) (fun r => r.1 = 4 ∧ (∀ q, q ≠ 49 → r.2 q = τ q) ∧ (∀ j, r.2 49 j = if 4 * n ≤ j ∧ j < 4 * n + 4 then 0 else τ 49 j)) 4
    (fun k g s hk hP => by
      refine Or.inl ⟨zz_u s 49 (4 * n + k) 0, ⟨fun q hq => by rw [pz_uq hq]; exact hP.1 q hq, fun j => ?_⟩, ?_⟩
      · rw [pz_u, hP.2 j]
        by_cases c : j = 4 * n + k
        · rw [if_pos ⟨rfl, c⟩, if_pos (by omega)]
        · rw [if_neg (by omega)]
          by_cases d : 4 * n ≤ j ∧ j < 4 * n + k
          · rw [if_pos d, if_pos (by omega)]
          · rw [if_neg d, if_neg (by omega)]
      · show fX8_addPiece_L1 f l a t c (g + 1) (nI k) s = _
        rw [fX8_addPiece_L1, if_neg (show ¬ (4 : Int32) ≤ nI k from nI_ge (a := k) (b := 4) hk (by decide)), hP.1 47 (by decide), ht, show (4 : Int32) = nI 4 from rfl, pk_mul, nI_add, pz_pa (by omega) (by decide), pz_bs, nI_1])
    (fun g s hP => ⟨(4, s), ⟨rfl, hP⟩, by
      show fX8_addPiece_L1 f l a t c (g + 1) (nI 4) s = _
      rw [fX8_addPiece_L1, if_pos (by decide)]
      rfl⟩) 1000 0 τ (by decide) ⟨fun _ _ => rfl, fun j => by rw [if_neg (by omega)]⟩ (by decide)
  exact ⟨r.2, by rw [← hr.1]; exact e, hr.2⟩
theorem fm_add2 {f l a t c : Int32} (ht : τ 47 1 = nI n) (hn : n < 14) : ∃ τ', fX8_addPiece_L2 f l a t c 1000 0 τ = some (14, τ') ∧ (∀ q, q ≠ 51 → τ' q = τ q) ∧ (∀ j, (14 * n ≤ j ∧ j < 14 * n + 14) ∨ (∃ o, o < 14 ∧ j = 14 * o + n) → τ' 51 j = 0) ∧ (∀ j, ¬ (14 * n ≤ j ∧ j < 14 * n + 14) → ¬ (∃ o, o < 14 ∧ j = 14 * o + n) → τ' 51 j = τ 51 j) := by
  obtain ⟨r, hr, e⟩ := pz_loop (S := zz_St) (R := Int32 × zz_St) (fun g k s => fX8_addPiece_L2 f l a t c g (nI k) s) (fun k s => (∀ q, q ≠ 51 → s q = τ q) ∧ (∀ j, (14 * n ≤ j ∧ j < 14 * n + k) ∨ (∃ o, o < k ∧ j = 14 * o + n) → s 51 j = 0) ∧ (∀ j, ¬ (14 * n ≤ j ∧ j < 14 * n + k) → ¬ (∃ o, o < k ∧ j = 14 * o + n) → s 51 j = τ 51 j)) (fun r => r.1 = 14 ∧ (∀ q, q ≠ 51 → r.2 q = τ q) ∧ (∀ j, (14 * n ≤ j ∧ j < 14 * n + 14) ∨ (∃ o, o < 14 ∧ j = 14 * o + n) → r.2 51 j = 0) ∧ (∀ j, ¬ (14 * n ≤ j ∧ j < 14 * n + 14) → ¬ (∃ o, o < 14 ∧ j = 14 * o + n) → r.2 51 j = τ 51 j)) 14
    (fun k g s hk hP => by
      refine Or.inl ⟨zz_u (zz_u s 51 (14 * n + k) 0) 51 (14 * k + n) 0, ⟨fun q hq => by rw [pz_uq hq, pz_uq hq]; exact hP.1 q hq, fun j hj => ?_, fun j h1 h2 => ?_⟩, ?_⟩
      · rw [pz_u, pz_u]
        by_cases c1 : j = 14 * k + n
        · rw [if_pos ⟨rfl, c1⟩]
        · rw [if_neg (by omega)]
          by_cases c2 : j = 14 * n + k
          · rw [if_pos ⟨rfl, c2⟩]
          · rw [if_neg (by omega)]
            refine hP.2.1 j ?_
            rcases hj with d | ⟨o, ho, d⟩
            · exact Or.inl (by omega)
            · exact Or.inr ⟨o, by
                by_cases e : o = k
                · subst e; exact absurd d c1
                · omega, d⟩
      · rw [pz_u, pz_u, if_neg (fun q => h2 ⟨k, by omega, q.2⟩), if_neg (by omega)]
        exact hP.2.2 j (by omega) (fun ⟨o, ho, d⟩ => h2 ⟨o, by omega, d⟩)
      · show fX8_addPiece_L2 f l a t c (g + 1) (nI k) s = _
        rw [fX8_addPiece_L2, if_neg (show ¬ (14 : Int32) ≤ nI k from nI_ge (a := k) (b := 14) hk (by decide)), hP.1 47 (by decide), ht, show (14 : Int32) = nI 14 from rfl, pk_mul, nI_add, pz_pa (by omega) (by decide), pz_bs, pz_uq (by decide), hP.1 47 (by decide), ht, pk_mul, nI_add, pz_pa (by omega) (by decide), pz_bs, nI_1])
    (fun g s hP => ⟨(14, s), ⟨rfl, hP⟩, by
      show fX8_addPiece_L2 f l a t c (g + 1) (nI 14) s = _
      rw [fX8_addPiece_L2, if_pos (by decide)]
      rfl⟩) 1000 0 τ (by decide) ⟨fun _ _ => rfl, fun j hj => by
        rcases hj with d | ⟨o, ho, d⟩ <;> omega, fun _ _ _ => rfl⟩ (by decide)
  exact ⟨r.2, by rw [← hr.1]; exact e, hr.2⟩
theorem t_addPiece (I : pz_I n σ τ) (v1 v2 v3 v4 : Int32) : ∃ m rc σ' b τ', fX7_addPiece σ v1 v2 v3 v4 = some (rc, σ') ∧ fX8_addPiece τ v1 v2 v3 v4 = some (b, τ') ∧ pz_I m σ' τ' ∧ pz_a2 "java/lang/IllegalArgumentException" "java/lang/IllegalStateException" rc b (τ' 47 0) := by
  have hn := pI_n I
  have hc := pI_c I
  have ht : zz_u τ 47 0 0 47 1 = nI n := by rw [pz_uj (by decide)]; exact pI_t I
  have If : pz_I n σ (zz_u (zz_u τ 47 0 0) 47 0 1) := pI_m I (pm_tr (pm_u0 τ 0) (pm_u0 _ 1))
  unfold fX7_addPiece fX8_addPiece
  simp only [fc_up, fm_in, pz_bs]
  cases h1 : pz_in 0 9 v1 with
  | false =>
    simp only [zb0, zb1, ↓reduceIte, pz_bs, Bool.false_eq_true]
    exact ⟨n, _, σ, _, zz_u (zz_u τ 47 0 0) 47 0 1, rfl, rfl, If, Or.inr (Or.inl ⟨rfl, pz_us⟩)⟩
  | true =>
  simp only [zb0, zb1, ↓reduceIte, pz_bs, Bool.false_eq_true]
  cases h2 : pz_in 0 9999 v2 with
  | false =>
    simp only [zb0, zb1, ↓reduceIte, pz_bs, Bool.false_eq_true]
    exact ⟨n, _, σ, _, zz_u (zz_u τ 47 0 0) 47 0 1, rfl, rfl, If, Or.inr (Or.inl ⟨rfl, pz_us⟩)⟩
  | true =>
  simp only [zb0, zb1, ↓reduceIte, pz_bs, Bool.false_eq_true]
  cases h3 : pz_in 0 999 v3 with
  | false =>
    simp only [zb0, zb1, ↓reduceIte, pz_bs, Bool.false_eq_true]
    exact ⟨n, _, σ, _, zz_u (zz_u τ 47 0 0) 47 0 1, rfl, rfl, If, Or.inr (Or.inl ⟨rfl, pz_us⟩)⟩
  | true =>
  simp only [zb0, zb1, ↓reduceIte, pz_bs, Bool.false_eq_true]
  cases h4 : pz_in 0 999 v4 with
  | false =>
    simp only [zb0, zb1, ↓reduceIte, pz_bs, Bool.false_eq_true]
    exact ⟨n, _, σ, _, zz_u (zz_u τ 47 0 0) 47 0 1, rfl, rfl, If, Or.inr (Or.inl ⟨rfl, pz_us⟩)⟩
  | true =>
  simp only [zb0, zb1, ↓reduceIte, pz_bs, Bool.false_eq_true]
  rw [hc, ht, show (14 : Int32) = nI 14 from rfl]
  by_cases full : n = 14
  · rw [if_neg (by rw [full]; decide), if_pos (by rw [full])]
    exact ⟨n, _, σ, _, zz_u (zz_u τ 47 0 0) 47 0 2, rfl, rfl, pI_m I (pm_tr (pm_u0 τ 0) (pm_u0 _ 2)), Or.inr (Or.inr ⟨rfl, pz_us⟩)⟩
  have hn' : n < 14 := by omega
  rw [if_pos (nI_lt hn' (by decide)), if_neg (by rw [nI_eq (by omega) (by decide)]; exact full), fc_fg, pz_bs]
  -- the class
  have hcf : pz_fg σ 1 0 = nI n := by rw [pfg_q (by decide)]; exact hc
  have eA : fX5_append (pz_fg σ) v1 v2 v3 v4 = some (nI n, zz_u (zz_u (zz_u (zz_u (zz_u (zz_u (pz_fg σ) 2 n v1) 3 n v2) 4 n v3) 5 n v4) 6 n 0) 1 0 (nI (n + 1))) := by
    unfold fX5_append
    rw [hcf, if_pos (show nI n < 14 from nI_lt (b := 14) hn' (by decide)), pz_pa hn' (by decide), pz_bs, pz_pa hn' (by decide), pz_bs, pz_pa hn' (by decide), pz_bs, pz_pa hn' (by decide), pz_bs, pz_pa hn' (by decide), pz_bs, nI_1]
  rw [eA, pz_bs]
  -- the reference
  rw [show (4 : Int32) = nI 4 from rfl, pk_mul, pz_pa (by omega) (by decide), pz_bs, nI_1, pz_pa (by omega) (by decide), pz_bs, show (2 : Int32) = nI 2 from rfl, nI_add, pz_pa (by omega) (by decide), pz_bs, show (3 : Int32) = nI 3 from rfl, nI_add, pz_pa (by omega) (by decide), pz_bs]
  generalize hτ0 : zz_u (zz_u (zz_u (zz_u (zz_u τ 47 0 0) 48 (4 * n) v1) 48 (4 * n + 1) v2) 48 (4 * n + 2) v3) 48 (4 * n + 3) v4 = τ0
  have t47 : τ0 47 = zz_u τ 47 0 0 47 := by rw [← hτ0, pz_uq (by decide), pz_uq (by decide), pz_uq (by decide), pz_uq (by decide)]
  have tq : ∀ q, q ≠ 47 → q ≠ 48 → τ0 q = τ q := fun q a b => by rw [← hτ0, pz_uq b, pz_uq b, pz_uq b, pz_uq b, pz_uq a]
  have t48 : ∀ j, τ0 48 j = if j = 4 * n + 3 then v4 else if j = 4 * n + 2 then v3 else if j = 4 * n + 1 then v2 else if j = 4 * n then v1 else τ 48 j := by
    intro j
    rw [← hτ0, pz_u, pz_u, pz_u, pz_u, pz_uq (by decide)]
    simp only [true_and]
  obtain ⟨τ1, e1, a1, b1⟩ := fm_add1 (τ := τ0) (f := v1) (l := v2) (a := v3) (t := v4) (c := nI (4 * n)) (by rw [t47]; exact ht) hn'
  obtain ⟨τ2, e2, a2, b2, b3⟩ := fm_add2 (τ := τ1) (f := v1) (l := v2) (a := v3) (t := v4) (c := nI (4 * n)) (by rw [a1 47 (by decide), t47]; exact ht) hn'
  have t2 : τ2 47 = zz_u τ 47 0 0 47 := by rw [a2 47 (by decide), a1 47 (by decide), t47]
  rw [show fX8_addPiece_L1 v1 v2 v3 v4 (nI (4 * n)) 1000 0 τ0 = _ from e1, pz_bs]
  rw [show fX8_addPiece_L2 v1 v2 v3 v4 (nI (4 * n)) 1000 0 (((4 : Int32), τ1).2) = _ from e2, pz_bs]
  show ∃ m rc σ' b τ', _ ∧ (zz_pa τ2 50 14 (τ2 47 1) (0 : Int32)).bind _ = _ ∧ _
  rw [t2, ht, pz_pa hn' (by decide), pz_bs, pz_us, pz_uq (show 47 ≠ 50 by decide), t2, ht, nI_1]
  obtain ⟨⟨c1, c2, c3, c5, c6⟩, ⟨r1, r2, r3, r4, r5, r6⟩⟩ := pI_fg I
  generalize hσ : zz_u (zz_u (zz_u (zz_u (zz_u (zz_u (pz_fg σ) 2 n v1) 3 n v2) 4 n v3) 5 n v4) 6 n 0) 1 0 (nI (n + 1)) = σ'
  have sq : ∀ q, q = 0 ∨ 7 ≤ q → σ' q = pz_fg σ q := fun q h => by rw [← hσ, pz_uq (by omega), pz_uq (by omega), pz_uq (by omega), pz_uq (by omega), pz_uq (by omega), pz_uq (by omega)]
  refine ⟨n + 1, _, σ', nI n, zz_u (zz_u τ2 50 n 0) 47 1 (nI (n + 1)), rfl, ?_, ⟨⟨⟨hn', ?_⟩, ?_, ?_, cw5_c (sq 20 (by decide)) (by rw [sq 24 (by decide)]) (by rw [sq 24 (by decide)]) c5, ?_⟩, ⟨pz_us, ?_, ?_, ?_, ?_, ?_⟩, pK_fg (sq 0 (by decide))⟩, Or.inl ⟨rfl, ?_⟩⟩
  · rw [show nI (n + 1) - 1 = nI n from nI_pred n]
  · rw [← hσ, pz_us]
  · intro p hp
    have e : σ' 3 p = if p = n then v2 else pz_fg σ 3 p := by
      rw [← hσ, pz_uq (by decide), pz_uq (by decide), pz_uq (by decide), pz_uq (by decide), pz_u, pz_uq (by decide)]
      simp only [true_and]
    rw [e]
    by_cases g : p = n
    · rw [if_pos g]; exact pin_e (m := 9999) (by decide) h2
    · rw [if_neg g]; exact c2 p (by omega)
  · intro w hw
    rw [sq (8 + w) (by omega), sq (13 + w) (by omega)]
    obtain ⟨x, y, z⟩ := c3 w hw
    exact ⟨fun p hp hnp => x p hp (by omega), y, z⟩
  · rw [pz_CW6, sq 22 (by decide), sq 23 (by decide)]
    obtain ⟨x, y⟩ := c6
    refine ⟨fun p q hp h => ?_, fun p q hp hq => ?_⟩
    · have := x p q hp h; omega
    · have out : ∀ p q, p < 14 → (p = n ∨ q = n) → pz_b (pz_fg σ 22 p) q = false ∧ pz_b (pz_fg σ 23 p) q = false := by
        intro p q hp h
        constructor
        · cases d : pz_b (pz_fg σ 22 p) q with
          | false => rfl
          | true => have := x p q hp (Or.inl d); omega
        · cases d : pz_b (pz_fg σ 23 p) q with
          | false => rfl
          | true => have := x p q hp (Or.inr d); omega
      by_cases g : p = n ∨ q = n
      · obtain ⟨u1, u2⟩ := out p q (by omega) g
        obtain ⟨u3, u4⟩ := out q p (by omega) (by omega)
        rw [u1, u2, u3, u4]
        exact ⟨rfl, rfl, fun h => absurd h.1 (by decide)⟩
      · exact y p q (by omega) (by omega)
  · intro p hp
    rw [pz_uq (show 48 ≠ 47 by decide), pz_uq (show 48 ≠ 50 by decide), a2 48 (by decide), a1 48 (by decide), t48, t48, t48, t48, pz_uq (show 50 ≠ 47 by decide)]
    have s2 : σ' 2 p = if p = n then v1 else pz_fg σ 2 p := by
      rw [← hσ, pz_uq (by decide), pz_uq (by decide), pz_uq (by decide), pz_uq (by decide), pz_uq (by decide), pz_u]
      simp only [true_and]
    have s3 : σ' 3 p = if p = n then v2 else pz_fg σ 3 p := by
      rw [← hσ, pz_uq (by decide), pz_uq (by decide), pz_uq (by decide), pz_uq (by decide), pz_u, pz_uq (by decide)]
      simp only [true_and]
    have s4 : σ' 4 p = if p = n then v3 else pz_fg σ 4 p := by
      rw [← hσ, pz_uq (by decide), pz_uq (by decide), pz_uq (by decide), pz_u, pz_uq (by decide), pz_uq (by decide)]
      simp only [true_and]
    have s5 : σ' 5 p = if p = n then v4 else pz_fg σ 5 p := by
      rw [← hσ, pz_uq (by decide), pz_uq (by decide), pz_u, pz_uq (by decide), pz_uq (by decide), pz_uq (by decide)]
      simp only [true_and]
    have s6 : σ' 6 p = if p = n then 0 else pz_fg σ 6 p := by
      rw [← hσ, pz_uq (by decide), pz_u, pz_uq (by decide), pz_uq (by decide), pz_uq (by decide), pz_uq (by decide)]
      simp only [true_and]
    have t50 : zz_u τ2 50 n 0 50 p = if p = n then 0 else τ 50 p := by
      rw [pz_u, a2 50 (by decide), a1 50 (by decide), tq 50 (by decide) (by decide)]
      simp only [true_and]
    rw [s2, s3, s4, s5, s6, t50]
    by_cases g : p = n
    · subst g
      simp
    · obtain ⟨x1, x2, x3, x4, x5⟩ := r2 p (by omega)
      rw [if_neg g, if_neg g, if_neg g, if_neg g, if_neg g, if_neg g, if_neg (by omega), if_neg (by omega), if_neg (by omega), if_neg (by omega), if_neg (by omega), if_neg (by omega), if_neg (by omega), if_neg (by omega), if_neg (by omega), if_neg (by omega), if_neg (by omega), if_neg (by omega), if_neg (by omega), if_neg (by omega), if_neg (by omega), if_neg (by omega)]
      exact ⟨x1, x2, x3, x4, x5⟩
  · intro w hw p hp
    rw [sq (8 + w) (by omega), pz_uq (show 49 ≠ 47 by decide), pz_uq (show 49 ≠ 50 by decide), a2 49 (by decide), b1]
    by_cases g : p = n
    · rw [if_pos (by omega)]
      exact (c3 w hw).1 p (by omega) (by omega)
    · rw [if_neg (by omega), tq 49 (by decide) (by decide)]
      exact r3 w hw p (by omega)
  · exact rl4_c (sq 17 (by decide)) (sq 18 (by decide)) (by rw [pz_uq (by decide), pz_uq (by decide), a2 52 (by decide), a1 52 (by decide), tq 52 (by decide) (by decide)]) (by rw [pz_uq (by decide), pz_uq (by decide), a2 53 (by decide), a1 53 (by decide), tq 53 (by decide) (by decide)]) r4
  · exact rl5_c (sq 20 (by decide)) (by rw [sq 19 (by decide)]) (by rw [sq 24 (by decide)]) (by rw [sq 24 (by decide)]) (by rw [pz_uq (by decide), pz_uq (by decide), a2 54 (by decide), a1 54 (by decide), tq 54 (by decide) (by decide)]) (by rw [pz_uj (by decide), pz_uq (by decide), t2, pz_uj (by decide)]) (by rw [pz_uj (by decide), pz_uq (by decide), t2, pz_uj (by decide)]) (by rw [pz_uj (by decide), pz_uq (by decide), t2, pz_uj (by decide)]) r5
  · intro p q hp hq
    rw [sq 22 (by decide), sq 23 (by decide), pz_uq (show 51 ≠ 47 by decide), pz_uq (show 51 ≠ 50 by decide)]
    by_cases g : p = n ∨ q = n
    · rw [b2 _ (by
        rcases g with g | g
        · exact Or.inl (by omega)
        · exact Or.inr ⟨p, by omega, by omega⟩)]
      have x := c6.1
      have u1 : pz_b (pz_fg σ 22 p) q = false := by
        cases d : pz_b (pz_fg σ 22 p) q with
        | false => rfl
        | true => have := x p q (by omega) (Or.inl d); omega
      have u2 : pz_b (pz_fg σ 23 p) q = false := by
        cases d : pz_b (pz_fg σ 23 p) q with
        | false => rfl
        | true => have := x p q (by omega) (Or.inr d); omega
      rw [u1, u2]
      rfl
    · rw [b3 _ (by omega) (by rintro ⟨o, ho, d⟩; omega), a1 51 (by decide), tq 51 (by decide) (by decide)]
      exact r6 p q (by omega) (by omega)
  · rw [pz_uj (by decide), pz_uq (by decide), t2, pz_us]
end AD
