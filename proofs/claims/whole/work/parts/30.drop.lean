/-! pure part: what is said of two pieces; dropPiece -/
section DR
variable {n : Nat} {σ σ' τ τ' : zz_St}
theorem fc_way {a p : Nat} (ha : a < 14) (hp : p < 14) (w : Int32) : ∃ σ', fX6_putOneWay σ (nI a) (nI p) w = some σ' ∧ (∀ q, q ≠ 22 → q ≠ 23 → σ' q = σ q) ∧ (∀ c i, pz_b (σ' 22 c) i = if c = a ∧ i = p then decide (w = 1) else pz_b (σ 22 c) i) ∧ (∀ c i, pz_b (σ' 23 c) i = if c = a ∧ i = p then decide (w = 2) else pz_b (σ 23 c) i) := by
  have key : ∀ (x : Int32) (d : Bool) (i : Nat), pz_b ((x &&& (((1 : Int32) <<< (nI p &&& 31)) ^^^ (-1))) ||| (if d = true then (1 : Int32) <<< (nI p &&& 31) else 0)) i = if i = p then d else pz_b x i := by
    intro x d i
    rw [pb_or, pb_nand (by omega)]
    by_cases g : i = p
    · rw [if_pos g, decide_eq_true g]
      cases d with
      | true => rw [if_pos rfl, pb_one (by omega), decide_eq_true g]; simp
      | false => rw [if_neg (by decide), pb_0]; simp
    · rw [if_neg g, decide_eq_false g]
      cases d with
      | true => rw [if_pos rfl, pb_one (by omega), decide_eq_false g]; simp
      | false => rw [if_neg (by decide), pb_0]; simp
  have e1 : (if w = (1 : Int32) then some ((1 : Int32) <<< (nI p &&& 31)) else some (0 : Int32)) = some (if decide (w = 1) = true then (1 : Int32) <<< (nI p &&& 31) else 0) := by
    by_cases g : w = 1
    · rw [if_pos g, decide_eq_true g, if_pos rfl]
    · rw [if_neg g, decide_eq_false g, if_neg (by decide)]
  have e2 : (if w = (2 : Int32) then some ((1 : Int32) <<< (nI p &&& 31)) else some (0 : Int32)) = some (if decide (w = 2) = true then (1 : Int32) <<< (nI p &&& 31) else 0) := by
    by_cases g : w = 2
    · rw [if_pos g, decide_eq_true g, if_pos rfl]
    · rw [if_neg g, decide_eq_false g, if_neg (by decide)]
  unfold fX6_putOneWay
  rw [e1, e2, pz_bs, pz_ga ha (by decide), pz_bs, pz_bs, pz_pa ha (by decide), pz_bs, pz_uq (by decide), pz_ga ha (by decide), pz_bs, pz_bs, pz_pa ha (by decide), pz_bs]
  refine ⟨_, rfl, fun q h1 h2 => by rw [pz_uq h2, pz_uq h1], fun c i => ?_, fun c i => ?_⟩
  · rw [pz_uq (by decide), pz_u]
    by_cases g : c = a
    · rw [if_pos ⟨rfl, g⟩, key]
      by_cases g2 : i = p
      · rw [if_pos g2, if_pos ⟨g, g2⟩]
      · rw [if_neg g2, if_neg (by omega), g]
    · rw [if_neg (by omega), if_neg (by omega)]
  · rw [pz_u, pz_uq (by decide)]
    by_cases g : c = a
    · rw [if_pos ⟨rfl, g⟩, key]
      by_cases g2 : i = p
      · rw [if_pos g2, if_pos ⟨g, g2⟩]
      · rw [if_neg g2, if_neg (by omega), g]
    · rw [if_neg (by omega), if_neg (by omega)]
theorem fc_put {a b : Nat} (ha : a < 14) (hb : b < 14) (w : Int32) : ∃ σ', fX6_put σ (nI a) (nI b) w = some σ' ∧ (∀ q, q ≠ 22 → q ≠ 23 → σ' q = σ q) ∧ (∀ c i, pz_b (σ' 22 c) i = if (c = a ∧ i = b) ∨ (c = b ∧ i = a) then decide (w = 1) else pz_b (σ 22 c) i) ∧ (∀ c i, pz_b (σ' 23 c) i = if (c = a ∧ i = b) ∨ (c = b ∧ i = a) then decide (w = 2) else pz_b (σ 23 c) i) := by
  obtain ⟨σ1, e1, a1, b1, c1⟩ := fc_way (σ := σ) ha hb w
  obtain ⟨σ2, e2, a2, b2, c2⟩ := fc_way (σ := σ1) hb ha w
  unfold fX6_put
  rw [e1, pz_bs, e2, pz_bs]
  refine ⟨σ2, rfl, fun q h1 h2 => by rw [a2 q h1 h2, a1 q h1 h2], fun c i => ?_, fun c i => ?_⟩
  · rw [b2, b1]
    by_cases g : c = b ∧ i = a
    · rw [if_pos g, if_pos (Or.inr g)]
    · rw [if_neg g]
      by_cases g2 : c = a ∧ i = b
      · rw [if_pos g2, if_pos (Or.inl g2)]
      · rw [if_neg g2, if_neg (by omega)]
  · rw [c2, c1]
    by_cases g : c = b ∧ i = a
    · rw [if_pos g, if_pos (Or.inr g)]
    · rw [if_neg g]
      by_cases g2 : c = a ∧ i = b
      · rw [if_pos g2, if_pos (Or.inl g2)]
      · rw [if_neg g2, if_neg (by omega)]
theorem fc_forget {p : Nat} (hp : p < 14) : ∃ σ', fX6_forgetPiece σ (nI p) = some σ' ∧ (∀ q, q ≠ 22 → q ≠ 23 → σ' q = σ q) ∧ (∀ c i, c < 14 → pz_b (σ' 22 c) i = if c = p ∨ i = p then false else pz_b (σ 22 c) i) ∧ (∀ c i, c < 14 → pz_b (σ' 23 c) i = if c = p ∨ i = p then false else pz_b (σ 23 c) i) := by
  unfold fX6_forgetPiece
  obtain ⟨r, hr, e⟩ := pz_loop (S := zz_St) (R := Int32 × zz_St) (fun f k s => fX6_forgetPiece_L1 (nI p) f (nI k) s)
    (fun k s => (∀ q, q ≠ 22 → q ≠ 23 → s q = σ q) ∧ (∀ c i, pz_b (s 22 c) i = if c < k ∧ (c = p ∨ i = p) then false else pz_b (σ 22 c) i) ∧ (∀ c i, pz_b (s 23 c) i = if c < k ∧ (c = p ∨ i = p) then false else pz_b (σ 23 c) i))
    (fun r => (∀ q, q ≠ 22 → q ≠ 23 → r.2 q = σ q) ∧ (∀ c i, c < 14 → pz_b (r.2 22 c) i = if c = p ∨ i = p then false else pz_b (σ 22 c) i) ∧ (∀ c i, c < 14 → pz_b (r.2 23 c) i = if c = p ∨ i = p then false else pz_b (σ 23 c) i)) 14
    (fun k f s hk hP => by
      obtain ⟨s1, e1, a1, b1, c1⟩ := fc_way (σ := s) hk hp 0
      obtain ⟨a0, b0, c0⟩ := hP
      refine Or.inl ⟨if k = p then zz_u (zz_u s1 22 k 0) 23 k 0 else s1, ?_, ?_⟩
      · by_cases g : k = p
        · rw [if_pos g]
          refine ⟨fun q h1 h2 => by rw [pz_uq h2, pz_uq h1, a1 q h1 h2, a0 q h1 h2], fun c i => ?_, fun c i => ?_⟩
          · rw [pz_uq (by decide), pz_u]
            by_cases d : c = k
            · rw [if_pos ⟨rfl, d⟩, pb_0, if_pos (by omega)]
            · rw [if_neg (by omega), b1, b0]
              rw [if_neg (by omega)]
              by_cases d2 : c < k ∧ (c = p ∨ i = p)
              · rw [if_pos d2, if_pos (by omega)]
              · rw [if_neg d2, if_neg (by omega)]
          · rw [pz_u, pz_uq (by decide)]
            by_cases d : c = k
            · rw [if_pos ⟨rfl, d⟩, pb_0, if_pos (by omega)]
            · rw [if_neg (by omega), c1, c0]
              rw [if_neg (by omega)]
              by_cases d2 : c < k ∧ (c = p ∨ i = p)
              · rw [if_pos d2, if_pos (by omega)]
              · rw [if_neg d2, if_neg (by omega)]
        · rw [if_neg g]
          refine ⟨fun q h1 h2 => by rw [a1 q h1 h2, a0 q h1 h2], fun c i => ?_, fun c i => ?_⟩
          · rw [b1, b0]
            by_cases d : c = k ∧ i = p
            · rw [if_pos d, if_pos (by omega)]; decide
            · rw [if_neg d]
              by_cases d2 : c < k ∧ (c = p ∨ i = p)
              · rw [if_pos d2, if_pos (by omega)]
              · rw [if_neg d2, if_neg (by omega)]
          · rw [c1, c0]
            by_cases d : c = k ∧ i = p
            · rw [if_pos d, if_pos (by omega)]; decide
            · rw [if_neg d]
              by_cases d2 : c < k ∧ (c = p ∨ i = p)
              · rw [if_pos d2, if_pos (by omega)]
              · rw [if_neg d2, if_neg (by omega)]
      · show fX6_forgetPiece_L1 (nI p) (f + 1) (nI k) s = _
        rw [fX6_forgetPiece_L1, if_neg (show ¬ (14 : Int32) ≤ nI k from nI_ge (a := k) (b := 14) hk (by decide)), show (0 : Int32) = 0 from rfl, e1, pz_bs]
        by_cases g : k = p
        · rw [if_pos (by rw [g]), if_pos g, pz_pa hk (by decide), pz_bs, pz_pa hk (by decide), pz_bs, pz_bs, nI_1]
        · rw [if_neg (by rw [nI_eq (by omega) (by omega)]; exact g), if_neg g, pz_bs, nI_1])
    (fun f s hP => ⟨(14, s), ⟨hP.1, fun c i hc => by
        rw [hP.2.1]
        by_cases d : c = p ∨ i = p
        · rw [if_pos ⟨hc, d⟩, if_pos d]
        · rw [if_neg (by omega), if_neg d], fun c i hc => by
        rw [hP.2.2]
        by_cases d : c = p ∨ i = p
        · rw [if_pos ⟨hc, d⟩, if_pos d]
        · rw [if_neg (by omega), if_neg d]⟩, by
      show fX6_forgetPiece_L1 (nI p) (f + 1) (nI 14) s = _
      rw [fX6_forgetPiece_L1, if_pos (by decide)]
      rfl⟩) 1000 0 σ (by decide) ⟨fun _ _ _ => rfl, fun c i => by rw [if_neg (by omega)], fun c i => by rw [if_neg (by omega)]⟩ (by decide)
  exact ⟨r.2, by rw [show fX6_forgetPiece_L1 (nI p) 1000 (0 : Int32) σ = _ from e, pz_bs], hr⟩
theorem fc_removeLast (hn : n ≤ 14) (h0 : 0 < n) (hc : σ 1 0 = nI n) (c3 : pz_CW3 n σ) : ∃ σ', fX5_removeLast σ = some σ' ∧ (∀ q, q ≠ 1 → q < 8 ∨ 17 ≤ q → σ' q = σ q) ∧ σ' 1 0 = nI (n - 1) ∧ pz_CW3 (n - 1) σ' ∧ (∀ w, w < 4 → ∀ j, j ≠ n - 1 → σ' (8 + w) j = σ (8 + w) j) := by
  unfold fX5_removeLast
  rw [hc, if_pos (show 0 < nI n from nI_lt (a := 0) h0 (by omega))]
  obtain ⟨r, hr, e⟩ := pz_loop (S := zz_St) (R := Int32 × zz_St) (fun f k s => fX5_removeLast_L1 f (nI k) s)
    (fun k s => (∀ q, q < 8 ∨ 17 ≤ q → s q = σ q) ∧ pz_CW3 n s ∧ (∀ w, w < k → s (8 + w) (n - 1) = 0) ∧ (∀ w, w < 4 → ∀ j, j ≠ n - 1 → s (8 + w) j = σ (8 + w) j))
    (fun r => (∀ q, q < 8 ∨ 17 ≤ q → r.2 q = σ q) ∧ pz_CW3 n r.2 ∧ (∀ w, w < 4 → r.2 (8 + w) (n - 1) = 0) ∧ (∀ w, w < 4 → ∀ j, j ≠ n - 1 → r.2 (8 + w) j = σ (8 + w) j)) 4
    (fun k f s hk hP => by
      obtain ⟨a0, b0, c0, d0⟩ := hP
      obtain ⟨s1, e1, a1, b1, c1⟩ := fc_replace (σ := s) (p := n - 1) (w := k) (by omega) hk 0
      refine Or.inl ⟨s1, ⟨fun q hq => by rw [a1 q (by omega) (by omega)]; exact a0 q hq, cw3_put hk (by omega) (fun i _ => pb_0 i) (Or.inr rfl) a1 b1 c1 b0, fun w hw => ?_, fun w hw j hj => ?_⟩, ?_⟩
      · by_cases g : w = k
        · rw [g, b1, if_pos rfl]
        · rw [a1 _ (by omega) (by omega)]; exact c0 w (by omega)
      · by_cases g : w = k
        · rw [g, b1, if_neg hj]; exact d0 k hk j hj
        · rw [a1 _ (by omega) (by omega)]; exact d0 w hw j hj
      · show fX5_removeLast_L1 (f + 1) (nI k) s = _
        rw [fX5_removeLast_L1, if_neg (show ¬ (4 : Int32) ≤ nI k from nI_ge (a := k) (b := 4) hk (by decide)), a0 1 (by decide), hc, show nI n - 1 = nI (n - 1) from pk_sub (a := n) (b := 1) (by omega), e1, pz_bs, nI_1])
    (fun f s hP => ⟨(4, s), hP, by
      show fX5_removeLast_L1 (f + 1) (nI 4) s = _
      rw [fX5_removeLast_L1, if_pos (by decide)]
      rfl⟩) 1000 0 σ (by decide) ⟨fun _ _ => rfl, c3, fun w hw => by omega, fun _ _ _ _ => rfl⟩ (by decide)
  rw [show fX5_removeLast_L1 1000 (0 : Int32) σ = _ from e, pz_bs]
  obtain ⟨a0, b0, c0, d0⟩ := hr
  refine ⟨_, rfl, fun q h1 h2 => by rw [pz_uq h1]; exact a0 q h2, ?_, ?_, ?_⟩
  · rw [pz_us, a0 1 (by decide), hc]
    exact pk_sub (a := n) (b := 1) (by omega)
  · intro w hw
    rw [pz_uq (by omega), pz_uq (by omega)]
    obtain ⟨x, y, z⟩ := b0 w hw
    refine ⟨fun p hp hnp => ?_, y, z⟩
    by_cases g : p = n - 1
    · rw [g]; exact c0 w hw
    · exact x p hp (by omega)
  · intro w hw j hj
    rw [pz_uq (by omega)]; exact d0 w hw j hj
theorem t_dropPiece (I : pz_I n σ τ) : ∃ m rc σ' b τ', fX7_dropPiece σ = some (rc, σ') ∧ fX8_dropPiece τ = some (b, τ') ∧ pz_I m σ' τ' ∧ pz_a1 "java/lang/IllegalStateException" rc b (τ' 47 0) := by
  have hn := pI_n I
  have hc := pI_c I
  have ht : zz_u τ 47 0 0 47 1 = nI n := by rw [pz_uj (by decide)]; exact pI_t I
  unfold fX7_dropPiece fX8_dropPiece
  rw [hc, ht]
  by_cases z : n = 0
  · subst z
    rw [if_neg (by decide), if_pos (by decide)]
    exact ⟨0, _, σ, _, zz_u (zz_u τ 47 0 0) 47 0 1, rfl, rfl, pI_m I (pm_tr (pm_u0 τ 0) (pm_u0 _ 1)), Or.inr ⟨rfl, pz_us⟩⟩
  rw [if_pos (show 0 < nI n from nI_lt (a := 0) (by omega) (by omega)), if_neg (nI_ne0 (n := n) (by omega) (by omega)), fc_fg, pz_bs]
  obtain ⟨⟨c1, c2, c3, c5, c6⟩, ⟨r1, r2, r3, r4, r5, r6⟩⟩ := pI_fg I
  obtain ⟨σ1, e1, a1, b1, d1, f1⟩ := fc_removeLast (σ := pz_fg σ) hn (by omega) c1.2 c3
  rw [e1, pz_bs, b1]
  obtain ⟨σ2, e2, a2, b2, d2⟩ := fc_forget (σ := σ1) (p := n - 1) (by omega)
  rw [e2, pz_bs, pz_us, show nI n - 1 = nI (n - 1) from pk_sub (a := n) (b := 1) (by omega)]
  have sq : ∀ q, q ≠ 1 → q ≠ 22 → q ≠ 23 → q < 8 ∨ 17 ≤ q → σ2 q = pz_fg σ q := fun q h1 h2 h3 h4 => by rw [a2 q h2 h3, a1 q h1 h4]
  have s1 : σ2 1 0 = nI (n - 1) := by rw [a2 1 (by decide) (by decide), b1]
  have s22 : ∀ c i, c < 14 → pz_b (σ2 22 c) i = if c = n - 1 ∨ i = n - 1 then false else pz_b (pz_fg σ 22 c) i := fun c i h => by rw [b2 c i h, a1 22 (by decide) (by decide)]
  have s23 : ∀ c i, c < 14 → pz_b (σ2 23 c) i = if c = n - 1 ∨ i = n - 1 then false else pz_b (pz_fg σ 23 c) i := fun c i h => by rw [d2 c i h, a1 23 (by decide) (by decide)]
  refine ⟨n - 1, _, σ2, nI (n - 1), zz_u (zz_u τ 47 0 0) 47 1 (nI (n - 1)), rfl, rfl, ⟨⟨⟨by omega, s1⟩, ?_, cw3_c (fun q h1 h2 => a2 q (by omega) (by omega)) d1, cw5_c (sq 20 (by decide) (by decide) (by decide) (by decide)) (by rw [sq 24 (by decide) (by decide) (by decide) (by decide)]) (by rw [sq 24 (by decide) (by decide) (by decide) (by decide)]) c5, ?_⟩, ⟨pz_us, ?_, ?_, rl4_c (sq 17 (by decide) (by decide) (by decide) (by decide)) (sq 18 (by decide) (by decide) (by decide) (by decide)) (by rw [pz_uq (by decide), pz_uq (by decide)]) (by rw [pz_uq (by decide), pz_uq (by decide)]) r4, rl5_c (sq 20 (by decide) (by decide) (by decide) (by decide)) (by rw [sq 19 (by decide) (by decide) (by decide) (by decide)]) (by rw [sq 24 (by decide) (by decide) (by decide) (by decide)]) (by rw [sq 24 (by decide) (by decide) (by decide) (by decide)]) (by rw [pz_uq (by decide), pz_uq (by decide)]) (by rw [pz_uj (by decide), pz_uj (by decide)]) (by rw [pz_uj (by decide), pz_uj (by decide)]) (by rw [pz_uj (by decide), pz_uj (by decide)]) r5, ?_⟩, pK_fg (sq 0 (by decide) (by decide) (by decide) (by decide))⟩, Or.inl ⟨by rw [s1], by rw [pz_uj (by decide), pz_us]⟩⟩
  · intro p hp
    rw [sq 3 (by decide) (by decide) (by decide) (by decide)]
    exact c2 p (by omega)
  · obtain ⟨x, y⟩ := c6
    refine ⟨fun p q hp h => ?_, fun p q hp hq => ?_⟩
    · rw [s22 p q hp, s23 p q hp] at h
      by_cases g : p = n - 1 ∨ q = n - 1
      · rw [if_pos g, if_pos g] at h; rcases h with h | h <;> cases h
      · rw [if_neg g, if_neg g] at h
        have := x p q hp h
        omega
    · rw [s22 p q (by omega), s22 q p (by omega), s23 p q (by omega), s23 q p (by omega), if_neg (by omega), if_neg (by omega), if_neg (by omega), if_neg (by omega)]
      exact y p q (by omega) (by omega)
  · intro p hp
    rw [sq 2 (by decide) (by decide) (by decide) (by decide), sq 3 (by decide) (by decide) (by decide) (by decide), sq 4 (by decide) (by decide) (by decide) (by decide), sq 5 (by decide) (by decide) (by decide) (by decide), sq 6 (by decide) (by decide) (by decide) (by decide), pz_uq (by decide), pz_uq (by decide), pz_uq (by decide), pz_uq (by decide)]
    exact r2 p (by omega)
  · intro w hw p hp
    rw [a2 _ (by omega) (by omega), f1 w hw p (by omega), pz_uq (by decide), pz_uq (by decide)]
    exact r3 w hw p (by omega)
  · intro p q hp hq
    have g : ¬ (p = n - 1 ∨ q = n - 1) := by omega
    rw [s22 p q (by omega), s23 p q (by omega), if_neg g, if_neg g, pz_uq (by decide), pz_uq (by decide)]
    exact r6 p q (by omega) (by omega)
end DR
