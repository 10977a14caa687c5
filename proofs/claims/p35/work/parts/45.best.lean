/-! pure part: the best order -/
section BO
theorem pb_nI {S i : Nat} (hi : i < 32) : pz_b (nI S) i = S.testBit i := by
  show (BitVec.ofNat 32 S).getLsbD i = _
  rw [BitVec.getLsbD_ofNat, decide_eq_true hi, Bool.true_and]
theorem pn_or {S k : Nat} (hk : k < 31) : nI S ||| ((1 : Int32) <<< (nI k &&& 31)) = nI (S ||| 2 ^ k) := by
  apply pb_ext
  intro i hi
  rw [pb_or, pb_one (by omega), pb_nI hi, pb_nI hi, Nat.testBit_or, Nat.testBit_two_pow]
  congr 1
  rw [decide_eq_decide]
  exact eq_comm
theorem pn_up {m S k : Nat} (hS : S < 2 ^ m) (hk : k < m) (h : S.testBit k = false) : S < S ||| 2 ^ k ∧ S ||| 2 ^ k < 2 ^ m := by
  constructor
  · refine Nat.lt_of_le_of_ne Nat.left_le_or fun e => ?_
    have : (S ||| 2 ^ k).testBit k = true := by rw [Nat.testBit_or, Nat.testBit_two_pow, decide_eq_true rfl, Bool.or_true]
    rw [← e, h] at this
    cases this
  · exact Nat.or_lt_two_pow hS (Nat.pow_lt_pow_right (by decide) hk)
theorem pn_all {m S : Nat} (hS : S < 2 ^ m) (h : S ≠ 2 ^ m - 1) : ∃ k, k < m ∧ S.testBit k = false := by
  apply Classical.byContradiction
  intro no
  apply h
  apply Nat.eq_of_testBit_eq
  intro i
  rw [Nat.testBit_two_pow_sub_one]
  rcases Nat.lt_or_ge i m with g | g
  · rw [decide_eq_true g]
    cases w : S.testBit i with
    | true => rfl
    | false => exact absurd ⟨i, g, w⟩ no
  · rw [decide_eq_false (by omega)]
    exact Nat.testBit_lt_two_pow (Nat.lt_of_lt_of_le hS (Nat.pow_le_pow_right (by decide) g))
/-- what holds of the least from a set on -/
def pz_at (m : Nat) (c R : Nat → Nat) (S : Nat) : Prop := if S = 2 ^ m - 1 then R S = 0 else (∀ k, k < m → S.testBit k = false → R S ≤ c (S ||| 2 ^ k) + R (S ||| 2 ^ k)) ∧ (∃ k, k < m ∧ S.testBit k = false ∧ R S = c (S ||| 2 ^ k) + R (S ||| 2 ^ k))
def pz_fr (m : Nat) (c R : Nat → Nat) (k : Nat) : Prop := ∀ S, k ≤ S → S < 2 ^ m → pz_at m c R S ∧ R S ≤ 16 * (2 ^ m - 1 - S)
theorem pR_is {m : Nat} {c R : Nat → Nat} (h : pz_fr m c R 0) : pz_IsR m c R := by
  have h0 := Nat.two_pow_pos m
  refine ⟨?_, fun S hS => ?_⟩
  · have := (h (2 ^ m - 1) (Nat.zero_le _) (by omega)).1
    unfold pz_at at this
    rw [if_pos rfl] at this
    exact this
  · have := (h S (Nat.zero_le _) (by omega)).1
    unfold pz_at at this
    rw [if_neg (by omega)] at this
    exact this
theorem pR_one {m : Nat} {c R R' : Nat → Nat} (h : pz_IsR m c R) (h' : pz_IsR m c R') : ∀ d S, S < 2 ^ m → 2 ^ m - 1 - S ≤ d → R S = R' S := by
  intro d
  induction d with
  | zero =>
    intro S hS hd
    rw [show S = 2 ^ m - 1 by omega, h.1, h'.1]
  | succ d ih =>
    intro S hS hd
    by_cases g : S = 2 ^ m - 1
    · rw [g, h.1, h'.1]
    · obtain ⟨a1, k, hk, hb, a2⟩ := h.2 S (by omega)
      obtain ⟨b1, k', hk', hb', b2⟩ := h'.2 S (by omega)
      have u := pn_up hS hk hb
      have u' := pn_up hS hk' hb'
      have e := ih _ u.2 (by omega)
      have e' := ih _ u'.2 (by omega)
      have x := b1 k hk hb
      have x' := a1 k' hk' hb'
      omega
theorem pR_eq {m : Nat} {c R R' : Nat → Nat} (h : pz_IsR m c R) (h' : pz_IsR m c R') {S : Nat} (hS : S < 2 ^ m) : R S = R' S := pR_one h h' _ S hS (Nat.le_refl _)
theorem pw_ok {m : Nat} {c R : Nat → Nat} (h : pz_IsR m c R) {S : Nat} (hS : S < 2 ^ m - 1) : pz_wn m c R S < m ∧ S.testBit (pz_wn m c R S) = false ∧ c (S ||| 2 ^ pz_wn m c R S) + R (S ||| 2 ^ pz_wn m c R S) = R S := by
  obtain ⟨_, k, hk, hb, e⟩ := h.2 S hS
  have p : (!S.testBit k && decide (c (S ||| 2 ^ k) + R (S ||| 2 ^ k) = R S)) = true := by rw [hb, e, decide_eq_true rfl]; rfl
  have le := pf_le (P := fun k => !S.testBit k && decide (c (S ||| 2 ^ k) + R (S ||| 2 ^ k) = R S)) (n := m) p
  have lt : pz_wn m c R S < m := by unfold pz_wn; omega
  have y := pf3 (fun k => !S.testBit k && decide (c (S ||| 2 ^ k) + R (S ||| 2 ^ k) = R S)) m lt
  rw [Bool.and_eq_true, Bool.not_eq_true', decide_eq_true_iff] at y
  exact ⟨lt, y.1, y.2⟩
theorem pw_cong {m : Nat} {c R R' : Nat → Nat} (h : ∀ S, S < 2 ^ m → R S = R' S) {S : Nat} (hS : S < 2 ^ m) : pz_wn m c R S = pz_wn m c R' S := by
  unfold pz_wn
  have key : ∀ k, k < m → (!S.testBit k && decide (c (S ||| 2 ^ k) + R (S ||| 2 ^ k) = R S)) = (!S.testBit k && decide (c (S ||| 2 ^ k) + R' (S ||| 2 ^ k) = R' S)) := by
    intro k hk
    cases g : S.testBit k with
    | true => rfl
    | false => rw [h S hS, h _ (pn_up hS hk g).2]
  have gen : ∀ (P P' : Nat → Bool) (n : Nat), (∀ k, k < n → P k = P' k) → pz_f P n = pz_f P' n := by
    intro P P' n
    induction n with
    | zero => intro _; rfl
    | succ n ih =>
      intro h
      rw [pz_f, pz_f, ih (fun k hk => h k (by omega)), h n (by omega)]
  exact gen _ _ m key
theorem pwk_ok {m : Nat} {c R : Nat → Nat} (h : pz_IsR m c R) : ∀ k, k ≤ m → pz_wk m c R k < 2 ^ m ∧ pz_ct (fun i => (pz_wk m c R k).testBit i) m = k
  | 0, _ => ⟨Nat.two_pow_pos m, pc_0.mpr fun i _ => Nat.zero_testBit i⟩
  | k + 1, hk => by
    obtain ⟨h1, h2⟩ := pwk_ok h k (by omega)
    have ne : pz_wk m c R k ≠ 2 ^ m - 1 := by
      intro e
      have : pz_ct (fun i => (pz_wk m c R k).testBit i) m = m := by
        rw [e]
        have gen : ∀ n, n ≤ m → pz_ct (fun i => (2 ^ m - 1).testBit i) n = n := by
          intro n
          induction n with
          | zero => intro _; rfl
          | succ n ih => intro hn; rw [pz_ct, ih (by omega), if_pos (by rw [Nat.testBit_two_pow_sub_one, decide_eq_true (by omega)])]
        exact gen m (Nat.le_refl m)
      omega
    obtain ⟨w1, w2, w3⟩ := pw_ok h (S := pz_wk m c R k) (by omega)
    refine ⟨(pn_up h1 w1 w2).2, ?_⟩
    rw [pz_wk]
    have := pc_dec (P := fun i => (pz_wk m c R k).testBit i) (P' := fun i => (pz_wk m c R k ||| 2 ^ pz_wn m c R (pz_wk m c R k)).testBit i) (x := pz_wn m c R (pz_wk m c R k)) w1 (by rw [Nat.testBit_or, Nat.testBit_two_pow, decide_eq_true rfl, Bool.or_true]) w2 (fun i _ hi => by rw [Nat.testBit_or, Nat.testBit_two_pow, decide_eq_false (fun q => hi q.symm), Bool.or_false])
    omega
theorem pwk_ne {m : Nat} {c R : Nat → Nat} (h : pz_IsR m c R) {k : Nat} (hk : k < m) : pz_wk m c R k < 2 ^ m - 1 := by
  obtain ⟨h1, h2⟩ := pwk_ok h k (by omega)
  have ne : pz_wk m c R k ≠ 2 ^ m - 1 := by
    intro e
    have : pz_ct (fun i => (pz_wk m c R k).testBit i) m = m := by
      rw [e]
      have gen : ∀ n, n ≤ m → pz_ct (fun i => (2 ^ m - 1).testBit i) n = n := by
        intro n
        induction n with
        | zero => intro _; rfl
        | succ n ih => intro hn; rw [pz_ct, ih (by omega), if_pos (by rw [Nat.testBit_two_pow_sub_one, decide_eq_true (by omega)])]
      exact gen m (Nat.le_refl m)
    omega
  omega
theorem pwk_cong {m : Nat} {c R R' : Nat → Nat} (hR : pz_IsR m c R) (h : ∀ S, S < 2 ^ m → R S = R' S) : ∀ k, k ≤ m → pz_wk m c R k = pz_wk m c R' k
  | 0, _ => rfl
  | k + 1, hk => by
    have ih := pwk_cong hR h k (by omega)
    rw [pz_wk, pz_wk, ← ih, pw_cong h (pwk_ok hR k (by omega)).1]
variable {n : Nat} {σ σ' τ τ' : zz_St}
theorem vCs_le (n : Nat) (σ : zz_St) (S : Nat) : vCs n σ S ≤ 16 := pc_le _ _
/-- the one after: none, or the first of the least -/
theorem fc_after {m S : Nat} (hm : m ≤ 9) (hS : S < 2 ^ m) (h44 : σ 44 1 = nI m) {g : Nat → Nat} (hg : ∀ p, p < m → S.testBit p = false → σ 46 (S ||| 2 ^ p) = nI (g p) ∧ g p < 1000000) : ((∀ p, p < m → S.testBit p = true) ∧ fX0_nextAfter σ (nI S) = some (-1)) ∨ ∃ p, p < m ∧ S.testBit p = false ∧ fX0_nextAfter σ (nI S) = some (nI p) ∧ ∀ q, q < m → S.testBit q = false → g p ≤ g q ∧ (q < p → g p < g q) := by
  have h512 : 2 ^ m ≤ 512 := Nat.pow_le_pow_right (n := 2) (by decide) hm
  unfold fX0_nextAfter
  obtain ⟨r, hr, e⟩ := pz_loop (S := Int32 × Int32) (R := Int32 × Int32 × Int32) (fun f k t => fX0_nextAfter_L1 σ (nI S) f t.1 t.2 (nI k)) (fun k t => ((∀ p, p < k → S.testBit p = true) ∧ t = (-1, 1000000)) ∨ ∃ p, p < k ∧ S.testBit p = false ∧ t = (nI p, nI (g p)) ∧ ∀ q, q < k → S.testBit q = false → g p ≤ g q ∧ (q < p → g p < g q)) (fun r => ((∀ p, p < m → S.testBit p = true) ∧ r.1 = -1) ∨ ∃ p, p < m ∧ S.testBit p = false ∧ r.1 = nI p ∧ ∀ q, q < m → S.testBit q = false → g p ≤ g q ∧ (q < p → g p < g q)) m
    (fun k f t hk hP => by
      obtain ⟨a, l⟩ := t
      have un : fX0_nextAfter_L1 σ (nI S) (f + 1) a l (nI k) = if S.testBit k = true then fX0_nextAfter_L1 σ (nI S) f a l (nI (k + 1)) else if l ≤ nI (g k) then fX0_nextAfter_L1 σ (nI S) f a l (nI (k + 1)) else fX0_nextAfter_L1 σ (nI S) f (nI k) (nI (g k)) (nI (k + 1)) := by
        rw [fX0_nextAfter_L1, h44, if_neg (nI_ge hk (by omega)), pf_isIn (by omega), pz_bs, pb_nI (by omega), nI_1]
        cases w : S.testBit k with
        | true => rw [if_neg (by decide), pz_bs, if_neg (by decide), pz_bs, if_pos rfl]
        | false =>
          have u := pn_up hS hk w
          rw [if_pos (by decide), pn_or (by omega), pz_ga (by omega) (by decide), pz_bs, (hg k hk w).1, pz_bs, if_neg (show ¬ false = true by decide)]
          by_cases z : l ≤ nI (g k)
          · rw [if_pos z, pz_bs, if_neg (by decide), pz_bs, if_pos z]
          · rw [if_neg z, pz_bs, if_pos rfl, pz_bs, if_neg z]
      refine Or.inl ?_
      show ∃ s' : Int32 × Int32, _ ∧ fX0_nextAfter_L1 σ (nI S) (f + 1) a l (nI k) = _
      rw [un]
      cases w : S.testBit k with
      | true =>
        rw [if_pos rfl]
        refine ⟨(a, l), ?_, rfl⟩
        rcases hP with ⟨h1, h2⟩ | ⟨p, h1, h2, h3, h4⟩
        · refine Or.inl ⟨fun p hp => ?_, h2⟩
          by_cases c : p = k
          · rw [c]; exact w
          · exact h1 p (by omega)
        · refine Or.inr ⟨p, by omega, h2, h3, fun q hq hb => ?_⟩
          by_cases c : q = k
          · rw [c, w] at hb; cases hb
          · exact h4 q (by omega) hb
      | false =>
        rw [if_neg (by decide)]
        have gk := (hg k hk w).2
        rcases hP with ⟨h1, h2⟩ | ⟨p, h1, h2, h3, h4⟩
        · have hl : l = 1000000 := congrArg Prod.snd h2
          rw [if_neg (by rw [hl]; exact nI_ge (b := 1000000) gk (by decide))]
          refine ⟨(nI k, nI (g k)), Or.inr ⟨k, by omega, w, rfl, fun q hq hb => ?_⟩, rfl⟩
          by_cases c : q = k
          · rw [c]; exact ⟨Nat.le_refl _, fun z => by omega⟩
          · have := h1 q (by omega); rw [this] at hb; cases hb
        · have hl : l = nI (g p) := congrArg Prod.snd h3
          have gp := (hg p (by omega) h2).2
          by_cases z : g p ≤ g k
          · rw [if_pos (by rw [hl]; exact nI_le z (by omega))]
            refine ⟨(a, l), Or.inr ⟨p, by omega, h2, h3, fun q hq hb => ?_⟩, rfl⟩
            by_cases c : q = k
            · rw [c]; exact ⟨z, fun y => by omega⟩
            · exact h4 q (by omega) hb
          · rw [if_neg (by rw [hl]; exact nI_ge (by omega) (by omega))]
            refine ⟨(nI k, nI (g k)), Or.inr ⟨k, by omega, w, rfl, fun q hq hb => ?_⟩, rfl⟩
            by_cases c : q = k
            · rw [c]; exact ⟨Nat.le_refl _, fun z => by omega⟩
            · have := h4 q (by omega) hb
              exact ⟨by omega, fun _ => by omega⟩)
    (fun f t hP => by
      obtain ⟨a, l⟩ := t
      refine ⟨(a, l, nI m), ?_, ?_⟩
      · rcases hP with ⟨h1, h2⟩ | ⟨p, h1, h2, h3, h4⟩
        · exact Or.inl ⟨h1, congrArg Prod.fst h2⟩
        · exact Or.inr ⟨p, h1, h2, congrArg Prod.fst h3, h4⟩
      · show fX0_nextAfter_L1 σ (nI S) (f + 1) a l (nI m) = _
        rw [fX0_nextAfter_L1, h44, if_pos (Int32.le_refl _)]) 1000 0 (-1, 1000000) (Nat.zero_le _) (Or.inl ⟨fun p hp => by omega, rfl⟩) (by omega)
  rw [show fX0_nextAfter_L1 σ (nI S) 1000 (-1) 1000000 0 = _ from e, pz_bs]
  rcases hr with ⟨h1, h2⟩ | ⟨p, h1, h2, h3, h4⟩
  · exact Or.inl ⟨h1, by rw [h2]⟩
  · exact Or.inr ⟨p, h1, h2, by rw [h3], h4⟩
theorem fc_piecesIn (hn : n ≤ 14) (dp : pz_DP n σ) {S : Nat} : ∃ x, fX4_piecesIn σ (nI S) = some x ∧ ∀ q, pz_b x q = vQ n σ S q := by
  have hm := vM_le n σ
  unfold fX4_piecesIn
  obtain ⟨r, hr, e⟩ := pz_loop (S := Int32) (R := Int32 × Int32) (fun f k s => fX4_piecesIn_L1 σ (nI S) f s (nI k)) (fun k s => ∀ q, pz_b s q = true ↔ ∃ j, j < k ∧ (S.testBit j && pz_P n (vF n σ) j q) = true) (fun r => ∀ q, pz_b r.1 q = true ↔ ∃ j, j < vM n σ ∧ (S.testBit j && pz_P n (vF n σ) j q) = true) (vM n σ)
    (fun k f s hk hP => by
      have un : fX4_piecesIn_L1 σ (nI S) (f + 1) s (nI k) = fX4_piecesIn_L1 σ (nI S) f (s ||| if S.testBit k = true then σ 42 k else 0) (nI (k + 1)) := by
        rw [fX4_piecesIn_L1, dp.1, if_neg (nI_ge hk (by omega)), pf_isIn (by omega), pz_bs, pb_nI (by omega), nI_1]
        cases S.testBit k with
        | false => rw [if_pos (by decide), pz_bs, pz_bs, if_neg (by decide)]
        | true => rw [if_neg (by decide), pz_ga (by omega) (by decide), pz_bs, pz_bs, pz_bs, if_pos rfl]
      refine Or.inl ⟨_, fun q => ?_, un⟩
      rw [pb_or, Bool.or_eq_true, hP]
      cases g : S.testBit k with
      | false =>
        rw [if_neg (by decide), pb_0]
        constructor
        · rintro (⟨j, h1, h2⟩ | h)
          · exact ⟨j, by omega, h2⟩
          · cases h
        · rintro ⟨j, h1, h2⟩
          by_cases c : j = k
          · rw [c, g] at h2; cases h2
          · exact Or.inl ⟨j, by omega, h2⟩
      | true =>
        rw [if_pos rfl, dp.2.2 k hk]
        constructor
        · rintro (⟨j, h1, h2⟩ | h)
          · exact ⟨j, by omega, h2⟩
          · exact ⟨k, by omega, by rw [g, h]; rfl⟩
        · rintro ⟨j, h1, h2⟩
          by_cases c : j = k
          · rw [c, g, Bool.true_and] at h2; exact Or.inr h2
          · exact Or.inl ⟨j, by omega, h2⟩)
    (fun f s hP => ⟨(s, nI (vM n σ)), hP, by
      show fX4_piecesIn_L1 σ (nI S) (f + 1) s (nI (vM n σ)) = _
      rw [fX4_piecesIn_L1, dp.1, if_pos (Int32.le_refl _)]⟩) 1000 0 0 (Nat.zero_le _) (fun q => by
      rw [pb_0]
      exact ⟨fun h => absurd h (by decide), fun ⟨j, h, _⟩ => by omega⟩) (by omega)
  refine ⟨r.1, by rw [show fX4_piecesIn_L1 σ (nI S) 1000 (0 : Int32) (0 : Int32) = _ from e, pz_bs], fun q => ?_⟩
  unfold vQ
  rw [Bool.eq_iff_iff, hr, pex]
/-- the least from each set on, in the class's row -/
def pz_vl (n : Nat) (σ : zz_St) (R : Nat → Nat) (S : Nat) : Nat := (if S = 0 then 0 else vCs n σ S) + R S
end BO

