/-! pure part: the class's groups -/
section CG
variable {n : Nat} {σ σ' τ τ' : zz_St}
/-- the class's sets are the groups of these heads -/
def pz_CG (n : Nat) (h : Nat → Nat) (k : Nat) (e : Nat → Nat) (σ : zz_St) : Prop := pz_En n h k e ∧ σ 24 2 = nI k ∧ (∀ i, i < k → ∀ b, pz_b (σ 25 i) b = pz_G n h (e i) b)
theorem pEn_le {h : Nat → Nat} {k : Nat} {e : Nat → Nat} (E : pz_En n h k e) : ∀ i, i ≤ k → i ≤ e i
  | 0, _ => Nat.zero_le _
  | i + 1, hi => by
    have := pEn_le E i (by omega)
    have := E.2.1 i (i + 1) (by omega) hi
    omega
theorem pEn_k {h : Nat → Nat} {k : Nat} {e : Nat → Nat} (E : pz_En n h k e) : k ≤ n := by
  have := pEn_le E k (Nat.le_refl k)
  rw [E.2.2.1] at this
  exact this
/-- as far as the class's loops got, against the fold over heads -/
def pz_RN (th k : Nat) (e : Nat → Nat) (x : Nat × Nat × Nat) (g i j : Int32) : Prop :=
  (th ≤ x.2.2 ∧ x.2.2 ≤ 1000000 ∧ g = nI x.2.2 ∧ ∃ i' j', i = nI i' ∧ j = nI j' ∧ i' < j' ∧ j' < k ∧ e i' = x.1 ∧ e j' = x.2.1) ∨ (x.2.2 = th - 1 ∧ (g = -1 ∨ ∃ v, v < th ∧ g = nI v))
theorem fc_near2 {h : Nat → Nat} {k : Nat} {e : Nat → Nat} (hn : n ≤ 14) (c : pz_CW n σ) (hA : ∀ a b, a < n → b < n → a ≠ b → σ (27 + a) b = nI (vAf σ a b)) (G : pz_CG n h k e σ) {th : Nat} (hth : 1 ≤ th ∧ th ≤ 999) {i : Nat} (hi : i < k) (x0 : Nat × Nat × Nat) (g0 i0 j0 : Int32) (R0 : pz_RN th k e x0 g0 i0 j0) : ∃ r, pz_RN th k e (pz_fd (fun s y => pz_st n (vNo σ) (vAf σ) (vMa σ) h (e i) s y) x0 n) r.1 r.2.1 r.2.2.1 ∧ fX3_joinNearest_L2 σ (nI i) 1000 g0 i0 j0 (nI (i + 1)) = some r := by
  obtain ⟨c1, c2, c3, c5, c6⟩ := c
  obtain ⟨E, hk2, hs⟩ := G
  have hkn := pEn_k E
  have noop : ∀ s y, (s ≤ e i ∨ h s ≠ s) → pz_st n (vNo σ) (vAf σ) (vMa σ) h (e i) s y = y := fun s y q => if_neg (by rintro ⟨a, b, c, _⟩; rcases q with q | q; omega; exact q c)
  have start : pz_fd (fun s y => pz_st n (vNo σ) (vAf σ) (vMa σ) h (e i) s y) x0 (e (i + 1)) = x0 := by
    rw [pd_skip (m := 0) _ (Nat.zero_le _) (fun s _ hs y => noop s y (by
      rcases Nat.lt_or_ge (e i) s with q | q
      · exact Or.inr (pEn_gap E q hi hs)
      · exact Or.inl q))]
    rfl
  have next : ∀ j, i < j → j < k → pz_fd (fun s y => pz_st n (vNo σ) (vAf σ) (vMa σ) h (e i) s y) x0 (e (j + 1)) = pz_st n (vNo σ) (vAf σ) (vMa σ) h (e i) (e j) (pz_fd (fun s y => pz_st n (vNo σ) (vAf σ) (vMa σ) h (e i) s y) x0 (e j)) := by
    intro j h1 h2
    have := E.2.1 j (j + 1) (by omega) (by omega)
    rw [pd_skip (m := e j + 1) _ (by omega) (fun s a b y => noop s y (Or.inr (pEn_gap E (by omega) h2 b)))]
    rfl
  have key := pz_loop (S := Int32 × Int32 × Int32) (R := Int32 × Int32 × Int32 × Int32) (fun f j s => fX3_joinNearest_L2 σ (nI i) f s.1 s.2.1 s.2.2 (nI j))
    (fun j s => i < j ∧ pz_RN th k e (pz_fd (fun s y => pz_st n (vNo σ) (vAf σ) (vMa σ) h (e i) s y) x0 (e j)) s.1 s.2.1 s.2.2)
    (fun r => pz_RN th k e (pz_fd (fun s y => pz_st n (vNo σ) (vAf σ) (vMa σ) h (e i) s y) x0 n) r.1 r.2.1 r.2.2.1) k
    (fun j f s hj hP => by
      obtain ⟨g, p, q⟩ := s
      obtain ⟨hij, R⟩ := hP
      have hei := E.1 i hi
      have hej := E.1 j hj
      have lt := E.2.1 i j hij (by omega)
      obtain ⟨el, bl⟩ := fc_link (σ := σ) (h := h) hn c5 hA (f := e i) (s := e j) (by omega) hei.1 hej.1 hei.2 hej.2 (hs i hi) (hs j hj)
      have eb := fc_forb (σ := σ) (hs i hi) (hs j hj) hn
      have un : fX3_joinNearest_L2 σ (nI i) (f + 1) g p q (nI j) = (if (if pz_bar n (vNo σ) h (e i) (e j) = true then (-1 : Int32) else nI (pz_lk n (vAf σ) (vMa σ) h (e i) (e j))) ≤ g then fX3_joinNearest_L2 σ (nI i) f g p q (nI (j + 1)) else fX3_joinNearest_L2 σ (nI i) f (if pz_bar n (vNo σ) h (e i) (e j) = true then (-1 : Int32) else nI (pz_lk n (vAf σ) (vMa σ) h (e i) (e j))) (nI i) (nI j) (nI (j + 1))) := by
        rw [fX3_joinNearest_L2, hk2, if_neg (nI_ge hj (by omega)), pz_ga (by omega) (by decide), pz_bs, pz_ga (by omega) (by decide), pz_bs, eb, pz_bs, pz_bs, pz_bs, el]
        cases pz_bar n (vNo σ) h (e i) (e j) with
        | true =>
          rw [if_neg (by decide), pz_bs, if_pos rfl]
          by_cases z : (-1 : Int32) ≤ g
          · rw [if_pos z, pz_bs, if_pos z, nI_1]
          · rw [if_neg z, pz_bs, if_neg z, nI_1]
        | false =>
          rw [if_pos (by decide), pz_bs, pz_bs, if_neg (show ¬ false = true by decide)]
          by_cases z : nI (pz_lk n (vAf σ) (vMa σ) h (e i) (e j)) ≤ g
          · rw [if_pos z, pz_bs, if_pos z, nI_1]
          · rw [if_neg z, pz_bs, if_neg z, nI_1]
      have nx := next j hij hj
      generalize pz_fd (fun s y => pz_st n (vNo σ) (vAf σ) (vMa σ) h (e i) s y) x0 (e j) = x at R nx
      rw [nx]
      replace R : pz_RN th k e x g p q := R
      refine Or.inl ?_
      generalize hL : pz_lk n (vAf σ) (vMa σ) h (e i) (e j) = L at el bl un
      have stv : pz_st n (vNo σ) (vAf σ) (vMa σ) h (e i) (e j) x = if pz_bar n (vNo σ) h (e i) (e j) = false ∧ x.2.2 < L then (e i, e j, L) else x := by
        unfold pz_st
        rw [hL]
        by_cases z : pz_bar n (vNo σ) h (e i) (e j) = false ∧ x.2.2 < L
        · rw [if_pos z, if_pos ⟨lt, hei.2, hej.2, z⟩]
        · rw [if_neg z, if_neg (fun w => z w.2.2.2)]
      show ∃ s' : Int32 × Int32 × Int32, _ ∧ fX3_joinNearest_L2 σ (nI i) (f + 1) g p q (nI j) = fX3_joinNearest_L2 σ (nI i) f s'.1 s'.2.1 s'.2.2 (nI (j + 1))
      rw [un, stv]
      cases hb : pz_bar n (vNo σ) h (e i) (e j) with
      | true =>
        rw [if_pos rfl, if_neg (fun w => absurd w.1 (by decide))]
        have : (-1 : Int32) ≤ g := by
          rcases R with ⟨_, b, g', _⟩ | ⟨_, g' | ⟨v, hv, g'⟩⟩
          · rw [g']; exact Int32.le_trans (by decide) (nI_pos' (by omega))
          · rw [g']; exact Int32.le_refl _
          · rw [g']; exact Int32.le_trans (by decide) (nI_pos' (by omega))
        rw [if_pos this]
        exact ⟨(g, p, q), ⟨by omega, R⟩, rfl⟩
      | false =>
        rw [if_neg (show ¬ false = true by decide)]
        rcases R with ⟨a1, a2, a3, a4⟩ | ⟨a1, a2⟩
        · by_cases z : x.2.2 < L
          · rw [if_pos (show false = false ∧ x.2.2 < L from ⟨rfl, z⟩), if_neg (show ¬ nI L ≤ g by rw [a3, nI_leI (by omega) (by omega)]; omega)]
            exact ⟨(nI L, nI i, nI j), ⟨by omega, Or.inl ⟨show th ≤ L by omega, bl, rfl, i, j, rfl, rfl, hij, hj, rfl, rfl⟩⟩, rfl⟩
          · rw [if_neg (show ¬ (false = false ∧ x.2.2 < L) from fun w => z w.2), if_pos (show nI L ≤ g by rw [a3, nI_leI (by omega) (by omega)]; omega)]
            exact ⟨(g, p, q), ⟨by omega, Or.inl ⟨a1, a2, a3, a4⟩⟩, rfl⟩
        · by_cases z : x.2.2 < L
          · have z2 : ¬ nI L ≤ g := by
              rcases a2 with a2 | ⟨v, hv, a2⟩
              · rw [a2]; exact fun w => absurd (Int32.le_trans (nI_pos' (n := L) (by omega)) w) (by decide)
              · rw [a2, nI_leI (by omega) (by omega)]; omega
            rw [if_pos (show false = false ∧ x.2.2 < L from ⟨rfl, z⟩), if_neg z2]
            exact ⟨(nI L, nI i, nI j), ⟨by omega, Or.inl ⟨show th ≤ L by omega, bl, rfl, i, j, rfl, rfl, hij, hj, rfl, rfl⟩⟩, rfl⟩
          · rw [if_neg (show ¬ (false = false ∧ x.2.2 < L) from fun w => z w.2)]
            by_cases z2 : nI L ≤ g
            · rw [if_pos z2]
              exact ⟨(g, p, q), ⟨by omega, Or.inr ⟨a1, a2⟩⟩, rfl⟩
            · rw [if_neg z2]
              exact ⟨(nI L, nI i, nI j), ⟨by omega, Or.inr ⟨a1, Or.inr ⟨L, by omega, rfl⟩⟩⟩, rfl⟩)
    (fun f s hP => by
      obtain ⟨g, p, q⟩ := s
      refine ⟨(g, p, q, nI k), ?_, ?_⟩
      · have := hP.2
        rw [E.2.2.1] at this
        exact this
      · show fX3_joinNearest_L2 σ (nI i) (f + 1) g p q (nI k) = _
        rw [fX3_joinNearest_L2, hk2, if_pos (Int32.le_refl _)]) 1000 (i + 1) (g0, i0, j0) (by omega) ⟨by omega, by rw [start]; exact R0⟩ (by omega)
  exact key
theorem fc_near1 {h : Nat → Nat} {k : Nat} {e : Nat → Nat} (hn : n ≤ 14) (c : pz_CW n σ) (hA : ∀ a b, a < n → b < n → a ≠ b → σ (27 + a) b = nI (vAf σ a b)) (G : pz_CG n h k e σ) {th : Nat} (hth : 1 ≤ th ∧ th ≤ 999) : ∃ r, pz_RN th k e (pz_near n (vNo σ) (vAf σ) (vMa σ) th h) r.1 r.2.1 r.2.2.1 ∧ fX3_joinNearest_L1 σ 1000 (-1) 0 0 0 = some r := by
  obtain ⟨E, hk2, hs⟩ := G
  have hkn := pEn_k E
  let F : Nat → Nat × Nat × Nat → Nat × Nat × Nat := fun f x => pz_fd (fun s y => pz_st n (vNo σ) (vAf σ) (vMa σ) h f s y) x n
  have noop : ∀ f y, h f ≠ f → F f y = y := fun f y q => by
    show pz_fd (fun s y => pz_st n (vNo σ) (vAf σ) (vMa σ) h f s y) y n = y
    rw [pd_skip (F := fun s y => pz_st n (vNo σ) (vAf σ) (vMa σ) h f s y) (m := 0) n (Nat.zero_le _) (fun s _ _ z => if_neg (fun w => q w.2.1))]
    rfl
  have start : pz_fd F (0, 0, th - 1) (e 0) = (0, 0, th - 1) := by
    rw [pd_skip (m := 0) _ (Nat.zero_le _) (fun s _ hs y => noop s y (pEn_low E hs))]
    rfl
  have next : ∀ i, i < k → pz_fd F (0, 0, th - 1) (e (i + 1)) = F (e i) (pz_fd F (0, 0, th - 1) (e i)) := by
    intro i h2
    have := E.2.1 i (i + 1) (by omega) (by omega)
    rw [pd_skip (m := e i + 1) _ (by omega) (fun s a b y => noop s y (pEn_gap E (by omega) h2 b))]
    rfl
  have key := pz_loop (S := Int32 × Int32 × Int32) (R := Int32 × Int32 × Int32 × Int32) (fun f i s => fX3_joinNearest_L1 σ f s.1 s.2.1 s.2.2 (nI i))
    (fun i s => pz_RN th k e (pz_fd F (0, 0, th - 1) (e i)) s.1 s.2.1 s.2.2)
    (fun r => pz_RN th k e (pz_fd F (0, 0, th - 1) n) r.1 r.2.1 r.2.2.1) k
    (fun i f s hi hP => by
      obtain ⟨g, p, q⟩ := s
      obtain ⟨r, hr, er⟩ := fc_near2 hn c hA ⟨E, hk2, hs⟩ hth hi _ g p q hP
      refine Or.inl ⟨(r.1, r.2.1, r.2.2.1), ?_, ?_⟩
      · show pz_RN th k e (pz_fd F (0, 0, th - 1) (e (i + 1))) r.1 r.2.1 r.2.2.1
        rw [next i hi]
        exact hr
      · show fX3_joinNearest_L1 σ (f + 1) g p q (nI i) = _
        rw [fX3_joinNearest_L1, hk2, if_neg (nI_ge hi (by omega)), pz_bs, nI_1, er, pz_bs])
    (fun f s hP => by
      obtain ⟨g, p, q⟩ := s
      refine ⟨(g, p, q, nI k), ?_, ?_⟩
      · have hP : pz_RN th k e (pz_fd F (0, 0, th - 1) (e k)) g p q := hP
        rw [E.2.2.1] at hP
        exact hP
      · show fX3_joinNearest_L1 σ (f + 1) g p q (nI k) = _
        rw [fX3_joinNearest_L1, hk2, if_pos (Int32.le_refl _)]) 1000 0 (-1, 0, 0) (Nat.zero_le _) (by
      show pz_RN th k e (pz_fd F (0, 0, th - 1) (e 0)) (-1) 0 0
      rw [start]
      exact Or.inr ⟨rfl, Or.inl rfl⟩) (by omega)
  exact key
/-- two groups become one -/
theorem fc_join {h : Nat → Nat} {k : Nat} {e : Nat → Nat} (hn : n ≤ 14) (hh : pz_Hd n h) (G : pz_CG n h k e σ) {i j : Nat} (hij : i < j) (hj : j < k) : ∃ σ' e', fX3_join σ (nI i) (nI j) = some σ' ∧ pz_CG n (pz_J h (e i) (e j)) (k - 1) e' σ' ∧ (∀ q, q ≠ 24 → q ≠ 25 → σ' q = σ q) ∧ (∀ z, z ≠ 2 → σ' 24 z = σ 24 z) := by
  obtain ⟨E, hk2, hs⟩ := G
  have hkn := pEn_k E
  unfold fX3_join
  rw [pz_ga (by omega) (by decide), pz_bs, pz_ga (by omega) (by decide), pz_bs, pz_pa (by omega) (by decide), pz_bs, nI_1, pz_bs]
  obtain ⟨r, hr, er⟩ := pz_loop (S := zz_St) (R := Int32 × zz_St) (fun f z s => fX3_join_L1 (nI i) (nI j) f (nI z) s)
    (fun z s => j < z ∧ (∀ q, q ≠ 25 → s q = σ q) ∧ (∀ m, s 25 m = if j ≤ m ∧ m + 1 < z then σ 25 (m + 1) else zz_u σ 25 i (σ 25 i ||| σ 25 j) 25 m))
    (fun r => (∀ q, q ≠ 25 → r.2 q = σ q) ∧ (∀ m, r.2 25 m = if j ≤ m ∧ m + 1 < k then σ 25 (m + 1) else zz_u σ 25 i (σ 25 i ||| σ 25 j) 25 m)) k
    (fun z f s hz hP => by
      obtain ⟨a, b, c⟩ := hP
      refine Or.inl ⟨zz_u s 25 (z - 1) (σ 25 z), ⟨by omega, fun q hq => by rw [pz_uq hq]; exact b q hq, fun m => ?_⟩, ?_⟩
      · rw [pz_u, c]
        by_cases g : m = z - 1
        · rw [if_pos ⟨rfl, g⟩, if_pos (by omega), show m + 1 = z by omega]
        · rw [if_neg (by omega)]
          by_cases g2 : j ≤ m ∧ m + 1 < z
          · rw [if_pos g2, if_pos (by omega)]
          · rw [if_neg g2, if_neg (by omega)]
      · show fX3_join_L1 (nI i) (nI j) (f + 1) (nI z) s = _
        have sz : s 25 z = σ 25 z := by rw [c, if_neg (by omega), pz_u, if_neg (by omega)]
        rw [fX3_join_L1, b 24 (by decide), hk2, if_neg (nI_ge hz (by omega)), pz_ga (by omega) (by decide), pz_bs, sz, show nI z - 1 = nI (z - 1) from pk_sub (a := z) (b := 1) (by omega), pz_pa (by omega) (by decide), pz_bs, nI_1])
    (fun f s hP => ⟨(nI k, s), hP.2, by
      show fX3_join_L1 (nI i) (nI j) (f + 1) (nI k) s = _
      rw [fX3_join_L1, hP.2.1 24 (by decide), hk2, if_pos (Int32.le_refl _)]⟩) 1000 (j + 1) (zz_u σ 25 i (σ 25 i ||| σ 25 j)) (by omega) ⟨by omega, fun q hq => pz_uq hq, fun m => by rw [if_neg (by omega)]⟩ (by omega)
  obtain ⟨a, b⟩ := hr
  rw [er, pz_bs, a 24 (by decide), hk2]
  have ei := E.1 i (by omega)
  have ej := E.1 j hj
  have lt := E.2.1 i j hij (by omega)
  have Jv : ∀ p, pz_J h (e i) (e j) p = if h p = e j then e i else h p := fun p => by unfold pz_J; rw [Nat.max_eq_right (by omega), Nat.min_eq_left (by omega)]
  refine ⟨_, fun m => if m < j then e m else e (m + 1), rfl, ⟨⟨fun m hm => ?_, fun x y hxy hy => ?_, ?_, fun p hp hpp => ?_⟩, ?_, fun m hm bt => ?_⟩, fun q h1 h2 => by rw [pz_uq h1]; exact a q h2, fun z hz => by rw [pz_uj hz, a 24 (by decide)]⟩
  · rw [Jv]
    by_cases g : m < j
    · simp only [if_pos g]
      have em := E.1 m (by omega)
      have := E.2.1 m j g (by omega)
      rw [if_neg (by omega)]
      exact em
    · simp only [if_neg g]
      have em := E.1 (m + 1) (by omega)
      have := E.2.1 j (m + 1) (by omega) (by omega)
      rw [if_neg (by omega)]
      exact em
  · by_cases g : y < j
    · simp only [if_pos g, if_pos (show x < j by omega)]
      exact E.2.1 x y hxy (by omega)
    · simp only [if_neg g]
      by_cases g2 : x < j
      · simp only [if_pos g2]
        exact E.2.1 x (y + 1) (by omega) (by omega)
      · simp only [if_neg g2]
        exact E.2.1 (x + 1) (y + 1) (by omega) (by omega)
  · simp only [if_neg (show ¬ k - 1 < j by omega)]
    rw [show k - 1 + 1 = k by omega]
    exact E.2.2.1
  · rw [Jv] at hpp
    by_cases g : h p = e j
    · rw [if_pos g] at hpp
      have := (hh p hp).1
      rw [g] at this
      omega
    · rw [if_neg g] at hpp
      obtain ⟨m, hm, em⟩ := E.2.2.2 p hp hpp
      have mj : m ≠ j := fun q => g (by rw [hpp, ← em, q])
      by_cases q : m < j
      · exact ⟨m, by omega, by simp only [if_pos q]; exact em⟩
      · refine ⟨m - 1, by omega, ?_⟩
        simp only [if_neg (show ¬ m - 1 < j by omega)]
        rw [show m - 1 + 1 = m by omega]
        exact em
  · rw [pz_us]
    exact pk_sub (a := k) (b := 1) (by omega)
  · rw [pz_uq (by decide), b, pz_u]
    have gen : ∀ m', m' < k → m' ≠ i → m' ≠ j → pz_G n (pz_J h (e i) (e j)) (e m') bt = pz_G n h (e m') bt := by
      intro m' h1 h2 h3
      unfold pz_G
      rw [Jv]
      by_cases g : h bt = e j
      · rw [if_pos g, g, decide_eq_false (show ¬ e i = e m' from fun q => h2 (pEn_inj E (by omega) (by omega) q.symm)), decide_eq_false (show ¬ e j = e m' from fun q => h3 (pEn_inj E (by omega) (by omega) q.symm))]
      · rw [if_neg g]
    by_cases g : m < j
    · simp only [if_pos g]
      rw [if_neg (by omega)]
      by_cases g2 : m = i
      · rw [if_pos ⟨trivial, g2⟩, pb_or, hs i (by omega), hs j hj, g2]
        unfold pz_G
        rw [Jv]
        by_cases g3 : h bt = e j
        · rw [if_pos g3, g3, decide_eq_false (show ¬ e j = e i by omega), decide_eq_true rfl, decide_eq_true rfl]
          cases decide (bt < n) <;> rfl
        · rw [if_neg g3, decide_eq_false g3]
          cases decide (bt < n) <;> cases decide (h bt = e i) <;> rfl
      · rw [if_neg (by omega), hs m (by omega)]
        exact (gen m (by omega) g2 (by omega)).symm
    · simp only [if_neg g]
      rw [if_pos (by omega), hs (m + 1) (by omega)]
      exact (gen (m + 1) (by omega) (by omega) (by omega)).symm
theorem vTh_ok (c5 : pz_CW5 σ) : 1 ≤ vTh σ ∧ vTh σ ≤ 999 ∧ σ 24 0 = nI (vTh σ) := by
  obtain ⟨t, h1, h2, e⟩ := c5.2.1
  have : vTh σ = t := by unfold vTh; rw [e, nI_clamp (by omega)]
  rw [this]
  exact ⟨h1, h2, e⟩
theorem fc_joinNearest {h : Nat → Nat} {k : Nat} {e : Nat → Nat} (hn : n ≤ 14) (c : pz_CW n σ) (hA : ∀ a b, a < n → b < n → a ≠ b → σ (27 + a) b = nI (vAf σ a b)) (hh : pz_Hd n h) (G : pz_CG n h k e σ) : ((pz_near n (vNo σ) (vAf σ) (vMa σ) (vTh σ) h).2.2 < vTh σ ∧ fX3_joinNearest σ = some (0, σ)) ∨ (¬ (pz_near n (vNo σ) (vAf σ) (vMa σ) (vTh σ) h).2.2 < vTh σ ∧ ∃ σ' e', fX3_joinNearest σ = some (1, σ') ∧ pz_CG n (pz_J h (pz_near n (vNo σ) (vAf σ) (vMa σ) (vTh σ) h).1 (pz_near n (vNo σ) (vAf σ) (vMa σ) (vTh σ) h).2.1) (k - 1) e' σ' ∧ (∀ q, q ≠ 24 → q ≠ 25 → σ' q = σ q) ∧ σ' 24 0 = σ 24 0 ∧ σ' 24 1 = σ 24 1 ∧ σ' 24 3 = nI (pz_near n (vNo σ) (vAf σ) (vMa σ) (vTh σ) h).2.2) := by
  obtain ⟨t1, t2, t3⟩ := vTh_ok c.2.2.2.1
  obtain ⟨r, hr, er⟩ := fc_near1 hn c hA G ⟨t1, t2⟩
  unfold fX3_joinNearest
  rw [er, pz_bs, t3]
  generalize hx : pz_near n (vNo σ) (vAf σ) (vMa σ) (vTh σ) h = x at hr
  rcases hr with ⟨a1, a2, a3, i, j, b1, b2, hij, hj, e1, e2⟩ | ⟨a1, a2⟩
  · refine Or.inr ⟨by omega, ?_⟩
    obtain ⟨σ', e', eJ, G', f1, f2⟩ := fc_join hn hh G hij hj
    rw [a3, if_pos (nI_le a1 (by omega)), b1, b2, eJ, pz_bs]
    refine ⟨_, e', rfl, ?_, fun q h1 h2 => by rw [pz_uq h1]; exact f1 q h1 h2, by rw [pz_uj (by decide), f2 0 (by decide), t3], by rw [pz_uj (by decide)]; exact f2 1 (by decide), pz_us⟩
    rw [e1, e2] at G'
    obtain ⟨g1, g2, g3⟩ := G'
    exact ⟨g1, by rw [pz_uj (by decide)]; exact g2, fun i hi b => by rw [pz_uq (by decide)]; exact g3 i hi b⟩
  · refine Or.inl ⟨by omega, ?_⟩
    have : ¬ nI (vTh σ) ≤ r.1 := by
      rcases a2 with a2 | ⟨v, hv, a2⟩
      · rw [a2]; exact fun w => absurd (Int32.le_trans (nI_pos' (n := vTh σ) (by omega)) w) (by decide)
      · rw [a2, nI_leI (by omega) (by omega)]; omega
    rw [if_neg this]
end CG

