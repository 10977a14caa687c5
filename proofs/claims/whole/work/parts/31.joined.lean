/-! pure part: what is joined by MUST: the class's rounds, the reference's heads -/
section JN
variable {n : Nat} {σ σ' τ τ' : zz_St}
theorem pb_14 (c6 : pz_CW6 n σ) {p i : Nat} (hp : p < 14) (h : vMu σ p i = true) : p < n ∧ i < n := c6.1 p i hp (Or.inl h)
theorem vMu_sy (c6 : pz_CW6 n σ) : ∀ a b, a < n → b < n → vMu σ a b = vMu σ b a := fun a b ha hb => (c6.2 a b ha hb).1
/-- one round -/
theorem fc_pass (c6 : pz_CW6 n σ) (hn : n ≤ 14) {p : Nat} (x y z : Int32) (j : Int32) (hj : ∀ i, pz_b j i = true → pz_C n (vMu σ) p i = true) : ∃ j', fX6_joinedTo_L2 σ x y z 1000 j 0 = some (j', 14) ∧ (∀ i, pz_b j i = true → pz_b j' i = true) ∧ (∀ i, pz_b j' i = true → pz_C n (vMu σ) p i = true) ∧ (∀ o i, pz_b j o = true → o < 14 → vMu σ o i = true → pz_b j' i = true) := by
  obtain ⟨r, hr, e⟩ := pz_loop (S := Int32) (R := Int32 × Int32) (fun f k s => fX6_joinedTo_L2 σ x y z f s (nI k))
    (fun k s => (∀ i, pz_b j i = true → pz_b s i = true) ∧ (∀ i, pz_b s i = true → pz_C n (vMu σ) p i = true) ∧ (∀ o i, pz_b j o = true → o < k → vMu σ o i = true → pz_b s i = true))
    (fun r => r.2 = 14 ∧ (∀ i, pz_b j i = true → pz_b r.1 i = true) ∧ (∀ i, pz_b r.1 i = true → pz_C n (vMu σ) p i = true) ∧ (∀ o i, pz_b j o = true → o < 14 → vMu σ o i = true → pz_b r.1 i = true)) 14
    (fun k f s hk hP => by
      obtain ⟨a, b, c⟩ := hP
      refine Or.inl ⟨if pz_b s k = true then s ||| σ 22 k else s, ?_, ?_⟩
      · cases g : pz_b s k with
        | false =>
          rw [if_neg (by decide)]
          refine ⟨a, b, fun o i h1 h2 h3 => ?_⟩
          by_cases q : o = k
          · subst q; rw [a o h1] at g; cases g
          · exact c o i h1 (by omega) h3
        | true =>
          rw [if_pos rfl]
          refine ⟨fun i h => by rw [pb_or, a i h]; rfl, fun i h => ?_, fun o i h1 h2 h3 => ?_⟩
          · rw [pb_or, Bool.or_eq_true] at h
            rcases h with h | h
            · exact b i h
            · have hh := pb_14 c6 hk h
              exact (pC_eq n (vMu σ)).2.2 p k i (b k g) (pw_in (pe0.mpr ⟨hh.1, hh.2, Or.inr h⟩) n)
          · rw [pb_or, Bool.or_eq_true]
            by_cases q : o = k
            · subst q; exact Or.inr h3
            · exact Or.inl (c o i h1 (by omega) h3)
      · show fX6_joinedTo_L2 σ x y z (f + 1) s (nI k) = _
        rw [fX6_joinedTo_L2, if_neg (show ¬ (14 : Int32) ≤ nI k from nI_ge (a := k) (b := 14) hk (by decide)), pf_isIn (by omega), pz_bs]
        cases g : pz_b s k with
        | false =>
          rw [if_pos (by decide), pz_bs, pz_bs, nI_1, if_neg (by decide)]
          rw [show s ||| 0 = s from pb_ext fun i _ => by rw [pb_or, pb_0, Bool.or_false]]
        | true => rw [if_neg (by decide), pz_ga hk (by decide), pz_bs, pz_bs, pz_bs, nI_1, if_pos rfl])
    (fun f s hP => ⟨(s, 14), ⟨rfl, hP⟩, by
      show fX6_joinedTo_L2 σ x y z (f + 1) s (nI 14) = _
      rw [fX6_joinedTo_L2, if_pos (by decide)]
      rfl⟩) 1000 0 j (by decide) ⟨fun _ h => h, hj, fun o i h1 h2 => by omega⟩ (by decide)
  exact ⟨r.1, by rw [← hr.1]; exact e, hr.2⟩
theorem fc_joined (c6 : pz_CW6 n σ) (hn : n ≤ 14) {p : Nat} (hp : p < n) : ∃ J, fX6_joinedTo σ (nI p) = some J ∧ ∀ i, pz_b J i = pz_C n (vMu σ) p i := by
  have hC := pC_eq n (vMu σ)
  have z : pz_b ((1 : Int32) <<< (nI p &&& 31)) p = true := by rw [pb_one (by omega), decide_eq_true rfl]
  have s1 : ∀ i, pz_b ((1 : Int32) <<< (nI p &&& 31)) i = true → pz_C n (vMu σ) p i = true := fun i h => by
    rw [pb_one (by omega), decide_eq_true_iff] at h
    rw [h]; exact hC.1 p hp
  have s3 : ¬ (1 : Int32) <<< (nI p &&& 31) = 0 := fun q => by
    rw [q, pb_0] at z; cases z
  have s4 : 0 + 1 ≤ pz_ct (pz_b ((1 : Int32) <<< (nI p &&& 31))) 14 := by
    apply Classical.byContradiction
    intro no
    have := (pc_0 (P := pz_b ((1 : Int32) <<< (nI p &&& 31))) (n := 14)).mp (by omega) p (by omega)
    rw [z] at this; cases this
  unfold fX6_joinedTo
  rw [pz_bs]
  obtain ⟨r, hr, e⟩ := pz_loop (S := Int32 × Int32) (R := Int32 × Int32 × Int32) (fun f k s => fX6_joinedTo_L1 σ (nI p) f s.1 s.2 (nI k))
    (fun k s => (∀ i, pz_b s.1 i = true → pz_C n (vMu σ) p i = true) ∧ pz_b s.1 p = true ∧ (s.1 = s.2 → ∀ o i, pz_b s.1 o = true → vMu σ o i = true → pz_b s.1 i = true) ∧ (¬ s.1 = s.2 → k + 1 ≤ pz_ct (pz_b s.1) 14))
    (fun r => ∀ i, pz_b r.1 i = pz_C n (vMu σ) p i) 14
    (fun k f s hk hP => by
      obtain ⟨j, b⟩ := s
      obtain ⟨h1, h2, h3, h4⟩ := hP
      have lt : ∀ i, pz_b j i = true → i < 14 := fun i h => by have := (hC.2.1 p i (h1 i h)).2; omega
      by_cases g : j = b
      · refine Or.inr ⟨(j, b, nI k), fun i => ?_, ?_⟩
        · cases c : pz_C n (vMu σ) p i with
          | false =>
            cases d : pz_b j i with
            | false => rfl
            | true => rw [h1 i d] at c; cases c
          | true =>
            exact pw_min (E := pz_E0 n (vMu σ)) (T := fun a b => pz_b j a = true → pz_b j b = true) (fun a b c x y z => y (x z)) (fun a b h z => by
              obtain ⟨_, _, h⟩ := pe0.mp h
              rcases h with h | h
              · rw [← h]; exact z
              · exact h3 g a b z h) n p i c h2
        · show fX6_joinedTo_L1 σ (nI p) (f + 1) j b (nI k) = _
          rw [fX6_joinedTo_L1, if_neg (show ¬ (14 : Int32) ≤ nI k from nI_ge (a := k) (b := 14) hk (by decide)), if_pos g, pz_bs, if_neg (by decide)]
      · obtain ⟨j', e', a', b', c'⟩ := fc_pass c6 hn (nI p) j (nI k) j h1
        refine Or.inl ⟨(j', j), ⟨b', a' p h2, fun q o i z w => ?_, fun q => ?_⟩, ?_⟩
        · have q : j' = j := q
          have z : pz_b j' o = true := z
          rw [q] at z
          exact c' o i z (lt o z) w
        · have q : ¬ j' = j := q
          have h4' : k + 1 ≤ pz_ct (pz_b j) 14 := h4 g
          have hlt : pz_ct (pz_b j) 14 < pz_ct (pz_b j') 14 := by
            refine pc_lt (fun i _ h => a' i h) ?_
            apply Classical.byContradiction
            intro no
            apply q
            apply pb_ext
            intro i _
            cases c : pz_b j' i with
            | false =>
              cases d : pz_b j i with
              | false => rfl
              | true => rw [a' i d] at c; cases c
            | true =>
              cases d : pz_b j i with
              | true => rfl
              | false => exact absurd ⟨i, by have := (hC.2.1 p i (b' i c)).2; omega, c, d⟩ no
          show k + 1 + 1 ≤ pz_ct (pz_b j') 14
          omega
        · show fX6_joinedTo_L1 σ (nI p) (f + 1) j b (nI k) = fX6_joinedTo_L1 σ (nI p) f j' j (nI (k + 1))
          rw [fX6_joinedTo_L1, if_neg (show ¬ (14 : Int32) ≤ nI k from nI_ge (a := k) (b := 14) hk (by decide)), if_neg g, pz_bs, if_pos rfl, e', pz_bs, nI_1])
    (fun f s hP => by
      obtain ⟨j, b⟩ := s
      obtain ⟨h1, h2, h3, h4⟩ := hP
      by_cases g : j = b
      · refine ⟨(j, b, nI 14), fun i => ?_, ?_⟩
        · cases c : pz_C n (vMu σ) p i with
          | false =>
            cases d : pz_b j i with
            | false => rfl
            | true => rw [h1 i d] at c; cases c
          | true =>
            exact pw_min (E := pz_E0 n (vMu σ)) (T := fun a b => pz_b j a = true → pz_b j b = true) (fun a b c x y z => y (x z)) (fun a b h z => by
              obtain ⟨_, _, h⟩ := pe0.mp h
              rcases h with h | h
              · rw [← h]; exact z
              · exact h3 g a b z h) n p i c h2
        · show fX6_joinedTo_L1 σ (nI p) (f + 1) j b (nI 14) = _
          rw [fX6_joinedTo_L1, if_pos (by decide), pz_bs, if_neg (by decide)]
      · have := h4 g
        have := pc_le (pz_b j) 14
        have : 14 + 1 ≤ pz_ct (pz_b j) 14 := h4 g
        omega) 1000 0 ((1 : Int32) <<< (nI p &&& 31), 0) (by decide) ⟨fun i h => s1 i h, z, fun q => absurd q s3, fun _ => s4⟩ (by decide)
  exact ⟨r.1, by rw [show fX6_joinedTo_L1 σ (nI p) 1000 ((1 : Int32) <<< (nI p &&& 31)) (0 : Int32) (0 : Int32) = _ from e, pz_bs], hr⟩
/-- the reference's heads -/
def pz_HH (n : Nat) (h : Nat → Nat) (τ : zz_St) : Prop := ∀ p, p < n → τ 55 p = nI (h p)
theorem pz_maxI {a b : Nat} (ha : a < 1000000) (hb : b < 1000000) : zz_max (nI a) (nI b) = nI (max a b) := by
  unfold zz_max
  by_cases h : a < b
  · rw [if_pos (nI_lt h (by omega)), Nat.max_eq_right (by omega)]
  · rw [if_neg (by rw [nI_ltI (by omega) (by omega)]; exact h), Nat.max_eq_left (by omega)]
theorem pz_minI {a b : Nat} (ha : a < 1000000000) (hb : b < 1000000000) : zz_min (nI a) (nI b) = nI (min a b) := by
  unfold zz_min
  by_cases h : b < a
  · rw [if_pos (nI_lt h (by omega)), Nat.min_eq_right (by omega)]
  · rw [if_neg (by rw [nI_ltI (by omega) (by omega)]; exact h), Nat.min_eq_left (by omega)]
theorem fm_joinHeads {h : Nat → Nat} (ht : τ 47 1 = nI n) (hn : n ≤ 14) (hh : pz_Hd n h) (H : pz_HH n h τ) {x y : Nat} (hx : x < n) (hy : y < n) : ∃ τ', fX8_joinHeads τ (nI x) (nI y) = some τ' ∧ (∀ q, q ≠ 55 → τ' q = τ q) ∧ pz_HH n (pz_J h x y) τ' := by
  unfold fX8_joinHeads
  obtain ⟨r, hr, e⟩ := pz_loop (S := zz_St) (R := Int32 × zz_St) (fun f k s => fX8_joinHeads_L1 (nI x) (nI y) f (nI k) s)
    (fun k s => (∀ q, q ≠ 55 → s q = τ q) ∧ (∀ p, p < n → s 55 p = nI (if p < k then pz_J h x y p else h p)))
    (fun r => (∀ q, q ≠ 55 → r.2 q = τ q) ∧ pz_HH n (pz_J h x y) r.2) n
    (fun k f s hk hP => by
      obtain ⟨a, b⟩ := hP
      have hk2 := (hh k hk).1
      refine Or.inl ⟨if h k = max x y then zz_u s 55 k (nI (min x y)) else s, ⟨fun q hq => ?_, fun p hp => ?_⟩, ?_⟩
      · split
        · rw [pz_uq hq]; exact a q hq
        · exact a q hq
      · by_cases g : h k = max x y
        · rw [if_pos g, pz_u, b p hp]
          by_cases c : p = k
          · rw [if_pos ⟨rfl, c⟩, if_pos (by omega), c]
            unfold pz_J
            rw [if_pos g]
          · rw [if_neg (by omega)]
            by_cases d : p < k
            · rw [if_pos d, if_pos (by omega)]
            · rw [if_neg d, if_neg (by omega)]
        · rw [if_neg g, b p hp]
          by_cases c : p = k
          · rw [if_neg (by omega), if_pos (by omega), c]
            unfold pz_J
            rw [if_neg g]
          · by_cases d : p < k
            · rw [if_pos d, if_pos (by omega)]
            · rw [if_neg d, if_neg (by omega)]
      · show fX8_joinHeads_L1 (nI x) (nI y) (f + 1) (nI k) s = _
        rw [fX8_joinHeads_L1, a 47 (by decide), ht, if_neg (nI_ge hk (by omega)), pz_ga (by omega) (by decide), pz_bs, b k hk, if_neg (show ¬ k < k by omega), pz_maxI (a := x) (b := y) (by omega) (by omega), pz_minI (a := x) (b := y) (by omega) (by omega)]
        by_cases g : h k = max x y
        · rw [if_pos (by rw [g]), pz_pa (by omega) (by decide), pz_bs, pz_bs, if_pos g, nI_1]
        · rw [if_neg (by rw [nI_eq (by omega) (by omega)]; exact g), pz_bs, if_neg g, nI_1])
    (fun f s hP => ⟨(nI n, s), ⟨hP.1, fun p hp => by show s 55 p = _; rw [hP.2 p hp, if_pos hp]⟩, by
      show fX8_joinHeads_L1 (nI x) (nI y) (f + 1) (nI n) s = _
      rw [fX8_joinHeads_L1, hP.1 47 (by decide), ht, if_pos (Int32.le_refl _)]⟩) 1000 0 τ (by omega) ⟨fun _ _ => rfl, fun p hp => by rw [if_neg (by omega)]; exact H p hp⟩ (by omega)
  exact ⟨r.2, by rw [show fX8_joinHeads_L1 (nI x) (nI y) 1000 (0 : Int32) τ = _ from e, pz_bs], hr⟩
theorem fm_said (r6 : pz_RL6 n σ τ) (hn : n ≤ 14) {a b : Nat} (ha : a < n) (hb : b < n) : fX8_saidOf τ (nI a) (nI b) = some (if vMu σ a b = true then 1 else if vNo σ a b = true then 2 else 0) := by
  unfold fX8_saidOf
  rw [show (14 : Int32) = nI 14 from rfl, pk_mul, nI_add, pz_ga (by omega) (by decide), pz_bs, r6 a b ha hb]
  rfl
theorem pn_said {m w : Bool} : ((if m = true then (1 : Int32) else if w = true then 2 else 0) = 1) ↔ m = true := by cases m <;> cases w <;> decide
theorem pn_said2 {m w : Bool} : ((if m = true then (1 : Int32) else if w = true then 2 else 0) = 2) ↔ (m = false ∧ w = true) := by cases m <;> cases w <;> decide
theorem fm_start (c6 : pz_CW6 n σ) (hn : n ≤ 14) (ht : τ 47 1 = nI n) (r6 : pz_RL6 n σ τ) : ∃ τ', fX8_startGroups τ = some τ' ∧ (∀ q, q ≠ 55 → τ' q = τ q) ∧ pz_HH n (pz_h0 n (vMu σ)) τ' := by
  have hC := pC_eq n (vMu σ)
  have hS : ∀ {a b}, pz_C n (vMu σ) a b = true → pz_C n (vMu σ) b a = true := fun h => pC_sy (vMu_sy c6) h
  unfold fX8_startGroups
  obtain ⟨r1, hr1, e1⟩ := pz_loop (S := zz_St) (R := Int32 × zz_St) (fun f k s => fX8_startGroups_L1 f (nI k) s)
    (fun k s => (∀ q, q ≠ 55 → s q = τ q) ∧ (∀ p, p < k → s 55 p = nI p))
    (fun r => (∀ q, q ≠ 55 → r.2 q = τ q) ∧ (∀ p, p < n → r.2 55 p = nI p)) n
    (fun k f s hk hP => by
      refine Or.inl ⟨zz_u s 55 k (nI k), ⟨fun q hq => by rw [pz_uq hq]; exact hP.1 q hq, fun p hp => ?_⟩, ?_⟩
      · rw [pz_u]
        by_cases c : p = k
        · rw [if_pos ⟨rfl, c⟩, c]
        · rw [if_neg (by omega)]; exact hP.2 p (by omega)
      · show fX8_startGroups_L1 (f + 1) (nI k) s = _
        rw [fX8_startGroups_L1, hP.1 47 (by decide), ht, if_neg (nI_ge hk (by omega)), pz_pa (by omega) (by decide), pz_bs, nI_1])
    (fun f s hP => ⟨(nI n, s), hP, by
      show fX8_startGroups_L1 (f + 1) (nI n) s = _
      rw [fX8_startGroups_L1, hP.1 47 (by decide), ht, if_pos (Int32.le_refl _)]⟩) 1000 0 τ (by omega) ⟨fun _ _ => rfl, fun p hp => by omega⟩ (by omega)
  rw [show fX8_startGroups_L1 1000 (0 : Int32) τ = _ from e1, pz_bs]
  let Inv : Nat → Nat → zz_St → Prop := fun a b s => (∀ q, q ≠ 55 → s q = τ q) ∧ ∃ h, pz_HH n h s ∧ pz_Hd n h ∧ (∀ p, p < n → pz_C n (vMu σ) p (h p) = true) ∧ (∀ x y, x < n → y < n → (x < a ∨ (x = a ∧ y < b)) → vMu σ x y = true → h x = h y)
  have inner : ∀ a s, a < n → Inv a 0 s → ∃ r, Inv (a + 1) 0 r.2 ∧ fX8_startGroups_L3 (nI a) 1000 0 s = some r := by
    intro a s ha hI
    exact pz_loop (S := zz_St) (R := Int32 × zz_St) (fun f k s => fX8_startGroups_L3 (nI a) f (nI k) s) (fun k s => Inv a k s) (fun r => Inv (a + 1) 0 r.2) n
      (fun b f s hb hP => by
        obtain ⟨i1, h, i2, i3, i4, i5⟩ := hP
        have la := (i3 a ha).1
        have lb := (i3 b hb).1
        have R6 : pz_RL6 n σ s := rl6_c (σ := σ) rfl rfl (i1 51 (by decide)) r6
        have step : ∀ s', fX8_startGroups_L3 (nI a) (f + 1) (nI b) s = fX8_startGroups_L3 (nI a) f (nI (b + 1)) s' → Inv a (b + 1) s' → (∃ s', Inv a (b + 1) s' ∧ fX8_startGroups_L3 (nI a) (f + 1) (nI b) s = fX8_startGroups_L3 (nI a) f (nI (b + 1)) s') := fun s' e i => ⟨s', i, e⟩
        refine Or.inl ?_
        by_cases g : vMu σ a b = true
        · by_cases g2 : h a = h b
          · refine step s ?_ ⟨i1, h, i2, i3, i4, fun x y hx hy hxy m => ?_⟩
            · rw [fX8_startGroups_L3, i1 47 (by decide), ht, if_neg (nI_ge hb (by omega)), fm_said R6 hn ha hb, pz_bs, if_pos (pn_said.mpr g), pz_ga (by omega) (by decide), pz_bs, pz_ga (by omega) (by decide), pz_bs, i2 a ha, i2 b hb, if_pos (by rw [g2]), pz_bs, if_neg (by decide), pz_bs, nI_1]
            · by_cases c : x = a ∧ y = b
              · rw [c.1, c.2]; exact g2
              · exact i5 x y hx hy (by omega) m
          · obtain ⟨s', e', a', H'⟩ := fm_joinHeads (τ := s) (by rw [i1 47 (by decide)]; exact ht) hn i3 i2 (x := h a) (y := h b) (by omega) (by omega)
            refine step s' ?_ ⟨fun q hq => by rw [a' q hq]; exact i1 q hq, pz_J h (h a) (h b), H', pJ_Hd i3 (i3 a ha).2 (i3 b hb).2 g2, fun p hp => ?_, fun x y hx hy hxy m => ?_⟩
            · rw [fX8_startGroups_L3, i1 47 (by decide), ht, if_neg (nI_ge hb (by omega)), fm_said R6 hn ha hb, pz_bs, if_pos (pn_said.mpr g), pz_ga (by omega) (by decide), pz_bs, pz_ga (by omega) (by decide), pz_bs, i2 a ha, i2 b hb, if_neg (by rw [nI_eq (by omega) (by omega)]; exact g2), pz_bs, if_pos rfl, pz_bs, pz_bs, e', pz_bs, pz_bs, nI_1]
            · have cab : pz_C n (vMu σ) (h a) (h b) = true := hC.2.2 _ _ _ (hC.2.2 _ _ _ (hS (i4 a ha)) (pw_in (pe0.mpr ⟨ha, hb, Or.inr g⟩) n)) (i4 b hb)
              have q := i4 p hp
              unfold pz_J
              by_cases c : h p = max (h a) (h b)
              · rw [if_pos c]
                rw [c] at q
                rcases Nat.le_total (h a) (h b) with d | d
                · rw [Nat.max_eq_right d] at q; rw [Nat.min_eq_left d]; exact hC.2.2 _ _ _ q (hS cab)
                · rw [Nat.max_eq_left d] at q; rw [Nat.min_eq_right d]; exact hC.2.2 _ _ _ q cab
              · rw [if_neg c]; exact q
            · by_cases c : x = a ∧ y = b
              · rw [c.1, c.2]
                unfold pz_J
                rcases Nat.lt_or_ge (h a) (h b) with d | d
                · rw [if_neg (by omega), if_pos (by omega)]; omega
                · rw [if_pos (by omega), if_neg (by omega)]; omega
              · have := i5 x y hx hy (by omega) m
                unfold pz_J
                rw [this]
        · refine step s ?_ ⟨i1, h, i2, i3, i4, fun x y hx hy hxy m => ?_⟩
          · rw [fX8_startGroups_L3, i1 47 (by decide), ht, if_neg (nI_ge hb (by omega)), fm_said R6 hn ha hb, pz_bs, if_neg (fun q => g (pn_said.mp q)), pz_bs, if_neg (by decide), pz_bs, nI_1]
          · by_cases c : x = a ∧ y = b
            · rw [c.1, c.2] at m; exact absurd m g
            · exact i5 x y hx hy (by omega) m)
      (fun f s hP => ⟨(nI n, s), by
        obtain ⟨i1, h, i2, i3, i4, i5⟩ := hP
        exact ⟨i1, h, i2, i3, i4, fun x y hx hy hxy m => i5 x y hx hy (by omega) m⟩, by
        show fX8_startGroups_L3 (nI a) (f + 1) (nI n) s = _
        rw [fX8_startGroups_L3, hP.1 47 (by decide), ht, if_pos (Int32.le_refl _)]⟩) 1000 0 s (by omega) hI (by omega)
  obtain ⟨r2, hr2, e2⟩ := pz_loop (S := zz_St) (R := Int32 × zz_St) (fun f k s => fX8_startGroups_L2 f (nI k) s) (fun k s => Inv k 0 s) (fun r => Inv n 0 r.2) n
    (fun k f s hk hP => by
      obtain ⟨r, hr, e⟩ := inner k s hk hP
      refine Or.inl ⟨r.2, hr, ?_⟩
      show fX8_startGroups_L2 (f + 1) (nI k) s = _
      rw [fX8_startGroups_L2, hP.1 47 (by decide), ht, if_neg (nI_ge hk (by omega)), e, pz_bs, nI_1])
    (fun f s hP => ⟨(nI n, s), hP, by
      show fX8_startGroups_L2 (f + 1) (nI n) s = _
      rw [fX8_startGroups_L2, hP.1 47 (by decide), ht, if_pos (Int32.le_refl _)]⟩) 1000 0 r1.2 (by omega) ⟨hr1.1, fun p => p, hr1.2, fun p _ => ⟨Nat.le_refl p, rfl⟩, fun p hp => hC.1 p hp, fun x y _ _ hxy _ => by omega⟩ (by omega)
  rw [show fX8_startGroups_L2 1000 (0 : Int32) r1.2 = _ from e2, pz_bs]
  obtain ⟨i1, h, i2, i3, i4, i5⟩ := hr2
  refine ⟨r2.2, rfl, i1, fun p hp => ?_⟩
  rw [i2 p hp]
  have all : ∀ a b, pz_C n (vMu σ) a b = true → h a = h b := fun a b c => pw_min (E := pz_E0 n (vMu σ)) (T := fun a b => h a = h b) (fun a b c x y => x.trans y) (fun a b h => by
    obtain ⟨x, y, h⟩ := pe0.mp h
    rcases h with h | h
    · rw [h]
    · exact i5 a b x y (by omega) h) n a b c
  have q1 := pl_min (C := pz_C n (vMu σ)) (i4 p hp) (hS (i4 p hp))
  have q2 := pl_in hC hp
  have q3 := all _ _ q2.1
  have q4 := (i3 _ (hC.2.1 _ _ q2.1).2).1
  congr 1
  show h p = pz_lo (pz_C n (vMu σ)) p
  omega
end JN
