/-! pure part: what is joined by MUST: the class's rounds, the reference's heads -/
section JN
variable {n : Nat} {σ σ' τ τ' : zz_St}
theorem pb_14 (c6 : pz_CW6 n σ) {p i : Nat} (hp : p < 14) (h : vMu σ p i = true) : p < n ∧ i < n := c6.1 p i hp (Or.inl h)
theorem vMu_sy (c6 : pz_CW6 n σ) : ∀ a b, a < n → b < n → vMu σ a b = vMu σ b a := fun a b ha hb => (c6.2 a b ha hb).1
/-- one round -/
theorem fc_pass (c6 : pz_CW6 n σ) (hn : n ≤ 14) {p : Nat} (x y z : Int32) (j : Int32) (hj : ∀ i, pz_b j i = true → pz_C n (vMu σ) p i = true) : ∃ j', fX6_joinedTo_L2 σ x y z 1000 j 0 = some (j', 14) ∧ (∀ i, pz_b j i = true → pz_b j' i = true) ∧ (∀ i, pz_b j' i = true → pz_C n (vMu σ) p i = true) ∧ (∀ o i, pz_b j o = true → o < 14 → vMu σ o i = true → pz_b j' i = true) := by
  obtain ⟨r, hr, e⟩ := pz_loop (S := Int32) (R := Int32 × Int32) (fun f k s => fX6_joinedTo_L2 σ x y z f s (nI k))
    (fun k s => (∀ i, pz_b j i = true → pz_b s i = true) ∧ (∀ i, pz_b s i = true → pz_C n (vMu σ) p i = true) ∧ (∀ o i, pz_b j o = true → o < k → vMu σ o i = true → pz_b s i = true))
    (fun r => r.2 = 14 ∧ (∀ i, pz_b j i = true → pz_b r.1 i = true) ∧ (∀ i, pz_b r.1 i = true → pz_C n (vMu σ) p i = true) ∧ (∀ o i, pz_b j o = true → o < 14 → vMu σ o i = true → pz_b r.1 i = true)) 14
    (fun k f s hk hP => by
      obtain ⟨a, b, c⟩ := hP
      refine Or.inl ⟨if pz_b s k = true then s ||| σ 22 k else s, ?_, ?_⟩
      · cases g : pz_b s k with
        | false =>
          rw [if_neg (by decide)]
          refine ⟨a, b, fun o i h1 h2 h3 => ?_⟩
          by_cases q : o = k
          · subst q; rw [a o h1] at g; cases g
          · exact c o i h1 (by omega) h3
        | true =>
          rw [if_pos rfl]
          refine ⟨fun i h => by rw [pb_or, a i h]; rfl, fun i h => ?_, fun o i h1 h2 h3 => ?_⟩
          · rw [pb_or, Bool.or_eq_true] at h
            rcases h with h | h
            · exact b i h
            · have hh := pb_14 c6 hk h
              exact (pC_eq n (vMu σ)).2.2 p k i (b k g) (pw_in (pe0.mpr ⟨hh.1, hh.2, Or.inr h⟩) n)
          · rw [pb_or, Bool.or_eq_true]
            by_cases q : o = k
            · subst q; exact Or.inr h3
            · exact Or.inl (c o i h1 (by omega) h3)
      · show fX6_joinedTo_L2 σ x y z (f + 1) s (nI k) = _
        rw [fX6_joinedTo_L2, if_neg (show ¬ (14 : Int32) ≤ nI k from nI_ge (a := k) (b := 14) hk (by decide)), pf_isIn (by omega), pz_bs]
        cases g : pz_b s k with
        | false =>
          rw [if_pos (by decide), pz_bs, pz_bs, nI_1, if_neg (by decide)]
          rw [show s ||| 0 = s from pb_ext fun i _ => by rw [pb_or, pb_0, Bool.or_false]]
        | true => rw [if_neg (by decide), pz_ga hk (by decide), pz_bs, pz_bs, pz_bs, nI_1, if_pos rfl])
    (fun f s hP => ⟨(s, 14), ⟨rfl, hP⟩, by
      show fX6_joinedTo_L2 σ x y z (f + 1) s (nI 14) = _
      rw [fX6_joinedTo_L2, if_pos (by decide)]
      rfl⟩) 1000 0 j (by decide) ⟨fun _ h => h, hj, fun o i h1 h2 => by omega⟩ (by decide)
  exact ⟨r.1, by rw [← hr.1]; exact e, hr.2⟩
theorem fc_joined (c6 : pz_CW6 n σ) (hn : n ≤ 14) {p : Nat} (hp : p < n) : ∃ J, fX6_joinedTo σ (nI p) = some J ∧ ∀ i, pz_b J i = pz_C n (vMu σ) p i := by
  have hC := pC_eq n (vMu σ)
  have z : pz_b ((1 : Int32) <<< (nI p &&& 31)) p = true := by rw [pb_one (by omega), decide_eq_true rfl]
  have s1 : ∀ i, pz_b ((1 : Int32) <<< (nI p &&& 31)) i = true → pz_C n (vMu σ) p i = true := fun i h => by
    rw [pb_one (by omega), decide_eq_true_iff] at h
    rw [h]; exact hC.1 p hp
  have s3 : ¬ (1 : Int32) <<< (nI p &&& 31) = 0 := fun q => by
    rw [q, pb_0] at z; cases z
  have s4 : 0 + 1 ≤ pz_ct (pz_b ((1 : Int32) <<< (nI p &&& 31))) 14 := by
    apply Classical.byContradiction
    intro no
    have := (pc_0 (P := pz_b ((1 : Int32) <<< (nI p &&& 31))) (n := 14)).mp (by omega) p (by omega)
    rw [z] at this; cases this
  unfold fX6_joinedTo
  rw [pz_bs]
  obtain ⟨r, hr, e⟩ := pz_loop (S := Int32 × Int32) (R := Int32 × Int32 × Int32) (fun f k s => fX6_joinedTo_L1 σ (nI p) f s.1 s.2 (nI k))
    (fun k s => (∀ i, pz_b s.1 i = true → pz_C n (vMu σ) p i = true) ∧ pz_b s.1 p = true ∧ (s.1 = s.2 → ∀ o i, pz_b s.1 o = true → vMu σ o i = true → pz_b s.1 i = true) ∧ (¬ s.1 = s.2 → k + 1 ≤ pz_ct (pz_b s.1) 14))
    (fun r => ∀ i, pz_b r.1 i = pz_C n (vMu σ) p i) 14
    (fun k f s hk hP => by
      obtain ⟨j, b⟩ := s
      obtain ⟨h1, h2, h3, h4⟩ := hP
      have lt : ∀ i, pz_b j i = true → i < 14 := fun i h => by have := (hC.2.1 p i (h1 i h)).2; omega
      by_cases g : j = b
      · refine Or.inr ⟨(j, b, nI k), fun i => ?_, ?_⟩
        · cases c : pz_C n (vMu σ) p i with
          | false =>
            cases d : pz_b j i with
            | false => rfl
            | true => rw [h1 i d] at c; cases c
          | true =>
            exact pw_min (E := pz_E0 n (vMu σ)) (T := fun a b => pz_b j a = true → pz_b j b = true) (fun a b c x y z => y (x z)) (fun a b h z => by
              obtain ⟨_, _, h⟩ := pe0.mp h
              rcases h with h | h
              · rw [← h]; exact z
              · exact h3 g a b z h) n p i c h2
        · show fX6_joinedTo_L1 σ (nI p) (f + 1) j b (nI k) = _
          rw [fX6_joinedTo_L1, if_neg (show ¬ (14 : Int32) ≤ nI k from nI_ge (a := k) (b := 14) hk (by decide)), if_pos g, pz_bs, if_neg (by decide)]
      · obtain ⟨j', e', a', b', c'⟩ := fc_pass c6 hn (nI p) j (nI k) j h1
        refine Or.inl ⟨(j', j), ⟨b', a' p h2, fun q o i z w => ?_, fun q => ?_⟩, ?_⟩
        · have q : j' = j := q
          have z : pz_b j' o = true := z
          rw [q] at z
          exact c' o i z (lt o z) w
        · have q : ¬ j' = j := q
          have h4' : k + 1 ≤ pz_ct (pz_b j) 14 := h4 g
          have hlt : pz_ct (pz_b j) 14 < pz_ct (pz_b j') 14 := by
            refine pc_lt (fun i _ h => a' i h) ?_
            apply Classical.byContradiction
            intro no
            apply q
            apply pb_ext
            intro i _
            cases c : pz_b j' i with
            | false =>
              cases d : pz_b j i with
              | false => rfl
              | true => rw [a' i d] at c; cases c
            | true =>
              cases d : pz_b j i with
              | true => rfl
              | false => exact absurd ⟨i, by have := (hC.2.1 p i (b' i c)).2; omega, c, d⟩ no
          show k + 1 + 1 ≤ pz_ct (pz_b j') 14
          omega
        · show fX6_joinedTo_L1 σ (nI p) (f + 1) j b (nI k) = fX6_joinedTo_L1 σ (nI p) f j' j (nI (k + 1))
          rw [fX6_joinedTo_L1, if_neg (show ¬ (14 : Int32) ≤ nI k from nI_ge (a := k) (b := 14) hk (by decide)), if_neg g, pz_bs, if_pos rfl, e', pz_bs, nI_1])
    (fun f s hP => by
      obtain ⟨j, b⟩ := s
      obtain ⟨h1, h2, h3, h4⟩ := hP
      by_cases g : j = b
      · refine ⟨(j, b, nI 14), fun i => ?_, ?_⟩
        · cases c : pz_C n (vMu σ) p i with
          | false =>
            cases d : pz_b j i with
            | false => rfl
            | true => rw [h1 i d] at c; cases c
          | true =>
            exact pw_min (E := pz_E0 n (vMu σ)) (T := fun a b => pz_b j a = true → pz_b j b = true) (fun a b c x y z => y (x z)) (fun a b h z => by
              obtain ⟨_, _, h⟩ := pe0.mp h
              rcases h with h | h
              · rw [← h]; exact z
              · exact h3 g a b z h) n p i c h2
        · show fX6_joinedTo_L1 σ (nI p) (f + 1) j b (nI 14) = _
          rw [fX6_joinedTo_L1, if_pos (by decide), pz_bs, if_neg (by decide)]
      · have := h4 g
        have := pc_le (pz_b j) 14
        have : 14 + 1 ≤ pz_ct (pz_b j) 14 := h4 g
        omega) 1000 0 ((1 : Int32) <<< (nI p &&& 31), 0) (by decide) ⟨fun i h => s1 i h, z, fun q => absurd q s3, fun _ => s4⟩ (by decide)
  exact ⟨r.1, by rw [show fX6_joinedTo_L1 σ (nI p) 1000 ((1 : Int32) <<< (nI p &&& 31)) (0 : Int32) (0 : Int32) = _ from e, pz_bs], hr⟩
/-- the reference's heads -/
def pz_HH (n : Nat) (h : Nat → Nat) (τ : zz_St) : Prop := ∀ p, p < n → τ 55 p = nI (h p)
theorem pz_maxI {a b : Nat} (ha : a < 1000000) (hb : b < 1000000) : zz_max (nI a) (nI b) = nI (max a b) := by
  unfold zz_max
  by_cases h : a < b
  · rw [if_pos (nI_lt h (by omega)), Nat.max_eq_right (by omega)]
  · rw [if_neg (by rw [nI_ltI (by omega) (by omega)]; exact h), Nat.max_eq_left (by omega)]
theorem pz_minI {a b : Nat} (ha : a < 1000000000) (hb : b < 1000000000) : zz_min (nI a) (nI b) = nI (min a b) := by
  unfold zz_min
  by_cases h : b < a
  · rw [if_pos (nI_lt h (by omega)), Nat.min_eq_right (by omega)]
  · rw [if_neg (by rw [nI_ltI (by omega) (by omega)]; exact h), Nat.min_eq_left (by omega)]
theorem pn_said {m w : Bool} : ((if m = true then (1 : Int32) else if w = true then 2 else 0) = 1) ↔ m = true := by cases m <;> cases w <;> decide
theorem pn_said2 {m w : Bool} : ((if m = true then (1 : Int32) else if w = true then 2 else 0) = 2) ↔ (m = false ∧ w = true) := by cases m <;> cases w <;> decide
end JN

