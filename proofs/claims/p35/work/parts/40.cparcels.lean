/-! pure part: the class's parcels -/
section CP
variable {n : Nat} {σ σ' τ τ' : zz_St}
theorem fc_needed (hc : σ 1 0 = nI n) (hn : n ≤ 14) (S : Int32) : ∃ x, fX5_neededBy σ S (σ 17 0) = some x ∧ ∀ q, pz_b x q = (decide (q < n) && pz_ex (fun p => pz_b S p && (!decide (q = p) && vNd σ p q)) n) := by
  unfold fX5_neededBy
  have inner : ∀ p s, p < n → ∃ r : Int32 × Int32, (∀ q, pz_b r.1 q = (pz_b s q || (decide (q < n) && (pz_b S p && (!decide (q = p) && vNd σ p q))))) ∧ fX5_neededBy_L2 σ S (σ 17 0) (nI p) 1000 s 0 = some r := by
    intro p s hp
    cases g : pz_b S p with
    | false =>
      refine ⟨(s, 0), fun q => by rw [Bool.false_and, Bool.and_false, Bool.or_false], ?_⟩
      show fX5_neededBy_L2 σ S (σ 17 0) (nI p) (999 + 1) s 0 = _
      rw [fX5_neededBy_L2, pf_isIn (by omega), pz_bs, g]
      by_cases z : σ 1 0 ≤ 0
      · rw [if_pos z, pz_bs, if_neg (by decide)]
      · rw [if_neg z, if_pos (by decide), pz_bs, if_neg (by decide)]
    | true =>
      exact pz_loop (S := Int32) (R := Int32 × Int32) (fun f k s => fX5_neededBy_L2 σ S (σ 17 0) (nI p) f s (nI k)) (fun k t => ∀ q, pz_b t q = (pz_b s q || (decide (q < k) && (!decide (q = p) && vNd σ p q)))) (fun r => ∀ q, pz_b r.1 q = (pz_b s q || (decide (q < n) && (true && (!decide (q = p) && vNd σ p q))))) n
        (fun k f t hk hP => by
          have un : fX5_neededBy_L2 σ S (σ 17 0) (nI p) (f + 1) t (nI k) = fX5_neededBy_L2 σ S (σ 17 0) (nI p) f (if (!decide (k = p) && vNd σ p k) = true then t ||| ((1 : Int32) <<< (nI k &&& 31)) else t) (nI (k + 1)) := by
            rw [fX5_neededBy_L2, hc, if_neg (nI_ge hk (by omega)), pf_isIn (by omega), pz_bs, g, if_neg (by decide), pz_bs, if_pos rfl, fc_need (by omega) (by omega), pz_bs]
            by_cases c : k = p
            · rw [if_pos (by rw [c]), pz_bs, if_neg (by decide), pz_bs, decide_eq_true c, if_neg (by simp), nI_1]
            · rw [if_neg (by rw [nI_eq (by omega) (by omega)]; exact c), decide_eq_false c]
              cases vNd σ p k with
              | true => rw [if_neg (by decide), pz_bs, if_pos rfl, pz_bs, pz_bs, if_pos (by decide), nI_1]
              | false => rw [if_pos (by decide), pz_bs, if_neg (by decide), pz_bs, if_neg (by decide), nI_1]
          refine Or.inl ⟨_, fun q => ?_, un⟩
          cases w : (!decide (k = p) && vNd σ p k) with
          | true =>
            rw [if_pos rfl, pb_or, pb_one (by omega), hP]
            by_cases c : q = k
            · rw [c, w, decide_eq_true (show k < k + 1 by omega), decide_eq_true rfl]
              simp
            · rw [decide_eq_false c, Bool.or_false]
              by_cases d : q < k
              · rw [decide_eq_true d, decide_eq_true (show q < k + 1 by omega)]
              · rw [decide_eq_false d, decide_eq_false (show ¬ q < k + 1 by omega)]
          | false =>
            rw [if_neg (by decide), hP]
            by_cases c : q = k
            · rw [c, w, Bool.and_false, Bool.and_false]
            · by_cases d : q < k
              · rw [decide_eq_true d, decide_eq_true (show q < k + 1 by omega)]
              · rw [decide_eq_false d, decide_eq_false (show ¬ q < k + 1 by omega)])
        (fun f t hP => ⟨(t, nI n), fun q => by show pz_b t q = _; rw [hP, Bool.true_and], by
          show fX5_neededBy_L2 σ S (σ 17 0) (nI p) (f + 1) t (nI n) = _
          rw [fX5_neededBy_L2, hc, if_pos (Int32.le_refl _), pz_bs, if_neg (by decide)]⟩) 1000 0 s (Nat.zero_le _) (fun q => by rw [decide_eq_false (show ¬ q < 0 by omega), Bool.false_and, Bool.or_false]) (by omega)
  obtain ⟨r, hr, e⟩ := pz_loop (S := Int32) (R := Int32 × Int32) (fun f k s => fX5_neededBy_L1 σ S (σ 17 0) f s (nI k)) (fun k s => ∀ q, pz_b s q = true ↔ (q < n ∧ ∃ p, p < k ∧ (pz_b S p && (!decide (q = p) && vNd σ p q)) = true)) (fun r => ∀ q, pz_b r.1 q = true ↔ (q < n ∧ ∃ p, p < n ∧ (pz_b S p && (!decide (q = p) && vNd σ p q)) = true)) n
    (fun k f s hk hP => by
      obtain ⟨r, hr, e⟩ := inner k s hk
      refine Or.inl ⟨r.1, fun q => ?_, ?_⟩
      · rw [hr, Bool.or_eq_true, hP, Bool.and_eq_true, decide_eq_true_iff]
        constructor
        · rintro (⟨h1, p, h2, h3⟩ | ⟨h1, h2⟩)
          · exact ⟨h1, p, by omega, h3⟩
          · exact ⟨h1, k, by omega, h2⟩
        · rintro ⟨h1, p, h2, h3⟩
          by_cases c : p = k
          · rw [c] at h3; exact Or.inr ⟨h1, h3⟩
          · exact Or.inl ⟨h1, p, by omega, h3⟩
      · show fX5_neededBy_L1 σ S (σ 17 0) (f + 1) s (nI k) = _
        rw [fX5_neededBy_L1, hc, if_neg (nI_ge hk (by omega)), e, pz_bs, nI_1])
    (fun f s hP => ⟨(s, nI n), hP, by
      show fX5_neededBy_L1 σ S (σ 17 0) (f + 1) s (nI n) = _
      rw [fX5_neededBy_L1, hc, if_pos (Int32.le_refl _)]⟩) 1000 0 0 (Nat.zero_le _) (fun q => by
        rw [pb_0]
        exact ⟨fun h => absurd h (by decide), fun ⟨_, p, h, _⟩ => by omega⟩) (by omega)
  refine ⟨r.1, by rw [show fX5_neededBy_L1 σ S (σ 17 0) 1000 (0 : Int32) (0 : Int32) = _ from e, pz_bs], fun q => ?_⟩
  rw [Bool.eq_iff_iff, hr, Bool.and_eq_true, decide_eq_true_iff, pex]
/-- which group needs which, at once -/
def vI (n : Nat) (σ : zz_St) (k : Nat) (e : Nat → Nat) (i o : Nat) : Bool := decide (i < k) && decide (o < k) && (!decide (o = i) && pz_ex (fun q => pz_G n (vH n σ) (e o) q && pz_ex (fun p => pz_G n (vH n σ) (e i) p && vNd σ p q) n) n)
theorem vI_s {k : Nat} {e : Nat → Nat} {i o : Nat} : vI n σ k e i o = true ↔ i < k ∧ o < k ∧ o ≠ i ∧ ∃ q p, q < n ∧ p < n ∧ vH n σ q = e o ∧ vH n σ p = e i ∧ vNd σ p q = true := by
  unfold vI
  rw [Bool.and_eq_true, Bool.and_eq_true, Bool.and_eq_true, decide_eq_true_iff, decide_eq_true_iff, Bool.not_eq_true', decide_eq_false_iff_not, pex]
  constructor
  · rintro ⟨⟨h1, h2⟩, h3, q, hq, h4⟩
    rw [Bool.and_eq_true, pex] at h4
    obtain ⟨h4, p, hp, h5⟩ := h4
    rw [Bool.and_eq_true] at h5
    exact ⟨h1, h2, h3, q, p, hq, hp, (pG.mp h4).2, (pG.mp h5.1).2, h5.2⟩
  · rintro ⟨h1, h2, h3, q, p, hq, hp, h4, h5, h6⟩
    refine ⟨⟨h1, h2⟩, h3, q, hq, ?_⟩
    rw [Bool.and_eq_true, pex]
    exact ⟨pG.mpr ⟨hq, h4⟩, p, hp, by rw [Bool.and_eq_true]; exact ⟨pG.mpr ⟨hp, h5⟩, h6⟩⟩
/-- what groups need by way of others is what their heads reach -/
theorem vW_F (c5 : pz_CW5 σ) {k : Nat} {e : Nat → Nat} (E : pz_En n (vH n σ) k e) {i j : Nat} (hi : i < k) (hj : j < k) : (i = j ∨ pz_W (vI n σ k e) k i j = true) ↔ vF n σ (e i) (e j) = true := by
  have hF := vF_eq n σ
  constructor
  · rintro (h | h)
    · rw [h]; exact hF.1 _ (E.1 j hj).1
    · refine pw_min (E := vI n σ k e) (T := fun i j => vF n σ (e i) (e j) = true) (fun a b c x y => hF.2.2 _ _ _ x y) (fun a b h => ?_) k i j h
      obtain ⟨h1, h2, h3, q, p, hq, hp, h4, h5, h6⟩ := vI_s.mp h
      have a1 := E.1 a h1
      have b1 := E.1 b h2
      exact hF.2.2 _ _ _ (vF_g a1.1 hp (by rw [a1.2, h5])) (hF.2.2 _ _ _ (vF_n hp hq h6) (vF_g hq b1.1 (by rw [b1.2, h4])))
  · intro h
    have hh := vH_Hd (n := n) c5
    have key : ∀ a b, vF n σ a b = true → a < n ∧ b < n ∧ ∀ i j, i < k → j < k → e i = vH n σ a → e j = vH n σ b → i = j ∨ pz_W (vI n σ k e) k i j = true := by
      refine pw_min (E := vE n σ) (T := fun a b => a < n ∧ b < n ∧ ∀ i j, i < k → j < k → e i = vH n σ a → e j = vH n σ b → i = j ∨ pz_W (vI n σ k e) k i j = true) ?_ ?_ n
      · rintro a b c ⟨a1, a2, a3⟩ ⟨b1, b2, b3⟩
        refine ⟨a1, b2, fun i j hi hj ei ej => ?_⟩
        have hb := hh b a2
        obtain ⟨m, hm, em⟩ := E.2.2.2 (vH n σ b) (by omega) hb.2
        rcases a3 i m hi hm ei em with x | x
        · rw [x]; exact b3 m j hm hj em ej
        · rcases b3 m j hm hj em ej with y | y
          · rw [← y]; exact Or.inr x
          · exact Or.inr (pw_tr _ k m hm i j x y)
      · intro a b h
        obtain ⟨a1, b1, h⟩ := vE_s.mp h
        refine ⟨a1, b1, fun i j hi hj ei ej => ?_⟩
        by_cases c : i = j
        · exact Or.inl c
        · right
          rcases h with h | h
          · exact absurd (pEn_inj E (by omega) (by omega) (by rw [ei, ej, h])) c
          · exact pw_in (vI_s.mpr ⟨hi, hj, fun q => c q.symm, b, a, b1, a1, ej.symm, ei.symm, h⟩) k
    exact (key _ _ h).2.2 i j hi hj (E.1 i hi).2.symm (E.1 j hj).2.symm
theorem fc_find (hn : n ≤ 14) (hc : σ 1 0 = nI n) {k : Nat} {e : Nat → Nat} (G : pz_CG n (vH n σ) k e σ) : ∃ σ', fX4_findNeeds σ = some σ' ∧ (∀ q, q ≠ 43 → σ' q = σ q) ∧ (∀ i, i < k → ∀ o, pz_b (σ' 43 i) o = vI n σ k e i o) := by
  obtain ⟨E, hk2, hs⟩ := G
  have hkn := pEn_k E
  unfold fX4_findNeeds
  have inner : ∀ i s x, i < k → (∀ q, q ≠ 43 → s q = σ q) → s 43 i = 0 → (∀ q, pz_b x q = (decide (q < n) && pz_ex (fun p => pz_b (σ 25 i) p && (!decide (q = p) && vNd σ p q)) n)) → ∃ r : Int32 × zz_St, ((∀ q, q ≠ 43 → r.2 q = σ q) ∧ (∀ j, j ≠ i → r.2 43 j = s 43 j) ∧ (∀ o, pz_b (r.2 43 i) o = vI n σ k e i o)) ∧ fX4_findNeeds_L2 (nI i) x 1000 0 s = some r := by
    intro i s x hi h1 h2 hx
    have meet : ∀ o, o < k → o ≠ i → ((x &&& σ 25 o = 0) ↔ vI n σ k e i o = false) := by
      intro o ho hoi
      rw [← Bool.not_eq_true, vI_s, pb_z]
      constructor
      · rintro g ⟨_, _, _, q, p, hq, hp, a, b, c⟩
        have := g q (by omega)
        rw [pb_and, hs o ho, hx, pG.mpr ⟨hq, a⟩, decide_eq_true hq, Bool.true_and, Bool.and_true, pex_f] at this
        have := this p hp
        rw [hs i hi, pG.mpr ⟨hp, b⟩, c, Bool.true_and, Bool.and_true] at this
        rw [Bool.not_eq_false', decide_eq_true_iff] at this
        rw [this] at a
        exact hoi (pEn_inj E (by omega) (by omega) (by rw [← a, ← b]))
      · intro g q hq
        rw [pb_and, hs o ho, hx]
        cases w : pz_G n (vH n σ) (e o) q with
        | false => rw [Bool.and_false]
        | true =>
          have hw := pG.mp w
          rw [decide_eq_true hw.1, Bool.true_and, Bool.and_true, pex_f]
          intro p hp
          cases u : pz_b (σ 25 i) p with
          | false => rfl
          | true =>
            rw [hs i hi] at u
            have hu := pG.mp u
            cases v : vNd σ p q with
            | false => rw [Bool.and_false]; rfl
            | true => exact absurd ⟨hi, ho, hoi, q, p, hw.1, hp, hw.2, hu.2, v⟩ g
    exact pz_loop (S := zz_St) (R := Int32 × zz_St) (fun f o t => fX4_findNeeds_L2 (nI i) x f (nI o) t) (fun o t => (∀ q, q ≠ 43 → t q = σ q) ∧ (∀ j, j ≠ i → t 43 j = s 43 j) ∧ (∀ b, pz_b (t 43 i) b = (decide (b < o) && vI n σ k e i b))) (fun r => (∀ q, q ≠ 43 → r.2 q = σ q) ∧ (∀ j, j ≠ i → r.2 43 j = s 43 j) ∧ (∀ o, pz_b (r.2 43 i) o = vI n σ k e i o)) k
      (fun o f t ho hP => by
        obtain ⟨i1, i2, i3⟩ := hP
        have vii : vI n σ k e i i = false := by
          rw [← Bool.not_eq_true, vI_s]
          exact fun h => h.2.2.1 rfl
        have un : fX4_findNeeds_L2 (nI i) x (f + 1) (nI o) t = fX4_findNeeds_L2 (nI i) x f (nI (o + 1)) (if vI n σ k e i o = true then zz_u t 43 i (t 43 i ||| ((1 : Int32) <<< (nI o &&& 31))) else t) := by
          rw [fX4_findNeeds_L2, i1 24 (by decide), hk2, if_neg (nI_ge ho (by omega))]
          by_cases c : o = i
          · rw [if_pos (by rw [c]), pz_bs, if_neg (by decide), pz_bs, c, vii, if_neg (by decide), nI_1]
          · rw [if_neg (by rw [nI_eq (by omega) (by omega)]; exact c), i1 25 (by decide), pz_ga (by omega) (by decide), pz_bs]
            cases w : vI n σ k e i o with
            | false => rw [if_pos ((meet o ho c).mpr w), pz_bs, if_neg (by decide), pz_bs, if_neg (by decide), nI_1]
            | true => rw [if_neg (fun q => by rw [(meet o ho c).mp q] at w; cases w), pz_bs, if_pos rfl, pz_ga (by omega) (by decide), pz_bs, pz_pa (by omega) (by decide), pz_bs, pz_bs, if_pos rfl, nI_1]
        refine Or.inl ⟨_, ⟨fun q hq => ?_, fun j hj => ?_, fun b => ?_⟩, un⟩
        · split
          · rw [pz_uq hq]; exact i1 q hq
          · exact i1 q hq
        · split
          · rw [pz_uj hj]; exact i2 j hj
          · exact i2 j hj
        · cases w : vI n σ k e i o with
          | true =>
            rw [if_pos rfl, pz_us, pb_or, pb_one (by omega), i3]
            by_cases c : b = o
            · rw [c, w, decide_eq_true (show o < o + 1 by omega), decide_eq_true rfl, Bool.or_true]; rfl
            · rw [decide_eq_false c, Bool.or_false]
              by_cases d : b < o
              · rw [decide_eq_true d, decide_eq_true (show b < o + 1 by omega)]
              · rw [decide_eq_false d, decide_eq_false (show ¬ b < o + 1 by omega)]
          | false =>
            rw [if_neg (by decide), i3]
            by_cases c : b = o
            · rw [c, w, Bool.and_false, Bool.and_false]
            · by_cases d : b < o
              · rw [decide_eq_true d, decide_eq_true (show b < o + 1 by omega)]
              · rw [decide_eq_false d, decide_eq_false (show ¬ b < o + 1 by omega)])
      (fun f t hP => ⟨(nI k, t), ⟨hP.1, hP.2.1, fun o => by
        show pz_b (t 43 i) o = _
        rw [hP.2.2 o]
        by_cases c : o < k
        · rw [decide_eq_true c, Bool.true_and]
        · rw [decide_eq_false c, Bool.false_and]
          cases w : vI n σ k e i o with
          | false => rfl
          | true => exact absurd (vI_s.mp w).2.1 c⟩, by
        show fX4_findNeeds_L2 (nI i) x (f + 1) (nI k) t = _
        rw [fX4_findNeeds_L2, hP.1 24 (by decide), hk2, if_pos (Int32.le_refl _)]⟩) 1000 0 s (Nat.zero_le _) ⟨h1, fun _ _ => rfl, fun b => by rw [h2, pb_0, decide_eq_false (show ¬ b < 0 by omega)]; rfl⟩ (by omega)
  obtain ⟨r, hr, er⟩ := pz_loop (S := zz_St) (R := Int32 × zz_St) (fun f i s => fX4_findNeeds_L1 f (nI i) s) (fun i s => (∀ q, q ≠ 43 → s q = σ q) ∧ (∀ j, j < i → ∀ o, pz_b (s 43 j) o = vI n σ k e j o)) (fun r => (∀ q, q ≠ 43 → r.2 q = σ q) ∧ (∀ i, i < k → ∀ o, pz_b (r.2 43 i) o = vI n σ k e i o)) k
    (fun i f s hi hP => by
      obtain ⟨i1, i2⟩ := hP
      have nd : vNd s = vNd σ := by unfold vNd; rw [i1 8 (by decide), i1 9 (by decide), i1 10 (by decide), i1 11 (by decide), i1 17 (by decide)]
      obtain ⟨x, ex, hx⟩ := fc_needed (σ := s) (n := n) (by rw [i1 1 (by decide)]; exact hc) hn (σ 25 i)
      rw [nd] at hx
      obtain ⟨r, ⟨r1, r2, r3⟩, er⟩ := inner i (zz_u s 43 i 0) x hi (fun q hq => by rw [pz_uq hq]; exact i1 q hq) pz_us hx
      refine Or.inl ⟨r.2, ⟨r1, fun j hj o => ?_⟩, ?_⟩
      · by_cases c : j = i
        · rw [c]; exact r3 o
        · rw [r2 j c, pz_uj c]; exact i2 j (by omega) o
      · show fX4_findNeeds_L1 (f + 1) (nI i) s = _
        rw [fX4_findNeeds_L1, i1 24 (by decide), hk2, if_neg (nI_ge hi (by omega)), i1 25 (by decide), pz_ga (by omega) (by decide), pz_bs]
        rw [ex, pz_bs, pz_pa (by omega) (by decide), pz_bs, er, pz_bs, nI_1])
    (fun f s hP => ⟨(nI k, s), hP, by
      show fX4_findNeeds_L1 (f + 1) (nI k) s = _
      rw [fX4_findNeeds_L1, hP.1 24 (by decide), hk2, if_pos (Int32.le_refl _)]⟩) 1000 0 σ (Nat.zero_le _) ⟨fun _ _ => rfl, fun j hj => by omega⟩ (by omega)
  exact ⟨r.2, by rw [show fX4_findNeeds_L1 1000 (0 : Int32) σ = _ from er, pz_bs], hr⟩
theorem fc_warshall {E : Nat → Nat → Bool} {k : Nat} (hk : k ≤ 14) (h0 : ∀ a, a < k → ∀ b, pz_b (σ 43 a) b = E a b) : ∃ σ', fX4_needByWayOfOthers σ (nI k) = some σ' ∧ (∀ q, q ≠ 43 → σ' q = σ q) ∧ (∀ a, a < k → ∀ b, pz_b (σ' 43 a) b = pz_W E k a b) := by
  unfold fX4_needByWayOfOthers
  have inner : ∀ w s, w < k → (∀ q, q ≠ 43 → s q = σ q) → (∀ x, x < k → ∀ b, pz_b (s 43 x) b = pz_W E w x b) → ∃ r : Int32 × zz_St, ((∀ q, q ≠ 43 → r.2 q = σ q) ∧ (∀ x, x < k → ∀ b, pz_b (r.2 43 x) b = pz_W E (w + 1) x b)) ∧ fX4_needByWayOfOthers_L2 (nI k) (nI w) 1000 0 s = some r := by
    intro w s hw h1 h2
    exact pz_loop (S := zz_St) (R := Int32 × zz_St) (fun f j s => fX4_needByWayOfOthers_L2 (nI k) (nI w) f (nI j) s) (fun j s => (∀ q, q ≠ 43 → s q = σ q) ∧ (∀ x, x < k → ∀ b, pz_b (s 43 x) b = if x < j then pz_W E (w + 1) x b else pz_W E w x b)) (fun r => (∀ q, q ≠ 43 → r.2 q = σ q) ∧ (∀ x, x < k → ∀ b, pz_b (r.2 43 x) b = pz_W E (w + 1) x b)) k
      (fun a f s ha hP => by
        obtain ⟨i1, i2⟩ := hP
        have ra : ∀ b, pz_b (s 43 a) b = pz_W E w a b := fun b => by rw [i2 a ha, if_neg (by omega)]
        have rw' : ∀ b, pz_b (s 43 w) b = pz_W E w w b := fun b => by
          rw [i2 w hw]
          split
          · exact pw_row E w b
          · rfl
        have un : fX4_needByWayOfOthers_L2 (nI k) (nI w) (f + 1) (nI a) s = fX4_needByWayOfOthers_L2 (nI k) (nI w) f (nI (a + 1)) (if pz_W E w a w = true then zz_u s 43 a (s 43 a ||| s 43 w) else s) := by
          rw [fX4_needByWayOfOthers_L2, if_neg (nI_ge ha (by omega)), pz_ga (by omega) (by decide), pz_bs, pf_isIn (by omega), pz_bs, ra w]
          cases pz_W E w a w with
          | false => rw [if_pos (by decide), pz_bs, if_neg (by decide), nI_1]
          | true => rw [if_neg (by decide), pz_bs, pz_ga (by omega) (by decide), pz_bs, pz_pa (by omega) (by decide), pz_bs, pz_bs, if_pos rfl, nI_1]
        refine Or.inl ⟨_, ⟨fun q hq => ?_, fun x hx b => ?_⟩, un⟩
        · split
          · rw [pz_uq hq]; exact i1 q hq
          · exact i1 q hq
        · cases g : pz_W E w a w with
          | true =>
            rw [if_pos rfl, pz_u]
            by_cases c : x = a
            · rw [if_pos ⟨rfl, c⟩, if_pos (by omega), c, pb_or, ra, rw', pz_W, g, Bool.true_and]
            · rw [if_neg (by omega), i2 x hx]
              by_cases d : x < a
              · rw [if_pos d, if_pos (by omega)]
              · rw [if_neg d, if_neg (by omega)]
          | false =>
            rw [if_neg (by decide)]
            by_cases c : x = a
            · rw [if_pos (by omega), c, ra, pz_W, g, Bool.false_and, Bool.or_false]
            · rw [i2 x hx]
              by_cases d : x < a
              · rw [if_pos d, if_pos (by omega)]
              · rw [if_neg d, if_neg (by omega)])
      (fun f s hP => ⟨(nI k, s), ⟨hP.1, fun x hx b => by show pz_b (s 43 x) b = _; rw [hP.2 x hx, if_pos hx]⟩, by
        show fX4_needByWayOfOthers_L2 (nI k) (nI w) (f + 1) (nI k) s = _
        rw [fX4_needByWayOfOthers_L2, if_pos (Int32.le_refl _)]⟩) 1000 0 s (Nat.zero_le _) ⟨h1, fun x hx b => by rw [if_neg (by omega)]; exact h2 x hx b⟩ (by omega)
  obtain ⟨r, hr, e⟩ := pz_loop (S := zz_St) (R := Int32 × zz_St) (fun f j s => fX4_needByWayOfOthers_L1 (nI k) f (nI j) s) (fun w s => (∀ q, q ≠ 43 → s q = σ q) ∧ (∀ x, x < k → ∀ b, pz_b (s 43 x) b = pz_W E w x b)) (fun r => (∀ q, q ≠ 43 → r.2 q = σ q) ∧ (∀ x, x < k → ∀ b, pz_b (r.2 43 x) b = pz_W E k x b)) k
    (fun w f s hw hP => by
      obtain ⟨r, hr, e⟩ := inner w s hw hP.1 hP.2
      refine Or.inl ⟨r.2, hr, ?_⟩
      show fX4_needByWayOfOthers_L1 (nI k) (f + 1) (nI w) s = _
      rw [fX4_needByWayOfOthers_L1, if_neg (nI_ge hw (by omega)), e, pz_bs, nI_1])
    (fun f s hP => ⟨(nI k, s), hP, by
      show fX4_needByWayOfOthers_L1 (nI k) (f + 1) (nI k) s = _
      rw [fX4_needByWayOfOthers_L1, if_pos (Int32.le_refl _)]⟩) 1000 0 σ (Nat.zero_le _) ⟨fun _ _ => rfl, h0⟩ (by omega)
  exact ⟨r.2, by rw [show fX4_needByWayOfOthers_L1 (nI k) 1000 (0 : Int32) σ = _ from e, pz_bs], hr⟩
end CP

