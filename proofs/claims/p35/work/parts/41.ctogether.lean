/-! pure part: the class's parcels, put together -/
section CT
variable {n : Nat} {σ σ' τ τ' : zz_St}
/-- a state in which parcels are made: groups, and what they need -/
def pz_CN (n : Nat) (k : Nat) (e : Nat → Nat) (σ : zz_St) : Prop := pz_CG n (vH n σ) k e σ ∧ (∀ a, a < k → ∀ b, pz_b (σ 43 a) b = pz_W (vI n σ k e) k a b)
theorem fc_circle (c5 : pz_CW5 σ) (hn : n ≤ 14) {k : Nat} {e : Nat → Nat} (N : pz_CN n k e σ) {i : Nat} (hi : i < k) : ∃ x, fX4_circleOf σ (nI i) (nI k) = some x ∧ ∀ j, pz_b x j = (decide (j < k) && decide (pz_lo (vF n σ) (e j) = pz_lo (vF n σ) (e i))) := by
  obtain ⟨⟨E, hk2, hs⟩, hw⟩ := N
  have hkn := pEn_k E
  have both : ∀ j, j < k → ((j = i ∨ (pz_W (vI n σ k e) k i j && pz_W (vI n σ k e) k j i) = true) ↔ pz_lo (vF n σ) (e j) = pz_lo (vF n σ) (e i)) := by
    intro j hj
    rw [pl_iff (vF_eq n σ) (E.1 j hj).1 (E.1 i hi).1, ← vW_F c5 E hj hi, ← vW_F c5 E hi hj, Bool.and_eq_true]
    constructor
    · rintro (h | ⟨h1, h2⟩)
      · exact ⟨Or.inl h, Or.inl h.symm⟩
      · exact ⟨Or.inr h2, Or.inr h1⟩
    · rintro ⟨h1 | h1, h2 | h2⟩
      · exact Or.inl h1
      · exact Or.inl h1
      · exact Or.inl h2.symm
      · exact Or.inr ⟨h2, h1⟩
  unfold fX4_circleOf
  rw [pz_bs]
  obtain ⟨r, hr, er⟩ := pz_loop (S := Int32) (R := Int32 × Int32) (fun f j s => fX4_circleOf_L1 σ (nI i) (nI k) f s (nI j)) (fun j s => ∀ b, pz_b s b = (decide (b = i) || (decide (b < j) && (pz_W (vI n σ k e) k i b && pz_W (vI n σ k e) k b i)))) (fun r => ∀ b, pz_b r.1 b = (decide (b = i) || (decide (b < k) && (pz_W (vI n σ k e) k i b && pz_W (vI n σ k e) k b i)))) k
    (fun j f s hj hP => by
      have un : fX4_circleOf_L1 σ (nI i) (nI k) (f + 1) s (nI j) = fX4_circleOf_L1 σ (nI i) (nI k) f (if (pz_W (vI n σ k e) k i j && pz_W (vI n σ k e) k j i) = true then s ||| ((1 : Int32) <<< (nI j &&& 31)) else s) (nI (j + 1)) := by
        rw [fX4_circleOf_L1, if_neg (nI_ge hj (by omega)), pz_ga (by omega) (by decide), pz_bs, pf_isIn (by omega), pz_bs, hw i hi, pz_ga (by omega) (by decide), pz_bs, pf_isIn (by omega), pz_bs, hw j hj]
        cases pz_W (vI n σ k e) k i j with
        | false => rw [if_pos (by decide), pz_bs, if_neg (by decide), pz_bs, Bool.false_and, if_neg (by decide), nI_1]
        | true =>
          rw [if_neg (by decide)]
          cases pz_W (vI n σ k e) k j i with
          | false => rw [if_pos (by decide), pz_bs, if_neg (by decide), pz_bs, Bool.and_false, if_neg (by decide), nI_1]
          | true => rw [if_neg (by decide), pz_bs, if_pos rfl, pz_bs, pz_bs, if_pos (by decide), nI_1]
      refine Or.inl ⟨_, fun b => ?_, un⟩
      cases w : (pz_W (vI n σ k e) k i j && pz_W (vI n σ k e) k j i) with
      | true =>
        rw [if_pos rfl, pb_or, pb_one (by omega), hP]
        by_cases c : b = j
        · rw [c, w, decide_eq_true (show j < j + 1 by omega), decide_eq_true rfl]
          cases decide (j = i) <;> cases decide (j < j) <;> rfl
        · rw [decide_eq_false c, Bool.or_false]
          by_cases d : b < j
          · rw [decide_eq_true d, decide_eq_true (show b < j + 1 by omega)]
          · rw [decide_eq_false d, decide_eq_false (show ¬ b < j + 1 by omega)]
      | false =>
        rw [if_neg (by decide), hP]
        by_cases c : b = j
        · rw [c, w, Bool.and_false, Bool.and_false]
        · by_cases d : b < j
          · rw [decide_eq_true d, decide_eq_true (show b < j + 1 by omega)]
          · rw [decide_eq_false d, decide_eq_false (show ¬ b < j + 1 by omega)])
    (fun f s hP => ⟨(s, nI k), hP, by
      show fX4_circleOf_L1 σ (nI i) (nI k) (f + 1) s (nI k) = _
      rw [fX4_circleOf_L1, if_pos (Int32.le_refl _)]⟩) 1000 0 ((1 : Int32) <<< (nI i &&& 31)) (Nat.zero_le _) (fun b => by rw [pb_one (by omega), decide_eq_false (show ¬ b < 0 by omega), Bool.false_and, Bool.or_false]) (by omega)
  refine ⟨r.1, by rw [show fX4_circleOf_L1 σ (nI i) (nI k) 1000 ((1 : Int32) <<< (nI i &&& 31)) (0 : Int32) = _ from er, pz_bs], fun j => ?_⟩
  rw [hr]
  by_cases c : j < k
  · rw [decide_eq_true c, Bool.true_and, Bool.true_and, Bool.eq_iff_iff, Bool.or_eq_true, decide_eq_true_iff, decide_eq_true_iff]
    exact both j c
  · rw [decide_eq_false c, Bool.false_and, Bool.false_and, decide_eq_false (show ¬ j = i by omega)]
    rfl
/-- the circle that comes next, where something is left -/
theorem fc_next (c5 : pz_CW5 σ) (hn : n ≤ 14) {k : Nat} {e : Nat → Nat} (N : pz_CN n k e σ) {c : Nat} {placed : Int32} (hp : ∀ j, pz_b placed j = (decide (j < k) && pz_dn n (vF n σ) c (e j))) : (pz_ad n (vF n σ) c = true ∧ fX4_nextCircle σ (nI k) placed = some 0) ∨ (pz_ad n (vF n σ) c = false ∧ ∃ x i, i < k ∧ e i = pz_nx n (vF n σ) (pz_dn n (vF n σ) c) ∧ fX4_nextCircle σ (nI k) placed = some x ∧ ∀ j, pz_b x j = (decide (j < k) && decide (pz_lo (vF n σ) (e j) = pz_lo (vF n σ) (e i)))) := by
  obtain ⟨⟨E, hk2, hs⟩, hw⟩ := N
  have hkn := pEn_k E
  have hF := vF_eq n σ
  have hh := vH_Hd (n := n) c5
  have hd : ∀ q, q < n → pz_dn n (vF n σ) c q = pz_dn n (vF n σ) c (vH n σ q) := fun q hq => pdn_lo (vLo_h c5 hq).symm
  unfold fX4_nextCircle
  -- each group is ready just if its head is
  have rdyi : ∀ i x, i < k → (∀ j, pz_b x j = (decide (j < k) && decide (pz_lo (vF n σ) (e j) = pz_lo (vF n σ) (e i)))) → ((σ 43 i &&& (x ^^^ (-1)) &&& (placed ^^^ (-1)) = 0) ↔ ∀ q, q < n → vF n σ (e i) q = true → pz_dn n (vF n σ) c q = true ∨ pz_lo (vF n σ) q = pz_lo (vF n σ) (e i)) := by
    intro i x hi hx
    rw [pb_z]
    constructor
    · intro g q hq hFq
      have hhq := hh q hq
      obtain ⟨m, hm, em⟩ := E.2.2.2 (vH n σ q) (by omega) hhq.2
      have hFm : vF n σ (e i) (e m) = true := by
        rw [em]
        have := vF_h (n := n) c5 (E.1 i hi).1 hq
        rw [(E.1 i hi).2] at this
        rw [← this]; exact hFq
      rw [hd q hq, ← em, ← vLo_h c5 hq, ← em]
      rcases (vW_F c5 E hi hm).mpr hFm with y | y
      · rw [y]; exact Or.inr rfl
      · have := g m (by omega)
        rw [pb_and, pb_and, pb_not (by omega), pb_not (by omega), hw i hi, y, hx, hp, decide_eq_true hm, Bool.true_and, Bool.true_and, Bool.true_and] at this
        cases z : pz_dn n (vF n σ) c (e m) with
        | true => exact Or.inl rfl
        | false =>
          rw [z] at this
          by_cases z2 : pz_lo (vF n σ) (e m) = pz_lo (vF n σ) (e i)
          · exact Or.inr z2
          · rw [decide_eq_false z2] at this; cases this
    · intro g j hj
      rw [pb_and, pb_and, pb_not hj, pb_not hj, hw i hi, hx, hp]
      cases y : pz_W (vI n σ k e) k i j with
      | false => rfl
      | true =>
        have hjk : j < k := (pw_min (E := vI n σ k e) (T := fun a b => a < k ∧ b < k) (fun a b c x y => ⟨x.1, y.2⟩) (fun a b h => ⟨(vI_s.mp h).1, (vI_s.mp h).2.1⟩) k i j y).2
        rw [decide_eq_true hjk]
        rcases g (e j) (E.1 j hjk).1 ((vW_F c5 E hi hjk).mp (Or.inr y)) with z | z
        · rw [z]; simp
        · rw [decide_eq_true z]; rfl
  have un : ∀ f i, i < k → ∃ x, (∀ j, pz_b x j = (decide (j < k) && decide (pz_lo (vF n σ) (e j) = pz_lo (vF n σ) (e i)))) ∧ fX4_nextCircle_L1 σ (nI k) placed (f + 1) (nI i) = if pz_rdy n (vF n σ) (pz_dn n (vF n σ) c) (e i) = true then some (.inl x) else fX4_nextCircle_L1 σ (nI k) placed f (nI (i + 1)) := by
    intro f i hi
    obtain ⟨x, ex, hx⟩ := fc_circle c5 hn ⟨⟨E, hk2, hs⟩, hw⟩ hi
    refine ⟨x, hx, ?_⟩
    rw [fX4_nextCircle_L1, if_neg (nI_ge hi (by omega)), ex, pz_bs, pz_ga (by omega) (by decide), pz_bs, pf_isIn (by omega), hp i, decide_eq_true hi, Bool.true_and]
    cases d : pz_dn n (vF n σ) c (e i) with
    | true =>
      have : ¬ pz_rdy n (vF n σ) (pz_dn n (vF n σ) c) (e i) = true := fun h => by rw [(prd.mp h).1] at d; cases d
      rw [if_neg this]
      by_cases g : (σ 43 i &&& (x ^^^ (-1)) &&& (placed ^^^ (-1)) = 0)
      · rw [if_pos g, pz_bs, pz_bs, pz_bs, if_neg (by decide), pz_bs, if_neg (by decide), nI_1]
      · rw [if_neg g, pz_bs, pz_bs, pz_bs, if_neg (by decide), pz_bs, if_neg (by decide), nI_1]
    | false =>
      by_cases g : (σ 43 i &&& (x ^^^ (-1)) &&& (placed ^^^ (-1)) = 0)
      · rw [if_pos g, pz_bs, pz_bs, pz_bs, if_pos (by decide), if_neg (by decide), pz_bs, if_pos rfl, if_pos (prd.mpr ⟨d, (rdyi i x hi hx).mp g⟩)]
      · rw [if_neg g, pz_bs, pz_bs, pz_bs, if_pos (by decide), if_pos (by decide), pz_bs, if_neg (by decide), if_neg (fun h => g ((rdyi i x hi hx).mpr (prd.mp h).2)), nI_1]
  cases ad : pz_ad n (vF n σ) c with
  | true =>
    refine Or.inl ⟨rfl, ?_⟩
    obtain ⟨r, hr, er⟩ := pz_loop (S := Unit) (R := Int32 ⊕ Int32) (fun f i _ => fX4_nextCircle_L1 σ (nI k) placed f (nI i)) (fun _ _ => True) (fun r => r = .inr (nI k)) k
      (fun i f _ hi _ => Or.inl ⟨(), trivial, by
        obtain ⟨x, hx, e'⟩ := un f i hi
        show fX4_nextCircle_L1 σ (nI k) placed (f + 1) (nI i) = _
        rw [e', if_neg]
        intro h
        have a := (prd.mp h).1
        rw [pad.mp ad _ (E.1 i hi).1] at a
        cases a⟩)
      (fun f _ _ => ⟨_, rfl, by
        show fX4_nextCircle_L1 σ (nI k) placed (f + 1) (nI k) = _
        rw [fX4_nextCircle_L1, if_pos (Int32.le_refl _)]⟩) 1000 0 () (Nat.zero_le _) trivial (by omega)
    rw [show fX4_nextCircle_L1 σ (nI k) placed 1000 (0 : Int32) = _ from er, pz_bs, hr]
  | false =>
    refine Or.inr ⟨rfl, ?_⟩
    obtain ⟨lt, rd⟩ := pnx hF (pad_n ad)
    -- what is next is a head
    have hd0 : vH n σ (pz_nx n (vF n σ) (pz_dn n (vF n σ) c)) = pz_nx n (vF n σ) (pz_dn n (vF n σ) c) := by
      have h1 := hh _ lt
      have r2 : pz_rdy n (vF n σ) (pz_dn n (vF n σ) c) (vH n σ (pz_nx n (vF n σ) (pz_dn n (vF n σ) c))) = true := by
        obtain ⟨a, b⟩ := prd.mp rd
        refine prd.mpr ⟨by rw [← hd _ lt]; exact a, fun q hq h => ?_⟩
        rw [vLo_h c5 lt]
        exact b q hq (hF.2.2 _ _ _ (vF_g lt (by omega) h1.2.symm) h)
      have := pf_le (n := n) r2
      have z : pz_nx n (vF n σ) (pz_dn n (vF n σ) c) ≤ vH n σ (pz_nx n (vF n σ) (pz_dn n (vF n σ) c)) := this
      omega
    obtain ⟨i0, hi0, ei0⟩ := E.2.2.2 _ lt hd0
    obtain ⟨r, hr, er⟩ := pz_loop (S := Unit) (R := Int32 ⊕ Int32) (fun f i _ => fX4_nextCircle_L1 σ (nI k) placed f (nI i)) (fun _ _ => True) (fun r => ∃ x, r = .inl x ∧ ∀ j, pz_b x j = (decide (j < k) && decide (pz_lo (vF n σ) (e j) = pz_lo (vF n σ) (e i0)))) i0
      (fun i f _ hi _ => Or.inl ⟨(), trivial, by
        obtain ⟨x, hx, e'⟩ := un f i (by omega)
        show fX4_nextCircle_L1 σ (nI k) placed (f + 1) (nI i) = _
        have := E.2.1 i i0 hi (by omega)
        rw [e', if_neg]
        rw [pnx_low (by omega)]
        decide⟩)
      (fun f _ _ => by
        obtain ⟨x, hx, e'⟩ := un f i0 hi0
        refine ⟨.inl x, ⟨x, rfl, hx⟩, ?_⟩
        show fX4_nextCircle_L1 σ (nI k) placed (f + 1) (nI i0) = _
        rw [e', if_pos (by rw [ei0]; exact rd)]) 1000 0 () (Nat.zero_le _) trivial (by omega)
    obtain ⟨x, hx, hx2⟩ := hr
    refine ⟨x, i0, hi0, ei0, ?_, hx2⟩
    rw [show fX4_nextCircle_L1 σ (nI k) placed 1000 (0 : Int32) = _ from er, pz_bs, hx]
theorem pc_two {P : Nat → Bool} {m N : Nat} (hm : m < N) (h : P m = true) : 1 < pz_ct P N ↔ ∃ j, j < N ∧ j ≠ m ∧ P j = true := by
  have d := pc_dec (P := fun k => P k && !decide (k = m)) (P' := P) (x := m) hm h (by simp) (fun k _ hk => by rw [decide_eq_false hk]; simp)
  constructor
  · intro g
    apply Classical.byContradiction
    intro no
    have := (pc_0 (P := fun k => P k && !decide (k = m)) (n := N)).mpr (fun k hk => by
      by_cases c : k = m
      · rw [decide_eq_true c]; simp
      · cases z : P k with
        | false => rfl
        | true => exact absurd ⟨k, hk, c, z⟩ no)
    omega
  · rintro ⟨j, hj, hne, hp⟩
    have : pz_ct (fun k => P k && !decide (k = m)) N ≠ 0 := fun z => by
      have := pc_0.mp z j hj
      rw [hp, decide_eq_false hne] at this
      cases this
    omega
theorem fc_append (c5 : pz_CW5 σ) (hn : n ≤ 14) {k : Nat} {e : Nat → Nat} (G : pz_CG n (vH n σ) k e σ) {c i : Nat} (hi : i < k) (ei : e i = pz_nx n (vF n σ) (pz_dn n (vF n σ) c)) {x : Int32} (hx : ∀ j, pz_b x j = (decide (j < k) && decide (pz_lo (vF n σ) (e j) = pz_lo (vF n σ) (e i)))) (hc : c < 14) (h41 : σ 41 0 = nI c) {v : Nat} (h411 : σ 41 1 = nI v) : ∃ σ', fX4_append σ x = some σ' ∧ (∀ q, q ≠ 41 → q ≠ 42 → σ' q = σ q) ∧ σ' 41 0 = nI (c + 1) ∧ σ' 41 1 = nI (v + if pz_ex (fun q => pz_P n (vF n σ) c q && !decide (vH n σ q = pz_od n (vF n σ) c)) n = true then 1 else 0) ∧ (∀ b, pz_b (σ' 42 c) b = pz_P n (vF n σ) c b) ∧ (∀ j, j ≠ c → σ' 42 j = σ 42 j) := by
  obtain ⟨E, hk2, hs⟩ := G
  have hkn := pEn_k E
  have hF := vF_eq n σ
  have hh := vH_Hd (n := n) c5
  have od : pz_od n (vF n σ) c = pz_lo (vF n σ) (e i) := by rw [ei]; rfl
  unfold fX4_append
  rw [h41, if_pos (show nI c < 14 from nI_lt (b := 14) hc (by decide)), pz_pa hc (by decide), pz_bs]
  obtain ⟨r, hr, er⟩ := pz_loop (S := zz_St) (R := Int32 × zz_St) (fun f g s => fX4_append_L1 x f (nI g) s) (fun g s => (∀ q, q ≠ 42 → s q = σ q) ∧ (∀ j, j ≠ c → s 42 j = σ 42 j) ∧ (∀ b, pz_b (s 42 c) b = true ↔ ∃ m, m < g ∧ pz_b x m = true ∧ pz_G n (vH n σ) (e m) b = true)) (fun r => (∀ q, q ≠ 42 → r.2 q = σ q) ∧ (∀ j, j ≠ c → r.2 42 j = σ 42 j) ∧ (∀ b, pz_b (r.2 42 c) b = true ↔ ∃ m, m < k ∧ pz_b x m = true ∧ pz_G n (vH n σ) (e m) b = true)) k
    (fun g f s hg hP => by
      obtain ⟨i1, i2, i3⟩ := hP
      have un : fX4_append_L1 x (f + 1) (nI g) s = fX4_append_L1 x f (nI (g + 1)) (zz_u s 42 c (s 42 c ||| if pz_b x g = true then σ 25 g else 0)) := by
        rw [fX4_append_L1, i1 24 (by decide), hk2, if_neg (nI_ge hg (by omega)), i1 41 (by decide), h41, pz_ga hc (by decide), pz_bs, pf_isIn (by omega), pz_bs, i1 25 (by decide), pz_ga (by omega) (by decide), pz_bs]
        cases pz_b x g with
        | false => rw [if_pos (by decide), pz_bs, pz_pa hc (by decide), pz_bs, if_neg (by decide), nI_1]
        | true => rw [if_neg (by decide), pz_bs, pz_pa hc (by decide), pz_bs, if_pos rfl, nI_1]
      refine Or.inl ⟨_, ⟨fun q hq => by rw [pz_uq hq]; exact i1 q hq, fun j hj => by rw [pz_uj hj]; exact i2 j hj, fun b => ?_⟩, un⟩
      rw [pz_us, pb_or, Bool.or_eq_true, i3]
      constructor
      · rintro (⟨m, h1, h2, h3⟩ | h)
        · exact ⟨m, by omega, h2, h3⟩
        · cases z : pz_b x g with
          | false => rw [z, if_neg (by decide), pb_0] at h; cases h
          | true => rw [z, if_pos rfl, hs g hg] at h; exact ⟨g, by omega, z, h⟩
      · rintro ⟨m, h1, h2, h3⟩
        by_cases d : m = g
        · rw [d] at h2 h3
          right
          rw [h2, if_pos rfl, hs g hg]; exact h3
        · exact Or.inl ⟨m, by omega, h2, h3⟩)
    (fun f s hP => ⟨(nI k, s), hP, by
      show fX4_append_L1 x (f + 1) (nI k) s = _
      rw [fX4_append_L1, hP.1 24 (by decide), hk2, if_pos (Int32.le_refl _)]⟩) 1000 0 (zz_u σ 42 c 0) (Nat.zero_le _) ⟨fun q hq => pz_uq hq, fun j hj => pz_uj hj, fun b => by
      rw [pz_us, pb_0]
      exact ⟨fun h => absurd h (by decide), fun ⟨m, h, _⟩ => by omega⟩⟩ (by omega)
  obtain ⟨r1, r2, r3⟩ := hr
  rw [show fX4_append_L1 x 1000 (0 : Int32) (zz_u σ 42 c 0) = _ from er, pz_bs]
  have xb : ∀ b, 16 ≤ b → pz_b x b = false := fun b hb => by rw [hx, decide_eq_false (show ¬ b < k by omega)]; rfl
  have eb := pf_bc xb
  -- more than one group
  have one : (1 < pz_ct (pz_b x) 16) ↔ pz_ex (fun q => pz_P n (vF n σ) c q && !decide (vH n σ q = pz_od n (vF n σ) c)) n = true := by
    have ho := vLo_hd (n := n) c5 (E.1 i hi).1
    have hl := pl_le (vF n σ) (e i)
    obtain ⟨m, hm, em⟩ := E.2.2.2 (pz_lo (vF n σ) (e i)) (by have := (E.1 i hi).1; omega) ho
    have xm : pz_b x m = true := by
      rw [hx, decide_eq_true hm, em, pl_lo hF (E.1 i hi).1, decide_eq_true rfl]; rfl
    rw [pc_two (m := m) (by omega) xm, pex]
    constructor
    · rintro ⟨j, _, hjm, hj⟩
      rw [hx, Bool.and_eq_true, decide_eq_true_iff, decide_eq_true_iff] at hj
      have ej := E.1 j hj.1
      refine ⟨e j, ej.1, ?_⟩
      rw [pP.mpr ⟨ej.1, by rw [od]; exact hj.2⟩, ej.2, od, ← em, decide_eq_false (fun q => hjm (pEn_inj E (by omega) (by omega) q))]
      rfl
    · rintro ⟨q, hq, h⟩
      rw [Bool.and_eq_true, pP, Bool.not_eq_true', decide_eq_false_iff_not] at h
      have hhq := hh q hq
      obtain ⟨j, hj, ej⟩ := E.2.2.2 (vH n σ q) (by omega) hhq.2
      refine ⟨j, by omega, fun z => h.2 (by rw [od, ← em, ← ej, z]), ?_⟩
      rw [hx, decide_eq_true hj, ej, vLo_h c5 hq, h.1.2, od, decide_eq_true rfl]; rfl
  have setb : ∀ b, pz_b (r.2 42 c) b = pz_P n (vF n σ) c b := by
    intro b
    rw [Bool.eq_iff_iff, r3, pP]
    constructor
    · rintro ⟨m, hm, h1, h2⟩
      rw [hx, Bool.and_eq_true, decide_eq_true_iff, decide_eq_true_iff] at h1
      have g := pG.mp h2
      exact ⟨g.1, by rw [od, ← h1.2, ← g.2, vLo_h c5 g.1]⟩
    · rintro ⟨hb, h⟩
      have hhb := hh b hb
      obtain ⟨m, hm, em⟩ := E.2.2.2 (vH n σ b) (by omega) hhb.2
      refine ⟨m, hm, ?_, pG.mpr ⟨hb, em.symm⟩⟩
      rw [hx, decide_eq_true hm, em, vLo_h c5 hb, h, od, decide_eq_true rfl]; rfl
  have q41 : r.2 41 = σ 41 := r1 41 (by decide)
  have l16 := pc_le (pz_b x) 16
  rw [eb, pz_bs, q41, h41, nI_1]
  by_cases g : 1 < pz_ct (pz_b x) 16
  · rw [if_neg (show ¬ nI (pz_ct (pz_b x) 16) ≤ 1 from nI_ge (a := 1) g (by omega)), pz_bs]
    refine ⟨_, rfl, fun q h1 h2 => by rw [pz_uq h1, pz_uq h1]; exact r1 q h2, by rw [pz_uj (by decide), pz_us], ?_, fun b => by rw [pz_uq (by decide), pz_uq (by decide)]; exact setb b, fun j hj => by rw [pz_uq (by decide), pz_uq (by decide)]; exact r2 j hj⟩
    rw [pz_us, pz_uj (by decide), q41, h411, nI_1, if_pos (one.mp g)]
  · rw [if_pos (show nI (pz_ct (pz_b x) 16) ≤ 1 from nI_le (b := 1) (by omega) (by decide)), pz_bs]
    refine ⟨_, rfl, fun q h1 h2 => by rw [pz_uq h1]; exact r1 q h2, pz_us, ?_, fun b => by rw [pz_uq (by decide)]; exact setb b, fun j hj => by rw [pz_uq (by decide)]; exact r2 j hj⟩
    rw [pz_uj (by decide), q41, h411, if_neg (fun z => g (one.mpr z))]
    rfl
theorem ps_I {k : Nat} {e : Nat → Nat} (h : pz_sa σ σ') : vI n σ' k e = vI n σ k e := by unfold vI; rw [ps_H h, ps_Nd h]
theorem fc_build2 (c5 : pz_CW5 σ) (hn : n ≤ 14) {k : Nat} {e : Nat → Nat} (N : pz_CN n k e σ) (h41 : σ 41 0 = 0) (h411 : σ 41 1 = 0) : ∃ σ' a b, fX4_build_L1 1000 0 0 σ = some (a, b, σ') ∧ (∀ q, q ≠ 41 → q ≠ 42 → σ' q = σ q) ∧ pz_DP n σ' := by
  have hF := vF_eq n σ
  have E := N.1.1
  have hkn := pEn_k E
  have hh := vH_Hd (n := n) c5
  let KN : Nat → Nat := fun c => pz_ct (fun j => pz_ex (fun q => pz_P n (vF n σ) j q && !decide (vH n σ q = pz_od n (vF n σ) j)) n) c
  obtain ⟨r, hr, er⟩ := pz_loop (S := Int32 × zz_St) (R := Int32 × Int32 × zz_St) (fun f j t => fX4_build_L1 f t.1 (nI j) t.2)
    (fun j t => ∃ c, c ≤ pz_pc n (vF n σ) ∧ (c = j ∨ c = pz_pc n (vF n σ)) ∧ pz_ct (fun m => !pz_dn n (vF n σ) c (e m)) k + c ≤ k ∧ (∀ m, pz_b t.1 m = (decide (m < k) && pz_dn n (vF n σ) c (e m))) ∧ (∀ q, q ≠ 41 → q ≠ 42 → t.2 q = σ q) ∧ t.2 41 0 = nI c ∧ t.2 41 1 = nI (KN c) ∧ (∀ z, z < c → ∀ b, pz_b (t.2 42 z) b = pz_P n (vF n σ) z b))
    (fun r => (∀ q, q ≠ 41 → q ≠ 42 → r.2.2 q = σ q) ∧ r.2.2 41 0 = nI (pz_pc n (vF n σ)) ∧ r.2.2 41 1 = nI (KN (pz_pc n (vF n σ))) ∧ (∀ z, z < pz_pc n (vF n σ) → ∀ b, pz_b (r.2.2 42 z) b = pz_P n (vF n σ) z b)) k
    (fun j f t hj hP => by
      obtain ⟨p, s⟩ := t
      obtain ⟨c, h1, h2, h3, h4, h5, h6, h7, h8⟩ := hP
      dsimp only at h4 h5 h6 h7 h8
      have sa : pz_sa σ s := ps_fr (fun q h => h5 q (by omega) (by omega)) (by rw [h5 24 (by decide) (by decide)]) (by rw [h5 24 (by decide) (by decide)])
      have Ns : pz_CN n k e s := by
        unfold pz_CN pz_CG
        rw [ps_H sa, h5 24 (by decide) (by decide), h5 25 (by decide) (by decide), h5 43 (by decide) (by decide), ps_I sa]
        exact N
      have c5s : pz_CW5 s := cw5_c (h5 20 (by decide) (by decide)) sa.2.1 sa.2.2 c5
      have Fs : vF n s = vF n σ := ps_F sa
      have hk2 : s 24 2 = nI k := Ns.1.2.1
      rcases fc_next c5s hn Ns (c := c) (placed := p) (by rw [Fs]; exact h4) with ⟨ad, en⟩ | ⟨ad, x, i, hi, ei, en, hx⟩
      · rw [Fs] at ad
        have hc : c = pz_pc n (vF n σ) := by
          rcases Nat.lt_or_ge c (pz_pc n (vF n σ)) with q | q
          · rw [ppc_lt q] at ad; cases ad
          · omega
        refine Or.inl ⟨(p, s), ⟨c, h1, Or.inr hc, h3, h4, h5, h6, h7, h8⟩, ?_⟩
        show fX4_build_L1 (f + 1) p (nI j) s = _
        rw [fX4_build_L1, hk2, if_neg (nI_ge hj (by omega)), en, pz_bs, if_pos rfl, pz_bs, nI_1]
      · rw [Fs] at ad ei hx
        have hcp : c < pz_pc n (vF n σ) := by
          rcases Nat.lt_or_ge c (pz_pc n (vF n σ)) with q | q
          · exact q
          · rw [show c = pz_pc n (vF n σ) by omega, ppc_ad hF] at ad; cases ad
        have hnd : pz_dn n (vF n σ) c (e i) = false := by
          rw [ei]
          exact (prd.mp (pnx hF (pad_n ad)).2).1
        have hpos : 0 < pz_ct (fun m => !pz_dn n (vF n σ) c (e m)) k := by
          apply Classical.byContradiction
          intro no
          have := (pc_0 (P := fun m => !pz_dn n (vF n σ) c (e m)) (n := k)).mp (by omega) i hi
          rw [hnd] at this; cases this
        obtain ⟨s', ea, a1, a2, a3, a4, a5⟩ := fc_append c5s hn Ns.1 (c := c) hi (by rw [Fs]; exact ei) (x := x) (by rw [Fs]; exact hx) (by omega) h6 h7
        rw [Fs, ps_H sa] at a3
        rw [Fs] at a4
        have odv : pz_lo (vF n σ) (pz_nx n (vF n σ) (pz_dn n (vF n σ) c)) = pz_lo (vF n σ) (e i) := by rw [ei]
        have xn : ¬ x = 0 := by
          rw [pb_nz]
          exact ⟨i, by omega, by rw [hx, decide_eq_true hi, decide_eq_true rfl]; rfl⟩
        refine Or.inl ⟨(p ||| x, s'), ⟨c + 1, hcp, Or.inl ?_, ?_, fun m => ?_, fun q g1 g2 => by show s' q = _; rw [a1 q g1 g2]; exact h5 q g1 g2, a2, ?_, fun z hz b => ?_⟩, ?_⟩
        · rcases h2 with h2 | h2 <;> omega
        · have : pz_ct (fun m => !pz_dn n (vF n σ) (c + 1) (e m)) k < pz_ct (fun m => !pz_dn n (vF n σ) c (e m)) k := by
            refine pc_lt (fun m _ hm => ?_) ⟨i, hi, by rw [hnd]; rfl, ?_⟩
            · rw [Bool.not_eq_true', pz_dn, Bool.or_eq_false_iff] at hm
              rw [hm.1]; rfl
            · rw [Bool.not_eq_false', pz_dn, odv, decide_eq_true rfl, Bool.or_true]
          omega
        · show pz_b (p ||| x) m = _
          rw [pb_or, h4, hx, pz_dn, odv]
          cases decide (m < k) <;> rfl
        · show s' 41 1 = _
          rw [a3]
          rfl
        · show pz_b (s' 42 z) b = _
          by_cases d : z = c
          · rw [d]; exact a4 b
          · rw [a5 z d]; exact h8 z (by omega) b
        · show fX4_build_L1 (f + 1) p (nI j) s = _
          rw [fX4_build_L1, hk2, if_neg (nI_ge hj (by omega)), en, pz_bs, if_neg xn, pz_bs, ea, pz_bs, pz_bs, nI_1])
    (fun f t hP => by
      obtain ⟨p, s⟩ := t
      obtain ⟨c, h1, h2, h3, h4, h5, h6, h7, h8⟩ := hP
      dsimp only at h4 h5 h6 h7 h8
      have hc : c = pz_pc n (vF n σ) := by
        rcases h2 with h2 | h2
        · have z := (pc_0 (P := fun m => !pz_dn n (vF n σ) c (e m)) (n := k)).mp (by omega)
          have ad : pz_ad n (vF n σ) c = true := pad.mpr fun q hq => by
            obtain ⟨m, hm, em⟩ := E.2.2.2 (vH n σ q) (by have := hh q hq; omega) (hh q hq).2
            rw [pdn_lo (vLo_h c5 hq).symm, ← em]
            have := z m hm
            rw [Bool.not_eq_false'] at this
            exact this
          rcases Nat.lt_or_ge c (pz_pc n (vF n σ)) with q | q
          · rw [ppc_lt q] at ad; cases ad
          · omega
        · exact h2
      subst hc
      refine ⟨(p, nI k, s), ⟨h5, h6, h7, h8⟩, ?_⟩
      show fX4_build_L1 (f + 1) p (nI k) s = _
      rw [fX4_build_L1, h5 24 (by decide) (by decide), N.1.2.1, if_pos (Int32.le_refl _)]) 1000 0 (0, σ) (Nat.zero_le _) ⟨0, Nat.zero_le _, Or.inl rfl, by have := pc_le (fun m => !pz_dn n (vF n σ) 0 (e m)) k; omega, fun m => by
        show pz_b 0 m = (decide (m < k) && false)
        rw [pb_0, Bool.and_false], fun _ _ _ => rfl, h41, h411, fun z hz => by omega⟩ (by omega)
  obtain ⟨r1, r2, r3, r4⟩ := hr
  have sa : pz_sa σ r.2.2 := ps_fr (fun q h => r1 q (by omega) (by omega)) (by rw [r1 24 (by decide) (by decide)]) (by rw [r1 24 (by decide) (by decide)])
  refine ⟨r.2.2, r.1, r.2.1, er, r1, ?_⟩
  unfold pz_DP vM
  rw [ps_F sa, ps_H sa]
  exact ⟨r2, r3, r4⟩
end CT

