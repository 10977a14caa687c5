/-! pure part: the order of the parcels, theory -/
section OR
variable {n : Nat} {F : Nat → Nat → Bool}
theorem prd {dn : Nat → Bool} {p : Nat} : pz_rdy n F dn p = true ↔ dn p = false ∧ ∀ q, q < n → F p q = true → dn q = true ∨ pz_lo F q = pz_lo F p := by
  unfold pz_rdy
  rw [Bool.and_eq_true, Bool.not_eq_true', Bool.not_eq_true', pex_f]
  constructor
  · rintro ⟨a, b⟩
    refine ⟨a, fun q hq h => ?_⟩
    have := b q hq
    rw [h, Bool.true_and] at this
    cases c : dn q with
    | true => exact Or.inl rfl
    | false =>
      rw [c] at this
      by_cases d : pz_lo F q = pz_lo F p
      · exact Or.inr d
      · rw [decide_eq_false d] at this; cases this
  · rintro ⟨a, b⟩
    refine ⟨a, fun q hq => ?_⟩
    cases c : F p q with
    | false => rfl
    | true =>
      rcases b q hq c with d | d
      · rw [d]; rfl
      · rw [decide_eq_true d]; cases dn q <;> rfl
/-- where something is not done, something is ready -/
theorem pr_ex (hF : pz_eq n F) (dn : Nat → Bool) : ∀ c p, p < n → dn p = false → pz_ct (F p) n ≤ c → ∃ q, q < n ∧ pz_rdy n F dn q = true := by
  intro c
  induction c with
  | zero =>
    intro p hp _ hc
    have := (pc_0 (P := F p) (n := n)).mp (by omega) p hp
    rw [hF.1 p hp] at this
    cases this
  | succ c ih =>
    intro p hp hd hc
    cases r : pz_rdy n F dn p with
    | true => exact ⟨p, hp, r⟩
    | false =>
      have : ¬ (dn p = false ∧ ∀ q, q < n → F p q = true → dn q = true ∨ pz_lo F q = pz_lo F p) := fun h => by rw [prd.mpr h] at r; cases r
      have ⟨q, hq⟩ : ∃ q, ¬ (q < n → F p q = true → dn q = true ∨ pz_lo F q = pz_lo F p) := by
        apply Classical.byContradiction
        intro no
        refine this ⟨hd, fun q => ?_⟩
        exact Classical.byContradiction fun z => no ⟨q, z⟩
      have hqn : q < n := Classical.byContradiction fun z => hq fun h => absurd h z
      have hpq : F p q = true := Classical.byContradiction fun z => hq fun _ h => absurd h z
      have hdq : dn q = false := by
        cases d : dn q with
        | false => rfl
        | true => exact absurd (fun _ _ => Or.inl d) hq
      have hlo : pz_lo F q ≠ pz_lo F p := fun z => hq fun _ _ => Or.inr z
      refine ih q hqn hdq ?_
      have : pz_ct (F q) n < pz_ct (F p) n := by
        refine pc_lt (fun k _ h => hF.2.2 p q k hpq h) ⟨p, hp, hF.1 p hp, ?_⟩
        cases d : F q p with
        | false => rfl
        | true => exact absurd ((pl_iff hF hqn hp).mpr ⟨d, hpq⟩) hlo
      omega
theorem pnx (hF : pz_eq n F) {dn : Nat → Bool} (h : ∃ p, p < n ∧ dn p = false) : pz_nx n F dn < n ∧ pz_rdy n F dn (pz_nx n F dn) = true := by
  obtain ⟨p, hp, hd⟩ := h
  obtain ⟨q, hq, r⟩ := pr_ex hF dn _ p hp hd (Nat.le_refl _)
  have := pf_le (n := n) r
  have lt : pz_nx n F dn < n := by unfold pz_nx; omega
  exact ⟨lt, pf3 _ _ lt⟩
theorem pnx_low {dn : Nat → Bool} {k : Nat} (h : k < pz_nx n F dn) : pz_rdy n F dn k = false := pf2 _ _ _ h
def pz_ad (n : Nat) (F : Nat → Nat → Bool) (k : Nat) : Bool := !pz_ex (fun q => !pz_dn n F k q) n
theorem pad {k : Nat} : pz_ad n F k = true ↔ ∀ q, q < n → pz_dn n F k q = true := by
  unfold pz_ad
  rw [Bool.not_eq_true', pex_f]
  constructor
  · intro h q hq
    have := h q hq
    cases c : pz_dn n F k q with
    | true => rfl
    | false => rw [c] at this; cases this
  · intro h q hq
    rw [h q hq]; rfl
theorem pad_n {k : Nat} (h : pz_ad n F k = false) : ∃ p, p < n ∧ pz_dn n F k p = false := by
  unfold pz_ad at h
  rw [Bool.not_eq_false', pex] at h
  obtain ⟨p, hp, h⟩ := h
  exact ⟨p, hp, by rw [Bool.not_eq_true'] at h; exact h⟩
theorem ppc_lt {k : Nat} (h : k < pz_pc n F) : pz_ad n F k = false := pf2 _ _ _ h
theorem ppc_le : pz_pc n F ≤ n := pf1 _ _
/-- each step does something that was not done -/
theorem pun (hF : pz_eq n F) : ∀ k, (∀ j, j < k → pz_ad n F j = false) → pz_ct (fun q => !pz_dn n F k q) n + k ≤ n
  | 0, _ => pc_le _ _
  | k + 1, h => by
    have ih := pun hF k (fun j hj => h j (by omega))
    obtain ⟨lt, r⟩ := pnx hF (pad_n (h k (by omega)))
    have := prd.mp r
    have : pz_ct (fun q => !pz_dn n F (k + 1) q) n < pz_ct (fun q => !pz_dn n F k q) n := by
      refine pc_lt (fun q _ hq => ?_) ⟨pz_nx n F (pz_dn n F k), lt, by rw [this.1]; rfl, ?_⟩
      · rw [Bool.not_eq_true', pz_dn, Bool.or_eq_false_iff] at hq
        rw [hq.1]; rfl
      · rw [Bool.not_eq_false', pz_dn, decide_eq_true rfl, Bool.or_true]
    omega
theorem ppc_ad (hF : pz_eq n F) : pz_ad n F (pz_pc n F) = true := by
  rcases Nat.lt_or_ge (pz_pc n F) n with h | h
  · exact pf3 (fun k => !pz_ex (fun q => !pz_dn n F k q) n) n h
  · have e : pz_pc n F = n := Nat.le_antisymm ppc_le h
    have := pun hF n (fun j hj => ppc_lt (by omega))
    have z := (pc_0 (P := fun q => !pz_dn n F n q) (n := n)).mp (by omega)
    rw [e]
    exact pad.mpr fun q hq => by
      have := z q hq
      rw [Bool.not_eq_false'] at this
      exact this
theorem pdn_in {k q : Nat} : pz_dn n F k q = true → ∃ j, j < k ∧ pz_lo F q = pz_od n F j := by
  induction k with
  | zero => intro h; cases h
  | succ k ih =>
    intro h
    rw [pz_dn, Bool.or_eq_true, decide_eq_true_iff] at h
    rcases h with h | h
    · obtain ⟨j, hj, e⟩ := ih h
      exact ⟨j, by omega, e⟩
    · exact ⟨k, by omega, h⟩
theorem pdn_of {k q j : Nat} (hj : j < k) (h : pz_lo F q = pz_od n F j) : pz_dn n F k q = true := by
  induction k with
  | zero => omega
  | succ k ih =>
    rw [pz_dn, Bool.or_eq_true, decide_eq_true_iff]
    by_cases c : j = k
    · subst c; exact Or.inr h
    · exact Or.inl (ih (by omega))
theorem pdn_lo {k q p : Nat} (h : pz_lo F q = pz_lo F p) : pz_dn n F k q = pz_dn n F k p := by
  induction k with
  | zero => rfl
  | succ k ih => rw [pz_dn, pz_dn, ih, h]
/-- what is told of a parcel's place -/
theorem pod_ok (hF : pz_eq n F) {k : Nat} (hk : k < pz_pc n F) : pz_od n F k < n ∧ pz_nx n F (pz_dn n F k) < n ∧ pz_rdy n F (pz_dn n F k) (pz_nx n F (pz_dn n F k)) = true ∧ pz_lo F (pz_od n F k) = pz_od n F k := by
  obtain ⟨lt, r⟩ := pnx hF (pad_n (ppc_lt hk))
  have := pl_le F (pz_nx n F (pz_dn n F k))
  exact ⟨Nat.lt_of_le_of_lt this lt, lt, r, pl_lo hF lt⟩
/-- the pieces that are done, where something is ready, hold all that a done one reaches -/
theorem pP {k q : Nat} : pz_P n F k q = true ↔ q < n ∧ pz_lo F q = pz_od n F k := by unfold pz_P; rw [Bool.and_eq_true, decide_eq_true_iff, decide_eq_true_iff]
theorem ppc_all (hF : pz_eq n F) {q : Nat} (hq : q < n) : ∃ j, j < pz_pc n F ∧ pz_P n F j q = true := by
  obtain ⟨j, hj, e⟩ := pdn_in (pad.mp (ppc_ad hF) q hq)
  exact ⟨j, hj, pP.mpr ⟨hq, e⟩⟩
/-- parcels are apart -/
theorem pod_new (hF : pz_eq n F) {k : Nat} (hk : k < pz_pc n F) : pz_dn n F k (pz_od n F k) = false := by
  obtain ⟨h1, h2, h3, h4⟩ := pod_ok hF hk
  rw [pdn_lo (q := pz_od n F k) (p := pz_nx n F (pz_dn n F k)) h4]
  exact (prd.mp h3).1
theorem pod_ne (hF : pz_eq n F) {j k : Nat} (hj : j < k) (hk : k < pz_pc n F) : pz_od n F j ≠ pz_od n F k := by
  intro h
  have a := pod_new hF hk
  rw [pdn_of hj (by rw [(pod_ok hF hk).2.2.2, ← h])] at a
  cases a
end OR
section FE
variable {n : Nat} {σ : zz_St}
theorem vE_s {a b : Nat} : vE n σ a b = true ↔ a < n ∧ b < n ∧ (vH n σ a = vH n σ b ∨ vNd σ a b = true) := by
  unfold vE
  rw [Bool.and_eq_true, Bool.and_eq_true, Bool.or_eq_true, decide_eq_true_iff, decide_eq_true_iff, decide_eq_true_iff]
  constructor
  · rintro ⟨⟨a, b⟩, c⟩; exact ⟨a, b, c⟩
  · rintro ⟨a, b, c⟩; exact ⟨⟨a, b⟩, c⟩
theorem vF_eq (n : Nat) (σ : zz_St) : pz_eq n (vF n σ) := pw_eq (fun a ha => vE_s.mpr ⟨ha, ha, Or.inl rfl⟩) (fun a b h => ⟨(vE_s.mp h).1, (vE_s.mp h).2.1⟩)
theorem vF_g {a b : Nat} (ha : a < n) (hb : b < n) (h : vH n σ a = vH n σ b) : vF n σ a b = true := pw_in (vE_s.mpr ⟨ha, hb, Or.inl h⟩) n
theorem vF_n {a b : Nat} (ha : a < n) (hb : b < n) (h : vNd σ a b = true) : vF n σ a b = true := pw_in (vE_s.mpr ⟨ha, hb, Or.inr h⟩) n
theorem vH_Hd (c5 : pz_CW5 σ) : pz_Hd n (vH n σ) := pmk_Hd (vTh_ok c5).1 14 _ _ (ph0 n _)
theorem vF_h (c5 : pz_CW5 σ) {a b : Nat} (ha : a < n) (hb : b < n) : vF n σ a b = vF n σ (vH n σ a) (vH n σ b) := by
  have hF := vF_eq n σ
  have h1 := vH_Hd (n := n) c5 a ha
  have h2 := vH_Hd (n := n) c5 b hb
  rw [Bool.eq_iff_iff]
  constructor
  · intro h
    exact hF.2.2 _ _ _ (vF_g (by omega) ha h1.2) (hF.2.2 _ _ _ h (vF_g hb (by omega) h2.2.symm))
  · intro h
    exact hF.2.2 _ _ _ (vF_g ha (by omega) h1.2.symm) (hF.2.2 _ _ _ h (vF_g (by omega) hb h2.2))
theorem vLo_h (c5 : pz_CW5 σ) {a : Nat} (ha : a < n) : pz_lo (vF n σ) (vH n σ a) = pz_lo (vF n σ) a := by
  have h1 := vH_Hd (n := n) c5 a ha
  exact (pl_iff (vF_eq n σ) (by omega) ha).mpr ⟨vF_g (by omega) ha h1.2, vF_g ha (by omega) h1.2.symm⟩
/-- the smallest of a parcel is the smallest of its group -/
theorem vLo_hd (c5 : pz_CW5 σ) {a : Nat} (ha : a < n) : vH n σ (pz_lo (vF n σ) a) = pz_lo (vF n σ) a := by
  have hF := vF_eq n σ
  have i := pl_in hF ha
  have hl := (hF.2.1 _ _ i.1).2
  have h1 := vH_Hd (n := n) c5 _ hl
  have g1 := vF_g (n := n) (σ := σ) (a := pz_lo (vF n σ) a) (b := vH n σ (pz_lo (vF n σ) a)) hl (by omega) h1.2.symm
  have g2 := vF_g (n := n) (σ := σ) (a := vH n σ (pz_lo (vF n σ) a)) (b := pz_lo (vF n σ) a) (by omega) hl h1.2
  have := pl_min (C := vF n σ) (hF.2.2 _ _ _ i.1 g1) (hF.2.2 _ _ _ g2 i.2)
  omega
end FE

