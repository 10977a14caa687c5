/-! pure part: what holds of groups and parcels (the property's words) -/
theorem plk_le {n ma f s : Nat} {af : Nat → Nat → Nat} {h : Nat → Nat} (hA : ∀ a b, af a b ≤ 4050) : pz_lk n af ma h f s ≤ 1000000 := by
  have sb : pz_sm n af h f s ≤ 14 * 56700 := by
    unfold pz_sm pz_pp
    refine pd_inv (fun k y => y ≤ k * 56700) (Nat.zero_le _) 14 fun a y _ hy => ?_
    have := psm_le (c := pz_c2 n h f s a) (v := fun b => af a b) (M := 4050) (x := y) (fun b => hA a b) 14
    have e : (a + 1) * 56700 = a * 56700 + 56700 := Nat.succ_mul a 56700
    show pz_fd (fun b z => if pz_c2 n h f s a b = true then z + af a b else z) y 14 ≤ _
    omega
  have xb : pz_mx n af h f s ≤ 4050 := by
    unfold pz_mx pz_pp
    exact pd_inv (fun _ y => y ≤ 4050) (Nat.zero_le _) 14 fun a y _ hy => pmx_le (c := pz_c2 n h f s a) (v := fun b => af a b) (hA a) hy 14
  have ib : pz_mi n af h f s ≤ 1000000 := by
    unfold pz_mi pz_pp
    exact pd_inv (fun _ y => y ≤ 1000000) (Nat.le_refl 1000000) 14 fun a y _ hy => pmi_le (c := pz_c2 n h f s a) (v := fun b => af a b) hy 14
  unfold pz_lk
  have := Nat.div_le_self (pz_sm n af h f s) (pz_mn n h f s)
  split
  · omega
  · split <;> omega
section TG
variable {n ma th : Nat} {no : Nat → Nat → Bool} {af : Nat → Nat → Nat} {h : Nat → Nat}
theorem pd_mono {A : Type} {F : Nat → A → A} (μ : A → Nat) (mono : ∀ k y, μ y ≤ μ (F k y)) (x : A) : ∀ n, μ x ≤ μ (pz_fd F x n)
  | 0 => Nat.le_refl _
  | n + 1 => Nat.le_trans (pd_mono μ mono x n) (mono _ _)
theorem pd_ge {A : Type} {F : Nat → A → A} {x : A} (μ : A → Nat) (mono : ∀ k y, μ y ≤ μ (F k y)) {v k : Nat} (hv : ∀ y, v ≤ μ (F k y)) : ∀ n, k < n → v ≤ μ (pz_fd F x n)
  | 0, hk => by omega
  | n + 1, hk => by
    by_cases e : k = n
    · rw [← e]; exact hv _
    · exact Nat.le_trans (pd_ge μ mono hv n (by omega)) (mono _ _)
theorem pst_mono (f s : Nat) (y : Nat × Nat × Nat) : y.2.2 ≤ (pz_st n no af ma h f s y).2.2 := by
  unfold pz_st
  split
  · next g => exact Nat.le_of_lt g.2.2.2.2
  · exact Nat.le_refl _
/-- the nearest two are the nearest -/
theorem pn_max {f s : Nat} (hfs : f < s) (hs : s < n) (hf1 : h f = f) (hs1 : h s = s) (hb : pz_bar n no h f s = false) : pz_lk n af ma h f s ≤ (pz_near n no af ma th h).2.2 := by
  unfold pz_near
  refine pd_ge (k := f) (fun x : Nat × Nat × Nat => x.2.2) (fun k y => pd_mono (fun x : Nat × Nat × Nat => x.2.2) (fun j z => pst_mono k j z) y n) (fun y => ?_) n (by omega)
  refine pd_ge (k := s) (fun x : Nat × Nat × Nat => x.2.2) (fun j z => pst_mono f j z) (fun z => ?_) n hs
  unfold pz_st
  split
  · exact Nat.le_refl _
  · next g => exact Nat.not_lt.mp fun q => g ⟨hfs, hf1, hs1, hb, q⟩
/-- and not barred, and of this linkage -/
theorem pn_bar (hth : 1 ≤ th) : ((pz_near n no af ma th h).2.2 = th - 1) ∨ (pz_bar n no h (pz_near n no af ma th h).1 (pz_near n no af ma th h).2.1 = false ∧ (pz_near n no af ma th h).2.2 = pz_lk n af ma h (pz_near n no af ma th h).1 (pz_near n no af ma th h).2.1) := by
  let I : Nat × Nat × Nat → Prop := fun x => x.2.2 = th - 1 ∨ (pz_bar n no h x.1 x.2.1 = false ∧ x.2.2 = pz_lk n af ma h x.1 x.2.1)
  show I (pz_near n no af ma th h)
  unfold pz_near
  refine pd_inv (fun _ x => I x) (Or.inl rfl) n fun f x hf hx => ?_
  refine pd_inv (fun _ x => I x) hx n fun s y hs hy => ?_
  unfold pz_st
  split
  · next g => exact Or.inr ⟨g.2.2.2.1, rfl⟩
  · exact hy
/-- in the end no two are near enough -/
theorem pmk_end (hth : 1 ≤ th) : ∀ (k : Nat) (h : Nat → Nat) (l : Int32), pz_Hd n h → pz_hc n h ≤ k → (pz_near n no af ma th (pz_mk n no af ma th k h l).1).2.2 < th
  | 0, h, l, hh, hc => by
    show (pz_near n no af ma th h).2.2 < th
    have n0 : n = 0 := by
      apply Classical.byContradiction
      intro z
      have := (pc_0 (P := fun p => decide (h p = p)) (n := n)).mp (by unfold pz_hc at hc; omega) 0 (by omega)
      have := of_decide_eq_false this
      have := (hh 0 (by omega)).1
      omega
    subst n0
    show th - 1 < th
    omega
  | k + 1, h, l, hh, hc => by
    rw [pz_mk]
    by_cases g : (pz_near n no af ma th h).2.2 < th
    · rw [if_pos g]; exact g
    · rw [if_neg g]
      rcases pn_ok n no af ma th hth h with q | ⟨_, q1, q2, q3, q4⟩
      · omega
      · have := pJ_hc hh q3 q4 q1 q2
        exact pmk_end hth k _ _ (pJ_Hd hh q3 q4 (by omega)) (by omega)
/-- the last linkage -/
theorem pmk_last (hth : 1 ≤ th) {B : Nat} (hB : ∀ h f s, pz_lk n af ma h f s ≤ B) : ∀ (k : Nat) (h : Nat → Nat) (l : Int32), (l = -1 ∨ ∃ v, th ≤ v ∧ v ≤ B ∧ l = nI v) → ((pz_mk n no af ma th k h l).2 = -1 ∨ ∃ v, th ≤ v ∧ v ≤ B ∧ (pz_mk n no af ma th k h l).2 = nI v)
  | 0, h, l, hl => hl
  | k + 1, h, l, hl => by
    rw [pz_mk]
    by_cases g : (pz_near n no af ma th h).2.2 < th
    · rw [if_pos g]; exact hl
    · rw [if_neg g]
      refine pmk_last hth hB k _ _ (Or.inr ⟨_, by omega, ?_, rfl⟩)
      rcases pn_bar (n := n) (no := no) (af := af) (ma := ma) (h := h) hth with q | ⟨_, q⟩
      · omega
      · rw [q]; exact hB _ _ _
/-- what is together stays together -/
theorem pmk_eq {p q : Nat} : ∀ (k : Nat) (h : Nat → Nat) (l : Int32), h p = h q → (pz_mk n no af ma th k h l).1 p = (pz_mk n no af ma th k h l).1 q
  | 0, h, l, e => e
  | k + 1, h, l, e => by
    rw [pz_mk]
    by_cases g : (pz_near n no af ma th h).2.2 < th
    · rw [if_pos g]; exact e
    · rw [if_neg g]
      refine pmk_eq k _ _ ?_
      unfold pz_J
      rw [e]
theorem pbar_of {f s a b : Nat} (hn : n ≤ 14) (ha : a < n) (hb : b < n) (hf : h a = f) (hs : h b = s) (hno : no a b = true) : pz_bar n no h f s = true :=
  pex.mpr ⟨a, by omega, by rw [Bool.and_eq_true]; exact ⟨pG.mpr ⟨ha, hf⟩, pex.mpr ⟨b, by omega, by rw [Bool.and_eq_true]; exact ⟨pG.mpr ⟨hb, hs⟩, hno⟩⟩⟩⟩
theorem pbar_sy (hn : n ≤ 14) (sy : ∀ p q, p < n → q < n → no p q = no q p) {f s : Nat} : pz_bar n no h f s = pz_bar n no h s f := by
  have half : ∀ f s, pz_bar n no h f s = true → pz_bar n no h s f = true := by
    intro f s g
    obtain ⟨a, _, g⟩ := pex.mp g
    rw [Bool.and_eq_true] at g
    obtain ⟨g1, g2⟩ := g
    obtain ⟨b, _, g2⟩ := pex.mp g2
    rw [Bool.and_eq_true] at g2
    have x := pG.mp g1
    have y := pG.mp g2.1
    exact pbar_of hn y.1 x.1 y.2 x.2 (by rw [sy b a y.1 x.1]; exact g2.2)
  rw [Bool.eq_iff_iff]
  exact ⟨half f s, half s f⟩
/-- what MUST NOT be together is apart -/
theorem pmk_no (hth : 1 ≤ th) (hn : n ≤ 14) (sy : ∀ p q, p < n → q < n → no p q = no q p) : ∀ (k : Nat) (h : Nat → Nat) (l : Int32), (∀ p q, p < n → q < n → no p q = true → h p ≠ h q) → ∀ p q, p < n → q < n → no p q = true → (pz_mk n no af ma th k h l).1 p ≠ (pz_mk n no af ma th k h l).1 q
  | 0, h, l, e => e
  | k + 1, h, l, e => by
    rw [pz_mk]
    by_cases g : (pz_near n no af ma th h).2.2 < th
    · rw [if_pos g]; exact e
    · rw [if_neg g]
      refine pmk_no hth hn sy k _ _ ?_
      rcases pn_bar (n := n) (no := no) (af := af) (ma := ma) (h := h) hth with z | ⟨z, _⟩
      · omega
      rcases pn_ok n no af ma th hth h with w | ⟨_, w1, w2, w3, w4⟩
      · omega
      generalize (pz_near n no af ma th h).1 = f at *
      generalize (pz_near n no af ma th h).2.1 = s at *
      intro p q hp hq hno
      have d := e p q hp hq hno
      have hno2 : no q p = true := by rw [sy q p hq hp]; exact hno
      have c1 : ¬ (h p = f ∧ h q = s) := fun y => by rw [pbar_of hn hp hq y.1 y.2 hno] at z; cases z
      have c2 : ¬ (h q = f ∧ h p = s) := fun y => by rw [pbar_of hn hq hp y.1 y.2 hno2] at z; cases z
      unfold pz_J
      rw [Nat.max_eq_right (Nat.le_of_lt w1), Nat.min_eq_left (Nat.le_of_lt w1)]
      by_cases a : h p = s
      · by_cases b : h q = s
        · omega
        · rw [if_pos a, if_neg b]; omega
      · by_cases b : h q = s
        · rw [if_neg a, if_pos b]; omega
        · rw [if_neg a, if_neg b]; exact d
/-! linkage is the same both ways -/
theorem pp_mx (c : Nat → Nat → Bool) (v : Nat → Nat → Nat) (N M : Nat) : pz_pp c (fun a b m => max m (v a b)) N 0 ≤ M ↔ ∀ a b, a < N → b < N → c a b = true → v a b ≤ M := by
  have inner : ∀ a x K, pz_fd (fun b z => if c a b = true then max z (v a b) else z) x K ≤ M ↔ x ≤ M ∧ ∀ b, b < K → c a b = true → v a b ≤ M := by
    intro a x K
    induction K with
    | zero => exact ⟨fun h => ⟨h, fun b hb => by omega⟩, fun h => h.1⟩
    | succ K ih =>
      rw [pz_fd]
      constructor
      · intro g
        by_cases q : c a K = true
        · rw [if_pos q] at g
          have := ih.mp (by omega)
          refine ⟨this.1, fun b hb hc => ?_⟩
          by_cases e : b = K
          · rw [e]; omega
          · exact this.2 b (by omega) hc
        · rw [if_neg q] at g
          have := ih.mp g
          refine ⟨this.1, fun b hb hc => ?_⟩
          by_cases e : b = K
          · rw [e] at hc; exact absurd hc q
          · exact this.2 b (by omega) hc
      · intro g
        have := ih.mpr ⟨g.1, fun b hb => g.2 b (by omega)⟩
        by_cases q : c a K = true
        · rw [if_pos q]
          have := g.2 K (by omega) q
          omega
        · rw [if_neg q]; exact this
  have outer : ∀ K, pz_fd (fun a y => pz_fd (fun b z => if c a b = true then max z (v a b) else z) y N) 0 K ≤ M ↔ ∀ a b, a < K → b < N → c a b = true → v a b ≤ M := by
    intro K
    induction K with
    | zero => exact ⟨fun _ a b ha => by omega, fun _ => Nat.zero_le _⟩
    | succ K ih =>
      rw [pz_fd, inner, ih]
      constructor
      · rintro ⟨g1, g2⟩ a b ha hb hc
        by_cases e : a = K
        · rw [e] at hc ⊢; exact g2 b hb hc
        · exact g1 a b (by omega) hb hc
      · intro g
        exact ⟨fun a b ha => g a b (by omega), fun b hb => g K b (by omega) hb⟩
  exact outer N
theorem pp_mi (c : Nat → Nat → Bool) (v : Nat → Nat → Nat) (N M X : Nat) : M ≤ pz_pp c (fun a b m => min m (v a b)) N X ↔ M ≤ X ∧ ∀ a b, a < N → b < N → c a b = true → M ≤ v a b := by
  have inner : ∀ a x K, M ≤ pz_fd (fun b z => if c a b = true then min z (v a b) else z) x K ↔ M ≤ x ∧ ∀ b, b < K → c a b = true → M ≤ v a b := by
    intro a x K
    induction K with
    | zero => exact ⟨fun h => ⟨h, fun b hb => by omega⟩, fun h => h.1⟩
    | succ K ih =>
      rw [pz_fd]
      constructor
      · intro g
        by_cases q : c a K = true
        · rw [if_pos q] at g
          have := ih.mp (by omega)
          refine ⟨this.1, fun b hb hc => ?_⟩
          by_cases e : b = K
          · rw [e]; omega
          · exact this.2 b (by omega) hc
        · rw [if_neg q] at g
          have := ih.mp g
          refine ⟨this.1, fun b hb hc => ?_⟩
          by_cases e : b = K
          · rw [e] at hc; exact absurd hc q
          · exact this.2 b (by omega) hc
      · intro g
        have := ih.mpr ⟨g.1, fun b hb => g.2 b (by omega)⟩
        by_cases q : c a K = true
        · rw [if_pos q]
          have := g.2 K (by omega) q
          omega
        · rw [if_neg q]; exact this
  have outer : ∀ K, M ≤ pz_fd (fun a y => pz_fd (fun b z => if c a b = true then min z (v a b) else z) y N) X K ↔ M ≤ X ∧ ∀ a b, a < K → b < N → c a b = true → M ≤ v a b := by
    intro K
    induction K with
    | zero => exact ⟨fun h => ⟨h, fun a b ha => by omega⟩, fun h => h.1⟩
    | succ K ih =>
      rw [pz_fd, inner, ih]
      constructor
      · rintro ⟨⟨g0, g1⟩, g2⟩
        refine ⟨g0, fun a b ha hb hc => ?_⟩
        by_cases e : a = K
        · rw [e] at hc ⊢; exact g2 b hb hc
        · exact g1 a b (by omega) hb hc
      · rintro ⟨g0, g⟩
        exact ⟨⟨g0, fun a b ha => g a b (by omega)⟩, fun b hb => g K b (by omega) hb⟩
  exact outer N
theorem pp_sm (c : Nat → Nat → Bool) (v : Nat → Nat → Nat) (N : Nat) : pz_pp c (fun a b m => m + v a b) N 0 = pz_sum (fun a => pz_sum (fun b => if c a b = true then v a b else 0) N) N := by
  have inner : ∀ a x K, pz_fd (fun b z => if c a b = true then z + v a b else z) x K = x + pz_sum (fun b => if c a b = true then v a b else 0) K := by
    intro a x K
    induction K with
    | zero => rfl
    | succ K ih =>
      rw [pz_fd, pz_sum, ih]
      split <;> omega
  have outer : ∀ K, pz_fd (fun a y => pz_fd (fun b z => if c a b = true then z + v a b else z) y N) 0 K = pz_sum (fun a => pz_sum (fun b => if c a b = true then v a b else 0) N) K := by
    intro K
    induction K with
    | zero => rfl
    | succ K ih => rw [pz_fd, inner, ih, pz_sum]
  exact outer N
theorem plk_sy (sy : ∀ a b, a < n → b < n → af a b = af b a) (f s : Nat) : pz_lk n af ma h f s = pz_lk n af ma h s f := by
  have c2 : ∀ a b, pz_c2 n h f s a b = pz_c2 n h s f b a := fun a b => Bool.and_comm _ _
  have lt : ∀ f s a b, pz_c2 n h f s a b = true → a < n ∧ b < n := fun f s a b g => by
    unfold pz_c2 at g
    rw [Bool.and_eq_true] at g
    exact ⟨(pG.mp g.1).1, (pG.mp g.2).1⟩
  have emx : pz_mx n af h f s = pz_mx n af h s f := by
    have le : ∀ f s, (∀ a b, pz_c2 n h f s a b = pz_c2 n h s f b a) → pz_mx n af h f s ≤ pz_mx n af h s f := fun f s c2 => by
      refine (pp_mx _ _ _ _).mpr fun a b ha hb hc => ?_
      have l := lt f s a b hc
      rw [sy a b l.1 l.2]
      exact (pp_mx (pz_c2 n h s f) af 14 _).mp (Nat.le_refl _) b a hb ha (by rw [← c2]; exact hc)
    exact Nat.le_antisymm (le f s c2) (le s f fun a b => Bool.and_comm _ _)
  have emi : pz_mi n af h f s = pz_mi n af h s f := by
    have le : ∀ f s, (∀ a b, pz_c2 n h f s a b = pz_c2 n h s f b a) → pz_mi n af h s f ≤ pz_mi n af h f s := fun f s c2 => by
      have z := (pp_mi (pz_c2 n h s f) af 14 _ 1000000).mp (Nat.le_refl (pz_mi n af h s f))
      refine (pp_mi _ _ _ _ _).mpr ⟨z.1, fun a b ha hb hc => ?_⟩
      have l := lt f s a b hc
      rw [sy a b l.1 l.2]
      exact z.2 b a hb ha (by rw [← c2]; exact hc)
    exact Nat.le_antisymm (le s f fun a b => Bool.and_comm _ _) (le f s c2)
  have esm : pz_sm n af h f s = pz_sm n af h s f := by
    unfold pz_sm
    rw [pp_sm, pp_sm, psum_swap]
    refine psum_cong fun b hb => psum_cong fun a ha => ?_
    rw [c2]
    by_cases g : pz_c2 n h s f b a = true
    · have l := lt s f b a g
      rw [if_pos g, if_pos g, sy a b l.2 l.1]
    · rw [if_neg g, if_neg g]
  have emn : pz_mn n h f s = pz_mn n h s f := by rw [pmn_eq, pmn_eq, Nat.mul_comm]
  unfold pz_lk
  rw [emx, emi, esm, emn]
end TG
theorem pc_sb {P P' : Nat → Bool} : ∀ n : Nat, (∀ k, k < n → P k = true → P' k = true) → pz_ct P n ≤ pz_ct P' n
  | 0, _ => Nat.le_refl 0
  | n + 1, h => by
    rw [pz_ct, pz_ct]
    have := pc_sb n (fun k hk => h k (by omega))
    by_cases c : P n = true
    · rw [if_pos c, if_pos (h n (by omega) c)]; omega
    · rw [if_neg c]; omega
section TP
variable {n : Nat} {σ : zz_St}
theorem pf_cong {P P' : Nat → Bool} : ∀ n, (∀ k, k < n → P k = P' k) → pz_f P n = pz_f P' n
  | 0, _ => rfl
  | n + 1, h => by rw [pz_f, pz_f, pf_cong n (fun k hk => h k (by omega)), h n (by omega)]
theorem vPo_eq {p q : Nat} (hp : p < n) (hq : q < n) (e : pz_lo (vF n σ) p = pz_lo (vF n σ) q) : vPo n σ p = vPo n σ q := by
  unfold vPo
  refine pf_cong _ fun k _ => ?_
  unfold pz_P
  rw [e, decide_eq_true hp, decide_eq_true hq]
theorem vPo_grp (c5 : pz_CW5 σ) {p q : Nat} (hp : p < n) (hq : q < n) (e : vH n σ p = vH n σ q) : vPo n σ p = vPo n σ q := vPo_eq hp hq (by rw [← vLo_h c5 hp, ← vLo_h c5 hq, e])
/-- a need leads to the same parcel or an earlier one -/
theorem vPo_need {p q : Nat} (hp : p < n) (hq : q < n) (hd : vNd σ p q = true) : vPo n σ q ≤ vPo n σ p := by
  have hF := vF_eq n σ
  have f := vF_n (n := n) hp hq hd
  obtain ⟨lt, yes⟩ := vPo_ok (σ := σ) hp
  generalize vPo n σ p = K at lt yes
  have le : ∀ j, pz_P n (vF n σ) j q = true → vPo n σ q ≤ j := fun j g => pf_le (P := fun k => pz_P n (vF n σ) k q) g
  have lp := (pP.mp yes).2
  by_cases e : pz_lo (vF n σ) q = pz_lo (vF n σ) p
  · exact le K (pP.mpr ⟨hq, e.trans lp⟩)
  · obtain ⟨o1, o2, o3, o4⟩ := pod_ok hF lt
    have same : pz_lo (vF n σ) p = pz_lo (vF n σ) (pz_nx n (vF n σ) (pz_dn n (vF n σ) K)) := lp
    have f2 := ((pl_iff hF hp o2).mp same).2
    rcases (prd.mp o3).2 q hq (hF.2.2 _ _ _ f2 f) with d | d
    · obtain ⟨j, hj, ej⟩ := pdn_in d
      have := le j (pP.mpr ⟨hq, ej⟩)
      omega
    · exact absurd (d.trans same.symm) e
/-- no more parcels than groups -/
theorem vM_grp (c5 : pz_CW5 σ) : vM n σ ≤ pz_hc n (vH n σ) := by
  have hF := vF_eq n σ
  have hd : ∀ k, k < vM n σ → pz_od n (vF n σ) k < n ∧ vH n σ (pz_od n (vF n σ) k) = pz_od n (vF n σ) k := fun k hk => by
    have o := pod_ok hF hk
    exact ⟨o.1, vLo_hd c5 o.2.1⟩
  have key : ∀ m, m ≤ vM n σ → m ≤ pz_ct (fun p => decide (vH n σ p = p) && pz_ex (fun k => decide (pz_od n (vF n σ) k = p)) m) n := by
    intro m
    induction m with
    | zero => intro _; exact Nat.zero_le _
    | succ m ih =>
      intro hm
      have := ih (by omega)
      have lt : pz_ct (fun p => decide (vH n σ p = p) && pz_ex (fun k => decide (pz_od n (vF n σ) k = p)) m) n < pz_ct (fun p => decide (vH n σ p = p) && pz_ex (fun k => decide (pz_od n (vF n σ) k = p)) (m + 1)) n := by
        refine pc_lt (fun p _ g => ?_) ⟨pz_od n (vF n σ) m, (hd m (by omega)).1, ?_, ?_⟩
        · rw [Bool.and_eq_true] at g ⊢
          obtain ⟨k, hk, z⟩ := pex.mp g.2
          exact ⟨g.1, pex.mpr ⟨k, by omega, z⟩⟩
        · rw [Bool.and_eq_true]
          exact ⟨decide_eq_true (hd m (by omega)).2, pex.mpr ⟨m, by omega, decide_eq_true rfl⟩⟩
        · rw [Bool.and_eq_false_iff]
          refine Or.inr (pex_f.mpr fun k hk => decide_eq_false (pod_ne hF hk (by unfold vM at hm; omega)))
      omega
  refine Nat.le_trans (key _ (Nat.le_refl _)) ?_
  unfold pz_hc
  exact pc_sb n fun p _ g => by rw [Bool.and_eq_true] at g; exact g.1
/-- so many first parcels, as a set -/
theorem pQ_first (hm : vM n σ ≤ 9) {k : Nat} (hk : k ≤ vM n σ) (q : Nat) : vQ n σ (2 ^ k - 1) q = (decide (q < n) && pz_dn n (vF n σ) k q) := by
  unfold vQ
  rw [Bool.eq_iff_iff, pex, Bool.and_eq_true, decide_eq_true_iff]
  constructor
  · rintro ⟨j, hj, g⟩
    rw [Bool.and_eq_true, Nat.testBit_two_pow_sub_one, decide_eq_true_iff] at g
    have := pP.mp g.2
    exact ⟨this.1, pdn_of g.1 this.2⟩
  · rintro ⟨hq, g⟩
    obtain ⟨j, hj, e⟩ := pdn_in g
    refine ⟨j, by omega, ?_⟩
    rw [Bool.and_eq_true, Nat.testBit_two_pow_sub_one, decide_eq_true_iff]
    exact ⟨hj, pP.mpr ⟨hq, e⟩⟩
theorem pn_one (k : Nat) : 2 ^ k - 1 ||| 2 ^ k = 2 ^ (k + 1) - 1 := by
  apply Nat.eq_of_testBit_eq
  intro i
  rw [Nat.testBit_or, Nat.testBit_two_pow_sub_one, Nat.testBit_two_pow_sub_one, Nat.testBit_two_pow]
  by_cases a : i < k
  · rw [decide_eq_true a, decide_eq_true (show i < k + 1 by omega)]; rfl
  · by_cases b : k = i
    · rw [decide_eq_true b, decide_eq_true (show i < k + 1 by omega), Bool.or_true]
    · rw [decide_eq_false a, decide_eq_false b, decide_eq_false (show ¬ i < k + 1 by omega)]; rfl
/-- the least is no more than that of the order of the parcels -/
theorem pR_least {R : Nat → Nat} (hm : vM n σ ≤ 9) (hR : pz_IsR (vM n σ) (vCs n σ) R) : R 0 ≤ vBs n σ (vM n σ) := by
  have key : ∀ k, k ≤ vM n σ → R 0 ≤ vBs n σ k + R (2 ^ k - 1) := by
    intro k
    induction k with
    | zero => intro _; show R 0 ≤ 0 + R 0; omega
    | succ k ih =>
      intro hk
      have := ih (by omega)
      have lt : 2 ^ k - 1 < 2 ^ vM n σ - 1 := by
        have a := Nat.two_pow_pos k
        have b : 2 ^ k < 2 ^ vM n σ := Nat.pow_lt_pow_right (by decide) (by omega)
        omega
      have s := (hR.2 _ lt).1 k (by omega) (by rw [Nat.testBit_two_pow_sub_one, decide_eq_false (by omega)])
      rw [pn_one] at s
      have e : vCs n σ (2 ^ (k + 1) - 1) = vCt σ (fun q => decide (q < n) && pz_dn n (vF n σ) (k + 1) q) := by
        unfold vCs
        rw [show vQ n σ (2 ^ (k + 1) - 1) = fun q => decide (q < n) && pz_dn n (vF n σ) (k + 1) q from funext fun q => pQ_first hm hk q]
      rw [vBs, ← e]
      omega
  have := key _ (Nat.le_refl _)
  rw [hR.1] at this
  omega
/-- what the best order breaks, prefix by prefix -/
theorem pR_walk {m : Nat} {c R : Nat → Nat} (hR : pz_IsR m c R) : ∀ k, k ≤ m → pz_sum (fun j => c (pz_wk m c R (j + 1))) k + R (pz_wk m c R k) = R 0
  | 0, _ => Nat.zero_add _
  | k + 1, hk => by
    have ih := pR_walk hR k (by omega)
    obtain ⟨_, _, w⟩ := pw_ok hR (pwk_ne hR (show k < m by omega))
    rw [pz_sum]
    show pz_sum _ k + c (pz_wk m c R k ||| 2 ^ pz_wn m c R (pz_wk m c R k)) + R (pz_wk m c R k ||| 2 ^ pz_wn m c R (pz_wk m c R k)) = R 0
    omega
theorem pR_full {m : Nat} {c R : Nat → Nat} (hR : pz_IsR m c R) : R (pz_wk m c R m) = 0 := by
  obtain ⟨h1, h2⟩ := pwk_ok hR m (Nat.le_refl _)
  have : pz_wk m c R m = 2 ^ m - 1 := by
    apply Classical.byContradiction
    intro g
    obtain ⟨k, hk, hb⟩ := pn_all h1 g
    have z : pz_ct (fun i => (pz_wk m c R m).testBit i) m < pz_ct (fun _ => true) m := pc_lt (fun _ _ _ => rfl) ⟨k, hk, rfl, hb⟩
    have := pc_le (fun _ => true) m
    omega
  rw [this, hR.1]
end TP
