/-! pure part: what class and reference hold; affinities -/
theorem pz_for {S R : Type} (L : Nat → Nat → S → Option R) (F : Nat → S → S) (g : S → R) (N : Nat) (x : S)
    (step : ∀ k f, k < N → L (f + 1) k (pz_fd F x k) = L f (k + 1) (F k (pz_fd F x k)))
    (stop : ∀ f, L (f + 1) N (pz_fd F x N) = some (g (pz_fd F x N))) :
    ∀ (f k : Nat), k ≤ N → N < k + f → L f k (pz_fd F x k) = some (g (pz_fd F x N)) := by
  intro f
  induction f with
  | zero => intro k hk hf; omega
  | succ f ih =>
    intro k hk hf
    rcases Nat.lt_or_ge k N with h | h
    · rw [step k f h]; exact ih (k + 1) h (by omega)
    · have e : k = N := by omega
      subst e
      exact stop f
def pz_CW1 (n : Nat) (σ : zz_St) : Prop := n ≤ 14 ∧ σ 1 0 = nI n
def pz_CW2 (n : Nat) (σ : zz_St) : Prop := ∀ p, p < n → ∃ l, l ≤ 9999 ∧ σ 3 p = nI l
def pz_CW3 (n : Nat) (σ : zz_St) : Prop := ∀ w, w < 4 → (∀ p, p < 14 → n ≤ p → σ (8 + w) p = 0) ∧ (∀ p i, p < 14 → 16 ≤ i → pz_b (σ (8 + w) p) i = false) ∧ (∀ x i, x < 16 → pz_b (σ (13 + w) x) i = (decide (i < 14) && pz_b (σ (8 + w) i) x))
def pz_CW5 (σ : zz_St) : Prop := (∀ k, k < 4 → ∃ w, w ≤ 50 ∧ σ 20 k = nI w) ∧ (∃ t, 1 ≤ t ∧ t ≤ 999 ∧ σ 24 0 = nI t) ∧ (∃ a, a ≤ 2 ∧ σ 24 1 = nI a)
def pz_CW6 (n : Nat) (σ : zz_St) : Prop := (∀ p q, p < 14 → (pz_b (σ 22 p) q = true ∨ pz_b (σ 23 p) q = true) → p < n ∧ q < n) ∧ (∀ p q, p < n → q < n → pz_b (σ 22 p) q = pz_b (σ 22 q) p ∧ pz_b (σ 23 p) q = pz_b (σ 23 q) p ∧ ¬ (pz_b (σ 22 p) q = true ∧ pz_b (σ 23 p) q = true))
def pz_CW (n : Nat) (σ : zz_St) : Prop := pz_CW1 n σ ∧ pz_CW2 n σ ∧ pz_CW3 n σ ∧ pz_CW5 σ ∧ pz_CW6 n σ
/-! affinity -/
def vW (σ : zz_St) (k : Nat) : Nat := (σ 20 k).toNatClampNeg
def vA (σ : zz_St) (p : Nat) : Int32 := ((σ 8 p ||| σ 9 p) ||| σ 10 p) ||| σ 11 p
def vC (x y : Int32) : Nat := pz_ct (pz_b (x &&& y)) 16
def vU (x y : Int32) : Nat := pz_ct (pz_b (x ||| y)) 16
def vP0 (σ : zz_St) (a b : Nat) : Nat := if σ 2 a = σ 2 b ∧ ¬ σ 19 1 < zz_abs (σ 3 a - σ 3 b) then vW σ 0 else 0
def vP1 (σ : zz_St) (a b : Nat) : Nat := vW σ 1 * (vC (σ 8 a) (σ 10 b) + vC (σ 8 b) (σ 10 a))
def vP2 (σ : zz_St) (a b : Nat) : Nat := vW σ 2 * (vC (σ 9 a) (σ 8 b) + vC (σ 9 b) (σ 8 a))
def vP3 (σ : zz_St) (a b : Nat) : Nat := if vU (vA σ a) (vA σ b) = 0 then 0 else vW σ 3 * vC (vA σ a) (vA σ b) / vU (vA σ a) (vA σ b)
def vPt (σ : zz_St) (a b k : Nat) : Nat := if k = 0 then vP0 σ a b else if k = 1 then vP1 σ a b else if k = 2 then vP2 σ a b else vP3 σ a b
def vAf (σ : zz_St) (a b : Nat) : Nat := vP0 σ a b + vP1 σ a b + vP2 σ a b + vP3 σ a b
theorem vC_le (x y : Int32) : vC x y ≤ 16 := pc_le _ _
theorem vU_le (x y : Int32) : vU x y ≤ 16 := pc_le _ _
theorem vW_ok {σ : zz_St} (h : pz_CW5 σ) {k : Nat} (hk : k < 4) : vW σ k ≤ 50 ∧ σ 20 k = nI (vW σ k) := by
  obtain ⟨w, hw, e⟩ := h.1 k hk
  unfold vW
  rw [e, nI_clamp (by omega)]
  exact ⟨hw, rfl⟩
theorem vP_le {σ : zz_St} (h : pz_CW5 σ) (a b : Nat) : vP0 σ a b ≤ 50 ∧ vP1 σ a b ≤ 1600 ∧ vP2 σ a b ≤ 1600 ∧ vP3 σ a b ≤ 800 := by
  have w0 := (vW_ok h (k := 0) (by decide)).1
  have w1 := (vW_ok h (k := 1) (by decide)).1
  have w2 := (vW_ok h (k := 2) (by decide)).1
  have w3 := (vW_ok h (k := 3) (by decide)).1
  refine ⟨?_, ?_, ?_, ?_⟩
  · unfold vP0; split <;> omega
  · have := vC_le (σ 8 a) (σ 10 b)
    have := vC_le (σ 8 b) (σ 10 a)
    exact Nat.le_trans (Nat.mul_le_mul w1 (show _ ≤ 32 by omega)) (by decide)
  · have := vC_le (σ 9 a) (σ 8 b)
    have := vC_le (σ 9 b) (σ 8 a)
    exact Nat.le_trans (Nat.mul_le_mul w2 (show _ ≤ 32 by omega)) (by decide)
  · unfold vP3
    split
    · omega
    · refine Nat.le_trans (Nat.div_le_self _ _) ?_
      exact Nat.le_trans (Nat.mul_le_mul w3 (vC_le _ _)) (by decide)
theorem vAf_le {σ : zz_St} (h : pz_CW5 σ) (a b : Nat) : vAf σ a b ≤ 4050 := by
  have := vP_le h a b
  unfold vAf
  omega
theorem pc_b16 {n : Nat} {σ : zz_St} (h : pz_CW3 n σ) {w p i : Nat} (hw : w < 4) (hp : p < 14) (hi : 16 ≤ i) : pz_b (σ (8 + w) p) i = false := (h w hw).2.1 p i hp hi
theorem pf_bcA {x y : Int32} (h : ∀ i, 16 ≤ i → pz_b x i = false) : fJ6_bitCount (x &&& y) = some (nI (vC x y)) := pf_bc (fun i hi => by rw [pb_and, h i hi, Bool.false_and])
theorem pf_bcO {x y : Int32} (h : ∀ i, 16 ≤ i → pz_b x i = false) (h2 : ∀ i, 16 ≤ i → pz_b y i = false) : fJ6_bitCount (x ||| y) = some (nI (vU x y)) := pf_bc (fun i hi => by rw [pb_or, h i hi, h2 i hi]; rfl)
theorem vA_16 {n : Nat} {σ : zz_St} (h : pz_CW3 n σ) {p : Nat} (hp : p < 14) (i : Nat) (hi : 16 ≤ i) : pz_b (vA σ p) i = false := by
  unfold vA
  rw [pb_or, pb_or, pb_or, pc_b16 h (w := 0) (by decide) hp hi, pc_b16 h (w := 1) (by decide) hp hi, pc_b16 h (w := 2) (by decide) hp hi, pc_b16 h (w := 3) (by decide) hp hi]
  rfl
section AF
variable {n : Nat} {σ τ : zz_St}
theorem fc_cross (h : pz_CW3 n σ) {a b w o : Nat} (ha : a < 14) (hb : b < 14) (hw : w < 4) (ho : o < 4) : fX5_crossings σ (nI a) (nI b) (nI w) (nI o) = some (nI (vC (σ (8 + w) a) (σ (8 + o) b) + vC (σ (8 + w) b) (σ (8 + o) a))) := by
  unfold fX5_crossings
  simp (disch := omega) only [pz_ix, pz_ga, pz_bs]
  rw [pf_bcA (fun i hi => pc_b16 h hw ha hi), pz_bs, pf_bcA (fun i hi => pc_b16 h hw hb hi), pz_bs, nI_add]
theorem fc_every {a : Nat} (ha : a < 14) : fX5_everyNameOf σ (nI a) = some (vA σ a) := by
  unfold fX5_everyNameOf
  simp (disch := omega) only [pz_lit, pz_ix, pz_ga, pz_bs]
  rfl
theorem fc_share {x y : Int32} {w : Nat} (hw : w ≤ 50) (h : ∀ i, 16 ≤ i → pz_b x i = false) (h2 : ∀ i, 16 ≤ i → pz_b y i = false) : fX2_shareOf σ (nI w) x y = some (nI (if vU x y = 0 then 0 else w * vC x y / vU x y)) := by
  unfold fX2_shareOf
  have u := vU_le x y
  have c := vC_le x y
  rw [pf_bcO h h2, pz_bs]
  by_cases g : vU x y = 0
  · rw [if_pos g, if_pos (show nI (vU x y) = 0 by rw [g]; rfl)]
    rfl
  · rw [if_neg g, if_neg (nI_ne0 (by omega) (by omega)), pf_bcA h, pz_bs]
    unfold zz_dv
    rw [if_neg (nI_ne0 (by omega) (by omega)), pk_mul, pk_div (Nat.lt_of_le_of_lt (Nat.mul_le_mul hw c) (by decide)) (by omega) (by omega)]
    rfl
theorem fc_near {a b : Nat} (ha : a < 14) (hb : b < 14) : fX2_isNear σ (nI a) (nI b) = some (zz_bi (decide (σ 2 a = σ 2 b ∧ ¬ σ 19 1 < zz_abs (σ 3 a - σ 3 b)))) := by
  unfold fX2_isNear
  simp (disch := omega) only [pz_ga, pz_bs]
  by_cases g : σ 2 a = σ 2 b
  · by_cases g2 : σ 19 1 < zz_abs (σ 3 a - σ 3 b)
    · rw [if_pos g, if_pos g2, decide_eq_false (fun q => q.2 g2)]; rfl
    · rw [if_pos g, if_neg g2, decide_eq_true ⟨g, g2⟩]; rfl
  · rw [if_neg g, decide_eq_false (fun q => g q.1)]; rfl
theorem fc_points (h3 : pz_CW3 n σ) (h5 : pz_CW5 σ) {a b k : Nat} (ha : a < 14) (hb : b < 14) (hk : k < 4) : fX2_pointsBy σ (nI k) (nI a) (nI b) = some (nI (vPt σ a b k)) := by
  unfold fX2_pointsBy
  have w0 := vW_ok h5 (k := 0) (by decide)
  have w1 := vW_ok h5 (k := 1) (by decide)
  have w2 := vW_ok h5 (k := 2) (by decide)
  have w3 := vW_ok h5 (k := 3) (by decide)
  rcases (by omega : k = 0 ∨ k = 1 ∨ k = 2 ∨ k = 3) with e | e | e | e
  · subst e
    rw [if_pos (by decide), fc_near ha hb, pz_bs]
    unfold vPt vP0
    rw [if_pos rfl]
    by_cases g : σ 2 a = σ 2 b ∧ ¬ σ 19 1 < zz_abs (σ 3 a - σ 3 b)
    · rw [if_pos g, decide_eq_true g, if_neg (by decide), show (0 : Int32) = nI 0 from rfl, pz_ga (by decide) (by decide), w0.2]; rfl
    · rw [if_neg g, decide_eq_false g, if_pos (by decide)]; rfl
  · subst e
    rw [if_neg (by decide), if_pos (by decide), show (1 : Int32) = nI 1 from rfl, pz_ga (by decide) (by decide), pz_bs, show (0 : Int32) = nI 0 from rfl, show (2 : Int32) = nI 2 from rfl, fc_cross h3 ha hb (by decide) (by decide), pz_bs, w1.2, pk_mul]
    rfl
  · subst e
    rw [if_neg (by decide), if_neg (by decide), if_pos (by decide), show (2 : Int32) = nI 2 from rfl, pz_ga (by decide) (by decide), pz_bs, show (0 : Int32) = nI 0 from rfl, show (1 : Int32) = nI 1 from rfl, fc_cross h3 ha hb (by decide) (by decide), pz_bs, w2.2, pk_mul]
    rfl
  · subst e
    rw [if_neg (by decide), if_neg (by decide), if_neg (by decide), if_pos (by decide), show (3 : Int32) = nI 3 from rfl, pz_ga (by decide) (by decide), pz_bs, fc_every ha, pz_bs, fc_every hb, pz_bs, w3.2, fc_share w3.1 (vA_16 h3 ha) (vA_16 h3 hb)]
    rfl
theorem fc_aff (h3 : pz_CW3 n σ) (h5 : pz_CW5 σ) {a b : Nat} (ha : a < 14) (hb : b < 14) : fX2_sumOfPoints σ (nI a) (nI b) = some (nI (vAf σ a b)) := by
  unfold fX2_sumOfPoints
  have e := pz_for (S := Int32) (fun f k s => fX2_sumOfPoints_L1 σ (nI a) (nI b) f s (nI k)) (fun k s => s + nI (vPt σ a b k)) (fun s => (s, (4 : Int32))) 4 0 (fun k f hk => by
    show fX2_sumOfPoints_L1 σ (nI a) (nI b) (f + 1) _ (nI k) = _
    rw [fX2_sumOfPoints_L1, if_neg (show ¬ (4 : Int32) ≤ nI k from nI_ge (a := k) (b := 4) hk (by decide)), fc_points h3 h5 ha hb hk, pz_bs, pz_bs, nI_1]) (fun f => by
    show fX2_sumOfPoints_L1 σ (nI a) (nI b) (f + 1) _ (nI 4) = _
    rw [fX2_sumOfPoints_L1, if_pos (by decide)]
    rfl) 1000 0 (by decide) (by decide)
  rw [show fX2_sumOfPoints_L1 σ (nI a) (nI b) 1000 (0 : Int32) (0 : Int32) = _ from e, pz_bs]
  show some ((((0 + nI (vPt σ a b 0)) + nI (vPt σ a b 1)) + nI (vPt σ a b 2)) + nI (vPt σ a b 3)) = _
  rw [show (0 : Int32) = nI 0 from rfl, nI_add, nI_add, nI_add, nI_add, Nat.zero_add]
  rfl
theorem vC_co (x y : Int32) : vC x y = vC y x := pc_cong fun i _ => by rw [pb_and, pb_and, Bool.and_comm]
theorem vU_co (x y : Int32) : vU x y = vU y x := pc_cong fun i _ => by rw [pb_or, pb_or, Bool.or_comm]
theorem pz_absn {a b : Nat} (ha : a ≤ 9999) (hb : b ≤ 9999) : zz_abs (nI a - nI b) = nI (if a < b then b - a else a - b) := by
  unfold zz_abs
  rcases Nat.lt_or_ge a b with h | h
  · have q : ¬ 0 ≤ nI a - nI b := by
      have := pk_sneg (a := a) (b := b) (by omega) h
      rw [Int32.lt_iff_toInt_lt] at this
      rw [Int32.le_iff_toInt_le]
      omega
    rw [if_neg q, if_pos h, show (0 : Int32) - (nI a - nI b) = nI b - nI a from ?_, pk_sub (by omega)]
    rw [Int32.sub_eq_add_neg, Int32.neg_sub, Int32.zero_add]
  · rw [pk_sub h, if_neg (Nat.not_lt.mpr h), if_pos (nI_pos' (n := a - b) (by omega))]
theorem vAf_sy (h : pz_CW2 n σ) {a b : Nat} (ha : a < n) (hb : b < n) : vAf σ a b = vAf σ b a := by
  have e0 : vP0 σ a b = vP0 σ b a := by
    unfold vP0
    obtain ⟨la, h1, h2⟩ := h a ha
    obtain ⟨lb, h3, h4⟩ := h b hb
    rw [h2, h4, pz_absn h1 h3, pz_absn h3 h1]
    have e : (if la < lb then lb - la else la - lb) = if lb < la then la - lb else lb - la := by split <;> split <;> omega
    rw [e]
    by_cases g : σ 2 a = σ 2 b
    · rw [g]
    · rw [if_neg (fun q => g q.1), if_neg (fun q => g q.1.symm)]
  have e1 : vP1 σ a b = vP1 σ b a := by unfold vP1; rw [Nat.add_comm]
  have e2 : vP2 σ a b = vP2 σ b a := by unfold vP2; rw [Nat.add_comm]
  have e3 : vP3 σ a b = vP3 σ b a := by unfold vP3; rw [vU_co, vC_co]
  unfold vAf
  rw [e0, e1, e2, e3]
end AF

