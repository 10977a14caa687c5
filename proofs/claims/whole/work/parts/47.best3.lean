/-! pure part: leastBreakage, best, agreement -/
section BQ
variable {n : Nat} {σ σ' τ τ' : zz_St}
theorem t_leastBreakage (I : pz_I n σ τ) : ∃ rc σ' b τ', fX7_leastBreakage σ = some (rc, σ') ∧ fX8_leastBreakage τ = some (b, τ') ∧ pz_I n σ' τ' ∧ pz_a1 "java/lang/IllegalStateException" rc b (τ' 47 0) := by
  have hn := pI_n I
  obtain ⟨σ', I', h⟩ := fc_best I
  obtain ⟨τ', e2, I2, H, P, z⟩ := fm_p I'
  have hm := vM_le n σ'
  unfold fX7_leastBreakage fX8_leastBreakage
  rw [e2, pz_bs, P.1]
  rcases h with ⟨h9, e⟩ | ⟨h9, db, e⟩
  · rw [e, pz_bs, if_neg (show ¬ nI (vM n σ') ≤ 9 from nI_ge (a := 9) h9 (by omega))]
    exact ⟨_, σ', _, zz_u τ' 47 0 1, rfl, rfl, pI_m I2 (pm_u0 τ' 1), Or.inr ⟨rfl, pz_us⟩⟩
  · obtain ⟨τ2, e3, f3, R', hR', _, hv'⟩ := fm_least I2 P h9
    obtain ⟨_, R, hR, h440, _⟩ := db
    have sm : pz_sm' τ' τ2 := ⟨fun q h1 h2 => f3 q (by omega) (by omega), by rw [f3 47 (by decide) (by decide)], by rw [f3 47 (by decide) (by decide)], by rw [f3 47 (by decide) (by decide)], by rw [f3 47 (by decide) (by decide)]⟩
    have hpos := Nat.two_pow_pos (vM n σ')
    rw [e, pz_bs, if_pos (show nI (vM n σ') ≤ 9 from nI_le (b := 9) h9 (by decide)), e3, pz_bs, show zz_ga (τ2 61) 512 0 = some (τ2 61 0) from pz_ga (k := 0) (by decide) (by decide), pz_bs, (hv' 0 hpos).2, ← pR_eq hR hR' hpos]
    exact ⟨_, σ', _, τ2, rfl, rfl, pI_m I2 sm, Or.inl ⟨by rw [h440], by rw [f3 47 (by decide) (by decide)]; exact z⟩⟩
theorem fm_walk {m : Nat} {c R : Nat → Nat} (hm : m ≤ 9) (h : pz_IsR m c R) (hb : ∀ S, S < 2 ^ m → R S ≤ 16 * (2 ^ m - 1 - S)) (hc : ∀ S, c S ≤ 16) (hv : ∀ S, S < 2 ^ m → τ 60 S = nI (c S) ∧ τ 61 S = nI (R S)) {p : Nat} (hp : p < m) : ∃ r, fX8_best_L1 τ (nI p) 1000 0 0 0 = some r ∧ r.2.1 = nI (pz_wn m c R (pz_wk m c R p)) := by
  have h512 : 2 ^ m ≤ 512 := Nat.pow_le_pow_right (n := 2) (by decide) hm
  have inner : ∀ k, k < m → ∀ y, fX8_best_L2 τ (nI p) (nI (pz_wk m c R k)) y 1000 0 = some (nI (pz_wn m c R (pz_wk m c R k))) := by
    intro k hk y
    have hS := pwk_ne h hk
    generalize pz_wk m c R k = S at hS
    have w := pw_ok h hS
    have un : ∀ f q, q < m → fX8_best_L2 τ (nI p) (nI S) y (f + 1) (nI q) = if (!S.testBit q && decide (c (S ||| 2 ^ q) + R (S ||| 2 ^ q) = R S)) = true then some (nI q) else fX8_best_L2 τ (nI p) (nI S) y f (nI (q + 1)) := by
      intro f q hq
      rw [fX8_best_L2, pf_has (by omega), pz_bs, pb_nI (by omega), nI_1]
      cases g : S.testBit q with
      | true => rw [if_neg (by decide), pz_bs, if_pos rfl, if_neg (by simp)]
      | false =>
        have u := pn_up (show S < 2 ^ m by omega) hq g
        have b1 := hb _ u.2
        have b2 := hb S (by omega)
        have c1 := hc (S ||| 2 ^ q)
        rw [if_pos (by decide), pn_or (by omega), pz_ga (by omega) (by decide), pz_bs, pz_ga (by omega) (by decide), pz_bs, pz_ga (by omega) (by decide), pz_bs, (hv _ u.2).1, (hv _ u.2).2, (hv S (by omega)).2, nI_add]
        by_cases d : c (S ||| 2 ^ q) + R (S ||| 2 ^ q) = R S
        · rw [if_pos (by rw [d]), pz_bs, if_neg (by decide), decide_eq_true d, if_pos (by decide)]
        · rw [if_neg (by rw [nI_eq (by omega) (by omega)]; exact d), pz_bs, if_pos rfl, decide_eq_false d, if_neg (by decide)]
    obtain ⟨r, hr, er⟩ := pz_loop (S := Unit) (R := Int32) (fun f q _ => fX8_best_L2 τ (nI p) (nI S) y f (nI q)) (fun _ _ => True) (fun r => r = nI (pz_wn m c R S)) (pz_wn m c R S)
      (fun q f _ hq _ => Or.inl ⟨(), trivial, by
        show fX8_best_L2 τ (nI p) (nI S) y (f + 1) (nI q) = _
        have := pf2 (fun k => !S.testBit k && decide (c (S ||| 2 ^ k) + R (S ||| 2 ^ k) = R S)) m q hq
        rw [un f q (by omega), if_neg (by rw [this]; decide)]⟩)
      (fun f _ _ => ⟨_, rfl, by
        show fX8_best_L2 τ (nI p) (nI S) y (f + 1) (nI (pz_wn m c R S)) = _
        rw [un f _ w.1, if_pos (by rw [w.2.1, decide_eq_true w.2.2]; rfl)]⟩) 1000 0 () (Nat.zero_le _) trivial (by omega)
    rw [← hr]; exact er
  obtain ⟨r, hr, er⟩ := pz_loop (S := Int32 × Int32) (R := Int32 × Int32 × Int32) (fun f k t => fX8_best_L1 τ (nI p) f t.1 t.2 (nI k)) (fun k t => t.1 = nI (pz_wk m c R k) ∧ (0 < k → t.2 = nI (pz_wn m c R (pz_wk m c R (k - 1))))) (fun r => r.2.1 = nI (pz_wn m c R (pz_wk m c R p))) (p + 1)
    (fun k f t hk hP => by
      obtain ⟨a, b⟩ := t
      have h1 : a = nI (pz_wk m c R k) := hP.1
      have w := pw_ok h (pwk_ne h (show k < m by omega))
      refine Or.inl ⟨(nI (pz_wk m c R (k + 1)), nI (pz_wn m c R (pz_wk m c R k))), ⟨rfl, fun _ => rfl⟩, ?_⟩
      show fX8_best_L1 τ (nI p) (f + 1) a b (nI k) = _
      rw [fX8_best_L1, if_neg (nI_nlt (show k ≤ p by omega) (by omega)), h1, inner k (by omega), pz_bs, pz_bs, pn_or (by omega), nI_1, pz_wk])
    (fun f t hP => ⟨(t.1, t.2, nI (p + 1)), hP.2 (by omega), by
      show fX8_best_L1 τ (nI p) (f + 1) t.1 t.2 (nI (p + 1)) = _
      rw [fX8_best_L1, if_pos (nI_lt (by omega) (by omega))]⟩) 1000 0 (0, 0) (Nat.zero_le _) ⟨rfl, fun h => by omega⟩ (by omega)
  exact ⟨r, er, hr⟩
theorem t_best (I : pz_I n σ τ) (v : Int32) : ∃ rc σ' b τ', fX7_best σ v = some (rc, σ') ∧ fX8_best τ v = some (b, τ') ∧ pz_I n σ' τ' ∧ pz_a2 "java/lang/IllegalStateException" "java/lang/IndexOutOfBoundsException" rc b (τ' 47 0) := by
  have hn := pI_n I
  obtain ⟨σ', I', h⟩ := fc_best I
  obtain ⟨τ', e2, I2, H, P, z⟩ := fm_p I'
  have hm := vM_le n σ'
  unfold fX7_best fX8_best
  rw [e2, pz_bs, P.1]
  rcases h with ⟨h9, e⟩ | ⟨h9, db, e⟩
  · rw [e, pz_bs, if_neg (show ¬ nI (vM n σ') ≤ 9 from nI_ge (a := 9) h9 (by omega))]
    exact ⟨_, σ', _, zz_u τ' 47 0 1, rfl, rfl, pI_m I2 (pm_u0 τ' 1), Or.inr (Or.inl ⟨rfl, pz_us⟩)⟩
  · obtain ⟨_, R, hR, h440, h441, h45⟩ := db
    rw [e, pz_bs, if_pos (show nI (vM n σ') ≤ 9 from nI_le (b := 9) h9 (by decide)), fm_in, pz_bs]
    show ∃ rc σ'' b τ'', ((if v < 0 then some true else if v < σ' 44 1 then some false else some true).bind _) = _ ∧ _
    rw [h441]
    rcases pbd (vM n σ') (by omega) v with q | ⟨i, hi, rfl⟩
    · rw [(fm_ip (by omega) v).1 q, if_pos (show zz_bi false = 0 from rfl)]
      have : (if v < 0 then some true else if v < nI (vM n σ') then some false else some true) = some true := by
        by_cases g : v < 0
        · rw [if_pos g]
        · rcases q with q | q
          · exact absurd q g
          · rw [if_neg g, if_neg (Int32.not_lt.mpr q)]
      rw [this, pz_bs, if_pos rfl]
      exact ⟨_, σ', _, zz_u τ' 47 0 2, rfl, rfl, pI_m I2 (pm_u0 τ' 2), Or.inr (Or.inr ⟨rfl, pz_us⟩)⟩
    · obtain ⟨τ2, e3, f3, R', hR', hb', hv'⟩ := fm_least I2 P h9
      have sm : pz_sm' τ' τ2 := ⟨fun q h1 h2 => f3 q (by omega) (by omega), by rw [f3 47 (by decide) (by decide)], by rw [f3 47 (by decide) (by decide)], by rw [f3 47 (by decide) (by decide)], by rw [f3 47 (by decide) (by decide)]⟩
      obtain ⟨r, er, hr⟩ := fm_walk h9 hR' hb' (vCs_le n σ') hv' hi
      have cg : ∀ S, S < 2 ^ vM n σ' → R S = R' S := fun S hS => pR_eq hR hR' hS
      have wk := pwk_cong hR cg i (by omega)
      have wn := pw_cong cg (c := vCs n σ') (pwk_ok hR i (by omega)).1
      rw [(fm_ip (by omega) (nI i)).2 i hi, if_neg (show ¬ zz_bi true = 0 by decide), e3, pz_bs, er, pz_bs, hr, if_neg (nI_pos (n := i) (by omega)), if_pos (nI_lt hi (by omega)), pz_bs, if_neg (show ¬ false = true by decide), pz_ga (by omega) (by decide), pz_bs, h45 i hi, wn, wk]
      exact ⟨_, σ', _, τ2, rfl, rfl, pI_m I2 sm, Or.inl ⟨rfl, by rw [f3 47 (by decide) (by decide)]; exact z⟩⟩
/-! agreement -/
def pz_sum (g : Nat → Nat) : Nat → Nat
  | 0 => 0
  | n + 1 => pz_sum g n + g n
theorem psum_cong {g g' : Nat → Nat} : ∀ {n : Nat}, (∀ k, k < n → g k = g' k) → pz_sum g n = pz_sum g' n
  | 0, _ => rfl
  | n + 1, h => by rw [pz_sum, pz_sum, psum_cong (fun k hk => h k (by omega)), h n (by omega)]
theorem psum_add (g g' : Nat → Nat) : ∀ n, pz_sum (fun k => g k + g' k) n = pz_sum g n + pz_sum g' n
  | 0 => rfl
  | n + 1 => by rw [pz_sum, pz_sum, pz_sum, psum_add g g' n]; omega
theorem psum_0 : ∀ n, pz_sum (fun _ => 0) n = 0
  | 0 => rfl
  | n + 1 => by rw [pz_sum, psum_0 n]
theorem psum_swap (g : Nat → Nat → Nat) (m : Nat) : ∀ n, pz_sum (fun a => pz_sum (fun b => g a b) m) n = pz_sum (fun b => pz_sum (fun a => g a b) n) m
  | 0 => (psum_0 m).symm
  | n + 1 => by
    rw [pz_sum, psum_swap g m n, ← psum_add]
    rfl
theorem psum_gap {g : Nat → Nat} {a : Nat} : ∀ b, a ≤ b → (∀ j, a ≤ j → j < b → g j = 0) → pz_sum g b = pz_sum g a
  | 0, h, _ => by rw [show a = 0 by omega]
  | b + 1, h, z => by
    by_cases c : a = b + 1
    · rw [c]
    · rw [pz_sum, z b (by omega) (by omega), psum_gap b (by omega) (fun j h1 h2 => z j h1 (by omega)), Nat.add_zero]
def pz_tri : Nat → Nat
  | 0 => 0
  | n + 1 => pz_tri n + n
/-- the pairs a < b with f -/
def pz_pf (f : Nat → Nat → Bool) (a b : Nat) : Nat := if a < b ∧ f a b = true then 1 else 0
theorem ptri (n : Nat) : ∀ k, k ≤ n → pz_sum (fun b => pz_sum (fun a => pz_pf (fun _ _ => true) a b) n) k = pz_tri k
  | 0, _ => rfl
  | k + 1, h => by
    rw [pz_sum, ptri n k (by omega), pz_tri]
    congr 1
    rw [psum_gap (g := fun a => pz_pf (fun _ _ => true) a k) (a := k) n (by omega) (fun j h1 _ => if_neg (fun q => by omega))]
    have gen : ∀ j, j ≤ k → pz_sum (fun a => pz_pf (fun _ _ => true) a k) j = j := by
      intro j
      induction j with
      | zero => intro _; rfl
      | succ j ih => intro hj; rw [pz_sum, ih (by omega)]; unfold pz_pf; rw [if_pos ⟨by omega, rfl⟩]
    exact gen k (Nat.le_refl k)
theorem pdd : ∀ n, n ≤ 14 → ∀ a, a ≤ 91 → nI (pz_tri n) = 0 ∨ (zz_dd (FP.i2d (nI a)) (FP.i2d (nI (pz_tri n)))).isSome = true := by decide +kernel
def vAg (n : Nat) (σ : zz_St) (a b : Nat) : Bool := decide (σ 6 a = σ 6 b) == decide (vH n σ a = vH n σ b)
theorem fc_agree (I : pz_I n σ τ) (D : pz_D n σ) : ∃ q, fX7_agreement_L1 σ 1000 0 0 1 = some (nI (pz_sum (fun b => pz_sum (fun a => pz_pf (fun _ _ => true) a b) n) n), nI (pz_sum (fun b => pz_sum (fun a => pz_pf (vAg n σ) a b) n) n), q) := by
  have hn := pI_n I
  have hc := pI_c I
  obtain ⟨⟨k, e, E, hk, hs⟩, _⟩ := D
  have hkn := pEn_k E
  have hh := vH_Hd (n := n) I.1.2.2.2.1
  have tog : ∀ a b, a < n → b < n → fX3_isTogether σ (nI a) (nI b) = some (zz_bi (decide (vH n σ a = vH n σ b))) := by
    intro a b ha hb
    obtain ⟨i, hi, ei⟩ := E.2.2.2 (vH n σ a) (by have := hh a ha; omega) (hh a ha).2
    obtain ⟨j, hj, ej⟩ := E.2.2.2 (vH n σ b) (by have := hh b hb; omega) (hh b hb).2
    unfold fX3_isTogether
    rw [hk, fc_place25 hn E hs ha hi ei.symm, pz_bs, fc_place25 hn E hs hb hj ej.symm, pz_bs]
    by_cases g : i = j
    · rw [if_pos (by rw [g]), decide_eq_true (show vH n σ a = vH n σ b by rw [← ei, ← ej, g])]; rfl
    · rw [if_neg (by rw [nI_eq (by omega) (by omega)]; exact g), decide_eq_false (show ¬ vH n σ a = vH n σ b from fun q => g (pEn_inj E (by omega) (by omega) (by rw [ei, ej, q])))]; rfl
  have inner : ∀ b, b < n → ∀ P A : Nat, ∃ q, fX7_agreement_L2 σ (nI b) 1000 (nI P) (nI A) 0 = some (nI (P + pz_sum (fun a => pz_pf (fun _ _ => true) a b) n), nI (A + pz_sum (fun a => pz_pf (vAg n σ) a b) n), q) := by
    intro b hb P A
    obtain ⟨r, hr, er⟩ := pz_loop (S := Int32 × Int32) (R := Int32 × Int32 × Int32) (fun f a t => fX7_agreement_L2 σ (nI b) f t.1 t.2 (nI a)) (fun a t => t.1 = nI (P + pz_sum (fun a => pz_pf (fun _ _ => true) a b) a) ∧ t.2 = nI (A + pz_sum (fun a => pz_pf (vAg n σ) a b) a)) (fun r => r.1 = nI (P + pz_sum (fun a => pz_pf (fun _ _ => true) a b) b) ∧ r.2.1 = nI (A + pz_sum (fun a => pz_pf (vAg n σ) a b) b)) b
      (fun a f t ha hP => by
        obtain ⟨p, g⟩ := t
        have h1 : p = _ := hP.1
        have h2 : g = _ := hP.2
        refine Or.inl ⟨(nI (P + pz_sum (fun a => pz_pf (fun _ _ => true) a b) (a + 1)), nI (A + pz_sum (fun a => pz_pf (vAg n σ) a b) (a + 1))), ⟨rfl, rfl⟩, ?_⟩
        show fX7_agreement_L2 σ (nI b) (f + 1) p g (nI a) = _
        have e0 : (if σ 6 a = σ 6 b then some true else some false) = some (decide (σ 6 a = σ 6 b)) := by
          by_cases z : σ 6 a = σ 6 b
          · rw [if_pos z, decide_eq_true z]
          · rw [if_neg z, decide_eq_false z]
        rw [fX7_agreement_L2, if_neg (nI_ge ha (by omega)), pz_ga (by omega) (by decide), pz_bs, pz_ga (by omega) (by decide), pz_bs, e0, pz_bs, pz_bs, tog a b (by omega) hb, pz_bs, h1, h2, pz_sum, pz_sum]
        have p1 : pz_pf (fun _ _ => true) a b = 1 := if_pos ⟨ha, rfl⟩
        rw [p1]
        cases w : vAg n σ a b with
        | true =>
          have p2 : pz_pf (vAg n σ) a b = 1 := if_pos ⟨ha, w⟩
          unfold vAg at w
          rw [beq_iff_eq] at w
          rw [if_pos (by rw [w]), pz_bs, p2]
          simp only [nI_1] <;> rfl
        | false =>
          have p2 : pz_pf (vAg n σ) a b = 0 := if_neg (fun q => by rw [w] at q; exact absurd q.2 (by decide))
          unfold vAg at w
          rw [beq_eq_false_iff_ne] at w
          rw [if_neg (fun q => w ((pz_bii _ _).mp q)), pz_bs, p2]
          simp only [nI_1] <;> rfl)
      (fun f t hP => ⟨(t.1, t.2, nI b), hP, by
        show fX7_agreement_L2 σ (nI b) (f + 1) t.1 t.2 (nI b) = _
        rw [fX7_agreement_L2, if_pos (Int32.le_refl _)]⟩) 1000 0 (nI P, nI A) (Nat.zero_le _) ⟨rfl, rfl⟩ (by omega)
    refine ⟨r.2.2, ?_⟩
    rw [psum_gap (a := b) (g := fun a => pz_pf (fun _ _ => true) a b) n (by omega) (fun j h1 _ => if_neg (fun q => by omega)), psum_gap (a := b) (g := fun a => pz_pf (vAg n σ) a b) n (by omega) (fun j h1 _ => if_neg (fun q => by omega)), ← hr.1, ← hr.2]
    exact er
  have first : ∀ f : Nat → Nat → Bool, pz_sum (fun b => pz_sum (fun a => pz_pf f a b) n) 1 = 0 := fun f => by
    show 0 + pz_sum (fun a => pz_pf f a 0) n = 0
    rw [psum_gap (g := fun a => pz_pf f a 0) (a := 0) n (Nat.zero_le _) (fun j _ _ => if_neg (fun q => by omega))]
    rfl
  by_cases n0 : n = 0
  · refine ⟨1, ?_⟩
    rw [show (1000 : Nat) = 999 + 1 from rfl, fX7_agreement_L1, hc, n0, if_pos (by decide)]
    rfl
  obtain ⟨r, hr, er⟩ := pz_loop (S := Int32 × Int32) (R := Int32 × Int32 × Int32) (fun f b t => fX7_agreement_L1 σ f t.1 t.2 (nI b)) (fun b t => t.1 = nI (pz_sum (fun b => pz_sum (fun a => pz_pf (fun _ _ => true) a b) n) b) ∧ t.2 = nI (pz_sum (fun b => pz_sum (fun a => pz_pf (vAg n σ) a b) n) b)) (fun r => r.1 = nI (pz_sum (fun b => pz_sum (fun a => pz_pf (fun _ _ => true) a b) n) n) ∧ r.2.1 = nI (pz_sum (fun b => pz_sum (fun a => pz_pf (vAg n σ) a b) n) n)) n
    (fun b f t hb hP => by
      obtain ⟨p, g⟩ := t
      have h1 : p = _ := hP.1
      have h2 : g = _ := hP.2
      obtain ⟨q, eq⟩ := inner b hb (pz_sum (fun b => pz_sum (fun a => pz_pf (fun _ _ => true) a b) n) b) (pz_sum (fun b => pz_sum (fun a => pz_pf (vAg n σ) a b) n) b)
      refine Or.inl ⟨(nI (pz_sum (fun b => pz_sum (fun a => pz_pf (fun _ _ => true) a b) n) (b + 1)), nI (pz_sum (fun b => pz_sum (fun a => pz_pf (vAg n σ) a b) n) (b + 1))), ⟨rfl, rfl⟩, ?_⟩
      show fX7_agreement_L1 σ (f + 1) p g (nI b) = _
      rw [fX7_agreement_L1, hc, if_neg (nI_ge hb (by omega)), h1, h2, eq, pz_bs, nI_1]
      rfl)
    (fun f t hP => ⟨(t.1, t.2, nI n), hP, by
      show fX7_agreement_L1 σ (f + 1) t.1 t.2 (nI n) = _
      rw [fX7_agreement_L1, hc, if_pos (Int32.le_refl _)]⟩) 1000 1 (0, 0) (by omega) ⟨by rw [first]; rfl, by rw [first]; rfl⟩ (by omega)
  refine ⟨r.2.2, ?_⟩
  rw [← hr.1, ← hr.2]
  exact er
theorem fm_agree (I : pz_I n σ τ) (H : pz_HH n (vH n σ) τ) : ∃ q, fX8_agreement_L1 τ 1000 0 0 0 = some (nI (pz_sum (fun a => pz_sum (fun b => pz_pf (fun _ _ => true) a b) n) n), nI (pz_sum (fun a => pz_sum (fun b => pz_pf (vAg n σ) a b) n) n), q) := by
  have hn := pI_n I
  have ht := pI_t I
  have hh := vH_Hd (n := n) I.1.2.2.2.1
  have r2 := I.2.1.2.1
  have inner : ∀ a, a < n → ∀ P A : Nat, ∃ q, fX8_agreement_L2 τ (nI a) 1000 (nI P) (nI A) (nI (a + 1)) = some (nI (P + pz_sum (fun b => pz_pf (fun _ _ => true) a b) n), nI (A + pz_sum (fun b => pz_pf (vAg n σ) a b) n), q) := by
    intro a ha P A
    have z : ∀ f : Nat → Nat → Bool, pz_sum (fun b => pz_pf f a b) (a + 1) = 0 := fun f => by
      rw [psum_gap (g := fun b => pz_pf f a b) (a := 0) (a + 1) (Nat.zero_le _) (fun j _ hj => if_neg (fun q => by omega))]
      rfl
    obtain ⟨r, hr, er⟩ := pz_loop (S := Int32 × Int32) (R := Int32 × Int32 × Int32) (fun f b t => fX8_agreement_L2 τ (nI a) f t.1 t.2 (nI b)) (fun b t => a < b ∧ t.1 = nI (P + pz_sum (fun b => pz_pf (fun _ _ => true) a b) b) ∧ t.2 = nI (A + pz_sum (fun b => pz_pf (vAg n σ) a b) b)) (fun r => r.1 = nI (P + pz_sum (fun b => pz_pf (fun _ _ => true) a b) n) ∧ r.2.1 = nI (A + pz_sum (fun b => pz_pf (vAg n σ) a b) n)) n
      (fun b f t hb hP => by
        obtain ⟨p, g⟩ := t
        have hab : a < b := hP.1
        have h1 : p = _ := hP.2.1
        have h2 : g = _ := hP.2.2
        have la := (hh a ha).1
        have lb := (hh b hb).1
        refine Or.inl ⟨(nI (P + pz_sum (fun b => pz_pf (fun _ _ => true) a b) (b + 1)), nI (A + pz_sum (fun b => pz_pf (vAg n σ) a b) (b + 1))), ⟨by omega, rfl, rfl⟩, ?_⟩
        show fX8_agreement_L2 τ (nI a) (f + 1) p g (nI b) = _
        have e0 : (if σ 6 a = σ 6 b then some true else some false) = some (decide (σ 6 a = σ 6 b)) := by
          by_cases z : σ 6 a = σ 6 b
          · rw [if_pos z, decide_eq_true z]
          · rw [if_neg z, decide_eq_false z]
        have e1 : (if nI (vH n σ a) = nI (vH n σ b) then some true else some false) = some (decide (vH n σ a = vH n σ b)) := by
          by_cases z : vH n σ a = vH n σ b
          · rw [if_pos (by rw [z]), decide_eq_true z]
          · rw [if_neg (by rw [nI_eq (by omega) (by omega)]; exact z), decide_eq_false z]
        rw [fX8_agreement_L2, ht, if_neg (nI_ge hb (by omega)), pz_ga (by omega) (by decide), pz_bs, pz_ga (by omega) (by decide), pz_bs, H a ha, H b hb, e1, pz_bs, pz_ga (by omega) (by decide), pz_bs, pz_ga (by omega) (by decide), pz_bs, ← (r2 a ha).2.2.2.2, ← (r2 b hb).2.2.2.2, e0, pz_bs, h1, h2, pz_sum, pz_sum]
        have p1 : pz_pf (fun _ _ => true) a b = 1 := if_pos ⟨hab, rfl⟩
        rw [p1]
        cases w : vAg n σ a b with
        | true =>
          have p2 : pz_pf (vAg n σ) a b = 1 := if_pos ⟨hab, w⟩
          unfold vAg at w
          rw [beq_iff_eq] at w
          rw [if_pos (by rw [w]), pz_bs, pz_bs, p2]
          simp only [nI_1] <;> rfl
        | false =>
          have p2 : pz_pf (vAg n σ) a b = 0 := if_neg (fun q => by rw [w] at q; exact absurd q.2 (by decide))
          unfold vAg at w
          rw [beq_eq_false_iff_ne] at w
          rw [if_neg (fun q => w ((pz_bii _ _).mp q).symm), pz_bs, pz_bs, p2, Int32.add_zero]
          simp only [nI_1] <;> rfl)
      (fun f t hP => ⟨(t.1, t.2, nI n), hP.2, by
        show fX8_agreement_L2 τ (nI a) (f + 1) t.1 t.2 (nI n) = _
        rw [fX8_agreement_L2, ht, if_pos (Int32.le_refl _)]⟩) 1000 (a + 1) (nI P, nI A) (by omega) ⟨by omega, by rw [z]; rfl, by rw [z]; rfl⟩ (by omega)
    refine ⟨r.2.2, ?_⟩
    rw [← hr.1, ← hr.2]
    exact er
  obtain ⟨r, hr, er⟩ := pz_loop (S := Int32 × Int32) (R := Int32 × Int32 × Int32) (fun f a t => fX8_agreement_L1 τ f t.1 t.2 (nI a)) (fun a t => t.1 = nI (pz_sum (fun a => pz_sum (fun b => pz_pf (fun _ _ => true) a b) n) a) ∧ t.2 = nI (pz_sum (fun a => pz_sum (fun b => pz_pf (vAg n σ) a b) n) a)) (fun r => r.1 = nI (pz_sum (fun a => pz_sum (fun b => pz_pf (fun _ _ => true) a b) n) n) ∧ r.2.1 = nI (pz_sum (fun a => pz_sum (fun b => pz_pf (vAg n σ) a b) n) n)) n
    (fun a f t ha hP => by
      obtain ⟨p, g⟩ := t
      have h1 : p = _ := hP.1
      have h2 : g = _ := hP.2
      obtain ⟨q, eq⟩ := inner a ha (pz_sum (fun a => pz_sum (fun b => pz_pf (fun _ _ => true) a b) n) a) (pz_sum (fun a => pz_sum (fun b => pz_pf (vAg n σ) a b) n) a)
      refine Or.inl ⟨(nI (pz_sum (fun a => pz_sum (fun b => pz_pf (fun _ _ => true) a b) n) (a + 1)), nI (pz_sum (fun a => pz_sum (fun b => pz_pf (vAg n σ) a b) n) (a + 1))), ⟨rfl, rfl⟩, ?_⟩
      show fX8_agreement_L1 τ (f + 1) p g (nI a) = _
      rw [fX8_agreement_L1, ht, if_neg (nI_ge ha (by omega)), pz_bs, nI_1, h1, h2, eq, pz_bs]
      rfl)
    (fun f t hP => ⟨(t.1, t.2, nI n), hP, by
      show fX8_agreement_L1 τ (f + 1) t.1 t.2 (nI n) = _
      rw [fX8_agreement_L1, ht, if_pos (Int32.le_refl _)]⟩) 1000 0 (0, 0) (Nat.zero_le _) ⟨rfl, rfl⟩ (by omega)
  refine ⟨r.2.2, ?_⟩
  rw [← hr.1, ← hr.2]
  exact er
theorem t_agreement (I : pz_I n σ τ) : ∃ b σ' τ', fX7_agreement σ = some (b, σ') ∧ fX8_agreement τ = some (b, τ') ∧ pz_I n σ' τ' := by
  have hn := pI_n I
  obtain ⟨σ', e, I', D, _⟩ := fc_together I
  obtain ⟨τ', e2, I2, H, l, A, z⟩ := fm_g I'
  obtain ⟨q1, a1⟩ := fc_agree I' D
  obtain ⟨q2, a2⟩ := fm_agree I2 H
  rw [psum_swap, psum_swap (fun a b => pz_pf (vAg n σ') a b), ptri n n (Nat.le_refl n)] at a2
  rw [ptri n n (Nat.le_refl n)] at a1
  have bound : pz_sum (fun b => pz_sum (fun a => pz_pf (vAg n σ') a b) n) n ≤ 91 := by
    have le : ∀ m, pz_sum (fun b => pz_sum (fun a => pz_pf (vAg n σ') a b) n) m ≤ pz_sum (fun b => pz_sum (fun a => pz_pf (fun _ _ => true) a b) n) m := by
      have mono : ∀ (g g' : Nat → Nat), (∀ k, g k ≤ g' k) → ∀ m, pz_sum g m ≤ pz_sum g' m := by
        intro g g' h m
        induction m with
        | zero => exact Nat.le_refl 0
        | succ m ih => rw [pz_sum, pz_sum]; have := h m; omega
      refine mono _ _ fun b => mono _ _ (fun a => ?_) n
      unfold pz_pf
      by_cases g : a < b ∧ vAg n σ' a b = true
      · rw [if_pos g, if_pos ⟨g.1, rfl⟩]; omega
      · rw [if_neg g]; omega
    have t := le n
    rw [ptri n n (Nat.le_refl n)] at t
    have : pz_tri n ≤ 91 := (by decide : ∀ n, n ≤ 14 → pz_tri n ≤ 91) n hn
    omega
  generalize pz_sum (fun b => pz_sum (fun a => pz_pf (vAg n σ') a b) n) n = A at a1 a2 bound
  have fin : ∃ b, (if nI (pz_tri n) = 0 then some FP.dconst1 else (zz_dd (FP.i2d (nI A)) (FP.i2d (nI (pz_tri n)))).bind fun x29 => some x29) = some b := by
    rcases pdd n hn A bound with h | h
    · rw [if_pos h]; exact ⟨_, rfl⟩
    · by_cases g : nI (pz_tri n) = 0
      · rw [if_pos g]; exact ⟨_, rfl⟩
      · rw [if_neg g]
        obtain ⟨b, hb⟩ := Option.isSome_iff_exists.mp h
        exact ⟨b, by rw [hb]; rfl⟩
  obtain ⟨b, hb⟩ := fin
  refine ⟨b, σ', τ', ?_, ?_, I2⟩
  · unfold fX7_agreement
    rw [e, pz_bs, a1, pz_bs]
    show ((if nI (pz_tri n) = 0 then some FP.dconst1 else (zz_dd (FP.i2d (nI A)) (FP.i2d (nI (pz_tri n)))).bind fun x29 => some x29).bind _) = _
    rw [hb, pz_bs]
  · unfold fX8_agreement
    rw [e2, pz_bs, a2, pz_bs]
    show ((if nI (pz_tri n) = 0 then some FP.dconst1 else (zz_dd (FP.i2d (nI A)) (FP.i2d (nI (pz_tri n)))).bind fun x29 => some x29).bind _) = _
    rw [hb, pz_bs]
end BQ
