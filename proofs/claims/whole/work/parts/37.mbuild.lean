/-! pure part: the reference's groups, built -/
section MD
variable {n : Nat} {σ σ' τ τ' : zz_St}
def pz_RM (th : Nat) (x : Nat × Nat × Nat) (i j g : Int32) : Prop := (th ≤ x.2.2 ∧ x.2.2 ≤ 1000000 ∧ x.1 < 14 ∧ x.2.1 < 14 ∧ i = nI x.1 ∧ j = nI x.2.1 ∧ g = nI x.2.2) ∨ (x.2.2 = th - 1 ∧ i = -1 ∧ j = -1 ∧ g = nI (th - 1))
theorem plk_le {n ma f s : Nat} {af : Nat → Nat → Nat} {h : Nat → Nat} (hA : ∀ a b, af a b ≤ 4050) : pz_lk n af ma h f s ≤ 1000000 := by
  have sb : pz_sm n af h f s ≤ 14 * 56700 := by
    unfold pz_sm pz_pp
    refine pd_inv (fun k y => y ≤ k * 56700) (Nat.zero_le _) 14 fun a y _ hy => ?_
    have := psm_le (c := pz_c2 n h f s a) (v := fun b => af a b) (M := 4050) (x := y) (fun b => hA a b) 14
    have e : (a + 1) * 56700 = a * 56700 + 56700 := Nat.succ_mul a 56700
    show pz_fd (fun b z => if pz_c2 n h f s a b = true then z + af a b else z) y 14 ≤ _
    omega
  have xb : pz_mx n af h f s ≤ 4050 := by
    unfold pz_mx pz_pp
    exact pd_inv (fun _ y => y ≤ 4050) (Nat.zero_le _) 14 fun a y _ hy => pmx_le (c := pz_c2 n h f s a) (v := fun b => af a b) (hA a) hy 14
  have ib : pz_mi n af h f s ≤ 1000000 := by
    unfold pz_mi pz_pp
    exact pd_inv (fun _ y => y ≤ 1000000) (Nat.le_refl 1000000) 14 fun a y _ hy => pmi_le (c := pz_c2 n h f s a) (v := fun b => af a b) hy 14
  unfold pz_lk
  have := Nat.div_le_self (pz_sm n af h f s) (pz_mn n h f s)
  split
  · omega
  · split <;> omega
theorem fm_near2 {h : Nat → Nat} (M : pz_MB n σ τ) (A : pz_MA n σ τ) (H : pz_HH n h τ) (hh : pz_Hd n h) (y : Int32) {f : Nat} (hf : f < n) (x0 : Nat × Nat × Nat) (i0 j0 g0 : Int32) (R0 : pz_RM (vTh σ) x0 i0 j0 g0) : ∃ r, pz_RM (vTh σ) (pz_fd (fun s y => pz_st n (vNo σ) (vAf σ) (vMa σ) h f s y) x0 n) r.1 r.2.1 r.2.2.1 ∧ fX8_makeGroups_L5 τ y (nI f) 1000 i0 j0 g0 (nI (f + 1)) = some r := by
  have hn := M.1.1.1
  have ht := M.2.1
  have c5 := M.1.2.2.2.1
  obtain ⟨t1, t2, t3⟩ := vTh_ok c5
  have start : pz_fd (fun s y => pz_st n (vNo σ) (vAf σ) (vMa σ) h f s y) x0 (f + 1) = x0 := by
    rw [pd_skip (F := fun s y => pz_st n (vNo σ) (vAf σ) (vMa σ) h f s y) (m := 0) _ (Nat.zero_le _) (fun s _ hs y => if_neg (fun w => by have := w.1; omega))]
    rfl
  exact pz_loop (S := Int32 × Int32 × Int32) (R := Int32 × Int32 × Int32 × Int32) (fun g s t => fX8_makeGroups_L5 τ y (nI f) g t.1 t.2.1 t.2.2 (nI s))
    (fun s t => f < s ∧ pz_RM (vTh σ) (pz_fd (fun s y => pz_st n (vNo σ) (vAf σ) (vMa σ) h f s y) x0 s) t.1 t.2.1 t.2.2)
    (fun r => pz_RM (vTh σ) (pz_fd (fun s y => pz_st n (vNo σ) (vAf σ) (vMa σ) h f s y) x0 n) r.1 r.2.1 r.2.2.1) n
    (fun s g t hs hP => by
      obtain ⟨i, j, b⟩ := t
      obtain ⟨hfs, R⟩ := hP
      have lf := (hh f hf).1
      have ls := (hh s hs).1
      have nx : pz_fd (fun s y => pz_st n (vNo σ) (vAf σ) (vMa σ) h f s y) x0 (s + 1) = pz_st n (vNo σ) (vAf σ) (vMa σ) h f s (pz_fd (fun s y => pz_st n (vNo σ) (vAf σ) (vMa σ) h f s y) x0 s) := rfl
      rw [nx]
      generalize pz_fd (fun s y => pz_st n (vNo σ) (vAf σ) (vMa σ) h f s y) x0 s = x at R
      replace R : pz_RM (vTh σ) x i j b := R
      refine Or.inl ?_
      show ∃ s' : Int32 × Int32 × Int32, _ ∧ fX8_makeGroups_L5 τ y (nI f) (g + 1) i j b (nI s) = _
      -- b is the fold's value
      have bv : b = nI x.2.2 ∧ x.2.2 ≤ 1000000 := by
        rcases R with ⟨a1, a2, _, _, _, _, a3⟩ | ⟨a1, _, _, a3⟩
        · exact ⟨a3, a2⟩
        · rw [a1]; exact ⟨a3, by omega⟩
      by_cases good : h f = f ∧ h s = s ∧ pz_bar n (vNo σ) h f s = false ∧ x.2.2 < pz_lk n (vAf σ) (vMa σ) h f s
      · obtain ⟨q1, q2, q3, q4⟩ := good
        have el := fm_link M A H hh (f := f) (s := s) (by omega) hf hs q1 q2
        have bl : pz_lk n (vAf σ) (vMa σ) h f s ≤ 1000000 := plk_le (vAf_le c5)
        refine ⟨(nI f, nI s, nI (pz_lk n (vAf σ) (vMa σ) h f s)), ⟨by omega, ?_⟩, ?_⟩
        · have e : pz_st n (vNo σ) (vAf σ) (vMa σ) h f s x = (f, s, pz_lk n (vAf σ) (vMa σ) h f s) := if_pos ⟨hfs, q1, q2, q3, q4⟩
          rw [e]
          refine Or.inl ⟨?_, bl, show f < 14 by omega, show s < 14 by omega, rfl, rfl, rfl⟩
          show vTh σ ≤ pz_lk n (vAf σ) (vMa σ) h f s
          rcases R with ⟨a1, _⟩ | ⟨a1, _⟩ <;> omega
        · rw [fX8_makeGroups_L5, ht, if_neg (nI_ge hs (by omega)), pz_ga (by omega) (by decide), pz_bs, H f hf, if_pos (by rw [q1]), pz_ga (by omega) (by decide), pz_bs, H s hs, if_pos (by rw [q2]), fm_bar M H hh hf hs, pz_bs, q3, if_pos (by decide), el, pz_bs, bv.1, if_pos (nI_lt q4 (by omega)), pz_bs, if_neg (by decide), pz_bs, nI_1]
      · refine ⟨(i, j, b), ⟨by omega, ?_⟩, ?_⟩
        · have e : pz_st n (vNo σ) (vAf σ) (vMa σ) h f s x = x := if_neg (fun w => good w.2)
          rw [e]; exact R
        · rw [fX8_makeGroups_L5, ht, if_neg (nI_ge hs (by omega)), pz_ga (by omega) (by decide), pz_bs, H f hf]
          by_cases q1 : h f = f
          · rw [if_pos (by rw [q1]), pz_ga (by omega) (by decide), pz_bs, H s hs]
            by_cases q2 : h s = s
            · rw [if_pos (by rw [q2]), fm_bar M H hh hf hs, pz_bs]
              cases q3 : pz_bar n (vNo σ) h f s with
              | true => rw [if_neg (by decide), pz_bs, if_pos rfl, nI_1]
              | false =>
                have el := fm_link M A H hh (f := f) (s := s) (by omega) hf hs q1 q2
                have q4 : ¬ x.2.2 < pz_lk n (vAf σ) (vMa σ) h f s := fun w => good ⟨q1, q2, q3, w⟩
                rw [if_pos (by decide), el, pz_bs, bv.1, if_neg (show ¬ nI x.2.2 < nI (pz_lk n (vAf σ) (vMa σ) h f s) by rw [nI_ltI (by omega) (by omega)]; exact q4), pz_bs, if_pos rfl, nI_1]
            · rw [if_neg (by rw [nI_eq (by omega) (by omega)]; exact q2), pz_bs, if_pos rfl, nI_1]
          · rw [if_neg (by rw [nI_eq (by omega) (by omega)]; exact q1), pz_bs, if_pos rfl, nI_1])
    (fun g t hP => by
      obtain ⟨i, j, b⟩ := t
      refine ⟨(i, j, b, nI n), hP.2, ?_⟩
      show fX8_makeGroups_L5 τ y (nI f) (g + 1) i j b (nI n) = _
      rw [fX8_makeGroups_L5, ht, if_pos (Int32.le_refl _)]) 1000 (f + 1) (i0, j0, g0) (by omega) ⟨by omega, by rw [start]; exact R0⟩ (by omega)
theorem fm_near {h : Nat → Nat} (M : pz_MB n σ τ) (A : pz_MA n σ τ) (H : pz_HH n h τ) (hh : pz_Hd n h) (y : Int32) : ∃ r, pz_RM (vTh σ) (pz_near n (vNo σ) (vAf σ) (vMa σ) (vTh σ) h) r.1 r.2.1 r.2.2.1 ∧ fX8_makeGroups_L4 τ y 1000 (-1) (-1) (τ 47 10 - 1) 0 = some r := by
  have hn := M.1.1.1
  have ht := M.2.1
  obtain ⟨t1, t2, t3⟩ := vTh_ok M.1.2.2.2.1
  have e10 : τ 47 10 - 1 = nI (vTh σ - 1) := by
    rw [← M.2.2.2.2.2.1.2.2.1, t3]
    exact pk_sub (a := vTh σ) (b := 1) t1
  rw [e10]
  exact pz_loop (S := Int32 × Int32 × Int32) (R := Int32 × Int32 × Int32 × Int32) (fun g f t => fX8_makeGroups_L4 τ y g t.1 t.2.1 t.2.2 (nI f))
    (fun f t => pz_RM (vTh σ) (pz_fd (fun f x => pz_fd (fun s y => pz_st n (vNo σ) (vAf σ) (vMa σ) h f s y) x n) (0, 0, vTh σ - 1) f) t.1 t.2.1 t.2.2)
    (fun r => pz_RM (vTh σ) (pz_near n (vNo σ) (vAf σ) (vMa σ) (vTh σ) h) r.1 r.2.1 r.2.2.1) n
    (fun f g t hf hP => by
      obtain ⟨i, j, b⟩ := t
      obtain ⟨r, hr, er⟩ := fm_near2 M A H hh y hf _ i j b hP
      refine Or.inl ⟨(r.1, r.2.1, r.2.2.1), hr, ?_⟩
      show fX8_makeGroups_L4 τ y (g + 1) i j b (nI f) = _
      rw [fX8_makeGroups_L4, ht, if_neg (nI_ge hf (by omega)), pz_bs, nI_1, er, pz_bs])
    (fun g t hP => by
      obtain ⟨i, j, b⟩ := t
      refine ⟨(i, j, b, nI n), hP, ?_⟩
      show fX8_makeGroups_L4 τ y (g + 1) i j b (nI n) = _
      rw [fX8_makeGroups_L4, ht, if_pos (Int32.le_refl _)]) 1000 0 (-1, -1, nI (vTh σ - 1)) (Nat.zero_le _) (Or.inr ⟨rfl, rfl, rfl, rfl⟩) (by omega)
theorem fm_rounds : ∀ (r : Nat) (τ : zz_St) (h : Nat → Nat) (f : Nat), r + 2 ≤ f → pz_hc n h ≤ r → pz_MB n σ τ → pz_MA n σ τ → pz_HH n h τ → pz_Hd n h → ∃ τ' b, fX8_makeGroups_L3 f 1 τ = some (b, τ') ∧ pz_HH n (pz_mk n (vNo σ) (vAf σ) (vMa σ) (vTh σ) r h (τ 47 13)).1 τ' ∧ τ' 47 13 = (pz_mk n (vNo σ) (vAf σ) (vMa σ) (vTh σ) r h (τ 47 13)).2 ∧ (∀ q, q ≠ 47 → q ≠ 55 → τ' q = τ q) ∧ (∀ z, z ≠ 13 → τ' 47 z = τ 47 z) := by
  intro r
  induction r with
  | zero =>
    intro τ h f hf hc M A H hh
    obtain ⟨t1, t2, t3⟩ := vTh_ok M.1.2.2.2.1
    have nov : (pz_near n (vNo σ) (vAf σ) (vMa σ) (vTh σ) h).2.2 < vTh σ := by
      rcases pn_ok n (vNo σ) (vAf σ) (vMa σ) (vTh σ) t1 h with w | ⟨_, w1, w2, w3, w4⟩
      · omega
      · have z : pz_hc n h = 0 := by omega
        have := (pc_0 (P := fun p => decide (h p = p)) (n := n)).mp z _ w2
        rw [w4] at this
        exact absurd rfl (of_decide_eq_false this)
    cases f with
    | zero => omega
    | succ f =>
      cases f with
      | zero => omega
      | succ f =>
        obtain ⟨q, hq, eq⟩ := fm_near M A H hh 1
        rcases hq with ⟨a1, _⟩ | ⟨_, a2, _, _⟩
        · omega
        · refine ⟨τ, 0, ?_, H, rfl, fun _ _ _ => rfl, fun _ _ => rfl⟩
          rw [fX8_makeGroups_L3, if_neg (by decide), pz_bs, eq, pz_bs, a2, if_pos rfl, pz_bs, pz_bs]
          rfl
  | succ r ih =>
    intro τ h f hf hc M A H hh
    obtain ⟨t1, t2, t3⟩ := vTh_ok M.1.2.2.2.1
    cases f with
    | zero => omega
    | succ f =>
      obtain ⟨q, hq, eq⟩ := fm_near M A H hh 1
      rcases pn_ok n (vNo σ) (vAf σ) (vMa σ) (vTh σ) t1 h with w | ⟨w0, w1, w2, w3, w4⟩
      · rcases hq with ⟨a1, _⟩ | ⟨_, a2, _, _⟩
        · omega
        · cases f with
          | zero => omega
          | succ f =>
            refine ⟨τ, 0, ?_, ?_, ?_, fun _ _ _ => rfl, fun _ _ => rfl⟩
            · rw [fX8_makeGroups_L3, if_neg (by decide), pz_bs, eq, pz_bs, a2, if_pos rfl, pz_bs, pz_bs]
              rfl
            · rw [pz_mk, if_pos (by omega)]; exact H
            · rw [pz_mk, if_pos (by omega)]
      · rcases hq with ⟨_, _, _, _, a1, a2, a3⟩ | ⟨a1, _⟩
        · generalize hx : pz_near n (vNo σ) (vAf σ) (vMa σ) (vTh σ) h = x at w0 w1 w2 w3 w4 a1 a2 a3
          have hn := M.1.1.1
          have sm1 : pz_sm' τ (zz_u τ 47 13 q.2.2.1) := pm_u13 τ _
          obtain ⟨τ1, e1, f1, H1⟩ := fm_joinHeads (τ := zz_u τ 47 13 q.2.2.1) (h := h) (by rw [pz_uj (by decide)]; exact M.2.1) hn hh (fun p hp => by rw [pz_uq (by decide)]; exact H p hp) (x := x.1) (y := x.2.1) (by omega) w2
          have sm2 : pz_sm' (zz_u τ 47 13 q.2.2.1) τ1 := ⟨fun q h1 h2 => f1 q (by omega), by rw [f1 47 (by decide)], by rw [f1 47 (by decide)], by rw [f1 47 (by decide)], by rw [f1 47 (by decide)]⟩
          have hne : ¬ nI x.1 = (-1 : Int32) := fun z => absurd (nI_pos' (n := x.1) (by omega)) (by rw [z]; decide)
          have hc1 := pJ_hc hh w3 w4 w1 w2
          obtain ⟨τ2, b, e2, H2, l2, g1, g2⟩ := ih τ1 (pz_J h x.1 x.2.1) f (by omega) (by omega) ⟨M.1, pm_RL (pm_tr sm1 sm2) M.2⟩ (fun a b ha hb hab => by rw [f1 56 (by decide), pz_uq (by decide)]; exact A a b ha hb hab) H1 (pJ_Hd hh w3 w4 (by omega))
          rw [f1 47 (by decide), pz_us, a3] at H2 l2
          refine ⟨τ2, b, ?_, ?_, ?_, fun q h1 h2 => by rw [g1 q h1 h2, f1 q h2, pz_uq h1], fun z hz => by rw [g2 z hz, f1 47 (by decide), pz_uj hz]⟩
          · rw [fX8_makeGroups_L3, if_neg (by decide), pz_bs, eq, pz_bs, a1, if_neg hne, pz_bs, pz_bs, if_neg (by decide), a2, e1, pz_bs]
            exact e2
          · rw [pz_mk, hx, if_neg (by omega)]; exact H2
          · rw [pz_mk, hx, if_neg (by omega)]; exact l2
        · omega
/-- the reference's groups are the same as ours -/
theorem fm_groups (M : pz_MB n σ τ) : ∃ τ', fX8_makeGroups τ = some τ' ∧ pz_HH n (vH n σ) τ' ∧ τ' 47 13 = (vMk n σ).2 ∧ pz_MA n σ τ' ∧ (∀ q, q ≠ 47 → q ≠ 55 → q ≠ 56 → τ' q = τ q) ∧ (∀ z, z ≠ 13 → τ' 47 z = τ 47 z) := by
  have hn := M.1.1.1
  unfold fX8_makeGroups
  obtain ⟨τ1, e1, f1, H1⟩ := fm_start M.1.2.2.2.2 hn M.2.1 M.2.2.2.2.2.2
  have sm1 : pz_sm' τ τ1 := ⟨fun q h1 h2 => f1 q (by omega), by rw [f1 47 (by decide)], by rw [f1 47 (by decide)], by rw [f1 47 (by decide)], by rw [f1 47 (by decide)]⟩
  obtain ⟨τ2, e2, f2, A2⟩ := fm_weigh (σ := σ) (τ := τ1) ⟨M.1, pm_RL sm1 M.2⟩
  have sm2 : pz_sm' τ1 τ2 := ⟨fun q h1 h2 => f2 q (by omega), by rw [f2 47 (by decide)], by rw [f2 47 (by decide)], by rw [f2 47 (by decide)], by rw [f2 47 (by decide)]⟩
  have sm3 : pz_sm' τ2 (zz_u τ2 47 13 (-1)) := pm_u13 τ2 _
  have hc : pz_hc n (pz_h0 n (vMu σ)) ≤ 14 := Nat.le_trans (pc_le _ _) hn
  obtain ⟨τ3, b, e3, H3, l3, g1, g2⟩ := fm_rounds (σ := σ) 14 (zz_u τ2 47 13 (-1)) (pz_h0 n (vMu σ)) 1000 (by decide) hc ⟨M.1, pm_RL (pm_tr sm1 (pm_tr sm2 sm3)) M.2⟩ (fun a b ha hb hab => by rw [pz_uq (by decide)]; exact A2 a b ha hb hab) (fun p hp => by rw [pz_uq (by decide), f2 55 (by decide)]; exact H1 p hp) (ph0 n _)
  rw [pz_us] at H3 l3
  refine ⟨τ3, ?_, H3, l3, fun a b ha hb hab => by rw [g1 56 (by decide) (by decide), pz_uq (by decide)]; exact A2 a b ha hb hab, fun q h1 h2 h3 => by rw [g1 q h1 h2, pz_uq h1, f2 q h3, f1 q h2], fun z hz => by rw [g2 z hz, pz_uj hz, f2 47 (by decide), f1 47 (by decide)]⟩
  rw [e1, pz_bs, e2, pz_bs]
  show (fX8_makeGroups_L3 1000 1 (zz_u τ2 47 13 (-1))).bind _ = _
  rw [e3, pz_bs]
end MD
