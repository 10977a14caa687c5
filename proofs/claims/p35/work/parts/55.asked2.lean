/-! pure part: the class's methods, asked one by one: groups, parcels, breakage -/
section UW
variable {n : Nat} {σ σ' : zz_St}
theorem uc_together (I : pz_V n σ) : ∃ σ', fX7_putTogether σ = some σ' ∧ pz_V n σ' ∧ pz_D n σ' ∧ σ' 0 7 = 1 ∧ pz_sa σ σ' ∧ σ' 6 = σ 6 ∧ (σ 0 7 = 1 → σ' = σ) := by
  have hn := pV_n I
  unfold fX7_putTogether
  rcases I.2 with ⟨k1, k2⟩ | ⟨k1, d, k2⟩
  · rw [k1, if_pos rfl]
    obtain ⟨σ1, σ2, e1, e2, dg, da, dl, f1, f2, f3⟩ := fc_groups hn I.1
    have sa2 : pz_sa σ σ2 := ps_fr (fun q h => f1 q (by omega)) f2 f3
    have c2 := ps_CW sa2 I.1
    obtain ⟨k, e, G⟩ := dg
    obtain ⟨σ3, e3, g3, b3⟩ := fc_find hn c2.1.2 G
    have sa3 : pz_sa σ2 σ3 := ps_fr (fun q h => g3 q (by omega)) (by rw [g3 24 (by decide)]) (by rw [g3 24 (by decide)])
    have hk := pEn_k G.1
    obtain ⟨σ4, e4, g4, b4⟩ := fc_warshall (σ := σ3) (k := k) (by omega) b3
    have sa4 : pz_sa σ3 σ4 := ps_fr (fun q h => g4 q (by omega)) (by rw [g4 24 (by decide)]) (by rw [g4 24 (by decide)])
    generalize hs5 : zz_u (zz_u σ4 41 0 0) 41 1 0 = σ5
    have q5 : ∀ q, q ≠ 41 → σ5 q = σ4 q := fun q h => by rw [← hs5, pz_uq h, pz_uq h]
    have sa5 : pz_sa σ4 σ5 := ps_fr (fun q h => q5 q (by omega)) (by rw [q5 24 (by decide)]) (by rw [q5 24 (by decide)])
    have sa25 : pz_sa σ2 σ5 := ps_tr sa3 (ps_tr sa4 sa5)
    have N5 : pz_CN n k e σ5 := by
      unfold pz_CN pz_CG
      rw [ps_H sa25, ps_I sa25, q5 24 (by decide), g4 24 (by decide), g3 24 (by decide), q5 25 (by decide), g4 25 (by decide), g3 25 (by decide), q5 43 (by decide)]
      exact ⟨G, b4⟩
    obtain ⟨σ6, a, b, e6, g6, dp⟩ := fc_build2 (ps_CW sa25 c2).2.2.2.1 hn N5 (by rw [← hs5, pz_uj (by decide), pz_us]) (by rw [← hs5, pz_us])
    have sa6 : pz_sa σ5 σ6 := ps_fr (fun q h => g6 q (by omega) (by omega)) (by rw [g6 24 (by decide) (by decide)]) (by rw [g6 24 (by decide) (by decide)])
    have sa26 : pz_sa σ2 σ6 := ps_tr sa25 sa6
    have sa7 : pz_sa σ6 (zz_u σ6 0 7 1) := ⟨fun q h _ _ => pz_uq (by omega), by rw [pz_uq (by decide)], by rw [pz_uq (by decide)]⟩
    have sa27 := ps_tr sa26 sa7
    have sa := ps_tr sa2 sa27
    have q26 : ∀ q, q ≠ 0 → q ≠ 41 → q ≠ 42 → q ≠ 43 → zz_u σ6 0 7 1 q = σ2 q := fun q h0 h1 h2 h3 => by rw [pz_uq h0, g6 q h1 h2, q5 q h1, g4 q h3, g3 q h3]
    have D : pz_D n (zz_u σ6 0 7 1) := by
      refine ⟨⟨k, e, ?_⟩, ?_, ?_, ?_⟩
      · rw [ps_H sa27, q26 24 (by decide) (by decide) (by decide) (by decide), q26 25 (by decide) (by decide) (by decide) (by decide)]; exact G
      · intro a b ha hb hab
        rw [ps_Af sa27, q26 (27 + a) (by omega) (by omega) (by omega) (by omega)]
        exact da a b ha hb hab
      · rw [ps_Mk sa27, q26 24 (by decide) (by decide) (by decide) (by decide)]; exact dl
      · unfold pz_DP at *
        rw [ps_M sa7, ps_F sa7, ps_H sa7, pz_uq (by decide), pz_uq (by decide)]
        exact dp
    refine ⟨zz_u σ6 0 7 1, ?_, ⟨ps_CW sa I.1, Or.inr ⟨pz_us, D, Or.inl ?_⟩⟩, D, pz_us, sa, by rw [q26 6 (by decide) (by decide) (by decide) (by decide), f1 6 (by decide)], fun q => absurd q (by decide)⟩
    · rw [e1, pz_bs, e2, pz_bs]
      unfold fX4_build
      rw [e3, pz_bs, g3 24 (by decide), G.2.1, e4, pz_bs, hs5, e6, pz_bs, pz_bs, pz_bs]
    · rw [pz_uj (by decide), g6 0 (by decide) (by decide), q5 0 (by decide), g4 0 (by decide), g3 0 (by decide), f1 0 (by decide)]
      exact k2
  · rw [k1, if_neg (by decide), pz_bs]
    exact ⟨σ, rfl, I, d, k1, ps_rf σ, rfl, fun _ => rfl⟩
/-- put together, and kept -/
def pz_T (n : Nat) (σ : zz_St) : Prop := pz_V n σ ∧ σ 0 7 = 1 ∧ pz_D n σ
theorem u_pt (T : pz_T n σ) : fX7_putTogether σ = some σ := by
  unfold fX7_putTogether
  rw [T.2.1, if_neg (by decide), pz_bs]
theorem u_first (V : pz_V n σ) : ∃ σ', fX7_groupCount σ = some (σ' 24 2, σ') ∧ pz_T n σ' ∧ pz_sa σ σ' := by
  obtain ⟨σ', e, V', D, h, sa, _⟩ := uc_together V
  refine ⟨σ', ?_, ⟨V', h, D⟩, sa⟩
  unfold fX7_groupCount
  rw [e, pz_bs]
theorem u_last (T : pz_T n σ) : fX7_lastLinkage σ = some ((vMk n σ).2, σ) := by
  unfold fX7_lastLinkage
  rw [u_pt T, pz_bs, T.2.2.2.2.1]
theorem u_group (T : pz_T n σ) {k : Nat} (hk : σ 24 2 = nI k) (hk2 : k ≤ 14) {i : Nat} (hi : i < k) : fX7_group σ (nI i) = some (.inl (σ 25 i), σ) := by
  unfold fX7_group
  rw [fc_rg_y (u_pt T) hk hk2 hi, pz_bs]
  show (zz_ga (σ 25) 14 (nI i)).bind _ = _
  rw [pz_ga (by omega) (by decide), pz_bs]
theorem u_linkage (T : pz_T n σ) {k : Nat} {e : Nat → Nat} (E : pz_En n (vH n σ) k e) (hk : σ 24 2 = nI k) (hs : ∀ i, i < k → ∀ b, pz_b (σ 25 i) b = pz_G n (vH n σ) (e i) b) {i j : Nat} (hi : i < k) (hj : j < k) (g : i ≠ j) : fX7_linkage σ (nI i) (nI j) = some (.inl (nI (pz_lk n (vAf σ) (vMa σ) (vH n σ) (e i) (e j))), σ) ∧ pz_lk n (vAf σ) (vMa σ) (vH n σ) (e i) (e j) ≤ 1000000 := by
  have hn := pV_n T.1
  have hkn := pEn_k E
  have hne : e i ≠ e j := fun q => g (pEn_inj E (by omega) (by omega) q)
  have L := fc_link hn T.1.1.2.2.2.1 T.2.2.2.1 hne (E.1 i hi).1 (E.1 j hj).1 (E.1 i hi).2 (E.1 j hj).2 (hs i hi) (hs j hj)
  refine ⟨?_, L.2⟩
  unfold fX7_linkage
  rw [fc_rg_y (u_pt T) hk (by omega) hi, pz_bs]
  show (fX7_requireGroup σ (nI j)).bind _ = _
  rw [fc_rg_y (u_pt T) hk (by omega) hj, pz_bs]
  show (if nI i = nI j then _ else (zz_ga (σ 25) 14 (nI i)).bind _) = _
  rw [if_neg (by rw [nI_eq (by omega) (by omega)]; exact g), pz_ga (by omega) (by decide), pz_bs, pz_ga (by omega) (by decide), pz_bs, L.1, pz_bs]
theorem u_groupOf (T : pz_T n σ) {k : Nat} {e : Nat → Nat} (E : pz_En n (vH n σ) k e) (hk : σ 24 2 = nI k) (hs : ∀ i, i < k → ∀ b, pz_b (σ 25 i) b = pz_G n (vH n σ) (e i) b) {p i : Nat} (hp : p < n) (hi : i < k) (ei : vH n σ p = e i) : fX7_groupOf σ (nI p) = some (.inl (nI i), σ) := by
  have hn := pV_n T.1
  have hc := pV_c T.1
  unfold fX7_groupOf
  rw [fc_rp_y hc hn hp, pz_bs]
  show (fX7_putTogether σ).bind _ = _
  rw [u_pt T, pz_bs, hk, fc_place25 hn E hs hp hi ei, pz_bs]
theorem u_needs (V : pz_V n σ) {a b : Nat} (ha : a < n) (hb : b < n) (hab : a ≠ b) : fX7_needs σ (nI a) (nI b) = some (.inl (zz_bi (vNd σ a b))) := by
  have hn := pV_n V
  have hc := pV_c V
  unfold fX7_needs
  rw [fc_rp_y hc hn ha, pz_bs]
  show (fX7_requirePiece σ (nI b)).bind _ = _
  rw [fc_rp_y hc hn hb, pz_bs]
  show (fX7_requireDifferent σ (nI a) (nI b)).bind _ = _
  rw [fc_rd_y (by rw [Ne, nI_eq (by omega) (by omega)]; exact hab), pz_bs]
  show (fX5_isNeeded σ (nI a) (nI b) (σ 17 0)).bind _ = _
  rw [fc_need (by omega) (by omega), pz_bs, pz_bo, pz_bs]
theorem u_parcelCount (T : pz_T n σ) : fX7_parcelCount σ = some (nI (vM n σ), σ) := by
  unfold fX7_parcelCount
  rw [u_pt T, pz_bs, T.2.2.2.2.2.1]
theorem u_knots (T : pz_T n σ) : fX7_knots σ = some (nI (pz_kn n (vF n σ) (vH n σ)), σ) := by
  unfold fX7_knots
  rw [u_pt T, pz_bs, T.2.2.2.2.2.2.1]
theorem u_parcel (T : pz_T n σ) {i : Nat} (hi : i < vM n σ) : fX7_parcel σ (nI i) = some (.inl (σ 42 i), σ) := by
  have hn := pV_n T.1
  have hm := vM_le n σ
  unfold fX7_parcel
  rw [fc_rq_y (u_pt T) T.2.2.2.2.2.1 (by omega) hi, pz_bs]
  show (zz_ga (σ 42) 14 (nI i)).bind _ = _
  rw [pz_ga (by omega) (by decide), pz_bs]
/-- a piece's parcel -/
def vPo (n : Nat) (σ : zz_St) (p : Nat) : Nat := pz_f (fun k => pz_P n (vF n σ) k p) (vM n σ)
theorem vPo_ok {p : Nat} (hp : p < n) : vPo n σ p < vM n σ ∧ pz_P n (vF n σ) (vPo n σ p) p = true := by
  obtain ⟨j, hj, hP⟩ := ppc_all (vF_eq n σ) hp
  have lt : vPo n σ p < vM n σ := by
    have := pf_le (P := fun k => pz_P n (vF n σ) k p) (n := vM n σ) hP
    unfold vPo vM at *
    omega
  exact ⟨lt, pf3 (fun k => pz_P n (vF n σ) k p) (vM n σ) lt⟩
theorem u_parcelOf (T : pz_T n σ) {p : Nat} (hp : p < n) : fX7_parcelOf σ (nI p) = some (.inl (nI (vPo n σ p)), σ) := by
  have hn := pV_n T.1
  have hc := pV_c T.1
  have hm := vM_le n σ
  have D := T.2.2
  obtain ⟨lt, yes⟩ := vPo_ok (σ := σ) hp
  have no := pf2 (fun k => pz_P n (vF n σ) k p) (vM n σ)
  unfold vPo at lt yes ⊢
  generalize pz_f (fun k => pz_P n (vF n σ) k p) (vM n σ) = K at lt yes no
  have e7 : fX7_placeOf_a42 σ (nI p) (nI (vM n σ)) = some (nI K) := by
    unfold fX7_placeOf_a42
    obtain ⟨r, hr, er⟩ := pz_loop (S := Unit) (R := Int32 ⊕ Int32) (fun f j _ => fX7_placeOf_a42_L1 σ (nI p) (nI (vM n σ)) f (nI j)) (fun _ _ => True) (fun r => r = .inl (nI K)) K
      (fun j f _ hj _ => Or.inl ⟨(), trivial, by
        show fX7_placeOf_a42_L1 σ (nI p) (nI (vM n σ)) (f + 1) (nI j) = _
        have b := no j hj
        rw [fX7_placeOf_a42_L1, if_neg (nI_ge (show j < vM n σ by omega) (by omega)), if_neg (show ¬ (14 : Int32) ≤ nI j from nI_ge (a := j) (b := 14) (by omega) (by decide)), pz_bs, if_pos rfl, pz_ga (by omega) (by decide), pz_bs, pf_isIn (by omega), pz_bs, D.2.2.2.2.2 j (by omega), b, if_pos (by decide), nI_1]⟩)
      (fun f _ _ => ⟨_, rfl, by
        show fX7_placeOf_a42_L1 σ (nI p) (nI (vM n σ)) (f + 1) (nI K) = _
        rw [fX7_placeOf_a42_L1, if_neg (nI_ge lt (by omega)), if_neg (show ¬ (14 : Int32) ≤ nI K from nI_ge (a := K) (b := 14) (by omega) (by decide)), pz_bs, if_pos rfl, pz_ga (by omega) (by decide), pz_bs, pf_isIn (by omega), pz_bs, D.2.2.2.2.2 K lt, yes, if_neg (by decide)]⟩) 1000 0 () (Nat.zero_le _) trivial (by omega)
    rw [show fX7_placeOf_a42_L1 σ (nI p) (nI (vM n σ)) 1000 (0 : Int32) = _ from er, pz_bs, hr]
  unfold fX7_parcelOf
  rw [fc_rp_y hc hn hp, pz_bs]
  show (fX7_putTogether σ).bind _ = _
  rw [u_pt T, pz_bs, D.2.2.2.1, e7, pz_bs]
/-- lines are small numbers -/
def pz_X (n : Nat) (σ : zz_St) : Prop := ∀ p, p < n → (∃ a, a ≤ 999 ∧ σ 4 p = nI a) ∧ (∃ b, b ≤ 999 ∧ σ 5 p = nI b)
theorem u_lines (T : pz_T n σ) (X : pz_X n σ) {i : Nat} (hi : i < vM n σ) : ∃ l, l ≤ 27972 ∧ fX7_lines σ (nI i) = some (.inl (nI l), σ) := by
  have hn := pV_n T.1
  have hc := pV_c T.1
  have hm := vM_le n σ
  have D := T.2.2
  let F : Nat → Int32 → Int32 := fun p s => if pz_P n (vF n σ) i p = true then s + (σ 4 p + σ 5 p) else s
  have e7 : fX5_linesOf σ (σ 42 i) = some (pz_fd F 0 n) := by
    unfold fX5_linesOf
    have e := pz_for (S := Int32) (fun f p s => fX5_linesOf_L1 σ (σ 42 i) f s (nI p)) F (fun s => (s, nI n)) n 0 (fun p f hp => by
      show fX5_linesOf_L1 σ (σ 42 i) (f + 1) _ (nI p) = _
      rw [fX5_linesOf_L1, hc, if_neg (nI_ge hp (by omega)), pf_isIn (by omega), pz_bs, D.2.2.2.2.2 i hi, pz_ga (by omega) (by decide), pz_bs, pz_ga (by omega) (by decide), pz_bs, pz_bs]
      generalize pz_fd F 0 p = s
      show _ = fX5_linesOf_L1 σ (σ 42 i) f (if pz_P n (vF n σ) i p = true then s + (σ 4 p + σ 5 p) else s) (nI (p + 1))
      cases pz_P n (vF n σ) i p with
      | true => rw [if_neg (by decide), pz_bs, if_pos rfl, nI_1]
      | false => rw [if_pos (by decide), pz_bs, if_neg (by decide), nI_1]) (fun f => by
      show fX5_linesOf_L1 σ (σ 42 i) (f + 1) _ (nI n) = _
      rw [fX5_linesOf_L1, hc, if_pos (Int32.le_refl _)]) 1000 0 (Nat.zero_le _) (by omega)
    rw [show fX5_linesOf_L1 σ (σ 42 i) 1000 (0 : Int32) (0 : Int32) = _ from e, pz_bs]
  obtain ⟨l, hl, el⟩ : ∃ l, l ≤ n * 1998 ∧ pz_fd F 0 n = nI l := pd_inv (fun k (y : Int32) => ∃ l, l ≤ k * 1998 ∧ y = nI l) ⟨0, by omega, rfl⟩ n (fun k y hk hy => by
    obtain ⟨l, hl, e⟩ := hy
    obtain ⟨⟨a, ha, ea⟩, b, hb, eb⟩ := X k hk
    have e2 : (k + 1) * 1998 = k * 1998 + 1998 := Nat.succ_mul k 1998
    show ∃ l, _ ∧ (if pz_P n (vF n σ) i k = true then y + (σ 4 k + σ 5 k) else y) = nI l
    rw [e, ea, eb]
    split
    · exact ⟨l + (a + b), by rw [e2]; exact Nat.add_le_add hl (by omega), by rw [nI_add, nI_add]⟩
    · exact ⟨l, Nat.le_trans hl (by rw [e2]; exact Nat.le_add_right _ _), rfl⟩)
  refine ⟨l, by omega, ?_⟩
  unfold fX7_lines
  rw [fc_rq_y (u_pt T) D.2.2.2.1 (by omega) hi, pz_bs]
  show (zz_ga (σ 42) 14 (nI i)).bind _ = _
  rw [pz_ga (by omega) (by decide), pz_bs, e7, pz_bs, el]
theorem uc_broken (c3 : pz_CW3 n σ) (s : Int32) : ∃ v, fX1_brokenBy σ s = some v ∧ fJ6_bitCount v = some (nI (vCt σ (pz_b s))) := by
  obtain ⟨v, e1, h1⟩ := fc_broken c3 s
  refine ⟨v, e1, ?_⟩
  rw [pf_bc (fun i hi => by rw [h1, decide_eq_false (show ¬ i < 16 by omega)]; rfl)]
  unfold vCt
  rw [pc_cong (P' := vBk σ (pz_b s)) fun i hi => by rw [h1, decide_eq_true hi, Bool.true_and]]
theorem u_broken (V : pz_V n σ) {s : Int32} (hs : ∀ i, pz_b s i = true → i < n) : ∃ v, fX7_broken σ s = some (.inl v) ∧ fJ6_bitCount v = some (nI (vCt σ (pz_b s))) := by
  have hn := pV_n V
  obtain ⟨v, e, h⟩ := uc_broken V.1.2.2.1 s
  refine ⟨v, ?_, h⟩
  unfold fX7_broken fX5_all
  rw [pV_c V, pz_bs, if_pos (pb_z.mpr fun i hi => by
    rw [pb_and, pb_not hi, pb_all (by omega)]
    cases d : pz_b s i with
    | false => rfl
    | true => rw [decide_eq_true (hs i d)]; rfl), e, pz_bs]
theorem uc_breakage (I : pz_V n σ) (D : pz_D n σ) : fX7_breakageInOrder σ = some (nI (vBs n σ (vM n σ))) := by
  have hn := pV_n I
  have hm := vM_le n σ
  unfold fX7_breakageInOrder
  obtain ⟨r, hr, e⟩ := pz_loop (S := Int32 × Int32) (R := Int32 × Int32 × Int32) (fun f k t => fX7_breakageInOrder_L1 σ f t.1 t.2 (nI k)) (fun k t => (∀ b, pz_b t.1 b = (decide (b < n) && pz_dn n (vF n σ) k b)) ∧ t.2 = nI (vBs n σ k)) (fun r => r.2.1 = nI (vBs n σ (vM n σ))) (vM n σ)
    (fun k f t hk hP => by
      obtain ⟨a, s⟩ := t
      have h1 : ∀ b, pz_b a b = (decide (b < n) && pz_dn n (vF n σ) k b) := hP.1
      have h2 : s = nI (vBs n σ k) := hP.2
      have h3 : ∀ b, pz_b (a ||| σ 42 k) b = (decide (b < n) && pz_dn n (vF n σ) (k + 1) b) := fun b => by
        rw [pb_or, h1, D.2.2.2.2.2 k hk, pz_dn]
        show (_ || (decide (b < n) && decide (pz_lo (vF n σ) b = pz_lo (vF n σ) (pz_nx n (vF n σ) (pz_dn n (vF n σ) k))))) = _
        cases decide (b < n) <;> rfl
      obtain ⟨v, e1, e3⟩ := uc_broken I.1.2.2.1 (a ||| σ 42 k)
      refine Or.inl ⟨(a ||| σ 42 k, nI (vBs n σ (k + 1))), ⟨h3, rfl⟩, ?_⟩
      show fX7_breakageInOrder_L1 σ (f + 1) a s (nI k) = _
      rw [fX7_breakageInOrder_L1, D.2.2.2.1, if_neg (nI_ge hk (by omega)), pz_ga (by omega) (by decide), pz_bs, pz_bs, e1, pz_bs, e3, pz_bs, pz_bs, h2, nI_add, nI_1, vBs, show pz_b (a ||| σ 42 k) = fun b => decide (b < n) && pz_dn n (vF n σ) (k + 1) b from funext h3])
    (fun f t hP => ⟨(t.1, t.2, nI (vM n σ)), hP.2, by
      show fX7_breakageInOrder_L1 σ (f + 1) t.1 t.2 (nI (vM n σ)) = _
      rw [fX7_breakageInOrder_L1, D.2.2.2.1, if_pos (Int32.le_refl _)]⟩) 1000 0 (0, 0) (Nat.zero_le _) ⟨fun b => by
      show pz_b 0 b = (decide (b < n) && false)
      rw [pb_0, Bool.and_false], rfl⟩ (by omega)
  rw [show fX7_breakageInOrder_L1 σ 1000 (0 : Int32) (0 : Int32) (0 : Int32) = _ from e, pz_bs, hr]
theorem u_breakage (T : pz_T n σ) : fX7_breakage σ = some (nI (vBs n σ (vM n σ)), σ) := by
  unfold fX7_breakage
  rw [u_pt T, pz_bs, uc_breakage T.1 T.2.2, pz_bs]
theorem uc_fill (c : pz_CW n σ) (dp : pz_DP n σ) (h9 : vM n σ ≤ 9) (h44 : σ 44 1 = nI (vM n σ)) : ∃ σ' q, fX0_find_L1 1000 (nI (2 ^ vM n σ) + (-1)) σ = some (q, σ') ∧ (∀ q, q ≠ 46 → σ' q = σ q) ∧ ∃ R, pz_IsR (vM n σ) (vCs n σ) R ∧ (∀ S, S < 2 ^ vM n σ → R S ≤ 16 * (2 ^ vM n σ - 1 - S)) ∧ ∀ S, S < 2 ^ vM n σ → σ' 46 S = nI (pz_vl n σ R S) := by
  have hn := c.1.1
  generalize hM : vM n σ = m at *
  have h512 : 2 ^ m ≤ 512 := Nat.pow_le_pow_right (n := 2) (by decide) h9
  have hpos := Nat.two_pow_pos m
  obtain ⟨r, hr, e⟩ := pz_down (S := zz_St) (R := Int32 × zz_St) (fun f k s => fX0_find_L1 f (nI k + (-1)) s)
    (fun k s => k ≤ 2 ^ m ∧ (∀ q, q ≠ 46 → s q = σ q) ∧ ∃ R, pz_fr m (vCs n σ) R k ∧ ∀ S, k ≤ S → S < 2 ^ m → s 46 S = nI (pz_vl n σ R S))
    (fun r => (∀ q, q ≠ 46 → r.2 q = σ q) ∧ ∃ R, pz_fr m (vCs n σ) R 0 ∧ ∀ S, S < 2 ^ m → r.2 46 S = nI (pz_vl n σ R S))
    (fun S f s hP => by
      obtain ⟨hk, i1, R, hR, hv⟩ := hP
      have hS : S < 2 ^ m := by omega
      have sa : pz_sa σ s := ps_fr (fun q h => i1 q (by omega)) (by rw [i1 24 (by decide)]) (by rw [i1 24 (by decide)])
      have dps : pz_DP n s := by
        unfold pz_DP at *
        rw [ps_M sa, ps_F sa, ps_H sa, i1 41 (by decide), i1 42 (by decide)]
        exact dp
      have vl : ∀ p, p < m → S.testBit p = false → s 46 (S ||| 2 ^ p) = nI (vCs n σ (S ||| 2 ^ p) + R (S ||| 2 ^ p)) ∧ vCs n σ (S ||| 2 ^ p) + R (S ||| 2 ^ p) < 1000000 := by
        intro p hp hb
        have u := pn_up hS hp hb
        have b := (hR _ (show S + 1 ≤ S ||| 2 ^ p by omega) u.2).2
        have cc := vCs_le n σ (S ||| 2 ^ p)
        refine ⟨?_, by omega⟩
        rw [hv _ (by omega) u.2]
        unfold pz_vl
        rw [if_neg (by omega)]
      -- the number now
      have now : (if nI S = 0 then some (0 : Int32) else (fX4_piecesIn s (nI S)).bind fun x16 => (fX1_brokenBy s x16).bind fun x18 => (fJ6_bitCount x18).bind fun x20 => some x20) = some (nI (if S = 0 then 0 else vCs n σ S)) := by
        by_cases z : S = 0
        · rw [z, if_pos (show nI 0 = 0 from rfl), if_pos rfl]; rfl
        · rw [if_neg (nI_ne0 (by omega) (by omega)), if_neg z]
          obtain ⟨x, ex, hx⟩ := fc_piecesIn hn dps (S := S)
          obtain ⟨v, e1, e3⟩ := uc_broken (σ := s) (ps_CW sa c).2.2.1 x
          rw [ex, pz_bs, e1, pz_bs, e3, pz_bs, ps_Ct sa]
          unfold vCs
          rw [show pz_b x = vQ n σ S from funext fun q => by rw [hx, ps_Q sa]]
      have after := fc_after (σ := s) h9 hS (by rw [i1 44 (by decide)]; exact h44) vl
      have un : ∀ nx : Int32, ∀ later : Nat, fX0_nextAfter s (nI S) = some nx → (if 0 ≤ nx then (zz_ga (s 46) 512 (nI S ||| ((1 : Int32) <<< (nx &&& 31)))).bind fun x10 => some x10 else some 0) = some (nI later) → fX0_find_L1 (f + 1) (nI (S + 1) + (-1)) s = fX0_find_L1 f (nI S + (-1)) (zz_u s 46 S (nI ((if S = 0 then 0 else vCs n σ S) + later))) := by
        intro nx later e1 e2
        rw [pk_m1, fX0_find_L1, if_neg (nI_pos (n := S) (by omega)), e1, pz_bs, e2, pz_bs, now, pz_bs, nI_add, pz_pa (by omega) (by decide), pz_bs]
      rcases after with ⟨full, en⟩ | ⟨p, hp, hb, en, best⟩
      · have eS : S = 2 ^ m - 1 := Classical.byContradiction fun q => by
          obtain ⟨k, hk, w⟩ := pn_all hS q
          rw [full k hk] at w; cases w
        refine Or.inl ⟨_, ⟨by omega, fun q hq => ?_, fun T => if T = S then 0 else R T, fun T h1 h2 => ?_, fun T h1 h2 => ?_⟩, un (-1) 0 en (by rw [if_neg (by decide)]; rfl)⟩
        · rw [pz_uq hq]; exact i1 q hq
        · have : T = S := by omega
          rw [this]
          unfold pz_at
          rw [if_pos eS]
          exact ⟨if_pos rfl, by simp only [↓reduceIte]; omega⟩
        · have : T = S := by omega
          rw [this, pz_us]
          unfold pz_vl
          simp only [↓reduceIte]
      · have u := pn_up hS hp hb
        have nS : S ≠ 2 ^ m - 1 := by omega
        have later : (if 0 ≤ nI p then (zz_ga (s 46) 512 (nI S ||| ((1 : Int32) <<< (nI p &&& 31)))).bind fun x10 => some x10 else some 0) = some (nI (vCs n σ (S ||| 2 ^ p) + R (S ||| 2 ^ p))) := by
          rw [if_pos (nI_pos' (n := p) (by omega)), pn_or (by omega), pz_ga (by omega) (by decide), pz_bs, (vl p hp hb).1]
        refine Or.inl ⟨_, ⟨by omega, fun q hq => ?_, fun T => if T = S then vCs n σ (S ||| 2 ^ p) + R (S ||| 2 ^ p) else R T, fun T h1 h2 => ?_, fun T h1 h2 => ?_⟩, un (nI p) _ en later⟩
        · rw [pz_uq hq]; exact i1 q hq
        · by_cases d : T = S
          · rw [d]
            have ne : ∀ k, k < m → S.testBit k = false → ¬ (S ||| 2 ^ k) = S := fun k hk w => by have := (pn_up hS hk w).1; omega
            constructor
            · unfold pz_at
              rw [if_neg nS]
              refine ⟨fun k hk w => ?_, p, hp, hb, ?_⟩
              · simp only [if_pos, if_neg (ne k hk w)]
                exact (best k hk w).1
              · simp only [if_pos, if_neg (ne p hp hb)]
            · simp only [if_pos]
              have b := (hR _ (show S + 1 ≤ S ||| 2 ^ p by omega) u.2).2
              have cc := vCs_le n σ (S ||| 2 ^ p)
              omega
          · have hT := hR T (by omega) h2
            have ne : ∀ k, k < m → T.testBit k = false → ¬ (T ||| 2 ^ k) = S := fun k hk w => by have := (pn_up h2 hk w).1; omega
            constructor
            · have a := hT.1
              unfold pz_at at a ⊢
              by_cases g : T = 2 ^ m - 1
              · rw [if_pos g] at a ⊢
                simp only [if_neg d]; exact a
              · rw [if_neg g] at a ⊢
                refine ⟨fun k hk w => ?_, ?_⟩
                · simp only [if_neg d, if_neg (ne k hk w)]
                  exact a.1 k hk w
                · obtain ⟨k, hk, w, e⟩ := a.2
                  refine ⟨k, hk, w, ?_⟩
                  simp only [if_neg d, if_neg (ne k hk w)]
                  exact e
            · simp only [if_neg d]; exact hT.2
        · rw [pz_u]
          by_cases d : T = S
          · rw [if_pos ⟨rfl, d⟩, d]
            unfold pz_vl
            simp only [↓reduceIte]
          · rw [if_neg (by omega), hv T (by omega) h2]
            unfold pz_vl
            simp only [if_neg d])
    (fun f s hP => by
      obtain ⟨hk, i1, R, hR, hv⟩ := hP
      refine ⟨(-1, s), ⟨i1, R, hR, fun S hS => hv S (Nat.zero_le _) hS⟩, ?_⟩
      show fX0_find_L1 (f + 1) (nI 0 + (-1)) s = _
      rw [show nI 0 + (-1) = (-1 : Int32) by decide, fX0_find_L1, if_pos (by decide)]) 1000 (2 ^ m) σ ⟨Nat.le_refl _, fun _ _ => rfl, fun _ => 0, fun S h1 h2 => by omega, fun S h1 h2 => by omega⟩ (by omega)
  obtain ⟨i1, R, hR, hv⟩ := hr
  exact ⟨r.2, r.1, e, i1, R, pR_is hR, fun S hS => (hR S (Nat.zero_le _) hS).2, hv⟩
end UW
