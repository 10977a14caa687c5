/-! pure part: the class's methods, asked one by one: the best order -/
section UX
variable {n : Nat} {σ σ' : zz_St}
theorem uc_best (T : pz_T n σ) (big : vM n σ ≤ 9) : ∃ σ', fX7_findBest σ = some (.inl (), σ') ∧ pz_T n σ' ∧ σ' 0 8 = 1 ∧ pz_DB n σ' ∧ pz_sa σ σ' ∧ (∀ q, 24 ≤ q → q < 43 → σ' q = σ q) := by
  have hn := pV_n T.1
  have hm := vM_le n σ
  unfold fX7_findBest
  rw [u_pt T, pz_bs, T.2.2.2.2.2.1, if_pos (show nI (vM n σ) ≤ 9 from nI_le (b := 9) big (by decide))]
  rcases T.1.2 with ⟨k1, _⟩ | ⟨k1, _, k2 | ⟨k2, db⟩⟩
  · rw [T.2.1] at k1; exact absurd k1 (by decide)
  · rw [k2, if_pos rfl]
    unfold fX0_find
    have mn : zz_min (σ 41 0) (9 : Int32) = nI (vM n σ) := by
      rw [T.2.2.2.2.2.1, show (9 : Int32) = nI 9 from rfl, pz_minI (by omega) (by decide), Nat.min_eq_left big]
    rw [mn, pz_us, pz_bs]
    generalize hs1 : zz_u σ 44 1 (nI (vM n σ)) = σ1
    have q1 : ∀ q, q ≠ 44 → σ1 q = σ q := fun q h => by rw [← hs1, pz_uq h]
    have sa1 : pz_sa σ σ1 := ps_fr (fun q h => q1 q (by omega)) (by rw [q1 24 (by decide)]) (by rw [q1 24 (by decide)])
    have dp1 : pz_DP n σ1 := by
      have := T.2.2.2.2.2
      unfold pz_DP at *
      rw [ps_M sa1, ps_F sa1, ps_H sa1, q1 41 (by decide), q1 42 (by decide)]
      exact this
    have M1 : vM n σ1 = vM n σ := ps_M sa1
    obtain ⟨σ2, q, e2, f2, R, hR, hRb, hv⟩ := uc_fill (ps_CW sa1 T.1.1) dp1 (by rw [M1]; exact big) (by rw [M1, ← hs1, pz_us])
    rw [M1, ps_Cs sa1] at hR
    rw [M1] at hRb hv e2
    have hpos := Nat.two_pow_pos (vM n σ)
    have x1 : ((1 : Int32) <<< (nI (vM n σ) &&& 31)) - 1 = nI (2 ^ vM n σ) + (-1) := (by decide +kernel : ∀ m, m ≤ 9 → ((1 : Int32) <<< (nI m &&& 31)) - 1 = nI (2 ^ m) + (-1)) _ big
    rw [x1, e2, pz_bs]
    show ∃ σ', ((((zz_ga (σ2 46) 512 0).bind fun x26 => (fX0_walk (zz_u σ2 44 0 x26)).bind fun x28 => some x28).bind fun x8 => some (zz_u x8 0 8 1)).bind _) = _ ∧ _
    rw [show zz_ga (σ2 46) 512 0 = some (σ2 46 0) from pz_ga (k := 0) (by decide) (by decide), pz_bs]
    generalize hs3 : zz_u σ2 44 0 (σ2 46 0) = σ3
    have q3 : ∀ q, q ≠ 44 → σ3 q = σ2 q := fun q h => by rw [← hs3, pz_uq h]
    have cs : ∀ S, vCs n σ1 S = vCs n σ S := fun S => by rw [ps_Cs sa1]
    obtain ⟨σ4, e4, f4, o4⟩ := fc_walk (σ := σ3) (c := vCs n σ) (R := R) big hR hRb (vCs_le n σ) (by rw [← hs3, pz_uj (by decide), f2 44 (by decide), ← hs1, pz_us]) (fun S h1 h2 => by
      rw [q3 46 (by decide), hv S h1]
      unfold pz_vl
      rw [if_neg (by omega), cs])
    rw [e4, pz_bs, pz_bs, pz_bs]
    have q4 : ∀ q, q ≠ 0 → q ≠ 44 → q ≠ 45 → q ≠ 46 → zz_u σ4 0 8 1 q = σ q := fun q a b c d => by rw [pz_uq a, f4 q c, q3 q b, f2 q d, q1 q b]
    have sa : pz_sa σ (zz_u σ4 0 8 1) := ⟨fun q a b _ => q4 q (by omega) (by omega) (by omega) (by omega), by rw [q4 24 (by decide) (by decide) (by decide) (by decide)], by rw [q4 24 (by decide) (by decide) (by decide) (by decide)]⟩
    have r0 : σ2 46 0 = nI (R 0) := by
      rw [hv 0 hpos]
      unfold pz_vl
      rw [if_pos rfl, Nat.zero_add]
    have db : pz_DB n (zz_u σ4 0 8 1) := by
      unfold pz_DB
      rw [ps_M sa, ps_Cs sa]
      refine ⟨big, R, hR, ?_, ?_, fun k hk => ?_⟩
      · rw [pz_uq (by decide), f4 44 (by decide), ← hs3, pz_us, r0]
      · rw [pz_uq (by decide), f4 44 (by decide), ← hs3, pz_uj (by decide), f2 44 (by decide), ← hs1, pz_us]
      · rw [pz_uq (by decide)]; exact o4 k hk
    have z07 : zz_u σ4 0 8 1 0 7 = 1 := by rw [pz_uj (by decide), f4 0 (by decide), q3 0 (by decide), f2 0 (by decide), q1 0 (by decide)]; exact T.2.1
    have D' : pz_D n (zz_u σ4 0 8 1) := ps_D hn sa (fun q a b => q4 q (by omega) (by omega) (by omega) (by omega)) T.2.2
    exact ⟨zz_u σ4 0 8 1, rfl, ⟨⟨ps_CW sa T.1.1, Or.inr ⟨z07, D', Or.inr ⟨pz_us, db⟩⟩⟩, z07, D'⟩, pz_us, db, sa, fun q a b => q4 q (by omega) (by omega) (by omega) (by omega)⟩
  · rw [k2, if_neg (by decide), pz_bs]
    exact ⟨σ, rfl, T, k2, db, ps_rf σ, fun _ _ _ => rfl⟩
theorem uc_best2 (T : pz_T n σ) (big : vM n σ ≤ 9) (k2 : σ 0 8 = 1) : fX7_findBest σ = some (.inl (), σ) := by
  unfold fX7_findBest
  rw [u_pt T, pz_bs, T.2.2.2.2.2.1, if_pos (show nI (vM n σ) ≤ 9 from nI_le (b := 9) big (by decide)), k2, if_neg (by decide), pz_bs]
theorem u_least (T : pz_T n σ) (big : vM n σ ≤ 9) : ∃ σ' R, fX7_leastBreakage σ = some (.inl (nI (R 0)), σ') ∧ pz_T n σ' ∧ pz_IsR (vM n σ) (vCs n σ) R ∧ pz_sa σ σ' ∧ (∀ q, 24 ≤ q → q < 43 → σ' q = σ q) ∧ ∀ k, k < vM n σ → fX7_best σ' (nI k) = some (.inl (nI (pz_wn (vM n σ) (vCs n σ) R (pz_wk (vM n σ) (vCs n σ) R k))), σ') := by
  obtain ⟨σ', e, T', k2, db, sa, fr⟩ := uc_best T big
  unfold pz_DB at db
  rw [ps_M sa, ps_Cs sa] at db
  obtain ⟨_, R, hR, h440, h441, h45⟩ := db
  refine ⟨σ', R, ?_, T', hR, sa, fr, fun k hk => ?_⟩
  · unfold fX7_leastBreakage
    rw [e, pz_bs]
    show some (Sum.inl (σ' 44 0), σ') = _
    rw [h440]
  · unfold fX7_best
    rw [uc_best2 T' (by rw [ps_M sa]; exact big) k2, pz_bs]
    show ((if nI k < 0 then some true else if nI k < σ' 44 1 then some false else some true).bind _) = _
    rw [h441, if_neg (nI_pos (n := k) (by omega)), if_pos (nI_lt hk (by omega)), pz_bs, if_neg (show ¬ false = true by decide), pz_ga (by omega) (by decide), pz_bs, h45 k hk]
end UX
