/-! pure part: the law answers 1 -/
section LZ
variable {n : Nat} {σ : zz_St} {xs sd : Nat → Int32} {L : Nat}
theorem z_main (hL : L ≤ 260) (hn : n ≤ 12) (V : pz_V n σ) (X : pz_X n σ) (cn : ¬ pz_cn n σ) (S : pz_S n σ sd) : ∃ σ', fL_main xs L sd (nI n) σ = some (1, σ') := by
  obtain ⟨x1, e1⟩ := fl_cell (xs := xs) hL (k := 10) (j := 10) rfl (by decide)
  obtain ⟨t0, h0, e2⟩ := fl_below x1 (d := 30) (m := 30) rfl (by decide) (by decide)
  obtain ⟨m0, hm0, e3⟩ := fl_below (x1 >>> ((6 : Int32) &&& 31)) (d := 3) (m := 3) rfl (by decide) (by decide)
  have et : (1 : Int32) + nI t0 = nI (1 + t0) := nI_add 1 t0
  obtain ⟨r1, σ1, e4, V1, q1, h1⟩ := u_setThreshold V (t := 1 + t0) (by omega) (by omega)
  obtain ⟨r2, σ2, e5, V2, q2, h2⟩ := u_setManner V1 (t := m0) (by omega)
  obtain ⟨σ3, e6, T, sa⟩ := u_first V2
  have fq : ∀ q, 0 < q → q < 24 → q ≠ 6 → σ3 q = σ q := fun q a b c => by rw [sa.1 q a b c, q2 q (by omega) (by omega), q1 q (by omega) (by omega)]
  have f22 := fq 22 (by decide) (by decide) (by decide)
  have f23 := fq 23 (by decide) (by decide) (by decide)
  have S3 : pz_S n σ3 sd := by unfold pz_S; rw [vCd_c f22 f23]; exact S
  have cn3 : ¬ pz_cn n σ3 := fun h => cn ((pcn_c f22 f23).mp h)
  have X3 := pX_c (fq 4 (by decide) (by decide) (by decide)) (fq 5 (by decide) (by decide) (by decide)) X
  have ht : vTh σ3 = 1 + t0 := by unfold vTh; rw [sa.2.1, h2, h1, nI_clamp (by omega)]
  have c5 := T.1.1.2.2.2.1
  have hh := vH_Hd (n := n) c5
  obtain ⟨k, e, E, hk, hs⟩ := T.2.2.1
  have hkn := pEn_k E
  obtain ⟨pc, e7, hpc⟩ := fl_L1 T hn S3 E hk hs ht
  have all : pc = ((1 : Int32) <<< (nI n &&& 31)) - (1 : Int32) := pb_ext fun b _ => by
    rw [hpc, pb_all (by omega), Bool.eq_iff_iff, pex, decide_eq_true_iff]
    constructor
    · rintro ⟨i, _, z⟩
      exact pG_lt z
    · intro hb
      have := (hh b hb).1
      obtain ⟨i, hi, ei⟩ := E.2.2.2 (vH n σ3 b) (by omega) (hh b hb).2
      exact ⟨i, hi, pG.mpr ⟨hb, ei.symm⟩⟩
  have e8 := fl_L5 T hn S3 cn3 E hk hs
  obtain ⟨ap, li, e9, hli, hap⟩ := fl_L7 T hn X3
  have hm := vM_le n σ3
  have mk : vM n σ3 ≤ k := by
    have := vM_grp (n := n) (σ := σ3) c5
    rw [pEn_hc E] at this
    exact this
  have kn : pz_kn n (vF n σ3) (vH n σ3) ≤ vM n σ3 := pc_le _ _
  have same : ap = pc := pb_ext fun b _ => by rw [hap, all, pb_all (by omega)]
  have lastE : ((fX7_lastLinkage σ3).bind fun x108 => if x108.1 = (-1 : Int32) then some (false, x108.2) else (fX7_lastLinkage x108.2).bind fun x111 => if nI (1 + t0) ≤ x111.1 then some (false, x111.2) else some (true, x111.2)) = some (false, σ3) := by
    rw [u_last T, pz_bs]
    by_cases z : (vMk n σ3).2 = -1
    · exact if_pos z
    · have hl : (vMk n σ3).2 = -1 ∨ ∃ v, vTh σ3 ≤ v ∧ v ≤ 1000000 ∧ (vMk n σ3).2 = nI v := pmk_last (vTh_ok c5).1 (fun h f s => plk_le (vAf_le c5)) 14 _ _ (Or.inl rfl)
      rcases hl with hl | ⟨v, v1, v2, hl⟩
      · exact absurd hl z
      · show (if (vMk n σ3).2 = (-1 : Int32) then _ else (fX7_lastLinkage σ3).bind _) = _
        rw [if_neg z, u_last T, pz_bs]
        show (if nI (1 + t0) ≤ (vMk n σ3).2 then some (false, σ3) else some (true, σ3)) = _
        rw [hl, if_pos (nI_le (by omega) (by omega))]
  have condE : (if ap = pc then if nI k < nI (vM n σ3) then some (true, σ3) else (fX7_knots σ3).bind fun x250 => if nI (vM n σ3) < x250.1 then some (true, x250.2) else if 0 ≤ nI li then some (false, x250.2) else some (true, x250.2) else some (true, σ3)) = some (false, σ3) := by
    rw [if_pos same, if_neg (by rw [nI_ltI (by omega) (by omega)]; omega), u_knots T, pz_bs]
    show (if nI (vM n σ3) < nI (pz_kn n (vF n σ3) (vH n σ3)) then some (true, σ3) else if 0 ≤ nI li then some (false, σ3) else some (true, σ3)) = _
    rw [if_neg (by rw [nI_ltI (by omega) (by omega)]; omega), if_pos (nI_pos' (n := li) (by omega))]
  unfold fL_main
  rw [e1, pz_bs, e2, pz_bs, pz_bs, et, e4, pz_bs]
  show ∃ σ', ((some x1).bind fun x10 => (fL_below (x10 >>> ((6 : Int32) &&& 31)) (3 : Int32)).bind _) = _
  rw [pz_bs, e3, pz_bs, e5, pz_bs]
  show ∃ σ', ((fX7_groupCount σ2).bind _) = _
  rw [e6, pz_bs, hk]
  show ∃ σ', ((fL_law_L1 sd (nI n) (nI (1 + t0)) (nI k) 14 0 0 σ3).bind _) = _
  rw [e7, pz_bs]
  show ∃ σ', (((if pc = ((1 : Int32) <<< (nI n &&& 31)) - (1 : Int32) then (fX7_lastLinkage σ3).bind fun x108 => if x108.1 = (-1 : Int32) then some (false, x108.2) else (fX7_lastLinkage x108.2).bind fun x111 => if nI (1 + t0) ≤ x111.1 then some (false, x111.2) else some (true, x111.2) else some (true, σ3)) : Option (Bool × zz_St)).bind _) = _
  rw [if_pos all, lastE, pz_bs]
  show ∃ σ', (if false = true then _ else (fL_law_L5 sd (nI n) 14 0 σ3).bind _) = _
  rw [if_neg (show ¬ false = true by decide), e8, pz_bs]
  show ∃ σ', ((fX7_parcelCount σ3).bind _) = _
  rw [u_parcelCount T, pz_bs]
  show ∃ σ', ((fL_law_L7 (nI (vM n σ3)) 14 0 0 0 σ3).bind _) = _
  rw [e9, pz_bs]
  show ∃ σ', (((if ap = pc then if nI k < nI (vM n σ3) then some (true, σ3) else (fX7_knots σ3).bind fun x250 => if nI (vM n σ3) < x250.1 then some (true, x250.2) else if 0 ≤ nI li then some (false, x250.2) else some (true, x250.2) else some (true, σ3)) : Option (Bool × zz_St)).bind _) = _
  rw [condE, pz_bs]
  show ∃ σ', (if false = true then _ else if nI (vM n σ3) ≤ (9 : Int32) then (fX7_leastBreakage σ3).bind _ else some ((1 : Int32), σ3)) = _
  rw [if_neg (show ¬ false = true by decide)]
  by_cases h9 : vM n σ3 ≤ 9
  · obtain ⟨σ4, R, ea, T4, hR, sa4, fr, best⟩ := u_least T h9
    have M4 : vM n σ4 = vM n σ3 := ps_M sa4
    have C4 : vCs n σ4 = vCs n σ3 := ps_Cs sa4
    rw [if_pos (show nI (vM n σ3) ≤ 9 from nI_le (b := 9) h9 (by decide)), ea, pz_bs]
    show ∃ σ', ((fL_law_L8 (nI (vM n σ3)) 14 0 0 0 0 σ4).bind _) = _
    rw [← M4, ← C4] at hR best
    rw [← M4] at h9
    obtain ⟨ta, se, eb⟩ := fl_L8 T4 hn h9 hR best
    have least := pR_least h9 hR
    have small := vBs_le (n := n) (σ := σ4) (vM n σ4)
    rw [← M4, eb, pz_bs]
    show ∃ σ', ((((if nI (R 0) = nI (R 0) then (fX7_breakage σ4).bind fun x288 => if x288.1 < nI (R 0) then some (false, x288.2) else some (true, x288.2) else some (false, σ4)) : Option (Bool × zz_St))).bind _) = _
    rw [if_pos rfl, u_breakage T4, pz_bs]
    show ∃ σ', ((((if nI (vBs n σ4 (vM n σ4)) < nI (R 0) then some (false, σ4) else some (true, σ4)) : Option (Bool × zz_St))).bind _) = _
    rw [if_neg (by rw [nI_ltI (by omega) (by omega)]; omega), pz_bs]
    exact ⟨σ4, rfl⟩
  · rw [if_neg (show ¬ nI (vM n σ3) ≤ 9 from nI_ge (a := 9) (by omega) (by omega))]
    exact ⟨σ3, rfl⟩
end LZ
