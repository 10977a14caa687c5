/-! pure part: what is asked of parcels; what is broken -/
section QP
variable {n : Nat} {σ σ' τ τ' : zz_St}
theorem vM_le (n : Nat) (σ : zz_St) : vM n σ ≤ n := ppc_le
theorem fc_rq_y {k : Nat} (e : fX7_putTogether σ = some σ') (hk : σ' 41 0 = nI k) (hk2 : k ≤ 14) {i : Nat} (hi : i < k) : fX7_requireParcel σ (nI i) = some (.inl (), σ') := by
  unfold fX7_requireParcel
  rw [e, pz_bs, hk, if_neg (nI_pos (n := i) (by omega)), if_pos (nI_lt hi (by omega))]
  rfl
theorem fc_rq_n {k : Nat} (e : fX7_putTogether σ = some σ') (hk : σ' 41 0 = nI k) {v : Int32} (hv : pz_bd k v) : fX7_requireParcel σ v = some (.inr "java/lang/IndexOutOfBoundsException", σ') := by
  unfold fX7_requireParcel
  rw [e, pz_bs, hk]
  by_cases g : v < 0
  · rw [if_pos g]; rfl
  · rcases hv with q | q
    · exact absurd q g
    · rw [if_neg g, if_neg (Int32.not_lt.mpr q)]; rfl
/-! broken -/
/-- the class's word for a set of pieces, as far as names -/
theorem fc_count (c3 : pz_CW3 n σ) {w x : Nat} (hw : w < 4) (hx : x < 16) (s : Int32) : fJ6_bitCount (σ (13 + w) x &&& s) = some (nI (pz_ct (fun p => pz_b (σ (8 + w) p) x && pz_b s p) 14)) := by
  have hb := (c3 w hw).2.2 x
  rw [pf_bc (fun i hi => by rw [pb_and, hb i hx, decide_eq_false (show ¬ i < 14 by omega)]; rfl)]
  congr 2
  rw [pz_ct, pz_ct, pb_and, pb_and, hb 15 hx, hb 14 hx]
  show pz_ct _ 14 + 0 + 0 = _
  exact pc_cong fun i hi => by rw [pb_and, hb i hx, decide_eq_true hi, Bool.true_and]
theorem fc_broken (c3 : pz_CW3 n σ) (s : Int32) : ∃ v, fX1_brokenBy σ s = some v ∧ ∀ i, pz_b v i = (decide (i < 16) && vBk σ (pz_b s) i) := by
  unfold fX1_brokenBy
  obtain ⟨r, hr, e⟩ := pz_loop (S := Int32) (R := Int32 × Int32) (fun f k t => fX1_brokenBy_L1 σ s f t (nI k)) (fun k t => ∀ i, pz_b t i = (decide (i < k) && vBk σ (pz_b s) i)) (fun r => ∀ i, pz_b r.1 i = (decide (i < 16) && vBk σ (pz_b s) i)) 16
    (fun k f t hk hP => by
      have un : fX1_brokenBy_L1 σ s (f + 1) t (nI k) = fX1_brokenBy_L1 σ s f (if vBk σ (pz_b s) k = true then t ||| ((1 : Int32) <<< (nI k &&& 31)) else t) (nI (k + 1)) := by
        rw [fX1_brokenBy_L1, if_neg (show ¬ (16 : Int32) ≤ nI k from nI_ge (a := k) (b := 16) hk (by decide)), show zz_ix 4 (0 : Int32) = some 0 from pz_ix (k := 0) (by decide) (by decide), pz_bs, pz_ga hk (by decide), pz_bs, fc_count c3 (w := 0) (by decide) hk, pz_bs, show zz_ix 4 (1 : Int32) = some 1 from pz_ix (k := 1) (by decide) (by decide), pz_bs, pz_ga hk (by decide), pz_bs, fc_count c3 (w := 1) (by decide) hk, pz_bs, pz_bs, pz_ga hk (by decide), pz_bs, show zz_ix 4 (2 : Int32) = some 2 from pz_ix (k := 2) (by decide) (by decide), pz_bs, pz_ga hk (by decide), pz_bs, fc_count c3 (w := 2) (by decide) hk, pz_bs, show zz_ix 4 (3 : Int32) = some 3 from pz_ix (k := 3) (by decide) (by decide), pz_bs, pz_ga hk (by decide), pz_bs, fc_count c3 (w := 3) (by decide) hk, pz_bs, pz_bs, pb_bit (by omega), nI_1]
        show ((if 1 < vDf σ (pz_b s) k then some true else if 1 ≤ vDf σ (pz_b s) k then some false else if vUs σ (pz_b s) k < 1 then some false else some true).bind fun b35 => if b35 = true then (some (t ||| ((1 : Int32) <<< (nI k &&& 31)))).bind fun x43 => some x43 else some t).bind _ = _
        unfold vBk
        by_cases g1 : 1 < vDf σ (pz_b s) k
        · rw [if_pos g1, pz_bs, if_pos rfl, pz_bs, pz_bs, decide_eq_true g1, if_pos (Bool.true_or _)]
        · rw [if_neg g1, decide_eq_false g1, Bool.false_or]
          by_cases g2 : 1 ≤ vDf σ (pz_b s) k
          · rw [if_pos g2, pz_bs, if_neg (by decide), pz_bs, decide_eq_false (Int32.not_lt.mpr g2), if_neg (by simp)]
          · rw [if_neg g2, decide_eq_true (Int32.not_le.mp g2), Bool.true_and]
            by_cases g3 : vUs σ (pz_b s) k < 1
            · rw [if_pos g3, pz_bs, if_neg (by decide), pz_bs, decide_eq_false (Int32.not_le.mpr g3), if_neg (by decide)]
            · rw [if_neg g3, pz_bs, if_pos rfl, pz_bs, pz_bs, decide_eq_true (Int32.not_lt.mp g3), if_pos rfl]
      refine Or.inl ⟨_, fun i => ?_, un⟩
      cases w : vBk σ (pz_b s) k with
      | true =>
        rw [if_pos rfl, pb_or, pb_one (by omega), hP]
        by_cases c : i = k
        · rw [c, w, decide_eq_true (show k < k + 1 by omega), decide_eq_true rfl, Bool.or_true]; rfl
        · rw [decide_eq_false c, Bool.or_false]
          by_cases d : i < k
          · rw [decide_eq_true d, decide_eq_true (show i < k + 1 by omega)]
          · rw [decide_eq_false d, decide_eq_false (show ¬ i < k + 1 by omega)]
      | false =>
        rw [if_neg (by decide), hP]
        by_cases c : i = k
        · rw [c, w, Bool.and_false, Bool.and_false]
        · by_cases d : i < k
          · rw [decide_eq_true d, decide_eq_true (show i < k + 1 by omega)]
          · rw [decide_eq_false d, decide_eq_false (show ¬ i < k + 1 by omega)])
    (fun f t hP => ⟨(t, 16), hP, by
      show fX1_brokenBy_L1 σ s (f + 1) t (nI 16) = _
      rw [fX1_brokenBy_L1, if_pos (by decide)]
      rfl⟩) 1000 0 0 (Nat.zero_le _) (fun i => by rw [pb_0, decide_eq_false (show ¬ i < 0 by omega)]; rfl) (by decide)
  exact ⟨r.1, by rw [show fX1_brokenBy_L1 σ s 1000 (0 : Int32) (0 : Int32) = _ from e, pz_bs], hr⟩
theorem i_diff (d : Int32) (a b : Nat) (u v : Bool) : (d + nI a - nI b) + (zz_bi u - zz_bi v) = d + nI (a + if u = true then 1 else 0) - nI (b + if v = true then 1 else 0) := by
  have hu : zz_bi u = nI (if u = true then 1 else 0) := by cases u <;> rfl
  have hv : zz_bi v = nI (if v = true then 1 else 0) := by cases v <;> rfl
  rw [hu, hv, ← nI_add, ← nI_add]
  generalize nI a = A
  generalize nI b = B
  generalize nI (if u = true then 1 else 0) = U
  generalize nI (if v = true then 1 else 0) = V
  grind
end QP

