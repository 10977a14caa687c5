/-! pure part: pieces and names -/
section PN
variable {n : Nat} {σ σ' τ τ' : zz_St}
theorem pb_bish {p : Nat} (hp : p < 32) (b : Bool) (i : Nat) : pz_b (zz_bi b <<< (nI p &&& 31)) i = (b && decide (i = p)) := by
  cases b with
  | false =>
    show pz_b ((0 : Int32) <<< (nI p &&& 31)) i = false
    rw [(by decide +kernel : ∀ p, p < 32 → (0 : Int32) <<< (nI p &&& 31) = 0) p hp, pb_0]
  | true => exact (pb_one hp i).trans (Bool.true_and _).symm
theorem pb_nand {x : Int32} {p i : Nat} (hp : p < 32) : pz_b (x &&& (((1 : Int32) <<< (nI p &&& 31)) ^^^ (-1))) i = (pz_b x i && !decide (i = p)) := by
  rcases Nat.lt_or_ge i 32 with h | h
  · rw [pb_and, pb_not h, pb_one hp]
  · rw [pb_big h, pb_big h, Bool.false_and]
/-- one of the sets of a piece is put -/
theorem fc_replace {p w : Nat} (hp : p < 14) (hw : w < 4) (v : Int32) : ∃ σ', fX5_replaceNames σ (nI p) (nI w) v = some (σ (8 + w) p, σ') ∧ (∀ q, q ≠ 8 + w → q ≠ 13 + w → σ' q = σ q) ∧ (∀ j, σ' (8 + w) j = if j = p then v else σ (8 + w) j) ∧ (∀ x, x < 16 → ∀ i, pz_b (σ' (13 + w) x) i = if i = p then pz_b v x else pz_b (σ (13 + w) x) i) := by
  unfold fX5_replaceNames
  rw [pz_ix hw (by decide), pz_bs, pz_ga hp (by decide), pz_bs, pz_bs, pz_pa hp (by decide), pz_bs]
  obtain ⟨r, hr, e⟩ := pz_loop (S := zz_St) (R := Int32 × zz_St) (fun f k s => fX5_replaceNames_L1 (nI p) (nI w) v (σ (8 + w) p) f (nI k) s)
    (fun k s => (∀ q, q ≠ 13 + w → s q = zz_u σ (8 + w) p v q) ∧ (∀ x, x < 16 → ∀ i, pz_b (s (13 + w) x) i = if x < k ∧ i = p then pz_b v x else pz_b (σ (13 + w) x) i))
    (fun r => (∀ q, q ≠ 13 + w → r.2 q = zz_u σ (8 + w) p v q) ∧ (∀ x, x < 16 → ∀ i, pz_b (r.2 (13 + w) x) i = if i = p then pz_b v x else pz_b (σ (13 + w) x) i)) 16
    (fun k f s hk hP => by
      refine Or.inl ⟨zz_u s (13 + w) k ((s (13 + w) k &&& (((1 : Int32) <<< (nI p &&& 31)) ^^^ (-1))) ||| (((v >>> (nI k &&& 31)) &&& 1) <<< (nI p &&& 31))), ⟨fun q hq => ?_, fun x hx i => ?_⟩, ?_⟩
      · rw [pz_uq hq]; exact hP.1 q hq
      · rw [pz_u]
        have h := hP.2 x hx i
        by_cases g : x = k
        · subst g
          rw [if_pos ⟨rfl, rfl⟩, pb_or, pb_nand (by omega), pb_bit (by omega), pb_bish (by omega), h]
          by_cases c : i = p
          · rw [if_neg (by omega), if_pos ⟨by omega, c⟩, decide_eq_true c]
            simp
          · rw [if_neg (by omega), if_neg (by omega), decide_eq_false c]
            simp
        · rw [if_neg (by omega), h]
          by_cases c : i = p
          · by_cases d : x < k
            · rw [if_pos ⟨d, c⟩, if_pos ⟨by omega, c⟩]
            · rw [if_neg (by omega), if_neg (by omega)]
          · rw [if_neg (by omega), if_neg (by omega)]
      · show fX5_replaceNames_L1 (nI p) (nI w) v (σ (8 + w) p) (f + 1) (nI k) s = _
        rw [fX5_replaceNames_L1, if_neg (show ¬ (16 : Int32) ≤ nI k from nI_ge (a := k) (b := 16) hk (by decide)), pz_ix hw (by decide), pz_bs, pz_ga hk (by decide), pz_bs, pz_bs, pz_bs, pz_pa hk (by decide), pz_bs, nI_1])
    (fun f s hP => by
      refine ⟨(16, s), ⟨hP.1, fun x hx i => ?_⟩, ?_⟩
      · rw [hP.2 x hx i]
        by_cases c : i = p
        · rw [if_pos ⟨hx, c⟩, if_pos c]
        · rw [if_neg (by omega), if_neg c]
      · show fX5_replaceNames_L1 (nI p) (nI w) v (σ (8 + w) p) (f + 1) (nI 16) s = _
        rw [fX5_replaceNames_L1, if_pos (by decide)]
        rfl)
    1000 0 (zz_u σ (8 + w) p v) (by decide) ⟨fun _ _ => rfl, fun x hx i => by rw [pz_uq (by omega), if_neg (by omega)]⟩ (by decide)
  rw [show fX5_replaceNames_L1 (nI p) (nI w) v (σ (8 + w) p) 1000 (0 : Int32) (zz_u σ (8 + w) p v) = _ from e, pz_bs]
  refine ⟨r.2, rfl, fun q h1 h2 => ?_, fun j => ?_, hr.2⟩
  · rw [hr.1 q h2, pz_uq h1]
  · rw [hr.1 _ (by omega), pz_u]
    by_cases g : j = p
    · rw [if_pos ⟨rfl, g⟩, if_pos g]
    · rw [if_neg (by omega), if_neg g]
theorem cw3_put {m p w : Nat} {v : Int32} (hw : w < 4) (hp : p < 14) (hv : ∀ i, 16 ≤ i → pz_b v i = false) (hm : p < m ∨ v = 0) (h1 : ∀ q, q ≠ 8 + w → q ≠ 13 + w → σ' q = σ q) (h2 : ∀ j, σ' (8 + w) j = if j = p then v else σ (8 + w) j) (h3 : ∀ x, x < 16 → ∀ i, pz_b (σ' (13 + w) x) i = if i = p then pz_b v x else pz_b (σ (13 + w) x) i) (c : pz_CW3 m σ) : pz_CW3 m σ' := by
  intro u hu
  obtain ⟨a1, a2, a3⟩ := c u hu
  by_cases g : u = w
  · subst g
    refine ⟨fun q hq hmq => ?_, fun q i hq hi => ?_, fun x i hx => ?_⟩
    · rw [h2]
      by_cases c : q = p
      · rw [if_pos c]
        rcases hm with d | d
        · omega
        · exact d
      · rw [if_neg c]; exact a1 q hq hmq
    · rw [h2]
      by_cases c : q = p
      · rw [if_pos c]; exact hv i hi
      · rw [if_neg c]; exact a2 q i hq hi
    · rw [h3 x hx, h2]
      by_cases c : i = p
      · rw [if_pos c, if_pos c, decide_eq_true (by omega), Bool.true_and]
      · rw [if_neg c, if_neg c]; exact a3 x i hx
  · rw [h1 (8 + u) (by omega) (by omega), h1 (13 + u) (by omega) (by omega)]
    exact ⟨a1, a2, a3⟩
theorem pz_65535 {j i : Nat} (h : j ≤ 65535) (hi : 16 ≤ i) : pz_b (nI j) i = false := by
  show (BitVec.ofNat 32 j).getLsbD i = false
  rw [BitVec.getLsbD_ofNat, Nat.testBit_lt_two_pow (Nat.lt_of_lt_of_le (show j < 2 ^ 16 by omega) (Nat.pow_le_pow_right (by decide) hi)), Bool.and_false]
theorem fc_rs_y (h : σ 1 0 = nI n) (hn : n ≤ 14) {p w : Nat} (hp : p < n) (hw : w < 4) : fX7_requireSet σ (nI p) (nI w) = some (.inl ()) := by
  unfold fX7_requireSet
  rw [fc_rp_y h hn hp, pz_bs]
  show ((if nI w < 0 then some true else if nI w < 4 then some false else some true).bind _) = _
  rw [if_neg (nI_pos (n := w) (by omega)), if_pos (show nI w < 4 from nI_lt (a := w) (b := 4) hw (by decide))]
  rfl
theorem fc_rs_n (h : σ 1 0 = nI n) (hn : n ≤ 14) {v u : Int32} (hv : pz_bd n v ∨ pz_bd 4 u) : fX7_requireSet σ v u = some (.inr "java/lang/IndexOutOfBoundsException") := by
  unfold fX7_requireSet
  rcases pbd n (by omega) v with q | ⟨p, hp, e⟩
  · rw [fc_rp_n h q, pz_bs]
  · rcases hv with q | q
    · rw [fc_rp_n h q, pz_bs]
    · rw [e, fc_rp_y h hn hp, pz_bs]
      show ((if u < 0 then some true else if u < 4 then some false else some true).bind _) = _
      by_cases g : u < 0
      · rw [if_pos g]; rfl
      · rcases q with q | q
        · exact absurd q g
        · rw [if_neg g, if_neg (show ¬ u < 4 from Int32.not_lt.mpr q)]; rfl
end PN

