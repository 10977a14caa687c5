/-! pure part: breakage -/
section BR
variable {n : Nat} {σ σ' τ τ' : zz_St}
/-- the breakage of so many parcels in their order -/
def vBs (n : Nat) (σ : zz_St) : Nat → Nat
  | 0 => 0
  | k + 1 => vBs n σ k + vCt σ (fun q => decide (q < n) && pz_dn n (vF n σ) (k + 1) q)
theorem fc_breakage (I : pz_I n σ τ) (D : pz_D n σ) : fX7_breakageInOrder σ = some (nI (vBs n σ (vM n σ))) := by
  have hn := pI_n I
  have hm := vM_le n σ
  unfold fX7_breakageInOrder
  obtain ⟨r, hr, e⟩ := pz_loop (S := Int32 × Int32) (R := Int32 × Int32 × Int32) (fun f k t => fX7_breakageInOrder_L1 σ f t.1 t.2 (nI k)) (fun k t => (∀ b, pz_b t.1 b = (decide (b < n) && pz_dn n (vF n σ) k b)) ∧ t.2 = nI (vBs n σ k)) (fun r => r.2.1 = nI (vBs n σ (vM n σ))) (vM n σ)
    (fun k f t hk hP => by
      obtain ⟨a, s⟩ := t
      have h1 : ∀ b, pz_b a b = (decide (b < n) && pz_dn n (vF n σ) k b) := hP.1
      have h2 : s = nI (vBs n σ k) := hP.2
      have h3 : ∀ b, pz_b (a ||| σ 42 k) b = (decide (b < n) && pz_dn n (vF n σ) (k + 1) b) := fun b => by
        rw [pb_or, h1, D.2.2.2.2.2 k hk, pz_dn]
        show (_ || (decide (b < n) && decide (pz_lo (vF n σ) b = pz_lo (vF n σ) (pz_nx n (vF n σ) (pz_dn n (vF n σ) k))))) = _
        cases decide (b < n) <;> rfl
      obtain ⟨v, e1, e2, e3⟩ := f_broken I.1 I.2.1 (a ||| σ 42 k)
      refine Or.inl ⟨(a ||| σ 42 k, nI (vBs n σ (k + 1))), ⟨h3, rfl⟩, ?_⟩
      show fX7_breakageInOrder_L1 σ (f + 1) a s (nI k) = _
      rw [fX7_breakageInOrder_L1, D.2.2.2.1, if_neg (nI_ge hk (by omega)), pz_ga (by omega) (by decide), pz_bs, pz_bs, e1, pz_bs, e3, pz_bs, pz_bs, h2, nI_add, nI_1, vBs, show pz_b (a ||| σ 42 k) = fun b => decide (b < n) && pz_dn n (vF n σ) (k + 1) b from funext h3])
    (fun f t hP => ⟨(t.1, t.2, nI (vM n σ)), hP.2, by
      show fX7_breakageInOrder_L1 σ (f + 1) t.1 t.2 (nI (vM n σ)) = _
      rw [fX7_breakageInOrder_L1, D.2.2.2.1, if_pos (Int32.le_refl _)]⟩) 1000 0 (0, 0) (Nat.zero_le _) ⟨fun b => by
      show pz_b 0 b = (decide (b < n) && false)
      rw [pb_0, Bool.and_false], rfl⟩ (by omega)
  rw [show fX7_breakageInOrder_L1 σ 1000 (0 : Int32) (0 : Int32) (0 : Int32) = _ from e, pz_bs, hr]
theorem fm_piecesOf (I : pz_I n σ τ) (P : pz_MP n σ τ) (S : Int32) : ∃ x, fX8_piecesOf τ S = some x ∧ ∀ q, pz_b x q = pz_ex (fun k => pz_b S k && pz_P n (vF n σ) k q) (vM n σ) := by
  have hn := pI_n I
  have hm := vM_le n σ
  unfold fX8_piecesOf
  obtain ⟨r, hr, e⟩ := pz_loop (S := Int32) (R := Int32 × Int32) (fun f k s => fX8_piecesOf_L1 τ S f s (nI k)) (fun k s => ∀ q, pz_b s q = true ↔ ∃ j, j < k ∧ (pz_b S j && pz_P n (vF n σ) j q) = true) (fun r => ∀ q, pz_b r.1 q = true ↔ ∃ j, j < vM n σ ∧ (pz_b S j && pz_P n (vF n σ) j q) = true) (vM n σ)
    (fun k f s hk hP => by
      obtain ⟨x, ex, hx⟩ := fm_pset I P hk
      have un : fX8_piecesOf_L1 τ S (f + 1) s (nI k) = fX8_piecesOf_L1 τ S f (if pz_b S k = true then s ||| x else s) (nI (k + 1)) := by
        rw [fX8_piecesOf_L1, P.1, if_neg (nI_ge hk (by omega)), pf_has (by omega), pz_bs, nI_1]
        cases pz_b S k with
        | false => rw [if_pos (by decide), pz_bs, if_neg (by decide)]
        | true => rw [if_neg (by decide), pz_ga (by omega) (by decide), pz_bs, P.2.2 k hk, ex, pz_bs, pz_bs, pz_bs, if_pos rfl]
      refine Or.inl ⟨_, fun q => ?_, un⟩
      cases g : pz_b S k with
      | false =>
        rw [if_neg (by decide), hP]
        constructor
        · rintro ⟨j, h1, h2⟩; exact ⟨j, by omega, h2⟩
        · rintro ⟨j, h1, h2⟩
          by_cases c : j = k
          · rw [c, g] at h2; cases h2
          · exact ⟨j, by omega, h2⟩
      | true =>
        rw [if_pos rfl, pb_or, Bool.or_eq_true, hP, hx]
        constructor
        · rintro (⟨j, h1, h2⟩ | h)
          · exact ⟨j, by omega, h2⟩
          · exact ⟨k, by omega, by rw [g, h]; rfl⟩
        · rintro ⟨j, h1, h2⟩
          by_cases c : j = k
          · rw [c, g, Bool.true_and] at h2; exact Or.inr h2
          · exact Or.inl ⟨j, by omega, h2⟩)
    (fun f s hP => ⟨(s, nI (vM n σ)), hP, by
      show fX8_piecesOf_L1 τ S (f + 1) s (nI (vM n σ)) = _
      rw [fX8_piecesOf_L1, P.1, if_pos (Int32.le_refl _)]⟩) 1000 0 0 (Nat.zero_le _) (fun q => by
      rw [pb_0]
      exact ⟨fun h => absurd h (by decide), fun ⟨j, h, _⟩ => by omega⟩) (by omega)
  refine ⟨r.1, by rw [show fX8_piecesOf_L1 τ S 1000 (0 : Int32) (0 : Int32) = _ from e, pz_bs], fun q => ?_⟩
  rw [Bool.eq_iff_iff, hr, pex]
theorem fm_breakage (I : pz_I n σ τ) : ∃ τ', fX8_breakageOf (zz_u τ 47 0 0) = some (nI (vBs n σ (vM n σ)), τ') ∧ pz_I n σ τ' ∧ pz_HH n (vH n σ) τ' ∧ pz_MP n σ τ' ∧ τ' 47 0 = 0 := by
  have hn := pI_n I
  have hm := vM_le n σ
  obtain ⟨τ', e2, I2, H, P, z⟩ := fm_p I
  refine ⟨τ', ?_, I2, H, P, z⟩
  unfold fX8_breakageOf
  rw [e2, pz_bs]
  obtain ⟨r, hr, e⟩ := pz_loop (S := Int32) (R := Int32 × Int32) (fun f k s => fX8_breakageOf_L1 τ' f s (nI k)) (fun k s => 0 < k ∧ s = nI (vBs n σ (k - 1))) (fun r => r.1 = nI (vBs n σ (vM n σ))) (vM n σ + 1)
    (fun k f s hk hP => by
      obtain ⟨h1, h2⟩ := hP
      obtain ⟨x, ex, hx⟩ := fm_piecesOf I2 P (((1 : Int32) <<< (nI k &&& 31)) - 1)
      have hs : pz_b x = fun q => decide (q < n) && pz_dn n (vF n σ) (k - 1 + 1) q := funext fun q => by
        rw [hx, show k - 1 + 1 = k by omega, Bool.eq_iff_iff, pex, Bool.and_eq_true, decide_eq_true_iff]
        constructor
        · rintro ⟨j, hj, h⟩
          rw [pb_all (by omega), Bool.and_eq_true, decide_eq_true_iff, pP] at h
          exact ⟨h.2.1, pdn_of h.1 h.2.2⟩
        · rintro ⟨hq, h⟩
          obtain ⟨j, hj, e⟩ := pdn_in h
          exact ⟨j, by omega, by rw [pb_all (by omega), decide_eq_true hj, pP.mpr ⟨hq, e⟩]; rfl⟩
      obtain ⟨v, e1, e2, e3⟩ := f_broken I2.1 I2.2.1 x
      refine Or.inl ⟨nI (vBs n σ k), ⟨by omega, rfl⟩, ?_⟩
      show fX8_breakageOf_L1 τ' (f + 1) s (nI k) = _
      rw [fX8_breakageOf_L1, P.1, if_neg (nI_nlt (show k ≤ vM n σ by omega) (by omega)), ex, pz_bs, e2, pz_bs, e3, pz_bs, pz_bs, h2, nI_add, nI_1, hs, show vBs n σ k = vBs n σ (k - 1 + 1) by rw [show k - 1 + 1 = k by omega], vBs])
    (fun f s hP => ⟨(s, nI (vM n σ + 1)), hP.2, by
      show fX8_breakageOf_L1 τ' (f + 1) s (nI (vM n σ + 1)) = _
      rw [fX8_breakageOf_L1, P.1, if_pos (nI_lt (by omega) (by omega))]⟩) 1000 1 0 (by omega) ⟨by omega, rfl⟩ (by omega)
  rw [show fX8_breakageOf_L1 τ' 1000 (0 : Int32) (1 : Int32) = _ from e, pz_bs, hr]
theorem t_breakage (I : pz_I n σ τ) : ∃ b σ' τ', fX7_breakage σ = some (b, σ') ∧ fX8_breakage τ = some (b, τ') ∧ pz_I n σ' τ' := by
  obtain ⟨σ', e, I', D, _⟩ := fc_together I
  obtain ⟨τ', e2, I2, _⟩ := fm_breakage I'
  refine ⟨nI (vBs n σ' (vM n σ')), σ', τ', ?_, ?_, I2⟩
  · unfold fX7_breakage; rw [e, pz_bs, fc_breakage I' D, pz_bs]
  · unfold fX8_breakage; rw [e2, pz_bs]
end BR
