/-! pure part: the reference's parcels -/
section MP
variable {n : Nat} {σ σ' τ τ' : zz_St}
/-- what the reference's makeParcels leaves -/
def pz_MP (n : Nat) (σ τ : zz_St) : Prop := τ 47 17 = nI (vM n σ) ∧ (∀ p, p < n → τ 57 p = nI (pz_lo (vF n σ) p)) ∧ (∀ k, k < vM n σ → τ 58 k = nI (pz_od n (vF n σ) k))
theorem fm_far (M : pz_MB n σ τ) (H : pz_HH n (vH n σ) τ) : ∃ τ' q, fX8_makeParcels_L1 1000 0 τ = some (q, τ') ∧ (∀ q, q ≠ 59 → τ' q = τ q) ∧ (∀ a, a < n → ∀ b, pz_b (τ' 59 a) b = vE n σ a b) := by
  have hn := M.1.1.1
  have ht := M.2.1
  have hh := vH_Hd (n := n) M.1.2.2.2.1
  have inner : ∀ a s, a < n → (∀ q, q ≠ 59 → s q = τ q) → (∀ x, x < a → ∀ b, pz_b (s 59 x) b = vE n σ x b) → s 59 a = 0 → ∃ r : Int32 × zz_St, ((∀ q, q ≠ 59 → r.2 q = τ q) ∧ (∀ x, x < a + 1 → ∀ b, pz_b (r.2 59 x) b = vE n σ x b)) ∧ fX8_makeParcels_L2 (nI a) 1000 0 s = some r := by
    intro a s ha h1 h2 h3
    exact pz_loop (S := zz_St) (R := Int32 × zz_St) (fun f k s => fX8_makeParcels_L2 (nI a) f (nI k) s) (fun k s => (∀ q, q ≠ 59 → s q = τ q) ∧ (∀ x, x < a → ∀ b, pz_b (s 59 x) b = vE n σ x b) ∧ (∀ b, pz_b (s 59 a) b = (decide (b < k) && vE n σ a b))) (fun r => (∀ q, q ≠ 59 → r.2 q = τ q) ∧ (∀ x, x < a + 1 → ∀ b, pz_b (r.2 59 x) b = vE n σ x b)) n
      (fun b f s hb hP => by
        obtain ⟨i1, i2, i3⟩ := hP
        have sm : pz_sm' τ s := ⟨fun q h1 h2 => i1 q (by omega), by rw [i1 47 (by decide)], by rw [i1 47 (by decide)], by rw [i1 47 (by decide)], by rw [i1 47 (by decide)]⟩
        have R := pm_RL sm M.2
        have la := (hh a ha).1
        have lb := (hh b hb).1
        have un : fX8_makeParcels_L2 (nI a) (f + 1) (nI b) s = fX8_makeParcels_L2 (nI a) f (nI (b + 1)) (if vE n σ a b = true then zz_u s 59 a (s 59 a ||| ((1 : Int32) <<< (nI b &&& 31))) else s) := by
          rw [fX8_makeParcels_L2, i1 47 (by decide), ht, if_neg (nI_ge hb (by omega)), i1 55 (by decide), pz_ga (by omega) (by decide), pz_bs, H a ha, pz_ga (by omega) (by decide), pz_bs, H b hb, fm_need M.1.2.2.1 hn R.2.2.1 R.2.2.2.1 ha hb, pz_bs]
          by_cases g : vH n σ a = vH n σ b
          · rw [if_pos (by rw [g]), pz_bs, if_pos rfl, pz_ga (by omega) (by decide), pz_bs, pz_pa (by omega) (by decide), pz_bs, pz_bs, if_pos (vE_s.mpr ⟨ha, hb, Or.inl g⟩), nI_1]
          · rw [if_neg (by rw [nI_eq (by omega) (by omega)]; exact g)]
            cases w : vNd σ a b with
            | true => rw [if_neg (by decide), pz_bs, if_pos rfl, pz_ga (by omega) (by decide), pz_bs, pz_pa (by omega) (by decide), pz_bs, pz_bs, if_pos (vE_s.mpr ⟨ha, hb, Or.inr w⟩), nI_1]
            | false =>
              have : ¬ vE n σ a b = true := fun z => by
                rcases (vE_s.mp z).2.2 with z | z
                · exact g z
                · rw [w] at z; cases z
              rw [if_pos (by decide), pz_bs, if_neg (by decide), pz_bs, if_neg this, nI_1]
        refine Or.inl ⟨_, ⟨fun q hq => ?_, fun x hx bt => ?_, fun bt => ?_⟩, un⟩
        · split
          · rw [pz_uq hq]; exact i1 q hq
          · exact i1 q hq
        · split
          · rw [pz_uj (by omega)]; exact i2 x hx bt
          · exact i2 x hx bt
        · by_cases g : vE n σ a b = true
          · rw [if_pos g, pz_us, pb_or, pb_one (by omega), i3]
            by_cases c : bt = b
            · rw [c, g, decide_eq_true rfl, Bool.or_true, decide_eq_true (show b < b + 1 by omega)]; rfl
            · rw [decide_eq_false c, Bool.or_false]
              by_cases d : bt < b
              · rw [decide_eq_true d, decide_eq_true (by omega)]
              · rw [decide_eq_false d, decide_eq_false (by omega)]
          · rw [if_neg g, i3]
            by_cases c : bt = b
            · rw [c, Bool.eq_false_iff.mpr g, Bool.and_false, Bool.and_false]
            · by_cases d : bt < b
              · rw [decide_eq_true d, decide_eq_true (by omega)]
              · rw [decide_eq_false d, decide_eq_false (by omega)])
      (fun f s hP => ⟨(nI n, s), ⟨hP.1, fun x hx b => by
        by_cases c : x = a
        · rw [c]
          have := hP.2.2 b
          show pz_b (s 59 a) b = _
          rw [this]
          by_cases d : b < n
          · rw [decide_eq_true d, Bool.true_and]
          · rw [decide_eq_false d, Bool.false_and]
            cases z : vE n σ a b with
            | false => rfl
            | true => exact absurd (vE_s.mp z).2.1 d
        · exact hP.2.1 x (by omega) b⟩, by
        show fX8_makeParcels_L2 (nI a) (f + 1) (nI n) s = _
        rw [fX8_makeParcels_L2, hP.1 47 (by decide), ht, if_pos (Int32.le_refl _)]⟩) 1000 0 s (by omega) ⟨h1, h2, fun b => by rw [h3, pb_0, decide_eq_false (by omega)]; rfl⟩ (by omega)
  obtain ⟨r, hr, e⟩ := pz_loop (S := zz_St) (R := Int32 × zz_St) (fun f k s => fX8_makeParcels_L1 f (nI k) s) (fun a s => (∀ q, q ≠ 59 → s q = τ q) ∧ (∀ x, x < a → ∀ b, pz_b (s 59 x) b = vE n σ x b)) (fun r => (∀ q, q ≠ 59 → r.2 q = τ q) ∧ (∀ x, x < n → ∀ b, pz_b (r.2 59 x) b = vE n σ x b)) n
    (fun a f s ha hP => by
      obtain ⟨r, hr, e⟩ := inner a (zz_u s 59 a 0) ha (fun q hq => by rw [pz_uq hq]; exact hP.1 q hq) (fun x hx b => by rw [pz_uj (by omega)]; exact hP.2 x hx b) pz_us
      refine Or.inl ⟨r.2, hr, ?_⟩
      show fX8_makeParcels_L1 (f + 1) (nI a) s = _
      rw [fX8_makeParcels_L1, hP.1 47 (by decide), ht, if_neg (nI_ge ha (by omega)), pz_pa (by omega) (by decide), pz_bs, e, pz_bs, nI_1])
    (fun f s hP => ⟨(nI n, s), hP, by
      show fX8_makeParcels_L1 (f + 1) (nI n) s = _
      rw [fX8_makeParcels_L1, hP.1 47 (by decide), ht, if_pos (Int32.le_refl _)]⟩) 1000 0 τ (by omega) ⟨fun _ _ => rfl, fun x hx => by omega⟩ (by omega)
  exact ⟨r.2, r.1, e, hr⟩
theorem fm_warshall {E : Nat → Nat → Bool} (ht : τ 47 1 = nI n) (hn : n ≤ 14) (h0 : ∀ a, a < n → ∀ b, pz_b (τ 59 a) b = E a b) : ∃ τ' q, fX8_makeParcels_L3 1000 0 τ = some (q, τ') ∧ (∀ q, q ≠ 59 → τ' q = τ q) ∧ (∀ a, a < n → ∀ b, pz_b (τ' 59 a) b = pz_W E n a b) := by
  have inner : ∀ w s, w < n → (∀ q, q ≠ 59 → s q = τ q) → (∀ x, x < n → ∀ b, pz_b (s 59 x) b = pz_W E w x b) → ∃ r : Int32 × zz_St, ((∀ q, q ≠ 59 → r.2 q = τ q) ∧ (∀ x, x < n → ∀ b, pz_b (r.2 59 x) b = pz_W E (w + 1) x b)) ∧ fX8_makeParcels_L4 (nI w) 1000 0 s = some r := by
    intro w s hw h1 h2
    exact pz_loop (S := zz_St) (R := Int32 × zz_St) (fun f k s => fX8_makeParcels_L4 (nI w) f (nI k) s) (fun k s => (∀ q, q ≠ 59 → s q = τ q) ∧ (∀ x, x < n → ∀ b, pz_b (s 59 x) b = if x < k then pz_W E (w + 1) x b else pz_W E w x b)) (fun r => (∀ q, q ≠ 59 → r.2 q = τ q) ∧ (∀ x, x < n → ∀ b, pz_b (r.2 59 x) b = pz_W E (w + 1) x b)) n
      (fun a f s ha hP => by
        obtain ⟨i1, i2⟩ := hP
        have ra : ∀ b, pz_b (s 59 a) b = pz_W E w a b := fun b => by rw [i2 a ha, if_neg (by omega)]
        have rw' : ∀ b, pz_b (s 59 w) b = pz_W E w w b := fun b => by
          rw [i2 w hw]
          split
          · exact pw_row E w b
          · rfl
        have un : fX8_makeParcels_L4 (nI w) (f + 1) (nI a) s = fX8_makeParcels_L4 (nI w) f (nI (a + 1)) (if pz_W E w a w = true then zz_u s 59 a (s 59 a ||| s 59 w) else s) := by
          rw [fX8_makeParcels_L4, i1 47 (by decide), ht, if_neg (nI_ge ha (by omega)), pz_ga (by omega) (by decide), pz_bs, pf_has (by omega), pz_bs, ra w]
          cases pz_W E w a w with
          | false => rw [if_pos (by decide), pz_bs, if_neg (by decide), nI_1]
          | true => rw [if_neg (by decide), pz_bs, pz_ga (by omega) (by decide), pz_bs, pz_pa (by omega) (by decide), pz_bs, pz_bs, if_pos rfl, nI_1]
        refine Or.inl ⟨_, ⟨fun q hq => ?_, fun x hx b => ?_⟩, un⟩
        · split
          · rw [pz_uq hq]; exact i1 q hq
          · exact i1 q hq
        · cases g : pz_W E w a w with
          | true =>
            rw [if_pos rfl, pz_u]
            by_cases c : x = a
            · rw [if_pos ⟨rfl, c⟩, if_pos (by omega), c, pb_or, ra, rw', pz_W, g, Bool.true_and]
            · rw [if_neg (by omega), i2 x hx]
              by_cases d : x < a
              · rw [if_pos d, if_pos (by omega)]
              · rw [if_neg d, if_neg (by omega)]
          | false =>
            rw [if_neg (by decide)]
            by_cases c : x = a
            · rw [if_pos (by omega), c, ra, pz_W, g, Bool.false_and, Bool.or_false]
            · rw [i2 x hx]
              by_cases d : x < a
              · rw [if_pos d, if_pos (by omega)]
              · rw [if_neg d, if_neg (by omega)])
      (fun f s hP => ⟨(nI n, s), ⟨hP.1, fun x hx b => by show pz_b (s 59 x) b = _; rw [hP.2 x hx, if_pos hx]⟩, by
        show fX8_makeParcels_L4 (nI w) (f + 1) (nI n) s = _
        rw [fX8_makeParcels_L4, hP.1 47 (by decide), ht, if_pos (Int32.le_refl _)]⟩) 1000 0 s (by omega) ⟨h1, fun x hx b => by rw [if_neg (by omega)]; exact h2 x hx b⟩ (by omega)
  obtain ⟨r, hr, e⟩ := pz_loop (S := zz_St) (R := Int32 × zz_St) (fun f k s => fX8_makeParcels_L3 f (nI k) s) (fun w s => (∀ q, q ≠ 59 → s q = τ q) ∧ (∀ x, x < n → ∀ b, pz_b (s 59 x) b = pz_W E w x b)) (fun r => (∀ q, q ≠ 59 → r.2 q = τ q) ∧ (∀ x, x < n → ∀ b, pz_b (r.2 59 x) b = pz_W E n x b)) n
    (fun w f s hw hP => by
      obtain ⟨r, hr, e⟩ := inner w s hw hP.1 hP.2
      refine Or.inl ⟨r.2, hr, ?_⟩
      show fX8_makeParcels_L3 (f + 1) (nI w) s = _
      rw [fX8_makeParcels_L3, hP.1 47 (by decide), ht, if_neg (nI_ge hw (by omega)), e, pz_bs, nI_1])
    (fun f s hP => ⟨(nI n, s), hP, by
      show fX8_makeParcels_L3 (f + 1) (nI n) s = _
      rw [fX8_makeParcels_L3, hP.1 47 (by decide), ht, if_pos (Int32.le_refl _)]⟩) 1000 0 τ (by omega) ⟨fun _ _ => rfl, h0⟩ (by omega)
  exact ⟨r.2, r.1, e, hr⟩
theorem fm_bundle {F : Nat → Nat → Bool} (hF : pz_eq n F) (ht : τ 47 1 = nI n) (hn : n ≤ 14) (h0 : ∀ a, a < n → ∀ b, pz_b (τ 59 a) b = F a b) : ∃ τ' q, fX8_makeParcels_L5 1000 0 τ = some (q, τ') ∧ (∀ q, q ≠ 57 → τ' q = τ q) ∧ (∀ a, a < n → τ' 57 a = nI (pz_lo F a)) := by
  have inner : ∀ a s, a < n → (∀ q, q ≠ 57 → s q = τ q) → (∀ x, x < a → s 57 x = nI (pz_lo F x)) → s 57 a = nI a → ∃ r : Int32 × zz_St, ((∀ q, q ≠ 57 → r.2 q = τ q) ∧ (∀ x, x < a + 1 → r.2 57 x = nI (pz_lo F x))) ∧ fX8_makeParcels_L6 (nI a) 1000 (nI a) s = some r := by
    intro a s ha h1 h2 h3
    have key := pz_down (S := zz_St) (R := Int32 × zz_St) (fun f k s => fX8_makeParcels_L6 (nI a) f (nI k + (-1)) s) (fun k s => k ≤ a + 1 ∧ (∀ q, q ≠ 57 → s q = τ q) ∧ (∀ x, x < a → s 57 x = nI (pz_lo F x)) ∧ ∃ v, v ≤ a ∧ s 57 a = nI v ∧ F a v = true ∧ F v a = true ∧ ∀ b, k ≤ b → b < v → (F a b && F b a) = false) (fun r => (∀ q, q ≠ 57 → r.2 q = τ q) ∧ (∀ x, x < a + 1 → r.2 57 x = nI (pz_lo F x)))
      (fun b f s hP => by
        obtain ⟨i0, i1, i2, v, v1, v2, v3, v4, v5⟩ := hP
        have hb : b < n := by omega
        have un : fX8_makeParcels_L6 (nI a) (f + 1) (nI (b + 1) + (-1)) s = fX8_makeParcels_L6 (nI a) f (nI b + (-1)) (if (F a b && F b a) = true then zz_u s 57 a (nI b) else s) := by
          rw [show nI (b + 1) + (-1) = nI b from pk_m1 b, fX8_makeParcels_L6, if_neg (nI_pos (n := b) (by omega)), i1 59 (by decide), pz_ga (by omega) (by decide), pz_bs, pf_has (by omega), pz_bs, h0 a ha, pz_ga (by omega) (by decide), pz_bs, pf_has (by omega), pz_bs, h0 b hb]
          cases F a b with
          | false => rw [if_pos (by decide), pz_bs, if_neg (by decide), pz_bs, Bool.false_and, if_neg (by decide)]
          | true =>
            rw [if_neg (by decide)]
            cases F b a with
            | false => rw [if_pos (by decide), pz_bs, if_neg (by decide), pz_bs, Bool.and_false, if_neg (by decide)]
            | true => rw [if_neg (by decide), pz_bs, if_pos rfl, pz_pa (by omega) (by decide), pz_bs, pz_bs, if_pos (by decide)]
        refine Or.inl ⟨_, ?_, un⟩
        cases g : (F a b && F b a) with
        | true =>
          rw [if_pos rfl]
          have gg := g
          rw [Bool.and_eq_true] at gg
          exact ⟨by omega, fun q hq => by rw [pz_uq hq]; exact i1 q hq, fun x hx => by rw [pz_uj (by omega)]; exact i2 x hx, b, by omega, pz_us, gg.1, gg.2, fun b' h1 h2 => by omega⟩
        | false =>
          rw [if_neg (by decide)]
          exact ⟨by omega, i1, i2, v, v1, v2, v3, v4, fun b' h1 h2 => by
            by_cases c : b' = b
            · rw [c]; exact g
            · exact v5 b' (by omega) h2⟩)
      (fun f s hP => by
        obtain ⟨i0, i1, i2, v, v1, v2, v3, v4, v5⟩ := hP
        refine ⟨(-1, s), ⟨i1, fun x hx => ?_⟩, ?_⟩
        · by_cases c : x = a
          · rw [c]
            show s 57 a = _
            rw [v2]
            congr 1
            exact (pf_is v1 (fun k hk => v5 k (Nat.zero_le _) hk) (fun _ => by rw [v3, v4]; rfl)).symm
          · exact i2 x (by omega)
        · show fX8_makeParcels_L6 (nI a) (f + 1) (nI 0 + (-1)) s = _
          rw [show nI 0 + (-1) = (-1 : Int32) by decide, fX8_makeParcels_L6, if_pos (by decide)]) 1000 (a + 1) s ⟨Nat.le_refl _, h1, h2, a, Nat.le_refl _, h3, hF.1 a ha, hF.1 a ha, fun b h1 h2 => by omega⟩ (by omega)
    obtain ⟨r, hr, e⟩ := key
    have e' : fX8_makeParcels_L6 (nI a) 1000 (nI (a + 1) + (-1)) s = some r := e
    rw [pk_m1 a] at e'
    exact ⟨r, hr, e'⟩
  obtain ⟨r, hr, e⟩ := pz_loop (S := zz_St) (R := Int32 × zz_St) (fun f k s => fX8_makeParcels_L5 f (nI k) s) (fun a s => (∀ q, q ≠ 57 → s q = τ q) ∧ (∀ x, x < a → s 57 x = nI (pz_lo F x))) (fun r => (∀ q, q ≠ 57 → r.2 q = τ q) ∧ (∀ x, x < n → r.2 57 x = nI (pz_lo F x))) n
    (fun a f s ha hP => by
      obtain ⟨r, hr, e⟩ := inner a (zz_u s 57 a (nI a)) ha (fun q hq => by rw [pz_uq hq]; exact hP.1 q hq) (fun x hx => by rw [pz_uj (by omega)]; exact hP.2 x hx) pz_us
      refine Or.inl ⟨r.2, hr, ?_⟩
      show fX8_makeParcels_L5 (f + 1) (nI a) s = _
      rw [fX8_makeParcels_L5, hP.1 47 (by decide), ht, if_neg (nI_ge ha (by omega)), pz_pa (by omega) (by decide), pz_bs, e, pz_bs, nI_1])
    (fun f s hP => ⟨(nI n, s), hP, by
      show fX8_makeParcels_L5 (f + 1) (nI n) s = _
      rw [fX8_makeParcels_L5, hP.1 47 (by decide), ht, if_pos (Int32.le_refl _)]⟩) 1000 0 τ (by omega) ⟨fun _ _ => rfl, fun x hx => by omega⟩ (by omega)
  exact ⟨r.2, r.1, e, hr⟩
/-- the set of those with a head, out of a row -/
theorem fm_set57 {B : Nat → Nat} (ht : τ 47 1 = nI n) (hn : n ≤ 14) (hB : ∀ p, p < n → τ 57 p = nI (B p) ∧ B p < 1000) {v : Nat} (hv : v < 1000) : ∃ x, fX8_setOf_a57 τ (nI v) = some x ∧ ∀ b, pz_b x b = (decide (b < n) && decide (B b = v)) := by
  unfold fX8_setOf_a57
  obtain ⟨r, hr, e⟩ := pz_loop (S := Int32) (R := Int32 × Int32) (fun f k s => fX8_setOf_a57_L1 τ (nI v) f s (nI k)) (fun k s => ∀ b, pz_b s b = (decide (b < k) && decide (B b = v))) (fun r => ∀ b, pz_b r.1 b = (decide (b < n) && decide (B b = v))) n
    (fun k f s hk hP => by
      have un : fX8_setOf_a57_L1 τ (nI v) (f + 1) s (nI k) = fX8_setOf_a57_L1 τ (nI v) f (if B k = v then s ||| ((1 : Int32) <<< (nI k &&& 31)) else s) (nI (k + 1)) := by
        rw [fX8_setOf_a57_L1, ht, if_neg (nI_ge hk (by omega)), pz_ga (by omega) (by decide), pz_bs, (hB k hk).1]
        have := (hB k hk).2
        by_cases g : B k = v
        · rw [if_pos (by rw [g]), pz_bs, pz_bs, if_pos g, nI_1]
        · rw [if_neg (by rw [nI_eq (by omega) (by omega)]; exact g), pz_bs, if_neg g, nI_1]
      refine Or.inl ⟨_, fun b => ?_, un⟩
      by_cases g : B k = v
      · rw [if_pos g, pb_or, pb_one (by omega), hP]
        by_cases c : b = k
        · rw [c, decide_eq_true rfl, decide_eq_true (show k < k + 1 by omega), decide_eq_true g, Bool.or_true]; rfl
        · rw [decide_eq_false c, Bool.or_false]
          by_cases d : b < k
          · rw [decide_eq_true d, decide_eq_true (show b < k + 1 by omega)]
          · rw [decide_eq_false d, decide_eq_false (show ¬ b < k + 1 by omega)]
      · rw [if_neg g, hP]
        by_cases c : b = k
        · rw [c, decide_eq_false g, Bool.and_false, Bool.and_false]
        · by_cases d : b < k
          · rw [decide_eq_true d, decide_eq_true (show b < k + 1 by omega)]
          · rw [decide_eq_false d, decide_eq_false (show ¬ b < k + 1 by omega)])
    (fun f s hP => ⟨(s, nI n), hP, by
      show fX8_setOf_a57_L1 τ (nI v) (f + 1) s (nI n) = _
      rw [fX8_setOf_a57_L1, ht, if_pos (Int32.le_refl _)]⟩) 1000 0 0 (by omega) (fun b => by rw [pb_0, decide_eq_false (by omega)]; rfl) (by omega)
  exact ⟨r.1, by rw [show fX8_setOf_a57_L1 τ (nI v) 1000 (0 : Int32) (0 : Int32) = _ from e, pz_bs], hr⟩
theorem fm_next {F : Nat → Nat → Bool} (hF : pz_eq n F) (ht : τ 47 1 = nI n) (hn : n ≤ 14) (h0 : ∀ a, a < n → ∀ b, pz_b (τ 59 a) b = F a b) (hB : ∀ p, p < n → τ 57 p = nI (pz_lo F p)) {dn : Nat → Bool} {done : Int32} (hd : ∀ b, pz_b done b = (decide (b < n) && dn b)) (all : Int32) (hex : pz_nx n F dn < n ∧ pz_rdy n F dn (pz_nx n F dn) = true) : fX8_makeParcels_L8 τ done all 1000 0 = some (nI (pz_nx n F dn)) := by
  have hB2 : ∀ p, p < n → τ 57 p = nI (pz_lo F p) ∧ pz_lo F p < 1000 := fun p hp => ⟨hB p hp, by have := pl_le F p; omega⟩
  have un : ∀ f k, k < n → fX8_makeParcels_L8 τ done all (f + 1) (nI k) = if pz_rdy n F dn k = true then some (nI k) else fX8_makeParcels_L8 τ done all f (nI (k + 1)) := by
    intro f k hk
    have lk := pl_le F k
    obtain ⟨x, ex, hx⟩ := fm_set57 (B := pz_lo F) ht hn hB2 (v := pz_lo F k) (by omega)
    rw [fX8_makeParcels_L8, pf_has (by omega), pz_bs, hd, pz_ga (by omega) (by decide), pz_bs, pz_ga (by omega) (by decide), pz_bs, hB k hk, ex, pz_bs, decide_eq_true hk, Bool.true_and]
    have z : ((τ 59 k &&& (done ^^^ (-1))) &&& (x ^^^ (-1)) = 0) ↔ ∀ q, q < n → F k q = true → dn q = true ∨ pz_lo F q = pz_lo F k := by
      rw [pb_z]
      constructor
      · intro g q hq hFq
        have := g q (by omega)
        rw [pb_and, pb_and, pb_not (by omega), pb_not (by omega), h0 k hk, hd, hx, hFq, decide_eq_true hq] at this
        cases c : dn q with
        | true => exact Or.inl rfl
        | false =>
          rw [c] at this
          by_cases d : pz_lo F q = pz_lo F k
          · exact Or.inr d
          · rw [decide_eq_false d] at this; cases this
      · intro g q hq
        rw [pb_and, pb_and, pb_not hq, pb_not hq, h0 k hk, hd, hx]
        cases c : F k q with
        | false => rfl
        | true =>
          have hqn := (hF.2.1 _ _ c).2
          rw [decide_eq_true hqn]
          rcases g q hqn c with d | d
          · rw [d]; rfl
          · rw [decide_eq_true d]; cases dn q <;> rfl
    cases c : dn k with
    | true =>
      have : ¬ pz_rdy n F dn k = true := fun h => by rw [(prd.mp h).1] at c; cases c
      rw [if_neg (by decide), pz_bs, if_pos rfl, if_neg this, nI_1]
    | false =>
      rw [if_pos (by decide)]
      by_cases d : ∀ q, q < n → F k q = true → dn q = true ∨ pz_lo F q = pz_lo F k
      · rw [if_pos (z.mpr d), pz_bs, if_neg (by decide), if_pos (prd.mpr ⟨c, d⟩)]
      · rw [if_neg (fun h => d (z.mp h)), pz_bs, if_pos rfl, if_neg (fun h => d (prd.mp h).2), nI_1]
  obtain ⟨r, hr, e⟩ := pz_loop (S := Unit) (R := Int32) (fun f k _ => fX8_makeParcels_L8 τ done all f (nI k)) (fun _ _ => True) (fun r => r = nI (pz_nx n F dn)) (pz_nx n F dn)
    (fun k f _ hk _ => Or.inl ⟨(), trivial, by
      show fX8_makeParcels_L8 τ done all (f + 1) (nI k) = _
      rw [un f k (by omega), if_neg (by rw [pnx_low hk]; decide)]⟩)
    (fun f _ _ => ⟨_, rfl, by
      show fX8_makeParcels_L8 τ done all (f + 1) (nI (pz_nx n F dn)) = _
      rw [un f _ hex.1, if_pos hex.2]⟩) 1000 0 () (Nat.zero_le _) trivial (by omega)
  rw [← hr]
  exact e
theorem fm_order {F : Nat → Nat → Bool} (hF : pz_eq n F) (ht : τ 47 1 = nI n) (hn : n ≤ 14) (h0 : ∀ a, a < n → ∀ b, pz_b (τ 59 a) b = F a b) (hB : ∀ p, p < n → τ 57 p = nI (pz_lo F p)) (h17 : τ 47 17 = 0) : ∃ τ' q, fX8_makeParcels_L7 (((1 : Int32) <<< (nI n &&& 31)) - 1) 1000 0 τ = some (q, τ') ∧ (∀ q, q ≠ 47 → q ≠ 58 → τ' q = τ q) ∧ (∀ z, z ≠ 17 → τ' 47 z = τ 47 z) ∧ τ' 47 17 = nI (pz_pc n F) ∧ (∀ k, k < pz_pc n F → τ' 58 k = nI (pz_od n F k)) := by
  have hpc : pz_pc n F ≤ n := ppc_le
  have eqa : ∀ {done : Int32} {k : Nat}, (∀ b, pz_b done b = (decide (b < n) && pz_dn n F k b)) → (done = ((1 : Int32) <<< (nI n &&& 31)) - 1 ↔ pz_ad n F k = true) := by
    intro done k hd
    rw [pad]
    constructor
    · intro h q hq
      have := hd q
      rw [h, pb_all (by omega), decide_eq_true hq, Bool.true_and] at this
      exact this.symm
    · intro h
      apply pb_ext
      intro i _
      rw [hd, pb_all (by omega)]
      by_cases c : i < n
      · rw [decide_eq_true c, h i c]; rfl
      · rw [decide_eq_false c]; rfl
  have hB2 : ∀ p, p < n → pz_lo F p < 1000 := fun p hp => by have := pl_le F p; omega
  obtain ⟨r, hr, e⟩ := pz_loop (S := Int32 × zz_St) (R := Int32 × zz_St) (fun f _ t => fX8_makeParcels_L7 (((1 : Int32) <<< (nI n &&& 31)) - 1) f t.1 t.2) (fun k t => (∀ b, pz_b t.1 b = (decide (b < n) && pz_dn n F k b)) ∧ (∀ q, q ≠ 47 → q ≠ 58 → t.2 q = τ q) ∧ (∀ z, z ≠ 17 → t.2 47 z = τ 47 z) ∧ t.2 47 17 = nI k ∧ (∀ j, j < k → t.2 58 j = nI (pz_od n F j))) (fun r => (∀ q, q ≠ 47 → q ≠ 58 → r.2 q = τ q) ∧ (∀ z, z ≠ 17 → r.2 47 z = τ 47 z) ∧ r.2 47 17 = nI (pz_pc n F) ∧ (∀ k, k < pz_pc n F → r.2 58 k = nI (pz_od n F k))) (pz_pc n F)
    (fun k f t hk hP => by
      obtain ⟨d, s⟩ := t
      obtain ⟨i1, i2, i3, i4, i5⟩ := hP
      dsimp only at i1 i2 i3 i4 i5
      have nall : ¬ d = ((1 : Int32) <<< (nI n &&& 31)) - 1 := fun h => by
        have := (eqa i1).mp h
        rw [ppc_lt hk] at this; cases this
      obtain ⟨o1, o2, o3, o4⟩ := pod_ok hF hk
      have hts : s 47 1 = nI n := by rw [i3 1 (by decide)]; exact ht
      have en := fm_next hF (τ := s) hts hn (fun a ha b => by rw [i2 59 (by decide) (by decide)]; exact h0 a ha b) (fun p hp => by rw [i2 57 (by decide) (by decide)]; exact hB p hp) i1 (((1 : Int32) <<< (nI n &&& 31)) - 1) ⟨o2, o3⟩
      generalize hs' : zz_u (zz_u s 58 k (nI (pz_od n F k))) 47 17 (nI (k + 1)) = s'
      have q57 : s' 57 = τ 57 := by rw [← hs', pz_uq (by decide), pz_uq (by decide), i2 57 (by decide) (by decide)]
      obtain ⟨x, ex, hx⟩ := fm_set57 (τ := s') (B := pz_lo F) (by rw [← hs', pz_uj (by decide), pz_uq (by decide)]; exact hts) hn (fun p hp => ⟨by rw [q57]; exact hB p hp, hB2 p hp⟩) (v := pz_od n F k) (by omega)
      have u1 : ∀ q, q ≠ 47 → q ≠ 58 → s' q = τ q := fun q h1 h2 => by rw [← hs', pz_uq h1, pz_uq h2]; exact i2 q h1 h2
      have u2 : ∀ z, z ≠ 17 → s' 47 z = τ 47 z := fun z hz => by rw [← hs', pz_uj hz, pz_uq (by decide)]; exact i3 z hz
      have u3 : s' 47 17 = nI (k + 1) := by rw [← hs', pz_us]
      have u4 : ∀ j, j < k + 1 → s' 58 j = nI (pz_od n F j) := fun j hj => by
        rw [← hs', pz_uq (by decide), pz_u]
        by_cases c : j = k
        · rw [if_pos ⟨rfl, c⟩, c]
        · rw [if_neg (by omega)]; exact i5 j (by omega)
      refine Or.inl ⟨(d ||| x, s'), ⟨fun b => ?_, u1, u2, u3, u4⟩, ?_⟩
      · show pz_b (d ||| x) b = _
        rw [pb_or, i1, hx, pz_dn]
        cases decide (b < n) <;> rfl
      · show fX8_makeParcels_L7 _ (f + 1) d s = _
        have b1 : s 57 (pz_nx n F (pz_dn n F k)) = nI (pz_od n F k) := by rw [i2 57 (by decide) (by decide)]; exact hB _ o2
        rw [fX8_makeParcels_L7, if_neg nall, en, pz_bs, pz_ga (by omega) (by decide), pz_bs, b1, i4, pz_pa (by omega) (by decide), pz_bs, pz_uq (show 47 ≠ 58 by decide), i4, nI_1, hs', q57, pz_ga (by omega) (by decide), pz_bs, hB _ o2]
        show (fX8_setOf_a57 s' (nI (pz_od n F k))).bind _ = _
        rw [ex, pz_bs, pz_bs])
    (fun f t hP => by
      obtain ⟨d, s⟩ := t
      obtain ⟨i1, i2, i3, i4, i5⟩ := hP
      dsimp only at i1 i2 i3 i4 i5
      refine ⟨(d, s), ⟨i2, i3, i4, i5⟩, ?_⟩
      show fX8_makeParcels_L7 _ (f + 1) d s = _
      rw [fX8_makeParcels_L7, if_pos ((eqa i1).mpr (ppc_ad hF))]) 1000 0 (0, τ) (Nat.zero_le _) ⟨fun b => by rw [pb_0]; show false = (decide (b < n) && false); rw [Bool.and_false], fun _ _ _ => rfl, fun _ _ => rfl, h17, fun j hj => by omega⟩ (by omega)
  exact ⟨r.2, r.1, e, hr⟩
theorem fm_parcels (M : pz_MB n σ τ) : ∃ τ', fX8_makeParcels τ = some τ' ∧ pz_HH n (vH n σ) τ' ∧ τ' 47 13 = (vMk n σ).2 ∧ pz_MP n σ τ' ∧ pz_sm' τ τ' ∧ τ' 47 0 = τ 47 0 := by
  have hn := M.1.1.1
  unfold fX8_makeParcels
  obtain ⟨τ1, e1, H1, l1, A1, f1, g1⟩ := fm_groups M
  have sm1 : pz_sm' τ τ1 := ⟨fun q h1 h2 => f1 q (by omega) (by omega) (by omega), g1 1 (by decide), g1 9 (by decide), g1 10 (by decide), g1 11 (by decide)⟩
  obtain ⟨τ2, q2, e2, f2, b2⟩ := fm_far (σ := σ) (τ := τ1) ⟨M.1, pm_RL sm1 M.2⟩ H1
  have t1 : τ1 47 1 = nI n := by rw [g1 1 (by decide)]; exact M.2.1
  obtain ⟨τ3, q3, e3, f3, b3⟩ := fm_warshall (τ := τ2) (E := vE n σ) (by rw [f2 47 (by decide)]; exact t1) hn b2
  obtain ⟨τ4, q4, e4, f4, b4⟩ := fm_bundle (τ := τ3) (F := vF n σ) (vF_eq n σ) (by rw [f3 47 (by decide), f2 47 (by decide)]; exact t1) hn b3
  have t4 : τ4 47 1 = nI n := by rw [f4 47 (by decide), f3 47 (by decide), f2 47 (by decide)]; exact t1
  obtain ⟨τ5, q5, e5, f5, z5, c5, o5⟩ := fm_order (τ := zz_u τ4 47 17 0) (F := vF n σ) (vF_eq n σ) (by rw [pz_uj (by decide)]; exact t4) hn (fun a ha b => by rw [pz_uq (by decide), f4 59 (by decide)]; exact b3 a ha b) (fun p hp => by rw [pz_uq (by decide)]; exact b4 p hp) pz_us
  have q47 : ∀ z, z ≠ 13 → z ≠ 17 → τ5 47 z = τ 47 z := fun z h1 h2 => by rw [z5 z h2, pz_uj h2, f4 47 (by decide), f3 47 (by decide), f2 47 (by decide), g1 z h1]
  refine ⟨τ5, ?_, fun p hp => ?_, ?_, ⟨c5, fun p hp => ?_, o5⟩, ⟨fun q h1 h2 => ?_, q47 1 (by decide) (by decide), q47 9 (by decide) (by decide), q47 10 (by decide) (by decide), q47 11 (by decide) (by decide)⟩, q47 0 (by decide) (by decide)⟩
  · rw [e1, pz_bs, e2, pz_bs]
    show (fX8_makeParcels_L3 1000 0 τ2).bind _ = _
    rw [e3, pz_bs]
    show (fX8_makeParcels_L5 1000 0 τ3).bind _ = _
    rw [e4, pz_bs]
    show ((some (((1 : Int32) <<< ((zz_u τ4 47 17 0 47 1) &&& 31)) - 1)).bind fun x79 => (fX8_makeParcels_L7 x79 1000 0 (zz_u τ4 47 17 0)).bind _) = _
    rw [pz_bs, pz_uj (by decide), t4, e5, pz_bs]
  · rw [f5 55 (by decide) (by decide), pz_uq (by decide), f4 55 (by decide), f3 55 (by decide), f2 55 (by decide)]; exact H1 p hp
  · rw [z5 13 (by decide), pz_uj (by decide), f4 47 (by decide), f3 47 (by decide), f2 47 (by decide)]; exact l1
  · rw [f5 57 (by decide) (by decide), pz_uq (by decide)]; exact b4 p hp
  · rw [f5 q (by omega) (by omega), pz_uq (by omega), f4 q (by omega), f3 q (by omega), f2 q (by omega), f1 q (by omega) (by omega) (by omega)]
end MP
