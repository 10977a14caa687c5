/-! pure part: what is worked out, as functions of what is held; the invariant -/
def pz_rdy (n : Nat) (F : Nat → Nat → Bool) (dn : Nat → Bool) (p : Nat) : Bool := !dn p && !pz_ex (fun q => F p q && (!dn q && !decide (pz_lo F q = pz_lo F p))) n
def pz_nx (n : Nat) (F : Nat → Nat → Bool) (dn : Nat → Bool) : Nat := pz_f (pz_rdy n F dn) n
def pz_dn (n : Nat) (F : Nat → Nat → Bool) : Nat → Nat → Bool
  | 0, _ => false
  | k + 1, q => pz_dn n F k q || decide (pz_lo F q = pz_lo F (pz_nx n F (pz_dn n F k)))
def pz_od (n : Nat) (F : Nat → Nat → Bool) (k : Nat) : Nat := pz_lo F (pz_nx n F (pz_dn n F k))
/-- how many parcels -/
def pz_pc (n : Nat) (F : Nat → Nat → Bool) : Nat := pz_f (fun k => !pz_ex (fun q => !pz_dn n F k q) n) n
/-- the pieces of a parcel -/
def pz_P (n : Nat) (F : Nat → Nat → Bool) (k q : Nat) : Bool := decide (q < n) && decide (pz_lo F q = pz_od n F k)
def pz_kn (n : Nat) (F : Nat → Nat → Bool) (h : Nat → Nat) : Nat := pz_ct (fun k => pz_ex (fun q => pz_P n F k q && !decide (h q = pz_od n F k)) n) (pz_pc n F)
/-- the least, and the way -/
def pz_IsR (m : Nat) (c R : Nat → Nat) : Prop := R (2 ^ m - 1) = 0 ∧ ∀ S, S < 2 ^ m - 1 → (∀ k, k < m → S.testBit k = false → R S ≤ c (S ||| 2 ^ k) + R (S ||| 2 ^ k)) ∧ (∃ k, k < m ∧ S.testBit k = false ∧ R S = c (S ||| 2 ^ k) + R (S ||| 2 ^ k))
def pz_wn (m : Nat) (c R : Nat → Nat) (S : Nat) : Nat := pz_f (fun k => !S.testBit k && decide (c (S ||| 2 ^ k) + R (S ||| 2 ^ k) = R S)) m
def pz_wk (m : Nat) (c R : Nat → Nat) : Nat → Nat
  | 0 => 0
  | k + 1 => pz_wk m c R k ||| 2 ^ pz_wn m c R (pz_wk m c R k)
def vMu (σ : zz_St) (p q : Nat) : Bool := pz_b (σ 22 p) q
def vNo (σ : zz_St) (p q : Nat) : Bool := pz_b (σ 23 p) q
def vMa (σ : zz_St) : Nat := (σ 24 1).toNatClampNeg
def vTh (σ : zz_St) : Nat := (σ 24 0).toNatClampNeg
def vNd (σ : zz_St) (a b : Nat) : Bool := !decide ((((σ 10 a &&& σ 8 b) &&& (σ 17 0 ^^^ (-1))) ||| (σ 9 a &&& σ 11 b)) ||| (σ 8 a &&& σ 9 b) = 0)
def vMk (n : Nat) (σ : zz_St) : (Nat → Nat) × Int32 := pz_mk n (vNo σ) (vAf σ) (vMa σ) (vTh σ) 14 (pz_h0 n (vMu σ)) (-1)
def vH (n : Nat) (σ : zz_St) : Nat → Nat := (vMk n σ).1
def vE (n : Nat) (σ : zz_St) (a b : Nat) : Bool := decide (a < n) && decide (b < n) && (decide (vH n σ a = vH n σ b) || vNd σ a b)
def vF (n : Nat) (σ : zz_St) : Nat → Nat → Bool := pz_W (vE n σ) n
def vM (n : Nat) (σ : zz_St) : Nat := pz_pc n (vF n σ)
def vDf (σ : zz_St) (s : Nat → Bool) (x : Nat) : Int32 := (zz_bi (pz_b (σ 17 0) x) + nI (pz_ct (fun p => pz_b (σ 8 p) x && s p) 14)) - nI (pz_ct (fun p => pz_b (σ 9 p) x && s p) 14)
def vUs (σ : zz_St) (s : Nat → Bool) (x : Nat) : Int32 := (σ 18 x + nI (pz_ct (fun p => pz_b (σ 10 p) x && s p) 14)) - nI (pz_ct (fun p => pz_b (σ 11 p) x && s p) 14)
def vBk (σ : zz_St) (s : Nat → Bool) (x : Nat) : Bool := decide (1 < vDf σ s x) || (decide (vDf σ s x < 1) && decide (1 ≤ vUs σ s x))
def vCt (σ : zz_St) (s : Nat → Bool) : Nat := pz_ct (vBk σ s) 16
/-- the pieces of a set of parcels -/
def vQ (n : Nat) (σ : zz_St) (S q : Nat) : Bool := pz_ex (fun k => S.testBit k && pz_P n (vF n σ) k q) (vM n σ)
def vCs (n : Nat) (σ : zz_St) (S : Nat) : Nat := vCt σ (vQ n σ S)
def pz_DG (n : Nat) (σ : zz_St) : Prop := ∃ k e, pz_En n (vH n σ) k e ∧ σ 24 2 = nI k ∧ (∀ i, i < k → ∀ b, pz_b (σ 25 i) b = pz_G n (vH n σ) (e i) b)
def pz_DA (n : Nat) (σ : zz_St) : Prop := ∀ a b, a < n → b < n → a ≠ b → σ (27 + a) b = nI (vAf σ a b)
def pz_DP (n : Nat) (σ : zz_St) : Prop := σ 41 0 = nI (vM n σ) ∧ σ 41 1 = nI (pz_kn n (vF n σ) (vH n σ)) ∧ (∀ k, k < vM n σ → ∀ b, pz_b (σ 42 k) b = pz_P n (vF n σ) k b)
def pz_DB (n : Nat) (σ : zz_St) : Prop := vM n σ ≤ 9 ∧ ∃ R, pz_IsR (vM n σ) (vCs n σ) R ∧ σ 44 0 = nI (R 0) ∧ σ 44 1 = nI (vM n σ) ∧ ∀ k, k < vM n σ → σ 45 k = nI (pz_wn (vM n σ) (vCs n σ) R (pz_wk (vM n σ) (vCs n σ) R k))
def pz_D (n : Nat) (σ : zz_St) : Prop := pz_DG n σ ∧ pz_DA n σ ∧ σ 24 3 = (vMk n σ).2 ∧ pz_DP n σ
def pz_K (n : Nat) (σ : zz_St) : Prop := (σ 0 7 = 0 ∧ σ 0 8 = 0) ∨ (σ 0 7 = 1 ∧ pz_D n σ ∧ (σ 0 8 = 0 ∨ (σ 0 8 = 1 ∧ pz_DB n σ)))
/-- the class holds the same as before, but for purposes and what is worked out -/
def pz_sa (σ σ' : zz_St) : Prop := (∀ q, 0 < q → q < 24 → q ≠ 6 → σ' q = σ q) ∧ σ' 24 0 = σ 24 0 ∧ σ' 24 1 = σ 24 1
section SA
variable {n : Nat} {σ σ' τ τ' : zz_St}
theorem ps_rf (σ : zz_St) : pz_sa σ σ := ⟨fun _ _ _ _ => rfl, rfl, rfl⟩
theorem ps_tr {σ'' : zz_St} (h : pz_sa σ σ') (h2 : pz_sa σ' σ'') : pz_sa σ σ'' := ⟨fun q a b c => (h2.1 q a b c).trans (h.1 q a b c), h2.2.1.trans h.2.1, h2.2.2.trans h.2.2⟩
theorem ps_q (h : pz_sa σ σ') (q : Nat) (a : 0 < q := by decide) (b : q < 24 := by decide) (c : q ≠ 6 := by decide) : σ' q = σ q := h.1 q a b c
theorem ps_W (h : pz_sa σ σ') : vW σ' = vW σ := by unfold vW; rw [ps_q h 20]
theorem ps_A (h : pz_sa σ σ') : vA σ' = vA σ := by unfold vA; rw [ps_q h 8, ps_q h 9, ps_q h 10, ps_q h 11]
theorem ps_Af (h : pz_sa σ σ') : vAf σ' = vAf σ := by
  funext a b
  unfold vAf vP0 vP1 vP2 vP3
  rw [ps_W h, ps_A h, ps_q h 2, ps_q h 3, ps_q h 19, ps_q h 8, ps_q h 9, ps_q h 10]
theorem ps_Mu (h : pz_sa σ σ') : vMu σ' = vMu σ := by unfold vMu; rw [ps_q h 22]
theorem ps_No (h : pz_sa σ σ') : vNo σ' = vNo σ := by unfold vNo; rw [ps_q h 23]
theorem ps_Ma (h : pz_sa σ σ') : vMa σ' = vMa σ := by unfold vMa; rw [h.2.2]
theorem ps_Th (h : pz_sa σ σ') : vTh σ' = vTh σ := by unfold vTh; rw [h.2.1]
theorem ps_Nd (h : pz_sa σ σ') : vNd σ' = vNd σ := by unfold vNd; rw [ps_q h 8, ps_q h 9, ps_q h 10, ps_q h 11, ps_q h 17]
theorem ps_Mk (h : pz_sa σ σ') : vMk n σ' = vMk n σ := by unfold vMk; rw [ps_No h, ps_Af h, ps_Ma h, ps_Th h, ps_Mu h]
theorem ps_H (h : pz_sa σ σ') : vH n σ' = vH n σ := by unfold vH; rw [ps_Mk h]
theorem ps_F (h : pz_sa σ σ') : vF n σ' = vF n σ := by unfold vF vE; rw [ps_H h, ps_Nd h]
theorem ps_M (h : pz_sa σ σ') : vM n σ' = vM n σ := by unfold vM; rw [ps_F h]
theorem ps_Bk (h : pz_sa σ σ') : vBk σ' = vBk σ := by unfold vBk vDf vUs; rw [ps_q h 8, ps_q h 9, ps_q h 10, ps_q h 11, ps_q h 17, ps_q h 18]
theorem ps_Ct (h : pz_sa σ σ') : vCt σ' = vCt σ := by unfold vCt; rw [ps_Bk h]
theorem ps_Q (h : pz_sa σ σ') : vQ n σ' = vQ n σ := by unfold vQ; rw [ps_F h, ps_M h]
theorem ps_Cs (h : pz_sa σ σ') : vCs n σ' = vCs n σ := by unfold vCs; rw [ps_Ct h, ps_Q h]
theorem ps_CW (h : pz_sa σ σ') (c : pz_CW n σ) : pz_CW n σ' := by
  obtain ⟨c1, c2, c3, c5, c6⟩ := c
  refine ⟨?_, ?_, ?_, ?_, ?_⟩
  · unfold pz_CW1 at *; rw [ps_q h 1]; exact c1
  · unfold pz_CW2 at *; rw [ps_q h 3]; exact c2
  · intro w hw
    have e1 : σ' (8 + w) = σ (8 + w) := h.1 _ (by omega) (by omega) (by omega)
    have e2 : σ' (13 + w) = σ (13 + w) := h.1 _ (by omega) (by omega) (by omega)
    obtain ⟨a, b, c⟩ := c3 w hw
    rw [e1, e2]
    refine ⟨a, b, fun x i hx => ?_⟩
    exact c x i hx
  · unfold pz_CW5 at *; rw [ps_q h 20, h.2.1, h.2.2]; exact c5
  · unfold pz_CW6 at *; rw [ps_q h 22, ps_q h 23]; exact c6
/-- what is kept holds on -/
theorem ps_D (hn : n ≤ 14) (h : pz_sa σ σ') (h2 : ∀ q, 24 ≤ q → q < 43 → σ' q = σ q) (d : pz_D n σ) : pz_D n σ' := by
  obtain ⟨⟨k, e, E, a, b⟩, dA, dL, dP⟩ := d
  have q24 := h2 24 (by decide) (by decide)
  refine ⟨⟨k, e, ?_⟩, ?_, ?_, ?_⟩
  · rw [ps_H h, q24, h2 25 (by decide) (by decide)]; exact ⟨E, a, b⟩
  · intro a b ha hb hab
    rw [ps_Af h]
    rw [h2 _ (by omega) (by omega)]
    exact dA a b ha hb hab
  · rw [q24, ps_Mk h]; exact dL
  · unfold pz_DP at *; rw [ps_M h, ps_F h, ps_H h, h2 41 (by decide) (by decide), h2 42 (by decide) (by decide)]; exact dP
end SA

