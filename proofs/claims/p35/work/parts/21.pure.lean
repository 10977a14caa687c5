/-! pure part: loops, small numbers, bits, the world's ints, the number of bits -/
theorem pz_loop {S R : Type} (L : Nat → Nat → S → Option R) (P : Nat → S → Prop) (Q : R → Prop) (N : Nat)
    (step : ∀ k f s, k < N → P k s → (∃ s', P (k + 1) s' ∧ L (f + 1) k s = L f (k + 1) s') ∨ (∃ r, Q r ∧ L (f + 1) k s = some r))
    (stop : ∀ f s, P N s → ∃ r, Q r ∧ L (f + 1) N s = some r) :
    ∀ (f k : Nat) (s : S), k ≤ N → P k s → N < k + f → ∃ r, Q r ∧ L f k s = some r := by
  intro f
  induction f with
  | zero => intro k s hk _ hf; omega
  | succ f ih =>
    intro k s hk hP hf
    rcases Nat.lt_or_ge k N with h | h
    · rcases step k f s h hP with ⟨s', hP', e⟩ | ⟨r, hr, e⟩
      · rw [e]; exact ih (k + 1) s' h hP' (by omega)
      · exact ⟨r, hr, e⟩
    · have e : k = N := by omega
      subst e
      exact stop f s hP
theorem pz_down {S R : Type} (L : Nat → Nat → S → Option R) (P : Nat → S → Prop) (Q : R → Prop)
    (step : ∀ k f s, P (k + 1) s → (∃ s', P k s' ∧ L (f + 1) (k + 1) s = L f k s') ∨ (∃ r, Q r ∧ L (f + 1) (k + 1) s = some r))
    (stop : ∀ f s, P 0 s → ∃ r, Q r ∧ L (f + 1) 0 s = some r) :
    ∀ (f k : Nat) (s : S), P k s → k < f → ∃ r, Q r ∧ L f k s = some r := by
  intro f
  induction f with
  | zero => intro k s _ hf; omega
  | succ f ih =>
    intro k s hP hf
    cases k with
    | zero => exact stop f s hP
    | succ k =>
      rcases step k f s hP with ⟨s', hP', e⟩ | ⟨r, hr, e⟩
      · rw [e]; exact ih k s' hP' (by omega)
      · exact ⟨r, hr, e⟩
theorem pz_bs {α β : Type} (a : α) (f : α → Option β) : (some a).bind f = f a := rfl
theorem pz_lit (n : Nat) : (OfNat.ofNat n : Int32) = nI n := rfl
theorem pz_ga {f : Nat → Int32} {n k : Nat} (h : k < n) (hn : n < 2147483648) : zz_ga f n (nI k) = some (f k) := by
  unfold zz_ga
  rw [if_neg (nI_in h (by omega)), nI_clamp (by omega)]
theorem pz_pa {σ : zz_St} {q n k : Nat} {v : Int32} (h : k < n) (hn : n < 2147483648) : zz_pa σ q n (nI k) v = some (zz_u σ q k v) := by
  unfold zz_pa
  rw [if_neg (nI_in h (by omega)), nI_clamp (by omega)]
theorem pz_ix {n k : Nat} (h : k < n) (hn : n < 2147483648) : zz_ix n (nI k) = some k := by
  unfold zz_ix
  rw [if_neg (nI_in h (by omega)), nI_clamp (by omega)]
theorem pz_u (σ : zz_St) (q j : Nat) (v : Int32) (q' j' : Nat) : zz_u σ q j v q' j' = if q' = q ∧ j' = j then v else σ q' j' := by
  unfold zz_u
  by_cases h : q' = q
  · subst h
    rw [show Nat.beq q' q' = true from Nat.beq_refl q']
    show (if j' = j then v else σ q' j') = _
    by_cases h2 : j' = j
    · rw [if_pos h2, if_pos ⟨rfl, h2⟩]
    · rw [if_neg h2, if_neg (fun g => h2 g.2)]
  · rw [show Nat.beq q' q = false from by rw [← Bool.not_eq_true]; exact fun g => h (Nat.eq_of_beq_eq_true g)]
    show σ q' j' = _
    rw [if_neg (fun g => h g.1)]
theorem pz_uq {σ : zz_St} {q j : Nat} {v : Int32} {q' : Nat} (h : q' ≠ q) : zz_u σ q j v q' = σ q' := funext fun j' => by rw [pz_u, if_neg (fun g => h g.1)]
theorem pz_us {σ : zz_St} {q j : Nat} {v : Int32} : zz_u σ q j v q j = v := by rw [pz_u, if_pos ⟨rfl, rfl⟩]
theorem pz_uj {σ : zz_St} {q j : Nat} {v : Int32} {q' j' : Nat} (h : j' ≠ j) : zz_u σ q j v q' j' = σ q' j' := by rw [pz_u, if_neg (fun g => h g.2)]
/-! bits -/
def pz_b (x : Int32) (i : Nat) : Bool := x.toBitVec.getLsbD i
theorem pb_ext {x y : Int32} (h : ∀ i, i < 32 → pz_b x i = pz_b y i) : x = y := Int32.toBitVec_inj.mp (BitVec.eq_of_getLsbD_eq (fun i hi => h i hi))
theorem pb_or (x y : Int32) (i : Nat) : pz_b (x ||| y) i = (pz_b x i || pz_b y i) := by unfold pz_b; rw [Int32.toBitVec_or, BitVec.getLsbD_or]
theorem pb_and (x y : Int32) (i : Nat) : pz_b (x &&& y) i = (pz_b x i && pz_b y i) := by unfold pz_b; rw [Int32.toBitVec_and, BitVec.getLsbD_and]
theorem pb_xor (x y : Int32) (i : Nat) : pz_b (x ^^^ y) i = (pz_b x i ^^ pz_b y i) := by unfold pz_b; rw [Int32.toBitVec_xor, BitVec.getLsbD_xor]
theorem pb_big {x : Int32} {i : Nat} (h : 32 ≤ i) : pz_b x i = false := BitVec.getLsbD_of_ge _ _ h
theorem pb_m1 : ∀ i, i < 32 → pz_b (-1) i = true := by decide +kernel
theorem pb_0 (i : Nat) : pz_b 0 i = false := BitVec.getLsbD_zero
theorem pb_not {x : Int32} {i : Nat} (h : i < 32) : pz_b (x ^^^ (-1)) i = !pz_b x i := by rw [pb_xor, pb_m1 i h, Bool.xor_true]
theorem pb_sl : ∀ n, n < 32 → ((nI n &&& 31).toBitVec.smod 32).toNat = n := by decide +kernel
theorem pb_shr {n : Nat} (hn : n < 32) (x : Int32) {i : Nat} (hi : i < 32) : pz_b (x >>> (nI n &&& 31)) i = if n + i < 32 then pz_b x (n + i) else pz_b x 31 := by
  unfold pz_b
  rw [Int32.toBitVec_shiftRight]
  show (x.toBitVec.sshiftRight ((nI n &&& 31).toBitVec.smod 32).toNat).getLsbD i = _
  rw [pb_sl n hn, BitVec.getLsbD_sshiftRight, BitVec.msb_eq_getLsbD_last]
  simp [hi]
theorem pb_1 (i : Nat) : pz_b 1 i = decide (i = 0) := by
  rcases Nat.lt_or_ge i 32 with h | h
  · exact (by decide +kernel : ∀ i, i < 32 → pz_b 1 i = decide (i = 0)) i h
  · rw [pb_big h, decide_eq_false (by omega)]
theorem pb_one {k : Nat} (hk : k < 32) (i : Nat) : pz_b ((1 : Int32) <<< (nI k &&& 31)) i = decide (i = k) := by
  rcases Nat.lt_or_ge i 32 with h | h
  · exact (by decide +kernel : ∀ k, k < 32 → ∀ i, i < 32 → pz_b ((1 : Int32) <<< (nI k &&& 31)) i = decide (i = k)) k hk i h
  · rw [pb_big h, decide_eq_false (by omega)]
theorem pb_all {k : Nat} (hk : k < 32) (i : Nat) : pz_b (((1 : Int32) <<< (nI k &&& 31)) - 1) i = decide (i < k) := by
  rcases Nat.lt_or_ge i 32 with h | h
  · exact (by decide +kernel : ∀ k, k < 32 → ∀ i, i < 32 → pz_b (((1 : Int32) <<< (nI k &&& 31)) - 1) i = decide (i < k)) k hk i h
  · rw [pb_big h, decide_eq_false (by omega)]
theorem pb_bit {n : Nat} (hn : n < 32) (x : Int32) : (x >>> (nI n &&& 31)) &&& 1 = zz_bi (pz_b x n) := by
  apply pb_ext
  intro i hi
  rw [pb_and, pb_shr hn x hi, pb_1]
  cases h : pz_b x n with
  | false =>
    show _ = pz_b 0 i
    rw [pb_0]
    by_cases e : i = 0
    · subst e; rw [Nat.add_zero, if_pos hn, h]; rfl
    · rw [decide_eq_false e, Bool.and_false]
  | true =>
    show _ = pz_b 1 i
    rw [pb_1]
    by_cases e : i = 0
    · subst e; rw [Nat.add_zero, if_pos hn, h]; rfl
    · rw [decide_eq_false e, Bool.and_false]
theorem pb_z {x : Int32} : x = 0 ↔ ∀ i, i < 32 → pz_b x i = false := ⟨fun h i _ => by rw [h, pb_0], fun h => pb_ext fun i hi => by rw [h i hi, pb_0]⟩
theorem pb_nz {x : Int32} : ¬ x = 0 ↔ ∃ i, i < 32 ∧ pz_b x i = true := by
  rw [pb_z]
  constructor
  · intro h
    apply Classical.byContradiction
    intro g
    exact h fun i hi => by
      cases e : pz_b x i with
      | false => rfl
      | true => exact absurd ⟨i, hi, e⟩ g
  · rintro ⟨i, hi, e⟩ h
    rw [h i hi] at e
    cases e
theorem pz_bi1 (b : Bool) : (zz_bi b = 1) ↔ b = true := by cases b <;> decide
theorem pz_bi0 (b : Bool) : (zz_bi b = 0) ↔ b = false := by cases b <;> decide
theorem pz_bii (b c : Bool) : (zz_bi b = zz_bi c) ↔ b = c := by cases b <;> cases c <;> decide
theorem pz_bo (b : Bool) : zz_bo (zz_bi b) = some (zz_bi b) := by cases b <;> decide
theorem pf_isIn {σ : zz_St} {k : Nat} (hk : k < 32) (x : Int32) : fX7_isIn σ (nI k) x = some (zz_bi (pz_b x k)) := by
  unfold fX7_isIn
  rw [pb_bit hk]
  cases pz_b x k <;> rfl
/-! how many -/
def pz_ct (P : Nat → Bool) : Nat → Nat
  | 0 => 0
  | n + 1 => pz_ct P n + (if P n = true then 1 else 0)
theorem pc_le (P : Nat → Bool) : ∀ n, pz_ct P n ≤ n
  | 0 => Nat.le_refl 0
  | n + 1 => by
    rw [pz_ct]
    have := pc_le P n
    split <;> omega
theorem pc_cong {P P' : Nat → Bool} : ∀ {n : Nat}, (∀ k, k < n → P k = P' k) → pz_ct P n = pz_ct P' n
  | 0, _ => rfl
  | n + 1, h => by rw [pz_ct, pz_ct, pc_cong (fun k hk => h k (by omega)), h n (by omega)]
theorem pz_andN (a b : Nat) : nI a &&& nI b = nI (Nat.land a b) := by
  apply Int32.toBitVec_inj.1
  show BitVec.ofNat 32 a &&& BitVec.ofNat 32 b = BitVec.ofNat 32 (a &&& b)
  apply BitVec.eq_of_getLsbD_eq
  intro i hi
  simp [hi]
def pz_m3 (m : Nat) : Nat := Nat.add (Nat.land m 858993459) (Nat.land (Nat.div m 4) 858993459)
def pz_m5 (m : Nat) : Nat := Nat.land (Nat.add m (Nat.div m 16)) 252645135
def pz_m7 (m : Nat) : Nat := Nat.add m (Nat.div m 256)
def pz_m9 (m : Nat) : Nat := Nat.add m (Nat.div m 65536)
def pz_bcN (m : Nat) : Nat := Nat.land (pz_m9 (pz_m7 (pz_m5 (pz_m3 (Nat.sub m (Nat.land (Nat.div m 2) 1431655765)))))) 63
def pz_pS (m : Nat) : Nat → Nat
  | 0 => 0
  | n + 1 => Nat.add (pz_pS m n) (Nat.mod (Nat.div m (Nat.pow 2 n)) 2)
def pz_al (P : Nat → Bool) : Nat → Bool
  | 0 => true
  | n + 1 => P n && pz_al P n
theorem pal {P : Nat → Bool} : ∀ {n : Nat}, pz_al P n = true → ∀ k, k < n → P k = true
  | 0, _, k, hk => by omega
  | n + 1, h, k, hk => by
    rw [pz_al, Bool.and_eq_true] at h
    by_cases e : k = n
    · rw [e]; exact h.1
    · exact pal h.2 k (by omega)
theorem pc_16 : pz_al (fun a => pz_al (fun b => Nat.beq (pz_bcN (Nat.add (Nat.mul 256 a) b)) (pz_pS (Nat.add (Nat.mul 256 a) b) 16)) 256) 256 = true := by decide +kernel
theorem pz_pSc (m : Nat) : ∀ n, pz_pS m n = pz_ct (fun i => Nat.testBit m i) n
  | 0 => rfl
  | n + 1 => by
    rw [pz_pS, pz_ct, pz_pSc m n]
    show _ + m / 2 ^ n % 2 = _
    rw [Nat.testBit_eq_decide_div_mod_eq]
    by_cases e : m / 2 ^ n % 2 = 1
    · rw [e]; rfl
    · rw [if_neg (by rw [decide_eq_true_iff]; exact e)]; omega
theorem pz_ush {n : Nat} (k : Nat) (hk : k < 32) (h : n < 2147483648) : zz_ushr (nI n) (nI k) = nI (n / 2 ^ k) :=
  pk_ushrN (by omega) (nI k) k ((by decide +kernel : ∀ k, k < 32 → (((nI k).toUInt32 &&& Int32.toUInt32 31).toBitVec % 32).toNat = k) k hk)
theorem pf_bcN {m : Nat} (h : m < 65536) : fJ6_bitCount (nI m) = some (nI (pz_bcN m)) := by
  unfold fJ6_bitCount
  have a1 : Nat.land (m / 2) 1431655765 ≤ m := Nat.le_trans Nat.and_le_left (by omega)
  have e1 : nI m - (zz_ushr (nI m) 1 &&& 1431655765) = nI (m - Nat.land (m / 2) 1431655765) := by
    show nI m - (zz_ushr (nI m) (nI 1) &&& nI 1431655765) = _
    rw [pz_ush 1 (by decide) (by omega), pz_andN, pk_sub a1]
  rw [pz_bs, pz_bs, pz_bs, pz_bs, pz_bs, e1]
  have h1 : m - Nat.land (m / 2) 1431655765 < 65536 := by omega
  show _ = some (nI (Nat.land (pz_m9 (pz_m7 (pz_m5 (pz_m3 (m - Nat.land (m / 2) 1431655765))))) 63))
  generalize m - Nat.land (m / 2) 1431655765 = m1 at h1
  have e3 : (nI m1 &&& 858993459) + (zz_ushr (nI m1) 2 &&& 858993459) = nI (pz_m3 m1) := by
    show (nI m1 &&& nI 858993459) + (zz_ushr (nI m1) (nI 2) &&& nI 858993459) = _
    rw [pz_ush 2 (by decide) (by omega), pz_andN, pz_andN, nI_add]
    rfl
  have h3 : pz_m3 m1 < 131072 := by
    have : Nat.land m1 858993459 ≤ m1 := Nat.and_le_left
    have : Nat.land (m1 / 4) 858993459 ≤ m1 / 4 := Nat.and_le_left
    show Nat.land m1 858993459 + Nat.land (m1 / 4) 858993459 < _
    omega
  rw [e3]
  generalize pz_m3 m1 = m3 at h3
  have e5 : (nI m3 + zz_ushr (nI m3) 4) &&& 252645135 = nI (pz_m5 m3) := by
    show (nI m3 + zz_ushr (nI m3) (nI 4)) &&& nI 252645135 = _
    rw [pz_ush 4 (by decide) (by omega), nI_add, pz_andN]
    rfl
  have h5 : pz_m5 m3 < 262144 := by
    have : pz_m5 m3 ≤ m3 + m3 / 16 := Nat.and_le_left
    omega
  rw [e5]
  generalize pz_m5 m3 = m5 at h5
  have e7 : nI m5 + zz_ushr (nI m5) 8 = nI (pz_m7 m5) := by
    show nI m5 + zz_ushr (nI m5) (nI 8) = _
    rw [pz_ush 8 (by decide) (by omega), nI_add]
    rfl
  have h7 : pz_m7 m5 < 524288 := by
    show m5 + m5 / 256 < _
    omega
  rw [e7]
  generalize pz_m7 m5 = m7 at h7
  have e9 : nI m7 + zz_ushr (nI m7) 16 = nI (pz_m9 m7) := by
    show nI m7 + zz_ushr (nI m7) (nI 16) = _
    rw [pz_ush 16 (by decide) (by omega), nI_add]
    rfl
  rw [e9]
  show some (nI (pz_m9 m7) &&& nI 63) = _
  rw [pz_andN]
theorem pf_bc {x : Int32} (h : ∀ i, 16 ≤ i → pz_b x i = false) : fJ6_bitCount x = some (nI (pz_ct (pz_b x) 16)) := by
  have hm : x.toBitVec.toNat < 65536 := by
    refine Nat.lt_pow_two_of_testBit (n := 16) _ fun i hi => ?_
    exact h i hi
  have e2 : nI x.toBitVec.toNat = x := Int32.toBitVec_inj.mp (by show BitVec.ofNat 32 _ = _; simp)
  have e := Nat.eq_of_beq_eq_true (pal (pal pc_16 (x.toBitVec.toNat / 256) (by omega)) (x.toBitVec.toNat % 256) (by omega))
  rw [show Nat.add (Nat.mul 256 (x.toBitVec.toNat / 256)) (x.toBitVec.toNat % 256) = x.toBitVec.toNat from Nat.div_add_mod _ _] at e
  have e3 := pf_bcN hm
  rw [e, pz_pSc, e2] at e3
  exact e3

