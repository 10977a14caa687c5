/-! pure part: the law looks at groups and parcels -/
/-- trailing zeros -/
def pz_ntN (X : Nat) : Nat := Nat.land (Nat.xor X 4294967295) (Nat.sub X 1)
theorem pz_nt16 : pz_al (fun a => pz_al (fun b => Nat.beq (Nat.add (Nat.mul 128 a) b) 0 || Nat.beq (pz_ntN (Nat.add (Nat.mul 128 a) b)) (Nat.sub (Nat.pow 2 (pz_f (fun i => Nat.testBit (Nat.add (Nat.mul 128 a) b) i) 14)) 1)) 128) 128 = true := by decide +kernel
theorem pz_xorN (a b : Nat) : nI a ^^^ nI b = nI (Nat.xor a b) := by
  apply Int32.toBitVec_inj.1
  show BitVec.ofNat 32 a ^^^ BitVec.ofNat 32 b = BitVec.ofNat 32 (a ^^^ b)
  apply BitVec.eq_of_getLsbD_eq
  intro i hi
  simp [hi]
theorem pz_nt14 : ∀ m, m < 14 → (if 0 < nI (2 ^ m - 1) then
    (if nI (2 ^ m - 1) ≤ (65536 : Int32) then some (nI (2 ^ m - 1), (1 : Int32)) else (some (zz_ushr (nI (2 ^ m - 1)) (16 : Int32))).bind fun x8 => some (x8, ((1 : Int32) + (16 : Int32)))).bind fun x4 =>
    (if x4.1 ≤ (256 : Int32) then some (x4.1, x4.2) else (some (zz_ushr x4.1 (8 : Int32))).bind fun x14 => some (x14, (x4.2 + (8 : Int32)))).bind fun x10 =>
    (if x10.1 ≤ (16 : Int32) then some (x10.1, x10.2) else (some (zz_ushr x10.1 (4 : Int32))).bind fun x20 => some (x20, (x10.2 + (4 : Int32)))).bind fun x16 =>
    (if x16.1 ≤ (4 : Int32) then some (x16.1, x16.2) else (some (zz_ushr x16.1 (2 : Int32))).bind fun x26 => some (x26, (x16.2 + (2 : Int32)))).bind fun x22 =>
    some (x22.2 + (zz_ushr x22.1 (1 : Int32)))
  else some (nI (2 ^ m - 1) &&& (32 : Int32))) = some (nI m) := by decide +kernel
theorem pf_ntz {x : Int32} {m : Nat} (hm : m < 14) (hx : ∀ i, 14 ≤ i → pz_b x i = false) (h1 : pz_b x m = true) (h2 : ∀ i, i < m → pz_b x i = false) : fJ6_numberOfTrailingZeros x = some (nI m) := by
  have hX : x.toBitVec.toNat < 16384 := by
    refine Nat.lt_pow_two_of_testBit (n := 14) _ fun i hi => ?_
    exact hx i hi
  have ex : nI x.toBitVec.toNat = x := Int32.toBitVec_inj.mp (by show BitVec.ofNat 32 _ = _; simp)
  have b1 : x.toBitVec.toNat.testBit m = true := h1
  have b2 : ∀ i, i < m → x.toBitVec.toNat.testBit i = false := h2
  generalize x.toBitVec.toNat = X at hX ex b1 b2
  subst ex
  have X0 : X ≠ 0 := fun q => by rw [q, Nat.zero_testBit] at b1; cases b1
  have z := pal (pal pz_nt16 (X / 128) (by omega)) (X % 128) (by omega)
  rw [show Nat.add (Nat.mul 128 (X / 128)) (X % 128) = X from Nat.div_add_mod _ _, Bool.or_eq_true] at z
  have ef : pz_f (fun i => Nat.testBit X i) 14 = m := pf_is (by omega) b2 (fun _ => b1)
  have e2 : pz_ntN X = 2 ^ m - 1 := by
    rcases z with z | z
    · exact absurd (Nat.eq_of_beq_eq_true z) X0
    · have := Nat.eq_of_beq_eq_true z
      rw [ef] at this
      exact this
  have e1 : (nI X ^^^ (-1 : Int32)) &&& (nI X - (1 : Int32)) = nI (2 ^ m - 1) := by
    rw [show (-1 : Int32) = nI 4294967295 by decide, pz_xorN, show nI X - (1 : Int32) = nI (X - 1) from pk_sub (a := X) (b := 1) (by omega), pz_andN, ← e2]
    rfl
  unfold fJ6_numberOfTrailingZeros
  rw [e1, pz_bs]
  exact pz_nt14 m hm
section LM
variable {n : Nat} {σ σ' : zz_St} {xs sd : Nat → Int32} {L k : Nat} {e : Nat → Nat}
theorem fl_L4 (T : pz_T n σ) (hn : n ≤ 12) (S : pz_S n σ sd) (E : pz_En n (vH n σ) k e) (hk : σ 24 2 = nI k) (hs : ∀ i, i < k → ∀ b, pz_b (σ 25 i) b = pz_G n (vH n σ) (e i) b) {g h p : Nat} (hg : g < k) (hh : h < k) (hp : p < n) (b0 : Bool) : fL_law_L4 sd (nI n) (σ 25 g) (nI h) (nI p) 14 (zz_bi b0) 0 σ = some (zz_bi (b0 || pz_ex (fun q => pz_G n (vH n σ) (e g) p && (pz_G n (vH n σ) (e h) q && vNo σ p q)) n), nI n, σ) := by
  have hkn := pEn_k E
  have e := pz_for (S := Bool) (fun f k b => fL_law_L4 sd (nI n) (σ 25 g) (nI h) (nI p) f (zz_bi b) (nI k) σ) (fun q b => b || (pz_G n (vH n σ) (e g) p && (pz_G n (vH n σ) (e h) q && vNo σ p q))) (fun b => (zz_bi b, nI n, σ)) n b0 (fun q f hq => by
    generalize pz_fd (fun q b => b || (pz_G n (vH n σ) (e g) p && (pz_G n (vH n σ) (e h) q && vNo σ p q))) b0 q = b
    show fL_law_L4 sd (nI n) (σ 25 g) (nI h) (nI p) (f + 1) (zz_bi b) (nI q) σ = fL_law_L4 sd (nI n) (σ 25 g) (nI h) (nI p) f (zz_bi (b || (pz_G n (vH n σ) (e g) p && (pz_G n (vH n σ) (e h) q && vNo σ p q)))) (nI (q + 1)) σ
    have ix : (16 : Int32) * nI p + nI q = nI (16 * p + q) := by rw [show (16 : Int32) = nI 16 from rfl, pk_mul, nI_add]
    rw [fL_law_L4, if_neg (nI_ge hq (by omega)), nI_1]
    cases b with
    | true => rw [if_neg (show ¬ zz_bi true = 0 by decide), pz_bs, pz_bs, Bool.true_or]
    | false =>
      rw [if_pos (show zz_bi false = 0 from rfl), Bool.false_or, pb_bit (by omega), hs g hg]
      cases gp : pz_G n (vH n σ) (e g) p with
      | false => rw [if_neg (show ¬ zz_bi false = 1 by decide), pz_bs, pz_bs, Bool.false_and]
      | true =>
        rw [if_pos (show zz_bi true = 1 by decide), u_group T hk (by omega) hh, pz_bs, Bool.true_and]
        show (((if ((σ 25 h >>> (nI q &&& 31)) &&& (1 : Int32)) = (1 : Int32) then (zz_ga sd 256 ((16 : Int32) * nI p + nI q)).bind fun x53 => if x53 = (2 : Int32) then some (true, σ) else some (false, σ) else some (false, σ)) : Option (Bool × zz_St)).bind _) = _
        rw [pb_bit (by omega), hs h hh, ix, pz_ga (by omega) (by decide), pz_bs, S p q hp hq]
        cases gq : pz_G n (vH n σ) (e h) q with
        | false => rw [if_neg (show ¬ zz_bi false = 1 by decide), pz_bs, pz_bs, Bool.false_and]
        | true =>
          rw [if_pos (show zz_bi true = 1 by decide), Bool.true_and]
          by_cases no : vNo σ p q = true
          · rw [if_pos ((vCd2 T.1.1.2.2.2.2 hp hq).mpr no), pz_bs, pz_bs, no]
          · rw [if_neg (fun z => no ((vCd2 T.1.1.2.2.2.2 hp hq).mp z)), pz_bs, pz_bs, Bool.eq_false_iff.mpr no]) (fun f => by
    show fL_law_L4 sd (nI n) (σ 25 g) (nI h) (nI p) (f + 1) _ (nI n) σ = _
    rw [fL_law_L4, if_pos (Int32.le_refl _)]) 14 0 (Nat.zero_le _) (by omega)
  rw [pd_or n] at e
  exact e
theorem fl_L3 (T : pz_T n σ) (hn : n ≤ 12) (S : pz_S n σ sd) (E : pz_En n (vH n σ) k e) (hk : σ 24 2 = nI k) (hs : ∀ i, i < k → ∀ b, pz_b (σ 25 i) b = pz_G n (vH n σ) (e i) b) {g h : Nat} (hg : g < k) (hh : h < k) : fL_law_L3 sd (nI n) (σ 25 g) (nI h) 14 0 0 σ = some (zz_bi (pz_ex (fun p => pz_ex (fun q => pz_G n (vH n σ) (e g) p && (pz_G n (vH n σ) (e h) q && vNo σ p q)) n) n), nI n, σ) := by
  have e := pz_for (S := Bool) (fun f k b => fL_law_L3 sd (nI n) (σ 25 g) (nI h) f (zz_bi b) (nI k) σ) (fun p b => b || pz_ex (fun q => pz_G n (vH n σ) (e g) p && (pz_G n (vH n σ) (e h) q && vNo σ p q)) n) (fun b => (zz_bi b, nI n, σ)) n false (fun p f hp => by
    generalize pz_fd (fun p b => b || pz_ex (fun q => pz_G n (vH n σ) (e g) p && (pz_G n (vH n σ) (e h) q && vNo σ p q)) n) false p = b
    show fL_law_L3 sd (nI n) (σ 25 g) (nI h) (f + 1) (zz_bi b) (nI p) σ = fL_law_L3 sd (nI n) (σ 25 g) (nI h) f (zz_bi (b || pz_ex (fun q => pz_G n (vH n σ) (e g) p && (pz_G n (vH n σ) (e h) q && vNo σ p q)) n)) (nI (p + 1)) σ
    rw [fL_law_L3, if_neg (nI_ge hp (by omega)), fl_L4 T hn S E hk hs hg hh hp b, pz_bs, nI_1]) (fun f => by
    show fL_law_L3 sd (nI n) (σ 25 g) (nI h) (f + 1) _ (nI n) σ = _
    rw [fL_law_L3, if_pos (Int32.le_refl _)]) 14 0 (Nat.zero_le _) (by omega)
  rw [pd_or n, Bool.false_or] at e
  exact e
/-- two groups that are left: barred, or not near enough -/
theorem pg_left (T : pz_T n σ) (E : pz_En n (vH n σ) k e) {g h : Nat} (hg : g < k) (hh : h < g) (hb : pz_ex (fun p => pz_ex (fun q => pz_G n (vH n σ) (e g) p && (pz_G n (vH n σ) (e h) q && vNo σ p q)) n) n = false) : pz_lk n (vAf σ) (vMa σ) (vH n σ) (e g) (e h) < vTh σ := by
  have hn := pV_n T.1
  have c5 := T.1.1.2.2.2.1
  have c6 := T.1.1.2.2.2.2
  have sy : ∀ p q, p < n → q < n → vNo σ p q = vNo σ q p := fun p q hp hq => (c6.2 p q hp hq).2.1
  have bar : pz_bar n (vNo σ) (vH n σ) (e h) (e g) = false := by
    rw [pbar_sy hn sy]
    apply Bool.eq_false_iff.mpr
    intro z
    obtain ⟨p, _, z⟩ := pex.mp z
    rw [Bool.and_eq_true] at z
    obtain ⟨q, _, w⟩ := pex.mp z.2
    rw [Bool.and_eq_true] at w
    have y := pex_f.mp (pex_f.mp hb p (pG.mp z.1).1) q (pG.mp w.1).1
    rw [z.1, w.1, w.2] at y
    cases y
  have hth := (vTh_ok c5).1
  have en : (pz_near n (vNo σ) (vAf σ) (vMa σ) (vTh σ) (vH n σ)).2.2 < vTh σ := pmk_end hth 14 _ _ (ph0 n _) (Nat.le_trans (pc_le _ _) hn)
  have mx := pn_max (n := n) (no := vNo σ) (af := vAf σ) (ma := vMa σ) (th := vTh σ) (h := vH n σ) (E.2.1 h g hh (by omega)) (E.1 g hg).1 (E.1 h (by omega)).2 (E.1 g hg).2 bar
  rw [plk_sy (af := vAf σ) (fun a b ha hb => vAf_sy T.1.1.2.1 ha hb)]
  omega
theorem fl_L2 (T : pz_T n σ) (hn : n ≤ 12) (S : pz_S n σ sd) (E : pz_En n (vH n σ) k e) (hk : σ 24 2 = nI k) (hs : ∀ i, i < k → ∀ b, pz_b (σ 25 i) b = pz_G n (vH n σ) (e i) b) {t : Nat} (ht : vTh σ = t) {g : Nat} (hg : g < k) : fL_law_L2 sd (nI n) (nI t) (nI g) (σ 25 g) 14 0 σ = some (.inr (nI g, σ)) := by
  have hkn := pEn_k E
  have c5 := T.1.1.2.2.2.1
  have t9 := (vTh_ok c5).2.1
  obtain ⟨r, hr, er⟩ := pz_loop (S := Unit) (R := (Int32 × zz_St) ⊕ (Int32 × zz_St)) (fun f h _ => fL_law_L2 sd (nI n) (nI t) (nI g) (σ 25 g) f (nI h) σ) (fun _ _ => True) (fun r => r = .inr (nI g, σ)) g
    (fun h f _ hh _ => Or.inl ⟨(), trivial, by
      show fL_law_L2 sd (nI n) (nI t) (nI g) (σ 25 g) (f + 1) (nI h) σ = fL_law_L2 sd (nI n) (nI t) (nI g) (σ 25 g) f (nI (h + 1)) σ
      have l1 := u_linkage T E hk hs hg (show h < k by omega) (by omega)
      have l2 := u_linkage T E hk hs (show h < k by omega) hg (by omega)
      rw [plk_sy (af := vAf σ) (fun a b ha hb => vAf_sy T.1.1.2.1 ha hb) (e h) (e g)] at l2
      rw [fL_law_L2, if_neg (nI_ge hh (by omega)), fl_L3 T hn S E hk hs hg (show h < k by omega), pz_bs, nI_1]
      cases b : pz_ex (fun p => pz_ex (fun q => pz_G n (vH n σ) (e g) p && (pz_G n (vH n σ) (e h) q && vNo σ p q)) n) n with
      | true =>
        show ((((if zz_bi true = 0 then _ else (fX7_linkage σ (nI g) (nI h)).bind _) : Option (Bool × zz_St))).bind _) = _
        rw [if_neg (show ¬ zz_bi true = 0 by decide), l1.1, pz_bs]
        show (((fX7_linkage σ (nI h) (nI g)).bind _).bind _) = _
        rw [l2.1, pz_bs]
        show (((if nI _ = nI _ then some (false, σ) else some (true, σ)) : Option (Bool × zz_St)).bind _) = _
        rw [if_pos rfl, pz_bs]
        exact if_neg (show ¬ false = true by decide)
      | false =>
        have lt := pg_left T E hg hh b
        rw [ht] at lt t9
        show ((((if zz_bi false = 0 then (fX7_linkage σ (nI g) (nI h)).bind _ else _) : Option (Bool × zz_St))).bind _) = _
        rw [if_pos (show zz_bi false = 0 from rfl), l1.1, pz_bs]
        show (((if nI t ≤ nI (pz_lk n (vAf σ) (vMa σ) (vH n σ) (e g) (e h)) then some (true, σ) else (fX7_linkage σ (nI g) (nI h)).bind _) : Option (Bool × zz_St)).bind _) = _
        rw [if_neg (nI_ge lt (by omega)), l1.1, pz_bs]
        show (((fX7_linkage σ (nI h) (nI g)).bind _).bind _) = _
        rw [l2.1, pz_bs]
        show (((if nI _ = nI _ then some (false, σ) else some (true, σ)) : Option (Bool × zz_St)).bind _) = _
        rw [if_pos rfl, pz_bs]
        exact if_neg (show ¬ false = true by decide)⟩)
    (fun f _ _ => ⟨_, rfl, by
      show fL_law_L2 sd (nI n) (nI t) (nI g) (σ 25 g) (f + 1) (nI g) σ = _
      rw [fL_law_L2, if_pos (Int32.le_refl _)]⟩) 14 0 () (Nat.zero_le _) trivial (by omega)
  rw [hr] at er
  exact er
theorem pG_lt {h : Nat → Nat} {f b : Nat} (g : pz_G n h f b = true) : b < n := (pG.mp g).1
theorem fl_L1 (T : pz_T n σ) (hn : n ≤ 12) (S : pz_S n σ sd) (E : pz_En n (vH n σ) k e) (hk : σ 24 2 = nI k) (hs : ∀ i, i < k → ∀ b, pz_b (σ 25 i) b = pz_G n (vH n σ) (e i) b) {t : Nat} (ht : vTh σ = t) : ∃ pc, fL_law_L1 sd (nI n) (nI t) (nI k) 14 0 0 σ = some (.inr (pc, nI k, σ)) ∧ ∀ b, pz_b pc b = pz_ex (fun i => pz_G n (vH n σ) (e i) b) k := by
  have hkn := pEn_k E
  have hh := vH_Hd (n := n) T.1.1.2.2.2.1
  have head : ∀ i, i < k → pz_b (σ 25 i) (e i) = true := fun i hi => by rw [hs i hi]; exact pG.mpr (E.1 i hi)
  have tz : ∀ i, i < k → fJ6_numberOfTrailingZeros (σ 25 i) = some (nI (e i)) := fun i hi => by
    have := (E.1 i hi).1
    refine pf_ntz (by omega) (fun b hb => ?_) (head i hi) (fun b hb => ?_)
    · rw [hs i hi]
      apply Bool.eq_false_iff.mpr
      intro z
      have := pG_lt z
      omega
    · rw [hs i hi]
      apply Bool.eq_false_iff.mpr
      intro z
      have z := pG.mp z
      have := (hh b z.1).1
      omega
  obtain ⟨r, ⟨pc, rfl, hpc⟩, er⟩ := pz_loop (S := Int32) (R := (Int32 × zz_St) ⊕ (Int32 × Int32 × zz_St)) (fun f g s => fL_law_L1 sd (nI n) (nI t) (nI k) f s (nI g) σ) (fun g s => ∀ b, pz_b s b = pz_ex (fun i => pz_G n (vH n σ) (e i) b) g) (fun r => ∃ pc, r = .inr (pc, nI k, σ) ∧ ∀ b, pz_b pc b = pz_ex (fun i => pz_G n (vH n σ) (e i) b) k) k
    (fun g f s hg hP => Or.inl ⟨s ||| σ 25 g, fun b => by
        rw [pb_or, hP, hs g hg, Bool.eq_iff_iff, Bool.or_eq_true, pex, pex]
        constructor
        · rintro (⟨i, hi, z⟩ | z)
          · exact ⟨i, by omega, z⟩
          · exact ⟨g, by omega, z⟩
        · rintro ⟨i, hi, z⟩
          by_cases c : i = g
          · rw [c] at z; exact Or.inr z
          · exact Or.inl ⟨i, by omega, z⟩, by
      show fL_law_L1 sd (nI n) (nI t) (nI k) (f + 1) s (nI g) σ = fL_law_L1 sd (nI n) (nI t) (nI k) f (s ||| σ 25 g) (nI (g + 1)) σ
      have nz : ¬ σ 25 g = 0 := fun q => by have := head g hg; rw [q, pb_0] at this; cases this
      have dis : s &&& σ 25 g = 0 := pb_z.mpr fun b _ => by
        rw [pb_and, hP, hs g hg]
        cases z : pz_ex (fun i => pz_G n (vH n σ) (e i) b) g with
        | false => rfl
        | true =>
          rw [Bool.true_and]
          apply Bool.eq_false_iff.mpr
          intro w
          obtain ⟨i, hi, z⟩ := pex.mp z
          have := pEn_inj E (i := i) (j := g) (by omega) (by omega) (by rw [← (pG.mp z).2, ← (pG.mp w).2])
          omega
      have cond : ((if σ 25 g = 0 then some (true, σ) else if (s &&& σ 25 g) = 0 then if nI g ≤ 0 then some (false, σ) else (fX7_group σ (nI g - (1 : Int32))).bind fun x31 => match x31 with
          | (.inr _, _) => none
          | (.inl x31, σ33) => (fJ6_numberOfTrailingZeros x31).bind fun x34 => (fJ6_numberOfTrailingZeros (σ 25 g)).bind fun x36 => if x34 ≤ x36 then some (false, σ33) else some (true, σ33) else some (true, σ)) : Option (Bool × zz_St)) = some (false, σ) := by
        rw [if_neg nz, if_pos dis]
        by_cases z : g = 0
        · rw [z, if_pos (show nI 0 ≤ 0 by decide)]
        · rw [if_neg (show ¬ nI g ≤ 0 from nI_ge (a := 0) (by omega) (by omega)), show nI g - (1 : Int32) = nI (g - 1) from pk_sub (a := g) (b := 1) (by omega), u_group T hk (by omega) (show g - 1 < k by omega), pz_bs]
          show (fJ6_numberOfTrailingZeros (σ 25 (g - 1))).bind _ = _
          have lt := E.2.1 (g - 1) g (by omega) (by omega)
          have := (E.1 g hg).1
          rw [tz (g - 1) (by omega), pz_bs, tz g hg, pz_bs, if_pos (nI_le (Nat.le_of_lt lt) (by omega))]
      rw [fL_law_L1, if_neg (nI_ge hg (by omega)), u_group T hk (by omega) hg, pz_bs]
      show ((if σ 25 g = 0 then some (true, σ) else if (s &&& σ 25 g) = 0 then if nI g ≤ 0 then some (false, σ) else (fX7_group σ (nI g - (1 : Int32))).bind fun x31 => match x31 with
          | (.inr _, _) => none
          | (.inl x31, σ33) => (fJ6_numberOfTrailingZeros x31).bind fun x34 => (fJ6_numberOfTrailingZeros (σ 25 g)).bind fun x36 => if x34 ≤ x36 then some (false, σ33) else some (true, σ33) else some (true, σ)) : Option (Bool × zz_St)).bind _ = _
      rw [cond, pz_bs]
      show (if false = true then _ else _) = _
      rw [if_neg (by decide), pz_bs]
      show (fL_law_L2 sd (nI n) (nI t) (nI g) (σ 25 g) 14 0 σ).bind _ = _
      rw [fl_L2 T hn S E hk hs ht hg, pz_bs]
      show fL_law_L1 sd (nI n) (nI t) (nI k) f (s ||| σ 25 g) (nI g + (1 : Int32)) σ = _
      rw [nI_1]⟩)
    (fun f s hP => ⟨.inr (s, nI k, σ), ⟨s, rfl, hP⟩, by
      show fL_law_L1 sd (nI n) (nI t) (nI k) (f + 1) s (nI k) σ = _
      rw [fL_law_L1, if_pos (Int32.le_refl _)]⟩) 14 0 0 (Nat.zero_le _) (fun b => by rw [pb_0]; rfl) (by omega)
  exact ⟨pc, er, hpc⟩
/-- what was said of two pieces holds -/
theorem pg_must (cn : ¬ pz_cn n σ) {p q : Nat} (hp : p < n) (hq : q < n) (h : vMu σ p q = true) (sy : ∀ a b, a < n → b < n → vMu σ a b = vMu σ b a) : vH n σ p = vH n σ q := by
  refine pmk_eq 14 _ _ ?_
  have c : pz_C n (vMu σ) p q = true := pw_in (pe0.mpr ⟨hp, hq, Or.inr h⟩) n
  exact (pl_iff (pC_eq n (vMu σ)) hp hq).mpr ⟨c, pC_sy sy c⟩
theorem pg_not (T : pz_T n σ) (cn : ¬ pz_cn n σ) {p q : Nat} (hp : p < n) (hq : q < n) (h : vNo σ p q = true) : vH n σ p ≠ vH n σ q := by
  have c6 := T.1.1.2.2.2.2
  refine pmk_no (vTh_ok T.1.1.2.2.2.1).1 (pV_n T.1) (fun p q hp hq => (c6.2 p q hp hq).2.1) 14 _ _ (fun p q hp hq h e => ?_) p q hp hq h
  exact cn ⟨p, q, hp, hq, h, ((pl_iff (pC_eq n (vMu σ)) hp hq).mp e).1⟩
theorem fl_L6 (T : pz_T n σ) (hn : n ≤ 12) (S : pz_S n σ sd) (cn : ¬ pz_cn n σ) (E : pz_En n (vH n σ) k e) (hk : σ 24 2 = nI k) (hs : ∀ i, i < k → ∀ b, pz_b (σ 25 i) b = pz_G n (vH n σ) (e i) b) {p : Nat} (hp : p < n) : fL_law_L6 sd (nI p) 14 0 σ = some (.inr (nI p, σ)) := by
  have hkn := pEn_k E
  have c5 := T.1.1.2.2.2.1
  have c6 := T.1.1.2.2.2.2
  have hh := vH_Hd (n := n) c5
  have hm := vM_le n σ
  obtain ⟨r, hr, er⟩ := pz_loop (S := Unit) (R := (Int32 × zz_St) ⊕ (Int32 × zz_St)) (fun f q _ => fL_law_L6 sd (nI p) f (nI q) σ) (fun _ _ => True) (fun r => r = .inr (nI p, σ)) p
    (fun q f _ hq _ => Or.inl ⟨(), trivial, by
      show fL_law_L6 sd (nI p) (f + 1) (nI q) σ = fL_law_L6 sd (nI p) f (nI (q + 1)) σ
      have hqn : q < n := by omega
      obtain ⟨i, hi, ei⟩ := E.2.2.2 (vH n σ p) (by have := (hh p hp).1; omega) (hh p hp).2
      obtain ⟨j, hj, ej⟩ := E.2.2.2 (vH n σ q) (by have := (hh q hqn).1; omega) (hh q hqn).2
      have gp := u_groupOf T E hk hs hp hi ei.symm
      have gq := u_groupOf T E hk hs hqn hj ej.symm
      have pp := u_parcelOf T hp
      have pq := u_parcelOf T hqn
      have lp := (vPo_ok (σ := σ) hp).1
      have lq := (vPo_ok (σ := σ) hqn).1
      have n1 := u_needs T.1 hp hqn (by omega)
      have n2 := u_needs T.1 hqn hp (by omega)
      have tgt : (if nI i = nI j then (some (true, σ) : Option (Bool × zz_St)) else some (false, σ)) = some (decide (vH n σ p = vH n σ q), σ) := by
        by_cases c : vH n σ p = vH n σ q
        · rw [if_pos (by rw [pEn_inj E (i := i) (j := j) (by omega) (by omega) (by rw [ei, ej, c])]), decide_eq_true c]
        · rw [if_neg (fun z => c (by rw [← ei, ← ej, (nI_eq (by omega) (by omega)).mp z])), decide_eq_false c]
      have ix : (16 : Int32) * nI p + nI q = nI (16 * p + q) := by rw [show (16 : Int32) = nI 16 from rfl, pk_mul, nI_add]
      have sp := S p q hp hqn
      have first : (if vCd σ p q = (1 : Int32) then if zz_bi (decide (vH n σ p = vH n σ q)) = 0 then some true else if vCd σ p q = (2 : Int32) then if zz_bi (decide (vH n σ p = vH n σ q)) = 0 then some false else some true else some false else if vCd σ p q = (2 : Int32) then if zz_bi (decide (vH n σ p = vH n σ q)) = 0 then some false else some true else some false) = some false := by
        by_cases c1 : vCd σ p q = 1
        · have tg := pg_must cn hp hqn (vCd1.mp c1) (vMu_sy c6)
          rw [if_pos c1, decide_eq_true tg, if_neg (by decide), c1, if_neg (by decide)]
        · rw [if_neg c1]
          by_cases c2 : vCd σ p q = 2
          · have tg := pg_not T cn hp hqn ((vCd2 c6 hp hqn).mp c2)
            rw [if_pos c2, decide_eq_false tg, if_pos (by decide)]
          · rw [if_neg c2]
      rw [fL_law_L6, if_neg (nI_ge hq (by omega)), gp, pz_bs]
      show (((fX7_groupOf σ (nI q)).bind _).bind _) = _
      rw [gq, pz_bs]
      show (((if nI i = nI j then some (true, σ) else some (false, σ)) : Option (Bool × zz_St)).bind _) = _
      rw [tgt, pz_bs, pz_bs]
      show (((zz_ga sd 256 ((16 : Int32) * nI p + nI q)).bind fun x133 => if x133 = (1 : Int32) then if zz_bi (decide (vH n σ p = vH n σ q)) = 0 then some true else (zz_ga sd 256 ((16 : Int32) * nI p + nI q)).bind fun x141 => if x141 = (2 : Int32) then if zz_bi (decide (vH n σ p = vH n σ q)) = 0 then some false else some true else some false else (zz_ga sd 256 ((16 : Int32) * nI p + nI q)).bind fun x136 => if x136 = (2 : Int32) then if zz_bi (decide (vH n σ p = vH n σ q)) = 0 then some false else some true else some false).bind _) = _
      rw [ix, pz_ga (by omega) (by decide), pz_bs, pz_bs, sp, first, pz_bs, if_neg (by decide)]
      have second : (if zz_bi (decide (vH n σ p = vH n σ q)) = 0 then (some (false, σ) : Option (Bool × zz_St)) else (fX7_parcelOf σ (nI p)).bind fun x151 => match x151 with
          | (.inr _, _) => none
          | (.inl x151, σ153) => (fX7_parcelOf σ153 (nI q)).bind fun x154 => match x154 with
            | (.inr _, _) => none
            | (.inl x154, σ156) => if x151 = x154 then some (false, σ156) else some (true, σ156)) = some (false, σ) := by
        by_cases c : vH n σ p = vH n σ q
        · rw [decide_eq_true c, if_neg (by decide), pp, pz_bs]
          show (fX7_parcelOf σ (nI q)).bind _ = _
          rw [pq, pz_bs]
          show (if nI _ = nI _ then _ else _) = _
          rw [if_pos (by rw [vPo_grp c5 hp hqn c])]
        · rw [decide_eq_false c, if_pos (by decide)]
      show ((if zz_bi (decide (vH n σ p = vH n σ q)) = 0 then (some (false, σ) : Option (Bool × zz_St)) else (fX7_parcelOf σ (nI p)).bind fun x151 => match x151 with
          | (.inr _, _) => none
          | (.inl x151, σ153) => (fX7_parcelOf σ153 (nI q)).bind fun x154 => match x154 with
            | (.inr _, _) => none
            | (.inl x154, σ156) => if x151 = x154 then some (false, σ156) else some (true, σ156)).bind _) = _
      rw [second, pz_bs]
      show (if false = true then _ else _) = _
      rw [if_neg (by decide), n1, pz_bs]
      cases d1 : vNd σ p q with
      | false =>
        show (((if zz_bi false = 0 then (fX7_needs σ (nI q) (nI p)).bind _ else _) : Option (Bool × zz_St)).bind _) = _
        rw [if_pos (show zz_bi false = 0 from rfl), n2, pz_bs]
        cases d2 : vNd σ q p with
        | false =>
          show (((if zz_bi false = 0 then some (false, σ) else _) : Option (Bool × zz_St)).bind _) = _
          rw [if_pos (show zz_bi false = 0 from rfl), pz_bs]
          show (if false = true then _ else _) = _
          rw [if_neg (by decide), nI_1]
        | true =>
          show (((if zz_bi true = 0 then _ else (fX7_parcelOf σ (nI q)).bind _) : Option (Bool × zz_St)).bind _) = _
          rw [if_neg (show ¬ zz_bi true = 0 by decide), pq, pz_bs]
          show (((fX7_parcelOf σ (nI p)).bind _ : Option (Bool × zz_St)).bind _) = _
          rw [pp, pz_bs]
          show (((if nI _ ≤ nI _ then some (false, σ) else some (true, σ)) : Option (Bool × zz_St)).bind _) = _
          rw [if_pos (nI_le (vPo_need hqn hp d2) (by omega)), pz_bs]
          show (if false = true then _ else _) = _
          rw [if_neg (by decide), nI_1]
      | true =>
        show (((if zz_bi true = 0 then _ else (fX7_parcelOf σ (nI p)).bind _) : Option (Bool × zz_St)).bind _) = _
        rw [if_neg (show ¬ zz_bi true = 0 by decide), pp, pz_bs]
        show (((fX7_parcelOf σ (nI q)).bind _ : Option (Bool × zz_St)).bind _) = _
        rw [pq, pz_bs]
        show (((if nI _ < nI _ then some (true, σ) else (fX7_needs σ (nI q) (nI p)).bind _) : Option (Bool × zz_St)).bind _) = _
        rw [if_neg (by rw [nI_ltI (by omega) (by omega)]; have := vPo_need hp hqn d1; omega), n2, pz_bs]
        cases d2 : vNd σ q p with
        | false =>
          show (((if zz_bi false = 0 then some (false, σ) else _) : Option (Bool × zz_St)).bind _) = _
          rw [if_pos (show zz_bi false = 0 from rfl), pz_bs]
          show (if false = true then _ else _) = _
          rw [if_neg (by decide), nI_1]
        | true =>
          show (((if zz_bi true = 0 then _ else (fX7_parcelOf σ (nI q)).bind _) : Option (Bool × zz_St)).bind _) = _
          rw [if_neg (show ¬ zz_bi true = 0 by decide), pq, pz_bs]
          show (((fX7_parcelOf σ (nI p)).bind _ : Option (Bool × zz_St)).bind _) = _
          rw [pp, pz_bs]
          show (((if nI _ ≤ nI _ then some (false, σ) else some (true, σ)) : Option (Bool × zz_St)).bind _) = _
          rw [if_pos (nI_le (vPo_need hqn hp d2) (by omega)), pz_bs]
          show (if false = true then _ else _) = _
          rw [if_neg (by decide), nI_1]⟩)
    (fun f _ _ => ⟨_, rfl, by
      show fL_law_L6 sd (nI p) (f + 1) (nI p) σ = _
      rw [fL_law_L6, if_pos (Int32.le_refl _)]⟩) 14 0 () (Nat.zero_le _) trivial (by omega)
  rw [hr] at er
  exact er
theorem fl_L5 (T : pz_T n σ) (hn : n ≤ 12) (S : pz_S n σ sd) (cn : ¬ pz_cn n σ) (E : pz_En n (vH n σ) k e) (hk : σ 24 2 = nI k) (hs : ∀ i, i < k → ∀ b, pz_b (σ 25 i) b = pz_G n (vH n σ) (e i) b) : fL_law_L5 sd (nI n) 14 0 σ = some (.inr (nI n, σ)) := by
  obtain ⟨r, hr, er⟩ := pz_loop (S := Unit) (R := (Int32 × zz_St) ⊕ (Int32 × zz_St)) (fun f p _ => fL_law_L5 sd (nI n) f (nI p) σ) (fun _ _ => True) (fun r => r = .inr (nI n, σ)) n
    (fun p f _ hp _ => Or.inl ⟨(), trivial, by
      show fL_law_L5 sd (nI n) (f + 1) (nI p) σ = fL_law_L5 sd (nI n) f (nI (p + 1)) σ
      rw [fL_law_L5, if_neg (nI_ge hp (by omega)), fl_L6 T hn S cn E hk hs hp, pz_bs]
      show fL_law_L5 sd (nI n) f (nI p + (1 : Int32)) σ = _
      rw [nI_1]⟩)
    (fun f _ _ => ⟨_, rfl, by
      show fL_law_L5 sd (nI n) (f + 1) (nI n) σ = _
      rw [fL_law_L5, if_pos (Int32.le_refl _)]⟩) 14 0 () (Nat.zero_le _) trivial (by omega)
  rw [hr] at er
  exact er
theorem fl_L7 (T : pz_T n σ) (hn : n ≤ 12) (X : pz_X n σ) : ∃ ap li, fL_law_L7 (nI (vM n σ)) 14 0 0 0 σ = some (.inr (ap, nI li, nI (vM n σ), σ)) ∧ li ≤ 400000 ∧ ∀ b, pz_b ap b = decide (b < n) := by
  have hm := vM_le n σ
  have hF := vF_eq n σ
  have D := T.2.2
  obtain ⟨r, ⟨ap, li, rfl, h1, h2⟩, er⟩ := pz_loop (S := Int32 × Int32) (R := (Int32 × zz_St) ⊕ (Int32 × Int32 × Int32 × zz_St)) (fun f k s => fL_law_L7 (nI (vM n σ)) f s.1 s.2 (nI k) σ) (fun k s => (∀ b, pz_b s.1 b = (decide (b < n) && pz_dn n (vF n σ) k b)) ∧ ∃ l, l ≤ 27972 * k ∧ s.2 = nI l) (fun r => ∃ ap li, r = .inr (ap, nI li, nI (vM n σ), σ) ∧ li ≤ 27972 * vM n σ ∧ ∀ b, pz_b ap b = (decide (b < n) && pz_dn n (vF n σ) (vM n σ) b)) (vM n σ)
    (fun k f s hk hP => by
      obtain ⟨s, ls⟩ := s
      obtain ⟨i1, l, i2, i3⟩ := hP
      dsimp only at i1 i3
      subst i3
      have o := pod_ok hF hk
      have bits := D.2.2.2.2.2 k hk
      have nz : ¬ σ 42 k = 0 := fun q => by
        have : pz_b (σ 42 k) (pz_od n (vF n σ) k) = true := by rw [bits]; exact pP.mpr ⟨o.1, o.2.2.2⟩
        rw [q, pb_0] at this
        cases this
      have dis : s &&& σ 42 k = 0 := pb_z.mpr fun b _ => by
        rw [pb_and, i1, bits]
        cases z : pz_dn n (vF n σ) k b with
        | false => rw [Bool.and_false]; rfl
        | true =>
          rw [Bool.and_true]
          cases w : pz_P n (vF n σ) k b with
          | false => rw [Bool.and_false]
          | true =>
            obtain ⟨j, hj, ej⟩ := pdn_in z
            exact absurd (ej.symm.trans (pP.mp w).2) (pod_ne hF hj hk)
      have gk := u_parcel T hk
      obtain ⟨l2, hl2, el⟩ := u_lines T X hk
      refine Or.inl ⟨(s ||| σ 42 k, nI (l + l2)), ⟨fun b => ?_, l + l2, by omega, rfl⟩, ?_⟩
      · show pz_b (s ||| σ 42 k) b = _
        rw [pb_or, i1, bits, pz_dn]
        show (_ || (decide (b < n) && decide (pz_lo (vF n σ) b = pz_lo (vF n σ) (pz_nx n (vF n σ) (pz_dn n (vF n σ) k))))) = _
        cases decide (b < n) <;> rfl
      · show fL_law_L7 (nI (vM n σ)) (f + 1) s (nI l) (nI k) σ = fL_law_L7 (nI (vM n σ)) f (s ||| σ 42 k) (nI (l + l2)) (nI (k + 1)) σ
        rw [fL_law_L7, if_neg (nI_ge hk (by omega)), gk, pz_bs]
        show (((if σ 42 k = 0 then some (true, σ) else (fX7_parcel σ (nI k)).bind _) : Option (Bool × zz_St)).bind _) = _
        rw [if_neg nz, gk, pz_bs]
        show (((if (s &&& σ 42 k) = 0 then some (false, σ) else some (true, σ)) : Option (Bool × zz_St)).bind _) = _
        rw [if_pos dis, pz_bs]
        show (if false = true then _ else (fX7_parcel σ (nI k)).bind _) = _
        rw [if_neg (by decide), gk, pz_bs]
        show ((some (s ||| σ 42 k)).bind fun x228 => (fX7_lines σ (nI k)).bind _) = _
        rw [pz_bs, el, pz_bs]
        show fL_law_L7 (nI (vM n σ)) f (s ||| σ 42 k) (nI l + nI l2) (nI k + (1 : Int32)) σ = _
        rw [nI_add, nI_1])
    (fun f s hP => by
      obtain ⟨i1, l, i2, i3⟩ := hP
      refine ⟨.inr (s.1, nI l, nI (vM n σ), σ), ⟨s.1, l, rfl, i2, i1⟩, ?_⟩
      show fL_law_L7 (nI (vM n σ)) (f + 1) s.1 s.2 (nI (vM n σ)) σ = _
      rw [fL_law_L7, if_pos (Int32.le_refl _), i3]) 14 0 (0, 0) (Nat.zero_le _) ⟨fun b => by
      show pz_b 0 b = (decide (b < n) && false)
      rw [pb_0, Bool.and_false], 0, by omega, rfl⟩ (by omega)
  refine ⟨ap, li, er, by omega, fun b => ?_⟩
  rw [h2]
  by_cases c : b < n
  · rw [decide_eq_true c, Bool.true_and]
    exact pad.mp (ppc_ad hF) b c
  · rw [decide_eq_false c]; rfl
theorem fl_L8 (T : pz_T n σ) (hn : n ≤ 12) (h9 : vM n σ ≤ 9) {R : Nat → Nat} (hR : pz_IsR (vM n σ) (vCs n σ) R) (best : ∀ k, k < vM n σ → fX7_best σ (nI k) = some (.inl (nI (pz_wn (vM n σ) (vCs n σ) R (pz_wk (vM n σ) (vCs n σ) R k))), σ)) : ∃ ta se, fL_law_L8 (nI (vM n σ)) 14 0 0 0 0 σ = some (.inr (nI (R 0), ta, se, nI (vM n σ), σ)) := by
  have hm := vM_le n σ
  have D := T.2.2
  obtain ⟨r, ⟨ta, se, rfl⟩, er⟩ := pz_loop (S := Int32 × Int32 × Int32) (R := (Int32 × zz_St) ⊕ (Int32 × Int32 × Int32 × Int32 × zz_St)) (fun f k s => fL_law_L8 (nI (vM n σ)) f s.1 s.2.1 s.2.2 (nI k) σ) (fun k s => s.1 = nI (pz_sum (fun j => vCs n σ (pz_wk (vM n σ) (vCs n σ) R (j + 1))) k) ∧ s.2.1 = nI (pz_wk (vM n σ) (vCs n σ) R k) ∧ ∀ b, pz_b s.2.2 b = vQ n σ (pz_wk (vM n σ) (vCs n σ) R k) b) (fun r => ∃ ta se, r = .inr (nI (R 0), ta, se, nI (vM n σ), σ)) (vM n σ)
    (fun k f s hk hP => by
      obtain ⟨su, ta, se⟩ := s
      obtain ⟨i1, i2, i3⟩ := hP
      dsimp only at i1 i2 i3
      subst i1 i2
      obtain ⟨w1, w2, _⟩ := pw_ok hR (pwk_ne hR hk)
      have hb := best k hk
      have step : pz_wk (vM n σ) (vCs n σ) R (k + 1) = pz_wk (vM n σ) (vCs n σ) R k ||| 2 ^ pz_wn (vM n σ) (vCs n σ) R (pz_wk (vM n σ) (vCs n σ) R k) := rfl
      have i3' : ∀ b, pz_b (se ||| σ 42 (pz_wn (vM n σ) (vCs n σ) R (pz_wk (vM n σ) (vCs n σ) R k))) b = vQ n σ (pz_wk (vM n σ) (vCs n σ) R (k + 1)) b := fun b => by
        rw [pb_or, i3, D.2.2.2.2.2 _ w1, step]
        unfold vQ
        rw [Bool.eq_iff_iff, Bool.or_eq_true, pex, pex]
        constructor
        · rintro (⟨j, hj, z⟩ | z)
          · rw [Bool.and_eq_true] at z
            exact ⟨j, hj, by rw [Nat.testBit_or, z.1, z.2]; rfl⟩
          · exact ⟨_, w1, by rw [Nat.testBit_or, Nat.testBit_two_pow, decide_eq_true rfl, Bool.or_true, z]; rfl⟩
        · rintro ⟨j, hj, z⟩
          rw [Nat.testBit_or, Nat.testBit_two_pow, Bool.and_eq_true, Bool.or_eq_true, decide_eq_true_iff] at z
          rcases z.1 with y | y
          · exact Or.inl ⟨j, hj, by rw [y, z.2]; rfl⟩
          · rw [← y] at z; exact Or.inr z.2
      generalize hW : pz_wk (vM n σ) (vCs n σ) R k = W at *
      generalize hw : pz_wn (vM n σ) (vCs n σ) R W = w at *
      obtain ⟨v, e1, e2⟩ := u_broken T.1 (s := se ||| σ 42 w) (fun b z => by
        rw [i3'] at z
        obtain ⟨j, _, z⟩ := pex.mp z
        rw [Bool.and_eq_true] at z
        exact (pP.mp z.2).1)
      refine Or.inl ⟨(nI (pz_sum (fun j => vCs n σ (pz_wk (vM n σ) (vCs n σ) R (j + 1))) (k + 1)), nI (pz_wk (vM n σ) (vCs n σ) R (k + 1)), se ||| σ 42 w), ⟨rfl, rfl, i3'⟩, ?_⟩
      show fL_law_L8 (nI (vM n σ)) (f + 1) (nI (pz_sum (fun j => vCs n σ (pz_wk (vM n σ) (vCs n σ) R (j + 1))) k)) (nI W) se (nI k) σ = fL_law_L8 (nI (vM n σ)) f (nI (pz_sum (fun j => vCs n σ (pz_wk (vM n σ) (vCs n σ) R (j + 1))) (k + 1))) (nI (pz_wk (vM n σ) (vCs n σ) R (k + 1))) (se ||| σ 42 w) (nI (k + 1)) σ
      rw [fL_law_L8, if_neg (nI_ge hk (by omega)), hb, pz_bs]
      show (if ((nI W >>> (nI w &&& 31)) &&& (1 : Int32)) = (1 : Int32) then _ else (some (nI W ||| ((1 : Int32) <<< (nI w &&& 31)))).bind fun x263 => (fX7_parcel σ (nI w)).bind _) = _
      rw [pb_bit (by omega), pb_nI (by omega), w2, if_neg (show ¬ zz_bi false = 1 by decide), pz_bs, u_parcel T w1, pz_bs]
      show ((some (se ||| σ 42 w)).bind fun x268 => (fX7_broken σ x268).bind _) = _
      rw [pz_bs, e1, pz_bs]
      show (fJ6_bitCount v).bind _ = _
      rw [e2, pz_bs, pz_bs, pn_or (by omega), nI_add, nI_1, ← step, pz_sum]
      have ec : vCs n σ (pz_wk (vM n σ) (vCs n σ) R (k + 1)) = vCt σ (pz_b (se ||| σ 42 w)) := by
        unfold vCs
        rw [show pz_b (se ||| σ 42 w) = vQ n σ (pz_wk (vM n σ) (vCs n σ) R (k + 1)) from funext i3']
        rfl
      rw [ec])
    (fun f s hP => by
      refine ⟨.inr (nI (R 0), s.2.1, s.2.2, nI (vM n σ), σ), ⟨_, _, rfl⟩, ?_⟩
      show fL_law_L8 (nI (vM n σ)) (f + 1) s.1 s.2.1 s.2.2 (nI (vM n σ)) σ = _
      have a := pR_walk hR (vM n σ) (Nat.le_refl _)
      rw [pR_full hR, Nat.add_zero] at a
      rw [fL_law_L8, if_pos (Int32.le_refl _), hP.1, a]) 14 0 (0, 0, 0) (Nat.zero_le _) ⟨rfl, rfl, fun b => by
      show pz_b 0 b = vQ n σ 0 b
      rw [pb_0]
      symm
      unfold vQ
      exact pex_f.mpr fun j _ => by rw [Nat.zero_testBit]; rfl⟩ (by omega)
  exact ⟨ta, se, er⟩
theorem vBs_le : ∀ m, vBs n σ m ≤ 16 * m
  | 0 => Nat.le_refl _
  | m + 1 => by
    have := vBs_le m
    have c : vCt σ (fun q => decide (q < n) && pz_dn n (vF n σ) (m + 1) q) ≤ 16 := pc_le _ _
    rw [vBs]
    omega
end LM
