/-! pure part: the law builds -/
section LB
variable {n : Nat} {σ σ' : zz_St} {xs : Nat → Int32} {L : Nat}
theorem pz_xpa {f : Nat → Int32} {n k : Nat} {v : Int32} (h : k < n) (hn : n < 2147483648) : zx_pa f n (nI k) v = some (upd f k v) := by
  unfold zx_pa
  rw [if_neg (nI_in h (by omega)), nI_clamp (by omega)]
theorem pz_up (f : Nat → Int32) (k : Nat) (v : Int32) (j : Nat) : upd f k v j = if j = k then v else f j := rfl
theorem pz_orN (a b : Nat) : nI a ||| nI b = nI (Nat.lor a b) := by
  apply Int32.toBitVec_inj.1
  show BitVec.ofNat 32 a ||| BitVec.ofNat 32 b = BitVec.ofNat 32 (a ||| b)
  apply BitVec.eq_of_getLsbD_eq
  intro i hi
  simp [hi]
theorem pz_ofI (x : Int32) : ∃ w, x = nI w := ⟨x.toBitVec.toNat, (Int32.toBitVec_inj.mp (by show BitVec.ofNat 32 _ = _; simp)).symm⟩
theorem pz_31 (v : Int32) : ∃ w, w < 2147483648 ∧ v &&& 2147483647 = nI w := by
  obtain ⟨w, rfl⟩ := pz_ofI v
  refine ⟨Nat.land w 2147483647, ?_, pz_andN w 2147483647⟩
  have : Nat.land w 2147483647 ≤ 2147483647 := Nat.and_le_right
  omega
theorem pz_rm {w m : Nat} (hw : w < 2147483648) (h1 : 0 < m) (h2 : m < 2147483648) : zx_rm (nI w) (nI m) = some (nI (w % m)) := by
  unfold zx_rm
  rw [if_neg (nI_ne0 h1 h2), pk_div hw h1 h2, pk_mul, pk_sub (Nat.div_mul_le_self w m)]
  congr 2
  have := Nat.div_add_mod w m
  rw [Nat.mul_comm] at this
  omega
theorem fl_below (v : Int32) {d : Int32} {m : Nat} (ed : d = nI m) (h1 : 0 < m) (h2 : m < 2147483648) : ∃ r, r < m ∧ fL_below v d = some (nI r) := by
  subst ed
  obtain ⟨w, hw, e⟩ := pz_31 v
  refine ⟨w % m, Nat.mod_lt _ h1, ?_⟩
  unfold fL_below
  rw [e, pz_rm hw h1 h2, pz_bs]
theorem fl_cell (hL : L ≤ 260) {k : Int32} {j : Nat} (ek : k = nI j) (hj : j < 1000) : ∃ v, fL_cell xs L k = some v := by
  subst ek
  unfold fL_cell
  rw [show Int32.ofNat L = nI L from rfl]
  by_cases g : L ≤ j
  · rw [if_pos (nI_le g (by omega)), pz_bs]; exact ⟨_, rfl⟩
  · rw [if_neg (nI_ge (by omega) (by omega)), pz_ga (by omega) (by omega), pz_bs, pz_bs]; exact ⟨_, rfl⟩
/-- a set of at most one name -/
theorem fl_pick (y z : Int32) {d : Int32} {m : Nat} (ed : d = nI m) (h1 : 0 < m) (h2 : m < 2147483648) : ∃ j, j < 64 ∧ ((fL_below y d).bind fun x48 => if x48 = 0 then (fL_below z (6 : Int32)).bind fun x51 => some ((1 : Int32) <<< (x51 &&& 31)) else some (0 : Int32)) = some (nI j) := by
  obtain ⟨r, hr, e⟩ := fl_below y ed h1 h2
  rw [e, pz_bs]
  by_cases g : nI r = 0
  · obtain ⟨k, hk, e2⟩ := fl_below z (d := 6) (m := 6) rfl (by decide) (by decide)
    rw [if_pos g, e2, pz_bs, (by decide +kernel : ∀ k, k < 6 → (1 : Int32) <<< (nI k &&& 31) = nI (2 ^ k)) k hk]
    exact ⟨2 ^ k, (by decide : ∀ k, k < 6 → 2 ^ k < 64) k hk, rfl⟩
  · rw [if_neg g]
    exact ⟨0, by decide, rfl⟩
/-- the base: nothing known of names, nothing said -/
def pz_B (σ : zz_St) : Prop := (∀ x, x < 16 → pz_b (σ 17 0) x = false ∧ σ 18 x = 0) ∧ (∀ c, σ 22 c = 0) ∧ (∀ c, σ 23 c = 0)
theorem pB_c (h17 : σ' 17 = σ 17) (h18 : σ' 18 = σ 18) (h22 : σ' 22 = σ 22) (h23 : σ' 23 = σ 23) (B : pz_B σ) : pz_B σ' := by unfold pz_B at *; rw [h17, h18, h22, h23]; exact B
theorem pX_c (h4 : σ' 4 = σ 4) (h5 : σ' 5 = σ 5) (X : pz_X n σ) : pz_X n σ' := by unfold pz_X at *; rw [h4, h5]; exact X
theorem fl_build2 {m : Nat} (hm : m < 12) (x : Int32) (u : Nat → Int32) (V : pz_V (m + 1) σ) (B : pz_B σ) (X : pz_X (m + 1) σ) (Z : ∀ w, w < 4 → σ (8 + w) m = 0) : ∃ σ' u', fL_build_L2 (nI m) x 14 0 σ u = some (.inr (nI 4, σ', u')) ∧ pz_V (m + 1) σ' ∧ pz_B σ' ∧ pz_X (m + 1) σ' := by
  obtain ⟨r, ⟨σ', u', rfl, hr⟩, e⟩ := pz_loop (S := zz_St × (Nat → Int32)) (R := (Int32 × zz_St × (Nat → Int32)) ⊕ (Int32 × zz_St × (Nat → Int32))) (fun f k s => fL_build_L2 (nI m) x f (nI k) s.1 s.2)
    (fun k s => pz_V (m + 1) s.1 ∧ pz_B s.1 ∧ pz_X (m + 1) s.1 ∧ ∀ w, k ≤ w → w < 4 → s.1 (8 + w) m = 0)
    (fun r => ∃ σ' u', r = .inr (nI 4, σ', u') ∧ pz_V (m + 1) σ' ∧ pz_B σ' ∧ pz_X (m + 1) σ') 4
    (fun k f s hk hP => by
      obtain ⟨s, u⟩ := s
      obtain ⟨i1, i2, i3, i4⟩ := hP
      dsimp only at i1 i2 i3 i4
      obtain ⟨y, hy⟩ : ∃ y, y = x >>> (((3 : Int32) + ((5 : Int32) * nI k)) &&& 31) := ⟨_, rfl⟩
      obtain ⟨j1, l1, e1⟩ := fl_pick y (y >>> ((2 : Int32) &&& 31)) (d := 3) (m := 3) rfl (by decide) (by decide)
      obtain ⟨j2, l2, e2⟩ := fl_pick (y >>> ((5 : Int32) &&& 31)) (y >>> ((7 : Int32) &&& 31)) (d := 4) (m := 4) rfl (by decide) (by decide)
      have l3 : Nat.lor j1 j2 < 64 := Nat.or_lt_two_pow (n := 6) l1 l2
      have ix : (((8 : Int32) * nI m) + (4 : Int32)) + nI k = nI (8 * m + 4 + k) := by rw [show (8 : Int32) = nI 8 from rfl, pk_mul, show (4 : Int32) = nI 4 from rfl, nI_add, nI_add]
      obtain ⟨s', e3, V', q', _⟩ := u_setNames i1 (p := m) (w := k) (j := Nat.lor j1 j2) (by omega) hk (by omega)
      refine Or.inl ⟨(s', upd u (8 * m + 4 + k) (nI (Nat.lor j1 j2))), ⟨V', pB_c (q' 17 (by omega) (by omega) (by omega)) (q' 18 (by omega) (by omega) (by omega)) (q' 22 (by omega) (by omega) (by omega)) (q' 23 (by omega) (by omega) (by omega)) i2, pX_c (q' 4 (by omega) (by omega) (by omega)) (q' 5 (by omega) (by omega) (by omega)) i3, fun w h1 h2 => ?_⟩, ?_⟩
      · show s' (8 + w) m = 0
        rw [q' (8 + w) (by omega) (by omega) (by omega)]
        exact i4 w (by omega) h2
      · show fL_build_L2 (nI m) x (f + 1) (nI k) s u = fL_build_L2 (nI m) x f (nI (k + 1)) s' (upd u (8 * m + 4 + k) (nI (Nat.lor j1 j2)))
        rw [fL_build_L2, if_neg (show ¬ (4 : Int32) ≤ nI k from nI_ge (a := k) (b := 4) hk (by decide)), pz_bs, ← hy, e1, pz_bs, e2, pz_bs, ix, pz_orN, pz_xpa (by omega) (by decide), pz_bs, pz_ga (by omega) (by decide), pz_bs, pz_up, if_pos rfl, e3, pz_bs]
        show (if s (8 + k) m = 0 then _ else _) = _
        rw [i4 k (Nat.le_refl _) hk, if_pos rfl, nI_1])
    (fun f s hP => ⟨.inr (nI 4, s.1, s.2), ⟨s.1, s.2, rfl, hP.1, hP.2.1, hP.2.2.1⟩, by
      show fL_build_L2 (nI m) x (f + 1) (nI 4) s.1 s.2 = _
      rw [fL_build_L2, if_pos (by decide)]⟩) 14 0 (σ, u) (by decide) ⟨V, B, X, fun w _ h => Z w h⟩ (by decide)
  exact ⟨σ', u', e, hr⟩
theorem fl_build1 (hL : L ≤ 260) {F N : Nat} (hF : F ≤ 100) (hN : N ≤ 12) (u : Nat → Int32) (V : pz_V 0 σ) (B : pz_B σ) : ∃ σ' u', fL_build_L1 xs L (nI F) (nI N) 14 0 σ u = some (.inr (nI N, σ', u')) ∧ pz_V N σ' ∧ pz_B σ' ∧ pz_X N σ' := by
  obtain ⟨r, ⟨σ', u', rfl, hr⟩, e⟩ := pz_loop (S := zz_St × (Nat → Int32)) (R := (Int32 × zz_St × (Nat → Int32)) ⊕ (Int32 × zz_St × (Nat → Int32))) (fun f k s => fL_build_L1 xs L (nI F) (nI N) f (nI k) s.1 s.2)
    (fun k s => pz_V k s.1 ∧ pz_B s.1 ∧ pz_X k s.1)
    (fun r => ∃ σ' u', r = .inr (nI N, σ', u') ∧ pz_V N σ' ∧ pz_B σ' ∧ pz_X N σ') N
    (fun k f s hk hP => by
      obtain ⟨s, u⟩ := s
      obtain ⟨i1, i2, i3⟩ := hP
      dsimp only at i1 i2 i3
      have r7 : zx_rm (nI k) (7 : Int32) = some (nI (k % 7)) := pz_rm (m := 7) (by omega) (by decide) (by decide)
      have d7 : zz_dv (nI k) (7 : Int32) = some (nI (k / 7)) := by
        unfold zz_dv
        rw [if_neg (by decide), show (7 : Int32) = nI 7 from rfl, pk_div (by omega) (by decide) (by decide)]
      have ic : (nI F + (1 : Int32)) + nI (k % 7) = nI (F + 1 + k % 7) := by rw [nI_1, nI_add]
      obtain ⟨x8, e8⟩ := fl_cell (xs := xs) hL ic (by omega)
      obtain ⟨y, hy⟩ : ∃ y, y = x8 >>> ((nI (k / 7) * (9 : Int32)) &&& 31) := ⟨_, rfl⟩
      obtain ⟨a, la, ea⟩ := fl_below y (d := 2) (m := 2) rfl (by decide) (by decide)
      obtain ⟨b, lb, eb⟩ := fl_below (y >>> ((1 : Int32) &&& 31)) (d := 6) (m := 6) rfl (by decide) (by decide)
      obtain ⟨c, lc, ec⟩ := fl_below (y >>> ((4 : Int32) &&& 31)) (d := 30) (m := 30) rfl (by decide) (by decide)
      obtain ⟨d, ld, ed⟩ := fl_below (y >>> ((6 : Int32) &&& 31)) (d := 20) (m := 20) rfl (by decide) (by decide)
      have i0 : (8 : Int32) * nI k = nI (8 * k) := pk_mul 8 k
      have i10 : (10 : Int32) * nI b = nI (10 * b) := pk_mul 10 b
      have j1 : nI (8 * k) + (1 : Int32) = nI (8 * k + 1) := nI_1 _
      have j2 : nI (8 * k) + (2 : Int32) = nI (8 * k + 2) := nI_add _ 2
      have j3 : nI (8 * k) + (3 : Int32) = nI (8 * k + 3) := nI_add _ 3
      obtain ⟨w, hw⟩ : ∃ w, w = upd (upd (upd (upd u (8 * k) (nI a)) (8 * k + 1) (nI (10 * b))) (8 * k + 2) (nI c)) (8 * k + 3) (nI d) := ⟨_, rfl⟩
      have g0 : zz_ga w 112 (nI (8 * k)) = some (nI a) := by rw [pz_ga (by omega) (by decide), hw, pz_up, if_neg (by omega), pz_up, if_neg (by omega), pz_up, if_neg (by omega), pz_up, if_pos rfl]
      have g1 : zz_ga w 112 (nI (8 * k + 1)) = some (nI (10 * b)) := by rw [pz_ga (by omega) (by decide), hw, pz_up, if_neg (by omega), pz_up, if_neg (by omega), pz_up, if_pos rfl]
      have g2 : zz_ga w 112 (nI (8 * k + 2)) = some (nI c) := by rw [pz_ga (by omega) (by decide), hw, pz_up, if_neg (by omega), pz_up, if_pos rfl]
      have g3 : zz_ga w 112 (nI (8 * k + 3)) = some (nI d) := by rw [pz_ga (by omega) (by decide), hw, pz_up, if_pos rfl]
      obtain ⟨s1, e1, V1, q1, h4, h5⟩ := u_addPiece i1 (by omega) (v1 := nI a) (v2 := nI (10 * b)) (v3 := nI c) (v4 := nI d) (pin_y (m := 9) (by decide) (by omega)) (pin_y (m := 9999) (by decide) (by omega)) (pin_y (m := 999) (by decide) (by omega)) (pin_y (m := 999) (by decide) (by omega))
      have B1 : pz_B s1 := pB_c (q1 17 (by decide)) (q1 18 (by decide)) (q1 22 (by decide)) (q1 23 (by decide)) i2
      have X1 : pz_X (k + 1) s1 := by
        intro p hp
        rw [h4, h5]
        by_cases g : p = k
        · rw [if_pos g, if_pos g]; exact ⟨⟨c, by omega, rfl⟩, ⟨d, by omega, rfl⟩⟩
        · rw [if_neg g, if_neg g]; exact i3 p (by omega)
      obtain ⟨s2, u2, e2, V2, B2, X2⟩ := fl_build2 (m := k) (by omega) y w V1 B1 X1 (fun z hz => by
        rw [q1 (8 + z) (by omega)]
        exact (i1.1.2.2.1 z hz).1 k (by omega) (Nat.le_refl _))
      refine Or.inl ⟨(s2, u2), ⟨V2, B2, X2⟩, ?_⟩
      show fL_build_L1 xs L (nI F) (nI N) (f + 1) (nI k) s u = fL_build_L1 xs L (nI F) (nI N) f (nI (k + 1)) s2 u2
      rw [fL_build_L1, if_neg (nI_ge hk (by omega)), r7, pz_bs, e8, pz_bs, d7, pz_bs, pz_bs, ← hy, ea, pz_bs, i0, pz_xpa (by omega) (by decide), pz_bs, eb, pz_bs, j1, i10, pz_xpa (by omega) (by decide), pz_bs, ec, pz_bs, j2, pz_xpa (by omega) (by decide), pz_bs, ed, pz_bs, j3, pz_xpa (by omega) (by decide), pz_bs, ← hw, g0, pz_bs, g1, pz_bs, g2, pz_bs, g3, pz_bs, e1, pz_bs]
      show (if nI k = nI k then _ else _) = _
      rw [if_pos rfl, show fL_build_L2 (nI k) y 14 (0 : Int32) s1 w = _ from e2, pz_bs, nI_1])
    (fun f s hP => ⟨.inr (nI N, s.1, s.2), ⟨s.1, s.2, rfl, hP⟩, by
      show fL_build_L1 xs L (nI F) (nI N) (f + 1) (nI N) s.1 s.2 = _
      rw [fL_build_L1, if_pos (Int32.le_refl _)]⟩) 14 0 (σ, u) (by omega) ⟨V, B, fun p hp => by omega⟩ (by omega)
  exact ⟨σ', u', e, hr⟩
theorem fl_build3 (hL : L ≤ 260) {F : Nat} (hF : F ≤ 100) (u : Nat → Int32) (V : pz_V n σ) (B : pz_B σ) (X : pz_X n σ) : ∃ σ' u', fL_build_L3 xs L (nI F) 14 0 σ u = some (.inr (nI 6, σ', u')) ∧ pz_V n σ' ∧ pz_X n σ' ∧ (∀ c, σ' 22 c = 0) ∧ (∀ c, σ' 23 c = 0) := by
  obtain ⟨r, ⟨σ', u', rfl, hr⟩, e⟩ := pz_loop (S := zz_St × (Nat → Int32)) (R := (Int32 × zz_St × (Nat → Int32)) ⊕ (Int32 × zz_St × (Nat → Int32))) (fun f k s => fL_build_L3 xs L (nI F) f (nI k) s.1 s.2)
    (fun k s => pz_V n s.1 ∧ pz_X n s.1 ∧ ((∀ c, s.1 22 c = 0) ∧ (∀ c, s.1 23 c = 0)) ∧ ∀ x, k ≤ x → x < 16 → pz_b (s.1 17 0) x = false ∧ s.1 18 x = 0)
    (fun r => ∃ σ' u', r = .inr (nI 6, σ', u') ∧ pz_V n σ' ∧ pz_X n σ' ∧ (∀ c, σ' 22 c = 0) ∧ (∀ c, σ' 23 c = 0)) 6
    (fun k f s hk hP => by
      obtain ⟨s, u⟩ := s
      obtain ⟨i1, i2, i3, i4⟩ := hP
      dsimp only at i1 i2 i3 i4
      have ic : nI F + (8 : Int32) = nI (F + 8) := nI_add F 8
      obtain ⟨x8, e8⟩ := fl_cell (xs := xs) hL ic (by omega)
      obtain ⟨y, hy⟩ : ∃ y, y = x8 >>> (((3 : Int32) * nI k) &&& 31) := ⟨_, rfl⟩
      obtain ⟨a, la, ea⟩ := fl_below y (d := 2) (m := 2) rfl (by decide) (by decide)
      obtain ⟨v, lv, ev⟩ : ∃ v, v ≤ 2 ∧ ((fL_below (y >>> ((1 : Int32) &&& 31)) (4 : Int32)).bind fun x99 => if x99 = 0 then (fL_below (y >>> ((2 : Int32) &&& 31)) (2 : Int32)).bind fun x102 => some ((1 : Int32) + x102) else some (0 : Int32)) = some (nI v) := by
        obtain ⟨r, hr, er⟩ := fl_below (y >>> ((1 : Int32) &&& 31)) (d := 4) (m := 4) rfl (by decide) (by decide)
        obtain ⟨r2, hr2, er2⟩ := fl_below (y >>> ((2 : Int32) &&& 31)) (d := 2) (m := 2) rfl (by decide) (by decide)
        rw [er, pz_bs, er2, pz_bs]
        by_cases g : nI r = 0
        · rw [if_pos g]
          exact ⟨1 + r2, by omega, by rw [show (1 : Int32) = nI 1 from rfl, nI_add]⟩
        · rw [if_neg g]
          exact ⟨0, by decide, rfl⟩
      have i0 : (2 : Int32) * nI k = nI (2 * k) := pk_mul 2 k
      have j1 : nI (2 * k) + (1 : Int32) = nI (2 * k + 1) := nI_1 _
      obtain ⟨w, hw⟩ : ∃ w, w = upd (upd u (2 * k) (nI a)) (2 * k + 1) (nI v) := ⟨_, rfl⟩
      have g0 : zz_ga w 12 (nI (2 * k)) = some (nI a) := by rw [pz_ga (by omega) (by decide), hw, pz_up, if_neg (by omega), pz_up, if_pos rfl]
      have g1 : zz_ga w 12 (nI (2 * k + 1)) = some (nI v) := by rw [pz_ga (by omega) (by decide), hw, pz_up, if_pos rfl]
      have b1 : ((if nI a = (1 : Int32) then some true else some false) : Option Bool) = some (decide (a = 1)) := by
        by_cases g : a = 1
        · rw [g, if_pos (by decide), decide_eq_true rfl]
        · rw [if_neg (show ¬ nI a = (1 : Int32) from fun q => g ((nI_eq (a := a) (b := 1) (by omega) (by decide)).mp q)), decide_eq_false g]
      have b2 : ((if nI a + nI v ≤ 0 then some false else some true) : Option Bool) = some (!decide (a + v = 0)) := by
        rw [nI_add]
        by_cases g : a + v = 0
        · rw [g, if_pos (by decide), decide_eq_true rfl]; rfl
        · rw [if_neg (show ¬ nI (a + v) ≤ 0 from nI_ge (a := 0) (b := a + v) (by omega) (by omega)), decide_eq_false g]; rfl
      obtain ⟨s1, e1, V1, q1, o1⟩ := u_setName i1 (x := k) (v := v) (by omega) (decide (a = 1)) (by omega)
      have z := i4 k (Nat.le_refl _) (by omega)
      rw [z.1, z.2] at e1
      have same : (!(decide (decide (a = 1) = false) && decide (nI v = 0))) = !decide (a + v = 0) := by
        have hv : decide (nI v = 0) = decide (v = 0) := by
          rw [decide_eq_decide]
          exact nI_eq (a := v) (b := 0) (by omega) (by decide)
        rw [hv]
        rcases (by omega : a = 0 ∨ a = 1) with g | g
        · rw [g, Nat.zero_add]
          rfl
        · rw [g, decide_eq_false (show ¬ 1 + v = 0 by omega)]
          rfl
      rw [same] at e1
      refine Or.inl ⟨(s1, w), ⟨V1, pX_c (q1 4 (by decide) (by decide) (by decide)) (q1 5 (by decide) (by decide) (by decide)) i2, ⟨fun c => by show s1 22 c = 0; rw [q1 22 (by decide) (by decide) (by decide)]; exact i3.1 c, fun c => by show s1 23 c = 0; rw [q1 23 (by decide) (by decide) (by decide)]; exact i3.2 c⟩, fun x h1 h2 => ?_⟩, ?_⟩
      · have o := o1 x h2 (by omega)
        show pz_b (s1 17 0) x = false ∧ s1 18 x = 0
        rw [o.1, o.2]
        exact i4 x (by omega) h2
      · show fL_build_L3 xs L (nI F) (f + 1) (nI k) s u = fL_build_L3 xs L (nI F) f (nI (k + 1)) s1 w
        rw [fL_build_L3, if_neg (show ¬ (6 : Int32) ≤ nI k from nI_ge (a := k) (b := 6) hk (by decide)), e8, pz_bs, pz_bs, ← hy, ea, pz_bs, i0, pz_xpa (by omega) (by decide), pz_bs, ev, pz_bs, j1, pz_xpa (by omega) (by decide), pz_bs, ← hw, g0, pz_bs, b1, pz_bs, g1, pz_bs, e1, pz_bs]
        show ((((some (nI a)).bind fun x120 => (some (nI v)).bind fun x122 => if (x120 + x122) ≤ 0 then some false else some true) : Option Bool).bind fun b117 => if zz_bi (!decide (a + v = 0)) = (zz_bi b117) then fL_build_L3 xs L (nI F) f (nI k + (1 : Int32)) s1 w else some (.inl ((-1 : Int32), s1, w))) = _
        rw [pz_bs, pz_bs, b2, pz_bs, if_pos rfl, nI_1])
    (fun f s hP => ⟨.inr (nI 6, s.1, s.2), ⟨s.1, s.2, rfl, hP.1, hP.2.1, hP.2.2.1⟩, by
      show fL_build_L3 xs L (nI F) (f + 1) (nI 6) s.1 s.2 = _
      rw [fL_build_L3, if_pos (by decide)]⟩) 14 0 (σ, u) (by decide) ⟨V, X, B.2, fun x _ h => B.1 x h⟩ (by decide)
  exact ⟨σ', u', e, hr⟩
/-- the start -/
def vWt : Nat → Int32 := upd (upd (upd (upd (fun _ => 0) 0 6) 1 5) 2 8) 3 10
def vS0 : zz_St := fun q => bif Nat.beq q 20 then vWt else bif Nat.beq q 19 then upd (fun _ => 0) 1 20 else bif Nat.beq q 24 then upd (upd (fun _ => 0) 0 12) 1 1 else fun _ => 0
theorem z_init : pz_V 0 vS0 := by
  refine ⟨⟨⟨by decide, rfl⟩, fun p hp => absurd hp (by omega), ?_, ?_, ?_⟩, Or.inl ⟨rfl, rfl⟩⟩
  · intro w hw
    have z8 : vS0 (8 + w) = fun _ => 0 := by match w, hw with
      | 0, _ => rfl
      | 1, _ => rfl
      | 2, _ => rfl
      | 3, _ => rfl
    have z13 : vS0 (13 + w) = fun _ => 0 := by match w, hw with
      | 0, _ => rfl
      | 1, _ => rfl
      | 2, _ => rfl
      | 3, _ => rfl
    rw [z8, z13]
    exact ⟨fun _ _ _ => rfl, fun _ i _ _ => pb_0 i, fun x i _ => by rw [pb_0, pb_0, Bool.and_false]⟩
  · refine ⟨fun k hk => ?_, ⟨12, by decide, by decide, rfl⟩, ⟨1, by decide, rfl⟩⟩
    match k, hk with
    | 0, _ => exact ⟨6, by decide, rfl⟩
    | 1, _ => exact ⟨5, by decide, rfl⟩
    | 2, _ => exact ⟨8, by decide, rfl⟩
    | 3, _ => exact ⟨10, by decide, rfl⟩
  · refine ⟨fun p q _ h => ?_, fun p q hp => absurd hp (by omega)⟩
    rw [show vS0 22 p = 0 from rfl, show vS0 23 p = 0 from rfl, pb_0] at h
    rcases h with h | h <;> cases h
theorem z_base : pz_B vS0 := ⟨fun x _ => ⟨pb_0 x, rfl⟩, fun _ => rfl, fun _ => rfl⟩
theorem z_build (hL : L ≤ 260) : ∃ n σ u1 u2, n ≤ 12 ∧ fL_build xs L vS0 (fun _ => 0) (fun _ => 0) 0 12 = some (nI n, σ, u1, u2) ∧ pz_V n σ ∧ pz_X n σ ∧ (∀ c, σ 22 c = 0) ∧ (∀ c, σ 23 c = 0) := by
  obtain ⟨x1, e1⟩ := fl_cell (xs := xs) hL (k := 0) (j := 0) rfl (by decide)
  obtain ⟨n, hn, e2⟩ := fl_below x1 (d := (12 : Int32) + 1) (m := 13) (by decide) (by decide) (by decide)
  obtain ⟨σ1, u1, e3, V1, B1, X1⟩ := fl_build1 (xs := xs) hL (F := 0) (N := n) (by decide) (by omega) (fun _ => 0) z_init z_base
  obtain ⟨σ2, u2, e4, V2, X2, z22, z23⟩ := fl_build3 (xs := xs) hL (F := 0) (by decide) (fun _ => 0) V1 B1 X1
  refine ⟨n, σ2, u1, u2, by omega, ?_, V2, X2, z22, z23⟩
  unfold fL_build
  rw [e1, pz_bs, e2, pz_bs, show fL_build_L1 xs L (0 : Int32) (nI n) 14 (0 : Int32) vS0 (fun _ => 0) = _ from e3, pz_bs]
  show (fL_build_L3 xs L (0 : Int32) 14 (0 : Int32) σ1 (fun _ => 0)).bind _ = _
  rw [show fL_build_L3 xs L (0 : Int32) 14 (0 : Int32) σ1 (fun _ => 0) = _ from e4, pz_bs]
  show (((fX7_pieceCount σ2).bind fun x138 => if x138 = nI n then some (nI n) else some (-1 : Int32)).bind fun x135 => some (x135, σ2, u1, u2)) = _
  rw [u_pieceCount V2, pz_bs, if_pos rfl, pz_bs]
end LB
