/-! pure part: the class's methods, asked one by one (no reference): what is set -/
section UV
variable {n : Nat} {σ σ' : zz_St}
def pz_V (n : Nat) (σ : zz_St) : Prop := pz_CW n σ ∧ pz_K n σ
theorem pV_n (V : pz_V n σ) : n ≤ 14 := V.1.1.1
theorem pV_c (V : pz_V n σ) : σ 1 0 = nI n := V.1.1.2
theorem u_addPiece (V : pz_V n σ) (hn : n < 14) {v1 v2 v3 v4 : Int32} (h1 : pz_in 0 9 v1 = true) (h2 : pz_in 0 9999 v2 = true) (h3 : pz_in 0 999 v3 = true) (h4 : pz_in 0 999 v4 = true) : ∃ σ', fX7_addPiece σ v1 v2 v3 v4 = some (.inl (nI n), σ') ∧ pz_V (n + 1) σ' ∧ (∀ q, 7 ≤ q → σ' q = σ q) ∧ (∀ p, σ' 4 p = if p = n then v3 else σ 4 p) ∧ (∀ p, σ' 5 p = if p = n then v4 else σ 5 p) := by
  have hc := pV_c V
  unfold fX7_addPiece
  simp only [fc_up, pz_bs, h1, h2, h3, h4, zb0, zb1, ↓reduceIte, Bool.false_eq_true]
  rw [hc, show (14 : Int32) = nI 14 from rfl, if_pos (nI_lt hn (by decide)), fc_fg, pz_bs]
  have hcf : pz_fg σ 1 0 = nI n := by rw [pfg_q (by decide)]; exact hc
  have eA : fX5_append (pz_fg σ) v1 v2 v3 v4 = some (nI n, zz_u (zz_u (zz_u (zz_u (zz_u (zz_u (pz_fg σ) 2 n v1) 3 n v2) 4 n v3) 5 n v4) 6 n 0) 1 0 (nI (n + 1))) := by
    unfold fX5_append
    rw [hcf, if_pos (show nI n < 14 from nI_lt (b := 14) hn (by decide)), pz_pa hn (by decide), pz_bs, pz_pa hn (by decide), pz_bs, pz_pa hn (by decide), pz_bs, pz_pa hn (by decide), pz_bs, pz_pa hn (by decide), pz_bs, nI_1]
  rw [eA, pz_bs]
  obtain ⟨c1, c2, c3, c5, c6⟩ := ps_CW (pfg_sa (σ := σ)) V.1
  generalize hσ : zz_u (zz_u (zz_u (zz_u (zz_u (zz_u (pz_fg σ) 2 n v1) 3 n v2) 4 n v3) 5 n v4) 6 n 0) 1 0 (nI (n + 1)) = σ'
  have sq : ∀ q, q = 0 ∨ 7 ≤ q → σ' q = pz_fg σ q := fun q h => by rw [← hσ, pz_uq (by omega), pz_uq (by omega), pz_uq (by omega), pz_uq (by omega), pz_uq (by omega), pz_uq (by omega)]
  refine ⟨σ', rfl, ⟨⟨⟨hn, ?_⟩, ?_, ?_, cw5_c (sq 20 (by decide)) (by rw [sq 24 (by decide)]) (by rw [sq 24 (by decide)]) c5, ?_⟩, pK_fg (sq 0 (by decide))⟩, fun q hq => ?_, fun p => ?_, fun p => ?_⟩
  · rw [← hσ, pz_us]
  · intro p hp
    have e : σ' 3 p = if p = n then v2 else pz_fg σ 3 p := by
      rw [← hσ, pz_uq (by decide), pz_uq (by decide), pz_uq (by decide), pz_uq (by decide), pz_u, pz_uq (by decide)]
      simp only [true_and]
    rw [e]
    by_cases g : p = n
    · rw [if_pos g]; exact pin_e (m := 9999) (by decide) h2
    · rw [if_neg g]; exact c2 p (by omega)
  · intro w hw
    rw [sq (8 + w) (by omega), sq (13 + w) (by omega)]
    obtain ⟨x, y, z⟩ := c3 w hw
    exact ⟨fun p hp hnp => x p hp (by omega), y, z⟩
  · rw [pz_CW6, sq 22 (by decide), sq 23 (by decide)]
    obtain ⟨x, y⟩ := c6
    refine ⟨fun p q hp h => ?_, fun p q hp hq => ?_⟩
    · have := x p q hp h; omega
    · have out : ∀ p q, p < 14 → (p = n ∨ q = n) → pz_b (pz_fg σ 22 p) q = false ∧ pz_b (pz_fg σ 23 p) q = false := by
        intro p q hp h
        constructor
        · cases d : pz_b (pz_fg σ 22 p) q with
          | false => rfl
          | true => have := x p q hp (Or.inl d); omega
        · cases d : pz_b (pz_fg σ 23 p) q with
          | false => rfl
          | true => have := x p q hp (Or.inr d); omega
      by_cases g : p = n ∨ q = n
      · obtain ⟨u1, u2⟩ := out p q (by omega) g
        obtain ⟨u3, u4⟩ := out q p (by omega) (by omega)
        rw [u1, u2, u3, u4]
        exact ⟨rfl, rfl, fun h => absurd h.1 (by decide)⟩
      · exact y p q (by omega) (by omega)
  · rw [sq q (Or.inr hq), pfg_q (by omega)]
  · rw [← hσ, pz_uq (by decide), pz_uq (by decide), pz_uq (by decide), pz_u, pz_uq (by decide), pz_uq (by decide), pfg_q (by decide)]
    simp only [true_and]
  · rw [← hσ, pz_uq (by decide), pz_uq (by decide), pz_u, pz_uq (by decide), pz_uq (by decide), pz_uq (by decide), pfg_q (by decide)]
    simp only [true_and]
theorem u_setNames (V : pz_V n σ) {p w j : Nat} (hp : p < n) (hw : w < 4) (hj : j ≤ 65535) : ∃ σ', fX7_setNames σ (nI p) (nI w) (nI j) = some (.inl (σ (8 + w) p), σ') ∧ pz_V n σ' ∧ (∀ q, q ≠ 0 → q ≠ 8 + w → q ≠ 13 + w → σ' q = σ q) ∧ (∀ j', σ' (8 + w) j' = if j' = p then nI j else σ (8 + w) j') := by
  have hn := pV_n V
  have hc := pV_c V
  unfold fX7_setNames
  obtain ⟨σ', e, h1, h2, h3⟩ := fc_replace (σ := pz_fg σ) (p := p) (w := w) (by omega) hw (nI j)
  rw [fc_rs_y hc hn hp hw, pz_bs]
  show ∃ σ', (fX7_isUpTo σ (nI j) 65535).bind _ = _ ∧ _
  rw [fc_up, pz_bs, show pz_in 0 65535 (nI j) = true from pin_y (m := 65535) (by decide) hj, if_neg (by decide), fc_fg, pz_bs, e, pz_bs]
  have hq : ∀ q, q ≠ 0 → q ≠ 8 + w → q ≠ 13 + w → σ' q = σ q := fun q a b c => by rw [h1 q b c, pfg_q a]
  obtain ⟨c1, c2, c3, c5, c6⟩ := V.1
  refine ⟨σ', by rw [pfg_q (by omega)], ⟨⟨cw1_c (hq 1 (by omega) (by omega) (by omega)) c1, cw2_c (hq 3 (by omega) (by omega) (by omega)) c2, ?_, cw5_c (hq 20 (by omega) (by omega) (by omega)) (by rw [hq 24 (by omega) (by omega) (by omega)]) (by rw [hq 24 (by omega) (by omega) (by omega)]) c5, cw6_c (hq 22 (by omega) (by omega) (by omega)) (hq 23 (by omega) (by omega) (by omega)) c6⟩, Or.inl ⟨?_, ?_⟩⟩, hq, fun j' => ?_⟩
  · exact cw3_put hw (by omega) (fun i hi => pz_65535 hj hi) (Or.inl hp) h1 h2 h3 (cw3_c (fun q a b => pfg_q (by omega)) c3)
  · rw [h1 0 (by omega) (by omega)]; exact pfg_7
  · rw [h1 0 (by omega) (by omega)]; exact pfg_8
  · rw [h2, pfg_q (by omega)]
theorem u_setName (V : pz_V n σ) {x v : Nat} (hx : x < 16) (d : Bool) (hv : v ≤ 9) : ∃ σ', fX7_setName σ (nI x) (zz_bi d) (nI v) = some (.inl (zz_bi (!(decide (d = pz_b (σ 17 0) x) && decide (nI v = σ 18 x)))), σ') ∧ pz_V n σ' ∧ (∀ q, q ≠ 0 → q ≠ 17 → q ≠ 18 → σ' q = σ q) ∧ (∀ y, y < 16 → y ≠ x → pz_b (σ' 17 0) y = pz_b (σ 17 0) y ∧ σ' 18 y = σ 18 y) := by
  unfold fX7_setName
  rw [if_neg (nI_pos (n := x) (by omega)), if_pos (show nI x < 16 from nI_lt (a := x) (b := 16) hx (by decide)), pz_bs, if_neg (by decide), fc_up, pz_bs, show pz_in 0 9 (nI v) = true from pin_y (m := 9) (by decide) hv, if_neg (by decide), fc_fg, pz_bs]
  obtain ⟨c1, c2, c3, c5, c6⟩ := ps_CW (pfg_sa (σ := σ)) V.1
  have e1 : fX1_learn (pz_fg σ) (nI x) (zz_bi d) (nI v) = some (zz_bi (!(decide (d = pz_b (pz_fg σ 17 0) x) && decide (nI v = pz_fg σ 18 x))), zz_u (zz_u (pz_fg σ) 17 0 (if d = true then pz_fg σ 17 0 ||| ((1 : Int32) <<< (nI x &&& 31)) else pz_fg σ 17 0 &&& (((1 : Int32) <<< (nI x &&& 31)) ^^^ (-1)))) 18 x (nI v)) := by
    unfold fX1_learn
    rw [pf_isIn (by omega), pz_bs]
    by_cases g : d = pz_b (pz_fg σ 17 0) x
    · rw [if_pos (by rw [g]), pz_ga (by omega) (by decide), pz_bs, decide_eq_true g]
      by_cases g2 : nI v = pz_fg σ 18 x
      · rw [if_pos g2, decide_eq_true g2, pz_bs, pz_bs]
        cases d <;> (simp (disch := omega) only [pz_pa]; rfl)
      · rw [if_neg g2, decide_eq_false g2, pz_bs, pz_bs]
        cases d <;> (simp (disch := omega) only [pz_pa]; rfl)
    · rw [if_neg (by rw [pz_bii]; exact g), decide_eq_false g, pz_bs, pz_bs]
      cases d <;> (simp (disch := omega) only [pz_pa]; rfl)
  rw [e1, pz_bs, pz_bo, pz_bs]
  generalize hN : (if d = true then pz_fg σ 17 0 ||| ((1 : Int32) <<< (nI x &&& 31)) else pz_fg σ 17 0 &&& (((1 : Int32) <<< (nI x &&& 31)) ^^^ (-1))) = N
  have hb : ∀ i, i < 16 → pz_b N i = if i = x then d else pz_b (pz_fg σ 17 0) i := by
    intro i hi
    rw [← hN]
    cases d with
    | true =>
      rw [if_pos rfl, pb_or, pb_one (by omega)]
      by_cases g : i = x
      · rw [if_pos g, decide_eq_true g, Bool.or_true]
      · rw [if_neg g, decide_eq_false g, Bool.or_false]
    | false =>
      rw [if_neg (by decide), pb_nand (by omega)]
      by_cases g : i = x
      · rw [if_pos g, decide_eq_true g]; simp
      · rw [if_neg g, decide_eq_false g]; simp
  refine ⟨zz_u (zz_u (pz_fg σ) 17 0 N) 18 x (nI v), by rw [pfg_q (by decide), pfg_q (by decide)], ⟨⟨cw1_c (by rw [pz_uq (by decide), pz_uq (by decide)]) c1, cw2_c (by rw [pz_uq (by decide), pz_uq (by decide)]) c2, cw3_c (fun q a b => by rw [pz_uq (by omega), pz_uq (by omega)]) c3, cw5_c (by rw [pz_uq (by decide), pz_uq (by decide)]) (by rw [pz_uq (by decide), pz_uq (by decide)]) (by rw [pz_uq (by decide), pz_uq (by decide)]) c5, cw6_c (by rw [pz_uq (by decide), pz_uq (by decide)]) (by rw [pz_uq (by decide), pz_uq (by decide)]) c6⟩, pK_fg (by rw [pz_uq (by decide), pz_uq (by decide)])⟩, fun q a b c => by rw [pz_uq c, pz_uq b, pfg_q a], fun y hy g => ⟨?_, ?_⟩⟩
  · rw [pz_uq (show 17 ≠ 18 by decide), pz_us, hb y hy, if_neg g, pfg_q (by decide)]
  · rw [pz_u, if_neg (by omega), pz_uq (by decide), pfg_q (by decide)]
theorem u_pieceCount (V : pz_V n σ) : fX7_pieceCount σ = some (nI n) := by unfold fX7_pieceCount; rw [pV_c V]
theorem u_setThreshold (V : pz_V n σ) {t : Nat} (h1 : 1 ≤ t) (h2 : t ≤ 999) : ∃ r σ', fX7_setThreshold σ (nI t) = some (.inl r, σ') ∧ pz_V n σ' ∧ (∀ q, q ≠ 0 → q ≠ 24 → σ' q = σ q) ∧ σ' 24 0 = nI t := by
  unfold fX7_setThreshold
  rw [if_neg (show ¬ nI t < 1 from Int32.not_lt.mpr (nI_le (a := 1) h1 (by omega))), if_pos (show nI t ≤ 999 from nI_le (b := 999) h2 (by decide)), pz_bs, if_neg (by decide), fc_fg, pz_bs, pz_bs]
  obtain ⟨c1, c2, c3, c5, c6⟩ := ps_CW (pfg_sa (σ := σ)) V.1
  refine ⟨_, zz_u (pz_fg σ) 24 0 (nI t), rfl, ⟨⟨cw1_c (pz_uq (by decide)) c1, cw2_c (pz_uq (by decide)) c2, cw3_c (fun q a b => pz_uq (by omega)) c3, ?_, cw6_c (pz_uq (by decide)) (pz_uq (by decide)) c6⟩, pK_fg (pz_uq (by decide))⟩, fun q a b => by rw [pz_uq b, pfg_q a], pz_us⟩
  obtain ⟨a, b, c⟩ := c5
  refine ⟨?_, ?_, ?_⟩
  · rw [pz_uq (by decide)]; exact a
  · rw [pz_us]; exact ⟨t, h1, h2, rfl⟩
  · rw [pz_uj (by decide)]; exact c
theorem u_setManner (V : pz_V n σ) {t : Nat} (h2 : t ≤ 2) : ∃ r σ', fX7_setManner σ (nI t) = some (.inl r, σ') ∧ pz_V n σ' ∧ (∀ q, q ≠ 0 → q ≠ 24 → σ' q = σ q) ∧ σ' 24 0 = σ 24 0 := by
  unfold fX7_setManner
  rw [fc_up, pz_bs, show pz_in 0 2 (nI t) = true from pin_y (m := 2) (by decide) h2, if_neg (by decide), fc_fg, pz_bs, pz_bs]
  obtain ⟨c1, c2, c3, c5, c6⟩ := ps_CW (pfg_sa (σ := σ)) V.1
  refine ⟨_, zz_u (pz_fg σ) 24 1 (nI t), rfl, ⟨⟨cw1_c (pz_uq (by decide)) c1, cw2_c (pz_uq (by decide)) c2, cw3_c (fun q a b => pz_uq (by omega)) c3, ?_, cw6_c (pz_uq (by decide)) (pz_uq (by decide)) c6⟩, pK_fg (pz_uq (by decide))⟩, fun q a b => by rw [pz_uq b, pfg_q a], by rw [pz_uj (by decide), pfg_q (by decide)]⟩
  obtain ⟨a, b, c⟩ := c5
  refine ⟨?_, ?_, ?_⟩
  · rw [pz_uq (by decide)]; exact a
  · rw [pz_uj (by decide)]; exact b
  · rw [pz_us]; exact ⟨t, h2, rfl⟩
/-- what was said, as a number -/
def vCd (σ : zz_St) (p q : Nat) : Int32 := if vMu σ p q = true then 1 else if vNo σ p q = true then 2 else 0
theorem u_cw6 (c6 : pz_CW6 n σ) (hn : n ≤ 14) {a b : Nat} (ha : a < n) (hb : b < n) (hab : a ≠ b) {w : Int32} (hw : w = 0 ∨ w = 1 ∨ w = 2)
    (h22 : ∀ c i, pz_b (σ' 22 c) i = if (c = a ∧ i = b) ∨ (c = b ∧ i = a) then decide (w = 1) else pz_b (σ 22 c) i) (h23 : ∀ c i, pz_b (σ' 23 c) i = if (c = a ∧ i = b) ∨ (c = b ∧ i = a) then decide (w = 2) else pz_b (σ 23 c) i) : pz_CW6 n σ' ∧ ∀ p q, vCd σ' p q = if (p = a ∧ q = b) ∨ (p = b ∧ q = a) then w else vCd σ p q := by
  refine ⟨⟨fun p q hp h => ?_, fun p q hp hq => ?_⟩, fun p q => ?_⟩
  · rw [h22, h23] at h
    by_cases g : (p = a ∧ q = b) ∨ (p = b ∧ q = a)
    · omega
    · rw [if_neg g, if_neg g] at h
      exact c6.1 p q hp h
  · rw [h22, h22, h23, h23]
    by_cases g : (p = a ∧ q = b) ∨ (p = b ∧ q = a)
    · rw [if_pos g, if_pos (show (q = a ∧ p = b) ∨ (q = b ∧ p = a) by omega), if_pos g, if_pos (show (q = a ∧ p = b) ∨ (q = b ∧ p = a) by omega)]
      refine ⟨rfl, rfl, fun h => ?_⟩
      rw [decide_eq_true_iff, decide_eq_true_iff] at h
      rw [h.1] at h
      exact absurd h.2 (by decide)
    · rw [if_neg g, if_neg (show ¬ ((q = a ∧ p = b) ∨ (q = b ∧ p = a)) by omega), if_neg g, if_neg (show ¬ ((q = a ∧ p = b) ∨ (q = b ∧ p = a)) by omega)]
      exact c6.2 p q hp hq
  · unfold vCd vMu vNo
    rw [h22, h23]
    by_cases g : (p = a ∧ q = b) ∨ (p = b ∧ q = a)
    · rw [if_pos g, if_pos g, if_pos g]
      rcases hw with h | h | h <;> (rw [h]; decide)
    · rw [if_neg g, if_neg g, if_neg g]
/-- say: what would be said then, and whether it may be -/
theorem u_say (V : pz_V n σ) {a b : Nat} (ha : a < n) (hb : b < n) (hab : a ≠ b) {w : Int32} (hw : w = 0 ∨ w = 1 ∨ w = 2) : ∃ σ1, pz_CW6 n σ1 ∧ (∀ p q, vCd σ1 p q = if (p = a ∧ q = b) ∨ (p = b ∧ q = a) then w else vCd σ p q) ∧
    (¬ pz_cn n σ1 → ∃ σ', fX7_say σ (nI a) (nI b) w = some (.inl (vCd σ a b), σ') ∧ pz_V n σ' ∧ σ' 22 = σ1 22 ∧ σ' 23 = σ1 23 ∧ (∀ q, q ≠ 0 → q ≠ 22 → q ≠ 23 → σ' q = σ q)) ∧ (pz_cn n σ1 → fX7_say σ (nI a) (nI b) w = some (.inr "java/lang/IllegalStateException", σ)) := by
  have hn := pV_n V
  have hc := pV_c V
  obtain ⟨c1, c2, c3, c5, c6⟩ := V.1
  have hx : pz_in 0 2 w = true := by rcases hw with h | h | h <;> (rw [h]; decide)
  obtain ⟨σ1, e1, a1, b1, d1⟩ := fc_put (σ := σ) (a := a) (b := b) (by omega) (by omega) w
  obtain ⟨c6', hcd⟩ := u_cw6 c6 hn ha hb hab hw b1 d1
  obtain ⟨bb, e4, h4⟩ := fc_contra c6' hn
  have start : ∀ X, ((fX6_isContradiction σ1).bind fun x17 => if x17 = 0 then (fX7_forgetResults σ1).bind fun x20 => some ((.inl (vCd σ a b) : Int32 ⊕ String), x20) else (fX6_put σ1 (nI a) (nI b) (vCd σ a b)).bind fun x22 => some (.inr "java/lang/IllegalStateException", x22)) = X → fX7_say σ (nI a) (nI b) w = X := by
    intro X h
    rw [← h]
    unfold fX7_say
    rw [fc_rp_y hc hn ha, pz_bs]
    show (fX7_requirePiece σ (nI b)).bind _ = _
    rw [fc_rp_y hc hn hb, pz_bs]
    show (fX7_requireDifferent σ (nI a) (nI b)).bind _ = _
    rw [fc_rd_y (by rw [Ne, nI_eq (by omega) (by omega)]; exact hab), pz_bs]
    show (fX7_isUpTo σ w 2).bind _ = _
    rw [fc_up, pz_bs, hx, if_neg (by decide), fc_said c6 (by omega) (by omega), pz_bs, e1, pz_bs]
    rfl
  rw [e4, pz_bs] at start
  refine ⟨σ1, c6', hcd, fun no => ?_, fun yes => ?_⟩
  · cases bb with
    | true => exact absurd (h4.mp rfl) no
    | false =>
      have sq : ∀ q, q ≠ 0 → q ≠ 22 → q ≠ 23 → pz_fg σ1 q = σ q := fun q x y z => by rw [pfg_q x, a1 q y z]
      refine ⟨pz_fg σ1, start _ rfl, ⟨⟨cw1_c (sq 1 (by decide) (by decide) (by decide)) c1, cw2_c (sq 3 (by decide) (by decide) (by decide)) c2, cw3_c (fun q h h2 => sq q (by omega) (by omega) (by omega)) c3, cw5_c (sq 20 (by decide) (by decide) (by decide)) (by rw [sq 24 (by decide) (by decide) (by decide)]) (by rw [sq 24 (by decide) (by decide) (by decide)]) c5, cw6_c (pfg_q (by decide)) (pfg_q (by decide)) c6'⟩, pK_fg rfl⟩, pfg_q (by decide), pfg_q (by decide), sq⟩
  · cases bb with
    | false => have := h4.mpr yes; cases this
    | true =>
      refine start _ ?_
      rw [if_neg (by decide)]
      have hws : vCd σ a b = if vMu σ a b = true then (1 : Int32) else if vNo σ a b = true then 2 else 0 := rfl
      generalize vCd σ a b = ws at hws
      have hs1 := (c6.2 a b ha hb).1
      have hs2 := (c6.2 a b ha hb).2.1
      have hs3 := (c6.2 a b ha hb).2.2
      obtain ⟨σ2, e5, a5, b5, d5⟩ := fc_put (σ := σ1) (a := a) (b := b) (by omega) (by omega) ws
      rw [e5, pz_bs]
      have f22 : σ2 22 = σ 22 := by
        funext c
        apply pb_ext
        intro i _
        rw [b5, b1]
        by_cases g : (c = a ∧ i = b) ∨ (c = b ∧ i = a)
        · rw [if_pos g]
          have e : pz_b (σ 22 c) i = pz_b (σ 22 a) b := by
            rcases g with g | g
            · rw [g.1, g.2]
            · rw [g.1, g.2]; exact hs1.symm
          rw [e, hws]
          unfold vMu vNo
          cases h1 : pz_b (σ 22 a) b <;> cases h2 : pz_b (σ 23 a) b <;> first | rfl | decide | exact absurd ⟨h1, h2⟩ hs3
        · rw [if_neg g, if_neg g]
      have f23 : σ2 23 = σ 23 := by
        funext c
        apply pb_ext
        intro i _
        rw [d5, d1]
        by_cases g : (c = a ∧ i = b) ∨ (c = b ∧ i = a)
        · rw [if_pos g]
          have e : pz_b (σ 23 c) i = pz_b (σ 23 a) b := by
            rcases g with g | g
            · rw [g.1, g.2]
            · rw [g.1, g.2]; exact hs2.symm
          rw [e, hws]
          unfold vMu vNo
          cases h1 : pz_b (σ 22 a) b <;> cases h2 : pz_b (σ 23 a) b <;> first | rfl | decide | exact absurd ⟨h1, h2⟩ hs3
        · rw [if_neg g, if_neg g]
      have same : σ2 = σ := by
        funext q
        by_cases g : q = 22
        · rw [g]; exact f22
        · by_cases g2 : q = 23
          · rw [g2]; exact f23
          · rw [a5 q g g2, a1 q g g2]
      rw [same]
end UV
