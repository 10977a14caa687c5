/-! the law's cases (by program) -/
section CASES
variable {n : Nat} {σ τ σ' τ' : zz_St} {o o' : Nat → Int64} {xs : Nat → Int32} {L : Nat} {i_ v1 v2 v3 v4 : Int32}
theorem lq_cmp {x : Int64} : lg_cmp x x = 0 := by unfold lg_cmp; rw [if_neg (Int64.lt_irrefl), if_pos rfl]
theorem lq_tail {t : Int32} {y : Int64} {S : zz_LS} (h : t = 0 → o' 0 = y) : (if t = t then (if t = 0 then (some (lg_cmp (o' 0) y)).bind fun x => if x = 0 then some false else some true else some false).bind fun b => if b = true then some none else some (some S) else some none) = some (some S) := by
  rw [if_pos rfl]
  by_cases z : t = 0
  · rw [if_pos z, pz_bs, h z, lq_cmp]; rfl
  · rw [if_neg z]; rfl
theorem lq_tailb {t b : Int32} {S : zz_LS} (h : t = 0 → o' 0 = if b = 0 then 0 else 1) : (if t = t then (if t = 0 then (if b = 0 then some (0 : Int64) else some (1 : Int64)).bind fun y => (some (lg_cmp (o' 0) y)).bind fun x => if x = 0 then some false else some true else some false).bind fun b => if b = true then some none else some (some S) else some none) = some (some S) := by
  rw [if_pos rfl]
  by_cases z : t = 0
  · rw [if_pos z, h z]
    by_cases w : b = 0
    · rw [if_pos w, if_pos w, pz_bs, pz_bs, lq_cmp]; rfl
    · rw [if_neg w, if_neg w, pz_bs, pz_bs, lq_cmp]; rfl
  · rw [if_neg z]; rfl
theorem lq_b {v : Int32} : (if v = 0 then some false else some true) = some (!decide (v = 0)) := by by_cases h : v = 0 <;> simp [h]
theorem lq_bi (b : Bool) : zz_bi b = 0 ∨ zz_bi b = 1 := by cases b; exact Or.inl rfl; exact Or.inr rfl
theorem lq_o {v : Int64} : vp_updL o 0 v 0 = v := if_pos rfl
theorem w_addPiece {rc : Int32 ⊕ String} {b t : Int32} (h : fX7_addPiece σ v1 v2 v3 v4 = some (rc, σ')) (a : pz_a2 "java/lang/IllegalArgumentException" "java/lang/IllegalStateException" rc b t) : ∃ o', fL_addPiece σ o v1 v2 v3 v4 = some (t, σ', o') ∧ (t = 0 → o' 0 = b.toInt64) := by
  unfold fL_addPiece
  rw [h, pz_bs]
  rcases a with ⟨rfl, rfl⟩|⟨rfl, rfl⟩|⟨rfl, rfl⟩
  · exact ⟨_, rfl, fun _ => lq_o⟩
  · exact ⟨o, if_pos rfl, fun g => absurd g (by decide)⟩
  · exact ⟨o, (if_neg (by decide)).trans (if_pos rfl), fun g => absurd g (by decide)⟩
theorem z_c0 (I : pz_I n σ τ) (g1 : zz_ga xs L (i_ + 1) = some v1) (g2 : zz_ga xs L (i_ + 2) = some v2) (g3 : zz_ga xs L (i_ + 3) = some v3) (g4 : zz_ga xs L (i_ + 4) = some v4) : ∃ m S, fL_c0 xs L i_ σ τ o = some (some S) ∧ pz_I m S.1 S.2.1 := by
  obtain ⟨m, rc, σ', b, τ', h1, h2, J, a⟩ := t_addPiece I v1 v2 v3 v4
  obtain ⟨o', w, z⟩ := w_addPiece (o := o) h1 a
  refine ⟨m, (σ', τ', o'), ?_, J⟩
  unfold fL_c0
  rw [g1, pz_bs, g2, pz_bs, g3, pz_bs, g4, pz_bs, w, pz_bs, pz_bs, pz_bs, pz_bs, pz_bs, h2, pz_bs]
  exact lq_tail z
theorem w_setNames {rc : Int32 ⊕ String} {b t : Int32} (h : fX7_setNames σ v1 v2 v3 = some (rc, σ')) (a : pz_a2 "java/lang/IndexOutOfBoundsException" "java/lang/IllegalArgumentException" rc b t) : ∃ o', fL_setNames σ o v1 v2 v3 = some (t, σ', o') ∧ (t = 0 → o' 0 = b.toInt64) := by
  unfold fL_setNames
  rw [h, pz_bs]
  rcases a with ⟨rfl, rfl⟩|⟨rfl, rfl⟩|⟨rfl, rfl⟩
  · exact ⟨_, rfl, fun _ => lq_o⟩
  · exact ⟨o, if_pos rfl, fun g => absurd g (by decide)⟩
  · exact ⟨o, (if_neg (by decide)).trans (if_pos rfl), fun g => absurd g (by decide)⟩
theorem z_c1 (I : pz_I n σ τ) (g1 : zz_ga xs L (i_ + 1) = some v1) (g2 : zz_ga xs L (i_ + 2) = some v2) (g3 : zz_ga xs L (i_ + 3) = some v3) : ∃ m S, fL_c1 xs L i_ σ τ o = some (some S) ∧ pz_I m S.1 S.2.1 := by
  obtain ⟨rc, σ', b, τ', h1, h2, J, a⟩ := t_setNames I v1 v2 v3
  obtain ⟨o', w, z⟩ := w_setNames (o := o) h1 a
  refine ⟨n, (σ', τ', o'), ?_, J⟩
  unfold fL_c1
  rw [g1, pz_bs, g2, pz_bs, g3, pz_bs, w, pz_bs, pz_bs, pz_bs, pz_bs, h2, pz_bs]
  exact lq_tail z
theorem w_names {rc : Int32 ⊕ String} {b t : Int32} (h : fX7_names σ v1 v2 = some rc) (a : pz_a1 "java/lang/IndexOutOfBoundsException" rc b t) : ∃ o', fL_names σ o v1 v2 = some (t, σ, o') ∧ (t = 0 → o' 0 = b.toInt64) := by
  unfold fL_names
  rw [h, pz_bs]
  rcases a with ⟨rfl, rfl⟩|⟨rfl, rfl⟩
  · exact ⟨_, rfl, fun _ => lq_o⟩
  · exact ⟨o, if_pos rfl, fun g => absurd g (by decide)⟩
theorem z_c2 (I : pz_I n σ τ) (g1 : zz_ga xs L (i_ + 1) = some v1) (g2 : zz_ga xs L (i_ + 2) = some v2) : ∃ m S, fL_c2 xs L i_ σ τ o = some (some S) ∧ pz_I m S.1 S.2.1 := by
  obtain ⟨rc, b, τ', h1, h2, J, a⟩ := t_names I v1 v2
  obtain ⟨o', w, z⟩ := w_names (o := o) h1 a
  refine ⟨n, (σ, τ', o'), ?_, J⟩
  unfold fL_c2
  rw [g1, pz_bs, g2, pz_bs, w, pz_bs, pz_bs, pz_bs, h2, pz_bs]
  exact lq_tail z
theorem w_setName {rc : Int32 ⊕ String} {b t : Int32} (h : fX7_setName σ v1 v2 v3 = some (rc, σ')) (a : pz_a2 "java/lang/IndexOutOfBoundsException" "java/lang/IllegalArgumentException" rc b t) : ∃ o', fL_setName σ o v1 v2 v3 = some (t, σ', o') ∧ (t = 0 → o' 0 = (if b = 0 then 0 else 1)) := by
  unfold fL_setName
  rw [h, pz_bs]
  rcases a with ⟨rfl, rfl⟩|⟨rfl, rfl⟩|⟨rfl, rfl⟩
  · by_cases z : b = 0
    · exact ⟨_, if_pos z, fun _ => by rw [lq_o, if_pos z]⟩
    · exact ⟨_, if_neg z, fun _ => by rw [lq_o, if_neg z]⟩
  · exact ⟨o, if_pos rfl, fun g => absurd g (by decide)⟩
  · exact ⟨o, (if_neg (by decide)).trans (if_pos rfl), fun g => absurd g (by decide)⟩
theorem z_c3 (I : pz_I n σ τ) (g1 : zz_ga xs L (i_ + 1) = some v1) (g2 : zz_ga xs L (i_ + 2) = some v2) (g3 : zz_ga xs L (i_ + 3) = some v3) : ∃ m S, fL_c3 xs L i_ σ τ o = some (some S) ∧ pz_I m S.1 S.2.1 := by
  obtain ⟨rc, σ', b, τ', h1, h2, J, a, _⟩ := t_setName I v1 (zz_bi (!decide (v2 = 0))) v3 (lq_bi _)
  obtain ⟨o', w, z⟩ := w_setName (o := o) h1 a
  refine ⟨n, (σ', τ', o'), ?_, J⟩
  unfold fL_c3
  rw [g1, pz_bs, g2, pz_bs, lq_b, pz_bs, g3, pz_bs, w, pz_bs, pz_bs, pz_bs, pz_bs, h2, pz_bs]
  exact lq_tailb z
theorem w_dropPiece {rc : Int32 ⊕ String} {b t : Int32} (h : fX7_dropPiece σ  = some (rc, σ')) (a : pz_a1 "java/lang/IllegalStateException" rc b t) : ∃ o', fL_dropPiece σ o  = some (t, σ', o') ∧ (t = 0 → o' 0 = b.toInt64) := by
  unfold fL_dropPiece
  rw [h, pz_bs]
  rcases a with ⟨rfl, rfl⟩|⟨rfl, rfl⟩
  · exact ⟨_, rfl, fun _ => lq_o⟩
  · exact ⟨o, if_pos rfl, fun g => absurd g (by decide)⟩
theorem z_c4 (I : pz_I n σ τ)  : ∃ m S, fL_c4 xs L i_ σ τ o = some (some S) ∧ pz_I m S.1 S.2.1 := by
  obtain ⟨m, rc, σ', b, τ', h1, h2, J, a⟩ := t_dropPiece I 
  obtain ⟨o', w, z⟩ := w_dropPiece (o := o) h1 a
  refine ⟨m, (σ', τ', o'), ?_, J⟩
  unfold fL_c4
  rw [w, pz_bs, h2, pz_bs]
  exact lq_tail z
theorem z_c5 (I : pz_I n σ τ)  : ∃ m S, fL_c5 xs L i_ σ τ o = some (some S) ∧ pz_I m S.1 S.2.1 := by
  obtain ⟨b, τ', h1, h2, J⟩ := t_pieceCount I 
  refine ⟨n, (σ, τ', o), ?_, J⟩
  unfold fL_c5
  rw [h1, pz_bs, h2, pz_bs]
  exact if_pos rfl
theorem w_setWeight {rc : Int32 ⊕ String} {b t : Int32} (h : fX7_setWeight σ v1 v2 = some (rc, σ')) (a : pz_a2 "java/lang/IndexOutOfBoundsException" "java/lang/IllegalArgumentException" rc b t) : ∃ o', fL_setWeight σ o v1 v2 = some (t, σ', o') ∧ (t = 0 → o' 0 = b.toInt64) := by
  unfold fL_setWeight
  rw [h, pz_bs]
  rcases a with ⟨rfl, rfl⟩|⟨rfl, rfl⟩|⟨rfl, rfl⟩
  · exact ⟨_, rfl, fun _ => lq_o⟩
  · exact ⟨o, if_pos rfl, fun g => absurd g (by decide)⟩
  · exact ⟨o, (if_neg (by decide)).trans (if_pos rfl), fun g => absurd g (by decide)⟩
theorem z_c6 (I : pz_I n σ τ) (g1 : zz_ga xs L (i_ + 1) = some v1) (g2 : zz_ga xs L (i_ + 2) = some v2) : ∃ m S, fL_c6 xs L i_ σ τ o = some (some S) ∧ pz_I m S.1 S.2.1 := by
  obtain ⟨rc, σ', b, τ', h1, h2, J, a⟩ := t_setWeight I v1 v2
  obtain ⟨o', w, z⟩ := w_setWeight (o := o) h1 a
  refine ⟨n, (σ', τ', o'), ?_, J⟩
  unfold fL_c6
  rw [g1, pz_bs, g2, pz_bs, w, pz_bs, pz_bs, pz_bs, h2, pz_bs]
  exact lq_tail z
theorem w_setSpan {rc : Int32 ⊕ String} {b t : Int32} (h : fX7_setSpan σ v1 = some (rc, σ')) (a : pz_a1 "java/lang/IllegalArgumentException" rc b t) : ∃ o', fL_setSpan σ o v1 = some (t, σ', o') ∧ (t = 0 → o' 0 = b.toInt64) := by
  unfold fL_setSpan
  rw [h, pz_bs]
  rcases a with ⟨rfl, rfl⟩|⟨rfl, rfl⟩
  · exact ⟨_, rfl, fun _ => lq_o⟩
  · exact ⟨o, if_pos rfl, fun g => absurd g (by decide)⟩
theorem z_c7 (I : pz_I n σ τ) (g1 : zz_ga xs L (i_ + 1) = some v1) : ∃ m S, fL_c7 xs L i_ σ τ o = some (some S) ∧ pz_I m S.1 S.2.1 := by
  obtain ⟨rc, σ', b, τ', h1, h2, J, a⟩ := t_setSpan I v1
  obtain ⟨o', w, z⟩ := w_setSpan (o := o) h1 a
  refine ⟨n, (σ', τ', o'), ?_, J⟩
  unfold fL_c7
  rw [g1, pz_bs, w, pz_bs, pz_bs, h2, pz_bs]
  exact lq_tail z
theorem w_points {rc : Int32 ⊕ String} {b t : Int32} (h : fX7_points σ v1 v2 v3 = some rc) (a : pz_a2 "java/lang/IndexOutOfBoundsException" "java/lang/IllegalArgumentException" rc b t) : ∃ o', fL_points σ o v1 v2 v3 = some (t, σ, o') ∧ (t = 0 → o' 0 = b.toInt64) := by
  unfold fL_points
  rw [h, pz_bs]
  rcases a with ⟨rfl, rfl⟩|⟨rfl, rfl⟩|⟨rfl, rfl⟩
  · exact ⟨_, rfl, fun _ => lq_o⟩
  · exact ⟨o, if_pos rfl, fun g => absurd g (by decide)⟩
  · exact ⟨o, (if_neg (by decide)).trans (if_pos rfl), fun g => absurd g (by decide)⟩
theorem z_c8 (I : pz_I n σ τ) (g1 : zz_ga xs L (i_ + 1) = some v1) (g2 : zz_ga xs L (i_ + 2) = some v2) (g3 : zz_ga xs L (i_ + 3) = some v3) : ∃ m S, fL_c8 xs L i_ σ τ o = some (some S) ∧ pz_I m S.1 S.2.1 := by
  obtain ⟨rc, b, τ', h1, h2, J, a⟩ := t_points I v1 v2 v3
  obtain ⟨o', w, z⟩ := w_points (o := o) h1 a
  refine ⟨n, (σ, τ', o'), ?_, J⟩
  unfold fL_c8
  rw [g1, pz_bs, g2, pz_bs, g3, pz_bs, w, pz_bs, pz_bs, pz_bs, pz_bs, h2, pz_bs]
  exact lq_tail z
theorem w_affinity {rc : Int32 ⊕ String} {b t : Int32} (h : fX7_affinity σ v1 v2 = some rc) (a : pz_a2 "java/lang/IndexOutOfBoundsException" "java/lang/IllegalArgumentException" rc b t) : ∃ o', fL_affinity σ o v1 v2 = some (t, σ, o') ∧ (t = 0 → o' 0 = b.toInt64) := by
  unfold fL_affinity
  rw [h, pz_bs]
  rcases a with ⟨rfl, rfl⟩|⟨rfl, rfl⟩|⟨rfl, rfl⟩
  · exact ⟨_, rfl, fun _ => lq_o⟩
  · exact ⟨o, if_pos rfl, fun g => absurd g (by decide)⟩
  · exact ⟨o, (if_neg (by decide)).trans (if_pos rfl), fun g => absurd g (by decide)⟩
theorem z_c9 (I : pz_I n σ τ) (g1 : zz_ga xs L (i_ + 1) = some v1) (g2 : zz_ga xs L (i_ + 2) = some v2) : ∃ m S, fL_c9 xs L i_ σ τ o = some (some S) ∧ pz_I m S.1 S.2.1 := by
  obtain ⟨rc, b, τ', h1, h2, J, a⟩ := t_affinity I v1 v2
  obtain ⟨o', w, z⟩ := w_affinity (o := o) h1 a
  refine ⟨n, (σ, τ', o'), ?_, J⟩
  unfold fL_c9
  rw [g1, pz_bs, g2, pz_bs, w, pz_bs, pz_bs, pz_bs, h2, pz_bs]
  exact lq_tail z
theorem w_closest {rc : Int32 ⊕ String} {b t : Int32} (h : fX7_closest σ v1 = some rc) (a : pz_a1 "java/lang/IndexOutOfBoundsException" rc b t) : ∃ o', fL_closest σ o v1 = some (t, σ, o') ∧ (t = 0 → o' 0 = b.toInt64) := by
  unfold fL_closest
  rw [h, pz_bs]
  rcases a with ⟨rfl, rfl⟩|⟨rfl, rfl⟩
  · exact ⟨_, rfl, fun _ => lq_o⟩
  · exact ⟨o, if_pos rfl, fun g => absurd g (by decide)⟩
theorem z_c10 (I : pz_I n σ τ) (g1 : zz_ga xs L (i_ + 1) = some v1) : ∃ m S, fL_c10 xs L i_ σ τ o = some (some S) ∧ pz_I m S.1 S.2.1 := by
  obtain ⟨rc, b, τ', h1, h2, J, a⟩ := t_closest I v1
  obtain ⟨o', w, z⟩ := w_closest (o := o) h1 a
  refine ⟨n, (σ, τ', o'), ?_, J⟩
  unfold fL_c10
  rw [g1, pz_bs, w, pz_bs, pz_bs, h2, pz_bs]
  exact lq_tail z
theorem w_setThreshold {rc : Int32 ⊕ String} {b t : Int32} (h : fX7_setThreshold σ v1 = some (rc, σ')) (a : pz_a1 "java/lang/IllegalArgumentException" rc b t) : ∃ o', fL_setThreshold σ o v1 = some (t, σ', o') ∧ (t = 0 → o' 0 = b.toInt64) := by
  unfold fL_setThreshold
  rw [h, pz_bs]
  rcases a with ⟨rfl, rfl⟩|⟨rfl, rfl⟩
  · exact ⟨_, rfl, fun _ => lq_o⟩
  · exact ⟨o, if_pos rfl, fun g => absurd g (by decide)⟩
theorem z_c11 (I : pz_I n σ τ) (g1 : zz_ga xs L (i_ + 1) = some v1) : ∃ m S, fL_c11 xs L i_ σ τ o = some (some S) ∧ pz_I m S.1 S.2.1 := by
  obtain ⟨rc, σ', b, τ', h1, h2, J, a⟩ := t_setThreshold I v1
  obtain ⟨o', w, z⟩ := w_setThreshold (o := o) h1 a
  refine ⟨n, (σ', τ', o'), ?_, J⟩
  unfold fL_c11
  rw [g1, pz_bs, w, pz_bs, pz_bs, h2, pz_bs]
  exact lq_tail z
theorem w_setManner {rc : Int32 ⊕ String} {b t : Int32} (h : fX7_setManner σ v1 = some (rc, σ')) (a : pz_a1 "java/lang/IllegalArgumentException" rc b t) : ∃ o', fL_setManner σ o v1 = some (t, σ', o') ∧ (t = 0 → o' 0 = b.toInt64) := by
  unfold fL_setManner
  rw [h, pz_bs]
  rcases a with ⟨rfl, rfl⟩|⟨rfl, rfl⟩
  · exact ⟨_, rfl, fun _ => lq_o⟩
  · exact ⟨o, if_pos rfl, fun g => absurd g (by decide)⟩
theorem z_c12 (I : pz_I n σ τ) (g1 : zz_ga xs L (i_ + 1) = some v1) : ∃ m S, fL_c12 xs L i_ σ τ o = some (some S) ∧ pz_I m S.1 S.2.1 := by
  obtain ⟨rc, σ', b, τ', h1, h2, J, a⟩ := t_setManner I v1
  obtain ⟨o', w, z⟩ := w_setManner (o := o) h1 a
  refine ⟨n, (σ', τ', o'), ?_, J⟩
  unfold fL_c12
  rw [g1, pz_bs, w, pz_bs, pz_bs, h2, pz_bs]
  exact lq_tail z
theorem w_say {rc : Int32 ⊕ String} {b t : Int32} (h : fX7_say σ v1 v2 v3 = some (rc, σ')) (a : pz_a3 "java/lang/IndexOutOfBoundsException" "java/lang/IllegalArgumentException" "java/lang/IllegalStateException" rc b t) : ∃ o', fL_say σ o v1 v2 v3 = some (t, σ', o') ∧ (t = 0 → o' 0 = b.toInt64) := by
  unfold fL_say
  rw [h, pz_bs]
  rcases a with ⟨rfl, rfl⟩|⟨rfl, rfl⟩|⟨rfl, rfl⟩|⟨rfl, rfl⟩
  · exact ⟨_, rfl, fun _ => lq_o⟩
  · exact ⟨o, if_pos rfl, fun g => absurd g (by decide)⟩
  · exact ⟨o, (if_neg (by decide)).trans (if_pos rfl), fun g => absurd g (by decide)⟩
  · exact ⟨o, (if_neg (by decide)).trans ((if_neg (by decide)).trans (if_pos rfl)), fun g => absurd g (by decide)⟩
theorem z_c13 (I : pz_I n σ τ) (g1 : zz_ga xs L (i_ + 1) = some v1) (g2 : zz_ga xs L (i_ + 2) = some v2) (g3 : zz_ga xs L (i_ + 3) = some v3) : ∃ m S, fL_c13 xs L i_ σ τ o = some (some S) ∧ pz_I m S.1 S.2.1 := by
  obtain ⟨rc, σ', b, τ', h1, h2, J, a⟩ := t_say I v1 v2 v3
  obtain ⟨o', w, z⟩ := w_say (o := o) h1 a
  refine ⟨n, (σ', τ', o'), ?_, J⟩
  unfold fL_c13
  rw [g1, pz_bs, g2, pz_bs, g3, pz_bs, w, pz_bs, pz_bs, pz_bs, pz_bs, h2, pz_bs]
  exact lq_tail z
theorem z_c14 (I : pz_I n σ τ)  : ∃ m S, fL_c14 xs L i_ σ τ o = some (some S) ∧ pz_I m S.1 S.2.1 := by
  obtain ⟨b, σ', τ', h1, h2, J⟩ := t_groupCount I 
  refine ⟨n, (σ', τ', o), ?_, J⟩
  unfold fL_c14
  rw [h1, pz_bs, h2, pz_bs]
  exact if_pos rfl
theorem w_group {rc : Int32 ⊕ String} {b t : Int32} (h : fX7_group σ v1 = some (rc, σ')) (a : pz_a1 "java/lang/IndexOutOfBoundsException" rc b t) : ∃ o', fL_group σ o v1 = some (t, σ', o') ∧ (t = 0 → o' 0 = b.toInt64) := by
  unfold fL_group
  rw [h, pz_bs]
  rcases a with ⟨rfl, rfl⟩|⟨rfl, rfl⟩
  · exact ⟨_, rfl, fun _ => lq_o⟩
  · exact ⟨o, if_pos rfl, fun g => absurd g (by decide)⟩
theorem z_c15 (I : pz_I n σ τ) (g1 : zz_ga xs L (i_ + 1) = some v1) : ∃ m S, fL_c15 xs L i_ σ τ o = some (some S) ∧ pz_I m S.1 S.2.1 := by
  obtain ⟨rc, σ', b, τ', h1, h2, J, a⟩ := t_group I v1
  obtain ⟨o', w, z⟩ := w_group (o := o) h1 a
  refine ⟨n, (σ', τ', o'), ?_, J⟩
  unfold fL_c15
  rw [g1, pz_bs, w, pz_bs, pz_bs, h2, pz_bs]
  exact lq_tail z
theorem w_groupOf {rc : Int32 ⊕ String} {b t : Int32} (h : fX7_groupOf σ v1 = some (rc, σ')) (a : pz_a1 "java/lang/IndexOutOfBoundsException" rc b t) : ∃ o', fL_groupOf σ o v1 = some (t, σ', o') ∧ (t = 0 → o' 0 = b.toInt64) := by
  unfold fL_groupOf
  rw [h, pz_bs]
  rcases a with ⟨rfl, rfl⟩|⟨rfl, rfl⟩
  · exact ⟨_, rfl, fun _ => lq_o⟩
  · exact ⟨o, if_pos rfl, fun g => absurd g (by decide)⟩
theorem z_c16 (I : pz_I n σ τ) (g1 : zz_ga xs L (i_ + 1) = some v1) : ∃ m S, fL_c16 xs L i_ σ τ o = some (some S) ∧ pz_I m S.1 S.2.1 := by
  obtain ⟨rc, σ', b, τ', h1, h2, J, a⟩ := t_groupOf I v1
  obtain ⟨o', w, z⟩ := w_groupOf (o := o) h1 a
  refine ⟨n, (σ', τ', o'), ?_, J⟩
  unfold fL_c16
  rw [g1, pz_bs, w, pz_bs, pz_bs, h2, pz_bs]
  exact lq_tail z
theorem w_linkage {rc : Int32 ⊕ String} {b t : Int32} (h : fX7_linkage σ v1 v2 = some (rc, σ')) (a : pz_a2 "java/lang/IndexOutOfBoundsException" "java/lang/IllegalArgumentException" rc b t) : ∃ o', fL_linkage σ o v1 v2 = some (t, σ', o') ∧ (t = 0 → o' 0 = b.toInt64) := by
  unfold fL_linkage
  rw [h, pz_bs]
  rcases a with ⟨rfl, rfl⟩|⟨rfl, rfl⟩|⟨rfl, rfl⟩
  · exact ⟨_, rfl, fun _ => lq_o⟩
  · exact ⟨o, if_pos rfl, fun g => absurd g (by decide)⟩
  · exact ⟨o, (if_neg (by decide)).trans (if_pos rfl), fun g => absurd g (by decide)⟩
theorem z_c17 (I : pz_I n σ τ) (g1 : zz_ga xs L (i_ + 1) = some v1) (g2 : zz_ga xs L (i_ + 2) = some v2) : ∃ m S, fL_c17 xs L i_ σ τ o = some (some S) ∧ pz_I m S.1 S.2.1 := by
  obtain ⟨rc, σ', b, τ', h1, h2, J, a⟩ := t_linkage I v1 v2
  obtain ⟨o', w, z⟩ := w_linkage (o := o) h1 a
  refine ⟨n, (σ', τ', o'), ?_, J⟩
  unfold fL_c17
  rw [g1, pz_bs, g2, pz_bs, w, pz_bs, pz_bs, pz_bs, h2, pz_bs]
  exact lq_tail z
theorem z_c18 (I : pz_I n σ τ)  : ∃ m S, fL_c18 xs L i_ σ τ o = some (some S) ∧ pz_I m S.1 S.2.1 := by
  obtain ⟨b, σ', τ', h1, h2, J⟩ := t_lastLinkage I 
  refine ⟨n, (σ', τ', o), ?_, J⟩
  unfold fL_c18
  rw [h1, pz_bs, h2, pz_bs]
  exact if_pos rfl
theorem w_needs {rc : Int32 ⊕ String} {b t : Int32} (h : fX7_needs σ v1 v2 = some rc) (a : pz_a2 "java/lang/IndexOutOfBoundsException" "java/lang/IllegalArgumentException" rc b t) : ∃ o', fL_needs σ o v1 v2 = some (t, σ, o') ∧ (t = 0 → o' 0 = (if b = 0 then 0 else 1)) := by
  unfold fL_needs
  rw [h, pz_bs]
  rcases a with ⟨rfl, rfl⟩|⟨rfl, rfl⟩|⟨rfl, rfl⟩
  · by_cases z : b = 0
    · exact ⟨_, if_pos z, fun _ => by rw [lq_o, if_pos z]⟩
    · exact ⟨_, if_neg z, fun _ => by rw [lq_o, if_neg z]⟩
  · exact ⟨o, if_pos rfl, fun g => absurd g (by decide)⟩
  · exact ⟨o, (if_neg (by decide)).trans (if_pos rfl), fun g => absurd g (by decide)⟩
theorem z_c19 (I : pz_I n σ τ) (g1 : zz_ga xs L (i_ + 1) = some v1) (g2 : zz_ga xs L (i_ + 2) = some v2) : ∃ m S, fL_c19 xs L i_ σ τ o = some (some S) ∧ pz_I m S.1 S.2.1 := by
  obtain ⟨rc, b, τ', h1, h2, J, a, _⟩ := t_needs I v1 v2
  obtain ⟨o', w, z⟩ := w_needs (o := o) h1 a
  refine ⟨n, (σ, τ', o'), ?_, J⟩
  unfold fL_c19
  rw [g1, pz_bs, g2, pz_bs, w, pz_bs, pz_bs, pz_bs, h2, pz_bs]
  exact lq_tailb z
theorem z_c20 (I : pz_I n σ τ)  : ∃ m S, fL_c20 xs L i_ σ τ o = some (some S) ∧ pz_I m S.1 S.2.1 := by
  obtain ⟨b, σ', τ', h1, h2, J⟩ := t_parcelCount I 
  refine ⟨n, (σ', τ', o), ?_, J⟩
  unfold fL_c20
  rw [h1, pz_bs, h2, pz_bs]
  exact if_pos rfl
theorem w_parcel {rc : Int32 ⊕ String} {b t : Int32} (h : fX7_parcel σ v1 = some (rc, σ')) (a : pz_a1 "java/lang/IndexOutOfBoundsException" rc b t) : ∃ o', fL_parcel σ o v1 = some (t, σ', o') ∧ (t = 0 → o' 0 = b.toInt64) := by
  unfold fL_parcel
  rw [h, pz_bs]
  rcases a with ⟨rfl, rfl⟩|⟨rfl, rfl⟩
  · exact ⟨_, rfl, fun _ => lq_o⟩
  · exact ⟨o, if_pos rfl, fun g => absurd g (by decide)⟩
theorem z_c21 (I : pz_I n σ τ) (g1 : zz_ga xs L (i_ + 1) = some v1) : ∃ m S, fL_c21 xs L i_ σ τ o = some (some S) ∧ pz_I m S.1 S.2.1 := by
  obtain ⟨rc, σ', b, τ', h1, h2, J, a⟩ := t_parcel I v1
  obtain ⟨o', w, z⟩ := w_parcel (o := o) h1 a
  refine ⟨n, (σ', τ', o'), ?_, J⟩
  unfold fL_c21
  rw [g1, pz_bs, w, pz_bs, pz_bs, h2, pz_bs]
  exact lq_tail z
theorem w_parcelOf {rc : Int32 ⊕ String} {b t : Int32} (h : fX7_parcelOf σ v1 = some (rc, σ')) (a : pz_a1 "java/lang/IndexOutOfBoundsException" rc b t) : ∃ o', fL_parcelOf σ o v1 = some (t, σ', o') ∧ (t = 0 → o' 0 = b.toInt64) := by
  unfold fL_parcelOf
  rw [h, pz_bs]
  rcases a with ⟨rfl, rfl⟩|⟨rfl, rfl⟩
  · exact ⟨_, rfl, fun _ => lq_o⟩
  · exact ⟨o, if_pos rfl, fun g => absurd g (by decide)⟩
theorem z_c22 (I : pz_I n σ τ) (g1 : zz_ga xs L (i_ + 1) = some v1) : ∃ m S, fL_c22 xs L i_ σ τ o = some (some S) ∧ pz_I m S.1 S.2.1 := by
  obtain ⟨rc, σ', b, τ', h1, h2, J, a⟩ := t_parcelOf I v1
  obtain ⟨o', w, z⟩ := w_parcelOf (o := o) h1 a
  refine ⟨n, (σ', τ', o'), ?_, J⟩
  unfold fL_c22
  rw [g1, pz_bs, w, pz_bs, pz_bs, h2, pz_bs]
  exact lq_tail z
theorem z_c23 (I : pz_I n σ τ)  : ∃ m S, fL_c23 xs L i_ σ τ o = some (some S) ∧ pz_I m S.1 S.2.1 := by
  obtain ⟨b, σ', τ', h1, h2, J⟩ := t_knots I 
  refine ⟨n, (σ', τ', o), ?_, J⟩
  unfold fL_c23
  rw [h1, pz_bs, h2, pz_bs]
  exact if_pos rfl
theorem w_lines {rc : Int32 ⊕ String} {b t : Int32} (h : fX7_lines σ v1 = some (rc, σ')) (a : pz_a1 "java/lang/IndexOutOfBoundsException" rc b t) : ∃ o', fL_lines σ o v1 = some (t, σ', o') ∧ (t = 0 → o' 0 = b.toInt64) := by
  unfold fL_lines
  rw [h, pz_bs]
  rcases a with ⟨rfl, rfl⟩|⟨rfl, rfl⟩
  · exact ⟨_, rfl, fun _ => lq_o⟩
  · exact ⟨o, if_pos rfl, fun g => absurd g (by decide)⟩
theorem z_c24 (I : pz_I n σ τ) (g1 : zz_ga xs L (i_ + 1) = some v1) : ∃ m S, fL_c24 xs L i_ σ τ o = some (some S) ∧ pz_I m S.1 S.2.1 := by
  obtain ⟨rc, σ', b, τ', h1, h2, J, a⟩ := t_lines I v1
  obtain ⟨o', w, z⟩ := w_lines (o := o) h1 a
  refine ⟨n, (σ', τ', o'), ?_, J⟩
  unfold fL_c24
  rw [g1, pz_bs, w, pz_bs, pz_bs, h2, pz_bs]
  exact lq_tail z
theorem w_broken {rc : Int32 ⊕ String} {b t : Int32} (h : fX7_broken σ v1 = some rc) (a : pz_a1 "java/lang/IllegalArgumentException" rc b t) : ∃ o', fL_broken σ o v1 = some (t, σ, o') ∧ (t = 0 → o' 0 = b.toInt64) := by
  unfold fL_broken
  rw [h, pz_bs]
  rcases a with ⟨rfl, rfl⟩|⟨rfl, rfl⟩
  · exact ⟨_, rfl, fun _ => lq_o⟩
  · exact ⟨o, if_pos rfl, fun g => absurd g (by decide)⟩
theorem z_c25 (I : pz_I n σ τ) (g1 : zz_ga xs L (i_ + 1) = some v1) : ∃ m S, fL_c25 xs L i_ σ τ o = some (some S) ∧ pz_I m S.1 S.2.1 := by
  obtain ⟨rc, b, τ', h1, h2, J, a⟩ := t_broken I v1
  obtain ⟨o', w, z⟩ := w_broken (o := o) h1 a
  refine ⟨n, (σ, τ', o'), ?_, J⟩
  unfold fL_c25
  rw [g1, pz_bs, w, pz_bs, pz_bs, h2, pz_bs]
  exact lq_tail z
theorem z_c26 (I : pz_I n σ τ)  : ∃ m S, fL_c26 xs L i_ σ τ o = some (some S) ∧ pz_I m S.1 S.2.1 := by
  obtain ⟨b, σ', τ', h1, h2, J⟩ := t_breakage I 
  refine ⟨n, (σ', τ', o), ?_, J⟩
  unfold fL_c26
  rw [h1, pz_bs, h2, pz_bs]
  exact if_pos rfl
theorem w_leastBreakage {rc : Int32 ⊕ String} {b t : Int32} (h : fX7_leastBreakage σ  = some (rc, σ')) (a : pz_a1 "java/lang/IllegalStateException" rc b t) : ∃ o', fL_leastBreakage σ o  = some (t, σ', o') ∧ (t = 0 → o' 0 = b.toInt64) := by
  unfold fL_leastBreakage
  rw [h, pz_bs]
  rcases a with ⟨rfl, rfl⟩|⟨rfl, rfl⟩
  · exact ⟨_, rfl, fun _ => lq_o⟩
  · exact ⟨o, if_pos rfl, fun g => absurd g (by decide)⟩
theorem z_c27 (I : pz_I n σ τ)  : ∃ m S, fL_c27 xs L i_ σ τ o = some (some S) ∧ pz_I m S.1 S.2.1 := by
  obtain ⟨rc, σ', b, τ', h1, h2, J, a⟩ := t_leastBreakage I 
  obtain ⟨o', w, z⟩ := w_leastBreakage (o := o) h1 a
  refine ⟨n, (σ', τ', o'), ?_, J⟩
  unfold fL_c27
  rw [w, pz_bs, h2, pz_bs]
  exact lq_tail z
theorem w_best {rc : Int32 ⊕ String} {b t : Int32} (h : fX7_best σ v1 = some (rc, σ')) (a : pz_a2 "java/lang/IllegalStateException" "java/lang/IndexOutOfBoundsException" rc b t) : ∃ o', fL_best σ o v1 = some (t, σ', o') ∧ (t = 0 → o' 0 = b.toInt64) := by
  unfold fL_best
  rw [h, pz_bs]
  rcases a with ⟨rfl, rfl⟩|⟨rfl, rfl⟩|⟨rfl, rfl⟩
  · exact ⟨_, rfl, fun _ => lq_o⟩
  · exact ⟨o, if_pos rfl, fun g => absurd g (by decide)⟩
  · exact ⟨o, (if_neg (by decide)).trans (if_pos rfl), fun g => absurd g (by decide)⟩
theorem z_c28 (I : pz_I n σ τ) (g1 : zz_ga xs L (i_ + 1) = some v1) : ∃ m S, fL_c28 xs L i_ σ τ o = some (some S) ∧ pz_I m S.1 S.2.1 := by
  obtain ⟨rc, σ', b, τ', h1, h2, J, a⟩ := t_best I v1
  obtain ⟨o', w, z⟩ := w_best (o := o) h1 a
  refine ⟨n, (σ', τ', o'), ?_, J⟩
  unfold fL_c28
  rw [g1, pz_bs, w, pz_bs, pz_bs, h2, pz_bs]
  exact lq_tail z
theorem w_setPurpose {rc : Int32 ⊕ String} {b t : Int32} (h : fX7_setPurpose σ v1 v2 = some (rc, σ')) (a : pz_a2 "java/lang/IndexOutOfBoundsException" "java/lang/IllegalArgumentException" rc b t) : ∃ o', fL_setPurpose σ o v1 v2 = some (t, σ', o') ∧ (t = 0 → o' 0 = b.toInt64) := by
  unfold fL_setPurpose
  rw [h, pz_bs]
  rcases a with ⟨rfl, rfl⟩|⟨rfl, rfl⟩|⟨rfl, rfl⟩
  · exact ⟨_, rfl, fun _ => lq_o⟩
  · exact ⟨o, if_pos rfl, fun g => absurd g (by decide)⟩
  · exact ⟨o, (if_neg (by decide)).trans (if_pos rfl), fun g => absurd g (by decide)⟩
theorem z_c29 (I : pz_I n σ τ) (g1 : zz_ga xs L (i_ + 1) = some v1) (g2 : zz_ga xs L (i_ + 2) = some v2) : ∃ m S, fL_c29 xs L i_ σ τ o = some (some S) ∧ pz_I m S.1 S.2.1 := by
  obtain ⟨rc, σ', b, τ', h1, h2, J, a⟩ := t_setPurpose I v1 v2
  obtain ⟨o', w, z⟩ := w_setPurpose (o := o) h1 a
  refine ⟨n, (σ', τ', o'), ?_, J⟩
  unfold fL_c29
  rw [g1, pz_bs, g2, pz_bs, w, pz_bs, pz_bs, pz_bs, h2, pz_bs]
  exact lq_tail z
theorem z_c30 (I : pz_I n σ τ)  : ∃ m S, fL_c30 xs L i_ σ τ o = some (some S) ∧ pz_I m S.1 S.2.1 := by
  obtain ⟨b, σ', τ', h1, h2, J⟩ := t_agreement I 
  refine ⟨n, (σ', τ', o), ?_, J⟩
  unfold fL_c30
  rw [h1, pz_bs, h2, pz_bs]
  dsimp only
  by_cases z : Op.cmpValue (FP.dcmp b b) .l = 0
  · simp only [pz_bs, if_pos z]; rfl
  · simp only [pz_bs, if_neg z]; rfl
theorem z_c31 (I : pz_I n σ τ)  : ∃ m S, fL_c31 xs L i_ σ τ o = some (some S) ∧ pz_I m S.1 S.2.1 := by
  obtain ⟨b, σ', τ', h1, h2, J⟩ := t_digest I 
  refine ⟨n, (σ', τ', o), ?_, J⟩
  unfold fL_c31
  rw [h1, pz_bs, h2, pz_bs]
  show ((some (lg_cmp b b)).bind _) = _
  rw [lq_cmp]; rfl
end CASES
