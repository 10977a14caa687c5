/-! pure part: first place, closure, counts, folds -/
def pz_f (P : Nat → Bool) : Nat → Nat
  | 0 => 0
  | n + 1 => if pz_f P n < n then pz_f P n else if P n = true then n else n + 1
theorem pf1 (P : Nat → Bool) : ∀ n, pz_f P n ≤ n
  | 0 => Nat.le_refl 0
  | n + 1 => by
    rw [pz_f]
    have := pf1 P n
    split
    · omega
    · split <;> omega
theorem pf2 (P : Nat → Bool) : ∀ n k, k < pz_f P n → P k = false
  | 0, k, h => by rw [pz_f] at h; omega
  | n + 1, k, h => by
    rw [pz_f] at h
    have h1 := pf1 P n
    by_cases g : pz_f P n < n
    · rw [if_pos g] at h; exact pf2 P n k h
    · rw [if_neg g] at h
      have e : pz_f P n = n := by omega
      by_cases g2 : P n = true
      · rw [if_pos g2] at h; exact pf2 P n k (by omega)
      · rw [if_neg g2] at h
        by_cases g3 : k = n
        · subst g3; exact Bool.eq_false_iff.mpr g2
        · exact pf2 P n k (by omega)
theorem pf3 (P : Nat → Bool) : ∀ n, pz_f P n < n → P (pz_f P n) = true
  | 0, h => by omega
  | n + 1, h => by
    rw [pz_f] at h ⊢
    have h1 := pf1 P n
    by_cases g : pz_f P n < n
    · rw [if_pos g]; exact pf3 P n g
    · rw [if_neg g] at h ⊢
      by_cases g2 : P n = true
      · rw [if_pos g2]; exact g2
      · rw [if_neg g2] at h; omega
theorem pf_le {P : Nat → Bool} {n k : Nat} (h : P k = true) : pz_f P n ≤ k := by
  rcases Nat.lt_or_ge k (pz_f P n) with g | g
  · rw [pf2 P n k g] at h; cases h
  · exact g
theorem pf_is {P : Nat → Bool} {n i : Nat} (hi : i ≤ n) (h : ∀ k, k < i → P k = false) (h2 : i < n → P i = true) : pz_f P n = i := by
  have h1 := pf1 P n
  rcases Nat.lt_or_ge (pz_f P n) i with g | g
  · have := h _ g
    rw [pf3 P n (by omega)] at this; cases this
  · rcases Nat.lt_or_ge i n with g2 | g2
    · have := pf_le (n := n) (h2 g2); omega
    · omega
def pz_ex (P : Nat → Bool) (n : Nat) : Bool := decide (pz_f P n < n)
theorem pex {P : Nat → Bool} {n : Nat} : pz_ex P n = true ↔ ∃ k, k < n ∧ P k = true := by
  unfold pz_ex
  rw [decide_eq_true_iff]
  constructor
  · intro h; exact ⟨_, h, pf3 P n h⟩
  · rintro ⟨k, hk, h⟩
    have := pf_le (n := n) h
    omega
theorem pex_f {P : Nat → Bool} {n : Nat} : pz_ex P n = false ↔ ∀ k, k < n → P k = false := by
  rw [← Bool.not_eq_true, pex]
  constructor
  · intro h k hk
    exact Bool.eq_false_iff.mpr fun g => h ⟨k, hk, g⟩
  · rintro h ⟨k, hk, g⟩
    rw [h k hk] at g; cases g
theorem pc_lt {P P' : Nat → Bool} : ∀ {n : Nat}, (∀ k, k < n → P k = true → P' k = true) → (∃ k, k < n ∧ P' k = true ∧ P k = false) → pz_ct P n < pz_ct P' n
  | 0, _, h => by obtain ⟨k, hk, _⟩ := h; omega
  | n + 1, h, h2 => by
    rw [pz_ct, pz_ct]
    obtain ⟨k, hk, a, b⟩ := h2
    have hle : pz_ct P n ≤ pz_ct P' n := pc_sub n (fun k hk => h k (by omega))
    by_cases g : k = n
    · subst g
      rw [if_pos a, b]
      simp only [Bool.false_eq_true, if_false]
      omega
    · have := pc_lt (n := n) (fun k hk => h k (by omega)) ⟨k, by omega, a, b⟩
      by_cases c : P n = true
      · rw [if_pos c, if_pos (h n (by omega) c)]; omega
      · rw [if_neg c]; omega
where pc_sub {P P' : Nat → Bool} : ∀ n : Nat, (∀ k, k < n → P k = true → P' k = true) → pz_ct P n ≤ pz_ct P' n
  | 0, _ => Nat.le_refl 0
  | n + 1, h => by
    rw [pz_ct, pz_ct]
    have := pc_sub n (fun k hk => h k (by omega))
    by_cases c : P n = true
    · rw [if_pos c, if_pos (h n (by omega) c)]; omega
    · rw [if_neg c]; omega
theorem pc_dec {P P' : Nat → Bool} {x : Nat} : ∀ {n : Nat}, x < n → P' x = true → P x = false → (∀ k, k < n → k ≠ x → P k = P' k) → pz_ct P n + 1 = pz_ct P' n
  | 0, h, _, _, _ => by omega
  | n + 1, h, a, b, c => by
    rw [pz_ct, pz_ct]
    by_cases g : x = n
    · subst g
      rw [a, b, pc_cong (fun k hk => c k (by omega) (by omega))]
      simp
    · have := pc_dec (n := n) (by omega) a b (fun k hk => c k (by omega))
      rw [c n (by omega) (by omega)]
      omega
theorem pc_0 {P : Nat → Bool} : ∀ {n : Nat}, pz_ct P n = 0 ↔ ∀ k, k < n → P k = false
  | 0 => ⟨fun _ k hk => by omega, fun _ => rfl⟩
  | n + 1 => by
    rw [pz_ct]
    have ih := pc_0 (P := P) (n := n)
    constructor
    · intro h k hk
      by_cases g : P n = true
      · rw [if_pos g] at h; omega
      · rw [if_neg g] at h
        by_cases e : k = n
        · subst e; exact Bool.eq_false_iff.mpr g
        · exact ih.mp (by omega) k (by omega)
    · intro h
      rw [h n (by omega), ih.mpr fun k hk => h k (by omega)]
      rfl
/-- closure -/
def pz_W (E : Nat → Nat → Bool) : Nat → Nat → Nat → Bool
  | 0, a, b => E a b
  | k + 1, a, b => pz_W E k a b || (pz_W E k a k && pz_W E k k b)
theorem pw_s {E : Nat → Nat → Bool} {k a b : Nat} : pz_W E (k + 1) a b = true ↔ pz_W E k a b = true ∨ (pz_W E k a k = true ∧ pz_W E k k b = true) := by
  rw [pz_W, Bool.or_eq_true, Bool.and_eq_true]
theorem pw_in {E : Nat → Nat → Bool} {a b : Nat} (h : E a b = true) : ∀ k, pz_W E k a b = true
  | 0 => h
  | k + 1 => pw_s.mpr (Or.inl (pw_in h k))
theorem pw_tr (E : Nat → Nat → Bool) : ∀ k w, w < k → ∀ a b, pz_W E k a w = true → pz_W E k w b = true → pz_W E k a b = true
  | 0, w, h, _, _, _, _ => by omega
  | k + 1, w, hw, a, b, h1, h2 => by
    have ih := pw_tr E k
    rw [pw_s] at h1 h2 ⊢
    by_cases g : w = k
    · subst g
      have h1' : pz_W E w a w = true := h1.elim id (fun h => h.1)
      have h2' : pz_W E w w b = true := h2.elim id (fun h => h.2)
      exact Or.inr ⟨h1', h2'⟩
    · have hw' : w < k := by omega
      rcases h1 with h1 | ⟨h1, h1'⟩
      · rcases h2 with h2 | ⟨h2, h2'⟩
        · exact Or.inl (ih w hw' a b h1 h2)
        · exact Or.inr ⟨ih w hw' a k h1 h2, h2'⟩
      · rcases h2 with h2 | ⟨h2, h2'⟩
        · exact Or.inr ⟨h1, ih w hw' k b h1' h2⟩
        · exact Or.inr ⟨h1, h2'⟩
theorem pw_min {E : Nat → Nat → Bool} {T : Nat → Nat → Prop} (hT : ∀ a b c, T a b → T b c → T a c) (hE : ∀ a b, E a b = true → T a b) : ∀ k a b, pz_W E k a b = true → T a b
  | 0, a, b, h => hE a b h
  | k + 1, a, b, h => by
    rcases pw_s.mp h with h | ⟨h, h'⟩
    · exact pw_min hT hE k a b h
    · exact hT a k b (pw_min hT hE k a k h) (pw_min hT hE k k b h')
theorem pw_row (E : Nat → Nat → Bool) (k b : Nat) : pz_W E (k + 1) k b = pz_W E k k b := by
  rw [pz_W]; cases pz_W E k k b <;> cases pz_W E k k k <;> rfl
/-- folds -/
def pz_fd {A : Type} (F : Nat → A → A) (x : A) : Nat → A
  | 0 => x
  | k + 1 => F k (pz_fd F x k)
theorem pd_skip {A : Type} {F : Nat → A → A} {x : A} {m : Nat} : ∀ n, m ≤ n → (∀ k, m ≤ k → k < n → ∀ y, F k y = y) → pz_fd F x n = pz_fd F x m
  | 0, h, _ => by rw [show m = 0 by omega]
  | n + 1, h, g => by
    by_cases e : m = n + 1
    · rw [e]
    · rw [pz_fd, g n (by omega) (by omega), pd_skip n (by omega) (fun k h1 h2 => g k h1 (by omega))]
theorem pd_cong {A : Type} {F F' : Nat → A → A} {x : A} : ∀ n, (∀ k, k < n → ∀ y, F k y = F' k y) → pz_fd F x n = pz_fd F' x n
  | 0, _ => rfl
  | n + 1, h => by rw [pz_fd, pz_fd, h n (by omega), pd_cong n (fun k hk => h k (by omega))]
theorem pd_inv {A : Type} {F : Nat → A → A} {x : A} (I : Nat → A → Prop) (h0 : I 0 x) : ∀ n, (∀ k y, k < n → I k y → I (k + 1) (F k y)) → I n (pz_fd F x n)
  | 0, _ => h0
  | n + 1, h => h n _ (by omega) (pd_inv I h0 n (fun k y hk => h k y (by omega)))
/-- in the closure of what must be together -/
def pz_E0 (n : Nat) (mu : Nat → Nat → Bool) (a b : Nat) : Bool := decide (a < n) && decide (b < n) && (decide (a = b) || mu a b)
theorem pe0 {n : Nat} {mu : Nat → Nat → Bool} {a b : Nat} : pz_E0 n mu a b = true ↔ a < n ∧ b < n ∧ (a = b ∨ mu a b = true) := by
  unfold pz_E0
  simp only [Bool.and_eq_true, Bool.or_eq_true, decide_eq_true_iff]
  constructor
  · rintro ⟨⟨a, b⟩, c⟩; exact ⟨a, b, c⟩
  · rintro ⟨a, b, c⟩; exact ⟨⟨a, b⟩, c⟩
/-- a closure over the first n that is reflexive there and lies there -/
def pz_eq (n : Nat) (C : Nat → Nat → Bool) : Prop := (∀ a, a < n → C a a = true) ∧ (∀ a b, C a b = true → a < n ∧ b < n) ∧ (∀ a b c, C a b = true → C b c = true → C a c = true)
theorem pw_eq {n : Nat} {E : Nat → Nat → Bool} (h1 : ∀ a, a < n → E a a = true) (h2 : ∀ a b, E a b = true → a < n ∧ b < n) : pz_eq n (pz_W E n) := by
  have hin : ∀ a b, pz_W E n a b = true → a < n ∧ b < n := pw_min (T := fun a b => a < n ∧ b < n) (fun a b c x y => ⟨x.1, y.2⟩) h2 n
  exact ⟨fun a ha => pw_in (h1 a ha) n, hin, fun a b c x y => pw_tr E n b (hin a b x).2 a c x y⟩
def pz_C (n : Nat) (mu : Nat → Nat → Bool) : Nat → Nat → Bool := pz_W (pz_E0 n mu) n
theorem pC_eq (n : Nat) (mu : Nat → Nat → Bool) : pz_eq n (pz_C n mu) := pw_eq (fun a ha => pe0.mpr ⟨ha, ha, Or.inl rfl⟩) (fun a b h => ⟨(pe0.mp h).1, (pe0.mp h).2.1⟩)
theorem pC_sy {n : Nat} {mu : Nat → Nat → Bool} (hs : ∀ a b, a < n → b < n → mu a b = mu b a) {a b : Nat} (h : pz_C n mu a b = true) : pz_C n mu b a = true := by
  refine pw_min (E := pz_E0 n mu) (T := fun a b => pz_C n mu b a = true) (fun a b c x y => (pC_eq n mu).2.2 c b a y x) (fun a b h => ?_) n a b h
  obtain ⟨ha, hb, h⟩ := pe0.mp h
  refine pw_in (pe0.mpr ⟨hb, ha, ?_⟩) n
  rcases h with h | h
  · exact Or.inl h.symm
  · exact Or.inr (by rw [← hs a b ha hb]; exact h)
/-- the smallest of those that are both ways joined to p -/
def pz_lo (C : Nat → Nat → Bool) (p : Nat) : Nat := pz_f (fun q => C p q && C q p) p
theorem pl_le (C : Nat → Nat → Bool) (p : Nat) : pz_lo C p ≤ p := pf1 _ _
theorem pl_in {n : Nat} {C : Nat → Nat → Bool} (h : pz_eq n C) {p : Nat} (hp : p < n) : C p (pz_lo C p) = true ∧ C (pz_lo C p) p = true := by
  rcases Nat.lt_or_ge (pz_lo C p) p with g | g
  · have := pf3 (fun q => C p q && C q p) p g
    rw [Bool.and_eq_true] at this
    exact this
  · have := pl_le C p
    rw [show pz_lo C p = p by omega]
    exact ⟨h.1 p hp, h.1 p hp⟩
theorem pl_min {C : Nat → Nat → Bool} {p q : Nat} (h1 : C p q = true) (h2 : C q p = true) : pz_lo C p ≤ q := pf_le (by rw [h1, h2]; rfl)
theorem pl_iff {n : Nat} {C : Nat → Nat → Bool} (h : pz_eq n C) {p q : Nat} (hp : p < n) (hq : q < n) : pz_lo C p = pz_lo C q ↔ C p q = true ∧ C q p = true := by
  have a := pl_in h hp
  have b := pl_in h hq
  constructor
  · intro e
    rw [← e] at b
    exact ⟨h.2.2 _ _ _ a.1 b.2, h.2.2 _ _ _ b.1 a.2⟩
  · rintro ⟨x, y⟩
    have := pl_min (C := C) (h.2.2 _ _ _ x b.1) (h.2.2 _ _ _ b.2 y)
    have := pl_min (C := C) (h.2.2 _ _ _ y a.1) (h.2.2 _ _ _ a.2 x)
    omega
theorem pl_lo {n : Nat} {C : Nat → Nat → Bool} (h : pz_eq n C) {p : Nat} (hp : p < n) : pz_lo C (pz_lo C p) = pz_lo C p := by
  have a := pl_in h hp
  have := (h.2.1 _ _ a.1).2
  exact ((pl_iff h this hp).mpr ⟨a.2, a.1⟩)
def pz_h0 (n : Nat) (mu : Nat → Nat → Bool) : Nat → Nat := pz_lo (pz_C n mu)
/-- heads -/
def pz_Hd (n : Nat) (h : Nat → Nat) : Prop := ∀ p, p < n → h p ≤ p ∧ h (h p) = h p
theorem ph0 (n : Nat) (mu : Nat → Nat → Bool) : pz_Hd n (pz_h0 n mu) := fun _ hp => ⟨pl_le _ _, pl_lo (pC_eq n mu) hp⟩
def pz_J (h : Nat → Nat) (x y : Nat) : Nat → Nat := fun p => if h p = max x y then min x y else h p
theorem pJ_Hd {n : Nat} {h : Nat → Nat} (hh : pz_Hd n h) {x y : Nat} (hx : h x = x) (hy : h y = y) (hxy : x ≠ y) : pz_Hd n (pz_J h x y) := by
  intro p hp
  obtain ⟨a, b⟩ := hh p hp
  unfold pz_J
  by_cases g : h p = max x y
  · rw [if_pos g]
    have e : h (min x y) = min x y := (Nat.le_total x y).elim (fun q => by rw [Nat.min_eq_left q, hx]) (fun q => by rw [Nat.min_eq_right q, hy])
    refine ⟨by omega, ?_⟩
    rw [e, if_neg (by omega)]
  · rw [if_neg g, b, if_neg g]
    exact ⟨a, rfl⟩
/-- how many heads -/
def pz_hc (n : Nat) (h : Nat → Nat) : Nat := pz_ct (fun p => decide (h p = p)) n
theorem pJ_hc {n : Nat} {h : Nat → Nat} (hh : pz_Hd n h) {x y : Nat} (hx : h x = x) (hy : h y = y) (hxy : x < y) (hyn : y < n) : pz_hc n (pz_J h x y) + 1 = pz_hc n h := by
  unfold pz_hc
  refine pc_dec (x := y) hyn (by rw [hy]; exact decide_eq_true rfl) ?_ ?_
  · refine decide_eq_false ?_
    unfold pz_J
    rw [hy, if_pos (by omega)]
    omega
  · intro k hk hne
    unfold pz_J
    by_cases g : h k = max x y
    · rw [if_pos g, decide_eq_false (by have := hh k hk; omega), decide_eq_false (by omega)]
    · rw [if_neg g]
/-- the pieces of a group -/
def pz_G (n : Nat) (h : Nat → Nat) (f a : Nat) : Bool := decide (a < n) && decide (h a = f)
theorem pG {n : Nat} {h : Nat → Nat} {f a : Nat} : pz_G n h f a = true ↔ a < n ∧ h a = f := by unfold pz_G; rw [Bool.and_eq_true, decide_eq_true_iff, decide_eq_true_iff]
/-- over the pairs of two groups -/
def pz_pp {A : Type} (c : Nat → Nat → Bool) (u : Nat → Nat → A → A) (N : Nat) (x : A) : A := pz_fd (fun a => fun y => pz_fd (fun b z => if c a b = true then u a b z else z) y N) x N
def pz_c2 (n : Nat) (h : Nat → Nat) (f s a b : Nat) : Bool := pz_G n h f a && pz_G n h s b
def pz_mx (n : Nat) (af : Nat → Nat → Nat) (h : Nat → Nat) (f s : Nat) : Nat := pz_pp (pz_c2 n h f s) (fun a b m => max m (af a b)) 14 0
def pz_mi (n : Nat) (af : Nat → Nat → Nat) (h : Nat → Nat) (f s : Nat) : Nat := pz_pp (pz_c2 n h f s) (fun a b m => min m (af a b)) 14 1000000
def pz_sm (n : Nat) (af : Nat → Nat → Nat) (h : Nat → Nat) (f s : Nat) : Nat := pz_pp (pz_c2 n h f s) (fun a b m => m + af a b) 14 0
def pz_mn (n : Nat) (h : Nat → Nat) (f s : Nat) : Nat := pz_pp (pz_c2 n h f s) (fun _ _ m => m + 1) 14 0
/-- linkage, of groups with pieces -/
def pz_lk (n : Nat) (af : Nat → Nat → Nat) (ma : Nat) (h : Nat → Nat) (f s : Nat) : Nat := if ma = 1 then pz_sm n af h f s / pz_mn n h f s else if ma = 0 then pz_mx n af h f s else pz_mi n af h f s
def pz_bar (n : Nat) (no : Nat → Nat → Bool) (h : Nat → Nat) (f s : Nat) : Bool := pz_ex (fun a => pz_G n h f a && pz_ex (fun b => pz_G n h s b && no a b) 14) 14
/-- one step of looking for the nearest two groups: first, second, linkage -/
def pz_st (n : Nat) (no : Nat → Nat → Bool) (af : Nat → Nat → Nat) (ma : Nat) (h : Nat → Nat) (f s : Nat) (x : Nat × Nat × Nat) : Nat × Nat × Nat :=
  if f < s ∧ h f = f ∧ h s = s ∧ pz_bar n no h f s = false ∧ x.2.2 < pz_lk n af ma h f s then (f, s, pz_lk n af ma h f s) else x
def pz_near (n : Nat) (no : Nat → Nat → Bool) (af : Nat → Nat → Nat) (ma th : Nat) (h : Nat → Nat) : Nat × Nat × Nat := pz_fd (fun f x => pz_fd (fun s y => pz_st n no af ma h f s y) x n) (0, 0, th - 1) n
def pz_mk (n : Nat) (no : Nat → Nat → Bool) (af : Nat → Nat → Nat) (ma th : Nat) : Nat → (Nat → Nat) → Int32 → (Nat → Nat) × Int32
  | 0, h, l => (h, l)
  | k + 1, h, l => if (pz_near n no af ma th h).2.2 < th then (h, l) else pz_mk n no af ma th k (pz_J h (pz_near n no af ma th h).1 (pz_near n no af ma th h).2.1) (nI (pz_near n no af ma th h).2.2)
/-- what the nearest two groups are, where there are any -/
theorem pn_ok (n : Nat) (no : Nat → Nat → Bool) (af : Nat → Nat → Nat) (ma th : Nat) (hth : 1 ≤ th) (h : Nat → Nat) : ((pz_near n no af ma th h).2.2 = th - 1) ∨ (th ≤ (pz_near n no af ma th h).2.2 ∧ (pz_near n no af ma th h).1 < (pz_near n no af ma th h).2.1 ∧ (pz_near n no af ma th h).2.1 < n ∧ h (pz_near n no af ma th h).1 = (pz_near n no af ma th h).1 ∧ h (pz_near n no af ma th h).2.1 = (pz_near n no af ma th h).2.1) := by
  let I : Nat × Nat × Nat → Prop := fun x => x.2.2 = th - 1 ∨ (th ≤ x.2.2 ∧ x.1 < x.2.1 ∧ x.2.1 < n ∧ h x.1 = x.1 ∧ h x.2.1 = x.2.1)
  show I (pz_near n no af ma th h)
  unfold pz_near
  refine pd_inv (fun _ x => I x) (Or.inl rfl) n fun f x hf hx => ?_
  refine pd_inv (fun _ x => I x) hx n fun s y hs hy => ?_
  unfold pz_st
  split
  · next g =>
    refine Or.inr ⟨?_, g.1, hs, g.2.1, g.2.2.1⟩
    rcases hy with hy | hy
    · have := g.2.2.2.2; show th ≤ pz_lk n af ma h f s; omega
    · have := g.2.2.2.2; show th ≤ pz_lk n af ma h f s; omega
  · exact hy
theorem pmk_Hd {n : Nat} {no : Nat → Nat → Bool} {af : Nat → Nat → Nat} {ma th : Nat} (hth : 1 ≤ th) : ∀ (k : Nat) (h : Nat → Nat) (l : Int32), pz_Hd n h → pz_Hd n (pz_mk n no af ma th k h l).1
  | 0, h, l, hh => hh
  | k + 1, h, l, hh => by
    rw [pz_mk]
    split
    · exact hh
    · next g =>
      rcases pn_ok n no af ma th hth h with q | ⟨_, q1, q2, q3, q4⟩
      · omega
      · exact pmk_Hd hth k _ _ (pJ_Hd hh q3 q4 (by omega))
/-- the heads in their order: e i is the i-th, e k is n -/
def pz_En (n : Nat) (h : Nat → Nat) (k : Nat) (e : Nat → Nat) : Prop := (∀ i, i < k → e i < n ∧ h (e i) = e i) ∧ (∀ i j, i < j → j ≤ k → e i < e j) ∧ e k = n ∧ (∀ p, p < n → h p = p → ∃ i, i < k ∧ e i = p)
theorem pEn_gap {n : Nat} {h : Nat → Nat} {k : Nat} {e : Nat → Nat} (E : pz_En n h k e) {i p : Nat} (h1 : e i < p) (hi : i < k) (h2 : p < e (i + 1)) : h p ≠ p := by
  intro g
  obtain ⟨E1, E2, E3, E4⟩ := E
  have hn : e (i + 1) ≤ n := by
    by_cases c : i + 1 = k
    · rw [c]; omega
    · have := E2 (i + 1) k (by omega) (by omega); omega
  obtain ⟨j, hj, ej⟩ := E4 p (by omega) g
  rcases Nat.lt_or_ge j (i + 1) with c | c
  · have : e j ≤ e i := by
      by_cases d : j = i
      · rw [d]; omega
      · have := E2 j i (by omega) (by omega); omega
    omega
  · have : e (i + 1) ≤ e j := by
      by_cases d : j = i + 1
      · rw [d]; omega
      · have := E2 (i + 1) j (by omega) (by omega); omega
    omega
theorem pEn_low {n : Nat} {h : Nat → Nat} {k : Nat} {e : Nat → Nat} (E : pz_En n h k e) {p : Nat} (h2 : p < e 0) : h p ≠ p := by
  intro g
  obtain ⟨E1, E2, E3, E4⟩ := E
  have hn : e 0 ≤ n := by
    by_cases c : 0 = k
    · rw [c]; omega
    · have := E2 0 k (by omega) (by omega); omega
  obtain ⟨j, hj, ej⟩ := E4 p (by omega) g
  by_cases d : j = 0
  · rw [d] at ej; omega
  · have := E2 0 j (by omega) (by omega); omega
theorem pEn_inj {n : Nat} {h : Nat → Nat} {k : Nat} {e : Nat → Nat} (E : pz_En n h k e) {i j : Nat} (hi : i ≤ k) (hj : j ≤ k) (q : e i = e j) : i = j := by
  rcases Nat.lt_trichotomy i j with c | c | c
  · have := E.2.1 i j c hj; omega
  · exact c
  · have := E.2.1 j i c hi; omega

