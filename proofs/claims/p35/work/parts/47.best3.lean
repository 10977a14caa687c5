/-! pure part: leastBreakage, best, agreement -/
section BQ
variable {n : Nat} {σ σ' τ τ' : zz_St}
/-! agreement -/
def pz_sum (g : Nat → Nat) : Nat → Nat
  | 0 => 0
  | n + 1 => pz_sum g n + g n
theorem psum_cong {g g' : Nat → Nat} : ∀ {n : Nat}, (∀ k, k < n → g k = g' k) → pz_sum g n = pz_sum g' n
  | 0, _ => rfl
  | n + 1, h => by rw [pz_sum, pz_sum, psum_cong (fun k hk => h k (by omega)), h n (by omega)]
theorem psum_add (g g' : Nat → Nat) : ∀ n, pz_sum (fun k => g k + g' k) n = pz_sum g n + pz_sum g' n
  | 0 => rfl
  | n + 1 => by rw [pz_sum, pz_sum, pz_sum, psum_add g g' n]; omega
theorem psum_0 : ∀ n, pz_sum (fun _ => 0) n = 0
  | 0 => rfl
  | n + 1 => by rw [pz_sum, psum_0 n]
theorem psum_swap (g : Nat → Nat → Nat) (m : Nat) : ∀ n, pz_sum (fun a => pz_sum (fun b => g a b) m) n = pz_sum (fun b => pz_sum (fun a => g a b) n) m
  | 0 => (psum_0 m).symm
  | n + 1 => by
    rw [pz_sum, psum_swap g m n, ← psum_add]
    rfl
theorem psum_gap {g : Nat → Nat} {a : Nat} : ∀ b, a ≤ b → (∀ j, a ≤ j → j < b → g j = 0) → pz_sum g b = pz_sum g a
  | 0, h, _ => by rw [show a = 0 by omega]
  | b + 1, h, z => by
    by_cases c : a = b + 1
    · rw [c]
    · rw [pz_sum, z b (by omega) (by omega), psum_gap b (by omega) (fun j h1 h2 => z j h1 (by omega)), Nat.add_zero]
end BQ

