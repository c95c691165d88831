/-! NOTES WEIGHED (the class) -/
/-- what is struck once the last t of K have been weighed -/
def skJ (N : Nat → Nat → Nat) (K : Nat) : Nat → Nat → Bool
  | 0 => fun _ => false
  | t + 1 => fun x => if N 1 (K - 1 - t) = 0 ∧ skJ N K t (K - 1 - t) = false ∧ x = N 3 (K - 1 - t) then true else skJ N K t x
/-- what is struck of those known -/
def skN (N : Nat → Nat → Nat) : Nat → Bool := skJ N (knM N) (knM N)
def ctN (N : Nat → Nat → Nat) (i : Nat) : Bool := !(N 1 i == 0) && !skN N i
theorem knM_le {N : Nat → Nat → Nat} {mi : Nat → Nat → Int32} (h : CN N mi) : knM N ≤ N 0 0 := by
  obtain ⟨_, _, _, h, _⟩ := h
  unfold knM
  split <;> omega
section
variable {d : Nat} {Q : Option Value → Mm → Prop} {T S : Nat → Nat → Nat} {mi : Nat → Nat → Int32} {ml : Nat → Nat → Int64} {rd : Option Nat} {N : Nat → Nat → Nat}
theorem CN.fr {mi' : Nat → Nat → Int32} (h : CN N mi) (hf : ∀ c, 78 ≤ c → c ≤ 82 → mi' c = mi c) : CN N mi' := by
  unfold CN at h ⊢
  rw [hf 78 (by omega) (by omega), hf 79 (by omega) (by omega), hf 80 (by omega) (by omega), hf 81 (by omega) (by omega), hf 82 (by omega) (by omega)]
  exact h
end
