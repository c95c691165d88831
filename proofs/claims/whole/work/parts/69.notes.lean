/-! NOTES (the class): N 0: written, known and 1 (0: all); N 1 hill and 1 (0: a strike), N 2 field, N 3 letter or what is struck -/
def CN (N : Nat → Nat → Nat) (mi : Nat → Nat → Int32) : Prop := mi 78 0 = nI (N 0 0) ∧ mi 78 1 = nI (N 0 1) - 1 ∧ N 0 0 ≤ 24 ∧ N 0 1 ≤ N 0 0 + 1 ∧
  (∀ i, i < N 0 0 → N 1 i ≠ 0 → mi 79 i = nI (N 1 i) - 1 ∧ mi 80 i = nI (N 2 i) ∧ mi 81 i = nI (N 3 i) ∧ mi 82 i = -1) ∧
  (∀ i, i < N 0 0 → N 1 i = 0 → mi 82 i = nI (N 3 i) ∧ N 3 i < i)
/-- how many are known -/
def knM (N : Nat → Nat → Nat) : Nat := if N 0 1 = 0 then N 0 0 else N 0 1 - 1
section
variable {d : Nat} {Q : Option Value → Mm → Prop} {T S : Nat → Nat → Nat} {mi : Nat → Nat → Int32} {ml : Nat → Nat → Int64} {rd : Option Nat} {N : Nat → Nat → Nat}
theorem s_knownMany (hN : CN N mi) (hQ : Q (some (.int (nI (knM N)))) (mi, ml, R0 rd, 136)) : Cd (d + 2) k_Notes_knownMany [.ref 78] (mi, ml, R0 rd, 136) Q := by
  obtain ⟨e0, e1, h24, hk, _⟩ := hN
  unfold knM at hQ
  refine r_Notes_knownMany (by decide) (fun K Kl hK hC => ?_)
  refine ⟨fun h => ?_, fun h => ⟨rfl, ?_⟩⟩
  · have h : 0 ≤ mi 78 1 := h
    rw [e1] at h
    have h := (nI_predge (by omega)).mp h
    rw [if_neg h] at hQ
    obtain ⟨q, hq⟩ : ∃ q, N 0 1 = q + 1 := ⟨N 0 1 - 1, by omega⟩
    refine hC _ _ _ _ (s_min2 (a := q) (b := N 0 0) (by decide) (by rw [e1, hq]; exact nI_pred q) e0 (by omega) (by omega) ⟨rfl, ?_⟩)
    rw [Nat.min_eq_left (by omega)]
    rw [hq] at hQ
    exact hQ
  · have h : ¬ 0 ≤ mi 78 1 := h
    rw [e1] at h
    have hz : N 0 1 = 0 := by
      rcases Nat.eq_zero_or_pos (N 0 1) with z | z
      · exact z
      · exact absurd ((nI_predge (by omega)).mpr (by omega)) h
    rw [if_pos hz, ← e0] at hQ
    exact hQ
end
