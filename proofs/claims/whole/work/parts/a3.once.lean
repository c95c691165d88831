/-! THE READER: a line told once (the class) -/
def onX (a b c e f : Nat) : Nat := a * 2 ^ 20 + b * 2 ^ 29 + c * 2 ^ 30 + e * 2 ^ 31 + f * 2 ^ 32
def onW (a b c e f : Nat) (w : Nat) : Nat := if w = 20 then a else if w = 29 then b else if w = 30 then c else if w = 31 then e else f
def onT (a b c e f w : Nat) : Bool := if onW a b c e f w = 0 then (decide (lg_cmp (lN (onX a b c e f) &&& ((1 : Int64) <<< ((nI w).toInt64 &&& 63))) 0 = 0) && decide (lN (onX a b c e f) ||| ((1 : Int64) <<< ((nI w).toInt64 &&& 63)) = lN (onX a b c e f + 2 ^ w))) else !decide (lg_cmp (lN (onX a b c e f) &&& ((1 : Int64) <<< ((nI w).toInt64 &&& 63))) 0 = 0)
theorem onB20 : ∀ x, x < 32 → onT (x % 2) (x / 2 % 2) (x / 4 % 2) (x / 8 % 2) (x / 16 % 2) 20 = true := by decide +kernel
theorem onB29 : ∀ x, x < 32 → onT (x % 2) (x / 2 % 2) (x / 4 % 2) (x / 8 % 2) (x / 16 % 2) 29 = true := by decide +kernel
theorem onB30 : ∀ x, x < 32 → onT (x % 2) (x / 2 % 2) (x / 4 % 2) (x / 8 % 2) (x / 16 % 2) 30 = true := by decide +kernel
theorem onB31 : ∀ x, x < 32 → onT (x % 2) (x / 2 % 2) (x / 4 % 2) (x / 8 % 2) (x / 16 % 2) 31 = true := by decide +kernel
theorem onB32 : ∀ x, x < 32 → onT (x % 2) (x / 2 % 2) (x / 4 % 2) (x / 8 % 2) (x / 16 % 2) 32 = true := by decide +kernel
theorem t0_ne (T : Nat → Nat → Nat) {c i x : Nat} (h : i ≠ c) : t0 T c x 0 i = T 0 i := if_neg h
theorem t0_eq (T : Nat → Nat → Nat) (c x : Nat) : t0 T c x 0 c = x := by
  show (if c = c then x else T 0 c) = x
  rw [if_pos rfl]
theorem onB {T : Nat → Nat → Nat} (hT : tOK T) {w : Nat} (hw : w = 20 ∨ (29 ≤ w ∧ w ≤ 32)) :
    (T 0 (onC w) = 0 → lg_cmp (lN (onN T) &&& ((1 : Int64) <<< ((nI w).toInt64 &&& 63))) 0 = 0 ∧ lN (onN T) ||| ((1 : Int64) <<< ((nI w).toInt64 &&& 63)) = lN (onN (t0 T (onC w) 1))) ∧ (T 0 (onC w) ≠ 0 → ¬ lg_cmp (lN (onN T) &&& ((1 : Int64) <<< ((nI w).toInt64 &&& 63))) 0 = 0) := by
  have hf := hT.2.2.1
  have f14 := hf 14 (by decide) (by decide); have f15 := hf 15 (by decide) (by decide); have f16 := hf 16 (by decide) (by decide); have f17 := hf 17 (by decide) (by decide); have f18 := hf 18 (by decide) (by decide)
  have key : ∀ w, (∀ x, x < 32 → onT (x % 2) (x / 2 % 2) (x / 4 % 2) (x / 8 % 2) (x / 16 % 2) w = true) → onT (T 0 14) (T 0 15) (T 0 16) (T 0 17) (T 0 18) w = true := fun w h => by
    have := h (T 0 14 + 2 * T 0 15 + 4 * T 0 16 + 8 * T 0 17 + 16 * T 0 18) (by omega)
    rw [show (T 0 14 + 2 * T 0 15 + 4 * T 0 16 + 8 * T 0 17 + 16 * T 0 18) % 2 = T 0 14 by omega, show (T 0 14 + 2 * T 0 15 + 4 * T 0 16 + 8 * T 0 17 + 16 * T 0 18) / 2 % 2 = T 0 15 by omega, show (T 0 14 + 2 * T 0 15 + 4 * T 0 16 + 8 * T 0 17 + 16 * T 0 18) / 4 % 2 = T 0 16 by omega, show (T 0 14 + 2 * T 0 15 + 4 * T 0 16 + 8 * T 0 17 + 16 * T 0 18) / 8 % 2 = T 0 17 by omega, show (T 0 14 + 2 * T 0 15 + 4 * T 0 16 + 8 * T 0 17 + 16 * T 0 18) / 16 % 2 = T 0 18 by omega] at this
    exact this
  have fin : ∀ F, onT (T 0 14) (T 0 15) (T 0 16) (T 0 17) (T 0 18) w = true → onW (T 0 14) (T 0 15) (T 0 16) (T 0 17) (T 0 18) w = F → (F = 0 → onN T + 2 ^ w = onN (t0 T (onC w) 1)) → (F = 0 → lg_cmp (lN (onN T) &&& ((1 : Int64) <<< ((nI w).toInt64 &&& 63))) 0 = 0 ∧ lN (onN T) ||| ((1 : Int64) <<< ((nI w).toInt64 &&& 63)) = lN (onN (t0 T (onC w) 1))) ∧ (F ≠ 0 → ¬ lg_cmp (lN (onN T) &&& ((1 : Int64) <<< ((nI w).toInt64 &&& 63))) 0 = 0) := by
    intro F h1 h2 h3
    unfold onT at h1
    rw [h2] at h1
    refine ⟨fun z => ?_, fun z => ?_⟩
    · rw [if_pos z, Bool.and_eq_true, decide_eq_true_eq, decide_eq_true_eq] at h1
      refine ⟨h1.1, ?_⟩
      rw [← h3 z]
      exact h1.2
    · rw [if_neg z] at h1
      have h2 : ¬ lg_cmp (lN (onX (T 0 14) (T 0 15) (T 0 16) (T 0 17) (T 0 18)) &&& ((1 : Int64) <<< ((nI w).toInt64 &&& 63))) 0 = 0 := by simpa using h1
      exact h2
  have : w = 20 ∨ w = 29 ∨ w = 30 ∨ w = 31 ∨ w = 32 := by omega
  rcases this with rfl | rfl | rfl | rfl | rfl
  · exact fin (T 0 14) (key 20 onB20) rfl (fun z => by rw [show onC 20 = 14 from rfl, onN, onN, t0_eq, t0_ne T (show 15 ≠ 14 by decide), t0_ne T (show 16 ≠ 14 by decide), t0_ne T (show 17 ≠ 14 by decide), t0_ne T (show 18 ≠ 14 by decide)]; omega)
  · exact fin (T 0 15) (key 29 onB29) rfl (fun z => by rw [show onC 29 = 15 from rfl, onN, onN, t0_eq, t0_ne T (show 14 ≠ 15 by decide), t0_ne T (show 16 ≠ 15 by decide), t0_ne T (show 17 ≠ 15 by decide), t0_ne T (show 18 ≠ 15 by decide)]; omega)
  · exact fin (T 0 16) (key 30 onB30) rfl (fun z => by rw [show onC 30 = 16 from rfl, onN, onN, t0_eq, t0_ne T (show 14 ≠ 16 by decide), t0_ne T (show 15 ≠ 16 by decide), t0_ne T (show 17 ≠ 16 by decide), t0_ne T (show 18 ≠ 16 by decide)]; omega)
  · exact fin (T 0 17) (key 31 onB31) rfl (fun z => by rw [show onC 31 = 17 from rfl, onN, onN, t0_eq, t0_ne T (show 14 ≠ 17 by decide), t0_ne T (show 15 ≠ 17 by decide), t0_ne T (show 16 ≠ 17 by decide), t0_ne T (show 18 ≠ 17 by decide)]; omega)
  · exact fin (T 0 18) (key 32 onB32) rfl (fun z => by rw [show onC 32 = 18 from rfl, onN, onN, t0_eq, t0_ne T (show 14 ≠ 18 by decide), t0_ne T (show 15 ≠ 18 by decide), t0_ne T (show 16 ≠ 18 by decide), t0_ne T (show 17 ≠ 18 by decide)]; omega)
