/-! PURE WORDS: numbers, first places, sums -/
/-- from the end back -/
theorem upto {n : Nat} {P : Nat → Prop} (he : P n) (hs : ∀ j, j < n → P (j + 1) → P j) : ∀ j, j ≤ n → P j := by
  intro j hj
  obtain ⟨k, rfl⟩ : ∃ k, n = j + k := ⟨n - j, by omega⟩
  induction k generalizing j with
  | zero => exact he
  | succ k ih =>
    refine hs j (by omega) (ih (j + 1) ?_ ?_ (by omega))
    · rw [show j + 1 + k = j + (k + 1) by omega]; exact he
    · intro i hi; exact hs i (by omega)
def sumN (f : Nat → Nat) : Nat → Nat
  | 0 => 0
  | n + 1 => sumN f n + f n
/-- the first place below n where p is, else n -/
def fnd (p : Nat → Bool) : Nat → Nat
  | 0 => 0
  | n + 1 => if fnd p n < n then fnd p n else if p n then n else n + 1
theorem fnd_le (p : Nat → Bool) (n : Nat) : fnd p n ≤ n := by
  induction n with
  | zero => exact Nat.le_refl _
  | succ n ih =>
    unfold fnd
    split
    · omega
    · split <;> omega
theorem fnd_none {p : Nat → Bool} {n : Nat} (h : ∀ i, i < n → p i = false) : fnd p n = n := by
  induction n with
  | zero => rfl
  | succ n ih =>
    have := ih (fun i hi => h i (by omega))
    unfold fnd
    rw [if_neg (by omega), if_neg (by rw [h n (by omega)]; decide)]
theorem fnd_at {p : Nat → Bool} {n j : Nat} (hj : j < n) (hp : p j = true) (hb : ∀ i, i < j → p i = false) : fnd p n = j := by
  induction n with
  | zero => omega
  | succ n ih =>
    unfold fnd
    by_cases h : j < n
    · rw [ih h, if_pos h]
    · have : j = n := by omega
      subst this
      rw [fnd_none hb, if_neg (by omega), if_pos hp]
theorem fnd_min {p : Nat → Bool} {n i : Nat} (h : i < fnd p n) : p i = false := by
  induction n with
  | zero => simp [fnd] at h
  | succ n ih =>
    unfold fnd at h
    split at h
    · exact ih h
    · rename_i hn
      have hle := fnd_le p n
      have he : fnd p n = n := by omega
      split at h
      · exact ih (by omega)
      · rename_i hp
        by_cases hi : i < n
        · exact ih (by omega)
        · have : i = n := by omega
          subst this
          simpa using hp
theorem fnd_hit {p : Nat → Bool} {n : Nat} (h : fnd p n < n) : p (fnd p n) = true := by
  induction n with
  | zero => omega
  | succ n ih =>
    by_cases h1 : fnd p n < n
    · have e : fnd p (n + 1) = fnd p n := by rw [fnd, if_pos h1]
      rw [e]; exact ih h1
    · have he : fnd p n = n := by have := fnd_le p n; omega
      by_cases h2 : p n = true
      · have e : fnd p (n + 1) = n := by rw [fnd, if_neg h1, if_pos h2]
        rw [e]; exact h2
      · have e : fnd p (n + 1) = n + 1 := by rw [fnd, if_neg h1, if_neg h2]
        omega
/-- ones among the lowest nine bits -/
def bcN (s : Nat) : Nat := sumN (fun k => s / 2 ^ k % 2) 9
/-- what a hill sees: 0 all, 1 low, 2 high -/
def seenN (sg s : Nat) : Nat := if sg = 1 then s &&& (511 ^^^ (s >>> 3)) else if sg = 2 then s &&& (511 ^^^ ((s <<< 3) &&& 511)) else s
def letN (name k : Nat) : Nat := name / 2 ^ (25 - 5 * k) % 32
/-- how many letters a name has -/
def lenN (name : Nat) : Nat := fnd (fun k => letN name k == 0) 6
theorem seenN_0 : ∀ s, s < 512 → ∀ sg, sg < 3 → (seenN sg s = 0 ↔ s = 0) := by decide +kernel
theorem seenN_lt : ∀ s, s < 512 → ∀ sg, sg < 3 → seenN sg s < 512 := by decide +kernel
theorem bcN_le (s : Nat) : bcN s ≤ 9 := by
  unfold bcN
  simp only [sumN]
  have : ∀ k, s / 2 ^ k % 2 < 2 := fun k => Nat.mod_lt _ (by decide)
  have h0 := this 0; have h1 := this 1; have h2 := this 2; have h3 := this 3; have h4 := this 4; have h5 := this 5; have h6 := this 6; have h7 := this 7; have h8 := this 8
  omega
theorem letN_lt (n k : Nat) : letN n k < 32 := Nat.mod_lt _ (by decide)
theorem lenN_le (n : Nat) : lenN n ≤ 6 := fnd_le _ _
theorem nIle {a b : Nat} (hb : b < 2 ^ 31) (ha : a < 2 ^ 31) (h : nI a ≤ nI b) : a ≤ b := (nI_leI ha hb).mp h
theorem nI_inj {a b : Nat} (ha : a < 2 ^ 31) (hb : b < 2 ^ 31) (h : nI a = nI b) : a = b := (nI_eq ha hb).mp h
/-- an int is below 0, or a number -/
theorem i_nn (x : Int32) : x < 0 ∨ ∃ j : Nat, j < 2 ^ 31 ∧ x = nI j := by
  by_cases h : x < 0
  · exact Or.inl h
  · exact Or.inr (nI_of h)
theorem i_neg_ne {x : Int32} (h : x < 0) {n : Nat} (hn : n < 2 ^ 31) : x ≠ nI n := fun e => nI_pos hn (e ▸ h)
theorem iLT {a b : Nat} (h : nI a < nI b) (ha : a < 2 ^ 31 := by omega) (hb : b < 2 ^ 31 := by omega) : a < b := (nI_ltI ha hb).mp h
theorem iNLT {a b : Nat} (h : ¬ nI a < nI b) (ha : a < 2 ^ 31 := by omega) (hb : b < 2 ^ 31 := by omega) : b ≤ a := by
  rcases Nat.lt_or_ge a b with z | z
  · exact absurd ((nI_ltI ha hb).mpr z) h
  · exact z
theorem iLE {a b : Nat} (h : nI a ≤ nI b) (ha : a < 2 ^ 31 := by omega) (hb : b < 2 ^ 31 := by omega) : a ≤ b := (nI_leI ha hb).mp h
theorem iNLE {a b : Nat} (h : ¬ nI a ≤ nI b) (ha : a < 2 ^ 31 := by omega) (hb : b < 2 ^ 31 := by omega) : b < a := by
  rcases Nat.lt_or_ge b a with z | z
  · exact z
  · exact absurd ((nI_leI ha hb).mpr z) h
theorem iEQ {a b : Nat} (h : nI a = nI b) (ha : a < 2 ^ 31 := by omega) (hb : b < 2 ^ 31 := by omega) : a = b := (nI_eq ha hb).mp h
theorem iNE {a b : Nat} (h : ¬ nI a = nI b) : a ≠ b := fun e => h (by rw [e])
theorem iZ {a : Nat} (h : nI a = 0) (ha : a < 2 ^ 31 := by omega) : a = 0 := (nI_eq ha (by omega)).mp (h.trans nI_0.symm)
theorem iNZ {a : Nat} (h : ¬ nI a = 0) : a ≠ 0 := fun e => h (by rw [e]; exact nI_0)
theorem iNN {a : Nat} (h : nI a < 0) (ha : a < 2 ^ 31 := by omega) : False := nI_pos ha h
