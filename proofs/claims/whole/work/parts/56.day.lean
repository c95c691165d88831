/-! A DAY: eaten, rained on (the class) -/
def wtN (T S : Nat → Nat → Nat) (f : Nat) : Int64 := if T 0 9 = 0 then 1 else match lwN T S f with
  | none => 0
  | some v => v
/-- the first of the fields that are wanted most -/
def etN (T S : Nat → Nat → Nat) : Nat → Option (Nat × Int64)
  | 0 => none
  | j + 1 => if S 1 j = 0 then etN T S j else match etN T S j with
    | none => if 0 < wtN T S j then some (j, wtN T S j) else none
    | some (f, m) => if m < wtN T S j then some (j, wtN T S j) else some (f, m)
def eP (r : Option (Nat × Int64)) : Int32 := match r with
  | none => -1
  | some (f, _) => nI f
def eM (r : Option (Nat × Int64)) : Int64 := match r with
  | none => 0
  | some (_, m) => m
theorem etN_b {T S : Nat → Nat → Nat} : ∀ j, (∀ f m, etN T S j = some (f, m) → f < j ∧ S 1 f ≠ 0) ∧ 0 ≤ eM (etN T S j)
  | 0 => ⟨fun f m h => (by cases h), (show (0 : Int64) ≤ 0 by decide)⟩
  | j + 1 => by
    have ih := etN_b (T := T) (S := S) j
    unfold etN
    by_cases hz : S 1 j = 0
    · rw [if_pos hz]
      exact ⟨fun f m h => by have := ih.1 f m h; exact ⟨by omega, this.2⟩, ih.2⟩
    · rw [if_neg hz]
      cases hr : etN T S j with
      | none =>
        show (∀ f m, (if 0 < wtN T S j then some (j, wtN T S j) else none) = some (f, m) → f < j + 1 ∧ S 1 f ≠ 0) ∧ 0 ≤ eM (if 0 < wtN T S j then some (j, wtN T S j) else none)
        by_cases hp : 0 < wtN T S j
        · rw [if_pos hp]
          exact ⟨fun f m h => by cases h; exact ⟨by omega, hz⟩, Int64.le_of_lt hp⟩
        · rw [if_neg hp]
          exact ⟨fun f m h => (by cases h), by decide⟩
      | some t =>
        obtain ⟨f0, m0⟩ := t
        rw [hr] at ih
        show (∀ f m, (if m0 < wtN T S j then some (j, wtN T S j) else some (f0, m0)) = some (f, m) → f < j + 1 ∧ S 1 f ≠ 0) ∧ 0 ≤ eM (if m0 < wtN T S j then some (j, wtN T S j) else some (f0, m0))
        by_cases hp : m0 < wtN T S j
        · rw [if_pos hp]
          exact ⟨fun f m h => by cases h; exact ⟨by omega, hz⟩, Int64.le_of_lt (Int64.lt_of_le_of_lt ih.2 hp)⟩
        · rw [if_neg hp]
          exact ⟨fun f m h => by have := ih.1 f m h; exact ⟨by omega, this.2⟩, ih.2⟩
/-- one stack eaten: the lowest bit goes -/
def loN (s : Nat) : Nat := s &&& (s - 1)
def eatN (T S : Nat → Nat → Nat) : Nat → Nat := match etN T S (T 0 0 * T 0 1) with
  | none => S 1
  | some (f, _) => updN (S 1) f (loN (S 1 f))
theorem loC : ∀ s, s < 512 → s ≠ 0 → nI s &&& (nI s - nI 1) = nI (loN s) := by decide +kernel
theorem loN_le : ∀ s, s < 512 → loN s ≤ s := by decide +kernel
/-- what the class wants of a field, errors below all -/
def wcN (T S : Nat → Nat → Nat) (f : Nat) : Int64 := if T 0 9 = 0 then 1 else oe (lwN T S f)
theorem wcN_lt {T S : Nat → Nat → Nat} {f : Nat} {m : Int64} (h : 0 ≤ m) : m < wcN T S f ↔ m < wtN T S f := by
  unfold wcN wtN
  split
  · exact Iff.rfl
  · cases lwN T S f with
    | none =>
      have h1 : ¬ m < (oe none) := fun z => by
        have := Int64.lt_of_le_of_lt h z
        exact absurd this (by decide)
      have h2 : ¬ m < 0 := fun z => by
        have := Int64.lt_of_le_of_lt h z
        exact absurd this (by decide)
      exact ⟨fun z => absurd z h1, fun z => absurd z h2⟩
    | some v => exact Iff.rfl
theorem wcN_eq {T S : Nat → Nat → Nat} {f : Nat} {m : Int64} (h : 0 ≤ m) (hlt : m < wcN T S f) : wcN T S f = wtN T S f := by
  unfold wcN wtN at *
  split
  · rfl
  · rename_i hz
    rw [if_neg hz] at hlt
    cases hl : lwN T S f with
    | none =>
      rw [hl] at hlt
      exact absurd (Int64.lt_of_le_of_lt h hlt) (by decide)
    | some v => rfl
theorem nx_ex : ∃ g : Nat → Nat, ∀ s, g s = (s * 1103515245 + 12345) % 2147483648 := ⟨fun s => (s * 1103515245 + 12345) % 2147483648, fun _ => rfl⟩
/-- the next number (held so that nobody counts it out) -/
noncomputable def nxN : Nat → Nat := Classical.choose nx_ex
theorem nxN_eq (s : Nat) : nxN s = (s * 1103515245 + 12345) % 2147483648 := Classical.choose_spec nx_ex s
theorem nxN_lt (s : Nat) : nxN s < 2147483648 := by rw [nxN_eq]; exact Nat.mod_lt _ (by decide)
theorem lmask (n : Nat) : lN n &&& lN (2 ^ 31 - 1) = lN (n % 2147483648) := by
  apply Int64.toBitVec_inj.mp
  apply BitVec.eq_of_toNat_eq
  show (BitVec.ofNat 64 n &&& BitVec.ofNat 64 (2 ^ 31 - 1)).toNat = (BitVec.ofNat 64 (n % 2147483648)).toNat
  rw [BitVec.toNat_and, BitVec.toNat_ofNat, BitVec.toNat_ofNat, BitVec.toNat_ofNat, Nat.mod_eq_of_lt (show 2 ^ 31 - 1 < 2 ^ 64 by decide), Nat.and_two_pow_sub_one_eq_mod]
  omega
theorem nxC {s : Nat} (h : s < 2 ^ 31) : (((nI s).toInt64 * 1103515245 + 12345) &&& 2147483647).toInt32 = nI (nxN s) := by
  rw [nI_l h, show (1103515245 : Int64) = lN 1103515245 from rfl, show (12345 : Int64) = lN 12345 from rfl, show (2147483647 : Int64) = lN (2 ^ 31 - 1) from rfl, lN_mul, lN_add, lmask, lN_i, nxN_eq]
/-- the highest stack goes -/
def hiN (s : Nat) : Nat := if s = 0 then 0 else s - 2 ^ Nat.log2 s
noncomputable def rnF (T S : Nat → Nat → Nat) : Nat := nxN (nxN (S 0 2)) / 65536 % (T 0 0 * T 0 1)
noncomputable def rainN (T S : Nat → Nat → Nat) : Nat → Nat → Nat := if T 0 12 ≤ nxN (S 0 2) / 65536 % 100 then sF S 2 (nxN (S 0 2)) else sF (sSh S (updN (S 1) (rnF T S) (hiN (S 1 (rnF T S))))) 2 (nxN (nxN (S 0 2)))
theorem hi1 : ∀ k, k < 9 → ∀ s, s < 2 ^ (k + 1) → ((nI s &&& nI (2 ^ k) = 0) ↔ s < 2 ^ k) := by decide +kernel
theorem hi2 : ∀ k, k < 9 → ∀ s, s < 2 ^ (k + 1) → ¬ s < 2 ^ k → nI s &&& (nI (2 ^ k) ^^^ -1) = nI (hiN s) := by decide +kernel
theorem hi3 : ∀ k, k < 8 → nI (2 ^ (k + 1)) >>> (nI 1 &&& 31) = nI (2 ^ k) := by decide +kernel
theorem hi4 : ∀ k, k < 9 → ¬ nI (2 ^ k) ≤ 0 := by decide +kernel
theorem hiN_le (s : Nat) : hiN s ≤ s := by
  unfold hiN
  split
  · omega
  · exact Nat.sub_le _ _
