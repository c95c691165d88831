/-! THE STATE OF ALL, A: 0 the text, 1 the scene, 2 the notes, 3 the past's rows, 5 the image; 4 0: how many rows, kept, bytes fed, fault, its place and 1; 4 1 the bytes -/
abbrev St : Type := Nat → Nat → Nat → Nat
def flA (A : St) : Nat := A 0 0 0 * A 0 0 1
/-- the class holds A -/
def CI (A : St) (mi : Nat → Nat → Int32) : Prop := CT 0 (A 0) mi ∧ CS 70 (A 1) mi ∧ CN (A 2) mi ∧ CP (A 4 0 0) (A 3) mi ∧ mi 0 10 = nI (A 4 0 1) ∧ (A 4 0 1 ≠ 0 → CS 73 (A 5) mi) ∧ mi 0 1 = nI (A 4 0 2) ∧ (∀ i, i < A 4 0 2 → mi 1 i = nI (A 4 1 i)) ∧ mi 0 2 = nI (A 4 0 3) ∧ mi 0 3 = nI (A 4 0 4) - 1
theorem CI.T {A : St} {mi : Nat → Nat → Int32} (h : CI A mi) : CT 0 (A 0) mi := h.1
theorem CI.S {A : St} {mi : Nat → Nat → Int32} (h : CI A mi) : CS 70 (A 1) mi := h.2.1
theorem CI.N {A : St} {mi : Nat → Nat → Int32} (h : CI A mi) : CN (A 2) mi := h.2.2.1
theorem CI.P {A : St} {mi : Nat → Nat → Int32} (h : CI A mi) : CP (A 4 0 0) (A 3) mi := h.2.2.2.1
theorem CI.k {A : St} {mi : Nat → Nat → Int32} (h : CI A mi) : mi 0 10 = nI (A 4 0 1) := h.2.2.2.2.1
theorem CI.I {A : St} {mi : Nat → Nat → Int32} (h : CI A mi) : A 4 0 1 ≠ 0 → CS 73 (A 5) mi := h.2.2.2.2.2.1
theorem CI.f {A : St} {mi : Nat → Nat → Int32} (h : CI A mi) : mi 0 1 = nI (A 4 0 2) := h.2.2.2.2.2.2.1
theorem CI.b {A : St} {mi : Nat → Nat → Int32} (h : CI A mi) : ∀ i, i < A 4 0 2 → mi 1 i = nI (A 4 1 i) := h.2.2.2.2.2.2.2.1
theorem CI.q {A : St} {mi : Nat → Nat → Int32} (h : CI A mi) : mi 0 2 = nI (A 4 0 3) := h.2.2.2.2.2.2.2.2.1
theorem CI.qp {A : St} {mi : Nat → Nat → Int32} (h : CI A mi) : mi 0 3 = nI (A 4 0 4) - 1 := h.2.2.2.2.2.2.2.2.2
/-- a row of the past that can be -/
def wfR (T : Nat → Nat → Nat) (R : Nat → Nat) : Prop := (∀ i, i < 48 → R i ≤ 511) ∧ (∀ i, T 0 0 * T 0 1 ≤ i → i < 48 → R i = 0) ∧ R 48 ≤ 9999 ∧ R 49 < 32
/-- a state that can be -/
def wfA (A : St) : Prop := wfT (A 0) ∧ wfL (A 0) ∧ wfS (A 0) (A 1) ∧ A 1 0 0 ≤ 999 ∧ wfN (A 0) (A 2) ∧ (∀ r, r < A 4 0 0 → wfR (A 0) (A 3 r)) ∧ A 4 0 1 ≤ 1 ∧ (A 4 0 1 ≠ 0 → wfS (A 0) (A 5) ∧ A 5 0 0 ≤ 999) ∧ A 4 0 2 ≤ 700 ∧ (∀ i, A 4 1 i < 256) ∧ A 4 0 0 ≤ 20 ∧ A 2 0 0 ≤ 24 ∧ A 2 0 1 ≤ A 2 0 0 + 1 ∧ (∀ i, i < A 2 0 0 → A 2 1 i = 0 → A 2 3 i < i)
theorem wfA.T {A : St} (h : wfA A) : wfT (A 0) := h.1
theorem wfA.L {A : St} (h : wfA A) : wfL (A 0) := h.2.1
theorem wfA.S {A : St} (h : wfA A) : wfS (A 0) (A 1) := h.2.2.1
theorem wfA.d {A : St} (h : wfA A) : A 1 0 0 ≤ 999 := h.2.2.2.1
theorem wfA.N {A : St} (h : wfA A) : wfN (A 0) (A 2) := h.2.2.2.2.1
theorem wfA.P {A : St} (h : wfA A) : ∀ r, r < A 4 0 0 → wfR (A 0) (A 3 r) := h.2.2.2.2.2.1
theorem wfA.k {A : St} (h : wfA A) : A 4 0 1 ≤ 1 := h.2.2.2.2.2.2.1
theorem wfA.I {A : St} (h : wfA A) : A 4 0 1 ≠ 0 → wfS (A 0) (A 5) ∧ A 5 0 0 ≤ 999 := h.2.2.2.2.2.2.2.1
theorem wfA.f {A : St} (h : wfA A) : A 4 0 2 ≤ 700 := h.2.2.2.2.2.2.2.2.1
theorem wfA.b {A : St} (h : wfA A) : ∀ i, A 4 1 i < 256 := h.2.2.2.2.2.2.2.2.2.1
theorem wfA.n {A : St} (h : wfA A) : A 4 0 0 ≤ 20 := h.2.2.2.2.2.2.2.2.2.2.1
theorem wfA.w {A : St} (h : wfA A) : A 2 0 0 ≤ 24 := h.2.2.2.2.2.2.2.2.2.2.2.1
theorem wfA.w1 {A : St} (h : wfA A) : A 2 0 1 ≤ A 2 0 0 + 1 := h.2.2.2.2.2.2.2.2.2.2.2.2.1
theorem wfA.st {A : St} (h : wfA A) : ∀ i, i < A 2 0 0 → A 2 1 i = 0 → A 2 3 i < i := h.2.2.2.2.2.2.2.2.2.2.2.2.2
/-- the class's cells that no call looks at -/
abbrev SC : List Nat := [35, 83, 84, 85, 86, 87, 88, 89, 90, 91, 92, 93, 94]
theorem CP.fr {n : Nat} {P : Nat → Nat → Nat} {mi mi' : Nat → Nat → Int32} {L : List Nat} (h : CP n P mi) (hf : Fr L mi mi') (h0 : nin L 76 = true) (h1 : nin L 77 = true) : CP n P mi' := by
  unfold CP at h ⊢
  rw [hf 76 h0, hf 77 h1]
  exact h
theorem CN.fr2 {N : Nat → Nat → Nat} {mi mi' : Nat → Nat → Int32} {L : List Nat} (h : CN N mi) (hf : Fr L mi mi') (hL : L.all (fun x => Nat.blt x 78 || Nat.blt 82 x) = true) : CN N mi' := h.fr (fun c h1 h2 => hf c (nin_not (fun hm => by
  have := List.all_eq_true.mp hL c hm
  simp only [Bool.or_eq_true, Nat.blt_eq] at this
  omega)))
theorem CI.fr {A : St} {mi mi' : Nat → Nat → Int32} (h : CI A mi) (hf : Fr SC mi mi') : CI A mi' := by
  refine ⟨h.T.fr hf rfl, h.S.fr hf rfl rfl rfl, h.N.fr2 hf rfl, h.P.fr hf rfl rfl, ?_, fun z => (h.I z).fr hf rfl rfl rfl, ?_, ?_, ?_, ?_⟩
  · rw [hf 0 rfl]; exact h.k
  · rw [hf 0 rfl]; exact h.f
  · rw [hf 1 rfl]; exact h.b
  · rw [hf 0 rfl]; exact h.q
  · rw [hf 0 rfl]; exact h.qp
/-- only the class's cells have changed -/
def Up {α : Type} (m m' : Nat → α) : Prop := ∀ c, 95 ≤ c → m' c = m c
theorem Up.none {α : Type} {m : Nat → α} : Up m m := fun _ _ => rfl
theorem Up.trans {α : Type} {m m' m'' : Nat → α} (h : Up m m') (h' : Up m' m'') : Up m m'' := fun c hc => (h' c hc).trans (h c hc)
theorem Up.cu {α : Type} {m m' : Nat → α} {c : Nat} {g : α} (h : Up m m') (hc : c < 95) : Up m (cu m' c g) := fun a ha => by
  rw [cu_ne (by omega)]
  exact h a ha
theorem Fr.up {α : Type} {L : List Nat} {m m' : Nat → α} (h : Fr L m m') (hL : L.all (fun x => Nat.blt x 95) = true) : Up m m' := fun c hc => h c (nin_not (fun hm => by
  have := List.all_eq_true.mp hL c hm
  simp only [Nat.blt_eq] at this
  omega))
/-- an int as an index -/
def ixo (x : Int32) (n : Nat) : Option Nat := if x < 0 then none else if x.toNatClampNeg < n then some x.toNatClampNeg else none
theorem ixo_some {j n : Nat} (h : j < n) (hn : n ≤ 2 ^ 31 := by omega) : ixo (nI j) n = some j := by
  unfold ixo
  rw [if_neg (nI_pos (by omega)), nI_clamp (by omega), if_pos h]
theorem ixo_none {x : Int32} {n : Nat} (h : ∀ j, j < n → x ≠ nI j) : ixo x n = none := by
  unfold ixo
  by_cases hx : x < 0
  · rw [if_pos hx]
  · obtain ⟨j, hj, rfl⟩ := nI_of hx
    rw [if_neg hx, nI_clamp hj, if_neg (fun hjn => h j hjn rfl)]
theorem ixo_cs (x : Int32) (n : Nat) (hn : n ≤ 2 ^ 31 := by omega) : (∃ j, j < n ∧ x = nI j ∧ ixo x n = some j) ∨ ((∀ j, j < n → x ≠ nI j) ∧ ixo x n = none) := by
  have no : (∀ j, j < n → x ≠ nI j) → (∃ j, j < n ∧ x = nI j ∧ ixo x n = some j) ∨ ((∀ j, j < n → x ≠ nI j) ∧ ixo x n = none) := fun h => Or.inr ⟨h, ixo_none h⟩
  rcases i_nn x with hx | ⟨j, hj, rfl⟩
  · exact no (fun j hj => i_neg_ne hx (by omega))
  · by_cases h : j < n
    · exact Or.inl ⟨j, h, rfl, ixo_some h hn⟩
    · exact no (fun i hi e => h (by have := nI_inj hj (by omega) e; omega))
/-- a range of ints: 0 .. n, or not -/
theorem ixo_rg {x : Int32} {n : Nat} (hn : n < 2 ^ 31) (h0 : ¬ x < 0) (h1 : ¬ nI n < x) : ∃ j, j ≤ n ∧ x = nI j ∧ ixo x (n + 1) = some j := by
  obtain ⟨j, hj, rfl⟩ := nI_of h0
  have := iNLT h1
  exact ⟨j, this, rfl, ixo_some (by omega) (by omega)⟩
theorem ixo_neg {x : Int32} {n : Nat} (h0 : x < 0) : ixo x n = none := if_pos h0
theorem ixo_big {x : Int32} {n : Nat} (hn : n < 2 ^ 31) (h1 : nI n < x) : ixo x (n + 1) = none := ixo_none (fun j hj e => by
  rw [e] at h1
  have := iLT h1
  omega)
theorem ixo_ge {x : Int32} {n : Nat} (hn : n < 2 ^ 31) (h1 : nI n ≤ x) : ixo x n = none := ixo_none (fun j hj e => by
  rw [e] at h1
  have := iLE h1
  omega)
