/-! THE LAW: worked through (the class) -/
/-- how many values lie there after i knots -/
def dpN (T : Nat → Nat → Nat) : Nat → Nat
  | 0 => 0
  | i + 1 => if T 17 i ≤ 1 then dpN T i + 1 else if T 17 i = 2 then dpN T i else dpN T i - 1
/-- a law that can be -/
def wfL (T : Nat → Nat → Nat) : Prop := (∀ i, i < T 0 9 → T 17 i ≤ 14 ∧ (T 17 i = 0 → T 18 i ≤ 9999) ∧ (T 17 i = 1 → T 18 i < 6) ∧ (T 17 i = 2 → 1 ≤ dpN T i) ∧ (3 ≤ T 17 i → 2 ≤ dpN T i)) ∧ (T 0 9 ≠ 0 → dpN T (T 0 9) = 1)
/-- one knot more -/
def lwS (T : Nat → Nat → Nat) (nm : Nat → Int64) (i : Nat) (st : List Int64) : Option (List Int64) := match T 17 i, st with
  | 0, st => some (lN (T 18 i) :: st)
  | 1, st => some (nm (T 18 i) :: st)
  | 2, a :: r => some ((if a = 0 then 1 else 0) :: r)
  | k, b :: a :: r => match jnN k a b with
    | some v => some (v :: r)
    | none => none
  | _, _ => none
def lwJ (T : Nat → Nat → Nat) (nm : Nat → Int64) : Nat → Option (List Int64)
  | 0 => some []
  | i + 1 => match lwJ T nm i with
    | none => none
    | some st => lwS T nm i st
def lawN (T : Nat → Nat → Nat) (nm : Nat → Int64) : Option Int64 := match lwJ T nm (T 0 9) with
  | some [v] => some v
  | _ => none
theorem lwJ_none {T : Nat → Nat → Nat} {nm : Nat → Int64} {i : Nat} (h : lwJ T nm i = none) : ∀ n, i ≤ n → lwJ T nm n = none
  | 0, hn => by rw [show i = 0 by omega] at h; exact h
  | n + 1, hn => by
    by_cases e : i = n + 1
    · rw [← e]; exact h
    · unfold lwJ
      rw [lwJ_none h n (by omega)]
theorem lw0 {T : Nat → Nat → Nat} {nm : Nat → Int64} {i : Nat} {st : List Int64} (h : T 17 i = 0) : lwS T nm i st = some (lN (T 18 i) :: st) := by
  unfold lwS; simp only [h]
theorem lw1 {T : Nat → Nat → Nat} {nm : Nat → Int64} {i : Nat} {st : List Int64} (h : T 17 i = 1) : lwS T nm i st = some (nm (T 18 i) :: st) := by
  unfold lwS; simp only [h]
theorem lw2 {T : Nat → Nat → Nat} {nm : Nat → Int64} {i : Nat} {a : Int64} {r : List Int64} (h : T 17 i = 2) : lwS T nm i (a :: r) = some ((if a = 0 then 1 else 0) :: r) := by
  unfold lwS; simp only [h]
theorem lw3 {T : Nat → Nat → Nat} {nm : Nat → Int64} {i : Nat} {a b : Int64} {r : List Int64} (h : 3 ≤ T 17 i) : lwS T nm i (b :: a :: r) = match jnN (T 17 i) a b with
    | some v => some (v :: r)
    | none => none := by
  unfold lwS
  split
  · omega
  · omega
  · omega
  · rename_i he _ _ _; cases he; rfl
  · rename_i h1 h2 h3 h4
    exact absurd rfl (h3 _ _ _)
theorem lwJ_len {T : Nat → Nat → Nat} {nm : Nat → Int64} (hl : wfL T) : ∀ i, i ≤ T 0 9 → ∀ st, lwJ T nm i = some st → st.length = dpN T i
  | 0, _, st, h => by cases h; rfl
  | i + 1, hi, st, h => by
    unfold lwJ at h
    cases hj : lwJ T nm i with
    | none => rw [hj] at h; cases h
    | some st0 =>
      rw [hj] at h
      have ih := lwJ_len hl i (by omega) st0 hj
      have hk := hl.1 i (by omega)
      have h : lwS T nm i st0 = some st := h
      have cases4 : T 17 i = 0 ∨ T 17 i = 1 ∨ T 17 i = 2 ∨ 3 ≤ T 17 i := by omega
      rcases cases4 with h0 | h0 | h0 | h0
      · rw [lw0 h0] at h; cases h
        unfold dpN; rw [if_pos (by omega)]; simp [ih]
      · rw [lw1 h0] at h; cases h
        unfold dpN; rw [if_pos (by omega)]; simp [ih]
      · cases st0 with
        | nil => have := hk.2.2.2.1 h0; rw [← ih] at this; simp at this
        | cons a r =>
          rw [lw2 h0] at h; cases h
          unfold dpN; rw [if_neg (show ¬ T 17 i ≤ 1 by omega), if_pos h0, ← ih]; rfl
      · have h2 := hk.2.2.2.2 h0
        rw [← ih] at h2
        cases st0 with
        | nil => simp at h2
        | cons b r =>
          cases r with
          | nil => simp at h2
          | cons a r =>
            rw [lw3 h0] at h
            split at h
            · cases h
              unfold dpN; rw [if_neg (by omega), if_neg (by omega), ← ih]; simp
            · cases h
theorem dpN_le (T : Nat → Nat → Nat) : ∀ i, dpN T i ≤ i
  | 0 => Nat.le_refl _
  | i + 1 => by
    have := dpN_le T i
    unfold dpN
    split
    · omega
    · split <;> omega
/-- values that can be -/
def bI (x : Int64) : Prop := -1000000000000 ≤ x.toInt ∧ x.toInt ≤ 1000000000000
theorem bI_ne {x : Int64} (h : bI x) : ¬ x = -9223372036854775808 := by
  intro e
  rw [e] at h
  exact absurd h.1 (by decide)
theorem bI_lN {n : Nat} (h : n < 2 ^ 31) : bI (lN n) := by
  unfold bI
  rw [lN_toInt h]
  omega
theorem bI_01 {p : Prop} [Decidable p] : bI (if p then 1 else 0) := by
  unfold bI
  split <;> decide
theorem bI_bd {x v : Int64} (h : bdN x = some v) : bI v := by
  unfold bdN at h
  split at h
  · cases h
  · rename_i hn
    cases h
    have h1 := lNle (fun z => hn (Or.inl z))
    have h2 := lNle (fun z => hn (Or.inr z))
    rw [Int64.le_iff_toInt_le] at h1 h2
    exact ⟨h2, h1⟩
theorem absL_int {x : Int64} (h : bI x) : (absL x).toInt = x.toInt.natAbs := by
  unfold absL
  split
  · rename_i hn
    rw [Int64.lt_iff_toInt_lt] at hn
    have hn : x.toInt < 0 := hn
    rw [Int64.toInt_neg]
    have h1 := h.1
    rw [Int.bmod_eq_of_le (by omega) (by omega)]
    omega
  · rename_i hn
    have hn := lNle hn
    rw [Int64.le_iff_toInt_le] at hn
    have hn : 0 ≤ x.toInt := hn
    omega
theorem bI_jn {k : Nat} {a b v : Int64} (ha : bI a) (hb : bI b) (h : jnN k a b = some v) : bI v := by
  unfold jnN at h
  split at h
  · cases h; exact bI_01
  · cases h; exact bI_01
  · cases h; exact bI_01
  · cases h; exact bI_01
  · cases h; exact bI_01
  · cases h; exact bI_01
  · cases h; exact bI_01
  · cases h; exact bI_01
  · exact bI_bd h
  · exact bI_bd h
  · split at h
    · cases h
    · rename_i hn
      cases h
      have key : (a.toInt * b.toInt).natAbs ≤ 1000000000000 := by
        rw [Int.natAbs_mul]
        by_cases hz : a = 0
        · rw [hz]
          simp
        · have hn2 := lNle (fun z => hn ⟨hz, z⟩)
          have ha1 := absL_int ha
          have hb1 := absL_int hb
          have hz2 : a.toInt ≠ 0 := fun e => hz (Int64.toInt_inj.mp e)
          have hpos : 0 < (absL a).toInt := by rw [ha1]; omega
          rw [Int64.le_iff_toInt_le, lg_ldiv_nonneg (by decide) hpos, ha1, hb1] at hn2
          have hn2 : ((b.toInt.natAbs : Nat) : Int) ≤ 1000000000000 / ((a.toInt.natAbs : Nat) : Int) := hn2
          have : b.toInt.natAbs ≤ 1000000000000 / a.toInt.natAbs := Int.ofNat_le.mp (by rw [Int.natCast_ediv]; exact hn2)
          have h3 := Nat.mul_le_mul_left a.toInt.natAbs this
          exact Nat.le_trans h3 (Nat.mul_div_le _ _)
      unfold bI
      rw [Int64.toInt_mul, Int.bmod_eq_of_le (by omega) (by omega)]
      omega
  · split at h
    · cases h
    · cases h
      have key : (a.toInt.tdiv b.toInt).natAbs ≤ a.toInt.natAbs := by
        rw [Int.natAbs_tdiv]
        exact Nat.div_le_self _ _
      have h1 := ha.1; have h2 := ha.2
      unfold bI
      rw [Int64.toInt_div, Int.bmod_eq_of_le (by omega) (by omega)]
      omega
  · cases h
/-- all values of a list can be -/
def bL (st : List Int64) : Prop := ∀ x, x ∈ st → bI x
theorem lwS_b {T : Nat → Nat → Nat} {nm : Nat → Int64} {i : Nat} {st st2 : List Int64} (hb : bL st) (hn : ∀ i, i < 6 → bI (nm i)) (h0 : T 17 i = 0 → T 18 i ≤ 9999) (h1 : T 17 i = 1 → T 18 i < 6) (h : lwS T nm i st = some st2) : bL st2 := by
  unfold lwS at h
  split at h
  · rename_i hk
    cases h
    intro x hx
    rcases List.mem_cons.mp hx with e | e
    · rw [e]; exact bI_lN (by have := h0 hk; omega)
    · exact hb x e
  · rename_i hk
    cases h
    intro x hx
    rcases List.mem_cons.mp hx with e | e
    · rw [e]; exact hn _ (h1 hk)
    · exact hb x e
  · cases h
    intro x hx
    rcases List.mem_cons.mp hx with e | e
    · rw [e]; exact bI_01
    · exact hb x (List.mem_cons_of_mem _ e)
  · split at h
    · rename_i hj
      cases h
      intro x hx
      rcases List.mem_cons.mp hx with e | e
      · rw [e]; exact bI_jn (hb _ (List.mem_cons_of_mem _ List.mem_cons_self)) (hb _ List.mem_cons_self) hj
      · exact hb x (List.mem_cons_of_mem _ (List.mem_cons_of_mem _ e))
    · cases h
  · cases h
theorem lwJ_b {T : Nat → Nat → Nat} {nm : Nat → Int64} (hl : wfL T) (hn : ∀ i, i < 6 → bI (nm i)) : ∀ i, i ≤ T 0 9 → ∀ st, lwJ T nm i = some st → bL st
  | 0, _, st, h => by cases h; intro x hx; cases hx
  | i + 1, hi, st, h => by
    unfold lwJ at h
    cases hj : lwJ T nm i with
    | none => rw [hj] at h; cases h
    | some st0 =>
      rw [hj] at h
      have hk := hl.1 i (by omega)
      exact lwS_b (lwJ_b hl hn i (by omega) st0 hj) hn hk.2.1 hk.2.2.1 h
/-- the pile holds the values -/
def PL : List Int64 → (Nat → Int64) → Prop
  | [], _ => True
  | a :: r, p => p r.length = a ∧ PL r p
theorem PL_upd {k : Nat} {x : Int64} : ∀ {st : List Int64} {p : Nat → Int64}, PL st p → st.length ≤ k → PL st (vp_updL p k x)
  | [], _, _, _ => trivial
  | a :: r, p, h, hk => by
    have hk : r.length + 1 ≤ k := hk
    exact ⟨(pk_uLn (by omega)).trans h.1, PL_upd h.2 (by omega)⟩
/-- what a law's names are -/
def nmN (T S : Nat → Nat → Nat) (f : Nat) : Nat → Nat
  | 0 => bcN (S 1 f)
  | 1 => (vowN T (S 1 f)).toNat
  | 2 => f / T 0 0
  | 3 => f % T 0 0
  | 4 => S 0 0
  | 5 => leftN T f (S 0 0)
  | _ => 0
theorem nmN_lt {T S : Nat → Nat → Nat} (hw : wfT T) (hs : wfS T S) {f : Nat} (hf : f < 48) (i : Nat) : nmN T S f i < 2000 := by
  have hd := hs.day
  unfold nmN
  split
  · have := bcN_le (S 1 f); omega
  · cases vowN T (S 1 f) <;> decide
  · have := Nat.div_le_self f (T 0 0); omega
  · have := Nat.mod_le f (T 0 0); omega
  · omega
  · unfold leftN
    split
    · omega
    · rename_i hz
      have := cutOf hw hz
      omega
  · omega
def lwN (T S : Nat → Nat → Nat) (f : Nat) : Option Int64 := lawN T (fun i => lN (nmN T S f i))
theorem lwN_b {T S : Nat → Nat → Nat} (hw : wfT T) (hl : wfL T) (hs : wfS T S) {f : Nat} (hf : f < 48) {v : Int64} (h : lwN T S f = some v) : bI v := by
  unfold lwN lawN at h
  split at h
  · rename_i hj
    cases h
    exact lwJ_b hl (fun i _ => bI_lN (by have := nmN_lt hw hs hf i; omega)) _ (Nat.le_refl _) _ hj _ List.mem_cons_self
  · cases h
