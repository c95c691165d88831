/-! TOKENS: bytes b, the first n of them -/
def isBl (c : Nat) : Bool := c == 32 || c == 10
def isDg (c : Nat) : Bool := decide (48 ≤ c) && decide (c ≤ 57)
def isLt (c : Nat) : Bool := decide (97 ≤ c) && decide (c ≤ 122)
/-- the end of a run of p's from i on -/
def runF (p : Nat → Bool) (b : Nat → Nat) (n : Nat) : Nat → Nat → Nat
  | 0, i => i
  | f + 1, i => if i < n ∧ p (b i) = true then runF p b n f (i + 1) else i
def runE (p : Nat → Bool) (b : Nat → Nat) (n i : Nat) : Nat := runF p b n (n - i) i
theorem runE_s {p : Nat → Bool} {b : Nat → Nat} {n i : Nat} (h : i < n) (hp : p (b i) = true) : runE p b n i = runE p b n (i + 1) := by
  unfold runE
  rw [show n - i = (n - (i + 1)) + 1 by omega, runF, if_pos ⟨h, hp⟩]
theorem runE_0 {p : Nat → Bool} {b : Nat → Nat} {n i : Nat} (h : ¬ (i < n ∧ p (b i) = true)) : runE p b n i = i := by
  unfold runE
  cases n - i with
  | zero => rfl
  | succ f => rw [runF, if_neg h]
theorem runF_le {p : Nat → Bool} {b : Nat → Nat} {n : Nat} : ∀ f i, i ≤ n → i ≤ runF p b n f i ∧ runF p b n f i ≤ n
  | 0, i, h => ⟨Nat.le_refl _, h⟩
  | f + 1, i, h => by
    unfold runF
    split
    · have := runF_le (p := p) (b := b) (n := n) f (i + 1) (by omega)
      omega
    · exact ⟨Nat.le_refl _, h⟩
theorem runE_le {p : Nat → Bool} {b : Nat → Nat} {n i : Nat} (h : i ≤ n) : i ≤ runE p b n i ∧ runE p b n i ≤ n := runF_le _ _ h
theorem runE_ne {p : Nat → Bool} {b : Nat → Nat} {n : Nat} : ∀ i, i ≤ n → runE p b n i < n → p (b (runE p b n i)) = false := by
  refine upto (fun h => absurd h (by have := runE_le (p := p) (b := b) (Nat.le_refl n); omega)) ?_
  intro i hi ih h
  by_cases hp : p (b i) = true
  · rw [runE_s hi hp] at h ⊢
    exact ih h
  · rw [runE_0 (fun z => hp z.2)]
    simpa using hp
/-- a number's value -/
def nuF (b : Nat → Nat) (n : Nat) : Nat → Nat → Nat → Nat
  | 0, _, a => a
  | f + 1, i, a => if i < n ∧ isDg (b i) = true then nuF b n f (i + 1) (min 1000000 (a * 10 + b i - 48)) else a
def nuV (b : Nat → Nat) (n i a : Nat) : Nat := nuF b n (n - i) i a
theorem nuV_s {b : Nat → Nat} {n i a : Nat} (h : i < n) (hp : isDg (b i) = true) : nuV b n i a = nuV b n (i + 1) (min 1000000 (a * 10 + b i - 48)) := by
  unfold nuV
  rw [show n - i = (n - (i + 1)) + 1 by omega, nuF, if_pos ⟨h, hp⟩]
theorem nuV_0 {b : Nat → Nat} {n i a : Nat} (h : ¬ (i < n ∧ isDg (b i) = true)) : nuV b n i a = a := by
  unfold nuV
  cases n - i with
  | zero => rfl
  | succ f => rw [nuF, if_neg h]
/-- a word's first six letters -/
def wdF (b : Nat → Nat) (n : Nat) : Nat → Nat → Nat → Nat → Nat
  | 0, _, _, a => a
  | f + 1, i, l, a => if i < n ∧ isLt (b i) = true then wdF b n f (i + 1) (l + 1) (if l < 6 then a + (b i - 96) * 32 ^ (5 - l) else a) else a
def wdV (b : Nat → Nat) (n i l a : Nat) : Nat := wdF b n (n - i) i l a
theorem wdV_s {b : Nat → Nat} {n i l a : Nat} (h : i < n) (hp : isLt (b i) = true) : wdV b n i l a = wdV b n (i + 1) (l + 1) (if l < 6 then a + (b i - 96) * 32 ^ (5 - l) else a) := by
  unfold wdV
  rw [show n - i = (n - (i + 1)) + 1 by omega, wdF, if_pos ⟨h, hp⟩]
theorem wdV_0 {b : Nat → Nat} {n i l a : Nat} (h : ¬ (i < n ∧ isLt (b i) = true)) : wdV b n i l a = a := by
  unfold wdV
  cases n - i with
  | zero => rfl
  | succ f => rw [wdF, if_neg h]
/-- a language's letter: 0 a blank -/
def lcl (j : Nat) : Nat := if lch j = 32 then 0 else lch j - 96
def isKw (name w : Nat) : Bool := allN (fun k => letN name k == lcl (w * 6 + k)) 6
def kwK (name : Nat) : Nat := if fnd (isKw name) 26 < 26 then 20 + fnd (isKw name) 26 else 2
/-- a sign's kind, its length; c2 what is behind it -/
def sgK (c c2 : Nat) : Nat := if c = 59 then 4 else if c = 40 then 5 else if c = 41 then 6 else if c = 43 then 7 else if c = 45 then 8 else if c = 42 then 9 else if c = 47 then 10 else if c = 61 then 13 else if c = 60 then (if c2 = 61 then 12 else if c2 = 62 then 14 else 11) else if c = 62 then (if c2 = 61 then 15 else 16) else 3
def sgL (c c2 : Nat) : Nat := if (c = 60 ∧ (c2 = 61 ∨ c2 = 62)) ∨ (c = 62 ∧ c2 = 61) then 2 else 1
def bhN (b : Nat → Nat) (n i : Nat) : Nat := if i + 1 < n then b (i + 1) else 0
/-- the token at i -/
def tkK (b : Nat → Nat) (n i : Nat) : Nat := if isDg (b i) then 1 else if isLt (b i) then (if 6 < runE isLt b n i - i then 3 else kwK (wdV b n i 0 0)) else sgK (b i) (bhN b n i)
def tkV (b : Nat → Nat) (n i : Nat) : Nat := if isDg (b i) then nuV b n i 0 else if isLt (b i) then wdV b n i 0 0 else 0
def tkE (b : Nat → Nat) (n i : Nat) : Nat := if isDg (b i) then runE isDg b n i else if isLt (b i) then runE isLt b n i else i + sgL (b i) (bhN b n i)
/-- where the j-th token begins -/
def psN (b : Nat → Nat) (n : Nat) : Nat → Nat
  | 0 => runE isBl b n 0
  | j + 1 => if psN b n j < n then runE isBl b n (tkE b n (psN b n j)) else n
def tK (b : Nat → Nat) (n j : Nat) : Nat := if psN b n j < n then tkK b n (psN b n j) else 0
def tV (b : Nat → Nat) (n j : Nat) : Nat := if psN b n j < n then tkV b n (psN b n j) else 0
theorem tkE_le {b : Nat → Nat} {n i : Nat} (h : i < n) : i < tkE b n i ∧ tkE b n i ≤ n := by
  unfold tkE
  split
  · rename_i hp
    rw [runE_s h hp]
    have := runE_le (p := isDg) (b := b) (show i + 1 ≤ n by omega)
    omega
  · split
    · rename_i hp
      rw [runE_s h hp]
      have := runE_le (p := isLt) (b := b) (show i + 1 ≤ n by omega)
      omega
    · by_cases hn : i + 1 < n
      · unfold sgL
        split <;> omega
      · have : bhN b n i = 0 := if_neg hn
        unfold sgL
        rw [this, if_neg (by omega)]
        omega
theorem psN_le {b : Nat → Nat} {n : Nat} : ∀ j, psN b n j ≤ n ∧ (psN b n j < n → j ≤ psN b n j)
  | 0 => ⟨(runE_le (Nat.zero_le _)).2, fun _ => Nat.zero_le _⟩
  | j + 1 => by
    have ih := psN_le (b := b) (n := n) j
    unfold psN
    split
    · rename_i h
      have h1 := tkE_le (b := b) h
      have h2 := runE_le (p := isBl) (b := b) h1.2
      exact ⟨h2.2, fun _ => by have := ih.2 h; omega⟩
    · exact ⟨Nat.le_refl _, fun z => absurd z (by omega)⟩
/-- the class's bytes, end, at -/
def TM (b : Nat → Nat) (n i : Nat) (mi : Nat → Nat → Int32) : Prop := (∀ k, k < n → mi 1 k = nI (b k) ∧ b k < 256) ∧ n ≤ 700 ∧ mi 2 4 = nI n ∧ mi 2 5 = nI i
theorem atS (mi : Nat → Nat → Int32) (x y : Int32) : cu (cu mi 2 (upd (mi 2) 5 x)) 2 (upd (cu mi 2 (upd (mi 2) 5 x) 2) 5 y) = cu mi 2 (upd (mi 2) 5 y) := by rw [cuu, upd_upd]
theorem upd_id (f : Nat → Int32) (k : Nat) {x : Int32} (h : f k = x) : upd f k x = f := by
  funext a
  unfold upd
  split
  · rename_i e; rw [e, h]
  · rfl
section
variable {d : Nat} {Q : Option Value → Mm → Prop} {mi : Nat → Nat → Int32} {ml : Nat → Nat → Int64} {rd : Option Nat} {b : Nat → Nat} {n : Nat}
theorem s_isDigit {c : Nat} (hc : c < 256) (h1 : isDg c = true → Q (some (.int (nI 1))) (mi, ml, R0 rd, 136)) (h0 : isDg c = false → Q (some (.int (nI 0))) (mi, ml, R0 rd, 136)) : Cd (d + 1) k_Tokens_isDigit [.int (nI c)] (mi, ml, R0 rd, 136) Q := by
  refine r_Tokens_isDigit (by decide) (fun K Kl hK hC => ⟨fun h => ⟨Or.inl rfl, rfl, h0 ?_⟩, fun h => ⟨fun h2 => ⟨Or.inl rfl, rfl, h0 ?_⟩, fun h2 => ⟨Or.inr rfl, rfl, h1 ?_⟩⟩⟩)
  · have := iLT h
    unfold isDg
    rw [decide_eq_false (by omega), Bool.false_and]
  · have := iLT h2
    unfold isDg
    rw [decide_eq_false (show ¬ c ≤ 57 by omega), Bool.and_false]
  · have := iNLT h
    have := iNLT h2
    unfold isDg
    rw [decide_eq_true (by omega), decide_eq_true (by omega), Bool.and_true]
theorem s_isLetter {c : Nat} (hc : c < 256) (h1 : isLt c = true → Q (some (.int (nI 1))) (mi, ml, R0 rd, 136)) (h0 : isLt c = false → Q (some (.int (nI 0))) (mi, ml, R0 rd, 136)) : Cd (d + 1) k_Tokens_isLetter [.int (nI c)] (mi, ml, R0 rd, 136) Q := by
  refine r_Tokens_isLetter (by decide) (fun K Kl hK hC => ⟨fun h => ⟨Or.inl rfl, rfl, h0 ?_⟩, fun h => ⟨fun h2 => ⟨Or.inl rfl, rfl, h0 ?_⟩, fun h2 => ⟨Or.inr rfl, rfl, h1 ?_⟩⟩⟩)
  · have := iLT h
    unfold isLt
    rw [decide_eq_false (by omega), Bool.false_and]
  · have := iLT h2
    unfold isLt
    rw [decide_eq_false (show ¬ c ≤ 122 by omega), Bool.and_false]
  · have := iNLT h
    have := iNLT h2
    unfold isLt
    rw [decide_eq_true (by omega), decide_eq_true (by omega), Bool.and_true]
theorem s_skipBlanks {i : Nat} (hM : TM b n i mi) (hi : i ≤ n) (hQ : Q none (cu mi 2 (upd (mi 2) 5 (nI (runE isBl b n i))), ml, R0 rd, 136)) : Cd (d + 1) k_Tokens_skipBlanks [.ref 2] (mi, ml, R0 rd, 136) Q := by
  obtain ⟨hb, h700, e4, e5⟩ := hM
  have lp : ∀ i, i ≤ n → Q none (cu mi 2 (upd (mi 2) 5 (nI (runE isBl b n i))), ml, R0 rd, 136) → GoM d k_Tokens_skipBlanks 136 Q 0 [.ref 2] [] (cu mi 2 (upd (mi 2) 5 (nI i)), ml, R0 rd, 136) := by
    refine upto ?_ ?_
    · intro hQ
      rw [runE_0 (fun z => absurd z.1 (by omega))] at hQ
      refine g_Tokens_skipBlanks (fun K Kl hK hC => ⟨fun _ => ⟨rfl, hQ⟩, fun h => ?_⟩)
      have h : ¬ mi 2 4 ≤ nI n := h
      rw [e4] at h
      exact absurd (iNLE h) (by omega)
    · intro i hi ih hQ
      have hbi := hb i hi
      have step : isBl (b i) = true → GoM d k_Tokens_skipBlanks 136 Q 0 [.ref 2] [] (cu (cu mi 2 (upd (mi 2) 5 (nI i))) 2 (upd (cu mi 2 (upd (mi 2) 5 (nI i)) 2) 5 (nI i + nI 1)), ml, R0 rd, 136) := by
        intro hp
        rw [runE_s hi hp] at hQ
        rw [atS, ← nI1]
        exact ih hQ
      refine g_Tokens_skipBlanks (fun K Kl hK hC => ⟨fun h => ?_, fun _ => ⟨i, by omega, rfl, ?_⟩⟩)
      · have h : mi 2 4 ≤ nI i := h
        rw [e4] at h
        exact absurd (iLE h) (by omega)
      rw [show cu mi 2 (upd (mi 2) 5 (nI i)) 1 = mi 1 from rfl, hbi.1]
      refine ⟨fun h => hK _ _ _ _ (step ?_), fun h => ⟨i, by omega, rfl, ?_⟩⟩
      · have := iEQ h
        unfold isBl
        rw [this]
        rfl
      rw [show cu mi 2 (upd (mi 2) 5 (nI i)) 1 = mi 1 from rfl, hbi.1]
      refine ⟨fun h2 => ⟨rfl, ?_⟩, fun h2 => hK _ _ _ _ (step ?_)⟩
      · rw [runE_0 (fun z => by
          have z := z.2
          unfold isBl at z
          rw [Bool.or_eq_true, beq_iff_eq, beq_iff_eq] at z
          exact z.elim (iNE h) (iNE h2))] at hQ
        exact hQ
      · have := iEQ h2
        unfold isBl
        rw [this]
        rfl
  have := lp i hi hQ
  rw [upd_id (mi 2) 5 e5, cu_id] at this
  exact cdM (by decide) (Nat.le_of_ble_eq_true rfl) (Nat.le_refl 136) rfl this
theorem s_lessAt {i c2 : Nat} (hc : c2 < 256) (e5 : mi 2 5 = nI i) (hQ : Q (some (.int (nI (sgK 60 c2)))) (cu mi 2 (upd (mi 2) 5 (nI (i + sgL 60 c2 - 1))), ml, R0 rd, 136)) : Cd (d + 1) k_Tokens_lessAt [.ref 2, .int (nI c2)] (mi, ml, R0 rd, 136) Q := by
  have two : c2 = 61 ∨ c2 = 62 → nI (i + sgL 60 c2 - 1) = mi 2 5 + nI 1 := fun h => by
    rw [e5, nI_add]
    unfold sgL
    rw [if_pos (Or.inl ⟨rfl, h⟩)]
    rfl
  refine r_Tokens_lessAt (by decide) (fun K Kl hK hC => ⟨fun h => ?_, fun h => ⟨fun h2 => ⟨rfl, ?_⟩, fun h2 => ?_⟩⟩)
  · have h1 := iEQ h
    rw [two (Or.inl h1)] at hQ
    subst h1
    exact ⟨fun z => absurd rfl z, fun _ => ⟨rfl, hQ⟩⟩
  · have h1 := iNE h
    have h3 := iNE h2
    have e : sgK 60 c2 = 11 := by unfold sgK; simp [h1, h3]
    have e2 : sgL 60 c2 = 1 := by unfold sgL; simp [h1, h3]
    rw [e, e2, Nat.add_sub_cancel, upd_id (mi 2) 5 e5, cu_id] at hQ
    exact hQ
  · have h1 := iEQ h2
    rw [two (Or.inr h1)] at hQ
    subst h1
    exact ⟨fun _ => ⟨rfl, hQ⟩, fun z => absurd z (by decide)⟩
theorem s_moreAt {i c2 : Nat} (hc : c2 < 256) (e5 : mi 2 5 = nI i) (hQ : Q (some (.int (nI (sgK 62 c2)))) (cu mi 2 (upd (mi 2) 5 (nI (i + sgL 62 c2 - 1))), ml, R0 rd, 136)) : Cd (d + 1) k_Tokens_moreAt [.ref 2, .int (nI c2)] (mi, ml, R0 rd, 136) Q := by
  refine r_Tokens_moreAt (by decide) (fun K Kl hK hC => ⟨fun h => ⟨rfl, ?_⟩, fun h => ⟨rfl, ?_⟩⟩)
  · have h1 := iNE h
    have e : sgK 62 c2 = 16 := by unfold sgK; simp [h1]
    have e2 : sgL 62 c2 = 1 := by unfold sgL; simp [h1]
    rw [e, e2, Nat.add_sub_cancel, upd_id (mi 2) 5 e5, cu_id] at hQ
    exact hQ
  · have h1 := iEQ h
    subst h1
    have e2 : nI (i + sgL 62 61 - 1) = mi 2 5 + nI 1 := by
      rw [e5, nI_add]
      rfl
    rw [e2] at hQ
    exact hQ
end
