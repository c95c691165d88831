/-! A STEP OF THE LAW -/
theorem m_L_ok : asc m_L = true ∧ linked m_L = true := by decide +kernel
theorem m_L_dec : m_L.all (fun e => match decode code e.1 with
  | .ok (i, n) => decide (i = e.2.1) && Nat.beq n e.2.2.1
  | _ => false) = true := by decide +kernel
theorem m_L_okB : m_L.all (fun e => Nat.beq e.2.2.2.2.1 15 || Nat.beq e.1 398 || okB 16 7 e) = true := by decide +kernel
theorem m_L_15 : m_L.all (fun e => !Nat.beq e.2.2.2.2.1 15 || (Nat.beq e.2.2.2.2.2.1.1 2000 && Nat.beq e.2.2.2.2.2.1.2.1 2) || (Nat.beq e.2.2.2.2.2.1.1 2001 && Nat.beq e.2.2.2.2.2.1.2.1 1)) = true := by decide +kernel
/-- the law's calls: those of the two sides, the script's cells, its length -/
def ClL (d L : Nat) (xs : Nat → Int32) (k : Nat) (as : List Value) (M : Mm) (P : Option Value → Mm → Prop) : Prop := Cd d k as M P ∨ (k = 2000 ∧ ∃ j, j < L ∧ as = [.ref 901, .int (nI j)] ∧ P (some (.int (xs j))) M) ∨ (k = 2001 ∧ as = [.ref 901] ∧ P (some (.int (nI L))) M)
theorem ClL_mono {d L : Nat} {xs : Nat → Int32} (k : Nat) (as : List Value) (M : Mm) (P P' : Option Value → Mm → Prop) (hp : ∀ r M', P r M' → P' r M') (h : ClL d L xs k as M P) : ClL d L xs k as M P' := by
  rcases h with h | ⟨h1, j, h2, h3, h4⟩ | ⟨h1, h2, h3⟩
  · exact Or.inl (Cd_mono d k as M P P' hp h)
  · exact Or.inr (Or.inl ⟨h1, j, h2, h3, hp _ _ h4⟩)
  · exact Or.inr (Or.inr ⟨h1, h2, hp _ _ h3⟩)
