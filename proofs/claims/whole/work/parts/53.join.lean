/-! THE LAW: two values joined (the class) -/
def bdN (x : Int64) : Option Int64 := if 1000000000000 < x ∨ x < -1000000000000 then none else some x
def absL (x : Int64) : Int64 := if x < 0 then -x else x
/-- two values joined by the sign k; none: an error -/
def jnN (k : Nat) (a b : Int64) : Option Int64 := match k with
  | 3 => some (if a ≠ 0 ∧ b ≠ 0 then 1 else 0)
  | 4 => some (if a ≠ 0 ∨ b ≠ 0 then 1 else 0)
  | 5 => some (if a < b then 1 else 0)
  | 6 => some (if a ≤ b then 1 else 0)
  | 7 => some (if a = b then 1 else 0)
  | 8 => some (if a ≠ b then 1 else 0)
  | 9 => some (if b ≤ a then 1 else 0)
  | 10 => some (if b < a then 1 else 0)
  | 11 => bdN (a + b)
  | 12 => bdN (a - b)
  | 13 => if a ≠ 0 ∧ 1000000000000 / absL a < absL b then none else some (a * b)
  | 14 => if b = 0 then none else some (a / b)
  | _ => none
def oe (r : Option Int64) : Int64 := match r with
  | none => -9223372036854775808
  | some x => x
theorem cGe {x y : Int64} (h : 0 ≤ lg_cmp x y) : y ≤ x := (lg_cmp_ge x y).mp h
theorem cNGe {x y : Int64} (h : ¬ 0 ≤ lg_cmp x y) : ¬ y ≤ x := fun z => h ((lg_cmp_ge x y).mpr z)
theorem cLe {x y : Int64} (h : lg_cmp x y ≤ 0) : x ≤ y := (lg_cmp_le x y).mp h
theorem cNLe {x y : Int64} (h : ¬ lg_cmp x y ≤ 0) : ¬ x ≤ y := fun z => h ((lg_cmp_le x y).mpr z)
theorem cGt {x y : Int64} (h : 0 < lg_cmp x y) : y < x := (lg_cmp_gt x y).mp h
theorem cNGt {x y : Int64} (h : ¬ 0 < lg_cmp x y) : ¬ y < x := fun z => h ((lg_cmp_gt x y).mpr z)
theorem cLt {x y : Int64} (h : lg_cmp x y < 0) : x < y := (lg_cmp_lt x y).mp h
theorem cNLt {x y : Int64} (h : ¬ lg_cmp x y < 0) : ¬ x < y := fun z => h ((lg_cmp_lt x y).mpr z)
theorem cEq {x y : Int64} (h : lg_cmp x y = 0) : x = y := (lg_cmp_eq x y).mp h
theorem cNEq {x y : Int64} (h : ¬ lg_cmp x y = 0) : ¬ x = y := fun z => h ((lg_cmp_eq x y).mpr z)
theorem lNlt {a b : Int64} (h : ¬ a ≤ b) : b < a := Int64.not_le.mp h
theorem lNle {a b : Int64} (h : ¬ a < b) : b ≤ a := Int64.not_lt.mp h
theorem absL_ne {a : Int64} (h : a ≠ 0) : absL a ≠ 0 := by
  unfold absL
  split
  · intro e
    exact h (by rw [← Int64.neg_neg (a := a), e]; rfl)
  · exact h
section
variable {d : Nat} {Q : Option Value → Mm → Prop} {T S : Nat → Nat → Nat} {mi : Nat → Nat → Int32} {ml : Nat → Nat → Int64} {rd : Option Nat}
theorem s_bounded {x : Int64} (hQ : Q (some (.long (oe (bdN x)))) (mi, ml, R0 rd, 136)) : Cd (d + 1) k_Law_bounded [.long x] (mi, ml, R0 rd, 136) Q := by
  unfold bdN at hQ
  refine r_Law_bounded (by decide) (fun K Kl hK hC => ?_)
  refine ⟨fun h => ⟨rfl, ?_⟩, fun h => ⟨fun h2 => ⟨rfl, ?_⟩, fun h2 => ⟨rfl, ?_⟩⟩⟩
  · rw [if_pos (Or.inl (cGt h))] at hQ; exact hQ
  · rw [if_neg (fun e => e.elim (cNGt h) (lg_le_not_lt (cGe h2)))] at hQ; exact hQ
  · rw [if_pos (Or.inr (lNlt (cNGe h2)))] at hQ; exact hQ
theorem s_product {a b : Int64} (hQ : Q (some (.long (oe (jnN 13 a b)))) (mi, ml, R0 rd, 136)) : Cd (d + 1) k_Law_product [.long a, .long b] (mi, ml, R0 rd, 136) Q := by
  have key : ∀ x y : Int64, absL a = x → absL b = y → (¬ x = 0 ∧ 1000000000000 / x < y → Q (some (.long (-9223372036854775808))) (mi, ml, R0 rd, 136)) ∧ (¬ (¬ x = 0 ∧ 1000000000000 / x < y) → Q (some (.long (a * b))) (mi, ml, R0 rd, 136)) := by
    intro x y hx hy
    have hz : a = 0 ↔ x = 0 := ⟨fun h => by rw [← hx, h]; rfl, fun h => Classical.byContradiction (fun z => absL_ne z (hx.trans h))⟩
    have hQ : Q (some (.long (oe (if a ≠ 0 ∧ 1000000000000 / absL a < absL b then none else some (a * b))))) (mi, ml, R0 rd, 136) := hQ
    rw [hx, hy] at hQ
    constructor
    · intro h
      rw [if_pos ⟨fun z => h.1 (hz.mp z), h.2⟩] at hQ
      exact hQ
    · intro h
      rw [if_neg (fun e => h ⟨fun z => e.1 (hz.mpr z), e.2⟩)] at hQ
      exact hQ
  have pa : ¬ a < 0 → absL a = a := fun h => if_neg h
  have na : a < 0 → absL a = -a := fun h => if_pos h
  have pb : ¬ b < 0 → absL b = b := fun h => if_neg h
  have nb : b < 0 → absL b = -b := fun h => if_pos h
  refine r_Law_product (by decide) (fun K Kl hK hC => ?_)
  refine ⟨fun h => ?_, fun h => ?_⟩
  · have hx := pa (lg_le_not_lt (cGe h))
    refine ⟨fun h => ?_, fun h => ?_⟩
    · have hy := pb (lg_le_not_lt (cGe h))
      obtain ⟨k1, k2⟩ := key _ _ hx hy
      exact ⟨fun h => ⟨rfl, k2 (fun e => e.1 (cEq h))⟩, fun h => ⟨cNEq h, fun h2 => ⟨rfl, k2 (fun e => lg_lt_not_le e.2 (cLe h2))⟩, fun h2 => ⟨rfl, k1 ⟨cNEq h, lNlt (cNLe h2)⟩⟩⟩⟩
    · have hy := nb (lNlt (cNGe h))
      obtain ⟨k1, k2⟩ := key _ _ hx hy
      exact ⟨fun h => ⟨rfl, k2 (fun e => e.1 (cEq h))⟩, fun h => ⟨cNEq h, fun h2 => ⟨rfl, k2 (fun e => lg_lt_not_le e.2 (cLe h2))⟩, fun h2 => ⟨rfl, k1 ⟨cNEq h, lNlt (cNLe h2)⟩⟩⟩⟩
  · have hx := na (lNlt (cNGe h))
    refine ⟨fun h => ?_, fun h => ?_⟩
    · have hy := pb (lg_le_not_lt (cGe h))
      obtain ⟨k1, k2⟩ := key _ _ hx hy
      exact ⟨fun h => ⟨rfl, k2 (fun e => e.1 (cEq h))⟩, fun h => ⟨cNEq h, fun h2 => ⟨rfl, k2 (fun e => lg_lt_not_le e.2 (cLe h2))⟩, fun h2 => ⟨rfl, k1 ⟨cNEq h, lNlt (cNLe h2)⟩⟩⟩⟩
    · have hy := nb (lNlt (cNGe h))
      obtain ⟨k1, k2⟩ := key _ _ hx hy
      exact ⟨fun h => ⟨rfl, k2 (fun e => e.1 (cEq h))⟩, fun h => ⟨cNEq h, fun h2 => ⟨rfl, k2 (fun e => lg_lt_not_le e.2 (cLe h2))⟩, fun h2 => ⟨rfl, k1 ⟨cNEq h, lNlt (cNLe h2)⟩⟩⟩⟩
theorem s_join {k x : Nat} (hk : 3 ≤ k ∧ k ≤ 14) {a b : Int64} (hQ : Q (some (.long (oe (jnN k a b)))) (mi, ml, R0 rd, 136)) : Cd (d + 2) k_Law_join [.int (nI (kcN k x)), .long a, .long b] (mi, ml, R0 rd, 136) Q := by
  have : k = 3 ∨ k = 4 ∨ k = 5 ∨ k = 6 ∨ k = 7 ∨ k = 8 ∨ k = 9 ∨ k = 10 ∨ k = 11 ∨ k = 12 ∨ k = 13 ∨ k = 14 := by omega
  generalize hc : kcN k x = c
  refine r_Law_join (by decide) (fun K Kl hK hC => ?_)
  rcases this with rfl | rfl | rfl | rfl | rfl | rfl | rfl | rfl | rfl | rfl | rfl | rfl
  · have hQ : Q (some (.long (if a ≠ 0 ∧ b ≠ 0 then 1 else 0))) (mi, ml, R0 rd, 136) := hQ
    have hc : c = 38 := hc.symm
    subst hc
    iterate 32 (first | (refine ⟨fun h => absurd h (by decide), fun _ => ?_⟩) | skip)
    refine ⟨fun _ => ?_, fun h => absurd rfl h⟩
    refine ⟨fun h => ⟨rfl, ?_⟩, fun h => ⟨fun h2 => ⟨rfl, ?_⟩, fun h2 => ⟨rfl, ?_⟩⟩⟩
    · rw [if_neg (fun e => e.1 (cEq h))] at hQ; exact hQ
    · rw [if_neg (fun e => e.2 (cEq h2))] at hQ; exact hQ
    · rw [if_pos ⟨cNEq h, cNEq h2⟩] at hQ; exact hQ
  · have hQ : Q (some (.long (if a ≠ 0 ∨ b ≠ 0 then 1 else 0))) (mi, ml, R0 rd, 136) := hQ
    have hc : c = 37 := hc.symm
    subst hc
    iterate 32 (first | (refine ⟨fun h => absurd h (by decide), fun _ => ?_⟩) | skip)
    refine ⟨fun _ => ?_, fun h => absurd rfl h⟩
    refine ⟨fun h => ⟨rfl, ?_⟩, fun h => ⟨fun h2 => ⟨rfl, ?_⟩, fun h2 => ⟨rfl, ?_⟩⟩⟩
    · rw [if_pos (Or.inl (cNEq h))] at hQ; exact hQ
    · rw [if_neg (fun e => e.elim (fun z => z (cEq h)) (fun z => z (cEq h2)))] at hQ; exact hQ
    · rw [if_pos (Or.inr (cNEq h2))] at hQ; exact hQ
  · have hQ : Q (some (.long (if a < b then 1 else 0))) (mi, ml, R0 rd, 136) := hQ
    have hc : c = 11 := hc.symm
    subst hc
    iterate 32 (first | (refine ⟨fun h => absurd h (by decide), fun _ => ?_⟩) | skip)
    refine ⟨fun _ => ?_, fun h => absurd rfl h⟩
    refine ⟨fun h => ⟨rfl, ?_⟩, fun h => ⟨rfl, ?_⟩⟩
    · rw [if_neg (lg_le_not_lt (cGe h))] at hQ; exact hQ
    · rw [if_pos (lNlt (cNGe h))] at hQ; exact hQ
  · have hQ : Q (some (.long (if a ≤ b then 1 else 0))) (mi, ml, R0 rd, 136) := hQ
    have hc : c = 12 := hc.symm
    subst hc
    iterate 32 (first | (refine ⟨fun h => absurd h (by decide), fun _ => ?_⟩) | skip)
    refine ⟨fun _ => ?_, fun h => absurd rfl h⟩
    refine ⟨fun h => ⟨rfl, ?_⟩, fun h => ⟨rfl, ?_⟩⟩
    · rw [if_neg (lg_lt_not_le (cGt h))] at hQ; exact hQ
    · rw [if_pos (lNle (cNGt h))] at hQ; exact hQ
  · have hQ : Q (some (.long (if a = b then 1 else 0))) (mi, ml, R0 rd, 136) := hQ
    have hc : c = 13 := hc.symm
    subst hc
    iterate 32 (first | (refine ⟨fun h => absurd h (by decide), fun _ => ?_⟩) | skip)
    refine ⟨fun _ => ?_, fun h => absurd rfl h⟩
    refine ⟨fun h => ⟨rfl, ?_⟩, fun h => ⟨rfl, ?_⟩⟩
    · rw [if_neg (cNEq h)] at hQ; exact hQ
    · rw [if_pos (cEq h)] at hQ; exact hQ
  · have hQ : Q (some (.long (if a ≠ b then 1 else 0))) (mi, ml, R0 rd, 136) := hQ
    have hc : c = 14 := hc.symm
    subst hc
    iterate 32 (first | (refine ⟨fun h => absurd h (by decide), fun _ => ?_⟩) | skip)
    refine ⟨fun _ => ?_, fun h => absurd rfl h⟩
    refine ⟨fun h => ⟨rfl, ?_⟩, fun h => ⟨rfl, ?_⟩⟩
    · rw [if_neg (fun e => e (cEq h))] at hQ; exact hQ
    · rw [if_pos (cNEq h)] at hQ; exact hQ
  · have hQ : Q (some (.long (if b ≤ a then 1 else 0))) (mi, ml, R0 rd, 136) := hQ
    have hc : c = 15 := hc.symm
    subst hc
    iterate 32 (first | (refine ⟨fun h => absurd h (by decide), fun _ => ?_⟩) | skip)
    refine ⟨fun _ => ?_, fun h => absurd rfl h⟩
    refine ⟨fun h => ⟨rfl, ?_⟩, fun h => ⟨rfl, ?_⟩⟩
    · rw [if_neg (lg_lt_not_le (cLt h))] at hQ; exact hQ
    · rw [if_pos (lNle (cNLt h))] at hQ; exact hQ
  · have hQ : Q (some (.long (if b < a then 1 else 0))) (mi, ml, R0 rd, 136) := hQ
    have hc : c = 16 := hc.symm
    subst hc
    iterate 32 (first | (refine ⟨fun h => absurd h (by decide), fun _ => ?_⟩) | skip)
    refine ⟨fun _ => ?_, fun h => absurd rfl h⟩
    refine ⟨fun h => ⟨rfl, ?_⟩, fun h => ⟨rfl, ?_⟩⟩
    · rw [if_neg (lg_le_not_lt (cLe h))] at hQ; exact hQ
    · rw [if_pos (lNlt (cNLe h))] at hQ; exact hQ
  · have hc : c = 7 := hc.symm
    subst hc
    iterate 32 (first | (refine ⟨fun h => absurd h (by decide), fun _ => ?_⟩) | skip)
    refine ⟨fun _ => ?_, fun h => absurd rfl h⟩
    exact hC _ _ _ _ (s_bounded ⟨rfl, hQ⟩)
  · have hc : c = 8 := hc.symm
    subst hc
    iterate 32 (first | (refine ⟨fun h => absurd h (by decide), fun _ => ?_⟩) | skip)
    refine ⟨fun _ => ?_, fun h => absurd rfl h⟩
    exact hC _ _ _ _ (s_bounded ⟨rfl, hQ⟩)
  · have hc : c = 9 := hc.symm
    subst hc
    iterate 32 (first | (refine ⟨fun h => absurd h (by decide), fun _ => ?_⟩) | skip)
    refine ⟨fun _ => ?_, fun h => absurd rfl h⟩
    exact hC _ _ _ _ (s_product ⟨rfl, hQ⟩)
  · have hQ : Q (some (.long (oe (if b = 0 then none else some (a / b))))) (mi, ml, R0 rd, 136) := hQ
    have hc : c = 10 := hc.symm
    subst hc
    iterate 32 (first | (refine ⟨fun h => absurd h (by decide), fun _ => ?_⟩) | skip)
    refine ⟨fun _ => ?_, fun h => absurd rfl h⟩
    refine ⟨fun h => ⟨cNEq h, rfl, ?_⟩, fun h => ⟨rfl, ?_⟩⟩
    · rw [if_neg (cNEq h)] at hQ; exact hQ
    · rw [if_pos (cEq h)] at hQ; exact hQ
end
