/-! SMALL METHODS OF BOTH -/
set_option maxRecDepth 100000 in
theorem s_bitCount {d n : Nat} {Q : Option Value → Mm → Prop} {mi : Nat → Nat → Int32} {ml : Nat → Nat → Int64} {mr : Nat → Nat → Option Nat} (hn : n ≤ 136) {s : Nat} (hs : s < 512) (hQ : Q (some (.int (nI (bcN s)))) (mi, ml, mr, n)) : Cd (d + 1) 336 [.int (nI s)] (mi, ml, mr, n) Q := by
  refine r_Int_bitCount hn (fun K Kl hK hC => ?_)
  refine ⟨rfl, ?_⟩
  have e : ∀ s, s < 512 → (fun i : Int32 =>
      let i1 := i - ((i.toUInt32 >>> (Int32.toUInt32 (nI 1) &&& Int32.toUInt32 31)).toInt32 &&& nI 1431655765)
      let i2 := (i1 &&& nI 858993459) + ((i1.toUInt32 >>> (Int32.toUInt32 (nI 2) &&& Int32.toUInt32 31)).toInt32 &&& nI 858993459)
      let i3 := (i2 + (i2.toUInt32 >>> (Int32.toUInt32 (nI 4) &&& Int32.toUInt32 31)).toInt32) &&& nI 252645135
      let i4 := i3 + (i3.toUInt32 >>> (Int32.toUInt32 (nI 8) &&& Int32.toUInt32 31)).toInt32
      let i5 := i4 + (i4.toUInt32 >>> (Int32.toUInt32 (nI 16) &&& Int32.toUInt32 31)).toInt32
      i5 &&& nI 63) (nI s) = nI (bcN s) := by decide +kernel
  rw [← e s hs] at hQ
  exact hQ
theorem s_max {d n : Nat} {Q : Option Value → Mm → Prop} {mi : Nat → Nat → Int32} {ml : Nat → Nat → Int64} {mr : Nat → Nat → Option Nat} (hn : n ≤ 136) {a b : Nat} (ha : a < 2 ^ 31) (hb : b < 2 ^ 31) (hQ : Q (some (.int (nI (max a b)))) (mi, ml, mr, n)) : Cd (d + 1) 337 [.int (nI a), .int (nI b)] (mi, ml, mr, n) Q := by
  refine r_Math_max hn (fun K Kl hK hC => ?_)
  refine ⟨fun h => ⟨rfl, ?_⟩, fun h => ⟨rfl, ?_⟩⟩
  · have h := iLT h
    rw [Nat.max_eq_right (by omega)] at hQ
    exact hQ
  · have h := iNLT h
    rw [Nat.max_eq_left (by omega)] at hQ
    exact hQ
theorem s_min {d n : Nat} {Q : Option Value → Mm → Prop} {mi : Nat → Nat → Int32} {ml : Nat → Nat → Int64} {mr : Nat → Nat → Option Nat} (hn : n ≤ 136) {a b : Nat} (ha : a < 2 ^ 31) (hb : b < 2 ^ 31) (hQ : Q (some (.int (nI (min a b)))) (mi, ml, mr, n)) : Cd (d + 1) 338 [.int (nI a), .int (nI b)] (mi, ml, mr, n) Q := by
  refine r_Math_min hn (fun K Kl hK hC => ?_)
  refine ⟨fun h => ⟨rfl, ?_⟩, fun h => ⟨rfl, ?_⟩⟩
  · have h := iLT h
    rw [Nat.min_eq_right (by omega)] at hQ
    exact hQ
  · have h := iNLT h
    rw [Nat.min_eq_left (by omega)] at hQ
    exact hQ
