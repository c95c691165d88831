/-! SIGNS (the class) -/
theorem ndN_le {T : Nat → Nat → Nat} (hw : wfT T) (m c : Nat) : ndN T m c ≤ 20 := by
  have h5 := hw.sg5
  have : ndN T m c ≤ T 0 7 * 4 := sumN_bd (fun s hs => by
    have hl := hw.sl s hs
    unfold ndS
    split
    · omega
    · have : sumN (fun k => if T 15 (4 * s + k) = c then 1 else 0) (T 14 s) ≤ T 14 s := sumN_le (fun i => by split <;> omega)
      omega)
  omega
def hpN (T : Nat → Nat → Nat) (m : Nat) : Bool := allN (fun c => decide (ndN T m c ≤ T 12 c)) (T 0 6)
def misN (T : Nat → Nat → Nat) (m : Nat) : Nat := sumN (fun c => ndN T m c - T 12 c) (T 0 6)
/-- the signs that a row of n colours may begin -/
def mbN (T : Nat → Nat → Nat) (n x : Nat) : Nat := mskN (fun s => decide (n ≤ T 14 s) && (rowN T s % 4 ^ n == x)) (T 0 7)
def atN (T : Nat → Nat → Nat) (n : Nat) : Bool := allN (fun s => mbN T (min n (T 14 s)) (rowN T s % 4 ^ min n (T 14 s)) == 2 ^ s) (T 0 7)
theorem begD : ∀ n, n < 5 → ∀ r, r < 256 → nI r &&& ((nI 1 <<< ((nI 2 * nI n) &&& 31)) - nI 1) = nI (r % 4 ^ n) := by decide +kernel
theorem shD : ∀ s, s < 9 → nI 1 <<< (nI s &&& 31) = nI (2 ^ s) := by decide +kernel
section
variable {d : Nat} {Q : Option Value → Mm → Prop} {T S : Nat → Nat → Nat} {mi : Nat → Nat → Int32} {ml : Nat → Nat → Int64} {rd : Option Nat}
theorem s_hasSign (hT : CT 0 T mi) (hw : wfT T) {x : Int32} (h1 : ∀ f, f < T 0 7 → x = nI f → Q (some (.int (nI 1))) (mi, ml, R0 rd, 136)) (h0 : (∀ f, f < T 0 7 → x ≠ nI f) → Q (some (.int (nI 0))) (mi, ml, R0 rd, 136)) : Cd (d + 1) k_Washing_hasSign [.ref 26, .int x] (mi, ml, R0 rd, 136) Q := by
  have hf := hw.sg5
  have e : mi 26 1 = nI (T 0 7) := hT.signs
  refine r_Washing_hasSign (by decide) (fun K Kl hK hC => ?_)
  refine ⟨fun h => ?_, fun h => ⟨fun h2 => ?_, fun h2 => ⟨fun h3 => ?_, fun h3 => ?_⟩⟩⟩
  · exact ⟨Or.inl rfl, rfl, h0 (fun f hf2 => i_neg_ne h (by omega))⟩
  · refine ⟨Or.inl rfl, rfl, h0 (fun f hf2 e2 => ?_)⟩
    rw [e, e2] at h2
    have := iLE h2
    omega
  · refine ⟨Or.inl rfl, rfl, h0 (fun f hf2 e2 => ?_)⟩
    rw [e2] at h3
    have := iLE h3
    omega
  · obtain ⟨j, hj, rfl⟩ := nI_of h
    rw [e] at h2
    exact ⟨Or.inr rfl, rfl, h1 j (iNLE h2) rfl⟩
theorem s_hasColour (hT : CT 0 T mi) (hw : wfT T) {x : Int32} (h1 : ∀ f, f < T 0 6 → x = nI f → Q (some (.int (nI 1))) (mi, ml, R0 rd, 136)) (h0 : (∀ f, f < T 0 6 → x ≠ nI f) → Q (some (.int (nI 0))) (mi, ml, R0 rd, 136)) : Cd (d + 1) k_Washing_hasColour [.ref 26, .int x] (mi, ml, R0 rd, 136) Q := by
  have hf := hw.co4
  have e : mi 26 0 = nI (T 0 6) := hT.colours
  refine r_Washing_hasColour (by decide) (fun K Kl hK hC => ?_)
  refine ⟨fun h => ?_, fun h => ⟨fun h2 => ?_, fun h2 => ⟨fun h3 => ?_, fun h3 => ?_⟩⟩⟩
  · exact ⟨Or.inl rfl, rfl, h0 (fun f hf2 => i_neg_ne h (by omega))⟩
  · refine ⟨Or.inl rfl, rfl, h0 (fun f hf2 e2 => ?_)⟩
    rw [e, e2] at h2
    have := iLE h2
    omega
  · refine ⟨Or.inl rfl, rfl, h0 (fun f hf2 e2 => ?_)⟩
    rw [e2] at h3
    have := iLE h3
    omega
  · obtain ⟨j, hj, rfl⟩ := nI_of h
    rw [e] at h2
    exact ⟨Or.inr rfl, rfl, h1 j (iNLE h2) rfl⟩
theorem s_leftOf (hT : CT 0 T mi) (hw : wfT T) {m c : Nat} {x : Int32} (hx : x = nI m) (hm : m < 64) (hc : c < T 0 6) (hQ : Q (some (.int (nI (T 12 c) - nI (ndN T m c)))) (mi, ml, R0 rd, 136)) : Cd (d + 2) k_Washing_leftOf [.ref 26, .int x, .int (nI c)] (mi, ml, R0 rd, 136) Q := by
  subst hx
  have h4 := hw.co4
  have e : mi 28 c = nI (T 12 c) := hT.cm c hc
  rw [← e] at hQ
  refine r_Washing_leftOf (by decide) (fun K Kl hK hC => ⟨c, by omega, rfl, ?_⟩)
  exact hC _ _ _ _ (s_needed hT hw hm (by omega) ⟨rfl, hQ⟩)
theorem s_hasPieces (hT : CT 0 T mi) (hw : wfT T) {m m2 s : Nat} (hs : nI m ||| (nI 1 <<< (nI s &&& 31)) = nI m2) (hm : m2 < 64) (h1 : hpN T m2 = true → Q (some (.int (nI 1))) (mi, ml, R0 rd, 136)) (h0 : hpN T m2 = false → Q (some (.int (nI 0))) (mi, ml, R0 rd, 136)) : Cd (d + 3) k_Washing_hasPieces [.ref 26, .int (nI m), .int (nI s)] (mi, ml, R0 rd, 136) Q := by
  have h4 := hw.co4
  have e : mi 26 0 = nI (T 0 6) := hT.colours
  have lp : ∀ j, j ≤ T 0 6 → (∀ i, i < j → decide (ndN T m2 i ≤ T 12 i) = true) → GoM (d + 2) k_Washing_hasPieces 136 Q 2 [.ref 26, .int (nI m), .int (nI s), .int (nI j)] [] (mi, ml, R0 rd, 136) := by
    refine upto ?_ ?_
    · intro hall
      refine g_Washing_hasPieces (fun K Kl hK hC => ?_)
      exact ⟨fun _ => ⟨Or.inr rfl, rfl, h1 (allN_iff.mpr hall)⟩, fun h => absurd (jNLE h) (by omega)⟩
    · intro j hj ih hall
      have hn := ndN_le hw m2 j
      have hcm := hw.cm j hj
      refine g_Washing_hasPieces (fun K Kl hK hC => ?_)
      refine ⟨fun h => absurd (jLE h) (by omega), fun _ => ?_⟩
      refine hC _ _ _ _ (s_leftOf hT hw hs hm hj ?_)
      refine ⟨fun h => ?_, fun h => ⟨Or.inl rfl, rfl, h0 ?_⟩⟩
      · have hle : ndN T m2 j ≤ T 12 j := by
          rcases Nat.lt_or_ge (T 12 j) (ndN T m2 j) with z | z
          · exact absurd h (lt_not (pk_sneg (by omega) z))
          · exact z
        have ih := ih (lt_s hall (decide_eq_true hle))
        rw [nI1 j] at ih
        exact hK _ _ _ _ ih
      · refine allN_not hj (decide_eq_false (fun z => h ?_))
        rw [pk_sub z]
        exact nI_pos' (by omega)
  refine r_Washing_hasPieces (by decide) (fun K Kl hK hC => ?_)
  exact hK _ _ _ _ (lp 0 (Nat.zero_le _) lt_0)
theorem s_beginning (hT : CT 0 T mi) (hw : wfT T) {s n : Nat} (hs : s < T 0 7) (hn : n < 5) (hQ : Q (some (.int (nI (rowN T s % 4 ^ n)))) (mi, ml, R0 rd, 136)) : Cd (d + 1) k_Washing_beginning [.ref 26, .int (nI s), .int (nI n)] (mi, ml, R0 rd, 136) Q := by
  have h5 := hw.sg5
  have er : mi 31 s = nI (rowN T s) := hT.sr s hs
  rw [← begD n hn _ (rowN_dig hw hs).1, ← er] at hQ
  exact r_Washing_beginning (by decide) (fun K Kl hK hC => ⟨s, by omega, rfl, rfl, hQ⟩)
theorem s_meantBy (hT : CT 0 T mi) (hw : wfT T) {n x : Nat} (hn : n < 5) (hx : x < 256) (hQ : Q (some (.int (nI (mbN T n x)))) (mi, ml, R0 rd, 136)) : Cd (d + 2) k_Washing_meantBy [.ref 26, .int (nI n), .int (nI x)] (mi, ml, R0 rd, 136) Q := by
  have h5 := hw.sg5
  have e : mi 26 1 = nI (T 0 7) := hT.signs
  have lp : ∀ j, j ≤ T 0 7 → GoM (d + 1) k_Washing_meantBy 136 Q 5 [.ref 26, .int (nI n), .int (nI x), .int (nI (mskN (fun s => decide (n ≤ T 14 s) && (rowN T s % 4 ^ n == x)) j)), .int (nI j)] [] (mi, ml, R0 rd, 136) := by
    refine upto ?_ ?_
    · refine g_Washing_meantBy (fun K Kl hK hC => ?_)
      exact ⟨fun _ => ⟨rfl, hQ⟩, fun h => absurd (jNLE h) (by omega)⟩
    · intro j hj ih
      have hl := hw.sl j hj
      have el : mi 30 j = nI (T 14 j) := hT.sl j hj
      have hlt := mskN_lt (fun s => decide (n ≤ T 14 s) && (rowN T s % 4 ^ n == x)) j
      have hrow := (rowN_dig hw hj).1
      have hml := Nat.mod_le (rowN T j) (4 ^ n)
      rw [nI1 j, show mskN (fun s => decide (n ≤ T 14 s) && (rowN T s % 4 ^ n == x)) (j + 1) = mskN (fun s => decide (n ≤ T 14 s) && (rowN T s % 4 ^ n == x)) j + (if (decide (n ≤ T 14 j) && (rowN T j % 4 ^ n == x)) then 2 ^ j else 0) from rfl] at ih
      have no : (decide (n ≤ T 14 j) && (rowN T j % 4 ^ n == x)) = false → GoM (d + 1) k_Washing_meantBy 136 Q 5 [.ref 26, .int (nI n), .int (nI x), .int (nI (mskN (fun s => decide (n ≤ T 14 s) && (rowN T s % 4 ^ n == x)) j)), .int (nI j + nI 1)] [] (mi, ml, R0 rd, 136) := by
        intro hno
        rw [if_neg (by rw [hno]; decide), Nat.add_zero] at ih
        exact ih
      refine g_Washing_meantBy (fun K Kl hK hC => ?_)
      refine ⟨fun h => absurd (jLE h) (by omega), fun _ => ⟨j, by omega, rfl, ?_⟩⟩
      rw [el]
      refine ⟨fun h => ?_, fun h => ?_⟩
      · have h := iLT h
        exact hK _ _ _ _ (no (by rw [decide_eq_false (by omega), Bool.false_and]))
      · have h := iNLT h
        refine hC _ _ _ _ (s_beginning hT hw hj hn ?_)
        refine ⟨fun h2 => ?_, fun h2 => ?_⟩
        · have h2 := iNE h2
          exact hK _ _ _ _ (no (by simp [h2]))
        · have h2 := iEQ h2
          rw [if_pos (by rw [decide_eq_true h, h2]; simp), ← orB j (by omega) _ hlt] at ih
          exact hK _ _ _ _ ih
  refine r_Washing_meantBy (by decide) (fun K Kl hK hC => ?_)
  exact hK _ _ _ _ (lp 0 (Nat.zero_le _))
end
