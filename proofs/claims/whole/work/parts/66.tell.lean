/-! SIGNS: what is missing, what tells them apart (the class) -/
theorem neg_sub32 (a b : Int32) : -(a - b) = b - a := by
  apply Int32.toBitVec_inj.mp
  show -(a.toBitVec - b.toBitVec) = b.toBitVec - a.toBitVec
  rw [BitVec.neg_sub, BitVec.sub_eq_add_neg, BitVec.add_comm]
section
variable {d : Nat} {Q : Option Value → Mm → Prop} {T S : Nat → Nat → Nat} {mi : Nat → Nat → Int32} {ml : Nat → Nat → Int64} {rd : Option Nat}
/-- the greater of 0 and a difference -/
theorem s_max0 {a b : Nat} {x : Int32} (hx : x = nI a - nI b) (ha : a < 2 ^ 30) (hb : b < 2 ^ 30) (hQ : Q (some (.int (nI (a - b)))) (mi, ml, R0 rd, 136)) : Cd (d + 1) 337 [.int (nI 0), .int x] (mi, ml, R0 rd, 136) Q := by
  rcases Nat.lt_or_ge a b with z | z
  · rw [show a - b = 0 by omega] at hQ
    have hn : x < 0 := by rw [hx]; exact pk_sneg hb z
    refine r_Math_max (by decide) (fun K Kl hK hC => ?_)
    refine ⟨fun h => ?_, fun h => ⟨rfl, hQ⟩⟩
    exact absurd (Int32.lt_trans h hn) (by decide)
  · rw [hx, pk_sub z]
    refine s_max (by decide) (by omega) (by omega) ?_
    rw [Nat.max_eq_right (Nat.zero_le _)]
    exact hQ
theorem s_missing (hT : CT 0 T mi) (hw : wfT T) {m : Nat} (hm : m < 64) (hQ : Q (some (.int (nI (misN T m)))) (mi, ml, R0 rd, 136)) : Cd (d + 3) k_Washing_missing [.ref 26, .int (nI m)] (mi, ml, R0 rd, 136) Q := by
  have h4 := hw.co4
  have e : mi 26 0 = nI (T 0 6) := hT.colours
  have lp : ∀ j, j ≤ T 0 6 → GoM (d + 2) k_Washing_missing 136 Q 4 [.ref 26, .int (nI m), .int (nI (sumN (fun c => ndN T m c - T 12 c) j)), .int (nI j)] [] (mi, ml, R0 rd, 136) := by
    refine upto ?_ ?_
    · refine g_Washing_missing (fun K Kl hK hC => ?_)
      exact ⟨fun _ => ⟨rfl, hQ⟩, fun h => absurd (jNLE h) (by omega)⟩
    · intro j hj ih
      have hn := ndN_le hw m j
      have hcm := hw.cm j hj
      rw [nI1 j, sumN, ← nI_add] at ih
      refine g_Washing_missing (fun K Kl hK hC => ?_)
      refine ⟨fun h => absurd (jLE h) (by omega), fun _ => ?_⟩
      refine hC _ _ _ _ (s_leftOf hT hw rfl hm hj ?_)
      refine hC _ _ _ _ (s_max0 (neg_sub32 _ _) (by omega) (by omega) ?_)
      exact hK _ _ _ _ ih
  refine r_Washing_missing (by decide) (fun K Kl hK hC => ?_)
  exact hK _ _ _ _ (lp 0 (Nat.zero_le _))
theorem s_areTold (hT : CT 0 T mi) (hw : wfT T) {n : Nat} (hn : n < 5) (h1 : atN T n = true → Q (some (.int (nI 1))) (mi, ml, R0 rd, 136)) (h0 : atN T n = false → Q (some (.int (nI 0))) (mi, ml, R0 rd, 136)) : Cd (d + 3) k_Washing_areTold [.ref 26, .int (nI n)] (mi, ml, R0 rd, 136) Q := by
  have h5 := hw.sg5
  have e : mi 26 1 = nI (T 0 7) := hT.signs
  have lp : ∀ j, j ≤ T 0 7 → (∀ s, s < j → (mbN T (min n (T 14 s)) (rowN T s % 4 ^ min n (T 14 s)) == 2 ^ s) = true) → ∀ v3, GoM (d + 2) k_Washing_areTold 136 Q 2 [.ref 26, .int (nI n), .int (nI j), v3] [] (mi, ml, R0 rd, 136) := by
    refine upto ?_ ?_
    · intro hall v3
      refine g_Washing_areTold (fun K Kl hK hC => ?_)
      exact ⟨fun _ => ⟨Or.inr rfl, rfl, h1 (allN_iff.mpr hall)⟩, fun h => absurd (jNLE h) (by omega)⟩
    · intro j hj ih hall v3
      have hl := hw.sl j hj
      have el : mi 30 j = nI (T 14 j) := hT.sl j hj
      have hrow := (rowN_dig hw hj).1
      have hml := Nat.mod_le (rowN T j) (4 ^ min n (T 14 j))
      have hmb : mbN T (min n (T 14 j)) (rowN T j % 4 ^ min n (T 14 j)) < 2 ^ T 0 7 := mskN_lt _ _
      have hp5 : 2 ^ T 0 7 ≤ 2 ^ 5 := Nat.pow_le_pow_right (by decide) h5
      have hpj : 2 ^ j ≤ 2 ^ 5 := Nat.pow_le_pow_right (by decide) (by omega)
      have hmin : min n (T 14 j) < 5 := by omega
      refine g_Washing_areTold (fun K Kl hK hC => ?_)
      refine ⟨fun h => absurd (jLE h) (by omega), fun _ => ⟨j, by omega, rfl, ?_⟩⟩
      rw [el]
      refine hC _ _ _ _ (s_min (by decide) (by omega) (by omega) ?_)
      refine hC _ _ _ _ (s_beginning hT hw hj hmin ?_)
      refine hC _ _ _ _ (s_meantBy hT hw hmin (by omega) ?_)
      refine ⟨fun h => ?_, fun h => ⟨Or.inl rfl, rfl, h0 ?_⟩⟩
      · rw [shD j (by omega)] at h
        have h := iEQ h
        have ih := ih (lt_s hall (by simp [h])) (.int (nI (min n (T 14 j))))
        rw [nI1 j] at ih
        exact hK _ _ _ _ ih
      · rw [shD j (by omega)] at h
        have h := iNE h
        exact allN_not hj (by simp [h])
  refine r_Washing_areTold (by decide) (fun K Kl hK hC => ?_)
  exact hK _ _ _ _ (lp 0 (Nat.zero_le _) lt_0 _)
theorem s_fewest (hT : CT 0 T mi) (hw : wfT T) (hQ : Q (some (.int (if fnd (atN T) 5 < 5 then nI (fnd (atN T) 5) else -2))) (mi, ml, R0 rd, 136)) : Cd (d + 4) k_Washing_fewestToTell [.ref 26] (mi, ml, R0 rd, 136) Q := by
  have lp : ∀ j, j ≤ 5 → (∀ i, i < j → atN T i = false) → GoM (d + 3) k_Washing_fewestToTell 136 Q 2 [.ref 26, .int (nI j)] [] (mi, ml, R0 rd, 136) := by
    refine upto ?_ ?_
    · intro hall
      rw [fnd_none hall, if_neg (by omega)] at hQ
      refine g_Washing_fewestToTell (fun K Kl hK hC => ?_)
      exact ⟨fun _ => ⟨rfl, hQ⟩, fun h => absurd (iNLT h) (by omega)⟩
    · intro j hj ih hall
      refine g_Washing_fewestToTell (fun K Kl hK hC => ?_)
      refine ⟨fun h => absurd (iLT h) (by omega), fun _ => ?_⟩
      refine hC _ _ _ _ (s_areTold hT hw hj (fun ht => ?_) (fun ht => ?_))
      · rw [fnd_at hj ht hall, if_pos hj] at hQ
        exact ⟨fun h => absurd h (by decide), fun _ => ⟨rfl, hQ⟩⟩
      · have ih := ih (lt_s hall ht)
        rw [nI1 j] at ih
        exact ⟨fun _ => hK _ _ _ _ ih, fun h => absurd (by decide) h⟩
  refine r_Washing_fewestToTell (by decide) (fun K Kl hK hC => ?_)
  exact hK _ _ _ _ (lp 0 (Nat.zero_le _) lt_0)
end
