/-! WHAT THE REFERENCE ANSWERS: meant, apart -/
theorem sh4 {r n : Nat} (hr : r < 2 ^ 31) (hn : n < 5) : nI r >>> ((nI 2 * nI n) &&& 31) = nI (r / 4 ^ n) := by
  rw [pk_mul, shZ hr (by omega), Nat.pow_mul]
section
variable {d : Nat} {Q : Option Value → Mm → Prop} {A : St} {T S : Nat → Nat → Nat} {mi : Nat → Nat → Int32} {ml : Nat → Nat → Int64} {rd : Option Nat} {x y z : Int32}
set_option maxHeartbeats 1000000 in
theorem q_meant (hA : MI A mi ml) (hw : wfA A) (hQ : ∀ mi' ml', MF mi mi' → ML ml ml' → Q (some (.int (aMeant A x y))) (mi', ml', R0 rd, 136)) : Cd (d + 2) k_Mod_meant [.ref 95, .int x, .int y] (mi, ml, R0 rd, 136) Q := by
  have hQ := hQ _ ml thr0 ML.none
  have hA1 := hA.mf thr0 ML.none
  have h4 := hw.T.co4
  have ec : mi 95 18 = nI (A 0 0 6) := hA.T.colours
  have lp : ∀ n r, n ≤ 4 → r < 4 ^ n → (Q (some (.int (if allN (fun i => decide (r / 4 ^ i % 4 < A 0 0 6)) n then nI (mbN (A 0) n r) else -1))) (cu mi 95 (upd (mi 95) 2 (nI 0)), ml, R0 rd, 136)) → ∀ j, j ≤ n → (∀ i, i < j → r / 4 ^ i % 4 < A 0 0 6) → GoM (d + 1) k_Mod_meant 136 Q 30 [.ref 95, .int (nI n), .int (nI r), .int (nI j)] [] (cu mi 95 (upd (mi 95) 2 (nI 0)), ml, R0 rd, 136) := by
    intro n r hn hr hQ
    have hr2 : r < 256 := by have := (pow4 n (by omega)).2; omega
    refine upto ?_ ?_
    · intro hall
      rw [if_pos (allN_iff.mpr (fun i hi => decide_eq_true (hall i hi)))] at hQ
      exact g_Mod_meant (fun K Kl hK hC => ⟨fun _ => hC _ _ _ _ (t_meantBy hA1.T hw.T (by omega) hr ⟨rfl, hQ⟩), fun h => absurd (iNLE h) (by omega)⟩)
    · intro j hj ih hall
      have hdg := rowD j (by omega) r hr2
      have hm4 : r / 4 ^ j % 4 < 4 := Nat.mod_lt _ (by decide)
      refine g_Mod_meant (fun K Kl hK hC => ⟨fun h => absurd (iLE h) (by omega), fun _ => ⟨fun z => ?_, fun z => ⟨rfl, ?_⟩⟩⟩)
      · have z : (nI r >>> ((nI 2 * nI j) &&& 31)) &&& nI 3 < mi 95 18 := z
        rw [hdg, ec] at z
        have ih := ih (lt_s hall (iLT z))
        rw [nI1 j] at ih
        exact hK _ _ _ _ ih
      · have z : ¬ (nI r >>> ((nI 2 * nI j) &&& 31)) &&& nI 3 < mi 95 18 := z
        rw [hdg, ec] at z
        have z := iNLT z
        rw [if_neg (fun q => absurd (of_decide_eq_true (allN_iff.mp q j hj)) (by omega))] at hQ
        exact hQ
  unfold aMeant at hQ
  refine r_Mod_meant (by decide) (fun K Kl hK hC => hC _ _ _ _ (t_isIn (fun h1 h2 => ⟨fun z => absurd z (by decide), fun _ => ⟨fun h3 => ⟨rfl, ?_⟩, fun h3 => ⟨fun h4 => ?_, fun h4 => ⟨rfl, ?_⟩⟩⟩⟩) (fun hno => ⟨fun _ => ⟨rfl, ?_⟩, fun z => absurd (by decide) z⟩)))
  · obtain ⟨n, hn, rfl, he⟩ := ixo_rg (n := 4) (by omega) h1 h2
    rw [he] at hQ
    simp only [ixo_neg h3] at hQ
    exact hQ
  · obtain ⟨n, hn, rfl, he⟩ := ixo_rg (n := 4) (by omega) h1 h2
    rw [he] at hQ
    obtain ⟨r, hr, rfl⟩ := nI_of h3
    have h4 : nI r >>> ((nI 2 * nI n) &&& 31) = 0 := h4
    rw [sh4 hr (by omega)] at h4
    have h4 := iZ h4 (Nat.lt_of_le_of_lt (Nat.div_le_self _ _) hr)
    have h5 : r < 4 ^ n := by
      rcases Nat.div_eq_zero_iff.mp h4 with q | q
      · exact absurd q (Nat.ne_of_gt (Nat.pow_pos (by decide)))
      · exact q
    have hp := (pow4 n (by omega)).2
    simp only [ixo_some h5] at hQ
    exact hK _ _ _ _ (lp n r (by omega) h5 hQ 0 (Nat.zero_le _) lt_0)
  · obtain ⟨n, hn, rfl, he⟩ := ixo_rg (n := 4) (by omega) h1 h2
    have hp := (pow4 n (by omega)).2
    rw [he] at hQ
    obtain ⟨r, hr, rfl⟩ := nI_of h3
    have h4 : ¬ nI r >>> ((nI 2 * nI n) &&& 31) = 0 := h4
    rw [sh4 hr (by omega)] at h4
    simp only [ixo_none (n := 4 ^ n) (x := nI r) (fun j hj e => by
      have := iEQ e
      exact h4 (by rw [Nat.div_eq_of_lt (by omega)]; decide))] at hQ
    exact hQ
  · rw [hno.elim (fun h => ixo_neg h) (fun h => ixo_big (n := 4) (by omega) h)] at hQ
    exact hQ
set_option maxHeartbeats 1000000 in
theorem t_apart (hT : MT T mi) (hw : wfT T) {n : Nat} (hn : n < 5) (h1 : atN T n = true → Q (some (.int (nI n))) (mi, ml, R0 rd, 136)) (h0 : atN T n = false → ∀ v2 v3 v4, GoM (d + 1) k_Mod_apart 136 Q 7 [.ref 95, .int (nI n + nI 1), v2, v3, v4] [] (mi, ml, R0 rd, 136)) (v2 v3 v4 : Value) : GoM (d + 1) k_Mod_apart 136 Q 7 [.ref 95, .int (nI n), v2, v3, v4] [] (mi, ml, R0 rd, 136) := by
  have h5 := hw.sg5
  have e : mi 95 19 = nI (T 0 7) := hT.signs
  have no : ∀ j, j ≤ T 0 7 → atN T n = false → ∀ v4, GoM (d + 1) k_Mod_apart 136 Q 16 [.ref 95, .int (nI n), .int (nI 0), .int (nI j), v4] [] (mi, ml, R0 rd, 136) := by
    intro j hj hf
    revert j
    refine upto ?_ ?_
    · intro v4
      exact g_Mod_apart (fun K Kl hK hC => ⟨fun _ => ⟨fun _ => hK _ _ _ _ (h0 hf _ _ _), fun z => absurd (by decide) z⟩, fun z => absurd (jNLE z) (by omega)⟩)
    · intro j hj ih v4
      refine g_Mod_apart (fun K Kl hK hC => ⟨fun z => absurd (jLE z) (by omega), fun _ => ⟨j, by omega, rfl, fun z => ?_, fun z => ?_⟩⟩)
      · have no := ih (.int (mi 113 j))
        rw [nI1 j] at no
        exact ⟨j, by omega, rfl, ⟨fun _ => hK _ _ _ _ no, fun z => absurd (by decide) z⟩⟩
      · have no := ih (.int (nI n))
        rw [nI1 j] at no
        exact ⟨fun _ => hK _ _ _ _ no, fun z => absurd (by decide) z⟩
  have lp : ∀ j, j ≤ T 0 7 → (∀ s, s < j → (mbN T (min n (T 14 s)) (rowN T s % 4 ^ min n (T 14 s)) == 2 ^ s) = true) → ∀ v4, GoM (d + 1) k_Mod_apart 136 Q 16 [.ref 95, .int (nI n), .int (nI 1), .int (nI j), v4] [] (mi, ml, R0 rd, 136) := by
    refine upto ?_ ?_
    · intro hall v4
      exact g_Mod_apart (fun K Kl hK hC => ⟨fun _ => ⟨fun z => absurd z (by decide), fun _ => ⟨rfl, h1 (allN_iff.mpr hall)⟩⟩, fun z => absurd (jNLE z) (by omega)⟩)
    · intro j hj ih hall v4
      have hl := hw.sl j hj
      have el : mi 113 j = nI (T 14 j) := hT.sl j hj
      have hp5 : 2 ^ T 0 7 ≤ 2 ^ 5 := Nat.pow_le_pow_right (by decide) h5
      have hpj : 2 ^ j ≤ 2 ^ 5 := Nat.pow_le_pow_right (by decide) (by omega)
      refine g_Mod_apart (fun K Kl hK hC => ⟨fun z => absurd (jLE z) (by omega), fun _ => ⟨j, by omega, rfl, fun z => ?_, fun z => ?_⟩⟩)
      all_goals first | (have z := jLE (a := T 14 j) (b := n) z) | (have z := jNLE (a := T 14 j) (b := n) z)
      · have el : mi 113 j = nI (T 14 j) := el
        have hmb : mbN T (min n (T 14 j)) (rowN T j % 4 ^ min n (T 14 j)) < 2 ^ T 0 7 := mskN_lt _ _
        have hmn : min n (T 14 j) = (T 14 j) := by omega
        have hbo : ∀ P : Option Value → Mm → Prop, P (some (.int (nI (rowN T j % 4 ^ (T 14 j))))) (mi, ml, R0 rd, 136) → Cd (d + 1) k_Mod_beginOf [.ref 95, .int (nI j), .int (mi 113 j)] (mi, ml, R0 rd, 136) P := by
          intro P q
          rw [el]
          exact t_beginOf hT hw hj (by omega) q
        have hmy : ∀ P : Option Value → Mm → Prop, P (some (.int (nI (mbN T (T 14 j) (rowN T j % 4 ^ (T 14 j)))))) (mi, ml, R0 rd, 136) → Cd (d + 1) k_Mod_meantBy [.ref 95, .int (mi 113 j), .int (nI (rowN T j % 4 ^ (T 14 j)))] (mi, ml, R0 rd, 136) P := by
          intro P q
          rw [el]
          exact t_meantBy hT hw (by omega) (Nat.mod_lt _ (Nat.pow_pos (by decide))) q
        rw [hmn] at hmb
        refine ⟨j, by omega, rfl, ⟨fun z => absurd z (by decide), fun _ => hC _ _ _ _ (hbo _ (hC _ _ _ _ (hmy _ ⟨fun z => ?_, fun z => ?_⟩)))⟩⟩
        · have z : ¬ nI (mbN T (T 14 j) (rowN T j % 4 ^ (T 14 j))) = nI 1 <<< (nI j &&& 31) := z
          rw [shD j (by omega)] at z
          have z := iNE z
          have no := no (j + 1) (by omega) (allN_not hj (show (mbN T (min n (T 14 j)) (rowN T j % 4 ^ min n (T 14 j)) == 2 ^ j) = false by rw [hmn]; exact beq_eq_false_iff_ne.mpr z)) (.int (mi 113 j))
          rw [nI1 j] at no
          exact hK _ _ _ _ no
        · have z : nI (mbN T (T 14 j) (rowN T j % 4 ^ (T 14 j))) = nI 1 <<< (nI j &&& 31) := z
          rw [shD j (by omega)] at z
          have z := iEQ z
          have ih := ih (lt_s hall (show (mbN T (min n (T 14 j)) (rowN T j % 4 ^ min n (T 14 j)) == 2 ^ j) = true by rw [hmn]; exact beq_iff_eq.mpr z)) (.int (mi 113 j))
          rw [nI1 j] at ih
          exact hK _ _ _ _ ih
      · have el : mi 113 j = nI (T 14 j) := el
        have hmb : mbN T (min n (T 14 j)) (rowN T j % 4 ^ min n (T 14 j)) < 2 ^ T 0 7 := mskN_lt _ _
        have hmn : min n (T 14 j) = n := by omega
        have hbo : ∀ P : Option Value → Mm → Prop, P (some (.int (nI (rowN T j % 4 ^ n)))) (mi, ml, R0 rd, 136) → Cd (d + 1) k_Mod_beginOf [.ref 95, .int (nI j), .int (nI n)] (mi, ml, R0 rd, 136) P := by
          intro P q
          skip
          exact t_beginOf hT hw hj (by omega) q
        have hmy : ∀ P : Option Value → Mm → Prop, P (some (.int (nI (mbN T n (rowN T j % 4 ^ n))))) (mi, ml, R0 rd, 136) → Cd (d + 1) k_Mod_meantBy [.ref 95, .int (nI n), .int (nI (rowN T j % 4 ^ n))] (mi, ml, R0 rd, 136) P := by
          intro P q
          skip
          exact t_meantBy hT hw (by omega) (Nat.mod_lt _ (Nat.pow_pos (by decide))) q
        rw [hmn] at hmb
        refine ⟨fun z => absurd z (by decide), fun _ => hC _ _ _ _ (hbo _ (hC _ _ _ _ (hmy _ ⟨fun z => ?_, fun z => ?_⟩)))⟩
        · have z : ¬ nI (mbN T n (rowN T j % 4 ^ n)) = nI 1 <<< (nI j &&& 31) := z
          rw [shD j (by omega)] at z
          have z := iNE z
          have no := no (j + 1) (by omega) (allN_not hj (show (mbN T (min n (T 14 j)) (rowN T j % 4 ^ min n (T 14 j)) == 2 ^ j) = false by rw [hmn]; exact beq_eq_false_iff_ne.mpr z)) (.int (nI n))
          rw [nI1 j] at no
          exact hK _ _ _ _ no
        · have z : nI (mbN T n (rowN T j % 4 ^ n)) = nI 1 <<< (nI j &&& 31) := z
          rw [shD j (by omega)] at z
          have z := iEQ z
          have ih := ih (lt_s hall (show (mbN T (min n (T 14 j)) (rowN T j % 4 ^ min n (T 14 j)) == 2 ^ j) = true by rw [hmn]; exact beq_iff_eq.mpr z)) (.int (nI n))
          rw [nI1 j] at ih
          exact hK _ _ _ _ ih
  exact g_Mod_apart (fun K Kl hK hC => ⟨fun z => absurd (iLE z) (by omega), fun _ => hK _ _ _ _ (lp 0 (Nat.zero_le _) lt_0 _)⟩)
theorem q_apart (hA : MI A mi ml) (hw : wfA A) (hQ : ∀ mi' ml', MF mi mi' → ML ml ml' → Q (some (.int (aApart A))) (mi', ml', R0 rd, 136)) : Cd (d + 2) k_Mod_apart [.ref 95] (mi, ml, R0 rd, 136) Q := by
  have hQ := hQ _ ml thr0 ML.none
  have hA1 := hA.mf thr0 ML.none
  unfold aApart at hQ
  have lp : ∀ j, j ≤ 5 → (∀ i, i < j → atN (A 0) i = false) → ∀ v2 v3 v4, GoM (d + 1) k_Mod_apart 136 Q 7 [.ref 95, .int (nI j), v2, v3, v4] [] (cu mi 95 (upd (mi 95) 2 (nI 0)), ml, R0 rd, 136) := by
    refine upto ?_ ?_
    · intro hall v2 v3 v4
      rw [fnd_none hall, if_neg (by omega)] at hQ
      exact g_Mod_apart (fun K Kl hK hC => ⟨fun _ => ⟨rfl, hQ⟩, fun z => absurd (iNLE z) (by omega)⟩)
    · intro j hj ih hall v2 v3 v4
      refine t_apart hA1.T hw.T hj (fun ht => ?_) (fun hf a b c => ?_) v2 v3 v4
      · rw [fnd_at hj ht hall, if_pos hj] at hQ
        exact hQ
      · have ih := ih (lt_s hall hf) a b c
        rw [nI1 j] at ih
        exact ih
  exact r_Mod_apart (by decide) (fun K Kl hK hC => hK _ _ _ _ (lp 0 (Nat.zero_le _) lt_0 _ _ _))
end
