/-! WHAT THE REFERENCE ANSWERS: signs -/
theorem lwX : ∀ s, s < 5 → ∀ m, m < 32 → m / 2 ^ s % 2 = 1 → nI m ^^^ (nI 1 <<< (nI s &&& 31)) = nI (m - 2 ^ s) := by decide +kernel
section
variable {d : Nat} {Q : Option Value → Mm → Prop} {A : St} {T S : Nat → Nat → Nat} {mi : Nat → Nat → Int32} {ml : Nat → Nat → Int64} {rd : Option Nat} {x y z : Int32}
theorem t_isRow (hT : MT T mi) (hw : wfT T) (h1 : ∀ f, f < T 0 7 → x = nI f → Q (some (.int (nI 1))) (mi, ml, R0 rd, 136)) (h0 : (∀ f, f < T 0 7 → x ≠ nI f) → Q (some (.int (nI 0))) (mi, ml, R0 rd, 136)) : Cd (d + 1) k_Mod_isRow [.ref 95, .int x] (mi, ml, R0 rd, 136) Q := by
  have hf := hw.sg5
  have e := hT.signs
  refine r_Mod_isRow (by decide) (fun K Kl hK hC => ⟨fun h => ⟨Or.inl rfl, rfl, h0 (fun f hf2 => i_neg_ne h (by omega))⟩, fun h => ⟨fun h2 => ⟨Or.inl rfl, rfl, h0 (fun f hf2 e2 => ?_)⟩, fun h2 => ?_⟩⟩)
  · rw [e, e2] at h2
    have := iLE h2
    omega
  · obtain ⟨j, hj, rfl⟩ := nI_of h
    rw [e] at h2
    exact ⟨Or.inr rfl, rfl, h1 j (iNLE h2) rfl⟩
theorem t_manyOf {s : Nat} (hs : s < 512) (hQ : Q (some (.int (nI (bcN s)))) (mi, ml, R0 rd, 136)) : Cd (d + 1) k_Mod_manyOf [.int (nI s)] (mi, ml, R0 rd, 136) Q := by
  have lp : ∀ j, j ≤ 9 → GoM d k_Mod_manyOf 136 Q 4 [.int (nI s), .int (nI (sumN (fun k => s / 2 ^ k % 2) j)), .int (nI j)] [] (mi, ml, R0 rd, 136) := by
    refine upto ?_ ?_
    · exact g_Mod_manyOf (fun K Kl hK hC => ⟨fun _ => ⟨rfl, hQ⟩, fun z => absurd (iNLE z) (by omega)⟩)
    · intro j hj ih
      rw [sumN, ← nI_add, nI1 j, ← bitM (s := s) (k := j) (by omega) (by omega)] at ih
      exact g_Mod_manyOf (fun K Kl hK hC => ⟨fun z => absurd (iLE z) (by omega), fun _ => hK _ _ _ _ ih⟩)
  exact r_Mod_manyOf (by decide) (fun K Kl hK hC => hK _ _ _ _ (lp 0 (Nat.zero_le _)))
set_option maxHeartbeats 1000000 in
theorem t_usedOf (hT : MT T mi) (hw : wfT T) {m c : Nat} (hm : m < 64) (hc : c < 4) (hQ : Q (some (.int (nI (ndN T m c)))) (mi, ml, R0 rd, 136)) : Cd (d + 2) k_Mod_usedOf [.ref 95, .int (nI m), .int (nI c)] (mi, ml, R0 rd, 136) Q := by
  have h5 := hw.sg5
  have h4 := hw.co4
  have e : mi 95 19 = nI (T 0 7) := hT.signs
  have inner : ∀ j, j < T 0 7 → (∀ v5, GoM (d + 1) k_Mod_usedOf 136 Q 5 [.ref 95, .int (nI m), .int (nI c), .int (nI (sumN (fun s => ndS T m c s (T 14 s)) (j + 1))), .int (nI j + nI 1), v5] [] (mi, ml, R0 rd, 136)) → ∀ i, i ≤ T 14 j → GoM (d + 1) k_Mod_usedOf 136 Q 17 [.ref 95, .int (nI m), .int (nI c), .int (nI (sumN (fun s => ndS T m c s (T 14 s)) j + ndS T m c j i)), .int (nI j), .int (nI i)] [] (mi, ml, R0 rd, 136) := by
    intro j hj ihj
    have hl := hw.sl j hj
    have el : mi 113 j = nI (T 14 j) := hT.sl j hj
    refine upto ?_ ?_
    · have ihj := ihj (.int (nI (T 14 j)))
      refine g_Mod_usedOf (fun K Kl hK hC => ⟨j, by omega, rfl, ?_⟩)
      rw [el]
      exact ⟨fun _ => hK _ _ _ _ ihj, fun h => absurd (iNLE h) (by omega)⟩
    · intro i hi ih
      have ht := hw.sr j hj i hi
      have er : mi 114 (4 * j + i) = nI (T 15 (4 * j + i)) := hT.sr j hj i hi
      rw [nI1 i] at ih
      refine g_Mod_usedOf (fun K Kl hK hC => ⟨j, by omega, rfl, ?_⟩)
      rw [el]
      refine ⟨fun h => absurd (iLE h) (by omega), fun _ => hC _ _ _ _ (t_isOf (by omega) (by omega) (fun hb => ⟨fun z => absurd z (by decide), fun _ => ⟨4 * j + i, by omega, (show nI 4 * nI j + nI i = nI (4 * j + i) by rw [pk_mul]; exact nI_add _ _), ?_⟩⟩) (fun hb => ⟨fun _ => ?_, fun z => absurd (by decide) z⟩))⟩
      · have en : ndS T m c j (i + 1) = ndS T m c j i + (if T 15 (4 * j + i) = c then 1 else 0) := by
          unfold ndS
          rw [if_neg (by omega), if_neg (by omega)]
          rfl
        rw [er]
        refine ⟨fun h2 => ?_, fun h2 => ?_⟩
        · rw [en, if_neg (iNE h2), ← Nat.add_assoc, ← nI_add] at ih
          exact hK _ _ _ _ ih
        · rw [en, if_pos (iEQ h2), ← Nat.add_assoc, ← nI_add] at ih
          exact hK _ _ _ _ ih
      · have en : ndS T m c j (i + 1) = ndS T m c j i + 0 := by
          unfold ndS
          rw [if_pos hb, if_pos hb]
        rw [en, ← Nat.add_assoc, ← nI_add] at ih
        exact hK _ _ _ _ ih
  have lp : ∀ j, j ≤ T 0 7 → ∀ v5, GoM (d + 1) k_Mod_usedOf 136 Q 5 [.ref 95, .int (nI m), .int (nI c), .int (nI (sumN (fun s => ndS T m c s (T 14 s)) j)), .int (nI j), v5] [] (mi, ml, R0 rd, 136) := by
    refine upto ?_ ?_
    · intro v5
      refine g_Mod_usedOf (fun K Kl hK hC => ⟨fun _ => ⟨rfl, hQ⟩, fun z => ?_⟩)
      have z : ¬ mi 95 19 ≤ nI (T 0 7) := z
      rw [e] at z
      exact absurd (iNLE z) (by omega)
    · intro j hj ih v5
      have ih := inner j hj (fun v => by
        have := ih v
        rw [nI1 j] at this
        exact this) 0 (Nat.zero_le _)
      rw [show ndS T m c j 0 = 0 by unfold ndS; split <;> rfl, Nat.add_zero] at ih
      refine g_Mod_usedOf (fun K Kl hK hC => ⟨fun z => ?_, fun _ => hK _ _ _ _ ih⟩)
      have z : mi 95 19 ≤ nI j := z
      rw [e] at z
      exact absurd (iLE z) (by omega)
  exact r_Mod_usedOf (by decide) (fun K Kl hK hC => hK _ _ _ _ (lp 0 (Nat.zero_le _) _))
end
