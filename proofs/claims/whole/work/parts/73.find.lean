/-! THE K-TH TALE (the class) -/
theorem tcP_le {T N : Nat → Nat → Nat} (w j : Nat) : tcP T N w j ≤ j := sumN_le (fun i => by split <;> omega)
theorem tcW_le {T N : Nat → Nat → Nat} (hw : wfT T) (w : Nat) : tcW T N w ≤ w * 96 := sumN_bd (fun i _ => by
  have h1 := tcP_le (T := T) (N := N) i (2 * (T 0 0 * T 0 1))
  have h2 := hw.fl
  omega)
/-- x isn't the number of a tale of the first words, nor of the first places of word w -/
def noT (T N : Nat → Nat → Nat) (x : Int32) (w j : Nat) : Prop := (∀ v, v < w → ∀ p, p < 2 * (T 0 0 * T 0 1) → tlN T N v p = true → x ≠ nI (tcW T N v + tcP T N v p)) ∧ (∀ p, p < j → tlN T N w p = true → x ≠ nI (tcW T N w + tcP T N w p))
section
variable {d : Nat} {Q : Option Value → Mm → Prop} {T S : Nat → Nat → Nat} {mi : Nat → Nat → Int32} {ml : Nat → Nat → Int64} {rd : Option Nat} {N : Nat → Nat → Nat}
set_option maxHeartbeats 2000000 in
theorem s_findTale (hT : CT 0 T mi) (hw : wfT T) (hN : CN N mi) (hwn : wfN T N) {x : Int32}
    (h1 : ∀ mi' w p, w < T 0 4 → p < 2 * (T 0 0 * T 0 1) → tlN T N w p = true → x = nI (tcW T N w + tcP T N w p) → Fr [83, 84, 87] mi mi' → mi' 84 4 = nI w → mi' 84 2 = nI p → Q (some (.int (nI 1))) (mi', ml, R0 rd, 136))
    (h0 : ∀ mi', noT T N x (T 0 4) 0 → Fr [83, 84, 87] mi mi' → mi' 84 7 = nI (tcW T N (T 0 4)) → Q (some (.int (nI 0))) (mi', ml, R0 rd, 136)) : Cd (d + 5) k_Search_findTale [.ref 84, .ref 78, .int x] (mi, ml, R0 rd, 136) Q := by
  have hfl := hw.fl
  have h6 := hw.wd6
  have inner : ∀ w, w < T 0 4 → (∀ v5 mi', Fr [83, 84, 87] mi mi' → (∀ i, i < 24 → mi' 83 i = nI (skN N i).toNat) → noT T N x (w + 1) 0 → mi' 84 7 = nI (tcW T N (w + 1)) → GoM (d + 4) k_Search_findTale 136 Q 17 [.ref 84, .ref 78, .int x, .int (nI (2 * (T 0 0 * T 0 1))), .int (nI w + nI 1), v5] [] (mi', ml, R0 rd, 136)) → ∀ j, j ≤ 2 * (T 0 0 * T 0 1) → ∀ mi', Fr [83, 84, 87] mi mi' → (∀ i, i < 24 → mi' 83 i = nI (skN N i).toNat) → noT T N x w j → mi' 84 7 = nI (tcW T N w + tcP T N w j) → GoM (d + 4) k_Search_findTale 136 Q 35 [.ref 84, .ref 78, .int x, .int (nI (2 * (T 0 0 * T 0 1))), .int (nI w), .int (nI j)] [] (mi', ml, R0 rd, 136) := by
    intro w hwd ihw
    have hb := tcW_le (N := N) hw w
    refine upto ?_ ?_
    · intro mi' hf hg hno h7
      refine g_Search_findTale (fun K Kl hK hC => ?_)
      refine ⟨fun _ => hK _ _ _ _ (ihw _ mi' hf hg ⟨fun v hv p hp ht => ?_, fun p hp => absurd hp (by omega)⟩ h7), fun h => absurd (iNLE h) (by omega)⟩
      by_cases hvw : v = w
      · subst hvw; exact hno.2 p hp ht
      · exact hno.1 v (by omega) p hp ht
    · intro j hj ih mi' hf hg hno h7
      have hbj := tcP_le (T := T) (N := N) w j
      have hTa := hT.fr hf rfl
      have hNa : CN N mi' := hN.fr (fun c h1 h2 => hf c (nin_not (fun hm => by
        simp only [List.mem_cons, List.not_mem_nil, or_false] at hm
        omega)))
      have estep : tcP T N w (j + 1) = tcP T N w j + (if tlN T N w j then 1 else 0) := rfl
      refine g_Search_findTale (fun K Kl hK hC => ?_)
      refine ⟨fun h => absurd (iLE h) (by omega), fun _ => ?_⟩
      refine hC _ _ _ _ (s_clearFields (Or.inr rfl) (fun g hgz => ?_))
      have hf2 : Fr [83, 84, 87] mi (cu mi' (86 + 1) g) := hf.cu rfl
      have hT2 := hT.fr hf2 rfl
      have hN2 : CN N (cu mi' (86 + 1) g) := hNa.fr (fun c h1 h2 => cu_ne (by omega))
      refine hC _ _ _ _ (s_isTale hT2 hw hN2 hwn hg (fun f hf => hgz f hf) hwd hj (fun ht g2 => ?_) (fun ht g2 => ?_))
      · have hf3 : Fr [83, 84, 87] mi (cu (cu mi' (86 + 1) g) 87 g2) := hf2.cu rfl
        refine ⟨fun _ => ⟨fun h => ?_, fun h => ?_⟩, fun h => absurd h (by decide)⟩
        · have h : ¬ mi' 84 7 = x := h
          rw [h7] at h
          have ih := ih _ (hf3.cu (c := 84) (g := upd (mi' 84) 7 (mi' 84 7 + nI 1)) rfl) hg ⟨hno.1, fun p hp ht2 => by
            by_cases hpj : p = j
            · subst hpj; exact fun e => h e.symm
            · exact hno.2 p (by omega) ht2⟩ (by
            show mi' 84 7 + nI 1 = _
            rw [h7, nI_add, estep, if_pos ht, Nat.add_assoc])
          rw [nI1 j] at ih
          exact hK _ _ _ _ ih
        · have h : mi' 84 7 = x := h
          rw [h7] at h
          exact ⟨Or.inr rfl, rfl, h1 _ w j hwd hj ht h.symm ((hf3.cu (c := 84) rfl).cu (c := 84) rfl) rfl rfl⟩
      · have ih := ih (cu (cu mi' (86 + 1) g) 87 g2) (hf2.cu rfl) hg ⟨hno.1, fun p hp ht2 => by
            by_cases hpj : p = j
            · subst hpj; rw [ht] at ht2; cases ht2
            · exact hno.2 p (by omega) ht2⟩ (by
            show mi' 84 7 = _
            rw [h7, estep, if_neg (by rw [ht]; decide)]; rfl)
        rw [nI1 j] at ih
        exact ⟨fun h => absurd (by decide) h, fun _ => hK _ _ _ _ ih⟩
  have lp : ∀ w, w ≤ T 0 4 → ∀ v5 mi', Fr [83, 84, 87] mi mi' → (∀ i, i < 24 → mi' 83 i = nI (skN N i).toNat) → noT T N x w 0 → mi' 84 7 = nI (tcW T N w) → GoM (d + 4) k_Search_findTale 136 Q 17 [.ref 84, .ref 78, .int x, .int (nI (2 * (T 0 0 * T 0 1))), .int (nI w), v5] [] (mi', ml, R0 rd, 136) := by
    refine upto ?_ ?_
    · intro v5 mi' hf hg hno h7
      have ew : mi' 13 1 = nI (T 0 4) := (hT.fr hf rfl).words
      refine g_Search_findTale (fun K Kl hK hC => ?_)
      exact ⟨fun _ => ⟨Or.inl rfl, rfl, h0 mi' hno hf h7⟩, fun h => absurd (jNLE h) (by omega)⟩
    · intro w hwd ih v5 mi' hf hg hno h7
      have ew : mi' 13 1 = nI (T 0 4) := (hT.fr hf rfl).words
      rw [nI1 w] at ih
      refine g_Search_findTale (fun K Kl hK hC => ?_)
      refine ⟨fun h => absurd (jLE h) (by omega), fun _ => ?_⟩
      exact hK _ _ _ _ (inner w hwd ih 0 (Nat.zero_le _) mi' hf hg hno h7)
  refine r_Search_findTale (by decide) (fun K Kl hK hC => ?_)
  refine hC _ _ _ _ (s_weigh hN (fun g hg => ?_))
  refine hC _ _ _ _ (s_places (hT.fr (L := [83, 84]) (Fr.cu (Fr.cu Fr.none rfl) rfl) rfl) hw ?_)
  exact hK _ _ _ _ (lp 0 (Nat.zero_le _) _ _ (Fr.cu (Fr.cu Fr.none rfl) rfl) hg ⟨fun v hv => absurd hv (by omega), fun p hp => absurd hp (by omega)⟩ rfl)
end
