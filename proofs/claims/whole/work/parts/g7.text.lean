/-! THE REFERENCE READS: what is told before any line; all lines -/
section
variable {d : Nat} {Q : Option Value → Mm → Prop} {A : St} {mi : Nat → Nat → Int32} {ml : Nat → Nat → Int64} {rd : Option Nat}
set_option maxHeartbeats 4000000 in
theorem t_plain (hQ : ∀ mi', WG mi mi' → (∀ k, k < 12 → mi' 95 k = mi 95 k) → MX tI mi' → Q none (mi', ml, R0 rd, 136)) : Cd (d + 1) k_Mod_plain [.ref 95] (mi, ml, R0 rd, 136) Q := by
  have l2 : ∀ m1 : Nat → Nat → Int32, WG mi m1 → (∀ m2, WG mi m2 → (∀ c, c ≠ 103 → m2 c = m1 c) → (∀ i, 48 ≤ i → i < 96 → m2 103 i = -1) → Q none (m2, ml, R0 rd, 136)) → ∀ j, j ≤ 96 → 48 ≤ j → ∀ m2 : Nat → Nat → Int32, WG mi m2 → (∀ c, c ≠ 103 → m2 c = m1 c) → (∀ i, 48 ≤ i → i < j → m2 103 i = -1) → GoM d k_Mod_plain 136 Q 115 [.ref 95, .int (nI j)] [] (m2, ml, R0 rd, 136) := by
    intro m1 w1 h1
    refine upto ?_ ?_
    · intro _ m2 w2 f2 g2
      exact g_Mod_plain (fun K Kl hK hC => ⟨fun _ => ⟨rfl, h1 m2 w2 f2 g2⟩, fun z => absurd (iNLE z) (by omega)⟩)
    · intro j hj ih h48 m2 w2 f2 g2
      rw [nI1 j] at ih
      refine g_Mod_plain (fun K Kl hK hC => ⟨fun z => absurd (iLE z) (by omega), fun _ => ⟨j, by omega, rfl, hK _ _ _ _ (ih (by omega) _ (w2.cu (wB_hi (by decide) (by decide) h48)) (fun c hc => by rw [cu_ne hc]; exact f2 c hc) (fun i h hi => ?_))⟩⟩)
      show upd (m2 103) j (-1) i = -1
      by_cases e : i = j
      · rw [e]; exact pk_us
      · rw [pk_un e]; exact g2 i h (by omega)
  have l1 : ∀ m0 : Nat → Nat → Int32, (∀ m1, WG mi m1 → (∀ c, c ≠ 99 → m1 c = m0 c) → (∀ i, i < 3 → m1 99 i = nI 0) → ∀ m2, WG mi m2 → (∀ c, c ≠ 103 → m2 c = m1 c) → (∀ i, 48 ≤ i → i < 96 → m2 103 i = -1) → Q none (m2, ml, R0 rd, 136)) → ∀ j, j ≤ 3 → ∀ m1 : Nat → Nat → Int32, WG mi m1 → (∀ c, c ≠ 99 → m1 c = m0 c) → (∀ i, i < j → m1 99 i = nI 0) → GoM d k_Mod_plain 136 Q 94 [.ref 95, .int (nI j)] [] (m1, ml, R0 rd, 136) := by
    intro m0 h0
    refine upto ?_ ?_
    · intro m1 w1 f1 g1
      exact g_Mod_plain (fun K Kl hK hC => ⟨fun _ => hK _ _ _ _ (l2 m1 w1 (h0 m1 w1 f1 g1) 48 (by decide) (by decide) m1 w1 (fun _ _ => rfl) (fun i h hi => by omega)), fun z => absurd (iNLE z) (by omega)⟩)
    · intro j hj ih m1 w1 f1 g1
      rw [nI1 j] at ih
      refine g_Mod_plain (fun K Kl hK hC => ⟨fun z => absurd (iLE z) (by omega), fun _ => ⟨j, by omega, rfl, Or.inl rfl, hK _ _ _ _ (ih _ (w1.cu (wB_hi (by decide) (by decide) (Nat.zero_le _))) (fun c hc => by rw [cu_ne hc]; exact f1 c hc) (fun i hi => ?_))⟩⟩)
      show upd (m1 99) j (nI 0) i = nI 0
      by_cases e : i = j
      · rw [e]; exact pk_us
      · rw [pk_un e]; exact g1 i (by omega)
  refine r_Mod_plain (by decide) (fun K Kl hK hC => ?_)
  refine ⟨Or.inl rfl, Or.inl rfl, ⟨3, by decide, rfl, ⟨4, by decide, rfl, ⟨5, by decide, rfl, hK _ _ _ _ (l1 _ (fun m1 w1 f1 g1 m2 w2 f2 g2 => hQ m2 w2 ?_ ?_) 0 (Nat.zero_le _) _ (((((((((((((((((WG.none.cu rfl).cu rfl).cu rfl).cu rfl).cu rfl).cu rfl).cu rfl).cu rfl).cu rfl).cu rfl).cu rfl).cu rfl).cu rfl).cu rfl).cu rfl).cu rfl).cu rfl) (fun _ _ => rfl) lt_0)⟩⟩⟩⟩
  · intro k hk
    rw [f2 95 (by decide), f1 95 (by decide)]
    show upd (upd (upd (upd (upd (upd (upd (upd (upd (upd (upd (upd (upd (upd (mi 95) 23 _) 24 _) 25 _) 26 _) 27 _) 28 _) 29 _) 30 _) 31 _) 32 _) 33 _) 62 _) 34 _) 35 _ k = _
    iterate 14 rw [pk_un (by omega)]
  · have k95 := (f2 95 (by decide)).trans (f1 95 (by decide))
    have k98 := (f2 98 (by decide)).trans (f1 98 (by decide))
    have e99 : ∀ i, i < 3 → m2 99 i = nI 0 := fun i hi => by rw [f2 99 (by decide)]; exact g1 i hi
    exact ⟨congrFun k95 23, congrFun k95 24, congrFun k95 25, congrFun k95 26, congrFun k95 27, congrFun k95 28, congrFun k95 29, congrFun k95 30, congrFun k95 31, congrFun k95 32, congrFun k95 33, congrFun k95 34, congrFun k95 35, congrFun k98 3, congrFun k98 4, congrFun k98 5, e99 0 (by decide), e99 1 (by decide), e99 2 (by decide), lt_0, lt_0, lt_0, fun f hf => (g2 (48 + f) (by omega) (by omega)).trans (show (-1 : Int32) = nI 0 - 1 by decide), lt_0, lt_0, lt_0, lt_0, lt_0, lt_0, lt_0, lt_0, lt_0, lt_0, fun i hi => absurd hi (Nat.not_lt_zero i), lt_0, fun _ => congrFun k95 62, lt_0, fun i hi => absurd hi (Nat.not_lt_zero i), fun i hi => absurd hi (Nat.not_lt_zero i)⟩
theorem WG.wf2 {mi mi' : Nat → Nat → Int32} (h : WG mi mi') : mi' 95 1 = mi 95 1 ∧ mi' 95 4 = mi 95 4 ∧ mi' 95 5 = mi 95 5 ∧ mi' 95 75 = mi 95 75 ∧ mi' 95 76 = mi 95 76 := ⟨h 95 1 rfl, h 95 4 rfl, h 95 5 rfl, h 95 75 rfl, h 95 76 rfl⟩
end
