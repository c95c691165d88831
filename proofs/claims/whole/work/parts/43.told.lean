/-! TOLD, SCRIPT, HILLS: what the class's small methods answer -/
section
variable {d n : Nat} {Q : Option Value → Mm → Prop} {T : Nat → Nat → Nat} {mi : Nat → Nat → Int32} {ml : Nat → Nat → Int64} {rd : Option Nat}
theorem wfT.fl {T : Nat → Nat → Nat} (h : wfT T) : T 0 0 * T 0 1 ≤ 48 := by
  have h1 := h.w8; have h2 := h.h6
  calc T 0 0 * T 0 1 ≤ 8 * 6 := Nat.mul_le_mul h1 h2
    _ = 48 := rfl
theorem s_Told_fields {o : Nat} (ho : o = 0 ∨ o = 31) (hT : CT o T mi) (hQ : Q (some (.int (nI (T 0 0 * T 0 1)))) (mi, ml, R0 rd, 136)) : Cd (d + 1) k_Told_fields [.ref (6 + o)] (mi, ml, R0 rd, 136) Q := by
  have e : mi (6 + o) 0 * mi (6 + o) 1 = nI (T 0 0 * T 0 1) := by rw [hT.wide, hT.high, pk_mul]
  rw [← e] at hQ
  rcases ho with rfl | rfl
  · exact r_Told_fields (by decide) (fun K Kl hK hC => ⟨rfl, hQ⟩)
  · exact r_Told_fields (by decide) (fun K Kl hK hC => ⟨rfl, hQ⟩)
theorem s_Told_hasField {o : Nat} (ho : o = 0 ∨ o = 31) (hT : CT o T mi) (hw : wfT T) {x : Int32} (h1 : ∀ f, f < T 0 0 * T 0 1 → x = nI f → Q (some (.int (nI 1))) (mi, ml, R0 rd, 136)) (h0 : (∀ f, f < T 0 0 * T 0 1 → x ≠ nI f) → Q (some (.int (nI 0))) (mi, ml, R0 rd, 136)) : Cd (d + 1) k_Told_hasField [.ref (6 + o), .int x] (mi, ml, R0 rd, 136) Q := by
  have hf := hw.fl
  have e : mi (6 + o) 0 * mi (6 + o) 1 = nI (T 0 0 * T 0 1) := by rw [hT.wide, hT.high, pk_mul]
  have big : nI (T 0 0 * T 0 1) ≤ x → ∀ f, f < T 0 0 * T 0 1 → x ≠ nI f := fun h f hf2 e2 => by
    rw [e2] at h
    have := iLE h
    omega
  have neg : x < 0 → ∀ f, f < T 0 0 * T 0 1 → x ≠ nI f := fun h f hf2 => i_neg_ne h (by omega)
  have main : RunP m_X9_hasField 2 d k_Told_hasField 136 Q 0 [.ref (6 + o), .int x] [] (mi, ml, R0 rd, 136) := by
    rcases ho with rfl | rfl
    all_goals
      intro K Kl hK hC
      refine ⟨fun h => ?_, fun h => ⟨fun h2 => ?_, fun h2 => ⟨fun h3 => ?_, fun h3 => ?_⟩⟩⟩
      · exact ⟨Or.inl rfl, rfl, h0 (neg h)⟩
      · exact ⟨Or.inl rfl, rfl, h0 (big (e ▸ h2))⟩
      · refine ⟨Or.inl rfl, rfl, h0 (fun f hf2 e2 => ?_)⟩
        rw [e2] at h3
        have := iLE h3
        omega
      · obtain ⟨j, hj, rfl⟩ := nI_of h
        have h2 : ¬ nI (T 0 0 * T 0 1) ≤ nI j := e ▸ h2
        exact ⟨Or.inr rfl, rfl, h1 j (iNLE h2) rfl⟩
  exact r_Told_hasField (by decide) main
/-- a place in the plain -/
theorem s_Told_inField {o : Nat} (ho : o = 0 ∨ o = 31) (hT : CT o T mi) (hw : wfT T) {f : Nat} (hf : f < T 0 0 * T 0 1) (h1 : Q (some (.int (nI 1))) (mi, ml, R0 rd, 136)) : Cd (d + 1) k_Told_hasField [.ref (6 + o), .int (nI f)] (mi, ml, R0 rd, 136) Q :=
  s_Told_hasField ho hT hw (fun _ _ _ => h1) (fun h => absurd rfl (h f hf))
theorem s_Told_hasOwner (hT : CT 0 T mi) (hw : wfT T) {x : Int32} (h1 : ∀ f, f < T 0 2 → x = nI f → Q (some (.int (nI 1))) (mi, ml, R0 rd, 136)) (h0 : (∀ f, f < T 0 2 → x ≠ nI f) → Q (some (.int (nI 0))) (mi, ml, R0 rd, 136)) : Cd (d + 1) k_Told_hasOwner [.ref 6, .int x] (mi, ml, R0 rd, 136) Q := by
  have hf := hw.own5
  have e : mi 6 2 = nI (T 0 2) := hT.owners
  refine r_Told_hasOwner (by decide) (fun K Kl hK hC => ?_)
  refine ⟨fun h => ?_, fun h => ⟨fun h2 => ?_, fun h2 => ⟨fun h3 => ?_, fun h3 => ?_⟩⟩⟩
  · exact ⟨Or.inl rfl, rfl, h0 (fun f hf2 => i_neg_ne h (by omega))⟩
  · refine ⟨Or.inl rfl, rfl, h0 (fun f hf2 e2 => ?_)⟩
    rw [e, e2] at h2
    have := iLE h2
    omega
  · refine ⟨Or.inl rfl, rfl, h0 (fun f hf2 e2 => ?_)⟩
    rw [e2] at h3
    have := iLE h3
    omega
  · obtain ⟨j, hj, rfl⟩ := nI_of h
    rw [e] at h2
    exact ⟨Or.inr rfl, rfl, h1 j (iNLE h2) rfl⟩
end
