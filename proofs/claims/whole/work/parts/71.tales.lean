/-! TALES (the class) -/
def wfN (T N : Nat → Nat → Nat) : Prop := ∀ i, i < N 0 0 → N 1 i ≠ 0 → N 1 i ≤ T 0 5 ∧ N 2 i < T 0 0 * T 0 1 ∧ N 3 i ≤ 26
section
variable {d : Nat} {Q : Option Value → Mm → Prop} {T S : Nat → Nat → Nat} {mi : Nat → Nat → Int32} {ml : Nat → Nat → Int64} {rd : Option Nat} {N : Nat → Nat → Nat}
theorem s_counts (hN : CN N mi) (hg : ∀ i, i < 24 → mi 83 i = nI (skN N i).toNat) {i : Nat} (hi : i < N 0 0) (h1 : ctN N i = true → Q (some (.int (nI 1))) (mi, ml, R0 rd, 136)) (h0 : ctN N i = false → Q (some (.int (nI 0))) (mi, ml, R0 rd, 136)) : Cd (d + 1) k_Notes_counts [.ref 78, .int (nI i)] (mi, ml, R0 rd, 136) Q := by
  obtain ⟨e0, e1, h24, hk, hr, hst⟩ := hN
  refine r_Notes_counts (by decide) (fun K Kl hK hC => ⟨i, by omega, rfl, ?_⟩)
  by_cases hz : N 1 i = 0
  · have h3 := hst i hi hz
    rw [h3.1]
    exact ⟨fun _ => ⟨Or.inl rfl, rfl, h0 (by unfold ctN; simp [hz])⟩, fun h => absurd (nI_pos' (by omega)) h⟩
  · have h3 := (hr i hi hz).2.2.2
    rw [h3]
    refine ⟨fun h => absurd h (by decide), fun _ => ⟨i, by omega, rfl, ?_⟩⟩
    rw [hg i (by omega)]
    cases hb : skN N i with
    | true => exact ⟨fun _ => ⟨Or.inl rfl, rfl, h0 (by unfold ctN; simp [hb])⟩, fun h => absurd h (by decide)⟩
    | false => exact ⟨fun h => absurd (by decide) h, fun _ => ⟨Or.inr rfl, rfl, h1 (by unfold ctN; simp [hb, hz])⟩⟩
theorem s_isSo (hT : CT 0 T mi) (hw : wfT T) {sh : Nat → Nat} (hsh : ∀ f, f < 48 → mi 87 f = nI (sh f) ∧ sh f ≤ 511) {h f c : Nat} (hh : h < T 0 5) (hf : f < T 0 0 * T 0 1) (hc : c ≤ 26) (h1 : readN T h (sh f) = c → Q (some (.int (nI 1))) (mi, ml, R0 rd, 136)) (h0 : readN T h (sh f) ≠ c → Q (some (.int (nI 0))) (mi, ml, R0 rd, 136)) : Cd (d + 3) k_Search_isSo [.ref 84, .int (nI h), .int (nI f), .int (nI c)] (mi, ml, R0 rd, 136) Q := by
  have hfl := hw.fl
  have hs := hsh f (by omega)
  have hrl := readN_le hw h (sh f)
  refine r_Search_isSo (by decide) (fun K Kl hK hC => ?_)
  refine hC _ _ _ _ (s_hasHill hT hw (fun _ _ _ => ?_) (fun z => absurd rfl (z h hh)))
  refine ⟨fun z => absurd z (by decide), fun _ => ?_⟩
  refine hC _ _ _ _ (s_Told_inField (o := 0) (Or.inl rfl) hT hw hf ?_)
  refine ⟨fun _ => ⟨f, by omega, rfl, ?_⟩, fun z => absurd z (by decide)⟩
  rw [hs.1]
  refine hC _ _ _ _ (s_readFrom hT hw hh (by omega) ?_)
  exact ⟨fun z => ⟨Or.inl rfl, rfl, h0 (iNE z)⟩, fun z => ⟨Or.inr rfl, rfl, h1 (iEQ z)⟩⟩
end
