/-! THE REFERENCE BEGINS -/
def bg6 (k : Nat) : Bool := Nat.beq k 70 || Nat.beq k 71 || Nat.beq k 88 || Nat.beq k 89 || Nat.beq k 94 || Nat.beq k 96
/-- what beginning writes -/
def BG (mi mi' : Nat → Nat → Int32) : Prop := (∀ c, c ≠ 95 → (c < 123 ∨ 125 < c) → mi' c = mi c) ∧ (∀ k, bg6 k = false → mi' 95 k = mi 95 k) ∧ mi' 95 70 = mi 98 0 ∧ mi' 95 71 = nI 0 ∧ mi' 95 88 = nI 0 ∧ mi' 95 89 = -1 ∧ mi' 95 94 = nI 0 ∧ mi' 95 96 = nI 0 ∧ (∀ f, f < 48 → mi' 123 f = nI 0) ∧ mi' 124 0 = nI 0 ∧ (∀ i, i < 18 → mi' 125 i = -1)
theorem bg6_ne {k a : Nat} (h : bg6 k = false) (ha : bg6 a = true) : k ≠ a := fun e => by rw [e, ha] at h; cases h
section
variable {d : Nat} {Q : Option Value → Mm → Prop} {mi : Nat → Nat → Int32} {ml : Nat → Nat → Int64} {rd : Option Nat}
set_option maxHeartbeats 2000000 in
theorem t_begin (hQ : ∀ mi', BG mi mi' → Q none (mi', cu ml 95 (vp_updL (ml 95) 72 (mi 98 1).toInt64), R0 rd, 136)) : Cd (d + 1) k_Mod_begin [.ref 95] (mi, ml, R0 rd, 136) Q := by
  have l2 : ∀ m1 : Nat → Nat → Int32, ∀ ml1, (∀ m2, (∀ c, c ≠ 125 → m2 c = m1 c) → (∀ i, i < 18 → m2 125 i = -1) → Q none (cu (cu (cu (cu m2 95 (upd (m2 95) 88 (nI 0))) 95 (upd (upd (m2 95) 88 (nI 0)) 89 (-1))) 95 (upd (upd (upd (m2 95) 88 (nI 0)) 89 (-1)) 94 (nI 0))) 95 (upd (upd (upd (upd (m2 95) 88 (nI 0)) 89 (-1)) 94 (nI 0)) 96 (nI 0)), ml1, R0 rd, 136)) → ∀ j, j ≤ 18 → ∀ m2 : Nat → Nat → Int32, (∀ c, c ≠ 125 → m2 c = m1 c) → (∀ i, i < j → m2 125 i = -1) → GoM d k_Mod_begin 136 Q 56 [.ref 95, .int (nI j)] [] (m2, ml1, R0 rd, 136) := by
    intro m1 ml1 h1
    refine upto ?_ ?_
    · intro m2 f2 g2
      exact g_Mod_begin (fun K Kl hK hC => ⟨fun _ => ⟨Or.inl rfl, rfl, h1 m2 f2 g2⟩, fun z => absurd (iNLE z) (by omega)⟩)
    · intro j hj ih m2 f2 g2
      rw [nI1 j] at ih
      refine g_Mod_begin (fun K Kl hK hC => ⟨fun z => absurd (iLE z) (by omega), fun _ => ⟨j, by omega, rfl, hK _ _ _ _ (ih _ (fun c hc => by rw [cu_ne hc]; exact f2 c hc) (fun i hi => ?_))⟩⟩)
      show upd (m2 125) j (-1) i = -1
      by_cases e : i = j
      · rw [e]; exact pk_us
      · rw [pk_un e]; exact g2 i (by omega)
  have l1 : ∀ j, j ≤ 48 → ∀ m1 : Nat → Nat → Int32, (∀ c, c ≠ 123 → m1 c = mi c) → (∀ i, i < j → m1 123 i = nI 0) → GoM d k_Mod_begin 136 Q 2 [.ref 95, .int (nI j)] [] (m1, ml, R0 rd, 136) := by
    refine upto ?_ ?_
    · intro m1 f1 g1
      have e98 : m1 98 = mi 98 := f1 98 (by decide)
      have e95 : m1 95 = mi 95 := f1 95 (by decide)
      have hs : (mi 98 1).toInt64 = (m1 98 1).toInt64 := by rw [e98]
      rw [hs] at hQ
      refine g_Mod_begin (fun K Kl hK hC => ⟨fun _ => ⟨0, by decide, rfl, ⟨0, by decide, rfl, ⟨1, by decide, rfl, hK _ _ _ _ (l2 _ _ (fun m2 f2 g2 => hQ _ ?_) 0 (Nat.zero_le _) _ (fun _ _ => rfl) lt_0)⟩⟩⟩, fun z => absurd (iNLE z) (by omega)⟩)
      have k95 := f2 95 (by decide)
      have k95 : m2 95 = upd (upd (m1 95) 70 (m1 98 0)) 71 (nI 0) := k95
      refine ⟨fun c h1 h2 => ?_, fun k hk => ?_, ?_, ?_, rfl, rfl, rfl, rfl, fun f hf => ?_, ?_, g2⟩
      · rw [cu_ne h1, cu_ne h1, cu_ne h1, cu_ne h1, f2 c (by omega), cu_ne (by omega), cu_ne (by omega), cu_ne (by omega), f1 c (by omega)]
      · show upd (upd (upd (upd (m2 95) 88 _) 89 _) 94 _) 96 _ k = _
        rw [pk_un (bg6_ne hk rfl), pk_un (bg6_ne hk rfl), pk_un (bg6_ne hk rfl), pk_un (bg6_ne hk rfl), k95, pk_un (bg6_ne hk rfl), pk_un (bg6_ne hk rfl), e95]
      · show m2 95 70 = _
        rw [k95, ← e98]
        rfl
      · show m2 95 71 = _
        rw [k95]
        rfl
      · show m2 123 f = _
        rw [f2 123 (by decide)]
        exact g1 f hf
      · show m2 124 0 = _
        rw [f2 124 (by decide)]
        rfl
    · intro j hj ih m1 f1 g1
      rw [nI1 j] at ih
      refine g_Mod_begin (fun K Kl hK hC => ⟨fun z => absurd (iLE z) (by omega), fun _ => ⟨j, by omega, rfl, hK _ _ _ _ (ih _ (fun c hc => by rw [cu_ne hc]; exact f1 c hc) (fun i hi => ?_))⟩⟩)
      show upd (m1 123) j (nI 0) i = nI 0
      by_cases e : i = j
      · rw [e]; exact pk_us
      · rw [pk_un e]; exact g1 i (by omega)
  exact r_Mod_begin (by decide) (fun K Kl hK hC => hK _ _ _ _ (l1 0 (Nat.zero_le _) mi (fun _ _ => rfl) lt_0))
end
