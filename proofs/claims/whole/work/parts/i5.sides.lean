/-! WHAT ONE SIDE DOES LEAVES THE OTHER AS IT WAS -/
abbrev HI : List Nat := [95, 96, 97, 98, 99, 100, 101, 102, 103, 104, 105, 106, 107, 108, 109, 110, 111, 112, 113, 114, 115, 116, 117, 118, 119, 120, 121, 122, 123, 124, 125, 126, 127, 128, 129, 130, 131, 132, 133, 134]
theorem Lo.fr {mi mi' : Nat → Nat → Int32} (h : Lo mi mi') : Fr HI mi mi' := fun c hc => by
  by_cases h1 : c < 95
  · exact h c (Or.inl h1)
  · by_cases h2 : 135 ≤ c
    · exact h c (Or.inr h2)
    · exfalso
      have : ∀ c, c < 135 → 95 ≤ c → nin HI c = false := by decide +kernel
      rw [this c (by omega) (by omega)] at hc
      cases hc
theorem CI.lo {A : St} {mi mi' : Nat → Nat → Int32} (h : CI A mi) (hl : Lo mi mi') : CI A mi' := by
  have hf := hl.fr
  have h0 : mi' 0 = mi 0 := hl 0 (Or.inl (by omega))
  have h1 : mi' 1 = mi 1 := hl 1 (Or.inl (by omega))
  refine ⟨h.T.fr hf rfl, h.S.fr hf rfl rfl rfl, h.N.fr2 hf rfl, h.P.fr hf rfl rfl, ?_, fun z => (h.I z).fr hf rfl rfl rfl, ?_, ?_, ?_, ?_⟩
  · rw [h0]; exact h.k
  · rw [h0]; exact h.f
  · rw [h1]; exact h.b
  · rw [h0]; exact h.q
  · rw [h0]; exact h.qp
set_option maxHeartbeats 2000000 in
theorem MI.up {A : St} {mi mi' : Nat → Nat → Int32} {ml ml' : Nat → Nat → Int64} (h : MI A mi ml) (h1 : Up mi mi') (h2 : Up ml ml') : MI A mi' ml' := by
  unfold MI MT MK MS MN MPa MIm at h ⊢
  simp only [show mi' 95 = mi 95 from h1 95 (by decide), show mi' 96 = mi 96 from h1 96 (by decide), show mi' 97 = mi 97 from h1 97 (by decide), show mi' 98 = mi 98 from h1 98 (by decide), show mi' 99 = mi 99 from h1 99 (by decide), show mi' 100 = mi 100 from h1 100 (by decide), show mi' 101 = mi 101 from h1 101 (by decide), show mi' 102 = mi 102 from h1 102 (by decide), show mi' 103 = mi 103 from h1 103 (by decide), show mi' 104 = mi 104 from h1 104 (by decide), show mi' 105 = mi 105 from h1 105 (by decide), show mi' 106 = mi 106 from h1 106 (by decide), show mi' 107 = mi 107 from h1 107 (by decide), show mi' 108 = mi 108 from h1 108 (by decide), show mi' 109 = mi 109 from h1 109 (by decide), show mi' 110 = mi 110 from h1 110 (by decide), show mi' 111 = mi 111 from h1 111 (by decide), show mi' 112 = mi 112 from h1 112 (by decide), show mi' 113 = mi 113 from h1 113 (by decide), show mi' 114 = mi 114 from h1 114 (by decide), show mi' 115 = mi 115 from h1 115 (by decide), show mi' 116 = mi 116 from h1 116 (by decide), show mi' 117 = mi 117 from h1 117 (by decide), show mi' 118 = mi 118 from h1 118 (by decide), show mi' 119 = mi 119 from h1 119 (by decide), show mi' 120 = mi 120 from h1 120 (by decide), show mi' 121 = mi 121 from h1 121 (by decide), show mi' 122 = mi 122 from h1 122 (by decide), show mi' 123 = mi 123 from h1 123 (by decide), show mi' 124 = mi 124 from h1 124 (by decide), show mi' 125 = mi 125 from h1 125 (by decide), show mi' 126 = mi 126 from h1 126 (by decide), show mi' 127 = mi 127 from h1 127 (by decide), show mi' 128 = mi 128 from h1 128 (by decide), show mi' 129 = mi 129 from h1 129 (by decide), show mi' 130 = mi 130 from h1 130 (by decide), show mi' 131 = mi 131 from h1 131 (by decide), show mi' 132 = mi 132 from h1 132 (by decide), show mi' 133 = mi 133 from h1 133 (by decide), show mi' 134 = mi 134 from h1 134 (by decide), show ml' 95 = ml 95 from h2 95 (by decide)]
  exact h
theorem fr36 {ml ml' : Nat → Nat → Int64} (h : Fr [36] ml ml') : Up ml ml' := h.up rfl
theorem frSC {mi mi' : Nat → Nat → Int32} (h : Fr SC mi mi') : Up mi mi' := h.up rfl
theorem MI.up2 {A : St} {mi : Nat → Nat → Int32} {ml ml' : Nat → Nat → Int64} (h : MI A mi ml) (h2 : ml' 95 = ml 95) : MI A mi ml' := by
  unfold MI MT MK MS MN MPa MIm at h ⊢
  simp only [h2]
  exact h
