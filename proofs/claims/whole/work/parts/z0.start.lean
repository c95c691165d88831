/-! THE LAW BEGINS -/
theorem CI.lo2 {A : St} {mi mi' : Nat → Nat → Int32} (h : CI A mi) (hl : ∀ c, c < 95 → mi' c = mi c) : CI A mi' := by
  have cs : ∀ {b : Nat} {S : Nat → Nat → Nat}, b + 2 < 95 → CS b S mi → CS b S mi' := fun {b} {S} hb h => by
    unfold CS at h ⊢
    rw [hl b (by omega), hl (b + 1) (by omega), hl (b + 2) (by omega)]
    exact h
  have h0 : mi' 0 = mi 0 := hl 0 (by omega)
  have h1 : mi' 1 = mi 1 := hl 1 (by omega)
  refine ⟨h.T.keep (fun c h1 h2 => hl c (by omega)), cs (by omega) h.S, h.N.fr (fun c h1 h2 => hl c (by omega)), ?_, ?_, fun z => cs (by omega) (h.I z), ?_, ?_, ?_, ?_⟩
  · have hP := h.P
    unfold CP at hP ⊢
    rw [hl 76 (by omega), hl 77 (by omega)]
    exact hP
  · rw [h0]; exact h.k
  · rw [h0]; exact h.f
  · rw [h1]; exact h.b
  · rw [h0]; exact h.q
  · rw [h0]; exact h.qp
set_option maxHeartbeats 2000000 in
theorem MI.up3 {A : St} {mi mi' : Nat → Nat → Int32} {ml ml' : Nat → Nat → Int64} (h : MI A mi ml) (h1 : ∀ c, 95 ≤ c → c < 135 → mi' c = mi c) (h2 : ml' 95 = ml 95) : MI A mi' ml' := by
  unfold MI MT MK MS MN MPa MIm at h ⊢
  simp only [show mi' 95 = mi 95 from h1 95 (by decide) (by decide), show mi' 96 = mi 96 from h1 96 (by decide) (by decide), show mi' 97 = mi 97 from h1 97 (by decide) (by decide), show mi' 98 = mi 98 from h1 98 (by decide) (by decide), show mi' 99 = mi 99 from h1 99 (by decide) (by decide), show mi' 100 = mi 100 from h1 100 (by decide) (by decide), show mi' 101 = mi 101 from h1 101 (by decide) (by decide), show mi' 102 = mi 102 from h1 102 (by decide) (by decide), show mi' 103 = mi 103 from h1 103 (by decide) (by decide), show mi' 104 = mi 104 from h1 104 (by decide) (by decide), show mi' 105 = mi 105 from h1 105 (by decide) (by decide), show mi' 106 = mi 106 from h1 106 (by decide) (by decide), show mi' 107 = mi 107 from h1 107 (by decide) (by decide), show mi' 108 = mi 108 from h1 108 (by decide) (by decide), show mi' 109 = mi 109 from h1 109 (by decide) (by decide), show mi' 110 = mi 110 from h1 110 (by decide) (by decide), show mi' 111 = mi 111 from h1 111 (by decide) (by decide), show mi' 112 = mi 112 from h1 112 (by decide) (by decide), show mi' 113 = mi 113 from h1 113 (by decide) (by decide), show mi' 114 = mi 114 from h1 114 (by decide) (by decide), show mi' 115 = mi 115 from h1 115 (by decide) (by decide), show mi' 116 = mi 116 from h1 116 (by decide) (by decide), show mi' 117 = mi 117 from h1 117 (by decide) (by decide), show mi' 118 = mi 118 from h1 118 (by decide) (by decide), show mi' 119 = mi 119 from h1 119 (by decide) (by decide), show mi' 120 = mi 120 from h1 120 (by decide) (by decide), show mi' 121 = mi 121 from h1 121 (by decide) (by decide), show mi' 122 = mi 122 from h1 122 (by decide) (by decide), show mi' 123 = mi 123 from h1 123 (by decide) (by decide), show mi' 124 = mi 124 from h1 124 (by decide) (by decide), show mi' 125 = mi 125 from h1 125 (by decide) (by decide), show mi' 126 = mi 126 from h1 126 (by decide) (by decide), show mi' 127 = mi 127 from h1 127 (by decide) (by decide), show mi' 128 = mi 128 from h1 128 (by decide) (by decide), show mi' 129 = mi 129 from h1 129 (by decide) (by decide), show mi' 130 = mi 130 from h1 130 (by decide) (by decide), show mi' 131 = mi 131 from h1 131 (by decide) (by decide), show mi' 132 = mi 132 from h1 132 (by decide) (by decide), show mi' 133 = mi 133 from h1 133 (by decide) (by decide), show mi' 134 = mi 134 from h1 134 (by decide) (by decide), h2]
  exact h
theorem R0_135 : cu (R0 none) 135 (fun _ => none) = R0 none := funext (fun a => by
  by_cases h : a = 135
  · subst h
    rw [cu_self]
    funext k
    rfl
  · exact cu_ne h)
section
variable {Kl : Nat → List Value → Mm → (Option Value → Mm → Prop) → Prop} {K : Nat → List Value → List Value → Mm → Prop} {L : Nat} {xs : Nat → Int32}
set_option maxRecDepth 20000 in
theorem lc_start (hC : ∀ k as M P, ClL 12 L xs k as M P → Kl k as M P) (hK : ∀ mi ml, CI A0 mi → MI A0 mi ml → K 23 [.ref 901, .ref 0, .ref 95, .ref 135, .int (nI 0), .null, .null] [] (mi, ml, R0 none, 136)) :
    GnN Kl mcT 2 136 (fun r _ => r = some (.int 1)) K m_L 1000 (sfx m_L 0) [.ref 901, .null, .null, .null, .null, .null, .null] [] (fun _ _ => 0, fun _ _ => 0, R0 none, 0) := by
  refine ⟨trivial, hC _ _ _ _ (Or.inl (i_Hay (mi := cu (fun _ _ => 0) 0 (fun _ => 0)) (ml := cu (fun _ _ => 0) 0 (fun _ => 0)) (mr := cu (R0 none) 0 (fun _ => none)) cu_self cu_self cu_self (fun a ha => cu_ne (by omega)) (fun mi1 ml1 hA => ?_)))⟩
  conv => whnf
  rw [nws_obj (n := 95) rfl rfl rfl]
  refine ⟨trivial, hC _ _ _ _ (Or.inl (i_Mod (mi := cu mi1 95 (fun _ => 0)) (ml := cu ml1 95 (fun _ => 0)) (mr := cu (R0 none) 95 (fun _ => none)) cu_self cu_self (fun a ha => cu_ne ha) (fun mi2 ml2 hM h2 => ?_)))⟩
  conv => whnf
  rw [nws_arr (n := 135) rfl rfl rfl]
  refine ⟨rfl, ?_⟩
  have hk := hK (cu mi2 135 (fun _ => 0)) (cu ml2 135 (fun _ => 0)) (hA.lo2 (fun c hc => by rw [cu_ne (by omega), (h2 c hc).1, cu_ne (by omega)])) (hM.up3 (fun c h1 h2 => cu_ne (by omega)) (cu_ne (by decide)))
  rw [← R0_135] at hk
  exact hk
end
