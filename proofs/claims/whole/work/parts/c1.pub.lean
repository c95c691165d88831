/-! WHAT THE REFERENCE ANSWERS: keep, back -/
section
variable {d : Nat} {Q : Option Value → Mm → Prop} {A : St} {S : Nat → Nat → Nat} {mi : Nat → Nat → Int32} {ml : Nat → Nat → Int64} {rd : Option Nat} {x y z : Int32}
theorem MI.im {m2 : Nat → Nat → Int32} {l2 : Nat → Nat → Int64} (hA : MI A mi ml) (hc : ∀ c, (95 < c ∧ c < 119) ∨ (122 < c ∧ c < 126) ∨ c = 130 ∨ c = 132 → m2 c = mi c) (h95 : ∀ k, k ≠ 96 → k ≠ 98 → scF k = false → m2 95 k = mi 95 k) (hl : l2 95 72 = ml 95 72) (hI : MIm (A 1) m2 l2) (h96 : m2 95 96 = nI 1) : MI (aKeep A).2 m2 l2 := by
  refine ⟨hA.T.h (fun k h1 h2 => h95 k (by omega) (by omega) (by
      have : ∀ k, k < 23 → 12 ≤ k → scF k = false := by decide
      exact this k (by omega) h1)) (fun c h1 h2 => hc c (by omega)), hA.K.h (fun c h1 h2 => hc c (by omega)), ?_, ?_, ?_, ⟨h96, fun _ => hI⟩, ⟨?_, ?_⟩, ⟨?_, ?_⟩, ⟨?_, ?_⟩, ?_⟩
  · have := hA.S
    unfold MS at this ⊢
    rw [hc 123 (by decide), hc 124 (by decide), hc 125 (by decide), h95 70 (by decide) (by decide) rfl, h95 71 (by decide) (by decide) rfl, hl]
    exact this
  · have := hA.N
    unfold MN at this ⊢
    rw [h95 88 (by decide) (by decide) rfl, h95 89 (by decide) (by decide) rfl, hc 130 (by decide)]
    exact this
  · have := hA.P
    unfold MPa at this ⊢
    rw [hc 132 (by decide), h95 94 (by decide) (by decide) rfl]
    exact this
  · rw [h95 1 (by decide) (by decide) rfl]; exact hA.b.1
  · rw [hc 96 (by decide)]; exact hA.b.2
  · rw [h95 4 (by decide) (by decide) rfl]; exact hA.q.1
  · rw [h95 5 (by decide) (by decide) rfl]; exact hA.q.2
  · rw [h95 75 (by decide) (by decide) rfl]; exact hA.f.1
  · rw [h95 76 (by decide) (by decide) rfl]; exact hA.f.2
  · rw [hc 97 (by decide)]; exact hA.w
theorem q_keep (hA : MI A mi ml) (hw : wfA A) (hQ : ∀ mi' ml', MI (aKeep A).2 mi' ml' → Lo mi mi' → Lo ml ml' → Q (some (.int (aKeep A).1)) (mi', ml', R0 rd, 136)) : Cd (d + 2) k_Mod_keep [.ref 95] (mi, ml, R0 rd, 136) Q := by
  have hA1 := hA.mf thr0 ML.none
  have lp : ∀ (m : Nat → Nat → Int32) l j, j ≤ 18 → ∀ g : Nat → Int32, (∀ i, i < j → g i = m 125 i) → (∀ g' : Nat → Int32, (∀ i, i < 18 → g' i = m 125 i) → Q (some (.int (m 124 0))) (cu m 134 g', l, R0 rd, 136)) → GoM (d + 1) k_Mod_keep 136 Q 39 [.ref 95, .int (nI j)] [] (cu m 134 g, l, R0 rd, 136) := by
    intro m l
    refine upto ?_ ?_
    · intro g hg hq
      exact g_Mod_keep (fun K Kl hK hC => ⟨fun _ => ⟨0, by decide, rfl, rfl, hq g hg⟩, fun z => absurd (iNLE z) (by omega)⟩)
    · intro j hj ih g hg hq
      have ih := ih (upd g j (m 125 j)) (fun i hi => by
        by_cases e : i = j
        · rw [e, pk_us]
        · rw [pk_un e]; exact hg i (by omega)) hq
      rw [nI1 j, ← cuu] at ih
      exact g_Mod_keep (fun K Kl hK hC => ⟨fun z => absurd (iLE z) (by omega), fun _ => ⟨j, by omega, rfl, j, by omega, rfl, hK _ _ _ _ ih⟩⟩)
  have hS1 : MS (A 1) (cu (cu mi 95 (upd (mi 95) 2 (nI 0))) 95 (upd (upd (mi 95) 2 (nI 0)) 96 (nI 1))) ml := hA1.S
  refine r_Mod_keep (by decide) (fun K Kl hK hC => ⟨Or.inr rfl, hC _ _ _ _ (t_put (c := 133) (L := 50) (a := 0) hS1 (Or.inr ⟨rfl, rfl⟩) (by omega) rfl (fun g hg hg2 => ⟨0, by decide, rfl, ?_⟩))⟩)
  have l0 := lp (cu (cu (cu (cu mi 95 (upd (mi 95) 2 (nI 0))) 95 (upd (upd (mi 95) 2 (nI 0)) 96 (nI 1))) 133 g) 95 (upd (upd (upd (mi 95) 2 (nI 0)) 96 (nI 1)) 98 (mi 124 0))) (cu ml 95 (vp_updL (ml 95) 99 (ml 95 72))) 0 (Nat.zero_le _) ((cu (cu (cu (cu mi 95 (upd (mi 95) 2 (nI 0))) 95 (upd (upd (mi 95) 2 (nI 0)) 96 (nI 1))) 133 g) 95 (upd (upd (upd (mi 95) 2 (nI 0)) 96 (nI 1)) 98 (mi 124 0))) 134) lt_0 (fun g' hg' => ?_)
  · rw [cu_id] at l0
    exact hK _ _ _ _ l0
  · have hq := hQ (cu (cu (cu (cu (cu mi 95 (upd (mi 95) 2 (nI 0))) 95 (upd (upd (mi 95) 2 (nI 0)) 96 (nI 1))) 133 g) 95 (upd (upd (upd (mi 95) 2 (nI 0)) 96 (nI 1)) 98 (mi 124 0))) 134 g') (cu ml 95 (vp_updL (ml 95) 99 (ml 95 72))) (hA.im (fun c hc => by rw [cu_ne (by omega), cu_ne (by omega), cu_ne (by omega), cu_ne (by omega), cu_ne (by omega)]) (fun k h1 h2 h3 => by
        show upd (upd (upd (mi 95) 2 (nI 0)) 96 (nI 1)) 98 (mi 124 0) k = _
        rw [pk_un h2, pk_un h1, pk_un (k2 h3)]) rfl ⟨fun i hi => ?_, hA.S.2.1, hA.S.2.2.2.1, fun h hh w hw => ?_⟩ rfl) (((((Lo.none.cu (by decide)).cu (by decide)).cu (by decide)).cu (by decide)).cu (by decide)) (Lo.none.cu (by decide))
    · have hq : Q (some (.int (nI (A 1 0 0)))) _ := hq
      rw [← hA.S.2.1] at hq
      exact hq
    · have := hg i hi
      rw [Nat.zero_add] at this
      exact this
    · show g' (6 * h + w) = _
      rw [hg' _ (by omega)]
      exact hA.S.2.2.2.2.2 h hh w hw
theorem q_back (hA : MI A mi ml) (hw : wfA A) (hQ : ∀ mi' ml', MI (aBack A).2 mi' ml' → Lo mi mi' → Lo ml ml' → Q (some (.int (aBack A).1)) (mi', ml', R0 rd, 136)) : Cd (d + 2) k_Mod_back [.ref 95] (mi, ml, R0 rd, 136) Q := by
  have hA1 := hA.mf thr0 ML.none
  have lo1 : Lo mi (cu mi 95 (upd (mi 95) 2 (nI 0))) := Lo.none.cu (by decide)
  have e0 : mi 95 96 = nI (A 4 0 1) := hA.I.1
  have hk := hw.k
  have lp : ∀ (m : Nat → Nat → Int32) l j, j ≤ 18 → ∀ g : Nat → Int32, (∀ i, i < j → g i = m 134 i) → (∀ g' : Nat → Int32, (∀ i, i < 18 → g' i = m 134 i) → Q (some (.int (m 124 0))) (cu (cu m 125 g') 95 (upd (m 95) 94 (nI 0)), l, R0 rd, 136)) → GoM (d + 1) k_Mod_back 136 Q 43 [.ref 95, .int (nI j)] [] (cu m 125 g, l, R0 rd, 136) := by
    intro m l
    refine upto ?_ ?_
    · intro g hg hq
      exact g_Mod_back (fun K Kl hK hC => ⟨fun _ => ⟨0, by decide, rfl, rfl, hq g hg⟩, fun z => absurd (iNLE z) (by omega)⟩)
    · intro j hj ih g hg hq
      have ih := ih (upd g j (m 134 j)) (fun i hi => by
        by_cases e : i = j
        · rw [e, pk_us]
        · rw [pk_un e]; exact hg i (by omega)) hq
      rw [nI1 j, ← cuu] at ih
      exact g_Mod_back (fun K Kl hK hC => ⟨fun z => absurd (iLE z) (by omega), fun _ => ⟨j, by omega, rfl, j, by omega, rfl, hK _ _ _ _ ih⟩⟩)
  unfold aBack at hQ
  refine r_Mod_back (by decide) (fun K Kl hK hC => ⟨fun a => ?_, fun a => ⟨rfl, ?_⟩⟩)
  · have a : ¬ mi 95 96 = 0 := a
    rw [e0] at a
    have a := iNZ a
    rw [if_neg a] at hQ
    have hI := hA.I.2 a
    refine hC _ _ _ _ (t_take (c := 133) (L := 50) (a := 0) (R := rwS (A 5)) (Or.inr ⟨rfl, rfl⟩) (by omega) rfl (fun i hi => ?_) (fun g h k1 k3 h70 h71 => ⟨0, by decide, rfl, ?_⟩))
    · rw [Nat.zero_add]
      exact hI.1 i hi
    have h98 : h 98 = mi 95 98 := k3 98 (by decide) (by decide)
    have l0 := lp (cu (cu (cu (cu mi 95 (upd (mi 95) 2 (nI 0))) 123 g) 95 h) 124 (upd (mi 124) 0 (h 98))) (cu ml 95 (vp_updL (ml 95) 72 (ml 95 99))) 0 (Nat.zero_le _) ((cu (cu (cu (cu mi 95 (upd (mi 95) 2 (nI 0))) 123 g) 95 h) 124 (upd (mi 124) 0 (h 98))) 125) lt_0 (fun g' hg' => ?_)
    · rw [cu_id] at l0
      exact hK _ _ _ _ l0
    · have hq := hQ (cu (cu (cu (cu (cu (cu mi 95 (upd (mi 95) 2 (nI 0))) 123 g) 95 h) 124 (upd (mi 124) 0 (h 98))) 125 g') 95 (upd h 94 (nI 0))) (cu ml 95 (vp_updL (ml 95) 72 (ml 95 99))) (hA.sp (fun c hc => by rw [cu_ne (by omega), cu_ne (by omega), cu_ne (by omega), cu_ne (by omega), cu_ne (by omega), cu_ne (by omega)]) (fun k a1 a2 a3 a4 => by
          show upd h 94 (nI 0) k = _
          rw [pk_un a3, k3 k a1 a2, cu_self, pk_un (k2 a4)]) rfl rfl rfl rfl rfl rfl rfl rfl rfl ⟨fun i hi => ?_, ?_, ?_, hI.2.2.1, ?_, fun h hh w hw => ?_⟩ ⟨rfl, fun r hr => absurd hr (Nat.not_lt_zero r)⟩) ((((((Lo.none.cu (by decide)).cu (by decide)).cu (by decide)).cu (by decide)).cu (by decide)).cu (by decide)) (Lo.none.cu (by decide))
      · have hq : Q (some (.int (nI (A 5 0 0)))) _ := hq
        rw [← hI.2.1, ← h98] at hq
        exact hq
      · show g i = nI (A 5 1 i)
        rw [k1 i hi]
        unfold rwS
        rw [if_pos hi]
      · show h 98 = nI (A 5 0 0)
        rw [h98]
        exact hI.2.1
      · exact h70
      · exact h71
      · show g' (6 * h + w) = _
        rw [hg' _ (by omega)]
        exact hI.2.2.2 h hh w hw
  · have a : mi 95 96 = 0 := a
    rw [e0] at a
    rw [if_pos (iZ a)] at hQ
    exact hQ _ _ hA1 lo1 Lo.none
end
