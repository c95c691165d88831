/-! A DAY PASSES (the class) -/
section
variable {d : Nat} {Q : Option Value → Mm → Prop} {T S : Nat → Nat → Nat} {mi : Nat → Nat → Int32} {ml : Nat → Nat → Int64} {rd : Option Nat}
theorem CS.to {b : Nat} {S S2 : Nat → Nat → Nat} {mi : Nat → Nat → Int32} (h : CS b S mi) (h0 : ∀ i, i < 4 → S 0 i = S2 0 i) (h1 : ∀ f, f < 48 → S 1 f = S2 1 f) (h2 : ∀ i, i < 18 → S 2 i = S2 2 i) : CS b S2 mi := by
  refine ⟨?_, ?_, ?_, ?_, fun f hf => ?_, fun w hw a ha => ?_⟩
  · rw [← h0 0 (by omega)]; exact h.day
  · rw [← h0 1 (by omega)]; exact h.purse
  · rw [← h0 2 (by omega)]; exact h.last
  · rw [← h0 3 (by omega)]; exact h.hung
  · rw [← h1 f hf]; exact h.shape f hf
  · rw [← h2 _ (by omega)]; exact h.readOn w hw a ha
set_option maxHeartbeats 1000000 in
theorem s_rainOn {b : Nat} (hb : b = 70 ∨ b = 86) (hT : CT 0 T mi) (hw : wfT T) (hS : CS b S mi) (hs : wfS T S) (hQ : ∀ mi', Fr [b, b + 1] mi mi' → CS b (rainN T S) mi' → Q none (mi', ml, R0 rd, 136)) : Cd (d + 2) k_Scene_rainOn [.ref b, .ref 6] (mi, ml, R0 rd, 136) Q := by
  have hfl := hw.fl
  have hw1 := hw.w1; have hh1 := hw.h1
  have hpos : 1 ≤ T 0 0 * T 0 1 := Nat.mul_le_mul hw1 hh1
  have hra := hw.ra
  have h1 := nxN_lt (S 0 2)
  have h2 := nxN_lt (nxN (S 0 2))
  have hf : rnF T S < T 0 0 * T 0 1 := Nat.mod_lt _ hpos
  have hsl := hs.sh (rnF T S)
  have lp : ¬ T 0 12 ≤ nxN (S 0 2) / 65536 % 100 → ∀ mi2, Fr [b] mi mi2 → CS b (sF S 2 (nxN (nxN (S 0 2)))) mi2 → ∀ k, k < 9 → S 1 (rnF T S) < 2 ^ (k + 1) → GoM (d + 1) k_Scene_rainOn 136 Q 41 [.ref b, .ref 6, .int (nI (T 0 0 * T 0 1)), .int (nI (rnF T S)), .int (nI (2 ^ k))] [] (mi2, ml, R0 rd, 136) := by
    intro hr mi2 hf2 hS2
    have hsf : mi2 (b + 1) (rnF T S) = nI (S 1 (rnF T S)) := hS2.shape (rnF T S) (by omega)
    have hrain : rainN T S = sF (sSh S (updN (S 1) (rnF T S) (hiN (S 1 (rnF T S))))) 2 (nxN (nxN (S 0 2))) := by unfold rainN; rw [if_neg hr]
    have fin : ∀ x, x = nI (hiN (S 1 (rnF T S))) → Q none (cu mi2 (b + 1) (upd (mi2 (b + 1)) (rnF T S) x), ml, R0 rd, 136) := by
      intro x hx
      refine hQ _ ((hf2.mono (by rcases hb with rfl | rfl <;> rfl)).cu (by rcases hb with rfl | rfl <;> rfl)) ?_
      rw [hrain]
      have := hS2.setSh (g := upd (mi2 (b + 1)) (rnF T S) x) (sh := updN (S 1) (rnF T S) (hiN (S 1 (rnF T S)))) (fun y hy => by
        unfold updN
        by_cases hyf : y = rnF T S
        · rw [if_pos hyf, hyf, ← hx]; exact pk_us
        · rw [if_neg hyf, pk_un hyf]; exact hS2.shape y hy)
      exact this.to (fun i hi => rfl) (fun f hf => rfl) (fun i hi => rfl)
    intro k
    induction k with
    | zero =>
      intro _ hlt
      refine g_Scene_rainOn ?_
      rcases hb with rfl | rfl
      all_goals
        intro K Kl hK hC
        refine ⟨fun h => absurd h (hi4 0 (by decide)), fun _ => ⟨rnF T S, by omega, rfl, ?_⟩⟩
        rw [hsf]
        refine ⟨fun h => ⟨rnF T S, by omega, rfl, rnF T S, by omega, rfl, rfl, fin _ ?_⟩, fun h => ?_⟩
        · rw [hsf]
          exact hi2 0 (by decide) _ hlt (fun z => h ((hi1 0 (by decide) _ hlt).mpr z))
        · have hz := (hi1 0 (by decide) _ hlt).mp h
          refine hK _ _ _ _ (g_Scene_rainOn (fun K Kl hK hC => ?_))
          refine ⟨fun _ => ⟨rnF T S, by omega, rfl, rnF T S, by omega, rfl, rfl, fin _ ?_⟩, fun h => absurd (by decide) h⟩
          rw [hsf, show S 1 (rnF T S) = 0 by omega]
          decide
    | succ k ih =>
      intro hk hlt
      have ih := ih (by omega)
      have e3 := hi3 k (by omega)
      refine g_Scene_rainOn ?_
      rcases hb with rfl | rfl
      all_goals
        intro K Kl hK hC
        refine ⟨fun h => absurd h (hi4 (k + 1) hk), fun _ => ⟨rnF T S, by omega, rfl, ?_⟩⟩
        rw [hsf]
        refine ⟨fun h => ⟨rnF T S, by omega, rfl, rnF T S, by omega, rfl, rfl, fin _ ?_⟩, fun h => ?_⟩
        · rw [hsf]
          exact hi2 (k + 1) hk _ hlt (fun z => h ((hi1 (k + 1) hk _ hlt).mpr z))
        · have hz := (hi1 (k + 1) hk _ hlt).mp h
          have ih := ih hz
          rw [← e3] at ih
          exact hK _ _ _ _ ih
  have ent : RunP m_X5_rainOn 0 (d + 1) k_Scene_rainOn 136 Q 0 [.ref b, .ref 6, .null, .null, .null] [] (mi, ml, R0 rd, 136) := by
    have hS1 := hS.setF (k := 2) (x := nxN (S 0 2)) (by decide)
    have hS2 := hS1.setF (k := 2) (x := nxN (nxN (S 0 2))) (by decide)
    have f1 : Fr [b] mi (cu mi b (upd (mi b) 2 (nI (nxN (S 0 2))))) := Fr.none.cu (by rcases hb with rfl | rfl <;> rfl)
    have er : mi 6 7 = nI (T 0 12) := hT.rain
    have hT1 : CT 0 T (cu mi b (upd (mi b) 2 (nI (nxN (S 0 2))))) := hT.fr f1 (by rcases hb with rfl | rfl <;> rfl)
    have lp := fun hr => lp hr _ (f1.cu (g := upd (cu mi b (upd (mi b) 2 (nI (nxN (S 0 2)))) b) 2 (nI (nxN (nxN (S 0 2))))) (by rcases hb with rfl | rfl <;> rfl)) (hS2.to (fun i hi => by
      show (if i = 2 then _ else _) = (if i = 2 then _ else _)
      split
      · rfl
      · rename_i hn; exact if_neg hn) (fun f hf => rfl) (fun i hi => rfl)) 8 (by decide) (by have : (2 : Nat) ^ (8 + 1) = 512 := rfl; omega)
    have e0 := fun (hr : T 0 12 ≤ nxN (S 0 2) / 65536 % 100) => hQ _ (f1.mono (by rcases hb with rfl | rfl <;> rfl)) (by unfold rainN; rw [if_pos hr]; exact hS1)
    have hlast := hS1.last
    rcases hb with rfl | rfl
    all_goals
      intro K Kl hK hC
      refine hC _ _ _ _ (s_nextNumber (by first | exact Or.inl rfl | exact Or.inr rfl) hS.last hs.la ?_)
      refine ⟨by decide, ?_⟩
      rw [pk_rem (by omega) (by omega) (by omega)]
      refine ⟨fun h => ?_, fun h => ⟨rfl, e0 ?_⟩⟩
      · have h : nI (nxN (S 0 2) / 65536 % 100) < mi 6 7 := h
        rw [er] at h
        have h := iLT h
        refine hC _ _ _ _ (s_Told_fields (o := 0) (Or.inl rfl) hT1 ?_)
        refine hC _ _ _ _ (s_min (by decide) (by omega) (by omega) ?_)
        refine hC _ _ _ _ (s_max (by decide) (by omega) (by omega) ?_)
        rw [Nat.min_eq_left hfl, Nat.max_eq_right hpos]
        refine hC _ _ _ _ (s_nextNumber (s := nxN (S 0 2)) (by first | exact Or.inl rfl | exact Or.inr rfl) hlast (by omega) ?_)
        refine ⟨nI_ne0 (by omega) (by omega), ?_⟩
        rw [pk_rem (by omega) (by omega) (by omega)]
        exact hK _ _ _ _ (lp (by omega))
      · have h : ¬ nI (nxN (S 0 2) / 65536 % 100) < mi 6 7 := h
        rw [er] at h
        exact iNLT h
  exact r_Scene_rainOn (by decide) ent
end
