/-! A DAY (the class), its methods -/
section
variable {d : Nat} {Q : Option Value → Mm → Prop} {T S : Nat → Nat → Nat} {mi : Nat → Nat → Int32} {ml : Nat → Nat → Int64} {rd : Option Nat}
set_option maxHeartbeats 2000000 in
theorem s_eat {b : Nat} (hb : b = 70 ∨ b = 86) (hT : CT 0 T mi) (hw : wfT T) (hl : wfL T) (hS : CS b S mi) (hs : wfS T S) (hQ : ∀ mi' ml', Fr [35, b + 1] mi mi' → Fr [36] ml ml' → CS b (sSh S (eatN T S)) mi' → Q none (mi', ml', R0 rd, 136)) : Cd (d + 4) k_Scene_eat [.ref b, .ref 6] (mi, ml, R0 rd, 136) Q := by
  have hfl := hw.fl
  have lp : ∀ j, j ≤ T 0 0 * T 0 1 → ∀ mi' ml' v7 v8, Fr [35] mi mi' → Fr [36] ml ml' → GoM (d + 3) k_Scene_eat 136 Q 19 [.ref b, .ref 6, .long (eM (etN T S j)), .null, .int (eP (etN T S j)), .int (nI (T 0 0 * T 0 1)), .int (nI j), v7, v8] [] (mi', ml', R0 rd, 136) := by
    refine upto ?_ ?_
    · intro mi' ml' v7 v8 hf hfl2
      have hS' : CS b S mi' := by rcases hb with rfl | rfl <;> exact hS.fr hf rfl rfl rfl
      cases hr : etN T S (T 0 0 * T 0 1) with
      | none =>
        have ee : eatN T S = S 1 := by unfold eatN; rw [hr]
        have hQ := hQ mi' ml' (hf.mono (by rcases hb with rfl | rfl <;> rfl)) hfl2 (by
          rw [ee]
          exact ⟨hS'.day, hS'.purse, hS'.last, hS'.hung, hS'.shape, hS'.readOn⟩)
        refine g_Scene_eat (fun K Kl hK hC => ?_)
        exact ⟨fun _ => ⟨fun _ => ⟨rfl, hQ⟩, fun h => absurd (by decide) h⟩, fun h => absurd (iNLE h) (by omega)⟩
      | some t =>
        obtain ⟨f, m⟩ := t
        have hfb := (etN_b (T := T) (S := S) (T 0 0 * T 0 1)).1 f m hr
        have hsf := hS'.sh hs f (by omega)
        have ee : eatN T S = updN (S 1) f (loN (S 1 f)) := by unfold eatN; rw [hr]
        have hQ := hQ (cu mi' (b + 1) (upd (mi' (b + 1)) f (nI (loN (S 1 f))))) ml' ((hf.mono (by rcases hb with rfl | rfl <;> rfl)).cu (by rcases hb with rfl | rfl <;> rfl)) hfl2 (by
          rw [ee]
          refine hS'.setSh (fun x hx => ?_)
          unfold updN
          by_cases hxf : x = f
          · rw [if_pos hxf, hxf]; exact pk_us
          · rw [if_neg hxf, pk_un hxf]; exact hS'.shape x hx)
        rw [← loC (S 1 f) (by omega) hfb.2, ← hsf.1] at hQ
        refine g_Scene_eat ?_
        rcases hb with rfl | rfl
        all_goals
          intro K Kl hK hC
          exact ⟨fun _ => ⟨fun h => (iNN h (by omega)).elim, fun _ => ⟨f, by omega, rfl, f, by omega, rfl, f, by omega, rfl, rfl, hQ⟩⟩, fun h => absurd (iNLE h) (by omega)⟩
    · intro j hj ih mi' ml' v7 v8 hf hfl2
      have hS' : CS b S mi' := by rcases hb with rfl | rfl <;> exact hS.fr hf rfl rfl rfl
      have hT' := hT.fr hf rfl
      have ek : mi' 32 0 = nI (T 0 9) := hT'.knots
      have h64 := hw.kn64
      have hsf := hS'.sh hs j (by omega)
      have hm0 := (etN_b (T := T) (S := S) j).2
      have step : S 1 j ≠ 0 → ∀ mi2 ml2, Fr [35] mi mi2 → Fr [36] ml ml2 → (eM (etN T S j) < wcN T S j → GoM (d + 3) k_Scene_eat 136 Q 19 [.ref b, .ref 6, .long (wcN T S j), .null, .int (nI j), .int (nI (T 0 0 * T 0 1)), .int (nI j + nI 1), .long (wcN T S j), .null] [] (mi2, ml2, R0 rd, 136)) ∧ (¬ eM (etN T S j) < wcN T S j → GoM (d + 3) k_Scene_eat 136 Q 19 [.ref b, .ref 6, .long (eM (etN T S j)), .null, .int (eP (etN T S j)), .int (nI (T 0 0 * T 0 1)), .int (nI j + nI 1), .long (wcN T S j), .null] [] (mi2, ml2, R0 rd, 136)) := by
        intro hz mi2 ml2 hf2 hfl3
        have ih := ih mi2 ml2 (.long (wcN T S j)) .null hf2 hfl3
        rw [nI1] at ih
        constructor
        · intro h
          have h2 := (wcN_lt hm0).mp h
          have e := wcN_eq hm0 h
          have en : etN T S (j + 1) = some (j, wtN T S j) := by
            unfold etN
            rw [if_neg hz]
            cases hr : etN T S j with
            | none => rw [hr] at h2; exact if_pos h2
            | some t => rw [hr] at h2; exact if_pos h2
          rw [en] at ih
          rw [e] at ih ⊢
          exact ih
        · intro h
          have h2 : ¬ eM (etN T S j) < wtN T S j := fun z => h ((wcN_lt hm0).mpr z)
          have en : etN T S (j + 1) = etN T S j := by
            rw [etN, if_neg hz]
            cases hr : etN T S j with
            | none => rw [hr] at h2; exact if_neg h2
            | some t => rw [hr] at h2; exact if_neg h2
          rw [en] at ih
          exact ih
      refine g_Scene_eat ?_
      rcases hb with rfl | rfl
      all_goals
        intro K Kl hK hC
        refine ⟨fun h => absurd (iLE h) (by omega), fun _ => ⟨j, by omega, rfl, ?_⟩⟩
        rw [hsf.1]
        refine ⟨fun h => ?_, fun h => ?_⟩
        · have hz := iZ h
          have ih := ih mi' ml' v7 v8 hf hfl2
          rw [nI1, etN, if_pos hz] at ih
          exact hK _ _ _ _ ih
        · have hz := iNZ h
          refine ⟨fun h2 => ?_, fun h2 => ?_⟩
          · have h2 := jNZ h2
            refine hC _ _ _ _ (s_work (by first | exact Or.inl rfl | exact Or.inr rfl) hT' hw hl hS' hs hj (fun mi2 ml2 hf2 hfl3 => ?_))
            have st := step hz mi2 ml2 (hf.trans hf2) (hfl2.trans hfl3)
            rw [show wcN T S j = oe (lwN T S j) from if_neg h2] at st
            exact ⟨fun h3 => hK _ _ _ _ (st.2 (lg_le_not_lt (cLe h3))), fun h3 => hK _ _ _ _ (st.1 (lNlt (cNLe h3)))⟩
          · have h2 := jZ h2 ek
            have st := step hz mi' ml' hf hfl2
            rw [show wcN T S j = 1 from if_pos h2] at st
            exact ⟨fun h3 => hK _ _ _ _ (st.2 (lg_le_not_lt (cLe h3))), fun h3 => hK _ _ _ _ (st.1 (lNlt (cNLe h3)))⟩
  refine r_Scene_eat (by decide) (fun K Kl hK hC => ?_)
  refine hC _ _ _ _ (s_Told_fields (o := 0) (Or.inl rfl) hT ?_)
  refine hC _ _ _ _ (s_min (by decide) (by omega) (by omega) ?_)
  rw [Nat.min_eq_left hfl]
  exact hK _ _ _ _ (lp 0 (Nat.zero_le _) mi ml _ _ Fr.none Fr.none)
theorem s_nextNumber {b s : Nat} (hb : b = 70 ∨ b = 86) (hs : mi b 2 = nI s) (hlt : s < 2 ^ 31) (hQ : Q (some (.int (nI (nxN s / 65536)))) (cu mi b (upd (mi b) 2 (nI (nxN s))), ml, R0 rd, 136)) : Cd (d + 1) k_Scene_nextNumber [.ref b] (mi, ml, R0 rd, 136) Q := by
  have := nxN_lt s
  rw [← nxC hlt, ← hs] at hQ
  have e : (((mi b 2).toInt64 * 1103515245 + 12345) &&& 2147483647).toInt32 / nI 65536 = nI (nxN s / 65536) := by
    rw [hs, nxC hlt, pk_div (by omega) (by omega) (by omega)]
  rw [← e] at hQ
  refine r_Scene_nextNumber (by decide) ?_
  rcases hb with rfl | rfl
  all_goals
    intro K Kl hK hC
    exact ⟨nI_ne0 (by omega) (by omega), rfl, hQ⟩
end
