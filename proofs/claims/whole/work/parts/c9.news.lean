/-! WHAT THE REFERENCE ANSWERS: news -/
theorem scC {mi mi' : Nat → Nat → Int32} {c : Nat} {g : Nat → Int32} (h : MF mi mi') (hs : ∀ k, scr c k = true) : MF mi (cu mi' c g) := fun a k hk => by
  by_cases e : a = c
  · subst e; rw [hs k] at hk; cases hk
  · rw [cu_ne e]; exact h a k hk
section
variable {d : Nat} {Q : Option Value → Mm → Prop} {A : St} {T S : Nat → Nat → Nat} {mi : Nat → Nat → Int32} {ml : Nat → Nat → Int64} {rd : Option Nat} {x y z : Int32}
set_option maxHeartbeats 2000000 in
theorem q_news (hA : MI A mi ml) (hw : wfA A) (hQ : ∀ mi' ml', MF mi mi' → ML ml ml' → Q (some (.int (aNews A x y))) (mi', ml', R0 rd, 136)) : Cd (d + 7) k_Mod_news [.ref 95, .int x, .int y] (mi, ml, R0 rd, 136) Q := by
  have hA1 := hA.mf thr0 ML.none
  have h6 := hw.T.wd6
  have h3 := hw.T.hl3
  unfold aNews at hQ
  refine r_Mod_news (by decide) (fun K Kl hK hC => hC _ _ _ _ (t_isWord hA1.T hw.T (fun w hwd e => ⟨fun a => absurd a (by decide), fun _ => hC _ _ _ _ (t_isHill hA1.T hw.T (fun h hh e2 => ⟨fun _ => ?_, fun a => absurd a (by decide)⟩) (fun hno => ⟨fun a => absurd (by decide) a, fun _ => ⟨rfl, ?_⟩⟩))⟩) (fun hno => ⟨fun _ => ⟨rfl, ?_⟩, fun a => absurd (by decide) a⟩)))
  · subst e; subst e2
    rw [ixo_some hwd, ixo_some hh] at hQ
    simp only [nwJ_eq hw.T hw.S] at hQ
    refine hC _ _ _ _ (t_layFar hA1.T hw.T (fun g hg => hK _ _ _ _ ?_))
    have mf : MF mi (cu (cu mi 95 (upd (mi 95) 2 (nI 0))) 129 g) := scC thr0 (fun _ => rfl)
    have hQ := hQ _ ml mf ML.none
    have hA2 := hA.mf mf ML.none
    have hrs : ∀ i, rsN (A 0) (A 1) w i ≤ 1100 ∨ rsN (A 0) (A 1) w i = 1000000 := fun i => by
      unfold rsN
      have := hw.S.ro (6 * i + w)
      have := hw.S.day
      split
      · omega
      · split <;> omega
    have nwB : ∀ i m, nwJ (A 0) (A 1) w h i = some m → m < 2000000 := fun i m e => by
      rcases nwJ_sp (T := A 0) (S := A 1) (w := w) (h := h) i with ⟨z, -⟩ | ⟨b, z, ⟨k, hk, -, z2⟩, -⟩
      · rw [z] at e; cases e
      · rw [z] at e
        cases e
        have := hrs k
        have := far_gap hw.T k h
        omega
    have lp : ∀ i, i ≤ A 0 0 5 → ∀ v5 v6, GoM (d + 6) k_Mod_news 136 Q 33 [.ref 95, .int (nI w), .int (nI h), .int (wsI (nwJ (A 0) (A 1) w h i)), .int (nI i), v5, v6] [] (cu (cu mi 95 (upd (mi 95) 2 (nI 0))) 129 g, ml, R0 rd, 136) := by
      refine upto ?_ ?_
      · intro v5 v6
        refine g_Mod_news (fun K Kl hK hC => ⟨fun _ => ⟨rfl, hQ⟩, fun z => absurd (jNLE z hA2.T.hills) (by omega)⟩)
      · intro i hi ih v5 v6
        have i6 : nI 6 * nI i + nI w = nI (6 * i + w) := by rw [pk_mul, nI_add]
        have i3 : nI 3 * nI i + nI h = nI (3 * i + h) := by rw [pk_mul, nI_add]
        have eo : mi 125 (6 * i + w) = nI (A 1 2 (6 * i + w)) - 1 := hA.S.2.2.2.2.2 i (by omega) w (by omega)
        have ed : mi 124 0 = nI (A 1 0 0) := hA.S.2.1
        have gi : g (3 * i + h) = nI (farN (A 0) i h) := hg i h (by omega) (by omega)
        have fg := far_gap hw.T i h
        have hro := hw.S.ro (6 * i + w)
        have hdy := hw.S.day
        rw [nI1 i] at ih
        refine g_Mod_news (fun K Kl hK hC => ⟨fun z => absurd (jLE z hA2.T.hills) (by omega), fun _ => ⟨6 * i + w, by omega, i6, ⟨fun z => ?_, fun z => hC _ _ _ _ (t_standsOf (b := 0) hA2.T hw.T (by omega) (hA2.S.s0 hw.S) hwd hi ⟨fun z2 => ?_, fun z2 => ⟨0, by omega, rfl, ?_⟩⟩)⟩⟩⟩)
        · have z : 0 ≤ mi 125 (6 * i + w) := z
          rw [eo] at z
          have z := (nI_predge (by omega)).mp z
          obtain ⟨r, hr⟩ : ∃ r, A 1 2 (6 * i + w) = r + 1 := ⟨A 1 2 (6 * i + w) - 1, by omega⟩
          have er : rsN (A 0) (A 1) w i = r := by
            unfold rsN
            rw [if_pos z, hr]
            rfl
          rw [hr, nI_pred] at eo
          refine ⟨fun q => ?_, fun _ => ⟨3 * i + h, by omega, i3, ⟨fun q => ⟨3 * i + h, by omega, i3, ⟨fun b => ?_, fun b => ⟨fun c => ?_, fun c => ?_⟩⟩⟩, fun q => ?_⟩⟩⟩
          · have q : mi 125 (6 * i + w) < 0 := q
            rw [eo] at q
            exact (iNN q (by omega)).elim
          · have q : g (3 * i + h) ≤ nI 9999 := q
            rw [gi] at q
            have q := iLE q
            have b : wsI (nwJ (A 0) (A 1) w h i) < 0 := b
            have t : wsI (nwJ (A 0) (A 1) w h (i + 1)) = mi 125 (6 * i + w) + g (3 * i + h) := by
              rw [nwJ, if_neg (by omega), eo, gi, nI_add]
              cases hj : nwJ (A 0) (A 1) w h i with
              | none => rw [er]; rfl
              | some m =>
                rw [hj] at b
                have := nwB i m hj
                exact (iNN (show nI m < 0 from b) (by omega)).elim
            rw [t] at ih
            exact hK _ _ _ _ (ih _ _)
          · have q : g (3 * i + h) ≤ nI 9999 := q
            rw [gi] at q
            have q := iLE q
            have b : ¬ wsI (nwJ (A 0) (A 1) w h i) < 0 := b
            have c : wsI (nwJ (A 0) (A 1) w h i) ≤ mi 125 (6 * i + w) + g (3 * i + h) := c
            have t : wsI (nwJ (A 0) (A 1) w h (i + 1)) = wsI (nwJ (A 0) (A 1) w h i) := by
              rw [nwJ, if_neg (by omega)]
              cases hj : nwJ (A 0) (A 1) w h i with
              | none => rw [hj] at b; exact absurd (by decide) b
              | some m =>
                have := nwB i m hj
                rw [hj, eo, gi, nI_add] at c
                have c := iLE (show nI m ≤ nI (r + farN (A 0) i h) from c)
                simp only
                rw [if_neg (by omega)]
            rw [t] at ih
            exact hK _ _ _ _ (ih _ _)
          · have q : g (3 * i + h) ≤ nI 9999 := q
            rw [gi] at q
            have q := iLE q
            have b : ¬ wsI (nwJ (A 0) (A 1) w h i) < 0 := b
            have c : ¬ wsI (nwJ (A 0) (A 1) w h i) ≤ mi 125 (6 * i + w) + g (3 * i + h) := c
            have t : wsI (nwJ (A 0) (A 1) w h (i + 1)) = mi 125 (6 * i + w) + g (3 * i + h) := by
              rw [nwJ, if_neg (by omega), eo, gi, nI_add]
              cases hj : nwJ (A 0) (A 1) w h i with
              | none => rw [er]; rfl
              | some m =>
                have := nwB i m hj
                rw [hj, eo, gi, nI_add] at c
                have c := iNLE (show ¬ nI m ≤ nI (r + farN (A 0) i h) from c)
                simp only
                rw [if_pos (by omega), er]
                rfl
            rw [t] at ih
            exact hK _ _ _ _ (ih _ _)
          · have q : ¬ g (3 * i + h) ≤ nI 9999 := q
            rw [gi] at q
            have q := iNLE q
            rw [nwJ, if_pos (by omega)] at ih
            exact hK _ _ _ _ (ih _ _)
        · have z : ¬ 0 ≤ mi 125 (6 * i + w) := z
          have z2 : nI (rdsN (A 0) (A 1) w i) ≤ 0 := z2
          have hcn : rdsN (A 0) (A 1) w i ≤ 96 := cntN_le hw.T _ w
          have z3 : rdsN (A 0) (A 1) w i = 0 := by
            have := iLE (show nI (rdsN (A 0) (A 1) w i) ≤ nI 0 from z2)
            omega
          have z4 : A 1 2 (6 * i + w) = 0 := by
            rcases Nat.eq_zero_or_pos (A 1 2 (6 * i + w)) with q | q
            · exact q
            · rw [eo] at z
              exact absurd ((nI_predge (by omega)).mpr (by omega)) z
          have er : rsN (A 0) (A 1) w i = 1000000 := by
            unfold rsN
            rw [if_neg (fun q => q z4), if_neg (fun q => q z3)]
          rw [nwJ, if_pos (Or.inl er)] at ih
          refine ⟨fun _ => hK _ _ _ _ (ih _ _), fun q => ?_⟩
          exact absurd (ge_not z) q
        · have z : ¬ 0 ≤ mi 125 (6 * i + w) := z
          have z2 : ¬ nI (rdsN (A 0) (A 1) w i) ≤ 0 := z2
          have hcn : rdsN (A 0) (A 1) w i ≤ 96 := cntN_le hw.T _ w
          have z3 : rdsN (A 0) (A 1) w i ≠ 0 := by
            have := iNLE (show ¬ nI (rdsN (A 0) (A 1) w i) ≤ nI 0 from z2)
            omega
          have z4 : A 1 2 (6 * i + w) = 0 := by
            rcases Nat.eq_zero_or_pos (A 1 2 (6 * i + w)) with q | q
            · exact q
            · rw [eo] at z
              exact absurd ((nI_predge (by omega)).mpr (by omega)) z
          have er0 : rsN (A 0) (A 1) w i = A 1 0 0 := by
            unfold rsN
            rw [if_neg (fun q => q z4), if_pos z3]
          obtain ⟨r, hr⟩ : ∃ r, A 1 0 0 = r := ⟨_, rfl⟩
          rw [hr] at ed er0 hdy
          have er := er0
          refine ⟨fun q => ?_, fun _ => ⟨3 * i + h, by omega, i3, ⟨fun q => ⟨3 * i + h, by omega, i3, ⟨fun b => ?_, fun b => ⟨fun c => ?_, fun c => ?_⟩⟩⟩, fun q => ?_⟩⟩⟩
          · have q : mi 124 0 < 0 := q
            rw [ed] at q
            exact (iNN q (by omega)).elim
          · have q : g (3 * i + h) ≤ nI 9999 := q
            rw [gi] at q
            have q := iLE q
            have b : wsI (nwJ (A 0) (A 1) w h i) < 0 := b
            have t : wsI (nwJ (A 0) (A 1) w h (i + 1)) = mi 124 0 + g (3 * i + h) := by
              rw [nwJ, if_neg (by omega), ed, gi, nI_add]
              cases hj : nwJ (A 0) (A 1) w h i with
              | none => rw [er]; rfl
              | some m =>
                rw [hj] at b
                have := nwB i m hj
                exact (iNN (show nI m < 0 from b) (by omega)).elim
            rw [t] at ih
            exact hK _ _ _ _ (ih _ _)
          · have q : g (3 * i + h) ≤ nI 9999 := q
            rw [gi] at q
            have q := iLE q
            have b : ¬ wsI (nwJ (A 0) (A 1) w h i) < 0 := b
            have c : wsI (nwJ (A 0) (A 1) w h i) ≤ mi 124 0 + g (3 * i + h) := c
            have t : wsI (nwJ (A 0) (A 1) w h (i + 1)) = wsI (nwJ (A 0) (A 1) w h i) := by
              rw [nwJ, if_neg (by omega)]
              cases hj : nwJ (A 0) (A 1) w h i with
              | none => rw [hj] at b; exact absurd (by decide) b
              | some m =>
                have := nwB i m hj
                rw [hj, ed, gi, nI_add] at c
                have c := iLE (show nI m ≤ nI (r + farN (A 0) i h) from c)
                simp only
                rw [if_neg (by omega)]
            rw [t] at ih
            exact hK _ _ _ _ (ih _ _)
          · have q : g (3 * i + h) ≤ nI 9999 := q
            rw [gi] at q
            have q := iLE q
            have b : ¬ wsI (nwJ (A 0) (A 1) w h i) < 0 := b
            have c : ¬ wsI (nwJ (A 0) (A 1) w h i) ≤ mi 124 0 + g (3 * i + h) := c
            have t : wsI (nwJ (A 0) (A 1) w h (i + 1)) = mi 124 0 + g (3 * i + h) := by
              rw [nwJ, if_neg (by omega), ed, gi, nI_add]
              cases hj : nwJ (A 0) (A 1) w h i with
              | none => rw [er]; rfl
              | some m =>
                have := nwB i m hj
                rw [hj, ed, gi, nI_add] at c
                have c := iNLE (show ¬ nI m ≤ nI (r + farN (A 0) i h) from c)
                simp only
                rw [if_pos (by omega), er]
                rfl
            rw [t] at ih
            exact hK _ _ _ _ (ih _ _)
          · have q : ¬ g (3 * i + h) ≤ nI 9999 := q
            rw [gi] at q
            have q := iNLE q
            rw [nwJ, if_pos (by omega)] at ih
            exact hK _ _ _ _ (ih _ _)
    exact lp 0 (Nat.zero_le _) _ _
  · subst e
    rw [ixo_some hwd, ixo_none hno] at hQ
    exact hQ _ ml thr0 ML.none
  · rw [ixo_none hno] at hQ
    exact hQ _ ml thr0 ML.none
end
