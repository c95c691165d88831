/-! WHAT THE REFERENCE ANSWERS: cost, stands, cheapest, owed, count -/
section
variable {d : Nat} {Q : Option Value → Mm → Prop} {A : St} {mi : Nat → Nat → Int32} {ml : Nat → Nat → Int64} {rd : Option Nat} {x y z : Int32}
theorem MS.s0 {S T : Nat → Nat → Nat} (h : MS S mi ml) (hs : wfS T S) : ∀ f, f < 48 → mi 123 (48 * 0 + f) = nI (S 1 f) ∧ S 1 f ≤ 511 := fun f hf => ⟨by rw [show 48 * 0 + f = f by omega]; exact h.1 f hf, hs.sh f⟩
theorem q_cost (hA : MI A mi ml) (hw : wfA A) (hQ : ∀ mi' ml', MF mi mi' → ML ml ml' → Q (some (.int (aCost A x y z))) (mi', ml', R0 rd, 136)) : Cd (d + 6) k_Mod_cost [.ref 95, .int x, .int y, .int z] (mi, ml, R0 rd, 136) Q := by
  have hQ := hQ _ ml thr0 ML.none
  have hA1 := hA.mf thr0 ML.none
  unfold aCost at hQ
  refine r_Mod_cost (by decide) (fun K Kl hK hC => hC _ _ _ _ (t_arePlace hA1.T hw.T (fun w f v h1 h2 h3 e1 e2 e3 => ⟨fun _ => ?_, fun a => absurd a (by decide)⟩) (fun hno => ⟨fun a => absurd (by decide) a, fun _ => ⟨rfl, ?_⟩⟩)))
  · subst e1; subst e2; subst e3
    rw [pl3_some hw.T h1 h2 h3] at hQ
    have eco := cost_of (T := A 0) (sh := A 1 1) (fr := 0) (br := 0) (w := w) (f := f) (way := v)
    rw [feX_0, show baN (A 0) 0 w f v = false from rfl] at eco
    refine hC _ _ _ _ (t_canSet (b := 0) hA1.T hw.T (by omega) (hA1.S.s0 hw.S) h1 h2 h3 (fun hcs => ⟨fun a => absurd a (by decide), fun _ => ?_⟩) (fun hcs => ⟨fun _ => ⟨rfl, ?_⟩, fun a => absurd (by decide) a⟩))
    · rw [hcs] at eco
      simp only [eco] at hQ
      exact hC _ _ _ _ (t_costOf (b := 0) (fr := 0) hA1.T hw.T (by omega) (hA1.S.s0 hw.S) (hA1.f.1.trans (by decide)) (by omega) h1 h2 h3 hcs ⟨rfl, hQ⟩)
    · rw [hcs] at eco
      simp only [eco] at hQ
      exact hQ
  · rw [pl3_none hno] at hQ
    exact hQ
theorem q_stands (hA : MI A mi ml) (hw : wfA A) (hQ : ∀ mi' ml', MF mi mi' → ML ml ml' → Q (some (.int (aStands A x y))) (mi', ml', R0 rd, 136)) : Cd (d + 7) k_Mod_stands [.ref 95, .int x, .int y] (mi, ml, R0 rd, 136) Q := by
  have hQ := hQ _ ml thr0 ML.none
  have hA1 := hA.mf thr0 ML.none
  have h6 := hw.T.wd6
  have h3 := hw.T.hl3
  unfold aStands at hQ
  refine r_Mod_stands (by decide) (fun K Kl hK hC => hC _ _ _ _ (t_isWord hA1.T hw.T (fun w hwd e => ⟨fun a => absurd a (by decide), fun _ => hC _ _ _ _ (t_isHill hA1.T hw.T (fun h hh e2 => ⟨fun a => absurd a (by decide), fun _ => ?_⟩) (fun hno => ⟨fun _ => ⟨rfl, ?_⟩, fun a => absurd (by decide) a⟩))⟩) (fun hno => ⟨fun _ => ⟨rfl, ?_⟩, fun a => absurd (by decide) a⟩)))
  · subst e; subst e2
    rw [ixo_some hwd, ixo_some hh] at hQ
    exact hC _ _ _ _ (t_standsOf (b := 0) hA1.T hw.T (by omega) (hA1.S.s0 hw.S) hwd hh ⟨rfl, hQ⟩)
  · subst e
    rw [ixo_some hwd, ixo_none hno] at hQ
    exact hQ
  · rw [ixo_none hno] at hQ
    exact hQ
theorem lc_mf {g : Nat → Int32} (hg : ∀ k, k ≠ 77 → k ≠ 78 → g k = mi 95 k) : MF mi (cu mi 95 g) := mf95 (fun k hk => hg k (sc2 hk (a := 77) (b := 78) rfl rfl).1 (sc2 hk (a := 77) (b := 78) rfl rfl).2)
theorem q_cheapest (hA : MI A mi ml) (hw : wfA A) (hQ : ∀ mi' ml', MF mi mi' → ML ml ml' → Q (some (.int (aCheapest A x y))) (mi', ml', R0 rd, 136)) : Cd (d + 7) k_Mod_cheapest [.ref 95, .int x, .int y] (mi, ml, R0 rd, 136) Q := by
  have hA1 := hA.mf thr0 ML.none
  have h6 := hw.T.wd6
  have hfl := hw.T.fl
  unfold aCheapest at hQ
  refine r_Mod_cheapest (by decide) (fun K Kl hK hC => hC _ _ _ _ (t_isWord hA1.T hw.T (fun w hwd e => ⟨fun a => absurd a (by decide), fun _ => hC _ _ _ _ (t_isIn (fun h1 h2 => ⟨fun _ => ?_, fun a => absurd a (by decide)⟩) (fun hno => ⟨fun a => absurd (by decide) a, fun _ => ⟨rfl, ?_⟩⟩))⟩) (fun hno => ⟨fun _ => ⟨rfl, ?_⟩, fun a => absurd (by decide) a⟩)))
  · subst e
    obtain ⟨k, hk, rfl, he⟩ := ixo_rg (n := 2) (by omega) h1 h2
    rw [ixo_some hwd, he] at hQ
    refine hC _ _ _ _ (t_layCheapest (b := 0) (fr := 0) (br := 0) hA1.T hw.T (by omega) (hA1.S.s0 hw.S) (hA1.f.1.trans (by decide)) (by omega) (hA1.f.2.trans (by decide)) (by omega) hwd (fun g hg h77 h78 => ?_))
    rw [feX_0] at h77 h78
    have hQ := hQ (cu (cu mi 95 (upd (mi 95) 2 (nI 0))) 95 g) ml (thr0.trans (lc_mf hg)) ML.none
    cases hc : chN (fun p => costN (A 0) (A 1 1) (feA (A 0)) w (p / 2) (p % 2)) (2 * (A 0 0 0 * A 0 0 1)) with
    | none =>
      simp only [show chA A (feA (A 0)) w = none from hc] at hQ
      rw [hc] at h77
      refine ⟨fun a => ?_, fun _ => ⟨rfl, hQ⟩⟩
      have a : 0 ≤ g 77 := a
      rw [h77] at a
      exact absurd a (by decide)
    | some pc =>
      obtain ⟨p, c⟩ := pc
      have hp := chN_lt hc
      simp only [show chA A (feA (A 0)) w = some (p, c) from hc] at hQ
      have g77 : g 77 = nI p := by rw [h77, hc]; rfl
      have g78 := h78 p c hc
      refine ⟨fun _ => ⟨fun a => ⟨fun a2 => ⟨two0, ?_⟩, fun a2 => ⟨two0, ?_⟩⟩, fun a => ⟨rfl, ?_⟩⟩, fun a => ?_⟩
      · rw [if_neg (iNZ a), if_neg (iNE a2), ← pk_rem (by omega) (by omega) (by omega), ← g77] at hQ
        exact ⟨rfl, hQ⟩
      · rw [if_neg (iNZ a), if_pos (iEQ a2), ← pk_div (by omega) (by omega) (by omega), ← g77] at hQ
        exact ⟨rfl, hQ⟩
      · rw [if_pos (iZ a), ← g78] at hQ
        exact hQ
      · have a : ¬ 0 ≤ g 77 := a
        rw [g77] at a
        exact absurd (nI_pos' (by omega)) a
  · subst e
    have hn : ixo y 3 = none := hno.elim (fun h => ixo_neg h) (fun h => ixo_big (n := 2) (by omega) h)
    rw [ixo_some hwd, hn] at hQ
    exact hQ _ ml thr0 ML.none
  · rw [ixo_none hno] at hQ
    exact hQ _ ml thr0 ML.none
set_option maxHeartbeats 1000000 in
theorem q_owed (hA : MI A mi ml) (hw : wfA A) (hQ : ∀ mi' ml', MF mi mi' → ML ml ml' → Q (some (.int (aOwed A x y))) (mi', ml', R0 rd, 136)) : Cd (d + 7) k_Mod_owed [.ref 95, .int x, .int y] (mi, ml, R0 rd, 136) Q := by
  have hA1 := hA.mf thr0 ML.none
  have h6 := hw.T.wd6
  have h5 := hw.T.own5
  have f75 := hA.f.1
  have f76 := hA.f.2
  unfold aOwed at hQ
  refine r_Mod_owed (by decide) (fun K Kl hK hC => hC _ _ _ _ (t_isWord hA1.T hw.T (fun w hwd e => ⟨fun a => absurd a (by decide), fun _ => hC _ _ _ _ (t_isOwner hA1.T hw.T (fun o ho e2 => ⟨fun _ => ?_, fun a => absurd a (by decide)⟩) (fun hno => ⟨fun a => absurd (by decide) a, fun _ => ⟨rfl, ?_⟩⟩))⟩) (fun hno => ⟨fun _ => ⟨rfl, ?_⟩, fun a => absurd (by decide) a⟩)))
  · subst e; subst e2
    rw [ixo_some hwd, ixo_some ho] at hQ
    have hT2 : MT (A 0) (cu (cu mi 95 (upd (mi 95) 2 (nI 0))) 95 (upd (upd (mi 95) 2 (nI 0)) 75 (nI o))) := by
      have := hA.T
      unfold MT at this ⊢
      exact this
    have cl1 : ∀ P : Option Value → Mm → Prop, (∀ g : Nat → Int32, (∀ k, k ≠ 77 → k ≠ 78 → k ≠ 2 → k ≠ 75 → g k = mi 95 k) → g 77 = chP (chA A (feO (A 0) o 1) w) → (∀ p c, chA A (feO (A 0) o 1) w = some (p, c) → g 78 = nI c) → P none (cu mi 95 g, ml, R0 rd, 136)) → Cd (d + 6) k_Mod_layCheapest [.ref 95, .int (nI 0), .int (nI w)] (cu (cu mi 95 (upd (mi 95) 2 (nI 0))) 95 (upd (upd (mi 95) 2 (nI 0)) 75 (nI o)), ml, R0 rd, 136) P := by
      intro P hP
      refine t_layCheapest (b := 0) (fr := o + 1) (br := 0) hT2 hw.T (by omega) (hA.S.s0 hw.S) (show nI o = nI (o + 1) - 1 from (nI_pred o).symm) (by omega) (show mi 95 76 = nI 0 - 1 from f76.trans (by decide)) (by omega) hwd (fun g hg h77 h78 => ?_)
      rw [feX_f] at h77 h78
      rw [cu_cu, cu_cu]
      exact hP g (fun k a b c e => by rw [hg k a b, cu_self, pk_un e, pk_un c]) h77 h78
    have hT3 : ∀ g : Nat → Int32, (∀ k, k ≠ 77 → k ≠ 78 → k ≠ 2 → k ≠ 75 → g k = mi 95 k) → MT (A 0) (cu mi 95 g) := fun g hg => by
      have := hA.T
      unfold MT at this ⊢
      simp only [cu_self, hg 12 (by decide) (by decide) (by decide) (by decide), hg 13 (by decide) (by decide) (by decide) (by decide), hg 14 (by decide) (by decide) (by decide) (by decide), hg 15 (by decide) (by decide) (by decide) (by decide), hg 16 (by decide) (by decide) (by decide) (by decide), hg 17 (by decide) (by decide) (by decide) (by decide), hg 18 (by decide) (by decide) (by decide) (by decide), hg 19 (by decide) (by decide) (by decide) (by decide), hg 20 (by decide) (by decide) (by decide) (by decide), hg 21 (by decide) (by decide) (by decide) (by decide), hg 22 (by decide) (by decide) (by decide) (by decide)]
      exact this
    refine hC _ _ _ _ (cl1 _ (fun g hg h77 h78 => ?_))
    have mf1 : MF mi (cu mi 95 (upd g 75 (-1))) := mf95 (fun k hk => by
      by_cases e75 : k = 75
      · rw [e75, pk_us, f75]
      · rw [pk_un e75]
        have h1 := sc2 hk (a := 77) (b := 78) rfl rfl
        have h2 := sc2 hk (a := 2) (b := 2) rfl rfl
        exact hg k h1.1 h1.2 h2.1 e75)
    cases hc : chA A (feO (A 0) o 1) w with
    | none =>
      rw [hc] at h77
      refine ⟨fun a => ?_, fun _ => ⟨rfl, ?_⟩⟩
      · have a : 0 ≤ g 77 := a
        rw [h77] at a
        exact absurd a (by decide)
      · simp only [hc] at hQ
        rw [cuu]
        exact hQ _ ml mf1 ML.none
    | some pc =>
      obtain ⟨p, c⟩ := pc
      have hp := chN_lt (show chN (fun p => costN (A 0) (A 1 1) (feO (A 0) o 1) w (p / 2) (p % 2)) (2 * (A 0 0 0 * A 0 0 1)) = some (p, c) from hc)
      have hfl := hw.T.fl
      have g77 : g 77 = nI p := by rw [h77, hc]; rfl
      have g78 := h78 p c hc
      refine ⟨fun _ => ?_, fun a => ?_⟩
      · have cl2 : ∀ P : Option Value → Mm → Prop, (∀ g2 : Nat → Int32, (∀ k, k ≠ 77 → k ≠ 78 → k ≠ 76 → k ≠ 75 → g2 k = g k) → g2 75 = -1 → g2 77 = chP (chA A (feO (A 0) o 0) w) → (∀ p c, chA A (feO (A 0) o 0) w = some (p, c) → g2 78 = nI c) → P none (cu mi 95 g2, ml, R0 rd, 136)) → Cd (d + 6) k_Mod_layCheapest [.ref 95, .int (nI 0), .int (nI w)] (cu (cu (cu mi 95 g) 95 (upd g 75 (-1))) 95 (upd (upd g 75 (-1)) 76 (nI o)), ml, R0 rd, 136) P := by
          intro P hP
          have hT4 : MT (A 0) (cu (cu (cu mi 95 g) 95 (upd g 75 (-1))) 95 (upd (upd g 75 (-1)) 76 (nI o))) := by
            have := hT3 g hg
            unfold MT at this ⊢
            exact this
          refine t_layCheapest (b := 0) (fr := 0) (br := o + 1) hT4 hw.T (by omega) (hA.S.s0 hw.S) (show (-1 : Int32) = nI 0 - 1 by decide) (by omega) (show nI o = nI (o + 1) - 1 from (nI_pred o).symm) (by omega) hwd (fun g2 hg2 h77 h78 => ?_)
          rw [feX_b] at h77 h78
          rw [cu_cu, cu_cu, cu_cu]
          exact hP g2 (fun k a b c e => by rw [hg2 k a b, cu_self, pk_un c, pk_un e]) ((hg2 75 (by decide) (by decide)).trans rfl) h77 h78
        refine hC _ _ _ _ (cl2 _ (fun g2 hg2 g275 i77 i78 => ?_))
        have mf2 : MF mi (cu mi 95 (upd g2 76 (-1))) := mf95 (fun k hk => by
          by_cases e76 : k = 76
          · rw [e76, pk_us, f76]
          · rw [pk_un e76]
            by_cases e75 : k = 75
            · rw [e75, g275, f75]
            · have h1 := sc2 hk (a := 77) (b := 78) rfl rfl
              have h2 := sc2 hk (a := 2) (b := 2) rfl rfl
              exact (hg2 k h1.1 h1.2 e76 e75).trans (hg k h1.1 h1.2 h2.1 e75))
        cases hc2 : chA A (feO (A 0) o 0) w with
        | none =>
          rw [hc2] at i77
          refine ⟨fun a => ?_, fun _ => ⟨rfl, ?_⟩⟩
          · have a : 0 ≤ g2 77 := a
            rw [i77] at a
            exact absurd a (by decide)
          · simp only [hc, hc2] at hQ
            rw [cuu]
            exact hQ _ ml mf2 ML.none
        | some qe =>
          obtain ⟨q, e⟩ := qe
          have hq := chN_lt (show chN (fun p => costN (A 0) (A 1 1) (feO (A 0) o 0) w (p / 2) (p % 2)) (2 * (A 0 0 0 * A 0 0 1)) = some (q, e) from hc2)
          have g277 : g2 77 = nI q := by rw [i77, hc2]; rfl
          have g278 := i78 q e hc2
          refine ⟨fun _ => ⟨rfl, ?_⟩, fun a => ?_⟩
          · simp only [hc, hc2] at hQ
            rw [cuu]
            have hQ := hQ _ ml mf2 ML.none
            rw [← g278, ← g78] at hQ
            exact hQ
          · have a : ¬ 0 ≤ g2 77 := a
            rw [g277] at a
            exact absurd (nI_pos' (by omega)) a
      · have a : ¬ 0 ≤ g 77 := a
        rw [g77] at a
        exact absurd (nI_pos' (by omega)) a
  · subst e
    rw [ixo_some hwd, ixo_none hno] at hQ
    exact hQ _ ml thr0 ML.none
  · rw [ixo_none hno] at hQ
    exact hQ _ ml thr0 ML.none
end
