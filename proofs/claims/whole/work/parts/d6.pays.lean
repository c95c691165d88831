/-! WHAT THE REFERENCE ANSWERS: pays -/
def pyI (r : Option (Int32 × Nat × Nat)) : Int32 := match r with
  | none => -1
  | some (_, w, p) => nI (96 * w + p)
def pyM (r : Option (Int32 × Nat × Nat)) : Int32 := match r with
  | none => nI 0
  | some (m, _, _) => m
section
variable {d : Nat} {Q : Option Value → Mm → Prop} {A : St} {T S : Nat → Nat → Nat} {mi : Nat → Nat → Int32} {ml : Nat → Nat → Int64} {rd : Option Nat} {x y z : Int32}
set_option maxHeartbeats 2000000 in
theorem paysLp (hA : MI A mi ml) (hw : wfA A) {h : Nat} (hh : h < A 0 0 5) {v2 : Int32} (hQ : ∀ mi' ml', MF mi mi' → ML ml ml' → ∀ v6 v7 v8, GoM (d + 6) k_Mod_pays 136 Q 34 [.ref 95, .int (nI h), .int v2, .int (pyI (pyA (A 0) (A 1) h (A 0 0 4))), .int (pyM (pyA (A 0) (A 1) h (A 0 0 4))), .int (nI (A 0 0 4)), v6, v7, v8] [] (mi', ml', R0 rd, 136)) : ∀ w, w ≤ A 0 0 4 → ∀ mi' ml', MF mi mi' → ML ml ml' → ∀ v6 v7 v8, GoM (d + 6) k_Mod_pays 136 Q 34 [.ref 95, .int (nI h), .int v2, .int (pyI (pyA (A 0) (A 1) h w)), .int (pyM (pyA (A 0) (A 1) h w)), .int (nI w), v6, v7, v8] [] (mi', ml', R0 rd, 136) := by
  have hfl := hw.T.fl
  have h6 := hw.T.wd6
  refine upto ?_ ?_
  · exact hQ
  · intro w hwd ih mi1 ml1 f1 l1 v6 v7 v8
    rw [nI1 w] at ih
    have h99 := hw.T.ww w hwd
    have inner : ∀ j, j ≤ 2 * (A 0 0 0 * A 0 0 1) → ∀ mi' ml', MF mi mi' → ML ml ml' → ∀ v7 v8, GoM (d + 6) k_Mod_pays 136 Q 46 [.ref 95, .int (nI h), .int v2, .int (pyI (pyP (A 0) (A 1) h w (pyA (A 0) (A 1) h w) j)), .int (pyM (pyP (A 0) (A 1) h w (pyA (A 0) (A 1) h w) j)), .int (nI w), .int (nI j), v7, v8] [] (mi', ml', R0 rd, 136) := by
      refine upto ?_ ?_
      · intro mi' ml' f2 l2 v7 v8
        have hA2 := hA.mf f2 l2
        refine g_Mod_pays (fun K Kl hK hC => hC _ _ _ _ (t_fields hA2.T ⟨fun _ => hK _ _ _ _ (ih mi' ml' f2 l2 _ _ _), fun a => ?_⟩))
        have a : ¬ nI 2 * nI (A 0 0 0 * A 0 0 1) ≤ nI (2 * (A 0 0 0 * A 0 0 1)) := a
        rw [pk_mul] at a
        exact absurd (iNLE a) (by omega)
      · intro p hp ih2 mi' ml' f2 l2 v7 v8
        have hA2 := hA.mf f2 l2
        have ed : nI p / nI 2 = nI (p / 2) := pk_div (by omega) (by omega) (by omega)
        have er : nI p - nI p / nI 2 * nI 2 = nI (p % 2) := pk_rem (by omega) (by omega) (by omega)
        have ph := pl_half hp
        have eco := cost_of (T := A 0) (sh := A 1 1) (fr := 0) (br := 0) (w := w) (f := p / 2) (way := p % 2)
        rw [feX_0, show baN (A 0) 0 w (p / 2) (p % 2) = false from rfl] at eco
        have ew : mi' 107 w = nI (A 0 8 w) := hA2.T.ww w hwd
        have epu : mi' 95 70 = nI (A 1 0 1) := hA2.S.2.2.1
        have hpu := hw.S.pu
        rw [nI1 p] at ih2
        rw [pyP] at ih2
        refine g_Mod_pays (fun K Kl hK hC => hC _ _ _ _ (t_fields hA2.T ⟨fun a => ?_, fun _ => ⟨two0, two0, ?_⟩⟩))
        · have a : nI 2 * nI (A 0 0 0 * A 0 0 1) ≤ nI p := a
          rw [pk_mul] at a
          exact absurd (iLE a) (by omega)
        rw [er, ed]
        refine hC _ _ _ _ (t_canSet (b := 0) hA2.T hw.T (by omega) (hA2.S.s0 hw.S) hwd ph (by omega) (fun hcs => ⟨fun _ => ⟨two0, two0, ?_⟩, fun a => absurd a (by decide)⟩) (fun hcs => ⟨fun a => absurd (by decide) a, fun _ => ?_⟩))
        · rw [er, ed]
          have hfit : fitN (A 0) (lenN (A 0 7 w)) (p / 2) (p % 2) = true := li_fit (by unfold csN at hcs; rw [Bool.and_eq_true] at hcs; exact hcs.1)
          rw [hcs] at eco
          have eco : costN (A 0) (A 1 1) (feA (A 0)) w (p / 2) (p % 2) = some (cdN (A 0) (A 1 1) 0 w (p / 2) (p % 2)) := eco
          have hcl := costN_le (fun f => feA_le hw.T f) eco
          refine hC _ _ _ _ (t_costOf (b := 0) (fr := 0) hA2.T hw.T (by omega) (hA2.S.s0 hw.S) (hA2.f.1.trans (by decide)) (by omega) hwd ph (by omega) hcs ?_)
          generalize cdN (A 0) (A 1 1) 0 w (p / 2) (p % 2) = c at eco hcl
          simp only [eco] at ih2
          refine ⟨fun q => ⟨w, by omega, rfl, ⟨two0, two0, ?_⟩⟩, fun q => ?_⟩
          · have q : nI c ≤ mi' 95 70 := q
            rw [epu] at q
            have q := iLE q
            rw [if_neg (by omega)] at ih2
            rw [er, ed]
            refine hC _ _ _ _ (t_lifeOf hA2.T hA2.K hw.T hw.L hA2.S.b0 hw.S hA2.S.2.2.2.1 hw.d hwd ph (by omega) hh hfit (fun mi3 ml3 f3 l3 => ?_))
            have eg : mi' 107 w * nI (lifeN (A 0) (A 1) w (p / 2) (p % 2) h) - nI c = pyG (A 0) (A 1) h w p c := by
              rw [ew, pk_mul]
              rfl
            rw [← eg] at ih2
            have ih2 := fun v7 v8 => ih2 mi3 ml3 (f2.trans f3) (l2.trans l3) v7 v8
            have hbd := pyP_bd (T := A 0) (S := A 1) (h := h) (r := pyA (A 0) (A 1) h w) (pyA_bd hw.T w (by omega)) (show w < 6 by omega) p (by omega)
            have ib : nI 96 * nI w + nI p = nI (96 * w + p) := by rw [pk_mul, nI_add]
            cases hr : pyP (A 0) (A 1) h w (pyA (A 0) (A 1) h w) p with
            | none =>
              rw [hr] at ih2
              have ih2 : ∀ v7 v8, GoM (d + 6) k_Mod_pays 136 Q 46 [.ref 95, .int (nI h), .int v2, .int (nI (96 * w + p)), .int (mi' 107 w * nI (lifeN (A 0) (A 1) w (p / 2) (p % 2) h) - nI c), .int (nI w), .int (nI p + nI 1), v7, v8] [] (mi3, ml3, R0 rd, 136) := ih2
              rw [← ib] at ih2
              exact ⟨fun _ => hK _ _ _ _ (ih2 _ _), fun a => absurd (by decide) a⟩
            | some t =>
              obtain ⟨m, a, b⟩ := t
              rw [hr] at ih2
              have hb2 := hbd m a b hr
              refine ⟨fun a2 => (iNN (show nI (96 * a + b) < 0 from a2) (by omega)).elim, fun _ => ⟨fun q2 => ?_, fun q2 => ?_⟩⟩
              · have q2 : m < (mi' 107 w * nI (lifeN (A 0) (A 1) w (p / 2) (p % 2) h) - nI c) := q2
                simp only [if_pos q2] at ih2
                have ih2 : ∀ v7 v8, GoM (d + 6) k_Mod_pays 136 Q 46 [.ref 95, .int (nI h), .int v2, .int (nI (96 * w + p)), .int (mi' 107 w * nI (lifeN (A 0) (A 1) w (p / 2) (p % 2) h) - nI c), .int (nI w), .int (nI p + nI 1), v7, v8] [] (mi3, ml3, R0 rd, 136) := ih2
                rw [← ib] at ih2
                exact hK _ _ _ _ (ih2 _ _)
              · have q2 : ¬ m < (mi' 107 w * nI (lifeN (A 0) (A 1) w (p / 2) (p % 2) h) - nI c) := q2
                simp only [if_neg q2] at ih2
                exact hK _ _ _ _ (ih2 _ _)
          · have q : ¬ nI c ≤ mi' 95 70 := q
            rw [epu] at q
            have q := iNLE q
            rw [if_pos (by omega)] at ih2
            exact hK _ _ _ _ (ih2 mi' ml' f2 l2 _ _)
        · rw [hcs] at eco
          have eco : costN (A 0) (A 1 1) (feA (A 0)) w (p / 2) (p % 2) = none := eco
          simp only [eco] at ih2
          exact hK _ _ _ _ (ih2 mi' ml' f2 l2 _ _)
    refine g_Mod_pays (fun K Kl hK hC => ⟨fun z => absurd (jLE z (hA.mf f1 l1).T.words) (by omega), fun _ => hK _ _ _ _ (inner 0 (Nat.zero_le _) mi1 ml1 f1 l1 _ _)⟩)
set_option maxHeartbeats 1000000 in
theorem q_pays (hA : MI A mi ml) (hw : wfA A) (hQ : ∀ mi' ml', MF mi mi' → ML ml ml' → Q (some (.int (aPays A x y))) (mi', ml', R0 rd, 136)) : Cd (d + 7) k_Mod_pays [.ref 95, .int x, .int y] (mi, ml, R0 rd, 136) Q := by
  have hA1 := hA.mf thr0 ML.none
  have h3 := hw.T.hl3
  have h6 := hw.T.wd6
  unfold aPays at hQ
  refine r_Mod_pays (by decide) (fun K Kl hK hC => hC _ _ _ _ (t_isHill hA1.T hw.T (fun h hh e => ⟨fun a => absurd a (by decide), fun _ => hC _ _ _ _ (t_isIn (fun h1 h2 => ⟨fun _ => hK _ _ _ _ ?_, fun a => absurd a (by decide)⟩) (fun hno => ⟨fun a => absurd (by decide) a, fun _ => ⟨rfl, ?_⟩⟩))⟩) (fun hno => ⟨fun _ => ⟨rfl, ?_⟩, fun a => absurd (by decide) a⟩)))
  · subst e
    obtain ⟨k, hk, rfl, he⟩ := ixo_rg (n := 3) (by omega) h1 h2
    rw [ixo_some hh, he] at hQ
    refine paysLp hA1 hw hh (fun mi' ml' f1 l1 v6 v7 v8 => ?_) 0 (Nat.zero_le _) _ _ MF.none ML.none _ _ _
    have hQ := hQ mi' ml' (thr0.trans f1) l1
    have hbd := pyA_bd (S := A 1) (h := h) hw.T (A 0 0 4) h6
    have ez := (hA1.mf f1 l1).T.words
    cases hr : pyA (A 0) (A 1) h (A 0 0 4) with
    | none =>
      simp only [hr] at hQ
      exact g_Mod_pays (fun K Kl hK hC => ⟨fun _ => ⟨fun a => absurd a (by decide), fun _ => ⟨rfl, hQ⟩⟩, fun z => absurd (jNLE z ez) (by omega)⟩)
    | some t =>
      obtain ⟨m, w, p⟩ := t
      have hb2 := hbd m w p hr
      simp only [hr] at hQ
      have d96 : nI (96 * w + p) / nI 96 = nI w := by rw [pk_div (by omega) (by decide) (by decide)]; congr 1; omega
      have r96 : nI (96 * w + p) - nI (96 * w + p) / nI 96 * nI 96 = nI p := by rw [pk_rem (by omega) (by decide) (by decide)]; congr 1; omega
      have d2 : nI p / nI 2 = nI (p / 2) := pk_div (by omega) (by decide) (by decide)
      have r2 : nI (96 * w + p) - nI (96 * w + p) / nI 2 * nI 2 = nI (p % 2) := by rw [pk_rem (by omega) (by decide) (by decide)]; congr 1; omega
      refine g_Mod_pays (fun K Kl hK hC => ⟨fun _ => ⟨fun _ => ⟨fun a => ⟨fun b => ⟨fun c => ⟨two0, ?_⟩, fun c => ⟨by decide, two0, ?_⟩⟩, fun b => ⟨by decide, ?_⟩⟩, fun a => ⟨rfl, ?_⟩⟩, fun a => absurd (nI_pos' (n := 96 * w + p) (by omega)) a⟩, fun z => absurd (jNLE z ez) (by omega)⟩)
      · have a := iNZ a
        have b := iNE b
        have c := iNE c
        rw [if_neg a, if_neg b, if_neg c, ← r2] at hQ
        exact ⟨rfl, hQ⟩
      · have c := iEQ c
        rw [if_neg (by omega), if_neg (by omega), if_pos c, ← d2, ← r96] at hQ
        exact ⟨rfl, hQ⟩
      · have b := iEQ b
        rw [if_neg (by omega), if_pos b, ← d96] at hQ
        exact ⟨rfl, hQ⟩
      · have a := iZ a
        rw [if_pos a] at hQ
        exact hQ
  · subst e
    have hn : ixo y 4 = none := hno.elim (fun h => ixo_neg h) (fun h => ixo_big (n := 3) (by omega) h)
    rw [ixo_some hh, hn] at hQ
    exact hQ _ ml thr0 ML.none
  · rw [ixo_none hno] at hQ
    exact hQ _ ml thr0 ML.none
end
