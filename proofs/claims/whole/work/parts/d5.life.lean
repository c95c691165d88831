/-! THE REFERENCE: tried days, life -/
theorem passN_last (T S : Nat → Nat → Nat) : passN T true true false S 0 2 = S 0 2 := rfl
theorem lfS_last (T S : Nat → Nat → Nat) (w f way : Nat) : ∀ k, lfS T S w f way k 0 2 = S 0 2
  | 0 => rfl
  | k + 1 => by
    show passN T true true false (lfS T S w f way k) 0 2 = _
    rw [passN_last]
    exact lfS_last T S w f way k
section
variable {d : Nat} {Q : Option Value → Mm → Prop} {A : St} {T S : Nat → Nat → Nat} {mi : Nat → Nat → Int32} {ml : Nat → Nat → Int64} {rd : Option Nat} {x y z : Int32}
theorem t_layTried (hS : MB 0 S mi) (hQ : ∀ mi', BF 1 mi mi' → MB 1 S mi' → Q none (mi', ml, R0 rd, 136)) : Cd (d + 1) k_Mod_layTried [.ref 95] (mi, ml, R0 rd, 136) Q := by
  have e0 : ∀ f, f < 48 → mi 123 f = nI (S 1 f) := fun f hf => by
    have := hS.1 f hf
    rw [show 48 * 0 + f = f by omega] at this
    exact this
  have lp : ∀ j, j ≤ 48 → ∀ g : Nat → Int32, (∀ f, f < j → g (48 + f) = nI (S 1 f)) → (∀ i, i < 48 ∨ 96 ≤ i → g i = mi 123 i) → GoM d k_Mod_layTried 136 Q 2 [.ref 95, .int (nI j)] [] (cu mi 123 g, ml, R0 rd, 136) := by
    refine upto ?_ ?_
    · intro g hg ho
      have hf : BF 1 mi (cu mi 123 g) := BF.none.sh (fun i hi => ho i (by omega))
      have hq := hQ (cu (cu mi 123 g) 124 (upd (cu mi 123 g 124) 1 (mi 124 0))) hf.dy ⟨fun f hf => hg f hf, hS.2⟩
      exact g_Mod_layTried (fun K Kl hK hC => ⟨fun _ => ⟨0, by decide, rfl, ⟨1, by decide, rfl, ⟨rfl, hq⟩⟩⟩, fun z => absurd (iNLE z) (by omega)⟩)
    · intro j hj ih g hg ho
      have ih := ih (upd g (48 + j) (g j)) (fun f hf => by
        by_cases e : f = j
        · subst e
          rw [pk_us, ho f (by omega), e0 f (by omega)]
        · rw [pk_un (by omega)]; exact hg f (by omega)) (fun i hi => by rw [pk_un (by omega)]; exact ho i hi)
      rw [nI1 j, ← cuu] at ih
      exact g_Mod_layTried (fun K Kl hK hC => ⟨fun z => absurd (iLE z) (by omega), fun _ => ⟨j, by omega, rfl, ⟨48 + j, by omega, nI_add 48 j, hK _ _ _ _ ih⟩⟩⟩)
  have l0 := lp 0 (Nat.zero_le _) (mi 123) lt_0 (fun _ _ => rfl)
  rw [cu_id] at l0
  exact r_Mod_layTried (by decide) (fun K Kl hK hC => hK _ _ _ _ l0)
/-- shapes that can be, in the form that is asked -/
theorem MB.s (h : MB 1 S mi) (hs : wfS T S) : ∀ f, f < 48 → mi 123 (48 * 1 + f) = nI (S 1 f) ∧ S 1 f ≤ 511 := fun f hf => ⟨h.1 f hf, hs.sh f⟩
set_option maxHeartbeats 1000000 in
theorem t_lifeOf (hT : MT T mi) (hK : MK T mi) (hw : wfT T) (hl : wfL T) (hS : MB 0 S mi) (hs : wfS T S) (hd : ml 95 72 = lN (S 0 2)) (hd9 : S 0 0 ≤ 999) {w f way h : Nat} (hwd : w < T 0 4) (hf : f < T 0 0 * T 0 1) (hway : way < 2) (hh : h < T 0 5) (hfit : fitN T (lenN (T 7 w)) f way = true) (hQ : ∀ mi' ml', MF mi mi' → ML ml ml' → Q (some (.int (nI (lifeN T S w f way h)))) (mi', ml', R0 rd, 136)) : Cd (d + 6) k_Mod_lifeOf [.ref 95, .int (nI w), .int (nI f), .int (nI way), .int (nI h)] (mi, ml, R0 rd, 136) Q := by
  have hln := lifeN_le T S w f way h
  have lp : ∀ k, k ≤ 99 → (∀ i, i < k → lfOk T S w f way h i = true) → ∀ mi' ml', MF mi mi' → ML ml ml' → mi' 95 74 = nI 2 → MB 1 (lfS T S w f way k) mi' → GoM (d + 5) k_Mod_lifeOf 136 Q 20 [.ref 95, .int (nI w), .int (nI f), .int (nI way), .int (nI h), .int (nI k)] [] (mi', ml', R0 rd, 136) := by
    refine upto ?_ ?_
    · intro hall mi' ml' hf1 hl1 h74 hM
      have hq := hQ mi' ml' hf1 hl1
      have e : lifeN T S w f way h = 99 := fnd_none (fun i hi => by rw [hall i hi]; rfl)
      rw [e] at hq
      exact g_Mod_lifeOf (fun K Kl hK hC => ⟨fun _ => ⟨rfl, hq⟩, fun z => absurd (iNLE z) (by omega)⟩)
    · intro k hk ih hall mi' ml' hf1 hl1 h74 hM
      have hT1 := hT.mf hf1
      have hK1 := hK.mf hf1
      have hwf := lfS_wf hw hs hd9 hf (w := w) (way := way) k (by omega)
      have hdy := lfS_day T S w f way k
      have e72 : ml' 95 72 = lN (lfS T S w f way k 0 2) := by rw [hl1 95 72 rfl, hd, lfS_last]
      have out : lfOk T S w f way h k = false → Q (some (.int (nI k))) (mi', ml', R0 rd, 136) := fun hn => by
        have hq := hQ mi' ml' hf1 hl1
        have e : lifeN T S w f way h = k := fnd_at hk (by rw [hn]; rfl) (fun i hi => by rw [hall i hi]; rfl)
        rw [e] at hq
        exact hq
      refine g_Mod_lifeOf (fun K Kl hK0 hC => ⟨fun z => absurd (iLE z) (by omega), fun _ => ⟨1, by decide, rfl, ⟨fun z => ⟨rfl, out ?_⟩, fun z => hC _ _ _ _ (t_isRead (b := 1) hT1 hw (by omega) (hM.s hwf) hwd hf hway hh (fun hr => ⟨fun a => absurd a (by decide), fun _ => hC _ _ _ _ (t_aDay (b := 1) (c := true) (e := true) (r := false) hT1 hK1 hw hl (by omega) hM hwf e72 ?_ ?_ ?_ (fun mi2 ml2 hf2 hl2 h72 hM2 => ?_))⟩) (fun hr => ⟨fun _ => ⟨rfl, out ?_⟩, fun a => absurd (by decide) a⟩))⟩⟩⟩)
      · have z : nI 999 < mi' 124 1 := z
        rw [hM.2, hdy] at z
        have := iLT z
        unfold lfOk
        rw [decide_eq_false (by omega), Bool.false_and]
      · exact ⟨fun q => absurd (h74.symm.trans q) (by decide), fun q => by cases q⟩
      · exact ⟨fun q => absurd (h74.symm.trans q) (by decide), fun q => by cases q⟩
      · exact ⟨fun _ => rfl, fun _ => h74⟩
      · have z : ¬ nI 999 < mi' 124 1 := z
        rw [hM.2, hdy] at z
        have z := iNLT z
        have ok : lfOk T S w f way h k = true := by
          unfold lfOk
          rw [decide_eq_true (by omega), hr]
          rfl
        have e2 : ml2 95 72 = ml' 95 72 := by rw [h72, e72]; rfl
        have ih := ih (lt_s hall ok) mi2 ml2 (hf1.trans hf2.mf) (hl1.trans (hl2.ml e2)) ((hf2.k (by decide)).trans h74) hM2
        rw [nI1 k] at ih
        exact hK0 _ _ _ _ ih
      · unfold lfOk
        rw [hr, Bool.and_false]
  refine r_Mod_lifeOf (by decide) (fun K Kl hK0 hC => hC _ _ _ _ (t_layTried hS (fun mi1 hf1 hM1 => hC _ _ _ _ (t_setsIn (b := 1) (sh := S 1) (hT.mf hf1.mf) hw (by omega) hM1.1 hwd hf hway hfit (fun g hg ho => hK0 _ _ _ _ (lp 0 (Nat.zero_le _) lt_0 _ ml ?_ ML.none rfl ⟨fun a ha => ?_, ?_⟩))))))
  · have h1 : BF 1 mi (cu mi1 123 g) := hf1.sh (fun i hi => ho i (by omega))
    exact h1.mf.cu rfl
  · show g (48 * 1 + a) = nI (lfS T S w f way 0 1 a)
    exact hg a ha
  · exact hM1.2
theorem q_life {u : Int32} (hA : MI A mi ml) (hw : wfA A) (hQ : ∀ mi' ml', MF mi mi' → ML ml ml' → Q (some (.int (aLife A x y z u))) (mi', ml', R0 rd, 136)) : Cd (d + 7) k_Mod_life [.ref 95, .int x, .int y, .int z, .int u] (mi, ml, R0 rd, 136) Q := by
  have hA1 := hA.mf thr0 ML.none
  have h3 := hw.T.hl3
  unfold aLife at hQ
  refine r_Mod_life (by decide) (fun K Kl hK hC => hC _ _ _ _ (t_arePlace hA1.T hw.T (fun w f v h1 h2 h3 e1 e2 e3 => ⟨fun a => absurd a (by decide), fun _ => hC _ _ _ _ (t_isHill hA1.T hw.T (fun h hh e4 => ⟨fun _ => ?_, fun a => absurd a (by decide)⟩) (fun hno => ⟨fun a => absurd (by decide) a, fun _ => ⟨rfl, ?_⟩⟩))⟩) (fun hno => ⟨fun _ => ⟨rfl, ?_⟩, fun a => absurd (by decide) a⟩)))
  · subst e1; subst e2; subst e3; subst e4
    rw [pl3_some hw.T h1 h2 h3, ixo_some hh] at hQ
    have eco := cost_of (T := A 0) (sh := A 1 1) (fr := 0) (br := 0) (w := w) (f := f) (way := v)
    rw [feX_0, show baN (A 0) 0 w f v = false from rfl] at eco
    refine hC _ _ _ _ (t_canSet (b := 0) hA1.T hw.T (by omega) (hA1.S.s0 hw.S) h1 h2 h3 (fun hcs => ⟨fun a => absurd a (by decide), fun _ => ?_⟩) (fun hcs => ⟨fun _ => ⟨rfl, ?_⟩, fun a => absurd (by decide) a⟩))
    · rw [hcs] at eco
      simp only [eco] at hQ
      have hfit : fitN (A 0) (lenN (A 0 7 w)) f v = true := li_fit (by unfold csN at hcs; rw [Bool.and_eq_true] at hcs; exact hcs.1)
      exact hC _ _ _ _ (t_lifeOf hA1.T hA1.K hw.T hw.L hA1.S.b0 hw.S hA1.S.2.2.2.1 hw.d h1 h2 h3 hh hfit (fun mi' ml' f1 l1 => ⟨rfl, hQ mi' ml' (thr0.trans f1) l1⟩))
    · rw [hcs] at eco
      simp only [eco] at hQ
      exact hQ _ ml thr0 ML.none
  · subst e1; subst e2; subst e3
    rw [pl3_some hw.T h1 h2 h3, ixo_none hno] at hQ
    exact hQ _ ml thr0 ML.none
  · rw [pl3_none hno] at hQ
    exact hQ _ ml thr0 ML.none
end
