/-! WHAT THE REFERENCE ANSWERS: set, stack, undo, notes -/
section
variable {d : Nat} {Q : Option Value → Mm → Prop} {A : St} {S : Nat → Nat → Nat} {mi : Nat → Nat → Int32} {ml : Nat → Nat → Int64} {rd : Option Nat} {x y z : Int32}
theorem MIm.h {I : Nat → Nat → Nat} {m2 : Nat → Nat → Int32} {l2 : Nat → Nat → Int64} (h : MIm I mi ml) (h133 : m2 133 = mi 133) (h134 : m2 134 = mi 134) (h98 : m2 95 98 = mi 95 98) (hl : l2 95 99 = ml 95 99) : MIm I m2 l2 := by
  unfold MIm at h ⊢
  rw [h133, h134, h98, hl]
  exact h
/-- another scene, another past -/
theorem MI.sp {A' : St} {m2 : Nat → Nat → Int32} {l2 : Nat → Nat → Int64} (hA : MI A mi ml) (hc : ∀ c, (95 < c ∧ c < 119) ∨ c = 130 ∨ c = 133 ∨ c = 134 → m2 c = mi c) (h95 : ∀ k, k ≠ 70 → k ≠ 71 → k ≠ 94 → scF k = false → m2 95 k = mi 95 k) (hl : l2 95 99 = ml 95 99) (e0 : A' 0 = A 0) (e2 : A' 2 = A 2) (e5 : A' 5 = A 5) (e41 : A' 4 0 1 = A 4 0 1) (e42 : A' 4 0 2 = A 4 0 2) (e43 : A' 4 0 3 = A 4 0 3) (e44 : A' 4 0 4 = A 4 0 4) (eb : A' 4 1 = A 4 1) (hS : MS (A' 1) m2 l2) (hP : MPa (A' 4 0 0) (A' 3) m2) : MI A' m2 l2 := by
  refine ⟨?_, ?_, hS, ?_, hP, ⟨?_, fun z => ?_⟩, ⟨?_, ?_⟩, ⟨?_, ?_⟩, ⟨?_, ?_⟩, ?_⟩
  · rw [e0]
    exact hA.T.h (fun k h1 h2 => h95 k (by omega) (by omega) (by omega) (by
      have : ∀ k, k < 23 → 12 ≤ k → scF k = false := by decide
      exact this k (by omega) h1)) (fun c h1 h2 => hc c (by omega))
  · rw [e0]
    exact hA.K.h (fun c h1 h2 => hc c (by omega))
  · rw [e2]
    have := hA.N
    unfold MN at this ⊢
    rw [h95 88 (by decide) (by decide) (by decide) rfl, h95 89 (by decide) (by decide) (by decide) rfl, hc 130 (by decide)]
    exact this
  · rw [e41, h95 96 (by decide) (by decide) (by decide) rfl]
    exact hA.I.1
  · rw [e41] at z
    rw [e5]
    exact (hA.I.2 z).h (hc 133 (by decide)) (hc 134 (by decide)) (h95 98 (by decide) (by decide) (by decide) rfl) hl
  · rw [e42, h95 1 (by decide) (by decide) (by decide) rfl]
    exact hA.b.1
  · rw [e42, eb, hc 96 (by decide)]
    exact hA.b.2
  · rw [e43, h95 4 (by decide) (by decide) (by decide) rfl]
    exact hA.q.1
  · rw [e44, h95 5 (by decide) (by decide) (by decide) rfl]
    exact hA.q.2
  · rw [h95 75 (by decide) (by decide) (by decide) rfl]
    exact hA.f.1
  · rw [h95 76 (by decide) (by decide) (by decide) rfl]
    exact hA.f.2
  · rw [hc 97 (by decide)]
    exact hA.w
theorem k2 {k : Nat} (h : scF k = false) : k ≠ 2 := fun e => by rw [e] at h; cases h
theorem lo2 {g h : Nat → Int32} {c : Nat} (hc : 95 ≤ c ∧ c < 135) : Lo mi (cu (cu (cu mi 95 (upd (mi 95) 2 (nI 0))) c g) 95 h) := ((Lo.none.cu (by decide)).cu hc).cu (by decide)
set_option maxHeartbeats 1000000 in
theorem q_set (hA : MI A mi ml) (hw : wfA A) (hQ : ∀ mi', MI (aSet A x y z).2 mi' ml → Lo mi mi' → Q (some (.int (aSet A x y z).1)) (mi', ml, R0 rd, 136)) : Cd (d + 6) k_Mod_set [.ref 95, .int x, .int y, .int z] (mi, ml, R0 rd, 136) Q := by
  have hA1 := hA.mf thr0 ML.none
  have lo1 : Lo mi (cu mi 95 (upd (mi 95) 2 (nI 0))) := Lo.none.cu (by decide)
  unfold aSet at hQ
  refine r_Mod_set (by decide) (fun K Kl hK hC => hC _ _ _ _ (t_arePlace hA1.T hw.T (fun w f v h1 h2 h3 e1 e2 e3 => ⟨fun _ => ?_, fun a => absurd a (by decide)⟩) (fun hno => ⟨fun a => absurd (by decide) a, fun _ => ⟨rfl, ?_⟩⟩)))
  · subst e1; subst e2; subst e3
    rw [pl3_some hw.T h1 h2 h3] at hQ
    have eco := cost_of (T := A 0) (sh := A 1 1) (fr := 0) (br := 0) (w := w) (f := f) (way := v)
    rw [feX_0, show baN (A 0) 0 w f v = false from rfl] at eco
    refine hC _ _ _ _ (t_canSet (b := 0) hA1.T hw.T (by omega) (hA1.S.s0 hw.S) h1 h2 h3 (fun hcs => ⟨fun _ => ?_, fun a => absurd a (by decide)⟩) (fun hcs => ⟨fun a => absurd (by decide) a, fun _ => ⟨rfl, ?_⟩⟩))
    · rw [hcs] at eco
      have eco : costN (A 0) (A 1 1) (feA (A 0)) w f v = some (cdN (A 0) (A 1 1) 0 w f v) := eco
      have hfit : fitN (A 0) (lenN (A 0 7 w)) f v = true := li_fit (by unfold csN at hcs; rw [Bool.and_eq_true] at hcs; exact hcs.1)
      simp only [eco] at hQ
      have hcl := costN_le (feA_le hw.T) eco
      have hpu := hw.S.pu
      have epu : mi 95 70 = nI (A 1 0 1) := hA.S.2.2.1
      refine hC _ _ _ _ (t_costOf (b := 0) (fr := 0) hA1.T hw.T (by omega) (hA1.S.s0 hw.S) (hA1.f.1.trans (by decide)) (by omega) h1 h2 h3 hcs ⟨fun a => ?_, fun a => ⟨rfl, ?_⟩⟩)
      · have a : nI (cdN (A 0) (A 1 1) 0 w f v) ≤ mi 95 70 := a
        rw [epu] at a
        have a := iLE a
        simp only [if_neg (show ¬ A 1 0 1 < cdN (A 0) (A 1 1) 0 w f v by omega)] at hQ
        refine hC _ _ _ _ (t_remember hA1.S hA1.P hw.n (fun g h hh hP => ?_))
        have h70 : h 70 = nI (A 1 0 1) := (hh 70 (by decide)).trans epu
        have e70 : h 70 - nI (cdN (A 0) (A 1 1) 0 w f v) = nI (A 1 0 1 - cdN (A 0) (A 1 1) 0 w f v) := by rw [h70, pk_sub a]
        have hT2 : MT (A 0) (cu (cu (cu (cu mi 95 (upd (mi 95) 2 (nI 0))) 132 g) 95 h) 95 (upd h 70 (h 70 - nI (cdN (A 0) (A 1 1) 0 w f v)))) := hA.T.h (fun k a b => by rw [cu_self, pk_un (by omega), hh k (by omega), cu_self, pk_un (by omega)]) (fun c a b => by rw [cu_ne (by omega), cu_ne (by omega), cu_ne (by omega), cu_ne (by omega)])
        refine hC _ _ _ _ (t_setsIn (b := 0) hT2 hw.T (by omega) (fun i hi => (hA.S.s0 hw.S i hi).1) h1 h2 h3 hfit (fun g2 k1 k3 => ⟨rfl, hQ _ (hA.sp (fun c hc => ?_) (fun k a1 a2 a3 a4 => ?_) rfl rfl rfl rfl rfl rfl rfl rfl rfl ⟨fun i hi => ?_, ?_, ?_, ?_, ?_, ?_⟩ hP) ((((lo1.cu (by decide)).cu (by decide)).cu (by decide)).cu (by decide))⟩))
        · rw [cu_ne (by omega), cu_ne (by omega), cu_ne (by omega), cu_ne (by omega), cu_ne (by omega)]
        · show upd h 70 _ k = mi 95 k
          rw [pk_un a1, hh k a3, cu_self, pk_un (k2 a4)]
        · show g2 i = _
          have := k1 i hi
          rw [show 48 * 0 + i = i by omega] at this
          exact this
        · exact hA.S.2.1
        · show h 70 - nI (cdN (A 0) (A 1 1) 0 w f v) = _
          rw [e70]
          rfl
        · exact hA.S.2.2.2.1
        · show h 71 = _
          rw [hh 71 (by decide)]
          exact hA.S.2.2.2.2.1
        · exact hA.S.2.2.2.2.2
      · have a : ¬ nI (cdN (A 0) (A 1 1) 0 w f v) ≤ mi 95 70 := a
        rw [epu] at a
        have a := iNLE a
        simp only [if_pos (show A 1 0 1 < cdN (A 0) (A 1 1) 0 w f v by omega)] at hQ
        exact hQ _ hA1 lo1
    · rw [hcs] at eco
      simp only [eco] at hQ
      exact hQ _ hA1 lo1
  · rw [pl3_none hno] at hQ
    exact hQ _ hA1 lo1
set_option maxHeartbeats 1000000 in
theorem q_stack (hA : MI A mi ml) (hw : wfA A) (hQ : ∀ mi', MI (aStack A x y).2 mi' ml → Lo mi mi' → Q (some (.int (aStack A x y).1)) (mi', ml, R0 rd, 136)) : Cd (d + 3) k_Mod_stack [.ref 95, .int x, .int y] (mi, ml, R0 rd, 136) Q := by
  have hA1 := hA.mf thr0 ML.none
  have lo1 : Lo mi (cu mi 95 (upd (mi 95) 2 (nI 0))) := Lo.none.cu (by decide)
  have hfl := hw.T.fl
  unfold aStack at hQ
  refine r_Mod_stack (by decide) (fun K Kl hK hC => hC _ _ _ _ (t_isField hA1.T hw.T (fun f hf e => ⟨fun a => absurd a (by decide), fun _ => hC _ _ _ _ (t_isIn (fun h1 h2 => ⟨fun a => absurd a (by decide), fun _ => ⟨f, ?_⟩⟩) (fun hno => ⟨fun _ => ⟨Or.inl rfl, rfl, ?_⟩, fun a => absurd (by decide) a⟩))⟩) (fun hno => ⟨fun _ => ⟨Or.inl rfl, rfl, ?_⟩, fun a => absurd (by decide) a⟩)))
  · subst e
    obtain ⟨s, hs, rfl, he⟩ := ixo_rg (n := 511) (by omega) h1 h2
    rw [ixo_some (n := flA A) hf (by unfold flA; omega), he] at hQ
    have es : mi 123 f = nI (A 1 1 f) := hA.S.1 f (by omega)
    have hsl := hw.S.sh f
    refine ⟨by omega, rfl, fun a => ?_, fun a => ⟨Or.inl rfl, rfl, ?_⟩⟩
    · have a : ¬ mi 123 f = nI s := a
      rw [es] at a
      simp only [if_neg (iNE a)] at hQ
      refine hC _ _ _ _ (t_remember hA1.S hA1.P hw.n (fun g h hh hP => ⟨f, by omega, rfl, Or.inr rfl, rfl, hQ _ (hA.sp (fun c hc => ?_) (fun k a1 a2 a3 a4 => ?_) rfl rfl rfl rfl rfl rfl rfl rfl rfl ⟨fun i hi => ?_, ?_, ?_, ?_, ?_, ?_⟩ hP) (((lo1.cu (by decide)).cu (by decide)).cu (by decide))⟩))
      · rw [cu_ne (by omega), cu_ne (by omega), cu_ne (by omega), cu_ne (by omega)]
      · show h k = mi 95 k
        rw [hh k a3, cu_self, pk_un (k2 a4)]
      · show upd (mi 123) f (nI s) i = nI (if i = f then s else A 1 1 i)
        by_cases e : i = f
        · rw [if_pos e, e, pk_us]
        · rw [if_neg e, pk_un e]
          exact hA.S.1 i hi
      · exact hA.S.2.1
      · show h 70 = _
        rw [hh 70 (by decide)]
        exact hA.S.2.2.1
      · exact hA.S.2.2.2.1
      · show h 71 = _
        rw [hh 71 (by decide)]
        exact hA.S.2.2.2.2.1
      · exact hA.S.2.2.2.2.2
    · have a : mi 123 f = nI s := a
      rw [es] at a
      simp only [if_pos (iEQ a)] at hQ
      exact hQ _ hA1 lo1
  · subst e
    have hn : ixo y 512 = none := hno.elim (fun h => ixo_neg h) (fun h => ixo_big (n := 511) (by omega) h)
    rw [ixo_some (n := flA A) hf (by unfold flA; omega), hn] at hQ
    exact hQ _ hA1 lo1
  · rw [ixo_none (n := flA A) hno] at hQ
    exact hQ _ hA1 lo1
end
