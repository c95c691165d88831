/-! WHAT THE REFERENCE ANSWERS: undo, keep, back, notes, counts -/
section
variable {d : Nat} {Q : Option Value → Mm → Prop} {A : St} {S : Nat → Nat → Nat} {mi : Nat → Nat → Int32} {ml : Nat → Nat → Int64} {rd : Option Nat} {x y z : Int32}
theorem q_undo (hA : MI A mi ml) (hw : wfA A) (hQ : ∀ mi', MI (aUndo A).2 mi' ml → Lo mi mi' → Q (some (.int (aUndo A).1)) (mi', ml, R0 rd, 136)) : Cd (d + 2) k_Mod_undo [.ref 95] (mi, ml, R0 rd, 136) Q := by
  have hA1 := hA.mf thr0 ML.none
  have lo1 : Lo mi (cu mi 95 (upd (mi 95) 2 (nI 0))) := Lo.none.cu (by decide)
  have h20 := hw.n
  have e0 : mi 95 94 = nI (A 4 0 0) := hA.P.1
  unfold aUndo at hQ
  refine r_Mod_undo (by decide) (fun K Kl hK hC => ⟨fun a => ?_, fun a => ⟨rfl, ?_⟩⟩)
  · have a : ¬ mi 95 94 = 0 := a
    rw [e0] at a
    have a := iNZ a
    rw [if_neg a] at hQ
    have e1 : mi 95 94 - nI 1 = nI (A 4 0 0 - 1) := by rw [e0, pk_sub (by omega)]
    have call : ∀ P1 : Option Value → Mm → Prop, (∀ g h : Nat → Int32, (∀ f, f < 48 → g f = nI (A 3 (A 4 0 0 - 1) f)) → (∀ k, k ≠ 70 → k ≠ 71 → h k = upd (upd (mi 95) 2 (nI 0)) 94 (mi 95 94 - nI 1) k) → h 70 = nI (A 3 (A 4 0 0 - 1) 48) → h 71 = nI (A 3 (A 4 0 0 - 1) 49) → P1 none (cu (cu (cu (cu mi 95 (upd (mi 95) 2 (nI 0))) 95 (upd (upd (mi 95) 2 (nI 0)) 94 (mi 95 94 - nI 1))) 123 g) 95 h, ml, R0 rd, 136)) → Cd (d + 1) k_Mod_take [.ref 95, .ref 132, .int (nI 50 * (mi 95 94 - nI 1))] (cu (cu mi 95 (upd (mi 95) 2 (nI 0))) 95 (upd (upd (mi 95) 2 (nI 0)) 94 (mi 95 94 - nI 1)), ml, R0 rd, 136) P1 := by
      intro P1 hP1
      exact t_take (mi := cu (cu mi 95 (upd (mi 95) 2 (nI 0))) 95 (upd (upd (mi 95) 2 (nI 0)) 94 (mi 95 94 - nI 1))) (c := 132) (L := 1000) (a := 50 * (A 4 0 0 - 1)) (R := A 3 (A 4 0 0 - 1)) (Or.inl ⟨rfl, rfl⟩) (by omega) (show nI 50 * (mi 95 94 - nI 1) = _ by rw [e1, pk_mul]) (fun i hi => hA.P.2 (A 4 0 0 - 1) (by omega) i hi) hP1
    refine hC _ _ _ _ (call _ (fun g h k1 k3 h70 h71 => ⟨rfl, ?_⟩))
    have h94 : h 94 = nI (A 4 0 0 - 1) := (k3 94 (by decide) (by decide)).trans e1
    have hq := hQ (cu (cu (cu (cu mi 95 (upd (mi 95) 2 (nI 0))) 95 (upd (upd (mi 95) 2 (nI 0)) 94 (mi 95 94 - nI 1))) 123 g) 95 h) (hA.sp (fun c hc => ?_) (fun k a1 a2 a3 a4 => ?_) rfl rfl rfl rfl rfl rfl rfl rfl rfl ⟨fun i hi => ?_, hA.S.2.1, h70, hA.S.2.2.2.1, h71, hA.S.2.2.2.2.2⟩ ⟨h94, fun r hr i hi => hA.P.2 r (Nat.lt_of_lt_of_le hr (Nat.sub_le _ _)) i hi⟩) (((lo1.cu (by decide)).cu (by decide)).cu (by decide))
    · rw [← h94] at hq
      exact hq
    · rw [cu_ne (by omega), cu_ne (by omega), cu_ne (by omega), cu_ne (by omega)]
    · show h k = mi 95 k
      rw [k3 k a1 a2, pk_un a3, pk_un (k2 a4)]
    · show g i = nI (if i < 48 then A 3 (A 4 0 0 - 1) i else 0)
      rw [if_pos hi]
      exact k1 i hi
  · have a : mi 95 94 = 0 := a
    rw [e0] at a
    rw [if_pos (iZ a)] at hQ
    exact hQ _ hA1 lo1
theorem MI.nt {N : Nat → Nat → Nat} {m2 : Nat → Nat → Int32} (hA : MI A mi ml) (hc : ∀ c, (95 < c ∧ c < 119) ∨ (122 < c ∧ c < 126) ∨ (131 < c ∧ c < 135) → m2 c = mi c) (h95 : ∀ k, k ≠ 88 → k ≠ 89 → scF k = false → m2 95 k = mi 95 k) (hN : MN N m2) : MI (cu A 2 N) m2 ml := by
  refine ⟨hA.T.h (fun k h1 h2 => h95 k (by omega) (by omega) (by
      have : ∀ k, k < 23 → 12 ≤ k → scF k = false := by decide
      exact this k (by omega) h1)) (fun c h1 h2 => hc c (by omega)), hA.K.h (fun c h1 h2 => hc c (by omega)), ?_, hN, ?_, ⟨?_, fun z => (hA.I.2 z).h (hc 133 (by decide)) (hc 134 (by decide)) (h95 98 (by decide) (by decide) rfl) rfl⟩, ⟨?_, ?_⟩, ⟨?_, ?_⟩, ⟨?_, ?_⟩, ?_⟩
  · have := hA.S
    unfold MS at this ⊢
    rw [hc 123 (by decide), hc 124 (by decide), hc 125 (by decide), h95 70 (by decide) (by decide) rfl, h95 71 (by decide) (by decide) rfl]
    exact this
  · have := hA.P
    unfold MPa at this ⊢
    rw [hc 132 (by decide), h95 94 (by decide) (by decide) rfl]
    exact this
  · rw [h95 96 (by decide) (by decide) rfl]; exact hA.I.1
  · rw [h95 1 (by decide) (by decide) rfl]; exact hA.b.1
  · rw [hc 96 (by decide)]; exact hA.b.2
  · rw [h95 4 (by decide) (by decide) rfl]; exact hA.q.1
  · rw [h95 5 (by decide) (by decide) rfl]; exact hA.q.2
  · rw [h95 75 (by decide) (by decide) rfl]; exact hA.f.1
  · rw [h95 76 (by decide) (by decide) rfl]; exact hA.f.2
  · rw [hc 97 (by decide)]; exact hA.w
theorem q_note (hA : MI A mi ml) (hw : wfA A) (hQ : ∀ mi', MI (aNote A x y z).2 mi' ml → Lo mi mi' → Q (some (.int (aNote A x y z).1)) (mi', ml, R0 rd, 136)) : Cd (d + 3) k_Mod_note [.ref 95, .int x, .int y, .int z] (mi, ml, R0 rd, 136) Q := by
  have hA1 := hA.mf thr0 ML.none
  have lo1 : Lo mi (cu mi 95 (upd (mi 95) 2 (nI 0))) := Lo.none.cu (by decide)
  have e0 : mi 95 88 = nI (A 2 0 0) := hA.N.1
  have h24 := hw.w
  have hfl := hw.T.fl
  have h3 := hw.T.hl3
  have hQ0 := hQ
  unfold aNote at hQ
  refine r_Mod_note (by decide) (fun K Kl hK hC => ⟨fun a => ⟨rfl, ?_⟩, fun a => hC _ _ _ _ (t_isHill hA1.T hw.T (fun h hh e => ⟨fun a => absurd a (by decide), fun _ => hC _ _ _ _ (t_isField hA1.T hw.T (fun f hf e2 => ⟨fun a => absurd a (by decide), fun _ => hC _ _ _ _ (t_isIn (fun h1 h2 => ⟨fun _ => ?_, fun a => absurd a (by decide)⟩) (fun hno => ⟨fun a => absurd (by decide) a, fun _ => ⟨rfl, ?_⟩⟩))⟩) (fun hno => ⟨fun _ => ⟨rfl, ?_⟩, fun a => absurd (by decide) a⟩))⟩) (fun hno => ⟨fun _ => ⟨rfl, ?_⟩, fun a => absurd (by decide) a⟩))⟩)
  · have a : mi 95 88 = nI 24 := a
    rw [e0] at a
    have a := iEQ a
    have this : aNote A x y z = (-1, A) := by
      unfold aNote
      split
      · rw [if_pos (by omega)]
      · rfl
    rw [this] at hQ0
    exact hQ0 _ hA1 lo1
  · subst e; subst e2
    have a : ¬ mi 95 88 = nI 24 := a
    rw [e0] at a
    have a := iNE a
    obtain ⟨c, hc, rfl, he⟩ := ixo_rg (n := 26) (by omega) h1 h2
    rw [ixo_some hh, ixo_some (n := flA A) hf (by unfold flA; omega), he] at hQ
    simp only [if_neg (show ¬ 24 ≤ A 2 0 0 by omega)] at hQ
    refine hC _ _ _ _ (t_noted hA1.N (by omega) (a := h + 1) (b := f) (c := c) (nI_pred h).symm (fun _ => rfl) rfl (fun g h2 hh2 hN => ⟨rfl, hQ _ (hA.nt (fun c2 hc2 => ?_) (fun k a1 a2 a3 => ?_) hN) ((lo1.cu (by decide)).cu (by decide))⟩))
    · rw [cu_ne (by omega), cu_ne (by omega), cu_ne (by omega)]
    · rw [cu_self, hh2 k a1, cu_self, pk_un (k2 a3)]
  · subst e; subst e2
    have hn : ixo z 27 = none := hno.elim (fun h => ixo_neg h) (fun h => ixo_big (n := 26) (by omega) h)
    rw [ixo_some hh, ixo_some (n := flA A) hf (by unfold flA; omega), hn] at hQ
    exact hQ _ hA1 lo1
  · subst e
    rw [ixo_some hh, ixo_none (n := flA A) hno] at hQ
    exact hQ _ hA1 lo1
  · rw [ixo_none hno] at hQ
    exact hQ _ hA1 lo1
theorem q_strike (hA : MI A mi ml) (hw : wfA A) (hQ : ∀ mi', MI (aStrike A x).2 mi' ml → Lo mi mi' → Q (some (.int (aStrike A x).1)) (mi', ml, R0 rd, 136)) : Cd (d + 2) k_Mod_strike [.ref 95, .int x] (mi, ml, R0 rd, 136) Q := by
  have hA1 := hA.mf thr0 ML.none
  have lo1 : Lo mi (cu mi 95 (upd (mi 95) 2 (nI 0))) := Lo.none.cu (by decide)
  have e0 : mi 95 88 = nI (A 2 0 0) := hA.N.1
  have h24 := hw.w
  have hQ0 := hQ
  unfold aStrike at hQ
  refine r_Mod_strike (by decide) (fun K Kl hK hC => ⟨fun a => ⟨rfl, ?_⟩, fun a => ⟨fun b => ⟨rfl, ?_⟩, fun b => ⟨fun c => ?_, fun c => ⟨rfl, ?_⟩⟩⟩⟩)
  · have a : mi 95 88 = nI 24 := a
    rw [e0] at a
    have a := iEQ a
    have this : aStrike A x = (-1, A) := by
      unfold aStrike
      split
      · rw [if_pos (by omega)]
      · rfl
    rw [this] at hQ0
    exact hQ0 _ hA1 lo1
  · rw [ixo_neg b] at hQ
    exact hQ _ hA1 lo1
  · have a : ¬ mi 95 88 = nI 24 := a
    rw [e0] at a
    have a := iNE a
    have c : x < mi 95 88 := c
    rw [e0] at c
    obtain ⟨k, hk, rfl⟩ := nI_of b
    have c := iLT c
    rw [ixo_some c] at hQ
    simp only [if_neg (show ¬ 24 ≤ A 2 0 0 by omega)] at hQ
    refine hC _ _ _ _ (t_noted hA1.N (by omega) (a := 0) (b := 0) (c := k) (by decide) (fun z => absurd rfl z) rfl (fun g h2 hh2 hN => ⟨rfl, hQ _ (hA.nt (fun c2 hc2 => ?_) (fun k a1 a2 a3 => ?_) hN) ((lo1.cu (by decide)).cu (by decide))⟩))
    · rw [cu_ne (by omega), cu_ne (by omega), cu_ne (by omega)]
    · rw [cu_self, hh2 k a1, cu_self, pk_un (k2 a3)]
  · have c : ¬ x < mi 95 88 := c
    rw [e0] at c
    rw [ixo_ge (by omega) (Int32.not_lt.mp c)] at hQ
    exact hQ _ hA1 lo1
theorem MN.kn {N : Nat → Nat → Nat} {v : Nat} {X : Int32} (h : MN N mi) (hX : X = nI v - 1) : MN (knN N v) (cu (cu mi 95 (upd (mi 95) 2 (nI 0))) 95 (upd (upd (mi 95) 2 (nI 0)) 89 X)) := ⟨h.1, hX, h.2.2⟩
theorem q_known (hA : MI A mi ml) (hw : wfA A) (hQ : ∀ mi', MI (aKnown A x).2 mi' ml → Lo mi mi' → Q (some (.int (aKnown A x).1)) (mi', ml, R0 rd, 136)) : Cd (d + 2) k_Mod_known [.ref 95, .int x] (mi, ml, R0 rd, 136) Q := by
  have hA1 := hA.mf thr0 ML.none
  have lo1 : Lo mi (cu mi 95 (upd (mi 95) 2 (nI 0))) := Lo.none.cu (by decide)
  have e0 : mi 95 88 = nI (A 2 0 0) := hA.N.1
  have h24 := hw.w
  have fin : ∀ v X, X = nI v - 1 → MI (cu A 2 (knN (A 2) v)) (cu (cu mi 95 (upd (mi 95) 2 (nI 0))) 95 (upd (upd (mi 95) 2 (nI 0)) 89 X)) ml := fun v X hX => hA.nt (fun c hc => by rw [cu_ne (by omega), cu_ne (by omega)]) (fun k a1 a2 a3 => by rw [cu_self, pk_un a2, pk_un (k2 a3)]) (hA.N.kn hX)
  have hQ0 := hQ
  unfold aKnown at hQ
  refine r_Mod_known (by decide) (fun K Kl hK hC => hC _ _ _ _ (t_isIn (fun h1 h2 => ⟨fun _ => ⟨Or.inr rfl, rfl, ?_⟩, fun a => absurd a (by decide)⟩) (fun hno => ⟨fun a => absurd (by decide) a, fun _ => ⟨Or.inl rfl, rfl, ?_⟩⟩)))
  · have h2 : ¬ mi 95 88 < x := h2
    rw [e0] at h2
    by_cases hx : x = -1
    · rw [if_pos hx] at hQ
      exact hQ _ (fin 0 x (by rw [hx]; decide)) (lo1.cu (by decide))
    · rw [if_neg hx] at hQ
      have h0 : ¬ x < 0 := fun z => by
        have h3 := Int32.not_lt.mp h1
        have h4 : x.toInt < 0 := Int32.lt_iff_toInt_lt.mp z
        have h5 : (-1 : Int32).toInt ≤ x.toInt := Int32.le_iff_toInt_le.mp h3
        have h6 : (-1 : Int32).toInt = -1 := by decide
        refine hx (Int32.toInt_inj.mp ?_)
        omega
      obtain ⟨n, hn, rfl⟩ := nI_of h0
      have h2 := iNLT h2
      rw [ixo_some (n := A 2 0 0 + 1) (by omega)] at hQ
      exact hQ _ (fin (n + 1) (nI n) (nI_pred n).symm) (lo1.cu (by decide))
  · have this : aKnown A x = (nI 0, A) := by
      unfold aKnown
      rcases hno with h | h
      · rw [if_neg (fun e => by rw [e] at h; exact absurd h (by decide)), ixo_neg (Int32.lt_trans h (by decide))]
      · have h : mi 95 88 < x := h
        rw [e0] at h
        have h0 : ¬ x < 0 := fun z => iNN (Int32.lt_trans h z)
        rw [if_neg (fun e => h0 (by rw [e]; decide)), ixo_big (by omega) h]
    rw [this] at hQ0
    exact hQ0 _ hA1 lo1
set_option maxHeartbeats 2000000 in
theorem q_count (hA : MI A mi ml) (hw : wfA A) (hQ : ∀ mi' ml', MF mi mi' → ML ml ml' → Q (some (.int (aCount A x))) (mi', ml', R0 rd, 136)) : Cd (d + 3) k_Mod_count [.ref 95, .int x] (mi, ml, R0 rd, 136) Q := by
  have hQ := hQ _ ml thr0 ML.none
  have hA1 := hA.mf thr0 ML.none
  unfold aCount at hQ
  refine r_Mod_count (by decide) (fun K Kl hK hC => ?_)
  refine ⟨fun h0 => ⟨rfl, ?_⟩, fun h0 => swP_c (fun h1 => ⟨rfl, ?_⟩) (fun h1 => swP_c (fun h2 => ⟨rfl, ?_⟩) (fun h2 => swP_c (fun h3 => ⟨rfl, ?_⟩) (fun h3 => swP_c (fun h4 => ⟨rfl, ?_⟩) (fun h4 => swP_c (fun h5 => ⟨rfl, ?_⟩) (fun h5 => swP_c (fun h6 => ⟨rfl, ?_⟩) (fun h6 => swP_c (fun h7 => ⟨0, by decide, rfl, rfl, ?_⟩) (fun h7 => swP_c (fun h8 => ⟨rfl, ?_⟩) (fun h8 => swP_c (fun h9 => ?_) (fun h9 => swP_c (fun h10 => ⟨rfl, ?_⟩) (fun h10 => swP_c (fun h11 => ?_) (fun h11 => swP_c (fun h12 => ⟨rfl, ?_⟩) (fun h12 => swP_c (fun h13 => ⟨rfl, ?_⟩) (fun h13 => swP_c (fun h14 => ⟨rfl, ?_⟩) (fun h14 => swP_c (fun h15 => ⟨rfl, ?_⟩) (fun h15 => swP_c (fun h16 => ⟨rfl, ?_⟩) (fun h16 => swP_n ⟨rfl, ?_⟩))))))))))))))))⟩
  · rw [h0, ixo_some (j := 0) (by decide)] at hQ
    have hQ : Q (some (.int (nI (A 0 0 0)))) (cu mi 95 (upd (mi 95) 2 (nI 0)), ml, R0 rd, 136) := hQ
    rw [← hA1.T.wide] at hQ
    exact hQ
  · rw [h1, ixo_some (j := 1) (by decide)] at hQ
    have hQ : Q (some (.int (nI (A 0 0 1)))) (cu mi 95 (upd (mi 95) 2 (nI 0)), ml, R0 rd, 136) := hQ
    rw [← hA1.T.high] at hQ
    exact hQ
  · rw [h2, ixo_some (j := 2) (by decide)] at hQ
    have hQ : Q (some (.int (nI (A 0 0 2)))) (cu mi 95 (upd (mi 95) 2 (nI 0)), ml, R0 rd, 136) := hQ
    rw [← hA1.T.owners] at hQ
    exact hQ
  · rw [h3, ixo_some (j := 3) (by decide)] at hQ
    have hQ : Q (some (.int (nI (A 0 0 3)))) (cu mi 95 (upd (mi 95) 2 (nI 0)), ml, R0 rd, 136) := hQ
    rw [← hA1.T.glyphs] at hQ
    exact hQ
  · rw [h4, ixo_some (j := 4) (by decide)] at hQ
    have hQ : Q (some (.int (nI (A 0 0 4)))) (cu mi 95 (upd (mi 95) 2 (nI 0)), ml, R0 rd, 136) := hQ
    rw [← hA1.T.words] at hQ
    exact hQ
  · rw [h5, ixo_some (j := 5) (by decide)] at hQ
    have hQ : Q (some (.int (nI (A 0 0 5)))) (cu mi 95 (upd (mi 95) 2 (nI 0)), ml, R0 rd, 136) := hQ
    rw [← hA1.T.hills] at hQ
    exact hQ
  · rw [h6, ixo_some (j := 6) (by decide)] at hQ
    have hQ : Q (some (.int (nI (A 0 0 9)))) (cu mi 95 (upd (mi 95) 2 (nI 0)), ml, R0 rd, 136) := hQ
    rw [← hA1.T.knots] at hQ
    exact hQ
  · rw [h7, ixo_some (j := 7) (by decide)] at hQ
    have hQ : Q (some (.int (nI (A 1 0 0)))) (cu mi 95 (upd (mi 95) 2 (nI 0)), ml, R0 rd, 136) := hQ
    rw [← hA1.S.2.1] at hQ
    exact hQ
  · rw [h8, ixo_some (j := 8) (by decide)] at hQ
    have hQ : Q (some (.int (nI (A 1 0 1)))) (cu mi 95 (upd (mi 95) 2 (nI 0)), ml, R0 rd, 136) := hQ
    rw [← hA1.S.2.2.1] at hQ
    exact hQ
  · rw [h9, ixo_some (j := 9) (by decide)] at hQ
    have hQ : Q (some (.int (nI (stkAll (A 1 1))))) (cu mi 95 (upd (mi 95) 2 (nI 0)), ml, R0 rd, 136) := hQ
    exact hC _ _ _ _ (t_stacksOf (b := 0) hA1.T hw.T (by omega) hw.S (hA1.S.s0 hw.S) ⟨rfl, hQ⟩)
  · rw [h10, ixo_some (j := 10) (by decide)] at hQ
    have hQ : Q (some (.int (nI (A 2 0 0)))) (cu mi 95 (upd (mi 95) 2 (nI 0)), ml, R0 rd, 136) := hQ
    rw [← hA1.N.1] at hQ
    exact hQ
  · rw [h11, ixo_some (j := 11) (by decide)] at hQ
    have hQ : Q (some (.int (nI (knM (A 2))))) (cu mi 95 (upd (mi 95) 2 (nI 0)), ml, R0 rd, 136) := hQ
    exact hC _ _ _ _ (t_knownBy hA1.N hw.w hw.w1 ⟨rfl, hQ⟩)
  · rw [h12, ixo_some (j := 12) (by decide)] at hQ
    have hQ : Q (some (.int (nI (A 4 0 0)))) (cu mi 95 (upd (mi 95) 2 (nI 0)), ml, R0 rd, 136) := hQ
    rw [← hA1.P.1] at hQ
    exact hQ
  · rw [h13, ixo_some (j := 13) (by decide)] at hQ
    have hQ : Q (some (.int (nI (A 0 0 6)))) (cu mi 95 (upd (mi 95) 2 (nI 0)), ml, R0 rd, 136) := hQ
    rw [← hA1.T.colours] at hQ
    exact hQ
  · rw [h14, ixo_some (j := 14) (by decide)] at hQ
    have hQ : Q (some (.int (nI (A 0 0 7)))) (cu mi 95 (upd (mi 95) 2 (nI 0)), ml, R0 rd, 136) := hQ
    rw [← hA1.T.signs] at hQ
    exact hQ
  · rw [h15, ixo_some (j := 15) (by decide)] at hQ
    have hQ : Q (some (.int (nI (A 0 0 8)))) (cu mi 95 (upd (mi 95) 2 (nI 0)), ml, R0 rd, 136) := hQ
    rw [← hA1.T.links] at hQ
    exact hQ
  · rw [h16, ixo_some (j := 16) (by decide)] at hQ
    have hQ : Q (some (.int (nI (A 1 0 3)))) (cu mi 95 (upd (mi 95) 2 (nI 0)), ml, R0 rd, 136) := hQ
    rw [← hA1.S.2.2.2.2.1] at hQ
    exact hQ
  · rw [ixo_none (fun j hj e => by
      have : j = 0 ∨ j = 1 ∨ j = 2 ∨ j = 3 ∨ j = 4 ∨ j = 5 ∨ j = 6 ∨ j = 7 ∨ j = 8 ∨ j = 9 ∨ j = 10 ∨ j = 11 ∨ j = 12 ∨ j = 13 ∨ j = 14 ∨ j = 15 ∨ j = 16 := by omega
      rcases this with rfl | rfl | rfl | rfl | rfl | rfl | rfl | rfl | rfl | rfl | rfl | rfl | rfl | rfl | rfl | rfl | rfl
      · exact h0 e
      · exact h1 e
      · exact h2 e
      · exact h3 e
      · exact h4 e
      · exact h5 e
      · exact h6 e
      · exact h7 e
      · exact h8 e
      · exact h9 e
      · exact h10 e
      · exact h11 e
      · exact h12 e
      · exact h13 e
      · exact h14 e
      · exact h15 e
      · exact h16 e)] at hQ
    exact hQ
end
