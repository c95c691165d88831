/-! WHAT THE REFERENCE ANSWERS: hang, lower, pieces, wants -/
section
variable {d : Nat} {Q : Option Value → Mm → Prop} {A : St} {T S : Nat → Nat → Nat} {mi : Nat → Nat → Int32} {ml : Nat → Nat → Int64} {rd : Option Nat} {x y z : Int32}
set_option maxHeartbeats 1000000 in
theorem q_hang (hA : MI A mi ml) (hw : wfA A) (hQ : ∀ mi', MI (aHang A x).2 mi' ml → Lo mi mi' → Q (some (.int (aHang A x).1)) (mi', ml, R0 rd, 136)) : Cd (d + 3) k_Mod_hang [.ref 95, .int x] (mi, ml, R0 rd, 136) Q := by
  have hA1 := hA.mf thr0 ML.none
  have lo1 : Lo mi (cu mi 95 (upd (mi 95) 2 (nI 0))) := Lo.none.cu (by decide)
  have h5 := hw.T.sg5
  have h4 := hw.T.co4
  have h32 := hw.S.hu
  have eh : mi 95 71 = nI (A 1 0 3) := hA.S.2.2.2.2.1
  have ec : mi 95 18 = nI (A 0 0 6) := hA.T.colours
  unfold aHang at hQ
  have lp : ∀ s, s < A 0 0 7 → A 1 0 3 / 2 ^ s % 2 = 0 → (∀ mi', MI (if hpN (A 0) (A 1 0 3 + 2 ^ s) = true then (nI (bcN (A 1 0 3 + 2 ^ s)), cu (rmA A) 1 (sF (A 1) 3 (A 1 0 3 + 2 ^ s))) else (-2, A)).2 mi' ml → Lo mi mi' → Q (some (.int (if hpN (A 0) (A 1 0 3 + 2 ^ s) = true then ((nI (bcN (A 1 0 3 + 2 ^ s)), cu (rmA A) 1 (sF (A 1) 3 (A 1 0 3 + 2 ^ s))) : Int32 × St) else (-2, A)).1)) (mi', ml, R0 rd, 136)) → ∀ j, j ≤ A 0 0 6 → (∀ i, i < j → decide (ndN (A 0) (A 1 0 3 + 2 ^ s) i ≤ A 0 12 i) = true) → GoM (d + 2) k_Mod_hang 136 Q 37 [.ref 95, .int (nI s), .int (nI (A 1 0 3 + 2 ^ s)), .int (nI j)] [] (cu mi 95 (upd (mi 95) 2 (nI 0)), ml, R0 rd, 136) := by
    intro s hs hb hQ
    have hg := hgB s (by omega) _ h32 hb
    refine upto ?_ ?_
    · intro hall
      rw [if_pos (show hpN (A 0) (A 1 0 3 + 2 ^ s) = true from allN_iff.mpr hall)] at hQ
      refine g_Mod_hang (fun K Kl hK hC => ⟨fun _ => hC _ _ _ _ (t_remember hA1.S hA1.P hw.n (fun g h hh hP => hC _ _ _ _ (t_manyOf (s := A 1 0 3 + 2 ^ s) (by omega) ⟨rfl, hQ _ (hA.sp (fun c hc => by rw [cu_ne (by omega), cu_ne (by omega), cu_ne (by omega), cu_ne (by omega)]) (fun k a1 a2 a3 a4 => by
          show upd h 71 (nI (A 1 0 3 + 2 ^ s)) k = mi 95 k
          rw [pk_un a2, hh k a3, cu_self, pk_un (k2 a4)]) rfl rfl rfl rfl rfl rfl rfl rfl rfl ⟨hA.S.1, hA.S.2.1, ?_, hA.S.2.2.2.1, rfl, hA.S.2.2.2.2.2⟩ hP) (((lo1.cu (by decide)).cu (by decide)).cu (by decide))⟩))), fun z => ?_⟩)
      · show h 70 = _
        rw [hh 70 (by decide)]
        exact hA.S.2.2.1
      · have z : ¬ mi 95 18 ≤ nI (A 0 0 6) := z
        rw [ec] at z
        exact absurd (iNLE z) (by omega)
    · intro j hj ih hall
      have hn := ndN_le hw.T (A 1 0 3 + 2 ^ s) j
      have h9 := hw.T.cm j hj
      have em : mi 111 j = nI (A 0 12 j) := hA.T.cm j hj
      refine g_Mod_hang (fun K Kl hK hC => ⟨fun z => ?_, fun _ => hC _ _ _ _ (t_usedOf hA1.T hw.T (by omega) (by omega) ⟨j, by omega, rfl, fun z => ?_, fun z => ⟨rfl, ?_⟩⟩)⟩)
      · have z : mi 95 18 ≤ nI j := z
        rw [ec] at z
        exact absurd (iLE z) (by omega)
      · have z : nI (ndN (A 0) (A 1 0 3 + 2 ^ s) j) ≤ mi 111 j := z
        rw [em] at z
        have z := iLE z
        have ih := ih (fun i hi => by
          by_cases e : i = j
          · rw [e]; exact decide_eq_true z
          · exact hall i (by omega))
        rw [nI1 j] at ih
        exact hK _ _ _ _ ih
      · have z : ¬ nI (ndN (A 0) (A 1 0 3 + 2 ^ s) j) ≤ mi 111 j := z
        rw [em] at z
        have z := iNLE z
        rw [if_neg (show ¬ hpN (A 0) (A 1 0 3 + 2 ^ s) = true from fun q => absurd (of_decide_eq_true (allN_iff.mp q j hj)) (by omega))] at hQ
        exact hQ _ hA1 lo1
  refine r_Mod_hang (by decide) (fun K Kl hK hC => hC _ _ _ _ (t_isRow hA1.T hw.T (fun s hs e => ⟨fun z => absurd z (by decide), fun _ => ?_⟩) (fun hno => ⟨fun _ => ⟨rfl, ?_⟩, fun z => absurd (by decide) z⟩)))
  · subst e
    rw [ixo_some hs] at hQ
    have call : ∀ P : Option Value → Mm → Prop, (A 1 0 3 / 2 ^ s % 2 = 1 → P (some (.int (nI 1))) (cu mi 95 (upd (mi 95) 2 (nI 0)), ml, R0 rd, 136)) → (A 1 0 3 / 2 ^ s % 2 = 0 → P (some (.int (nI 0))) (cu mi 95 (upd (mi 95) 2 (nI 0)), ml, R0 rd, 136)) → Cd (d + 2) k_Mod_isOf [.int (mi 95 71), .int (nI s)] (cu mi 95 (upd (mi 95) 2 (nI 0)), ml, R0 rd, 136) P := by
      intro P q1 q0
      rw [eh]
      exact t_isOf (by omega) (by omega) q1 q0
    refine hC _ _ _ _ (call _ (fun hb => ⟨fun z => absurd z (by decide), fun _ => ⟨rfl, ?_⟩⟩) (fun hb => ⟨fun _ => ?_, fun z => absurd (by decide) z⟩))
    · simp only [if_pos hb] at hQ
      exact hQ _ hA1 lo1
    · simp only [if_neg (show ¬ A 1 0 3 / 2 ^ s % 2 = 1 by omega)] at hQ
      have l0 := lp s hs hb hQ 0 (Nat.zero_le _) lt_0
      rw [← (hgB s (by omega) _ h32 hb).1, ← eh] at l0
      exact hK _ _ _ _ l0
  · rw [ixo_none hno] at hQ
    exact hQ _ hA1 lo1
set_option maxHeartbeats 1000000 in
theorem q_lower (hA : MI A mi ml) (hw : wfA A) (hQ : ∀ mi', MI (aLower A x).2 mi' ml → Lo mi mi' → Q (some (.int (aLower A x).1)) (mi', ml, R0 rd, 136)) : Cd (d + 3) k_Mod_lower [.ref 95, .int x] (mi, ml, R0 rd, 136) Q := by
  have hA1 := hA.mf thr0 ML.none
  have lo1 : Lo mi (cu mi 95 (upd (mi 95) 2 (nI 0))) := Lo.none.cu (by decide)
  have h5 := hw.T.sg5
  have h32 := hw.S.hu
  have eh : mi 95 71 = nI (A 1 0 3) := hA.S.2.2.2.2.1
  unfold aLower at hQ
  refine r_Mod_lower (by decide) (fun K Kl hK hC => hC _ _ _ _ (t_isRow hA1.T hw.T (fun s hs e => ⟨fun z => absurd z (by decide), fun _ => ?_⟩) (fun hno => ⟨fun _ => ⟨rfl, ?_⟩, fun z => absurd (by decide) z⟩)))
  · subst e
    rw [ixo_some hs] at hQ
    have call : ∀ P : Option Value → Mm → Prop, (A 1 0 3 / 2 ^ s % 2 = 1 → P (some (.int (nI 1))) (cu mi 95 (upd (mi 95) 2 (nI 0)), ml, R0 rd, 136)) → (A 1 0 3 / 2 ^ s % 2 = 0 → P (some (.int (nI 0))) (cu mi 95 (upd (mi 95) 2 (nI 0)), ml, R0 rd, 136)) → Cd (d + 2) k_Mod_isOf [.int (mi 95 71), .int (nI s)] (cu mi 95 (upd (mi 95) 2 (nI 0)), ml, R0 rd, 136) P := by
      intro P q1 q0
      rw [eh]
      exact t_isOf (by omega) (by omega) q1 q0
    refine hC _ _ _ _ (call _ (fun hb => ⟨fun _ => ?_, fun z => absurd z (by decide)⟩) (fun hb => ⟨fun z => absurd (by decide) z, fun _ => ⟨rfl, ?_⟩⟩))
    · simp only [if_pos hb] at hQ
      refine hC _ _ _ _ (t_remember hA1.S hA1.P hw.n (fun g h hh hP => ?_))
      have e71 : h 71 = nI (A 1 0 3) := (hh 71 (by decide)).trans eh
      have e4 : h 71 ^^^ (nI 1 <<< (nI s &&& 31)) = nI (A 1 0 3 - 2 ^ s) := by rw [e71]; exact lwX s (by omega) _ h32 hb
      have call2 : ∀ P : Option Value → Mm → Prop, P (some (.int (nI (bcN (A 1 0 3 - 2 ^ s))))) (cu (cu (cu (cu mi 95 (upd (mi 95) 2 (nI 0))) 132 g) 95 h) 95 (upd h 71 (h 71 ^^^ (nI 1 <<< (nI s &&& 31)))), ml, R0 rd, 136) → Cd (d + 2) k_Mod_manyOf [.int (h 71 ^^^ (nI 1 <<< (nI s &&& 31)))] (cu (cu (cu (cu mi 95 (upd (mi 95) 2 (nI 0))) 132 g) 95 h) 95 (upd h 71 (h 71 ^^^ (nI 1 <<< (nI s &&& 31)))), ml, R0 rd, 136) P := by
        intro P hP2
        have := t_manyOf (d := d + 1) (s := A 1 0 3 - 2 ^ s) (mi := cu (cu (cu (cu mi 95 (upd (mi 95) 2 (nI 0))) 132 g) 95 h) 95 (upd h 71 (h 71 ^^^ (nI 1 <<< (nI s &&& 31))))) (ml := ml) (rd := rd) (Q := P) (Nat.lt_of_le_of_lt (Nat.sub_le _ _) (by omega)) hP2
        rw [← e4] at this
        exact this
      refine hC _ _ _ _ (call2 _ ⟨rfl, hQ _ (hA.sp (fun c hc => by rw [cu_ne (by omega), cu_ne (by omega), cu_ne (by omega), cu_ne (by omega)]) (fun k a1 a2 a3 a4 => by
          show upd h 71 (h 71 ^^^ (nI 1 <<< (nI s &&& 31))) k = mi 95 k
          rw [pk_un a2, hh k a3, cu_self, pk_un (k2 a4)]) rfl rfl rfl rfl rfl rfl rfl rfl rfl ⟨hA.S.1, hA.S.2.1, ?_, hA.S.2.2.2.1, e4, hA.S.2.2.2.2.2⟩ hP) (((lo1.cu (by decide)).cu (by decide)).cu (by decide))⟩)
      show h 70 = _
      rw [hh 70 (by decide)]
      exact hA.S.2.2.1
    · simp only [if_neg (show ¬ A 1 0 3 / 2 ^ s % 2 = 1 by omega)] at hQ
      exact hQ _ hA1 lo1
  · rw [ixo_none hno] at hQ
    exact hQ _ hA1 lo1
theorem q_pieces (hA : MI A mi ml) (hw : wfA A) (hQ : ∀ mi' ml', MF mi mi' → ML ml ml' → Q (some (.int (aPieces A x))) (mi', ml', R0 rd, 136)) : Cd (d + 3) k_Mod_pieces [.ref 95, .int x] (mi, ml, R0 rd, 136) Q := by
  have hQ := hQ _ ml thr0 ML.none
  have hA1 := hA.mf thr0 ML.none
  have h4 := hw.T.co4
  have h32 := hw.S.hu
  have eh : mi 95 71 = nI (A 1 0 3) := hA.S.2.2.2.2.1
  have ec : mi 95 18 = nI (A 0 0 6) := hA.T.colours
  unfold aPieces at hQ
  refine r_Mod_pieces (by decide) (fun K Kl hK hC => ⟨fun a => ⟨rfl, ?_⟩, fun a => ⟨fun b => ?_, fun b => ⟨rfl, ?_⟩⟩⟩)
  · rw [ixo_neg a] at hQ
    exact hQ
  · obtain ⟨c, hc, rfl⟩ := nI_of a
    have b : nI c < mi 95 18 := b
    rw [ec] at b
    have b := iLT b
    rw [ixo_some b] at hQ
    have em : mi 111 c = nI (A 0 12 c) := hA.T.cm c b
    have call : ∀ P : Option Value → Mm → Prop, P (some (.int (nI (ndN (A 0) (A 1 0 3) c)))) (cu mi 95 (upd (mi 95) 2 (nI 0)), ml, R0 rd, 136) → Cd (d + 2) k_Mod_usedOf [.ref 95, .int (mi 95 71), .int (nI c)] (cu mi 95 (upd (mi 95) 2 (nI 0)), ml, R0 rd, 136) P := by
      intro P q
      rw [eh]
      exact t_usedOf hA1.T hw.T (by omega) (by omega) q
    have hQ : Q (some (.int (nI (A 0 12 c) - nI (ndN (A 0) (A 1 0 3) c)))) (cu mi 95 (upd (mi 95) 2 (nI 0)), ml, R0 rd, 136) := hQ
    rw [← em] at hQ
    exact ⟨c, by omega, rfl, hC _ _ _ _ (call _ ⟨rfl, hQ⟩)⟩
  · have b : ¬ x < mi 95 18 := b
    rw [ec] at b
    rw [ixo_ge (by omega) (Int32.not_lt.mp b)] at hQ
    exact hQ
end
