/-! THE REFERENCE READS: a line -/
theorem kw_line : ∀ k, k ≤ 45 → 20 ≤ k → (kK k ≤ 12 ↔ k ≤ 32) ∧ (k ≤ 32 → kK k = k - 20) ∧ kK k < 26 ∧ (13 ≤ kK k ∧ kK k ≤ 15 ↔ 34 ≤ k ∧ k ≤ 36) ∧ (34 ≤ k → k ≤ 36 → kK k = k - 21) := by decide
section
variable {d : Nat} {Q : Option Value → Mm → Prop} {b : Nat → Nat} {n j : Nat} {T : Nat → Nat → Nat} {mi : Nat → Nat → Int32} {ml : Nat → Nat → Int64} {rd : Option Nat}
theorem fnd_cg {p q : Nat → Bool} : ∀ m, (∀ i, i < m → p i = q i) → fnd p m = fnd q m
  | 0, _ => rfl
  | m + 1, h => by
    rw [fnd, fnd, fnd_cg m (fun i hi => h i (by omega)), h m (by omega)]
theorem new_cg {k v p : Nat → Nat} {nm nm' : Nat → Nat} {m j : Nat} (h : ∀ i, i < m → nm i = nm' i) : pNew k v p nm m j = pNew k v p nm' m j := by
  unfold pNew nmF
  rw [fnd_cg (p := fun i => nm i == v j) (q := fun i => nm' i == v j) m (fun i hi => by simp only [h i hi])]
theorem t_newName2 (hE : TE b n mi) (hP : TP b n j mi) {c L a m : Nat} {nm : Nat → Nat} {Y : Int32} (hY : Y = nI m) (hc : (c = 100 ∧ L = 10) ∨ (c = 106 ∧ L = 12) ∨ (c = 108 ∧ L = 6) ∨ (c = 110 ∧ L = 8) ∨ (c = 112 ∧ L = 10)) (hm : a + m < L) (hnm : ∀ i, i < m → mi c (a + i) = nI (nm i)) (hb : ∀ i, i < m → nm i < 2 ^ 30) (hv : tK b n j = 2 → tV b n j < 2 ^ 30) (herr : ∀ e, pNew (tK b n) (tV b n) (psN b n) nm m j = .error e → ∀ mi', WF mi mi' → mi' 95 4 = nI e.1 → mi' 95 5 = nI e.2 → Q (some (.int (nI 0))) (mi', ml, R0 rd, 136)) (hok : ∀ x, pNew (tK b n) (tV b n) (psN b n) nm m j = .ok x → ∀ mi', F4 (cu mi c (upd (mi c) (a + m) (nI x))) mi' → TP b n (j + 1) mi' → Q (some (.int (nI 1))) (mi', ml, R0 rd, 136)) : Cd (d + 3) k_Mod_newName [.ref 95, .ref c, .int (nI a), .int Y] (mi, ml, R0 rd, 136) Q := by
  have h := new_cg (k := tK b n) (v := tV b n) (p := psN b n) (j := j) (nm := nm) (nm' := fun i => if i < m then nm i else 0) (m := m) (fun i hi => by simp only [if_pos hi])
  rw [h] at herr hok
  refine t_newName hE hP hY hc hm (fun i hi => ?_) (fun i => ?_) hv herr hok
  · simp only [if_pos hi]; exact hnm i hi
  · show (if i < m then nm i else 0) < 2 ^ 30
    split
    · exact hb i (by assumption)
    · decide
set_option maxHeartbeats 8000000 in
theorem t_lineRead (hn : n ≤ 700) (hE : TE b n mi) (hP : TP b n j mi) (hX : MX T mi) (hT : tOK T) (hv : ∀ j, tK b n j = 2 → nmOK (tV b n j)) (hQ : RQ b n rd mi ml Q (pLine (tK b n) (tV b n) (psN b n) T j)) : Cd (d + 5) k_Mod_lineRead [.ref 95] (mi, ml, R0 rd, 136) Q := by
  have hk1 := hP.2.2.k8.2.1
  have hk45 := hP.2.2.k8.2.2.2.2.2.1
  have hkw := hP.2.2.k8.2.2.2.2.2.2.2.1
  unfold pLine at hQ
  have er : ∀ e, pBody (tK b n) (tV b n) (psN b n) T j = .error e → ∀ mi', WF mi mi' → mi' 95 4 = nI e.1 → mi' 95 5 = nI e.2 → Q (some (.int (nI 0))) (mi', ml, R0 rd, 136) := by
    intro e he
    rw [he] at hQ
    exact hQ
  have er2 : ∀ T' j', pBody (tK b n) (tV b n) (psN b n) T j = .ok (T', j') → tK b n j' ≠ 4 → ∀ mi', WF mi mi' → mi' 95 4 = nI 1 → mi' 95 5 = nI (psN b n j') → Q (some (.int (nI 0))) (mi', ml, R0 rd, 136) := by
    intro T' j' he h4
    rw [he] at hQ
    exact hQ.er (e := (1, psN b n j')) (if_neg h4)
  have ok : ∀ T' j', pBody (tK b n) (tV b n) (psN b n) T j = .ok (T', j') → tK b n j' = 4 → ∀ mi', WG mi mi' → MX T' mi' → TP b n (j' + 1) mi' → Q (some (.int (nI 1))) (mi', ml, R0 rd, 136) := by
    intro T' j' he h4
    rw [he] at hQ
    exact hQ.ok (if_pos h4)
  clear hQ
  have bad : ¬ (20 ≤ tK b n j ∧ tK b n j ≤ 32) → pBody (tK b n) (tV b n) (psN b n) T j = .error (1, psN b n j) := fun h => by
    unfold pBody
    rw [if_neg (by omega), if_neg (by omega)]
  refine r_Mod_lineRead (by decide) (fun K Kl hK hC => ⟨fun z => hC _ _ _ _ (t_wrg hP (fun m1 f1 a1 a2 => ⟨Or.inl rfl, rfl, er _ (bad (fun h => z (hk1.mpr h.1))) m1 f1 a1 a2⟩)), fun z => ?_⟩)
  have h20 := hk1.mp z
  have hl := kw_line _ hk45 h20
  have e9 := hkw h20
  refine ⟨fun y => ?_, fun y => hC _ _ _ _ (t_wrg hP (fun m1 f1 a1 a2 => ⟨Or.inl rfl, rfl, er _ (bad (fun h => ?_)) m1 f1 a1 a2⟩))⟩
  rotate_left
  · have := jNLE y e9 rfl
    omega
  have y := jLE y e9 rfl
  have hk32 : tK b n j ≤ 32 := hl.1.mp y
  have hkk : ∀ a, a < 12 → mi 95 9 = nI a → tK b n j = 20 + a := fun a ha h => by
    have := jEQ h e9 rfl
    have := hl.2.1 hk32
    omega
  refine ⟨fun s0 => ?_, fun s0 => swP_c (fun s1 => ?_) (fun s1 => swP_c (fun s2 => ?_) (fun s2 => swP_c (fun s3 => ?_) (fun s3 => swP_c (fun s4 => ?_) (fun s4 => swP_c (fun s5 => ?_) (fun s5 => swP_c (fun s6 => ?_) (fun s6 => swP_c (fun s7 => ?_) (fun s7 => swP_c (fun s8 => ?_) (fun s8 => swP_c (fun s9 => ?_) (fun s9 => swP_c (fun s10 => ?_) (fun s10 => swP_c (fun s11 => ?_) (fun s11 => swP_n ?_)))))))))))⟩
  · have hk : tK b n j = 20 := hkk 0 (by decide) s0
    have eb : pBody (tK b n) (tV b n) (psN b n) T j = (if T 0 14 ≠ 0 then .error (3, psN b n j) else if T 0 13 ≠ 0 then .error (4, psN b n j) else pPlain (tK b n) (tV b n) (psN b n) (t0 T 14 1) (j + 1)) := by simp [pBody, onC, pOncs, hk]
    refine hC _ _ _ _ (t_plainLine hE hP hX hT ?_)
    rw [← eb]
    cases hB : pBody (tK b n) (tV b n) (psN b n) T j with
    | error e => exact fun m2 f2 a1 a2 => ⟨fun y => absurd rfl y, fun _ => ⟨Or.inl rfl, rfl, er e hB m2 f2 a1 a2⟩⟩
    | ok s =>
      obtain ⟨T', j'⟩ := s
      exact fun m2 w2 X2 P2 => ⟨fun _ => hC _ _ _ _ (t_isSign (q := 4) P2 (by decide) rfl (fun h4 => ⟨fun _ => hC _ _ _ _ (t_tok (hE.wf (w2).wf) P2 (fun m3 f3 P3 => ⟨Or.inr rfl, rfl, ok T' j' hB h4 m3 ((w2).trans f3.wg) (f3.f5.mx X2) P3⟩)), fun y => absurd y (by decide)⟩) (fun h4 => ⟨fun y => absurd rfl y, fun _ => hC _ _ _ _ (t_wrg P2 (fun m3 f3 a1 a2 => ⟨Or.inl rfl, rfl, er2 T' j' hB h4 m3 ((w2).wf.trans f3) a1 a2⟩))⟩)), fun y => absurd y (by decide)⟩
  · have hk : tK b n j = 21 := hkk 1 (by decide) s1
    have eb : pBody (tK b n) (tV b n) (psN b n) T j = (if T 0 2 = 5 then .error (2, psN b n j) else pOwner (tK b n) (tV b n) (psN b n) T (j + 1)) := by simp [pBody, fulN, pList, hk]
    refine hC _ _ _ _ (t_ownerLine hE hP hX hT hv ?_)
    rw [← eb]
    cases hB : pBody (tK b n) (tV b n) (psN b n) T j with
    | error e => exact fun m2 f2 a1 a2 => ⟨fun y => absurd rfl y, fun _ => ⟨Or.inl rfl, rfl, er e hB m2 f2 a1 a2⟩⟩
    | ok s =>
      obtain ⟨T', j'⟩ := s
      exact fun m2 w2 X2 P2 => ⟨fun _ => hC _ _ _ _ (t_isSign (q := 4) P2 (by decide) rfl (fun h4 => ⟨fun _ => hC _ _ _ _ (t_tok (hE.wf (w2).wf) P2 (fun m3 f3 P3 => ⟨Or.inr rfl, rfl, ok T' j' hB h4 m3 ((w2).trans f3.wg) (f3.f5.mx X2) P3⟩)), fun y => absurd y (by decide)⟩) (fun h4 => ⟨fun y => absurd rfl y, fun _ => hC _ _ _ _ (t_wrg P2 (fun m3 f3 a1 a2 => ⟨Or.inl rfl, rfl, er2 T' j' hB h4 m3 ((w2).wf.trans f3) a1 a2⟩))⟩)), fun y => absurd y (by decide)⟩
  · have hk : tK b n j = 22 := hkk 2 (by decide) s2
    have eb : pBody (tK b n) (tV b n) (psN b n) T j = (if T 0 13 = 9 then .error (2, psN b n j) else pStrip (tK b n) (tV b n) (psN b n) T (j + 1)) := by simp [pBody, fulN, pList, hk]
    refine hC _ _ _ _ (t_stripLine hE hP hX hT hv ?_)
    rw [← eb]
    cases hB : pBody (tK b n) (tV b n) (psN b n) T j with
    | error e => exact fun m2 f2 a1 a2 => ⟨fun y => absurd rfl y, fun _ => ⟨Or.inl rfl, rfl, er e hB m2 f2 a1 a2⟩⟩
    | ok s =>
      obtain ⟨T', j'⟩ := s
      exact fun m2 w2 X2 P2 => ⟨fun _ => hC _ _ _ _ (t_isSign (q := 4) P2 (by decide) rfl (fun h4 => ⟨fun _ => hC _ _ _ _ (t_tok (hE.wf (w2).wf) P2 (fun m3 f3 P3 => ⟨Or.inr rfl, rfl, ok T' j' hB h4 m3 ((w2).trans f3.wg) (f3.f5.mx X2) P3⟩)), fun y => absurd y (by decide)⟩) (fun h4 => ⟨fun y => absurd rfl y, fun _ => hC _ _ _ _ (t_wrg P2 (fun m3 f3 a1 a2 => ⟨Or.inl rfl, rfl, er2 T' j' hB h4 m3 ((w2).wf.trans f3) a1 a2⟩))⟩)), fun y => absurd y (by decide)⟩
  · have hk : tK b n j = 23 := hkk 3 (by decide) s3
    have eb : pBody (tK b n) (tV b n) (psN b n) T j = (if T 0 3 = 9 then .error (2, psN b n j) else pGlyph (tK b n) (tV b n) (psN b n) T (j + 1)) := by simp [pBody, fulN, pList, hk]
    refine hC _ _ _ _ (t_glyphLine hE hP hX hT hv ?_)
    rw [← eb]
    cases hB : pBody (tK b n) (tV b n) (psN b n) T j with
    | error e => exact fun m2 f2 a1 a2 => ⟨fun y => absurd rfl y, fun _ => ⟨Or.inl rfl, rfl, er e hB m2 f2 a1 a2⟩⟩
    | ok s =>
      obtain ⟨T', j'⟩ := s
      exact fun m2 w2 X2 P2 => ⟨fun _ => hC _ _ _ _ (t_isSign (q := 4) P2 (by decide) rfl (fun h4 => ⟨fun _ => hC _ _ _ _ (t_tok (hE.wf (w2).wf) P2 (fun m3 f3 P3 => ⟨Or.inr rfl, rfl, ok T' j' hB h4 m3 ((w2).trans f3.wg) (f3.f5.mx X2) P3⟩)), fun y => absurd y (by decide)⟩) (fun h4 => ⟨fun y => absurd rfl y, fun _ => hC _ _ _ _ (t_wrg P2 (fun m3 f3 a1 a2 => ⟨Or.inl rfl, rfl, er2 T' j' hB h4 m3 ((w2).wf.trans f3) a1 a2⟩))⟩)), fun y => absurd y (by decide)⟩
  · have hk : tK b n j = 24 := hkk 4 (by decide) s4
    have eb : pBody (tK b n) (tV b n) (psN b n) T j = (if T 0 4 = 6 then .error (2, psN b n j) else pWord (tK b n) (tV b n) (psN b n) T (j + 1)) := by simp [pBody, fulN, pList, hk]
    have hcap := hT.1.wd6
    refine ⟨fun z => ?_, fun z => ?_⟩
    · have z := jNE z hX.nw rfl
      rw [if_neg z] at eb
      unfold pWord at eb
      refine hC _ _ _ _ (t_tok hE hP (fun m1 f1 P1 => ?_))
      have X1 := f1.f5.mx hX
      have E1 := hE.f4 f1
      refine hC _ _ _ _ (t_newName2 (c := 106) (L := 12) (a := 6) (nm := T 7) E1 P1 X1.nw (by decide) (by omega) X1.wn (fun i hi => (hT.1.wn i hi).1) (fun q => (hv _ q).1) (fun e he m2 f2 a1 a2 => ⟨fun _ => ⟨Or.inl rfl, rfl, er e (by rw [eb, he]) m2 (f1.wf.trans f2) a1 a2⟩, fun q => absurd (by decide) q⟩) (fun nm he m2 f2 P2 => ⟨fun q => absurd q (by decide), fun _ => ?_⟩))
      have w2 : WG mi m2 := (f1.wg.cu (wB_hi (by decide) (by decide) (show 6 ≤ 6 + T 0 4 by omega))).trans f2.wg
      have X2 := f2.f5.mx (X1.t106 (x := nI nm))
      refine hC _ _ _ _ (t_number (lo := 0) (hi := 99) (hE.wf w2.wf) P2 rfl rfl (by decide) (by decide) (fun e he3 m3 f3 a1 a2 => ⟨fun q => absurd rfl q, fun _ => ⟨Or.inl rfl, rfl, er e (by rw [eb, he]; simp only [he3]) m3 (w2.wf.trans f3) a1 a2⟩⟩) (fun w he3 m3 f3 P3 g3 => ⟨fun _ => ⟨6 + T 0 4, by omega, ?_, ⟨fun _ => ?_, fun y => absurd y (by decide)⟩⟩, fun q => absurd q (by decide)⟩))
      · show nI 6 + m3 95 28 = _
        rw [(f3.mx X2).nw, nI_add]
      have X3 := (f3.mx X2).t107 (x := m3 95 11)
      have v1 : m3 106 (6 + T 0 4) = nI nm := by
        rw [f3.c (c := 106) (by decide), f2.c (c := 106) (by decide)]
        exact pk_us
      have X4 := X3.wd1 (nm := nm) (w := w) (x := m3 95 28 + nI 1) (by rw [(f3.mx X2).nw, nI_add]) v1 (by
        show upd (m3 107) (6 + T 0 4) (m3 95 11) (6 + T 0 4) = _
        rw [pk_us]; exact g3)
      have w4 : WG mi (cu (cu m3 107 (upd (m3 107) (6 + T 0 4) (m3 95 11))) 95 (upd (m3 95) 28 (m3 95 28 + nI 1))) := ((w2.trans f3.wg).cu (wB_hi (by decide) (by decide) (show 6 ≤ 6 + T 0 4 by omega))).cu rfl
      have P4 : TP b n (j + 1 + 2) (cu (cu m3 107 (upd (m3 107) (6 + T 0 4) (m3 95 11))) 95 (upd (m3 95) 28 (m3 95 28 + nI 1))) := P3.mv rfl rfl rfl rfl
      have heq : pBody (tK b n) (tV b n) (psN b n) T j = .ok (aWd T nm w, j + 1 + 2) := by rw [eb, he]; simp only [he3]
      exact hC _ _ _ _ (t_isSign (q := 4) P4 (by decide) rfl (fun h4 => ⟨fun _ => hC _ _ _ _ (t_tok (hE.wf (w4).wf) P4 (fun m3 f3 P3 => ⟨Or.inr rfl, rfl, ok (aWd T nm w) (j + 1 + 2) heq h4 m3 ((w4).trans f3.wg) (f3.f5.mx X4) P3⟩)), fun y => absurd y (by decide)⟩) (fun h4 => ⟨fun y => absurd rfl y, fun _ => hC _ _ _ _ (t_wrg P4 (fun m3 f3 a1 a2 => ⟨Or.inl rfl, rfl, er2 (aWd T nm w) (j + 1 + 2) heq h4 m3 ((w4).wf.trans f3) a1 a2⟩))⟩))
    · have z := jEQ z hX.nw rfl
      exact hC _ _ _ _ (t_wrg hP (fun m2 f2 a1 a2 => ⟨Or.inl rfl, rfl, er (2, psN b n j) (by rw [eb, if_pos z]) m2 f2 a1 a2⟩))
  · have hk : tK b n j = 25 := hkk 5 (by decide) s5
    have eb : pBody (tK b n) (tV b n) (psN b n) T j = (if T 0 5 = 3 then .error (2, psN b n j) else pHill (tK b n) (tV b n) (psN b n) T (j + 1)) := by simp [pBody, fulN, pList, hk]
    have hcap := hT.1.hl3
    refine ⟨fun z => ?_, fun z => ?_⟩
    · have z := jNE z hX.nh rfl
      rw [if_neg z] at eb
      unfold pHill at eb
      refine hC _ _ _ _ (t_tok hE hP (fun m1 f1 P1 => ?_))
      have X1 := f1.f5.mx hX
      have E1 := hE.f4 f1
      refine hC _ _ _ _ (t_newName (c := 108) (L := 6) (a := 3) (nm := T 9) E1 P1 X1.nh (by decide) (by omega) X1.hn (fun i => (hT.1.nm 0 i).2.1) (fun q => (hv _ q).1) (fun e he m2 f2 a1 a2 => ⟨fun q => absurd rfl q, fun _ => ⟨Or.inl rfl, rfl, er e (by rw [eb, he]) m2 (f1.wf.trans f2) a1 a2⟩⟩) (fun nm he m2 f2 P2 => ⟨fun _ => ?_, fun q => absurd q (by decide)⟩))
      have w2 : WG mi m2 := (f1.wg.cu (wB_hi (by decide) (by decide) (show 3 ≤ 3 + T 0 5 by omega))).trans f2.wg
      have X2 := f2.f5.mx (X1.t108 (x := nI nm))
      have hj1 := P2.2.2.k8.2.1
      have hj45 := P2.2.2.k8.2.2.2.2.2.1
      have hjw := P2.2.2.k8.2.2.2.2.2.2.2.1
      rw [he] at eb
      have wr : ¬ (34 ≤ tK b n (j + 1 + 1) ∧ tK b n (j + 1 + 1) ≤ 36) → pBody (tK b n) (tV b n) (psN b n) T j = .error (1, psN b n (j + 1 + 1)) := fun h => by rw [eb]; exact if_neg h
      refine ⟨fun y => hC _ _ _ _ (t_wrg P2 (fun m3 f3 a1 a2 => ⟨Or.inl rfl, rfl, er _ (wr (fun h => y (hj1.mpr (by omega)))) m3 (w2.wf.trans f3) a1 a2⟩)), fun y => ?_⟩
      have h20 := hj1.mp y
      have hl := kw_line _ hj45 h20
      have e9 := hjw h20
      refine ⟨fun y1 => hC _ _ _ _ (t_wrg P2 (fun m3 f3 a1 a2 => ⟨Or.inl rfl, rfl, er _ (wr (fun h => ?_)) m3 (w2.wf.trans f3) a1 a2⟩)), fun y1 => ⟨fun y2 => ⟨3 + T 0 5, by omega, ?_, ?_⟩, fun y2 => hC _ _ _ _ (t_wrg P2 (fun m3 f3 a1 a2 => ⟨Or.inl rfl, rfl, er _ (wr (fun h => ?_)) m3 (w2.wf.trans f3) a1 a2⟩))⟩⟩
      · have := jLT y1 e9 rfl
        have := hl.2.2.2.1.mpr h
        omega
      · show nI 3 + m2 95 29 = _
        rw [X2.nh, nI_add]
      · have y1 := jNLT y1 e9 rfl
        have y2 := jLE y2 e9 rfl
        have h36 := hl.2.2.2.1.mp ⟨by omega, y2⟩
        have ek := hl.2.2.2.2 h36.1 h36.2
        have esub : m2 95 9 - nI 13 = nI (tK b n (j + 1 + 1) - 34) := by
          rw [e9, pk_sub (by omega), ek]
          congr 1
        have w3 : WG mi (cu m2 109 (upd (m2 109) (3 + T 0 5) (m2 95 9 - nI 13))) := w2.cu (wB_hi (by decide) (by decide) (show 3 ≤ 3 + T 0 5 by omega))
        refine hC _ _ _ _ (t_tok (mi := cu m2 109 (upd (m2 109) (3 + T 0 5) (m2 95 9 - nI 13))) (hE.wf w3.wf) (P2.mv rfl rfl rfl rfl) (fun m4 f4 P4 => ⟨fun _ => ?_, fun y => absurd y (by decide)⟩))
        have X3 := f4.f5.mx (X2.t109 (x := m2 95 9 - nI 13))
        have v1 : m4 108 (3 + T 0 5) = nI nm := by
          rw [f4.c (c := 108) (by decide)]
          show m2 108 (3 + T 0 5) = _
          rw [f2.c (c := 108) (by decide)]
          exact pk_us
        have X4 := X3.hl1 (nm := nm) (s := tK b n (j + 1 + 1) - 34) (x := m4 95 29 + nI 1) (by rw [X3.nh, nI_add]) v1 (by
          rw [f4.c (c := 109) (by decide)]
          show upd (m2 109) (3 + T 0 5) (m2 95 9 - nI 13) (3 + T 0 5) = _
          rw [pk_us]; exact esub)
        have w4 : WG mi (cu m4 95 (upd (m4 95) 29 (m4 95 29 + nI 1))) := (w3.trans f4.wg).cu rfl
        have P4 : TP b n (j + 1 + 2) (cu m4 95 (upd (m4 95) 29 (m4 95 29 + nI 1))) := P4.mv rfl rfl rfl rfl
        have heq : pBody (tK b n) (tV b n) (psN b n) T j = .ok (aHl T nm (tK b n (j + 1 + 1) - 34), j + 1 + 2) := by rw [eb]; exact if_pos h36
        exact hC _ _ _ _ (t_isSign (q := 4) P4 (by decide) rfl (fun h4 => ⟨fun _ => hC _ _ _ _ (t_tok (hE.wf (w4).wf) P4 (fun m3 f3 P3 => ⟨Or.inr rfl, rfl, ok (aHl T nm (tK b n (j + 1 + 1) - 34)) (j + 1 + 2) heq h4 m3 ((w4).trans f3.wg) (f3.f5.mx X4) P3⟩)), fun y => absurd y (by decide)⟩) (fun h4 => ⟨fun y => absurd rfl y, fun _ => hC _ _ _ _ (t_wrg P4 (fun m3 f3 a1 a2 => ⟨Or.inl rfl, rfl, er2 (aHl T nm (tK b n (j + 1 + 1) - 34)) (j + 1 + 2) heq h4 m3 ((w4).wf.trans f3) a1 a2⟩))⟩))
      · have := jNLE y2 e9 rfl
        have := hl.2.2.2.1.mpr h
        omega
    · have z := jEQ z hX.nh rfl
      exact hC _ _ _ _ (t_wrg hP (fun m2 f2 a1 a2 => ⟨Or.inl rfl, rfl, er (2, psN b n j) (by rw [eb, if_pos z]) m2 f2 a1 a2⟩))
  · have hk : tK b n j = 26 := hkk 6 (by decide) s6
    have eb : pBody (tK b n) (tV b n) (psN b n) T j = (if T 0 6 = 4 then .error (2, psN b n j) else pWash (tK b n) (tV b n) (psN b n) T (j + 1)) := by simp [pBody, fulN, pList, hk]
    have hcap := hT.1.co4
    refine ⟨fun z => ?_, fun z => ?_⟩
    · have z := jNE z hX.nc rfl
      rw [if_neg z] at eb
      unfold pWash at eb
      refine hC _ _ _ _ (t_tok hE hP (fun m1 f1 P1 => ?_))
      have X1 := f1.f5.mx hX
      have E1 := hE.f4 f1
      refine hC _ _ _ _ (t_newName2 (c := 110) (L := 8) (a := 4) (nm := T 11) E1 P1 X1.nc (by decide) (by omega) X1.cn (fun i hi => (hT.1.nm 0 i).2.2.1) (fun q => (hv _ q).1) (fun e he m2 f2 a1 a2 => ⟨fun _ => ⟨Or.inl rfl, rfl, er e (by rw [eb, he]) m2 (f1.wf.trans f2) a1 a2⟩, fun q => absurd (by decide) q⟩) (fun nm he m2 f2 P2 => ⟨fun q => absurd q (by decide), fun _ => ?_⟩))
      have w2 : WG mi m2 := (f1.wg.cu (wB_hi (by decide) (by decide) (show 4 ≤ 4 + T 0 6 by omega))).trans f2.wg
      have X2 := f2.f5.mx (X1.t110 (x := nI nm))
      refine hC _ _ _ _ (t_number (lo := 0) (hi := 9) (hE.wf w2.wf) P2 rfl rfl (by decide) (by decide) (fun e he3 m3 f3 a1 a2 => ⟨fun q => absurd rfl q, fun _ => ⟨Or.inl rfl, rfl, er e (by rw [eb, he]; simp only [he3]) m3 (w2.wf.trans f3) a1 a2⟩⟩) (fun w he3 m3 f3 P3 g3 => ⟨fun _ => ⟨4 + T 0 6, by omega, ?_, ⟨fun _ => ?_, fun y => absurd y (by decide)⟩⟩, fun q => absurd q (by decide)⟩))
      · show nI 4 + m3 95 30 = _
        rw [(f3.mx X2).nc, nI_add]
      have X3 := (f3.mx X2).t111 (x := m3 95 11)
      have v1 : m3 110 (4 + T 0 6) = nI nm := by
        rw [f3.c (c := 110) (by decide), f2.c (c := 110) (by decide)]
        exact pk_us
      have X4 := X3.co1 (nm := nm) (m := w) (x := m3 95 30 + nI 1) (by rw [(f3.mx X2).nc, nI_add]) v1 (by
        show upd (m3 111) (4 + T 0 6) (m3 95 11) (4 + T 0 6) = _
        rw [pk_us]; exact g3)
      have w4 : WG mi (cu (cu m3 111 (upd (m3 111) (4 + T 0 6) (m3 95 11))) 95 (upd (m3 95) 30 (m3 95 30 + nI 1))) := ((w2.trans f3.wg).cu (wB_hi (by decide) (by decide) (show 4 ≤ 4 + T 0 6 by omega))).cu rfl
      have P4 : TP b n (j + 1 + 2) (cu (cu m3 111 (upd (m3 111) (4 + T 0 6) (m3 95 11))) 95 (upd (m3 95) 30 (m3 95 30 + nI 1))) := P3.mv rfl rfl rfl rfl
      have heq : pBody (tK b n) (tV b n) (psN b n) T j = .ok (aCo T nm w, j + 1 + 2) := by rw [eb, he]; simp only [he3]
      exact hC _ _ _ _ (t_isSign (q := 4) P4 (by decide) rfl (fun h4 => ⟨fun _ => hC _ _ _ _ (t_tok (hE.wf (w4).wf) P4 (fun m3 f3 P3 => ⟨Or.inr rfl, rfl, ok (aCo T nm w) (j + 1 + 2) heq h4 m3 ((w4).trans f3.wg) (f3.f5.mx X4) P3⟩)), fun y => absurd y (by decide)⟩) (fun h4 => ⟨fun y => absurd rfl y, fun _ => hC _ _ _ _ (t_wrg P4 (fun m3 f3 a1 a2 => ⟨Or.inl rfl, rfl, er2 (aCo T nm w) (j + 1 + 2) heq h4 m3 ((w4).wf.trans f3) a1 a2⟩))⟩))
    · have z := jEQ z hX.nc rfl
      exact hC _ _ _ _ (t_wrg hP (fun m2 f2 a1 a2 => ⟨Or.inl rfl, rfl, er (2, psN b n j) (by rw [eb, if_pos z]) m2 f2 a1 a2⟩))
  · have hk : tK b n j = 27 := hkk 7 (by decide) s7
    have eb : pBody (tK b n) (tV b n) (psN b n) T j = (if T 0 7 = 5 then .error (2, psN b n j) else pSign (tK b n) (tV b n) (psN b n) T (j + 1)) := by simp [pBody, fulN, pList, hk]
    refine hC _ _ _ _ (t_signLine hE hP hX hT hv ?_)
    rw [← eb]
    cases hB : pBody (tK b n) (tV b n) (psN b n) T j with
    | error e => exact fun m2 f2 a1 a2 => ⟨fun y => absurd rfl y, fun _ => ⟨Or.inl rfl, rfl, er e hB m2 f2 a1 a2⟩⟩
    | ok s =>
      obtain ⟨T', j'⟩ := s
      exact fun m2 w2 X2 P2 => ⟨fun _ => hC _ _ _ _ (t_isSign (q := 4) P2 (by decide) rfl (fun h4 => ⟨fun _ => hC _ _ _ _ (t_tok (hE.wf (w2).wf) P2 (fun m3 f3 P3 => ⟨Or.inr rfl, rfl, ok T' j' hB h4 m3 ((w2).trans f3.wg) (f3.f5.mx X2) P3⟩)), fun y => absurd y (by decide)⟩) (fun h4 => ⟨fun y => absurd rfl y, fun _ => hC _ _ _ _ (t_wrg P2 (fun m3 f3 a1 a2 => ⟨Or.inl rfl, rfl, er2 T' j' hB h4 m3 ((w2).wf.trans f3) a1 a2⟩))⟩)), fun y => absurd y (by decide)⟩
  · have hk : tK b n j = 28 := hkk 8 (by decide) s8
    have eb : pBody (tK b n) (tV b n) (psN b n) T j = (if T 0 8 = 3 then .error (2, psN b n j) else pLink (tK b n) (tV b n) (psN b n) T (j + 1)) := by simp [pBody, fulN, pList, hk]
    refine hC _ _ _ _ (t_linkLine hE hP hX hT hv ?_)
    rw [← eb]
    cases hB : pBody (tK b n) (tV b n) (psN b n) T j with
    | error e => exact fun m2 f2 a1 a2 => ⟨fun y => absurd rfl y, fun _ => ⟨Or.inl rfl, rfl, er e hB m2 f2 a1 a2⟩⟩
    | ok s =>
      obtain ⟨T', j'⟩ := s
      exact fun m2 w2 X2 P2 => ⟨fun _ => hC _ _ _ _ (t_isSign (q := 4) P2 (by decide) rfl (fun h4 => ⟨fun _ => hC _ _ _ _ (t_tok (hE.wf (w2).wf) P2 (fun m3 f3 P3 => ⟨Or.inr rfl, rfl, ok T' j' hB h4 m3 ((w2).trans f3.wg) (f3.f5.mx X2) P3⟩)), fun y => absurd y (by decide)⟩) (fun h4 => ⟨fun y => absurd rfl y, fun _ => hC _ _ _ _ (t_wrg P2 (fun m3 f3 a1 a2 => ⟨Or.inl rfl, rfl, er2 T' j' hB h4 m3 ((w2).wf.trans f3) a1 a2⟩))⟩)), fun y => absurd y (by decide)⟩
  · have hk : tK b n j = 29 := hkk 9 (by decide) s9
    have eb : pBody (tK b n) (tV b n) (psN b n) T j = (if T 0 (10 + 5) ≠ 0 then .error (3, psN b n j) else pOnce (tK b n) (tV b n) (psN b n) (t0 T (10 + 5) 1) 10 9999 (j + 1)) := by simp [pBody, onC, pOncs, hk]
    refine hC _ _ _ _ (t_onceLine (q := 0) (hi := 9999) (c := 10) (by rw [show mi 95 9 = nI 9 from s9]; decide) (by decide) hE hP hX hT ?_)
    rw [← eb]
    cases hB : pBody (tK b n) (tV b n) (psN b n) T j with
    | error e => exact fun m2 f2 a1 a2 => ⟨fun y => absurd rfl y, fun _ => ⟨Or.inl rfl, rfl, er e hB m2 f2 a1 a2⟩⟩
    | ok s =>
      obtain ⟨T', j'⟩ := s
      exact fun m2 w2 X2 P2 => ⟨fun _ => hC _ _ _ _ (t_isSign (q := 4) P2 (by decide) rfl (fun h4 => ⟨fun _ => hC _ _ _ _ (t_tok (hE.wf (w2).wf) P2 (fun m3 f3 P3 => ⟨Or.inr rfl, rfl, ok T' j' hB h4 m3 ((w2).trans f3.wg) (f3.f5.mx X2) P3⟩)), fun y => absurd y (by decide)⟩) (fun h4 => ⟨fun y => absurd rfl y, fun _ => hC _ _ _ _ (t_wrg P2 (fun m3 f3 a1 a2 => ⟨Or.inl rfl, rfl, er2 T' j' hB h4 m3 ((w2).wf.trans f3) a1 a2⟩))⟩)), fun y => absurd y (by decide)⟩
  · have hk : tK b n j = 30 := hkk 10 (by decide) s10
    have eb : pBody (tK b n) (tV b n) (psN b n) T j = (if T 0 (11 + 5) ≠ 0 then .error (3, psN b n j) else pOnce (tK b n) (tV b n) (psN b n) (t0 T (11 + 5) 1) 11 99999 (j + 1)) := by simp [pBody, onC, pOncs, hk]
    refine hC _ _ _ _ (t_onceLine (q := 1) (hi := 99999) (c := 11) (by rw [show mi 95 9 = nI 10 from s10]; decide) (by decide) hE hP hX hT ?_)
    rw [← eb]
    cases hB : pBody (tK b n) (tV b n) (psN b n) T j with
    | error e => exact fun m2 f2 a1 a2 => ⟨fun y => absurd rfl y, fun _ => ⟨Or.inl rfl, rfl, er e hB m2 f2 a1 a2⟩⟩
    | ok s =>
      obtain ⟨T', j'⟩ := s
      exact fun m2 w2 X2 P2 => ⟨fun _ => hC _ _ _ _ (t_isSign (q := 4) P2 (by decide) rfl (fun h4 => ⟨fun _ => hC _ _ _ _ (t_tok (hE.wf (w2).wf) P2 (fun m3 f3 P3 => ⟨Or.inr rfl, rfl, ok T' j' hB h4 m3 ((w2).trans f3.wg) (f3.f5.mx X2) P3⟩)), fun y => absurd y (by decide)⟩) (fun h4 => ⟨fun y => absurd rfl y, fun _ => hC _ _ _ _ (t_wrg P2 (fun m3 f3 a1 a2 => ⟨Or.inl rfl, rfl, er2 T' j' hB h4 m3 ((w2).wf.trans f3) a1 a2⟩))⟩)), fun y => absurd y (by decide)⟩
  · have hk : tK b n j = 31 := hkk 11 (by decide) s11
    have eb : pBody (tK b n) (tV b n) (psN b n) T j = (if T 0 (12 + 5) ≠ 0 then .error (3, psN b n j) else pOnce (tK b n) (tV b n) (psN b n) (t0 T (12 + 5) 1) 12 99 (j + 1)) := by simp [pBody, onC, pOncs, hk]
    refine hC _ _ _ _ (t_onceLine (q := 2) (hi := 99) (c := 12) (by rw [show mi 95 9 = nI 11 from s11]; decide) (by decide) hE hP hX hT ?_)
    rw [← eb]
    cases hB : pBody (tK b n) (tV b n) (psN b n) T j with
    | error e => exact fun m2 f2 a1 a2 => ⟨fun y => absurd rfl y, fun _ => ⟨Or.inl rfl, rfl, er e hB m2 f2 a1 a2⟩⟩
    | ok s =>
      obtain ⟨T', j'⟩ := s
      exact fun m2 w2 X2 P2 => ⟨fun _ => hC _ _ _ _ (t_isSign (q := 4) P2 (by decide) rfl (fun h4 => ⟨fun _ => hC _ _ _ _ (t_tok (hE.wf (w2).wf) P2 (fun m3 f3 P3 => ⟨Or.inr rfl, rfl, ok T' j' hB h4 m3 ((w2).trans f3.wg) (f3.f5.mx X2) P3⟩)), fun y => absurd y (by decide)⟩) (fun h4 => ⟨fun y => absurd rfl y, fun _ => hC _ _ _ _ (t_wrg P2 (fun m3 f3 a1 a2 => ⟨Or.inl rfl, rfl, er2 T' j' hB h4 m3 ((w2).wf.trans f3) a1 a2⟩))⟩)), fun y => absurd y (by decide)⟩
  · have hk : tK b n j = 32 := by
      have n0 : ∀ a, a < 12 → ¬ mi 95 9 = nI a → tK b n j ≠ 20 + a := fun a ha h e => h (by rw [e9, hl.2.1 hk32, e]; congr 1; omega)
      have n1 := n0 0 (by decide) s0
      have n2 := n0 1 (by decide) s1
      have n3 := n0 2 (by decide) s2
      have n4 := n0 3 (by decide) s3
      have n5 := n0 4 (by decide) s4
      have n6 := n0 5 (by decide) s5
      have n7 := n0 6 (by decide) s6
      have n8 := n0 7 (by decide) s7
      have n9 := n0 8 (by decide) s8
      have n10 := n0 9 (by decide) s9
      have n11 := n0 10 (by decide) s10
      have n12 := n0 11 (by decide) s11
      omega
    have eb : pBody (tK b n) (tV b n) (psN b n) T j = (if T 0 18 ≠ 0 then .error (3, psN b n j) else pLawL (tK b n) (tV b n) (psN b n) (t0 T 18 1) (j + 1)) := by simp [pBody, onC, pOncs, hk]
    have f18 := hT.2.2.1 18 (by decide) (by decide)
    refine ⟨fun z => ⟨Or.inr rfl, ?_⟩, fun z => ?_⟩
    · have z := jZ (show mi 95 35 = 0 from z) hX.ls
      rw [if_neg (by omega)] at eb
      unfold pLawL at eb
      have X0 := hX.f18
      have w0 : WG mi (cu mi 95 (upd (mi 95) 35 (nI 1))) := WG.none.cu rfl
      refine hC _ _ _ _ (t_tok (mi := cu mi 95 (upd (mi 95) 35 (nI 1))) (hE.mv rfl rfl rfl) (hP.mv rfl rfl rfl rfl) (fun m1 f1 P1 => ?_))
      have w1 := w0.trans f1.wg
      refine hC _ _ _ _ (t_isKey (q := 33) P1 (by decide) rfl (fun h33 => ⟨fun _ => ?_, fun y => absurd y (by decide)⟩) (fun h33 => ⟨fun y => absurd rfl y, fun _ => ?_⟩))
      · rw [if_pos h33] at eb
        refine hC _ _ _ _ (t_tok (hE.wf w1.wf) P1 (fun m2 f2 P2 => ?_))
        have w2 := w1.trans f2.wg
        have hj := tK_lt (show tK b n (j + 1) ≠ 0 by omega)
        have e62 : m2 95 62 = nI 0 := by
          rw [f2 95 62 (Or.inr rfl), f1 95 62 (Or.inr rfl)]
          exact hX.ct z
        refine hC _ _ _ _ (t_sumRead hn (by omega) (hE.wf w2.wf) P2 (f2.f5.mx (f1.f5.mx X0)) (show (1 : Nat) ≠ 0 by decide) (show T 0 9 = 0 from hT.2.2.2.1.mp z) e62 ?_)
        rw [← eb]
        cases hB : pBody (tK b n) (tV b n) (psN b n) T j with
        | error e => exact fun m3 f2 a1 a2 => ⟨fun y => absurd rfl y, fun _ => ⟨Or.inl rfl, rfl, er e hB m3 (w2.wf.trans f2) a1 a2⟩⟩
        | ok s =>
          obtain ⟨T', j'⟩ := s
          exact fun m3 w3 X2 P2 => ⟨fun _ => hC _ _ _ _ (t_isSign (q := 4) P2 (by decide) rfl (fun h4 => ⟨fun _ => hC _ _ _ _ (t_tok (hE.wf (w2.trans w3).wf) P2 (fun m3 f3 P3 => ⟨Or.inr rfl, rfl, ok T' j' hB h4 m3 ((w2.trans w3).trans f3.wg) (f3.f5.mx X2) P3⟩)), fun y => absurd y (by decide)⟩) (fun h4 => ⟨fun y => absurd rfl y, fun _ => hC _ _ _ _ (t_wrg P2 (fun m3 f3 a1 a2 => ⟨Or.inl rfl, rfl, er2 T' j' hB h4 m3 ((w2.trans w3).wf.trans f3) a1 a2⟩))⟩)), fun y => absurd y (by decide)⟩
      · rw [if_neg h33] at eb
        exact hC _ _ _ _ (t_wrg P1 (fun m2 f2 a1 a2 => ⟨Or.inl rfl, rfl, er _ eb m2 (w1.wf.trans f2) a1 a2⟩))
    · have z := jNZ (show ¬ mi 95 35 = 0 from z) hX.ls
      exact hC _ _ _ _ (t_wrg hP (fun m2 f2 a1 a2 => ⟨Or.inl rfl, rfl, er (3, psN b n j) (by rw [eb, if_pos z]) m2 f2 a1 a2⟩))
end
