/-! THE REFERENCE READS: lines -/
section
variable {d : Nat} {Q : Option Value → Mm → Prop} {b : Nat → Nat} {n j : Nat} {T : Nat → Nat → Nat} {mi : Nat → Nat → Int32} {ml : Nat → Nat → Int64} {rd : Option Nat}
theorem len1 {x : Nat} (h : nmOK x) : (1 < lenN x) ↔ letN x 1 ≠ 0 := by
  constructor
  · intro h1 e
    have := fnd_min (p := fun k => letN x k == 0) (n := 6) (i := 1) h1
    simp [e] at this
  · intro h1
    have h2 := h.2.1
    rcases Nat.lt_or_ge 1 (lenN x) with q | q
    · exact q
    · exact absurd (h.2.2.1 1 q (by decide)) h1
/-- a search in a row of small numbers -/
theorem t_findS {c L a m x : Nat} {nm : Nat → Nat} {X Y : Int32} (hX : X = nI x) (hY : Y = nI m) (hc : (c = 100 ∧ L = 10) ∨ (c = 104 ∧ L = 18) ∨ (c = 105 ∧ L = 18) ∨ (c = 106 ∧ L = 12) ∨ (c = 108 ∧ L = 6) ∨ (c = 110 ∧ L = 8) ∨ (c = 112 ∧ L = 10)) (hm : a + m ≤ L) (hx : x < 2 ^ 31) (hb : ∀ i, i < m → nm i < 2 ^ 31) (hnm : ∀ i, i < m → mi c (a + i) = nI (nm i)) (h1 : ∀ i, nmF nm m x = i → i < m → Q (some (.int (nI i))) (mi, ml, R0 rd, 136)) (h0 : nmF nm m x = m → Q (some (.int (-1))) (mi, ml, R0 rd, 136)) : Cd (d + 1) k_Mod_find [.ref c, .int (nI a), .int Y, .int X] (mi, ml, R0 rd, 136) Q := by
  subst hX; subst hY
  refine s_Mod_find (L := L) hc hm (fun i hi e hbf => h1 i ?_ hi) (fun hbf => h0 ?_)
  · rw [hnm i hi] at e
    exact nmF_hit hi (nI_inj (hb i hi) hx e) (fun q hq e2 => hbf q hq (by rw [hnm q (by omega), e2]))
  · exact nmF_none (fun q hq e2 => hbf q hq (by rw [hnm q hq, e2]))
set_option maxHeartbeats 1000000 in
theorem t_glyphLine (hE : TE b n mi) (hP : TP b n j mi) (hX : MX T mi) (hT : tOK T) (hv : ∀ j, tK b n j = 2 → nmOK (tV b n j)) (hQ : RQ b n rd mi ml Q (if T 0 3 = 9 then .error (2, psN b n j) else pGlyph (tK b n) (tV b n) (psN b n) T (j + 1))) : Cd (d + 4) k_Mod_glyphLine [.ref 95] (mi, ml, R0 rd, 136) Q := by
  have h9 := hT.1.gl9
  refine r_Mod_glyphLine (by decide) (fun K Kl hK hC => ⟨fun z => hC _ _ _ _ (t_tok hE hP (fun m1 f1 P1 => ?_)), fun z => hC _ _ _ _ (t_wrg hP (fun m1 f1 a c => ⟨Or.inl rfl, rfl, hQ.er (if_pos (jEQ z hX.ng rfl)) m1 f1 a c⟩))⟩)
  have z := jNE z hX.ng rfl
  rw [if_neg z] at hQ
  unfold pGlyph at hQ
  have X1 := f1.f5.mx hX
  have E1 := hE.f4 f1
  have hk2 := P1.2.2.k8.2.2.1
  have hk9 := P1.2.2.k8.2.2.2.2.2.2.1
  by_cases k2 : tK b n (j + 1) = 2
  case neg => exact ⟨fun q => absurd (hk2.mp q) k2, fun _ => hC _ _ _ _ (t_wrg P1 (fun m2 f2 a c => ⟨Or.inl rfl, rfl, hQ.er (if_neg k2) m2 (f1.wf.trans f2) a c⟩))⟩
  have e8 := hk2.mpr k2
  have e9 := hk9 k2
  have hnm := hv _ k2
  have hl := len1 hnm
  have hl6 := lenN_le (tV b n (j + 1))
  rw [if_pos k2] at hQ
  have c1 : ∀ P : Option Value → Mm → Prop, P (some (.int (nI (lenN (tV b n (j + 1)))))) (m1, ml, R0 rd, 136) → Cd (d + 3) k_Mod_longOf [.int (m1 95 9)] (m1, ml, R0 rd, 136) P := fun P p => by
    rw [e9]
    exact s_Mod_longOf hnm.1 p
  have c2 : ∀ P : Option Value → Mm → Prop, P (some (.int (nI (letN (tV b n (j + 1)) 0)))) (m1, ml, R0 rd, 136) → Cd (d + 3) k_Mod_letterOf [.int (m1 95 9), .int (nI 0)] (m1, ml, R0 rd, 136) P := fun P p => by
    rw [e9]
    exact s_Mod_letterOf (by decide) hnm.1 p
  have hl32 := letN_lt (tV b n (j + 1)) 0
  refine ⟨fun _ => hC _ _ _ _ (c1 _ ⟨fun y => hC _ _ _ _ (c2 _ (hC _ _ _ _ (t_findS (c := 104) (L := 18) (a := 9) (m := T 0 3) (x := letN (tV b n (j + 1)) 0) (nm := T 5) rfl X1.ng (by decide) (by omega) (by omega) (fun i hi => by have := hT.1.gl i hi; omega) X1.gl (fun i hi1 hi2 => ⟨fun q => (iNN q (by omega)).elim, fun _ => hC _ _ _ _ (t_wrg P1 (fun m2 f2 a c => ⟨Or.inl rfl, rfl, ?_⟩))⟩) (fun hn => ⟨fun _ => ⟨9 + T 0 3, by omega, ?_, ?_⟩, fun q => absurd (show (-1 : Int32) < 0 by decide) q⟩)))), fun y => hC _ _ _ _ (t_wrg P1 (fun m2 f2 a c => ⟨Or.inl rfl, rfl, ?_⟩))⟩), fun q => absurd e8 q⟩
  · have y := iLE y
    exact hQ.er (by rw [if_pos (by have := hl.mpr; rcases Nat.eq_zero_or_pos (letN (tV b n (j + 1)) 1) with q | q; exact q; have := this (by omega); omega), if_pos (by omega)]) m2 (f1.wf.trans f2) a c
  · show nI 9 + m1 95 27 = _
    rw [X1.ng, nI_add]
  · have y := iLE y
    have hz1 : letN (tV b n (j + 1)) 1 = 0 := by
      rcases Nat.eq_zero_or_pos (letN (tV b n (j + 1)) 1) with q | q
      · exact q
      · have := hl.mpr (by omega); omega
    rw [if_pos hz1, if_neg (by omega)] at hQ
    have Xa := X1.t104 (x := nI (letN (tV b n (j + 1)) 0))
    have wa : WG mi (cu m1 104 (upd (m1 104) (9 + T 0 3) (nI (letN (tV b n (j + 1)) 0)))) := f1.wg.cu (wB_hi (by decide) (by decide) (show 9 ≤ 9 + T 0 3 by omega))
    refine hC _ _ _ _ (t_tok (mi := cu m1 104 (upd (m1 104) (9 + T 0 3) (nI (letN (tV b n (j + 1)) 0)))) (hE.wf wa.wf) (P1.mv rfl rfl rfl rfl) (fun m2 f2 P2 => ?_))
    have X2 := f2.f5.mx Xa
    have w2 := wa.trans f2.wg
    have rng : ∀ i, i < T 0 3 → 1 ≤ T 6 i ∧ T 6 i ≤ 511 := hT.1.gs
    refine hC _ _ _ _ (t_number (lo := 1) (hi := 511) (hE.wf w2.wf) P2 rfl rfl (by decide) (by decide) (fun e he m3 f3 a c => ⟨fun q => absurd (by decide) q, fun _ => ⟨Or.inl rfl, rfl, hQ.er ?_ m3 (w2.wf.trans f3) a c⟩⟩) (fun s he m3 f3 P3 g3 => ⟨fun _ => ?_, fun q => absurd q (by decide)⟩))
    · rw [if_neg (fun q => ?_), he]
      have hit : T 6 (nmF (T 6) (T 0 3) (tV b n (j + 1 + 1))) = tV b n (j + 1 + 1) := beq_iff_eq.mp (fnd_hit (p := fun i => T 6 i == tV b n (j + 1 + 1)) q.2)
      have := rng _ q.2
      unfold pNum at he
      rw [if_pos q.1, if_pos (by omega)] at he
      cases he
    · have hs := pNum_ok he
      have hsv : s = tV b n (j + 1 + 1) := by
        unfold pNum at he
        rw [if_pos hs.1] at he
        split at he
        · exact (Except.ok.inj he).symm
        · cases he
      have X3 := f3.mx X2
      have w3 := w2.trans f3.wg
      refine hC _ _ _ _ (t_findS (c := 105) (L := 18) (a := 9) (m := T 0 3) (x := s) (nm := T 6) g3 X3.ng (by decide) (by omega) (by omega) (fun i hi => by have := rng i hi; omega) X3.gs (fun i hi1 hi2 => ⟨fun q => (iNN q (by omega)).elim, fun _ => hC _ _ _ _ (t_wrong (fun m4 f4 a c => ⟨Or.inl rfl, rfl, ?_⟩))⟩) (fun hn => ⟨fun _ => ⟨9 + T 0 3, by omega, ?_, ⟨Or.inr rfl, rfl, ?_⟩⟩, fun q => absurd (show (-1 : Int32) < 0 by decide) q⟩))
      · refine hQ.er (by rw [if_pos ⟨hs.1, by rw [← hsv, hi1]; exact hi2⟩]) m4 ((w3.wf.cu rfl).trans f4) a ?_
        rw [c]
        show m2 95 10 = _
        exact P2.1
      · show nI 9 + m3 95 27 = _
        rw [X3.ng, nI_add]
      · have v104 : m3 104 (9 + T 0 3) = nI (letN (tV b n (j + 1)) 0) := by
          rw [f3.c (c := 104) (by decide), f2.c (c := 104) (by decide), cu_self, pk_us]
        refine hQ.ok (by rw [if_neg (by rw [← hsv, hn]; omega), he]) _ ((w3.cu (c := 105) (k := 9 + T 0 3) (x := m3 95 11) (wB_hi (by decide) (by decide) (show 9 ≤ 9 + T 0 3 by omega))).cu rfl) ((X3.t105 (x := m3 95 11)).gl1 ?_ v104 ?_) (P3.mv rfl rfl rfl rfl)
        · show m3 95 27 + nI 1 = _
          rw [X3.ng, nI_add]
        · rw [cu_self, pk_us]
          exact g3
  · have y := iNLE y
    exact hQ.er (by rw [if_neg (hl.mp (by omega))]) m2 (f1.wf.trans f2) a c
set_option maxHeartbeats 1000000 in
theorem t_linkLine (hE : TE b n mi) (hP : TP b n j mi) (hX : MX T mi) (hT : tOK T) (hv : ∀ j, tK b n j = 2 → nmOK (tV b n j)) (hQ : RQ b n rd mi ml Q (if T 0 8 = 3 then .error (2, psN b n j) else pLink (tK b n) (tV b n) (psN b n) T (j + 1))) : Cd (d + 4) k_Mod_linkLine [.ref 95] (mi, ml, R0 rd, 136) Q := by
  have h3 := hT.1.hl3
  have l3 := hT.1.lk3
  refine r_Mod_linkLine (by decide) (fun K Kl hK hC => ⟨fun z => hC _ _ _ _ (t_tok hE hP (fun m1 f1 P1 => ?_)), fun z => hC _ _ _ _ (t_wrg hP (fun m1 f1 a c => ⟨Or.inl rfl, rfl, hQ.er (if_pos (jEQ z hX.nl rfl)) m1 f1 a c⟩))⟩)
  have z := jNE z hX.nl rfl
  rw [if_neg z] at hQ
  unfold pLink at hQ
  have X1 := f1.f5.mx hX
  have E1 := hE.f4 f1
  have el : nI 9 + nI 3 * m1 95 32 = nI (9 + 3 * T 0 8) := by rw [X1.nl, pk_mul, nI_add]
  have hbn : ∀ i, T 9 i < 2 ^ 30 := fun i => (hT.1.nm 0 i).2.1
  have hidx0 : 9 + (3 * T 0 8 + 0) = 9 + 3 * T 0 8 := by omega
  refine hC _ _ _ _ (t_oldName (c := 108) (L := 6) (a := 3) (nm := T 9) E1 P1 X1.nh (by decide) (by omega) X1.hn hbn (fun q => (hv _ q).1) (fun e he m2 f2 a c => ⟨fun q => absurd (by decide) q, fun _ => ⟨Or.inl rfl, rfl, hQ.er (by rw [he]) m2 (f1.wf.trans f2) a c⟩⟩) (fun x he hx m2 f2 P2 g2 => ⟨fun _ => ⟨9 + 3 * T 0 8, by omega, el, ?_⟩, fun q => absurd q (by decide)⟩))
  rw [he] at hQ
  have X2 := f2.mx X1
  have w2 := f1.wg.trans f2.wg
  have X2a : MX T (cu m2 115 (upd (m2 115) (9 + 3 * T 0 8) (m2 95 11))) := X2.t115 (q := 0)
  have w2a : WG mi (cu m2 115 (upd (m2 115) (9 + 3 * T 0 8) (m2 95 11))) := w2.cu (wB_hi (by decide) (by decide) (show 9 ≤ 9 + 3 * T 0 8 by omega))
  have P2a : TP b n (j + 1 + 1) (cu m2 115 (upd (m2 115) (9 + 3 * T 0 8) (m2 95 11))) := P2.mv rfl rfl rfl rfl
  have E2a := hE.wf w2a.wf
  have hk2 := P2a.2.2.k8.2.2.1
  have hk9 := P2a.2.2.k8.2.2.2.2.2.2.1
  have at1 : cu m2 115 (upd (m2 115) (9 + 3 * T 0 8) (m2 95 11)) 95 10 = nI (psN b n (j + 1 + 1)) := P2a.1
  have vl : cu m2 115 (upd (m2 115) (9 + 3 * T 0 8) (m2 95 11)) 115 (9 + 3 * T 0 8) = nI x := by rw [cu_self, pk_us]; exact g2
  generalize cu m2 115 (upd (m2 115) (9 + 3 * T 0 8) (m2 95 11)) = M2 at X2a w2a P2a E2a hk2 hk9 at1 vl
  /- from the second name on -/
  have num : ∀ (y : Nat) (m3 : Nat → Nat → Int32), pOld (tK b n) (tV b n) (psN b n) (T 9) (T 0 5) (j + 1 + 1) = .ok y → y < T 0 5 → y ≠ x → F5 M2 m3 → TP b n (j + 1 + 1 + 1) m3 → m3 95 11 = nI y → ∀ t, t ≤ T 0 8 → (∀ q, q < t → (!((T 16 (3 * q) == x && T 16 (3 * q + 1) == y) || (T 16 (3 * q) == y && T 16 (3 * q + 1) == x))) = true) → ∀ v4, GoM (d + 3) k_Mod_linkLine 136 Q 133 [.ref 95, .int (nI 9 + nI 3 * m1 95 32), .int (M2 95 10), .int (nI (9 + 3 * t)), v4] [] (cu m3 115 (upd (m3 115) (9 + 3 * T 0 8 + 1) (m3 95 11)), ml, R0 rd, 136) := by
    intro y m3 he3 hy hne f3 P3 g3
    have X3 := f3.mx X2a
    have w3 := w2a.trans f3.wg
    have X3a : MX T (cu m3 115 (upd (m3 115) (9 + 3 * T 0 8 + 1) (m3 95 11))) := X3.t115 (q := 1)
    have w3a : WG mi (cu m3 115 (upd (m3 115) (9 + 3 * T 0 8 + 1) (m3 95 11))) := w3.cu (wB_hi (by decide) (by decide) (show 9 ≤ 9 + 3 * T 0 8 + 1 by omega))
    have P3a : TP b n (j + 1 + 1 + 1) (cu m3 115 (upd (m3 115) (9 + 3 * T 0 8 + 1) (m3 95 11))) := P3.mv rfl rfl rfl rfl
    have v0 : cu m3 115 (upd (m3 115) (9 + 3 * T 0 8 + 1) (m3 95 11)) 115 (9 + 3 * T 0 8) = nI x := by rw [cu_self, pk_un (by omega), f3.c (c := 115) (by decide)]; exact vl
    have v1 : cu m3 115 (upd (m3 115) (9 + 3 * T 0 8 + 1) (m3 95 11)) 115 (9 + 3 * T 0 8 + 1) = nI y := by rw [cu_self, pk_us]; exact g3
    have g3a : cu m3 115 (upd (m3 115) (9 + 3 * T 0 8 + 1) (m3 95 11)) 95 11 = nI y := g3
    rw [he3] at hQ
    simp only [if_neg hne] at hQ
    have e32 : m1 95 32 = nI (T 0 8) := X1.nl
    generalize cu m3 115 (upd (m3 115) (9 + 3 * T 0 8 + 1) (m3 95 11)) = M3 at X3a w3a P3a v0 v1 g3a
    refine upto ?_ ?_
    · intro hall v4
      have hno : lkN T x y = false := by unfold lkN; rw [allN_iff.mpr hall]; rfl
      rw [hno] at hQ
      refine g_Mod_linkLine (fun K Kl hK hC => ⟨fun _ => hC _ _ _ _ (t_number (lo := 1) (hi := 20) (hE.wf w3a.wf) P3a rfl rfl (by decide) (by decide) (fun e he4 m4 f4 a c => ⟨fun q => absurd (by decide) q, fun _ => ⟨Or.inl rfl, rfl, hQ.er (by rw [if_neg (by decide)]; simp only [he4]) m4 (w3a.wf.trans f4) a c⟩⟩) (fun w he4 m4 f4 P4 g4 => ⟨fun _ => ⟨9 + 3 * T 0 8 + 2, by omega, ?_, ⟨Or.inr rfl, rfl, ?_⟩⟩, fun q => absurd q (by decide)⟩)), fun q => ?_⟩)
      · show nI 9 + nI 3 * m1 95 32 + nI 2 = _
        rw [el, nI_add]
      · have X4 := f4.mx X3a
        refine hQ.ok (by rw [if_neg (by decide)]; simp only [he4]; rfl) _ (((w3a.trans f4.wg).cu (c := 115) (k := 9 + 3 * T 0 8 + 2) (x := m4 95 11) (wB_hi (by decide) (by decide) (show 9 ≤ 9 + 3 * T 0 8 + 2 by omega))).cu rfl) (MX.lk1 (X4.t115 (q := 2)) ?_ ?_ ?_ ?_) (P4.mv rfl rfl rfl rfl)
        · show m4 95 32 + nI 1 = _
          rw [X4.nl, nI_add]
        · rw [cu_self, pk_un (by omega), f4.c (c := 115) (by decide)]
          exact v0
        · rw [cu_self, pk_un (by omega), f4.c (c := 115) (by decide)]
          exact v1
        · rw [cu_self, pk_us]
          exact g4
      · have q : ¬ nI 9 + nI 3 * m1 95 32 ≤ nI (9 + 3 * T 0 8) := q
        rw [el] at q
        exact absurd (iNLE q) (by omega)
    · intro t ht ih hall v4
      have lk := hT.1.lk t ht
      have a0 : M3 115 (9 + 3 * t) = nI (T 16 (3 * t)) := X3a.lk (3 * t) (by omega)
      have a1 : M3 115 (9 + 3 * t + 1) = nI (T 16 (3 * t + 1)) := by rw [Nat.add_assoc]; exact X3a.lk (3 * t + 1) (by omega)
      have i1 : nI (9 + 3 * t) + nI 1 = nI (9 + 3 * t + 1) := nI_add _ _
      have keep : ¬ ((T 16 (3 * t) = x ∧ T 16 (3 * t + 1) = y) ∨ (T 16 (3 * t) = y ∧ T 16 (3 * t + 1) = x)) → GoM (d + 3) k_Mod_linkLine 136 Q 133 [.ref 95, .int (nI 9 + nI 3 * m1 95 32), .int (M2 95 10), .int (nI (9 + 3 * t) + nI 3), .int (nI 0)] [] (M3, ml, R0 rd, 136) := fun hn => by
        have ih := ih (lt_s hall (by
          simp only [Bool.not_eq_true', Bool.or_eq_false_iff, Bool.and_eq_false_iff, beq_eq_false_iff_ne]
          omega)) (.int (nI 0))
        rw [show 9 + 3 * (t + 1) = 9 + 3 * t + 3 by omega, ← nI_add (9 + 3 * t) 3] at ih
        exact ih
      have hit : ((T 16 (3 * t) = x ∧ T 16 (3 * t + 1) = y) ∨ (T 16 (3 * t) = y ∧ T 16 (3 * t + 1) = x)) → ∀ m9, WF (cu M3 95 (upd (M3 95) 10 (M2 95 10))) m9 → m9 95 4 = nI 3 → m9 95 5 = cu M3 95 (upd (M3 95) 10 (M2 95 10)) 95 10 → Q (some (.int (nI 0))) (m9, ml, R0 rd, 136) := fun hh m9 f9 a c => by
        have hyes : lkN T x y = true := by
          unfold lkN
          rw [allN_not ht (by
            simp only [Bool.not_eq_false', Bool.or_eq_true, Bool.and_eq_true, beq_iff_eq]
            exact hh)]
          rfl
        refine hQ.er (by rw [hyes]; rfl) m9 ((w3a.wf.cu rfl).trans f9) a ?_
        rw [c, cu_self, pk_us]
        exact at1
      refine g_Mod_linkLine (fun K Kl hK hC => ⟨fun q => ?_, fun _ => ⟨9 + 3 * t, by omega, rfl, ⟨9 + 3 * T 0 8, by omega, el, ⟨fun q1 => ⟨9 + 3 * t, by omega, rfl, ⟨fun q3 => ⟨fun a => absurd (by decide) a, fun _ => hK _ _ _ _ (keep ?_)⟩, fun q3 => ⟨9 + 3 * t + 1, by omega, i1, ⟨9 + 3 * T 0 8, by omega, el, ⟨fun q4 => ⟨fun a => absurd (by decide) a, fun _ => hK _ _ _ _ (keep ?_)⟩, fun q4 => ⟨fun _ => hC _ _ _ _ (t_wrong (fun m9 f9 a c => ⟨Or.inl rfl, rfl, hit ?_ m9 f9 a c⟩)), fun a => absurd a (by decide)⟩⟩⟩⟩⟩⟩, fun q1 => ⟨9 + 3 * t + 1, by omega, i1, ⟨fun q2 => ⟨fun _ => hC _ _ _ _ (t_wrong (fun m9 f9 a c => ⟨Or.inl rfl, rfl, hit ?_ m9 f9 a c⟩)), fun a => absurd a (by decide)⟩, fun q2 => ⟨9 + 3 * t, by omega, rfl, ⟨fun q3 => ⟨fun a => absurd (by decide) a, fun _ => hK _ _ _ _ (keep ?_)⟩, fun q3 => ⟨9 + 3 * t + 1, by omega, i1, ⟨9 + 3 * T 0 8, by omega, el, ⟨fun q4 => ⟨fun a => absurd (by decide) a, fun _ => hK _ _ _ _ (keep ?_)⟩, fun q4 => ⟨fun _ => hC _ _ _ _ (t_wrong (fun m9 f9 a c => ⟨Or.inl rfl, rfl, hit ?_ m9 f9 a c⟩)), fun a => absurd a (by decide)⟩⟩⟩⟩⟩⟩⟩⟩⟩⟩⟩⟩)
      · have q : nI 9 + nI 3 * m1 95 32 ≤ nI (9 + 3 * t) := q
        rw [el] at q
        exact absurd (iLE q) (by omega)
      · have q1 := jNE q1 a0 v0
        have q3 := jNE q3 a0 g3a
        omega
      · have q1 := jNE q1 a0 v0
        have q4 := jNE q4 a1 v0
        omega
      · have q3 := jEQ q3 a0 g3a
        have q4 := jEQ q4 a1 v0
        omega
      · have q1 := jEQ q1 a0 v0
        have q2 := jEQ q2 a1 g3a
        omega
      · have q1 := jEQ q1 a0 v0
        have q2 := jNE q2 a1 g3a
        have q3 := jNE q3 a0 g3a
        omega
      · have q1 := jEQ q1 a0 v0
        have q2 := jNE q2 a1 g3a
        have q4 := jNE q4 a1 v0
        omega
      · have q3 := jEQ q3 a0 g3a
        have q4 := jEQ q4 a1 v0
        omega
  have two : ∀ P : Option Value → Mm → Prop, (∀ e, pOld (tK b n) (tV b n) (psN b n) (T 9) (T 0 5) (j + 1 + 1) = .error e → ∀ m3, WF M2 m3 → m3 95 4 = nI e.1 → m3 95 5 = nI e.2 → P (some (.int (nI 0))) (m3, ml, R0 rd, 136)) → (∀ y, pOld (tK b n) (tV b n) (psN b n) (T 9) (T 0 5) (j + 1 + 1) = .ok y → y < T 0 5 → ∀ m3, F5 M2 m3 → TP b n (j + 1 + 1 + 1) m3 → m3 95 11 = nI y → P (some (.int (nI 1))) (m3, ml, R0 rd, 136)) → Cd (d + 3) k_Mod_oldName [.ref 95, .ref 108, .int (nI 3), .int (M2 95 29)] (M2, ml, R0 rd, 136) P := fun P pe po => t_oldName (c := 108) (L := 6) (a := 3) (nm := T 9) E2a P2a X2a.nh (by decide) (by omega) X2a.hn hbn (fun q => (hv _ q).1) pe po
  have i1 : nI 9 + nI 3 * m1 95 32 + nI 1 = nI (9 + 3 * T 0 8 + 1) := by rw [el, nI_add]
  have rest : (∀ y, pOld (tK b n) (tV b n) (psN b n) (T 9) (T 0 5) (j + 1 + 1) = .ok y → y ≠ x) → ∀ (m3 : Nat → Nat → Int32) (y : Nat), pOld (tK b n) (tV b n) (psN b n) (T 9) (T 0 5) (j + 1 + 1) = .ok y → y < T 0 5 → F5 M2 m3 → TP b n (j + 1 + 1 + 1) m3 → m3 95 11 = nI y → ∀ v4, GoM (d + 3) k_Mod_linkLine 136 Q 133 [.ref 95, .int (nI 9 + nI 3 * m1 95 32), .int (M2 95 10), .int (nI 9), v4] [] (cu m3 115 (upd (m3 115) (9 + 3 * T 0 8 + 1) (m3 95 11)), ml, R0 rd, 136) := fun hne m3 y he3 hy f3 P3 g3 v4 => num y m3 he3 hy (hne y he3) f3 P3 g3 0 (Nat.zero_le _) lt_0 v4
  by_cases k2 : tK b n (j + 1 + 1) = 2
  · have e9 := hk9 k2
    have hb9 := (hv _ k2).1
    refine ⟨fun q => absurd (hk2.mpr k2) q, fun _ => hC _ _ _ _ (t_findS (c := 108) (L := 6) (a := 3) (m := T 0 5) (x := tV b n (j + 1 + 1)) (nm := T 9) e9 X2a.nh (by decide) (by omega) (by omega) (fun i _ => by have := hbn i; omega) X2a.hn (fun i hi1 hi2 => ⟨9 + 3 * T 0 8, by omega, el, ⟨fun q => ?_, fun q => hC _ _ _ _ (t_wrg P2a (fun m9 f9 a c => ⟨Or.inl rfl, rfl, ?_⟩))⟩⟩) (fun hn => ⟨9 + 3 * T 0 8, by omega, el, ⟨fun q => ?_, fun q => ?_⟩⟩))⟩
    · have q := jNE q rfl vl
      have hne : ∀ y, pOld (tK b n) (tV b n) (psN b n) (T 9) (T 0 5) (j + 1 + 1) = .ok y → y ≠ x := fun y hy => by
        unfold pOld at hy
        rw [if_pos k2, if_pos (by omega)] at hy
        have := Except.ok.inj hy
        omega
      exact hC _ _ _ _ (two _ (fun e he3 m3 f3 a c => ⟨fun q => absurd (by decide) q, fun _ => ⟨Or.inl rfl, rfl, hQ.er (by simp only [he3]) m3 (w2a.wf.trans f3) a c⟩⟩) (fun y he3 hy m3 f3 P3 g3 => ⟨fun _ => ⟨9 + 3 * T 0 8 + 1, by omega, i1, hK _ _ _ _ (rest hne m3 y he3 hy f3 P3 g3 _)⟩, fun q => absurd q (by decide)⟩))
    · have q := jEQ q rfl vl
      have ho : pOld (tK b n) (tV b n) (psN b n) (T 9) (T 0 5) (j + 1 + 1) = .ok i := by
        unfold pOld
        rw [if_pos k2, if_pos (by omega), hi1]
      exact hQ.er (e := (5, psN b n (j + 1 + 1))) (by simp only [ho, if_pos q]) m9 (w2a.wf.trans f9) a c
    · have hne : ∀ y, pOld (tK b n) (tV b n) (psN b n) (T 9) (T 0 5) (j + 1 + 1) = .ok y → y ≠ x := fun y hy => by
        unfold pOld at hy
        rw [if_pos k2, if_neg (by omega)] at hy
        cases hy
      exact hC _ _ _ _ (two _ (fun e he3 m3 f3 a c => ⟨fun q => absurd (by decide) q, fun _ => ⟨Or.inl rfl, rfl, hQ.er (by simp only [he3]) m3 (w2a.wf.trans f3) a c⟩⟩) (fun y he3 hy m3 f3 P3 g3 => ⟨fun _ => ⟨9 + 3 * T 0 8 + 1, by omega, i1, hK _ _ _ _ (rest hne m3 y he3 hy f3 P3 g3 _)⟩, fun q => absurd q (by decide)⟩))
    · have q : (-1 : Int32) = M2 115 (9 + 3 * T 0 8) := q
      rw [vl] at q
      exact (i_neg_ne (show (-1 : Int32) < 0 by decide) (show x < 2 ^ 31 by omega) q).elim
  · have hne : ∀ y, pOld (tK b n) (tV b n) (psN b n) (T 9) (T 0 5) (j + 1 + 1) = .ok y → y ≠ x := fun y hy => by
      unfold pOld at hy
      rw [if_neg k2] at hy
      cases hy
    exact ⟨fun _ => hC _ _ _ _ (two _ (fun e he3 m3 f3 a c => ⟨fun q => absurd (by decide) q, fun _ => ⟨Or.inl rfl, rfl, hQ.er (by simp only [he3]) m3 (w2a.wf.trans f3) a c⟩⟩) (fun y he3 hy m3 f3 P3 g3 => ⟨fun _ => ⟨9 + 3 * T 0 8 + 1, by omega, i1, hK _ _ _ _ (rest hne m3 y he3 hy f3 P3 g3 _)⟩, fun q => absurd q (by decide)⟩)), fun q => absurd (hk2.mp q) k2⟩
end
