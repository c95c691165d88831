/-! THE READER: the law, a listed line, a line told once (the class) -/
section
variable {d : Nat} {Q : Option Value → Mm → Prop} {T : Nat → Nat → Nat} {k v p : Nat → Nat} {m j : Nat} {mi : Nat → Nat → Int32} {ml : Nat → Nat → Int64} {o l : Nat}
set_option maxHeartbeats 1000000 in
theorem s_readLaw (ho : o = 0 ∨ o = 31) (hR : RE k v p m mi) (hj : j ≤ m) (ej : mi 68 4 = nI j) (hX : CX o T l mi ml) (hz : T 0 9 = 0) (hQ : LQ o l m mi ml Q (pLawL k v p T j)) : Cd (d + 4) k_Reader_readLaw [.ref 68] (mi, ml, R0 (some (6 + o)), 136) Q := by
  unfold pLawL at hQ
  have ho2 := ho
  have h7 := hR.1
  have hb := hR.2.2.2.1 j
  have lp : ∀ f i j1 T c op q W m1 v2, f + i = 701 → j1 = j + 1 + i → j1 ≤ m → RF o mi m1 → CX o T l m1 ml → LZ j1 c op q W mi m1 → LI T c op q W → LQ o l m mi ml Q (pLaw k v p f T c op q W j1) → GoM (d + 3) k_Reader_readLaw 136 Q 41 [.ref 68, .int (nI i), v2] [] (m1, ml, R0 (some (6 + o)), 136) := by
    intro f
    induction f with
    | zero => intro i j1 T c op q W m1 v2 h1 h2 h3; omega
    | succ f ih =>
      intro i j1 T c op q W m1 v2 h1 h2 h3 f1 hX1 hL1 hI hQ
      have hR1 := hR.rf f1
      have hkb := hR.2.2.2.1 j1
      have e7 := hL1.2.2.2.1
      have next : ∀ T' c' o' q' W' m2 v2, k j1 ≠ 0 → RF o m1 m2 → CX o T' l m2 ml → LZ j1 c' o' q' W' mi m2 → LI T' c' o' q' W' → LQ o l m mi ml Q (pLaw k v p f T' c' o' q' W' (j1 + 1)) → ∀ m3, Fr [68] m2 m3 → RS (j1 + 1) m2 m3 → (∀ c, c ≠ 4 → m3 68 c = m2 68 c) → GoM (d + 3) k_Reader_readLaw 136 Q 41 [.ref 68, .int (nI i + nI 1), v2] [] (m3, ml, R0 (some (6 + o)), 136) := by
        intro T' c' o' q' W' m2 v2 hk0 f2 hX2 hL2 hI2 hQ2 m3 f3 r3 g3
        have hlt := hR.lt h3 hk0
        rw [← nI1]
        refine ih (i + 1) (j1 + 1) T' c' o' q' W' m3 v2 (by omega) (by omega) (by omega) ((f1.trans f2).trans f3.rf) (hX2.f68 ho f3) ⟨hL2.1.trans r3, ?_, ?_, ?_, ?_, ?_⟩ hI2 hQ2
        · rw [g3 5 (by decide)]; exact hL2.2.1
        · rw [g3 6 (by decide)]; exact hL2.2.2.1
        · rw [g3 7 (by decide)]; exact hL2.2.2.2.1
        · rw [g3 9 (by decide)]; exact hL2.2.2.2.2.1
        · rw [f3 69 rfl]; exact hL2.2.2.2.2.2
      have end1 : q = false → op = 0 → k j1 = 4 → ∀ P : Option Value → Mm → Prop, (∀ m2, RF o mi m2 → CX o (stlN 1 W T).2 l m2 ml → RS j1 mi m2 → P none (m2, ml, R0 (some (6 + o)), 136)) → Cd (d + 3) k_Reader_settle [.ref 68, .int (nI 1)] (m1, ml, R0 (some (6 + o)), 136) P := by
        intro hq hop _ P hP
        subst hq
        exact c_settle ho rfl (by decide) (by decide) hX1 hL1 hI (fun m2 f2 hX2 hL2 => hP m2 (f1.trans f2) hX2 hL2.1)
      refine g_Reader_readLaw ?_
      rcases ho with rfl | rfl
      all_goals
        intro K Kl hK hC
        refine ⟨fun z => absurd (iLE z) (by omega), fun _ => hC _ _ _ _ (s_isLawOver hR1 h3 hL1 hI.2.2.1 (fun hq hop hk4 => ⟨fun _ => ?_, fun z => absurd z (by decide)⟩) (fun hno => ⟨fun z => absurd (by decide) z, fun _ => ⟨fun z7 => ?_, fun z7 => ?_⟩⟩))⟩
        · subst hq
          rw [pLaw_f, if_pos ⟨hop, hk4⟩] at hQ
          exact hC _ _ _ _ (end1 rfl hop hk4 _ (fun m2 f2 hX2 hS2 => ⟨Or.inr rfl, rfl, hQ h3 m2 ml f2 RF.none hX2 hS2⟩))
        · have hq : q = false := by
            cases q with
            | false => rfl
            | true =>
              have z7 : m1 68 7 = 0 := z7
              rw [e7] at z7
              exact absurd z7 (by decide)
          subst hq
          have hno : ¬ (op = 0 ∧ k j1 = 4) := hno.elim (fun z => absurd z (by decide)) id
          rw [pLaw_f, if_neg hno] at hQ
          refine hC _ _ _ _ (s_readSignBehind ho2 hR1 h3 hX1 hL1 hI ?_)
          cases hv : pSgn k v p T c op W j1 with
          | error e =>
            rw [hv] at hQ
            exact fun m2 f2 a b => ⟨fun z => absurd (by decide) z, fun _ => ⟨Or.inl rfl, rfl, hQ m2 ml (f1.trans f2) RF.none a b⟩⟩
          | ok r =>
            obtain ⟨T', c', o', q', W'⟩ := r
            rw [hv] at hQ
            refine fun m2 f2 hX2 hL2 => ⟨fun _ => hC _ _ _ _ (s_goOn ((hR1).rf f2) (hR.lt h3 (sgn_lx hv).2) hL2.1.1 (fun m3 f3 r3 g3 => hK _ _ _ _ (next T' c' o' q' W' m2 _ (sgn_lx hv).2 f2 hX2 hL2 (LI_sgn hI hkb.1 hv) hQ m3 f3 r3 g3))), fun z => absurd z (by decide)⟩
        · have hq : q = true := by
            cases q with
            | true => rfl
            | false =>
              have z7 : ¬ m1 68 7 = 0 := z7
              rw [e7] at z7
              exact absurd (by decide) z7
          subst hq
          rw [pLaw_t] at hQ
          refine hC _ _ _ _ (s_readValue ho2 hR1 h3 hX1 hL1 hI ?_)
          cases hv : pVal k v p T c op W j1 with
          | error e =>
            rw [hv] at hQ
            exact fun m2 f2 a b => ⟨fun z => absurd (by decide) z, fun _ => ⟨Or.inl rfl, rfl, hQ m2 ml (f1.trans f2) RF.none a b⟩⟩
          | ok r =>
            obtain ⟨T', c', o', q', W'⟩ := r
            rw [hv] at hQ
            refine fun m2 f2 hX2 hL2 => ⟨fun _ => hC _ _ _ _ (s_goOn ((hR1).rf f2) (hR.lt h3 (val_lx hv).2) hL2.1.1 (fun m3 f3 r3 g3 => hK _ _ _ _ (next T' c' o' q' W' m2 _ (val_lx hv).2 f2 hX2 hL2 (LI_val hI hv) hQ m3 f3 r3 g3))), fun z => absurd z (by decide)⟩
  refine r_Reader_readLaw (by decide) ?_
  have lp0 := lp 701 0 (j + 1) T 0 0 true []
  rcases ho with rfl | rfl
  all_goals
    intro K Kl hK hC
    refine hC _ _ _ _ (s_kindHere hR hj ej ⟨fun z => ?_, fun z => ?_⟩)
    · have z := iEQ z
      simp only [if_pos z] at hQ
      have hlt := hR.lt hj (by omega)
      refine hC _ _ _ _ (s_goOn hR hlt ej (fun m1 f1 r1 g1 => ⟨Or.inr rfl, hK _ _ _ _ (lp0 _ _ rfl rfl (by omega) ((((f1.rf.cu (by omega)).cu (by omega)).cu (by omega)).cu (by omega)) ((((hX.f68 ho2 f1).f68 ho2 (Fr.cu Fr.none rfl)).f68 ho2 (Fr.cu Fr.none rfl)).f68 ho2 (Fr.cu Fr.none rfl) |>.f68 ho2 (Fr.cu Fr.none rfl)) ⟨⟨r1.1, r1.2.1, r1.2.2⟩, rfl, rfl, rfl, rfl, trivial⟩ (LI_0 hz) hQ)⟩))
    · have z := iNE z
      simp only [if_neg z] at hQ
      exact hC _ _ _ _ (s_refused hR hj ej (fun m9 g9 a9 b9 => ⟨Or.inl rfl, rfl, hQ m9 ml g9.rf RF.none a9 b9⟩))
set_option maxHeartbeats 2000000 in
theorem s_isFull (ho : o = 0 ∨ o = 31) (hX : CX o T l mi ml) (hT : tOK T) {kd : Nat} (hkd : kd ≤ 45) (h1 : fulN T kd = true → Q (some (.int (nI 1))) (mi, ml, R0 (some (6 + o)), 136)) (h0 : fulN T kd = false → Q (some (.int (nI 0))) (mi, ml, R0 (some (6 + o)), 136)) : Cd (d + 1) k_Reader_isFull [.ref 68, .int (nI kd)] (mi, ml, R0 (some (6 + o)), 136) Q := by
  have hw := hT.1
  have b13 := hT.2.2.2.2.1
  have b2 := hw.own5; have b3 := hw.gl9; have b4 := hw.wd6; have b5 := hw.hl3; have b6 := hw.co4; have b7 := hw.sg5; have b8 := hw.lk3
  refine r_Reader_isFull (by decide) ?_
  rcases ho with rfl | rfl
  all_goals
    intro K Kl hK hC
    refine ⟨fun h21 => ⟨fun z => ⟨Or.inl rfl, rfl, ?_⟩, fun z => ⟨Or.inr rfl, rfl, ?_⟩⟩, fun h21 => swP_c (fun h22 => ⟨fun z => ⟨Or.inl rfl, rfl, ?_⟩, fun z => ⟨Or.inr rfl, rfl, ?_⟩⟩) (fun h22 => swP_c (fun h23 => ⟨fun z => ⟨Or.inl rfl, rfl, ?_⟩, fun z => ⟨Or.inr rfl, rfl, ?_⟩⟩) (fun h23 => swP_c (fun h24 => ⟨fun z => ⟨Or.inl rfl, rfl, ?_⟩, fun z => ⟨Or.inr rfl, rfl, ?_⟩⟩) (fun h24 => swP_c (fun h25 => ⟨fun z => ⟨Or.inl rfl, rfl, ?_⟩, fun z => ⟨Or.inr rfl, rfl, ?_⟩⟩) (fun h25 => swP_c (fun h26 => ⟨fun z => ⟨Or.inl rfl, rfl, ?_⟩, fun z => ⟨Or.inr rfl, rfl, ?_⟩⟩) (fun h26 => swP_c (fun h27 => ⟨fun z => ⟨Or.inl rfl, rfl, ?_⟩, fun z => ⟨Or.inr rfl, rfl, ?_⟩⟩) (fun h27 => swP_n ⟨fun z => ⟨Or.inl rfl, rfl, ?_⟩, fun z => ⟨Or.inr rfl, rfl, ?_⟩⟩))))))⟩
    · have z := jLT z (hX.1.owners)
      refine h0 ?_
      have hk := iEQ h21
      subst hk
      show (T 0 2 == 5) = false
      simp
      omega
    · have z := jNLT z (hX.1.owners)
      refine h1 ?_
      have hk := iEQ h21
      subst hk
      show (T 0 2 == 5) = true
      simp
      omega
    · have z := jLT z (hX.2.1)
      refine h0 ?_
      have hk := iEQ h22
      subst hk
      show (T 0 13 == 9) = false
      simp
      omega
    · have z := jNLT z (hX.2.1)
      refine h1 ?_
      have hk := iEQ h22
      subst hk
      show (T 0 13 == 9) = true
      simp
      omega
    · have z := jLT z (hX.1.glyphs)
      refine h0 ?_
      have hk := iEQ h23
      subst hk
      show (T 0 3 == 9) = false
      simp
      omega
    · have z := jNLT z (hX.1.glyphs)
      refine h1 ?_
      have hk := iEQ h23
      subst hk
      show (T 0 3 == 9) = true
      simp
      omega
    · have z := jLT z (hX.1.words)
      refine h0 ?_
      have hk := iEQ h24
      subst hk
      show (T 0 4 == 6) = false
      simp
      omega
    · have z := jNLT z (hX.1.words)
      refine h1 ?_
      have hk := iEQ h24
      subst hk
      show (T 0 4 == 6) = true
      simp
      omega
    · have z := jLT z (hX.1.hills)
      refine h0 ?_
      have hk := iEQ h25
      subst hk
      show (T 0 5 == 3) = false
      simp
      omega
    · have z := jNLT z (hX.1.hills)
      refine h1 ?_
      have hk := iEQ h25
      subst hk
      show (T 0 5 == 3) = true
      simp
      omega
    · have z := jLT z (hX.1.colours)
      refine h0 ?_
      have hk := iEQ h26
      subst hk
      show (T 0 6 == 4) = false
      simp
      omega
    · have z := jNLT z (hX.1.colours)
      refine h1 ?_
      have hk := iEQ h26
      subst hk
      show (T 0 6 == 4) = true
      simp
      omega
    · have z := jLT z (hX.1.signs)
      refine h0 ?_
      have hk := iEQ h27
      subst hk
      show (T 0 7 == 5) = false
      simp
      omega
    · have z := jNLT z (hX.1.signs)
      refine h1 ?_
      have hk := iEQ h27
      subst hk
      show (T 0 7 == 5) = true
      simp
      omega
    · have z := jLT z (hX.1.links)
      refine h0 ?_
      unfold fulN
      rw [if_neg (iNE h21), if_neg (iNE h22), if_neg (iNE h23), if_neg (iNE h24), if_neg (iNE h25), if_neg (iNE h26), if_neg (iNE h27)]
      simp
      omega
    · have z := jNLT z (hX.1.links)
      refine h1 ?_
      unfold fulN
      rw [if_neg (iNE h21), if_neg (iNE h22), if_neg (iNE h23), if_neg (iNE h24), if_neg (iNE h25), if_neg (iNE h26), if_neg (iNE h27)]
      simp
      omega
theorem LQ.cv {m0 : Nat} {mi1 : Nat → Nat → Int32} {P : Option Value → Mm → Prop} {r : Except (Nat × Nat) ((Nat → Nat → Nat) × Nat)} (h : LQ o l m0 mi ml Q r) (f1 : RF o mi mi1) (r1 : mi1 68 0 = mi 68 0 ∧ mi1 68 1 = mi 68 1) (h0 : ∀ mi' ml', Q (some (.int (nI 0))) (mi', ml', R0 (some (6 + o)), 136) → P (some (.int (nI 0))) (mi', ml', R0 (some (6 + o)), 136)) (h1 : ∀ mi' ml', Q (some (.int (nI 1))) (mi', ml', R0 (some (6 + o)), 136) → P (some (.int (nI 1))) (mi', ml', R0 (some (6 + o)), 136)) : LQ o l m0 mi1 ml P r := by
  cases r with
  | error e => exact fun mi' ml' g1 g2 a b => h0 _ _ (h mi' ml' (f1.trans g1) g2 a b)
  | ok q =>
    obtain ⟨T', j'⟩ := q
    exact fun hm mi' ml' g1 g2 hX hS => h1 _ _ (h hm mi' ml' (f1.trans g1) g2 hX ⟨hS.1, hS.2.1.trans r1.1, hS.2.2.trans r1.2⟩)
set_option maxHeartbeats 2000000 in
theorem s_readListed (ho : o = 0 ∨ o = 31) (hR : RE k v p m mi) (hj : j ≤ m) (ej : mi 68 4 = nI j) (hX : CX o T l mi ml) (hT : tOK T) (hk1 : k j ≠ 0) {kd : Nat} (hkd : 21 ≤ kd ∧ kd ≤ 28) (hQ : LQ o l m mi ml Q (if fulN T kd then .error (2, p j) else pList k v p T kd (j + 1))) : Cd (d + 5) k_Reader_readListed [.ref 68, .int (nI kd)] (mi, ml, R0 (some (6 + o)), 136) Q := by
  have ho2 := ho
  have hw := hT.1
  have b13 := hT.2.2.2.2.1
  have b2 := hw.own5; have b3 := hw.gl9; have b4 := hw.wd6; have b5 := hw.hl3; have b6 := hw.co4; have b7 := hw.sg5; have b8 := hw.lk3
  have hlt0 := hR.lt hj hk1
  refine r_Reader_readListed (by decide) ?_
  rcases ho with rfl | rfl
  all_goals
    intro K Kl hK hC
    refine hC _ _ _ _ (s_isFull ho2 hX hT (by omega) (fun hf => ⟨fun z => absurd z (by decide), fun _ => ?_⟩) (fun hf => ⟨fun _ => ?_, fun z => absurd (by decide) z⟩))
    · rw [if_pos hf] at hQ
      exact hC _ _ _ _ (s_refused hR hj ej (fun m9 g9 a9 b9 => ⟨Or.inl rfl, rfl, hQ m9 ml g9.rf RF.none a9 b9⟩))
    · rw [if_neg (by rw [hf]; decide)] at hQ
      refine hC _ _ _ _ (s_goOn hR hlt0 ej (fun m1 f1 r1 _ => ?_))
      have hR1 := hR.f68 f1
      have hX1 := hX.f68 ho2 f1
      refine ⟨fun h21 => ?_, fun h21 => swP_c (fun h22 => ?_) (fun h22 => swP_c (fun h23 => ?_) (fun h23 => swP_c (fun h24 => ?_) (fun h24 => swP_c (fun h25 => ?_) (fun h25 => swP_c (fun h26 => ?_) (fun h26 => swP_c (fun h27 => ?_) (fun h27 => swP_n ?_))))))⟩
      · have hk := iEQ h21
        have hlt : T 0 2 < 5 := by
          have := hf
          rw [hk] at this
          have : (T 0 2 == 5) = false := this
          simp at this
          omega
        refine hC _ _ _ _ (s_readOwner ho2 hR1 (by omega) r1.1 hX1 hw hlt (LQ.cv (by rw [hk] at hQ; exact hQ) f1.rf r1.2 (fun _ _ h => ⟨Or.inl rfl, rfl, h⟩) (fun _ _ h => ⟨Or.inr rfl, rfl, h⟩)))
      · have hk := iEQ h22
        have hlt : T 0 13 < 9 := by
          have := hf
          rw [hk] at this
          have : (T 0 13 == 9) = false := this
          simp at this
          omega
        refine hC _ _ _ _ (s_readStrip ho2 hR1 (by omega) r1.1 hX1 hw (LQ.cv (by rw [hk] at hQ; exact hQ) f1.rf r1.2 (fun _ _ h => ⟨Or.inl rfl, rfl, h⟩) (fun _ _ h => ⟨Or.inr rfl, rfl, h⟩)))
      · have hk := iEQ h23
        have hlt : T 0 3 < 9 := by
          have := hf
          rw [hk] at this
          have : (T 0 3 == 9) = false := this
          simp at this
          omega
        refine hC _ _ _ _ (s_readGlyph ho2 hR1 (by omega) r1.1 hX1 hw hlt (LQ.cv (by rw [hk] at hQ; exact hQ) f1.rf r1.2 (fun _ _ h => ⟨Or.inl rfl, rfl, h⟩) (fun _ _ h => ⟨Or.inr rfl, rfl, h⟩)))
      · have hk := iEQ h24
        have hlt : T 0 4 < 6 := by
          have := hf
          rw [hk] at this
          have : (T 0 4 == 6) = false := this
          simp at this
          omega
        refine hC _ _ _ _ (s_readWord ho2 hR1 (by omega) r1.1 hX1 hw hlt (LQ.cv (by rw [hk] at hQ; exact hQ) f1.rf r1.2 (fun _ _ h => ⟨Or.inl rfl, rfl, h⟩) (fun _ _ h => ⟨Or.inr rfl, rfl, h⟩)))
      · have hk := iEQ h25
        have hlt : T 0 5 < 3 := by
          have := hf
          rw [hk] at this
          have : (T 0 5 == 3) = false := this
          simp at this
          omega
        refine hC _ _ _ _ (s_readHill ho2 hR1 (by omega) r1.1 hX1 hw hlt (LQ.cv (by rw [hk] at hQ; exact hQ) f1.rf r1.2 (fun _ _ h => ⟨Or.inl rfl, rfl, h⟩) (fun _ _ h => ⟨Or.inr rfl, rfl, h⟩)))
      · have hk := iEQ h26
        have hlt : T 0 6 < 4 := by
          have := hf
          rw [hk] at this
          have : (T 0 6 == 4) = false := this
          simp at this
          omega
        refine hC _ _ _ _ (s_readWash ho2 hR1 (by omega) r1.1 hX1 hw hlt (LQ.cv (by rw [hk] at hQ; exact hQ) f1.rf r1.2 (fun _ _ h => ⟨Or.inl rfl, rfl, h⟩) (fun _ _ h => ⟨Or.inr rfl, rfl, h⟩)))
      · have hk := iEQ h27
        have hlt : T 0 7 < 5 := by
          have := hf
          rw [hk] at this
          have : (T 0 7 == 5) = false := this
          simp at this
          omega
        refine hC _ _ _ _ (s_readSign ho2 hR1 (by omega) r1.1 hX1 hw hlt (LQ.cv (by rw [hk] at hQ; exact hQ) f1.rf r1.2 (fun _ _ h => ⟨Or.inl rfl, rfl, h⟩) (fun _ _ h => ⟨Or.inr rfl, rfl, h⟩)))
      · have hlt : T 0 8 < 3 := by
          have := hf
          unfold fulN at this
          rw [if_neg (iNE h21), if_neg (iNE h22), if_neg (iNE h23), if_neg (iNE h24), if_neg (iNE h25), if_neg (iNE h26), if_neg (iNE h27)] at this
          simp at this
          omega
        refine hC _ _ _ _ (s_readLink ho2 hR1 (by omega) r1.1 hX1 hw hlt (LQ.cv (by unfold pList at hQ; rw [if_neg (iNE h21), if_neg (iNE h22), if_neg (iNE h23), if_neg (iNE h24), if_neg (iNE h25), if_neg (iNE h26), if_neg (iNE h27)] at hQ; exact hQ) f1.rf r1.2 (fun _ _ h => ⟨Or.inl rfl, rfl, h⟩) (fun _ _ h => ⟨Or.inr rfl, rfl, h⟩)))
end
