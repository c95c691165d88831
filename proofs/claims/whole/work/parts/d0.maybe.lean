/-! WHAT THE REFERENCE ANSWERS: maybe, maystand, likeliest -/
theorem sumN_add2 {f g h : Nat → Nat} (e : ∀ k, f k + g k = h k) : ∀ n, sumN f n + sumN g n = sumN h n
  | 0 => rfl
  | n + 1 => by
    have := sumN_add2 e n
    have := e n
    simp only [sumN]
    omega
theorem gr_bc {s w : Nat} (h : w &&& s = s) : bcN (w ^^^ s) + bcN s = bcN w := by
  refine sumN_add2 (fun k => ?_) 9
  have hk : (w &&& s).testBit k = s.testBit k := by rw [h]
  rw [Nat.testBit_and] at hk
  rw [← Nat.toNat_testBit, ← Nat.toNat_testBit, ← Nat.toNat_testBit, Nat.testBit_xor]
  cases hw : w.testBit k <;> cases hs : s.testBit k <;> rw [hw, hs] at hk <;> first | rfl | cases hk
theorem gr_and {s w : Nat} (hs : s < 512) (hw : w < 512) : (nI s &&& (nI w ^^^ -1) = 0) ↔ w &&& s = s := by
  have e : nI s &&& (nI w ^^^ -1) = nI (s &&& (w ^^^ 4294967295)) := by
    rw [show (-1 : Int32) = nI 4294967295 by decide +kernel, nI_xor, nI_and]
  rw [e]
  have hb : s &&& (w ^^^ 4294967295) < 2 ^ 31 := Nat.lt_of_le_of_lt Nat.and_le_left (by omega)
  have hm : ∀ k, (4294967295 : Nat).testBit k = decide (k < 32) := fun k => by
    rw [show (4294967295 : Nat) = 2 ^ 32 - 1 by decide]
    exact Nat.testBit_two_pow_sub_one 32 k
  have hs2 : ∀ k, 32 ≤ k → s.testBit k = false := fun k hk => Nat.testBit_lt_two_pow (Nat.lt_of_lt_of_le (show s < 2 ^ 32 by omega) (Nat.pow_le_pow_right (by decide) hk))
  constructor
  · intro z
    have z := iZ z hb
    refine Nat.eq_of_testBit_eq (fun k => ?_)
    have zk : (s &&& (w ^^^ 4294967295)).testBit k = false := by rw [z]; exact Nat.zero_testBit k
    rw [Nat.testBit_and, Nat.testBit_xor, hm] at zk
    rw [Nat.testBit_and]
    by_cases hk : k < 32
    · rw [decide_eq_true hk] at zk
      cases hwk : w.testBit k <;> cases hsk : s.testBit k <;> rw [hwk, hsk] at zk <;> first | rfl | cases zk
    · rw [hs2 k (by omega), Bool.and_false]
  · intro z
    have : s &&& (w ^^^ 4294967295) = 0 := by
      refine Nat.eq_of_testBit_eq (fun k => ?_)
      have zk : (w &&& s).testBit k = s.testBit k := by rw [z]
      rw [Nat.testBit_and] at zk
      rw [Nat.testBit_and, Nat.testBit_xor, hm, Nat.zero_testBit]
      by_cases hk : k < 32
      · rw [decide_eq_true hk]
        cases hwk : w.testBit k <;> cases hsk : s.testBit k <;> rw [hwk, hsk] at zk <;> first | rfl | cases zk
      · rw [hs2 k (by omega), Bool.false_and]
    rw [this]
    exact nI_0
theorem ixf {A : St} (hw : wfT (A 0)) {f : Nat} (h : f < A 0 0 0 * A 0 0 1) : ixo (nI f) (flA A) = some f := by
  have := hw.fl
  exact ixo_some h (show A 0 0 0 * A 0 0 1 ≤ 2 ^ 31 by omega)
theorem want_find {T : Nat → Nat → Nat} (hw : wfT T) {w k : Nat} (h : wantN T w k ≠ 0) : ∃ g, g < T 0 3 ∧ nmI (T 5) (T 0 3) (nI (letN (T 7 w) k)) = nI g ∧ T 6 g = wantN T w k := by
  unfold wantN shpN at h ⊢
  by_cases hf : fnd (fun g => T 5 g == letN (T 7 w) k) (T 0 3) < T 0 3
  · rw [if_pos hf]
    have hl := letN_lt (T 7 w) k
    refine ⟨_, hf, nmI_hit hf ?_ (fun i hi e => ?_), rfl⟩
    · have := fnd_hit hf
      rw [beq_iff_eq] at this
      rw [this]
    · have := fnd_min hi
      have h2 := hw.gl i (by omega)
      have := beq_eq_false_iff_ne.mp this
      exact this (iEQ e)
  · rw [if_neg hf] at h
    exact absurd rfl h
section
variable {d : Nat} {Q : Option Value → Mm → Prop} {A : St} {T S : Nat → Nat → Nat} {mi : Nat → Nat → Int32} {ml : Nat → Nat → Int64} {rd : Option Nat} {x y z : Int32}
theorem t_mayBe (hT : MT T mi) (hw : wfT T) {f g n s : Nat} (hf : f < 48) (hg : g < T 0 3) (hn : n < 10) (es : mi 123 f = nI s) (hs : s ≤ 511) (h1 : grN s (T 6 g) n = true → Q (some (.int (nI 1))) (mi, ml, R0 rd, 136)) (h0 : grN s (T 6 g) n = false → Q (some (.int (nI 0))) (mi, ml, R0 rd, 136)) : Cd (d + 2) k_Mod_mayBe [.ref 95, .int (nI f), .int (nI g), .int (nI n)] (mi, ml, R0 rd, 136) Q := by
  have h9 := hw.gl9
  have eg : mi 105 g = nI (T 6 g) := hT.gs g hg
  have hgs := hw.gs g hg
  have ba := gr_and (s := s) (w := T 6 g) (by omega) (by omega)
  have b1 := bcN_le s
  have b2 := bcN_le (T 6 g)
  have cg : ∀ P : Option Value → Mm → Prop, P (some (.int (nI (bcN (T 6 g))))) (mi, ml, R0 rd, 136) → Cd (d + 1) k_Mod_manyOf [.int (mi 105 g)] (mi, ml, R0 rd, 136) P := fun P p => by
    rw [eg]
    exact s_Mod_manyOf (by omega) p
  have cs : ∀ P : Option Value → Mm → Prop, P (some (.int (nI (bcN s)))) (mi, ml, R0 rd, 136) → Cd (d + 1) k_Mod_manyOf [.int (mi 123 f)] (mi, ml, R0 rd, 136) P := fun P p => by
    rw [es]
    exact s_Mod_manyOf (by omega) p
  refine r_Mod_mayBe (by decide) (fun K Kl hK hC => ⟨f, by omega, rfl, ⟨g, by omega, rfl, ⟨fun z => ⟨Or.inl rfl, rfl, h0 ?_⟩, fun z => ⟨g, by omega, rfl, hC _ _ _ _ (cg _ ⟨f, by omega, rfl, hC _ _ _ _ (cs _ ⟨fun z2 => ⟨Or.inl rfl, rfl, h0 ?_⟩, fun z2 => ⟨Or.inr rfl, rfl, h1 ?_⟩⟩)⟩)⟩⟩⟩⟩)
  · have z : ¬ mi 123 f &&& (mi 105 g ^^^ -1) = 0 := z
    rw [es, eg, ba] at z
    unfold grN
    rw [show (T 6 g &&& s == s) = false from beq_eq_false_iff_ne.mpr z, Bool.and_false, Bool.false_and]
  · have z : mi 123 f &&& (mi 105 g ^^^ -1) = 0 := z
    rw [es, eg, ba] at z
    have e := gr_bc z
    have z2 : nI n < nI (bcN (T 6 g)) - nI (bcN s) := z2
    rw [pk_sub (by omega)] at z2
    have z2 := iLT z2
    unfold grN
    rw [decide_eq_false (show ¬ bcN (T 6 g ^^^ s) ≤ n by omega), Bool.and_false]
  · have z : mi 123 f &&& (mi 105 g ^^^ -1) = 0 := z
    rw [es, eg, ba] at z
    have e := gr_bc z
    have z2 : ¬ nI n < nI (bcN (T 6 g)) - nI (bcN s) := z2
    rw [pk_sub (by omega)] at z2
    have z2 := iNLT z2
    unfold grN
    rw [decide_eq_true (show bcN (T 6 g ^^^ s) ≤ n by omega), beq_iff_eq.mpr z, show (T 6 g == 0) = false from beq_eq_false_iff_ne.mpr (by omega)]
    rfl
theorem orZ (a : Nat) : nI a ||| nI 0 = nI a := by rw [nI_or, Nat.or_zero]
theorem msk_t {p : Nat → Bool} {j : Nat} (h : p j = true) : mskN p (j + 1) = mskN p j + 2 ^ j := by
  show mskN p j + (if p j then 2 ^ j else 0) = _
  rw [if_pos h]
theorem msk_f {p : Nat → Bool} {j : Nat} (h : p j = false) : mskN p (j + 1) = mskN p j := by
  show mskN p j + (if p j then 2 ^ j else 0) = _
  rw [if_neg (by rw [h]; decide)]
  rfl
theorem q_maybe (hA : MI A mi ml) (hw : wfA A) (hQ : ∀ mi' ml', MF mi mi' → ML ml ml' → Q (some (.int (aMaybe A x y))) (mi', ml', R0 rd, 136)) : Cd (d + 3) k_Mod_maybe [.ref 95, .int x, .int y] (mi, ml, R0 rd, 136) Q := by
  have hQ := hQ _ ml thr0 ML.none
  have hA1 := hA.mf thr0 ML.none
  have hfl := hw.T.fl
  have h9 := hw.T.gl9
  unfold aMaybe at hQ
  refine r_Mod_maybe (by decide) (fun K Kl hK hC => hC _ _ _ _ (t_isField hA1.T hw.T (fun f hf e => ⟨fun a => absurd a (by decide), fun _ => hC _ _ _ _ (t_isIn (fun h1 h2 => ⟨fun _ => hK _ _ _ _ ?_, fun a => absurd a (by decide)⟩) (fun hno => ⟨fun a => absurd (by decide) a, fun _ => ⟨rfl, ?_⟩⟩))⟩) (fun hno => ⟨fun _ => ⟨rfl, ?_⟩, fun a => absurd (by decide) a⟩)))
  · subst e
    obtain ⟨n, hn, rfl, he⟩ := ixo_rg (n := 9) (by omega) h1 h2
    rw [ixf hw.T hf, he] at hQ
    have lp : ∀ j, j ≤ A 0 0 3 → GoM (d + 2) k_Mod_maybe 136 Q 30 [.ref 95, .int (nI f), .int (nI n), .int (nI (mskN (fun g => grN (A 1 1 f) (A 0 6 g) n) j)), .int (nI j)] [] (cu mi 95 (upd (mi 95) 2 (nI 0)), ml, R0 rd, 136) := by
      refine upto ?_ ?_
      · exact g_Mod_maybe (fun K Kl hK hC => ⟨fun _ => ⟨rfl, hQ⟩, fun z => absurd (jNLE z hA1.T.glyphs) (by omega)⟩)
      · intro j hj ih
        refine g_Mod_maybe (fun K Kl hK hC => ⟨fun z => absurd (jLE z hA1.T.glyphs) (by omega), fun _ => hC _ _ _ _ (t_mayBe hA1.T hw.T (by omega) hj (by omega) (hA.S.1 f (by omega)) (hw.S.sh f) (fun ht => ⟨fun a => absurd a (by decide), fun _ => ?_⟩) (fun hf => ⟨fun _ => ?_, fun a => absurd (by decide) a⟩))⟩)
        · rw [msk_t (p := fun g => grN (A 1 1 f) (A 0 6 g) n) ht, ← orB j (by omega) _ (mskN_lt _ _), nI1 j] at ih
          exact hK _ _ _ _ ih
        · rw [msk_f (p := fun g => grN (A 1 1 f) (A 0 6 g) n) hf, ← orZ (mskN _ j), nI1 j] at ih
          exact hK _ _ _ _ ih
    exact lp 0 (Nat.zero_le _)
  · subst e
    have hn : ixo y 10 = none := hno.elim (fun h => ixo_neg h) (fun h => ixo_big (n := 9) (by omega) h)
    rw [hn, ixf hw.T hf] at hQ
    exact hQ
  · rw [show ixo x (flA A) = none from ixo_none hno] at hQ
    exact hQ
set_option maxHeartbeats 1000000 in
theorem t_mayStand (hT : MT T mi) (hw : wfT T) {sh : Nat → Nat} (hsh : ∀ f, f < 48 → mi 123 f = nI (sh f) ∧ sh f ≤ 511) {f way n : Nat} (hf : f < T 0 0 * T 0 1) (hway : way < 2) (hn : n < 10) (hQ : Q (some (.int (nI (wovM T sh f way n)))) (mi, ml, R0 rd, 136)) : Cd (d + 5) k_Mod_mayStand [.ref 95, .int (nI f), .int (nI way), .int (nI n)] (mi, ml, R0 rd, 136) Q := by
  have hfl := hw.fl
  have h6 := hw.wd6
  have h9 := hw.gl9
  have wov_li : ∀ w, liN T w f way = false → wovN T sh w f way n = false := fun w hl => by
    unfold liN at hl
    unfold wovN
    rw [Bool.and_eq_false_iff] at hl ⊢
    rcases hl with h | h
    · exact Or.inl h
    · refine Or.inr ?_
      cases hb : allN (fun k => grN (sh (plN T f way k)) (wantN T w k) n) (lenN (T 7 w)) with
      | false => rfl
      | true =>
        rw [allN_iff] at hb
        rw [show allN (fun k => !(wantN T w k == 0)) (lenN (T 7 w)) = true from allN_iff.mpr (fun i hi => by
          have := hb i hi
          unfold grN at this
          rw [Bool.and_eq_true, Bool.and_eq_true] at this
          exact this.1.1)] at h
        cases h
  have outer : ∀ w, w ≤ T 0 4 → ∀ v6 v7, GoM (d + 4) k_Mod_mayStand 136 Q 6 [.ref 95, .int (nI f), .int (nI way), .int (nI n), .int (nI (mskN (fun w => wovN T sh w f way n) w)), .int (nI w), v6, v7] [] (mi, ml, R0 rd, 136) := by
    refine upto ?_ ?_
    · intro v6 v7
      exact g_Mod_mayStand (fun K Kl hK hC => ⟨fun _ => ⟨rfl, hQ⟩, fun z => absurd (jNLE z hT.words) (by omega)⟩)
    · intro w hwd ih v6 v7
      have hl6 := lenN_le (T 7 w)
      have ew := hT.wn w hwd
      have no : wovN T sh w f way n = false → ∀ v, GoM (d + 4) k_Mod_mayStand 136 Q 28 [.ref 95, .int (nI f), .int (nI way), .int (nI n), .int (nI (mskN (fun w => wovN T sh w f way n) w)), .int (nI w), .int (nI 0), .int (nI v)] [] (mi, ml, R0 rd, 136) := fun hf v => by
        rw [msk_f (p := fun w => wovN T sh w f way n) hf, ← orZ (mskN _ w), nI1 w] at ih
        exact g_Mod_mayStand (fun K Kl hK hC => hC _ _ _ _ (t_wordLong hT hw hwd ⟨fun _ => ⟨fun _ => hK _ _ _ _ (ih _ _), fun a => absurd (by decide) a⟩, fun _ => ⟨fun _ => ⟨fun _ => hK _ _ _ _ (ih _ _), fun a => absurd (by decide) a⟩, fun a => absurd (by decide) a⟩⟩))
      have yes : liN T w f way = true → ∀ k, k ≤ lenN (T 7 w) → (∀ i, i < k → grN (sh (plN T f way i)) (wantN T w i) n = true) → GoM (d + 4) k_Mod_mayStand 136 Q 28 [.ref 95, .int (nI f), .int (nI way), .int (nI n), .int (nI (mskN (fun w => wovN T sh w f way n) w)), .int (nI w), .int (nI 1), .int (nI k)] [] (mi, ml, R0 rd, 136) := by
        intro hl
        have hfit := li_fit hl
        have hwant : ∀ k, k < lenN (T 7 w) → wantN T w k ≠ 0 := fun k hk => by
          unfold liN at hl
          rw [Bool.and_eq_true, allN_iff] at hl
          have := hl.2 k hk
          simpa using this
        refine upto ?_ ?_
        · intro hall
          rw [msk_t (p := fun w => wovN T sh w f way n) (show wovN T sh w f way n = true by unfold wovN; rw [hfit, allN_iff.mpr hall]; rfl), ← orB w (by omega) _ (mskN_lt _ _), nI1 w] at ih
          exact g_Mod_mayStand (fun K Kl hK hC => hC _ _ _ _ (t_wordLong hT hw hwd ⟨fun _ => ⟨fun a => absurd a (by decide), fun _ => hK _ _ _ _ (ih _ _)⟩, fun a => absurd (iNLE a) (by omega)⟩))
        · intro k hk ih2 hall
          obtain ⟨g, hg, eg, hg6⟩ := want_find hw (hwant k hk)
          have hp := plN_lt hw hf hfit hk
          have cl : ∀ P : Option Value → Mm → Prop, P (some (.int (nI (letN (T 7 w) k)))) (mi, ml, R0 rd, 136) → Cd (d + 4) k_Mod_letterOf [.int (mi 106 w), .int (nI k)] (mi, ml, R0 rd, 136) P := fun P p => by
            rw [ew]
            exact s_Mod_letterOf (by omega) (hw.wn w hwd).1 p
          have cf : ∀ P : Option Value → Mm → Prop, P (some (.int (nI g))) (mi, ml, R0 rd, 136) → Cd (d + 4) k_Mod_find [.ref 104, .int (nI 0), .int (mi 95 15), .int (nI (letN (T 7 w) k))] (mi, ml, R0 rd, 136) P := fun P p => by
            refine t_find2 (c := 104) (L := 18) (m := T 0 3) (f := T 5) hT.glyphs (by decide) (by omega) (fun i hi => hT.gl i hi) ?_
            rw [eg]
            exact p
          refine g_Mod_mayStand (fun K Kl hK hC => hC _ _ _ _ (t_wordLong hT hw hwd ⟨fun a => absurd (iLE a) (by omega), fun _ => ⟨fun a => absurd a (by decide), fun _ => hC _ _ _ _ (t_fieldIn hT hw hf hway hk hfit ⟨w, by omega, rfl, hC _ _ _ _ (cl _ (hC _ _ _ _ (cf _ (hC _ _ _ _ (t_mayBe hT hw (by omega) hg hn (hsh _ (by omega)).1 (hsh _ (by omega)).2 (fun ht => ?_) (fun hf => ?_))))))⟩)⟩⟩))
          · rw [hg6] at ht
            have ih2 := ih2 (lt_s hall ht)
            rw [nI1 k] at ih2
            exact hK _ _ _ _ ih2
          · rw [hg6] at hf
            have := no (by
              unfold wovN
              rw [allN_not hk hf, Bool.and_false]) (k + 1)
            rw [nI1 k] at this
            exact hK _ _ _ _ this
      refine g_Mod_mayStand (fun K Kl hK hC => ⟨fun z => absurd (jLE z hT.words) (by omega), fun _ => hC _ _ _ _ (t_lies hT hw hwd hf hway (fun hl => hK _ _ _ _ (yes hl 0 (Nat.zero_le _) lt_0)) (fun hl => hK _ _ _ _ (no (wov_li w hl) 0)))⟩)
  exact r_Mod_mayStand (by decide) (fun K Kl hK hC => hK _ _ _ _ (outer 0 (Nat.zero_le _) _ _))
theorem q_maystand (hA : MI A mi ml) (hw : wfA A) (hQ : ∀ mi' ml', MF mi mi' → ML ml ml' → Q (some (.int (aMaystand A x y z))) (mi', ml', R0 rd, 136)) : Cd (d + 6) k_Mod_maystand [.ref 95, .int x, .int y, .int z] (mi, ml, R0 rd, 136) Q := by
  have hQ := hQ _ ml thr0 ML.none
  have hA1 := hA.mf thr0 ML.none
  have hfl := hw.T.fl
  unfold aMaystand at hQ
  refine r_Mod_maystand (by decide) (fun K Kl hK hC => hC _ _ _ _ (t_isField hA1.T hw.T (fun f hf e => ⟨fun a => absurd a (by decide), fun _ => hC _ _ _ _ (t_isWay (fun v hv e2 => ⟨fun a => absurd a (by decide), fun _ => hC _ _ _ _ (t_isIn (fun h1 h2 => ⟨fun a => absurd a (by decide), fun _ => ?_⟩) (fun hno => ⟨fun _ => ⟨rfl, ?_⟩, fun a => absurd (by decide) a⟩))⟩) (fun hno => ⟨fun _ => ⟨rfl, ?_⟩, fun a => absurd (by decide) a⟩))⟩) (fun hno => ⟨fun _ => ⟨rfl, ?_⟩, fun a => absurd (by decide) a⟩)))
  · subst e; subst e2
    obtain ⟨n, hn, rfl, he⟩ := ixo_rg (n := 9) (by omega) h1 h2
    rw [ixf hw.T hf, ixo_some hv, he] at hQ
    exact hC _ _ _ _ (t_mayStand hA1.T hw.T (fun f hf => ⟨hA1.S.1 f hf, hw.S.sh f⟩) hf hv (by omega) ⟨rfl, hQ⟩)
  · subst e; subst e2
    have hn : ixo z 10 = none := hno.elim (fun h => ixo_neg h) (fun h => ixo_big (n := 9) (by omega) h)
    rw [ixf hw.T hf, ixo_some hv, hn] at hQ
    exact hQ
  · subst e
    rw [ixf hw.T hf, ixo_none hno] at hQ
    exact hQ
  · rw [show ixo x (flA A) = none from ixo_none hno] at hQ
    exact hQ
set_option maxHeartbeats 1000000 in
theorem q_likeliest (hA : MI A mi ml) (hw : wfA A) (hQ : ∀ mi' ml', MF mi mi' → ML ml ml' → Q (some (.int (aLikeliest A x y z))) (mi', ml', R0 rd, 136)) : Cd (d + 6) k_Mod_likeliest [.ref 95, .int x, .int y, .int z] (mi, ml, R0 rd, 136) Q := by
  have hQ := hQ _ ml thr0 ML.none
  have hA1 := hA.mf thr0 ML.none
  have hfl := hw.T.fl
  have h6 := hw.T.wd6
  unfold aLikeliest at hQ
  refine r_Mod_likeliest (by decide) (fun K Kl hK hC => hC _ _ _ _ (t_isField hA1.T hw.T (fun f hf e => ⟨fun a => absurd a (by decide), fun _ => hC _ _ _ _ (t_isWay (fun v hv e2 => ⟨fun a => absurd a (by decide), fun _ => hC _ _ _ _ (t_isIn (fun h1 h2 => ⟨fun _ => ?_, fun a => absurd a (by decide)⟩) (fun hno => ⟨fun a => absurd (by decide) a, fun _ => ⟨rfl, ?_⟩⟩))⟩) (fun hno => ⟨fun _ => ⟨rfl, ?_⟩, fun a => absurd (by decide) a⟩))⟩) (fun hno => ⟨fun _ => ⟨rfl, ?_⟩, fun a => absurd (by decide) a⟩)))
  · subst e; subst e2
    obtain ⟨n, hn, rfl, he⟩ := ixo_rg (n := 9) (by omega) h1 h2
    rw [ixf hw.T hf, ixo_some hv, he] at hQ
    have hm6 : wovM (A 0) (A 1 1) f v n < 2 ^ A 0 0 4 := mskN_lt _ _
    have hp6 : 2 ^ A 0 0 4 ≤ 2 ^ 6 := Nat.pow_le_pow_right (by decide) h6
    refine hC _ _ _ _ (t_mayStand hA1.T hw.T (fun f hf => ⟨hA1.S.1 f hf, hw.S.sh f⟩) hf hv (by omega) (hK _ _ _ _ ?_))
    have hQ : Q (some (.int (wsI (wsJ (A 0) (wovM (A 0) (A 1 1) f v n) (A 0 0 4))))) (cu mi 95 (upd (mi 95) 2 (nI 0)), ml, R0 rd, 136) := hQ
    generalize wovM (A 0) (A 1 1) f v n = m at hQ hm6
    have lp : ∀ w, w ≤ A 0 0 4 → GoM (d + 5) k_Mod_likeliest 136 Q 48 [.ref 95, .int (nI f), .int (nI v), .int (nI n), .int (nI m), .int (wsI (wsJ (A 0) m w)), .int (nI w)] [] (cu mi 95 (upd (mi 95) 2 (nI 0)), ml, R0 rd, 136) := by
      refine upto ?_ ?_
      · exact g_Mod_likeliest (fun K Kl hK hC => ⟨fun _ => ⟨rfl, hQ⟩, fun z => absurd (jNLE z hA1.T.words) (by omega)⟩)
      · intro w hwd ih
        have eww : mi 107 w = nI (A 0 8 w) := hA.T.ww w hwd
        have h99 := hw.T.ww w hwd
        rw [nI1 w] at ih
        refine g_Mod_likeliest (fun K Kl hK hC => ⟨fun z => absurd (jLE z hA1.T.words) (by omega), fun _ => hC _ _ _ _ (t_isOf (by omega) (by omega) (fun hb => ⟨fun a => absurd a (by decide), fun _ => ?_⟩) (fun hb => ⟨fun _ => ?_, fun a => absurd (by decide) a⟩))⟩)
        · rw [wsJ, if_neg (by omega)] at ih
          cases hr : wsJ (A 0) m w with
          | none =>
            rw [hr] at ih
            exact ⟨fun _ => hK _ _ _ _ ih, fun a => absurd (by decide) a⟩
          | some b =>
            have hb2 := wsJ_lt w b hr
            have ewb : mi 107 b = nI (A 0 8 b) := hA.T.ww b (by omega)
            have h99b := hw.T.ww b (by omega)
            rw [hr] at ih
            simp only at ih
            refine ⟨fun a => (iNN (show nI b < 0 from a) (by omega)).elim, fun _ => ⟨w, by omega, rfl, ⟨b, by omega, rfl, ⟨fun q => ?_, fun q => ?_⟩⟩⟩⟩
            · have q : mi 107 w ≤ mi 107 b := q
              rw [eww, ewb] at q
              rw [if_neg (by have := iLE q; omega)] at ih
              exact hK _ _ _ _ ih
            · have q : ¬ mi 107 w ≤ mi 107 b := q
              rw [eww, ewb] at q
              rw [if_pos (iNLE q)] at ih
              exact hK _ _ _ _ ih
        · rw [wsJ, if_pos hb] at ih
          exact hK _ _ _ _ ih
    exact lp 0 (Nat.zero_le _)
  · subst e; subst e2
    have hn : ixo z 10 = none := hno.elim (fun h => ixo_neg h) (fun h => ixo_big (n := 9) (by omega) h)
    rw [ixf hw.T hf, ixo_some hv, hn] at hQ
    exact hQ
  · subst e
    rw [ixf hw.T hf, ixo_none hno] at hQ
    exact hQ
  · rw [show ixo x (flA A) = none from ixo_none hno] at hQ
    exact hQ
end
