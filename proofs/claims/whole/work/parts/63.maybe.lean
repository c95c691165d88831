/-! WHAT MAY HAVE STOOD THERE (the class) -/
theorem nI_and (a b : Nat) : nI a &&& nI b = nI (a &&& b) := by
  apply Int32.toBitVec_inj.mp
  show BitVec.ofNat 32 a &&& BitVec.ofNat 32 b = BitVec.ofNat 32 (a &&& b)
  apply BitVec.eq_of_toNat_eq
  rw [BitVec.toNat_and, BitVec.toNat_ofNat, BitVec.toNat_ofNat, BitVec.toNat_ofNat, Nat.and_mod_two_pow]
theorem nI_xor (a b : Nat) : nI a ^^^ nI b = nI (a ^^^ b) := by
  apply Int32.toBitVec_inj.mp
  show BitVec.ofNat 32 a ^^^ BitVec.ofNat 32 b = BitVec.ofNat 32 (a ^^^ b)
  apply BitVec.eq_of_toNat_eq
  rw [BitVec.toNat_xor, BitVec.toNat_ofNat, BitVec.toNat_ofNat, BitVec.toNat_ofNat, Nat.xor_mod_two_pow]
theorem nI_or (a b : Nat) : nI a ||| nI b = nI (a ||| b) := by
  apply Int32.toBitVec_inj.mp
  show BitVec.ofNat 32 a ||| BitVec.ofNat 32 b = BitVec.ofNat 32 (a ||| b)
  apply BitVec.eq_of_toNat_eq
  rw [BitVec.toNat_or, BitVec.toNat_ofNat, BitVec.toNat_ofNat, BitVec.toNat_ofNat, Nat.or_mod_two_pow]
/-- a shape may grow into a whole one by so many stacks -/
def grN (s w n : Nat) : Bool := !(w == 0) && (w &&& s == s) && decide (bcN (w ^^^ s) ≤ n)
/-- the places below n where p is, as bits -/
def mskN (p : Nat → Bool) (n : Nat) : Nat := sumN (fun i => if p i then 2 ^ i else 0) n
theorem mskN_lt (p : Nat → Bool) : ∀ n, mskN p n < 2 ^ n
  | 0 => Nat.one_pos
  | n + 1 => by
    have ih := mskN_lt p n
    show mskN p n + (if p n then 2 ^ n else 0) < 2 ^ (n + 1)
    rw [Nat.pow_succ]
    split <;> omega
theorem orB : ∀ g, g < 9 → ∀ f, f < 2 ^ g → nI f ||| (nI 1 <<< (nI g &&& 31)) = nI (f + 2 ^ g) := by decide +kernel
theorem bitB : ∀ w, w < 6 → ∀ a, a < 64 → ((nI a &&& (nI 1 <<< (nI w &&& 31)) = 0) ↔ a / 2 ^ w % 2 = 0) := by decide +kernel
/-- may a word have stood at a place -/
def wovN (T : Nat → Nat → Nat) (sh : Nat → Nat) (w f way n : Nat) : Bool := fitN T (lenN (T 7 w)) f way && allN (fun k => grN (sh (plN T f way k)) (wantN T w k) n) (lenN (T 7 w))
def wovM (T : Nat → Nat → Nat) (sh : Nat → Nat) (f way n : Nat) : Nat := mskN (fun w => wovN T sh w f way n) (T 0 4)
/-- the worthiest of some words -/
def wsJ (T : Nat → Nat → Nat) (m : Nat) : Nat → Option Nat
  | 0 => none
  | w + 1 => if m / 2 ^ w % 2 = 0 then wsJ T m w else match wsJ T m w with
    | none => some w
    | some b => if T 8 b < T 8 w then some w else some b
def wsI (r : Option Nat) : Int32 := match r with
  | none => -2
  | some b => nI b
def wsM (T : Nat → Nat → Nat) (r : Option Nat) : Int32 := match r with
  | none => -1
  | some b => nI (T 8 b)
theorem wsJ_lt {T : Nat → Nat → Nat} {m : Nat} : ∀ w b, wsJ T m w = some b → b < w
  | 0, b, h => by cases h
  | w + 1, b, h => by
    unfold wsJ at h
    split at h
    · have := wsJ_lt w b h; omega
    · split at h
      · cases h; omega
      · rename_i hr
        split at h
        · cases h; omega
        · cases h; have := wsJ_lt w _ hr; omega
section
variable {d : Nat} {Q : Option Value → Mm → Prop} {T S : Nat → Nat → Nat} {mi : Nat → Nat → Int32} {ml : Nat → Nat → Int64} {rd : Option Nat}
theorem s_growsInto {s w n : Nat} (hs : s ≤ 511) (hw : w ≤ 511) (hn : n ≤ 9) (h1 : grN s w n = true → Q (some (.int (nI 1))) (mi, ml, R0 rd, 136)) (h0 : grN s w n = false → Q (some (.int (nI 0))) (mi, ml, R0 rd, 136)) : Cd (d + 2) k_Script_growsInto [.ref 13, .int (nI s), .int (nI w), .int (nI n)] (mi, ml, R0 rd, 136) Q := by
  have ha : w &&& s ≤ s := Nat.and_le_right
  have hx : w ^^^ s < 2 ^ 9 := Nat.xor_lt_two_pow (by omega) (by omega)
  have hb := bcN_le (w ^^^ s)
  refine r_Script_growsInto (by decide) (fun K Kl hK hC => ?_)
  refine ⟨fun h => ⟨Or.inl rfl, rfl, h0 (by unfold grN; simp [iZ h])⟩, fun h => ⟨fun h2 => ⟨Or.inl rfl, rfl, h0 ?_⟩, fun h2 => ?_⟩⟩
  · rw [nI_and] at h2
    have h2 := iNE h2
    unfold grN
    simp [h2]
  · rw [nI_and] at h2
    have h2 := iEQ h2
    have hz := iNZ h
    have hbc : ∀ (P : Option Value → Mm → Prop), P (some (.int (nI (bcN (w ^^^ s))))) (mi, ml, R0 rd, 136) → Cd (d + 1) 336 [.int (nI w ^^^ nI s)] (mi, ml, R0 rd, 136) P := by
      intro P hP
      rw [nI_xor]
      exact s_bitCount (by decide) (by omega) hP
    refine hC _ _ _ _ (hbc _ ?_)
    refine ⟨fun h3 => ⟨Or.inl rfl, rfl, h0 ?_⟩, fun h3 => ⟨Or.inr rfl, rfl, h1 ?_⟩⟩
    · have h3 := iLT h3
      unfold grN
      rw [decide_eq_false (by omega), Bool.and_false]
    · have h3 := iNLT h3
      unfold grN
      rw [decide_eq_true (by omega), h2]
      simp [hz]
theorem s_glyphsOver (hT : CT 0 T mi) (hw : wfT T) {s n : Nat} (hs : s ≤ 511) (hn : n ≤ 9) (hQ : Q (some (.int (nI (mskN (fun g => grN s (T 6 g) n) (T 0 3))))) (mi, ml, R0 rd, 136)) : Cd (d + 3) k_Script_glyphsOver [.ref 13, .int (nI s), .int (nI n)] (mi, ml, R0 rd, 136) Q := by
  have h9 := hw.gl9
  have e : mi 13 0 = nI (T 0 3) := hT.glyphs
  have lp : ∀ j, j ≤ T 0 3 → GoM (d + 2) k_Script_glyphsOver 136 Q 5 [.ref 13, .int (nI s), .int (nI n), .int (nI (mskN (fun g => grN s (T 6 g) n) j)), .int (nI j)] [] (mi, ml, R0 rd, 136) := by
    refine upto ?_ ?_
    · refine g_Script_glyphsOver (fun K Kl hK hC => ?_)
      exact ⟨fun _ => ⟨rfl, hQ⟩, fun h => absurd (jNLE h) (by omega)⟩
    · intro j hj ih
      have hgs := hw.gs j hj
      have egs : mi 15 j = nI (T 6 j) := hT.gs j hj
      have hlt := mskN_lt (fun g => grN s (T 6 g) n) j
      rw [nI1 j, show mskN (fun g => grN s (T 6 g) n) (j + 1) = mskN (fun g => grN s (T 6 g) n) j + (if grN s (T 6 j) n then 2 ^ j else 0) from rfl] at ih
      refine g_Script_glyphsOver (fun K Kl hK hC => ?_)
      refine ⟨fun h => absurd (jLE h) (by omega), fun _ => ⟨j, by omega, rfl, ?_⟩⟩
      rw [egs]
      refine hC _ _ _ _ (s_growsInto hs hgs.2 hn (fun hg => ?_) (fun hg => ?_))
      · rw [if_pos hg, ← orB j (by omega) _ hlt] at ih
        exact ⟨fun h => absurd h (by decide), fun _ => hK _ _ _ _ ih⟩
      · rw [if_neg (by rw [hg]; decide), Nat.add_zero] at ih
        exact ⟨fun _ => hK _ _ _ _ ih, fun h => absurd (by decide) h⟩
  refine r_Script_glyphsOver (by decide) (fun K Kl hK hC => ?_)
  exact hK _ _ _ _ (lp 0 (Nat.zero_le _))
theorem s_isWordOver (hT : CT 0 T mi) (hw : wfT T) {sh : Nat → Nat} (hsh : ∀ f, f < 48 → mi 71 f = nI (sh f) ∧ sh f ≤ 511) {w f way n : Nat} (hwd : w < T 0 4) (hf : f < T 0 0 * T 0 1) (hway : way < 2) (hn : n ≤ 9) (h1 : wovN T sh w f way n = true → Q (some (.int (nI 1))) (mi, ml, R0 rd, 136)) (h0 : wovN T sh w f way n = false → Q (some (.int (nI 0))) (mi, ml, R0 rd, 136)) : Cd (d + 3) k_Search_isWordOver [.ref 84, .int (nI w), .int (nI f), .int (nI way), .int (nI n)] (mi, ml, R0 rd, 136) Q := by
  have h6 := hw.wd6
  have hfl := hw.fl
  have hlen := lenN_le (T 7 w)
  have el : mi 18 w = nI (lenN (T 7 w)) := hT.wlen w hwd
  have lp : fitN T (lenN (T 7 w)) f way = true → ∀ j, j ≤ lenN (T 7 w) → (∀ i, i < j → grN (sh (plN T f way i)) (wantN T w i) n = true) → GoM (d + 2) k_Search_isWordOver 136 Q 47 [.ref 84, .int (nI w), .int (nI f), .int (nI way), .int (nI n), .ref 13, .int (nI (lenN (T 7 w))), .int (nI (stN T way)), .int (nI j)] [] (mi, ml, R0 rd, 136) := by
    intro hfit
    refine upto ?_ ?_
    · intro hall
      refine g_Search_isWordOver (fun K Kl hK hC => ?_)
      refine ⟨fun h => ⟨Or.inr rfl, rfl, h1 ?_⟩, fun h => absurd (iNLE h) (by omega)⟩
      unfold wovN
      rw [hfit, allN_iff.mpr hall]
      rfl
    · intro j hj ih hall
      have hpl := plN_lt hw hf hfit hj
      have hr := hsh (plN T f way j) (by omega)
      have epl : nI f + nI j * nI (stN T way) = nI (plN T f way j) := by rw [pk_mul, nI_add]; rfl
      refine g_Search_isWordOver (fun K Kl hK hC => ?_)
      refine ⟨fun h => absurd (iLE h) (by omega), fun h => ⟨plN T f way j, by omega, epl, ?_⟩⟩
      rw [hr.1]
      refine hC _ _ _ _ (s_shapeIn hT hw hwd (by omega) ?_)
      refine hC _ _ _ _ (s_growsInto hr.2 (wantN_le hw w j) hn (fun hg => ?_) (fun hg => ?_))
      · have ih := ih (lt_s hall hg)
        rw [nI1 j] at ih
        exact ⟨fun _ => hK _ _ _ _ ih, fun h2 => absurd h2 (by decide)⟩
      · refine ⟨fun h2 => absurd (by decide) h2, fun _ => ⟨Or.inl rfl, rfl, h0 ?_⟩⟩
        unfold wovN
        rw [allN_not hj hg, Bool.and_false]
  refine r_Search_isWordOver (by decide) (fun K Kl hK hC => ?_)
  refine ⟨w, by omega, rfl, ?_⟩
  rw [el]
  refine hC _ _ _ _ (s_fits hT hw hlen hf (fun hfit => ?_) (fun hfit => ?_) hway)
  · refine ⟨fun _ => ?_, fun h => absurd h (by decide)⟩
    refine hC _ _ _ _ (s_stepOf hT hway ?_)
    exact hK _ _ _ _ (lp hfit 0 (Nat.zero_le _) lt_0)
  · refine ⟨fun h => absurd (by decide) h, fun _ => ⟨Or.inl rfl, rfl, h0 ?_⟩⟩
    unfold wovN
    rw [hfit, Bool.false_and]
theorem s_wordsOver (hT : CT 0 T mi) (hw : wfT T) {sh : Nat → Nat} (hsh : ∀ f, f < 48 → mi 71 f = nI (sh f) ∧ sh f ≤ 511) {f way n : Nat} (hf : f < T 0 0 * T 0 1) (hway : way < 2) (hn : n ≤ 9) (hQ : Q (some (.int (nI (wovM T sh f way n)))) (mi, ml, R0 rd, 136)) : Cd (d + 4) k_Search_wordsOver [.ref 84, .int (nI f), .int (nI way), .int (nI n)] (mi, ml, R0 rd, 136) Q := by
  have h6 := hw.wd6
  have e : mi 13 1 = nI (T 0 4) := hT.words
  have lp : ∀ j, j ≤ T 0 4 → GoM (d + 3) k_Search_wordsOver 136 Q 6 [.ref 84, .int (nI f), .int (nI way), .int (nI n), .int (nI (mskN (fun w => wovN T sh w f way n) j)), .int (nI j)] [] (mi, ml, R0 rd, 136) := by
    refine upto ?_ ?_
    · refine g_Search_wordsOver (fun K Kl hK hC => ?_)
      exact ⟨fun _ => ⟨rfl, hQ⟩, fun h => absurd (jNLE h) (by omega)⟩
    · intro j hj ih
      have hlt := mskN_lt (fun w => wovN T sh w f way n) j
      rw [nI1 j, show mskN (fun w => wovN T sh w f way n) (j + 1) = mskN (fun w => wovN T sh w f way n) j + (if wovN T sh j f way n then 2 ^ j else 0) from rfl] at ih
      refine g_Search_wordsOver (fun K Kl hK hC => ?_)
      refine ⟨fun h => absurd (jLE h) (by omega), fun _ => ?_⟩
      refine hC _ _ _ _ (s_isWordOver hT hw hsh hj hf hway hn (fun hg => ?_) (fun hg => ?_))
      · rw [if_pos hg, ← orB j (by omega) _ hlt] at ih
        exact ⟨fun h => absurd h (by decide), fun _ => hK _ _ _ _ ih⟩
      · rw [if_neg (by rw [hg]; decide), Nat.add_zero] at ih
        exact ⟨fun _ => hK _ _ _ _ ih, fun h => absurd (by decide) h⟩
  refine r_Search_wordsOver (by decide) (fun K Kl hK hC => ?_)
  exact hK _ _ _ _ (lp 0 (Nat.zero_le _))
theorem s_worthiest (hT : CT 0 T mi) (hw : wfT T) {m : Nat} (hm : m < 64) (hQ : Q (some (.int (wsI (wsJ T m (T 0 4))))) (mi, ml, R0 rd, 136)) : Cd (d + 1) k_Script_worthiest [.ref 13, .int (nI m)] (mi, ml, R0 rd, 136) Q := by
  have h6 := hw.wd6
  have e : mi 13 1 = nI (T 0 4) := hT.words
  have lp : ∀ j, j ≤ T 0 4 → GoM d k_Script_worthiest 136 Q 8 [.ref 13, .int (nI m), .int (wsI (wsJ T m j)), .int (wsM T (wsJ T m j)), .int (nI j)] [] (mi, ml, R0 rd, 136) := by
    refine upto ?_ ?_
    · refine g_Script_worthiest (fun K Kl hK hC => ?_)
      exact ⟨fun _ => ⟨rfl, hQ⟩, fun h => absurd (jNLE h) (by omega)⟩
    · intro j hj ih
      have hww := hw.ww j hj
      have eww : mi 19 j = nI (T 8 j) := hT.ww j hj
      rw [nI1 j, wsJ] at ih
      refine g_Script_worthiest (fun K Kl hK hC => ?_)
      refine ⟨fun h => absurd (jLE h) (by omega), fun _ => ⟨fun h => ?_, fun h => ⟨j, by omega, rfl, ?_⟩⟩⟩
      · have h := (bitB j (by omega) m hm).mp h
        rw [if_pos h] at ih
        exact hK _ _ _ _ ih
      · have h : ¬ m / 2 ^ j % 2 = 0 := fun z => h ((bitB j (by omega) m hm).mpr z)
        rw [if_neg h] at ih
        rw [eww]
        cases hr : wsJ T m j with
        | none =>
          rw [hr] at ih
          refine ⟨fun h2 => ?_, fun _ => ⟨j, by omega, rfl, ?_⟩⟩
          · have h2 : nI (T 8 j) ≤ -1 := h2
            exact absurd (nI_pos' (n := T 8 j) (by omega)) (fun z => absurd (Int32.le_trans z h2) (by decide))
          · rw [eww]
            exact hK _ _ _ _ ih
        | some b =>
          have hb := wsJ_lt j b hr
          have hwb := hw.ww b (by omega)
          rw [hr] at ih
          have ih : GoM d k_Script_worthiest 136 Q 8 [.ref 13, .int (nI m), .int (wsI (if T 8 b < T 8 j then some j else some b)), .int (wsM T (if T 8 b < T 8 j then some j else some b)), .int (nI j + nI 1)] [] (mi, ml, R0 rd, 136) := ih
          refine ⟨fun h2 => ?_, fun h2 => ⟨j, by omega, rfl, ?_⟩⟩
          · have h2 : nI (T 8 j) ≤ nI (T 8 b) := h2
            have h2 := iLE h2
            rw [if_neg (by omega)] at ih
            exact hK _ _ _ _ ih
          · have h2 : ¬ nI (T 8 j) ≤ nI (T 8 b) := h2
            have h2 := iNLE h2
            rw [if_pos (by omega)] at ih
            rw [eww]
            exact hK _ _ _ _ ih
  refine r_Script_worthiest (by decide) (fun K Kl hK hC => ?_)
  exact hK _ _ _ _ (lp 0 (Nat.zero_le _))
end
