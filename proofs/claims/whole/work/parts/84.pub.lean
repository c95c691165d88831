/-! WHAT THE CLASS ANSWERS: washing, what may stand -/
def aHang (A : St) (x : Int32) : Int32 × St := match ixo x (A 0 0 7) with
  | none => (-1, A)
  | some s => if A 1 0 3 / 2 ^ s % 2 = 1 then (-1, A) else if hpN (A 0) (A 1 0 3 + 2 ^ s) then (nI (bcN (A 1 0 3 + 2 ^ s)), cu (rmA A) 1 (sF (A 1) 3 (A 1 0 3 + 2 ^ s))) else (-2, A)
def aLower (A : St) (x : Int32) : Int32 × St := match ixo x (A 0 0 7) with
  | none => (-1, A)
  | some s => if A 1 0 3 / 2 ^ s % 2 = 1 then (nI (bcN (A 1 0 3 - 2 ^ s)), cu (rmA A) 1 (sF (A 1) 3 (A 1 0 3 - 2 ^ s))) else (-1, A)
def aPieces (A : St) (x : Int32) : Int32 := match ixo x (A 0 0 6) with
  | none => -1
  | some c => nI (A 0 12 c) - nI (ndN (A 0) (A 1 0 3) c)
def aWants (A : St) (x : Int32) : Int32 := match ixo x (2 ^ A 0 0 7) with
  | none => -1
  | some m => nI (misN (A 0) m)
def aMeant (A : St) (x y : Int32) : Int32 := match ixo x 5 with
  | none => -1
  | some n => (match ixo y (4 ^ n) with
    | none => -1
    | some r => if allN (fun i => decide (r / 4 ^ i % 4 < A 0 0 6)) n then nI (mbN (A 0) n r) else -1)
def aApart (A : St) : Int32 := if fnd (atN (A 0)) 5 < 5 then nI (fnd (atN (A 0)) 5) else -2
def aNews (A : St) (x y : Int32) : Int32 := match ixo x (A 0 0 4), ixo y (A 0 0 5) with
  | some w, some h => if 1000000 ≤ newsN (A 0) (A 1) w h then -2 else nI (newsN (A 0) (A 1) w h)
  | _, _ => -1
def aMaybe (A : St) (x y : Int32) : Int32 := match ixo x (flA A), ixo y 10 with
  | some f, some n => nI (mskN (fun g => grN (A 1 1 f) (A 0 6 g) n) (A 0 0 3))
  | _, _ => -1
def aMaystand (A : St) (x y z : Int32) : Int32 := match ixo x (flA A), ixo y 2, ixo z 10 with
  | some f, some v, some n => nI (wovM (A 0) (A 1 1) f v n)
  | _, _, _ => -1
def aLikeliest (A : St) (x y z : Int32) : Int32 := match ixo x (flA A), ixo y 2, ixo z 10 with
  | some f, some v, some n => wsI (wsJ (A 0) (wovM (A 0) (A 1 1) f v n) (A 0 0 4))
  | _, _, _ => -1
theorem hgB : ∀ s, s < 5 → ∀ m, m < 32 → m / 2 ^ s % 2 = 0 → nI m ||| (nI 1 <<< (nI s &&& 31)) = nI (m + 2 ^ s) ∧ m + 2 ^ s < 32 := by decide +kernel
theorem lwB : ∀ s, s < 5 → ∀ m, m < 32 → m / 2 ^ s % 2 = 1 → nI m &&& ((nI 1 <<< (nI s &&& 31)) ^^^ -1) = nI (m - 2 ^ s) := by decide +kernel
theorem pow4 : ∀ n, n < 5 → nI 1 <<< ((nI 2 * nI n) &&& 31) = nI (4 ^ n) ∧ 4 ^ n ≤ 256 := by decide +kernel
section
variable {d : Nat} {Q : Option Value → Mm → Prop} {A : St} {mi : Nat → Nat → Int32} {ml : Nat → Nat → Int64} {rd : Option Nat} {x y z u : Int32}
theorem p_hangs (hA : CI A mi) (hw : wfA A) {s : Nat} (hs : s < A 0 0 7) (h1 : A 1 0 3 / 2 ^ s % 2 = 1 → Q (some (.int (nI 1))) (mi, ml, R0 rd, 136)) (h0 : A 1 0 3 / 2 ^ s % 2 = 0 → Q (some (.int (nI 0))) (mi, ml, R0 rd, 136)) : Cd (d + 1) k_Hay_hangs [.ref 0, .int (nI s)] (mi, ml, R0 rd, 136) Q := by
  have h5 := hw.T.sg5
  have hb := bitB s (by omega) (A 1 0 3) (by have := hw.S.hu; omega)
  have eh : mi 70 3 = nI (A 1 0 3) := hA.S.hung
  refine r_Hay_hangs (by decide) (fun K Kl hK hC => ?_)
  refine ⟨fun h => ⟨Or.inl rfl, rfl, h0 (hb.mp ?_)⟩, fun h => ⟨Or.inr rfl, rfl, h1 ?_⟩⟩
  · rw [← eh]; exact h
  · have : A 1 0 3 / 2 ^ s % 2 ≠ 0 := fun e => h (by
      have := hb.mpr e
      rw [← eh] at this
      exact this)
    omega
set_option maxHeartbeats 1000000 in
theorem p_hang (hA : CI A mi) (hw : wfA A) (hQ : ∀ mi', CI (aHang A x).2 mi' → Up mi mi' → Q (some (.int (aHang A x).1)) (mi', ml, R0 rd, 136)) : Cd (d + 4) k_Hay_hang [.ref 0, .int x] (mi, ml, R0 rd, 136) Q := by
  unfold aHang at hQ
  have h5 := hw.T.sg5
  have h32 := hw.S.hu
  have eh : mi 70 3 = nI (A 1 0 3) := hA.S.hung
  refine r_Hay_hang (by decide) (fun K Kl hK hC => ?_)
  refine hC _ _ _ _ (s_hasSign hA.T hw.T (fun s hs e => ⟨fun z => absurd z (by decide), fun _ => ?_⟩) (fun hno => ⟨fun _ => ⟨rfl, ?_⟩, fun z => absurd (by decide) z⟩))
  · subst e
    rw [ixo_some hs] at hQ
    refine hC _ _ _ _ (p_hangs hA hw hs (fun hb => ⟨fun z => absurd z (by decide), fun _ => ⟨rfl, ?_⟩⟩) (fun hb => ⟨fun _ => ?_, fun z => absurd (by decide) z⟩))
    · simp only [if_pos hb] at hQ
      exact hQ mi hA Up.none
    · have hg := hgB s (by omega) _ h32 hb
      simp only [if_neg (show ¬ A 1 0 3 / 2 ^ s % 2 = 1 by omega)] at hQ
      have call : ∀ P : Option Value → Mm → Prop, (hpN (A 0) (A 1 0 3 + 2 ^ s) = true → P (some (.int (nI 1))) (mi, ml, R0 rd, 136)) → (hpN (A 0) (A 1 0 3 + 2 ^ s) = false → P (some (.int (nI 0))) (mi, ml, R0 rd, 136)) → Cd (d + 3) k_Washing_hasPieces [.ref 26, .int (mi 70 3), .int (nI s)] (mi, ml, R0 rd, 136) P := by
        intro P q1 q0
        rw [eh]
        exact s_hasPieces hA.T hw.T hg.1 (by omega) q1 q0
      refine hC _ _ _ _ (call _ (fun hp => ⟨fun _ => ?_, fun z => absurd z (by decide)⟩) (fun hp => ⟨fun z => absurd (by decide) z, fun _ => ⟨rfl, ?_⟩⟩))
      · simp only [hp, if_true] at hQ
        refine hC _ _ _ _ (s_remember hA.P hA.S (fun m2 f2 hP => ?_))
        have hS2 : CS 70 (A 1) m2 := hA.S.fr f2 rfl rfl rfl
        have eh2 : m2 70 3 = nI (A 1 0 3) := hS2.hung
        have e4 : m2 70 3 ||| (nI 1 <<< (nI s &&& 31)) = nI (A 1 0 3 + 2 ^ s) := by rw [eh2]; exact hg.1
        have hS3 := hS2.setF (k := 3) (x := A 1 0 3 + 2 ^ s) (by decide)
        rw [← e4] at hS3
        have call2 : ∀ P : Option Value → Mm → Prop, P (some (.int (nI (bcN (A 1 0 3 + 2 ^ s))))) (cu m2 70 (upd (m2 70) 3 (m2 70 3 ||| (nI 1 <<< (nI s &&& 31)))), ml, R0 rd, 136) → Cd (d + 3) 336 [.int (m2 70 3 ||| (nI 1 <<< (nI s &&& 31)))] (cu m2 70 (upd (m2 70) 3 (m2 70 3 ||| (nI 1 <<< (nI s &&& 31)))), ml, R0 rd, 136) P := by
          intro P hP2
          have := s_bitCount (d := d + 2) (n := 136) (mi := cu m2 70 (upd (m2 70) 3 (m2 70 3 ||| (nI 1 <<< (nI s &&& 31))))) (ml := ml) (mr := R0 rd) (Q := P) (by decide) (show A 1 0 3 + 2 ^ s < 512 by omega) hP2
          rw [← e4] at this
          exact this
        refine hC _ _ _ _ (call2 _ ⟨rfl, ?_⟩)
        exact hQ _ (hA.rm (L := [70, 76, 77]) (Fr.cu (c := 70) (f2.mono rfl) rfl) (hP.fr (L := [70]) (Fr.cu (c := 70) Fr.none rfl) rfl rfl) hS3 rfl) ((f2.up rfl).cu (by omega))
      · simp only [hp] at hQ
        exact hQ mi hA Up.none
  · rw [ixo_none hno] at hQ
    exact hQ mi hA Up.none
set_option maxHeartbeats 1000000 in
theorem p_lower (hA : CI A mi) (hw : wfA A) (hQ : ∀ mi', CI (aLower A x).2 mi' → Up mi mi' → Q (some (.int (aLower A x).1)) (mi', ml, R0 rd, 136)) : Cd (d + 4) k_Hay_lower [.ref 0, .int x] (mi, ml, R0 rd, 136) Q := by
  unfold aLower at hQ
  have h5 := hw.T.sg5
  have h32 := hw.S.hu
  refine r_Hay_lower (by decide) (fun K Kl hK hC => ?_)
  refine hC _ _ _ _ (s_hasSign hA.T hw.T (fun s hs e => ⟨fun z => absurd z (by decide), fun _ => ?_⟩) (fun hno => ⟨fun _ => ⟨rfl, ?_⟩, fun z => absurd (by decide) z⟩))
  · subst e
    rw [ixo_some hs] at hQ
    refine hC _ _ _ _ (p_hangs hA hw hs (fun hb => ⟨fun _ => ?_, fun z => absurd z (by decide)⟩) (fun hb => ⟨fun z => absurd (by decide) z, fun _ => ⟨rfl, ?_⟩⟩))
    · have hg := lwB s (by omega) _ h32 hb
      simp only [if_pos hb] at hQ
      refine hC _ _ _ _ (s_remember hA.P hA.S (fun m2 f2 hP => ?_))
      have hS2 : CS 70 (A 1) m2 := hA.S.fr f2 rfl rfl rfl
      have eh2 : m2 70 3 = nI (A 1 0 3) := hS2.hung
      have e4 : m2 70 3 &&& ((nI 1 <<< (nI s &&& 31)) ^^^ -1) = nI (A 1 0 3 - 2 ^ s) := by rw [eh2]; exact hg
      have hS3 := hS2.setF (k := 3) (x := A 1 0 3 - 2 ^ s) (by decide)
      rw [← e4] at hS3
      have call2 : ∀ P : Option Value → Mm → Prop, P (some (.int (nI (bcN (A 1 0 3 - 2 ^ s))))) (cu m2 70 (upd (m2 70) 3 (m2 70 3 &&& ((nI 1 <<< (nI s &&& 31)) ^^^ -1))), ml, R0 rd, 136) → Cd (d + 3) 336 [.int (m2 70 3 &&& ((nI 1 <<< (nI s &&& 31)) ^^^ -1))] (cu m2 70 (upd (m2 70) 3 (m2 70 3 &&& ((nI 1 <<< (nI s &&& 31)) ^^^ -1))), ml, R0 rd, 136) P := by
        intro P hP2
        have := s_bitCount (d := d + 2) (n := 136) (mi := cu m2 70 (upd (m2 70) 3 (m2 70 3 &&& ((nI 1 <<< (nI s &&& 31)) ^^^ -1)))) (ml := ml) (mr := R0 rd) (Q := P) (by decide) (Nat.lt_of_le_of_lt (Nat.sub_le _ _) (show A 1 0 3 < 512 by omega)) hP2
        rw [← e4] at this
        exact this
      refine hC _ _ _ _ (call2 _ ⟨rfl, ?_⟩)
      exact hQ _ (hA.rm (L := [70, 76, 77]) (Fr.cu (c := 70) (f2.mono rfl) rfl) (hP.fr (L := [70]) (Fr.cu (c := 70) Fr.none rfl) rfl rfl) hS3 rfl) ((f2.up rfl).cu (by omega))
    · simp only [if_neg (show ¬ A 1 0 3 / 2 ^ s % 2 = 1 by omega)] at hQ
      exact hQ mi hA Up.none
  · rw [ixo_none hno] at hQ
    exact hQ mi hA Up.none
theorem p_pieces (hA : CI A mi) (hw : wfA A) (hQ : Q (some (.int (aPieces A x))) (mi, ml, R0 rd, 136)) : Cd (d + 3) k_Hay_pieces [.ref 0, .int x] (mi, ml, R0 rd, 136) Q := by
  unfold aPieces at hQ
  have h4 := hw.T.co4
  have h32 := hw.S.hu
  refine r_Hay_pieces (by decide) (fun K Kl hK hC => ?_)
  refine hC _ _ _ _ (s_hasColour hA.T hw.T (fun c hc e => ⟨fun _ => ?_, fun z => absurd z (by decide)⟩) (fun hno => ⟨fun z => absurd (by decide) z, fun _ => ⟨rfl, ?_⟩⟩))
  · subst e
    rw [ixo_some hc] at hQ
    exact hC _ _ _ _ (s_leftOf hA.T hw.T (show mi 70 3 = nI (A 1 0 3) from hA.S.hung) (by omega) hc ⟨rfl, hQ⟩)
  · rw [ixo_none hno] at hQ
    exact hQ
theorem p_wants (hA : CI A mi) (hw : wfA A) (hQ : Q (some (.int (aWants A x))) (mi, ml, R0 rd, 136)) : Cd (d + 4) k_Hay_wants [.ref 0, .int x] (mi, ml, R0 rd, 136) Q := by
  unfold aWants at hQ
  have h5 := hw.T.sg5
  have hp := pow6 (A 0 0 7) (by omega)
  have es : mi 26 1 = nI (A 0 0 7) := hA.T.signs
  refine r_Hay_wants (by decide) (fun K Kl hK hC => ?_)
  refine ⟨fun h => ⟨rfl, ?_⟩, fun h => ⟨fun h2 => ?_, fun h2 => ⟨rfl, ?_⟩⟩⟩
  · rw [ixo_neg h] at hQ
    exact hQ
  · have h2 : x < nI 1 <<< (mi 26 1 &&& 31) := h2
    rw [es, hp.1] at h2
    obtain ⟨m, hm, rfl⟩ := nI_of h
    have h2 := iLT h2
    rw [ixo_some h2] at hQ
    exact hC _ _ _ _ (s_missing hA.T hw.T (by omega) ⟨rfl, hQ⟩)
  · have h2 : ¬ x < nI 1 <<< (mi 26 1 &&& 31) := h2
    rw [es, hp.1] at h2
    rw [ixo_ge (by omega) (Int32.not_lt.mp h2)] at hQ
    exact hQ
theorem p_meant (hA : CI A mi) (hw : wfA A) (hQ : Q (some (.int (aMeant A x y))) (mi, ml, R0 rd, 136)) : Cd (d + 3) k_Hay_meant [.ref 0, .int x, .int y] (mi, ml, R0 rd, 136) Q := by
  unfold aMeant at hQ
  have h4 := hw.T.co4
  have lp : ∀ n r, n ≤ 4 → r < 4 ^ n → (Q (some (.int (if allN (fun i => decide (r / 4 ^ i % 4 < A 0 0 6)) n then nI (mbN (A 0) n r) else -1))) (mi, ml, R0 rd, 136)) → ∀ j, j ≤ n → (∀ i, i < j → r / 4 ^ i % 4 < A 0 0 6) → GoM (d + 2) k_Hay_meant 136 Q 26 [.ref 0, .int (nI n), .int (nI r), .int (nI j)] [] (mi, ml, R0 rd, 136) := by
    intro n r hn hr hQ
    have hr2 : r < 256 := by have := (pow4 n (by omega)).2; omega
    refine upto ?_ ?_
    · intro hall
      rw [if_pos (allN_iff.mpr (fun i hi => decide_eq_true (hall i hi)))] at hQ
      refine g_Hay_meant (fun K Kl hK hC => ?_)
      refine ⟨fun _ => ?_, fun h => absurd (iNLE h) (by omega)⟩
      exact hC _ _ _ _ (s_meantBy hA.T hw.T (by omega) hr2 ⟨rfl, hQ⟩)
    · intro j hj ih hall
      have hdg := rowD j (by omega) r hr2
      have hm4 : r / 4 ^ j % 4 < 4 := Nat.mod_lt _ (by decide)
      have call : ∀ P : Option Value → Mm → Prop, (r / 4 ^ j % 4 < A 0 0 6 → P (some (.int (nI 1))) (mi, ml, R0 rd, 136)) → (¬ r / 4 ^ j % 4 < A 0 0 6 → P (some (.int (nI 0))) (mi, ml, R0 rd, 136)) → Cd (d + 2) k_Washing_hasColour [.ref 26, .int ((nI r >>> ((nI 2 * nI j) &&& 31)) &&& nI 3)] (mi, ml, R0 rd, 136) P := by
        intro P q1 q0
        rw [hdg]
        refine s_hasColour hA.T hw.T (fun f hf e => q1 ?_) (fun hno => q0 (fun z => hno _ z rfl))
        have := iEQ e
        omega
      refine g_Hay_meant (fun K Kl hK hC => ?_)
      refine ⟨fun h => absurd (iLE h) (by omega), fun _ => ?_⟩
      refine hC _ _ _ _ (call _ (fun hc => ⟨fun _ => ?_, fun z => absurd z (by decide)⟩) (fun hc => ⟨fun z => absurd (by decide) z, fun _ => ⟨rfl, ?_⟩⟩))
      · have ih := ih (lt_s hall hc)
        rw [nI1 j] at ih
        exact hK _ _ _ _ ih
      · rw [if_neg (fun z => hc (of_decide_eq_true (allN_iff.mp z j hj)))] at hQ
        exact hQ
  refine r_Hay_meant (by decide) (fun K Kl hK hC => ?_)
  refine ⟨fun h => ⟨rfl, ?_⟩, fun h => ⟨fun h2 => ⟨rfl, ?_⟩, fun h2 => ?_⟩⟩
  · rw [ixo_neg h] at hQ
    exact hQ
  · rw [ixo_big (n := 4) (by omega) h2] at hQ
    exact hQ
  · obtain ⟨n, hn, rfl, he⟩ := ixo_rg (n := 4) (by omega) h h2
    have hp := pow4 n (by omega)
    rw [he] at hQ
    refine ⟨fun h3 => ⟨rfl, ?_⟩, fun h3 => ⟨fun h4 => ?_, fun h4 => ⟨rfl, ?_⟩⟩⟩
    · simp only [ixo_neg h3] at hQ
      exact hQ
    · have h4 : y < nI 1 <<< ((nI 2 * nI n) &&& 31) := h4
      rw [hp.1] at h4
      obtain ⟨r, hr, rfl⟩ := nI_of h3
      have h4 := iLT h4
      simp only [ixo_some h4] at hQ
      exact hK _ _ _ _ (lp n r hn h4 hQ 0 (Nat.zero_le _) lt_0)
    · have h4 : ¬ y < nI 1 <<< ((nI 2 * nI n) &&& 31) := h4
      rw [hp.1] at h4
      simp only [ixo_ge (show 4 ^ n < 2 ^ 31 by omega) (Int32.not_lt.mp h4)] at hQ
      exact hQ
theorem p_apart (hA : CI A mi) (hw : wfA A) (hQ : Q (some (.int (aApart A))) (mi, ml, R0 rd, 136)) : Cd (d + 5) k_Hay_apart [.ref 0] (mi, ml, R0 rd, 136) Q := by
  refine r_Hay_apart (by decide) (fun K Kl hK hC => ?_)
  exact hC _ _ _ _ (s_fewest hA.T hw.T ⟨rfl, hQ⟩)
theorem p_news (hA : CI A mi) (hw : wfA A) (hQ : ∀ mi' ml', Fr SC mi mi' → Fr [36] ml ml' → Q (some (.int (aNews A x y))) (mi', ml', R0 rd, 136)) : Cd (d + 7) k_Hay_news [.ref 0, .int x, .int y] (mi, ml, R0 rd, 136) Q := by
  unfold aNews at hQ
  have h6 := hw.T.wd6
  have h3 := hw.T.hl3
  refine r_Hay_news (by decide) (fun K Kl hK hC => ?_)
  refine hC _ _ _ _ (s_hasWord hA.T hw.T (fun w hwd e => ⟨fun z => absurd z (by decide), fun _ => ?_⟩) (fun hno => ⟨fun _ => ⟨rfl, ?_⟩, fun z => absurd (by decide) z⟩))
  · subst e
    rw [ixo_some hwd] at hQ
    refine hC _ _ _ _ (s_hasHill hA.T hw.T (fun h hh e => ⟨fun _ => ?_, fun z => absurd z (by decide)⟩) (fun hno => ⟨fun z => absurd (by decide) z, fun _ => ⟨rfl, ?_⟩⟩))
    · subst e
      rw [ixo_some hh] at hQ
      exact hC _ _ _ _ (s_knownSince hA.T hw.T hA.S hw.S hwd hh (fun m2 f2 => ⟨rfl, hQ m2 ml (f2.mono rfl) Fr.none⟩))
    · rw [ixo_none hno] at hQ
      exact hQ mi ml Fr.none Fr.none
  · rw [ixo_none hno] at hQ
    exact hQ mi ml Fr.none Fr.none
theorem p_maybe (hA : CI A mi) (hw : wfA A) (hQ : Q (some (.int (aMaybe A x y))) (mi, ml, R0 rd, 136)) : Cd (d + 4) k_Hay_maybe [.ref 0, .int x, .int y] (mi, ml, R0 rd, 136) Q := by
  unfold aMaybe at hQ
  have hfl := hw.T.fl
  refine r_Hay_maybe (by decide) (fun K Kl hK hC => ?_)
  refine hC _ _ _ _ (s_Told_hasField (o := 0) (Or.inl rfl) hA.T hw.T (fun f hf e => ⟨fun z => absurd z (by decide), fun _ => ?_⟩) (fun hno => ⟨fun _ => ⟨rfl, ?_⟩, fun z => absurd (by decide) z⟩))
  · subst e
    have es : mi 71 f = nI (A 1 1 f) := hA.S.shape f (by omega)
    have hs := hw.S.sh f
    rw [ixo_some (n := flA A) hf (by unfold flA; omega)] at hQ
    refine ⟨fun h => ⟨rfl, ?_⟩, fun h => ⟨fun h2 => ?_, fun h2 => ⟨rfl, ?_⟩⟩⟩
    · rw [ixo_neg h] at hQ
      exact hQ
    · obtain ⟨n, hn, rfl, he⟩ := ixo_rg (n := 9) (by omega) h (fun z => absurd h2 (Int32.not_le.mpr z))
      rw [he] at hQ
      refine ⟨f, by omega, rfl, ?_⟩
      rw [es]
      exact hC _ _ _ _ (s_glyphsOver hA.T hw.T (by omega) hn ⟨rfl, hQ⟩)
    · rw [ixo_big (n := 9) (by omega) (Int32.not_le.mp h2)] at hQ
      exact hQ
  · rw [ixo_none (n := flA A) hno] at hQ
    exact hQ
theorem p_maystand (hA : CI A mi) (hw : wfA A) (hQ : Q (some (.int (aMaystand A x y z))) (mi, ml, R0 rd, 136)) : Cd (d + 5) k_Hay_maystand [.ref 0, .int x, .int y, .int z] (mi, ml, R0 rd, 136) Q := by
  unfold aMaystand at hQ
  have hfl := hw.T.fl
  have h6 := hw.T.wd6
  refine r_Hay_maystand (by decide) (fun K Kl hK hC => ?_)
  refine hC _ _ _ _ (s_Told_hasField (o := 0) (Or.inl rfl) hA.T hw.T (fun f hf e => ⟨fun z => absurd z (by decide), fun _ => ?_⟩) (fun hno => ⟨fun _ => ⟨rfl, ?_⟩, fun z => absurd (by decide) z⟩))
  · subst e
    rw [ixo_some (n := flA A) hf (by unfold flA; omega)] at hQ
    refine hC _ _ _ _ (p_isWay (fun v hv e => ⟨fun z => absurd z (by decide), fun _ => ?_⟩) (fun hno => ⟨fun _ => ⟨rfl, ?_⟩, fun z => absurd (by decide) z⟩))
    · subst e
      rw [ixo_some hv] at hQ
      refine ⟨fun h => ⟨rfl, ?_⟩, fun h => ⟨fun h2 => ?_, fun h2 => ⟨rfl, ?_⟩⟩⟩
      · rw [ixo_neg h] at hQ
        exact hQ
      · obtain ⟨n, hn, rfl, he⟩ := ixo_rg (n := 9) (by omega) h (fun z => absurd h2 (Int32.not_le.mpr z))
        rw [he] at hQ
        refine hC _ _ _ _ (s_wordsOver hA.T hw.T (hA.S.sh hw.S) hf hv hn ?_)
        exact ⟨rfl, hQ⟩
      · rw [ixo_big (n := 9) (by omega) (Int32.not_le.mp h2)] at hQ
        exact hQ
    · rw [ixo_none hno] at hQ
      exact hQ
  · rw [ixo_none (n := flA A) hno] at hQ
    exact hQ
theorem p_likeliest (hA : CI A mi) (hw : wfA A) (hQ : Q (some (.int (aLikeliest A x y z))) (mi, ml, R0 rd, 136)) : Cd (d + 5) k_Hay_likeliest [.ref 0, .int x, .int y, .int z] (mi, ml, R0 rd, 136) Q := by
  unfold aLikeliest at hQ
  have hfl := hw.T.fl
  have h6 := hw.T.wd6
  refine r_Hay_likeliest (by decide) (fun K Kl hK hC => ?_)
  refine hC _ _ _ _ (s_Told_hasField (o := 0) (Or.inl rfl) hA.T hw.T (fun f hf e => ⟨fun z => absurd z (by decide), fun _ => ?_⟩) (fun hno => ⟨fun _ => ⟨rfl, ?_⟩, fun z => absurd (by decide) z⟩))
  · subst e
    rw [ixo_some (n := flA A) hf (by unfold flA; omega)] at hQ
    refine hC _ _ _ _ (p_isWay (fun v hv e => ⟨fun z => absurd z (by decide), fun _ => ?_⟩) (fun hno => ⟨fun _ => ⟨rfl, ?_⟩, fun z => absurd (by decide) z⟩))
    · subst e
      rw [ixo_some hv] at hQ
      refine ⟨fun h => ⟨rfl, ?_⟩, fun h => ⟨fun h2 => ?_, fun h2 => ⟨rfl, ?_⟩⟩⟩
      · rw [ixo_neg h] at hQ
        exact hQ
      · obtain ⟨n, hn, rfl, he⟩ := ixo_rg (n := 9) (by omega) h (fun z => absurd h2 (Int32.not_le.mpr z))
        rw [he] at hQ
        refine hC _ _ _ _ (s_wordsOver hA.T hw.T (hA.S.sh hw.S) hf hv hn ?_)
        have hm : wovM (A 0) (A 1 1) f v n < 64 := by
          have h1 := mskN_lt (fun w => wovN (A 0) (A 1 1) w f v n) (A 0 0 4)
          have h2 := (pow6 (A 0 0 4) h6).2
          unfold wovM
          omega
        exact hC _ _ _ _ (s_worthiest hA.T hw.T hm ⟨rfl, hQ⟩)
      · rw [ixo_big (n := 9) (by omega) (Int32.not_le.mp h2)] at hQ
        exact hQ
    · rw [ixo_none hno] at hQ
      exact hQ
  · rw [ixo_none (n := flA A) hno] at hQ
    exact hQ
end
