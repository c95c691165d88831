/-! WHAT THE CLASS ANSWERS: small calls -/
def aFault (A : St) (x : Int32) : Int32 := if x = 0 then nI (A 4 0 3) else if x = nI 1 then nI (A 4 0 4) - 1 else -1
/-- a name's number -/
def nmI (f : Nat → Nat) (n : Nat) (x : Int32) : Int32 := if fnd (fun i => decide (nI (f i) = x)) n < n then nI (fnd (fun i => decide (nI (f i) = x)) n) else -1
def aNamed (A : St) (x y : Int32) : Int32 := if x = nI 0 then nmI (A 0 1) (A 0 0 2) y else if x = nI 1 then nmI (A 0 7) (A 0 0 4) y else if x = nI 2 then nmI (A 0 9) (A 0 0 5) y else -1
/-- a letter, 1 .. 26 -/
def ixl (x : Int32) : Option Nat := match ixo x 27 with
  | some 0 => none
  | r => r
def aShape (A : St) (x : Int32) : Int32 := match ixl x with
  | some c => nI (shpN (A 0) c)
  | none => -1
def aSeen (A : St) (x y : Int32) : Int32 := match ixo x (A 0 0 5), ixo y (flA A) with
  | some h, some f => nI (seenN (A 0 10 h) (A 1 1 f))
  | _, _ => -1
def aRead (A : St) (x y : Int32) : Int32 := match ixo x (A 0 0 5), ixo y (flA A) with
  | some h, some f => nI (readN (A 0) h (A 1 1 f))
  | _, _ => -1
def aTaken (A : St) (x y : Int32) : Int32 := match ixo x (A 0 0 5), ixl y with
  | some h, some c => nI (readN (A 0) h (shpN (A 0) c))
  | _, _ => -1
noncomputable def aLaw (A : St) (x : Int32) : Int64 := match ixo x (flA A) with
  | some f => oe (lwN (A 0) (A 1) f)
  | none => -9223372036854775808
theorem ixl_lt {x : Int32} (h : x < nI 1) : ixl x = none := by
  unfold ixl
  rcases i_nn x with hx | ⟨j, hj, rfl⟩
  · rw [ixo_neg hx]
  · have := iLT h
    rw [show j = 0 by omega, ixo_some (by omega)]
    rfl
theorem ixl_gt {x : Int32} (h : nI 26 < x) : ixl x = none := by
  unfold ixl
  rw [ixo_big (by omega) h]
theorem ixl_in {x : Int32} (h1 : ¬ x < nI 1) (h : ¬ nI 26 < x) : ∃ c, 1 ≤ c ∧ c ≤ 26 ∧ x = nI c ∧ ixl x = some c := by
  have h0 : ¬ x < 0 := fun z => h1 (Int32.lt_trans z (by decide))
  obtain ⟨c, hc, rfl⟩ := nI_of h0
  have hc1 := iNLT h1
  have hc2 := iNLT h
  refine ⟨c, hc1, hc2, rfl, ?_⟩
  unfold ixl
  rw [ixo_some (by omega)]
  match c, hc1 with
  | c + 1, _ => rfl
theorem nmI_hit {f : Nat → Nat} {n j : Nat} {x : Int32} (hj : j < n) (h : nI (f j) = x) (hb : ∀ i, i < j → nI (f i) ≠ x) : nmI f n x = nI j := by
  unfold nmI
  rw [fnd_at hj (by simp [h]) (fun i hi => by simp [hb i hi]), if_pos hj]
theorem nmI_none {f : Nat → Nat} {n : Nat} {x : Int32} (hb : ∀ i, i < n → nI (f i) ≠ x) : nmI f n x = -1 := by
  unfold nmI
  rw [fnd_none (fun i hi => by simp [hb i hi]), if_neg (by omega)]
section
variable {d : Nat} {Q : Option Value → Mm → Prop} {A : St} {mi : Nat → Nat → Int32} {ml : Nat → Nat → Int64} {rd : Option Nat} {x y z : Int32}
theorem s_indexOf2 {c L m : Nat} {xm : Int32} (hxm : xm = nI m) (hc : (c = 7 ∧ L = 5) ∨ (c = 17 ∧ L = 6) ∨ (c = 21 ∧ L = 3) ∨ (c = 27 ∧ L = 4) ∨ (c = 29 ∧ L = 5) ∨ (c = 15 ∧ L = 9) ∨ (c = 38 ∧ L = 5) ∨ (c = 48 ∧ L = 6) ∨ (c = 52 ∧ L = 3) ∨ (c = 58 ∧ L = 4) ∨ (c = 60 ∧ L = 5) ∨ (c = 46 ∧ L = 9)) (hm : m ≤ L)
    (hit : ∀ j, j < m → mi c j = x → (∀ i, i < j → mi c i ≠ x) → Q (some (.int (nI j))) (mi, ml, R0 rd, 136)) (none : (∀ i, i < m → mi c i ≠ x) → Q (some (.int (-1))) (mi, ml, R0 rd, 136)) : Cd (d + 1) k_Hay_indexOf [.ref c, .int xm, .int x] (mi, ml, R0 rd, 136) Q := by
  subst hxm
  exact s_indexOf hc hm hit none
theorem p_fault (hA : CI A mi) (hQ : Q (some (.int (aFault A x))) (mi, ml, R0 rd, 136)) : Cd (d + 1) k_Hay_fault [.ref 0, .int x] (mi, ml, R0 rd, 136) Q := by
  unfold aFault at hQ
  refine r_Hay_fault (by decide) (fun K Kl hK hC => ⟨fun h => ⟨fun h2 => ?_, fun h2 => ?_⟩, fun h => ?_⟩)
  · rw [if_neg h, if_neg h2] at hQ
    exact ⟨rfl, hQ⟩
  · rw [if_neg h, if_pos h2, ← hA.qp] at hQ
    exact ⟨rfl, hQ⟩
  · rw [if_pos h, ← hA.q] at hQ
    exact ⟨rfl, hQ⟩
theorem p_named (hA : CI A mi) (hw : wfA A) (hQ : Q (some (.int (aNamed A x y))) (mi, ml, R0 rd, 136)) : Cd (d + 2) k_Hay_named [.ref 0, .int x, .int y] (mi, ml, R0 rd, 136) Q := by
  unfold aNamed at hQ
  have e1 : mi 6 2 = nI (A 0 0 2) := hA.T.owners
  have e2 : mi 13 1 = nI (A 0 0 4) := hA.T.words
  have e3 : mi 20 0 = nI (A 0 0 5) := hA.T.hills
  have o1 : ∀ i, i < A 0 0 2 → mi 7 i = nI (A 0 1 i) := hA.T.oname
  have o2 : ∀ i, i < A 0 0 4 → mi 17 i = nI (A 0 7 i) := hA.T.wn
  have o3 : ∀ i, i < A 0 0 5 → mi 21 i = nI (A 0 9 i) := hA.T.hn
  have b1 := hw.T.own5
  have b2 := hw.T.wd6
  have b3 := hw.T.hl3
  refine r_Hay_named (by decide) (fun K Kl hK hC => ⟨fun h => ?_, fun h => ⟨fun h2 => ?_, fun h2 => ⟨fun h3 => ?_, fun h3 => ?_⟩⟩⟩)
  · rw [if_pos h] at hQ
    refine hC _ _ _ _ (s_indexOf2 e1 (Or.inl ⟨rfl, rfl⟩) (by omega) (fun j hj he hb => ⟨rfl, ?_⟩) (fun hb => ⟨rfl, ?_⟩))
    · rw [nmI_hit hj (by rw [← o1 j hj]; exact he) (fun i hi => by rw [← o1 i (by omega)]; exact hb i hi)] at hQ
      exact hQ
    · rw [nmI_none (fun i hi => by rw [← o1 i (by omega)]; exact hb i hi)] at hQ
      exact hQ
  · rw [if_neg h, if_pos h2] at hQ
    refine hC _ _ _ _ (s_indexOf2 e2 (Or.inr (Or.inl ⟨rfl, rfl⟩)) (by omega) (fun j hj he hb => ⟨rfl, ?_⟩) (fun hb => ⟨rfl, ?_⟩))
    · rw [nmI_hit hj (by rw [← o2 j hj]; exact he) (fun i hi => by rw [← o2 i (by omega)]; exact hb i hi)] at hQ
      exact hQ
    · rw [nmI_none (fun i hi => by rw [← o2 i (by omega)]; exact hb i hi)] at hQ
      exact hQ
  · rw [if_neg h, if_neg h2, if_pos h3] at hQ
    refine hC _ _ _ _ (s_indexOf2 e3 (Or.inr (Or.inr (Or.inl ⟨rfl, rfl⟩))) (by omega) (fun j hj he hb => ⟨rfl, ?_⟩) (fun hb => ⟨rfl, ?_⟩))
    · rw [nmI_hit hj (by rw [← o3 j hj]; exact he) (fun i hi => by rw [← o3 i (by omega)]; exact hb i hi)] at hQ
      exact hQ
    · rw [nmI_none (fun i hi => by rw [← o3 i (by omega)]; exact hb i hi)] at hQ
      exact hQ
  · rw [if_neg h, if_neg h2, if_neg h3] at hQ
    exact ⟨rfl, hQ⟩
theorem p_shape (hA : CI A mi) (hQ : Q (some (.int (aShape A x))) (mi, ml, R0 rd, 136)) : Cd (d + 1) k_Hay_shape [.ref 0, .int x] (mi, ml, R0 rd, 136) Q := by
  unfold aShape at hQ
  have so : ∀ c, c < 32 → mi 16 c = nI (shpN (A 0) c) := hA.T.so
  refine r_Hay_shape (by decide) (fun K Kl hK hC => ⟨fun h => ⟨rfl, ?_⟩, fun h => ⟨fun h2 => ?_, fun h2 => ⟨rfl, ?_⟩⟩⟩)
  · rw [ixl_lt h] at hQ
    exact hQ
  · obtain ⟨c, h1, h26, rfl, he⟩ := ixl_in h (fun z => absurd h2 (Int32.not_le.mpr z))
    rw [he] at hQ
    have hQ : Q (some (.int (nI (shpN (A 0) c)))) (mi, ml, R0 rd, 136) := hQ
    rw [← so c (by omega)] at hQ
    exact ⟨c, by omega, rfl, rfl, hQ⟩
  · rw [ixl_gt (Int32.not_le.mp h2)] at hQ
    exact hQ
theorem p_seen (hA : CI A mi) (hw : wfA A) (hQ : Q (some (.int (aSeen A x y))) (mi, ml, R0 rd, 136)) : Cd (d + 2) k_Hay_seen [.ref 0, .int x, .int y] (mi, ml, R0 rd, 136) Q := by
  unfold aSeen at hQ
  have hfl := hw.T.fl
  refine r_Hay_seen (by decide) (fun K Kl hK hC => ?_)
  refine hC _ _ _ _ (s_hasHill hA.T hw.T (fun h hh e => ⟨fun z => absurd z (by decide), fun _ => ?_⟩) (fun hno => ⟨fun _ => ⟨rfl, ?_⟩, fun z => absurd (by decide) z⟩))
  · subst e
    have h3 := hw.T.hl3
    refine hC _ _ _ _ (s_Told_hasField (o := 0) (Or.inl rfl) hA.T hw.T (fun f hf e => ⟨fun _ => ?_, fun z => absurd z (by decide)⟩) (fun hno => ⟨fun z => absurd (by decide) z, fun _ => ⟨rfl, ?_⟩⟩))
    · subst e
      have hs := hw.S.sh f
      have es : mi 71 f = nI (A 1 1 f) := hA.S.shape f (by omega)
      refine ⟨f, by omega, rfl, ?_⟩
      rw [es]
      refine hC _ _ _ _ (s_seenFrom hA.T hw.T hh (by omega) ⟨rfl, ?_⟩)
      rw [ixo_some hh, ixo_some (n := flA A) hf (by unfold flA; omega)] at hQ
      exact hQ
    · rw [ixo_some hh, ixo_none (n := flA A) hno] at hQ
      exact hQ
  · rw [ixo_none hno] at hQ
    exact hQ
theorem p_read (hA : CI A mi) (hw : wfA A) (hQ : Q (some (.int (aRead A x y))) (mi, ml, R0 rd, 136)) : Cd (d + 3) k_Hay_read [.ref 0, .int x, .int y] (mi, ml, R0 rd, 136) Q := by
  unfold aRead at hQ
  have hfl := hw.T.fl
  refine r_Hay_read (by decide) (fun K Kl hK hC => ?_)
  refine hC _ _ _ _ (s_hasHill hA.T hw.T (fun h hh e => ⟨fun z => absurd z (by decide), fun _ => ?_⟩) (fun hno => ⟨fun _ => ⟨rfl, ?_⟩, fun z => absurd (by decide) z⟩))
  · subst e
    have h3 := hw.T.hl3
    refine hC _ _ _ _ (s_Told_hasField (o := 0) (Or.inl rfl) hA.T hw.T (fun f hf e => ⟨fun _ => ?_, fun z => absurd z (by decide)⟩) (fun hno => ⟨fun z => absurd (by decide) z, fun _ => ⟨rfl, ?_⟩⟩))
    · subst e
      have hs := hw.S.sh f
      have es : mi 71 f = nI (A 1 1 f) := hA.S.shape f (by omega)
      refine ⟨f, by omega, rfl, ?_⟩
      rw [es]
      refine hC _ _ _ _ (s_readFrom hA.T hw.T hh (by omega) ⟨rfl, ?_⟩)
      rw [ixo_some hh, ixo_some (n := flA A) hf (by unfold flA; omega)] at hQ
      exact hQ
    · rw [ixo_some hh, ixo_none (n := flA A) hno] at hQ
      exact hQ
  · rw [ixo_none hno] at hQ
    exact hQ
theorem p_taken (hA : CI A mi) (hw : wfA A) (hQ : Q (some (.int (aTaken A x y))) (mi, ml, R0 rd, 136)) : Cd (d + 3) k_Hay_taken [.ref 0, .int x, .int y] (mi, ml, R0 rd, 136) Q := by
  unfold aTaken at hQ
  have hfl := hw.T.fl
  have so : ∀ c, c < 32 → mi 16 c = nI (shpN (A 0) c) := hA.T.so
  refine r_Hay_taken (by decide) (fun K Kl hK hC => ?_)
  refine hC _ _ _ _ (s_hasHill hA.T hw.T (fun h hh e => ⟨fun z => absurd z (by decide), fun _ => ?_⟩) (fun hno => ⟨fun _ => ⟨rfl, ?_⟩, fun z => absurd (by decide) z⟩))
  · subst e
    have h3 := hw.T.hl3
    rw [ixo_some hh] at hQ
    refine ⟨fun h1 => ⟨rfl, ?_⟩, fun h1 => ⟨fun h2 => ?_, fun h2 => ⟨rfl, ?_⟩⟩⟩
    · rw [ixl_lt h1] at hQ
      exact hQ
    · obtain ⟨c, hc1, h26, rfl, he⟩ := ixl_in h1 (fun z => absurd h2 (Int32.not_le.mpr z))
      rw [he] at hQ
      have hs := shpN_le hw.T c
      refine ⟨c, by omega, rfl, ?_⟩
      rw [so c (by omega)]
      exact hC _ _ _ _ (s_readFrom hA.T hw.T hh (by omega) ⟨rfl, hQ⟩)
    · rw [ixl_gt (Int32.not_le.mp h2)] at hQ
      exact hQ
  · rw [ixo_none hno] at hQ
    exact hQ
theorem p_law (hA : CI A mi) (hw : wfA A) (hQ : ∀ mi' ml', Fr SC mi mi' → Fr [36] ml ml' → Q (some (.long (aLaw A x))) (mi', ml', R0 rd, 136)) : Cd (d + 4) k_Hay_law [.ref 0, .int x] (mi, ml, R0 rd, 136) Q := by
  unfold aLaw at hQ
  have hfl := hw.T.fl
  refine r_Hay_law (by decide) (fun K Kl hK hC => ?_)
  refine hC _ _ _ _ (s_Told_hasField (o := 0) (Or.inl rfl) hA.T hw.T (fun f hf e => ⟨fun _ => ?_, fun z => absurd z (by decide)⟩) (fun hno => ⟨fun z => absurd (by decide) z, fun _ => ⟨rfl, ?_⟩⟩))
  · subst e
    rw [ixo_some (n := flA A) hf (by unfold flA; omega)] at hQ
    exact hC _ _ _ _ (s_work (Or.inl rfl) hA.T hw.T hw.L hA.S hw.S hf (fun mi' ml' f1 f2 => ⟨rfl, hQ mi' ml' (f1.mono rfl) f2⟩))
  · rw [ixo_none (n := flA A) hno] at hQ
    exact hQ mi ml Fr.none Fr.none
theorem p_isWay (h1 : ∀ w, w < 2 → x = nI w → Q (some (.int (nI 1))) (mi, ml, R0 rd, 136)) (h0 : (∀ w, w < 2 → x ≠ nI w) → Q (some (.int (nI 0))) (mi, ml, R0 rd, 136)) : Cd (d + 1) k_Hay_isWay [.int x] (mi, ml, R0 rd, 136) Q := by
  refine r_Hay_isWay (by decide) (fun K Kl hK hC => ⟨fun h => ⟨Or.inr rfl, rfl, h1 0 (by omega) h⟩, fun h => ⟨fun h2 => ⟨Or.inl rfl, rfl, h0 (fun w hw e => ?_)⟩, fun h2 => ⟨Or.inr rfl, rfl, h1 1 (by omega) h2⟩⟩⟩)
  match w, hw with
  | 0, _ => exact h e
  | 1, _ => exact h2 e
theorem p_isPlaced (hA : CI A mi) (hw : wfA A) (h1 : ∀ w f y1, w < A 0 0 4 → f < flA A → y1 < 2 → x = nI w → y = nI f → z = nI y1 → Q (some (.int (nI 1))) (mi, ml, R0 rd, 136)) (h0 : (ixo x (A 0 0 4) = none ∨ ixo y (flA A) = none ∨ ixo z 2 = none) → Q (some (.int (nI 0))) (mi, ml, R0 rd, 136)) : Cd (d + 2) k_Hay_isPlaced [.ref 0, .int x, .int y, .int z] (mi, ml, R0 rd, 136) Q := by
  refine r_Hay_isPlaced (by decide) (fun K Kl hK hC => ?_)
  refine hC _ _ _ _ (s_hasWord hA.T hw.T (fun w hw1 e => ⟨fun z => absurd z (by decide), fun _ => ?_⟩) (fun hno => ⟨fun _ => ⟨Or.inl rfl, rfl, h0 (Or.inl (ixo_none hno))⟩, fun z => absurd (by decide) z⟩))
  refine hC _ _ _ _ (s_Told_hasField (o := 0) (Or.inl rfl) hA.T hw.T (fun f hf e2 => ⟨fun z => absurd z (by decide), fun _ => ?_⟩) (fun hno => ⟨fun _ => ⟨Or.inl rfl, rfl, h0 (Or.inr (Or.inl (ixo_none hno)))⟩, fun z => absurd (by decide) z⟩))
  refine hC _ _ _ _ (p_isWay (fun v hv e3 => ⟨fun z => absurd z (by decide), fun _ => ⟨Or.inr rfl, rfl, h1 w f v hw1 hf hv e e2 e3⟩⟩) (fun hno => ⟨fun _ => ⟨Or.inl rfl, rfl, h0 (Or.inr (Or.inr (ixo_none hno)))⟩, fun z => absurd (by decide) z⟩))
theorem p_areUnlike (hA : CI A mi) (hw : wfA A) (h1 : ∀ v w, v < A 0 0 4 → w < A 0 0 4 → v ≠ w → x = nI v → y = nI w → Q (some (.int (nI 1))) (mi, ml, R0 rd, 136)) (h0 : (x = y ∨ ixo x (A 0 0 4) = none ∨ ixo y (A 0 0 4) = none) → Q (some (.int (nI 0))) (mi, ml, R0 rd, 136)) : Cd (d + 2) k_Hay_areUnlike [.ref 0, .int x, .int y] (mi, ml, R0 rd, 136) Q := by
  refine r_Hay_areUnlike (by decide) (fun K Kl hK hC => ⟨fun h => ⟨Or.inl rfl, rfl, h0 (Or.inl h)⟩, fun h => ?_⟩)
  refine hC _ _ _ _ (s_hasWord hA.T hw.T (fun v hv e => ⟨fun z => absurd z (by decide), fun _ => ?_⟩) (fun hno => ⟨fun _ => ⟨Or.inl rfl, rfl, h0 (Or.inr (Or.inl (ixo_none hno)))⟩, fun z => absurd (by decide) z⟩))
  refine hC _ _ _ _ (s_hasWord hA.T hw.T (fun w hw1 e2 => ⟨fun z => absurd z (by decide), fun _ => ⟨Or.inr rfl, rfl, h1 v w hv hw1 (fun e3 => h (by rw [e, e2, e3])) e e2⟩⟩) (fun hno => ⟨fun _ => ⟨Or.inl rfl, rfl, h0 (Or.inr (Or.inr (ixo_none hno)))⟩, fun z => absurd (by decide) z⟩))
end
