/-! WHAT THE CLASS ANSWERS: words at places -/
def pl3 (A : St) (x y z : Int32) : Option (Nat × Nat × Nat) := match ixo x (A 0 0 4), ixo y (flA A), ixo z 2 with
  | some w, some f, some v => some (w, f, v)
  | _, _, _ => none
theorem pl3_none {A : St} {x y z : Int32} (h : ixo x (A 0 0 4) = none ∨ ixo y (flA A) = none ∨ ixo z 2 = none) : pl3 A x y z = none := by
  unfold pl3
  split
  · rename_i h1 h2 h3
    rw [h1, h2, h3] at h
    rcases h with h | h | h <;> cases h
  · rfl
theorem pl3_some {A : St} {w f v : Nat} (hA : wfT (A 0)) (h1 : w < A 0 0 4) (h2 : f < flA A) (h3 : v < 2) : pl3 A (nI w) (nI f) (nI v) = some (w, f, v) := by
  have := hA.fl
  have := hA.wd6
  unfold pl3
  rw [ixo_some h1, ixo_some h2 (by unfold flA; omega), ixo_some h3]
def un2 (A : St) (x y : Int32) : Option (Nat × Nat) := if x = y then none else match ixo x (A 0 0 4), ixo y (A 0 0 4) with
  | some v, some w => some (v, w)
  | _, _ => none
theorem un2_none {A : St} {x y : Int32} (h : x = y ∨ ixo x (A 0 0 4) = none ∨ ixo y (A 0 0 4) = none) : un2 A x y = none := by
  unfold un2
  split
  · rfl
  · rename_i hn
    split
    · rename_i h1 h2
      rw [h1, h2] at h
      rcases h with h | h | h
      · exact absurd h hn
      · cases h
      · cases h
    · rfl
theorem un2_some {A : St} {v w : Nat} (hA : wfT (A 0)) (h1 : v < A 0 0 4) (h2 : w < A 0 0 4) (h3 : v ≠ w) : un2 A (nI v) (nI w) = some (v, w) := by
  have := hA.wd6
  unfold un2
  rw [if_neg (fun e => h3 (iEQ e)), ixo_some h1, ixo_some h2]
def aCost (A : St) (x y z : Int32) : Int32 := match pl3 A x y z with
  | some (w, f, v) => cI (costN (A 0) (A 1 1) (feA (A 0)) w f v)
  | none => -1
/-- a number of 4 0 -/
def s4 (A : St) (k x : Nat) : St := cu A 4 (cu (A 4) 0 (fun i => if i = k then x else A 4 0 i))
/-- what is, remembered -/
def rmA (A : St) : St := s4 (cu A 3 (rmP (A 4 0 0) (A 3) (A 1))) 0 (rmM (A 4 0 0))
def aSet (A : St) (x y z : Int32) : Int32 × St := match pl3 A x y z with
  | none => (-1, A)
  | some (w, f, v) => match costN (A 0) (A 1 1) (feA (A 0)) w f v with
    | none => (-2, A)
    | some c => if A 1 0 1 < c then (-3, A) else (nI c, cu (rmA A) 1 (sF (sSh (A 1) (putN (A 0) (A 1 1) w f v)) 1 (A 1 0 1 - c)))
def aStack (A : St) (x y : Int32) : Int32 × St := match ixo x (flA A), ixo y 512 with
  | some f, some s => if A 1 1 f = s then (nI 0, A) else (nI 1, cu (rmA A) 1 (sSh (A 1) (updN (A 1 1) f s)))
  | _, _ => (nI 0, A)
def aStands (A : St) (x y : Int32) : Int32 := match ixo x (A 0 0 4), ixo y (A 0 0 5) with
  | some w, some h => nI (rdsN (A 0) (A 1) w h)
  | _, _ => -1
/-- the cheapest place now -/
def chA (A : St) (fe : Nat → Nat) (w : Nat) : Option (Nat × Nat) := chN (fun p => costN (A 0) (A 1 1) fe w (p / 2) (p % 2)) (2 * (A 0 0 0 * A 0 0 1))
def aCheapest (A : St) (x y : Int32) : Int32 := match ixo x (A 0 0 4), ixo y 3 with
  | some w, some k => (match chA A (feA (A 0)) w with
    | none => -2
    | some (p, c) => if k = 0 then nI c else if k = 1 then nI (p / 2) else nI (p % 2))
  | _, _ => -1
def aCrossed (A : St) (x y z : Int32) : Int32 := match un2 A x y, ixo z 3 with
  | some (v, w), some k => (match pairN (A 0) (A 1 1) v w true with
    | none => -2
    | some (c, p, q) => if k = 0 then nI c else if k = 1 then nI (p / 2) else nI (q / 2))
  | _, _ => -1
noncomputable def aLife (A : St) (x y z u : Int32) : Int32 := match pl3 A x y z, ixo u (A 0 0 5) with
  | some (w, f, v), some h => (match costN (A 0) (A 1 1) (feA (A 0)) w f v with
    | none => -2
    | some _ => nI (lifeN (A 0) (A 1) w f v h))
  | _, _ => -1
noncomputable def aPays (A : St) (x y : Int32) : Int32 := match ixo x (A 0 0 5), ixo y 4 with
  | some h, some k => (match pyA (A 0) (A 1) h (A 0 0 4) with
    | none => -2147483648
    | some (m, w, p) => if k = 0 then m else if k = 1 then nI w else if k = 2 then nI (p / 2) else nI (p % 2))
  | _, _ => -2147483648
def aOwed (A : St) (x y : Int32) : Int32 := match ixo x (A 0 0 4), ixo y (A 0 0 2) with
  | some w, some o => (match chA A (feO (A 0) o 1) w, chA A (feO (A 0) o 0) w with
    | none, _ => -3
    | some _, none => -2
    | some (_, c), some (_, e) => nI e - nI c)
  | _, _ => -1
theorem CI.rm {A : St} {S : Nat → Nat → Nat} {mi mi' : Nat → Nat → Int32} {L : List Nat} (h : CI A mi) (hf : Fr L mi mi') (hP : CP (rmM (A 4 0 0)) (rmP (A 4 0 0) (A 3) (A 1)) mi') (hS : CS 70 S mi') (hL : L.all (fun x => !Nat.blt x 70 && Nat.blt x 73 || Nat.beq x 76 || Nat.beq x 77) = true) : CI (cu (rmA A) 1 S) mi' := by
  have out : ∀ c, c < 70 ∨ (73 ≤ c ∧ c < 76) ∨ 78 ≤ c → mi' c = mi c := fun c hc => hf c (nin_not (fun hm => by
    have := List.all_eq_true.mp hL c hm
    simp only [Bool.or_eq_true, Bool.and_eq_true, Nat.blt_eq, Bool.not_eq_true', Nat.beq_eq] at this
    rcases this with (⟨h1, h2⟩ | h1) | h1
    · have : ¬ c < 70 := fun z => by rw [Nat.blt_eq.mpr z] at h1; cases h1
      omega
    · omega
    · omega))
  refine ⟨h.T.keep (fun c h1 h2 => out c (by omega)), hS, h.N.fr (fun c h1 h2 => out c (by omega)), hP, ?_, fun z => ?_, ?_, ?_, ?_, ?_⟩
  · rw [out 0 (by omega)]; exact h.k
  · have := h.I z
    unfold CS at this ⊢
    rw [out 73 (by omega), out (73 + 1) (by omega), out (73 + 2) (by omega)]
    exact this
  · rw [out 0 (by omega)]; exact h.f
  · rw [out 1 (by omega)]; exact h.b
  · rw [out 0 (by omega)]; exact h.q
  · rw [out 0 (by omega)]; exact h.qp
section
variable {d : Nat} {Q : Option Value → Mm → Prop} {A : St} {mi : Nat → Nat → Int32} {ml : Nat → Nat → Int64} {rd : Option Nat} {x y z u : Int32}
theorem p_cost (hA : CI A mi) (hw : wfA A) (hQ : Q (some (.int (aCost A x y z))) (mi, ml, R0 rd, 136)) : Cd (d + 4) k_Hay_cost [.ref 0, .int x, .int y, .int z] (mi, ml, R0 rd, 136) Q := by
  unfold aCost at hQ
  refine r_Hay_cost (by decide) (fun K Kl hK hC => ?_)
  refine hC _ _ _ _ (p_isPlaced hA hw (fun w f v h1 h2 h3 e1 e2 e3 => ⟨fun _ => ?_, fun z => absurd z (by decide)⟩) (fun hno => ⟨fun z => absurd (by decide) z, fun _ => ⟨rfl, ?_⟩⟩))
  · subst e1; subst e2; subst e3
    rw [pl3_some hw.T h1 h2 h3] at hQ
    exact hC _ _ _ _ (s_costOf (Or.inl rfl) (Or.inl rfl) hA.T hw.T (hA.S.sh hw.S) (hA.T.feeA hw.T) h1 h2 h3 ⟨rfl, hQ⟩)
  · rw [pl3_none hno] at hQ
    exact hQ
set_option maxHeartbeats 1000000 in
theorem p_set (hA : CI A mi) (hw : wfA A) (hQ : ∀ mi', CI (aSet A x y z).2 mi' → Up mi mi' → Q (some (.int (aSet A x y z).1)) (mi', ml, R0 rd, 136)) : Cd (d + 4) k_Hay_set [.ref 0, .int x, .int y, .int z] (mi, ml, R0 rd, 136) Q := by
  unfold aSet at hQ
  refine r_Hay_set (by decide) (fun K Kl hK hC => ?_)
  refine hC _ _ _ _ (p_isPlaced hA hw (fun w f v h1 h2 h3 e1 e2 e3 => ⟨fun _ => ?_, fun z => absurd z (by decide)⟩) (fun hno => ⟨fun z => absurd (by decide) z, fun _ => ⟨rfl, ?_⟩⟩))
  · subst e1; subst e2; subst e3
    rw [pl3_some hw.T h1 h2 h3] at hQ
    refine hC _ _ _ _ (s_costOf (Or.inl rfl) (Or.inl rfl) hA.T hw.T (hA.S.sh hw.S) (hA.T.feeA hw.T) h1 h2 h3 ?_)
    cases hc : costN (A 0) (A 1 1) (feA (A 0)) w f v with
    | none =>
      simp only [hc] at hQ
      exact ⟨fun h => absurd h (by decide), fun _ => ⟨rfl, hQ mi hA Up.none⟩⟩
    | some c =>
      simp only [hc] at hQ
      have hcl := costN_le (feA_le hw.T) hc
      have hpl := hw.S.pu
      have ep : mi 70 1 = nI (A 1 0 1) := hA.S.purse
      refine ⟨fun _ => ⟨fun h => ?_, fun h => ⟨rfl, ?_⟩⟩, fun h => absurd (nI_pos' (by omega)) h⟩
      · have h : nI c ≤ mi 70 1 := h
        rw [ep] at h
        have h := iLE h
        rw [if_neg (by omega)] at hQ
        refine hC _ _ _ _ (s_remember hA.P hA.S (fun m2 f2 hP => ?_))
        have hS2 : CS 70 (A 1) m2 := hA.S.fr f2 rfl rfl rfl
        refine hC _ _ _ _ (s_put (Or.inl rfl) (hA.T.fr f2 rfl) hw.T hS2.shape h1 h2 h3 (fun g hg => ⟨rfl, ?_⟩))
        have ep2 : m2 70 1 = nI (A 1 0 1) := hS2.purse
        have hS3 : CS 70 (sSh (A 1) (putN (A 0) (A 1 1) w f v)) (cu m2 (70 + 1) g) := hS2.setSh hg
        have hS4 := hS3.setF (k := 1) (x := A 1 0 1 - c) (by decide)
        have e4 : nI (A 1 0 1 - c) = cu m2 (70 + 1) g 70 1 - nI c := by
          rw [show cu m2 (70 + 1) g 70 1 = m2 70 1 from rfl, ep2, pk_sub (by omega)]
        rw [e4] at hS4
        refine hQ _ (hA.rm (L := [70, 71, 76, 77]) ((Fr.cu (c := 71) (f2.mono rfl) rfl).cu (c := 70) rfl) ?_ hS4 rfl) (((f2.up rfl).cu (by omega)).cu (by omega))
        exact hP.fr (L := [71, 70]) ((Fr.cu (c := 71) Fr.none rfl).cu (c := 70) rfl) rfl rfl
      · have h : ¬ nI c ≤ mi 70 1 := h
        rw [ep] at h
        have h := iNLE h
        rw [if_pos (by omega)] at hQ
        exact hQ mi hA Up.none
  · rw [pl3_none hno] at hQ
    exact hQ mi hA Up.none
set_option maxHeartbeats 1000000 in
theorem p_stack (hA : CI A mi) (hw : wfA A) (hQ : ∀ mi', CI (aStack A x y).2 mi' → Up mi mi' → Q (some (.int (aStack A x y).1)) (mi', ml, R0 rd, 136)) : Cd (d + 2) k_Hay_stack [.ref 0, .int x, .int y] (mi, ml, R0 rd, 136) Q := by
  unfold aStack at hQ
  have hfl := hw.T.fl
  refine r_Hay_stack (by decide) (fun K Kl hK hC => ?_)
  refine hC _ _ _ _ (s_Told_hasField (o := 0) (Or.inl rfl) hA.T hw.T (fun f hf e => ⟨fun z => absurd z (by decide), fun _ => ?_⟩) (fun hno => ⟨fun _ => ⟨Or.inl rfl, rfl, ?_⟩, fun z => absurd (by decide) z⟩))
  · subst e
    rw [ixo_some (n := flA A) hf (by unfold flA; omega)] at hQ
    refine ⟨fun h => ⟨Or.inl rfl, rfl, ?_⟩, fun h => ⟨fun h2 => ⟨Or.inl rfl, rfl, ?_⟩, fun h2 => ⟨f, by omega, rfl, ?_⟩⟩⟩
    · rw [ixo_neg h] at hQ
      exact hQ mi hA Up.none
    · rw [ixo_big (n := 511) (by omega) h2] at hQ
      exact hQ mi hA Up.none
    · obtain ⟨s, hs, rfl, he⟩ := ixo_rg (n := 511) (by omega) h h2
      rw [he] at hQ
      have es : mi 71 f = nI (A 1 1 f) := hA.S.shape f (by omega)
      have hsl := hw.S.sh f
      rw [es]
      refine ⟨fun h3 => ?_, fun h3 => ⟨Or.inl rfl, rfl, ?_⟩⟩
      · have h3 := iNE h3
        simp only [if_neg h3] at hQ
        refine hC _ _ _ _ (s_remember hA.P hA.S (fun m2 f2 hP => ⟨f, by omega, rfl, Or.inr rfl, rfl, ?_⟩))
        have hS2 : CS 70 (A 1) m2 := hA.S.fr f2 rfl rfl rfl
        have hS3 : CS 70 (sSh (A 1) (updN (A 1 1) f s)) (cu m2 (70 + 1) (upd (m2 71) f (nI s))) := hS2.setSh (fun i hi => by
          unfold updN
          by_cases h4 : i = f
          · rw [if_pos h4, h4]; exact pk_us
          · rw [if_neg h4, pk_un h4]; exact hS2.shape i hi)
        exact hQ _ (hA.rm (L := [71, 76, 77]) (Fr.cu (c := 71) (f2.mono rfl) rfl) (hP.fr (L := [71]) (Fr.cu (c := 71) Fr.none rfl) rfl rfl) hS3 rfl) ((f2.up rfl).cu (by omega))
      · have h3 := iEQ h3
        simp only [if_pos h3] at hQ
        exact hQ mi hA Up.none
  · rw [ixo_none (n := flA A) hno] at hQ
    exact hQ mi hA Up.none
theorem p_stands (hA : CI A mi) (hw : wfA A) (hQ : ∀ mi' ml', Fr SC mi mi' → Fr [36] ml ml' → Q (some (.int (aStands A x y))) (mi', ml', R0 rd, 136)) : Cd (d + 5) k_Hay_stands [.ref 0, .int x, .int y] (mi, ml, R0 rd, 136) Q := by
  unfold aStands at hQ
  have h6 := hw.T.wd6
  have h3 := hw.T.hl3
  refine r_Hay_stands (by decide) (fun K Kl hK hC => ?_)
  refine hC _ _ _ _ (s_hasWord hA.T hw.T (fun w hwd e => ⟨fun z => absurd z (by decide), fun _ => ?_⟩) (fun hno => ⟨fun _ => ⟨rfl, ?_⟩, fun z => absurd (by decide) z⟩))
  · subst e
    rw [ixo_some hwd] at hQ
    refine hC _ _ _ _ (s_hasHill hA.T hw.T (fun h hh e => ⟨fun _ => ?_, fun z => absurd z (by decide)⟩) (fun hno => ⟨fun z => absurd (by decide) z, fun _ => ⟨rfl, ?_⟩⟩))
    · subst e
      rw [ixo_some hh] at hQ
      refine hC _ _ _ _ (s_readAll hA.T hw.T (hA.S.sh hw.S) hh (fun g hg => ?_))
      refine hC _ _ _ _ (s_placesRead (mi := cu mi 90 g) (rl := fun f => readN (A 0) h (A 1 1 f)) (hA.T.fr (L := [90]) (Fr.cu Fr.none rfl) rfl) hw.T (fun f hf => ⟨hg f hf, readN_le hw.T _ _⟩) hwd ⟨rfl, ?_⟩)
      exact hQ _ ml (Fr.cu Fr.none rfl) Fr.none
    · rw [ixo_none hno] at hQ
      exact hQ mi ml Fr.none Fr.none
  · rw [ixo_none hno] at hQ
    exact hQ mi ml Fr.none Fr.none
end
