/-! WHAT THE CLASS ANSWERS: notes, tales, tried, undone, images, counts -/
def aNote (A : St) (x y z : Int32) : Int32 × St := match ixo x (A 0 0 5), ixo y (flA A), ixo z 27 with
  | some h, some f, some c => if 24 ≤ A 2 0 0 then (-1, A) else (nI (A 2 0 0), cu A 2 (ntN (A 2) (h + 1) f c))
  | _, _, _ => (-1, A)
def aStrike (A : St) (x : Int32) : Int32 × St := match ixo x (A 2 0 0) with
  | some k => if 24 ≤ A 2 0 0 then (-1, A) else (nI (A 2 0 0), cu A 2 (ntN (A 2) 0 0 k))
  | none => (-1, A)
def knN (N : Nat → Nat → Nat) (v : Nat) : Nat → Nat → Nat := fun r i => if r = 0 ∧ i = 1 then v else N r i
def aKnown (A : St) (x : Int32) : Int32 × St := if x = -1 then (nI 1, cu A 2 (knN (A 2) 0)) else match ixo x (A 2 0 0 + 1) with
  | some n => (nI 1, cu A 2 (knN (A 2) (n + 1)))
  | none => (nI 0, A)
def aTales (A : St) : Int32 := nI (tcW (A 0) (A 2) (A 0 0 4))
/-- the word of the k-th tale; its place -/
def tlW (T N : Nat → Nat → Nat) (k : Nat) : Nat := fnd (fun w => decide (k < tcW T N (w + 1))) (T 0 4)
def tlP (T N : Nat → Nat → Nat) (k : Nat) : Nat := fnd (fun p => decide (k < tcW T N (tlW T N k) + tcP T N (tlW T N k) (p + 1))) (2 * (T 0 0 * T 0 1))
def aTale (A : St) (x y : Int32) : Int32 := match ixo x (2 ^ 31), ixo y 3 with
  | some k, some q => if tlW (A 0) (A 2) k < A 0 0 4 then (if q = 0 then nI (tlW (A 0) (A 2) k) else if q = 1 then nI (tlP (A 0) (A 2) k / 2) else nI (tlP (A 0) (A 2) k % 2)) else -2
  | _, _ => -1
noncomputable def aTried (A : St) (x y z : Int32) : Int32 := match ixo x 4, ixo z 100 with
  | some k, some n => if k = 3 then (match ixo y (A 0 0 2) with
      | some o => nI (triedN (A 0) (A 1) 3 o n)
      | none => -1) else if y = 0 then nI (triedN (A 0) (A 1) k 0 n) else -1
  | _, _ => -1
def aUndo (A : St) : Int32 × St := if A 4 0 0 = 0 then (-1, A) else (nI (A 4 0 0 - 1), s4 (cu A 1 (unS (A 3 (A 4 0 0 - 1)) (A 1))) 0 (A 4 0 0 - 1))
def aKeep (A : St) : Int32 × St := (nI (A 1 0 0), s4 (cu A 5 (A 1)) 1 1)
def aBack (A : St) : Int32 × St := if A 4 0 1 = 0 then (-1, A) else (nI (A 5 0 0), s4 (cu A 1 (A 5)) 0 0)
def cntL (A : St) : List Nat := [A 0 0 0, A 0 0 1, A 0 0 2, A 0 0 3, A 0 0 4, A 0 0 5, A 0 0 9, A 1 0 0, A 1 0 1, stkAll (A 1 1), A 2 0 0, knM (A 2), A 4 0 0, A 0 0 6, A 0 0 7, A 0 0 8, A 1 0 3]
def aCount (A : St) (x : Int32) : Int32 := match ixo x 17 with
  | some k => nI (nth 0 (cntL A) k)
  | none => -1
theorem tcW_mono {T N : Nat → Nat → Nat} {v w : Nat} (h : v ≤ w) : tcW T N v ≤ tcW T N w := by
  induction w with
  | zero => rw [show v = 0 by omega]; exact Nat.le_refl _
  | succ w ih =>
    by_cases e : v = w + 1
    · rw [e]; exact Nat.le_refl _
    · exact Nat.le_trans (ih (by omega)) (Nat.le_add_right _ _)
theorem tcP_mono {T N : Nat → Nat → Nat} {w p q : Nat} (h : p ≤ q) : tcP T N w p ≤ tcP T N w q := by
  induction q with
  | zero => rw [show p = 0 by omega]; exact Nat.le_refl _
  | succ q ih =>
    by_cases e : p = q + 1
    · rw [e]; exact Nat.le_refl _
    · exact Nat.le_trans (ih (by omega)) (Nat.le_add_right _ _)
theorem tcW_s (T N : Nat → Nat → Nat) (w : Nat) : tcW T N (w + 1) = tcW T N w + tcP T N w (2 * (T 0 0 * T 0 1)) := rfl
theorem tcP_s (T N : Nat → Nat → Nat) (w p : Nat) : tcP T N w (p + 1) = tcP T N w p + (if tlN T N w p then 1 else 0) := rfl
theorem tl_at {T N : Nat → Nat → Nat} {k w p : Nat} (hw : w < T 0 4) (hp : p < 2 * (T 0 0 * T 0 1)) (ht : tlN T N w p = true) (hk : k = tcW T N w + tcP T N w p) : tlW T N k = w ∧ tlP T N k = p := by
  have h1 : tcP T N w (p + 1) = tcP T N w p + 1 := by rw [tcP_s, if_pos ht]
  have h2 := tcP_mono (T := T) (N := N) (w := w) (show p + 1 ≤ 2 * (T 0 0 * T 0 1) by omega)
  have e1 : tlW T N k = w := fnd_at hw (decide_eq_true (by rw [tcW_s]; omega)) (fun v hv => decide_eq_false (by have := tcW_mono (T := T) (N := N) (show v + 1 ≤ w by omega); omega))
  refine ⟨e1, ?_⟩
  unfold tlP
  rw [e1]
  exact fnd_at hp (decide_eq_true (by omega)) (fun q hq => decide_eq_false (by have := tcP_mono (T := T) (N := N) (w := w) (show q + 1 ≤ p by omega); omega))
theorem tl_in {T N : Nat → Nat → Nat} {k : Nat} (h : tlW T N k < T 0 4) : tlP T N k < 2 * (T 0 0 * T 0 1) ∧ tlN T N (tlW T N k) (tlP T N k) = true ∧ k = tcW T N (tlW T N k) + tcP T N (tlW T N k) (tlP T N k) := by
  have h1 : k < tcW T N (tlW T N k + 1) := of_decide_eq_true (fnd_hit (p := fun w => decide (k < tcW T N (w + 1))) h)
  have h2 : tcW T N (tlW T N k) ≤ k := by
    rcases Nat.eq_zero_or_pos (tlW T N k) with z | z
    · rw [z]; exact Nat.zero_le _
    · have := of_decide_eq_false (fnd_min (p := fun w => decide (k < tcW T N (w + 1))) (n := T 0 4) (i := tlW T N k - 1) (by unfold tlW at z ⊢; omega))
      rw [show tlW T N k - 1 + 1 = tlW T N k by omega] at this
      omega
  rw [tcW_s] at h1
  have h3 : tlP T N k < 2 * (T 0 0 * T 0 1) := by
    rcases Nat.lt_or_ge (tlP T N k) (2 * (T 0 0 * T 0 1)) with z | z
    · exact z
    · exfalso
      rcases Nat.eq_zero_or_pos (2 * (T 0 0 * T 0 1)) with y | y
      · rw [y] at h1
        have : tcP T N (tlW T N k) 0 = 0 := rfl
        omega
      · have := of_decide_eq_false (fnd_min (p := fun p => decide (k < tcW T N (tlW T N k) + tcP T N (tlW T N k) (p + 1))) (n := 2 * (T 0 0 * T 0 1)) (i := 2 * (T 0 0 * T 0 1) - 1) (by unfold tlP at z; omega))
        rw [show 2 * (T 0 0 * T 0 1) - 1 + 1 = 2 * (T 0 0 * T 0 1) by omega] at this
        omega
  have h4 : k < tcW T N (tlW T N k) + tcP T N (tlW T N k) (tlP T N k + 1) := of_decide_eq_true (fnd_hit (p := fun p => decide (k < tcW T N (tlW T N k) + tcP T N (tlW T N k) (p + 1))) h3)
  have h5 : tcW T N (tlW T N k) + tcP T N (tlW T N k) (tlP T N k) ≤ k := by
    rcases Nat.eq_zero_or_pos (tlP T N k) with z | z
    · rw [z]; exact h2
    · have := of_decide_eq_false (fnd_min (p := fun p => decide (k < tcW T N (tlW T N k) + tcP T N (tlW T N k) (p + 1))) (n := 2 * (T 0 0 * T 0 1)) (i := tlP T N k - 1) (by unfold tlP at z ⊢; omega))
      rw [show tlP T N k - 1 + 1 = tlP T N k by omega] at this
      omega
  refine ⟨h3, ?_, ?_⟩
  · cases ht : tlN T N (tlW T N k) (tlP T N k) with
    | true => rfl
    | false =>
      rw [tcP_s, ht] at h4
      have h4 : k < tcW T N (tlW T N k) + (tcP T N (tlW T N k) (tlP T N k) + 0) := h4
      omega
  · rw [tcP_s] at h4
    split at h4 <;> omega
/-- other notes -/
theorem CI.nts {A : St} {N : Nat → Nat → Nat} {mi mi' : Nat → Nat → Int32} {L : List Nat} (h : CI A mi) (hf : Fr L mi mi') (hN : CN N mi') (hL : L.all (fun x => Nat.ble 78 x) = true) : CI (cu A 2 N) mi' := by
  have out : ∀ c, c < 78 → mi' c = mi c := fun c hc => hf c (nin_not (fun hm => by
    have := List.all_eq_true.mp hL c hm
    simp only [Nat.ble_eq] at this
    omega))
  refine ⟨h.T.keep (fun c h1 h2 => out c (by omega)), ?_, hN, ?_, ?_, fun z => ?_, ?_, ?_, ?_, ?_⟩
  · have := h.S
    unfold CS at this ⊢
    rw [out 70 (by omega), out (70 + 1) (by omega), out (70 + 2) (by omega)]
    exact this
  · have := h.P
    unfold CP at this ⊢
    rw [out 76 (by omega), out 77 (by omega)]
    exact this
  · rw [out 0 (by omega)]; exact h.k
  · have := h.I z
    unfold CS at this ⊢
    rw [out 73 (by omega), out (73 + 1) (by omega), out (73 + 2) (by omega)]
    exact this
  · rw [out 0 (by omega)]; exact h.f
  · rw [out 1 (by omega)]; exact h.b
  · rw [out 0 (by omega)]; exact h.q
  · rw [out 0 (by omega)]; exact h.qp
section
variable {d : Nat} {Q : Option Value → Mm → Prop} {A : St} {mi : Nat → Nat → Int32} {ml : Nat → Nat → Int64} {rd : Option Nat} {x y z u : Int32}
theorem p_note (hA : CI A mi) (hw : wfA A) (hQ : ∀ mi', CI (aNote A x y z).2 mi' → Up mi mi' → Q (some (.int (aNote A x y z).1)) (mi', ml, R0 rd, 136)) : Cd (d + 2) k_Hay_note [.ref 0, .int x, .int y, .int z] (mi, ml, R0 rd, 136) Q := by
  unfold aNote at hQ
  have hfl := hw.T.fl
  have h3 := hw.T.hl3
  refine r_Hay_note (by decide) (fun K Kl hK hC => ?_)
  refine hC _ _ _ _ (s_hasHill hA.T hw.T (fun h hh e => ⟨fun z => absurd z (by decide), fun _ => ?_⟩) (fun hno => ⟨fun _ => ⟨rfl, ?_⟩, fun z => absurd (by decide) z⟩))
  · subst e
    rw [ixo_some hh] at hQ
    refine hC _ _ _ _ (s_Told_hasField (o := 0) (Or.inl rfl) hA.T hw.T (fun f hf e => ⟨fun z => absurd z (by decide), fun _ => ?_⟩) (fun hno => ⟨fun _ => ⟨rfl, ?_⟩, fun z => absurd (by decide) z⟩))
    · subst e
      rw [ixo_some (n := flA A) hf (by unfold flA; omega)] at hQ
      refine ⟨fun h1 => ⟨rfl, ?_⟩, fun h1 => ⟨fun h2 => ?_, fun h2 => ⟨rfl, ?_⟩⟩⟩
      · rw [ixo_neg h1] at hQ
        exact hQ mi hA Up.none
      · obtain ⟨c, hc, rfl, he⟩ := ixo_rg (n := 26) (by omega) h1 (fun z => absurd h2 (Int32.not_le.mpr z))
        rw [he] at hQ
        refine hC _ _ _ _ (s_Notes_write hA.N (a := h + 1) (b := f) (c := c) (Or.inl ⟨by omega, (nI_pred h).symm, rfl, rfl, rfl⟩) (fun hfull => ⟨rfl, ?_⟩) (fun hlt m2 f2 hN => ⟨rfl, ?_⟩))
        · simp only [if_pos hfull] at hQ
          exact hQ mi hA Up.none
        · simp only [if_neg (show ¬ 24 ≤ A 2 0 0 by omega)] at hQ
          exact hQ m2 (hA.nts f2 hN rfl) (f2.up rfl)
      · rw [ixo_big (n := 26) (by omega) (Int32.not_le.mp h2)] at hQ
        exact hQ mi hA Up.none
    · rw [ixo_none (n := flA A) hno] at hQ
      exact hQ mi hA Up.none
  · rw [ixo_none hno] at hQ
    exact hQ mi hA Up.none
theorem p_strike (hA : CI A mi) (hw : wfA A) (hQ : ∀ mi', CI (aStrike A x).2 mi' → Up mi mi' → Q (some (.int (aStrike A x).1)) (mi', ml, R0 rd, 136)) : Cd (d + 2) k_Hay_strike [.ref 0, .int x] (mi, ml, R0 rd, 136) Q := by
  unfold aStrike at hQ
  have h24 := hw.w
  have e0 : mi 78 0 = nI (A 2 0 0) := hA.N.1
  refine r_Hay_strike (by decide) (fun K Kl hK hC => ?_)
  refine ⟨fun h => ⟨rfl, ?_⟩, fun h => ⟨fun h2 => ?_, fun h2 => ⟨rfl, ?_⟩⟩⟩
  · rw [ixo_neg h] at hQ
    exact hQ mi hA Up.none
  · have h2 : x < mi 78 0 := h2
    rw [e0] at h2
    obtain ⟨k, hk, rfl⟩ := nI_of h
    have h2 := iLT h2
    rw [ixo_some h2] at hQ
    refine hC _ _ _ _ (s_Notes_write hA.N (a := 0) (b := 0) (c := k) (Or.inr ⟨rfl, rfl, h2⟩) (fun hfull => ⟨rfl, ?_⟩) (fun hlt m2 f2 hN => ⟨rfl, ?_⟩))
    · simp only [if_pos hfull] at hQ
      exact hQ mi hA Up.none
    · simp only [if_neg (show ¬ 24 ≤ A 2 0 0 by omega)] at hQ
      exact hQ m2 (hA.nts f2 hN rfl) (f2.up rfl)
  · have h2 : ¬ x < mi 78 0 := h2
    rw [e0] at h2
    rw [ixo_ge (by omega) (Int32.not_lt.mp h2)] at hQ
    exact hQ mi hA Up.none
theorem CN.kn {N : Nat → Nat → Nat} {v : Nat} {X : Int32} (h : CN N mi) (hv : v ≤ N 0 0 + 1) (hX : X = nI v - 1) : CN (knN N v) (cu mi 78 (upd (mi 78) 1 X)) := by
  obtain ⟨e0, e1, h24, hk, hr, hst⟩ := h
  exact ⟨e0, hX, h24, hv, hr, hst⟩
theorem p_known (hA : CI A mi) (hw : wfA A) (hQ : ∀ mi', CI (aKnown A x).2 mi' → Up mi mi' → Q (some (.int (aKnown A x).1)) (mi', ml, R0 rd, 136)) : Cd (d + 1) k_Hay_known [.ref 0, .int x] (mi, ml, R0 rd, 136) Q := by
  unfold aKnown at hQ
  have h24 := hw.w
  have e0 : mi 78 0 = nI (A 2 0 0) := hA.N.1
  refine r_Hay_known (by decide) (fun K Kl hK hC => ?_)
  refine ⟨fun h => ⟨Or.inl rfl, rfl, ?_⟩, fun h => ⟨fun h2 => ⟨Or.inr rfl, rfl, ?_⟩, fun h2 => ⟨Or.inl rfl, rfl, ?_⟩⟩⟩
  · have h0 : x < 0 := Int32.lt_trans h (by decide)
    rw [if_neg (fun e => absurd h (by rw [e]; decide)), ixo_neg h0] at hQ
    exact hQ mi hA Up.none
  · have h2 : x ≤ mi 78 0 := h2
    rw [e0] at h2
    by_cases hx : x = -1
    · rw [if_pos hx] at hQ
      exact hQ _ (hA.nts (L := [78]) (Fr.cu Fr.none rfl) (hA.N.kn (v := 0) (by omega) (by rw [hx]; decide)) rfl) (Up.none.cu (by omega))
    · rw [if_neg hx] at hQ
      have h0 : ¬ x < 0 := fun z => by
        have h3 := Int32.not_lt.mp h
        have h4 : x.toInt < 0 := Int32.lt_iff_toInt_lt.mp z
        have h5 : (-1 : Int32).toInt ≤ x.toInt := Int32.le_iff_toInt_le.mp h3
        have h6 : (-1 : Int32).toInt = -1 := by decide
        refine hx (Int32.toInt_inj.mp ?_)
        omega
      obtain ⟨n, hn, rfl⟩ := nI_of h0
      have h2 := iLE h2
      rw [ixo_some (n := A 2 0 0 + 1) (by omega)] at hQ
      exact hQ _ (hA.nts (L := [78]) (Fr.cu Fr.none rfl) (hA.N.kn (v := n + 1) (by omega) (nI_pred n).symm) rfl) (Up.none.cu (by omega))
  · have h2 : ¬ x ≤ mi 78 0 := h2
    rw [e0] at h2
    have h3 := Int32.not_le.mp h2
    have h0 : ¬ x < 0 := fun z => iNN (Int32.lt_trans h3 z)
    rw [if_neg (fun e => h0 (by rw [e]; decide)), ixo_big (by omega) h3] at hQ
    exact hQ mi hA Up.none
theorem p_tales (hA : CI A mi) (hw : wfA A) (hQ : ∀ mi' ml', Fr SC mi mi' → Fr [36] ml ml' → Q (some (.int (aTales A))) (mi', ml', R0 rd, 136)) : Cd (d + 6) k_Hay_tales [.ref 0] (mi, ml, R0 rd, 136) Q := by
  have hb := tcW_le (N := A 2) hw.T (A 0 0 4)
  have h6 := hw.T.wd6
  have hfl := hw.T.fl
  refine r_Hay_tales (by decide) (fun K Kl hK hC => ?_)
  refine hC _ _ _ _ (s_findTale (d := d) hA.T hw.T hA.N hw.N (x := nI 1000000) (fun m2 w p hwd hp _ e _ _ _ => ?_) (fun m2 _ f2 e7 => ⟨rfl, ?_⟩))
  · exfalso
    have h1 := tcW_le (N := A 2) hw.T w
    have h2 := tcP_le (T := A 0) (N := A 2) w p
    have := iEQ e
    omega
  · have hQ := hQ m2 ml (f2.mono rfl) Fr.none
    unfold aTales at hQ
    rw [← e7] at hQ
    exact hQ
theorem p_tale (hA : CI A mi) (hw : wfA A) (hQ : ∀ mi' ml', Fr SC mi mi' → Fr [36] ml ml' → Q (some (.int (aTale A x y))) (mi', ml', R0 rd, 136)) : Cd (d + 6) k_Hay_tale [.ref 0, .int x, .int y] (mi, ml, R0 rd, 136) Q := by
  unfold aTale at hQ
  have h6 := hw.T.wd6
  have hfl := hw.T.fl
  refine r_Hay_tale (by decide) (fun K Kl hK hC => ?_)
  refine ⟨fun h => ⟨rfl, ?_⟩, fun h => ⟨fun h2 => ⟨rfl, ?_⟩, fun h2 => ⟨fun h3 => ?_, fun h3 => ⟨rfl, ?_⟩⟩⟩⟩
  · rw [ixo_neg h] at hQ
    exact hQ mi ml Fr.none Fr.none
  · obtain ⟨k, hk, rfl⟩ := nI_of h
    rw [ixo_some hk (Nat.le_refl _), ixo_neg h2] at hQ
    exact hQ mi ml Fr.none Fr.none
  · obtain ⟨k, hk, rfl⟩ := nI_of h
    obtain ⟨q, hq, rfl, he⟩ := ixo_rg (n := 2) (by omega) h2 (fun z => absurd h3 (Int32.not_le.mpr z))
    rw [ixo_some hk (Nat.le_refl _), he] at hQ
    refine hC _ _ _ _ (s_findTale (d := d) hA.T hw.T hA.N hw.N (fun m2 w p hwd hp ht e f2 e4 e5 => ⟨fun _ => ?_, fun z => absurd z (by decide)⟩) (fun m2 hno f2 e7 => ⟨fun z => absurd (by decide) z, fun _ => ⟨rfl, ?_⟩⟩))
    · have h1 := tcW_le (N := A 2) hw.T w
      have h2 := tcP_le (T := A 0) (N := A 2) w p
      have hat := tl_at hwd hp ht (iEQ e)
      have hQ := hQ m2 ml (f2.mono rfl) Fr.none
      simp only [hat.1, hat.2, if_pos hwd] at hQ
      refine ⟨fun h4 => ⟨fun h5 => ⟨two0, ?_⟩, fun h5 => ⟨two0, ?_⟩⟩, fun h4 => ⟨rfl, ?_⟩⟩
      · rw [if_neg (iNZ h4), if_neg (iNE h5), ← pk_rem (by omega) (by omega) (by omega), ← e5] at hQ
        exact ⟨rfl, hQ⟩
      · rw [if_neg (iNZ h4), if_pos (iEQ h5), ← pk_div (by omega) (by omega) (by omega), ← e5] at hQ
        exact ⟨rfl, hQ⟩
      · rw [if_pos (iZ h4), ← e4] at hQ
        exact hQ
    · have hQ := hQ m2 ml (f2.mono rfl) Fr.none
      have hn : ¬ tlW (A 0) (A 2) k < A 0 0 4 := fun z => by
        obtain ⟨g1, g2, g3⟩ := tl_in z
        exact hno.1 _ z _ g1 g2 (by rw [← g3])
      simp only [if_neg hn] at hQ
      exact hQ
  · obtain ⟨k, hk, rfl⟩ := nI_of h
    rw [ixo_some hk (Nat.le_refl _), ixo_big (n := 2) (by omega) (Int32.not_le.mp h3)] at hQ
    exact hQ mi ml Fr.none Fr.none
theorem p_tried (hA : CI A mi) (hw : wfA A) (hQ : ∀ mi' ml', Fr SC mi mi' → Fr [36] ml ml' → Q (some (.int (aTried A x y z))) (mi', ml', R0 rd, 136)) : Cd (d + 7) k_Hay_tried [.ref 0, .int x, .int y, .int z] (mi, ml, R0 rd, 136) Q := by
  unfold aTried at hQ
  have h5 := hw.T.own5
  refine r_Hay_tried (by decide) (fun K Kl hK hC => ?_)
  refine ⟨fun h => ⟨rfl, ?_⟩, fun h => ⟨fun h2 => ⟨rfl, ?_⟩, fun h2 => ⟨fun h3 => ⟨rfl, ?_⟩, fun h3 => ⟨fun h4 => ?_, fun h4 => ⟨rfl, ?_⟩⟩⟩⟩⟩
  · rw [ixo_neg h] at hQ
    exact hQ mi ml Fr.none Fr.none
  · rw [ixo_big (n := 3) (by omega) h2] at hQ
    exact hQ mi ml Fr.none Fr.none
  · obtain ⟨k, hk, rfl, he⟩ := ixo_rg (n := 3) (by omega) h h2
    rw [he, ixo_neg h3] at hQ
    exact hQ mi ml Fr.none Fr.none
  · obtain ⟨k, hk, rfl, he⟩ := ixo_rg (n := 3) (by omega) h h2
    obtain ⟨n, hn, rfl, he2⟩ := ixo_rg (n := 99) (by omega) h3 (fun z => absurd h4 (Int32.not_le.mpr z))
    rw [he, he2] at hQ
    refine ⟨fun h6 => ⟨fun h7 => ?_, fun h7 => ⟨rfl, ?_⟩⟩, fun h6 => ?_⟩
    · have h6 := iNE h6
      simp only [if_neg h6, if_pos h7] at hQ
      have h7 : y = nI 0 := h7
      subst h7
      exact hC _ _ _ _ (s_stacksAfter (d := d) hA.T hw.T hw.L hA.S hw.S hw.d (by omega) (fun z => absurd z h6) hn (fun m2 l2 f1 f2 => ⟨rfl, hQ m2 l2 (f1.mono rfl) f2⟩))
    · have h6 := iNE h6
      simp only [if_neg h6, if_neg h7] at hQ
      exact hQ mi ml Fr.none Fr.none
    · have h6 := iEQ h6
      subst h6
      simp only [if_true] at hQ
      refine hC _ _ _ _ (s_Told_hasOwner hA.T hw.T (fun o ho e => ⟨fun _ => ?_, fun z => absurd z (by decide)⟩) (fun hno => ⟨fun z => absurd (by decide) z, fun _ => ⟨rfl, ?_⟩⟩))
      · subst e
        simp only [ixo_some ho] at hQ
        exact hC _ _ _ _ (s_stacksAfter (d := d) hA.T hw.T hw.L hA.S hw.S hw.d (by omega) (fun _ => ho) hn (fun m2 l2 f1 f2 => ⟨rfl, hQ m2 l2 (f1.mono rfl) f2⟩))
      · simp only [ixo_none hno] at hQ
        exact hQ mi ml Fr.none Fr.none
  · obtain ⟨k, hk, rfl, he⟩ := ixo_rg (n := 3) (by omega) h h2
    rw [he, ixo_big (n := 99) (by omega) (Int32.not_le.mp h4)] at hQ
    exact hQ mi ml Fr.none Fr.none
theorem p_undo (hA : CI A mi) (hw : wfA A) (hQ : ∀ mi', CI (aUndo A).2 mi' → Up mi mi' → Q (some (.int (aUndo A).1)) (mi', ml, R0 rd, 136)) : Cd (d + 2) k_Hay_undo [.ref 0] (mi, ml, R0 rd, 136) Q := by
  unfold aUndo at hQ
  have h20 := hw.n
  have e0 : mi 76 0 = nI (A 4 0 0) := hA.P.1
  refine r_Hay_undo (by decide) (fun K Kl hK hC => ?_)
  refine ⟨fun h => ?_, fun h => ⟨rfl, ?_⟩⟩
  · have h : ¬ mi 76 0 = 0 := h
    rw [e0] at h
    have h := iNZ h
    rw [if_neg h] at hQ
    have hP := hA.P
    obtain ⟨n, hn⟩ : ∃ n, A 4 0 0 = n + 1 := ⟨A 4 0 0 - 1, by omega⟩
    rw [hn, Nat.add_sub_cancel] at hQ
    rw [hn] at hP
    refine hC _ _ _ _ (s_restore hP hA.S (fun m2 f2 hP2 hS2 => ⟨rfl, ?_⟩))
    have hQ := hQ m2 ⟨hA.T.fr f2 rfl, hS2, hA.N.fr2 f2 rfl, hP2, by rw [f2 0 rfl]; exact hA.k, fun z => (hA.I z).fr f2 rfl rfl rfl, by rw [f2 0 rfl]; exact hA.f, by rw [f2 1 rfl]; exact hA.b, by rw [f2 0 rfl]; exact hA.q, by rw [f2 0 rfl]; exact hA.qp⟩ (f2.up rfl)
    rw [← hP2.1] at hQ
    exact hQ
  · have h : mi 76 0 = 0 := h
    rw [e0] at h
    rw [if_pos (iZ h)] at hQ
    exact hQ mi hA Up.none
theorem p_keep (hA : CI A mi) (hQ : ∀ mi', CI (aKeep A).2 mi' → Up mi mi' → Q (some (.int (aKeep A).1)) (mi', ml, R0 rd, 136)) : Cd (d + 2) k_Hay_keep [.ref 0] (mi, ml, R0 rd, 136) Q := by
  unfold aKeep at hQ
  refine r_Hay_keep (by decide) (fun K Kl hK hC => ?_)
  refine hC _ _ _ _ (s_copy (Or.inr (Or.inl ⟨rfl, rfl⟩)) hA.S (fun m2 f2 hS2 => ⟨Or.inr rfl, rfl, ?_⟩))
  have f3 : Fr [0, 73, 74, 75] mi (cu m2 0 (upd (m2 0) 10 (nI 1))) := Fr.cu (f2.mono rfl) rfl
  have e0 : m2 0 = mi 0 := f2 0 rfl
  have ed : m2 70 0 = nI (A 1 0 0) := by rw [f2 70 rfl]; exact hA.S.day
  have hQ := hQ _ ⟨hA.T.fr f3 rfl, hA.S.fr f3 rfl rfl rfl, hA.N.fr2 f3 rfl, hA.P.fr f3 rfl rfl, rfl, fun _ => hS2.fr (L := [0]) (Fr.cu Fr.none rfl) rfl rfl rfl, by show m2 0 1 = _; rw [e0]; exact hA.f, by rw [f3 1 rfl]; exact hA.b, by show m2 0 2 = _; rw [e0]; exact hA.q, by show m2 0 3 = _; rw [e0]; exact hA.qp⟩ (f3.up rfl)
  rw [← ed] at hQ
  exact hQ
theorem p_back (hA : CI A mi) (hw : wfA A) (hQ : ∀ mi', CI (aBack A).2 mi' → Up mi mi' → Q (some (.int (aBack A).1)) (mi', ml, R0 rd, 136)) : Cd (d + 2) k_Hay_back [.ref 0] (mi, ml, R0 rd, 136) Q := by
  unfold aBack at hQ
  have hk := hw.k
  have e0 : mi 0 10 = nI (A 4 0 1) := hA.k
  refine r_Hay_back (by decide) (fun K Kl hK hC => ?_)
  refine ⟨fun h => ?_, fun h => ⟨rfl, ?_⟩⟩
  · have h : ¬ mi 0 10 = 0 := h
    rw [e0] at h
    have h := iNZ h
    rw [if_neg h] at hQ
    refine hC _ _ _ _ (s_copy (Or.inr (Or.inr ⟨rfl, rfl⟩)) (hA.I h) (fun m2 f2 hS2 => ?_))
    refine hC _ _ _ _ (s_forget (n := 0) (P := A 3) (fun m3 f3 hP => ⟨rfl, ?_⟩))
    have hci := (hA.scn f2 hS2 rfl).fg f3 hP
    have hQ := hQ m3 hci ((f2.up rfl).trans (f3.up rfl))
    rw [← hS2.day, ← f3 70 rfl] at hQ
    exact hQ
  · have h : mi 0 10 = 0 := h
    rw [e0] at h
    rw [if_pos (iZ h)] at hQ
    exact hQ mi hA Up.none
set_option maxHeartbeats 2000000 in
theorem p_count (hA : CI A mi) (hw : wfA A) (hQ : Q (some (.int (aCount A x))) (mi, ml, R0 rd, 136)) : Cd (d + 3) k_Hay_count [.ref 0, .int x] (mi, ml, R0 rd, 136) Q := by
  unfold aCount at hQ
  refine r_Hay_count (by decide) (fun K Kl hK hC => ?_)
  refine ⟨fun h0 => ⟨rfl, ?_⟩, fun h0 => swP_c (fun h1 => ⟨rfl, ?_⟩) (fun h1 => swP_c (fun h2 => ⟨rfl, ?_⟩) (fun h2 => swP_c (fun h3 => ⟨rfl, ?_⟩) (fun h3 => swP_c (fun h4 => ⟨rfl, ?_⟩) (fun h4 => swP_c (fun h5 => ⟨rfl, ?_⟩) (fun h5 => swP_c (fun h6 => ⟨rfl, ?_⟩) (fun h6 => swP_c (fun h7 => ⟨rfl, ?_⟩) (fun h7 => swP_c (fun h8 => ⟨rfl, ?_⟩) (fun h8 => swP_c (fun h9 => ?_) (fun h9 => swP_c (fun h10 => ⟨rfl, ?_⟩) (fun h10 => swP_c (fun h11 => ?_) (fun h11 => swP_c (fun h12 => ⟨rfl, ?_⟩) (fun h12 => swP_c (fun h13 => ⟨rfl, ?_⟩) (fun h13 => swP_c (fun h14 => ⟨rfl, ?_⟩) (fun h14 => swP_c (fun h15 => ⟨rfl, ?_⟩) (fun h15 => swP_c (fun h16 => ⟨rfl, ?_⟩) (fun h16 => swP_n ⟨rfl, ?_⟩))))))))))))))))⟩
  · rw [h0, ixo_some (j := 0) (by decide)] at hQ
    have hQ : Q (some (.int (nI (A 0 0 0)))) (mi, ml, R0 rd, 136) := hQ
    rw [← (hA.T.wide : mi 6 0 = nI (A 0 0 0))] at hQ
    exact hQ
  · rw [h1, ixo_some (j := 1) (by decide)] at hQ
    have hQ : Q (some (.int (nI (A 0 0 1)))) (mi, ml, R0 rd, 136) := hQ
    rw [← (hA.T.high : mi 6 1 = nI (A 0 0 1))] at hQ
    exact hQ
  · rw [h2, ixo_some (j := 2) (by decide)] at hQ
    have hQ : Q (some (.int (nI (A 0 0 2)))) (mi, ml, R0 rd, 136) := hQ
    rw [← (hA.T.owners : mi 6 2 = nI (A 0 0 2))] at hQ
    exact hQ
  · rw [h3, ixo_some (j := 3) (by decide)] at hQ
    have hQ : Q (some (.int (nI (A 0 0 3)))) (mi, ml, R0 rd, 136) := hQ
    rw [← (hA.T.glyphs : mi 13 0 = nI (A 0 0 3))] at hQ
    exact hQ
  · rw [h4, ixo_some (j := 4) (by decide)] at hQ
    have hQ : Q (some (.int (nI (A 0 0 4)))) (mi, ml, R0 rd, 136) := hQ
    rw [← (hA.T.words : mi 13 1 = nI (A 0 0 4))] at hQ
    exact hQ
  · rw [h5, ixo_some (j := 5) (by decide)] at hQ
    have hQ : Q (some (.int (nI (A 0 0 5)))) (mi, ml, R0 rd, 136) := hQ
    rw [← (hA.T.hills : mi 20 0 = nI (A 0 0 5))] at hQ
    exact hQ
  · rw [h6, ixo_some (j := 6) (by decide)] at hQ
    have hQ : Q (some (.int (nI (A 0 0 9)))) (mi, ml, R0 rd, 136) := hQ
    rw [← (hA.T.knots : mi 32 0 = nI (A 0 0 9))] at hQ
    exact hQ
  · rw [h7, ixo_some (j := 7) (by decide)] at hQ
    have hQ : Q (some (.int (nI (A 1 0 0)))) (mi, ml, R0 rd, 136) := hQ
    rw [← (hA.S.day : mi 70 0 = nI (A 1 0 0))] at hQ
    exact hQ
  · rw [h8, ixo_some (j := 8) (by decide)] at hQ
    have hQ : Q (some (.int (nI (A 1 0 1)))) (mi, ml, R0 rd, 136) := hQ
    rw [← (hA.S.purse : mi 70 1 = nI (A 1 0 1))] at hQ
    exact hQ
  · rw [h9, ixo_some (j := 9) (by decide)] at hQ
    have hQ : Q (some (.int (nI (stkAll (A 1 1))))) (mi, ml, R0 rd, 136) := hQ
    exact hC _ _ _ _ (s_stacksInAll (Or.inl rfl) (hA.S.sh hw.S) ⟨rfl, hQ⟩)
  · rw [h10, ixo_some (j := 10) (by decide)] at hQ
    have hQ : Q (some (.int (nI (A 2 0 0)))) (mi, ml, R0 rd, 136) := hQ
    rw [← (hA.N.1 : mi 78 0 = nI (A 2 0 0))] at hQ
    exact hQ
  · rw [h11, ixo_some (j := 11) (by decide)] at hQ
    have hQ : Q (some (.int (nI (knM (A 2))))) (mi, ml, R0 rd, 136) := hQ
    exact hC _ _ _ _ (s_knownMany hA.N ⟨rfl, hQ⟩)
  · rw [h12, ixo_some (j := 12) (by decide)] at hQ
    have hQ : Q (some (.int (nI (A 4 0 0)))) (mi, ml, R0 rd, 136) := hQ
    rw [← (hA.P.1 : mi 76 0 = nI (A 4 0 0))] at hQ
    exact hQ
  · rw [h13, ixo_some (j := 13) (by decide)] at hQ
    have hQ : Q (some (.int (nI (A 0 0 6)))) (mi, ml, R0 rd, 136) := hQ
    rw [← (hA.T.colours : mi 26 0 = nI (A 0 0 6))] at hQ
    exact hQ
  · rw [h14, ixo_some (j := 14) (by decide)] at hQ
    have hQ : Q (some (.int (nI (A 0 0 7)))) (mi, ml, R0 rd, 136) := hQ
    rw [← (hA.T.signs : mi 26 1 = nI (A 0 0 7))] at hQ
    exact hQ
  · rw [h15, ixo_some (j := 15) (by decide)] at hQ
    have hQ : Q (some (.int (nI (A 0 0 8)))) (mi, ml, R0 rd, 136) := hQ
    rw [← (hA.T.links : mi 20 1 = nI (A 0 0 8))] at hQ
    exact hQ
  · rw [h16, ixo_some (j := 16) (by decide)] at hQ
    have hQ : Q (some (.int (nI (A 1 0 3)))) (mi, ml, R0 rd, 136) := hQ
    rw [← (hA.S.hung : mi 70 3 = nI (A 1 0 3))] at hQ
    exact hQ
  · rw [ixo_none (fun j hj e => by
      have : j = 0 ∨ j = 1 ∨ j = 2 ∨ j = 3 ∨ j = 4 ∨ j = 5 ∨ j = 6 ∨ j = 7 ∨ j = 8 ∨ j = 9 ∨ j = 10 ∨ j = 11 ∨ j = 12 ∨ j = 13 ∨ j = 14 ∨ j = 15 ∨ j = 16 := by omega
      rcases this with rfl | rfl | rfl | rfl | rfl | rfl | rfl | rfl | rfl | rfl | rfl | rfl | rfl | rfl | rfl | rfl | rfl
      · exact h0 e
      · exact h1 e
      · exact h2 e
      · exact h3 e
      · exact h4 e
      · exact h5 e
      · exact h6 e
      · exact h7 e
      · exact h8 e
      · exact h9 e
      · exact h10 e
      · exact h11 e
      · exact h12 e
      · exact h13 e
      · exact h14 e
      · exact h15 e
      · exact h16 e)] at hQ
    exact hQ
end
