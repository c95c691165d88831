/-! THE LAW READ: values, signs, all of it (the class) -/
/-- what a step of the law must meet -/
def VQ (o l j : Nat) (mi0 mi : Nat → Nat → Int32) (ml : Nat → Nat → Int64) (Q : Option Value → Mm → Prop) (r : Except (Nat × Nat) LSt) : Prop := match r with
  | .error e => ∀ mi', RF o mi mi' → mi' 68 0 = nI e.1 → mi' 68 1 = nI e.2 → Q (some (.int (nI 0))) (mi', ml, R0 (some (6 + o)), 136)
  | .ok (T', c', o', q', W') => ∀ mi', RF o mi mi' → CX o T' l mi' ml → LZ j c' o' q' W' mi0 mi' → Q (some (.int (nI 1))) (mi', ml, R0 (some (6 + o)), 136)
section
variable {d : Nat} {Q : Option Value → Mm → Prop} {T : Nat → Nat → Nat} {k v p : Nat → Nat} {m j c op : Nat} {q : Bool} {W : List Nat} {mi0 mi : Nat → Nat → Int32} {ml : Nat → Nat → Int64} {o l : Nat}
theorem s_isLawOver {rd : Option Nat} (hR : RE k v p m mi) (hj : j ≤ m) (hL : LZ j c op q W mi0 mi) (hop : op ≤ 8) (h1 : q = false → op = 0 → k j = 4 → Q (some (.int (nI 1))) (mi, ml, R0 rd, 136)) (h0 : (q = true ∨ ¬ (op = 0 ∧ k j = 4)) → Q (some (.int (nI 0))) (mi, ml, R0 rd, 136)) : Cd (d + 2) k_Reader_isLawOver [.ref 68] (mi, ml, R0 rd, 136) Q := by
  have e6 := hL.2.2.1
  have e7 := hL.2.2.2.1
  have hb := hR.2.2.2.1 j
  refine r_Reader_isLawOver (by decide) (fun K Kl hK hC => ⟨fun z => ?_, fun z => ⟨fun z2 => ?_, fun z2 => hC _ _ _ _ (s_kindHere hR hj hL.1.1 ⟨fun z3 => ?_, fun z3 => ?_⟩)⟩⟩)
  · have z : ¬ mi 68 7 = 0 := z
    rw [e7] at z
    refine ⟨Or.inl rfl, rfl, h0 (Or.inl ?_)⟩
    cases q with
    | true => rfl
    | false => exact absurd rfl z
  · exact ⟨Or.inl rfl, rfl, h0 (Or.inr (fun y => jNZ z2 e6 y.1))⟩
  · exact ⟨Or.inl rfl, rfl, h0 (Or.inr (fun y => iNE z3 y.2))⟩
  · have z : mi 68 7 = 0 := z
    rw [e7] at z
    refine ⟨Or.inr rfl, rfl, h1 ?_ (jZ z2 e6) (iEQ z3)⟩
    cases q with
    | true => exact absurd z (by decide)
    | false => rfl
set_option maxHeartbeats 1000000 in
theorem s_readValue (ho : o = 0 ∨ o = 31) (hR : RE k v p m mi) (hj : j ≤ m) (hX : CX o T l mi ml) (hL : LZ j c op true W mi0 mi) (hI : LI T c op true W) (hQ : VQ o l j mi0 mi ml Q (pVal k v p T c op W j)) : Cd (d + 3) k_Reader_readValue [.ref 68] (mi, ml, R0 (some (6 + o)), 136) Q := by
  unfold pVal at hQ
  have ho2 := ho
  have h7 := hR.1
  have hb := hR.2.2.2.1 j
  have e5 := hL.2.1
  have e6 := hL.2.2.1
  have e9 := hL.2.2.2.2.1
  have hlen := len_W W
  obtain ⟨i1, i2, i3, i4, i5, i6, i7⟩ := hI
  have hkn : k j = 39 → ¬ 3 < rkN (W.headD 0) → ∀ P : Option Value → Mm → Prop, (64 ≤ c → ∀ mi', RF o mi mi' → mi' 68 0 = nI 2 → mi' 68 1 = nI (p j) → P (some (.int (nI 0))) (mi', ml, R0 (some (6 + o)), 136)) → (c < 64 → ∀ mi', Fr [68] mi mi' → LZ j (c + 1) op true W mi0 mi' → P (some (.int (nI 1))) (mi', ml, R0 (some (6 + o)), 136)) → Cd (d + 2) k_Reader_isKnot [.ref 68] (mi, ml, R0 (some (6 + o)), 136) P := fun _ _ P a b => s_isKnot hR hj hL i5 (fun z m1 f1 => a z m1 f1.rf) b
  refine r_Reader_readValue (by decide) ?_
  rcases ho with rfl | rfl
  all_goals
    intro K Kl hK hC
    refine hC _ _ _ _ (s_kindHere hR hj hL.1.1 ⟨fun z5 => ⟨fun z39 => ⟨fun z1 => ?_, fun z1 => ⟨fun z2 => ?_, fun z2 => ?_⟩⟩, fun z39 => ?_⟩, fun z5 => ⟨fun z => ?_, fun z => ?_⟩⟩)
    · have z1 := iEQ z1
      simp only [if_neg (iNE z5), if_neg (iNE z39), if_neg (show ¬ (k j ≠ 1 ∧ (k j < 40 ∨ 45 < k j)) from fun y => y.1 z1)] at hQ
      have hl1 := hR.lt hj (by omega)
      have ev := (hR.2.2.2.2.2 j hj).2.2 hl1
      refine ⟨fun z3 => absurd z1 (iNE z3), fun _ => ⟨j, by omega, hL.1.1, ?_⟩⟩
      rw [ev]
      refine ⟨fun z4 => ?_, fun z4 => ?_⟩
      · have z4 := iLE z4
        simp only [if_neg (show ¬ (k j = 1 ∧ 9999 < v j) by omega)] at hQ
        refine hC _ _ _ _ (s_isKnot hR hj hL i5 (fun hc m1 f1 a b => ⟨fun y => absurd (by decide) y, fun _ => ⟨Or.inl rfl, rfl, ?_⟩⟩) (fun hc m1 f1 hL1 => ⟨fun _ => ⟨j, by omega, hL1.1.1, ?_⟩, fun y => absurd y (by decide)⟩))
        · simp only [if_pos hc] at hQ
          exact hQ m1 f1.rf a b
        · simp only [if_neg (show ¬ 64 ≤ c by omega), if_pos z1] at hQ
          have ev1 := ((hR.f68 f1).2.2.2.2.2 j hj).2.2 hl1
          refine hC _ _ _ _ (s_lawAdd ho2 (hX.f68 ho2 f1) (by omega) (kd := 0) (x := v j) (by rw [z1]; rfl) (fun _ => ev1) (fun m2 g1 g68 g69 hX2 => ⟨Or.inl rfl, Or.inr rfl, rfl, hQ _ ((f1.rf.trans g1).cu (by omega)) (hX2.f68 ho2 (Fr.cu Fr.none rfl)) ?_⟩))
          have hL2 : LZ j (c + 1) op true W mi0 m2 := by
            unfold LZ RS at hL1 ⊢
            rw [g68, g69]
            exact hL1
          exact hL2.set hL2.1.1 hL2.2.1 hL2.2.2.1 rfl (by decide) (by decide)
      · have z4 := iNLE z4
        simp only [if_pos (show k j = 1 ∧ 9999 < v j by omega)] at hQ
        exact hC _ _ _ _ (s_refused hR hj hL.1.1 (fun m9 g9 a9 b9 => ⟨Or.inl rfl, rfl, hQ m9 g9.rf a9 b9⟩))
    · have z1 := iNE z1
      simp only [if_neg (iNE z5), if_neg (iNE z39), if_pos (show k j ≠ 1 ∧ (k j < 40 ∨ 45 < k j) from ⟨z1, Or.inl (iLT z2)⟩)] at hQ
      exact hC _ _ _ _ (s_refused hR hj hL.1.1 (fun m9 g9 a9 b9 => ⟨Or.inl rfl, rfl, hQ m9 g9.rf a9 b9⟩))
    · have z1 := iNE z1
      have z2 := iNLT z2
      simp only [if_neg (iNE z5), if_neg (iNE z39), if_neg (show ¬ (k j ≠ 1 ∧ (k j < 40 ∨ 45 < k j)) by omega), if_neg (show ¬ (k j = 1 ∧ 9999 < v j) from fun y => z1 y.1)] at hQ
      have hl1 := hR.lt hj (by omega)
      refine ⟨fun _ => ⟨fun _ => ?_, fun z3 => absurd (iEQ z3) z1⟩, fun z3 => absurd (iNLE z3) (by omega)⟩
      refine hC _ _ _ _ (s_isKnot hR hj hL i5 (fun hc m1 f1 a b => ⟨fun y => absurd (by decide) y, fun _ => ⟨Or.inl rfl, rfl, ?_⟩⟩) (fun hc m1 f1 hL1 => ⟨fun _ => ⟨j, by omega, hL1.1.1, ?_⟩, fun y => absurd y (by decide)⟩))
      · simp only [if_pos hc] at hQ
        exact hQ m1 f1.rf a b
      · simp only [if_neg (show ¬ 64 ≤ c by omega), if_neg z1] at hQ
        refine hC _ _ _ _ (s_lawAdd ho2 (hX.f68 ho2 f1) (by omega) (kd := 1) (x := k j - 40) (by show nI (k j) = nI (40 + (k j - 40)); rw [show 40 + (k j - 40) = k j by omega]) (fun y => absurd y (by decide)) (fun m2 g1 g68 g69 hX2 => ⟨Or.inl rfl, Or.inr rfl, rfl, hQ _ ((f1.rf.trans g1).cu (by omega)) (hX2.f68 ho2 (Fr.cu Fr.none rfl)) ?_⟩))
        have hL2 : LZ j (c + 1) op true W mi0 m2 := by
          unfold LZ RS at hL1 ⊢
          rw [g68, g69]
          exact hL1
        exact hL2.set hL2.1.1 hL2.2.1 hL2.2.2.1 rfl (by decide) (by decide)
    · have z39 := iEQ z39
      simp only [if_neg (iNE z5), if_pos z39] at hQ
      have fin : ¬ 3 < rkN (W.headD 0) → ∀ (Kl2 : Nat → List Value → Mm → (Option Value → Mm → Prop) → Prop), True := fun _ _ => trivial
      refine ⟨fun z => ?_, fun z => ?_⟩
      · have hz : W = [] := by
          cases W with
          | nil => rfl
          | cons a W =>
            have z : mi 68 9 ≤ 0 := z
            rw [e9] at z
            have : (a :: W).length = W.length + 1 := rfl
            exact absurd z (nI_nle (by omega) (by omega))
        subst hz
        simp only [if_neg (show ¬ 3 < rkN (([] : List Nat).headD 0) by decide)] at hQ
        refine hC _ _ _ _ (s_isKnot hR hj hL i5 (fun hc m1 f1 a b => ⟨fun _ => ⟨Or.inl rfl, rfl, ?_⟩, fun y => absurd (by decide) y⟩) (fun hc m1 f1 hL1 => ⟨fun y => absurd y (by decide), fun _ => ?_⟩))
        · simp only [if_pos hc] at hQ
          exact hQ m1 f1.rf a b
        · simp only [if_neg (show ¬ 64 ≤ c by omega)] at hQ
          rw [z39]
          exact hC _ _ _ _ (s_await hL1 (by decide) (fun m2 f2 hL2 => ⟨fun y => absurd y (by decide), fun _ => ⟨Or.inr rfl, rfl, hQ m2 (f1.rf.trans f2.rf2) ((hX.f68 ho2 f1).f2 ho2 f2) hL2⟩⟩))
      · cases W with
        | nil =>
          have z : ¬ mi 68 9 ≤ 0 := z
          rw [e9] at z
          exact absurd (by decide) z
        | cons a W =>
          have ea : mi 69 W.length = nI a := hL.2.2.2.2.2.1
          have e91 : mi 68 9 - nI 1 = nI W.length := by rw [e9]; exact nI_pred _
          have hl2 : (a :: W).length = W.length + 1 := rfl
          have ha : a ≤ 39 := (i1 a List.mem_cons_self).elim (fun e => by omega) (fun e => e.2)
          have hrk : rkN a ≤ 6 := by
            have : ∀ a, a ≤ 39 → rkN a ≤ 6 := by decide +kernel
            exact this a ha
          refine ⟨W.length, by omega, e91, hC _ _ _ _ (s_rankOf ea (by omega) ⟨fun z3 => ?_, fun z3 => ?_⟩)⟩
          · simp only [if_neg (show ¬ 3 < rkN ((a :: W).headD 0) from fun y => by have := iLE z3; have y : 3 < rkN a := y; omega)] at hQ
            refine hC _ _ _ _ (s_isKnot hR hj hL i5 (fun hc m1 f1 a b => ⟨fun _ => ⟨Or.inl rfl, rfl, ?_⟩, fun y => absurd (by decide) y⟩) (fun hc m1 f1 hL1 => ⟨fun y => absurd y (by decide), fun _ => ?_⟩))
            · simp only [if_pos hc] at hQ
              exact hQ m1 f1.rf a b
            · simp only [if_neg (show ¬ 64 ≤ c by omega)] at hQ
              rw [z39]
              exact hC _ _ _ _ (s_await hL1 (by omega) (fun m2 f2 hL2 => ⟨fun y => absurd y (by decide), fun _ => ⟨Or.inr rfl, rfl, hQ m2 (f1.rf.trans f2.rf2) ((hX.f68 ho2 f1).f2 ho2 f2) hL2⟩⟩))
          · simp only [if_pos (show 3 < rkN ((a :: W).headD 0) from (by have := iNLE z3; exact this))] at hQ
            exact hC _ _ _ _ (s_refused hR hj hL.1.1 (fun m9 g9 a9 b9 => ⟨Or.inl rfl, rfl, hQ m9 g9.rf a9 b9⟩))
    · have z5 := iEQ z5
      have z := jLT z
      simp only [if_pos z5, if_neg (show ¬ 8 ≤ op by omega)] at hQ
      have hL1 : LZ j c (op + 1) true W mi0 (cu mi 68 (upd (mi 68) 6 (mi 68 6 + nI 1))) := hL.set hL.1.1 e5 (inc1 e6) hL.2.2.2.1 (by decide) (by decide)
      have f1 : Fr [68] mi (cu mi 68 (upd (mi 68) 6 (mi 68 6 + nI 1))) := Fr.cu Fr.none rfl
      rw [z5]
      exact hC _ _ _ _ (s_await hL1 (by omega) (fun m2 f2 hL2 => ⟨Or.inr rfl, rfl, hQ m2 (f1.rf.trans f2.rf2) ((hX.f68 ho2 f1).f2 ho2 f2) hL2⟩))
    · have z5 := iEQ z5
      have z := jNLT z
      simp only [if_pos z5, if_pos (show 8 ≤ op by omega)] at hQ
      exact hC _ _ _ _ (s_refused hR hj hL.1.1 (fun m9 g9 a9 b9 => ⟨Or.inl rfl, rfl, hQ m9 g9.rf a9 b9⟩))
end
