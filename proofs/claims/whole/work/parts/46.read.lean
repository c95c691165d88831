/-! READING (the class) -/
theorem cu_id {α : Type} (f : Nat → α) (c : Nat) : cu f c (f c) = f := by
  funext a
  unfold cu
  split
  · rename_i h; rw [h]
  · rfl
theorem cu_cu {α : Type} (f : Nat → α) (c : Nat) (g g' : α) : cu (cu f c g) c g' = cu f c g' := by
  funext a
  unfold cu
  split <;> rfl
theorem cuu (f : Nat → Nat → Int32) (c : Nat) (g : Nat → Int32) (j : Nat) (x : Int32) : cu (cu f c g) c (upd (cu f c g c) j x) = cu f c (upd g j x) := by rw [cu_cu, cu_self]
theorem seenC1 : ∀ s, s < 512 → nI s &&& ((nI s >>> (nI 3 &&& 31)) ^^^ -1) = nI (seenN 1 s) := by decide +kernel
theorem seenC2 : ∀ s, s < 512 → nI s &&& ((nI s <<< (nI 3 &&& 31)) ^^^ -1) = nI (seenN 2 s) := by decide +kernel
theorem seenM2 : ∀ s, s < 512 → nI s &&& (((nI s <<< (nI 3 &&& 31)) &&& nI 511) ^^^ -1) = nI (seenN 2 s) := by decide +kernel
theorem readN_le {T : Nat → Nat → Nat} (hw : wfT T) (h s : Nat) : readN T h s ≤ 26 := by
  unfold readN
  split
  · omega
  · split
    · rename_i hh; exact (hw.gl _ hh).2
    · omega
section
variable {d : Nat} {Q : Option Value → Mm → Prop} {T S : Nat → Nat → Nat} {mi : Nat → Nat → Int32} {ml : Nat → Nat → Int64} {rd : Option Nat}
theorem s_hasHill (hT : CT 0 T mi) (hw : wfT T) {x : Int32} (h1 : ∀ f, f < T 0 5 → x = nI f → Q (some (.int (nI 1))) (mi, ml, R0 rd, 136)) (h0 : (∀ f, f < T 0 5 → x ≠ nI f) → Q (some (.int (nI 0))) (mi, ml, R0 rd, 136)) : Cd (d + 1) k_Hills_hasHill [.ref 20, .int x] (mi, ml, R0 rd, 136) Q := by
  have hf := hw.hl3
  have e : mi 20 0 = nI (T 0 5) := hT.hills
  refine r_Hills_hasHill (by decide) (fun K Kl hK hC => ?_)
  refine ⟨fun h => ?_, fun h => ⟨fun h2 => ?_, fun h2 => ⟨fun h3 => ?_, fun h3 => ?_⟩⟩⟩
  · exact ⟨Or.inl rfl, rfl, h0 (fun f hf2 => i_neg_ne h (by omega))⟩
  · refine ⟨Or.inl rfl, rfl, h0 (fun f hf2 e2 => ?_)⟩
    rw [e, e2] at h2
    have := iLE h2
    omega
  · refine ⟨Or.inl rfl, rfl, h0 (fun f hf2 e2 => ?_)⟩
    rw [e2] at h3
    have := iLE h3
    omega
  · obtain ⟨j, hj, rfl⟩ := nI_of h
    rw [e] at h2
    exact ⟨Or.inr rfl, rfl, h1 j (iNLE h2) rfl⟩
theorem s_hasWord (hT : CT 0 T mi) (hw : wfT T) {x : Int32} (h1 : ∀ f, f < T 0 4 → x = nI f → Q (some (.int (nI 1))) (mi, ml, R0 rd, 136)) (h0 : (∀ f, f < T 0 4 → x ≠ nI f) → Q (some (.int (nI 0))) (mi, ml, R0 rd, 136)) : Cd (d + 1) k_Script_hasWord [.ref 13, .int x] (mi, ml, R0 rd, 136) Q := by
  have hf := hw.wd6
  have e : mi 13 1 = nI (T 0 4) := hT.words
  refine r_Script_hasWord (by decide) (fun K Kl hK hC => ?_)
  refine ⟨fun h => ?_, fun h => ⟨fun h2 => ?_, fun h2 => ⟨fun h3 => ?_, fun h3 => ?_⟩⟩⟩
  · exact ⟨Or.inl rfl, rfl, h0 (fun f hf2 => i_neg_ne h (by omega))⟩
  · refine ⟨Or.inl rfl, rfl, h0 (fun f hf2 e2 => ?_)⟩
    rw [e, e2] at h2
    have := iLE h2
    omega
  · refine ⟨Or.inl rfl, rfl, h0 (fun f hf2 e2 => ?_)⟩
    rw [e2] at h3
    have := iLE h3
    omega
  · obtain ⟨j, hj, rfl⟩ := nI_of h
    rw [e] at h2
    exact ⟨Or.inr rfl, rfl, h1 j (iNLE h2) rfl⟩
theorem s_seenFrom (hT : CT 0 T mi) (hw : wfT T) {h s : Nat} (hh : h < T 0 5) (hs : s < 512) (hQ : Q (some (.int (nI (seenN (T 10 h) s)))) (mi, ml, R0 rd, 136)) : Cd (d + 1) k_Hills_seenFrom [.ref 20, .int (nI h), .int (nI s)] (mi, ml, R0 rd, 136) Q := by
  have h3 := hw.hl3
  have hsg := hw.sg h hh
  have e : mi 22 h = nI (34 + T 10 h) := hT.sg h hh
  refine r_Hills_seenFrom (by decide) (fun K Kl hK hC => ?_)
  refine ⟨h, by omega, rfl, ?_⟩
  rw [e]
  refine ⟨fun h1 => ?_, fun h1 => ?_⟩
  · have h1 := iNE h1
    refine ⟨h, by omega, rfl, ?_⟩
    rw [e]
    refine ⟨fun h2 => ?_, fun h2 => ?_⟩
    · have h2 := iNE h2
      have : seenN (T 10 h) s = s := by unfold seenN; rw [if_neg (by omega), if_neg (by omega)]
      rw [this] at hQ
      exact ⟨rfl, hQ⟩
    · have h2 := iEQ h2
      rw [show T 10 h = 2 by omega, ← seenC2 s hs] at hQ
      exact ⟨rfl, hQ⟩
  · have h1 := iEQ h1
    rw [show T 10 h = 1 by omega, ← seenC1 s hs] at hQ
    exact ⟨rfl, hQ⟩
theorem s_readFrom (hT : CT 0 T mi) (hw : wfT T) {h s : Nat} (hh : h < T 0 5) (hs : s < 512) (hQ : Q (some (.int (nI (readN T h s)))) (mi, ml, R0 rd, 136)) : Cd (d + 2) k_Hills_readFrom [.ref 20, .int (nI h), .int (nI s), .ref 13] (mi, ml, R0 rd, 136) Q := by
  have h3 := hw.hl3
  have hsg := hw.sg h hh
  have h9 := hw.gl9
  have e : mi 13 0 = nI (T 0 3) := hT.glyphs
  have hsn := seenN_lt s hs (T 10 h) (by omega)
  have lp : s ≠ 0 → ∀ j, j ≤ T 0 3 → (∀ i, i < j → seenN (T 10 h) (T 6 i) ≠ seenN (T 10 h) s) → GoM (d + 1) k_Hills_readFrom 136 Q 17 [.ref 20, .int (nI h), .int (nI s), .ref 13, .int (nI (seenN (T 10 h) s)), .int (nI j)] [] (mi, ml, R0 rd, 136) := by
    intro hs0
    refine upto ?_ ?_
    · intro hb
      refine g_Hills_readFrom (fun K Kl hK hC => ?_)
      refine ⟨fun _ => ⟨rfl, ?_⟩, fun h1 => absurd (jNLE h1) (by omega)⟩
      have : readN T h s = 0 := by
        unfold readN
        rw [if_neg hs0, if_neg]
        rw [fnd_none (fun i hi => by simp [hb i hi])]
        omega
      rw [this] at hQ
      exact hQ
    · intro j hj ih hb
      have hgs := hw.gs j hj
      have egs : mi 15 j = nI (T 6 j) := hT.gs j hj
      have egl : mi 14 j = nI (T 5 j) := hT.gl j hj
      have hsn2 := seenN_lt (T 6 j) (by omega) (T 10 h) (by omega)
      refine g_Hills_readFrom (fun K Kl hK hC => ?_)
      refine ⟨fun h1 => absurd (jLE h1) (by omega), fun _ => ⟨j, by omega, rfl, ?_⟩⟩
      rw [egs]
      refine hC _ _ _ _ (s_seenFrom hT hw hh (by omega) ?_)
      refine ⟨fun h1 => ?_, fun h1 => ⟨j, by omega, rfl, rfl, ?_⟩⟩
      · have ih := ih (lt_s hb (iNE h1))
        rw [nI1] at ih
        exact hK _ _ _ _ ih
      · have h1 := iEQ h1
        have : readN T h s = T 5 j := by
          unfold readN
          have hfj : fnd (fun g => seenN (T 10 h) (T 6 g) == seenN (T 10 h) s) (T 0 3) = j := fnd_at hj (by simp [h1]) (fun i hi => by simp [hb i hi])
          rw [if_neg hs0, hfj, if_pos hj]
        rw [this, ← egl] at hQ
        exact hQ
  refine r_Hills_readFrom (by decide) (fun K Kl hK hC => ?_)
  refine ⟨fun h1 => ?_, fun h1 => ⟨rfl, ?_⟩⟩
  · refine hC _ _ _ _ (s_seenFrom hT hw hh hs ?_)
    exact hK _ _ _ _ (lp (iNZ h1) 0 (Nat.zero_le _) lt_0)
  · have : readN T h s = 0 := by unfold readN; rw [if_pos (iZ h1)]
    rw [this] at hQ
    exact hQ
theorem s_places (hT : CT 0 T mi) (hw : wfT T) (hQ : Q (some (.int (nI (2 * (T 0 0 * T 0 1))))) (mi, ml, R0 rd, 136)) : Cd (d + 2) k_Search_places [.ref 84] (mi, ml, R0 rd, 136) Q := by
  have hfl := hw.fl
  refine r_Search_places (by decide) (fun K Kl hK hC => ?_)
  refine hC _ _ _ _ (s_Told_fields (o := 0) (Or.inl rfl) hT ?_)
  refine hC _ _ _ _ (s_min (by decide) (by omega) (by omega) ?_)
  rw [Nat.min_eq_left hfl]
  rw [← pk_mul] at hQ
  exact ⟨rfl, hQ⟩
/-- all letters read in the plain -/
theorem s_readAll (hT : CT 0 T mi) (hw : wfT T) {sh : Nat → Nat} (hsh : ∀ f, f < 48 → mi 71 f = nI (sh f) ∧ sh f ≤ 511) {h : Nat} (hh : h < T 0 5) (hQ : ∀ g : Nat → Int32, (∀ f, f < 48 → g f = nI (readN T h (sh f))) → Q none (cu mi 90 g, ml, R0 rd, 136)) : Cd (d + 3) k_Search_readAll [.ref 84, .int (nI h)] (mi, ml, R0 rd, 136) Q := by
  have lp : ∀ j, j ≤ 48 → ∀ g : Nat → Int32, (∀ f, f < j → g f = nI (readN T h (sh f))) → GoM (d + 2) k_Search_readAll 136 Q 2 [.ref 84, .int (nI h), .int (nI j)] [] (cu mi 90 g, ml, R0 rd, 136) := by
    refine upto ?_ ?_
    · intro g hg
      refine g_Search_readAll (fun K Kl hK hC => ?_)
      exact ⟨fun _ => ⟨rfl, hQ g hg⟩, fun h1 => absurd (iNLE h1) (by omega)⟩
    · intro j hj ih g hg
      have hs := hsh j hj
      have hT' : CT 0 T (cu mi 90 g) := hT.keep (fun c _ _ => cu_ne (by omega))
      refine g_Search_readAll (fun K Kl hK hC => ?_)
      refine ⟨fun h1 => absurd (iLE h1) (by omega), fun _ => ⟨j, by omega, rfl, ?_⟩⟩
      rw [show cu mi 90 g 71 = mi 71 from rfl, hs.1]
      refine hC _ _ _ _ (s_readFrom hT' hw hh (by omega) ?_)
      refine ⟨j, by omega, rfl, ?_⟩
      have ih := ih (upd g j (nI (readN T h (sh j)))) (fun f hf => by
        by_cases hfj : f = j
        · subst hfj; exact pk_us
        · rw [pk_un hfj]; exact hg f (by omega))
      rw [nI1, ← cuu] at ih
      exact hK _ _ _ _ ih
  refine r_Search_readAll (by decide) (fun K Kl hK hC => ?_)
  have := lp 0 (Nat.zero_le _) (mi 90) lt_0
  rw [cu_id] at this
  exact hK _ _ _ _ this
end
