/-! THE REFERENCE: small methods -/
section
variable {d : Nat} {Q : Option Value → Mm → Prop} {T S : Nat → Nat → Nat} {mi : Nat → Nat → Int32} {ml : Nat → Nat → Int64} {rd : Option Nat} {x y z : Int32}
theorem t_isIn (h1 : ¬ x < y → ¬ z < x → Q (some (.int (nI 1))) (mi, ml, R0 rd, 136)) (h0 : (x < y ∨ z < x) → Q (some (.int (nI 0))) (mi, ml, R0 rd, 136)) : Cd (d + 1) k_Mod_isIn [.int x, .int y, .int z] (mi, ml, R0 rd, 136) Q :=
  r_Mod_isIn (by decide) (fun K Kl hK hC => ⟨fun a => ⟨Or.inl rfl, rfl, h0 (Or.inl a)⟩, fun a => ⟨fun b => ⟨Or.inl rfl, rfl, h0 (Or.inr b)⟩, fun b => ⟨Or.inr rfl, rfl, h1 a b⟩⟩⟩)
theorem t_isOf {s k : Nat} (hs : s < 2 ^ 31) (hk : k < 31) (h1 : s / 2 ^ k % 2 = 1 → Q (some (.int (nI 1))) (mi, ml, R0 rd, 136)) (h0 : s / 2 ^ k % 2 = 0 → Q (some (.int (nI 0))) (mi, ml, R0 rd, 136)) : Cd (d + 1) k_Mod_isOf [.int (nI s), .int (nI k)] (mi, ml, R0 rd, 136) Q := by
  have e := bitM hs hk
  have hm : s / 2 ^ k % 2 < 2 := Nat.mod_lt _ (by decide)
  refine r_Mod_isOf (by decide) (fun K Kl hK hC => ⟨fun a => ⟨Or.inl rfl, rfl, h0 ?_⟩, fun a => ⟨Or.inr rfl, rfl, h1 ?_⟩⟩)
  · have a : ¬ (nI s >>> (nI k &&& 31)) &&& nI 1 = nI 1 := a
    rw [e] at a
    have := iNE a
    omega
  · have a : (nI s >>> (nI k &&& 31)) &&& nI 1 = nI 1 := a
    rw [e] at a
    exact iEQ a
theorem t_fields (hT : MT T mi) (hQ : Q (some (.int (nI (T 0 0 * T 0 1)))) (mi, ml, R0 rd, 136)) : Cd (d + 1) k_Mod_fields [.ref 95] (mi, ml, R0 rd, 136) Q := by
  have e : mi 95 12 * mi 95 13 = nI (T 0 0 * T 0 1) := by rw [hT.wide, hT.high, pk_mul]
  rw [← e] at hQ
  exact r_Mod_fields (by decide) (fun K Kl hK hC => ⟨rfl, hQ⟩)
theorem t_isField (hT : MT T mi) (hw : wfT T) (h1 : ∀ f, f < T 0 0 * T 0 1 → x = nI f → Q (some (.int (nI 1))) (mi, ml, R0 rd, 136)) (h0 : (∀ f, f < T 0 0 * T 0 1 → x ≠ nI f) → Q (some (.int (nI 0))) (mi, ml, R0 rd, 136)) : Cd (d + 2) k_Mod_isField [.ref 95, .int x] (mi, ml, R0 rd, 136) Q := by
  have hf := hw.fl
  refine r_Mod_isField (by decide) (fun K Kl hK hC => ⟨fun h => ⟨Or.inl rfl, rfl, h0 (fun f hf2 => i_neg_ne h (by omega))⟩, fun h => hC _ _ _ _ (t_fields hT ⟨fun h2 => ⟨Or.inl rfl, rfl, h0 (fun f hf2 e2 => ?_)⟩, fun h2 => ?_⟩)⟩)
  · rw [e2] at h2
    have := iLE h2
    omega
  · obtain ⟨j, hj, rfl⟩ := nI_of h
    exact ⟨Or.inr rfl, rfl, h1 j (iNLE h2) rfl⟩
theorem t_isOwner (hT : MT T mi) (hw : wfT T) (h1 : ∀ f, f < T 0 2 → x = nI f → Q (some (.int (nI 1))) (mi, ml, R0 rd, 136)) (h0 : (∀ f, f < T 0 2 → x ≠ nI f) → Q (some (.int (nI 0))) (mi, ml, R0 rd, 136)) : Cd (d + 1) k_Mod_isOwner [.ref 95, .int x] (mi, ml, R0 rd, 136) Q := by
  have hf := hw.own5
  have e := hT.owners
  refine r_Mod_isOwner (by decide) (fun K Kl hK hC => ⟨fun h => ⟨Or.inl rfl, rfl, h0 (fun f hf2 => i_neg_ne h (by omega))⟩, fun h => ⟨fun h2 => ⟨Or.inl rfl, rfl, h0 (fun f hf2 e2 => ?_)⟩, fun h2 => ?_⟩⟩)
  · rw [e, e2] at h2
    have := iLE h2
    omega
  · obtain ⟨j, hj, rfl⟩ := nI_of h
    rw [e] at h2
    exact ⟨Or.inr rfl, rfl, h1 j (iNLE h2) rfl⟩
theorem t_isWord (hT : MT T mi) (hw : wfT T) (h1 : ∀ f, f < T 0 4 → x = nI f → Q (some (.int (nI 1))) (mi, ml, R0 rd, 136)) (h0 : (∀ f, f < T 0 4 → x ≠ nI f) → Q (some (.int (nI 0))) (mi, ml, R0 rd, 136)) : Cd (d + 1) k_Mod_isWord [.ref 95, .int x] (mi, ml, R0 rd, 136) Q := by
  have hf := hw.wd6
  have e := hT.words
  refine r_Mod_isWord (by decide) (fun K Kl hK hC => ⟨fun h => ⟨Or.inl rfl, rfl, h0 (fun f hf2 => i_neg_ne h (by omega))⟩, fun h => ⟨fun h2 => ⟨Or.inl rfl, rfl, h0 (fun f hf2 e2 => ?_)⟩, fun h2 => ?_⟩⟩)
  · rw [e, e2] at h2
    have := iLE h2
    omega
  · obtain ⟨j, hj, rfl⟩ := nI_of h
    rw [e] at h2
    exact ⟨Or.inr rfl, rfl, h1 j (iNLE h2) rfl⟩
theorem t_isHill (hT : MT T mi) (hw : wfT T) (h1 : ∀ f, f < T 0 5 → x = nI f → Q (some (.int (nI 1))) (mi, ml, R0 rd, 136)) (h0 : (∀ f, f < T 0 5 → x ≠ nI f) → Q (some (.int (nI 0))) (mi, ml, R0 rd, 136)) : Cd (d + 1) k_Mod_isHill [.ref 95, .int x] (mi, ml, R0 rd, 136) Q := by
  have hf := hw.hl3
  have e := hT.hills
  refine r_Mod_isHill (by decide) (fun K Kl hK hC => ⟨fun h => ⟨Or.inl rfl, rfl, h0 (fun f hf2 => i_neg_ne h (by omega))⟩, fun h => ⟨fun h2 => ⟨Or.inl rfl, rfl, h0 (fun f hf2 e2 => ?_)⟩, fun h2 => ?_⟩⟩)
  · rw [e, e2] at h2
    have := iLE h2
    omega
  · obtain ⟨j, hj, rfl⟩ := nI_of h
    rw [e] at h2
    exact ⟨Or.inr rfl, rfl, h1 j (iNLE h2) rfl⟩
theorem t_isWay (h1 : ∀ w, w < 2 → x = nI w → Q (some (.int (nI 1))) (mi, ml, R0 rd, 136)) (h0 : (∀ w, w < 2 → x ≠ nI w) → Q (some (.int (nI 0))) (mi, ml, R0 rd, 136)) : Cd (d + 1) k_Mod_isWay [.int x] (mi, ml, R0 rd, 136) Q := by
  refine r_Mod_isWay (by decide) (fun K Kl hK hC => ⟨fun h => ⟨Or.inr rfl, rfl, h1 0 (by omega) h⟩, fun h => ⟨fun h2 => ⟨Or.inl rfl, rfl, h0 (fun w hw e => ?_)⟩, fun h2 => ⟨Or.inr rfl, rfl, h1 1 (by omega) h2⟩⟩⟩)
  match w, hw with
  | 0, _ => exact h e
  | 1, _ => exact h2 e
theorem t_priceOf (hT : MT T mi) (hw : wfT T) {f : Nat} (hf : f < 48) (hQ : Q (some (.int (nI (feeN T f)))) (mi, ml, R0 rd, 136)) : Cd (d + 1) k_Mod_priceOf [.ref 95, .int (nI f)] (mi, ml, R0 rd, 136) Q := by
  have h4 := hw.ow f
  have h5 := hw.own5
  have e := hT.own f hf
  unfold feeN at hQ
  refine r_Mod_priceOf (by decide) (fun K Kl hK hC => ⟨f, by omega, rfl, fun h => ⟨f, by omega, rfl, ?_⟩, fun h => ⟨rfl, ?_⟩⟩)
  · rw [e] at h ⊢
    have hz := (nI_predge (by omega)).mp h
    obtain ⟨q, hq⟩ : ∃ q, T 4 f = q + 1 := ⟨T 4 f - 1, by omega⟩
    have ep := hT.price q (by omega)
    rw [hq, nI_pred]
    rw [if_neg hz, hq, Nat.add_sub_cancel, ← ep] at hQ
    exact ⟨q, by omega, rfl, rfl, hQ⟩
  · rw [e] at h
    have hz : T 4 f = 0 := by
      rcases Nat.eq_zero_or_pos (T 4 f) with z | z
      · exact z
      · exact absurd ((nI_predge (by omega)).mpr (by omega)) h
    rw [if_pos hz] at hQ
    exact hQ
theorem t_leftOf (hT : MT T mi) (hw : wfT T) {f b day : Nat} (hf : f < 48) (hb : b < 2) (hd : mi 124 b = nI day) (hd2 : day < 10000) (hQ : Q (some (.int (nI (leftN T f day)))) (mi, ml, R0 rd, 136)) : Cd (d + 1) k_Mod_leftOf [.ref 95, .int (nI b), .int (nI f)] (mi, ml, R0 rd, 136) Q := by
  have h4 := hw.ow f
  have h5 := hw.own5
  have e := hT.own f hf
  unfold leftN at hQ
  refine r_Mod_leftOf (by decide) (fun K Kl hK hC => ⟨f, by omega, rfl, fun h => ⟨f, by omega, rfl, ?_⟩, fun h => ⟨rfl, ?_⟩⟩)
  · rw [e] at h ⊢
    have hz := (nI_predge (by omega)).mp h
    have hc := cutOf hw hz
    obtain ⟨q, hq⟩ : ∃ q, T 4 f = q + 1 := ⟨T 4 f - 1, by omega⟩
    have ep := hT.cut q (by omega)
    rw [hq, nI_pred]
    rw [if_neg hz] at hQ
    rw [hq, Nat.add_sub_cancel] at hQ hc
    refine ⟨q, by omega, rfl, b, by omega, rfl, ?_⟩
    rw [ep, hd]
    refine ⟨fun h2 => ⟨rfl, ?_⟩, fun h2 => ⟨rfl, ?_⟩⟩
    · have hle : day ≤ T 3 q := by
        rcases Nat.lt_or_ge (T 3 q) day with y | y
        · exact absurd h2 (Int32.not_le.mpr (pk_sneg (by omega) y))
        · exact y
      rw [pk_sub hle]
      exact hQ
    · have hlt : T 3 q < day := by
        rcases Nat.lt_or_ge (T 3 q) day with y | y
        · exact y
        · exact absurd (by rw [pk_sub y]; exact nI_pos' (by omega)) h2
      rw [show T 3 q - day = 0 by omega] at hQ
      exact hQ
  · rw [e] at h
    have hz : T 4 f = 0 := by
      rcases Nat.eq_zero_or_pos (T 4 f) with z | z
      · exact z
      · exact absurd ((nI_predge (by omega)).mpr (by omega)) h
    rw [if_pos hz] at hQ
    exact hQ
theorem t_shapeOf (hT : MT T mi) (hw : wfT T) {c : Nat} (hc : c < 2 ^ 31) (hQ : Q (some (.int (nI (shpN T c)))) (mi, ml, R0 rd, 136)) : Cd (d + 2) k_Mod_shapeOf [.ref 95, .int (nI c)] (mi, ml, R0 rd, 136) Q := by
  have h9 := hw.gl9
  unfold shpN at hQ
  have call : ∀ P : Option Value → Mm → Prop, (∀ j, j < T 0 3 → fnd (fun g => T 5 g == c) (T 0 3) = j → P (some (.int (nI j))) (mi, ml, R0 rd, 136)) → (fnd (fun g => T 5 g == c) (T 0 3) = T 0 3 → P (some (.int (-1))) (mi, ml, R0 rd, 136)) → Cd (d + 1) k_Mod_find [.ref 104, .int (nI 0), .int (mi 95 15), .int (nI c)] (mi, ml, R0 rd, 136) P := by
    intro P p1 p0
    rw [hT.glyphs]
    refine s_Mod_find (c := 104) (L := 18) (a := 0) (Or.inr (Or.inl ⟨rfl, rfl⟩)) (by omega) (fun j hj e hb => p1 j hj ?_) (fun hb => p0 ?_)
    · rw [Nat.zero_add, hT.gl j hj] at e
      have := hw.gl j hj
      exact fnd_at hj (by simp [iEQ e]) (fun i hi => by
        have h1 := hb i hi
        rw [Nat.zero_add, hT.gl i (by omega)] at h1
        simp [iNE h1])
    · exact fnd_none (fun i hi => by
        have h1 := hb i hi
        rw [Nat.zero_add, hT.gl i hi] at h1
        simp [iNE h1])
  refine r_Mod_shapeOf (by decide) (fun K Kl hK hC => hC _ _ _ _ (call _ (fun j hj he => ⟨fun _ => ⟨j, by omega, rfl, rfl, ?_⟩, fun h => absurd (nI_pos' (by omega)) h⟩) (fun he => ⟨fun h => absurd h (by decide), fun _ => ⟨rfl, ?_⟩⟩)))
  · rw [he, if_pos hj, ← hT.gs j hj] at hQ
    exact hQ
  · rw [he, if_neg (by omega)] at hQ
    exact hQ
theorem t_seenOf (hT : MT T mi) (hw : wfT T) {h s : Nat} (hh : h < T 0 5) (hs : s < 512) (hQ : Q (some (.int (nI (seenN (T 10 h) s)))) (mi, ml, R0 rd, 136)) : Cd (d + 1) k_Mod_seenOf [.ref 95, .int (nI h), .int (nI s)] (mi, ml, R0 rd, 136) Q := by
  have h3 := hw.hl3
  have hsg := hw.sg h hh
  have e := hT.sg h hh
  refine r_Mod_seenOf (by decide) (fun K Kl hK hC => ⟨h, by omega, rfl, fun a => ⟨h, by omega, rfl, fun b => ⟨rfl, ?_⟩, fun b => ⟨rfl, ?_⟩⟩, fun a => ⟨rfl, ?_⟩⟩)
  · rw [e] at a b
    have a := iNZ a
    have b := iNE b
    rw [show T 10 h = 2 by omega, ← seenM2 s hs] at hQ
    exact hQ
  · rw [e] at b
    have b := iEQ b
    rw [b, ← seenC1 s hs] at hQ
    exact hQ
  · rw [e] at a
    have a := iZ a
    have : seenN (T 10 h) s = s := by unfold seenN; rw [if_neg (by omega), if_neg (by omega)]
    rw [this] at hQ
    exact hQ
theorem t_readOf (hT : MT T mi) (hw : wfT T) {h s : Nat} (hh : h < T 0 5) (hs : s < 512) (hQ : Q (some (.int (nI (readN T h s)))) (mi, ml, R0 rd, 136)) : Cd (d + 2) k_Mod_readOf [.ref 95, .int (nI h), .int (nI s)] (mi, ml, R0 rd, 136) Q := by
  have hsg := hw.sg h hh
  have h9 := hw.gl9
  have e := hT.glyphs
  have hsn := seenN_lt s hs (T 10 h) (by omega)
  have hs0 := seenN_0 s hs (T 10 h) (by omega)
  have lp : s ≠ 0 → ∀ j, j ≤ T 0 3 → (∀ i, i < j → seenN (T 10 h) (T 6 i) ≠ seenN (T 10 h) s) → GoM (d + 1) k_Mod_readOf 136 Q 16 [.ref 95, .int (nI h), .int (nI s), .int (nI (seenN (T 10 h) s)), .int (nI j)] [] (mi, ml, R0 rd, 136) := by
    intro hs0
    refine upto ?_ ?_
    · intro hb
      refine g_Mod_readOf (fun K Kl hK hC => ⟨fun _ => ⟨rfl, ?_⟩, fun h1 => absurd (jNLE h1) (by omega)⟩)
      have : readN T h s = 0 := by
        unfold readN
        rw [if_neg hs0, if_neg]
        rw [fnd_none (fun i hi => by simp [hb i hi])]
        omega
      rw [this] at hQ
      exact hQ
    · intro j hj ih hb
      have hgs := hw.gs j hj
      have egs := hT.gs j hj
      have egl := hT.gl j hj
      have hsn2 := seenN_lt (T 6 j) (by omega) (T 10 h) (by omega)
      refine g_Mod_readOf (fun K Kl hK hC => ⟨fun h1 => absurd (jLE h1) (by omega), fun _ => ⟨j, by omega, rfl, ?_⟩⟩)
      rw [egs]
      refine hC _ _ _ _ (t_seenOf hT hw hh (by omega) ⟨fun h1 => ?_, fun h1 => ⟨j, by omega, rfl, rfl, ?_⟩⟩)
      · have ih := ih (lt_s hb (iNE h1))
        rw [nI1 j] at ih
        exact hK _ _ _ _ ih
      · have h1 := iEQ h1
        have : readN T h s = T 5 j := by
          unfold readN
          have hfj : fnd (fun g => seenN (T 10 h) (T 6 g) == seenN (T 10 h) s) (T 0 3) = j := fnd_at hj (by simp [h1]) (fun i hi => by simp [hb i hi])
          rw [if_neg hs0, hfj, if_pos hj]
        rw [this, ← egl] at hQ
        exact hQ
  refine r_Mod_readOf (by decide) (fun K Kl hK hC => hC _ _ _ _ (t_seenOf hT hw hh hs ⟨fun h1 => ?_, fun h1 => ⟨rfl, ?_⟩⟩))
  · exact hK _ _ _ _ (lp (fun z => iNZ h1 (hs0.mpr z)) 0 (Nat.zero_le _) lt_0)
  · have : readN T h s = 0 := by unfold readN; rw [if_pos (hs0.mp (iZ h1))]
    rw [this] at hQ
    exact hQ
end
