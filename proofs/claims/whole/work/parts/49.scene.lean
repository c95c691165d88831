/-! SCENES: copied, cleared, counted, cut (the class) -/
def sSh (S : Nat → Nat → Nat) (sh : Nat → Nat) : Nat → Nat → Nat := fun a i => if a = 1 then sh i else S a i
def sF (S : Nat → Nat → Nat) (k x : Nat) : Nat → Nat → Nat := fun a i => if a = 0 then if i = k then x else S 0 i else S a i
theorem CS.setSh {b : Nat} {S : Nat → Nat → Nat} {mi : Nat → Nat → Int32} {g : Nat → Int32} {sh : Nat → Nat} (h : CS b S mi) (hg : ∀ f, f < 48 → g f = nI (sh f)) : CS b (sSh S sh) (cu mi (b + 1) g) := by
  unfold CS
  rw [cu_ne (by omega : b ≠ b + 1), cu_ne (by omega : b + 2 ≠ b + 1), cu_self]
  exact ⟨h.day, h.purse, h.last, h.hung, hg, h.readOn⟩
theorem CS.setF {b k x : Nat} {S : Nat → Nat → Nat} {mi : Nat → Nat → Int32} (h : CS b S mi) (hk : k < 4) : CS b (sF S k x) (cu mi b (upd (mi b) k (nI x))) := by
  unfold CS
  rw [cu_ne (by omega : b + 1 ≠ b), cu_ne (by omega : b + 2 ≠ b), cu_self]
  have h0 := h.day; have h1 := h.purse; have h2 := h.last; have h3 := h.hung
  have : k = 0 ∨ k = 1 ∨ k = 2 ∨ k = 3 := by omega
  rcases this with rfl | rfl | rfl | rfl
  · exact ⟨rfl, h1, h2, h3, h.shape, h.readOn⟩
  · exact ⟨h0, rfl, h2, h3, h.shape, h.readOn⟩
  · exact ⟨h0, h1, rfl, h3, h.shape, h.readOn⟩
  · exact ⟨h0, h1, h2, rfl, h.shape, h.readOn⟩
/-- the days till a field is cut -/
def leftN (T : Nat → Nat → Nat) (f day : Nat) : Nat := if T 4 f = 0 then 99 else T 3 (T 4 f - 1) - day
def vowN (T : Nat → Nat → Nat) (s : Nat) : Bool := !(s == 0) && (s == shpN T 1 || s == shpN T 5 || s == shpN T 9 || s == shpN T 15 || s == shpN T 21)
def dueN (T : Nat → Nat → Nat) (day f : Nat) : Bool := !(T 4 f == 0) && T 3 (T 4 f - 1) == day
def stkAll (sh : Nat → Nat) : Nat := sumN (fun f => bcN (sh f)) 48
theorem cutOf {T : Nat → Nat → Nat} (hw : wfT T) {f : Nat} (h : T 4 f ≠ 0) : 1 ≤ T 3 (T 4 f - 1) ∧ T 3 (T 4 f - 1) ≤ 99 := by
  have := hw.ow f
  exact hw.cu _ (by omega)
section
variable {d : Nat} {Q : Option Value → Mm → Prop} {T S : Nat → Nat → Nat} {mi : Nat → Nat → Int32} {ml : Nat → Nat → Int64} {rd : Option Nat}
theorem s_copy {a b : Nat} (hab : (a = 86 ∧ b = 70) ∨ (a = 73 ∧ b = 70) ∨ (a = 70 ∧ b = 73)) (hS : CS b S mi) (hQ : ∀ mi', Fr [a, a + 1, a + 2] mi mi' → CS a S mi' → Q none (mi', ml, R0 rd, 136)) : Cd (d + 1) k_Scene_copy [.ref a, .ref b] (mi, ml, R0 rd, 136) Q := by
  refine r_Scene_copy (by decide) ?_
  rcases hab with ⟨rfl, rfl⟩ | ⟨rfl, rfl⟩ | ⟨rfl, rfl⟩
  all_goals
    intro K Kl hK hC
    refine ⟨0, 0, 48, rfl, rfl, rfl, by decide, by decide, ⟨0, 0, 18, rfl, rfl, rfl, by decide, by decide, rfl, hQ _ ?_ ?_⟩⟩
    · exact Fr.cu (Fr.cu (Fr.cu (Fr.cu (Fr.cu (Fr.cu Fr.none rfl) rfl) rfl) rfl) rfl) rfl
    · refine ⟨hS.day, hS.purse, hS.last, hS.hung, fun f hf => ?_, fun wd hwd h hh => ?_⟩
      · refine Eq.trans (pk_cpy_in (Nat.zero_le _) (by omega)) ?_
        rw [Nat.sub_zero, Nat.zero_add]
        exact hS.shape f hf
      · refine Eq.trans (pk_cpy_in (Nat.zero_le _) (by omega)) ?_
        rw [Nat.sub_zero, Nat.zero_add]
        exact hS.readOn wd hwd h hh
theorem s_clearFields {b : Nat} (hb : b = 70 ∨ b = 86) (hQ : ∀ g : Nat → Int32, (∀ f, f < 48 → g f = nI 0) → Q none (cu mi (b + 1) g, ml, R0 rd, 136)) : Cd (d + 1) k_Scene_clearFields [.ref b] (mi, ml, R0 rd, 136) Q := by
  have lp : ∀ j, j ≤ 48 → ∀ g : Nat → Int32, (∀ f, f < j → g f = nI 0) → GoM d k_Scene_clearFields 136 Q 2 [.ref b, .int (nI j)] [] (cu mi (b + 1) g, ml, R0 rd, 136) := by
    refine upto ?_ ?_
    · intro g hg
      refine g_Scene_clearFields (fun K Kl hK hC => ?_)
      exact ⟨fun _ => ⟨rfl, hQ g hg⟩, fun h => absurd (iNLE h) (by omega)⟩
    · intro j hj ih g hg
      have ih := ih (upd g j (nI 0)) (fun f hf => by
        by_cases hfj : f = j
        · subst hfj; exact pk_us
        · rw [pk_un hfj]; exact hg f (by omega))
      rw [nI1, ← cuu] at ih
      refine g_Scene_clearFields ?_
      rcases hb with rfl | rfl
      all_goals
        intro K Kl hK hC
        refine ⟨fun h => absurd (iLE h) (by omega), fun _ => ⟨j, by omega, rfl, ?_⟩⟩
        exact hK _ _ _ _ ih
  refine r_Scene_clearFields (by decide) (fun K Kl hK hC => ?_)
  have := lp 0 (Nat.zero_le _) (mi (b + 1)) lt_0
  rw [cu_id] at this
  exact hK _ _ _ _ this
theorem s_stacksInAll {b : Nat} (hb : b = 70 ∨ b = 86) {sh : Nat → Nat} (hsh : ∀ f, f < 48 → mi (b + 1) f = nI (sh f) ∧ sh f ≤ 511) (hQ : Q (some (.int (nI (stkAll sh)))) (mi, ml, R0 rd, 136)) : Cd (d + 2) k_Scene_stacksInAll [.ref b] (mi, ml, R0 rd, 136) Q := by
  have lp : ∀ j, j ≤ 48 → GoM (d + 1) k_Scene_stacksInAll 136 Q 4 [.ref b, .int (nI (sumN (fun f => bcN (sh f)) j)), .int (nI j)] [] (mi, ml, R0 rd, 136) := by
    refine upto ?_ ?_
    · refine g_Scene_stacksInAll (fun K Kl hK hC => ?_)
      exact ⟨fun _ => ⟨rfl, hQ⟩, fun h => absurd (iNLE h) (by omega)⟩
    · intro j hj ih
      have hs := hsh j hj
      rw [nI1, sumN, ← nI_add] at ih
      refine g_Scene_stacksInAll ?_
      rcases hb with rfl | rfl
      all_goals
        intro K Kl hK hC
        refine ⟨fun h => absurd (iLE h) (by omega), fun _ => ⟨j, by omega, rfl, ?_⟩⟩
        rw [hs.1]
        refine hC _ _ _ _ (s_bitCount (by decide) (by omega) ?_)
        exact hK _ _ _ _ ih
  refine r_Scene_stacksInAll (by decide) (fun K Kl hK hC => ?_)
  exact hK _ _ _ _ (lp 0 (Nat.zero_le _))
theorem s_cutThoseDue {b : Nat} (hb : b = 70 ∨ b = 86) (hT : CT 0 T mi) (hw : wfT T) {sh : Nat → Nat} (hsh : ∀ f, f < 48 → mi (b + 1) f = nI (sh f)) {day : Nat} (hday : mi b 0 = nI day) (hd : day < 10000) (hQ : ∀ g : Nat → Int32, (∀ f, f < 48 → g f = nI (if dueN T day f then 0 else sh f)) → Q none (cu mi (b + 1) g, ml, R0 rd, 136)) : Cd (d + 1) k_Scene_cutThoseDue [.ref b, .ref 6] (mi, ml, R0 rd, 136) Q := by
  have lp : ∀ j, j ≤ 48 → ∀ g : Nat → Int32, (∀ f, f < j → g f = nI (if dueN T day f then 0 else sh f)) → (∀ f, j ≤ f → f < 48 → g f = nI (sh f)) → GoM d k_Scene_cutThoseDue 136 Q 2 [.ref b, .ref 6, .int (nI j)] [] (cu mi (b + 1) g, ml, R0 rd, 136) := by
    refine upto ?_ ?_
    · intro g hg _
      refine g_Scene_cutThoseDue (fun K Kl hK hC => ?_)
      exact ⟨fun _ => ⟨rfl, hQ g hg⟩, fun h => absurd (iNLE h) (by omega)⟩
    · intro j hj ih g hg hg2
      have hc : mi 11 j = if T 4 j = 0 then -1 else nI (T 3 (T 4 j - 1)) := hT.cutOn j hj
      have ih1 : dueN T day j = true → GoM d k_Scene_cutThoseDue 136 Q 2 [.ref b, .ref 6, .int (nI j + nI 1)] [] (cu (cu mi (b + 1) g) (b + 1) (upd (cu mi (b + 1) g (b + 1)) j (nI 0)), ml, R0 rd, 136) := by
        intro hdu
        have ih := ih (upd g j (nI 0)) (fun f hf => by
          by_cases hfj : f = j
          · subst hfj; rw [if_pos hdu]; exact pk_us
          · rw [pk_un hfj]; exact hg f (by omega)) (fun f hf hf2 => by rw [pk_un (by omega)]; exact hg2 f (by omega) hf2)
        rw [nI1, ← cuu] at ih
        exact ih
      have ih0 : dueN T day j = false → GoM d k_Scene_cutThoseDue 136 Q 2 [.ref b, .ref 6, .int (nI j + nI 1)] [] (cu mi (b + 1) g, ml, R0 rd, 136) := by
        intro hdu
        have ih := ih g (lt_s hg (by rw [hdu]; exact hg2 j (Nat.le_refl _) hj)) (fun f hf hf2 => hg2 f (by omega) hf2)
        rw [nI1] at ih
        exact ih
      have no : ¬ mi 11 j = mi b 0 → dueN T day j = false := by
        intro h
        rw [hc, hday] at h
        unfold dueN
        by_cases hz : T 4 j = 0
        · simp [hz]
        · rw [if_neg hz] at h
          simp [hz, iNE h]
      have yes : mi 11 j = mi b 0 → dueN T day j = true := by
        intro h
        rw [hc, hday] at h
        unfold dueN
        by_cases hz : T 4 j = 0
        · rw [if_pos hz] at h
          exact absurd h.symm (fun e => i_neg_ne (x := -1) (by decide) (by omega) e.symm)
        · rw [if_neg hz] at h
          have h2 := cutOf hw hz
          simp [hz, iEQ h]
      refine g_Scene_cutThoseDue ?_
      rcases hb with rfl | rfl
      all_goals
        intro K Kl hK hC
        refine ⟨fun h => absurd (iLE h) (by omega), fun _ => ⟨j, by omega, rfl, ?_⟩⟩
        refine ⟨fun h => hK _ _ _ _ (ih0 (no h)), fun h => ⟨j, by omega, rfl, hK _ _ _ _ (ih1 (yes h))⟩⟩
  refine r_Scene_cutThoseDue (by decide) (fun K Kl hK hC => ?_)
  have := lp 0 (Nat.zero_le _) (mi (b + 1)) lt_0 (fun f _ hf => hsh f hf)
  rw [cu_id] at this
  exact hK _ _ _ _ this
theorem s_cutOwner (hT : CT 0 T mi) (hw : wfT T) {sh : Nat → Nat} (hsh : ∀ f, f < 48 → mi 87 f = nI (sh f)) {o : Nat} (ho : o < T 0 2) (hQ : ∀ g : Nat → Int32, (∀ f, f < 48 → g f = nI (if T 4 f = o + 1 then 0 else sh f)) → Q none (cu mi 87 g, ml, R0 rd, 136)) : Cd (d + 1) k_Scene_cutOwner [.ref 86, .ref 6, .int (nI o)] (mi, ml, R0 rd, 136) Q := by
  have h5 := hw.own5
  have lp : ∀ j, j ≤ 48 → ∀ g : Nat → Int32, (∀ f, f < j → g f = nI (if T 4 f = o + 1 then 0 else sh f)) → (∀ f, j ≤ f → f < 48 → g f = nI (sh f)) → GoM d k_Scene_cutOwner 136 Q 2 [.ref 86, .ref 6, .int (nI o), .int (nI j)] [] (cu mi 87 g, ml, R0 rd, 136) := by
    refine upto ?_ ?_
    · intro g hg _
      refine g_Scene_cutOwner (fun K Kl hK hC => ?_)
      exact ⟨fun _ => ⟨rfl, hQ g hg⟩, fun h => absurd (iNLE h) (by omega)⟩
    · intro j hj ih g hg hg2
      have hc : mi 10 j = nI (T 4 j) - 1 := hT.own j hj
      have h4 := hw.ow j
      refine g_Scene_cutOwner (fun K Kl hK hC => ?_)
      refine ⟨fun h => absurd (iLE h) (by omega), fun _ => ⟨j, by omega, rfl, ?_⟩⟩
      rw [show cu mi 87 g 10 = mi 10 from rfl, hc]
      have key : nI (T 4 j) - 1 = nI o ↔ T 4 j = o + 1 := by
        constructor
        · intro h
          rcases Nat.eq_zero_or_pos (T 4 j) with z | z
          · rw [z] at h
            exact absurd h (i_neg_ne (x := nI 0 - 1) (by decide) (by omega))
          · obtain ⟨q, hq⟩ : ∃ q, T 4 j = q + 1 := ⟨T 4 j - 1, by omega⟩
            rw [hq, nI_pred] at h
            have := iEQ h
            omega
        · intro h
          rw [h, nI_pred]
      refine ⟨fun h => ?_, fun h => ⟨j, by omega, rfl, ?_⟩⟩
      · have hn : ¬ T 4 j = o + 1 := fun e => h (key.mpr e)
        have ih := ih g (lt_s hg (by rw [if_neg hn]; exact hg2 j (Nat.le_refl _) hj)) (fun f hf hf2 => hg2 f (by omega) hf2)
        rw [nI1] at ih
        exact hK _ _ _ _ ih
      · have hn := key.mp h
        have ih := ih (upd g j (nI 0)) (fun f hf => by
          by_cases hfj : f = j
          · subst hfj; rw [if_pos hn]; exact pk_us
          · rw [pk_un hfj]; exact hg f (by omega)) (fun f hf hf2 => by rw [pk_un (by omega)]; exact hg2 f (by omega) hf2)
        rw [nI1, ← cuu] at ih
        exact hK _ _ _ _ ih
  refine r_Scene_cutOwner (by decide) (fun K Kl hK hC => ?_)
  have := lp 0 (Nat.zero_le _) (mi 87) lt_0 (fun f _ hf => hsh f hf)
  rw [cu_id] at this
  exact hK _ _ _ _ this
theorem s_daysLeft (hT : CT 0 T mi) (hw : wfT T) {f day : Nat} (hf : f < 48) (hd : day < 10000) (hQ : Q (some (.int (nI (leftN T f day)))) (mi, ml, R0 rd, 136)) : Cd (d + 1) k_Told_daysLeft [.ref 6, .int (nI f), .int (nI day)] (mi, ml, R0 rd, 136) Q := by
  have hc : mi 11 f = if T 4 f = 0 then -1 else nI (T 3 (T 4 f - 1)) := hT.cutOn f hf
  refine r_Told_daysLeft (by decide) (fun K Kl hK hC => ⟨f, hf, rfl, ?_⟩)
  rw [hc]
  by_cases hz : T 4 f = 0
  · rw [if_pos hz]
    unfold leftN at hQ
    rw [if_pos hz] at hQ
    exact ⟨fun h => absurd h (by decide), fun _ => ⟨rfl, hQ⟩⟩
  · rw [if_neg hz]
    have h2 := cutOf hw hz
    unfold leftN at hQ
    rw [if_neg hz] at hQ
    rw [if_neg hz] at hc
    refine ⟨fun _ => ⟨f, hf, rfl, ?_⟩, fun h => absurd (nI_pos' (by omega)) h⟩
    rw [hc]
    refine ⟨fun h => ⟨rfl, ?_⟩, fun h => ⟨f, hf, rfl, rfl, ?_⟩⟩
    · have := iLE h
      rw [show T 3 (T 4 f - 1) - day = 0 by omega] at hQ
      exact hQ
    · have := iNLE h
      rw [hc, pk_sub (by omega)]
      exact hQ
theorem s_isVowel (hT : CT 0 T mi) (hw : wfT T) {s : Nat} (hs : s ≤ 511) (h1 : vowN T s = true → Q (some (.int (nI 1))) (mi, ml, R0 rd, 136)) (h0 : vowN T s = false → Q (some (.int (nI 0))) (mi, ml, R0 rd, 136)) : Cd (d + 1) k_Script_isVowel [.ref 13, .int (nI s)] (mi, ml, R0 rd, 136) Q := by
  have so : ∀ c, c < 32 → mi 16 c = nI (shpN T c) := hT.so
  have le := shpN_le hw
  have l1 := le 1; have l5 := le 5; have l9 := le 9; have l15 := le 15; have l21 := le 21
  refine r_Script_isVowel (by decide) (fun K Kl hK hC => ?_)
  refine ⟨fun h => ⟨Or.inl rfl, rfl, h0 (by unfold vowN; simp [iZ h])⟩, fun h => ⟨1, by omega, rfl, ?_⟩⟩
  have hz := iNZ h
  rw [so 1 (by omega)]
  refine ⟨fun h => ⟨Or.inr rfl, rfl, h1 (by have := iEQ h; unfold vowN; simp [hz, ← this])⟩, fun h => ⟨5, by omega, rfl, ?_⟩⟩
  have z1 := iNE h
  rw [so 5 (by omega)]
  refine ⟨fun h => ⟨Or.inr rfl, rfl, h1 (by have := iEQ h; unfold vowN; simp [hz, ← this])⟩, fun h => ⟨9, by omega, rfl, ?_⟩⟩
  have z5 := iNE h
  rw [so 9 (by omega)]
  refine ⟨fun h => ⟨Or.inr rfl, rfl, h1 (by have := iEQ h; unfold vowN; simp [hz, ← this])⟩, fun h => ⟨15, by omega, rfl, ?_⟩⟩
  have z9 := iNE h
  rw [so 15 (by omega)]
  refine ⟨fun h => ⟨Or.inr rfl, rfl, h1 (by have := iEQ h; unfold vowN; simp [hz, ← this])⟩, fun h => ⟨21, by omega, rfl, ?_⟩⟩
  have z15 := iNE h
  rw [so 21 (by omega)]
  refine ⟨fun h => ⟨Or.inl rfl, rfl, h0 (by have z21 := iNE h; unfold vowN; simp [hz, z1, z5, z9, z15, z21])⟩, fun h => ⟨Or.inr rfl, rfl, h1 (by have := iEQ h; unfold vowN; simp [hz, ← this])⟩⟩
end
