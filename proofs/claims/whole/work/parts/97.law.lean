/-! THE LAW READ: a step, all of it (the class) -/
abbrev LSt : Type := (Nat → Nat → Nat) × Nat × Nat × Bool × List Nat
def pVal (k v p : Nat → Nat) (T : Nat → Nat → Nat) (c o : Nat) (W : List Nat) (j : Nat) : Except (Nat × Nat) LSt :=
  if k j = 5 then (if 8 ≤ o then .error (2, p j) else .ok (T, c, o + 1, true, 5 :: W))
  else if k j = 39 then (if 3 < rkN (W.headD 0) then .error (1, p j) else if 64 ≤ c then .error (2, p j) else .ok (T, c + 1, o, true, 39 :: W))
  else if k j ≠ 1 ∧ (k j < 40 ∨ 45 < k j) then .error (1, p j)
  else if k j = 1 ∧ 9999 < v j then .error (2, p j)
  else if 64 ≤ c then .error (2, p j)
  else .ok (if k j = 1 then aKn T 0 (v j) else aKn T 1 (k j - 40), c + 1, o, false, W)
def pSgn (k v p : Nat → Nat) (T : Nat → Nat → Nat) (c o : Nat) (W : List Nat) (j : Nat) : Except (Nat × Nat) LSt :=
  if k j = 6 ∧ o ≠ 0 then .ok ((stlN 1 W T).2, c, o - 1, false, (stlN 1 W T).1.tail)
  else if rkN (k j) = 0 ∨ rkN (k j) = 3 then .error (1, p j)
  else if rkN (k j) = 4 ∧ rkN ((stlN 5 W T).1.headD 0) = 4 then .error (1, p j)
  else if 64 ≤ c then .error (2, p j)
  else .ok ((stlN (if rkN (k j) = 4 then 5 else rkN (k j)) W T).2, c + 1, o, true, k j :: (stlN (if rkN (k j) = 4 then 5 else rkN (k j)) W T).1)
theorem pLaw_t (k v p : Nat → Nat) (f : Nat) (T : Nat → Nat → Nat) (c o : Nat) (W : List Nat) (j : Nat) : pLaw k v p (f + 1) T c o true W j = match pVal k v p T c o W j with
    | .error e => .error e
    | .ok (T', c', o', q', W') => pLaw k v p f T' c' o' q' W' (j + 1) := by
  unfold pVal
  rw [pLaw]
  split
  · split <;> rfl
  · split
    · split
      · rfl
      · split <;> rfl
    · split
      · rfl
      · split
        · rfl
        · split <;> rfl
theorem pLaw_f (k v p : Nat → Nat) (f : Nat) (T : Nat → Nat → Nat) (c o : Nat) (W : List Nat) (j : Nat) : pLaw k v p (f + 1) T c o false W j = if o = 0 ∧ k j = 4 then .ok ((stlN 1 W T).2, j) else match pSgn k v p T c o W j with
    | .error e => .error e
    | .ok (T', c', o', q', W') => pLaw k v p f T' c' o' q' W' (j + 1) := by
  unfold pSgn
  rw [pLaw]
  split
  · rfl
  · split
    · rfl
    · split
      · rfl
      · split
        · rfl
        · split <;> rfl
theorem LI_val {k v p : Nat → Nat} {T : Nat → Nat → Nat} {c o : Nat} {W : List Nat} {j : Nat} (h : LI T c o true W) {T' : Nat → Nat → Nat} {c' o' : Nat} {q' : Bool} {W' : List Nat} (he : pVal k v p T c o W j = .ok (T', c', o', q', W')) : LI T' c' o' q' W' := by
  obtain ⟨h1, h2, h3, h4, h5, h6, h7⟩ := h
  have h6 : dpN T (T 0 9) = binN W + 0 := h6
  unfold pVal at he
  split at he
  · split at he
    · cases he
    · cases he
      refine ⟨fun a ha => ?_, ?_, by omega, ?_, h5, ?_, h7⟩
      · rcases List.mem_cons.mp ha with e | e
        · exact Or.inl e
        · exact h1 a e
      · show (if 5 = 5 then 1 else 0) + opnN W = o + 1
        rw [if_pos rfl]; omega
      · show T 0 9 + (0 + opsN W) = c
        omega
      · show dpN T (T 0 9) = (0 + binN W) + 0
        omega
  · split at he
    · split at he
      · cases he
      · split at he
        · cases he
        · cases he
          refine ⟨fun a ha => ?_, ?_, h3, ?_, by omega, ?_, h7⟩
          · rcases List.mem_cons.mp ha with e | e
            · rw [e]; exact Or.inr (by decide)
            · exact h1 a e
          · show 0 + opnN W = o
            omega
          · show T 0 9 + (1 + opsN W) = c + 1
            omega
          · show dpN T (T 0 9) = (0 + binN W) + 0
            omega
    · split at he
      · cases he
      · rename_i hn1
        split at he
        · cases he
        · rename_i hn2
          split at he
          · cases he
          · cases he
            by_cases e1 : k j = 1
            · rw [if_pos e1]
              refine ⟨h1, h2, h3, ?_, by omega, ?_, kn_ok h7 (by omega) (fun _ => by omega) (by omega) (by omega) (by omega)⟩
              · show T 0 9 + 1 + opsN W = c + 1
                omega
              · show dpN (aKn T 0 (v j)) (T 0 9 + 1) = binN W + 1
                rw [kn_dps, if_pos (by omega)]; omega
            · rw [if_neg e1]
              refine ⟨h1, h2, h3, ?_, by omega, ?_, kn_ok h7 (by omega) (by omega) (fun _ => by omega) (by omega) (by omega)⟩
              · show T 0 9 + 1 + opsN W = c + 1
                omega
              · show dpN (aKn T 1 (k j - 40)) (T 0 9 + 1) = binN W + 1
                rw [kn_dps, if_pos (by omega)]; omega
theorem rk_in {a : Nat} (ha : a ≤ 45) (h0 : rkN a ≠ 0) (h3 : rkN a ≠ 3) : a ≠ 5 ∧ a ≠ 39 ∧ a ≤ 39 ∧ 1 ≤ rkN a ∧ 1 ≤ (if rkN a = 4 then 5 else rkN a) := by
  have : ∀ a, a ≤ 45 → rkN a ≠ 0 → rkN a ≠ 3 → a ≠ 5 ∧ a ≠ 39 ∧ a ≤ 39 ∧ 1 ≤ rkN a ∧ 1 ≤ (if rkN a = 4 then 5 else rkN a) := by decide +kernel
  exact this a ha h0 h3
/-- behind a bracket's end the bracket itself is on top -/
theorem stl_br {T : Nat → Nat → Nat} {c o : Nat} {W : List Nat} (h : LI T c o false W) (ho : o ≠ 0) : ∃ W', (stlN 1 W T).1 = 5 :: W' := by
  have h2 := h.settle (r := 1) (by omega)
  obtain ⟨a1, a2, _⟩ := h2
  cases hW : (stlN 1 W T).1 with
  | nil =>
    rw [hW] at a2
    exact absurd a2.symm ho
  | cons a W' =>
    have ht := stl_top a W' hW
    rw [hW] at a1
    rcases a1 a List.mem_cons_self with e | e
    · exact ⟨W', by rw [e]⟩
    · omega
theorem LI_sgn {k v p : Nat → Nat} {T : Nat → Nat → Nat} {c o : Nat} {W : List Nat} {j : Nat} (h : LI T c o false W) (hk : k j ≤ 45) {T' : Nat → Nat → Nat} {c' o' : Nat} {q' : Bool} {W' : List Nat} (he : pSgn k v p T c o W j = .ok (T', c', o', q', W')) : LI T' c' o' q' W' := by
  unfold pSgn at he
  split at he
  · rename_i hc
    obtain ⟨W1, hW1⟩ := stl_br h hc.2
    cases he
    obtain ⟨h1, h2, h3, h4, h5, h6, h7⟩ := h.settle (r := 1) (by omega)
    rw [hW1] at h1 h2 h4 h6 ⊢
    have h2 : (1 + opnN W1) = o := h2
    have h4 : (stlN 1 W T).2 0 9 + (0 + opsN W1) = c := h4
    have h6 : dpN (stlN 1 W T).2 ((stlN 1 W T).2 0 9) = (0 + binN W1) + 1 := h6
    exact ⟨fun a ha => h1 a (List.mem_cons_of_mem _ ha), show opnN W1 = o - 1 by omega, by omega, show _ + opsN W1 = c by omega, h5, show _ = binN W1 + 1 by omega, h7⟩
  · split at he
    · cases he
    · rename_i hr
      split at he
      · cases he
      · split at he
        · cases he
        · cases he
          have hin := rk_in hk (fun z => hr (Or.inl z)) (fun z => hr (Or.inr z))
          obtain ⟨h1, h2, h3, h4, h5, h6, h7⟩ := h.settle hin.2.2.2.2
          refine ⟨fun a ha => ?_, ?_, h3, ?_, by omega, ?_, h7⟩
          · rcases List.mem_cons.mp ha with e | e
            · rw [e]; exact Or.inr ⟨hin.2.2.2.1, hin.2.2.1⟩
            · exact h1 a e
          · show (if k j = 5 then 1 else 0) + opnN _ = o
            rw [if_neg hin.1]; omega
          · show _ + ((if k j = 5 then 0 else 1) + opsN _) = c + 1
            rw [if_neg hin.1]; omega
          · show _ = ((if k j = 5 ∨ k j = 39 then 0 else 1) + binN _) + 0
            rw [if_neg (show ¬ (k j = 5 ∨ k j = 39) from fun z => z.elim hin.1 hin.2.1)]
            have h6 : _ = binN _ + 1 := h6
            omega
theorem CX.f2 {o l : Nat} {T : Nat → Nat → Nat} {mi mi' : Nat → Nat → Int32} {ml : Nat → Nat → Int64} (ho : o = 0 ∨ o = 31) (h : CX o T l mi ml) (hf : Fr [68, 69] mi mi') : CX o T l mi' ml := by
  have e : ∀ c, c < 68 → mi' c = mi c := fun c hc => hf c (nin_not (fun hm => by simp at hm; omega))
  refine ⟨h.1.keep (fun c h1 h2 => e c (by rcases ho with rfl | rfl <;> omega)), ?_, ?_, h.2.2.2⟩
  · rw [e _ (by rcases ho with rfl | rfl <;> omega)]; exact h.2.1
  · rw [e _ (by rcases ho with rfl | rfl <;> omega)]; exact h.2.2.1
theorem Fr.rf2 {α : Type} {o : Nat} {m m' : Nat → α} (h : Fr [68, 69] m m') : RF o m m' := fun c _ h2 h3 => h c (nin_not (fun hm => by simp at hm; omega))
section
variable {d : Nat} {Q : Option Value → Mm → Prop} {k v p : Nat → Nat} {m j c op : Nat} {q : Bool} {mi0 : Nat → Nat → Int32} {ml : Nat → Nat → Int64} {o l : Nat}
set_option maxHeartbeats 1000000 in
theorem s_settle (ho : o = 0 ∨ o = 31) {r : Nat} (hr : 1 ≤ r) (hr2 : r ≤ 6) : ∀ (W : List Nat) (T : Nat → Nat → Nat) (mi : Nat → Nat → Int32), CX o T l mi ml → LZ j c op false W mi0 mi → LI T c op false W → (∀ mi', RF o mi mi' → CX o (stlN r W T).2 l mi' ml → LZ j c op false (stlN r W T).1 mi0 mi' → Q none (mi', ml, R0 (some (6 + o)), 136)) → GoM (d + 1) k_Reader_settle 136 Q 0 [.ref 68, .int (nI r)] [] (mi, ml, R0 (some (6 + o)), 136) := by
  intro W
  induction W with
  | nil =>
    intro T mi hX hL hI hQ
    have hq := hQ mi RF.none hX hL
    have e9 : mi 68 9 = nI 0 := hL.2.2.2.2.1
    refine g_Reader_settle ?_
    rcases ho with rfl | rfl
    all_goals
      intro K Kl hK hC
      refine ⟨fun _ => ⟨rfl, hq⟩, fun z => ?_⟩
      have z : ¬ mi 68 9 ≤ 0 := z
      rw [e9] at z
      exact absurd (by decide) z
  | cons a W ih =>
    intro T mi hX hL hI hQ
    have e9 : mi 68 9 = nI (W.length + 1) := hL.2.2.2.2.1
    have ea : mi 69 W.length = nI a := hL.2.2.2.2.2.1
    have hlen := len_W (a :: W)
    obtain ⟨i1, i2, i3, i4, i5, _⟩ := hI
    have hl72 : W.length < 72 := by
      have : (a :: W).length = W.length + 1 := rfl
      omega
    have ha : a ≤ 39 := (i1 a List.mem_cons_self).elim (fun e => by omega) (fun e => e.2)
    have e91 : mi 68 9 - nI 1 = nI W.length := by rw [e9]; exact nI_pred _
    have hrk : rkN a ≤ 6 := by
      have : ∀ a, a ≤ 39 → rkN a ≤ 6 := by decide +kernel
      exact this a ha
    refine g_Reader_settle ?_
    have ho2 := ho
    rcases ho with rfl | rfl
    all_goals
      intro K Kl hK hC
      refine ⟨fun z => ?_, fun _ => ⟨W.length, hl72, e91, ?_⟩⟩
      · have z : mi 68 9 ≤ 0 := z
        rw [e9] at z
        exact absurd z (nI_nle (by omega) (by omega))
      refine hC _ _ _ _ (s_rankOf ea (by omega) ⟨fun z => ⟨rfl, ?_⟩, fun z => ⟨W.length, hl72, e91, ?_⟩⟩)
      · have z := iLT z
        have e : stlN r (a :: W) T = (a :: W, T) := if_neg (by omega)
        rw [e] at hQ
        exact hQ mi RF.none hX hL
      · have z := iNLT z
        have e : stlN r (a :: W) T = stlN r W (aKn T (kpN a) 0) := if_pos (by omega)
        rw [e] at hQ
        have hpop := LI.pop ⟨i1, i2, i3, i4, i5, by assumption⟩ (show 1 ≤ rkN a by omega)
        have hk := kp_kc a ha (by omega)
        have hX1 : CX _ T l (cu mi 68 (upd (mi 68) 9 (mi 68 9 - nI 1))) ml := hX.f68 ho2 (Fr.cu Fr.none rfl)
        refine hC _ _ _ _ (s_lawAdd ho2 hX1 hpop.2 (kd := kpN a) (x := 0) (by rw [hk.1]; exact ea) (fun z => absurd z (by omega)) (fun m2 g1 g68 g69 hX2 => ?_))
        refine hK _ _ _ _ (ih _ m2 hX2 ⟨⟨?_, ?_, ?_⟩, ?_, ?_, ?_, ?_, ?_⟩ hpop.1 (fun m3 f3 => hQ m3 (((Fr.rf (Fr.cu Fr.none rfl)).trans g1).trans f3)))
        · rw [g68]; exact hL.1.1
        · rw [g68]; exact hL.1.2.1
        · rw [g68]; exact hL.1.2.2
        · rw [g68]; exact hL.2.1
        · rw [g68]; exact hL.2.2.1
        · rw [g68]; exact hL.2.2.2.1
        · rw [g68]; exact e91
        · rw [g69]; exact hL.2.2.2.2.2.2
end
