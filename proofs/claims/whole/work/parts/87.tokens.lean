/-! TOKENS: numbers, words, signs -/
section
variable {d : Nat} {Q : Option Value → Mm → Prop} {mi : Nat → Nat → Int32} {ml : Nat → Nat → Int64} {rd : Option Nat} {b : Nat → Nat} {n : Nat}
theorem nuV_le {i a : Nat} (ha : a ≤ 1000000) : ∀ f, nuF b n f i a ≤ 1000000 := by
  intro f
  induction f generalizing i a with
  | zero => exact ha
  | succ f ih =>
    unfold nuF
    split
    · exact ih (Nat.min_le_left _ _)
    · exact ha
theorem dg_bd {c : Nat} (h : isDg c = true) : 48 ≤ c ∧ c ≤ 57 := by
  unfold isDg at h
  rw [Bool.and_eq_true, decide_eq_true_eq, decide_eq_true_eq] at h
  exact h
theorem lt_bd {c : Nat} (h : isLt c = true) : 97 ≤ c ∧ c ≤ 122 := by
  unfold isLt at h
  rw [Bool.and_eq_true, decide_eq_true_eq, decide_eq_true_eq] at h
  exact h
set_option maxHeartbeats 1000000 in
theorem s_takeNumber {i t : Nat} (hM : TM b n i mi) (hi : i ≤ n) (ht : t < 701) (hQ : Q none (cu (cu (cu mi 2 (upd (mi 2) 5 (nI (runE isDg b n i)))) 3 (upd (mi 3) t (nI 1))) 4 (upd (mi 4) t (nI (nuV b n i 0))), ml, R0 rd, 136)) : Cd (d + 2) k_Tokens_takeNumber [.ref 2, .int (nI t)] (mi, ml, R0 rd, 136) Q := by
  obtain ⟨hb, h700, e4, e5⟩ := hM
  have lp : ∀ i, i ≤ n → ∀ a, a ≤ 1000000 → Q none (cu (cu (cu mi 2 (upd (mi 2) 5 (nI (runE isDg b n i)))) 3 (upd (mi 3) t (nI 1))) 4 (upd (mi 4) t (nI (nuV b n i a))), ml, R0 rd, 136) → GoM (d + 1) k_Tokens_takeNumber 136 Q 2 [.ref 2, .int (nI t), .int (nI a)] [] (cu mi 2 (upd (mi 2) 5 (nI i)), ml, R0 rd, 136) := by
    refine upto ?_ ?_
    · intro a ha hQ
      rw [runE_0 (fun z => absurd z.1 (by omega)), nuV_0 (fun z => absurd z.1 (by omega))] at hQ
      refine g_Tokens_takeNumber (fun K Kl hK hC => ⟨fun _ => ⟨t, ht, rfl, t, ht, rfl, rfl, hQ⟩, fun h => ?_⟩)
      have h : ¬ mi 2 4 ≤ nI n := h
      rw [e4] at h
      exact absurd (iNLE h) (by omega)
    · intro i hi ih a ha hQ
      have hbi := hb i hi
      refine g_Tokens_takeNumber (fun K Kl hK hC => ⟨fun h => ?_, fun _ => ⟨i, by omega, rfl, ?_⟩⟩)
      · have h : mi 2 4 ≤ nI i := h
        rw [e4] at h
        exact absurd (iLE h) (by omega)
      rw [show cu mi 2 (upd (mi 2) 5 (nI i)) 1 = mi 1 from rfl, hbi.1]
      refine hC _ _ _ _ (s_isDigit hbi.2 (fun hd => ⟨fun z => absurd z (by decide), fun _ => ⟨i, by omega, rfl, ?_⟩⟩) (fun hd => ⟨fun _ => ⟨t, ht, rfl, t, ht, rfl, rfl, ?_⟩, fun z => absurd (by decide) z⟩))
      · have hdb := dg_bd hd
        rw [show cu mi 2 (upd (mi 2) 5 (nI i)) 1 = mi 1 from rfl, hbi.1]
        have ev : nI a * nI 10 + nI (b i) - nI 48 = nI (a * 10 + b i - 48) := by rw [pk_mul, nI_add, pk_sub (by omega)]
        refine hC _ _ _ _ (s_min2 (by decide) rfl ev (by omega) (by omega) ?_)
        rw [runE_s hi hd, nuV_s hi hd] at hQ
        have ih := ih _ (Nat.min_le_left _ _) hQ
        rw [nI1 i, ← atS mi (nI i)] at ih
        exact hK _ _ _ _ ih
      · rw [runE_0 (fun z => by rw [hd] at z; cases z.2), nuV_0 (fun z => by rw [hd] at z; cases z.2)] at hQ
        exact hQ
  refine r_Tokens_takeNumber (by decide) (fun K Kl hK hC => ?_)
  have := lp i hi 0 (by omega) hQ
  rw [upd_id (mi 2) 5 e5, cu_id] at this
  exact hK _ _ _ _ this
theorem orW {a c k : Nat} (hc : c < 32) (ha : a % 2 ^ (k + 5) = 0) : a ||| (c * 2 ^ k) = a + c * 2 ^ k := by
  have h1 : a = 2 ^ (k + 5) * (a / 2 ^ (k + 5)) := by
    have := Nat.div_add_mod a (2 ^ (k + 5))
    omega
  have h2 : c * 2 ^ k < 2 ^ (k + 5) := by
    rw [Nat.pow_add, Nat.mul_comm]
    exact Nat.mul_lt_mul_of_pos_left (by omega) (Nat.two_pow_pos k)
  have h3 := Nat.two_pow_add_eq_or_of_lt h2 (a / 2 ^ (k + 5))
  rw [← h1] at h3
  exact h3.symm
theorem shW : ∀ l, l < 6 → (((nI 5 * (nI 5 - nI l)) &&& 31).toBitVec.smod 32).toNat = 25 - 5 * l := by decide +kernel
theorem pw32 : ∀ l, l < 6 → 32 ^ (5 - l) = 2 ^ (25 - 5 * l) := by decide +kernel
theorem wdOr {a c l : Nat} (hl : l < 6) (hc : c < 32) (ha : a % 32 ^ (6 - l) = 0) : nI a ||| (nI c <<< ((nI 5 * (nI 5 - nI l)) &&& 31)) = nI (a + c * 32 ^ (5 - l)) := by
  have hp := pw32 l hl
  have hp2 : 2 ^ (25 - 5 * l) ≤ 2 ^ 25 := Nat.pow_le_pow_right (by omega) (by omega)
  have hm : c * 2 ^ (25 - 5 * l) < 2 ^ 32 := by
    calc c * 2 ^ (25 - 5 * l) ≤ 31 * 2 ^ 25 := Nat.mul_le_mul (by omega) hp2
      _ < 2 ^ 32 := by decide
  rw [pk_shlN _ _ (shW l hl) hm, nI_or, hp, orW hc]
  have : (32 : Nat) ^ (6 - l) = 2 ^ (25 - 5 * l + 5) := by
    have : ∀ l, l < 6 → (32 : Nat) ^ (6 - l) = 2 ^ (25 - 5 * l + 5) := by decide +kernel
    exact this l hl
  rw [← this]
  exact ha
/-- as far as l letters: a multiple, below 2 ^ 30 -/
def wdI (l a : Nat) : Prop := (l ≤ 6 → a % 32 ^ (6 - l) = 0) ∧ a < 2 ^ 30 ∧ (l ≤ 6 → a ≤ 2 ^ 30 - 32 ^ (6 - l))
theorem wdI_0 : wdI 0 0 := ⟨fun _ => rfl, by decide, fun _ => by decide⟩
theorem wdI_s {l a c : Nat} (h : wdI l a) (hc : 1 ≤ c ∧ c ≤ 26) : wdI (l + 1) (if l < 6 then a + c * 32 ^ (5 - l) else a) := by
  obtain ⟨h1, h2, h3⟩ := h
  by_cases hl : l < 6
  · rw [if_pos hl]
    have e1 := h1 (by omega)
    have e3 := h3 (by omega)
    have : l = 0 ∨ l = 1 ∨ l = 2 ∨ l = 3 ∨ l = 4 ∨ l = 5 := by omega
    unfold wdI
    rcases this with rfl | rfl | rfl | rfl | rfl | rfl
    all_goals
      simp only [Nat.reduceSub, Nat.reduceAdd, Nat.reducePow] at e1 e3 ⊢
      omega
  · rw [if_neg hl]
    exact ⟨fun z => absurd z (by omega), h2, fun z => absurd z (by omega)⟩
theorem s_isLanguageWord {name w : Nat} (hn : name < 2 ^ 30) (hw : w < 26) (hd : 4 ≤ d) (h1 : isKw name w = true → Q (some (.int (nI 1))) (mi, ml, R0 rd, 136)) (h0 : isKw name w = false → Q (some (.int (nI 0))) (mi, ml, R0 rd, 136)) : Cd (d + 2) k_Tokens_isLanguageWord [.int (nI name), .int (nI w)] (mi, ml, R0 rd, 136) Q := by
  have lc : ∀ j, j < 156 → lch j < 128 ∧ (lch j ≠ 32 → 97 ≤ lch j) := by decide +kernel
  have lp : ∀ j, j ≤ 6 → (∀ k, k < j → letN name k = lcl (w * 6 + k)) → ∀ v3, GoM (d + 1) k_Tokens_isLanguageWord 136 Q 2 [.int (nI name), .int (nI w), .int (nI j), v3] [] (mi, ml, R0 rd, 136) := by
    refine upto ?_ ?_
    · intro hall v3
      refine g_Tokens_isLanguageWord (fun K Kl hK hC => ⟨fun _ => ⟨Or.inr rfl, rfl, h1 ?_⟩, fun h => absurd (iNLE h) (by omega)⟩)
      exact allN_iff.mpr (fun k hk => by rw [hall k hk]; exact beq_self_eq_true _)
    · intro j hj ih hall v3
      have hl := lc (w * 6 + j) (by omega)
      have hlt := letN_lt name j
      have ei : nI w * nI 6 + nI j = nI (w * 6 + j) := by rw [pk_mul, nI_add]
      have go1 : letN name j = lcl (w * 6 + j) → ∀ v3, GoM (d + 1) k_Tokens_isLanguageWord 136 Q 2 [.int (nI name), .int (nI w), .int (nI j + nI 1), v3] [] (mi, ml, R0 rd, 136) := by
        intro he v3
        have := ih (lt_s hall he) v3
        rw [nI1 j] at this
        exact this
      have no1 : letN name j ≠ lcl (w * 6 + j) → Q (some (.int (nI 0))) (mi, ml, R0 rd, 136) := fun he => h0 (allN_not hj (by simp [he]))
      have call : ∀ P : Option Value → Mm → Prop, P (some (.int (nI (lch (w * 6 + j))))) (mi, ml, R0 rd, 136) → Cd (d + 1) 1005 [.ref 900, .int (nI w * nI 6 + nI j)] (mi, ml, R0 rd, 136) P := by
        intro P hP
        rw [ei]
        exact Or.inr ⟨by omega, Or.inr ⟨rfl, w * 6 + j, by omega, rfl, hP⟩⟩
      refine g_Tokens_isLanguageWord (fun K Kl hK hC => ⟨fun h => absurd (iLE h) (by omega), fun _ => ?_⟩)
      refine hC _ _ _ _ (call _ ?_)
      refine hC _ _ _ _ (s_letterAt hj hn ?_)
      refine ⟨fun h => ?_, fun h => ?_⟩
      · have h := iNE h
        have hl2 := hl.2 h
        have ec : nI (lch (w * 6 + j)) - nI 97 + nI 1 = nI (lcl (w * 6 + j)) := by
          rw [pk_sub (by omega), nI_add]
          unfold lcl
          rw [if_neg h, show lch (w * 6 + j) - 97 + 1 = lch (w * 6 + j) - 96 by omega]
        have hcl : lcl (w * 6 + j) < 256 := by unfold lcl; split <;> omega
        refine ⟨fun h2 => hK _ _ _ _ (go1 ?_ _), fun h2 => ⟨Or.inl rfl, rfl, no1 ?_⟩⟩
        · have h2 : nI (letN name j) = nI (lch (w * 6 + j)) - nI 97 + nI 1 := h2
          rw [ec] at h2
          exact iEQ h2
        · have h2 : ¬ nI (letN name j) = nI (lch (w * 6 + j)) - nI 97 + nI 1 := h2
          rw [ec] at h2
          exact iNE h2
      · have h := iEQ h
        have ec : lcl (w * 6 + j) = 0 := if_pos h
        refine ⟨fun h2 => hK _ _ _ _ (go1 ?_ _), fun h2 => ⟨Or.inl rfl, rfl, no1 ?_⟩⟩
        · rw [ec]; exact iEQ h2
        · rw [ec]; exact iNE h2
  refine r_Tokens_isLanguageWord (by decide) (fun K Kl hK hC => ?_)
  exact hK _ _ _ _ (lp 0 (Nat.zero_le _) lt_0 .null)
theorem s_kindOfWord {name : Nat} (hn : name < 2 ^ 30) (hd : 4 ≤ d) (hQ : Q (some (.int (nI (kwK name)))) (mi, ml, R0 rd, 136)) : Cd (d + 3) k_Tokens_kindOfWord [.int (nI name)] (mi, ml, R0 rd, 136) Q := by
  have cl : ∀ P : Option Value → Mm → Prop, P (some (.int (nI 156))) (mi, ml, R0 rd, 136) → Cd (d + 2) 1004 [.ref 900] (mi, ml, R0 rd, 136) P := fun P hP => Or.inr ⟨by omega, Or.inl ⟨rfl, rfl, hP⟩⟩
  have e26 : nI 156 / nI 6 = nI 26 := by decide
  have lp : ∀ w, w ≤ 26 → (∀ v, v < w → isKw name v = false) → GoM (d + 2) k_Tokens_kindOfWord 136 Q 2 [.int (nI name), .int (nI w)] [] (mi, ml, R0 rd, 136) := by
    refine upto ?_ ?_
    · intro hall
      refine g_Tokens_kindOfWord (fun K Kl hK hC => ?_)
      refine hC _ _ _ _ (cl _ ⟨by decide, ?_⟩)
      rw [e26]
      refine ⟨fun _ => ⟨rfl, ?_⟩, fun h => absurd (iNLE h) (by omega)⟩
      unfold kwK at hQ
      rw [fnd_none hall, if_neg (by omega)] at hQ
      exact hQ
    · intro w hw ih hall
      refine g_Tokens_kindOfWord (fun K Kl hK hC => ?_)
      refine hC _ _ _ _ (cl _ ⟨by decide, ?_⟩)
      rw [e26]
      refine ⟨fun h => absurd (iLE h) (by omega), fun _ => ?_⟩
      refine hC _ _ _ _ (s_isLanguageWord hn hw hd (fun hk => ⟨fun z => absurd z (by decide), fun _ => ⟨rfl, ?_⟩⟩) (fun hk => ⟨fun _ => ?_, fun z => absurd (by decide) z⟩))
      · unfold kwK at hQ
        rw [fnd_at hw hk hall, if_pos hw, ← nI_add] at hQ
        exact hQ
      · have ih := ih (lt_s hall hk)
        rw [nI1 w] at ih
        exact hK _ _ _ _ ih
  refine r_Tokens_kindOfWord (by decide) (fun K Kl hK hC => ?_)
  exact hK _ _ _ _ (lp 0 (Nat.zero_le _) lt_0)
end
