/-! TOKENS: a word, a sign, a token, all -/
section
variable {d : Nat} {Q : Option Value → Mm → Prop} {mi : Nat → Nat → Int32} {ml : Nat → Nat → Int64} {rd : Option Nat} {b : Nat → Nat} {n : Nat}
theorem wdV_lt : ∀ f i l a, wdI l a → wdF b n f i l a < 2 ^ 30 := by
  intro f
  induction f with
  | zero => intro i l a h; exact h.2.1
  | succ f ih =>
    intro i l a h
    unfold wdF
    split
    · rename_i hc
      have := lt_bd hc.2
      exact ih _ _ _ (wdI_s h (by omega))
    · exact h.2.1
set_option maxHeartbeats 1000000 in
theorem s_takeWord {i0 t : Nat} (hM : TM b n i0 mi) (hi0 : i0 ≤ n) (ht : t < 701) (hd : 4 ≤ d) (hQ : Q none (cu (cu (cu mi 2 (upd (mi 2) 5 (nI (runE isLt b n i0)))) 4 (upd (mi 4) t (nI (wdV b n i0 0 0)))) 3 (upd (mi 3) t (nI (if 6 < runE isLt b n i0 - i0 then 3 else kwK (wdV b n i0 0 0)))), ml, R0 rd, 136)) : Cd (d + 4) k_Tokens_takeWord [.ref 2, .int (nI t)] (mi, ml, R0 rd, 136) Q := by
  obtain ⟨hb, h700, e4, e5⟩ := hM
  have lp : ∀ i, i ≤ n → i0 ≤ i → ∀ a, wdI (i - i0) a → Q none (cu (cu (cu mi 2 (upd (mi 2) 5 (nI (runE isLt b n i)))) 4 (upd (mi 4) t (nI (wdV b n i (i - i0) a)))) 3 (upd (mi 3) t (nI (if 6 < runE isLt b n i - i0 then 3 else kwK (wdV b n i (i - i0) a)))), ml, R0 rd, 136) → GoM (d + 3) k_Tokens_takeWord 136 Q 4 [.ref 2, .int (nI t), .int (nI a), .int (nI (i - i0))] [] (cu mi 2 (upd (mi 2) 5 (nI i)), ml, R0 rd, 136) := by
    refine upto ?_ ?_
    · intro hi a hwa hQ
      rw [runE_0 (fun z => absurd z.1 (by omega)), wdV_0 (fun z => absurd z.1 (by omega))] at hQ
      refine g_Tokens_takeWord (fun K Kl hK hC => ⟨fun _ => ⟨t, ht, rfl, fun h => ?_, fun h => ⟨t, ht, rfl, rfl, ?_⟩⟩, fun h => ?_⟩)
      · rw [if_neg (by have := iLE h; omega)] at hQ
        exact hC _ _ _ _ (s_kindOfWord hwa.2.1 hd ⟨t, ht, rfl, rfl, hQ⟩)
      · rw [if_pos (by have := iNLE h; omega)] at hQ
        exact hQ
      · have h : ¬ mi 2 4 ≤ nI n := h
        rw [e4] at h
        exact absurd (iNLE h) (by omega)
    · intro i hi ih hi1 a hwa hQ
      have hbi := hb i hi
      refine g_Tokens_takeWord (fun K Kl hK hC => ⟨fun h => ?_, fun _ => ⟨i, by omega, rfl, ?_⟩⟩)
      · have h : mi 2 4 ≤ nI i := h
        rw [e4] at h
        exact absurd (iLE h) (by omega)
      rw [show cu mi 2 (upd (mi 2) 5 (nI i)) 1 = mi 1 from rfl, hbi.1]
      refine hC _ _ _ _ (s_isLetter hbi.2 (fun hd2 => ⟨fun z => absurd z (by decide), fun _ => ?_⟩) (fun hd2 => ⟨fun _ => ⟨t, ht, rfl, fun h => ?_, fun h => ⟨t, ht, rfl, rfl, ?_⟩⟩, fun z => absurd (by decide) z⟩))
      · have hlb := lt_bd hd2
        rw [runE_s hi hd2, wdV_s hi hd2] at hQ
        have hws := wdI_s hwa (c := b i - 96) (by omega)
        rw [show i - i0 + 1 = i + 1 - i0 by omega] at hQ hws
        have ih := ih (by omega) _ hws hQ
        rw [nI1 i, ← atS mi (nI i), show i + 1 - i0 = i - i0 + 1 by omega, nI1 (i - i0)] at ih
        refine ⟨fun h => ?_, fun h => ⟨i, by omega, rfl, ?_⟩⟩
        · rw [if_neg (by have := iLE h; omega)] at ih
          exact hK _ _ _ _ ih
        · have hl := iNLE h
          rw [if_pos (by omega), ← wdOr hl (by omega) (hwa.1 (by omega)), show nI (b i - 96) = nI (b i) - nI 97 + nI 1 by rw [pk_sub (by omega), nI_add, show b i - 97 + 1 = b i - 96 by omega]] at ih
          rw [show cu mi 2 (upd (mi 2) 5 (nI i)) 1 = mi 1 from rfl, hbi.1]
          exact hK _ _ _ _ ih
      · rw [runE_0 (fun z => by rw [hd2] at z; cases z.2), wdV_0 (fun z => by rw [hd2] at z; cases z.2), if_neg (by have := iLE h; omega)] at hQ
        exact hC _ _ _ _ (s_kindOfWord hwa.2.1 hd ⟨t, ht, rfl, rfl, hQ⟩)
      · rw [runE_0 (fun z => by rw [hd2] at z; cases z.2), wdV_0 (fun z => by rw [hd2] at z; cases z.2), if_pos (by have := iNLE h; omega)] at hQ
        exact hQ
  refine r_Tokens_takeWord (by decide) (fun K Kl hK hC => ?_)
  have := lp i0 hi0 (Nat.le_refl _) 0 (by rw [Nat.sub_self]; exact wdI_0) (by rw [Nat.sub_self]; exact hQ)
  rw [upd_id (mi 2) 5 e5, cu_id, Nat.sub_self] at this
  exact hK _ _ _ _ this
theorem sgL1 {c c2 : Nat} (h : c ≠ 60) (h2 : c ≠ 62) : sgL c c2 = 1 := if_neg (fun z => z.elim (fun z => h z.1) (fun z => h2 z.1))
set_option maxHeartbeats 2000000 in
theorem s_signAt {i : Nat} (hM : TM b n i mi) (hi : i < n) (hQ : Q (some (.int (nI (sgK (b i) (bhN b n i))))) (cu mi 2 (upd (mi 2) 5 (nI (i + sgL (b i) (bhN b n i)))), ml, R0 rd, 136)) : Cd (d + 2) k_Tokens_signAt [.ref 2] (mi, ml, R0 rd, 136) Q := by
  obtain ⟨hb, h700, e4, e5⟩ := hM
  have hbi := hb i hi
  have e1 : mi 2 5 + nI 1 = nI (i + 1) := by rw [e5, nI_add]
  have ei : cu mi 2 (upd (mi 2) 5 (mi 2 5 + nI 1)) 2 5 = nI (i + 1) := e1
  refine r_Tokens_signAt (by decide) (fun K Kl hK hC => ⟨i, by omega, e5, ?_⟩)
  rw [hbi.1]
  refine ⟨fun h => ?_, fun h => ?_⟩
  · have h : mi 2 4 ≤ mi 2 5 + nI 1 := h
    rw [e4, e1] at h
    have h := iLE h
    have hc2 : 0 < 256 := by decide
    rw [show bhN b n i = 0 from if_neg (by omega)] at hQ
    refine ⟨fun h40 => ⟨rfl, ?_⟩, fun h40 => swP_c (fun h41 => ⟨rfl, ?_⟩) (fun h41 => swP_c (fun h42 => ⟨rfl, ?_⟩) (fun h42 => swP_c (fun h43 => ⟨rfl, ?_⟩) (fun h43 => swP_c (fun h44 => ⟨rfl, ?_⟩) (fun h44 => swP_c (fun h45 => ⟨rfl, ?_⟩) (fun h45 => swP_c (fun h46 => ⟨rfl, ?_⟩) (fun h46 => swP_c (fun h47 => ⟨rfl, ?_⟩) (fun h47 => swP_c (fun h48 => ⟨rfl, ?_⟩) (fun h48 => swP_c (fun h49 => ⟨rfl, ?_⟩) (fun h49 => swP_c (fun h50 => ⟨rfl, ?_⟩) (fun h50 => swP_c (fun h51 => ⟨rfl, ?_⟩) (fun h51 => swP_c (fun h52 => ⟨rfl, ?_⟩) (fun h52 => swP_c (fun h53 => ⟨rfl, ?_⟩) (fun h53 => swP_c (fun h54 => ⟨rfl, ?_⟩) (fun h54 => swP_c (fun h55 => ⟨rfl, ?_⟩) (fun h55 => swP_c (fun h56 => ⟨rfl, ?_⟩) (fun h56 => swP_c (fun h57 => ⟨rfl, ?_⟩) (fun h57 => swP_c (fun h58 => ⟨rfl, ?_⟩) (fun h58 => swP_c (fun h59 => ⟨rfl, ?_⟩) (fun h59 => swP_c (fun h60 => ?_) (fun h60 => swP_c (fun h61 => ⟨rfl, ?_⟩) (fun h61 => swP_c (fun h62 => ?_) (fun h62 => swP_n ⟨rfl, ?_⟩))))))))))))))))))))))⟩
    · have e := iEQ h40
      rw [e] at hQ
      rw [sgL1 (c := 40) (by decide) (by decide), ← e1] at hQ
      exact hQ
    · have e := iEQ h41
      rw [e] at hQ
      rw [sgL1 (c := 41) (by decide) (by decide), ← e1] at hQ
      exact hQ
    · have e := iEQ h42
      rw [e] at hQ
      rw [sgL1 (c := 42) (by decide) (by decide), ← e1] at hQ
      exact hQ
    · have e := iEQ h43
      rw [e] at hQ
      rw [sgL1 (c := 43) (by decide) (by decide), ← e1] at hQ
      exact hQ
    · have e := iEQ h44
      rw [e] at hQ
      rw [sgL1 (c := 44) (by decide) (by decide), ← e1] at hQ
      exact hQ
    · have e := iEQ h45
      rw [e] at hQ
      rw [sgL1 (c := 45) (by decide) (by decide), ← e1] at hQ
      exact hQ
    · have e := iEQ h46
      rw [e] at hQ
      rw [sgL1 (c := 46) (by decide) (by decide), ← e1] at hQ
      exact hQ
    · have e := iEQ h47
      rw [e] at hQ
      rw [sgL1 (c := 47) (by decide) (by decide), ← e1] at hQ
      exact hQ
    · have e := iEQ h48
      rw [e] at hQ
      rw [sgL1 (c := 48) (by decide) (by decide), ← e1] at hQ
      exact hQ
    · have e := iEQ h49
      rw [e] at hQ
      rw [sgL1 (c := 49) (by decide) (by decide), ← e1] at hQ
      exact hQ
    · have e := iEQ h50
      rw [e] at hQ
      rw [sgL1 (c := 50) (by decide) (by decide), ← e1] at hQ
      exact hQ
    · have e := iEQ h51
      rw [e] at hQ
      rw [sgL1 (c := 51) (by decide) (by decide), ← e1] at hQ
      exact hQ
    · have e := iEQ h52
      rw [e] at hQ
      rw [sgL1 (c := 52) (by decide) (by decide), ← e1] at hQ
      exact hQ
    · have e := iEQ h53
      rw [e] at hQ
      rw [sgL1 (c := 53) (by decide) (by decide), ← e1] at hQ
      exact hQ
    · have e := iEQ h54
      rw [e] at hQ
      rw [sgL1 (c := 54) (by decide) (by decide), ← e1] at hQ
      exact hQ
    · have e := iEQ h55
      rw [e] at hQ
      rw [sgL1 (c := 55) (by decide) (by decide), ← e1] at hQ
      exact hQ
    · have e := iEQ h56
      rw [e] at hQ
      rw [sgL1 (c := 56) (by decide) (by decide), ← e1] at hQ
      exact hQ
    · have e := iEQ h57
      rw [e] at hQ
      rw [sgL1 (c := 57) (by decide) (by decide), ← e1] at hQ
      exact hQ
    · have e := iEQ h58
      rw [e] at hQ
      rw [sgL1 (c := 58) (by decide) (by decide), ← e1] at hQ
      exact hQ
    · have e := iEQ h59
      rw [e] at hQ
      rw [sgL1 (c := 59) (by decide) (by decide), ← e1] at hQ
      exact hQ
    · have e := iEQ h60
      rw [e] at hQ
      refine hC _ _ _ _ (s_lessAt hc2 ei ⟨rfl, ?_⟩)
      rw [atS, show i + 1 + sgL 60 0 - 1 = i + sgL 60 0 by omega]
      exact hQ
    · have e := iEQ h61
      rw [e] at hQ
      rw [sgL1 (c := 61) (by decide) (by decide), ← e1] at hQ
      exact hQ
    · have e := iEQ h62
      rw [e] at hQ
      refine hC _ _ _ _ (s_moreAt hc2 ei ⟨rfl, ?_⟩)
      rw [atS, show i + 1 + sgL 62 0 - 1 = i + sgL 62 0 by omega]
      exact hQ
    · have e : sgK (b i) 0 = 3 := by unfold sgK; simp only [iNE h40, iNE h41, iNE h42, iNE h43, iNE h45, iNE h47, iNE h59, iNE h60, iNE h61, iNE h62, if_false]
      rw [e, sgL1 (iNE h60) (iNE h62), ← e1] at hQ
      exact hQ
  · have h : ¬ mi 2 4 ≤ mi 2 5 + nI 1 := h
    rw [e4, e1] at h
    have h := iNLE h
    have hbi2 := hb (i + 1) h
    have hc2 := hbi2.2
    rw [show bhN b n i = b (i + 1) from if_pos h] at hQ
    refine ⟨i + 1, by omega, e1, ?_⟩
    rw [hbi2.1]
    refine ⟨fun h40 => ⟨rfl, ?_⟩, fun h40 => swP_c (fun h41 => ⟨rfl, ?_⟩) (fun h41 => swP_c (fun h42 => ⟨rfl, ?_⟩) (fun h42 => swP_c (fun h43 => ⟨rfl, ?_⟩) (fun h43 => swP_c (fun h44 => ⟨rfl, ?_⟩) (fun h44 => swP_c (fun h45 => ⟨rfl, ?_⟩) (fun h45 => swP_c (fun h46 => ⟨rfl, ?_⟩) (fun h46 => swP_c (fun h47 => ⟨rfl, ?_⟩) (fun h47 => swP_c (fun h48 => ⟨rfl, ?_⟩) (fun h48 => swP_c (fun h49 => ⟨rfl, ?_⟩) (fun h49 => swP_c (fun h50 => ⟨rfl, ?_⟩) (fun h50 => swP_c (fun h51 => ⟨rfl, ?_⟩) (fun h51 => swP_c (fun h52 => ⟨rfl, ?_⟩) (fun h52 => swP_c (fun h53 => ⟨rfl, ?_⟩) (fun h53 => swP_c (fun h54 => ⟨rfl, ?_⟩) (fun h54 => swP_c (fun h55 => ⟨rfl, ?_⟩) (fun h55 => swP_c (fun h56 => ⟨rfl, ?_⟩) (fun h56 => swP_c (fun h57 => ⟨rfl, ?_⟩) (fun h57 => swP_c (fun h58 => ⟨rfl, ?_⟩) (fun h58 => swP_c (fun h59 => ⟨rfl, ?_⟩) (fun h59 => swP_c (fun h60 => ?_) (fun h60 => swP_c (fun h61 => ⟨rfl, ?_⟩) (fun h61 => swP_c (fun h62 => ?_) (fun h62 => swP_n ⟨rfl, ?_⟩))))))))))))))))))))))⟩
    · have e := iEQ h40
      rw [e] at hQ
      rw [sgL1 (c := 40) (by decide) (by decide), ← e1] at hQ
      exact hQ
    · have e := iEQ h41
      rw [e] at hQ
      rw [sgL1 (c := 41) (by decide) (by decide), ← e1] at hQ
      exact hQ
    · have e := iEQ h42
      rw [e] at hQ
      rw [sgL1 (c := 42) (by decide) (by decide), ← e1] at hQ
      exact hQ
    · have e := iEQ h43
      rw [e] at hQ
      rw [sgL1 (c := 43) (by decide) (by decide), ← e1] at hQ
      exact hQ
    · have e := iEQ h44
      rw [e] at hQ
      rw [sgL1 (c := 44) (by decide) (by decide), ← e1] at hQ
      exact hQ
    · have e := iEQ h45
      rw [e] at hQ
      rw [sgL1 (c := 45) (by decide) (by decide), ← e1] at hQ
      exact hQ
    · have e := iEQ h46
      rw [e] at hQ
      rw [sgL1 (c := 46) (by decide) (by decide), ← e1] at hQ
      exact hQ
    · have e := iEQ h47
      rw [e] at hQ
      rw [sgL1 (c := 47) (by decide) (by decide), ← e1] at hQ
      exact hQ
    · have e := iEQ h48
      rw [e] at hQ
      rw [sgL1 (c := 48) (by decide) (by decide), ← e1] at hQ
      exact hQ
    · have e := iEQ h49
      rw [e] at hQ
      rw [sgL1 (c := 49) (by decide) (by decide), ← e1] at hQ
      exact hQ
    · have e := iEQ h50
      rw [e] at hQ
      rw [sgL1 (c := 50) (by decide) (by decide), ← e1] at hQ
      exact hQ
    · have e := iEQ h51
      rw [e] at hQ
      rw [sgL1 (c := 51) (by decide) (by decide), ← e1] at hQ
      exact hQ
    · have e := iEQ h52
      rw [e] at hQ
      rw [sgL1 (c := 52) (by decide) (by decide), ← e1] at hQ
      exact hQ
    · have e := iEQ h53
      rw [e] at hQ
      rw [sgL1 (c := 53) (by decide) (by decide), ← e1] at hQ
      exact hQ
    · have e := iEQ h54
      rw [e] at hQ
      rw [sgL1 (c := 54) (by decide) (by decide), ← e1] at hQ
      exact hQ
    · have e := iEQ h55
      rw [e] at hQ
      rw [sgL1 (c := 55) (by decide) (by decide), ← e1] at hQ
      exact hQ
    · have e := iEQ h56
      rw [e] at hQ
      rw [sgL1 (c := 56) (by decide) (by decide), ← e1] at hQ
      exact hQ
    · have e := iEQ h57
      rw [e] at hQ
      rw [sgL1 (c := 57) (by decide) (by decide), ← e1] at hQ
      exact hQ
    · have e := iEQ h58
      rw [e] at hQ
      rw [sgL1 (c := 58) (by decide) (by decide), ← e1] at hQ
      exact hQ
    · have e := iEQ h59
      rw [e] at hQ
      rw [sgL1 (c := 59) (by decide) (by decide), ← e1] at hQ
      exact hQ
    · have e := iEQ h60
      rw [e] at hQ
      refine hC _ _ _ _ (s_lessAt hc2 ei ⟨rfl, ?_⟩)
      rw [atS, show i + 1 + sgL 60 (b (i + 1)) - 1 = i + sgL 60 (b (i + 1)) by omega]
      exact hQ
    · have e := iEQ h61
      rw [e] at hQ
      rw [sgL1 (c := 61) (by decide) (by decide), ← e1] at hQ
      exact hQ
    · have e := iEQ h62
      rw [e] at hQ
      refine hC _ _ _ _ (s_moreAt hc2 ei ⟨rfl, ?_⟩)
      rw [atS, show i + 1 + sgL 62 (b (i + 1)) - 1 = i + sgL 62 (b (i + 1)) by omega]
      exact hQ
    · have e : sgK (b i) (b (i + 1)) = 3 := by unfold sgK; simp only [iNE h40, iNE h41, iNE h42, iNE h43, iNE h45, iNE h47, iNE h59, iNE h60, iNE h61, iNE h62, if_false]
      rw [e, sgL1 (iNE h60) (iNE h62), ← e1] at hQ
      exact hQ
/-- a token is taken -/
theorem s_takeToken {i t : Nat} (hM : TM b n i mi) (hi : i < n) (ht : t < 701) (hd : 4 ≤ d) (hQ : ∀ mi', Fr [2, 3, 4] mi mi' → mi' 3 t = nI (tkK b n i) → mi' 4 t = nI (tkV b n i) → (∀ k, k ≠ t → mi' 3 k = mi 3 k ∧ mi' 4 k = mi 4 k) → TM b n (tkE b n i) mi' → Q none (mi', ml, R0 rd, 136)) : Cd (d + 5) k_Tokens_takeToken [.ref 2, .int (nI t)] (mi, ml, R0 rd, 136) Q := by
  have hM0 := hM
  obtain ⟨hb, h700, e4, e5⟩ := hM
  have hbi := hb i hi
  have hM1 : TM b n i (cu mi 4 (upd (mi 4) t (nI 0))) := hM0
  refine r_Tokens_takeToken (by decide) (fun K Kl hK hC => ⟨t, ht, rfl, i, by omega, e5, ?_⟩)
  rw [show cu mi 4 (upd (mi 4) t (nI 0)) 1 = mi 1 from rfl, hbi.1]
  refine hC _ _ _ _ (s_isDigit hbi.2 (fun hg => ⟨fun z => absurd z (by decide), fun _ => ?_⟩) (fun hg => ⟨fun _ => ⟨i, by omega, e5, ?_⟩, fun z => absurd (by decide) z⟩))
  · refine hC _ _ _ _ (s_takeNumber (d := d + 2) hM1 (by omega) ht ⟨rfl, ?_⟩)
    refine hQ _ (Fr.cu (Fr.cu (Fr.cu (Fr.cu Fr.none rfl) rfl) rfl) rfl) ?_ ?_ (fun k hk => ⟨pk_un hk, (pk_un hk).trans (pk_un hk)⟩) ⟨hb, h700, e4, ?_⟩
    · unfold tkK
      rw [if_pos hg]
      exact pk_us
    · unfold tkV
      rw [if_pos hg]
      exact pk_us
    · unfold tkE
      rw [if_pos hg]
      rfl
  rw [show cu mi 4 (upd (mi 4) t (nI 0)) 1 = mi 1 from rfl, hbi.1]
  have hg2 : ¬ isDg (b i) = true := by rw [hg]; decide
  refine hC _ _ _ _ (s_isLetter hbi.2 (fun hl => ⟨fun z => absurd z (by decide), fun _ => ?_⟩) (fun hl => ⟨fun _ => ?_, fun z => absurd (by decide) z⟩))
  · refine hC _ _ _ _ (s_takeWord (d := d) hM1 (by omega) ht hd ⟨rfl, ?_⟩)
    refine hQ _ (Fr.cu (Fr.cu (Fr.cu (Fr.cu Fr.none rfl) rfl) rfl) rfl) ?_ ?_ (fun k hk => ⟨pk_un hk, (pk_un hk).trans (pk_un hk)⟩) ⟨hb, h700, e4, ?_⟩
    · unfold tkK
      rw [if_neg hg2, if_pos hl]
      exact pk_us
    · unfold tkV
      rw [if_neg hg2, if_pos hl]
      exact pk_us
    · unfold tkE
      rw [if_neg hg2, if_pos hl]
      rfl
  · have hl2 : ¬ isLt (b i) = true := by rw [hl]; decide
    refine hC _ _ _ _ (s_signAt (d := d + 2) hM1 hi ⟨t, ht, rfl, rfl, ?_⟩)
    refine hQ _ (Fr.cu (Fr.cu (Fr.cu Fr.none rfl) rfl) rfl) ?_ ?_ (fun k hk => ⟨pk_un hk, pk_un hk⟩) ⟨hb, h700, e4, ?_⟩
    · unfold tkK
      rw [if_neg hg2, if_neg hl2]
      exact pk_us
    · unfold tkV
      rw [if_neg hg2, if_neg hl2]
      exact pk_us
    · unfold tkE
      rw [if_neg hg2, if_neg hl2]
      rfl
/-- the class's tokens are those of the bytes -/
def CTk (b : Nat → Nat) (n : Nat) (mi : Nat → Nat → Int32) : Prop := ∃ m, m ≤ n ∧ n ≤ 700 ∧ psN b n m = n ∧ (∀ j, j < m → psN b n j < n) ∧ ∀ j, j ≤ m → mi 3 j = nI (tK b n j) ∧ mi 5 j = nI (psN b n j) ∧ (j < m → mi 4 j = nI (tV b n j))
set_option maxHeartbeats 1000000 in
theorem s_split (hb : ∀ k, k < n → mi 1 k = nI (b k) ∧ b k < 256) (h700 : n ≤ 700) (hd : 4 ≤ d) (hQ : ∀ mi', Fr [2, 3, 4, 5] mi mi' → CTk b n mi' → Q none (mi', ml, R0 rd, 136)) : Cd (d + 6) k_Tokens_split [.ref 2, .int (nI n)] (mi, ml, R0 rd, 136) Q := by
  have lp : ∀ j, j ≤ n → (∀ i, i < j → psN b n i < n) → ∀ m1, Fr [2, 3, 4, 5] mi m1 → TM b n (psN b n j) m1 → (∀ i, i < j → m1 3 i = nI (tK b n i) ∧ m1 5 i = nI (psN b n i) ∧ m1 4 i = nI (tV b n i)) → GoM (d + 5) k_Tokens_split 136 Q 30 [.ref 2, .int (nI n), .int (nI j)] [] (m1, ml, R0 rd, 136) := by
    have fin : ∀ j, j ≤ n → (∀ i, i < j → psN b n i < n) → ¬ psN b n j < n → ∀ m1, Fr [2, 3, 4, 5] mi m1 → TM b n (psN b n j) m1 → (∀ i, i < j → m1 3 i = nI (tK b n i) ∧ m1 5 i = nI (psN b n i) ∧ m1 4 i = nI (tV b n i)) → Q none (cu (cu m1 3 (upd (m1 3) j (nI 0))) 5 (upd (m1 5) j (m1 2 4)), ml, R0 rd, 136) := by
      intro j hj hlt hge m1 f1 hM hall
      have hle := (psN_le (b := b) (n := n) j).1
      have hpe : psN b n j = n := by omega
      refine hQ _ ((f1.cu rfl).cu rfl) ⟨j, hj, h700, hpe, hlt, fun i hi => ?_⟩
      by_cases he : i = j
      · subst he
        refine ⟨?_, ?_, fun z => absurd z (by omega)⟩
        · show upd (m1 3) i (nI 0) i = _
          unfold tK
          rw [if_neg hge]
          exact pk_us
        · show upd (m1 5) i (m1 2 4) i = _
          rw [pk_us, hM.2.2.1, hpe]
      · have := hall i (by omega)
        refine ⟨(pk_un he).trans this.1, (pk_un he).trans this.2.1, fun _ => this.2.2⟩
    refine upto ?_ ?_
    · intro hlt m1 f1 hM hall
      have hge : ¬ psN b n n < n := fun z => by have := (psN_le (b := b) (n := n) n).2 z; omega
      have hf := fin n (Nat.le_refl _) hlt hge m1 f1 hM hall
      have e5 := hM.2.2.2
      have e4 := hM.2.2.1
      have hle := (psN_le (b := b) (n := n) n).1
      refine g_Tokens_split (fun K Kl hK hC => ⟨fun _ => ⟨n, by omega, rfl, n, by omega, rfl, rfl, hf⟩, fun h => ?_⟩)
      have h : ¬ m1 2 4 ≤ m1 2 5 := h
      rw [e4, e5] at h
      exact absurd (iNLE h) (by omega)
    · intro j hj ih hlt m1 f1 hM hall
      have e5 := hM.2.2.2
      have e4 := hM.2.2.1
      have hle := (psN_le (b := b) (n := n) j).1
      refine g_Tokens_split (fun K Kl hK hC => ⟨fun h => ⟨j, by omega, rfl, j, by omega, rfl, rfl, ?_⟩, fun h => ⟨fun h2 => absurd (iLE h2) (by omega), fun _ => ⟨j, by omega, rfl, ?_⟩⟩⟩)
      · have h : m1 2 4 ≤ m1 2 5 := h
        rw [e4, e5] at h
        exact fin j (by omega) hlt (by have := iLE h; omega) m1 f1 hM hall
      · have h : ¬ m1 2 4 ≤ m1 2 5 := h
        rw [e4, e5] at h
        have hp := iNLE h
        have hM1 : TM b n (psN b n j) (cu m1 5 (upd (m1 5) j (m1 2 5))) := hM
        refine hC _ _ _ _ (s_takeToken (d := d) hM1 hp (by omega) hd (fun m2 f2 g3 g4 gk hM2 => ?_))
        have hE := tkE_le (b := b) hp
        refine hC _ _ _ _ (s_skipBlanks (d := d + 4) hM2 hE.2 ?_)
        have eps : psN b n (j + 1) = runE isBl b n (tkE b n (psN b n j)) := if_pos hp
        have ih := ih (lt_s hlt hp) (cu m2 2 (upd (m2 2) 5 (nI (runE isBl b n (tkE b n (psN b n j)))))) (((f1.cu (c := 5) rfl).trans (f2.mono rfl)).cu (c := 2) rfl) ⟨hM2.1, h700, hM2.2.2.1, by rw [eps]; rfl⟩ (fun i hi => by
          show m2 3 i = _ ∧ m2 5 i = _ ∧ m2 4 i = _
          rw [f2 5 rfl]
          show m2 3 i = _ ∧ upd (m1 5) j (m1 2 5) i = _ ∧ m2 4 i = _
          by_cases he : i = j
          · subst he
            rw [pk_us, g3, g4, e5]
            unfold tK tV
            rw [if_pos hp, if_pos hp]
            exact ⟨rfl, rfl, rfl⟩
          · have := hall i (by omega)
            rw [pk_un he, (gk i he).1, (gk i he).2]
            exact this)
        rw [nI1 j] at ih
        exact hK _ _ _ _ ih
  refine r_Tokens_split (by decide) (fun K Kl hK hC => ?_)
  refine hC _ _ _ _ (s_min (by decide) (by omega) (by omega) ?_)
  refine hC _ _ _ _ (s_min (by decide) (by omega) (by omega) ?_)
  rw [show min n (min 700 700) = n by omega]
  have hM0 : TM b n 0 (cu (cu mi 2 (upd (mi 2) 4 (nI n))) 2 (upd (cu mi 2 (upd (mi 2) 4 (nI n)) 2) 5 (nI 0))) := ⟨hb, h700, rfl, rfl⟩
  refine hC _ _ _ _ (s_skipBlanks (d := d + 4) hM0 (Nat.zero_le _) ?_)
  exact hK _ _ _ _ (lp 0 (Nat.zero_le _) lt_0 _ (((Fr.none.cu rfl).cu rfl).cu rfl) ⟨hb, h700, rfl, rfl⟩ lt_0)
end
