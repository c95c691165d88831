/-! PLACES AND WHAT A WORD COSTS THERE (the class) -/
def allN (p : Nat → Bool) : Nat → Bool
  | 0 => true
  | n + 1 => allN p n && p n
theorem allN_iff {p : Nat → Bool} {n : Nat} : allN p n = true ↔ ∀ i, i < n → p i = true := by
  induction n with
  | zero => simp [allN]
  | succ n ih =>
    simp only [allN, Bool.and_eq_true, ih]
    constructor
    · intro h i hi
      by_cases hn : i < n
      · exact h.1 i hn
      · have : i = n := by omega
        subst this; exact h.2
    · intro h
      exact ⟨fun i hi => h i (by omega), h n (by omega)⟩
theorem allN_not {p : Nat → Bool} {n j : Nat} (hj : j < n) (h : p j = false) : allN p n = false := by
  cases hh : allN p n with
  | false => rfl
  | true => rw [allN_iff.mp hh j hj] at h; cases h
def readN (T : Nat → Nat → Nat) (h s : Nat) : Nat := if s = 0 then 0 else if fnd (fun g => seenN (T 10 h) (T 6 g) == seenN (T 10 h) s) (T 0 3) < T 0 3 then T 5 (fnd (fun g => seenN (T 10 h) (T 6 g) == seenN (T 10 h) s) (T 0 3)) else 0
def fitN (T : Nat → Nat → Nat) (len f way : Nat) : Bool := if way = 0 then decide (f % T 0 0 + len ≤ T 0 0) else decide (f / T 0 0 + len ≤ T 0 1)
def stN (T : Nat → Nat → Nat) (way : Nat) : Nat := if way = 0 then 1 else T 0 0
/-- the field of a word's k-th letter -/
def plN (T : Nat → Nat → Nat) (f way k : Nat) : Nat := f + k * stN T way
def wantN (T : Nat → Nat → Nat) (w k : Nat) : Nat := shpN T (letN (T 7 w) k)
def okcN (T : Nat → Nat → Nat) (sh fe : Nat → Nat) (w f way k : Nat) : Bool := decide (wantN T w k ≠ 0) && decide (fe (plN T f way k) ≠ 0) && (decide (sh (plN T f way k) = 0) || decide (sh (plN T f way k) = wantN T w k))
def cstN (T : Nat → Nat → Nat) (sh fe : Nat → Nat) (w f way k : Nat) : Nat := if sh (plN T f way k) = 0 then bcN (wantN T w k) * (fe (plN T f way k) - 1) else 0
/-- what a word costs at a place (fe: a field's price and 1; 0: it can't be used) -/
def costN (T : Nat → Nat → Nat) (sh fe : Nat → Nat) (w f way : Nat) : Option Nat := if fitN T (lenN (T 7 w)) f way && allN (okcN T sh fe w f way) (lenN (T 7 w)) then some (sumN (cstN T sh fe w f way) (lenN (T 7 w))) else none
def cI (c : Option Nat) : Int32 := match c with
  | none => -2
  | some c => nI c
theorem plN_lt {T : Nat → Nat → Nat} (hw : wfT T) {len f way k : Nat} (hf : f < T 0 0 * T 0 1) (hfit : fitN T len f way = true) (hk : k < len) : plN T f way k < T 0 0 * T 0 1 := by
  have h1 := hw.w1
  have hdm := Nat.div_add_mod f (T 0 0)
  have hq : f / T 0 0 < T 0 1 := Nat.div_lt_of_lt_mul hf
  unfold plN stN
  unfold fitN at hfit
  by_cases hway : way = 0
  · rw [if_pos hway] at hfit ⊢
    have hfit := of_decide_eq_true hfit
    have : T 0 0 * (f / T 0 0 + 1) ≤ T 0 0 * T 0 1 := Nat.mul_le_mul_left _ hq
    rw [Nat.mul_add, Nat.mul_one] at this
    omega
  · rw [if_neg hway] at hfit ⊢
    have hfit := of_decide_eq_true hfit
    have hr : f % T 0 0 < T 0 0 := Nat.mod_lt _ h1
    have : T 0 0 * (f / T 0 0 + k + 1) ≤ T 0 0 * T 0 1 := Nat.mul_le_mul_left _ (by omega)
    rw [Nat.mul_add, Nat.mul_add, Nat.mul_one, Nat.mul_comm _ k] at this
    omega
theorem shpN_le {T : Nat → Nat → Nat} (hw : wfT T) (c : Nat) : shpN T c ≤ 511 := by
  unfold shpN
  split
  · rename_i h; exact (hw.gs _ h).2
  · omega
theorem wantN_le {T : Nat → Nat → Nat} (hw : wfT T) (w k : Nat) : wantN T w k ≤ 511 := shpN_le hw _
section
variable {d : Nat} {Q : Option Value → Mm → Prop} {T S : Nat → Nat → Nat} {mi : Nat → Nat → Int32} {ml : Nat → Nat → Int64} {rd : Option Nat}
theorem s_fits (hT : CT 0 T mi) (hw : wfT T) {len f way : Nat} (hl : len ≤ 6) (hf : f < T 0 0 * T 0 1) (h1 : fitN T len f way = true → Q (some (.int (nI 1))) (mi, ml, R0 rd, 136)) (h0 : fitN T len f way = false → Q (some (.int (nI 0))) (mi, ml, R0 rd, 136)) (hway : way < 2) : Cd (d + 2) k_Told_fits [.ref 6, .int (nI len), .int (nI f), .int (nI way)] (mi, ml, R0 rd, 136) Q := by
  have hfl := hw.fl
  have hw1 := hw.w1; have hw8 := hw.w8; have hh6 := hw.h6
  have e0 : mi 6 0 = nI (T 0 0) := hT.wide
  have e1 : mi 6 1 = nI (T 0 1) := hT.high
  have hne : ¬ nI (T 0 0) = 0 := nI_ne0 (by omega) (by omega)
  have hdl := Nat.div_le_self f (T 0 0)
  have hml := Nat.mod_le f (T 0 0)
  refine r_Told_fits (by decide) (fun K Kl hK hC => ?_)
  refine ⟨fun h => ?_, fun h => ?_⟩
  · rw [e0] at h
    exact absurd (iLT h) (by omega)
  refine hC _ _ _ _ (s_Told_inField (o := 0) (Or.inl rfl) hT hw hf ?_)
  refine ⟨fun _ => ?_, fun h => absurd h (by decide)⟩
  refine ⟨fun h2 => ?_, fun h2 => ?_⟩
  · have hz := iNZ h2
    refine ⟨by rw [e0]; exact hne, ?_⟩
    refine ⟨fun h3 => ?_, fun h3 => ?_⟩
    · rw [e0, e1, pk_div (by omega) (by omega) (by omega), nI_add] at h3
      have := iLT h3
      exact ⟨Or.inl rfl, rfl, h0 (by unfold fitN; rw [if_neg hz]; exact decide_eq_false (by omega))⟩
    · rw [e0, e1, pk_div (by omega) (by omega) (by omega), nI_add] at h3
      have := iNLT h3
      exact ⟨Or.inr rfl, rfl, h1 (by unfold fitN; rw [if_neg hz]; exact decide_eq_true (by omega))⟩
  · have hz := iZ h2
    refine ⟨by rw [e0]; exact hne, ?_⟩
    refine ⟨fun h3 => ?_, fun h3 => ?_⟩
    · rw [e0, pk_rem (by omega) (by omega) (by omega), nI_add] at h3
      have := iLT h3
      exact ⟨Or.inl rfl, rfl, h0 (by unfold fitN; rw [if_pos hz]; exact decide_eq_false (by omega))⟩
    · rw [e0, pk_rem (by omega) (by omega) (by omega), nI_add] at h3
      have := iNLT h3
      exact ⟨Or.inr rfl, rfl, h1 (by unfold fitN; rw [if_pos hz]; exact decide_eq_true (by omega))⟩
theorem s_stepOf (hT : CT 0 T mi) {way : Nat} (hway : way < 2) (hQ : Q (some (.int (nI (stN T way)))) (mi, ml, R0 rd, 136)) : Cd (d + 1) k_Told_stepOf [.ref 6, .int (nI way)] (mi, ml, R0 rd, 136) Q := by
  have e0 : mi 6 0 = nI (T 0 0) := hT.wide
  refine r_Told_stepOf (by decide) (fun K Kl hK hC => ?_)
  refine ⟨fun h => ?_, fun h => ?_⟩
  · unfold stN at hQ
    rw [if_neg (iNZ h), ← e0] at hQ
    exact ⟨rfl, hQ⟩
  · unfold stN at hQ
    rw [if_pos (iZ h)] at hQ
    exact ⟨rfl, hQ⟩
theorem s_letterOf (hT : CT 0 T mi) (hw : wfT T) {w k : Nat} (hwd : w < T 0 4) (hk : k < 6) (hQ : Q (some (.int (nI (letN (T 7 w) k)))) (mi, ml, R0 rd, 136)) : Cd (d + 2) k_Script_letterOf [.ref 13, .int (nI w), .int (nI k)] (mi, ml, R0 rd, 136) Q := by
  have h6 := hw.wd6
  have e : mi 17 w = nI (T 7 w) := hT.wn w hwd
  refine r_Script_letterOf (by decide) (fun K Kl hK hC => ?_)
  refine ⟨w, by omega, rfl, ?_⟩
  rw [e]
  exact hC _ _ _ _ (s_letterAt hk (hw.wn w hwd).1 ⟨rfl, hQ⟩)
theorem s_shapeIn (hT : CT 0 T mi) (hw : wfT T) {w k : Nat} (hwd : w < T 0 4) (hk : k < 6) (hQ : Q (some (.int (nI (wantN T w k)))) (mi, ml, R0 rd, 136)) : Cd (d + 2) k_Script_shapeIn [.ref 13, .int (nI w), .int (nI k)] (mi, ml, R0 rd, 136) Q := by
  have h6 := hw.wd6
  have e : mi 17 w = nI (T 7 w) := hT.wn w hwd
  have hl := letN_lt (T 7 w) k
  have e2 : mi 16 (letN (T 7 w) k) = nI (wantN T w k) := hT.so _ hl
  refine r_Script_shapeIn (by decide) (fun K Kl hK hC => ?_)
  refine ⟨w, by omega, rfl, ?_⟩
  rw [e]
  refine hC _ _ _ _ (s_letterAt hk (hw.wn w hwd).1 ?_)
  rw [← e2] at hQ
  exact ⟨letN (T 7 w) k, hl, rfl, rfl, hQ⟩
set_option maxHeartbeats 1000000 in
theorem s_costOf {b fc : Nat} {sh fe : Nat → Nat} (hb : b = 70 ∨ b = 86) (hfc : fc = 12 ∨ fc = 89) (hT : CT 0 T mi) (hw : wfT T) (hsh : ∀ f, f < 48 → mi (b + 1) f = nI (sh f) ∧ sh f ≤ 511) (hfe : ∀ f, f < 48 → mi fc f = nI (fe f) - 1 ∧ fe f ≤ 100) {w f way : Nat} (hwd : w < T 0 4) (hf : f < T 0 0 * T 0 1) (hway : way < 2)
    (hQ : Q (some (.int (cI (costN T sh fe w f way)))) (mi, ml, R0 rd, 136)) : Cd (d + 3) k_Search_costOf [.ref 84, .ref b, .ref fc, .int (nI w), .int (nI f), .int (nI way)] (mi, ml, R0 rd, 136) Q := by
  have h6 := hw.wd6
  have hfl := hw.fl
  have hlen := lenN_le (T 7 w)
  have el : mi 18 w = nI (lenN (T 7 w)) := hT.wlen w hwd
  have lp : fitN T (lenN (T 7 w)) f way = true → ∀ j, j ≤ lenN (T 7 w) → (∀ i, i < j → okcN T sh fe w f way i = true) → ∀ v11 v12 v13, GoM (d + 2) k_Search_costOf 136 Q 54 [.ref 84, .ref b, .ref fc, .int (nI w), .int (nI f), .int (nI way), .ref 13, .int (nI (lenN (T 7 w))), .int (nI (stN T way)), .int (nI (sumN (cstN T sh fe w f way) j)), .int (nI j), v11, v12, v13] [] (mi, ml, R0 rd, 136) := by
    intro hfit
    refine upto ?_ ?_
    · intro hall v11 v12 v13
      refine g_Search_costOf (fun K Kl hK hC => ?_)
      refine ⟨fun h => ⟨rfl, ?_⟩, fun h => absurd (iNLE h) (by omega)⟩
      have : costN T sh fe w f way = some (sumN (cstN T sh fe w f way) (lenN (T 7 w))) := by
        unfold costN
        rw [if_pos (by rw [hfit, allN_iff.mpr hall]; rfl)]
      rw [this] at hQ
      exact hQ
    · intro j hj ih hall v11 v12 v13
      have hpl := plN_lt hw hf hfit hj
      have hsp := hsh (plN T f way j) (by omega)
      have hfp := hfe (plN T f way j) (by omega)
      have hwl := wantN_le hw w j
      have fail : okcN T sh fe w f way j = false → Q (some (.int (-2))) (mi, ml, R0 rd, 136) := by
        intro hno
        have : costN T sh fe w f way = none := by
          unfold costN
          rw [if_neg (by rw [allN_not hj hno, Bool.and_false]; decide)]
        rw [this] at hQ
        exact hQ
      have epl : nI f + nI j * nI (stN T way) = nI (plN T f way j) := by rw [pk_mul, nI_add]; rfl
      have good : okcN T sh fe w f way j = true → ∀ v11 v12 v13, GoM (d + 2) k_Search_costOf 136 Q 54 [.ref 84, .ref b, .ref fc, .int (nI w), .int (nI f), .int (nI way), .ref 13, .int (nI (lenN (T 7 w))), .int (nI (stN T way)), .int (nI (sumN (cstN T sh fe w f way) j) + nI (cstN T sh fe w f way j)), .int (nI j + nI 1), v11, v12, v13] [] (mi, ml, R0 rd, 136) := by
        intro hok v11 v12 v13
        have := ih (lt_s hall hok) v11 v12 v13
        rw [nI1, sumN, ← nI_add] at this
        exact this
      refine g_Search_costOf ?_
      rcases hb with rfl | rfl <;> rcases hfc with rfl | rfl
      all_goals
        intro K Kl hK hC
        refine ⟨fun h => absurd (iLE h) (by omega), fun h => ?_⟩
        refine hC _ _ _ _ (s_shapeIn hT hw hwd (by omega) ?_)
        refine ⟨plN T f way j, by omega, epl, ?_⟩
        rw [hsp.1]
        refine ⟨fun h2 => ?_, fun h2 => ⟨plN T f way j, by omega, epl, fun h3 => ?_, fun h3 => ?_⟩⟩
        · exact ⟨rfl, fail (by unfold okcN; simp [iZ h2])⟩
        · refine ⟨rfl, fail ?_⟩
          rw [hfp.1] at h3
          have : fe (plN T f way j) = 0 := by
            rcases Nat.eq_zero_or_pos (fe (plN T f way j)) with z | z
            · exact z
            · obtain ⟨q, hq⟩ : ∃ q, fe (plN T f way j) = q + 1 := ⟨fe (plN T f way j) - 1, by omega⟩
              rw [hq, nI_pred] at h3
              exact absurd h3 (nI_pos (by omega))
          unfold okcN
          simp [this]
        · have hw0 := iNZ h2
          obtain ⟨q, hq⟩ : ∃ q, fe (plN T f way j) = q + 1 := by
            rcases Nat.eq_zero_or_pos (fe (plN T f way j)) with z | z
            · rw [hfp.1, z] at h3
              exact absurd (by decide) h3
            · exact ⟨fe (plN T f way j) - 1, by omega⟩
          have hfee := hfp.1
          rw [hq, nI_pred] at hfee
          refine ⟨fun h4 => ?_, fun h4 => ⟨fun h5 => ?_, fun h5 => ?_⟩⟩
          · have hs0 := iZ h4
            refine ⟨fun h5 => absurd h4 h5, fun h5 => ?_⟩
            refine hC _ _ _ _ (s_bitCount (by decide) (by omega) ?_)
            refine ⟨plN T f way j, by omega, epl, ?_⟩
            have hok : okcN T sh fe w f way j = true := by unfold okcN; simp [hs0, hq, hw0]
            have hc : cstN T sh fe w f way j = bcN (wantN T w j) * q := by unfold cstN; rw [if_pos hs0, hq]; rfl
            have := good hok (.int (nI f + nI j * nI (stN T way))) (.int (nI (wantN T w j))) (.int (nI (sh (plN T f way j))))
            rw [hc, ← pk_mul, ← hfee] at this
            exact hK _ _ _ _ this
          · have hs1 := iEQ h5
            have hs0 := iNZ h4
            refine ⟨fun h6 => ?_, fun h6 => absurd h6 h4⟩
            have hok : okcN T sh fe w f way j = true := by unfold okcN; simp [hs1, hq, hw0]
            have hc : cstN T sh fe w f way j = 0 := by unfold cstN; rw [if_neg hs0]
            have := good hok (.int (nI f + nI j * nI (stN T way))) (.int (nI (wantN T w j))) (.int (nI (sh (plN T f way j))))
            rw [hc, nI_add, Nat.add_zero] at this
            exact hK _ _ _ _ this
          · refine ⟨rfl, fail ?_⟩
            have hs1 := iNE h5
            have hs0 := iNZ h4
            unfold okcN
            simp [hs1, hs0]
  have ent : RunP m_X7_costOf 1 (d + 2) k_Search_costOf 136 Q 0 [.ref 84, .ref b, .ref fc, .int (nI w), .int (nI f), .int (nI way), .null, .null, .null, .null, .null, .null, .null, .null] [] (mi, ml, R0 rd, 136) := by
    intro K Kl hK hC
    refine ⟨w, by omega, rfl, ?_⟩
    rw [el]
    refine hC _ _ _ _ (s_fits hT hw hlen hf (fun hfit => ?_) (fun hfit => ?_) hway)
    · refine ⟨fun _ => ?_, fun h => absurd h (by decide)⟩
      refine hC _ _ _ _ (s_stepOf hT hway ?_)
      exact hK _ _ _ _ (lp hfit 0 (Nat.zero_le _) lt_0 _ _ _)
    · refine ⟨fun h => absurd (by decide) h, fun _ => ⟨rfl, ?_⟩⟩
      have : costN T sh fe w f way = none := by
        unfold costN
        rw [if_neg (by rw [hfit, Bool.false_and]; decide)]
      rw [this] at hQ
      exact hQ
  exact r_Search_costOf (by decide) ent
end
