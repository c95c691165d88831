/-! THE REFERENCE: words at places -/
/-- the fees and 1: fr's fields are free, br's can't be used (an owner and 1; 0 none) -/
def feX (T : Nat → Nat → Nat) (fr br : Nat) : Nat → Nat := fun f => if br ≠ 0 ∧ T 4 f = br then 0 else if fr ≠ 0 ∧ T 4 f = fr then 1 else feeN T f + 1
theorem feX_0 (T : Nat → Nat → Nat) : feX T 0 0 = feA T := by
  funext f
  unfold feX feA
  rw [if_neg (fun z => z.1 rfl), if_neg (fun z => z.1 rfl)]
theorem feX_f (T : Nat → Nat → Nat) (o : Nat) : feX T (o + 1) 0 = feO T o 1 := by
  funext f
  unfold feX feO
  rw [if_neg (fun z => z.1 rfl)]
  by_cases h : T 4 f = o + 1
  · rw [if_pos ⟨by omega, h⟩, if_pos h]
  · rw [if_neg (fun z => h z.2), if_neg h]
theorem feX_b (T : Nat → Nat → Nat) (o : Nat) : feX T 0 (o + 1) = feO T o 0 := by
  funext f
  unfold feX feO
  by_cases h : T 4 f = o + 1
  · rw [if_pos ⟨by omega, h⟩, if_pos h]
  · rw [if_neg (fun z => h z.2), if_neg (fun z => z.1 rfl), if_neg h]
/-- a word fits and has glyphs -/
def liN (T : Nat → Nat → Nat) (w f way : Nat) : Bool := fitN T (lenN (T 7 w)) f way && allN (fun k => !(wantN T w k == 0)) (lenN (T 7 w))
def csN (T : Nat → Nat → Nat) (sh : Nat → Nat) (w f way : Nat) : Bool := liN T w f way && allN (fun k => (sh (plN T f way k) == 0) || (sh (plN T f way k) == wantN T w k)) (lenN (T 7 w))
def baN (T : Nat → Nat → Nat) (br w f way : Nat) : Bool := !(br == 0) && !allN (fun k => !(T 4 (plN T f way k) == br)) (lenN (T 7 w))
def cdN (T : Nat → Nat → Nat) (sh : Nat → Nat) (fr w f way : Nat) : Nat := sumN (cstN T sh (feX T fr 0) w f way) (lenN (T 7 w))
theorem fit_le {T : Nat → Nat → Nat} {a b f way : Nat} (h : fitN T a f way = true) (hab : b ≤ a) : fitN T b f way = true := by
  unfold fitN at h ⊢
  split
  · rename_i hw
    rw [if_pos hw, decide_eq_true_eq] at h
    exact decide_eq_true (by omega)
  · rename_i hw
    rw [if_neg hw, decide_eq_true_eq] at h
    exact decide_eq_true (by omega)
/-- what the reference's two tests and sum come to -/
theorem cost_of {T : Nat → Nat → Nat} {sh : Nat → Nat} {fr br w f way : Nat} : costN T sh (feX T fr br) w f way = if csN T sh w f way && !baN T br w f way then some (cdN T sh fr w f way) else none := by
  have key : (fitN T (lenN (T 7 w)) f way && allN (okcN T sh (feX T fr br) w f way) (lenN (T 7 w))) = (csN T sh w f way && !baN T br w f way) := by
    rw [Bool.eq_iff_iff]
    unfold csN liN baN
    simp only [Bool.and_eq_true, allN_iff, okcN, Bool.or_eq_true, decide_eq_true_eq, Bool.not_and, Bool.not_not, Bool.not_eq_true', beq_eq_false_iff_ne, beq_iff_eq]
    constructor
    · intro ⟨h1, h2⟩
      refine ⟨⟨⟨h1, fun k hk => (h2 k hk).1.1⟩, fun k hk => (h2 k hk).2⟩, ?_⟩
      by_cases hb : br = 0
      · exact Or.inl hb
      · refine Or.inr (fun k hk e => (h2 k hk).1.2 ?_)
        unfold feX
        rw [if_pos ⟨hb, e⟩]
    · intro ⟨⟨⟨h1, h2⟩, h3⟩, h4⟩
      refine ⟨h1, fun k hk => ⟨⟨h2 k hk, ?_⟩, h3 k hk⟩⟩
      unfold feX
      rw [if_neg (fun z => h4.elim (fun y => z.1 y) (fun y => y k hk z.2))]
      split <;> omega
  unfold costN
  rw [key]
  by_cases hc : (csN T sh w f way && !baN T br w f way) = true
  · rw [if_pos hc, if_pos hc]
    congr 1
    rw [Bool.and_eq_true] at hc
    refine sumN_cg (fun k hk => ?_)
    unfold cstN
    split
    · congr 2
      unfold feX
      rw [if_neg (show ¬ (br ≠ 0 ∧ T 4 (plN T f way k) = br) from fun z => ?_), if_neg (show ¬ (0 ≠ 0 ∧ T 4 (plN T f way k) = 0) from fun z => z.1 rfl)]
      have h2 := hc.2
      unfold baN at h2
      simp only [Bool.not_and, Bool.not_not, Bool.or_eq_true, beq_iff_eq, allN_iff, Bool.not_eq_true', beq_eq_false_iff_ne] at h2
      exact h2.elim (fun y => z.1 y) (fun y => y k hk z.2)
    · rfl
  · rw [if_neg hc, if_neg hc]
theorem read_want {T : Nat → Nat → Nat} (hw : wfT T) {h s c : Nat} (hr : readN T h s = c) (hc : c ≠ 0) : shpN T c ≠ 0 := by
  intro hz
  have hn := (shp_nm hw c).mp hz
  unfold readN at hr
  split at hr
  · exact hc hr.symm
  · split at hr
    · rename_i hg
      have := fnd_le (fun g => T 5 g == c) (T 0 3)
      have hm := fnd_min (p := fun g => T 5 g == c) (n := T 0 3) (i := fnd (fun g => seenN (T 10 h) (T 6 g) == seenN (T 10 h) s) (T 0 3)) (by unfold nmF at hn; omega)
      simp [hr] at hm
    · exact hc hr.symm
theorem len_let {T : Nat → Nat → Nat} {w k : Nat} (hk : k < lenN (T 7 w)) : letN (T 7 w) k ≠ 0 := by
  have := fnd_min (p := fun k => letN (T 7 w) k == 0) (n := 6) hk
  simpa using this
theorem std_li {T : Nat → Nat → Nat} (hw : wfT T) {sh : Nat → Nat} {h w f way : Nat} (hs : stdN T (fun x => readN T h (sh x)) w f way = true) : liN T w f way = true := by
  unfold stdN at hs
  unfold liN
  rw [Bool.and_eq_true, allN_iff] at hs ⊢
  refine ⟨hs.1, fun k hk => ?_⟩
  have h1 := of_decide_eq_true (hs.2 k hk)
  have h2 := read_want hw h1 (len_let hk)
  simp only [Bool.not_eq_true', beq_eq_false_iff_ne]
  exact h2
section
variable {d : Nat} {Q : Option Value → Mm → Prop} {T S : Nat → Nat → Nat} {mi : Nat → Nat → Int32} {ml : Nat → Nat → Int64} {rd : Option Nat} {x y z : Int32}
theorem t_fieldAt (hT : MT T mi) (hw : wfT T) {f way k : Nat} (hf : f < T 0 0 * T 0 1) (hway : way < 2) (hk : k < 10) (h1 : fitN T (k + 1) f way = true → Q (some (.int (nI (plN T f way k)))) (mi, ml, R0 rd, 136)) (h0 : fitN T (k + 1) f way = false → Q (some (.int (-1))) (mi, ml, R0 rd, 136)) : Cd (d + 1) k_Mod_fieldAt [.ref 95, .int (nI f), .int (nI way), .int (nI k)] (mi, ml, R0 rd, 136) Q := by
  have w1 := hw.w1; have w8 := hw.w8; have hh1 := hw.h1; have hh6 := hw.h6; have hfl := hw.fl
  have ew := hT.wide
  have eh := hT.high
  have hdm := Nat.div_add_mod f (T 0 0)
  have hmod := Nat.mod_lt f (show T 0 0 > 0 by omega)
  have hdiv : f / T 0 0 < T 0 1 := Nat.div_lt_of_lt_mul hf
  have ne0 : ¬ mi 95 12 = 0 := fun e => by rw [ew] at e; have := iZ e; omega
  have er : nI f - nI f / mi 95 12 * mi 95 12 = nI (f % T 0 0) := by rw [ew]; exact pk_rem (by omega) (by omega) (by omega)
  have ed : nI f / mi 95 12 = nI (f / T 0 0) := by rw [ew]; exact pk_div (by omega) (by omega) (by omega)
  unfold fitN plN stN at *
  refine r_Mod_fieldAt (by decide) (fun K Kl hK hC => ⟨ne0, ?_⟩)
  rw [er]
  refine ⟨fun a => ⟨ne0, ?_⟩, fun a => ⟨ne0, ?_⟩⟩
  · have a := iNZ a
    have hw1 : way = 1 := by omega
    subst hw1
    rw [ed]
    refine ⟨fun b => absurd rfl b, fun _ => ⟨fun b => ?_, fun b => ⟨fun c => ⟨rfl, h0 ?_⟩, fun c => ⟨rfl, ?_⟩⟩⟩⟩
    · have b : mi 95 12 ≤ nI (f % T 0 0) + nI 0 := b
      rw [ew, nI_add] at b
      have := iLE b
      omega
    · have c : mi 95 13 ≤ nI (f / T 0 0) + nI k := c
      rw [eh, nI_add] at c
      have := iLE c
      rw [if_neg (by omega)]
      exact decide_eq_false (by omega)
    · have c : ¬ mi 95 13 ≤ nI (f / T 0 0) + nI k := c
      rw [eh, nI_add] at c
      have := iNLE c
      have hq := h1 (by rw [if_neg (by omega)]; exact decide_eq_true (by omega))
      rw [if_neg (by omega), show f + k * T 0 0 = T 0 0 * (f / T 0 0 + k) + (f % T 0 0 + 0) by rw [Nat.mul_add, Nat.mul_comm k]; omega, ← nI_add, ← pk_mul, ← ew, ← nI_add (f / T 0 0), ← nI_add (f % T 0 0)] at hq
      exact hq
  · have a := iZ a
    subst a
    rw [ed]
    refine ⟨fun _ => ⟨fun b => ⟨rfl, h0 ?_⟩, fun b => ⟨fun c => ?_, fun c => ⟨rfl, ?_⟩⟩⟩, fun b => absurd b (by decide)⟩
    · have b : mi 95 12 ≤ nI (f % T 0 0) + nI k := b
      rw [ew, nI_add] at b
      have := iLE b
      rw [if_pos rfl]
      exact decide_eq_false (by omega)
    · have c : mi 95 13 ≤ nI (f / T 0 0) + nI 0 := c
      rw [eh, nI_add] at c
      have := iLE c
      omega
    · have b : ¬ mi 95 12 ≤ nI (f % T 0 0) + nI k := b
      rw [ew, nI_add] at b
      have := iNLE b
      have hq := h1 (by rw [if_pos rfl]; exact decide_eq_true (by omega))
      rw [if_pos rfl, Nat.mul_one, show f + k = T 0 0 * (f / T 0 0 + 0) + (f % T 0 0 + k) by rw [Nat.add_zero]; omega, ← nI_add (T 0 0 * (f / T 0 0 + 0)), ← pk_mul, ← ew, ← nI_add (f / T 0 0), ← nI_add (f % T 0 0)] at hq
      exact hq
theorem t_wordLong (hT : MT T mi) (hw : wfT T) {w : Nat} (hwd : w < T 0 4) (hQ : Q (some (.int (nI (lenN (T 7 w))))) (mi, ml, R0 rd, 136)) : Cd (d + 3) k_Mod_wordLong [.ref 95, .int (nI w)] (mi, ml, R0 rd, 136) Q := by
  have h6 := hw.wd6
  have e := hT.wn w hwd
  refine r_Mod_wordLong (by decide) (fun K Kl hK hC => ⟨w, by omega, rfl, ?_⟩)
  rw [e]
  exact hC _ _ _ _ (s_Mod_longOf (hw.wn w hwd).1 ⟨rfl, hQ⟩)
theorem t_wordShape (hT : MT T mi) (hw : wfT T) {w k : Nat} (hwd : w < T 0 4) (hk : k < 6) (hQ : Q (some (.int (nI (wantN T w k)))) (mi, ml, R0 rd, 136)) : Cd (d + 3) k_Mod_wordShape [.ref 95, .int (nI w), .int (nI k)] (mi, ml, R0 rd, 136) Q := by
  have h6 := hw.wd6
  have e := hT.wn w hwd
  have hl := letN_lt (T 7 w) k
  refine r_Mod_wordShape (by decide) (fun K Kl hK hC => ⟨w, by omega, rfl, ?_⟩)
  rw [e]
  exact hC _ _ _ _ (s_Mod_letterOf hk (hw.wn w hwd).1 (hC _ _ _ _ (t_shapeOf hT hw (by omega) ⟨rfl, hQ⟩)))
theorem t_lies (hT : MT T mi) (hw : wfT T) {w f way : Nat} (hwd : w < T 0 4) (hf : f < T 0 0 * T 0 1) (hway : way < 2) (h1 : liN T w f way = true → Q (some (.int (nI 1))) (mi, ml, R0 rd, 136)) (h0 : liN T w f way = false → Q (some (.int (nI 0))) (mi, ml, R0 rd, 136)) : Cd (d + 4) k_Mod_lies [.ref 95, .int (nI w), .int (nI f), .int (nI way)] (mi, ml, R0 rd, 136) Q := by
  have hfl := hw.fl
  have hl6 := lenN_le (T 7 w)
  have hl1 := (hw.wn w hwd).2
  unfold liN at h1 h0
  have lp : fitN T (lenN (T 7 w)) f way = true → ∀ j, j ≤ lenN (T 7 w) → (∀ i, i < j → (!(wantN T w i == 0)) = true) → GoM (d + 3) k_Mod_lies 136 Q 25 [.ref 95, .int (nI w), .int (nI f), .int (nI way), .int (nI (lenN (T 7 w))), .int (nI j)] [] (mi, ml, R0 rd, 136) := by
    intro hfit
    refine upto ?_ ?_
    · intro hall
      refine g_Mod_lies (fun K Kl hK hC => ⟨fun _ => ⟨Or.inr rfl, rfl, h1 (by rw [hfit, allN_iff.mpr hall]; rfl)⟩, fun a => absurd (iNLE a) (by omega)⟩)
    · intro j hj ih hall
      have hs := shpN_le hw (letN (T 7 w) j)
      refine g_Mod_lies (fun K Kl hK hC => ⟨fun a => absurd (iLE a) (by omega), fun _ => hC _ _ _ _ (t_wordShape hT hw hwd (by omega) ⟨fun a => ?_, fun a => ⟨Or.inl rfl, rfl, h0 ?_⟩⟩)⟩)
      · have a := iNZ a
        have ih := ih (lt_s hall (by simp [a]))
        rw [nI1 j] at ih
        exact hK _ _ _ _ ih
      · have a : wantN T w j = 0 := iZ a (by unfold wantN; omega)
        rw [allN_not hj (by simp [a]), Bool.and_false]
  have em : nI (lenN (T 7 w)) - nI 1 = nI (lenN (T 7 w) - 1) := pk_sub hl1
  have fa : ∀ P : Option Value → Mm → Prop, (fitN T (lenN (T 7 w)) f way = true → ∀ q, q < 48 → P (some (.int (nI q))) (mi, ml, R0 rd, 136)) → (fitN T (lenN (T 7 w)) f way = false → P (some (.int (-1))) (mi, ml, R0 rd, 136)) → Cd (d + 3) k_Mod_fieldAt [.ref 95, .int (nI f), .int (nI way), .int (nI (lenN (T 7 w)) - nI 1)] (mi, ml, R0 rd, 136) P := by
    intro P p1 p0
    rw [em]
    refine t_fieldAt hT hw hf hway (by omega) (fun hfit => ?_) (fun hfit => ?_)
    · rw [show lenN (T 7 w) - 1 + 1 = lenN (T 7 w) by omega] at hfit
      have := plN_lt hw hf hfit (show lenN (T 7 w) - 1 < lenN (T 7 w) by omega)
      exact p1 hfit _ (by omega)
    · rw [show lenN (T 7 w) - 1 + 1 = lenN (T 7 w) by omega] at hfit
      exact p0 hfit
  refine r_Mod_lies (by decide) (fun K Kl hK hC => hC _ _ _ _ (t_wordLong hT hw hwd (hC _ _ _ _ (fa _ (fun hfit q hq => ⟨fun _ => hK _ _ _ _ (lp hfit 0 (Nat.zero_le _) lt_0), fun a => absurd (nI_pos' (by omega)) a⟩) (fun hfit => ⟨fun a => absurd a (by decide), fun _ => ⟨Or.inl rfl, rfl, h0 (by rw [hfit]; rfl)⟩⟩)))))
end
