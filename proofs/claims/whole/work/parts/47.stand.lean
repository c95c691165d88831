/-! WHERE A WORD STANDS; A WORD PUT UP (the class) -/
/-- a word stands read (rl: the letter read in each field) at a place -/
def stdN (T : Nat → Nat → Nat) (rl : Nat → Nat) (w f way : Nat) : Bool := fitN T (lenN (T 7 w)) f way && allN (fun k => decide (rl (plN T f way k) = letN (T 7 w) k)) (lenN (T 7 w))
/-- at how many places -/
def cntN (T : Nat → Nat → Nat) (rl : Nat → Nat) (w : Nat) : Nat := sumN (fun p => if stdN T rl w (p / 2) (p % 2) then 1 else 0) (2 * (T 0 0 * T 0 1))
/-- the first j letters put up -/
def putJ (T : Nat → Nat → Nat) (sh : Nat → Nat) (w f way : Nat) : Nat → Nat → Nat
  | 0 => sh
  | j + 1 => fun x => if x = plN T f way j then wantN T w j else putJ T sh w f way j x
def putN (T : Nat → Nat → Nat) (sh : Nat → Nat) (w f way : Nat) : Nat → Nat := if fitN T (lenN (T 7 w)) f way then putJ T sh w f way (lenN (T 7 w)) else sh
theorem sumN_le {f : Nat → Nat} {n : Nat} (h : ∀ i, f i ≤ 1) : sumN f n ≤ n := by
  induction n with
  | zero => exact Nat.le_refl _
  | succ n ih => have := h n; unfold sumN; omega
theorem cntN_le {T : Nat → Nat → Nat} (hw : wfT T) (rl : Nat → Nat) (w : Nat) : cntN T rl w ≤ 96 := by
  have h1 := hw.fl
  have h2 : cntN T rl w ≤ 2 * (T 0 0 * T 0 1) := sumN_le (fun i => by split <;> omega)
  omega
theorem pl_half {T : Nat → Nat → Nat} {p : Nat} (h : p < 2 * (T 0 0 * T 0 1)) : p / 2 < T 0 0 * T 0 1 := by omega
theorem putJ_le {T : Nat → Nat → Nat} (hw : wfT T) {sh : Nat → Nat} (hs : ∀ f, sh f ≤ 511) (w f way : Nat) : ∀ j x, putJ T sh w f way j x ≤ 511
  | 0, x => hs x
  | j + 1, x => by
    unfold putJ
    split
    · exact wantN_le hw w j
    · exact putJ_le hw hs w f way j x
section
variable {d : Nat} {Q : Option Value → Mm → Prop} {T S : Nat → Nat → Nat} {mi : Nat → Nat → Int32} {ml : Nat → Nat → Int64} {rd : Option Nat}
theorem s_isWritten (hT : CT 0 T mi) (hw : wfT T) {rl : Nat → Nat} (hrl : ∀ f, f < 48 → mi 90 f = nI (rl f) ∧ rl f ≤ 26) {w f way : Nat} (hwd : w < T 0 4) (hf : f < T 0 0 * T 0 1) (hway : way < 2) (h1 : stdN T rl w f way = true → Q (some (.int (nI 1))) (mi, ml, R0 rd, 136)) (h0 : stdN T rl w f way = false → Q (some (.int (nI 0))) (mi, ml, R0 rd, 136)) : Cd (d + 3) k_Search_isWritten [.ref 84, .int (nI w), .int (nI f), .int (nI way)] (mi, ml, R0 rd, 136) Q := by
  have h6 := hw.wd6
  have hfl := hw.fl
  have hlen := lenN_le (T 7 w)
  have el : mi 18 w = nI (lenN (T 7 w)) := hT.wlen w hwd
  have lp : fitN T (lenN (T 7 w)) f way = true → ∀ j, j ≤ lenN (T 7 w) → (∀ i, i < j → rl (plN T f way i) = letN (T 7 w) i) → GoM (d + 2) k_Search_isWritten 136 Q 43 [.ref 84, .int (nI w), .int (nI f), .int (nI way), .int (nI (lenN (T 7 w))), .int (nI (stN T way)), .int (nI j)] [] (mi, ml, R0 rd, 136) := by
    intro hfit
    refine upto ?_ ?_
    · intro hall
      refine g_Search_isWritten (fun K Kl hK hC => ?_)
      refine ⟨fun h => ⟨Or.inr rfl, rfl, h1 ?_⟩, fun h => absurd (iNLE h) (by omega)⟩
      unfold stdN
      rw [hfit, allN_iff.mpr (fun i hi => by simp [hall i hi])]
      rfl
    · intro j hj ih hall
      have hpl := plN_lt hw hf hfit hj
      have hr := hrl (plN T f way j) (by omega)
      have hl := letN_lt (T 7 w) j
      have epl : nI f + nI j * nI (stN T way) = nI (plN T f way j) := by rw [pk_mul, nI_add]; rfl
      refine g_Search_isWritten (fun K Kl hK hC => ?_)
      refine ⟨fun h => absurd (iLE h) (by omega), fun h => ⟨plN T f way j, by omega, epl, ?_⟩⟩
      rw [hr.1]
      refine hC _ _ _ _ (s_letterOf hT hw hwd (by omega) ?_)
      refine ⟨fun h2 => ?_, fun h2 => ⟨Or.inl rfl, rfl, h0 ?_⟩⟩
      · have ih := ih (lt_s hall (iEQ h2))
        rw [nI1] at ih
        exact hK _ _ _ _ ih
      · unfold stdN
        rw [allN_not hj (by simp [iNE h2]), Bool.and_false]
  refine r_Search_isWritten (by decide) (fun K Kl hK hC => ?_)
  refine ⟨w, by omega, rfl, ?_⟩
  rw [el]
  refine hC _ _ _ _ (s_fits hT hw hlen hf (fun hfit => ?_) (fun hfit => ?_) hway)
  · refine ⟨fun _ => ?_, fun h => absurd h (by decide)⟩
    refine hC _ _ _ _ (s_stepOf hT hway ?_)
    exact hK _ _ _ _ (lp hfit 0 (Nat.zero_le _) lt_0)
  · refine ⟨fun h => absurd (by decide) h, fun _ => ⟨Or.inl rfl, rfl, h0 ?_⟩⟩
    unfold stdN
    rw [hfit, Bool.false_and]
theorem s_placesRead (hT : CT 0 T mi) (hw : wfT T) {rl : Nat → Nat} (hrl : ∀ f, f < 48 → mi 90 f = nI (rl f) ∧ rl f ≤ 26) {w : Nat} (hwd : w < T 0 4) (hQ : Q (some (.int (nI (cntN T rl w)))) (mi, ml, R0 rd, 136)) : Cd (d + 4) k_Search_placesRead [.ref 84, .int (nI w)] (mi, ml, R0 rd, 136) Q := by
  have hfl := hw.fl
  have lp : ∀ j, j ≤ 2 * (T 0 0 * T 0 1) → GoM (d + 3) k_Search_placesRead 136 Q 10 [.ref 84, .int (nI w), .int (nI (sumN (fun p => if stdN T rl w (p / 2) (p % 2) then 1 else 0) j)), .int (nI (2 * (T 0 0 * T 0 1))), .int (nI j)] [] (mi, ml, R0 rd, 136) := by
    refine upto ?_ ?_
    · refine g_Search_placesRead (fun K Kl hK hC => ?_)
      exact ⟨fun h => ⟨rfl, hQ⟩, fun h => absurd (iNLE h) (by omega)⟩
    · intro j hj ih
      refine g_Search_placesRead (fun K Kl hK hC => ?_)
      refine ⟨fun h => absurd (iLE h) (by omega), fun h => ?_⟩
      refine ⟨by decide, ?_⟩
      rw [pk_div (by omega) (by omega) (by omega)]
      refine ⟨by decide, ?_⟩
      rw [pk_rem (by omega) (by omega) (by omega)]
      rw [nI1, sumN] at ih
      refine hC _ _ _ _ (s_isWritten hT hw hrl hwd (pl_half hj) (by omega) (fun hs => ?_) (fun hs => ?_))
      · refine ⟨fun h2 => absurd h2 (by decide), fun _ => ?_⟩
        rw [if_pos hs, nI1] at ih
        exact hK _ _ _ _ ih
      · refine ⟨fun _ => ?_, fun h2 => absurd (by decide) h2⟩
        rw [if_neg (by rw [hs]; decide), Nat.add_zero] at ih
        exact hK _ _ _ _ ih
  refine r_Search_placesRead (by decide) (fun K Kl hK hC => ?_)
  refine hC _ _ _ _ (s_places hT hw ?_)
  exact hK _ _ _ _ (lp 0 (Nat.zero_le _))
theorem s_isRead (hT : CT 0 T mi) (hw : wfT T) {sh : Nat → Nat} (hsh : ∀ f, f < 48 → mi 87 f = nI (sh f) ∧ sh f ≤ 511) {w p h : Nat} (hwd : w < T 0 4) (hp : p < 2 * (T 0 0 * T 0 1)) (hh : h < T 0 5) (h1 : stdN T (fun f => readN T h (sh f)) w (p / 2) (p % 2) = true → Q (some (.int (nI 1))) (mi, ml, R0 rd, 136)) (h0 : stdN T (fun f => readN T h (sh f)) w (p / 2) (p % 2) = false → Q (some (.int (nI 0))) (mi, ml, R0 rd, 136)) : Cd (d + 3) k_Search_isRead [.ref 84, .ref 86, .int (nI w), .int (nI p), .int (nI h)] (mi, ml, R0 rd, 136) Q := by
  have h6 := hw.wd6
  have hfl := hw.fl
  have hlen := lenN_le (T 7 w)
  have hf := pl_half hp
  have el : mi 18 w = nI (lenN (T 7 w)) := hT.wlen w hwd
  have lp : fitN T (lenN (T 7 w)) (p / 2) (p % 2) = true → ∀ j, j ≤ lenN (T 7 w) → (∀ i, i < j → readN T h (sh (plN T (p / 2) (p % 2) i)) = letN (T 7 w) i) → ∀ v8, GoM (d + 2) k_Search_isRead 136 Q 49 [.ref 84, .ref 86, .int (nI w), .int (nI p), .int (nI h), .int (nI (lenN (T 7 w))), .int (nI (stN T (p % 2))), .int (nI j), v8] [] (mi, ml, R0 rd, 136) := by
    intro hfit
    refine upto ?_ ?_
    · intro hall v8
      refine g_Search_isRead (fun K Kl hK hC => ?_)
      refine ⟨fun h => ⟨Or.inr rfl, rfl, h1 ?_⟩, fun h => absurd (iNLE h) (by omega)⟩
      unfold stdN
      rw [hfit, allN_iff.mpr (fun i hi => by simp [hall i hi])]
      rfl
    · intro j hj ih hall v8
      have hpl := plN_lt hw hf hfit hj
      have hr := hsh (plN T (p / 2) (p % 2) j) (by omega)
      have hl := letN_lt (T 7 w) j
      have hrl := readN_le hw h (sh (plN T (p / 2) (p % 2) j))
      have epl : nI (p / 2) + nI j * nI (stN T (p % 2)) = nI (plN T (p / 2) (p % 2) j) := by rw [pk_mul, nI_add]; rfl
      refine g_Search_isRead (fun K Kl hK hC => ?_)
      refine ⟨fun h => absurd (iLE h) (by omega), fun h => ⟨by decide, ?_⟩⟩
      rw [pk_div (by omega) (by omega) (by omega)]
      refine ⟨plN T (p / 2) (p % 2) j, by omega, epl, ?_⟩
      rw [hr.1]
      refine hC _ _ _ _ (s_readFrom hT hw hh (by omega) ?_)
      refine hC _ _ _ _ (s_letterOf hT hw hwd (by omega) ?_)
      refine ⟨fun h2 => ?_, fun h2 => ⟨Or.inl rfl, rfl, h0 ?_⟩⟩
      · have ih := ih (lt_s hall (iEQ h2)) (.int (nI (sh (plN T (p / 2) (p % 2) j))))
        rw [nI1] at ih
        exact hK _ _ _ _ ih
      · unfold stdN
        rw [allN_not hj (by simp [iNE h2]), Bool.and_false]
  refine r_Search_isRead (by decide) (fun K Kl hK hC => ?_)
  refine ⟨w, by omega, rfl, ?_⟩
  rw [el]
  refine ⟨by decide, ?_⟩
  rw [pk_div (by omega) (by omega) (by omega)]
  refine ⟨by decide, ?_⟩
  rw [pk_rem (by omega) (by omega) (by omega)]
  refine hC _ _ _ _ (s_fits hT hw hlen hf (fun hfit => ?_) (fun hfit => ?_) (by omega))
  · refine ⟨fun _ => ⟨by decide, ?_⟩, fun h => absurd h (by decide)⟩
    rw [pk_rem (by omega) (by omega) (by omega)]
    refine hC _ _ _ _ (s_stepOf hT (by omega) ?_)
    exact hK _ _ _ _ (lp hfit 0 (Nat.zero_le _) lt_0 _)
  · refine ⟨fun h => absurd (by decide) h, fun _ => ⟨Or.inl rfl, rfl, h0 ?_⟩⟩
    unfold stdN
    rw [hfit, Bool.false_and]
theorem s_put {b : Nat} (hb : b = 70 ∨ b = 86) (hT : CT 0 T mi) (hw : wfT T) {sh : Nat → Nat} (hsh : ∀ f, f < 48 → mi (b + 1) f = nI (sh f)) {w f way : Nat} (hwd : w < T 0 4) (hf : f < T 0 0 * T 0 1) (hway : way < 2) (hQ : ∀ g : Nat → Int32, (∀ x, x < 48 → g x = nI (putN T sh w f way x)) → Q none (cu mi (b + 1) g, ml, R0 rd, 136)) : Cd (d + 3) k_Search_put [.ref 84, .ref b, .int (nI w), .int (nI f), .int (nI way)] (mi, ml, R0 rd, 136) Q := by
  have h6 := hw.wd6
  have hfl := hw.fl
  have hlen := lenN_le (T 7 w)
  have el : mi 18 w = nI (lenN (T 7 w)) := hT.wlen w hwd
  have lp : fitN T (lenN (T 7 w)) f way = true → ∀ j, j ≤ lenN (T 7 w) → ∀ g : Nat → Int32, (∀ x, x < 48 → g x = nI (putJ T sh w f way j x)) → GoM (d + 2) k_Search_put 136 Q 33 [.ref 84, .ref b, .int (nI w), .int (nI f), .int (nI way), .int (nI (lenN (T 7 w))), .int (nI j)] [] (cu mi (b + 1) g, ml, R0 rd, 136) := by
    intro hfit
    refine upto ?_ ?_
    · intro g hg
      refine g_Search_put (fun K Kl hK hC => ?_)
      refine ⟨fun h => ⟨rfl, hQ g (fun x hx => ?_)⟩, fun h => absurd (iNLE h) (by omega)⟩
      unfold putN
      rw [if_pos hfit]
      exact hg x hx
    · intro j hj ih g hg
      have hpl := plN_lt hw hf hfit hj
      have hT' : CT 0 T (cu mi (b + 1) g) := hT.keep (fun c _ _ => cu_ne (by rcases hb with rfl | rfl <;> omega))
      have epl : nI f + nI j * nI (stN T way) = nI (plN T f way j) := by rw [pk_mul, nI_add]; rfl
      have ih := ih (upd g (plN T f way j) (nI (wantN T w j))) (fun x hx => by
        unfold putJ
        by_cases hxp : x = plN T f way j
        · rw [if_pos hxp, hxp]; exact pk_us
        · rw [if_neg hxp, pk_un hxp]; exact hg x hx)
      rw [nI1, ← cuu] at ih
      refine g_Search_put ?_
      rcases hb with rfl | rfl
      all_goals
        intro K Kl hK hC
        refine ⟨fun h => absurd (iLE h) (by omega), fun h => ?_⟩
        refine hC _ _ _ _ (s_stepOf hT' hway ?_)
        refine hC _ _ _ _ (s_shapeIn hT' hw hwd (by omega) ?_)
        exact ⟨plN T f way j, by omega, epl, hK _ _ _ _ ih⟩
  have ent : RunP m_X7_put 0 (d + 2) k_Search_put 136 Q 0 [.ref 84, .ref b, .int (nI w), .int (nI f), .int (nI way), .null, .null] [] (mi, ml, R0 rd, 136) := by
    intro K Kl hK hC
    refine ⟨w, by omega, rfl, ?_⟩
    rw [el]
    refine hC _ _ _ _ (s_fits hT hw hlen hf (fun hfit => ?_) (fun hfit => ?_) hway)
    · refine ⟨fun _ => ?_, fun h => absurd h (by decide)⟩
      have := lp hfit 0 (Nat.zero_le _) (mi (b + 1)) hsh
      rw [cu_id] at this
      exact hK _ _ _ _ this
    · refine ⟨fun h => absurd (by decide) h, fun _ => ⟨rfl, ?_⟩⟩
      have := hQ (mi (b + 1)) (fun x hx => by unfold putN; rw [if_neg (by rw [hfit]; decide)]; exact hsh x hx)
      rw [cu_id] at this
      exact this
  exact r_Search_put (by decide) ent
end
