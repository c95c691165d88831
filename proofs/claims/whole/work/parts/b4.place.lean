/-! THE REFERENCE: set, cost, barred, sets, read -/
section
variable {d : Nat} {Q : Option Value → Mm → Prop} {T S : Nat → Nat → Nat} {mi : Nat → Nat → Int32} {ml : Nat → Nat → Int64} {rd : Option Nat} {x y z : Int32}
/-- the field of the k-th letter of a word that fits -/
theorem t_fieldIn (hT : MT T mi) (hw : wfT T) {w f way k : Nat} (hf : f < T 0 0 * T 0 1) (hway : way < 2) (hk : k < lenN (T 7 w)) (hfit : fitN T (lenN (T 7 w)) f way = true) (hQ : Q (some (.int (nI (plN T f way k)))) (mi, ml, R0 rd, 136)) : Cd (d + 1) k_Mod_fieldAt [.ref 95, .int (nI f), .int (nI way), .int (nI k)] (mi, ml, R0 rd, 136) Q :=
  t_fieldAt hT hw hf hway (by have := lenN_le (T 7 w); omega) (fun _ => hQ) (fun h => by rw [fit_le hfit (by omega)] at h; cases h)
theorem li_fit {w f way : Nat} (h : liN T w f way = true) : fitN T (lenN (T 7 w)) f way = true := by
  unfold liN at h
  rw [Bool.and_eq_true] at h
  exact h.1
theorem ix48 {b p : Nat} : nI 48 * nI b + nI p = nI (48 * b + p) := by rw [pk_mul, nI_add]
theorem t_canSet (hT : MT T mi) (hw : wfT T) {b : Nat} (hb : b < 2) {sh : Nat → Nat} (hsh : ∀ f, f < 48 → mi 123 (48 * b + f) = nI (sh f) ∧ sh f ≤ 511) {w f way : Nat} (hwd : w < T 0 4) (hf : f < T 0 0 * T 0 1) (hway : way < 2) (h1 : csN T sh w f way = true → Q (some (.int (nI 1))) (mi, ml, R0 rd, 136)) (h0 : csN T sh w f way = false → Q (some (.int (nI 0))) (mi, ml, R0 rd, 136)) : Cd (d + 5) k_Mod_canSet [.ref 95, .int (nI b), .int (nI w), .int (nI f), .int (nI way)] (mi, ml, R0 rd, 136) Q := by
  have hfl := hw.fl
  have hl6 := lenN_le (T 7 w)
  unfold csN at h1 h0
  have lp : liN T w f way = true → ∀ j, j ≤ lenN (T 7 w) → (∀ i, i < j → ((sh (plN T f way i) == 0) || (sh (plN T f way i) == wantN T w i)) = true) → ∀ v6, GoM (d + 4) k_Mod_canSet 136 Q 16 [.ref 95, .int (nI b), .int (nI w), .int (nI f), .int (nI way), .int (nI j), v6] [] (mi, ml, R0 rd, 136) := by
    intro hli
    have hfit := li_fit hli
    refine upto ?_ ?_
    · intro hall v6
      refine g_Mod_canSet (fun K Kl hK hC => hC _ _ _ _ (t_wordLong hT hw hwd ⟨fun _ => ⟨Or.inr rfl, rfl, h1 (by rw [hli, allN_iff.mpr hall]; rfl)⟩, fun a => absurd (iNLE a) (by omega)⟩))
    · intro j hj ih hall v6
      have hpl := plN_lt hw hf hfit hj
      have hs := hsh (plN T f way j) (by omega)
      have hwl := shpN_le hw (letN (T 7 w) j)
      have go : ((sh (plN T f way j) == 0) || (sh (plN T f way j) == wantN T w j)) = true → ∀ v6, GoM (d + 4) k_Mod_canSet 136 Q 16 [.ref 95, .int (nI b), .int (nI w), .int (nI f), .int (nI way), .int (nI j + nI 1), v6] [] (mi, ml, R0 rd, 136) := fun hc v6 => by
        have ih := ih (lt_s hall hc) v6
        rw [nI1 j] at ih
        exact ih
      refine g_Mod_canSet (fun K Kl hK hC => hC _ _ _ _ (t_wordLong hT hw hwd ⟨fun a => absurd (iLE a) (by omega), fun _ => hC _ _ _ _ (t_fieldIn hT hw hf hway hj hfit ⟨48 * b + plN T f way j, by omega, ix48, ?_⟩)⟩))
      rw [hs.1]
      refine ⟨fun a => hK _ _ _ _ (go (by simp [iZ a]) _), fun a => hC _ _ _ _ (t_wordShape hT hw hwd (by omega) ⟨fun c => hK _ _ _ _ (go ?_ _), fun c => ⟨Or.inl rfl, rfl, h0 ?_⟩⟩)⟩
      · have c : sh (plN T f way j) = wantN T w j := iEQ c (by omega) (by unfold wantN; omega)
        simp [c]
      · have a := iNZ a
        have c := iNE c
        rw [allN_not hj (by simp [a, c]), Bool.and_false]
  refine r_Mod_canSet (by decide) (fun K Kl hK hC => hC _ _ _ _ (t_lies hT hw hwd hf hway (fun hli => ⟨fun _ => hK _ _ _ _ (lp hli 0 (Nat.zero_le _) lt_0 .null), fun a => absurd a (by decide)⟩) (fun hli => ⟨fun a => absurd (by decide) a, fun _ => ⟨Or.inl rfl, rfl, h0 (by rw [hli]; rfl)⟩⟩)))
theorem cd_le (hw : wfT T) {sh : Nat → Nat} {fr w f way : Nat} : ∀ j, sumN (cstN T sh (feX T fr 0) w f way) j ≤ j * 891 := fun j => sumN_bd (fun i _ => by
  have hfe : feX T fr 0 (plN T f way i) ≤ 100 := by
    have := feeN_le hw (plN T f way i)
    unfold feX
    split
    · omega
    · split <;> omega
  unfold cstN
  split
  · have h1 := bcN_le (wantN T w i)
    calc bcN (wantN T w i) * (feX T fr 0 (plN T f way i) - 1) ≤ 9 * 99 := Nat.mul_le_mul h1 (by omega)
      _ = 891 := rfl
  · omega)
set_option maxHeartbeats 1000000 in
theorem t_costOf (hT : MT T mi) (hw : wfT T) {b : Nat} (hb : b < 2) {sh : Nat → Nat} (hsh : ∀ f, f < 48 → mi 123 (48 * b + f) = nI (sh f) ∧ sh f ≤ 511) {fr : Nat} (hfr : mi 95 75 = nI fr - 1) (hfr5 : fr ≤ 5) {w f way : Nat} (hwd : w < T 0 4) (hf : f < T 0 0 * T 0 1) (hway : way < 2) (hcs : csN T sh w f way = true) (hQ : Q (some (.int (nI (cdN T sh fr w f way)))) (mi, ml, R0 rd, 136)) : Cd (d + 4) k_Mod_costOf [.ref 95, .int (nI b), .int (nI w), .int (nI f), .int (nI way)] (mi, ml, R0 rd, 136) Q := by
  have hfl := hw.fl
  have hl6 := lenN_le (T 7 w)
  have hli : liN T w f way = true := by
    unfold csN at hcs
    rw [Bool.and_eq_true] at hcs
    exact hcs.1
  have hfit := li_fit hli
  have lp : ∀ j, j ≤ lenN (T 7 w) → ∀ v7, GoM (d + 3) k_Mod_costOf 136 Q 6 [.ref 95, .int (nI b), .int (nI w), .int (nI f), .int (nI way), .int (nI (sumN (cstN T sh (feX T fr 0) w f way) j)), .int (nI j), v7] [] (mi, ml, R0 rd, 136) := by
    refine upto ?_ ?_
    · intro v7
      refine g_Mod_costOf (fun K Kl hK hC => hC _ _ _ _ (t_wordLong hT hw hwd ⟨fun _ => ⟨rfl, hQ⟩, fun a => absurd (iNLE a) (by omega)⟩))
    · intro j hj ih v7
      have hpl := plN_lt hw hf hfit hj
      have hs := hsh (plN T f way j) (by omega)
      have how := hT.own (plN T f way j) (by omega)
      have ho5 := hw.ow (plN T f way j)
      have h5 := hw.own5
      have hwl := shpN_le hw (letN (T 7 w) j)
      have hfe := feeN_le hw (plN T f way j)
      have es : sumN (cstN T sh (feX T fr 0) w f way) (j + 1) = sumN (cstN T sh (feX T fr 0) w f way) j + cstN T sh (feX T fr 0) w f way j := rfl
      rw [es, nI1 j] at ih
      have e0 : feX T fr 0 (plN T f way j) = if fr ≠ 0 ∧ T 4 (plN T f way j) = fr then 1 else feeN T (plN T f way j) + 1 := by
        unfold feX
        rw [if_neg (show ¬ (0 ≠ 0 ∧ T 4 (plN T f way j) = 0) from fun z => z.1 rfl)]
      have paid : sh (plN T f way j) = 0 → ¬ (fr ≠ 0 ∧ T 4 (plN T f way j) = fr) → ∀ v7, GoM (d + 3) k_Mod_costOf 136 Q 6 [.ref 95, .int (nI b), .int (nI w), .int (nI f), .int (nI way), .int (nI (sumN (cstN T sh (feX T fr 0) w f way) j) + nI (bcN (wantN T w j)) * nI (feeN T (plN T f way j))), .int (nI j + nI 1), v7] [] (mi, ml, R0 rd, 136) := fun hz hn v7 => by
        have ih := ih v7
        rw [show cstN T sh (feX T fr 0) w f way j = bcN (wantN T w j) * feeN T (plN T f way j) by unfold cstN; rw [if_pos hz, e0, if_neg hn, Nat.add_sub_cancel], ← nI_add, ← pk_mul] at ih
        exact ih
      refine g_Mod_costOf (fun K Kl hK hC => hC _ _ _ _ (t_wordLong hT hw hwd ⟨fun a => absurd (iLE a) (by omega), fun _ => hC _ _ _ _ (t_fieldIn hT hw hf hway hj hfit ⟨48 * b + plN T f way j, by omega, ix48, ?_⟩)⟩))
      rw [hs.1]
      refine ⟨fun a => ⟨fun c => ?_, fun c => ⟨plN T f way j, by omega, rfl, fun e => ?_, fun e => ?_⟩⟩, fun a => ?_⟩
      · have hz := iZ a
        have hfz : fr = 0 := by
          rw [hfr] at c
          rcases Nat.eq_zero_or_pos fr with y | y
          · exact y
          · exact absurd ((nI_predge (by omega)).mpr (by omega)) (lt_not c)
        exact hC _ _ _ _ (t_wordShape hT hw hwd (by omega) (hC _ _ _ _ (s_Mod_manyOf (by unfold wantN; omega) (hC _ _ _ _ (t_priceOf hT hw (by omega) (hK _ _ _ _ (paid hz (fun z => z.1 hfz) _)))))))
      · have hz := iZ a
        have hno : ¬ (fr ≠ 0 ∧ T 4 (plN T f way j) = fr) := fun y => e (by rw [how, hfr, y.2])
        exact hC _ _ _ _ (t_wordShape hT hw hwd (by omega) (hC _ _ _ _ (s_Mod_manyOf (by unfold wantN; omega) (hC _ _ _ _ (t_priceOf hT hw (by omega) (hK _ _ _ _ (paid hz hno _)))))))
      · have hz := iZ a
        rw [hfr] at c
        have hfn : fr ≠ 0 := (nI_predge (by omega)).mp (Int32.not_lt.mp c)
        have heq : T 4 (plN T f way j) = fr := by
          rw [how, hfr] at e
          obtain ⟨q, hq⟩ : ∃ q, fr = q + 1 := ⟨fr - 1, by omega⟩
          rw [hq, nI_pred] at e
          rcases Nat.eq_zero_or_pos (T 4 (plN T f way j)) with y | y
          · rw [y] at e
            exact absurd e (i_neg_ne (x := nI 0 - 1) (by decide) (by omega))
          · obtain ⟨r, hr⟩ : ∃ r, T 4 (plN T f way j) = r + 1 := ⟨T 4 (plN T f way j) - 1, by omega⟩
            rw [hr, nI_pred] at e
            have := iEQ e
            omega
        have ih := ih (.int (nI (plN T f way j)))
        rw [show cstN T sh (feX T fr 0) w f way j = 0 by unfold cstN; rw [if_pos hz, e0, if_pos ⟨hfn, heq⟩, Nat.sub_self, Nat.mul_zero], ← nI_add] at ih
        exact hK _ _ _ _ ih
      · have ih := ih (.int (nI (plN T f way j)))
        rw [show cstN T sh (feX T fr 0) w f way j = 0 by unfold cstN; rw [if_neg (iNZ a)]] at ih
        exact hK _ _ _ _ ih
  refine r_Mod_costOf (by decide) (fun K Kl hK hC => hK _ _ _ _ (lp 0 (Nat.zero_le _) .null))
theorem t_isBarred (hT : MT T mi) (hw : wfT T) {br : Nat} (hbr : mi 95 76 = nI br - 1) (hbr5 : br ≤ 5) {w f way : Nat} (hwd : w < T 0 4) (hf : f < T 0 0 * T 0 1) (hway : way < 2) (hfit : fitN T (lenN (T 7 w)) f way = true) (h1 : baN T br w f way = true → Q (some (.int (nI 1))) (mi, ml, R0 rd, 136)) (h0 : baN T br w f way = false → Q (some (.int (nI 0))) (mi, ml, R0 rd, 136)) : Cd (d + 4) k_Mod_isBarred [.ref 95, .int (nI w), .int (nI f), .int (nI way)] (mi, ml, R0 rd, 136) Q := by
  have hfl := hw.fl
  have hl6 := lenN_le (T 7 w)
  unfold baN at h1 h0
  have lp : ∀ j, j ≤ lenN (T 7 w) → (∀ i, i < j → (!(T 4 (plN T f way i) == br)) = true) → GoM (d + 3) k_Mod_isBarred 136 Q 3 [.ref 95, .int (nI w), .int (nI f), .int (nI way), .int (nI j)] [] (mi, ml, R0 rd, 136) := by
    refine upto ?_ ?_
    · intro hall
      refine g_Mod_isBarred (fun K Kl hK hC => hC _ _ _ _ (t_wordLong hT hw hwd ⟨fun _ => ⟨Or.inl rfl, rfl, h0 (by rw [allN_iff.mpr hall, Bool.not_true, Bool.and_false])⟩, fun a => absurd (iNLE a) (by omega)⟩))
    · intro j hj ih hall
      have hpl := plN_lt hw hf hfit hj
      have how := hT.own (plN T f way j) (by omega)
      have ho5 := hw.ow (plN T f way j)
      have h5 := hw.own5
      refine g_Mod_isBarred (fun K Kl hK hC => hC _ _ _ _ (t_wordLong hT hw hwd ⟨fun a => absurd (iLE a) (by omega), fun _ => ⟨fun a => ⟨Or.inl rfl, rfl, h0 ?_⟩, fun a => hC _ _ _ _ (t_fieldIn hT hw hf hway hj hfit ⟨plN T f way j, by omega, rfl, fun e => ?_, fun e => ⟨Or.inr rfl, rfl, h1 ?_⟩⟩)⟩⟩))
      · have hz : br = 0 := by
          have a : mi 95 76 < 0 := a
          rw [hbr] at a
          rcases Nat.eq_zero_or_pos br with y | y
          · exact y
          · exact absurd ((nI_predge (by omega)).mpr (by omega)) (lt_not a)
        rw [hz]
        rfl
      · have hne : T 4 (plN T f way j) ≠ br := fun y => e (by rw [how, hbr, y])
        have ih := ih (lt_s hall (by simp [hne]))
        rw [nI1 j] at ih
        exact hK _ _ _ _ ih
      · have a : ¬ mi 95 76 < 0 := a
        rw [hbr] at a
        have hbn : br ≠ 0 := (nI_predge (by omega)).mp (Int32.not_lt.mp a)
        have heq : T 4 (plN T f way j) = br := by
          rw [how, hbr] at e
          obtain ⟨q, hq⟩ : ∃ q, br = q + 1 := ⟨br - 1, by omega⟩
          rw [hq, nI_pred] at e
          rcases Nat.eq_zero_or_pos (T 4 (plN T f way j)) with y | y
          · rw [y] at e
            exact absurd e (i_neg_ne (x := nI 0 - 1) (by decide) (by omega))
          · obtain ⟨r, hr⟩ : ∃ r, T 4 (plN T f way j) = r + 1 := ⟨T 4 (plN T f way j) - 1, by omega⟩
            rw [hr, nI_pred] at e
            have := iEQ e
            omega
        rw [allN_not hj (by simp [heq])]
        simp [hbn]
  refine r_Mod_isBarred (by decide) (fun K Kl hK hC => hK _ _ _ _ (lp 0 (Nat.zero_le _) lt_0))
theorem t_setsIn (hT : MT T mi) (hw : wfT T) {b : Nat} (hb : b < 2) {sh : Nat → Nat} (hsh : ∀ f, f < 48 → mi 123 (48 * b + f) = nI (sh f)) {w f way : Nat} (hwd : w < T 0 4) (hf : f < T 0 0 * T 0 1) (hway : way < 2) (hfit : fitN T (lenN (T 7 w)) f way = true) (hQ : ∀ g : Nat → Int32, (∀ x, x < 48 → g (48 * b + x) = nI (putN T sh w f way x)) → (∀ i, (i < 48 * b ∨ 48 * b + 48 ≤ i) → g i = mi 123 i) → Q none (cu mi 123 g, ml, R0 rd, 136)) : Cd (d + 4) k_Mod_setsIn [.ref 95, .int (nI b), .int (nI w), .int (nI f), .int (nI way)] (mi, ml, R0 rd, 136) Q := by
  have hfl := hw.fl
  have hl6 := lenN_le (T 7 w)
  have hT1 : ∀ g, (∀ i, (i < 48 * b ∨ 48 * b + 48 ≤ i) → g i = mi 123 i) → MT T (cu mi 123 g) := fun g _ => hT
  have lp : ∀ j, j ≤ lenN (T 7 w) → ∀ g : Nat → Int32, (∀ x, x < 48 → g (48 * b + x) = nI (putJ T sh w f way j x)) → (∀ i, (i < 48 * b ∨ 48 * b + 48 ≤ i) → g i = mi 123 i) → GoM (d + 3) k_Mod_setsIn 136 Q 3 [.ref 95, .int (nI b), .int (nI w), .int (nI f), .int (nI way), .int (nI j)] [] (cu mi 123 g, ml, R0 rd, 136) := by
    refine upto ?_ ?_
    · intro g hg hg2
      refine g_Mod_setsIn (fun K Kl hK hC => hC _ _ _ _ (t_wordLong (hT1 g hg2) hw hwd ⟨fun _ => ⟨rfl, hQ g (fun x hx => ?_) hg2⟩, fun a => absurd (iNLE a) (by omega)⟩))
      unfold putN
      rw [if_pos hfit]
      exact hg x hx
    · intro j hj ih g hg hg2
      have hpl := plN_lt hw hf hfit hj
      have ih := ih (upd g (48 * b + plN T f way j) (nI (wantN T w j))) (fun x hx => by
        show _ = nI (if x = plN T f way j then wantN T w j else putJ T sh w f way j x)
        by_cases e : x = plN T f way j
        · rw [if_pos e, e]; exact pk_us
        · rw [if_neg e, pk_un (by omega)]; exact hg x hx) (fun i hi => by rw [pk_un (by omega)]; exact hg2 i hi)
      rw [nI1 j, ← cuu] at ih
      refine g_Mod_setsIn (fun K Kl hK hC => hC _ _ _ _ (t_wordLong (hT1 g hg2) hw hwd ⟨fun a => absurd (iLE a) (by omega), fun _ => hC _ _ _ _ (t_fieldIn (hT1 g hg2) hw hf hway hj hfit (hC _ _ _ _ (t_wordShape (hT1 g hg2) hw hwd (by omega) ⟨48 * b + plN T f way j, by omega, ix48, hK _ _ _ _ ih⟩)))⟩))
  refine r_Mod_setsIn (by decide) (fun K Kl hK hC => ?_)
  have l0 := lp 0 (Nat.zero_le _) (mi 123) hsh (fun _ _ => rfl)
  rw [cu_id] at l0
  exact hK _ _ _ _ l0
theorem t_isRead (hT : MT T mi) (hw : wfT T) {b : Nat} (hb : b < 2) {sh : Nat → Nat} (hsh : ∀ f, f < 48 → mi 123 (48 * b + f) = nI (sh f) ∧ sh f ≤ 511) {w f way h : Nat} (hwd : w < T 0 4) (hf : f < T 0 0 * T 0 1) (hway : way < 2) (hh : h < T 0 5) (h1 : stdN T (fun x => readN T h (sh x)) w f way = true → Q (some (.int (nI 1))) (mi, ml, R0 rd, 136)) (h0 : stdN T (fun x => readN T h (sh x)) w f way = false → Q (some (.int (nI 0))) (mi, ml, R0 rd, 136)) : Cd (d + 5) k_Mod_isRead [.ref 95, .int (nI b), .int (nI w), .int (nI f), .int (nI way), .int (nI h)] (mi, ml, R0 rd, 136) Q := by
  have hfl := hw.fl
  have h6 := hw.wd6
  have hl6 := lenN_le (T 7 w)
  have ewn := hT.wn w hwd
  have lp : fitN T (lenN (T 7 w)) f way = true → ∀ j, j ≤ lenN (T 7 w) → (∀ i, i < j → decide (readN T h (sh (plN T f way i)) = letN (T 7 w) i) = true) → GoM (d + 4) k_Mod_isRead 136 Q 16 [.ref 95, .int (nI b), .int (nI w), .int (nI f), .int (nI way), .int (nI h), .int (nI j)] [] (mi, ml, R0 rd, 136) := by
    intro hfit
    refine upto ?_ ?_
    · intro hall
      refine g_Mod_isRead (fun K Kl hK hC => hC _ _ _ _ (t_wordLong hT hw hwd ⟨fun _ => ⟨Or.inr rfl, rfl, h1 (by unfold stdN; rw [hfit, allN_iff.mpr hall]; rfl)⟩, fun a => absurd (iNLE a) (by omega)⟩))
    · intro j hj ih hall
      have hpl := plN_lt hw hf hfit hj
      have hs := hsh (plN T f way j) (by omega)
      have hrl := readN_le hw h (sh (plN T f way j))
      have hlt := letN_lt (T 7 w) j
      refine g_Mod_isRead (fun K Kl hK hC => hC _ _ _ _ (t_wordLong hT hw hwd ⟨fun a => absurd (iLE a) (by omega), fun _ => hC _ _ _ _ (t_fieldIn hT hw hf hway hj hfit ⟨48 * b + plN T f way j, by omega, ix48, ?_⟩)⟩))
      rw [hs.1]
      refine hC _ _ _ _ (t_readOf hT hw hh (by omega) ⟨w, by omega, rfl, ?_⟩)
      rw [ewn]
      refine hC _ _ _ _ (s_Mod_letterOf (by omega) (hw.wn w hwd).1 ⟨fun a => ?_, fun a => ⟨Or.inl rfl, rfl, h0 ?_⟩⟩)
      · have ih := ih (lt_s hall (decide_eq_true (iEQ a)))
        rw [nI1 j] at ih
        exact hK _ _ _ _ ih
      · unfold stdN
        rw [allN_not hj (decide_eq_false (iNE a)), Bool.and_false]
  refine r_Mod_isRead (by decide) (fun K Kl hK hC => hC _ _ _ _ (t_lies hT hw hwd hf hway (fun hli => ⟨fun _ => hK _ _ _ _ (lp (li_fit hli) 0 (Nat.zero_le _) lt_0), fun a => absurd a (by decide)⟩) (fun hli => ⟨fun a => absurd (by decide) a, fun _ => ⟨Or.inl rfl, rfl, h0 ?_⟩⟩)))
  cases hs : stdN T (fun x => readN T h (sh x)) w f way with
  | false => rfl
  | true => rw [std_li hw hs] at hli; cases hli
theorem t_arePlace (hT : MT T mi) (hw : wfT T) (h1 : ∀ w f v, w < T 0 4 → f < T 0 0 * T 0 1 → v < 2 → x = nI w → y = nI f → z = nI v → Q (some (.int (nI 1))) (mi, ml, R0 rd, 136)) (h0 : (ixo x (T 0 4) = none ∨ ixo y (T 0 0 * T 0 1) = none ∨ ixo z 2 = none) → Q (some (.int (nI 0))) (mi, ml, R0 rd, 136)) : Cd (d + 3) k_Mod_arePlace [.ref 95, .int x, .int y, .int z] (mi, ml, R0 rd, 136) Q := by
  refine r_Mod_arePlace (by decide) (fun K Kl hK hC => ?_)
  refine hC _ _ _ _ (t_isWord hT hw (fun w hw1 e => ⟨fun z => absurd z (by decide), fun _ => ?_⟩) (fun hno => ⟨fun _ => ⟨Or.inl rfl, rfl, h0 (Or.inl (ixo_none hno))⟩, fun z => absurd (by decide) z⟩))
  refine hC _ _ _ _ (t_isField hT hw (fun f hf e2 => ⟨fun z => absurd z (by decide), fun _ => ?_⟩) (fun hno => ⟨fun _ => ⟨Or.inl rfl, rfl, h0 (Or.inr (Or.inl (ixo_none hno)))⟩, fun z => absurd (by decide) z⟩))
  refine hC _ _ _ _ (t_isWay (fun v hv e3 => ⟨fun z => absurd z (by decide), fun _ => ⟨Or.inr rfl, rfl, h1 w f v hw1 hf hv e e2 e3⟩⟩) (fun hno => ⟨fun _ => ⟨Or.inl rfl, rfl, h0 (Or.inr (Or.inr (ixo_none hno)))⟩, fun z => absurd (by decide) z⟩))
end
