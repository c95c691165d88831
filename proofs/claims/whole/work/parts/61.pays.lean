/-! WHERE IT PAYS BEST; WHAT IS TRIED (the class) -/
theorem pyB_sel {m g : Int32} {a b w j : Nat} (h1 : w < 6 ∧ j < 96) (h2 : a < 6 ∧ b < 96) : pyB (if m < g then some (g, w, j) else some (m, a, b)) := by
  intro m2 w2 p2 he
  split at he
  · cases he; exact h1
  · cases he; exact h2
theorem pyB_some {g : Int32} {w j : Nat} (h1 : w < 6 ∧ j < 96) : pyB (some (g, w, j)) := by
  intro m2 w2 p2 he
  cases he; exact h1
theorem pyP_bd {T S : Nat → Nat → Nat} {h w : Nat} {r : Option (Int32 × Nat × Nat)} (hr : pyB r) (hw : w < 6) : ∀ j, j ≤ 96 → pyB (pyP T S h w r j)
  | 0, _ => hr
  | j + 1, hj => by
    have ih := pyP_bd (T := T) (S := S) (h := h) hr hw j (by omega)
    rw [pyP]
    cases costN T (S 1) (feA T) w (j / 2) (j % 2) with
    | none => exact ih
    | some c =>
      generalize pyG T S h w j c = g
      show pyB (if S 0 1 < c then pyP T S h w r j else _)
      by_cases hc : S 0 1 < c
      · rw [if_pos hc]; exact ih
      · rw [if_neg hc]
        cases hr2 : pyP T S h w r j with
        | none => exact pyB_some ⟨hw, by omega⟩
        | some t => exact pyB_sel ⟨hw, by omega⟩ (ih t.1 t.2.1 t.2.2 hr2)
theorem pyA_bd {T S : Nat → Nat → Nat} (hT : wfT T) {h : Nat} : ∀ w, w ≤ 6 → pyB (pyA T S h w)
  | 0, _ => fun m w p he => by cases he
  | w + 1, hw => pyP_bd (pyA_bd hT w (by omega)) (by omega) _ (by have := hT.fl; omega)
theorem gainI {a b : Nat} (ha : a < 2 ^ 30) (hb : b < 2 ^ 30) : ¬ nI a - nI b ≤ -2147483648 := by
  rw [Int32.le_iff_toInt_le, pk_sub_toInt ha hb]
  show ¬ ((a : Int) - b ≤ -2147483648)
  omega
theorem gainM {a a' b : Nat} {x : Int32} (h : a ≤ a') (ha : a' < 2 ^ 30) (hb : b < 2 ^ 30) (hx : nI a' - nI b ≤ x) : nI a - nI b ≤ x := by
  rw [Int32.le_iff_toInt_le, pk_sub_toInt (by omega) hb] at *
  omega
/-- the scene after k days tried -/
noncomputable def trS (T : Nat → Nat → Nat) (c e r : Bool) (S : Nat → Nat → Nat) : Nat → Nat → Nat → Nat
  | 0 => S
  | k + 1 => passN T c e r (trS T c e r S k)
theorem trS_day (T : Nat → Nat → Nat) (c e r : Bool) (S : Nat → Nat → Nat) : ∀ k, trS T c e r S k 0 0 = S 0 0 + k
  | 0 => rfl
  | k + 1 => by
    rw [trS, passN_day, trS_day T c e r S k]
    rfl
theorem trS_wf {T S : Nat → Nat → Nat} (hs : wfS T S) (c e r : Bool) {n : Nat} (hn : S 0 0 + n ≤ 1100) : ∀ k, k ≤ n → wfS T (trS T c e r S k)
  | 0, _ => hs
  | k + 1, hk => (trS_wf hs c e r hn k (by omega)).pass c e r (by rw [trS_day]; omega)
def trO (T : Nat → Nat → Nat) (S : Nat → Nat → Nat) (o : Nat) : Nat → Nat → Nat := sSh S (fun f => if T 4 f = o + 1 then 0 else S 1 f)
/-- tried otherwise: 0 nothing cut, 1 nothing eaten, 2 no rain, 3 an owner cuts at once -/
noncomputable def triedN (T S : Nat → Nat → Nat) (what o n : Nat) : Nat :=
  stkAll (trS T (!(what == 0)) (!(what == 1)) (!(what == 2)) (if what = 3 then trO T S o else S) (min n (999 - S 0 0)) 1)
section
variable {d : Nat} {Q : Option Value → Mm → Prop} {T S : Nat → Nat → Nat} {mi : Nat → Nat → Int32} {ml : Nat → Nat → Int64} {rd : Option Nat}
set_option maxHeartbeats 2000000 in
theorem s_payBest (hT : CT 0 T mi) (hw : wfT T) (hl : wfL T) (hS : CS 70 S mi) (hs : wfS T S) (hd : S 0 0 ≤ 999) {h : Nat} (hh : h < T 0 5) (hQ : ∀ mi' ml', Fr [35, 84, 86, 87, 88] mi mi' → Fr [36] ml ml' → PY (pyA T S h (T 0 4)) (mi' 84) → Q none (mi', ml', R0 rd, 136)) : Cd (d + 7) k_Search_payBest [.ref 84, .int (nI h)] (mi, ml, R0 rd, 136) Q := by
  have hfl := hw.fl
  have h6 := hw.wd6
  have hpu := hs.pu
  have inner : ∀ w, w < T 0 4 → (∀ v5 v6 v7 v8 mi' ml', Fr [35, 84, 86, 87, 88] mi mi' → Fr [36] ml ml' → PY (pyA T S h (w + 1)) (mi' 84) → GoM (d + 6) k_Search_payBest 136 Q 36 [.ref 84, .int (nI h), .int (nI (2 * (T 0 0 * T 0 1))), .int (nI (min 99 (1000 - S 0 0))), .int (nI w + nI 1), v5, v6, v7, v8] [] (mi', ml', R0 rd, 136)) → ∀ j, j ≤ 2 * (T 0 0 * T 0 1) → ∀ v7 v8 mi' ml', Fr [35, 84, 86, 87, 88] mi mi' → Fr [36] ml ml' → PY (pyP T S h w (pyA T S h w) j) (mi' 84) → GoM (d + 6) k_Search_payBest 136 Q 69 [.ref 84, .int (nI h), .int (nI (2 * (T 0 0 * T 0 1))), .int (nI (min 99 (1000 - S 0 0))), .int (nI w), .int (nI (T 8 w)), .int (nI j), v7, v8] [] (mi', ml', R0 rd, 136) := by
    intro w hwd ihw
    have hww := hw.ww w hwd
    refine upto ?_ ?_
    · intro v7 v8 mi' ml' hf1 hf2 hg
      refine g_Search_payBest (fun K Kl hK hC => ?_)
      exact ⟨fun _ => hK _ _ _ _ (ihw _ _ _ _ mi' ml' hf1 hf2 hg), fun h1 => absurd (iNLE h1) (by omega)⟩
    · intro j hj ih v7 v8 mi' ml' hf1 hf2 hg
      have hT1 := hT.fr hf1 rfl
      have hS1 := hS.fr hf1 rfl rfl rfl
      have ep : mi' 70 1 = nI (S 0 1) := hS1.purse
      have skip : pyP T S h w (pyA T S h w) (j + 1) = pyP T S h w (pyA T S h w) j → ∀ v7 v8, ∀ mi2 ml2, Fr [35, 84, 86, 87, 88] mi mi2 → Fr [36] ml ml2 → mi2 84 = mi' 84 → GoM (d + 6) k_Search_payBest 136 Q 69 [.ref 84, .int (nI h), .int (nI (2 * (T 0 0 * T 0 1))), .int (nI (min 99 (1000 - S 0 0))), .int (nI w), .int (nI (T 8 w)), .int (nI j + nI 1), v7, v8] [] (mi2, ml2, R0 rd, 136) := by
        intro he v7 v8 mi2 ml2 g1 g2 g84
        have ih := ih v7 v8 mi2 ml2 g1 g2 (by rw [he, g84]; exact hg)
        rw [nI1 j] at ih
        exact ih
      refine g_Search_payBest (fun K Kl hK hC => ?_)
      refine ⟨fun h1 => absurd (iLE h1) (by omega), fun _ => ⟨by decide, ?_⟩⟩
      rw [pk_div (by omega) (by omega) (by omega)]
      refine ⟨by decide, ?_⟩
      rw [pk_rem (by omega) (by omega) (by omega)]
      refine hC _ _ _ _ (s_costOf (Or.inl rfl) (Or.inl rfl) hT1 hw (hS1.sh hs) (hT1.feeA hw) hwd (pl_half hj) (by omega) ?_)
      cases hc : costN T (S 1) (feA T) w (j / 2) (j % 2) with
      | none =>
        exact ⟨fun _ => hK _ _ _ _ (skip (by rw [pyP, hc]) _ _ mi' ml' hf1 hf2 rfl), fun h1 => absurd (by decide) h1⟩
      | some c =>
        have hcl := costN_le (feA_le hw) hc
        refine ⟨fun h1 => (iNN h1).elim, fun _ => ⟨fun h1 => ?_, fun h1 => ?_⟩⟩
        · have h1 : mi' 70 1 < nI c := h1
          rw [ep] at h1
          have h1 := iLT h1
          exact hK _ _ _ _ (skip (by rw [pyP, hc]; exact if_pos h1) _ _ mi' ml' hf1 hf2 rfl)
        · have h1 : ¬ mi' 70 1 < nI c := h1
          rw [ep] at h1
          have h1 := iNLT h1
          have hlife := lifeN_le T S w (j / 2) (j % 2) h
          have hlife2 := lifeN_le2 (T := T) w (j / 2) (j % 2) h hd
          have hm1 : T 8 w * lifeN T S w (j / 2) (j % 2) h ≤ T 8 w * min 99 (1000 - S 0 0) := Nat.mul_le_mul_left _ (by omega)
          have hm2 : T 8 w * min 99 (1000 - S 0 0) ≤ 99 * 99 := Nat.mul_le_mul hww (Nat.min_le_left _ _)
          have hstep : pyP T S h w (pyA T S h w) (j + 1) = match pyP T S h w (pyA T S h w) j with
              | none => some (pyG T S h w j c, w, j)
              | some (m, a, b) => if m < pyG T S h w j c then some (pyG T S h w j c, w, j) else some (m, a, b) := by
            rw [pyP, hc]
            exact if_neg (by omega)
          have hG : nI (T 8 w) * nI (lifeN T S w (j / 2) (j % 2) h) - nI c = pyG T S h w j c := by unfold pyG; rw [pk_mul]
          refine ⟨fun h2 => ?_, fun h2 => ?_⟩
          · refine ⟨by decide, ?_⟩
            rw [pk_div (by omega) (by omega) (by omega)]
            refine ⟨by decide, ?_⟩
            rw [pk_rem (by omega) (by omega) (by omega)]
            refine hC _ _ _ _ (s_lifeOf hT1 hw hl hS1 hs hd hwd (pl_half hj) (by omega) hh (fun mi2 ml2 g1 g2 => ?_))
            have g84 : mi2 84 = mi' 84 := g1 84 rfl
            have f1 : Fr [35, 84, 86, 87, 88] mi mi2 := hf1.trans (g1.mono rfl)
            have f2 := hf2.trans g2
            have take : pyP T S h w (pyA T S h w) (j + 1) = some (pyG T S h w j c, w, j) → GoM (d + 6) k_Search_payBest 136 Q 69 [.ref 84, .int (nI h), .int (nI (2 * (T 0 0 * T 0 1))), .int (nI (min 99 (1000 - S 0 0))), .int (nI w), .int (nI (T 8 w)), .int (nI j + nI 1), .int (nI c), .int (pyG T S h w j c)] [] (cu (cu (cu mi2 84 (upd (mi2 84) 5 (pyG T S h w j c))) 84 (upd (cu mi2 84 (upd (mi2 84) 5 (pyG T S h w j c)) 84) 4 (nI w))) 84 (upd (cu (cu mi2 84 (upd (mi2 84) 5 (pyG T S h w j c))) 84 (upd (cu mi2 84 (upd (mi2 84) 5 (pyG T S h w j c)) 84) 4 (nI w)) 84) 2 (nI j)), ml2, R0 rd, 136) := by
              intro he
              have ih := ih (.int (nI c)) (.int (pyG T S h w j c)) _ ml2 (((f1.cu (c := 84) (g := upd (mi2 84) 5 (pyG T S h w j c)) rfl).cu (c := 84) (g := upd (cu mi2 84 (upd (mi2 84) 5 (pyG T S h w j c)) 84) 4 (nI w)) rfl).cu (c := 84) (g := upd (cu (cu mi2 84 (upd (mi2 84) 5 (pyG T S h w j c))) 84 (upd (cu mi2 84 (upd (mi2 84) 5 (pyG T S h w j c)) 84) 4 (nI w)) 84) 2 (nI j)) rfl) f2 (by rw [he]; exact ⟨rfl, rfl, rfl⟩)
              rw [nI1 j] at ih
              exact ih
            refine ⟨fun h3 => ?_, fun h3 => ?_⟩
            · refine hK _ _ _ _ (skip ?_ _ _ mi2 ml2 f1 f2 g84)
              have h3 : nI (T 8 w) * nI (lifeN T S w (j / 2) (j % 2) h) - nI c ≤ mi2 84 5 := h3
              rw [hG, g84] at h3
              rw [hstep]
              cases hr : pyP T S h w (pyA T S h w) j with
              | none =>
                rw [hr] at hg
                rw [hg.2] at h3
                unfold pyG at h3
                exact absurd h3 (gainI (by omega) (by omega))
              | some t =>
                obtain ⟨m, a, b⟩ := t
                rw [hr] at hg
                rw [hg.1] at h3
                exact if_neg (Int32.not_lt.mpr h3)
            · have h3 : ¬ nI (T 8 w) * nI (lifeN T S w (j / 2) (j % 2) h) - nI c ≤ mi2 84 5 := h3
              rw [hG, g84] at h3
              rw [← hG] at take
              refine hK _ _ _ _ (take ?_)
              rw [hG, hstep]
              cases hr : pyP T S h w (pyA T S h w) j with
              | none => rfl
              | some t =>
                obtain ⟨m, a, b⟩ := t
                rw [hr] at hg
                rw [hg.1] at h3
                exact if_pos (Int32.not_le.mp h3)
          · refine hK _ _ _ _ (skip ?_ _ _ mi' ml' hf1 hf2 rfl)
            have h2 : ¬ mi' 84 5 < nI (T 8 w) * nI (min 99 (1000 - S 0 0)) - nI c := h2
            rw [pk_mul] at h2
            have h2 := Int32.not_lt.mp h2
            rw [hstep]
            cases hr : pyP T S h w (pyA T S h w) j with
            | none =>
              rw [hr] at hg
              rw [hg.2] at h2
              exact absurd h2 (gainI (by omega) (by omega))
            | some t =>
              obtain ⟨m, a, b⟩ := t
              rw [hr] at hg
              rw [hg.1] at h2
              exact if_neg (Int32.not_lt.mpr (gainM hm1 (by omega) (by omega) h2))
  have lp : ∀ w, w ≤ T 0 4 → ∀ v5 v6 v7 v8 mi' ml', Fr [35, 84, 86, 87, 88] mi mi' → Fr [36] ml ml' → PY (pyA T S h w) (mi' 84) → GoM (d + 6) k_Search_payBest 136 Q 36 [.ref 84, .int (nI h), .int (nI (2 * (T 0 0 * T 0 1))), .int (nI (min 99 (1000 - S 0 0))), .int (nI w), v5, v6, v7, v8] [] (mi', ml', R0 rd, 136) := by
    refine upto ?_ ?_
    · intro v5 v6 v7 v8 mi' ml' hf1 hf2 hg
      have ew : mi' 13 1 = nI (T 0 4) := (hT.fr hf1 rfl).words
      refine g_Search_payBest (fun K Kl hK hC => ?_)
      exact ⟨fun _ => ⟨rfl, hQ mi' ml' hf1 hf2 hg⟩, fun h1 => absurd (jNLE h1) (by omega)⟩
    · intro w hwd ih v5 v6 v7 v8 mi' ml' hf1 hf2 hg
      have hT1 := hT.fr hf1 rfl
      have ew : mi' 13 1 = nI (T 0 4) := hT1.words
      have eww : mi' 19 w = nI (T 8 w) := hT1.ww w hwd
      refine g_Search_payBest (fun K Kl hK hC => ?_)
      refine ⟨fun h1 => absurd (jLE h1) (by omega), fun _ => ⟨w, by omega, rfl, ?_⟩⟩
      rw [eww]
      rw [nI1 w] at ih
      exact hK _ _ _ _ (inner w hwd ih 0 (Nat.zero_le _) _ _ mi' ml' hf1 hf2 hg)
  refine r_Search_payBest (by decide) (fun K Kl hK hC => ?_)
  refine hC _ _ _ _ (s_places (hT.fr (L := [84]) (Fr.cu (Fr.cu Fr.none rfl) rfl) rfl) hw ?_)
  have ed : mi 70 0 = nI (S 0 0) := hS.day
  refine hC _ _ _ _ (s_min2 (a := 99) (b := 1000 - S 0 0) (by decide) rfl (by rw [← pk_sub (by omega), ← ed]; rfl) (by omega) (by omega) ?_)
  exact hK _ _ _ _ (lp 0 (Nat.zero_le _) _ _ _ _ _ ml (Fr.cu (Fr.cu Fr.none rfl) rfl) Fr.none ⟨rfl, rfl⟩)
end
