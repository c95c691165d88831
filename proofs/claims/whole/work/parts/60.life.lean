/-! HOW LONG A WORD IS READ (the class) -/
/-- the scene k dry days after a word was put up -/
noncomputable def lfS (T S : Nat → Nat → Nat) (w f way : Nat) : Nat → Nat → Nat → Nat
  | 0 => sSh S (putN T (S 1) w f way)
  | k + 1 => passN T true true false (lfS T S w f way k)
noncomputable def lfOk (T S : Nat → Nat → Nat) (w f way h k : Nat) : Bool := decide (lfS T S w f way k 0 0 ≤ 999) && stdN T (fun x => readN T h (lfS T S w f way k 1 x)) w f way
noncomputable def lifeN (T S : Nat → Nat → Nat) (w f way h : Nat) : Nat := fnd (fun k => !lfOk T S w f way h k) 99
theorem lfS_day (T S : Nat → Nat → Nat) (w f way : Nat) : ∀ k, lfS T S w f way k 0 0 = S 0 0 + k
  | 0 => rfl
  | k + 1 => by
    rw [lfS, passN_day, lfS_day T S w f way k]
    rfl
theorem putJ_out {T : Nat → Nat → Nat} (hw : wfT T) {sh : Nat → Nat} {w f way x : Nat} (hf : f < T 0 0 * T 0 1) (hfit : fitN T (lenN (T 7 w)) f way = true) (hx : T 0 0 * T 0 1 ≤ x) : ∀ j, j ≤ lenN (T 7 w) → putJ T sh w f way j x = sh x
  | 0, _ => rfl
  | j + 1, hj => by
    have := plN_lt hw hf hfit (show j < lenN (T 7 w) by omega)
    unfold putJ
    rw [if_neg (by omega)]
    exact putJ_out hw hf hfit hx j (by omega)
theorem wfS.put {T S : Nat → Nat → Nat} (hw : wfT T) (hs : wfS T S) {w f way : Nat} (hf : f < T 0 0 * T 0 1) : wfS T (sSh S (putN T (S 1) w f way)) := by
  refine ⟨fun x => putN_le hw hs.sh w f way x, fun x hx => ?_, hs.day, hs.pu, hs.la, hs.hu, hs.ro⟩
  show putN T (S 1) w f way x = 0
  unfold putN
  split
  · rename_i hfit
    rw [putJ_out hw hf hfit hx _ (Nat.le_refl _)]
    exact hs.sho x hx
  · exact hs.sho x hx
theorem lfS_wf {T S : Nat → Nat → Nat} (hw : wfT T) (hs : wfS T S) (hd : S 0 0 ≤ 999) {w f way : Nat} (hf : f < T 0 0 * T 0 1) : ∀ k, k ≤ 99 → wfS T (lfS T S w f way k)
  | 0, _ => wfS.put hw hs hf
  | k + 1, hk => (lfS_wf hw hs hd hf k (by omega)).pass true true false (by rw [lfS_day]; omega)
theorem lifeN_le (T S : Nat → Nat → Nat) (w f way h : Nat) : lifeN T S w f way h ≤ 99 := fnd_le _ _
theorem lifeN_le2 {T S : Nat → Nat → Nat} (w f way h : Nat) (hd : S 0 0 ≤ 999) : lifeN T S w f way h ≤ 1000 - S 0 0 := by
  rcases Nat.eq_zero_or_pos (lifeN T S w f way h) with z | z
  · omega
  · have := fnd_min (p := fun k => !lfOk T S w f way h k) (n := 99) (i := lifeN T S w f way h - 1) (by unfold lifeN at z ⊢; omega)
    simp only [Bool.not_eq_false'] at this
    unfold lfOk at this
    simp only [Bool.and_eq_true, decide_eq_true_eq] at this
    rw [lfS_day] at this
    omega
/-- the best gain -/
noncomputable def pyG (T S : Nat → Nat → Nat) (h w p c : Nat) : Int32 := nI (T 8 w * lifeN T S w (p / 2) (p % 2) h) - nI c
noncomputable def pyP (T S : Nat → Nat → Nat) (h w : Nat) (r : Option (Int32 × Nat × Nat)) : Nat → Option (Int32 × Nat × Nat)
  | 0 => r
  | j + 1 => match costN T (S 1) (feA T) w (j / 2) (j % 2) with
    | none => pyP T S h w r j
    | some c => if S 0 1 < c then pyP T S h w r j else match pyP T S h w r j with
      | none => some (pyG T S h w j c, w, j)
      | some (m, a, b) => if m < pyG T S h w j c then some (pyG T S h w j c, w, j) else some (m, a, b)
noncomputable def pyA (T S : Nat → Nat → Nat) (h : Nat) : Nat → Option (Int32 × Nat × Nat)
  | 0 => none
  | w + 1 => pyP T S h w (pyA T S h w) (2 * (T 0 0 * T 0 1))
def PY (r : Option (Int32 × Nat × Nat)) (g : Nat → Int32) : Prop := match r with
  | none => g 4 = -1 ∧ g 5 = -2147483648
  | some (m, w, p) => g 5 = m ∧ g 4 = nI w ∧ g 2 = nI p
def pyB (r : Option (Int32 × Nat × Nat)) : Prop := ∀ m w p, r = some (m, w, p) → w < 6 ∧ p < 96
section
variable {d : Nat} {Q : Option Value → Mm → Prop} {T S : Nat → Nat → Nat} {mi : Nat → Nat → Int32} {ml : Nat → Nat → Int64} {rd : Option Nat}
set_option maxHeartbeats 1000000 in
theorem s_lifeOf (hT : CT 0 T mi) (hw : wfT T) (hl : wfL T) (hS : CS 70 S mi) (hs : wfS T S) (hd : S 0 0 ≤ 999) {w f way h : Nat} (hwd : w < T 0 4) (hf : f < T 0 0 * T 0 1) (hway : way < 2) (hh : h < T 0 5) (hQ : ∀ mi' ml', Fr [35, 86, 87, 88] mi mi' → Fr [36] ml ml' → Q (some (.int (nI (lifeN T S w f way h)))) (mi', ml', R0 rd, 136)) : Cd (d + 6) k_Search_lifeOf [.ref 84, .int (nI w), .int (nI f), .int (nI way), .int (nI h)] (mi, ml, R0 rd, 136) Q := by
  have hfl := hw.fl
  have hp2 : (f * 2 + way) / 2 = f := by omega
  have hp3 : (f * 2 + way) % 2 = way := by omega
  have lp : ∀ k, k ≤ 99 → (∀ i, i < k → lfOk T S w f way h i = true) → ∀ mi' ml', Fr [35, 86, 87, 88] mi mi' → Fr [36] ml ml' → CS 86 (lfS T S w f way k) mi' → GoM (d + 5) k_Search_lifeOf 136 Q 32 [.ref 84, .int (nI w), .int (nI f), .int (nI way), .int (nI h), .int (nI f * nI 2 + nI way), .int (nI k)] [] (mi', ml', R0 rd, 136) := by
    refine upto ?_ ?_
    · intro hall mi' ml' hf1 hf2 hS1
      refine g_Search_lifeOf (fun K Kl hK hC => ?_)
      have hQ := hQ mi' ml' hf1 hf2
      rw [show lifeN T S w f way h = 99 from fnd_none (fun i hi => by simp [hall i hi])] at hQ
      exact ⟨fun _ => ⟨rfl, hQ⟩, fun h1 => absurd (iNLE h1) (by omega)⟩
    · intro k hk ih hall mi' ml' hf1 hf2 hS1
      have hwf := lfS_wf hw hs hd hf (w := w) (way := way) k (by omega)
      have hT1 := hT.fr hf1 rfl
      have hdy := lfS_day T S w f way k
      have ed : mi' 86 0 = nI (lfS T S w f way k 0 0) := hS1.day
      have stop : lfOk T S w f way h k = false → Q (some (.int (nI k))) (mi', ml', R0 rd, 136) := by
        intro hno
        have hQ := hQ mi' ml' hf1 hf2
        rw [show lifeN T S w f way h = k from fnd_at hk (by simp [hno]) (fun i hi => by simp [hall i hi])] at hQ
        exact hQ
      refine g_Search_lifeOf (fun K Kl hK hC => ?_)
      refine ⟨fun h1 => absurd (iLE h1) (by omega), fun _ => ⟨fun h1 => ⟨rfl, stop ?_⟩, fun h1 => ?_⟩⟩
      · have h1 : nI 999 < mi' 86 0 := h1
        rw [ed] at h1
        have h1 := iLT h1
        unfold lfOk
        rw [decide_eq_false (by omega), Bool.false_and]
      · have h1 : ¬ nI 999 < mi' 86 0 := h1
        rw [ed] at h1
        have h1 := iNLT h1
        have hrd : ∀ (P : Option Value → Mm → Prop), (stdN T (fun x => readN T h (lfS T S w f way k 1 x)) w f way = true → P (some (.int (nI 1))) (mi', ml', R0 rd, 136)) → (stdN T (fun x => readN T h (lfS T S w f way k 1 x)) w f way = false → P (some (.int (nI 0))) (mi', ml', R0 rd, 136)) → Cd (d + 5) k_Search_isRead [.ref 84, .ref 86, .int (nI w), .int (nI f * nI 2 + nI way), .int (nI h)] (mi', ml', R0 rd, 136) P := by
          intro P p1 p0
          rw [pk_mul, nI_add]
          exact s_isRead (d := d + 2) hT1 hw (hS1.sh hwf) hwd (by omega) hh (by rw [hp2, hp3]; exact p1) (by rw [hp2, hp3]; exact p0)
        refine hC _ _ _ _ (hrd _ (fun hr => ?_) (fun hr => ?_))
        · have hok : lfOk T S w f way h k = true := by
            unfold lfOk
            rw [decide_eq_true (by omega), hr]
            rfl
          refine ⟨fun h2 => absurd h2 (by decide), fun _ => ?_⟩
          refine hC _ _ _ _ (s_pass (d := d) (c := true) (e := true) (r := false) (Or.inr rfl) hT1 hw hl hS1 hwf (Or.inr (Or.inl rfl)) (fun mi2 ml2 g1 g2 hS2 => ?_))
          have ih := ih (lt_s hall hok) mi2 ml2 (hf1.trans (g1.mono rfl)) (hf2.trans g2) hS2
          rw [nI1 k] at ih
          exact hK _ _ _ _ ih
        · refine ⟨fun _ => ⟨rfl, stop ?_⟩, fun h2 => absurd (by decide) h2⟩
          unfold lfOk
          rw [hr, Bool.and_false]
  refine r_Search_lifeOf (by decide) (fun K Kl hK hC => ?_)
  refine hC _ _ _ _ (s_copy (Or.inl ⟨rfl, rfl⟩) hS (fun mi2 hf2 hS2 => ?_))
  have hf3 : Fr [35, 86, 87, 88] mi mi2 := hf2.mono rfl
  refine hC _ _ _ _ (s_put (Or.inr rfl) (hT.fr hf3 rfl) hw (fun f hf => hS2.shape f hf) hwd hf hway (fun g hg => ?_))
  exact hK _ _ _ _ (lp 0 (Nat.zero_le _) lt_0 _ ml (hf3.cu rfl) Fr.none (hS2.setSh hg))
end
