/-! A TEXT IS TAKEN (the class) -/
/-- a name of l letters (or more than six) -/
def nmP (l a : Nat) : Prop := wdI l a ∧ ∀ i, i < 6 → (i < l → 1 ≤ letN a i ∧ letN a i ≤ 26) ∧ (l ≤ i → letN a i = 0)
theorem nmP_0 : nmP 0 0 := ⟨wdI_0, fun i hi => ⟨fun z => absurd z (by omega), fun _ => by unfold letN; rw [Nat.zero_div]⟩⟩
theorem nmP_s {l a c : Nat} (h : nmP l a) (hc : 1 ≤ c ∧ c ≤ 26) : nmP (l + 1) (if l < 6 then a + c * 32 ^ (5 - l) else a) := by
  refine ⟨wdI_s h.1 hc, ?_⟩
  by_cases hl : l < 6
  · rw [if_pos hl]
    have h1 := h.1.1 (by omega)
    have h0 := h.2 0 (by omega); have h10 := h.2 1 (by omega); have h2 := h.2 2 (by omega); have h3 := h.2 3 (by omega); have h4 := h.2 4 (by omega); have h5 := h.2 5 (by omega)
    have : l = 0 ∨ l = 1 ∨ l = 2 ∨ l = 3 ∨ l = 4 ∨ l = 5 := by omega
    intro i hi
    have hi6 : i = 0 ∨ i = 1 ∨ i = 2 ∨ i = 3 ∨ i = 4 ∨ i = 5 := by omega
    unfold letN at *
    rcases this with rfl | rfl | rfl | rfl | rfl | rfl
    all_goals
      rcases hi6 with rfl | rfl | rfl | rfl | rfl | rfl
      all_goals
        simp only [Nat.reduceSub, Nat.reduceMul, Nat.reduceAdd, Nat.reducePow] at h1 h0 h10 h2 h3 h4 h5 ⊢
        omega
  · rw [if_neg hl]
    intro i hi
    have := h.2 i hi
    exact ⟨fun _ => this.1 (by omega), fun z => absurd z (by omega)⟩
theorem wd_nm {b : Nat → Nat} {n : Nat} : ∀ f i l a, nmP l a → ∃ L, l ≤ L ∧ nmP L (wdF b n f i l a) := by
  intro f
  induction f with
  | zero => intro i l a h; exact ⟨l, Nat.le_refl _, h⟩
  | succ f ih =>
    intro i l a h
    unfold wdF
    split
    · rename_i hc
      have := lt_bd hc.2
      obtain ⟨L, h1, h2⟩ := ih (i + 1) (l + 1) _ (nmP_s h (c := b i - 96) (by omega))
      exact ⟨L, by omega, h2⟩
    · exact ⟨l, Nat.le_refl _, h⟩
theorem nmP_ok {L x : Nat} (hL : 1 ≤ L) (h : nmP L x) : nmOK x := by
  have h0 := (h.2 0 (by omega)).1 (by omega)
  have hlen : lenN x = min L 6 := by
    by_cases h6 : L < 6
    · rw [Nat.min_eq_left (by omega)]
      exact fnd_at h6 (by simp [(h.2 L h6).2 (Nat.le_refl _)]) (fun i hi => by have := (h.2 i (by omega)).1 hi; simp; omega)
    · rw [Nat.min_eq_right (by omega)]
      exact fnd_none (fun i hi => by have := (h.2 i hi).1 (by omega); simp; omega)
  exact ⟨h.1.2.1, by omega, fun k h1 h2 => (h.2 k h2).2 (by omega), h0⟩
theorem tk_in {b : Nat → Nat} {n i : Nat} (hi : i < n) : tkK b n i ≠ 0 ∧ tkK b n i ≤ 45 ∧ tkV b n i < 2 ^ 30 ∧ (tkK b n i = 2 → nmOK (tkV b n i)) := by
  have hkw : ∀ x, kwK x ≠ 0 ∧ kwK x ≤ 45 := fun x => by
    unfold kwK
    split <;> omega
  have hsg : ∀ c c2, sgK c c2 ≠ 0 ∧ sgK c c2 ≤ 45 ∧ sgK c c2 ≠ 2 := fun c c2 => by
    unfold sgK
    repeat' split
    all_goals omega
  unfold tkK tkV
  by_cases hd : isDg (b i) = true
  · rw [if_pos hd, if_pos hd]
    have := nuV_le (b := b) (n := n) (i := i) (a := 0) (by omega) (n - i)
    exact ⟨by omega, by omega, by unfold nuV; omega, fun z => by omega⟩
  · rw [if_neg hd, if_neg hd]
    by_cases hl : isLt (b i) = true
    · rw [if_pos hl, if_pos hl]
      obtain ⟨L, h1, h2⟩ := wd_nm (b := b) (n := n) (n - (i + 1)) (i + 1) 1 _ (nmP_s nmP_0 (c := b i - 96) (by have := lt_bd hl; omega))
      have e : wdV b n i 0 0 = wdF b n (n - (i + 1)) (i + 1) 1 (if 0 < 6 then 0 + (b i - 96) * 32 ^ (5 - 0) else 0) := wdV_s hi hl
      have hok := nmP_ok h1 h2
      rw [← e] at hok
      refine ⟨?_, ?_, hok.1, fun _ => hok⟩
      · split
        · omega
        · exact (hkw _).1
      · split
        · omega
        · exact (hkw _).2
    · rw [if_neg hl, if_neg hl]
      have := hsg (b i) (bhN b n i)
      exact ⟨this.1, this.2.1, by decide, fun z => absurd z this.2.2⟩
theorem CTk.re {b : Nat → Nat} {n : Nat} {mi : Nat → Nat → Int32} (h : CTk b n mi) : ∃ m, RE (tK b n) (tV b n) (psN b n) m mi := by
  obtain ⟨m, h1, h2, h3, h4, h5⟩ := h
  refine ⟨m, by omega, ?_, fun i hi => ?_, fun i => ?_, fun i hi => ?_, h5⟩
  · unfold tK
    rw [if_neg (by omega)]
  · unfold tK
    rw [if_pos (h4 i hi)]
    exact (tk_in (h4 i hi)).1
  · have hp := (psN_le (b := b) (n := n) i).1
    unfold tK tV
    by_cases hl : psN b n i < n
    · rw [if_pos hl, if_pos hl]
      have := tk_in (b := b) hl
      exact ⟨this.2.1, this.2.2.1, by omega⟩
    · rw [if_neg hl, if_neg hl]
      exact ⟨by omega, by decide, by omega⟩
  · unfold tK at hi
    unfold tV
    by_cases hl : psN b n i < n
    · rw [if_pos hl] at hi ⊢
      exact (tk_in hl).2.2.2 hi
    · rw [if_neg hl] at hi
      cases hi
def txE (A : St) (e : Nat × Nat) : St := s4 (s4 (s4 A 2 0) 3 e.1) 4 (e.2 + 1)
def txN (A : St) (T : Nat → Nat → Nat) : St := s4 (s4 (s4 (s4 (s4 (cu (cu (cu A 0 T) 1 (bgS T)) 2 (fun _ _ => 0)) 0 0) 1 0) 2 0) 3 0) 4 0
def aText (A : St) (x : Int32) : Int32 × St := match ixo x (A 4 0 2 + 1) with
  | none => (-2, A)
  | some n => match pText (A 4 1) n with
    | .error e => (-1, txE A e)
    | .ok (T, l) => (nI l, txN A T)
theorem CX.fr2 {o l : Nat} {T : Nat → Nat → Nat} {mi mi' : Nat → Nat → Int32} {ml : Nat → Nat → Int64} (h : CX o T l mi ml) (hf : ∀ c, 6 + o ≤ c → c ≤ 34 + o → mi' c = mi c) : CX o T l mi' ml := ⟨h.1.keep hf, by rw [hf _ (Nat.le_refl _) (by omega)]; exact h.2.1, by rw [hf _ (Nat.le_refl _) (by omega)]; exact h.2.2.1, h.2.2.2⟩
theorem RF.up {α : Type} {o : Nat} {m m' : Nat → α} (h : RF o m m') (ho : o = 0 ∨ o = 31) : Up m m' := fun c hc => h c (by rcases ho with rfl | rfl <;> omega) (by omega) (by omega)
section
variable {d : Nat} {Q : Option Value → Mm → Prop} {A : St} {mi : Nat → Nat → Int32} {ml : Nat → Nat → Int64} {rd : Option Nat} {x : Int32}
set_option maxHeartbeats 2000000 in
theorem p_text (hA : CI A mi) (hw : wfA A) (hQ : ∀ mi' ml' rd', CI (aText A x).2 mi' → Up mi mi' → Up ml ml' → Q (some (.int (aText A x).1)) (mi', ml', R0 rd', 136)) : Cd (d + 12) k_Hay_text [.ref 0, .int x] (mi, ml, R0 rd, 136) Q := by
  unfold aText at hQ
  have h700 := hw.f
  have ef : mi 0 1 = nI (A 4 0 2) := hA.f
  refine r_Hay_text (by decide) (fun K Kl hK hC => ⟨fun z => ⟨rfl, ?_⟩, fun z => ⟨fun z2 => ?_, fun z2 => ⟨rfl, ?_⟩⟩⟩)
  · rw [ixo_neg z] at hQ
    exact hQ mi ml rd hA Up.none Up.none
  · have z2 : x ≤ mi 0 1 := z2
    rw [ef] at z2
    obtain ⟨n, hn, rfl⟩ := nI_of z
    have z2 := iLE z2
    rw [ixo_some (n := A 4 0 2 + 1) (by omega)] at hQ
    refine hC _ _ _ _ (s_split (d := d + 5) (b := A 4 1) (fun i hi => ⟨hA.b i (by omega), hw.b i⟩) (by omega) (by omega) (fun m1 f1 hT1 => ?_))
    obtain ⟨m, hR⟩ := hT1.re
    have hQ0 := hQ
    unfold pText at hQ
    refine hC _ _ _ _ (s_readInto (d := d + 3) (o := 31) (Or.inr rfl) hR ?_)
    have g1 : ∀ c, c ≠ 0 → c ≠ 2 → c ≠ 3 → c ≠ 4 → c ≠ 5 → m1 c = mi c := fun c a0 a2 a3 a4 a5 => by
      rw [f1 c (nin_not (fun hm => by simp at hm; omega)), cu_ne a0]
    have g0 : m1 0 = upd (mi 0) 1 (nI 0) := by rw [f1 0 rfl]; exact cu_self
    have up1 : Up mi m1 := fun c hc => g1 c (by omega) (by omega) (by omega) (by omega) (by omega)
    cases hp : pAll (tK (A 4 1) n) (tV (A 4 1) n) (psN (A 4 1) n) 701 tI 0 0 with
    | error e =>
      simp only [hp] at hQ
      intro m2 l2 f2 f3 a b
      refine ⟨fun y => absurd (by decide) y, fun _ => ⟨rfl, ?_⟩⟩
      have k2 : ∀ c, c < 37 ∨ 69 < c → m2 c = m1 c := fun c hc => f2 c (by omega) (by omega) (by omega)
      have h20 : m2 0 = upd (mi 0) 1 (nI 0) := by rw [k2 0 (by omega)]; exact g0
      have kk : ∀ c, (6 ≤ c ∧ c < 37) ∨ 69 < c → m2 c = mi c := fun c hc => by rw [k2 c (by omega), g1 c (by omega) (by omega) (by omega) (by omega) (by omega)]
      refine hQ _ l2 _ ⟨?_, ?_, ?_, ?_, ?_, ?_, ?_, ?_, ?_, ?_⟩ (((up1.trans (f2.up (Or.inr rfl))).cu (by omega)).cu (by omega)) (f3.up (Or.inr rfl))
      · exact hA.T.keep (fun c h1 h2 => by rw [cu_ne (by omega), cu_ne (by omega)]; exact kk c (by omega))
      · have := hA.S
        unfold CS at this ⊢
        rw [cu_ne (by decide), cu_ne (by decide), cu_ne (by decide), cu_ne (by decide), cu_ne (by decide), cu_ne (by decide), kk 70 (by omega), kk (70 + 1) (by omega), kk (70 + 2) (by omega)]
        exact this
      · exact hA.N.fr (fun c h1 h2 => by rw [cu_ne (by omega), cu_ne (by omega)]; exact kk c (by omega))
      · have := hA.P
        unfold CP at this ⊢
        rw [cu_ne (by decide), cu_ne (by decide), cu_ne (by decide), cu_ne (by decide), kk 76 (by omega), kk 77 (by omega)]
        exact this
      · show m2 0 10 = _
        rw [h20]
        exact hA.k
      · intro y
        have := hA.I y
        unfold CS at this ⊢
        rw [cu_ne (by decide), cu_ne (by decide), cu_ne (by decide), cu_ne (by decide), cu_ne (by decide), cu_ne (by decide), kk 73 (by omega), kk (73 + 1) (by omega), kk (73 + 2) (by omega)]
        exact this
      · show m2 0 1 = _
        rw [h20]
        rfl
      · exact fun i hi => absurd hi (Nat.not_lt_zero i)
      · exact a
      · show m2 68 1 = nI (e.2 + 1) - 1
        rw [b, nI_pred]
    | ok r =>
      obtain ⟨T, l⟩ := r
      simp only [hp] at hQ
      intro hT m2 l2 f2 f3 hX2 a b
      refine ⟨fun _ => ?_, fun y => absurd y (by decide)⟩
      have k2 : ∀ c, c < 37 ∨ 69 < c → m2 c = m1 c := fun c hc => f2 c (by omega) (by omega) (by omega)
      have h20 : m2 0 = upd (mi 0) 1 (nI 0) := by rw [k2 0 (by omega)]; exact g0
      have hR3 : RE (tK (A 4 1) n) (tV (A 4 1) n) (psN (A 4 1) n) m (cu (cu m2 0 (upd (m2 0) 2 (m2 68 0))) 0 (upd (cu m2 0 (upd (m2 0) 2 (m2 68 0)) 0) 3 (m2 68 1))) := hR.fr (k2 3 (by omega)) (k2 4 (by omega)) (k2 5 (by omega))
      have u3 : Up mi (cu (cu m2 0 (upd (m2 0) 2 (m2 68 0))) 0 (upd (cu m2 0 (upd (m2 0) 2 (m2 68 0)) 0) 3 (m2 68 1))) := ((up1.trans (f2.up (Or.inr rfl))).cu (by omega)).cu (by omega)
      refine hC _ _ _ _ (s_readInto (d := d + 3) (o := 0) (Or.inl rfl) hR3 ?_)
      rw [hp]
      intro _ m4 l4 f4 f5 hX4 _ _
      have e40 : m4 0 = upd (upd (upd (mi 0) 1 (nI 0)) 2 (m2 68 0)) 3 (m2 68 1) := by
        rw [f4 0 (by omega) (by decide) (by decide), cu_self, cu_self, h20]
        rfl
      have u4 := u3.trans (f4.up (Or.inl rfl))
      refine hC _ _ _ _ (s_Scene_begin (d := d + 9) hX4.1 (fun m5 f6 hS5 => ?_))
      refine hC _ _ _ _ (s_forget (n := 0) (P := A 3) (fun m6 f7 hP6 => ?_))
      refine hC _ _ _ _ (s_Notes_clear (fun m7 f8 hN7 => ⟨Or.inl rfl, rfl, ?_⟩))
      have e70 : m7 0 = m4 0 := by rw [f8 0 rfl, f7 0 rfl, f6 0 rfl]
      have e76 : m7 6 4 = nI l := by rw [f8 6 rfl, f7 6 rfl, f6 6 rfl]; exact hX4.2.2.1
      have hQ := hQ (cu m7 0 (upd (m7 0) 10 (nI 0))) l4 (some (6 + 0)) ⟨?_, ?_, ?_, ?_, rfl, fun y => absurd rfl y, ?_, fun i hi => absurd hi (Nat.not_lt_zero i), ?_, ?_⟩ ((((u4.trans (f6.up rfl)).trans (f7.up rfl)).trans (f8.up rfl)).cu (by omega)) ((f3.up (Or.inr rfl)).trans (f5.up (Or.inl rfl)))
      · rw [← e76] at hQ
        exact hQ
      · exact (((hX4.1.fr f6 rfl).fr f7 rfl).fr f8 rfl).fr (L := [0]) (Fr.cu Fr.none rfl) rfl
      · exact ((hS5.fr f7 rfl rfl rfl).fr f8 rfl rfl rfl).fr (L := [0]) (Fr.cu Fr.none rfl) rfl rfl rfl
      · exact hN7.fr2 (L := [0]) (Fr.cu Fr.none rfl) rfl
      · exact (hP6.fr f8 rfl rfl).fr (L := [0]) (Fr.cu Fr.none rfl) rfl rfl
      · show m7 0 1 = nI 0
        rw [e70, e40]
        rfl
      · show m7 0 2 = nI 0
        rw [e70, e40]
        exact a
      · show m7 0 3 = nI 0 - 1
        rw [e70, e40]
        show m2 68 1 = nI 0 - 1
        rw [b]
        decide
  · have z2 : ¬ x ≤ mi 0 1 := z2
    rw [ef] at z2
    rw [ixo_big (by omega) (Int32.not_le.mp z2)] at hQ
    exact hQ mi ml rd hA Up.none Up.none
end
