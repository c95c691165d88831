/-! THE REFERENCE: a day -/
/-- nothing but the error's mark, shapes and day of b has changed -/
def BF (b : Nat) (mi mi' : Nat → Nat → Int32) : Prop := ∀ c k, (c ≠ 95 ∨ k ≠ 67) → (c ≠ 123 ∨ k < 48 * b ∨ 48 * b + 48 ≤ k) → (c ≠ 124 ∨ k ≠ b) → mi' c k = mi c k
/-- of longs: names, values, the number drawn -/
def DF (ml ml' : Nat → Nat → Int64) : Prop := ∀ c k, c ≠ 121 → c ≠ 122 → (c ≠ 95 ∨ k ≠ 72) → ml' c k = ml c k
theorem BF.none {b : Nat} {mi : Nat → Nat → Int32} : BF b mi mi := fun _ _ _ _ _ => rfl
theorem BF.trans {b : Nat} {m1 m2 m3 : Nat → Nat → Int32} (h : BF b m1 m2) (h' : BF b m2 m3) : BF b m1 m3 := fun c k h1 h2 h3 => (h' c k h1 h2 h3).trans (h c k h1 h2 h3)
theorem LF.bf {b : Nat} {mi mi' : Nat → Nat → Int32} (h : LF mi mi') : BF b mi mi' := fun c k h1 _ _ => h c k h1
theorem BF.sh {b : Nat} {mi mi' : Nat → Nat → Int32} {g : Nat → Int32} (h : BF b mi mi') (hg : ∀ i, (i < 48 * b ∨ 48 * b + 48 ≤ i) → g i = mi' 123 i) : BF b mi (cu mi' 123 g) := fun c k h1 h2 h3 => by
  by_cases e : c = 123
  · subst e
    rw [cu_self, hg k (h2.elim (fun z => absurd rfl z) id)]
    exact h _ _ h1 h2 h3
  · rw [cu_ne e]; exact h _ _ h1 h2 h3
theorem BF.sh1 {b : Nat} {mi mi' : Nat → Nat → Int32} {x : Int32} {f : Nat} (h : BF b mi mi') (hf : f < 48) : BF b mi (cu mi' 123 (upd (mi' 123) (48 * b + f) x)) := h.sh (fun i hi => pk_un (by omega))
theorem BF.dy {b : Nat} {mi mi' : Nat → Nat → Int32} {x : Int32} (h : BF b mi mi') : BF b mi (cu mi' 124 (upd (mi' 124) b x)) := fun c k h1 h2 h3 => by
  by_cases e : c = 124
  · subst e
    rw [cu_self, pk_un (h3.elim (fun z => absurd rfl z) id)]
    exact h _ _ h1 h2 h3
  · rw [cu_ne e]; exact h _ _ h1 h2 h3
theorem BF.c {b c : Nat} {mi mi' : Nat → Nat → Int32} (h : BF b mi mi') (h1 : c ≠ 95) (h2 : c ≠ 123) (h3 : c ≠ 124) : mi' c = mi c := funext (fun k => h c k (Or.inl h1) (Or.inl h2) (Or.inl h3))
theorem BF.k {b k : Nat} {mi mi' : Nat → Nat → Int32} (h : BF b mi mi') (h1 : k ≠ 67) : mi' 95 k = mi 95 k := h 95 k (Or.inr h1) (Or.inl (by decide)) (Or.inl (by decide))
theorem BF.T {b : Nat} {T : Nat → Nat → Nat} {mi mi' : Nat → Nat → Int32} (h : BF b mi mi') (hT : MT T mi) : MT T mi' := hT.h (fun k h1 h2 => h.k (by omega)) (fun c h1 h2 => h.c (by omega) (by omega) (by omega))
theorem BF.K {b : Nat} {T : Nat → Nat → Nat} {mi mi' : Nat → Nat → Int32} (h : BF b mi mi') (hK : MK T mi) : MK T mi' := hK.h (fun c h1 h2 => h.c (by omega) (by omega) (by omega))
theorem BF.mf {mi mi' : Nat → Nat → Int32} (h : BF 1 mi mi') : MF mi mi' := fun c k hk => by
  refine h c k ?_ ?_ ?_
  · by_cases e : c = 95
    · refine Or.inr (fun e2 => ?_)
      rw [e, e2] at hk
      cases hk
    · exact Or.inl e
  · by_cases e : c = 123
    · refine Or.inr (Or.inl ?_)
      rcases Nat.lt_or_ge k 48 with z | z
      · omega
      · have : scr 123 k = true := by
          unfold scr
          rw [show Nat.ble 48 k = true from Nat.ble_eq_true_of_le z]
          rfl
        rw [e, this] at hk
        cases hk
    · exact Or.inl e
  · by_cases e : c = 124
    · refine Or.inr (fun e2 => ?_)
      rw [e, e2] at hk
      cases hk
    · exact Or.inl e
theorem MB.lf {b : Nat} {S : Nat → Nat → Nat} {mi mi' : Nat → Nat → Int32} (h : MB b S mi) (hf : LF mi mi') : MB b S mi' := ⟨fun f hf2 => (hf 123 _ (Or.inl (by decide))).trans (h.1 f hf2), (hf 124 _ (Or.inl (by decide))).trans h.2⟩
theorem DF.none {ml : Nat → Nat → Int64} : DF ml ml := fun _ _ _ _ _ => rfl
theorem DF.trans {m1 m2 m3 : Nat → Nat → Int64} (h : DF m1 m2) (h' : DF m2 m3) : DF m1 m3 := fun c k h1 h2 h3 => (h' c k h1 h2 h3).trans (h c k h1 h2 h3)
theorem ML.df {ml ml' : Nat → Nat → Int64} (h : ML ml ml') : DF ml ml' := fun c k h1 h2 _ => h c k (by
  have e : ∀ a, c ≠ a → Nat.beq c a = false := fun a ha => by
    cases hb : Nat.beq c a with
    | false => rfl
    | true => exact absurd (Nat.eq_of_beq_eq_true hb) ha
  rw [e 121 h1, e 122 h2]
  rfl)
theorem DF.d72 {ml ml' : Nat → Nat → Int64} {x : Int64} (h : DF ml ml') : DF ml (cu ml' 95 (vp_updL (ml' 95) 72 x)) := fun c k h1 h2 h3 => by
  by_cases e : c = 95
  · subst e
    rw [cu_self, pk_uLn (h3.elim (fun z => absurd rfl z) id)]
    exact h _ _ h1 h2 h3
  · rw [cu_ne e]; exact h _ _ h1 h2 h3
theorem DF.ml {ml ml' : Nat → Nat → Int64} (h : DF ml ml') (e : ml' 95 72 = ml 95 72) : ML ml ml' := fun c k hk => by
  rw [Bool.or_eq_false_iff] at hk
  have h1 : c ≠ 121 := fun z => by rw [z] at hk; cases hk.1
  have h2 : c ≠ 122 := fun z => by rw [z] at hk; cases hk.2
  by_cases h3 : c = 95 ∧ k = 72
  · rw [h3.1, h3.2]; exact e
  · exact h c k h1 h2 (by omega)
theorem nxM (s : Nat) : (lN s * 1103515245 + 12345) &&& 2147483647 = lN (nxN s) := by
  rw [show (1103515245 : Int64) = lN 1103515245 from rfl, show (12345 : Int64) = lN 12345 from rfl, show (2147483647 : Int64) = lN (2 ^ 31 - 1) from rfl, lN_mul, lN_add, lmask, nxN_eq]
theorem hiM : ∀ k, k < 9 → ∀ s, s < 2 ^ (k + 1) → ¬ s < 2 ^ k → nI s ^^^ (nI 1 <<< (nI k &&& 31)) = nI (hiN s) := by decide +kernel
theorem hiB : ∀ k, k < 9 → ∀ s, s < 2 ^ (k + 1) → (s / 2 ^ k % 2 = 0 ↔ s < 2 ^ k) := by decide +kernel
section
variable {d : Nat} {Q : Option Value → Mm → Prop} {A : St} {T S : Nat → Nat → Nat} {mi : Nat → Nat → Int32} {ml : Nat → Nat → Int64} {rd : Option Nat} {x y z : Int32}
theorem MB.up {b : Nat} (hS : MB b S mi) {f v : Nat} (hf : f < 48) {x : Int32} (hx : x = nI v) : MB b (sSh S (updN (S 1) f v)) (cu mi 123 (upd (mi 123) (48 * b + f) x)) := ⟨fun a ha => by
  show upd (mi 123) (48 * b + f) x (48 * b + a) = nI (updN (S 1) f v a)
  unfold updN
  by_cases e : a = f
  · rw [e, pk_us, if_pos rfl, hx]
  · rw [pk_un (by omega), if_neg e]; exact hS.1 a ha, hS.2⟩
set_option maxHeartbeats 1000000 in
theorem t_eats (hT : MT T mi) (hK : MK T mi) (hw : wfT T) (hl : wfL T) {b : Nat} (hb : b < 2) (hS : MB b S mi) (hs : wfS T S) (hQ : ∀ mi' ml', BF b mi mi' → ML ml ml' → MB b (sSh S (eatN T S)) mi' → Q none (mi', ml', R0 rd, 136)) : Cd (d + 4) k_Mod_eats [.ref 95, .int (nI b)] (mi, ml, R0 rd, 136) Q := by
  have hfl := hw.fl
  have lp : ∀ j, j ≤ T 0 0 * T 0 1 → ∀ mi' ml' v6 v7, LF mi mi' → ML ml ml' → GoM (d + 3) k_Mod_eats 136 Q 7 [.ref 95, .int (nI b), .int (eP (etN T S j)), .long (eM (etN T S j)), .null, .int (nI j), v6, v7] [] (mi', ml', R0 rd, 136) := by
    refine upto ?_ ?_
    · intro mi' ml' v6 v7 hf hfl2
      have hS' := hS.lf hf
      have hT' := hT.mf hf.mf
      cases hr : etN T S (T 0 0 * T 0 1) with
      | none =>
        have ee : eatN T S = S 1 := by unfold eatN; rw [hr]
        have hq := hQ mi' ml' hf.bf hfl2 (by rw [ee]; exact hS')
        exact g_Mod_eats (fun K Kl hK hC => hC _ _ _ _ (t_fields hT' ⟨fun _ => ⟨fun _ => ⟨rfl, hq⟩, fun a => absurd (by decide) a⟩, fun a => absurd (iNLE a) (by omega)⟩))
      | some t =>
        obtain ⟨f, m⟩ := t
        have hfb := (etN_b (T := T) (S := S) (T 0 0 * T 0 1)).1 f m hr
        have hsf := hs.sh f
        have ef : mi' 123 (48 * b + f) = nI (S 1 f) := hS'.1 f (by omega)
        have ix : nI 48 * nI b + nI f = nI (48 * b + f) := by rw [pk_mul, nI_add]
        have ee : eatN T S = updN (S 1) f (loN (S 1 f)) := by unfold eatN; rw [hr]
        have hq := hQ (cu mi' 123 (upd (mi' 123) (48 * b + f) (mi' 123 (48 * b + f) &&& (mi' 123 (48 * b + f) - nI 1)))) ml' (hf.bf.sh1 (by omega)) hfl2 (by
          rw [ee]
          exact hS'.up (by omega) (by rw [ef]; exact loC _ (by omega) hfb.2))
        exact g_Mod_eats (fun K Kl hK hC => hC _ _ _ _ (t_fields hT' ⟨fun _ => ⟨fun a => (iNN (show nI f < 0 from a) (by omega)).elim, fun _ => ⟨48 * b + f, by omega, ix, ⟨48 * b + f, by omega, ix, ⟨48 * b + f, by omega, ix, ⟨rfl, hq⟩⟩⟩⟩⟩, fun a => absurd (iNLE a) (by omega)⟩))
    · intro j hj ih mi' ml' v6 v7 hf hfl2
      have hS' := hS.lf hf
      have hT' := hT.mf hf.mf
      have hK' := hK.mf hf.mf
      have hsf := hs.sh j
      have ej : mi' 123 (48 * b + j) = nI (S 1 j) := hS'.1 j (by omega)
      have ix : nI 48 * nI b + nI j = nI (48 * b + j) := by rw [pk_mul, nI_add]
      have el : mi' 95 22 = if T 0 9 = 0 then 0 else 1 := hT'.lawTold
      have step : S 1 j ≠ 0 → ∀ mi2 ml2, LF mi mi2 → ML ml ml2 → (eM (etN T S j) < wtN T S j → GoM (d + 3) k_Mod_eats 136 Q 7 [.ref 95, .int (nI b), .int (nI j), .long (wtN T S j), .null, .int (nI j + nI 1), .long (wtN T S j), .null] [] (mi2, ml2, R0 rd, 136)) ∧ (¬ eM (etN T S j) < wtN T S j → GoM (d + 3) k_Mod_eats 136 Q 7 [.ref 95, .int (nI b), .int (eP (etN T S j)), .long (eM (etN T S j)), .null, .int (nI j + nI 1), .long (wtN T S j), .null] [] (mi2, ml2, R0 rd, 136)) := by
        intro hz mi2 ml2 hf2 hfl3
        have ih := ih mi2 ml2 (.long (wtN T S j)) .null hf2 hfl3
        rw [nI1 j] at ih
        constructor
        · intro h
          have en : etN T S (j + 1) = some (j, wtN T S j) := by
            unfold etN
            rw [if_neg hz]
            cases hr : etN T S j with
            | none => rw [hr] at h; exact if_pos h
            | some t => rw [hr] at h; exact if_pos h
          rw [en] at ih
          exact ih
        · intro h
          have en : etN T S (j + 1) = etN T S j := by
            conv => lhs; unfold etN
            rw [if_neg hz]
            cases hr : etN T S j with
            | none => rw [hr] at h; exact if_neg h
            | some t => rw [hr] at h; exact if_neg h
          rw [en] at ih
          exact ih
      refine g_Mod_eats (fun K Kl hK hC => hC _ _ _ _ (t_fields hT' ⟨fun a => absurd (iLE a) (by omega), fun _ => ⟨48 * b + j, by omega, ix, ⟨fun z => ?_, fun z => ?_⟩⟩⟩))
      · have z : ¬ mi' 123 (48 * b + j) = 0 := z
        rw [ej] at z
        have hz := iNZ z
        by_cases h9 : T 0 9 = 0
        · rw [if_pos h9] at el
          have ew : wtN T S j = 1 := by unfold wtN; rw [if_pos h9]
          have st := step hz mi' ml' hf hfl2
          rw [ew] at st
          exact ⟨fun _ => ⟨fun y => hK _ _ _ _ (st.1 (cGt y)), fun y => hK _ _ _ _ (st.2 (cNGt y))⟩, fun y => absurd el y⟩
        · rw [if_neg h9] at el
          refine ⟨fun y => absurd (el.symm.trans y) (by decide), fun _ => hC _ _ _ _ (t_lawOf hT' hK' hw hl h9 hb hS' hs hj (fun mi2 ml2 f2 l2 z67 => ?_))⟩
          have ew : wtN T S j = (lwN T S j).getD 0 := by
            unfold wtN
            rw [if_neg h9]
            cases lwN T S j <;> rfl
          have st := step hz mi2 ml2 (hf.trans f2) (hfl2.trans l2)
          rw [ew] at st
          exact ⟨fun y => hK _ _ _ _ (st.1 (cGt y)), fun y => hK _ _ _ _ (st.2 (cNGt y))⟩
      · have z : mi' 123 (48 * b + j) = 0 := z
        rw [ej] at z
        have hz : S 1 j = 0 := iZ z
        have en : etN T S (j + 1) = etN T S j := by
          conv => lhs; unfold etN
          rw [if_pos hz]
        have ih := ih mi' ml' v6 v7 hf hfl2
        rw [en, nI1 j] at ih
        exact hK _ _ _ _ ih
  exact r_Mod_eats (by decide) (fun K Kl hK hC => hK _ _ _ _ (lp 0 (Nat.zero_le _) mi ml _ _ LF.none ML.none))
end
