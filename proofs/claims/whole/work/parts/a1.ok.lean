/-! A TEXT THAT CAN BE: the law, a line -/
/-- but for the law the same -/
def LX (T T' : Nat → Nat → Nat) : Prop := (∀ a i, a ≠ 0 → a ≠ 17 → a ≠ 18 → T' a i = T a i) ∧ (∀ i, i ≠ 9 → T' 0 i = T 0 i)
theorem LX.none {T : Nat → Nat → Nat} : LX T T := ⟨fun _ _ _ _ _ => rfl, fun _ _ => rfl⟩
theorem LX.trans {T T' T'' : Nat → Nat → Nat} (h : LX T T') (h' : LX T' T'') : LX T T'' := ⟨fun a i h1 h2 h3 => (h'.1 a i h1 h2 h3).trans (h.1 a i h1 h2 h3), fun i hi => (h'.2 i hi).trans (h.2 i hi)⟩
theorem LX.kn {T : Nat → Nat → Nat} (kd x : Nat) : LX T (aKn T kd x) := by
  refine ⟨fun a i h0 h17 h18 => ?_, fun i hi => ?_⟩
  · unfold aKn t0 tA
    rw [if_neg h0, if_neg h18, if_neg h17]
  · show (if i = 9 then _ else T 0 i) = T 0 i
    rw [if_neg hi]
theorem LX.stl {r : Nat} : ∀ (W : List Nat) (T : Nat → Nat → Nat), LX T (stlN r W T).2
  | [], T => LX.none
  | a :: W, T => by
    unfold stlN
    split
    · exact (LX.kn _ _).trans (LX.stl W _)
    · exact LX.none
theorem wfT_lx {T T' : Nat → Nat → Nat} (h : LX T T') (hk : T' 0 9 ≤ 64) (hw : wfT T) : wfT T' := by
  unfold wfT
  simp only [show ∀ i, T' 1 i = T 1 i from fun i => h.1 1 i (by decide) (by decide) (by decide), show ∀ i, T' 2 i = T 2 i from fun i => h.1 2 i (by decide) (by decide) (by decide), show ∀ i, T' 3 i = T 3 i from fun i => h.1 3 i (by decide) (by decide) (by decide), show ∀ i, T' 4 i = T 4 i from fun i => h.1 4 i (by decide) (by decide) (by decide), show ∀ i, T' 5 i = T 5 i from fun i => h.1 5 i (by decide) (by decide) (by decide), show ∀ i, T' 6 i = T 6 i from fun i => h.1 6 i (by decide) (by decide) (by decide), show ∀ i, T' 7 i = T 7 i from fun i => h.1 7 i (by decide) (by decide) (by decide), show ∀ i, T' 8 i = T 8 i from fun i => h.1 8 i (by decide) (by decide) (by decide), show ∀ i, T' 9 i = T 9 i from fun i => h.1 9 i (by decide) (by decide) (by decide), show ∀ i, T' 10 i = T 10 i from fun i => h.1 10 i (by decide) (by decide) (by decide), show ∀ i, T' 11 i = T 11 i from fun i => h.1 11 i (by decide) (by decide) (by decide), show ∀ i, T' 12 i = T 12 i from fun i => h.1 12 i (by decide) (by decide) (by decide), show ∀ i, T' 13 i = T 13 i from fun i => h.1 13 i (by decide) (by decide) (by decide), show ∀ i, T' 14 i = T 14 i from fun i => h.1 14 i (by decide) (by decide) (by decide), show ∀ i, T' 15 i = T 15 i from fun i => h.1 15 i (by decide) (by decide) (by decide), show ∀ i, T' 16 i = T 16 i from fun i => h.1 16 i (by decide) (by decide) (by decide), show T' 0 0 = T 0 0 from h.2 0 (by decide), show T' 0 1 = T 0 1 from h.2 1 (by decide), show T' 0 2 = T 0 2 from h.2 2 (by decide), show T' 0 3 = T 0 3 from h.2 3 (by decide), show T' 0 4 = T 0 4 from h.2 4 (by decide), show T' 0 5 = T 0 5 from h.2 5 (by decide), show T' 0 6 = T 0 6 from h.2 6 (by decide), show T' 0 7 = T 0 7 from h.2 7 (by decide), show T' 0 8 = T 0 8 from h.2 8 (by decide), show T' 0 10 = T 0 10 from h.2 10 (by decide), show T' 0 11 = T 0 11 from h.2 11 (by decide), show T' 0 12 = T 0 12 from h.2 12 (by decide)]
  exact ⟨hw.w1, hw.w8, hw.h1, hw.h6, hw.own5, hw.gl9, hw.wd6, hw.hl3, hw.co4, hw.sg5, hw.lk3, hk, hw.pu, hw.se, hw.ra, hw.pr, hw.cu, hw.ow, hw.owo, hw.gl, hw.gs, hw.gld, hw.wn, hw.wz, hw.ww, hw.sg, hw.cm, hw.sl, hw.sr, hw.lk, hw.nm⟩
theorem law_end {T : Nat → Nat → Nat} {c : Nat} {W : List Nat} (h : LI T c 0 false W) : wfL (stlN 1 W T).2 ∧ (stlN 1 W T).2 0 9 ≠ 0 ∧ (stlN 1 W T).2 0 9 ≤ 64 := by
  have h1 := h.settle (r := 1) (by omega)
  have he : (stlN 1 W T).1 = [] := by
    cases hW : (stlN 1 W T).1 with
    | nil => rfl
    | cons a W' =>
      have ht := stl_top a W' hW
      obtain ⟨a1, a2, _⟩ := h1
      rw [hW] at a1 a2
      rcases a1 a List.mem_cons_self with e | e
      · have a2 : (if a = 5 then 1 else 0) + opnN W' = 0 := a2
        rw [if_pos e] at a2
        omega
      · omega
  rw [he] at h1
  obtain ⟨_, _, _, h4, h5, h6, h7⟩ := h1
  have h6 : dpN (stlN 1 W T).2 ((stlN 1 W T).2 0 9) = 0 + 1 := h6
  have h4 : (stlN 1 W T).2 0 9 + 0 = c := h4
  refine ⟨⟨h7, fun _ => h6⟩, fun z => ?_, by omega⟩
  rw [z] at h6
  exact absurd h6 (show ¬ (0 = 0 + 1) by decide)
section
variable {k v p : Nat → Nat} {T T' : Nat → Nat → Nat} {j j' : Nat}
theorem val_lx {c o : Nat} {W : List Nat} {c' o' : Nat} {q' : Bool} {W' : List Nat} (he : pVal k v p T c o W j = .ok (T', c', o', q', W')) : LX T T' ∧ k j ≠ 0 := by
  unfold pVal at he
  split at he
  · split at he
    · cases he
    · cases he; exact ⟨LX.none, by omega⟩
  · split at he
    · split at he
      · cases he
      · split at he
        · cases he
        · cases he; exact ⟨LX.none, by omega⟩
    · split at he
      · cases he
      · rename_i hn
        split at he
        · cases he
        · split at he
          · cases he
          · cases he
            refine ⟨?_, by omega⟩
            split
            · exact LX.kn _ _
            · exact LX.kn _ _
theorem sgn_lx {c o : Nat} {W : List Nat} {c' o' : Nat} {q' : Bool} {W' : List Nat} (he : pSgn k v p T c o W j = .ok (T', c', o', q', W')) : LX T T' ∧ k j ≠ 0 := by
  unfold pSgn at he
  split at he
  · cases he; exact ⟨LX.stl _ _, by omega⟩
  · split at he
    · cases he
    · rename_i hr
      split at he
      · cases he
      · split at he
        · cases he
        · cases he
          exact ⟨LX.stl _ _, fun z => hr (Or.inl (by rw [z]; rfl))⟩
theorem law_ok (hk : ∀ i, k i ≤ 45) : ∀ f (T : Nat → Nat → Nat) c o q W j, LI T c o q W → ∀ T' j', pLaw k v p f T c o q W j = .ok (T', j') → LX T T' ∧ wfL T' ∧ T' 0 9 ≠ 0 ∧ T' 0 9 ≤ 64 ∧ j ≤ j' ∧ k j' = 4 := by
  intro f
  induction f with
  | zero => intro T c o q W j _ T' j' h; cases h
  | succ f ih =>
    intro T c o q W j hI T' j' h
    cases q with
    | true =>
      rw [pLaw_t] at h
      cases hv : pVal k v p T c o W j with
      | error e => rw [hv] at h; cases h
      | ok r =>
        obtain ⟨T1, c1, o1, q1, W1⟩ := r
        rw [hv] at h
        have := ih T1 c1 o1 q1 W1 (j + 1) (LI_val hI hv) T' j' h
        exact ⟨(val_lx hv).1.trans this.1, this.2.1, this.2.2.1, this.2.2.2.1, by omega, this.2.2.2.2.2⟩
    | false =>
      rw [pLaw_f] at h
      split at h
      · rename_i hc
        cases h
        obtain ⟨rfl, hc2⟩ := hc
        have := law_end hI
        exact ⟨LX.stl _ _, this.1, this.2.1, this.2.2, Nat.le_refl _, hc2⟩
      · cases hv : pSgn k v p T c o W j with
        | error e => rw [hv] at h; cases h
        | ok r =>
          obtain ⟨T1, c1, o1, q1, W1⟩ := r
          rw [hv] at h
          have := ih T1 c1 o1 q1 W1 (j + 1) (LI_sgn hI (hk j) hv) T' j' h
          exact ⟨(sgn_lx hv).1.trans this.1, this.2.1, this.2.2.1, this.2.2.2.1, by omega, this.2.2.2.2.2⟩
theorem LI_0 (hz : T 0 9 = 0) : LI T 0 0 true [] := ⟨(fun a ha => by cases ha), rfl, by decide, (by rw [hz]; rfl), by decide, (by rw [hz]; rfl), fun i hi => by rw [hz] at hi; exact absurd hi (Nat.not_lt_zero i)⟩
theorem col_ok : ∀ r j l (cs : Nat → Nat), (∀ a, a < l → cs a < T 0 6) → ∀ j' l' cs', pCol k v p T r j l cs = .ok (j', l', cs') → (∀ a, a < l' → cs' a < T 0 6) ∧ j ≤ j' ∧ l ≤ l' ∧ l' ≤ l + r ∧ (r ≠ 0 → 1 ≤ l') := by
  intro r
  induction r with
  | zero =>
    intro j l cs hcs j' l' cs' h
    unfold pCol at h
    split at h
    · cases h
    · cases h
      exact ⟨hcs, Nat.le_refl _, Nat.le_refl _, Nat.le_refl _, fun z => absurd rfl z⟩
  | succ r ih =>
    intro j l cs hcs j' l' cs' h
    unfold pCol at h
    split at h
    · cases ho : pOld k v p (T 11) (T 0 6) j with
      | error e => rw [ho] at h; cases h
      | ok c =>
        rw [ho] at h
        have hc := (pOld_ok ho).2
        have := ih (j + 1) (l + 1) _ (fun a ha => by
          show (if a = l then c else cs a) < T 0 6
          split
          · exact hc
          · exact hcs a (by omega)) j' l' cs' h
        exact ⟨this.1, by omega, by omega, by omega, fun _ => by omega⟩
    · rename_i hn
      cases h
      exact ⟨hcs, Nat.le_refl _, Nat.le_refl _, by omega, fun _ => by omega⟩
theorem list_ok (hT : tOK T) (hn : ∀ i, k i = 2 → nmOK (v i)) {kd : Nat} (hf : fulN T kd = false) (hkd : 21 ≤ kd ∧ kd ≤ 28) (h : pList k v p T kd j = .ok (T', j')) : tOK T' ∧ j ≤ j' := by
  have hw := hT.1
  have b13 := hT.2.2.2.2.1
  have b2 := hw.own5; have b3 := hw.gl9; have b4 := hw.wd6; have b5 := hw.hl3; have b6 := hw.co4; have b7 := hw.sg5; have b8 := hw.lk3
  unfold pList at h
  unfold fulN at hf
  by_cases e1 : kd = 21
  · rw [if_pos e1] at h hf
    have hf : T 0 2 ≠ 5 := by simpa using hf
    unfold pOwner at h
    cases h1 : pNew k v p (T 1) (T 0 2) j with
    | error e => rw [h1] at h; cases h
    | ok a1 =>
      rw [h1] at h
      cases h2 : pNum k v p (j + 1) 0 99 with
      | error e => rw [h2] at h; cases h
      | ok a2 =>
        rw [h2] at h
        cases h3 : pNum k v p (j + 2) 1 99 with
        | error e => rw [h3] at h; cases h
        | ok a3 =>
          rw [h3] at h
          cases h
          have g1 := pNew_ok h1
          have := hn j g1.1
          exact ⟨ok_ow hT (by omega) (by rw [g1.2]; exact this.1) (pNum_ok h2).2.2 (pNum_ok h3).2, by omega⟩
  rw [if_neg e1] at h hf
  by_cases e2 : kd = 22
  · rw [if_pos e2] at h hf
    have hf : T 0 13 ≠ 9 := by simpa using hf
    unfold pStrip at h
    cases h1 : pOld k v p (T 1) (T 0 2) j with
    | error e => rw [h1] at h; cases h
    | ok a1 =>
      rw [h1] at h
      cases h2 : pNum k v p (j + 1) 0 (T 0 0 - 1) with
      | error e => rw [h2] at h; cases h
      | ok a2 =>
        rw [h2] at h
        cases h3 : pNum k v p (j + 2) 0 (T 0 1 - 1) with
        | error e => rw [h3] at h; cases h
        | ok a3 =>
          rw [h3] at h
          cases h4 : pNum k v p (j + 3) a2 (T 0 0 - 1) with
          | error e => simp only [h4] at h; cases h
          | ok a4 =>
            simp only [h4] at h
            cases h5 : pNum k v p (j + 4) a3 (T 0 1 - 1) with
            | error e => simp only [h5] at h; cases h
            | ok a5 =>
              simp only [h5] at h
              cases h
              have g5 := pNum_ok h5
              have := hw.h1
              exact ⟨ok_st hT (by omega) (pOld_ok h1).2 (by omega), by omega⟩
  rw [if_neg e2] at h hf
  by_cases e3 : kd = 23
  · rw [if_pos e3] at h hf
    have hf : T 0 3 ≠ 9 := by simpa using hf
    unfold pGlyph at h
    split at h
    · rename_i hk2
      split at h
      · split at h
        · cases h
        · rename_i hnew
          split at h
          · cases h
          · cases h1 : pNum k v p (j + 1) 1 511 with
            | error e => rw [h1] at h; cases h
            | ok a1 =>
              rw [h1] at h
              cases h
              have := hn j hk2
              exact ⟨ok_gl hT (by omega) this.2.2.2 (pNum_ok h1).2 hnew, by omega⟩
      · cases h
    · cases h
  rw [if_neg e3] at h hf
  by_cases e4 : kd = 24
  · rw [if_pos e4] at h hf
    have hf : T 0 4 ≠ 6 := by simpa using hf
    unfold pWord at h
    cases h1 : pNew k v p (T 7) (T 0 4) j with
    | error e => rw [h1] at h; cases h
    | ok a1 =>
      rw [h1] at h
      cases h2 : pNum k v p (j + 1) 0 99 with
      | error e => rw [h2] at h; cases h
      | ok a2 =>
        rw [h2] at h
        cases h
        have g1 := pNew_ok h1
        exact ⟨ok_wd hT (by omega) (by rw [g1.2]; exact hn j g1.1) (pNum_ok h2).2.2, by omega⟩
  rw [if_neg e4] at h hf
  by_cases e5 : kd = 25
  · rw [if_pos e5] at h hf
    have hf : T 0 5 ≠ 3 := by simpa using hf
    unfold pHill at h
    cases h1 : pNew k v p (T 9) (T 0 5) j with
    | error e => rw [h1] at h; cases h
    | ok a1 =>
      rw [h1] at h
      have h : (if 34 ≤ k (j + 1) ∧ k (j + 1) ≤ 36 then _ else _) = _ := h
      split at h
      · cases h
        have g1 := pNew_ok h1
        exact ⟨ok_hl hT (by omega) (by rw [g1.2]; exact (hn j g1.1).1) (by omega), by omega⟩
      · cases h
  rw [if_neg e5] at h hf
  by_cases e6 : kd = 26
  · rw [if_pos e6] at h hf
    have hf : T 0 6 ≠ 4 := by simpa using hf
    unfold pWash at h
    cases h1 : pNew k v p (T 11) (T 0 6) j with
    | error e => rw [h1] at h; cases h
    | ok a1 =>
      rw [h1] at h
      cases h2 : pNum k v p (j + 1) 0 9 with
      | error e => rw [h2] at h; cases h
      | ok a2 =>
        rw [h2] at h
        cases h
        have g1 := pNew_ok h1
        exact ⟨ok_co hT (by omega) (by rw [g1.2]; exact (hn j g1.1).1) (pNum_ok h2).2.2, by omega⟩
  rw [if_neg e6] at h hf
  by_cases e7 : kd = 27
  · rw [if_pos e7] at h hf
    have hf : T 0 7 ≠ 5 := by simpa using hf
    unfold pSign at h
    cases h1 : pNew k v p (T 13) (T 0 7) j with
    | error e => rw [h1] at h; cases h
    | ok a1 =>
      rw [h1] at h
      cases h2 : pCol k v p T 4 (j + 1) 0 (fun _ => 0) with
      | error e => rw [h2] at h; cases h
      | ok r =>
        obtain ⟨j1, l1, cs1⟩ := r
        rw [h2] at h
        cases h
        have g1 := pNew_ok h1
        have g2 := col_ok 4 (j + 1) 0 (fun _ => 0) lt_0 _ l1 cs1 h2
        exact ⟨ok_sg hT (by omega) (by rw [g1.2]; exact (hn j g1.1).1) ⟨g2.2.2.2.2 (by decide), by have := g2.2.2.2.1; omega⟩ g2.1, by omega⟩
  rw [if_neg e7] at h hf
  have hf : T 0 8 ≠ 3 := by simpa using hf
  unfold pLink at h
  cases h1 : pOld k v p (T 9) (T 0 5) j with
  | error e => rw [h1] at h; cases h
  | ok a1 =>
    rw [h1] at h
    cases h2 : pOld k v p (T 9) (T 0 5) (j + 1) with
    | error e => rw [h2] at h; cases h
    | ok a2 =>
      rw [h2] at h
      have h : (if a2 = a1 then _ else _) = _ := h
      split at h
      · cases h
      · split at h
        · cases h
        · cases h3 : pNum k v p (j + 2) 1 20 with
          | error e => rw [h3] at h; cases h
          | ok a3 =>
            rw [h3] at h
            cases h
            exact ⟨ok_lk hT (by omega) (pOld_ok h1).2 (pOld_ok h2).2 (pNum_ok h3).2, by omega⟩
theorem once_ok (hT : tOK T) (hk : ∀ i, k i ≤ 45) {kd : Nat} (hkd : kd = 20 ∨ (29 ≤ kd ∧ kd ≤ 32)) (hz : T 0 (onC kd) = 0) (hp : ¬ (kd = 20 ∧ T 0 13 ≠ 0)) (h : pOncs k v p (t0 T (onC kd) 1) kd j = .ok (T', j')) : tOK T' ∧ j ≤ j' := by
  unfold pOncs at h
  by_cases e1 : kd = 20
  · subst e1
    have h : pPlain k v p (t0 T 14 1) j = .ok (T', j') := h
    unfold pPlain at h
    cases h1 : pNum k v p j 1 8 with
    | error e => rw [h1] at h; cases h
    | ok a1 =>
      rw [h1] at h
      cases h2 : pNum k v p (j + 1) 1 6 with
      | error e => rw [h2] at h; cases h
      | ok a2 =>
        rw [h2] at h
        cases h
        exact ⟨ok_pl (ok_on hT (by decide)) (pNum_ok h1).2 (pNum_ok h2).2 (show T 0 13 = 0 by omega), by omega⟩
  rw [if_neg e1] at h
  have on : ∀ c cc hi, 14 ≤ cc ∧ cc ≤ 17 → (∀ x, x ≤ hi → (c = 10 ∧ x ≤ 9999) ∨ (c = 11 ∧ x ≤ 99999) ∨ (c = 12 ∧ x ≤ 99)) → pOnce k v p (t0 T cc 1) c hi j = .ok (T', j') → tOK T' ∧ j ≤ j' := by
    intro c cc hi hcc hc h
    unfold pOnce at h
    cases h1 : pNum k v p j 0 hi with
    | error e => rw [h1] at h; cases h
    | ok a1 =>
      rw [h1] at h
      cases h
      exact ⟨ok_t0 (ok_on hT hcc) (hc a1 (pNum_ok h1).2.2), by omega⟩
  by_cases e2 : kd = 29
  · subst e2
    exact on 10 15 9999 (by decide) (fun x hx => Or.inl ⟨rfl, hx⟩) h
  rw [if_neg e2] at h
  by_cases e3 : kd = 30
  · subst e3
    exact on 11 16 99999 (by decide) (fun x hx => Or.inr (Or.inl ⟨rfl, hx⟩)) h
  rw [if_neg e3] at h
  by_cases e4 : kd = 31
  · subst e4
    exact on 12 17 99 (by decide) (fun x hx => Or.inr (Or.inr ⟨rfl, hx⟩)) h
  rw [if_neg e4] at h
  have e5 : kd = 32 := by omega
  subst e5
  have hz : T 0 18 = 0 := hz
  obtain ⟨hw, hl, hf, h18, h13, h4⟩ := hT
  have h9 := h18.mp hz
  unfold pLawL at h
  split at h
  · have hg := law_ok hk 701 (t0 T 18 1) 0 0 true [] (j + 1) (LI_0 (show T 0 9 = 0 from h9)) T' j' h
    obtain ⟨g1, g2, g3, g4, g5, _⟩ := hg
    have gx : ∀ i, i ≠ 9 → T' 0 i = if i = 18 then 1 else T 0 i := fun i hi => g1.2 i hi
    refine ⟨⟨wfT_lx g1 g4 (show wfT (t0 T 18 1) from ⟨hw.w1, hw.w8, hw.h1, hw.h6, hw.own5, hw.gl9, hw.wd6, hw.hl3, hw.co4, hw.sg5, hw.lk3, hw.kn64, hw.pu, hw.se, hw.ra, hw.pr, hw.cu, hw.ow, hw.owo, hw.gl, hw.gs, hw.gld, hw.wn, hw.wz, hw.ww, hw.sg, hw.cm, hw.sl, hw.sr, hw.lk, hw.nm⟩), g2, fun i a b => ?_, ⟨fun z => ?_, fun z => absurd z g3⟩, ?_, fun z f => ?_⟩, by omega⟩
    · rw [gx i (by omega)]
      split
      · omega
      · exact hf i a b
    · rw [gx 18 (by decide), if_pos rfl] at z
      exact absurd z (by decide)
    · rw [gx 13 (by decide)]
      exact h13
    · rw [g1.1 4 f (by decide) (by decide) (by decide)]
      rw [gx 13 (by decide)] at z
      exact h4 z f
  · cases h
theorem line_ok (hT : tOK T) (hk : ∀ i, k i ≤ 45) (hn : ∀ i, k i = 2 → nmOK (v i)) (h : pLine k v p T j = .ok (T', j')) : tOK T' ∧ j < j' := by
  unfold pLine at h
  cases hb : pBody k v p T j with
  | error e => rw [hb] at h; cases h
  | ok r =>
    obtain ⟨T1, j1⟩ := r
    rw [hb] at h
    have h : (if k j1 = 4 then _ else _) = _ := h
    split at h
    · cases h
      unfold pBody at hb
      split at hb
      · rename_i hc
        split at hb
        · cases hb
        · rename_i hf
          have := list_ok hT hn (by simpa using hf) hc hb
          exact ⟨this.1, by omega⟩
      · split at hb
        · rename_i hc
          split at hb
          · cases hb
          · rename_i hz
            split at hb
            · cases hb
            · rename_i hp
              have := once_ok hT hk hc (by simpa using hz) hp hb
              exact ⟨this.1, by omega⟩
        · cases hb
    · cases h
end
