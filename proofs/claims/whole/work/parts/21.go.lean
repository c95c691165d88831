/-! MONOTONE; the rule by which a method is run -/
section
variable {Cl Cl' : Nat → List Value → Mm → (Option Value → Mm → Prop) → Prop} {mc : Nat → Nat} {ret nmax : Nat} {Q Q' : Option Value → Mm → Prop} {J J' : Nat → List Value → List Value → Mm → Prop} {N N' : List Value → List Value → Mm → Prop} {e : En} {ls st : List Value} {M : Mm}
theorem swP_mono {J J' : Nat → Prop} {x : Int32} {d : Nat} (hJ : ∀ t, J t → J' t) : ∀ l, swP J x d l → swP J' x d l
  | [], h => hJ _ h
  | _ :: l, h => ⟨fun q => hJ _ (h.1 q), fun q => swP_mono hJ l (h.2 q)⟩
theorem stp_mono (hC : ∀ k as M (P P' : Option Value → Mm → Prop), (∀ r M', P r M' → P' r M') → Cl k as M P → Cl' k as M P') (hQ : ∀ r M, Q r M → Q' r M) (hJ : ∀ t ls st M, J t ls st M → J' t ls st M) (hN : ∀ ls st M, N ls st M → N' ls st M)
    (h : stp Cl mc ret nmax Q J e N ls st M) : stp Cl' mc ret nmax Q' J' e N' ls st M := by
  unfold stp at h ⊢
  split at h <;> rename_i hg <;> (try simp only [hg])
  · cases hp : pst e ls st M with
    | none => simp only [hp] at h
    | some q => simp only [hp] at h ⊢; exact hN _ _ _ h
  · cases hp : lst e ls st with
    | none => simp only [hp] at h
    | some q => simp only [hp] at h ⊢; exact hN _ _ _ h
  · cases hp : cst e st with
    | none => simp only [hp] at h
    | some q => simp only [hp] at h ⊢; exact ⟨fun z => hJ _ _ _ _ (h.1 z), fun z => hN _ _ _ (h.2 z)⟩
  · exact hJ _ _ _ _ h
  · split at h
    · exact swP_mono (fun t q => hJ _ _ _ _ q) _ h
    · exact h.elim
  · cases hp : ald e st M with
    | none => simp only [hp] at h
    | some q => simp only [hp] at h ⊢; obtain ⟨j, h1, h2, h3⟩ := h; exact ⟨j, h1, h2, hN _ _ _ h3⟩
  · cases hp : obs e st M with
    | none => simp only [hp] at h
    | some q => simp only [hp] at h ⊢; exact ⟨h.1, hN _ _ _ h.2⟩
  · cases hp : ast e st M with
    | none => simp only [hp] at h
    | some q => simp only [hp] at h ⊢; obtain ⟨j, h1, h2, h3⟩ := h; exact ⟨j, h1, h2, hN _ _ _ h3⟩
  · cases hp : tkr e.2.2.2.2.2.1.2.1 [] st with
    | none => simp only [hp] at h
    | some q =>
      simp only [hp] at h ⊢
      split at h
      · exact hC _ _ _ _ _ (fun r M' z => hN _ _ _ z) h
      · exact h.elim
  · split at h
    · split at h
      · split at h
        · exact hQ _ _ h
        · exact ⟨h.1, hQ _ _ h.2⟩
        · exact h.elim
      · exact h.elim
    · split at h
      · split at h
        · exact hQ _ _ h
        · exact h.elim
      · exact h.elim
    · split at h
      · split at h
        · exact hQ _ _ h
        · exact h.elim
      · exact h.elim
    · exact h.elim
  · cases hp : nws e nmax st M with
    | none => simp only [hp] at h
    | some q => simp only [hp] at h ⊢; exact ⟨h.1, hN _ _ _ h.2⟩
  · cases hp : cps st M with
    | none => simp only [hp] at h
    | some q =>
      simp only [hp] at h ⊢
      split at h
      · obtain ⟨s, d, k, h1, h2, h3, h4, h5, h6⟩ := h
        exact ⟨s, d, k, h1, h2, h3, h4, h5, hN _ _ _ h6⟩
      · exact h.elim
  · split at h
    · split at h
      · exact hN _ _ _ h
      · exact h.elim
    · exact h.elim
  · cases hp : obs e st M with
    | none => simp only [hp] at h
    | some q => simp only [hp] at h ⊢; exact hN _ _ _ h
  · cases hp : ast e st M with
    | none => simp only [hp] at h
    | some q => simp only [hp] at h ⊢; obtain ⟨j, h1, h2, h3, h4⟩ := h; exact ⟨j, h1, h2, h3, hN _ _ _ h4⟩
  · cases hp : tkr e.2.2.2.2.2.1.2.1 [] st with
    | none => simp only [hp] at h
    | some q =>
      simp only [hp] at h ⊢
      split at h
      · exact hC _ _ _ _ _ (fun r M' z => hN _ _ _ z) h
      · exact h.elim
  · exact h.elim
theorem Go.step {code : List En} {t : Nat} {rest : List En} (hC : ∀ k as M (P P' : Option Value → Mm → Prop), (∀ r M', P r M' → P' r M') → Cl k as M P → Cl k as M P') (hs : sfx code t = e :: rest) (h : stp Cl mc ret nmax Q (Go Cl mc ret nmax Q code) e (Go Cl mc ret nmax Q code (e.1 + e.2.2.1)) ls st M) : Go Cl mc ret nmax Q code t ls st M :=
  fun P hP => hP t e rest hs ls st M (stp_mono hC (fun _ _ z => z) (fun _ _ _ _ z => z P hP) (fun _ _ _ z => z P hP) h)
theorem Go.mono {code : List En} {pc : Nat} (hC : ∀ k as M (P P' : Option Value → Mm → Prop), (∀ r M', P r M' → P' r M') → Cl k as M P → Cl' k as M P') (hQ : ∀ r M, Q r M → Q' r M) (h : Go Cl mc ret nmax Q code pc ls st M) : Go Cl' mc ret nmax Q' code pc ls st M :=
  fun P hP => h P (fun t e rest hs ls st M z => hP t e rest hs ls st M (stp_mono hC hQ (fun _ _ _ _ q => q) (fun _ _ _ q => q) z))
/-- each instruction stands right behind the one ahead of it -/
def linked : List En → Bool
  | [] => true
  | [_] => true
  | a :: b :: l => Nat.beq (a.1 + a.2.2.1) b.1 && linked (b :: l)
theorem sfx_head : ∀ {code : List En} {t : Nat} {e : En} {rest : List En}, sfx code t = e :: rest → e.1 = t
  | [], _, _, _, h => by cases h
  | a :: l, t, e, rest, h => by
    unfold sfx at h
    split at h
    · rename_i hb
      cases h
      exact Nat.eq_of_beq_eq_true hb
    · exact sfx_head h
/-- the code goes up: no pc twice -/
def asc : List En → Bool
  | [] => true
  | [_] => true
  | a :: b :: l => Nat.blt a.1 b.1 && asc (b :: l)
theorem asc_lt : ∀ {l : List En} {a : En}, asc (a :: l) = true → ∀ x ∈ l, a.1 < x.1
  | [], _, _, _, h => by cases h
  | b :: l, a, h, x, hx => by
    unfold asc at h
    simp only [Bool.and_eq_true] at h
    have h1 : a.1 < b.1 := Nat.le_of_ble_eq_true h.1
    rcases List.mem_cons.mp hx with rfl | hx
    · exact h1
    · exact Nat.lt_trans h1 (asc_lt h.2 x hx)
theorem asc_tail {l : List En} {a : En} (h : asc (a :: l) = true) : asc l = true := by
  cases l with
  | nil => rfl
  | cons b l => unfold asc at h; simp only [Bool.and_eq_true] at h; exact h.2
/-- the rest of a suffix is the suffix at its own head -/
theorem sfx_next : ∀ {code : List En}, asc code = true → ∀ {t : Nat} {e e2 : En} {rest : List En}, sfx code t = e :: e2 :: rest → sfx code e2.1 = e2 :: rest
  | [], _, _, _, _, _, h => by cases h
  | a :: l, ha, t, e, e2, rest, h => by
    have hlt := asc_lt ha
    have step : ∀ {x : En}, x ∈ l → sfx (a :: l) x.1 = sfx l x.1 := fun {x} hx => by
      have h0 : a.1 ≠ x.1 := Nat.ne_of_lt (hlt x hx)
      have : Nat.beq a.1 x.1 = false := by
        cases hb : Nat.beq a.1 x.1 with
        | false => rfl
        | true => exact absurd (Nat.eq_of_beq_eq_true hb) h0
      rw [sfx, this]
    unfold sfx at h
    split at h
    · cases h
      rw [step List.mem_cons_self, sfx]
      have : Nat.beq e2.1 e2.1 = true := Nat.beq_refl _
      rw [this]
    · have h2 := sfx_next (asc_tail ha) h
      have hm : e2 ∈ l := by
        have : ∀ {c : List En} {t : Nat} {r : List En}, sfx c t = r → ∀ x ∈ r, x ∈ c := by
          intro c
          induction c with
          | nil => intro t r hr x hx; cases hr; cases hx
          | cons b c ih =>
            intro t r hr x hx
            unfold sfx at hr
            split at hr
            · rw [← hr] at hx; exact hx
            · exact List.mem_cons_of_mem _ (ih hr x hx)
        exact this h e2 (by simp)
      rw [step hm]
      exact h2
end
/-- the rule: run on to the next loop's head -/
theorem go {Cl : Nat → List Value → Mm → (Option Value → Mm → Prop) → Prop} {mc : Nat → Nat} {ret nmax : Nat} {Q : Option Value → Mm → Prop} {code : List En} {pc : Nat} {ls st : List Value} {M : Mm} (hC : ∀ k as M (P P' : Option Value → Mm → Prop), (∀ r M', P r M' → P' r M') → Cl k as M P → Cl k as M P') (ha : asc code = true) (hl : linked code = true)
    (n : Nat) (h : ∀ (K : Nat → List Value → List Value → Mm → Prop), (∀ t ls st M, Go Cl mc ret nmax Q code t ls st M → K t ls st M) →
      match sfx code pc with
      | e :: rest => stp Cl mc ret nmax Q (fun t => Gn Cl mc ret nmax Q K code n (sfx code t)) e (Gn Cl mc ret nmax Q K code n rest) ls st M
      | [] => False) : Go Cl mc ret nmax Q code pc ls st M := by
  have key : ∀ (n : Nat) (t : Nat) (e : En) (rest : List En) (ls st : List Value) (M : Mm), sfx code t = e :: rest → Gn Cl mc ret nmax Q (Go Cl mc ret nmax Q code) code n (e :: rest) ls st M → Go Cl mc ret nmax Q code t ls st M := by
    intro n
    induction n with
    | zero => intro t e rest ls st M _ h; exact h.elim
    | succ n ih =>
      intro t e rest ls st M hs h
      unfold Gn at h
      split at h
      · rw [sfx_head hs] at h; exact h
      · refine Go.step hC hs (stp_mono hC (fun _ _ z => z) (fun t ls st M z => ?_) (fun ls st M z => ?_) h)
        · cases hs2 : sfx code t with
          | nil => rw [hs2] at z; cases n <;> exact z.elim
          | cons e2 r2 => rw [hs2] at z; exact ih t e2 r2 ls st M hs2 z
        · cases rest with
          | nil => cases n <;> exact z.elim
          | cons e2 r2 =>
            have hs2 := sfx_next ha hs
            have hlk : e.1 + e.2.2.1 = e2.1 := by
              have : ∀ {c : List En} {t : Nat} {r : List En}, linked c = true → sfx c t = e :: e2 :: r → e.1 + e.2.2.1 = e2.1 := by
                intro c
                induction c with
                | nil => intro t r _ hr; cases hr
                | cons b c ihc =>
                  intro t r hlc hr
                  unfold sfx at hr
                  split at hr
                  · cases hr
                    unfold linked at hlc
                    simp only [Bool.and_eq_true] at hlc
                    exact Nat.eq_of_beq_eq_true hlc.1
                  · refine ihc ?_ hr
                    cases c with
                    | nil => rfl
                    | cons b2 c => unfold linked at hlc; simp only [Bool.and_eq_true] at hlc; exact hlc.2
              exact this hl hs
            rw [hlk]
            exact ih e2.1 e2 r2 ls st M hs2 z
  have h1 := h (Go Cl mc ret nmax Q code) (fun _ _ _ _ z => z)
  cases hs : sfx code pc with
  | nil => rw [hs] at h1; exact h1.elim
  | cons e rest =>
    rw [hs] at h1
    refine Go.step hC hs (stp_mono hC (fun _ _ z => z) (fun t ls st M z => ?_) (fun ls st M z => ?_) h1)
    · cases hs2 : sfx code t with
      | nil => rw [hs2] at z; cases n <;> exact z.elim
      | cons e2 r2 => rw [hs2] at z; exact key n t e2 r2 ls st M hs2 z
    · cases rest with
      | nil => cases n <;> exact z.elim
      | cons e2 r2 =>
        have hs2 := sfx_next ha hs
        have hlk : e.1 + e.2.2.1 = e2.1 := by
          have : ∀ {c : List En} {t : Nat} {r : List En}, linked c = true → sfx c t = e :: e2 :: r → e.1 + e.2.2.1 = e2.1 := by
            intro c
            induction c with
            | nil => intro t r _ hr; cases hr
            | cons b c ihc =>
              intro t r hlc hr
              unfold sfx at hr
              split at hr
              · cases hr
                unfold linked at hlc
                simp only [Bool.and_eq_true] at hlc
                exact Nat.eq_of_beq_eq_true hlc.1
              · refine ihc ?_ hr
                cases c with
                | nil => rfl
                | cons b2 c => unfold linked at hlc; simp only [Bool.and_eq_true] at hlc; exact hlc.2
          exact this hl hs
        rw [hlk]
        exact key n e2.1 e2 r2 ls st M hs2 z
