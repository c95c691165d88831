/-! A STRETCH OF THE LAW'S CODE -/
theorem sfx_lk {code : List En} (hl : linked code = true) {t : Nat} {e e2 : En} {r : List En} (hs : sfx code t = e :: e2 :: r) : e.1 + e.2.2.1 = e2.1 := by
  have : ∀ {c : List En} {t : Nat} {r : List En}, linked c = true → sfx c t = e :: e2 :: r → e.1 + e.2.2.1 = e2.1 := by
    intro c
    induction c with
    | nil => intro t r _ hr; cases hr
    | cons b c ihc =>
      intro t r hlc hr
      unfold sfx at hr
      split at hr
      · cases hr
        unfold linked at hlc
        simp only [Bool.and_eq_true] at hlc
        exact Nat.eq_of_beq_eq_true hlc.1
      · refine ihc ?_ hr
        cases c with
        | nil => rfl
        | cons b2 c => unfold linked at hlc; simp only [Bool.and_eq_true] at hlc; exact hlc.2
  exact this hl hs
/-- what each step leads to, a stretch up to the heads K leads to -/
theorem segW {Cl : Nat → List Value → Mm → (Option Value → Mm → Prop) → Prop} {mc : Nat → Nat} {ret nmax : Nat} {Q : Option Value → Mm → Prop} {K V : Nat → List Value → List Value → Mm → Prop} {code : List En} (hC : ∀ k as M (P P' : Option Value → Mm → Prop), (∀ r M', P r M' → P' r M') → Cl k as M P → Cl k as M P') (ha : asc code = true) (hl : linked code = true) (hstep : ∀ t e rest, sfx code t = e :: rest → e.2.2.2.1 = false → ∀ ls st M, stp Cl mc ret nmax Q V e (V (e.1 + e.2.2.1)) ls st M → V t ls st M) (hK : ∀ t ls st M, K t ls st M → V t ls st M) : ∀ (n t : Nat) (e : En) (rest : List En) (ls st : List Value) (M : Mm), sfx code t = e :: rest → Gn Cl mc ret nmax Q K code n (e :: rest) ls st M → V t ls st M := by
  intro n
  induction n with
  | zero => intro t e rest ls st M _ h; exact h.elim
  | succ n ih =>
    intro t e rest ls st M hs h
    unfold Gn at h
    split at h
    · rw [sfx_head hs] at h; exact hK _ _ _ _ h
    · rename_i hb
      refine hstep t e rest hs hb ls st M (stp_mono hC (fun _ _ z => z) (fun t ls st M z => ?_) (fun ls st M z => ?_) h)
      · cases hs2 : sfx code t with
        | nil => rw [hs2] at z; cases n <;> exact z.elim
        | cons e2 r2 => rw [hs2] at z; exact ih t e2 r2 ls st M hs2 z
      · cases rest with
        | nil => cases n <;> exact z.elim
        | cons e2 r2 =>
          rw [sfx_lk hl hs]
          exact ih e2.1 e2 r2 ls st M (sfx_next ha hs) z
/-- the same, for the nicer steps -/
theorem segN {Cl : Nat → List Value → Mm → (Option Value → Mm → Prop) → Prop} {mc : Nat → Nat} {ret nmax : Nat} {Q : Option Value → Mm → Prop} {K V : Nat → List Value → List Value → Mm → Prop} {code : List En} (hC : ∀ k as M (P P' : Option Value → Mm → Prop), (∀ r M', P r M' → P' r M') → Cl k as M P → Cl k as M P') (ha : asc code = true) (hl : linked code = true) (hstep : ∀ t e rest, sfx code t = e :: rest → e.2.2.2.1 = false → ∀ ls st M, stp Cl mc ret nmax Q V e (V (e.1 + e.2.2.1)) ls st M → V t ls st M) (hK : ∀ t ls st M, K t ls st M → V t ls st M) {n t : Nat} {ls st : List Value} {M : Mm} (h : GnN Cl mc ret nmax Q K code n (sfx code t) ls st M) : V t ls st M := by
  cases hs : sfx code t with
  | nil => rw [hs] at h; cases n <;> exact h.elim
  | cons e rest =>
    rw [hs] at h
    exact segW hC ha hl hstep hK n t e rest ls st M hs (GnN_Gn hC _ _ _ _ _ h)
