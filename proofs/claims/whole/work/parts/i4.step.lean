/-! A STEP OF THE LAW -/
/-- the law's calls: those of the two sides, the script's cells, its length -/
def ClL (d L : Nat) (xs : Nat → Int32) (k : Nat) (as : List Value) (M : Mm) (P : Option Value → Mm → Prop) : Prop := Cd d k as M P ∨ (k = 2000 ∧ ∃ j, j < L ∧ as = [.ref 901, .int (nI j)] ∧ P (some (.int (xs j))) M) ∨ (k = 2001 ∧ as = [.ref 901] ∧ P (some (.int (nI L))) M)
theorem ClL_mono {d L : Nat} {xs : Nat → Int32} (k : Nat) (as : List Value) (M : Mm) (P P' : Option Value → Mm → Prop) (hp : ∀ r M', P r M' → P' r M') (h : ClL d L xs k as M P) : ClL d L xs k as M P' := by
  rcases h with h | ⟨h1, j, h2, h3, h4⟩ | ⟨h1, h2, h3⟩
  · exact Or.inl (Cd_mono d k as M P P' hp h)
  · exact Or.inr (Or.inl ⟨h1, j, h2, h3, hp _ _ h4⟩)
  · exact Or.inr (Or.inr ⟨h1, h2, hp _ _ h3⟩)
theorem stp_Cd {d L : Nat} {xs : Nat → Int32} {mc : Nat → Nat} {ret nmax : Nat} {Q : Option Value → Mm → Prop} {J : Nat → List Value → List Value → Mm → Prop} {N : List Value → List Value → Mm → Prop} {e : En} {ls st : List Value} {M : Mm} (hg : e.2.2.2.2.1 ≠ 15) (h8 : e.2.2.2.2.1 = 8 → e.2.2.2.2.2.1.1 < 339)
    (h : stp (ClL d L xs) mc ret nmax Q J e N ls st M) : stp (Cd d) mc ret nmax Q J e N ls st M := by
  by_cases h8' : e.2.2.2.2.1 = 8
  · have hk := h8 h8'
    unfold stp at h ⊢
    simp only [h8'] at h ⊢
    cases hp : tkr e.2.2.2.2.2.1.2.1 [] st with
    | none => simp only [hp] at h
    | some q =>
      simp only [hp] at h ⊢
      split at h
      · rcases h with h | ⟨h1, -⟩ | ⟨h1, -⟩
        · exact h
        · omega
        · omega
      · exact h.elim
  · unfold stp at h ⊢
    split at h <;> rename_i hgg <;> first | exact absurd hgg h8' | exact absurd hgg hg | exact h | (simp only [hgg]; exact h)
theorem sfx_mem {c : List En} : ∀ {t : Nat} {r : List En}, sfx c t = r → ∀ x ∈ r, x ∈ c := by
  induction c with
  | nil => intro t r hr x hx; cases hr; cases hx
  | cons b c ih =>
    intro t r hr x hx
    unfold sfx at hr
    split at hr
    · rw [← hr] at hx; exact hx
    · exact List.mem_cons_of_mem _ (ih hr x hx)
section
variable {p : Program} {l : Launch} {en : Env} {R : Room} {s : State} {m : MethodId} {args : Array Value} {below : List Frame} {meth : Method} {c : Code} {Qw : State → Prop} {w : Wn} {kc ks n0 nmax : Nat} {ls st : List Value} {M : Mm} {L : Nat} {xs : Nat → Int32}
theorem sdL {e : En} (h15 : SD15 l w) (hokM : ∀ k, k < 339 → okM k = true) (X : Ctx p R s m args c w 16 7 kc ks n0 nmax code) (hR1 : 13 ≤ R.frames) (hR2 : 468 ≤ R.locals) (hX : va_X (w.2.2.2.2 9) L xs s s.heap) (hb : w.2.2.2.2 9 < w.1) (hL : L ≤ 3072)
    (hmem : e ∈ m_L) (hne : e.1 ≠ 398) (hret : ∀ pc ls M, decode code pc = .ok (.ireturn, 1) → Wst p l en R s m args below meth c Qw w 7 kc ks n0 nmax pc ls [.int 1] M)
    (h : stp (ClL 12 L xs) mcT 2 nmax (fun r _ => r = some (.int 1)) (Wst p l en R s m args below meth c Qw w 7 kc ks n0 nmax) e (Wst p l en R s m args below meth c Qw w 7 kc ks n0 nmax (e.1 + e.2.2.1)) ls st M) : Wst p l en R s m args below meth c Qw w 7 kc ks n0 nmax e.1 ls st M := by
  have hE := List.all_eq_true.mp m_L_all e hmem
  have hE1 := band hE
  have hE2 := band hE1.1
  have hdec : decode code e.1 = .ok (e.2.1, e.2.2.1) := by
    have h1 := hE2.1
    split at h1
    · rename_i i n hdd
      have h1 := band h1
      rw [hdd, of_decide_eq_true h1.1, nbq h1.2]
    · cases h1
  by_cases hg : e.2.2.2.2.1 = 15
  · have hk := hE1.2
    simp only [hg] at hk
    have hk := band hk
    have hlen : e.2.2.1 = 1 := nbq hk.1
    unfold stp at h
    simp only [hg] at h
    cases hp : tkr e.2.2.2.2.2.1.2.1 [] st with
    | none => simp only [hp] at h
    | some q =>
      simp only [hp] at h
      split at h
      · obtain ⟨pre, hst, hq1, hln⟩ := tkr_spec _ _ _ _ hp
        rw [List.append_nil] at hq1
        rcases h with h | ⟨h1, j, hj, has, h⟩ | ⟨h1, has, h⟩
        · exfalso
          have hbig : e.2.2.2.2.2.1.1 = 2000 ∨ e.2.2.2.2.2.1.1 = 2001 := by
            rcases Bool.or_eq_true_iff.mp hk.2 with z | z
            · exact Or.inl (nbq (band (band z).1).1)
            · exact Or.inr (nbq (band (band z).1).1)
          rcases h with ⟨z, -⟩ | ⟨-, ⟨z, -⟩ | ⟨z, -⟩⟩ <;> omega
        · have hins : e.2.1 = .iaload := by
            rcases Bool.or_eq_true_iff.mp hk.2 with z | z
            · exact of_decide_eq_true (band z).2
            · have := nbq (band (band z).1).1
              omega
          rw [has] at hq1
          have hpre : pre = [.int (nI j), .ref 901] := by
            have := congrArg List.reverse hq1
            simpa using this.symm
          rw [hst, hpre]
          rw [hins, hlen] at hdec
          rw [hlen] at h
          exact sdScr X hX hb hj hL hdec h
        · have hins : e.2.1 = .arraylength := by
            rcases Bool.or_eq_true_iff.mp hk.2 with z | z
            · have := nbq (band (band z).1).1
              omega
            · exact of_decide_eq_true (band z).2
          rw [has] at hq1
          have hpre : pre = [.ref 901] := by
            have := congrArg List.reverse hq1
            simpa using this.symm
          rw [hst, hpre]
          rw [hins, hlen] at hdec
          rw [hlen] at h
          exact sdLen X hX hb hdec h
      · exact h.elim
  · have hk : okB 16 7 e = true := by
      have hk := hE1.2
      split at hk
      · rename_i z; exact absurd z hg
      · rcases Bool.or_eq_true_iff.mp hk with z | z
        · exact absurd (nbq z) hne
        · exact z
    have h := stp_Cd hg (fun h8 => by
      unfold okB at hk
      simp only [h8] at hk
      exact nbl (band (band (band hk).1).1).2) h
    refine sdAll (d := 12) (ret := 2) h15 X (by omega) (by omega) (fun z => ?_) hk hdec (fun k as M P hk => sound l w h15 hokM 12 k as M P hk) (fun hg9 hr => ?_) h
    · have := hE2.2
      rw [(band z).1] at this
      cases this
    · unfold stp at hr
      simp only [hg9] at hr
      have hlen1 : e.2.2.1 = 1 := by
        unfold okB at hk
        simp only [hg9] at hk
        exact nbq hk
      rw [hlen1] at hdec
      split at hr
      · rename_i hins
        rw [hins] at hdec
        split at hr
        · have h1 := hr.2
          cases h1
          exact hret _ _ _ hdec
        · exact hr.elim
      · split at hr
        · exact hr.elim
        · exact hr.elim
      · split at hr
        · exact hr.elim
        · exact hr.elim
      · exact hr.elim
/-- from a head on: its own step, then up to the next heads -/
theorem segH {t : Nat} {e : En} {rest : List En} {n : Nat} {K : Nat → List Value → List Value → Mm → Prop} (h15 : SD15 l w) (hokM : ∀ k, k < 339 → okM k = true) (X : Ctx p R s m args c w 16 7 kc ks n0 nmax code) (hR1 : 13 ≤ R.frames) (hR2 : 468 ≤ R.locals) (hX : va_X (w.2.2.2.2 9) L xs s s.heap) (hb : w.2.2.2.2 9 < w.1) (hL : L ≤ 3072)
    (hret : ∀ pc ls M, decode code pc = .ok (.ireturn, 1) → Wst p l en R s m args below meth c Qw w 7 kc ks n0 nmax pc ls [.int 1] M)
    (hK : ∀ t ls st M, K t ls st M → Wst p l en R s m args below meth c Qw w 7 kc ks n0 nmax t ls st M) (hs : sfx m_L t = e :: rest) (hne : e.1 ≠ 398)
    (h : stpN (ClL 12 L xs) mcT 2 nmax (fun r _ => r = some (.int 1)) (fun t => GnN (ClL 12 L xs) mcT 2 nmax (fun r _ => r = some (.int 1)) K m_L n (sfx m_L t)) e (GnN (ClL 12 L xs) mcT 2 nmax (fun r _ => r = some (.int 1)) K m_L n rest) ls st M) : Wst p l en R s m args below meth c Qw w 7 kc ks n0 nmax t ls st M := by
  have hst : ∀ t e rest, sfx m_L t = e :: rest → e.1 ≠ 398 → ∀ ls st M, stp (ClL 12 L xs) mcT 2 nmax (fun r _ => r = some (.int 1)) (Wst p l en R s m args below meth c Qw w 7 kc ks n0 nmax) e (Wst p l en R s m args below meth c Qw w 7 kc ks n0 nmax (e.1 + e.2.2.1)) ls st M → Wst p l en R s m args below meth c Qw w 7 kc ks n0 nmax t ls st M := by
    intro t e rest hs hne ls st M h
    rw [← sfx_head hs]
    exact sdL h15 hokM X hR1 hR2 hX hb hL (sfx_mem hs e List.mem_cons_self) hne hret h
  have hf : ∀ t e rest, sfx m_L t = e :: rest → e.2.2.2.1 = false → e.1 ≠ 398 := by
    intro t e rest hs hb h
    have hm := sfx_mem hs e List.mem_cons_self
    have := List.all_eq_true.mp m_L_398 e hm
    rw [h] at this
    rw [hb] at this
    cases this
  have seg : ∀ {t : Nat} {ls st : List Value} {M : Mm}, GnN (ClL 12 L xs) mcT 2 nmax (fun r _ => r = some (.int 1)) K m_L n (sfx m_L t) ls st M → Wst p l en R s m args below meth c Qw w 7 kc ks n0 nmax t ls st M := fun h => segN (fun k as M P P' => ClL_mono k as M P P') m_L_ok.1 m_L_ok.2 (fun t e rest hs hb ls st M h => hst t e rest hs (hf t e rest hs hb) ls st M h) hK h
  refine hst t e rest hs hne ls st M (stp_mono (fun k as M P P' => ClL_mono k as M P P') (fun _ _ z => z) (fun t ls st M z => seg z) (fun ls st M z => ?_) (stpN_stp h))
  cases rest with
  | nil => cases n <;> exact z.elim
  | cons e2 r2 =>
    rw [sfx_lk m_L_ok.2 hs]
    refine seg (t := e2.1) ?_
    rw [sfx_next m_L_ok.1 hs]
    exact z
end
