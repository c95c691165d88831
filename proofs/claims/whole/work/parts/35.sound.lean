/-! THE SMALL MACHINE'S CALLS; IT IS SOUND -/
/-- String.length and String.charAt of the language's text -/
def CdS (d k : Nat) (as : List Value) (M : Mm) (P : Option Value → Mm → Prop) : Prop := 4 ≤ d ∧ ((k = 1004 ∧ as = [.ref 900] ∧ P (some (.int (nI 156))) M) ∨ (k = 1005 ∧ ∃ j, j < 156 ∧ as = [.ref 900, .int (nI j)] ∧ P (some (.int (nI (lch j)))) M))
/-- a call, at most d deep -/
def Cd : Nat → Nat → List Value → Mm → (Option Value → Mm → Prop) → Prop
  | 0, _, _, _, _ => False
  | d + 1, k, as, M, Q => (k < 339 ∧ (lg_sl as).length ≤ mx k ∧ M.2.2.2 + mcT k ≤ 136 ∧ Go (Cd d) mcT (mr k) (M.2.2.2 + mcT k) (fun r M' => M'.2.2.2 = M.2.2.2 + mcT k ∧ Q r M') (mcd k) 0 (pad (mx k) (en0 as)) [] M) ∨ CdS d k as M Q
theorem Cd_mono : ∀ (d k : Nat) (as : List Value) (M : Mm) (P P' : Option Value → Mm → Prop), (∀ r M', P r M' → P' r M') → Cd d k as M P → Cd d k as M P'
  | 0, _, _, _, _, _, _, h => h
  | d + 1, k, as, M, P, P', hp, h => by
    rcases h with ⟨h1, h2, h0, h3⟩ | ⟨h1, h2⟩
    · exact Or.inl ⟨h1, h2, h0, Go.mono (fun k as M P P' => Cd_mono d k as M P P') (fun r M' z => ⟨z.1, hp r M' z.2⟩) h3⟩
    · refine Or.inr ⟨h1, ?_⟩
      rcases h2 with ⟨a1, a2, a3⟩ | ⟨a1, j, a2, a3, a4⟩
      · exact Or.inl ⟨a1, a2, hp _ _ a3⟩
      · exact Or.inr ⟨a1, j, a2, a3, hp _ _ a4⟩
/-- the step of group 15: a text's method (proved behind) -/
def SD15 (l : Launch) (w : Wn) : Prop := ∀ {p : Program} {en : Env} {R : Room} {s : State} {m : MethodId} {args : Array Value} {below : List Frame} {meth : Method} {c : Code} {Qw : State → Prop} {own nL kc ks n0 nmax : Nat} {cc : ByteArray} {ls st : List Value} {M : Mm} {e : En} {q : List Value × List Value} {d : Nat} {P : Option Value → Mm → Prop},
  Ctx p R s m args c w own nL kc ks n0 nmax cc → d + 1 ≤ R.frames → 36 * d + 36 ≤ R.locals → okB own nL e = true → decode cc e.1 = .ok (e.2.1, e.2.2.1) → e.2.2.2.2.1 = 15 → tkr e.2.2.2.2.2.1.2.1 [] st = some q → cats q.2 ≤ 8 → CdS d e.2.2.2.2.2.1.1 q.1 M P →
  (∀ r M', P r M' → Wst p l en R s m args below meth c Qw w nL kc ks n0 nmax (e.1 + e.2.2.1) ls (r.toList ++ q.2) M') → Wst p l en R s m args below meth c Qw w nL kc ks n0 nmax e.1 ls st M
section
variable {p : Program} {l : Launch} {en : Env} {R : Room} {s : State} {m : MethodId} {args : Array Value} {below : List Frame} {meth : Method} {c : Code} {Qw : State → Prop} {w : Wn} {own nL kc ks n0 nmax : Nat} {cc : ByteArray} {ls st : List Value} {M : Mm}
/-- one step, whatever it is; ends apart -/
theorem sdAll {e : En} {d ret : Nat} {Q : Option Value → Mm → Prop} (h15 : SD15 l w) (X : Ctx p R s m args c w own nL kc ks n0 nmax cc) (hR1 : d + 1 ≤ R.frames) (hR2 : 36 * d + 36 ≤ R.locals) (hini : (Nat.beq e.2.2.2.2.1 13 && Nat.beq e.2.2.2.2.2.1.2.2.2 1) = true → meth.name = "<init>") (hok : okB own nL e = true) (hd : decode cc e.1 = .ok (e.2.1, e.2.2.1))
    (hCd : ∀ k as M P, k < 339 → Cd d k as M P → CM l w d k as M P) (hret : e.2.2.2.2.1 = 9 → stp (Cd d) mcT ret nmax Q (fun _ _ _ _ => False) e (fun _ _ _ => False) ls st M → Wst p l en R s m args below meth c Qw w nL kc ks n0 nmax e.1 ls st M)
    (h : stp (Cd d) mcT ret nmax Q (Wst p l en R s m args below meth c Qw w nL kc ks n0 nmax) e (Wst p l en R s m args below meth c Qw w nL kc ks n0 nmax (e.1 + e.2.2.1)) ls st M) : Wst p l en R s m args below meth c Qw w nL kc ks n0 nmax e.1 ls st M := by
  by_cases h9 : e.2.2.2.2.1 = 9
  · refine hret h9 ?_
    unfold stp at h ⊢
    simp only [h9] at h ⊢
    exact h
  unfold stp at h
  split at h <;> rename_i hg
  · cases hp : pst e ls st M with
    | none => simp only [hp] at h
    | some q => simp only [hp] at h; exact sd0 X hok hd hg hp h
  · cases hp : lst e ls st with
    | none => simp only [hp] at h
    | some q => simp only [hp] at h; exact sd1 X hok hd hg hp h
  · cases hp : cst e st with
    | none => simp only [hp] at h
    | some q => simp only [hp] at h; exact sd2 X hok hd hg hp h.1 h.2
  · exact sd3 X hok hd hg h
  · split at h
    · exact sd4 X hok hd hg h
    · exact h.elim
  · cases hp : ald e st M with
    | none => simp only [hp] at h
    | some q => simp only [hp] at h; obtain ⟨j, h1, h2, h3⟩ := h; exact sd5 X hok hd hg hp h1 h2 h3
  · cases hp : obs e st M with
    | none => simp only [hp] at h
    | some q => simp only [hp] at h; exact sd6 X hok hd hg hp h.1 h.2
  · cases hp : ast e st M with
    | none => simp only [hp] at h
    | some q =>
      simp only [hp] at h
      obtain ⟨j, h1, h2, h3⟩ := h
      have hlen : e.2.2.1 = 1 ∧ ¬ e.2.1 = .bastore := by
        unfold okB at hok
        simp only [hg] at hok
        split at hok
        · cases hok
        · rename_i hb; exact ⟨nbq hok, hb⟩
      exact sd7 X hlen.1 hd hp h1 h2 (fun hb => absurd hb hlen.2) h3
  · cases hp : tkr e.2.2.2.2.2.1.2.1 [] st with
    | none => simp only [hp] at h
    | some q =>
      simp only [hp] at h
      split at h
      · rename_i hq
        have ha : e.2.2.2.2.2.1.1 < 339 := by
          unfold okB at hok
          simp only [hg] at hok
          exact nbl (band (band (band hok).1).1).2
        exact sd8 X hR1 hR2 hok hd hg hp hq (hCd _ _ _ _ ha h) (fun r M' z => z)
      · exact h.elim
  · exact absurd hg h9
  · cases hp : nws e nmax st M with
    | none => simp only [hp] at h
    | some q => simp only [hp] at h; exact sd10 X hok hd hg hp h.1 h.2
  · cases hp : cps st M with
    | none => simp only [hp] at h
    | some q =>
      simp only [hp] at h
      split at h
      · rename_i hq
        obtain ⟨sp, dp, k, h1, h2, h3, h4, h5, h6⟩ := h
        exact sd11 X hok hd hg hp (Nat.le_of_ble_eq_true hq) h1 h2 h3 h4 h5 h6
      · exact h.elim
  · split at h
    · split at h
      · rename_i hq
        exact sd12 X hok hd hg (Nat.le_of_ble_eq_true hq) h
      · exact h.elim
    · exact h.elim
  · cases hp : obs e st M with
    | none => simp only [hp] at h
    | some q => simp only [hp] at h; exact sd13 X (fun z => hini (by rw [hg, z]; rfl)) hok hd hg hp h
  · cases hp : ast e st M with
    | none => simp only [hp] at h
    | some q =>
      simp only [hp] at h
      obtain ⟨j, h1, h2, h3, h4⟩ := h
      have hlen : e.2.2.1 = 1 := by
        unfold okB at hok
        simp only [hg] at hok
        exact nbq hok
      exact sd7 X hlen hd hp h1 h2 (fun _ => h3) h4
  · cases hp : tkr e.2.2.2.2.2.1.2.1 [] st with
    | none => simp only [hp] at h
    | some q =>
      simp only [hp] at h
      split at h
      · rename_i hq
        have ha : e.2.2.2.2.2.1.1 = 1004 ∨ e.2.2.2.2.2.1.1 = 1005 := by
          unfold okB at hok
          simp only [hg] at hok
          split at hok
          · rcases Bool.or_eq_true_iff.mp (band hok).2 with z | z
            · exact Or.inl (nbq (band (band z).1).2)
            · exact Or.inr (nbq (band (band z).1).2)
          · cases hok
        cases d with
        | zero => exact h.elim
        | succ d =>
          rcases h with ⟨z, -⟩ | h
          · omega
          · refine h15 X (by omega) (by omega) hok hd hg hp (Nat.le_of_ble_eq_true hq) h (fun r M' z => z)
      · exact h.elim
  · exact h.elim
end
set_option maxHeartbeats 4000000 in
theorem sound (l : Launch) (w : Wn) (h15 : SD15 l w) (hokM : ∀ k, k < 339 → okM k = true) : ∀ (d k : Nat) (as : List Value) (M : Mm) (Q : Option Value → Mm → Prop), k < 339 → Cd d k as M Q → CM l w d k as M Q := by
  intro d
  induction d with
  | zero => intro k as M Q _ h; exact h.elim
  | succ d ih =>
    intro k as M Q hk h
    have h' : (lg_sl as).length ≤ mx k ∧ M.2.2.2 + mcT k ≤ 136 ∧ Go (Cd d) mcT (mr k) (M.2.2.2 + mcT k) (fun r M' => M'.2.2.2 = M.2.2.2 + mcT k ∧ Q r M') (mcd k) 0 (pad (mx k) (en0 as)) [] M := by
      rcases h with ⟨-, h⟩ | ⟨-, h⟩
      · exact h
      · rcases h with ⟨z, -⟩ | ⟨z, -⟩ <;> omega
    clear h
    obtain ⟨hlen, hn136, h⟩ := h'
    have hok := hokM k hk
    have hok1 := band hok
    have hok2 := band hok1.1
    have hall := List.all_eq_true.mp hok2.2
    obtain ⟨w1, w2, w3, w4, w5, w6, w7, w8, w9, w10⟩ := mt_ok hk
    unfold CM
    refine va_MetF (cc := mb k) (maxL := mx k) (ret := rty (mr k)) w10 rfl ?_
    intro p e s m args below meth c s₁ B hml hv
    obtain ⟨rfl, hrel, hKK⟩ := hv
    have hts := atoms_spec (ws := Cond.code (my k) (mb k) (mx k) (rty (mr k)) :: gw) B.pre
    have hown : s.vm.findClass (cn (mo k)) = some m.cls := by rw [w6]; exact findClass_of_methodNamed B.named
    have hr := B.returns
    have hlocks := B.notSynchronized
    have hw0 : w.1 + M.2.2.2 ≤ s.heap.size := hrel.2.1
    have X : Ctx p { frames := d + 1, cells := mcT k, slots := SL (M.2.2.2 + mcT k) - SL M.2.2.2, locals := 36 * (d + 1) } s m (as.map (cv w)).toArray c w (mo k) (mx k) 0 0 M.2.2.2 (M.2.2.2 + mcT k) (mb k) := ⟨B.exec, B.bytes, hml, hown, fun x hx => hts x (List.mem_cons_of_mem _ hx), hKK, hrel.1, by omega, by show 0 + (M.2.2.2 + mcT k - M.2.2.2) ≤ mcT k; omega, by show 0 + _ ≤ SL (M.2.2.2 + mcT k) - SL M.2.2.2; omega, by show 1 ≤ d + 1; omega, by show 36 ≤ 36 * (d + 1); omega, hn136⟩
    rw [lg_entry_eq]
    have key := h (Wst p l e { frames := d + 1, cells := mcT k, slots := SL (M.2.2.2 + mcT k) - SL M.2.2.2, locals := 36 * (d + 1) } s m (as.map (cv w)).toArray below meth c (MQ below (fun _ st oc t => ∃ (r : Option Value) (M' : Mm), oc = .returned (r.map (cv w)) ∧ Q r M' ∧ M'.2.2.2 = M.2.2.2 + mcT k ∧ RelW w M' t.heap ∧ va_F (AW w) st t) (as.map (cv w)).toArray s (mcT k) (SL (M.2.2.2 + mcT k) - SL M.2.2.2) (AW w)) w (mx k) 0 0 M.2.2.2 (M.2.2.2 + mcT k)) ?_
    · have := key s.heap [] _ hrel va_S.rf (LRv.entry hlen) (Nat.le_refl _) (by omega)
      simp only [Nat.sub_self] at this
      exact this
    · intro t en rest hs ls st M1 hstp
      have hmem : en ∈ mcd k := by
        have : ∀ {c : List En} {t : Nat} {r : List En}, sfx c t = r → ∀ x ∈ r, x ∈ c := by
          intro c
          induction c with
          | nil => intro t r hr x hx; cases hr; cases hx
          | cons b c ih =>
            intro t r hr x hx
            unfold sfx at hr
            split at hr
            · rw [← hr] at hx; exact hx
            · exact List.mem_cons_of_mem _ (ih hr x hx)
        exact this hs en List.mem_cons_self
      have hE := band (hall en hmem)
      have hdec : decode (mb k) en.1 = .ok (en.2.1, en.2.2.1) := by
        have h1 := hE.1
        split at h1
        · rename_i i n hdd
          have h1 := band h1
          rw [hdd, of_decide_eq_true h1.1, nbq h1.2]
        · cases h1
      have ht := sfx_head hs
      rw [← ht]
      refine sdAll (d := d) (ret := mr k) h15 X (by show d + 1 ≤ d + 1; omega) (by show 36 * d + 36 ≤ 36 * (d + 1); omega) ?_ hE.2 hdec ih ?_ hstp
      · intro hf
        rcases Bool.or_eq_true_iff.mp hok1.2 with z | z
        · exact ((name_of_methodNamed B.named B.method).1).trans (w5 (nbq z)).2
        · have := List.all_eq_true.mp z en hmem
          rw [hf] at this
          cases this
      · intro hg9 hret
        intro H locs arr hR hS hL hn1 hn2
        unfold stp at hret
        simp only [hg9] at hret
        have hlen1 : en.2.2.1 = 1 := by
          have hb := hE.2
          unfold okB at hb
          simp only [hg9] at hb
          exact nbq hb
        rw [hlen1] at hdec
        have fin : ∀ (r : Option Value), (M1.2.2.2 = M.2.2.2 + mcT k ∧ Q r M1) → ∀ t : State, t.heap = H → s.WarmedH t.vm → ∃ (r' : Option Value) (M' : Mm), Outcome.returned (r.map (cv w)) = .returned (r'.map (cv w)) ∧ Q r' M' ∧ M'.2.2.2 = M.2.2.2 + mcT k ∧ RelW w M' t.heap ∧ va_F (AW w) s t := by
          intro r hq t ht _
          exact ⟨r, M1, rfl, hq.2, hq.1, by rw [ht]; exact hR, hS.F ht⟩
        have cnt : M1.2.2.2 = M.2.2.2 + mcT k → 0 + (M1.2.2.2 - M.2.2.2) = mcT k ∧ 0 + (SL M1.2.2.2 - SL M.2.2.2) = SL (M.2.2.2 + mcT k) - SL M.2.2.2 := fun z => by rw [z]; exact ⟨by omega, by omega⟩
        split at hret
        · rename_i hins
          rw [hins] at hdec
          split at hret
          · split at hret
            · rename_i hmr
              rw [hmr] at hr
              obtain ⟨c1, c2⟩ := cnt hret.1
              rw [c1, c2]
              exact W.iret B.exec B.bytes hr (fin (some (.int _)) hret) hS.2.2 hdec
            · rename_i hmr
              rw [hmr] at hr
              obtain ⟨hx01, hret⟩ := hret
              obtain ⟨c1, c2⟩ := cnt hret.1
              rw [c1, c2]
              exact W.zret B.exec B.bytes hr (by rcases hx01 with rfl | rfl <;> rfl) (fin (some (.int _)) hret) hS.2.2 hdec
            · exact hret.elim
          · exact hret.elim
        · rename_i hins
          rw [hins] at hdec
          split at hret
          · split at hret
            · rename_i hmr
              rw [hmr] at hr
              obtain ⟨c1, c2⟩ := cnt hret.1
              rw [c1, c2]
              exact W.lret B.exec B.bytes hr (fin (some (.long _)) hret) hS.2.2 hdec
            · exact hret.elim
          · exact hret.elim
        · rename_i hins
          rw [hins] at hdec
          split at hret
          · split at hret
            · rename_i hmr
              rw [hmr] at hr
              obtain ⟨c1, c2⟩ := cnt hret.1
              rw [c1, c2]
              exact W.vret B.exec B.bytes hr (fin none hret) hS.2.2 hdec
            · exact hret.elim
          · exact hret.elim
        · exact hret.elim
