/-! THE SAME STEP, SO WRITTEN THAT WHAT IS ASKED COMES REDUCED -/
def ald2 (e : En) (st : List Value) (M : Mm) : Option (Nat × Int32 × (Nat → List Value)) := match e.2.1 with
  | .iaload => match st with
    | .int i :: .ref o :: r => match lay o, M with
      | (t, len), (mi, ml, _, n) => match Nat.beq t 13 && Nat.blt o n with
        | true => some (len, i, fun j => .int (mi o j) :: r)
        | false => none
    | _ => none
  | .laload => match st with
    | .int i :: .ref o :: r => match lay o, M with
      | (t, len), (mi, ml, _, n) => match Nat.beq t 14 && Nat.blt o n with
        | true => some (len, i, fun j => .long (ml o j) :: r)
        | false => none
    | _ => none
  | .baload => match st with
    | .int i :: .ref o :: r => match lay o, M with
      | (t, len), (mi, ml, _, n) => match Nat.beq t 15 && Nat.blt o n with
        | true => some (len, i, fun j => .int (mi o j) :: r)
        | false => none
    | _ => none
  | _ => none
def ast2 (e : En) (st : List Value) (M : Mm) : Option (Nat × Int32 × Prop × List Value × (Nat → Mm)) := match e.2.1 with
  | .iastore => match st with
    | .int x :: .int i :: .ref o :: r => match lay o, M with
      | (t, len), (mi, ml, mr, n) => match Nat.beq t 13 && Nat.blt o n with
        | true => some (len, i, True, r, fun j => (cu mi o (upd (mi o) j x), ml, mr, n))
        | false => none
    | _ => none
  | .lastore => match st with
    | .long x :: .int i :: .ref o :: r => match lay o, M with
      | (t, len), (mi, ml, mr, n) => match Nat.beq t 14 && Nat.blt o n with
        | true => some (len, i, True, r, fun j => (mi, cu ml o (vp_updL (ml o) j x), mr, n))
        | false => none
    | _ => none
  | .bastore => match st with
    | .int x :: .int i :: .ref o :: r => match lay o, M with
      | (t, len), (mi, ml, mr, n) => match Nat.beq t 15 && Nat.blt o n with
        | true => some (len, i, x = 0 ∨ x = 1, r, fun j => (cu mi o (upd (mi o) j x), ml, mr, n))
        | false => none
    | _ => none
  | _ => none
def pst2 (e : En) (ls st : List Value) (M : Mm) : Option (List Value) := match e.2.1 with
  | .getfield _ => match st with
    | .ref o :: r => match e.2.2.2.2.2.1, M with
      | (a, b, c, _), (mi, ml, mr, n) => match Nat.beq (lay o).1 a && Nat.blt o n with
        | true => match c with
          | 1 => some (.long (ml o b) :: r)
          | 2 => some (va_rf (mr o b) :: r)
          | _ => some (.int (mi o b) :: r)
        | false => none
    | _ => none
  | .arraylength => match st with
    | .ref o :: r => match lay o, M with
      | (t, len), (_, _, _, n) => match Nat.ble 13 t && Nat.ble t 15 && Nat.blt o n with
        | true => some (.int (nI len) :: r)
        | false => none
    | _ => none
  | .iadd => match st with
    | .int y :: .int x :: r => some (.int (x + y) :: r)
    | _ => none
  | .isub => match st with
    | .int y :: .int x :: r => some (.int (x - y) :: r)
    | _ => none
  | .imul => match st with
    | .int y :: .int x :: r => some (.int (x * y) :: r)
    | _ => none
  | .iand => match st with
    | .int y :: .int x :: r => some (.int (x &&& y) :: r)
    | _ => none
  | .ior => match st with
    | .int y :: .int x :: r => some (.int (x ||| y) :: r)
    | _ => none
  | .ixor => match st with
    | .int y :: .int x :: r => some (.int (x ^^^ y) :: r)
    | _ => none
  | .ishl => match st with
    | .int y :: .int x :: r => some (.int (x <<< (y &&& 31)) :: r)
    | _ => none
  | .ishr => match st with
    | .int y :: .int x :: r => some (.int (x >>> (y &&& 31)) :: r)
    | _ => none
  | .iushr => match st with
    | .int y :: .int x :: r => some (.int ((x.toUInt32 >>> (y.toUInt32 &&& Int32.toUInt32 31)).toInt32) :: r)
    | _ => none
  | .ladd => match st with
    | .long y :: .long x :: r => some (.long (x + y) :: r)
    | _ => none
  | .lsub => match st with
    | .long y :: .long x :: r => some (.long (x - y) :: r)
    | _ => none
  | .lmul => match st with
    | .long y :: .long x :: r => some (.long (x * y) :: r)
    | _ => none
  | .land => match st with
    | .long y :: .long x :: r => some (.long (x &&& y) :: r)
    | _ => none
  | .lor => match st with
    | .long y :: .long x :: r => some (.long (x ||| y) :: r)
    | _ => none
  | _ => pst e ls st M
/-- fields written -/
def obs2 (e : En) (st : List Value) (M : Mm) : Option (Prop × List Value × Mm) := match e.2.1 with
  | .putfield _ => match st with
    | .int x :: .ref o :: r => match e.2.2.2.2.2.1, M with
      | (a, b, c, _), (mi, ml, mr, n) => match Nat.beq (lay o).1 a && Nat.blt o n with
        | true => match c with
          | 0 => some (True, r, (cu mi o (upd (mi o) b x), ml, mr, n))
          | 3 => some (x = 0 ∨ x = 1, r, (cu mi o (upd (mi o) b x), ml, mr, n))
          | _ => none
        | false => none
    | .long x :: .ref o :: r => match e.2.2.2.2.2.1, M with
      | (a, b, c, _), (mi, ml, mr, n) => match Nat.beq (lay o).1 a && Nat.blt o n with
        | true => match c with
          | 1 => some (True, r, (mi, cu ml o (vp_updL (ml o) b x), mr, n))
          | _ => none
        | false => none
    | _ => obs e st M
  | _ => obs e st M
theorem ald2_eq (e : En) (st : List Value) (M : Mm) : ald2 e st M = ald e st M := by
  unfold ald2 ald
  split <;> rename_i hins <;> simp only [hins] <;> (rcases st with _ | ⟨a, _ | ⟨b, r⟩⟩ <;> (try rfl) <;> cases a <;> (try rfl) <;> cases b <;> rfl)
theorem ast2_eq (e : En) (st : List Value) (M : Mm) : ast2 e st M = ast e st M := by
  unfold ast2 ast
  split <;> rename_i hins <;> simp only [hins] <;> (rcases st with _ | ⟨a, _ | ⟨b, _ | ⟨b2, r⟩⟩⟩ <;> (try rfl) <;> cases a <;> (try rfl) <;> cases b <;> (try rfl) <;> cases b2 <;> rfl)
theorem pst2_eq (e : En) (ls st : List Value) (M : Mm) : pst2 e ls st M = pst e ls st M := by
  obtain ⟨pc, ins, len, hd, g, ⟨a, b, c, dd⟩, v, sw⟩ := e
  obtain ⟨mi, ml, mr, n⟩ := M
  unfold pst2
  split
  · rename_i hins
    simp only at hins
    subst hins
    unfold pst
    simp only
    rcases st with _ | ⟨x, r⟩
    · rfl
    · cases x <;> try rfl
      simp only
      split <;> rename_i hb <;> simp only [hb]
      unfold fv
      split <;> first | rfl | (rename_i h1 h2; split <;> first | rfl | (rename_i h3; exact absurd rfl h3) | (exact absurd rfl (by assumption)))
  · rename_i hins
    simp only at hins
    subst hins
    unfold pst
    simp only
    rcases st with _ | ⟨x, r⟩
    · rfl
    · cases x <;> rfl
  · rename_i hins
    simp only at hins
    subst hins
    rcases st with _ | ⟨x, _ | ⟨y, r⟩⟩
    · rfl
    · cases x <;> rfl
    · cases x <;> first | rfl | (cases y <;> rfl)
  · rename_i hins
    simp only at hins
    subst hins
    rcases st with _ | ⟨x, _ | ⟨y, r⟩⟩
    · rfl
    · cases x <;> rfl
    · cases x <;> first | rfl | (cases y <;> rfl)
  · rename_i hins
    simp only at hins
    subst hins
    rcases st with _ | ⟨x, _ | ⟨y, r⟩⟩
    · rfl
    · cases x <;> rfl
    · cases x <;> first | rfl | (cases y <;> rfl)
  · rename_i hins
    simp only at hins
    subst hins
    rcases st with _ | ⟨x, _ | ⟨y, r⟩⟩
    · rfl
    · cases x <;> rfl
    · cases x <;> first | rfl | (cases y <;> rfl)
  · rename_i hins
    simp only at hins
    subst hins
    rcases st with _ | ⟨x, _ | ⟨y, r⟩⟩
    · rfl
    · cases x <;> rfl
    · cases x <;> first | rfl | (cases y <;> rfl)
  · rename_i hins
    simp only at hins
    subst hins
    rcases st with _ | ⟨x, _ | ⟨y, r⟩⟩
    · rfl
    · cases x <;> rfl
    · cases x <;> first | rfl | (cases y <;> rfl)
  · rename_i hins
    simp only at hins
    subst hins
    rcases st with _ | ⟨x, _ | ⟨y, r⟩⟩
    · rfl
    · cases x <;> rfl
    · cases x <;> first | rfl | (cases y <;> rfl)
  · rename_i hins
    simp only at hins
    subst hins
    rcases st with _ | ⟨x, _ | ⟨y, r⟩⟩
    · rfl
    · cases x <;> rfl
    · cases x <;> first | rfl | (cases y <;> rfl)
  · rename_i hins
    simp only at hins
    subst hins
    rcases st with _ | ⟨x, _ | ⟨y, r⟩⟩
    · rfl
    · cases x <;> rfl
    · cases x <;> first | rfl | (cases y <;> rfl)
  · rename_i hins
    simp only at hins
    subst hins
    rcases st with _ | ⟨x, _ | ⟨y, r⟩⟩
    · rfl
    · cases x <;> rfl
    · cases x <;> first | rfl | (cases y <;> rfl)
  · rename_i hins
    simp only at hins
    subst hins
    rcases st with _ | ⟨x, _ | ⟨y, r⟩⟩
    · rfl
    · cases x <;> rfl
    · cases x <;> first | rfl | (cases y <;> rfl)
  · rename_i hins
    simp only at hins
    subst hins
    rcases st with _ | ⟨x, _ | ⟨y, r⟩⟩
    · rfl
    · cases x <;> rfl
    · cases x <;> first | rfl | (cases y <;> rfl)
  · rename_i hins
    simp only at hins
    subst hins
    rcases st with _ | ⟨x, _ | ⟨y, r⟩⟩
    · rfl
    · cases x <;> rfl
    · cases x <;> first | rfl | (cases y <;> rfl)
  · rename_i hins
    simp only at hins
    subst hins
    rcases st with _ | ⟨x, _ | ⟨y, r⟩⟩
    · rfl
    · cases x <;> rfl
    · cases x <;> first | rfl | (cases y <;> rfl)
  · rfl
theorem obs2_eq (e : En) (st : List Value) (M : Mm) : obs2 e st M = obs e st M := by
  obtain ⟨pc, ins, len, hd, g, ⟨a, b, c, dd⟩, v, sw⟩ := e
  obtain ⟨mi, ml, mr, n⟩ := M
  unfold obs2
  split
  · rename_i hins
    simp only at hins
    subst hins
    split
    · rfl
    · rfl
    · rfl
  · rfl
def aldP (e : En) (N : List Value → List Value → Mm → Prop) (ls st : List Value) (M : Mm) : Prop := match e.2.1 with
  | .iaload => match st with
    | .int i :: .ref o :: r => match lay o, M with
      | (t, len), (mi, ml, mr, n) => match Nat.beq t 13 && Nat.blt o n with
        | true => ∃ j : Nat, j < len ∧ i = nI j ∧ N ls (.int (mi o j) :: r) (mi, ml, mr, n)
        | false => False
    | _ => False
  | .laload => match st with
    | .int i :: .ref o :: r => match lay o, M with
      | (t, len), (mi, ml, mr, n) => match Nat.beq t 14 && Nat.blt o n with
        | true => ∃ j : Nat, j < len ∧ i = nI j ∧ N ls (.long (ml o j) :: r) (mi, ml, mr, n)
        | false => False
    | _ => False
  | .baload => match st with
    | .int i :: .ref o :: r => match lay o, M with
      | (t, len), (mi, ml, mr, n) => match Nat.beq t 15 && Nat.blt o n with
        | true => ∃ j : Nat, j < len ∧ i = nI j ∧ N ls (.int (mi o j) :: r) (mi, ml, mr, n)
        | false => False
    | _ => False
  | _ => False
def astP (e : En) (N : List Value → List Value → Mm → Prop) (ls st : List Value) (M : Mm) : Prop := match e.2.1 with
  | .iastore => match st with
    | .int x :: .int i :: .ref o :: r => match lay o, M with
      | (t, len), (mi, ml, mr, n) => match Nat.beq t 13 && Nat.blt o n with
        | true => ∃ j : Nat, j < len ∧ i = nI j ∧ N ls r (cu mi o (upd (mi o) j x), ml, mr, n)
        | false => False
    | _ => False
  | .lastore => match st with
    | .long x :: .int i :: .ref o :: r => match lay o, M with
      | (t, len), (mi, ml, mr, n) => match Nat.beq t 14 && Nat.blt o n with
        | true => ∃ j : Nat, j < len ∧ i = nI j ∧ N ls r (mi, cu ml o (vp_updL (ml o) j x), mr, n)
        | false => False
    | _ => False
  | .bastore => match st with
    | .int x :: .int i :: .ref o :: r => match lay o, M with
      | (t, len), (mi, ml, mr, n) => match Nat.beq t 15 && Nat.blt o n with
        | true => ∃ j : Nat, j < len ∧ i = nI j ∧ (x = 0 ∨ x = 1) ∧ N ls r (cu mi o (upd (mi o) j x), ml, mr, n)
        | false => False
    | _ => False
  | _ => False
theorem aldP_of {e : En} {N : List Value → List Value → Mm → Prop} {ls st : List Value} {M : Mm} (h : aldP e N ls st M) : match ald e st M with
    | some q => ∃ j : Nat, j < q.1 ∧ q.2.1 = nI j ∧ N ls (q.2.2 j) M
    | none => False := by
  rw [← ald2_eq]
  obtain ⟨mi, ml, mr, n⟩ := M
  unfold aldP at h
  unfold ald2
  split at h <;> rename_i hins <;> simp only [hins]
  · split at h
    · rename_i o r
      cases hl : lay o with
      | mk t len =>
        simp only [hl] at h ⊢
        cases hb : (Nat.beq t 13 && Nat.blt o n) with
        | true => simp only [hb] at h ⊢; exact h
        | false => simp only [hb] at h
    · exact h.elim
  · split at h
    · rename_i o r
      cases hl : lay o with
      | mk t len =>
        simp only [hl] at h ⊢
        cases hb : (Nat.beq t 14 && Nat.blt o n) with
        | true => simp only [hb] at h ⊢; exact h
        | false => simp only [hb] at h
    · exact h.elim
  · split at h
    · rename_i o r
      cases hl : lay o with
      | mk t len =>
        simp only [hl] at h ⊢
        cases hb : (Nat.beq t 15 && Nat.blt o n) with
        | true => simp only [hb] at h ⊢; exact h
        | false => simp only [hb] at h
    · exact h.elim
  · exact h.elim
theorem astP_of {e : En} {N : List Value → List Value → Mm → Prop} {ls st : List Value} {M : Mm} (h : astP e N ls st M) : match ast e st M with
    | some q => ∃ j : Nat, j < q.1 ∧ q.2.1 = nI j ∧ q.2.2.1 ∧ N ls q.2.2.2.1 (q.2.2.2.2 j)
    | none => False := by
  rw [← ast2_eq]
  obtain ⟨mi, ml, mr, n⟩ := M
  unfold astP at h
  unfold ast2
  split at h <;> rename_i hins <;> simp only [hins]
  · split at h
    · rename_i o r
      cases hl : lay o with
      | mk t len =>
        simp only [hl] at h ⊢
        cases hb : (Nat.beq t 13 && Nat.blt o n) with
        | true => simp only [hb] at h ⊢; obtain ⟨j, h1, h2, h3⟩ := h; exact ⟨j, h1, h2, trivial, h3⟩
        | false => simp only [hb] at h
    · exact h.elim
  · split at h
    · rename_i o r
      cases hl : lay o with
      | mk t len =>
        simp only [hl] at h ⊢
        cases hb : (Nat.beq t 14 && Nat.blt o n) with
        | true => simp only [hb] at h ⊢; obtain ⟨j, h1, h2, h3⟩ := h; exact ⟨j, h1, h2, trivial, h3⟩
        | false => simp only [hb] at h
    · exact h.elim
  · split at h
    · rename_i o r
      cases hl : lay o with
      | mk t len =>
        simp only [hl] at h ⊢
        cases hb : (Nat.beq t 15 && Nat.blt o n) with
        | true => simp only [hb] at h ⊢; exact h
        | false => simp only [hb] at h
    · exact h.elim
  · exact h.elim
def stpN (Cl : Nat → List Value → Mm → (Option Value → Mm → Prop) → Prop) (mc : Nat → Nat) (ret nmax : Nat) (Q : Option Value → Mm → Prop) (J : Nat → List Value → List Value → Mm → Prop) (e : En) (N : List Value → List Value → Mm → Prop) (ls st : List Value) (M : Mm) : Prop :=
  match e.2.2.2.2.1 with
  | 0 => match pst2 e ls st M with
    | some st' => N ls st' M
    | none => False
  | 1 => match lst e ls st with
    | some (ls', st') => N ls' st' M
    | none => False
  | 2 => match cst e st with
    | some ((a, b), r) => (a → J e.2.2.2.2.2.1.1 ls r M) ∧ (b → N ls r M)
    | none => False
  | 3 => J e.2.2.2.2.2.1.1 ls st M
  | 4 => match st with
    | .int x :: r => swP (fun t => J t ls r M) x e.2.2.2.2.2.1.1 e.2.2.2.2.2.2.2
    | _ => False
  | 5 => aldP e N ls st M
  | 6 => match obs2 e st M with
    | some (c, r, M') => c ∧ N ls r M'
    | none => False
  | 7 => astP e N ls st M
  | 8 => match tkr e.2.2.2.2.2.1.2.1 [] st with
    | some (as, r) => match rcv e.2.2.2.2.2.1.2.2.2 e.2.2.2.2.2.1.2.2.1 M.2.2.2 as && Nat.ble (cats r) 8 && Nat.ble (M.2.2.2 + mc e.2.2.2.2.2.1.1) nmax with
      | true => Cl e.2.2.2.2.2.1.1 as M (fun v M' => N ls (v.toList ++ r) M')
      | false => False
    | none => False
  | 10 => match nws e nmax st M with
    | some (c, r, M') => c ∧ N ls r M'
    | none => False
  | 11 => match cps st M with
    | some ((x, y, z), (la, lb), r, f) => match Nat.ble (cats r) 8 with
      | true => ∃ s d k : Nat, x = nI s ∧ y = nI d ∧ z = nI k ∧ s + k ≤ la ∧ d + k ≤ lb ∧ N ls r (f s d k)
      | false => False
    | none => False
  | 13 => match obs2 e st M with
    | some (_, r, M') => N ls r M'
    | none => False
  | 14 => astP e N ls st M
  | 15 => match tkr e.2.2.2.2.2.1.2.1 [] st with
    | some (as, r) => match Nat.ble (cats r) 8 with
      | true => Cl e.2.2.2.2.2.1.1 as M (fun v M' => N ls (v.toList ++ r) M')
      | false => False
    | none => False
  | _ => stp Cl mc ret nmax Q J e N ls st M
theorem stpN_stp {Cl : Nat → List Value → Mm → (Option Value → Mm → Prop) → Prop} {mc : Nat → Nat} {ret nmax : Nat} {Q : Option Value → Mm → Prop} {J : Nat → List Value → List Value → Mm → Prop} {e : En} {N : List Value → List Value → Mm → Prop} {ls st : List Value} {M : Mm} (h : stpN Cl mc ret nmax Q J e N ls st M) : stp Cl mc ret nmax Q J e N ls st M := by
  unfold stpN at h
  rw [pst2_eq, obs2_eq] at h
  split at h <;> first
    | exact h
    | (rename_i hg
       have h := aldP_of h
       unfold stp
       simp only [hg]
       exact h)
    | (rename_i hg
       have h := astP_of h
       unfold stp
       simp only [hg]
       split at h
       · rename_i heq
         simp only [heq]
         obtain ⟨j, h1, h2, h3, h4⟩ := h
         first | exact ⟨j, h1, h2, h4⟩ | exact ⟨j, h1, h2, h3, h4⟩
       · exact h.elim)
    | (rename_i hg
       unfold stp
       simp only [hg]
       exact h)
    | (rename_i hg
       unfold stp
       simp only [hg]
       split at h
       · rename_i heq
         simp only [heq]
         exact h
       · exact h.elim)
    | (rename_i hg
       unfold stp
       simp only [hg]
       split at h
       · exact h
       · exact h.elim)
def GnN (Cl : Nat → List Value → Mm → (Option Value → Mm → Prop) → Prop) (mc : Nat → Nat) (ret nmax : Nat) (Q : Option Value → Mm → Prop) (K : Nat → List Value → List Value → Mm → Prop) (code : List En) : Nat → List En → List Value → List Value → Mm → Prop
  | 0, _, _, _, _ => False
  | _ + 1, [], _, _, _ => False
  | n + 1, e :: rest, ls, st, M => match e.2.2.2.1 with
    | true => K e.1 ls st M
    | false => stpN Cl mc ret nmax Q (fun t => GnN Cl mc ret nmax Q K code n (sfx code t)) e (GnN Cl mc ret nmax Q K code n rest) ls st M
theorem GnN_Gn {Cl : Nat → List Value → Mm → (Option Value → Mm → Prop) → Prop} {mc : Nat → Nat} {ret nmax : Nat} {Q : Option Value → Mm → Prop} {K : Nat → List Value → List Value → Mm → Prop} {code : List En} (hC : ∀ k as M (P P' : Option Value → Mm → Prop), (∀ r M', P r M' → P' r M') → Cl k as M P → Cl k as M P') : ∀ (n : Nat) (es : List En) (ls st : List Value) (M : Mm), GnN Cl mc ret nmax Q K code n es ls st M → Gn Cl mc ret nmax Q K code n es ls st M
  | 0, _, _, _, _, h => h
  | _ + 1, [], _, _, _, h => h
  | n + 1, e :: rest, ls, st, M, h => by
    unfold GnN at h
    unfold Gn
    split at h
    · rename_i hb; simp only [hb]; exact h
    · rename_i hb
      simp only [hb]
      exact stp_mono hC (fun _ _ z => z) (fun t ls st M z => GnN_Gn hC n _ ls st M z) (fun ls st M z => GnN_Gn hC n _ ls st M z) (stpN_stp h)
