/-! CALLS -/
/-- how many cells a method makes -/
def mcL : List Nat := [5, 0, 0, 0, 0, 0, 0, 0, 0, 4, 0, 0, 0, 0, 0, 0, 5, 0, 0, 0, 0, 0, 1, 0, 0, 0, 1, 0, 0, 0, 0, 0, 0, 0, 0, 0, 0, 0, 0, 0, 0, 0, 0, 0, 0, 0, 0, 0, 0, 0, 0, 0, 0, 0, 0, 0, 2, 0, 0, 0, 0, 0, 0, 0, 0, 0, 0, 6, 0, 0, 0, 0, 0, 0, 0, 0, 0, 0, 10, 0, 0, 0, 0, 0, 0, 0, 0, 0, 0, 0, 0, 0, 0, 0, 0, 0, 0, 0, 0, 0, 0, 0, 0, 0, 0, 0, 3, 0, 0, 0, 0, 0, 0, 0, 0, 0, 0, 0, 0, 30, 0, 0, 0, 0, 0, 0, 0, 0, 0, 5, 0, 0, 0, 0, 0, 0, 0, 0, 0, 0, 0, 0, 0, 94, 0, 0, 0, 0, 0, 0, 0, 0, 0, 0, 0, 0, 0, 0, 0, 0, 0, 0, 0, 0, 0, 0, 0, 0, 0, 0, 0, 0, 0, 0, 0, 0, 0, 0, 0, 0, 0, 0, 0, 0, 0, 0, 0, 0, 0, 0, 0, 0, 0, 39, 0, 0, 0, 0, 0, 0, 0, 0, 0, 0, 0, 0, 0, 0, 0, 0, 0, 0, 0, 0, 0, 0, 0, 0, 0, 0, 0, 0, 0, 0, 0, 0, 0, 0, 0, 0, 0, 0, 0, 0, 0, 0, 0, 0, 0, 0, 0, 0, 0, 0, 0, 0, 0, 0, 0, 0, 0, 0, 0, 0, 0, 0, 0, 0, 0, 0, 0, 0, 0, 0, 0, 0, 0, 0, 0, 0, 0, 0, 0, 0, 0, 0, 0, 0, 0, 0, 0, 0, 0, 0, 0, 0, 0, 0, 0, 0, 0, 0, 0, 0, 0, 0, 0, 0, 0, 0, 0, 0, 0, 0, 0, 0, 0, 0, 0, 0, 0, 0, 0, 0, 0, 0, 0, 0, 0, 0, 0, 0, 0, 0, 0, 0, 0, 0, 0, 0, 0, 0, 0, 0, 0, 0, 0, 0, 0]
def mcT (k : Nat) : Nat := nth 0 mcL k
/-- a method's contract -/
def CM (l : Launch) (w : Wn) (d k : Nat) (as : List Value) (M : Mm) (Q : Option Value → Mm → Prop) : Prop :=
  Met l (my k) (Cond.code (my k) (mb k) (mx k) (rty (mr k)) :: gw) { frames := d, cells := mcT k, slots := SL (M.2.2.2 + mcT k) - SL M.2.2.2, locals := 36 * d } (va_Pc (as.map (cv w)) (fun U => RelW w M U.heap ∧ KK w U))
    (fun _ st oc t => ∃ (r : Option Value) (M' : Mm), oc = .returned (r.map (cv w)) ∧ Q r M' ∧ M'.2.2.2 = M.2.2.2 + mcT k ∧ RelW w M' t.heap ∧ va_F (AW w) st t) (mcT k) (SL (M.2.2.2 + mcT k) - SL M.2.2.2) (AW w)
theorem KK.warm {w : Wn} {s U : State} (hW : s.WarmedH U.vm) (h : KK w s) : KK w U := by
  refine ⟨va_K.moved hW.alike h.1, fun x hx => ?_, h.2.2.1.warm hW, h.2.2.2.moved hW.alike⟩
  obtain ⟨q, hq, rfl⟩ := List.mem_map.mp hx
  exact va_Nw.warmM hW (h.2.1 _ hx)
theorem KK.calling {w : Wn} {U : State} {g : JFrame} {mk : MethodId} {a : Array Value} (h : KK w U) : KK w (U.calling g mk a) := by
  refine ⟨va_K.moved (u := U) (U := U.calling g mk a) (Vm.Alike.refl U.vm) h.1, fun x hx => ?_, h.2.2.1.same rfl, h.2.2.2.moved (u := U) (U := U.calling g mk a) (Vm.Alike.refl U.vm)⟩
  obtain ⟨q, hq, rfl⟩ := List.mem_map.mp hx
  exact va_Nw.same rfl rfl (h.2.1 _ hx)
theorem tkr_spec : ∀ (n : Nat) (acc st : List Value) (q : List Value × List Value), tkr n acc st = some q → ∃ pre, st = pre ++ q.2 ∧ q.1 = pre.reverse ++ acc ∧ pre.length = n
  | 0, acc, st, q, h => by
    cases h
    exact ⟨[], rfl, rfl, rfl⟩
  | n + 1, acc, v :: st, q, h => by
    obtain ⟨pre, h1, h2, h3⟩ := tkr_spec n (v :: acc) st q h
    exact ⟨v :: pre, by rw [h1]; rfl, by rw [h2]; simp, by simp [h3]⟩
  | n + 1, acc, [], q, h => by cases h
section
variable {p : Program} {l : Launch} {en : Env} {R : Room} {s : State} {m : MethodId} {args : Array Value} {below : List Frame} {meth : Method} {c : Code} {Qw : State → Prop} {w : Wn} {own nL kc ks n0 nmax : Nat} {cc : ByteArray} {ls st : List Value} {M : Mm}
/-- behind a call -/
theorem zcall {H : Heap} {locs : List Loc} {arr : Array Slot} {cells slots mc ms pc : Nat} {st0 rest : List Value} {Q : Option Value → Mm → Prop} {n1 : Nat}
    (hr : va_Run p l en R s m args below meth c H locs cells slots mc ms (F0 m pc arr st0) rest (fun st oc t => ∃ (r : Option Value) (M' : Mm), oc = .returned (r.map (cv w)) ∧ Q r M' ∧ M'.2.2.2 = n1 ∧ RelW w M' t.heap ∧ va_F (AW w) st t) (AW w)) (hS : va_S (AW w) s.heap H locs)
    (kk : ∀ (r : Option Value) (M' : Mm) (H1 : Heap) (locs1 : List Loc), Q r M' → M'.2.2.2 = n1 → RelW w M' H1 → va_S (AW w) s.heap H1 locs1 → W p l en R s m args below meth c H1 locs1 (cells + mc) (slots + ms) Qw (F0 m (pc + 3) arr ((r.map (cv w)).toList ++ rest))) : W p l en R s m args below meth c H locs cells slots Qw (F0 m pc arr st0) := by
  intro T hT X
  obtain ⟨v, st₀, t, T', L, h0, X', hL, e1, e2, ⟨r, M', hv, hq, hn, hrel, hz, hk⟩, st⟩ := hr T hT X
  cases hv
  rw [h0] at hz hk
  obtain ⟨t2, a1, b1⟩ := kk r M' T'.heap (locs ++ L) hq hn (by rw [e1]; exact hrel)
    ⟨Nat.le_trans hS.1 (by rw [e1]; exact hz), fun q h1 h2 => by rw [e1, hk q (Nat.lt_of_lt_of_le h1 hS.1) h2]; exact hS.2.1 q h1 h2, fun q hq => by
      rcases List.mem_append.mp hq with h | h
      · exact hS.2.2 q h
      · exact hL q h⟩ T' rfl X'
  exact ⟨t2, st t2 a1, b1⟩
theorem cats_sum (r : List Value) : ((r.map (cv w)).map fun v => v.category).sum = cats r := by
  induction r with
  | nil => rfl
  | cons a r ih => simp only [List.map_cons, List.sum_cons, cv_cat, cats, ih]
theorem good_in {k : Nat} (hk : k < 339) {Ts : List Cond} (hT : ∀ x ∈ gw, x ∈ Ts) : GoodIn Ts (Cond.code (my k) (mb k) (mx k) (rty (mr k)) :: gw) := by
  intro x hx
  have hg : x ∈ gw := by
    rcases List.mem_cons.mp hx with rfl | h
    · exact (mt_ok hk).1
    · exact h
  exact ⟨hT x hg, good_of_word (gw_good x hg)⟩
set_option maxHeartbeats 4000000 in
theorem sd8 {e : En} {q : List Value × List Value} {d : Nat} {P : Option Value → Mm → Prop} (X : Ctx p R s m args c w own nL kc ks n0 nmax cc) (hR1 : d + 1 ≤ R.frames) (hR2 : 36 * d + 36 ≤ R.locals) (hok : okB own nL e = true) (hd : decode cc e.1 = .ok (e.2.1, e.2.2.1)) (hg : e.2.2.2.2.1 = 8)
    (h : tkr e.2.2.2.2.2.1.2.1 [] st = some q) (hrc : (rcv e.2.2.2.2.2.1.2.2.2 e.2.2.2.2.2.1.2.2.1 M.2.2.2 q.1 && Nat.ble (cats q.2) 8 && Nat.ble (M.2.2.2 + mcT e.2.2.2.2.2.1.1) nmax) = true)
    (hC : CM l w d e.2.2.2.2.2.1.1 q.1 M P) (k : ∀ r M', P r M' → Wst p l en R s m args below meth c Qw w nL kc ks n0 nmax (e.1 + e.2.2.1) ls (r.toList ++ q.2) M') : Wst p l en R s m args below meth c Qw w nL kc ks n0 nmax e.1 ls st M := by
  obtain ⟨pc, ins, len, hb, g, ⟨a, b, c3, dd⟩, v, sw⟩ := e
  obtain ⟨hx, hc, hml, hown, hts, hKK, hs0, hw0, hr1, hr2, hr3, hr4, hr5⟩ := X
  simp only at hg hd k hrc h hC
  subst hg
  have hrc0 := band hrc
  have hrc1 := band hrc0.1
  have hcat : cats q.2 ≤ 8 := Nat.le_of_ble_eq_true hrc1.2
  have hmax : M.2.2.2 + mcT a ≤ nmax := Nat.le_of_ble_eq_true hrc0.2
  have hrcv := hrc1.1
  obtain ⟨pre, hst, hq1, hlen⟩ := tkr_spec _ _ _ _ h
  rw [List.append_nil] at hq1
  have hok := band hok
  have hok1 := band hok.1
  have hok2 := band hok1.1
  obtain rfl : len = 3 := nbq hok2.1
  have ha : a < 339 := nbl hok2.2
  have hmo : mo a = c3 := nbq hok1.2
  have hok3 := hok.2
  simp only at hok3
  obtain ⟨w1, w2, w3, w4, w5, w6, w7, w8, w9, w10⟩ := mt_ok ha
  have hroom : d + 1 ≤ R.frames ∧ 8 + (mx a + 11) + 36 * d ≤ R.locals := ⟨hR1, by have := mx_le a ha; omega⟩
  have hgi := good_in (Ts := gw) ha (fun x h => h)
  intro H locs arr hR hS hL hn1 hn2
  have hSL1 := SL_mono hn1
  have hSL2 := SL_mono hmax
  have hSL3 := SL_mono (show M.2.2.2 ≤ M.2.2.2 + mcT a by omega)
  have hf : (kc + (M.2.2.2 - n0)) + mcT a ≤ R.cells ∧ (ks + (SL M.2.2.2 - SL n0)) + (SL (M.2.2.2 + mcT a) - SL M.2.2.2) ≤ R.slots := ⟨by omega, by omega⟩
  have hblind : FrameBlind (va_Pc (q.1.map (cv w)) (fun U => RelW w M U.heap ∧ KK w U)) := fun a U g mk z => ⟨z.1, z.2.1, z.2.2.calling⟩
  have hpre : ∀ U : State, U.heap = H → s.WarmedH U.vm → va_Pc (q.1.map (cv w)) (fun U => RelW w M U.heap ∧ KK w U) (q.1.map (cv w)).toArray U := fun U hU hW => ⟨rfl, by rw [hU]; exact hR, hKK.warm hW⟩
  have hstk : st.map (cv w) = (q.1.map (cv w)).reverse ++ q.2.map (cv w) := by
    rw [hst, hq1, List.map_append, List.map_reverse, List.reverse_reverse]
  have hroom8 : 2 * (F0 m pc arr (st.map (cv w))).monitorRoom + ((q.2.map (cv w)).map fun v => v.category).sum ≤ 8 := by
    rw [cats_sum]
    show 2 * 0 + _ ≤ 8
    omega
  have hfin : ∀ (r : Option Value) (M' : Mm) (H1 : Heap) (locs1 : List Loc), P r M' → M'.2.2.2 = M.2.2.2 + mcT a → RelW w M' H1 → va_S (AW w) s.heap H1 locs1 → W p l en R s m args below meth c H1 locs1 ((kc + (M.2.2.2 - n0)) + mcT a) ((ks + (SL M.2.2.2 - SL n0)) + (SL (M.2.2.2 + mcT a) - SL M.2.2.2)) Qw (F0 m (pc + 3) arr ((r.map (cv w)).toList ++ q.2.map (cv w))) := by
    intro r M' H1 locs1 hp hn hR' hS'
    have := k r M' hp H1 locs1 arr hR' hS' hL (by omega) (by omega)
    rw [hn] at this
    have e1 : kc + (M.2.2.2 + mcT a - n0) = kc + (M.2.2.2 - n0) + mcT a := by omega
    have e2 : ks + (SL (M.2.2.2 + mcT a) - SL n0) = ks + (SL M.2.2.2 - SL n0) + (SL (M.2.2.2 + mcT a) - SL M.2.2.2) := by omega
    rw [e1, e2] at this
    have e3 : (r.toList ++ q.2).map (cv w) = (r.map (cv w)).toList ++ q.2.map (cv w) := by
      cases r <;> simp
    rw [e3] at this
    exact this
  have hlenq : q.1.length = b := by rw [hq1, List.length_reverse]; exact hlen
  match dd, hrcv, hok3 with
  | 0, hrcv, hok3 =>
    cases ins with
    | invokevirtual i =>
      have hok3 := band hok3
      have hb2 : b = np a + 1 := nbq hok3.2
      cases hq : q.1 with
      | nil => rw [hq] at hrcv; cases hrcv
      | cons v0 As =>
        rw [hq] at hrcv
        cases v0 with
        | ref o =>
          have hrcv := band (show (Nat.beq (lay o).1 c3 && Nat.blt o M.2.2.2) = true from hrcv)
          have ho := nbl hrcv.2
          have hlay := nbq hrcv.1
          have hpre2 : ∀ U : State, U.heap = H → s.WarmedH U.vm → va_Pc (q.1.map (cv w)) (fun U => RelW w M U.heap ∧ KK w U) (Value.ref (ad w o) :: As.map (cv w)).toArray U := fun U hU hW => by
            have := hpre U hU hW
            rw [hq] at this ⊢
            exact this
          have hstk2 : st.map (cv w) = (As.map (cv w)).reverse ++ Value.ref (ad w o) :: q.2.map (cv w) := by
            rw [hstk, hq]
            simp [cv]
          have hn : (As.map (cv w)).length = np a := by
            rw [hq] at hlenq
            simp at hlenq ⊢
            omega
          have h13 : c3 < 13 := by
            rcases Nat.lt_or_ge c3 13 with z | z
            · exact z
            · exfalso
              have hz : c3 < 19 := by
                rw [← hmo]; exact (by decide +kernel : ∀ a, a < 339 → mo a < 19) a ha
              have hlo := (by decide +kernel : ∀ c, c < 136 → (lay c).1 < 16) o (Nat.lt_of_lt_of_le ho hR.2.2.2.1)
              rw [hlay] at hlo
              have : ∀ a, a < 339 → ¬ (13 ≤ mo a ∧ mo a < 16) := by decide +kernel
              exact this a ha ⟨by omega, by omega⟩
          obtain ⟨g1, g2, g3, g4, g5, g6⟩ := cls_ok c3 h13
          have he := wl_get (w := w) ho
          rw [entE_obj hlay h13] at he
          have hrecv := va_recv hKK.1 hR.2.2.2.2 g1 he
          have hcn : cn c3 = (my a).cls := by rw [← hmo]; exact w6
          rw [show (cn c3, TT c3, nfl c3).1 = (my a).cls from hcn] at hrecv
          rcases Bool.or_eq_true_iff.mp hok3.1 with hl | hl
          · obtain ⟨l1, l2, l3⟩ := cTab_of hl
            have w3 := w3 l2
            refine zcall (va_runV (As := As.map (cv w)) (b := ad w o) (rest := q.2.map (cv w)) (C := (my a).cls) ⟨hx, hc, hml, hown, hts⟩ hC ⟨callB_of (np a) hts hgi rfl rfl rfl (hts _ w2) (hts _ l1) ⟨w7, w8, w9⟩ hroom, hts _ w3.1, hts _ w3.2⟩ ⟨hblind, hrecv, hpre2⟩ rfl hn hL.size hstk2 hroom8 hd hf) hS hfin
          · obtain ⟨l1, l2, l3⟩ := nTab_of hl
            have w3 := w3 l2
            refine zcall (va_runVN (As := As.map (cv w)) (b := ad w o) (rest := q.2.map (cv w)) (C := (my a).cls) ⟨hx, hc, hml, hown, hts⟩ hC ⟨va_cnB (np a) hts hgi rfl rfl rfl (hKK.2.1 _ l1) (hts _ w2) ⟨w7, w8, w9⟩ hroom, hts _ w3.1, hts _ w3.2⟩ ⟨hblind, hrecv, hpre2⟩ rfl hn hL.size hstk2 hroom8 hd hf) hS hfin
        | _ => cases hrcv
    | _ => cases hok3
  | 1, hrcv, hok3 =>
    cases ins with
    | invokestatic i =>
      have hok3 := band hok3
      have hb2 : b = np a := nbq hok3.2
      have hn : (q.1.map (cv w)).length = np a := by rw [List.length_map]; omega
      rcases Bool.or_eq_true_iff.mp hok3.1 with hl | hl
      · obtain ⟨l1, l2, l3⟩ := cTab_of hl
        refine zcall (va_runS (As := q.1.map (cv w)) (rest := q.2.map (cv w)) ⟨hx, hc, hml, hown, hts⟩ hC ⟨callB_of (np a) hts hgi rfl rfl rfl (hts _ w2) (hts _ l1) ⟨w7, w8, w9⟩ hroom, hts _ (w4 l2)⟩ ⟨hblind, hpre⟩ rfl hn hL.size hstk hroom8 hd hf) hS hfin
      · obtain ⟨l1, l2, l3⟩ := nTab_of hl
        refine zcall (va_runSN (As := q.1.map (cv w)) (rest := q.2.map (cv w)) ⟨hx, hc, hml, hown, hts⟩ hC ⟨va_cnB (np a) hts hgi rfl rfl rfl (hKK.2.1 _ l1) (hts _ w2) ⟨w7, w8, w9⟩ hroom, hts _ (w4 l2), trivial⟩ ⟨hblind, hpre⟩ rfl hn hL.size hstk hroom8 hd hf) hS hfin
    | _ => cases hok3
  | 2, hrcv, hok3 =>
    cases ins with
    | invokespecial i =>
      have hok3 := band hok3
      have hret : mr a = 0 := nbq hok3.2
      have hok3 := band hok3.1
      have hb2 : b = np a + 1 := nbq hok3.2
      have hnone : rty (mr a) = none := by rw [hret]; rfl
      cases hq : q.1 with
      | nil => rw [hq] at hrcv; cases hrcv
      | cons v0 As =>
        rw [hq] at hrcv
        cases v0 with
        | ref o =>
          have hpre2 : ∀ U : State, U.heap = H → s.WarmedH U.vm → va_Pc (q.1.map (cv w)) (fun U => RelW w M U.heap ∧ KK w U) (Value.ref (ad w o) :: As.map (cv w)).toArray U := fun U hU hW => by
            have := hpre U hU hW
            rw [hq] at this ⊢
            exact this
          have hstk2 : st.map (cv w) = (As.map (cv w)).reverse ++ Value.ref (ad w o) :: q.2.map (cv w) := by
            rw [hstk, hq]
            simp [cv]
          have hn : (As.map (cv w)).length = np a := by
            rw [hq] at hlenq
            simp at hlenq ⊢
            omega
          unfold CM at hC
          rw [hnone] at hC hgi
          rcases Bool.or_eq_true_iff.mp hok3.1 with hl | hl
          · obtain ⟨l1, l2, l3⟩ := cTab_of hl
            have w5 := w5 l2
            refine zcall (va_runI (As := As.map (cv w)) (b := ad w o) (rest := q.2.map (cv w)) ⟨hx, hc, hml, hown, hts⟩ hC (cwI (np a) hts hgi rfl rfl rfl (hts _ w2) (hts _ l1) (hts _ w5.1) w5.2 ⟨w7, w8, w9⟩ hroom) ⟨hblind, hpre2⟩ rfl hn hL.size hstk2 hroom8 hd hf) hS hfin
          · obtain ⟨l1, l2, l3⟩ := nTab_of hl
            have w5 := w5 l2
            refine zcall (va_runIN (As := As.map (cv w)) (b := ad w o) (rest := q.2.map (cv w)) ⟨hx, hc, hml, hown, hts⟩ hC ⟨va_cnB (np a) hts hgi rfl rfl rfl (hKK.2.1 _ l1) (hts _ w2) ⟨w7, w8, w9⟩ hroom, w5.2, hts _ w5.1⟩ ⟨hblind, hpre2⟩ rfl hn hL.size hstk2 hroom8 hd hf) hS hfin
        | _ => cases hrcv
    | _ => cases hok3
  | n + 3, hrcv, hok3 => cases hok3
end
