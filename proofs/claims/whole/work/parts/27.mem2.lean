/-! SWITCHES, ARRAYS, FIELDS, NEW CELLS -/
def swT (x : Int32) (d : Nat) : List (Int32 × Nat) → Nat
  | [] => d
  | q :: l => if x = q.1 then q.2 else swT x d l
theorem swP_T {J : Nat → Prop} {x : Int32} {d : Nat} : ∀ l, swP J x d l → J (swT x d l)
  | [], h => h
  | q :: l, h => by
    unfold swT
    split
    · rename_i hx; exact h.1 hx
    · rename_i hx; exact swP_T l (h.2 hx)
theorem swT_in {x : Int32} {d : Nat} : ∀ (sw : List (Int32 × Nat)) (lo : Int) (j : Nat) (q : Int32 × Nat), (∀ (i : Nat) (q : Int32 × Nat), sw[i]? = some q → q.1.toInt = lo + (i : Int)) → sw[j]? = some q → x.toInt = lo + (j : Int) → swT x d sw = q.2
  | [], _, _, _, _, h, _ => by simp at h
  | a :: l, lo, 0, q, ha, h, hx => by
    have h : a = q := by simpa using h
    subst h
    have h1 := ha 0 a rfl
    unfold swT
    rw [if_pos (Int32.toInt_inj.mp (hx.trans h1.symm))]
  | a :: l, lo, j + 1, q, ha, h, hx => by
    have h1 := ha 0 a rfl
    unfold swT
    rw [if_neg (fun z => by rw [z, h1] at hx; omega)]
    refine swT_in l (lo + 1) j q (fun i q hi => ?_) (by simpa using h) (by rw [hx]; push_cast; omega)
    have := ha (i + 1) q (by simpa using hi)
    rw [this]; push_cast; omega
theorem swT_out {x : Int32} {d : Nat} : ∀ (sw : List (Int32 × Nat)) (lo : Int), (∀ (i : Nat) (q : Int32 × Nat), sw[i]? = some q → q.1.toInt = lo + (i : Int)) → (x.toInt < lo ∨ lo + (sw.length : Int) ≤ x.toInt) → swT x d sw = d
  | [], _, _, _ => rfl
  | a :: l, lo, ha, hx => by
    have h1 := ha 0 a rfl
    unfold swT
    rw [if_neg (fun z => by rw [z, h1] at hx; simp at hx; omega)]
    refine swT_out l (lo + 1) (fun i q hi => ?_) (by simp at hx; omega)
    have := ha (i + 1) q (by simpa using hi)
    rw [this]; push_cast; omega
theorem swT_look {x : Int32} {d : Nat} {pc df : Int} (hd : pc + df = (d : Int)) : ∀ (sw : List (Int32 × Nat)) (ps : List (Int × Int)), sw.map (fun q => (q.1.toInt, (q.2 : Int))) = ps.map (fun q => (q.1, pc + q.2)) → pc + Op.lookupswitch.offset ps df x.toInt = (swT x d sw : Int)
  | [], [], _ => hd
  | [], _ :: _, h => by cases h
  | _ :: _, [], h => by cases h
  | a :: l, b :: ps, h => by
    simp only [List.map_cons, List.cons.injEq, Prod.mk.injEq] at h
    obtain ⟨⟨h1, h2⟩, h3⟩ := h
    obtain ⟨b1, b2⟩ := b
    have h1 : a.1.toInt = b1 := h1
    have h2 : (a.2 : Int) = pc + b2 := h2
    rw [Op.lookupswitch.offset_cons]
    unfold swT
    by_cases hx : x = a.1
    · rw [if_pos hx, if_pos (by rw [hx, h1]), h2]
    · rw [if_neg hx, if_neg (fun z => hx (Int32.toInt_inj.mp (z.symm.trans h1.symm)))]
      exact swT_look hd l ps h3
section
variable {p : Program} {l : Launch} {en : Env} {R : Room} {s : State} {m : MethodId} {args : Array Value} {below : List Frame} {meth : Method} {c : Code} {Qw : State → Prop} {w : Wn} {own nL kc ks n0 nmax : Nat} {cc : ByteArray} {ls st : List Value} {M : Mm}
set_option maxHeartbeats 4000000 in
theorem sd4 {e : En} {x : Int32} {r : List Value} (X : Ctx p R s m args c w own nL kc ks n0 nmax cc) (hok : okB own nL e = true) (hd : decode cc e.1 = .ok (e.2.1, e.2.2.1)) (hg : e.2.2.2.2.1 = 4) (k : swP (fun t => Wst p l en R s m args below meth c Qw w nL kc ks n0 nmax t ls r M) x e.2.2.2.2.2.1.1 e.2.2.2.2.2.2.2) : Wst p l en R s m args below meth c Qw w nL kc ks n0 nmax e.1 ls (.int x :: r) M := by
  obtain ⟨pc, ins, len, hb, g, ⟨a, b, c3, d⟩, v, sw⟩ := e
  obtain ⟨hx, hc, -⟩ := X
  simp only at hg hd k
  subst hg
  have k := swP_T _ k
  intro H locs arr hR hS hL hn1 hn2
  have kk := k H locs arr hR hS hL hn1 hn2
  clear k
  cases ins with
  | tableswitch df lo hi offs =>
    have hok := band hok
    have hok1 := band hok.1
    have hok2 := band hok1.1
    have hdf : ((pc : Nat) : Int) + df = ((a : Nat) : Int) := of_decide_eq_true hok2.1
    have hsz : hi - lo + 1 = (offs.size : Int) := of_decide_eq_true hok2.2
    have hlen : sw.length = offs.size := of_decide_eq_true hok1.2
    have hall := List.all_eq_true.mp hok.2
    have hall2 : ∀ (i : Nat) (q : Int32 × Nat), sw[i]? = some q → q.1.toInt = lo + (i : Int) ∧ ∃ o, offs[i]? = some o ∧ ((pc : Nat) : Int) + o = (q.2 : Int) := by
      intro i q hq
      have hi : i < offs.size := by rw [← hlen]; exact (List.getElem?_eq_some_iff.mp hq).1
      have h1 := hall i (List.mem_range.mpr hi)
      simp only [hq] at h1
      have h2 : offs[i]? = some offs[i] := Array.getElem?_eq_getElem hi
      rw [h2] at h1
      have h1 := band h1
      exact ⟨of_decide_eq_true h1.1, _, h2, of_decide_eq_true h1.2⟩
    by_cases hin : x.toInt < lo ∨ hi < x.toInt
    · refine lv_tableOut hx hc hd hin hdf ?_
      rw [swT_out sw lo (fun i q hq => (hall2 i q hq).1) (by rcases hin with z | z; exact Or.inl z; right; omega)] at kk
      exact kk
    · have h1 : ¬ x.toInt < lo := fun z => hin (Or.inl z)
      have h2 : ¬ hi < x.toInt := fun z => hin (Or.inr z)
      have hj : (x.toInt - lo).toNat < sw.length := by omega
      have hq : sw[(x.toInt - lo).toNat]? = some sw[(x.toInt - lo).toNat] := List.getElem?_eq_getElem hj
      obtain ⟨h3, o, h4, h5⟩ := hall2 _ _ hq
      refine lv_tableIn hx hc hd h1 h2 h4 h5 ?_
      rw [swT_in sw lo _ _ (fun i q hq => (hall2 i q hq).1) hq (by omega)] at kk
      exact kk
  | lookupswitch df ps =>
    have hok := band hok
    have hok1 := band hok.1
    exact lv_lookup hx hc hd hok1.2 rfl (swT_look (of_decide_eq_true hok1.1) sw ps.toList (of_decide_eq_true hok.2)) kk
  | _ => cases hok
theorem nI_lt31 {j n : Nat} (h : j < n) (hn : n ≤ 1000) : j < 2 ^ 31 := by omega
theorem lay_le : ∀ c, c < 136 → (lay c).2 ≤ 1000 := by decide +kernel
theorem Ctx.le {M : Mm} {H : Heap} (hR : RelW w M H) {o : Nat} (ho : o < M.2.2.2) : (lay o).2 ≤ 1000 := lay_le o (Nat.lt_of_lt_of_le ho hR.2.2.2.1)
set_option maxHeartbeats 4000000 in
theorem sd5 {e : En} {q : Nat × Int32 × (Nat → List Value)} {j : Nat} (X : Ctx p R s m args c w own nL kc ks n0 nmax cc) (hok : okB own nL e = true) (hd : decode cc e.1 = .ok (e.2.1, e.2.2.1)) (hg : e.2.2.2.2.1 = 5) (h : ald e st M = some q) (hj : j < q.1) (hi : q.2.1 = nI j) (k : Wst p l en R s m args below meth c Qw w nL kc ks n0 nmax (e.1 + e.2.2.1) ls (q.2.2 j) M) : Wst p l en R s m args below meth c Qw w nL kc ks n0 nmax e.1 ls st M := by
  obtain ⟨pc, ins, len, hb, g, ⟨a, b, c3, d⟩, v, sw⟩ := e
  obtain ⟨hx, hc, hml, hown, hts, ⟨hK, -, -⟩, -⟩ := X
  simp only at hg hd k
  subst hg
  obtain rfl : len = 1 := nbq hok
  intro H locs arr hR hS hL hn1 hn2
  have kk := k H locs arr hR hS hL hn1 hn2
  clear k
  unfold ald at h
  simp only at h
  split at h
  · split at h
    · rename_i i o r
      split at h
      · rename_i hq
        cases h
        simp only at hi hj kk
        subst hi
        have hq := band hq
        have ho := nbl hq.2
        have he := wl_get (w := w) ho
        rw [entE_int (nbq hq.1)] at he
        have h31 := nI_lt31 hj (Ctx.le hR ho)
        refine va_iald hx hc hK hR.2.2.2.2 o 0 he rfl (vp_in_nI hj (by have := Ctx.le hR ho; omega)) hd ?_
        rw [nI_clamp h31]
        exact kk
      · cases h
    · cases h
  · split at h
    · rename_i i o r
      split at h
      · rename_i hq
        cases h
        simp only at hi hj kk
        subst hi
        have hq := band hq
        have ho := nbl hq.2
        have he := wl_get (w := w) ho
        rw [entE_long (nbq hq.1)] at he
        have h31 := nI_lt31 hj (Ctx.le hR ho)
        refine va_lald hx hc hK hR.2.2.2.2 o 1 he rfl (vp_in_nI hj (by have := Ctx.le hR ho; omega)) hd ?_
        rw [nI_clamp h31]
        exact kk
      · cases h
    · cases h
  · split at h
    · rename_i i o r
      split at h
      · rename_i hq
        cases h
        simp only at hi hj kk
        subst hi
        have hq := band hq
        have ho := nbl hq.2
        have he := wl_get (w := w) ho
        rw [entE_bool (nbq hq.1)] at he
        have h31 := nI_lt31 hj (Ctx.le hR ho)
        refine va_zald hx hc hK hR.2.2.2.2 o 2 he rfl (vp_in_nI hj (by have := Ctx.le hR ho; omega)) hd ?_
        rw [nI_clamp h31]
        exact kk
      · cases h
    · cases h
  · cases h
theorem nar_bool {x : Int32} (h : x = 0 ∨ x = 1) : vp_nar .boolean x = x := by rcases h with rfl | rfl <;> rfl
set_option maxHeartbeats 4000000 in
theorem sd7 {e : En} {q : Nat × Int32 × Prop × List Value × (Nat → Mm)} {j : Nat} (X : Ctx p R s m args c w own nL kc ks n0 nmax cc) (hlen1 : e.2.2.1 = 1) (hd : decode cc e.1 = .ok (e.2.1, e.2.2.1)) (h : ast e st M = some q) (hj : j < q.1) (hi : q.2.1 = nI j) (hq3 : e.2.1 = .bastore → q.2.2.1) (k : Wst p l en R s m args below meth c Qw w nL kc ks n0 nmax (e.1 + e.2.2.1) ls q.2.2.2.1 (q.2.2.2.2 j)) : Wst p l en R s m args below meth c Qw w nL kc ks n0 nmax e.1 ls st M := by
  obtain ⟨pc, ins, len, hb, g, ⟨a, b, c3, d⟩, v, sw⟩ := e
  obtain ⟨hx, hc, hml, hown, hts, ⟨hK, -, -⟩, hs0, hw0, -⟩ := X
  simp only at hd k hlen1
  subst hlen1
  intro H locs arr hR hS hL hn1 hn2
  have hP := hR.2.2.2.2
  have hD := wl_D (w := w) hR.2.2.2.1
  unfold ast at h
  simp only at h
  split at h
  · split at h
    · rename_i x i o r
      split at h
      · rename_i hq
        cases h
        simp only at hi hj k
        subst hi
        have hq := band hq
        have ho := nbl hq.2
        have he := wl_get (w := w) ho
        rw [entE_int (nbq hq.1)] at he
        have h31 := nI_lt31 hj (Ctx.le hR ho)
        have hin : vp_in (nI j) (lay o).2 := vp_in_nI hj (by have := Ctx.le hR ho; omega)
        refine W.iast hx hc (hP o _ he) ((hK.2 0 _ rfl).1 (lay o).2 (fun j => .int (M.1 o j))) (fun q => by cases q) (by show ¬ (nI j < 0 ∨ (arrV _ _ _).slots.size ≤ _); rw [arrV_size]; exact hin) rfl rfl hd fun H1 e z oq => ?_
        have hent : va_at w.2.2.2.1 vwCl (ad w o, entE w (wI M o j x) o) H1 := by
          rw [entE_int (nbq hq.1)]
          show H1[ad w o]? = some (vp_cell _ _)
          rw [e]
          rw [vp_cell_i, vp_cell_i, arrV_store, nI_clamp h31]
          congr 2
          funext t
          by_cases ht : t = j
          · subst ht
            simp [updV, upd, wI, cu]
          · simp [updV, upd, wI, cu, ht]
        have hP1 := hP.set hD he hent oq
        rw [wl_set (M := M) (M' := wI M o j x) rfl ho (fun c' h' => wI_other c' h')] at hP1
        have hS1 := hS.put (k := (nI j).toNatClampNeg) z oq (hD.2 o _ he)
        exact k H1 _ arr (hR.step z rfl hP1 hS1 hs0 hw0) hS1 hL hn1 hn2
      · cases h
    · cases h
  · split at h
    · rename_i x i o r
      split at h
      · rename_i hq
        cases h
        simp only at hi hj k
        subst hi
        have hq := band hq
        have ho := nbl hq.2
        have he := wl_get (w := w) ho
        rw [entE_long (nbq hq.1)] at he
        have h31 := nI_lt31 hj (Ctx.le hR ho)
        have hin : vp_in (nI j) (lay o).2 := vp_in_nI hj (by have := Ctx.le hR ho; omega)
        refine W.last hx hc (hP o _ he) ((hK.2 1 _ rfl).1 (lay o).2 (fun j => .long (M.2.1 o j))) (fun q => by cases q) (by show ¬ (nI j < 0 ∨ (arrV _ _ _).slots.size ≤ _); rw [arrV_size]; exact hin) rfl rfl hd fun H1 e z oq => ?_
        have hent : va_at w.2.2.2.1 vwCl (ad w o, entE w (wL M o j x) o) H1 := by
          rw [entE_long (nbq hq.1)]
          show H1[ad w o]? = some (vp_cell _ _)
          rw [e]
          rw [vp_cell_l, vp_cell_l, arrV_store, nI_clamp h31]
          congr 2
          funext t
          by_cases ht : t = j
          · subst ht
            simp [updV, vp_updL, wL, cu]
          · simp [updV, vp_updL, wL, cu, ht]
        have hP1 := hP.set hD he hent oq
        rw [wl_set (M := M) (M' := wL M o j x) rfl ho (fun c' h' => wL_other c' h')] at hP1
        have hS1 := hS.put (k := (nI j).toNatClampNeg) z oq (hD.2 o _ he)
        exact k H1 _ arr (hR.step z rfl hP1 hS1 hs0 hw0) hS1 hL hn1 hn2
      · cases h
    · cases h
  · split at h
    · rename_i x i o r
      split at h
      · rename_i hq
        cases h
        simp only at hi hj k
        have hx01 : x = 0 ∨ x = 1 := hq3 rfl
        subst hi
        have hq := band hq
        have ho := nbl hq.2
        have he := wl_get (w := w) ho
        rw [entE_bool (nbq hq.1)] at he
        have h31 := nI_lt31 hj (Ctx.le hR ho)
        have hin : vp_in (nI j) (lay o).2 := vp_in_nI hj (by have := Ctx.le hR ho; omega)
        refine W.zast hx hc (hP o _ he) ((hK.2 2 _ rfl).1 (lay o).2 (fun j => .int (M.1 o j))) (fun q => by cases q) (by show ¬ (nI j < 0 ∨ (arrV _ _ _).slots.size ≤ _); rw [arrV_size]; exact hin) rfl rfl hd fun H1 e z oq => ?_
        have hent : va_at w.2.2.2.1 vwCl (ad w o, entE w (wI M o j x) o) H1 := by
          rw [entE_bool (nbq hq.1)]
          show H1[ad w o]? = some (vp_cell _ _)
          rw [e]
          rw [vp_cell_i, vp_cell_i, arrV_store, nI_clamp h31]
          congr 2
          funext t
          by_cases ht : t = j
          · subst ht
            rcases hx01 with rfl | rfl <;> simp [updV, upd, wI, cu] <;> rfl
          · simp [updV, upd, wI, cu, ht]
        have hP1 := hP.set hD he hent oq
        rw [wl_set (M := M) (M' := wI M o j x) rfl ho (fun c' h' => wI_other c' h')] at hP1
        have hS1 := hS.put (k := (nI j).toNatClampNeg) z oq (hD.2 o _ he)
        exact k H1 _ arr (hR.step z rfl hP1 hS1 hs0 hw0) hS1 hL hn1 hn2
      · cases h
    · cases h
  · cases h
end
