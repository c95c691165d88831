/-! DIVISIONS, FIELDS, NEW CELLS, COPIES -/
section
variable {p : Program} {l : Launch} {en : Env} {R : Room} {s : State} {m : MethodId} {args : Array Value} {below : List Frame} {meth : Method} {c : Code} {Qw : State → Prop} {w : Wn} {own nL kc ks n0 nmax : Nat} {cc : ByteArray} {ls st : List Value} {M : Mm}
/-- a field written, whatever its kind -/
theorem zfield {H : Heap} {locs : List Loc} {arr : Array Slot} {o a b t idx pc : Nat} {rest : List Value} {v : Value} {M' : Mm} (X : Ctx p R s m args c w own nL kc ks n0 nmax cc) (hR : RelW w M H) (hS0 : va_S (AW w) s.heap H locs) (hL : LRv w ls arr nL) (hn1 : n0 ≤ M.2.2.2) (hn2 : M.2.2.2 ≤ nmax)
    (hlay : (lay o).1 = a) (ho : o < M.2.2.2) (hf : fTabB own idx a b t = true) (hfin : (TT a b).2.2.2 = false ∨ ((TT a b).2.2.2 = true ∧ meth.name = "<init>" ∧ own = a)) (hM' : M'.2.2.2 = M.2.2.2)
    (hv : (t = 0 ∧ ∃ x, v = .int x ∧ M' = wI M o b x) ∨ (t = 3 ∧ ∃ x, (x = 0 ∨ x = 1) ∧ v = .int x ∧ M' = wI M o b x) ∨ (t = 1 ∧ ∃ x, v = .long x ∧ M' = wL M o b x) ∨ (t = 2 ∧ ∃ x, v = .ref x ∧ M' = wR M o b (some x)))
    (hd : decode cc pc = .ok (.putfield idx, 3)) (k : Wst p l en R s m args below meth c Qw w nL kc ks n0 nmax (pc + 3) ls rest M') :
    W p l en R s m args below meth c H locs (kc + (M.2.2.2 - n0)) (ks + (SL M.2.2.2 - SL n0)) Qw (F0 m pc arr (((v :: .ref o :: rest)).map (cv w))) := by
  obtain ⟨hl, ha, hb2, ht⟩ := fTab_of hf
  have htag := tag_ok a ha b hb2
  have ends : ∀ (u : Value), u = cv w v → narrow (tyT a b) u = u → fits (tyT a b) u = true → entE w M' o = .inr (a, (flds w M a o).set b u) → (∀ c', c' ≠ o → entE w M' c' = entE w M c') → W p l en R s m args below meth c H locs (kc + (M.2.2.2 - n0)) (ks + (SL M.2.2.2 - SL n0)) Qw (F0 m pc arr (((v :: .ref o :: rest)).map (cv w))) := by
    intro u hu h1 h2 h3 h4
    have e1 : ((v :: .ref o :: rest)).map (cv w) = u :: .ref (ad w o) :: rest.map (cv w) := by rw [hu]; rfl
    rw [e1]
    refine zput X hR hS0 ho hlay ha hb2 hfin hl h1 h2 hM' h3 h4 hd (fun H1 locs1 hR1 hS1 => ?_)
    have := k H1 locs1 arr hR1 hS1 hL (by omega) (by omega)
    rw [hM'] at this
    exact this
  rcases hv with ⟨rfl, x, rfl, rfl⟩ | ⟨rfl, x, hx, rfl, rfl⟩ | ⟨rfl, x, rfl, rfl⟩ | ⟨rfl, x, rfl, rfl⟩
  · have hty := tag_int (htag.trans ht)
    refine ends (.int x) rfl (by rw [hty]; rfl) (by rw [hty]; rfl) ?_ (fun c' h' => wI_other c' h')
    rw [entE_obj hlay ha, ← flds_set (M' := wI M o b x) (v := .int x) hb2 ?_ (fun j hj t => fv_wI j hj t)]
    rw [ht]; simp [fv, wI, cu, upd, cv]
  · have hty := tag_bool (htag.trans ht)
    refine ends (.int x) rfl (by rw [hty]; rcases hx with rfl | rfl <;> rfl) (by rw [hty]; rcases hx with rfl | rfl <;> rfl) ?_ (fun c' h' => wI_other c' h')
    rw [entE_obj hlay ha, ← flds_set (M' := wI M o b x) (v := .int x) hb2 ?_ (fun j hj t => fv_wI j hj t)]
    rw [ht]; simp [fv, wI, cu, upd, cv]
  · have hty := tag_long (htag.trans ht)
    refine ends (.long x) rfl (by rw [hty]; rfl) (by rw [hty]; rfl) ?_ (fun c' h' => wL_other c' h')
    rw [entE_obj hlay ha, ← flds_set (M' := wL M o b x) (v := .long x) hb2 ?_ (fun j hj t => fv_wL j hj t)]
    rw [ht]; simp [fv, wL, cu, vp_updL, cv]
  · have hty := tag_ref (htag.trans ht)
    refine ends (.ref (ad w x)) rfl (by rcases hty with ⟨n, e⟩ | ⟨n, e⟩ <;> rw [e] <;> rfl) (by rcases hty with ⟨n, e⟩ | ⟨n, e⟩ <;> rw [e] <;> rfl) ?_ (fun c' h' => wR_other c' h')
    rw [entE_obj hlay ha, ← flds_set (M' := wR M o b (some x)) (v := .ref (ad w x)) hb2 ?_ (fun j hj t => fv_wR j hj t)]
    rw [ht]; simp [fv, wR, cu, cv, va_rf]
set_option maxHeartbeats 4000000 in
theorem sd6 {e : En} {q : Prop × List Value × Mm} (X : Ctx p R s m args c w own nL kc ks n0 nmax cc) (hok : okB own nL e = true) (hd : decode cc e.1 = .ok (e.2.1, e.2.2.1)) (hg : e.2.2.2.2.1 = 6) (h : obs e st M = some q) (hq : q.1) (k : Wst p l en R s m args below meth c Qw w nL kc ks n0 nmax (e.1 + e.2.2.1) ls q.2.1 q.2.2) : Wst p l en R s m args below meth c Qw w nL kc ks n0 nmax e.1 ls st M := by
  have X' := X
  obtain ⟨pc, ins, len, hb, g, ⟨a, b, c3, d⟩, v, sw⟩ := e
  obtain ⟨hx, hc, hml, hown, hts, -⟩ := X
  simp only at hg hd k
  subst hg
  intro H locs arr hR hS hL hn1 hn2
  unfold obs at h
  simp only at h
  split at h
  · obtain rfl : len = 1 := nbq hok
    split at h
    · cases h
      exact lv_idiv hx hc hd hq (k H locs arr hR hS hL hn1 hn2)
    · cases h
  · obtain rfl : len = 1 := nbq hok
    split at h
    · cases h
      exact lv_irem hx hc hd hq (k H locs arr hR hS hL hn1 hn2)
    · cases h
  · obtain rfl : len = 1 := nbq hok
    split at h
    · cases h
      exact lv_ldiv hx hc hd hq (k H locs arr hR hS hL hn1 hn2)
    · cases h
  · obtain rfl : len = 1 := nbq hok
    split at h
    · cases h
      exact lv_lrem hx hc hd hq (k H locs arr hR hS hL hn1 hn2)
    · cases h
  · have hok := band hok
    have hok1 := band hok.1
    obtain rfl : len = 3 := nbq hok.2
    have hfin := of_decide_eq_true hok1.2
    split at h
    · split at h
      · rename_i hq2
        have hq2 := band hq2
        split at h
        · cases h
          exact zfield X' hR hS hL hn1 hn2 (nbq hq2.1) (nbl hq2.2) hok1.1 (Or.inl hfin) (by rfl) (Or.inl ⟨rfl, _, rfl, rfl⟩) hd k
        · cases h
          exact zfield X' hR hS hL hn1 hn2 (nbq hq2.1) (nbl hq2.2) hok1.1 (Or.inl hfin) (by rfl) (Or.inr (Or.inl ⟨rfl, _, hq, rfl, rfl⟩)) hd k
        · cases h
      · cases h
    · split at h
      · rename_i hq2
        have hq2 := band hq2
        split at h
        · cases h
          exact zfield X' hR hS hL hn1 hn2 (nbq hq2.1) (nbl hq2.2) hok1.1 (Or.inl hfin) (by rfl) (Or.inr (Or.inr (Or.inl ⟨rfl, _, rfl, rfl⟩))) hd k
        · cases h
      · cases h
    · split at h
      · rename_i hq2
        have hq2 := band hq2
        split at h
        · cases h
          exact zfield X' hR hS hL hn1 hn2 (nbq hq2.1) (nbl hq2.2) hok1.1 (Or.inl hfin) (by rfl) (Or.inr (Or.inr (Or.inr ⟨rfl, _, rfl, rfl⟩))) hd k
        · cases h
      · cases h
    · cases h
  · cases h
set_option maxHeartbeats 4000000 in
theorem sd13 {e : En} {q : Prop × List Value × Mm} (X : Ctx p R s m args c w own nL kc ks n0 nmax cc) (hini : e.2.2.2.2.2.1.2.2.2 = 1 → meth.name = "<init>") (hok : okB own nL e = true) (hd : decode cc e.1 = .ok (e.2.1, e.2.2.1)) (hg : e.2.2.2.2.1 = 13) (h : obs e st M = some q) (k : Wst p l en R s m args below meth c Qw w nL kc ks n0 nmax (e.1 + e.2.2.1) ls q.2.1 q.2.2) : Wst p l en R s m args below meth c Qw w nL kc ks n0 nmax e.1 ls st M := by
  have X' := X
  obtain ⟨pc, ins, len, hb, g, ⟨a, b, c3, d⟩, v, sw⟩ := e
  obtain ⟨hx, hc, hml, hown, hts, -⟩ := X
  simp only at hg hd k hini
  subst hg
  intro H locs arr hR hS hL hn1 hn2
  unfold obs at h
  simp only at h
  split at h
  · cases hok
  · cases hok
  · cases hok
  · cases hok
  · have hok := band hok
    have hok0 := band hok.1
    have hok1 := band hok0.1
    obtain rfl : len = 3 := nbq hok0.2
    have hfin : (TT a b).2.2.2 = false ∨ ((TT a b).2.2.2 = true ∧ meth.name = "<init>" ∧ own = a) := by
      have h2 := hok1.2
      simp only at h2
      cases hb9 : (TT a b).2.2.2 with
      | false => exact Or.inl rfl
      | true =>
        rw [hb9] at h2
        have h2 := band h2
        exact Or.inr ⟨rfl, hini (nbq h2.2), (nbq h2.1).symm⟩
    split at h
    · split at h
      · rename_i hq2
        have hq2 := band hq2
        split at h
        · cases h
          exact zfield X' hR hS hL hn1 hn2 (nbq hq2.1) (nbl hq2.2) hok1.1 hfin (by rfl) (Or.inl ⟨rfl, _, rfl, rfl⟩) hd k
        · exact absurd (show (!(Nat.beq 3 3)) = true from hok.2) (by decide)
        · cases h
      · cases h
    · split at h
      · rename_i hq2
        have hq2 := band hq2
        split at h
        · cases h
          exact zfield X' hR hS hL hn1 hn2 (nbq hq2.1) (nbl hq2.2) hok1.1 hfin (by rfl) (Or.inr (Or.inr (Or.inl ⟨rfl, _, rfl, rfl⟩))) hd k
        · cases h
      · cases h
    · split at h
      · rename_i hq2
        have hq2 := band hq2
        split at h
        · cases h
          exact zfield X' hR hS hL hn1 hn2 (nbq hq2.1) (nbl hq2.2) hok1.1 hfin (by rfl) (Or.inr (Or.inr (Or.inr ⟨rfl, _, rfl, rfl⟩))) hd k
        · cases h
      · cases h
    · cases h
  · cases h
theorem sd12 {e : En} {o : Nat} {r : List Value} (X : Ctx p R s m args c w own nL kc ks n0 nmax cc) (hok : okB own nL e = true) (hd : decode cc e.1 = .ok (e.2.1, e.2.2.1)) (hg : e.2.2.2.2.1 = 12) (hcat : cats r ≤ 8) (k : Wst p l en R s m args below meth c Qw w nL kc ks n0 nmax (e.1 + e.2.2.1) ls r M) : Wst p l en R s m args below meth c Qw w nL kc ks n0 nmax e.1 ls (.ref o :: r) M := by
  obtain ⟨pc, ins, len, hb, g, ⟨a, b, c3, d⟩, v, sw⟩ := e
  obtain ⟨hx, hc, hml, hown, hts, hKK, hs0, hw0, hr1, hr2, hr3, hr4, -⟩ := X
  simp only at hg hd k
  subst hg
  intro H locs arr hR hS hL hn1 hn2
  cases ins with
  | invokespecial i =>
    have hok := band hok
    obtain rfl : len = 3 := nbq hok.2
    have hsum : ((r.map (cv w)).map fun v => v.category).sum = cats r := by
      clear hcat k
      induction r with
      | nil => rfl
      | cons a r ih => simp only [List.map_cons, List.sum_cons, cv_cat, cats, ih]
    refine W.objInit hx hc hown (hts _ (oTab_of hok.1)) (hts _ gw_objI) (hts _ gw_objC) rfl (by rw [hml]; exact hL.size) (a := ad w o) (rest := r.map (cv w)) rfl hd hr3 (by show 2 * 0 + _ + 12 ≤ _; rw [hsum]; omega) ?_
    exact k H locs arr hR hS hL hn1 hn2
  | _ => cases hok
end
