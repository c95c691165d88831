/-! NEW CELLS; COPIES -/
theorem lay_obj : ∀ c, c < 136 → (lay c).1 < 13 → (lay c).2 = nfl (lay c).1 := by decide +kernel
theorem ftg_lt : ∀ ci, ci < 13 → ∀ k, k < nfl ci → ftg ci k < 4 := by decide +kernel
section
variable {p : Program} {l : Launch} {en : Env} {R : Room} {s : State} {m : MethodId} {args : Array Value} {below : List Frame} {meth : Method} {c : Code} {Qw : State → Prop} {w : Wn} {own nL kc ks n0 nmax : Nat} {cc : ByteArray} {ls st : List Value} {M : Mm}
theorem mk1_other {c' : Nat} (h : c' ≠ M.2.2.2) : entE w (mk1 M) c' = entE w M c' := entE_congr (by simp [mk1, cu, h]) (by simp [mk1, cu, h]) (by simp [mk1, cu, h])
theorem wl_push : wl w (mk1 M) = wl w M ++ [(ad w M.2.2.2, entE w (mk1 M) M.2.2.2)] := by
  have e : wl w (mk1 M) = (List.range (M.2.2.2 + 1)).map (fun c => (ad w c, entE w (mk1 M) c)) := rfl
  rw [e, List.range_succ, List.map_append]
  congr 1
  apply List.map_congr_left
  intro c hc
  rw [mk1_other (Nat.ne_of_lt (List.mem_range.mp hc))]
/-- what a new cell changes -/
theorem RelW.new {H H1 : Heap} {locs : List Loc} (hR : RelW w M H) (hS : va_S (AW w) s.heap H locs) (hn : M.2.2.2 < 136) (hz : H1.size = w.1 + M.2.2.2 + 1) (ho : ∀ q, q < w.1 + M.2.2.2 → H1[q]? = H[q]?) (he : va_at w.2.2.2.1 vwCl (ad w M.2.2.2, entE w (mk1 M) M.2.2.2) H1) : RelW w (mk1 M) H1 ∧ va_S (AW w) s.heap H1 locs := by
  obtain ⟨h1, h2, h3, h4, h5⟩ := hR
  have hsz := h3 hn
  refine ⟨⟨fun q hq => (ho q (by omega)).trans (h1 q hq), ?_, fun _ => ?_, hn, ?_⟩, ⟨by have := hS.1; omega, fun q q1 q2 => (ho q (by have := hS.1; omega)).trans (hS.2.1 q q1 q2), hS.2.2⟩⟩
  · show w.1 + (M.2.2.2 + 1) ≤ _
    omega
  · show _ = w.1 + (M.2.2.2 + 1)
    omega
  · rw [wl_push]
    refine (h5.kept (fun k q hq => ho q.1 ?_)).app (fun k q hq => ?_)
    · rw [← hsz]; exact (h5 k q hq).lt
    · have hz0 : k < 1 := (List.getElem?_eq_some_iff.mp hq).1
      rw [show k = 0 by omega] at hq
      cases hq
      exact he
set_option maxHeartbeats 4000000 in
theorem sd10 {e : En} {q : Prop × List Value × Mm} (X : Ctx p R s m args c w own nL kc ks n0 nmax cc) (hok : okB own nL e = true) (hd : decode cc e.1 = .ok (e.2.1, e.2.2.1)) (hg : e.2.2.2.2.1 = 10) (h : nws e nmax st M = some q) (hq : q.1) (k : Wst p l en R s m args below meth c Qw w nL kc ks n0 nmax (e.1 + e.2.2.1) ls q.2.1 q.2.2) : Wst p l en R s m args below meth c Qw w nL kc ks n0 nmax e.1 ls st M := by
  obtain ⟨pc, ins, len, hb, g, ⟨a, b, c3, d⟩, v, sw⟩ := e
  obtain ⟨hx, hc, hml, hown, hts, ⟨hK, -, -⟩, hs0, hw0, hr1, hr2, hr3, hr4, hr5⟩ := X
  simp only at hg hd k
  subst hg
  intro H locs arr hR hS hL hn1 hn2
  unfold nws at h
  simp only at h
  split at h
  · rename_i hq2
    have hq2 := band hq2
    have hlt := nbl hq2.1
    have hlay := nbq hq2.2
    have hn : M.2.2.2 < 136 := by omega
    have hsz := hR.2.2.1 hn
    have had : ad w M.2.2.2 = w.1 + M.2.2.2 := ad_lt hn
    have hSL := SL_mono (show M.2.2.2 + 1 ≤ nmax by omega)
    have hSL0 := SL_mono hn1
    have hSLs : SL (M.2.2.2 + 1) = SL M.2.2.2 + (lay M.2.2.2).2 := rfl
    have hcells : kc + (M.2.2.2 - n0) + 1 ≤ R.cells := by omega
    have hslots : ks + (SL M.2.2.2 - SL n0) + (lay M.2.2.2).2 ≤ R.slots := by omega
    have ec : kc + (M.2.2.2 - n0) + 1 = kc + ((mk1 M).2.2.2 - n0) := by
      show _ = kc + (M.2.2.2 + 1 - n0)
      omega
    have es : ks + (SL M.2.2.2 - SL n0) + (lay M.2.2.2).2 = ks + (SL (mk1 M).2.2.2 - SL n0) := by
      show _ = ks + (SL (M.2.2.2 + 1) - SL n0)
      omega
    split at h
    · have hok := band hok
      obtain rfl : len = 3 := nbq hok.2
      obtain ⟨hcl, ha⟩ := wTab_of hok.1
      simp only at hcl ha
      obtain ⟨g1, g2, g3, g4, g5, g6⟩ := cls_ok a ha
      have hN : (lay M.2.2.2).2 = nfl a := by rw [lay_obj _ hn (by rw [hlay]; exact ha), hlay]
      cases h
      have hKn := hK.1 a _ g1
      rw [hN] at hslots
      refine W.newcK hx hc hown (hts _ hcl) (hts _ g5) (hts _ g6) rfl hd hcells hslots hKn.2.1 hsz fun H1 kC hkC e1 z1 o1 => ?_
      have hent : va_at w.2.2.2.1 vwCl (ad w M.2.2.2, entE w (mk1 M) M.2.2.2) H1 := by
        rw [entE_obj hlay ha]
        refine ⟨_, g1, ?_⟩
        rw [had]
        refine (u_born (tyT a) hts g2 hKn hkC e1 g3).to (fun j hj => ?_)
        show _ = vp_V (flds w (mk1 M) a M.2.2.2) j
        unfold vp_V
        rw [List.getD_eq_getElem?_getD, flds_get hj]
        have ht := tag_ok a ha j hj
        show _ = cv w (fv (mk1 M) M.2.2.2 j (ftg a j))
        rw [← ht]
        cases hty : tyT a j <;> first | (simp [tagT, fv, mk1, cu, defaultValue, cv, va_rf]; done) | (exfalso; rw [hty] at ht; have h9 := ftg_lt a ha j hj; rw [← ht] at h9; exact absurd h9 (by decide))
      obtain ⟨hR1, hS1⟩ := hR.new hS hn z1 o1 hent
      have := k H1 locs arr hR1 hS1 hL (by show n0 ≤ M.2.2.2 + 1; omega) (by show M.2.2.2 + 1 ≤ nmax; omega)
      rw [← ec, ← es, hN] at this
      rw [← had]
      exact this
    · rename_i t
      have hok := band hok
      obtain rfl : len = 2 := nbq hok.2
      split at h
      · rename_i x r
        cases h
        have hq : x = nI (lay M.2.2.2).2 := hq
        subst hq
        have hle := lay_le _ hn
        have h31 : (lay M.2.2.2).2 < 2 ^ 31 := by omega
        have hneg : ¬ nI (lay M.2.2.2).2 < 0 := nI_pos h31
        have key : ∀ (ty : FieldType) (i : Nat) (f : vp_A), newarray.typeOf t = ty → (Cond.arrayClass ty).before args s = true → (lay M.2.2.2).2 * componentBytes ty ≤ 536870912 → (tysW w)[i]? = some (w.2.2.2.2 i, ty) → (va_RA s (w.2.2.2.2 i) ty → s.vm.findClass ("[" ++ ty.toString) = some (w.2.2.2.2 i)) → entE w (mk1 M) M.2.2.2 = .inl (w.2.2.2.2 i, f) → (∀ cA : ClassId, vp_cell cA f = arrV cA (lay M.2.2.2).2 (fun _ => defaultValue ty)) →
            W p l en R s m args below meth c H locs (kc + (M.2.2.2 - n0)) (ks + (SL M.2.2.2 - SL n0)) Qw (F0 m pc arr ((Value.int (nI (lay M.2.2.2).2) :: r).map (cv w))) := by
          intro ty i f hty harr hby hti hra hent hcell
          subst hty
          refine va_newaK hx hc harr rfl hd rfl hneg (nI_clamp h31) hby hcells hslots hsz fun H1 cA e1 z1 o1 hAr hNm => ?_
          have hcA : cA = w.2.2.2.2 i := Option.some.inj (hNm.symm.trans (hra (hK.2 i _ hti).2))
          have hent2 : va_at w.2.2.2.1 vwCl (ad w M.2.2.2, entE w (mk1 M) M.2.2.2) H1 := by
            rw [hent]
            show H1[ad w M.2.2.2]? = some (vp_cell _ _)
            rw [hcell, had, ← hcA]
            exact e1
          obtain ⟨hR1, hS1⟩ := hR.new hS hn z1 o1 hent2
          have := k H1 locs arr hR1 hS1 hL (by show n0 ≤ M.2.2.2 + 1; omega) (by show M.2.2.2 + 1 ≤ nmax; omega)
          rw [← ec, ← es] at this
          rw [← had]
          exact this
        have hok1 := hok.1
        cases t with
        | int =>
          have ha : a = 13 := nbq hok1
          rw [ha] at hlay
          refine key .int 0 ((lay M.2.2.2).2, .inl ((mk1 M).1 M.2.2.2)) rfl (hts _ gw_arr_int) (by simp [componentBytes]; omega) rfl (fun z => z) (entE_int hlay) (fun cA => ?_)
          rw [vp_cell_i]
          simp [mk1, cu, defaultValue]
        | long =>
          have ha : a = 14 := nbq hok1
          rw [ha] at hlay
          refine key .long 1 ((lay M.2.2.2).2, .inr (.inl ((mk1 M).2.1 M.2.2.2))) rfl (hts _ gw_arr_long) (by simp [componentBytes]; omega) rfl (fun z => z) (entE_long hlay) (fun cA => ?_)
          rw [vp_cell_l]
          simp [mk1, cu, defaultValue]
        | boolean =>
          have ha : a = 15 := nbq hok1
          rw [ha] at hlay
          refine key .boolean 2 ((lay M.2.2.2).2, .inl ((mk1 M).1 M.2.2.2)) rfl (hts _ gw_arr_boolean) (by simp [componentBytes]; omega) rfl (fun z => z) (entE_bool hlay) (fun cA => ?_)
          rw [vp_cell_i]
          simp [mk1, cu, defaultValue]
        | _ => cases hok1
      · cases h
    · cases h
  · cases h
set_option maxHeartbeats 4000000 in
theorem sd11 {e : En} {q : (Int32 × Int32 × Int32) × (Nat × Nat) × List Value × (Nat → Nat → Nat → Mm)} {sp dp n : Nat} (X : Ctx p R s m args c w own nL kc ks n0 nmax cc) (hok : okB own nL e = true) (hd : decode cc e.1 = .ok (e.2.1, e.2.2.1)) (hg : e.2.2.2.2.1 = 11) (h : cps st M = some q) (hcat : cats q.2.2.1 ≤ 8) (h1 : q.1.1 = nI sp) (h2 : q.1.2.1 = nI dp) (h3 : q.1.2.2 = nI n) (h4 : sp + n ≤ q.2.1.1) (h5 : dp + n ≤ q.2.1.2) (k : Wst p l en R s m args below meth c Qw w nL kc ks n0 nmax (e.1 + e.2.2.1) ls q.2.2.1 (q.2.2.2 sp dp n)) : Wst p l en R s m args below meth c Qw w nL kc ks n0 nmax e.1 ls st M := by
  obtain ⟨pc, ins, len, hb, g, ⟨a, b, c3, d⟩, v, sw⟩ := e
  obtain ⟨hx, hc, hml, hown, hts, ⟨hK, -, -⟩, hs0, hw0, hr1, hr2, hr3, hr4, hr5⟩ := X
  simp only at hg hd k
  subst hg
  intro H locs arr hR hS hL hn1 hn2
  cases ins with
  | invokestatic i =>
    have hok := band hok
    obtain rfl : len = 3 := nbq hok.2
    unfold cps at h
    split at h
    · rename_i x1 x2 o2 x3 o1 r
      split at h
      · rename_i hq
        cases h
        simp only at h1 h2 h3 h4 h5 k hcat
        subst h1; subst h2; subst h3
        have hq := band hq
        have hn136 := nbq hq.2
        have hq0 := band hq.1
        have hq1 := band hq0.1
        have hq2 := band hq0.2
        have ho1 := nbl hq1.2
        have ho2 := nbl hq2.2
        have he1 := wl_get (w := w) ho1
        have he2 := wl_get (w := w) ho2
        rw [entE_int (nbq hq1.1)] at he1
        rw [entE_int (nbq hq2.1)] at he2
        have hl1 := Ctx.le hR ho1
        have hl2 := Ctx.le hR ho2
        have b1 : sp < 2 ^ 31 := by omega
        have b2 : dp < 2 ^ 31 := by omega
        have b3 : n < 2 ^ 31 := by omega
        have hsum : ((r.map (cv w)).map fun v => v.category).sum = cats r := by
          clear hcat k
          induction r with
          | nil => rfl
          | cons a r ih => simp only [List.map_cons, List.sum_cons, cv_cat, cats, ih]
        refine va_copyi hx hc (hml.trans hL.size.symm) hown (hts _ (yTab_of hok.1)) (hts _ gw_cpN) (hts _ gw_cpS) (hts _ gw_cpI) hK hR.2.2.2.2 (wl_D (w := w) hR.2.2.2.1) hS o1 o2 0 0 he1 he2 rfl rfl rfl (nI_pos b1) (nI_pos b2) (nI_pos b3) (by rw [nI_clamp b1, nI_clamp b3]; exact h4) (by rw [nI_clamp b2, nI_clamp b3]; exact h5) (fun _ _ => rfl) hr3 (by rw [hsum]; show _ + (7 + 11) ≤ _; omega) hd (fun H1 locs1 hP1 hD1 hS1 => ?_)
        rw [nI_clamp b1, nI_clamp b2, nI_clamp b3] at hP1
        have hent : entE w (wA M o2 (va_cpy (M.1 o1) (M.1 o2) sp dp n)) o2 = .inl (w.2.2.2.2 0, (lay o2).2, .inl (va_cpy (M.1 o1) (M.1 o2) sp dp n)) := by
          rw [entE_int (nbq hq2.1)]
          simp [wA, cu]
        rw [← hent, wl_set (M := M) (M' := wA M o2 (va_cpy (M.1 o1) (M.1 o2) sp dp n)) rfl ho2 (fun c' h' => wA_other c' h')] at hP1
        refine k H1 locs1 arr ⟨fun q hq => ?_, ?_, fun z => ?_, hR.2.2.2.1, hP1⟩ hS1 hL hn1 hn2
        · rw [← hs0 q hq]
          exact hS1.2.1 q (by omega) (fun z => by unfold AW at z; omega)
        · have hl := (hP1 135 _ (wl_get (M := wA M o2 (va_cpy (M.1 o1) (M.1 o2) sp dp n)) (by show 135 < M.2.2.2; omega))).lt
          simp only at hl
          rw [ad_lt (by omega)] at hl
          show w.1 + M.2.2.2 ≤ _
          omega
        · have z : M.2.2.2 < 136 := z
          omega
      · cases h
    · cases h
  | _ => cases hok
end
