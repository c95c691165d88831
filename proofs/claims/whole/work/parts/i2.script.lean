/-! THE SCRIPT IS READ -/
section
variable {p : Program} {l : Launch} {en : Env} {R : Room} {s : State} {m : MethodId} {args : Array Value} {below : List Frame} {meth : Method} {c : Code} {Qw : State → Prop} {w : Wn} {own nL kc ks n0 nmax : Nat} {cc : ByteArray} {ls r : List Value} {M : Mm} {L pc : Nat} {xs : Nat → Int32}
theorem ad_901 : ad w 901 = w.2.2.2.2 9 := by
  unfold ad
  rw [if_neg (by decide), if_pos rfl]
theorem sdScr (X : Ctx p R s m args c w own nL kc ks n0 nmax cc) (hX : va_X (w.2.2.2.2 9) L xs s s.heap) (hb : w.2.2.2.2 9 < w.1) {j : Nat} (hj : j < L) (hL : L ≤ 3072) (hd : decode cc pc = .ok (.iaload, 1)) (k : Wst p l en R s m args below meth c Qw w nL kc ks n0 nmax (pc + 1) ls (.int (xs j) :: r) M) : Wst p l en R s m args below meth c Qw w nL kc ks n0 nmax pc ls (.int (nI j) :: .ref 901 :: r) M := by
  obtain ⟨hx, hc, hml, hown, hts, hKK, hs0, hw0, hr1, hr2, hr3, hr4, hr5⟩ := X
  intro H locs arr hR hS hLr hn1 hn2
  have h := k H locs arr hR hS hLr hn1 hn2
  have hcl : (nI j).toNatClampNeg = j := nI_clamp (by omega)
  have e : (Value.int (nI j) :: Value.ref 901 :: r).map (cv w) = .int (nI j) :: .ref (w.2.2.2.2 9) :: r.map (cv w) := by
    simp only [List.map_cons, cv, ad_901]
  rw [e]
  refine va_sld hx hc hX (Nat.lt_of_lt_of_le hb hw0) (Nat.not_le.mpr hb) hS (i := nI j) ?_ hd ?_
  · rintro (q | q)
    · exact nI_pos (by omega) q
    · rw [hcl] at q; omega
  · rw [hcl]
    exact h
theorem sdLen (X : Ctx p R s m args c w own nL kc ks n0 nmax cc) (hX : va_X (w.2.2.2.2 9) L xs s s.heap) (hb : w.2.2.2.2 9 < w.1) (hd : decode cc pc = .ok (.arraylength, 1)) (k : Wst p l en R s m args below meth c Qw w nL kc ks n0 nmax (pc + 1) ls (.int (nI L) :: r) M) : Wst p l en R s m args below meth c Qw w nL kc ks n0 nmax pc ls (.ref 901 :: r) M := by
  obtain ⟨hx, hc, hml, hown, hts, hKK, hs0, hw0, hr1, hr2, hr3, hr4, hr5⟩ := X
  intro H locs arr hR hS hLr hn1 hn2
  have h := k H locs arr hR hS hLr hn1 hn2
  have e : (Value.ref 901 :: r).map (cv w) = .ref (w.2.2.2.2 9) :: r.map (cv w) := by
    simp only [List.map_cons, cv, ad_901]
  rw [e]
  exact va_slen hx hc hX (Nat.lt_of_lt_of_le hb hw0) (Nat.not_le.mpr hb) hS hd h
end
