/-! MEMORY -/
theorem tt_decl : ∀ ci, ci < 13 → ∀ k, k < nfl ci → (TT ci k).1 = cn ci := by decide +kernel
theorem mx_le : ∀ k, k < 339 → mx k ≤ 17 := by decide +kernel
theorem SL_mono {a b : Nat} (h : a ≤ b) : SL a ≤ SL b := by
  induction b with
  | zero => have : a = 0 := by omega
            subst this; exact Nat.le_refl _
  | succ n ih =>
    rcases Nat.lt_or_ge n a with h1 | h1
    · have : a = n + 1 := by omega
      subst this; exact Nat.le_refl _
    · exact Nat.le_trans (ih h1) (Nat.le_add_right _ _)
theorem tag_int {t : FieldType} (h : tagT t = 0) : t = .int := by cases t <;> first | rfl | cases h
theorem tag_long {t : FieldType} (h : tagT t = 1) : t = .long := by cases t <;> first | rfl | cases h
theorem tag_bool {t : FieldType} (h : tagT t = 3) : t = .boolean := by cases t <;> first | rfl | cases h
theorem tag_ref {t : FieldType} (h : tagT t = 2) : (∃ n, t = .object n) ∨ ∃ u, t = .array u := by
  cases t <;> first | exact Or.inl ⟨_, rfl⟩ | exact Or.inr ⟨_, rfl⟩ | cases h
theorem RelW.step {w : Wn} {M M' : Mm} {H H1 : Heap} {s : State} {locs : List Loc} (h : RelW w M H) (hz : H1.size = H.size) (hn : M'.2.2.2 = M.2.2.2) (hP : va_P w.2.2.2.1 vwCl (wl w M') H1) (hS : va_S (AW w) s.heap H1 locs) (hs : ∀ q, q < w.1 → s.heap[q]? = w.2.2.1[q]?) (hw : w.1 ≤ s.heap.size) : RelW w M' H1 := by
  obtain ⟨h1, h2, h3, h4, h5⟩ := h
  refine ⟨fun q hq => ?_, by omega, fun z => by rw [hz, hn]; exact h3 (by omega), by omega, hP⟩
  rw [← hs q hq]
  exact hS.2.1 q (by omega) (fun z => by unfold AW at z; omega)
section
variable {p : Program} {l : Launch} {en : Env} {R : Room} {s : State} {m : MethodId} {args : Array Value} {below : List Frame} {meth : Method} {c : Code} {Qw : State → Prop} {w : Wn} {own nL kc ks n0 nmax : Nat} {cc : ByteArray} {ls st : List Value} {M : Mm}
set_option maxHeartbeats 4000000 in
theorem zput {H : Heap} {locs : List Loc} {arr : Array Slot} {M' : Mm} {o ci k idx pc cells slots : Nat} {v : Value} {rest : List Value} (X : Ctx p R s m args c w own nL kc ks n0 nmax cc) (hR : RelW w M H) (hS0 : va_S (AW w) s.heap H locs)
    (ho : o < M.2.2.2) (hlay : (lay o).1 = ci) (hci : ci < 13) (hk : k < nfl ci) (hfin : (TT ci k).2.2.2 = false ∨ ((TT ci k).2.2.2 = true ∧ meth.name = "<init>" ∧ own = ci)) (hl : Cond.fieldLink (cn own) idx (TT ci k).1 (TT ci k).2.1 (TT ci k).2.2.1 ∈ gw)
    (hn : narrow (tyT ci k) v = v) (hfit : fits (tyT ci k) v = true) (hM : M'.2.2.2 = M.2.2.2) (hent : entE w M' o = .inr (ci, (flds w M ci o).set k v)) (hoth : ∀ c', c' ≠ o → entE w M' c' = entE w M c') (hdg : decode cc pc = .ok (.putfield idx, 3))
    (kk : ∀ (H1 : Heap) (locs1 : List Loc), RelW w M' H1 → va_S (AW w) s.heap H1 locs1 → W p l en R s m args below meth c H1 locs1 cells slots Qw (F0 m (pc + 3) arr rest)) : W p l en R s m args below meth c H locs cells slots Qw (F0 m pc arr (v :: .ref (ad w o) :: rest)) := by
  obtain ⟨hx, hc, hml, hown, hts, ⟨hK, -, -⟩, hs0, hw0, -⟩ := X
  obtain ⟨g1, g2, g3, g4, g5, g6⟩ := cls_ok ci hci
  have hP := hR.2.2.2.2
  have hD := wl_D (w := w) hR.2.2.2.1
  have he := wl_get (w := w) ho
  rw [entE_obj hlay hci] at he
  have hap := va_apart (own := cn own) hts g2 (tyT ci) g3 g4 hK g1
  obtain ⟨r, h1, cell, q1, q2, q3, q4⟩ := hP o _ he
  have hr : r = (cn ci, TT ci, nfl ci) := Option.some.inj (h1.symm.trans g1)
  subst hr
  obtain ⟨hS, hfc, kC, hkC, hkind⟩ := hK.1 ci _ g1
  obtain ⟨cf, kf, fi, f, hi, hsl⟩ := hS k hk
  have hlay2 := hts _ (g2 _ (u_in_lay hk))
  unfold u_lay at hlay2
  have hst := (u_facts hfc hkC (u_lays hts g2 hk) hi).1
  have hlen : k < (flds w M ci o).length := by rw [flds_len]; exact hk
  have fin : ∀ (H' : Heap), H'[ad w o]? = some (cell.setSlot ((w.2.2.2.1).2 ci k) v) → H'.size = H.size → (∀ q, q ≠ ad w o → H'[q]? = H[q]?) → W p l en R s m args below meth c H' (locs ++ [⟨ad w o, (w.2.2.2.1).2 ci k⟩]) cells slots Qw (F0 m (pc + 3) arr rest) := by
    intro H' e1 e2 e3
    have hP1 := hP.set hD he (e := .inr (ci, (flds w M ci o).set k v)) ⟨_, g1, t_OB.to (V := updV (vp_V (flds w M ci o)) k v) ⟨_, e1, q2, q3, t_set q4 hap hk v⟩ (fun j _ => vp_updV_set hlen v j)⟩ e3
    rw [← hent, wl_set hM ho hoth] at hP1
    have hS1 := hS0.put (k := (w.2.2.2.1).2 ci k) e2 e3 (hD.2 o _ he)
    exact kk H' _ (hR.step e2 hM hP1 hS1 hs0 hw0) hS1
  rcases hfin with hf | ⟨hf, hini, rfl⟩
  · rw [if_neg (by rw [hf]; decide)] at hlay2
    have h6 := u_store hfc hkC hkind hlay2 hi (g3 k hk) hn hfit
    refine W.putK hx hc (f := f) ⟨hown, hts _ hl, ⟨_, _, _, hi⟩, hst⟩ (by rw [q2]; exact h6) q1 q3 (by rw [hsl]; exact k2_hasslot (q4 k hk)) rfl rfl hdg fun H' e1 e2 e3 => ?_
    rw [hsl] at e1 ⊢
    exact fin H' e1 e2 e3
  · rw [if_pos hf] at hlay2
    have hcf : m.cls = cf := by
      obtain ⟨_, _, c', _, _, _, -, -, hf', -, -, -, hown2, -⟩ := Cond.laysFinal_spec hlay2
      have e1 : c' = cf := by have := hi.symm.trans hf'; simp at this; exact this.1.symm
      rw [tt_decl own hci k hk] at hown2
      rw [← e1]; exact Option.some.inj (hown.symm.trans hown2)
    have h6 := u_fits hfc hkC hkind (Or.inr hlay2) hi (g3 k hk) hn hfit
    refine W.putFinK hx hc hown (hts _ hl) hi hst hcf hini (by rw [q2]; exact h6) q1 q3 (by rw [hsl]; exact k2_hasslot (q4 k hk)) rfl rfl hdg fun H' e1 e2 e3 => ?_
    rw [hsl] at e1 ⊢
    exact fin H' e1 e2 e3
end
