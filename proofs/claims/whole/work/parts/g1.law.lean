/-! THE REFERENCE READS: signs of the law -/
section
variable {d : Nat} {Q : Option Value → Mm → Prop} {b : Nat → Nat} {n j c op : Nat} {q : Bool} {W : List Nat} {T : Nat → Nat → Nat} {mi : Nat → Nat → Int32} {ml : Nat → Nat → Int64} {rd : Option Nat}
theorem t_rk {a r : Nat} {x : Int32} (hx : x = nI a) (ha : a ≤ 14) (hr : rkM a = r) (hQ : Q (some (.int (nI r))) (mi, ml, R0 rd, 136)) : Cd (d + 1) k_Mod_rank [.int x] (mi, ml, R0 rd, 136) Q := by
  rw [← hr] at hQ
  exact t_rank hx ha hQ
theorem sg_ref : ∀ k, k ≤ 45 → (rkN k ≠ 0 ∧ rkN k ≠ 3 ↔ k = 38 ∨ k = 37 ∨ (11 ≤ k ∧ k ≤ 16) ∨ k = 7 ∨ k = 8 ∨ k = 9 ∨ k = 10) ∧ rkN k ≤ 6 ∧ (11 ≤ k → k ≤ 16 → wk k = 5 + (k - 11)) := by decide +kernel
set_option maxHeartbeats 8000000 in
theorem t_signs (hE : TE b n mi) (hP : TP b n j mi) (hX : MX T mi) (h18 : T 0 18 ≠ 0) (hL : LM T c op false W mi) (hI : LI T c op false W) (hQ : VR b n j rd mi ml Q (pSgn (tK b n) (tV b n) (psN b n) T c op W j)) : Cd (d + 3) k_Mod_signs [.ref 95] (mi, ml, R0 rd, 136) Q := by
  have hb := hI.b
  have hk45 := hP.2.2.k8.2.2.2.2.2.1
  have hk5 := hP.2.2.k8.2.2.2.2.1
  have hk9 := hP.2.2.k8.2.2.2.2.2.2.2.2.1
  have hsg := sg_ref _ hk45
  have l61 := hL.2.2.1
  have c64 : c ≤ 64 := hb.2.2.2.2.1
  have hop : op ≤ 8 := hb.2.2.2.2.2
  unfold pSgn at hQ
  have P1 : ∀ m1 : Nat → Nat → Int32, (∀ k, 7 ≤ k → k ≤ 10 → m1 95 k = mi 95 k) → TP b n j m1 := fun m1 t1 => hP.mv (t1 7 (by decide) (by decide)) (t1 8 (by decide) (by decide)) (t1 9 (by decide) (by decide)) (t1 10 (by decide) (by decide))
  have lenr : ∀ r, 1 ≤ r → (stlN r W T).1.length < 96 := fun r h1 => by
    have := (hI.settle h1).b.1
    omega
  have mem5 : ∀ {a : Nat} {W' : List Nat}, (stlN 5 W T).1 = a :: W' → a ≤ 39 ∧ (a = 5 ∨ 1 ≤ rkN a) := fun {a W'} e => by
    have hI5 := hI.settle (r := 5) (by decide)
    have hai := hI5.1 a (by rw [e]; exact List.mem_cons_self)
    exact ⟨hai.elim (fun e => by omega) (fun e => e.2), hai.elim Or.inl (fun e => Or.inr e.1)⟩
  have rk6 : ∀ {a : Nat} {W' : List Nat}, (stlN 5 W T).1 = a :: W' → rkN ((stlN 5 W T).1.headD 0) ≤ 6 := fun {a W'} e => by
    have h := mem5 e
    rw [e]
    exact (rk_wk a h.1 h.2).2.2
  have top0 : ∀ m1 : Nat → Nat → Int32, LM (stlN 5 W T).2 c op false (stlN 5 W T).1 m1 → m1 95 59 ≤ 0 → rkN ((stlN 5 W T).1.headD 0) ≠ 4 := fun m1 L1 z => by
    rw [L1.1] at z
    have z := iLE (show nI _ ≤ nI 0 from z) (by have := lenr 5 (by decide); omega) (by decide)
    rw [List.eq_nil_of_length_eq_zero (show (stlN 5 W T).1.length = 0 by omega)]
    decide
  have top : ∀ m1 : Nat → Nat → Int32, LM (stlN 5 W T).2 c op false (stlN 5 W T).1 m1 → ¬ m1 95 59 ≤ 0 → ∃ a W', (stlN 5 W T).1 = a :: W' ∧ W'.length < 72 ∧ m1 95 59 - nI 1 = nI W'.length ∧ m1 119 W'.length = nI (wk a) ∧ wk a ≤ 14 ∧ rkM (wk a) = rkN ((stlN 5 W T).1.headD 0) := fun m1 L1 z => by
    have hl := (hI.settle (r := 5) (by decide)).b.1
    cases hh : (stlN 5 W T).1 with
    | nil =>
      rw [L1.1, hh] at z
      exact absurd (by decide) z
    | cons a W' =>
      have hm := mem5 hh
      have h := rk_wk a hm.1 hm.2
      have l1 := L1.1
      rw [hh] at hl
      have hl : W'.length + 1 ≤ 72 := hl
      obtain ⟨l59, _, _, _, _, _, l119, _⟩ := L1
      rw [hh] at l59 l119
      refine ⟨a, W', rfl, by omega, by rw [l59]; exact nI_pred _, ?_, h.2.1, h.1⟩
      have := l119.1
      rw [List.length_map] at this
      exact this
  have fct : (tK b n j = 38 ∨ tK b n j = 37 ∨ (11 ≤ tK b n j ∧ tK b n j ≤ 16) ∨ tK b n j = 7 ∨ tK b n j = 8 ∨ tK b n j = 9 ∨ tK b n j = 10) → rkN (tK b n j) ≠ 0 ∧ rkN (tK b n j) ≠ 3 ∧ rkN (tK b n j) ≤ 6 ∧ wk (tK b n j) ≤ 14 ∧ rkM (wk (tK b n j)) = rkN (tK b n j) := fun h => by
    have h1 := hsg.1.mpr h
    have h2 := rk_wk (tK b n j) (by omega) (Or.inr (by omega))
    exact ⟨h1.1, h1.2, hsg.2.1, h2.2.1, h2.1⟩
  have main : ¬ (tK b n j = 6 ∧ op ≠ 0) → ∀ r, r = (if rkN (tK b n j) = 4 then 5 else rkN (tK b n j)) → rkN (tK b n j) ≠ 0 → rkN (tK b n j) ≠ 3 → (rkN (tK b n j) = 4 → rkN ((stlN 5 W T).1.headD 0) ≠ 4) → ∀ m1 : Nat → Nat → Int32, WG mi m1 → (∀ k, 7 ≤ k → k ≤ 10 → m1 95 k = mi 95 k) → MX (stlN r W T).2 m1 → LM (stlN r W T).2 c op false (stlN r W T).1 m1 → ∀ x : Int32, x = nI (wk (tK b n j)) → (64 ≤ c → ∀ m', WF m1 m' → m' 95 4 = nI 2 → m' 95 5 = nI (psN b n j) → Q (some (.int (nI 0))) (m', ml, R0 rd, 136)) ∧ (c < 64 → ∀ bv, bv = nI (if rkN (tK b n j) ≤ 3 then 1 else 0) → ∀ P' : Option Value → Mm → Prop, (∀ m5, Q (some (.int (nI 1))) (m5, ml, R0 rd, 136) → P' none (m5, ml, R0 rd, 136)) → Cd (d + 2) k_Mod_token [.ref 95] (cu (cu (cu (cu (cu m1 95 (upd (m1 95) 62 (nI (c + 1)))) 119 (upd (m1 119) (stlN r W T).1.length x)) 95 (upd (upd (m1 95) 62 (nI (c + 1))) 59 (nI ((stlN r W T).1.length + 1)))) 95 (upd (upd (upd (m1 95) 62 (nI (c + 1))) 59 (nI ((stlN r W T).1.length + 1))) 63 (nI 1))) 95 (upd (upd (upd (upd (m1 95) 62 (nI (c + 1))) 59 (nI ((stlN r W T).1.length + 1))) 63 (nI 1)) 64 bv), ml, R0 rd, 136) P') := by
    intro hno r er f0 f3 h4 m1 w1 t1 X1 L1 x ex
    rw [if_neg hno, if_neg (fun y => y.elim f0 f3), if_neg (fun y => h4 y.1 y.2), ← er] at hQ
    refine ⟨fun hc m' f' a1 a2 => hQ.er (e := (2, psN b n j)) (by rw [if_pos hc]) m' (w1.wf.trans f') a1 a2, fun hc bv ebv P' hP' => ?_⟩
    obtain ⟨l59, l60, l61, l62, l63, l64, l119, l120⟩ := L1
    refine VR.fin (m := cu (cu (cu (cu (cu m1 95 (upd (m1 95) 62 (nI (c + 1)))) 119 (upd (m1 119) (stlN r W T).1.length x)) 95 (upd (upd (m1 95) 62 (nI (c + 1))) 59 (nI ((stlN r W T).1.length + 1)))) 95 (upd (upd (upd (m1 95) 62 (nI (c + 1))) 59 (nI ((stlN r W T).1.length + 1))) 63 (nI 1))) 95 (upd (upd (upd (upd (m1 95) 62 (nI (c + 1))) 59 (nI ((stlN r W T).1.length + 1))) 63 (nI 1)) 64 bv)) (T' := (stlN r W T).2) (c' := c + 1) (o' := op) (q' := true) (W' := tK b n j :: (stlN r W T).1) hE hQ (by rw [if_neg (by omega)]) (((((w1.cu rfl).cu rfl).cu rfl).cu rfl).cu rfl) (X1.mv2 (by rw [(LX.stl W T).2 18 (by decide)]; exact h18) (fun k h1 h2 => ?_) (fun c _ _ => by rw [cu_ne (by omega), cu_ne (by omega), cu_ne (by omega), cu_ne (by omega), cu_ne (by omega)])) ⟨rfl, l60, l61, rfl, rfl, fun _ => ebv, ⟨?_, l119.upd (by rw [List.length_map]; exact Nat.le_refl _)⟩, l120⟩ ((P1 m1 t1).mv rfl rfl rfl rfl) P' hP'
    · show upd (upd (upd (upd (m1 95) 62 _) 59 _) 63 _) 64 _ k = _
      rw [pk_un (by omega), pk_un (by omega), pk_un (by omega), pk_un (by omega)]
    · rw [List.length_map, ← ex]; exact pk_us
  refine r_Mod_signs (by decide) (fun K Kl hK hC => hC _ _ _ _ (t_isSign (q := 6) hP (by decide) rfl (fun h6 => ⟨fun z => absurd z (by decide), fun _ => ⟨fun z => ?_, fun z => ?_⟩⟩) (fun h6 => ⟨fun _ => ?_, fun z => absurd rfl z⟩)))
  · have z : mi 95 61 ≤ 0 := z
    rw [l61] at z
    have z := iLE (show nI _ ≤ nI 0 from z)
    have hr0 : rkN (tK b n j) = 0 := by rw [h6]; rfl
    refine hC _ _ _ _ (t_isKey (q := 38) hP (by decide) rfl (fun q => by omega) (fun _ => ⟨fun _ => ?_, fun y => absurd rfl y⟩))
    refine hC _ _ _ _ (t_isKey (q := 37) hP (by decide) rfl (fun q => by omega) (fun _ => ⟨fun _ => ⟨fun z5 => ?_, fun z5 => absurd (hk5.mp z5) (by omega)⟩, fun y => absurd rfl y⟩))
    refine hC _ _ _ _ (t_isSign (q := 7) hP (by decide) rfl (fun q => by omega) (fun _ => ⟨fun _ => ?_, fun y => absurd rfl y⟩))
    refine hC _ _ _ _ (t_isSign (q := 8) hP (by decide) rfl (fun q => by omega) (fun _ => ⟨fun _ => ?_, fun y => absurd rfl y⟩))
    refine hC _ _ _ _ (t_isSign (q := 9) hP (by decide) rfl (fun q => by omega) (fun _ => ⟨fun _ => ?_, fun y => absurd rfl y⟩))
    refine hC _ _ _ _ (t_isSign (q := 10) hP (by decide) rfl (fun q => by omega) (fun _ => ⟨fun _ => ⟨fun y => absurd rfl y, fun _ => ?_⟩, fun y => absurd rfl y⟩))
    exact hC _ _ _ _ (t_wrg hP (fun m1 f1 a1 a2 => ⟨Or.inl rfl, rfl, hQ.er (e := (1, psN b n j)) (by rw [if_neg (by omega), if_pos (Or.inl hr0)]) m1 f1 a1 a2⟩))
  · have z : ¬ mi 95 61 ≤ 0 := z
    rw [l61] at z
    have z := iNLE (show ¬ nI _ ≤ nI 0 from z)
    have hz : op ≠ 0 := by omega
    obtain ⟨W1, hW1⟩ := stl_br hI hz
    have hlen := lenr 1 (by decide)
    refine hC _ _ _ _ (t_bind (r := 1) rfl (by decide) (by decide) hX hL hI (fun m1 w1 t1 X1 L1 => ?_))
    rw [hW1] at hlen
    obtain ⟨l59, l60, l61', l62, l63, l64, l119, l120⟩ := L1
    rw [hW1] at l59 l119
    have e59 : m1 95 59 - nI 1 = nI W1.length := by rw [l59]; exact nI_pred _
    have e61 : m1 95 61 - nI 1 = nI (op - 1) := by rw [l61', pk_sub (by omega)]
    exact hC _ _ _ _ (VR.fin (m := cu (cu m1 95 (upd (m1 95) 59 (m1 95 59 - nI 1))) 95 (upd (upd (m1 95) 59 (m1 95 59 - nI 1)) 61 (m1 95 61 - nI 1))) (T' := (stlN 1 W T).2) (c' := c) (o' := op - 1) (q' := false) (W' := (stlN 1 W T).1.tail) hE hQ (if_pos ⟨h6, hz⟩) ((w1.cu rfl).cu rfl) (X1.mv (fun k hk => by
      show upd (upd (m1 95) 59 _) 61 _ k = _
      rw [pk_un (by omega), pk_un (by omega)]) (fun c _ _ => by rw [cu_ne (by omega), cu_ne (by omega)])) (by
        rw [hW1]
        exact ⟨e59, l60, e61, l62, l63, (fun q => by cases q), l119.2, l120⟩) ((P1 m1 t1).mv rfl rfl rfl rfl) _ (fun m5 h5 => ⟨Or.inr rfl, rfl, h5⟩))
  · have hno : ¬ (tK b n j = 6 ∧ op ≠ 0) := fun y => h6 y.1
    have rst := main hno
    refine hC _ _ _ _ (t_isKey (q := 38) hP (by decide) rfl (fun hq => ⟨fun y => absurd y (by decide), fun _ => ?_⟩) (fun q1 => ⟨fun _ => hC _ _ _ _ (t_isKey (q := 37) hP (by decide) rfl (fun hq => ⟨fun y => absurd y (by decide), fun _ => ?_⟩) (fun q2 => ⟨fun _ => ⟨fun z5 => ?_, fun z5 => ?_⟩, fun y => absurd rfl y⟩)), fun y => absurd rfl y⟩))
    · have ex : nI 3 = nI (wk (tK b n j)) := by rw [hq]; rfl
      have fc := fct (by omega)
      obtain ⟨f0, f3, f6, h14, hr⟩ := fc
      refine ⟨fun _ => hC _ _ _ _ (t_rk ex h14 hr ⟨fun r4 => hC _ _ _ _ (t_rk ex h14 hr (hC _ _ _ _ (t_bind (r := rkN (tK b n j)) rfl (by omega) f6 hX hL hI (fun m1 w1 t1 X1 L1 => hC _ _ _ _ (t_rk ex h14 hr ⟨fun _ => ?_, fun y => absurd y r4⟩))))), fun r4 => hC _ _ _ _ (t_bind (r := 5) rfl (by decide) (by decide) hX hL hI (fun m1 w1 t1 X1 L1 => hC _ _ _ _ (t_rk ex h14 hr ⟨fun y => absurd r4 y, fun _ => ⟨fun z => ?_, fun z => ?_⟩⟩)))⟩), fun y => ?_⟩
      · have n4 : rkN (tK b n j) ≠ 4 := fun e => r4 (by rw [e])
        exact hC _ _ _ _ (t_isCounted (P1 m1 t1) L1.2.2.2.1 c64 (fun hc m2 f2 a1 a2 => ⟨fun y => absurd rfl y, fun _ => ⟨Or.inl rfl, rfl, (rst (rkN (tK b n j)) (if_neg n4).symm f0 f3 (fun e => absurd e n4) m1 w1 t1 X1 L1 _ ex).1 hc m2 f2 a1 a2⟩⟩) (fun hc => ⟨fun _ => hC _ _ _ _ (t_waitsFor (mi := cu m1 95 (upd (m1 95) 62 (nI (c + 1)))) L1.1 (lenr (rkN (tK b n j)) (by omega)) ⟨Or.inr rfl, hC _ _ _ _ (t_rk ex h14 hr ⟨fun z7 => ⟨Or.inl rfl, hC _ _ _ _ ((rst (rkN (tK b n j)) (if_neg n4).symm f0 f3 (fun e => absurd e n4) m1 w1 t1 X1 L1 _ ex).2 hc (nI 0) (by rw [if_neg (show ¬ rkN (tK b n j) ≤ 3 by have := jLE (show nI 3 ≤ nI (rkN (tK b n j)) from z7) rfl rfl; omega)]) _ (fun m5 h5 => ⟨Or.inr rfl, rfl, h5⟩))⟩, fun z7 => ⟨Or.inr rfl, hC _ _ _ _ ((rst (rkN (tK b n j)) (if_neg n4).symm f0 f3 (fun e => absurd e n4) m1 w1 t1 X1 L1 _ ex).2 hc (nI 1) (by rw [if_pos (show rkN (tK b n j) ≤ 3 by have := jNLE (show ¬ nI 3 ≤ nI (rkN (tK b n j)) from z7) rfl rfl; omega)]) _ (fun m5 h5 => ⟨Or.inr rfl, rfl, h5⟩))⟩⟩)⟩), fun y => absurd y (by decide)⟩))
      · have e4 : rkN (tK b n j) = 4 := jEQ r4 rfl rfl
        exact hC _ _ _ _ (t_isCounted (P1 m1 t1) L1.2.2.2.1 c64 (fun hc m2 f2 a1 a2 => ⟨fun y => absurd rfl y, fun _ => ⟨Or.inl rfl, rfl, (rst 5 (if_pos e4).symm f0 f3 (fun _ => top0 m1 L1 z) m1 w1 t1 X1 L1 _ ex).1 hc m2 f2 a1 a2⟩⟩) (fun hc => ⟨fun _ => hC _ _ _ _ (t_waitsFor (mi := cu m1 95 (upd (m1 95) 62 (nI (c + 1)))) L1.1 (lenr 5 (by omega)) ⟨Or.inr rfl, hC _ _ _ _ (t_rk ex h14 hr ⟨fun z7 => ⟨Or.inl rfl, hC _ _ _ _ ((rst 5 (if_pos e4).symm f0 f3 (fun _ => top0 m1 L1 z) m1 w1 t1 X1 L1 _ ex).2 hc (nI 0) (by rw [if_neg (show ¬ rkN (tK b n j) ≤ 3 by have := jLE (show nI 3 ≤ nI (rkN (tK b n j)) from z7) rfl rfl; omega)]) _ (fun m5 h5 => ⟨Or.inr rfl, rfl, h5⟩))⟩, fun z7 => ⟨Or.inr rfl, hC _ _ _ _ ((rst 5 (if_pos e4).symm f0 f3 (fun _ => top0 m1 L1 z) m1 w1 t1 X1 L1 _ ex).2 hc (nI 1) (by rw [if_pos (show rkN (tK b n j) ≤ 3 by have := jNLE (show ¬ nI 3 ≤ nI (rkN (tK b n j)) from z7) rfl rfl; omega)]) _ (fun m5 h5 => ⟨Or.inr rfl, rfl, h5⟩))⟩⟩)⟩), fun y => absurd y (by decide)⟩))
      · have e4 : rkN (tK b n j) = 4 := jEQ r4 rfl rfl
        obtain ⟨a, W', eW, hW', i1, i2, i3, i4⟩ := top m1 L1 z
        refine ⟨W'.length, by omega, i1, hC _ _ _ _ (t_rk i2 i3 i4 ⟨fun y => ?_, fun y => ?_⟩)⟩
        · exact hC _ _ _ _ (t_isCounted (P1 m1 t1) L1.2.2.2.1 c64 (fun hc m2 f2 a1 a2 => ⟨fun y => absurd rfl y, fun _ => ⟨Or.inl rfl, rfl, (rst 5 (if_pos e4).symm f0 f3 (fun _ e => y (by rw [e])) m1 w1 t1 X1 L1 _ ex).1 hc m2 f2 a1 a2⟩⟩) (fun hc => ⟨fun _ => hC _ _ _ _ (t_waitsFor (mi := cu m1 95 (upd (m1 95) 62 (nI (c + 1)))) L1.1 (lenr 5 (by omega)) ⟨Or.inr rfl, hC _ _ _ _ (t_rk ex h14 hr ⟨fun z7 => ⟨Or.inl rfl, hC _ _ _ _ ((rst 5 (if_pos e4).symm f0 f3 (fun _ e => y (by rw [e])) m1 w1 t1 X1 L1 _ ex).2 hc (nI 0) (by rw [if_neg (show ¬ rkN (tK b n j) ≤ 3 by have := jLE (show nI 3 ≤ nI (rkN (tK b n j)) from z7) rfl rfl; omega)]) _ (fun m5 h5 => ⟨Or.inr rfl, rfl, h5⟩))⟩, fun z7 => ⟨Or.inr rfl, hC _ _ _ _ ((rst 5 (if_pos e4).symm f0 f3 (fun _ e => y (by rw [e])) m1 w1 t1 X1 L1 _ ex).2 hc (nI 1) (by rw [if_pos (show rkN (tK b n j) ≤ 3 by have := jNLE (show ¬ nI 3 ≤ nI (rkN (tK b n j)) from z7) rfl rfl; omega)]) _ (fun m5 h5 => ⟨Or.inr rfl, rfl, h5⟩))⟩⟩)⟩), fun y => absurd y (by decide)⟩))
        · exact hC _ _ _ _ (t_wrg (P1 m1 t1) (fun m2 f2 a1 a2 => ⟨Or.inl rfl, rfl, hQ.er (e := (1, psN b n j)) (by rw [if_neg hno, if_neg (by omega), if_pos ⟨e4, jEQ y rfl rfl (by have := rk6 (W' := W') (a := a) eW; omega) (by decide)⟩]) m2 (w1.wf.trans f2) a1 a2⟩))
      · have y := y
        rw [ex] at y
        exact absurd (iEQ (show nI _ = nI 0 from y)) (by rw [hq]; decide)
    · have ex : nI 4 = nI (wk (tK b n j)) := by rw [hq]; rfl
      have fc := fct (by omega)
      obtain ⟨f0, f3, f6, h14, hr⟩ := fc
      refine ⟨fun _ => hC _ _ _ _ (t_rk ex h14 hr ⟨fun r4 => hC _ _ _ _ (t_rk ex h14 hr (hC _ _ _ _ (t_bind (r := rkN (tK b n j)) rfl (by omega) f6 hX hL hI (fun m1 w1 t1 X1 L1 => hC _ _ _ _ (t_rk ex h14 hr ⟨fun _ => ?_, fun y => absurd y r4⟩))))), fun r4 => hC _ _ _ _ (t_bind (r := 5) rfl (by decide) (by decide) hX hL hI (fun m1 w1 t1 X1 L1 => hC _ _ _ _ (t_rk ex h14 hr ⟨fun y => absurd r4 y, fun _ => ⟨fun z => ?_, fun z => ?_⟩⟩)))⟩), fun y => ?_⟩
      · have n4 : rkN (tK b n j) ≠ 4 := fun e => r4 (by rw [e])
        exact hC _ _ _ _ (t_isCounted (P1 m1 t1) L1.2.2.2.1 c64 (fun hc m2 f2 a1 a2 => ⟨fun y => absurd rfl y, fun _ => ⟨Or.inl rfl, rfl, (rst (rkN (tK b n j)) (if_neg n4).symm f0 f3 (fun e => absurd e n4) m1 w1 t1 X1 L1 _ ex).1 hc m2 f2 a1 a2⟩⟩) (fun hc => ⟨fun _ => hC _ _ _ _ (t_waitsFor (mi := cu m1 95 (upd (m1 95) 62 (nI (c + 1)))) L1.1 (lenr (rkN (tK b n j)) (by omega)) ⟨Or.inr rfl, hC _ _ _ _ (t_rk ex h14 hr ⟨fun z7 => ⟨Or.inl rfl, hC _ _ _ _ ((rst (rkN (tK b n j)) (if_neg n4).symm f0 f3 (fun e => absurd e n4) m1 w1 t1 X1 L1 _ ex).2 hc (nI 0) (by rw [if_neg (show ¬ rkN (tK b n j) ≤ 3 by have := jLE (show nI 3 ≤ nI (rkN (tK b n j)) from z7) rfl rfl; omega)]) _ (fun m5 h5 => ⟨Or.inr rfl, rfl, h5⟩))⟩, fun z7 => ⟨Or.inr rfl, hC _ _ _ _ ((rst (rkN (tK b n j)) (if_neg n4).symm f0 f3 (fun e => absurd e n4) m1 w1 t1 X1 L1 _ ex).2 hc (nI 1) (by rw [if_pos (show rkN (tK b n j) ≤ 3 by have := jNLE (show ¬ nI 3 ≤ nI (rkN (tK b n j)) from z7) rfl rfl; omega)]) _ (fun m5 h5 => ⟨Or.inr rfl, rfl, h5⟩))⟩⟩)⟩), fun y => absurd y (by decide)⟩))
      · have e4 : rkN (tK b n j) = 4 := jEQ r4 rfl rfl
        exact hC _ _ _ _ (t_isCounted (P1 m1 t1) L1.2.2.2.1 c64 (fun hc m2 f2 a1 a2 => ⟨fun y => absurd rfl y, fun _ => ⟨Or.inl rfl, rfl, (rst 5 (if_pos e4).symm f0 f3 (fun _ => top0 m1 L1 z) m1 w1 t1 X1 L1 _ ex).1 hc m2 f2 a1 a2⟩⟩) (fun hc => ⟨fun _ => hC _ _ _ _ (t_waitsFor (mi := cu m1 95 (upd (m1 95) 62 (nI (c + 1)))) L1.1 (lenr 5 (by omega)) ⟨Or.inr rfl, hC _ _ _ _ (t_rk ex h14 hr ⟨fun z7 => ⟨Or.inl rfl, hC _ _ _ _ ((rst 5 (if_pos e4).symm f0 f3 (fun _ => top0 m1 L1 z) m1 w1 t1 X1 L1 _ ex).2 hc (nI 0) (by rw [if_neg (show ¬ rkN (tK b n j) ≤ 3 by have := jLE (show nI 3 ≤ nI (rkN (tK b n j)) from z7) rfl rfl; omega)]) _ (fun m5 h5 => ⟨Or.inr rfl, rfl, h5⟩))⟩, fun z7 => ⟨Or.inr rfl, hC _ _ _ _ ((rst 5 (if_pos e4).symm f0 f3 (fun _ => top0 m1 L1 z) m1 w1 t1 X1 L1 _ ex).2 hc (nI 1) (by rw [if_pos (show rkN (tK b n j) ≤ 3 by have := jNLE (show ¬ nI 3 ≤ nI (rkN (tK b n j)) from z7) rfl rfl; omega)]) _ (fun m5 h5 => ⟨Or.inr rfl, rfl, h5⟩))⟩⟩)⟩), fun y => absurd y (by decide)⟩))
      · have e4 : rkN (tK b n j) = 4 := jEQ r4 rfl rfl
        obtain ⟨a, W', eW, hW', i1, i2, i3, i4⟩ := top m1 L1 z
        refine ⟨W'.length, by omega, i1, hC _ _ _ _ (t_rk i2 i3 i4 ⟨fun y => ?_, fun y => ?_⟩)⟩
        · exact hC _ _ _ _ (t_isCounted (P1 m1 t1) L1.2.2.2.1 c64 (fun hc m2 f2 a1 a2 => ⟨fun y => absurd rfl y, fun _ => ⟨Or.inl rfl, rfl, (rst 5 (if_pos e4).symm f0 f3 (fun _ e => y (by rw [e])) m1 w1 t1 X1 L1 _ ex).1 hc m2 f2 a1 a2⟩⟩) (fun hc => ⟨fun _ => hC _ _ _ _ (t_waitsFor (mi := cu m1 95 (upd (m1 95) 62 (nI (c + 1)))) L1.1 (lenr 5 (by omega)) ⟨Or.inr rfl, hC _ _ _ _ (t_rk ex h14 hr ⟨fun z7 => ⟨Or.inl rfl, hC _ _ _ _ ((rst 5 (if_pos e4).symm f0 f3 (fun _ e => y (by rw [e])) m1 w1 t1 X1 L1 _ ex).2 hc (nI 0) (by rw [if_neg (show ¬ rkN (tK b n j) ≤ 3 by have := jLE (show nI 3 ≤ nI (rkN (tK b n j)) from z7) rfl rfl; omega)]) _ (fun m5 h5 => ⟨Or.inr rfl, rfl, h5⟩))⟩, fun z7 => ⟨Or.inr rfl, hC _ _ _ _ ((rst 5 (if_pos e4).symm f0 f3 (fun _ e => y (by rw [e])) m1 w1 t1 X1 L1 _ ex).2 hc (nI 1) (by rw [if_pos (show rkN (tK b n j) ≤ 3 by have := jNLE (show ¬ nI 3 ≤ nI (rkN (tK b n j)) from z7) rfl rfl; omega)]) _ (fun m5 h5 => ⟨Or.inr rfl, rfl, h5⟩))⟩⟩)⟩), fun y => absurd y (by decide)⟩))
        · exact hC _ _ _ _ (t_wrg (P1 m1 t1) (fun m2 f2 a1 a2 => ⟨Or.inl rfl, rfl, hQ.er (e := (1, psN b n j)) (by rw [if_neg hno, if_neg (by omega), if_pos ⟨e4, jEQ y rfl rfl (by have := rk6 (W' := W') (a := a) eW; omega) (by decide)⟩]) m2 (w1.wf.trans f2) a1 a2⟩))
      · have y := y
        rw [ex] at y
        exact absurd (iEQ (show nI _ = nI 0 from y)) (by rw [hq]; decide)
    · have n5 : ¬ (11 ≤ tK b n j ∧ tK b n j ≤ 16) := fun e => z5 (hk5.mpr e)
      refine hC _ _ _ _ (t_isSign (q := 7) hP (by decide) rfl (fun hq => ⟨fun y => absurd y (by decide), fun _ => ?_⟩) (fun q3 => ⟨fun _ => hC _ _ _ _ (t_isSign (q := 8) hP (by decide) rfl (fun hq => ⟨fun y => absurd y (by decide), fun _ => ?_⟩) (fun q4 => ⟨fun _ => hC _ _ _ _ (t_isSign (q := 9) hP (by decide) rfl (fun hq => ⟨fun y => absurd y (by decide), fun _ => ?_⟩) (fun q5 => ⟨fun _ => hC _ _ _ _ (t_isSign (q := 10) hP (by decide) rfl (fun hq => ⟨fun y => absurd y (by decide), fun _ => ?_⟩) (fun q6 => ⟨fun _ => ⟨fun y => absurd rfl y, fun _ => ?_⟩, fun y => absurd rfl y⟩)), fun y => absurd rfl y⟩)), fun y => absurd rfl y⟩)), fun y => absurd rfl y⟩))
      · have ex : nI 11 = nI (wk (tK b n j)) := by rw [hq]; rfl
        have fc := fct (by omega)
        obtain ⟨f0, f3, f6, h14, hr⟩ := fc
        refine ⟨fun _ => hC _ _ _ _ (t_rk ex h14 hr ⟨fun r4 => hC _ _ _ _ (t_rk ex h14 hr (hC _ _ _ _ (t_bind (r := rkN (tK b n j)) rfl (by omega) f6 hX hL hI (fun m1 w1 t1 X1 L1 => hC _ _ _ _ (t_rk ex h14 hr ⟨fun _ => ?_, fun y => absurd y r4⟩))))), fun r4 => hC _ _ _ _ (t_bind (r := 5) rfl (by decide) (by decide) hX hL hI (fun m1 w1 t1 X1 L1 => hC _ _ _ _ (t_rk ex h14 hr ⟨fun y => absurd r4 y, fun _ => ⟨fun z => ?_, fun z => ?_⟩⟩)))⟩), fun y => ?_⟩
        · have n4 : rkN (tK b n j) ≠ 4 := fun e => r4 (by rw [e])
          exact hC _ _ _ _ (t_isCounted (P1 m1 t1) L1.2.2.2.1 c64 (fun hc m2 f2 a1 a2 => ⟨fun y => absurd rfl y, fun _ => ⟨Or.inl rfl, rfl, (rst (rkN (tK b n j)) (if_neg n4).symm f0 f3 (fun e => absurd e n4) m1 w1 t1 X1 L1 _ ex).1 hc m2 f2 a1 a2⟩⟩) (fun hc => ⟨fun _ => hC _ _ _ _ (t_waitsFor (mi := cu m1 95 (upd (m1 95) 62 (nI (c + 1)))) L1.1 (lenr (rkN (tK b n j)) (by omega)) ⟨Or.inr rfl, hC _ _ _ _ (t_rk ex h14 hr ⟨fun z7 => ⟨Or.inl rfl, hC _ _ _ _ ((rst (rkN (tK b n j)) (if_neg n4).symm f0 f3 (fun e => absurd e n4) m1 w1 t1 X1 L1 _ ex).2 hc (nI 0) (by rw [if_neg (show ¬ rkN (tK b n j) ≤ 3 by have := jLE (show nI 3 ≤ nI (rkN (tK b n j)) from z7) rfl rfl; omega)]) _ (fun m5 h5 => ⟨Or.inr rfl, rfl, h5⟩))⟩, fun z7 => ⟨Or.inr rfl, hC _ _ _ _ ((rst (rkN (tK b n j)) (if_neg n4).symm f0 f3 (fun e => absurd e n4) m1 w1 t1 X1 L1 _ ex).2 hc (nI 1) (by rw [if_pos (show rkN (tK b n j) ≤ 3 by have := jNLE (show ¬ nI 3 ≤ nI (rkN (tK b n j)) from z7) rfl rfl; omega)]) _ (fun m5 h5 => ⟨Or.inr rfl, rfl, h5⟩))⟩⟩)⟩), fun y => absurd y (by decide)⟩))
        · have e4 : rkN (tK b n j) = 4 := jEQ r4 rfl rfl
          exact hC _ _ _ _ (t_isCounted (P1 m1 t1) L1.2.2.2.1 c64 (fun hc m2 f2 a1 a2 => ⟨fun y => absurd rfl y, fun _ => ⟨Or.inl rfl, rfl, (rst 5 (if_pos e4).symm f0 f3 (fun _ => top0 m1 L1 z) m1 w1 t1 X1 L1 _ ex).1 hc m2 f2 a1 a2⟩⟩) (fun hc => ⟨fun _ => hC _ _ _ _ (t_waitsFor (mi := cu m1 95 (upd (m1 95) 62 (nI (c + 1)))) L1.1 (lenr 5 (by omega)) ⟨Or.inr rfl, hC _ _ _ _ (t_rk ex h14 hr ⟨fun z7 => ⟨Or.inl rfl, hC _ _ _ _ ((rst 5 (if_pos e4).symm f0 f3 (fun _ => top0 m1 L1 z) m1 w1 t1 X1 L1 _ ex).2 hc (nI 0) (by rw [if_neg (show ¬ rkN (tK b n j) ≤ 3 by have := jLE (show nI 3 ≤ nI (rkN (tK b n j)) from z7) rfl rfl; omega)]) _ (fun m5 h5 => ⟨Or.inr rfl, rfl, h5⟩))⟩, fun z7 => ⟨Or.inr rfl, hC _ _ _ _ ((rst 5 (if_pos e4).symm f0 f3 (fun _ => top0 m1 L1 z) m1 w1 t1 X1 L1 _ ex).2 hc (nI 1) (by rw [if_pos (show rkN (tK b n j) ≤ 3 by have := jNLE (show ¬ nI 3 ≤ nI (rkN (tK b n j)) from z7) rfl rfl; omega)]) _ (fun m5 h5 => ⟨Or.inr rfl, rfl, h5⟩))⟩⟩)⟩), fun y => absurd y (by decide)⟩))
        · have e4 : rkN (tK b n j) = 4 := jEQ r4 rfl rfl
          obtain ⟨a, W', eW, hW', i1, i2, i3, i4⟩ := top m1 L1 z
          refine ⟨W'.length, by omega, i1, hC _ _ _ _ (t_rk i2 i3 i4 ⟨fun y => ?_, fun y => ?_⟩)⟩
          · exact hC _ _ _ _ (t_isCounted (P1 m1 t1) L1.2.2.2.1 c64 (fun hc m2 f2 a1 a2 => ⟨fun y => absurd rfl y, fun _ => ⟨Or.inl rfl, rfl, (rst 5 (if_pos e4).symm f0 f3 (fun _ e => y (by rw [e])) m1 w1 t1 X1 L1 _ ex).1 hc m2 f2 a1 a2⟩⟩) (fun hc => ⟨fun _ => hC _ _ _ _ (t_waitsFor (mi := cu m1 95 (upd (m1 95) 62 (nI (c + 1)))) L1.1 (lenr 5 (by omega)) ⟨Or.inr rfl, hC _ _ _ _ (t_rk ex h14 hr ⟨fun z7 => ⟨Or.inl rfl, hC _ _ _ _ ((rst 5 (if_pos e4).symm f0 f3 (fun _ e => y (by rw [e])) m1 w1 t1 X1 L1 _ ex).2 hc (nI 0) (by rw [if_neg (show ¬ rkN (tK b n j) ≤ 3 by have := jLE (show nI 3 ≤ nI (rkN (tK b n j)) from z7) rfl rfl; omega)]) _ (fun m5 h5 => ⟨Or.inr rfl, rfl, h5⟩))⟩, fun z7 => ⟨Or.inr rfl, hC _ _ _ _ ((rst 5 (if_pos e4).symm f0 f3 (fun _ e => y (by rw [e])) m1 w1 t1 X1 L1 _ ex).2 hc (nI 1) (by rw [if_pos (show rkN (tK b n j) ≤ 3 by have := jNLE (show ¬ nI 3 ≤ nI (rkN (tK b n j)) from z7) rfl rfl; omega)]) _ (fun m5 h5 => ⟨Or.inr rfl, rfl, h5⟩))⟩⟩)⟩), fun y => absurd y (by decide)⟩))
          · exact hC _ _ _ _ (t_wrg (P1 m1 t1) (fun m2 f2 a1 a2 => ⟨Or.inl rfl, rfl, hQ.er (e := (1, psN b n j)) (by rw [if_neg hno, if_neg (by omega), if_pos ⟨e4, jEQ y rfl rfl (by have := rk6 (W' := W') (a := a) eW; omega) (by decide)⟩]) m2 (w1.wf.trans f2) a1 a2⟩))
        · have y := y
          rw [ex] at y
          exact absurd (iEQ (show nI _ = nI 0 from y)) (by rw [hq]; decide)
      · have ex : nI 12 = nI (wk (tK b n j)) := by rw [hq]; rfl
        have fc := fct (by omega)
        obtain ⟨f0, f3, f6, h14, hr⟩ := fc
        refine ⟨fun _ => hC _ _ _ _ (t_rk ex h14 hr ⟨fun r4 => hC _ _ _ _ (t_rk ex h14 hr (hC _ _ _ _ (t_bind (r := rkN (tK b n j)) rfl (by omega) f6 hX hL hI (fun m1 w1 t1 X1 L1 => hC _ _ _ _ (t_rk ex h14 hr ⟨fun _ => ?_, fun y => absurd y r4⟩))))), fun r4 => hC _ _ _ _ (t_bind (r := 5) rfl (by decide) (by decide) hX hL hI (fun m1 w1 t1 X1 L1 => hC _ _ _ _ (t_rk ex h14 hr ⟨fun y => absurd r4 y, fun _ => ⟨fun z => ?_, fun z => ?_⟩⟩)))⟩), fun y => ?_⟩
        · have n4 : rkN (tK b n j) ≠ 4 := fun e => r4 (by rw [e])
          exact hC _ _ _ _ (t_isCounted (P1 m1 t1) L1.2.2.2.1 c64 (fun hc m2 f2 a1 a2 => ⟨fun y => absurd rfl y, fun _ => ⟨Or.inl rfl, rfl, (rst (rkN (tK b n j)) (if_neg n4).symm f0 f3 (fun e => absurd e n4) m1 w1 t1 X1 L1 _ ex).1 hc m2 f2 a1 a2⟩⟩) (fun hc => ⟨fun _ => hC _ _ _ _ (t_waitsFor (mi := cu m1 95 (upd (m1 95) 62 (nI (c + 1)))) L1.1 (lenr (rkN (tK b n j)) (by omega)) ⟨Or.inr rfl, hC _ _ _ _ (t_rk ex h14 hr ⟨fun z7 => ⟨Or.inl rfl, hC _ _ _ _ ((rst (rkN (tK b n j)) (if_neg n4).symm f0 f3 (fun e => absurd e n4) m1 w1 t1 X1 L1 _ ex).2 hc (nI 0) (by rw [if_neg (show ¬ rkN (tK b n j) ≤ 3 by have := jLE (show nI 3 ≤ nI (rkN (tK b n j)) from z7) rfl rfl; omega)]) _ (fun m5 h5 => ⟨Or.inr rfl, rfl, h5⟩))⟩, fun z7 => ⟨Or.inr rfl, hC _ _ _ _ ((rst (rkN (tK b n j)) (if_neg n4).symm f0 f3 (fun e => absurd e n4) m1 w1 t1 X1 L1 _ ex).2 hc (nI 1) (by rw [if_pos (show rkN (tK b n j) ≤ 3 by have := jNLE (show ¬ nI 3 ≤ nI (rkN (tK b n j)) from z7) rfl rfl; omega)]) _ (fun m5 h5 => ⟨Or.inr rfl, rfl, h5⟩))⟩⟩)⟩), fun y => absurd y (by decide)⟩))
        · have e4 : rkN (tK b n j) = 4 := jEQ r4 rfl rfl
          exact hC _ _ _ _ (t_isCounted (P1 m1 t1) L1.2.2.2.1 c64 (fun hc m2 f2 a1 a2 => ⟨fun y => absurd rfl y, fun _ => ⟨Or.inl rfl, rfl, (rst 5 (if_pos e4).symm f0 f3 (fun _ => top0 m1 L1 z) m1 w1 t1 X1 L1 _ ex).1 hc m2 f2 a1 a2⟩⟩) (fun hc => ⟨fun _ => hC _ _ _ _ (t_waitsFor (mi := cu m1 95 (upd (m1 95) 62 (nI (c + 1)))) L1.1 (lenr 5 (by omega)) ⟨Or.inr rfl, hC _ _ _ _ (t_rk ex h14 hr ⟨fun z7 => ⟨Or.inl rfl, hC _ _ _ _ ((rst 5 (if_pos e4).symm f0 f3 (fun _ => top0 m1 L1 z) m1 w1 t1 X1 L1 _ ex).2 hc (nI 0) (by rw [if_neg (show ¬ rkN (tK b n j) ≤ 3 by have := jLE (show nI 3 ≤ nI (rkN (tK b n j)) from z7) rfl rfl; omega)]) _ (fun m5 h5 => ⟨Or.inr rfl, rfl, h5⟩))⟩, fun z7 => ⟨Or.inr rfl, hC _ _ _ _ ((rst 5 (if_pos e4).symm f0 f3 (fun _ => top0 m1 L1 z) m1 w1 t1 X1 L1 _ ex).2 hc (nI 1) (by rw [if_pos (show rkN (tK b n j) ≤ 3 by have := jNLE (show ¬ nI 3 ≤ nI (rkN (tK b n j)) from z7) rfl rfl; omega)]) _ (fun m5 h5 => ⟨Or.inr rfl, rfl, h5⟩))⟩⟩)⟩), fun y => absurd y (by decide)⟩))
        · have e4 : rkN (tK b n j) = 4 := jEQ r4 rfl rfl
          obtain ⟨a, W', eW, hW', i1, i2, i3, i4⟩ := top m1 L1 z
          refine ⟨W'.length, by omega, i1, hC _ _ _ _ (t_rk i2 i3 i4 ⟨fun y => ?_, fun y => ?_⟩)⟩
          · exact hC _ _ _ _ (t_isCounted (P1 m1 t1) L1.2.2.2.1 c64 (fun hc m2 f2 a1 a2 => ⟨fun y => absurd rfl y, fun _ => ⟨Or.inl rfl, rfl, (rst 5 (if_pos e4).symm f0 f3 (fun _ e => y (by rw [e])) m1 w1 t1 X1 L1 _ ex).1 hc m2 f2 a1 a2⟩⟩) (fun hc => ⟨fun _ => hC _ _ _ _ (t_waitsFor (mi := cu m1 95 (upd (m1 95) 62 (nI (c + 1)))) L1.1 (lenr 5 (by omega)) ⟨Or.inr rfl, hC _ _ _ _ (t_rk ex h14 hr ⟨fun z7 => ⟨Or.inl rfl, hC _ _ _ _ ((rst 5 (if_pos e4).symm f0 f3 (fun _ e => y (by rw [e])) m1 w1 t1 X1 L1 _ ex).2 hc (nI 0) (by rw [if_neg (show ¬ rkN (tK b n j) ≤ 3 by have := jLE (show nI 3 ≤ nI (rkN (tK b n j)) from z7) rfl rfl; omega)]) _ (fun m5 h5 => ⟨Or.inr rfl, rfl, h5⟩))⟩, fun z7 => ⟨Or.inr rfl, hC _ _ _ _ ((rst 5 (if_pos e4).symm f0 f3 (fun _ e => y (by rw [e])) m1 w1 t1 X1 L1 _ ex).2 hc (nI 1) (by rw [if_pos (show rkN (tK b n j) ≤ 3 by have := jNLE (show ¬ nI 3 ≤ nI (rkN (tK b n j)) from z7) rfl rfl; omega)]) _ (fun m5 h5 => ⟨Or.inr rfl, rfl, h5⟩))⟩⟩)⟩), fun y => absurd y (by decide)⟩))
          · exact hC _ _ _ _ (t_wrg (P1 m1 t1) (fun m2 f2 a1 a2 => ⟨Or.inl rfl, rfl, hQ.er (e := (1, psN b n j)) (by rw [if_neg hno, if_neg (by omega), if_pos ⟨e4, jEQ y rfl rfl (by have := rk6 (W' := W') (a := a) eW; omega) (by decide)⟩]) m2 (w1.wf.trans f2) a1 a2⟩))
        · have y := y
          rw [ex] at y
          exact absurd (iEQ (show nI _ = nI 0 from y)) (by rw [hq]; decide)
      · have ex : nI 13 = nI (wk (tK b n j)) := by rw [hq]; rfl
        have fc := fct (by omega)
        obtain ⟨f0, f3, f6, h14, hr⟩ := fc
        refine ⟨fun _ => hC _ _ _ _ (t_rk ex h14 hr ⟨fun r4 => hC _ _ _ _ (t_rk ex h14 hr (hC _ _ _ _ (t_bind (r := rkN (tK b n j)) rfl (by omega) f6 hX hL hI (fun m1 w1 t1 X1 L1 => hC _ _ _ _ (t_rk ex h14 hr ⟨fun _ => ?_, fun y => absurd y r4⟩))))), fun r4 => hC _ _ _ _ (t_bind (r := 5) rfl (by decide) (by decide) hX hL hI (fun m1 w1 t1 X1 L1 => hC _ _ _ _ (t_rk ex h14 hr ⟨fun y => absurd r4 y, fun _ => ⟨fun z => ?_, fun z => ?_⟩⟩)))⟩), fun y => ?_⟩
        · have n4 : rkN (tK b n j) ≠ 4 := fun e => r4 (by rw [e])
          exact hC _ _ _ _ (t_isCounted (P1 m1 t1) L1.2.2.2.1 c64 (fun hc m2 f2 a1 a2 => ⟨fun y => absurd rfl y, fun _ => ⟨Or.inl rfl, rfl, (rst (rkN (tK b n j)) (if_neg n4).symm f0 f3 (fun e => absurd e n4) m1 w1 t1 X1 L1 _ ex).1 hc m2 f2 a1 a2⟩⟩) (fun hc => ⟨fun _ => hC _ _ _ _ (t_waitsFor (mi := cu m1 95 (upd (m1 95) 62 (nI (c + 1)))) L1.1 (lenr (rkN (tK b n j)) (by omega)) ⟨Or.inr rfl, hC _ _ _ _ (t_rk ex h14 hr ⟨fun z7 => ⟨Or.inl rfl, hC _ _ _ _ ((rst (rkN (tK b n j)) (if_neg n4).symm f0 f3 (fun e => absurd e n4) m1 w1 t1 X1 L1 _ ex).2 hc (nI 0) (by rw [if_neg (show ¬ rkN (tK b n j) ≤ 3 by have := jLE (show nI 3 ≤ nI (rkN (tK b n j)) from z7) rfl rfl; omega)]) _ (fun m5 h5 => ⟨Or.inr rfl, rfl, h5⟩))⟩, fun z7 => ⟨Or.inr rfl, hC _ _ _ _ ((rst (rkN (tK b n j)) (if_neg n4).symm f0 f3 (fun e => absurd e n4) m1 w1 t1 X1 L1 _ ex).2 hc (nI 1) (by rw [if_pos (show rkN (tK b n j) ≤ 3 by have := jNLE (show ¬ nI 3 ≤ nI (rkN (tK b n j)) from z7) rfl rfl; omega)]) _ (fun m5 h5 => ⟨Or.inr rfl, rfl, h5⟩))⟩⟩)⟩), fun y => absurd y (by decide)⟩))
        · have e4 : rkN (tK b n j) = 4 := jEQ r4 rfl rfl
          exact hC _ _ _ _ (t_isCounted (P1 m1 t1) L1.2.2.2.1 c64 (fun hc m2 f2 a1 a2 => ⟨fun y => absurd rfl y, fun _ => ⟨Or.inl rfl, rfl, (rst 5 (if_pos e4).symm f0 f3 (fun _ => top0 m1 L1 z) m1 w1 t1 X1 L1 _ ex).1 hc m2 f2 a1 a2⟩⟩) (fun hc => ⟨fun _ => hC _ _ _ _ (t_waitsFor (mi := cu m1 95 (upd (m1 95) 62 (nI (c + 1)))) L1.1 (lenr 5 (by omega)) ⟨Or.inr rfl, hC _ _ _ _ (t_rk ex h14 hr ⟨fun z7 => ⟨Or.inl rfl, hC _ _ _ _ ((rst 5 (if_pos e4).symm f0 f3 (fun _ => top0 m1 L1 z) m1 w1 t1 X1 L1 _ ex).2 hc (nI 0) (by rw [if_neg (show ¬ rkN (tK b n j) ≤ 3 by have := jLE (show nI 3 ≤ nI (rkN (tK b n j)) from z7) rfl rfl; omega)]) _ (fun m5 h5 => ⟨Or.inr rfl, rfl, h5⟩))⟩, fun z7 => ⟨Or.inr rfl, hC _ _ _ _ ((rst 5 (if_pos e4).symm f0 f3 (fun _ => top0 m1 L1 z) m1 w1 t1 X1 L1 _ ex).2 hc (nI 1) (by rw [if_pos (show rkN (tK b n j) ≤ 3 by have := jNLE (show ¬ nI 3 ≤ nI (rkN (tK b n j)) from z7) rfl rfl; omega)]) _ (fun m5 h5 => ⟨Or.inr rfl, rfl, h5⟩))⟩⟩)⟩), fun y => absurd y (by decide)⟩))
        · have e4 : rkN (tK b n j) = 4 := jEQ r4 rfl rfl
          obtain ⟨a, W', eW, hW', i1, i2, i3, i4⟩ := top m1 L1 z
          refine ⟨W'.length, by omega, i1, hC _ _ _ _ (t_rk i2 i3 i4 ⟨fun y => ?_, fun y => ?_⟩)⟩
          · exact hC _ _ _ _ (t_isCounted (P1 m1 t1) L1.2.2.2.1 c64 (fun hc m2 f2 a1 a2 => ⟨fun y => absurd rfl y, fun _ => ⟨Or.inl rfl, rfl, (rst 5 (if_pos e4).symm f0 f3 (fun _ e => y (by rw [e])) m1 w1 t1 X1 L1 _ ex).1 hc m2 f2 a1 a2⟩⟩) (fun hc => ⟨fun _ => hC _ _ _ _ (t_waitsFor (mi := cu m1 95 (upd (m1 95) 62 (nI (c + 1)))) L1.1 (lenr 5 (by omega)) ⟨Or.inr rfl, hC _ _ _ _ (t_rk ex h14 hr ⟨fun z7 => ⟨Or.inl rfl, hC _ _ _ _ ((rst 5 (if_pos e4).symm f0 f3 (fun _ e => y (by rw [e])) m1 w1 t1 X1 L1 _ ex).2 hc (nI 0) (by rw [if_neg (show ¬ rkN (tK b n j) ≤ 3 by have := jLE (show nI 3 ≤ nI (rkN (tK b n j)) from z7) rfl rfl; omega)]) _ (fun m5 h5 => ⟨Or.inr rfl, rfl, h5⟩))⟩, fun z7 => ⟨Or.inr rfl, hC _ _ _ _ ((rst 5 (if_pos e4).symm f0 f3 (fun _ e => y (by rw [e])) m1 w1 t1 X1 L1 _ ex).2 hc (nI 1) (by rw [if_pos (show rkN (tK b n j) ≤ 3 by have := jNLE (show ¬ nI 3 ≤ nI (rkN (tK b n j)) from z7) rfl rfl; omega)]) _ (fun m5 h5 => ⟨Or.inr rfl, rfl, h5⟩))⟩⟩)⟩), fun y => absurd y (by decide)⟩))
          · exact hC _ _ _ _ (t_wrg (P1 m1 t1) (fun m2 f2 a1 a2 => ⟨Or.inl rfl, rfl, hQ.er (e := (1, psN b n j)) (by rw [if_neg hno, if_neg (by omega), if_pos ⟨e4, jEQ y rfl rfl (by have := rk6 (W' := W') (a := a) eW; omega) (by decide)⟩]) m2 (w1.wf.trans f2) a1 a2⟩))
        · have y := y
          rw [ex] at y
          exact absurd (iEQ (show nI _ = nI 0 from y)) (by rw [hq]; decide)
      · have ex : nI 14 = nI (wk (tK b n j)) := by rw [hq]; rfl
        have fc := fct (by omega)
        obtain ⟨f0, f3, f6, h14, hr⟩ := fc
        refine ⟨fun _ => hC _ _ _ _ (t_rk ex h14 hr ⟨fun r4 => hC _ _ _ _ (t_rk ex h14 hr (hC _ _ _ _ (t_bind (r := rkN (tK b n j)) rfl (by omega) f6 hX hL hI (fun m1 w1 t1 X1 L1 => hC _ _ _ _ (t_rk ex h14 hr ⟨fun _ => ?_, fun y => absurd y r4⟩))))), fun r4 => hC _ _ _ _ (t_bind (r := 5) rfl (by decide) (by decide) hX hL hI (fun m1 w1 t1 X1 L1 => hC _ _ _ _ (t_rk ex h14 hr ⟨fun y => absurd r4 y, fun _ => ⟨fun z => ?_, fun z => ?_⟩⟩)))⟩), fun y => ?_⟩
        · have n4 : rkN (tK b n j) ≠ 4 := fun e => r4 (by rw [e])
          exact hC _ _ _ _ (t_isCounted (P1 m1 t1) L1.2.2.2.1 c64 (fun hc m2 f2 a1 a2 => ⟨fun y => absurd rfl y, fun _ => ⟨Or.inl rfl, rfl, (rst (rkN (tK b n j)) (if_neg n4).symm f0 f3 (fun e => absurd e n4) m1 w1 t1 X1 L1 _ ex).1 hc m2 f2 a1 a2⟩⟩) (fun hc => ⟨fun _ => hC _ _ _ _ (t_waitsFor (mi := cu m1 95 (upd (m1 95) 62 (nI (c + 1)))) L1.1 (lenr (rkN (tK b n j)) (by omega)) ⟨Or.inr rfl, hC _ _ _ _ (t_rk ex h14 hr ⟨fun z7 => ⟨Or.inl rfl, hC _ _ _ _ ((rst (rkN (tK b n j)) (if_neg n4).symm f0 f3 (fun e => absurd e n4) m1 w1 t1 X1 L1 _ ex).2 hc (nI 0) (by rw [if_neg (show ¬ rkN (tK b n j) ≤ 3 by have := jLE (show nI 3 ≤ nI (rkN (tK b n j)) from z7) rfl rfl; omega)]) _ (fun m5 h5 => ⟨Or.inr rfl, rfl, h5⟩))⟩, fun z7 => ⟨Or.inr rfl, hC _ _ _ _ ((rst (rkN (tK b n j)) (if_neg n4).symm f0 f3 (fun e => absurd e n4) m1 w1 t1 X1 L1 _ ex).2 hc (nI 1) (by rw [if_pos (show rkN (tK b n j) ≤ 3 by have := jNLE (show ¬ nI 3 ≤ nI (rkN (tK b n j)) from z7) rfl rfl; omega)]) _ (fun m5 h5 => ⟨Or.inr rfl, rfl, h5⟩))⟩⟩)⟩), fun y => absurd y (by decide)⟩))
        · have e4 : rkN (tK b n j) = 4 := jEQ r4 rfl rfl
          exact hC _ _ _ _ (t_isCounted (P1 m1 t1) L1.2.2.2.1 c64 (fun hc m2 f2 a1 a2 => ⟨fun y => absurd rfl y, fun _ => ⟨Or.inl rfl, rfl, (rst 5 (if_pos e4).symm f0 f3 (fun _ => top0 m1 L1 z) m1 w1 t1 X1 L1 _ ex).1 hc m2 f2 a1 a2⟩⟩) (fun hc => ⟨fun _ => hC _ _ _ _ (t_waitsFor (mi := cu m1 95 (upd (m1 95) 62 (nI (c + 1)))) L1.1 (lenr 5 (by omega)) ⟨Or.inr rfl, hC _ _ _ _ (t_rk ex h14 hr ⟨fun z7 => ⟨Or.inl rfl, hC _ _ _ _ ((rst 5 (if_pos e4).symm f0 f3 (fun _ => top0 m1 L1 z) m1 w1 t1 X1 L1 _ ex).2 hc (nI 0) (by rw [if_neg (show ¬ rkN (tK b n j) ≤ 3 by have := jLE (show nI 3 ≤ nI (rkN (tK b n j)) from z7) rfl rfl; omega)]) _ (fun m5 h5 => ⟨Or.inr rfl, rfl, h5⟩))⟩, fun z7 => ⟨Or.inr rfl, hC _ _ _ _ ((rst 5 (if_pos e4).symm f0 f3 (fun _ => top0 m1 L1 z) m1 w1 t1 X1 L1 _ ex).2 hc (nI 1) (by rw [if_pos (show rkN (tK b n j) ≤ 3 by have := jNLE (show ¬ nI 3 ≤ nI (rkN (tK b n j)) from z7) rfl rfl; omega)]) _ (fun m5 h5 => ⟨Or.inr rfl, rfl, h5⟩))⟩⟩)⟩), fun y => absurd y (by decide)⟩))
        · have e4 : rkN (tK b n j) = 4 := jEQ r4 rfl rfl
          obtain ⟨a, W', eW, hW', i1, i2, i3, i4⟩ := top m1 L1 z
          refine ⟨W'.length, by omega, i1, hC _ _ _ _ (t_rk i2 i3 i4 ⟨fun y => ?_, fun y => ?_⟩)⟩
          · exact hC _ _ _ _ (t_isCounted (P1 m1 t1) L1.2.2.2.1 c64 (fun hc m2 f2 a1 a2 => ⟨fun y => absurd rfl y, fun _ => ⟨Or.inl rfl, rfl, (rst 5 (if_pos e4).symm f0 f3 (fun _ e => y (by rw [e])) m1 w1 t1 X1 L1 _ ex).1 hc m2 f2 a1 a2⟩⟩) (fun hc => ⟨fun _ => hC _ _ _ _ (t_waitsFor (mi := cu m1 95 (upd (m1 95) 62 (nI (c + 1)))) L1.1 (lenr 5 (by omega)) ⟨Or.inr rfl, hC _ _ _ _ (t_rk ex h14 hr ⟨fun z7 => ⟨Or.inl rfl, hC _ _ _ _ ((rst 5 (if_pos e4).symm f0 f3 (fun _ e => y (by rw [e])) m1 w1 t1 X1 L1 _ ex).2 hc (nI 0) (by rw [if_neg (show ¬ rkN (tK b n j) ≤ 3 by have := jLE (show nI 3 ≤ nI (rkN (tK b n j)) from z7) rfl rfl; omega)]) _ (fun m5 h5 => ⟨Or.inr rfl, rfl, h5⟩))⟩, fun z7 => ⟨Or.inr rfl, hC _ _ _ _ ((rst 5 (if_pos e4).symm f0 f3 (fun _ e => y (by rw [e])) m1 w1 t1 X1 L1 _ ex).2 hc (nI 1) (by rw [if_pos (show rkN (tK b n j) ≤ 3 by have := jNLE (show ¬ nI 3 ≤ nI (rkN (tK b n j)) from z7) rfl rfl; omega)]) _ (fun m5 h5 => ⟨Or.inr rfl, rfl, h5⟩))⟩⟩)⟩), fun y => absurd y (by decide)⟩))
          · exact hC _ _ _ _ (t_wrg (P1 m1 t1) (fun m2 f2 a1 a2 => ⟨Or.inl rfl, rfl, hQ.er (e := (1, psN b n j)) (by rw [if_neg hno, if_neg (by omega), if_pos ⟨e4, jEQ y rfl rfl (by have := rk6 (W' := W') (a := a) eW; omega) (by decide)⟩]) m2 (w1.wf.trans f2) a1 a2⟩))
        · have y := y
          rw [ex] at y
          exact absurd (iEQ (show nI _ = nI 0 from y)) (by rw [hq]; decide)
      · have hr : rkN (tK b n j) = 0 ∨ rkN (tK b n j) = 3 := by
          by_cases e0 : rkN (tK b n j) = 0
          · exact Or.inl e0
          · by_cases e3 : rkN (tK b n j) = 3
            · exact Or.inr e3
            · exact absurd (hsg.1.mp ⟨e0, e3⟩) (by omega)
        exact hC _ _ _ _ (t_wrg hP (fun m1 f1 a1 a2 => ⟨Or.inl rfl, rfl, hQ.er (e := (1, psN b n j)) (by rw [if_neg hno, if_pos hr]) m1 f1 a1 a2⟩))
    · have hq := hk5.mp z5
      have hw := hsg.2.2 hq.1 hq.2
      have ex : nI 5 + mi 95 9 = nI (wk (tK b n j)) := by rw [hk9 hq.1 hq.2, nI_add, hw]
      have fc := fct (by omega)
      obtain ⟨f0, f3, f6, h14, hr⟩ := fc
      refine ⟨fun _ => hC _ _ _ _ (t_rk ex h14 hr ⟨fun r4 => hC _ _ _ _ (t_rk ex h14 hr (hC _ _ _ _ (t_bind (r := rkN (tK b n j)) rfl (by omega) f6 hX hL hI (fun m1 w1 t1 X1 L1 => hC _ _ _ _ (t_rk ex h14 hr ⟨fun _ => ?_, fun y => absurd y r4⟩))))), fun r4 => hC _ _ _ _ (t_bind (r := 5) rfl (by decide) (by decide) hX hL hI (fun m1 w1 t1 X1 L1 => hC _ _ _ _ (t_rk ex h14 hr ⟨fun y => absurd r4 y, fun _ => ⟨fun z => ?_, fun z => ?_⟩⟩)))⟩), fun y => ?_⟩
      · have n4 : rkN (tK b n j) ≠ 4 := fun e => r4 (by rw [e])
        exact hC _ _ _ _ (t_isCounted (P1 m1 t1) L1.2.2.2.1 c64 (fun hc m2 f2 a1 a2 => ⟨fun y => absurd rfl y, fun _ => ⟨Or.inl rfl, rfl, (rst (rkN (tK b n j)) (if_neg n4).symm f0 f3 (fun e => absurd e n4) m1 w1 t1 X1 L1 _ ex).1 hc m2 f2 a1 a2⟩⟩) (fun hc => ⟨fun _ => hC _ _ _ _ (t_waitsFor (mi := cu m1 95 (upd (m1 95) 62 (nI (c + 1)))) L1.1 (lenr (rkN (tK b n j)) (by omega)) ⟨Or.inr rfl, hC _ _ _ _ (t_rk ex h14 hr ⟨fun z7 => ⟨Or.inl rfl, hC _ _ _ _ ((rst (rkN (tK b n j)) (if_neg n4).symm f0 f3 (fun e => absurd e n4) m1 w1 t1 X1 L1 _ ex).2 hc (nI 0) (by rw [if_neg (show ¬ rkN (tK b n j) ≤ 3 by have := jLE (show nI 3 ≤ nI (rkN (tK b n j)) from z7) rfl rfl; omega)]) _ (fun m5 h5 => ⟨Or.inr rfl, rfl, h5⟩))⟩, fun z7 => ⟨Or.inr rfl, hC _ _ _ _ ((rst (rkN (tK b n j)) (if_neg n4).symm f0 f3 (fun e => absurd e n4) m1 w1 t1 X1 L1 _ ex).2 hc (nI 1) (by rw [if_pos (show rkN (tK b n j) ≤ 3 by have := jNLE (show ¬ nI 3 ≤ nI (rkN (tK b n j)) from z7) rfl rfl; omega)]) _ (fun m5 h5 => ⟨Or.inr rfl, rfl, h5⟩))⟩⟩)⟩), fun y => absurd y (by decide)⟩))
      · have e4 : rkN (tK b n j) = 4 := jEQ r4 rfl rfl
        exact hC _ _ _ _ (t_isCounted (P1 m1 t1) L1.2.2.2.1 c64 (fun hc m2 f2 a1 a2 => ⟨fun y => absurd rfl y, fun _ => ⟨Or.inl rfl, rfl, (rst 5 (if_pos e4).symm f0 f3 (fun _ => top0 m1 L1 z) m1 w1 t1 X1 L1 _ ex).1 hc m2 f2 a1 a2⟩⟩) (fun hc => ⟨fun _ => hC _ _ _ _ (t_waitsFor (mi := cu m1 95 (upd (m1 95) 62 (nI (c + 1)))) L1.1 (lenr 5 (by omega)) ⟨Or.inr rfl, hC _ _ _ _ (t_rk ex h14 hr ⟨fun z7 => ⟨Or.inl rfl, hC _ _ _ _ ((rst 5 (if_pos e4).symm f0 f3 (fun _ => top0 m1 L1 z) m1 w1 t1 X1 L1 _ ex).2 hc (nI 0) (by rw [if_neg (show ¬ rkN (tK b n j) ≤ 3 by have := jLE (show nI 3 ≤ nI (rkN (tK b n j)) from z7) rfl rfl; omega)]) _ (fun m5 h5 => ⟨Or.inr rfl, rfl, h5⟩))⟩, fun z7 => ⟨Or.inr rfl, hC _ _ _ _ ((rst 5 (if_pos e4).symm f0 f3 (fun _ => top0 m1 L1 z) m1 w1 t1 X1 L1 _ ex).2 hc (nI 1) (by rw [if_pos (show rkN (tK b n j) ≤ 3 by have := jNLE (show ¬ nI 3 ≤ nI (rkN (tK b n j)) from z7) rfl rfl; omega)]) _ (fun m5 h5 => ⟨Or.inr rfl, rfl, h5⟩))⟩⟩)⟩), fun y => absurd y (by decide)⟩))
      · have e4 : rkN (tK b n j) = 4 := jEQ r4 rfl rfl
        obtain ⟨a, W', eW, hW', i1, i2, i3, i4⟩ := top m1 L1 z
        refine ⟨W'.length, by omega, i1, hC _ _ _ _ (t_rk i2 i3 i4 ⟨fun y => ?_, fun y => ?_⟩)⟩
        · exact hC _ _ _ _ (t_isCounted (P1 m1 t1) L1.2.2.2.1 c64 (fun hc m2 f2 a1 a2 => ⟨fun y => absurd rfl y, fun _ => ⟨Or.inl rfl, rfl, (rst 5 (if_pos e4).symm f0 f3 (fun _ e => y (by rw [e])) m1 w1 t1 X1 L1 _ ex).1 hc m2 f2 a1 a2⟩⟩) (fun hc => ⟨fun _ => hC _ _ _ _ (t_waitsFor (mi := cu m1 95 (upd (m1 95) 62 (nI (c + 1)))) L1.1 (lenr 5 (by omega)) ⟨Or.inr rfl, hC _ _ _ _ (t_rk ex h14 hr ⟨fun z7 => ⟨Or.inl rfl, hC _ _ _ _ ((rst 5 (if_pos e4).symm f0 f3 (fun _ e => y (by rw [e])) m1 w1 t1 X1 L1 _ ex).2 hc (nI 0) (by rw [if_neg (show ¬ rkN (tK b n j) ≤ 3 by have := jLE (show nI 3 ≤ nI (rkN (tK b n j)) from z7) rfl rfl; omega)]) _ (fun m5 h5 => ⟨Or.inr rfl, rfl, h5⟩))⟩, fun z7 => ⟨Or.inr rfl, hC _ _ _ _ ((rst 5 (if_pos e4).symm f0 f3 (fun _ e => y (by rw [e])) m1 w1 t1 X1 L1 _ ex).2 hc (nI 1) (by rw [if_pos (show rkN (tK b n j) ≤ 3 by have := jNLE (show ¬ nI 3 ≤ nI (rkN (tK b n j)) from z7) rfl rfl; omega)]) _ (fun m5 h5 => ⟨Or.inr rfl, rfl, h5⟩))⟩⟩)⟩), fun y => absurd y (by decide)⟩))
        · exact hC _ _ _ _ (t_wrg (P1 m1 t1) (fun m2 f2 a1 a2 => ⟨Or.inl rfl, rfl, hQ.er (e := (1, psN b n j)) (by rw [if_neg hno, if_neg (by omega), if_pos ⟨e4, jEQ y rfl rfl (by have := rk6 (W' := W') (a := a) eW; omega) (by decide)⟩]) m2 (w1.wf.trans f2) a1 a2⟩))
      · have y := y
        rw [ex] at y
        exact absurd (iEQ (show nI _ = nI 0 from y)) (by omega)
end
