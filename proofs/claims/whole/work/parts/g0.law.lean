/-! THE REFERENCE READS: values and signs of the law -/
def VR (b : Nat → Nat) (n j : Nat) (rd : Option Nat) (mi : Nat → Nat → Int32) (ml : Nat → Nat → Int64) (Q : Option Value → Mm → Prop) (r : Except (Nat × Nat) LSt) : Prop := match r with
  | .error e => ∀ mi', WF mi mi' → mi' 95 4 = nI e.1 → mi' 95 5 = nI e.2 → Q (some (.int (nI 0))) (mi', ml, R0 rd, 136)
  | .ok (T', c', o', q', W') => ∀ mi', WG mi mi' → MX T' mi' → LM T' c' o' q' W' mi' → TP b n (j + 1) mi' → Q (some (.int (nI 1))) (mi', ml, R0 rd, 136)
theorem nI_0le {a : Nat} (h : a < 2 ^ 31) : (0 : Int32) ≤ nI a := nI_le (Nat.zero_le a) h
theorem nI_nl0 {a : Nat} (h : a < 2 ^ 31) : ¬ nI a < (0 : Int32) := fun q => by
  have := iLT (show nI a < nI 0 from q)
  omega
theorem kK_20 : ∀ k, k ≤ 45 → 20 ≤ k → (20 ≤ kK k ↔ 40 ≤ k) ∧ (40 ≤ k → kK k = k - 20) ∧ kK k < 26 := by decide
theorem MX.c62 {T : Nat → Nat → Nat} {mi : Nat → Nat → Int32} (h : MX T mi) {x : Int32} (h18 : T 0 18 ≠ 0) : MX T (cu mi 95 (upd (mi 95) 62 x)) :=
  ⟨h.w, h.h, h.no, h.ns, h.ng, h.nw, h.nh, h.nc, h.nsg, h.nl, h.nk, h.pt, h.ls, h.pu, h.se, h.ra, h.o0, h.o1, h.o2, h.on, h.pr, h.cud, h.ow, h.gl, h.gs, h.wn, h.ww, h.hn, h.sg, h.cn, h.cm, h.sn, h.sl, h.sr, h.lk, fun q => absurd q h18, h.kk, h.kn, h.kp⟩
theorem MX.mv2 {T : Nat → Nat → Nat} {mi mi' : Nat → Nat → Int32} (h : MX T mi) (h18 : T 0 18 ≠ 0) (h95 : ∀ k, 23 ≤ k → k ≤ 35 → mi' 95 k = mi 95 k) (hc : ∀ c, 98 ≤ c → c ≤ 118 → mi' c = mi c) : MX T mi' :=
  (h.c62 (x := mi' 95 62) h18).mv (fun k hk => by
    rcases hk with hk | hk
    · rw [cu_self, pk_un (by omega)]; exact h95 k hk.1 hk.2
    · subst hk; rfl) (fun c h1 h2 => by rw [cu_ne (by omega)]; exact hc c h1 h2)
section
variable {d : Nat} {Q : Option Value → Mm → Prop} {b : Nat → Nat} {n j c op : Nat} {q : Bool} {W : List Nat} {T : Nat → Nat → Nat} {mi : Nat → Nat → Int32} {ml : Nat → Nat → Int64} {rd : Option Nat}
theorem VR.er {e : Nat × Nat} {r : Except (Nat × Nat) LSt} (h : VR b n j rd mi ml Q r) (he : r = .error e) : ∀ mi', WF mi mi' → mi' 95 4 = nI e.1 → mi' 95 5 = nI e.2 → Q (some (.int (nI 0))) (mi', ml, R0 rd, 136) := by
  rw [he] at h
  exact h
theorem VR.ok {T' : Nat → Nat → Nat} {c' o' : Nat} {q' : Bool} {W' : List Nat} {r : Except (Nat × Nat) LSt} (h : VR b n j rd mi ml Q r) (he : r = .ok (T', c', o', q', W')) : ∀ mi', WG mi mi' → MX T' mi' → LM T' c' o' q' W' mi' → TP b n (j + 1) mi' → Q (some (.int (nI 1))) (mi', ml, R0 rd, 136) := by
  rw [he] at h
  exact h
theorem t_isCounted (hP : TP b n j mi) (ec : mi 95 62 = nI c) (hc : c ≤ 64) (h0 : 64 ≤ c → ∀ mi', WF mi mi' → mi' 95 4 = nI 2 → mi' 95 5 = nI (psN b n j) → Q (some (.int (nI 0))) (mi', ml, R0 rd, 136)) (h1 : c < 64 → Q (some (.int (nI 1))) (cu mi 95 (upd (mi 95) 62 (nI (c + 1))), ml, R0 rd, 136)) : Cd (d + 2) k_Mod_isCounted [.ref 95] (mi, ml, R0 rd, 136) Q := by
  refine r_Mod_isCounted (by decide) (fun K Kl hK hC => ⟨fun z => ⟨Or.inr rfl, rfl, ?_⟩, fun z => hC _ _ _ _ (t_wrg hP (fun m f a e => ⟨Or.inl rfl, rfl, h0 ?_ m f a e⟩))⟩)
  · have z := jNE z ec rfl
    have e1 : mi 95 62 + nI 1 = nI (c + 1) := by rw [ec, nI_add]
    have h1 := h1 (by omega)
    rw [← e1] at h1
    exact h1
  · have := jEQ z ec rfl
    omega
theorem t_waitsFor {L : Nat} {x : Int32} (e : mi 95 59 = nI L) (hL : L < 96) (hQ : Q none (cu (cu mi 119 (upd (mi 119) L x)) 95 (upd (mi 95) 59 (nI (L + 1))), ml, R0 rd, 136)) : Cd (d + 1) k_Mod_waitsFor [.ref 95, .int x] (mi, ml, R0 rd, 136) Q := by
  have e1 : mi 95 59 + nI 1 = nI (L + 1) := by rw [e, nI_add]
  rw [← e1] at hQ
  exact r_Mod_waitsFor (by decide) (fun K Kl hK hC => ⟨L, by omega, e, ⟨rfl, hQ⟩⟩)
theorem t_nameMet (hP : TP b n j mi) (h1 : 40 ≤ tK b n j → Q (some (.int (nI (tK b n j - 40)))) (mi, ml, R0 rd, 136)) (h0 : tK b n j < 40 → Q (some (.int (-1))) (mi, ml, R0 rd, 136)) : Cd (d + 1) k_Mod_nameMet [.ref 95] (mi, ml, R0 rd, 136) Q := by
  have hk1 := hP.2.2.k8.2.1
  have hk45 := hP.2.2.k8.2.2.2.2.2.1
  have hkw := hP.2.2.k8.2.2.2.2.2.2.2.1
  refine r_Mod_nameMet (by decide) (fun K Kl hK hC => ⟨fun z => ⟨rfl, h0 ?_⟩, fun z => ⟨fun y => ⟨rfl, h0 ?_⟩, fun y => ⟨rfl, ?_⟩⟩⟩)
  · rcases Nat.lt_or_ge (tK b n j) 40 with w | w
    · exact w
    · exact absurd (hk1.mpr (by omega)) z
  · have h20 := hk1.mp z
    have ht := kK_20 _ hk45 h20
    have y := jLT y (hkw h20) rfl
    rcases Nat.lt_or_ge (tK b n j) 40 with w | w
    · exact w
    · have := ht.1.mpr w; omega
  · have h20 := hk1.mp z
    have ht := kK_20 _ hk45 h20
    have y := jNLT y (hkw h20) rfl
    have h40 := ht.1.mp y
    have e : mi 95 9 - nI 20 = nI (tK b n j - 40) := by
      rw [hkw h20, pk_sub y, ht.2.1 h40]
      congr 1
    have h1 := h1 h40
    rw [← e] at h1
    exact h1
theorem VR.fin {T' : Nat → Nat → Nat} {c' o' : Nat} {q' : Bool} {W' : List Nat} {r : Except (Nat × Nat) LSt} (hE : TE b n mi) (hQ : VR b n j rd mi ml Q r) (he : r = .ok (T', c', o', q', W')) {m : Nat → Nat → Int32} (w : WG mi m) (X : MX T' m) (L : LM T' c' o' q' W' m) (P : TP b n j m) (P' : Option Value → Mm → Prop) (hP' : ∀ m5, Q (some (.int (nI 1))) (m5, ml, R0 rd, 136) → P' none (m5, ml, R0 rd, 136)) : Cd (d + 2) k_Mod_token [.ref 95] (m, ml, R0 rd, 136) P' := t_tok (hE.wf w.wf) P (fun m5 f5 P5 => hP' m5 (hQ.ok he m5 (w.trans f5.wg) (f5.f5.mx X) (f5.lm L) P5))
set_option maxHeartbeats 2000000 in
theorem t_leafRead (hE : TE b n mi) (hP : TP b n j mi) (hX : MX T mi) (h18 : T 0 18 ≠ 0) (hL : LM T c op true W mi) (hI : LI T c op true W) (hQ : VR b n j rd mi ml Q (pVal (tK b n) (tV b n) (psN b n) T c op W j)) : Cd (d + 3) k_Mod_leafRead [.ref 95] (mi, ml, R0 rd, 136) Q := by
  have hb := hI.b
  have hk45 := hP.2.2.k8.2.2.2.2.2.1
  have hk3 := hP.2.2.k8.2.2.2.1
  have hkn := hP.2.2.k8.2.2.2.2.2.2.2.2.2.2.2
  obtain ⟨l59, l60, l61, l62, l63, l64, l119, l120⟩ := hL
  have l64 := l64 rfl
  have hn64 : c < 64 → T 0 9 < 64 := by have := hI.2.2.2.1; omega
  unfold pVal at hQ
  /- behind the counting -/
  have grow : tK b n j ≠ 5 → tK b n j ≠ 39 → c < 64 → ∀ (kd x : Nat) (pv : Int32), ((tK b n j = 1 ∧ kd = 0 ∧ x = tV b n j ∧ tV b n j ≤ 9999) ∨ (40 ≤ tK b n j ∧ kd = 1 ∧ x = tK b n j - 40)) → pv = nI x → ∀ P : Option Value → Mm → Prop, (∀ m4, (∀ P' : Option Value → Mm → Prop, (∀ m5, Q (some (.int (nI 1))) (m5, ml, R0 rd, 136) → P' none (m5, ml, R0 rd, 136)) → Cd (d + 2) k_Mod_token [.ref 95] (cu m4 95 (upd (m4 95) 63 (nI 0)), ml, R0 rd, 136) P') → P none (m4, ml, R0 rd, 136)) → Cd (d + 2) k_Mod_grown [.ref 95, .int (nI kd), .int pv, .int (nI 0)] (cu mi 95 (upd (mi 95) 62 (nI (c + 1))), ml, R0 rd, 136) P := by
    intro h5 h39 hc kd x pv hkd epv P hP9
    have eok : (if tK b n j = 1 then aKn T 0 (tV b n j) else aKn T 1 (tK b n j - 40)) = aKn T kd x := by
      rcases hkd with ⟨a1, a2, a3, a4⟩ | ⟨a1, a2, a3⟩
      · rw [if_pos a1, a2, a3]
      · rw [if_neg (by omega), a2, a3]
    have X1 : MX T (cu mi 95 (upd (mi 95) 62 (nI (c + 1)))) := hX.c62 h18
    have ehd : hdN (aKn T kd x) (T 0 9 + 1) = T 0 9 :: hdN T (T 0 9) := by
      rw [hdN, kn_17, if_pos rfl, if_pos (by omega), hd_17 (T := T) (T' := aKn T kd x) (T 0 9) (fun i hi => by rw [kn_17, if_neg (by omega)])]
    refine t_grown (kd := kd) (x := x) (L := (hdN T (T 0 9)).length) X1 (hn64 hc) l60 (by omega) (fun _ => epv) (fun q => by omega) (fun q => by omega) (fun m4 w4 X4 g95 g119 g60 g120 => hP9 m4 (fun P' hP' => ?_))
    have w4' : WG mi (cu m4 95 (upd (m4 95) 63 (nI 0))) := ((WG.none.cu rfl : WG mi (cu mi 95 (upd (mi 95) 62 (nI (c + 1))))).trans w4).cu rfl
    refine VR.fin (T' := aKn T kd x) (c' := c + 1) (o' := op) (q' := false) (W' := W) hE hQ (by
      rw [if_neg h5, if_neg h39, if_neg (by omega), if_neg (by omega), if_neg (by omega), eok]) w4' (X4.mv (fun k hk => pk_un (by omega)) (fun c _ _ => cu_ne (by omega))) ⟨?_, ?_, ?_, ?_, rfl, (fun q => by cases q), ?_, ?_⟩ (hP.mv (g95 7 (by decide) (by decide)) (g95 8 (by decide) (by decide)) (g95 9 (by decide) (by decide)) (g95 10 (by decide) (by decide))) P' hP'
    · exact (g95 59 (by decide) (by decide)).trans l59
    · show m4 95 60 = nI (hdN (aKn T kd x) (T 0 9 + 1)).length
      rw [g60, ehd]
      rfl
    · exact (g95 61 (by decide) (by decide)).trans l61
    · exact g95 62 (by decide) (by decide)
    · show WS (W.map wk) (m4 119)
      rw [g119]; exact l119
    · show WS (hdN (aKn T kd x) (T 0 9 + 1)) (m4 120)
      rw [g120, ehd]
      exact ⟨pk_us, l120.upd (Nat.le_refl _)⟩
  have rest : tK b n j ≠ 5 → (tK b n j = 39 → 3 < rkN (W.headD 0)) → (tK b n j < 40 → tK b n j ≠ 1 → ∀ m', WF mi m' → m' 95 4 = nI 1 → m' 95 5 = nI (psN b n j) → Q (some (.int (nI 0))) (m', ml, R0 rd, 136)) ∧ (tK b n j = 1 → 9999 < tV b n j → ∀ m', WF mi m' → m' 95 4 = nI 2 → m' 95 5 = nI (psN b n j) → Q (some (.int (nI 0))) (m', ml, R0 rd, 136)) ∧ ((40 ≤ tK b n j ∨ (tK b n j = 1 ∧ tV b n j ≤ 9999)) → 64 ≤ c → ∀ m', WF mi m' → m' 95 4 = nI 2 → m' 95 5 = nI (psN b n j) → Q (some (.int (nI 0))) (m', ml, R0 rd, 136)) := by
    intro h5 h39
    refine ⟨fun a1 a2 => hQ.er (e := (1, psN b n j)) ?_, fun a1 a2 => hQ.er (e := (2, psN b n j)) ?_, fun a1 a2 => hQ.er (e := (2, psN b n j)) ?_⟩
    · rw [if_neg h5]
      by_cases e : tK b n j = 39
      · rw [if_pos e, if_pos (h39 e)]
      · rw [if_neg e, if_pos (by omega)]
    · rw [if_neg h5, if_neg (by omega), if_neg (by omega), if_pos (by omega)]
    · rw [if_neg h5, if_neg (by omega), if_neg (by omega), if_neg (by omega), if_pos (by omega)]
  refine r_Mod_leafRead (by decide) (fun K Kl hK hC => hC _ _ _ _ (t_isSign (q := 5) hP (by decide) rfl (fun h5 => ⟨fun z => absurd z (by decide), fun _ => ⟨fun z8 => ?_, fun z8 => ?_⟩⟩) (fun h5 => ⟨fun _ => ?_, fun z => absurd rfl z⟩)))
  · have z8 := jNE z8 l61 rfl
    have e61 : mi 95 61 + nI 1 = nI (op + 1) := by rw [l61, nI_add]
    have eok := VR.fin (d := d) (m := cu (cu (cu (cu mi 95 (upd (mi 95) 61 (mi 95 61 + nI 1))) 119 (upd (mi 119) W.length (nI 0))) 95 (upd (upd (mi 95) 61 (mi 95 61 + nI 1)) 59 (nI (W.length + 1)))) 95 (upd (upd (upd (mi 95) 61 (mi 95 61 + nI 1)) 59 (nI (W.length + 1))) 64 (nI 1))) (T' := T) (c' := c) (o' := op + 1) (q' := true) (W' := 5 :: W) hE hQ (by rw [if_pos h5, if_neg (by omega)]) ((((WG.none.cu rfl).cu rfl).cu rfl).cu rfl) (hX.mv (fun k hk => by
      show upd (upd (upd (mi 95) 61 _) 59 _) 64 _ k = _
      rw [pk_un (by omega), pk_un (by omega), pk_un (by omega)]) (fun c _ _ => by rw [cu_ne (by omega), cu_ne (by omega), cu_ne (by omega), cu_ne (by omega)])) ⟨rfl, l60, e61, l62, l63, fun _ => rfl, ⟨(by
        rw [List.length_map]; exact pk_us), l119.upd (by rw [List.length_map]; exact Nat.le_refl _)⟩, l120⟩ (hP.mv rfl rfl rfl rfl)
    exact hC _ _ _ _ (t_waitsFor (mi := cu mi 95 (upd (mi 95) 61 (mi 95 61 + nI 1))) l59 (by omega) ⟨Or.inr rfl, hC _ _ _ _ (eok _ (fun m5 h5 => ⟨Or.inr rfl, rfl, h5⟩))⟩)
  · have z8 := jEQ z8 l61 rfl
    exact hC _ _ _ _ (t_wrg hP (fun m1 f1 a1 a2 => ⟨Or.inl rfl, rfl, hQ.er (e := (2, psN b n j)) (by rw [if_pos h5, if_pos (by omega)]) m1 f1 a1 a2⟩))
  · refine hC _ _ _ _ (t_isKey (q := 39) hP (by decide) rfl (fun h39 => ⟨fun z => absurd z (by decide), fun _ => ⟨fun z => ?_, fun z => ?_⟩⟩) (fun h39 => ⟨fun _ => ?_, fun z => absurd rfl z⟩))
    · have z : mi 95 64 = 0 := z
      rw [l64] at z
      have H39 : tK b n j = 39 → 3 < rkN (W.headD 0) := fun _ => by
        by_cases e : rkN (W.headD 0) ≤ 3
        · rw [if_pos e] at z; exact absurd z (by decide)
        · omega
      have rs := rest h5 H39
      refine hC _ _ _ _ (t_nameMet hP (fun h40 => ⟨fun _ => ⟨fun _ => ?_, fun y => absurd (nI_0le (by omega)) y⟩, fun y => absurd (nI_0le (by omega)) y⟩) (fun h40 => ⟨fun y => absurd y (by decide), fun _ => ⟨fun z3 => ⟨fun y => absurd y (by decide), fun _ => ⟨fun z9 => ?_, fun z9 => ?_⟩⟩, fun z3 => ?_⟩⟩))
      · refine hC _ _ _ _ (t_isCounted hP l62 hb.2.2.2.2.1 (fun hc m1 f1 a1 a2 => ⟨fun y => absurd rfl y, fun _ => ⟨Or.inl rfl, rfl, rs.2.2 (Or.inl h40) hc m1 f1 a1 a2⟩⟩) (fun hc => ⟨fun _ => ⟨fun y => absurd y (nI_nl0 (by omega)), fun _ => ⟨fun y => absurd y (nI_nl0 (by omega)), fun _ => ?_⟩⟩, fun y => absurd y (by decide)⟩))
        exact hC _ _ _ _ (grow h5 (by omega) hc 1 (tK b n j - 40) _ (Or.inr ⟨h40, rfl, rfl⟩) rfl _ (fun m4 h4 => ⟨Or.inl rfl, hC _ _ _ _ (h4 _ (fun m5 h5 => ⟨Or.inr rfl, rfl, h5⟩))⟩))
      · have z3 := hk3.mp z3
        obtain ⟨w, e9, hw, hwv⟩ := hkn z3
        have z9 := jLE z9 e9 rfl
        have hv : w = tV b n j := by omega
        refine hC _ _ _ _ (t_isCounted hP l62 hb.2.2.2.2.1 (fun hc m1 f1 a1 a2 => ⟨fun y => absurd rfl y, fun _ => ⟨Or.inl rfl, rfl, rs.2.2 (Or.inr ⟨z3, by omega⟩) hc m1 f1 a1 a2⟩⟩) (fun hc => ⟨fun _ => ⟨fun _ => ⟨fun _ => ?_, fun y => absurd (by decide) y⟩, fun y => absurd (by decide) y⟩, fun y => absurd y (by decide)⟩))
        exact hC _ _ _ _ (grow h5 (by omega) hc 0 (tV b n j) _ (Or.inl ⟨z3, rfl, rfl, by omega⟩) (by rw [← hv]; exact e9) _ (fun m4 h4 => ⟨Or.inl rfl, hC _ _ _ _ (h4 _ (fun m5 h5 => ⟨Or.inr rfl, rfl, h5⟩))⟩))
      · have z3 := hk3.mp z3
        obtain ⟨w, e9, hw, hwv⟩ := hkn z3
        have z9 := jNLE z9 e9 rfl
        exact hC _ _ _ _ (t_wrg hP (fun m1 f1 a1 a2 => ⟨Or.inl rfl, rfl, rs.2.1 z3 (by omega) m1 f1 a1 a2⟩))
      · exact hC _ _ _ _ (t_wrg hP (fun m1 f1 a1 a2 => ⟨Or.inl rfl, rfl, rs.1 h40 (fun q => z3 (hk3.mpr q)) m1 f1 a1 a2⟩))
    · have z : ¬ mi 95 64 = 0 := z
      rw [l64] at z
      have H39 : ¬ 3 < rkN (W.headD 0) := fun e => by
        rw [if_neg (by omega)] at z; exact z rfl
      refine hC _ _ _ _ (t_isCounted hP l62 hb.2.2.2.2.1 (fun hc m1 f1 a1 a2 => ⟨fun y => absurd rfl y, fun _ => ⟨Or.inl rfl, rfl, hQ.er (e := (2, psN b n j)) (by rw [if_neg h5, if_pos h39, if_neg H39, if_pos hc]) m1 f1 a1 a2⟩⟩) (fun hc => ⟨fun _ => ?_, fun y => absurd y (by decide)⟩))
      have eok := VR.fin (d := d) (m := cu (cu (cu mi 95 (upd (mi 95) 62 (nI (c + 1)))) 119 (upd (mi 119) W.length (nI 2))) 95 (upd (upd (mi 95) 62 (nI (c + 1))) 59 (nI (W.length + 1)))) (T' := T) (c' := c + 1) (o' := op) (q' := true) (W' := 39 :: W) hE hQ (by rw [if_neg h5, if_pos h39, if_neg H39, if_neg (by omega)]) (((WG.none.cu rfl).cu rfl).cu rfl) (hX.mv2 h18 (fun k h1 h2 => by
        show upd (upd (mi 95) 62 _) 59 _ k = _
        rw [pk_un (by omega), pk_un (by omega)]) (fun c _ _ => by rw [cu_ne (by omega), cu_ne (by omega), cu_ne (by omega)])) ⟨rfl, l60, l61, rfl, l63, (fun _ => (show mi 95 64 = nI 1 by rw [l64, if_pos (by omega)])), ⟨(by
          rw [List.length_map]; exact pk_us), l119.upd (by rw [List.length_map]; exact Nat.le_refl _)⟩, l120⟩ (hP.mv rfl rfl rfl rfl)
      exact hC _ _ _ _ (t_waitsFor (mi := cu mi 95 (upd (mi 95) 62 (nI (c + 1)))) l59 (by omega) (hC _ _ _ _ (eok _ (fun m5 h5 => ⟨Or.inr rfl, rfl, h5⟩))))
    · have H39 : tK b n j = 39 → 3 < rkN (W.headD 0) := fun q => absurd q h39
      have rs := rest h5 H39
      refine hC _ _ _ _ (t_nameMet hP (fun h40 => ⟨fun _ => ⟨fun _ => ?_, fun y => absurd (nI_0le (by omega)) y⟩, fun y => absurd (nI_0le (by omega)) y⟩) (fun h40 => ⟨fun y => absurd y (by decide), fun _ => ⟨fun z3 => ⟨fun y => absurd y (by decide), fun _ => ⟨fun z9 => ?_, fun z9 => ?_⟩⟩, fun z3 => ?_⟩⟩))
      · refine hC _ _ _ _ (t_isCounted hP l62 hb.2.2.2.2.1 (fun hc m1 f1 a1 a2 => ⟨fun y => absurd rfl y, fun _ => ⟨Or.inl rfl, rfl, rs.2.2 (Or.inl h40) hc m1 f1 a1 a2⟩⟩) (fun hc => ⟨fun _ => ⟨fun y => absurd y (nI_nl0 (by omega)), fun _ => ⟨fun y => absurd y (nI_nl0 (by omega)), fun _ => ?_⟩⟩, fun y => absurd y (by decide)⟩))
        exact hC _ _ _ _ (grow h5 (by omega) hc 1 (tK b n j - 40) _ (Or.inr ⟨h40, rfl, rfl⟩) rfl _ (fun m4 h4 => ⟨Or.inl rfl, hC _ _ _ _ (h4 _ (fun m5 h5 => ⟨Or.inr rfl, rfl, h5⟩))⟩))
      · have z3 := hk3.mp z3
        obtain ⟨w, e9, hw, hwv⟩ := hkn z3
        have z9 := jLE z9 e9 rfl
        have hv : w = tV b n j := by omega
        refine hC _ _ _ _ (t_isCounted hP l62 hb.2.2.2.2.1 (fun hc m1 f1 a1 a2 => ⟨fun y => absurd rfl y, fun _ => ⟨Or.inl rfl, rfl, rs.2.2 (Or.inr ⟨z3, by omega⟩) hc m1 f1 a1 a2⟩⟩) (fun hc => ⟨fun _ => ⟨fun _ => ⟨fun _ => ?_, fun y => absurd (by decide) y⟩, fun y => absurd (by decide) y⟩, fun y => absurd y (by decide)⟩))
        exact hC _ _ _ _ (grow h5 (by omega) hc 0 (tV b n j) _ (Or.inl ⟨z3, rfl, rfl, by omega⟩) (by rw [← hv]; exact e9) _ (fun m4 h4 => ⟨Or.inl rfl, hC _ _ _ _ (h4 _ (fun m5 h5 => ⟨Or.inr rfl, rfl, h5⟩))⟩))
      · have z3 := hk3.mp z3
        obtain ⟨w, e9, hw, hwv⟩ := hkn z3
        have z9 := jNLE z9 e9 rfl
        exact hC _ _ _ _ (t_wrg hP (fun m1 f1 a1 a2 => ⟨Or.inl rfl, rfl, rs.2.1 z3 (by omega) m1 f1 a1 a2⟩))
      · exact hC _ _ _ _ (t_wrg hP (fun m1 f1 a1 a2 => ⟨Or.inl rfl, rfl, rs.1 h40 (fun q => z3 (hk3.mpr q)) m1 f1 a1 a2⟩))
end
