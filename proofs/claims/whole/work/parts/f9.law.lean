/-! THE REFERENCE READS: the law -/
theorem MX.kn1 {T : Nat → Nat → Nat} {mi m2 : Nat → Nat → Int32} (h : MX T mi) {kd x : Nat} {pv ov : Int32} (h95 : ∀ k, ((23 ≤ k ∧ k ≤ 35 ∧ k ≠ 33) ∨ k = 62) → m2 95 k = mi 95 k) (h33 : m2 95 33 = nI (T 0 9 + 1)) (hc : ∀ c, 98 ≤ c → c ≤ 115 → m2 c = mi c) (e116 : m2 116 = upd (mi 116) (64 + T 0 9) (nI kd)) (e117 : m2 117 = upd (mi 117) (64 + T 0 9) pv) (e118 : m2 118 = upd (mi 118) (64 + T 0 9) ov) (p1 : kd ≤ 1 → pv = nI x) (p2 : kd = 2 → pv = nI (nth 0 (hdN T (T 0 9)) 0)) (p3 : 3 ≤ kd → ov = nI (nth 0 (hdN T (T 0 9)) 0) ∧ pv = nI (nth 0 (hdN T (T 0 9)) 1)) : MX (aKn T kd x) m2 :=
  ⟨(h95 23 (by decide)).trans h.w,
  (h95 24 (by decide)).trans h.h,
  (h95 25 (by decide)).trans h.no,
  (h95 26 (by decide)).trans h.ns,
  (h95 27 (by decide)).trans h.ng,
  (h95 28 (by decide)).trans h.nw,
  (h95 29 (by decide)).trans h.nh,
  (h95 30 (by decide)).trans h.nc,
  (h95 31 (by decide)).trans h.nsg,
  (h95 32 (by decide)).trans h.nl,
  h33,
  (h95 34 (by decide)).trans h.pt,
  (h95 35 (by decide)).trans h.ls,
  by rw [hc 98 (by decide) (by decide)]; exact h.pu,
  by rw [hc 98 (by decide) (by decide)]; exact h.se,
  by rw [hc 98 (by decide) (by decide)]; exact h.ra,
  by rw [hc 99 (by decide) (by decide)]; exact h.o0,
  by rw [hc 99 (by decide) (by decide)]; exact h.o1,
  by rw [hc 99 (by decide) (by decide)]; exact h.o2,
  fun i hi => by rw [hc 100 (by decide) (by decide)]; exact h.on i hi,
  fun i hi => by rw [hc 101 (by decide) (by decide)]; exact h.pr i hi,
  fun i hi => by rw [hc 102 (by decide) (by decide)]; exact h.cud i hi,
  fun i hi => by rw [hc 103 (by decide) (by decide)]; exact h.ow i hi,
  fun i hi => by rw [hc 104 (by decide) (by decide)]; exact h.gl i hi,
  fun i hi => by rw [hc 105 (by decide) (by decide)]; exact h.gs i hi,
  fun i hi => by rw [hc 106 (by decide) (by decide)]; exact h.wn i hi,
  fun i hi => by rw [hc 107 (by decide) (by decide)]; exact h.ww i hi,
  fun i hi => by rw [hc 108 (by decide) (by decide)]; exact h.hn i hi,
  fun i hi => by rw [hc 109 (by decide) (by decide)]; exact h.sg i hi,
  fun i hi => by rw [hc 110 (by decide) (by decide)]; exact h.cn i hi,
  fun i hi => by rw [hc 111 (by decide) (by decide)]; exact h.cm i hi,
  fun i hi => by rw [hc 112 (by decide) (by decide)]; exact h.sn i hi,
  fun i hi => by rw [hc 113 (by decide) (by decide)]; exact h.sl i hi,
  fun i hi k hk => by rw [hc 114 (by decide) (by decide)]; exact h.sr i hi k hk,
  fun i hi => by rw [hc 115 (by decide) (by decide)]; exact h.lk i hi,
  fun q => (h95 62 (by decide)).trans (h.ct q),
  fun i hi => by
    have hi : i < T 0 9 + 1 := hi
    show m2 116 _ = nI (if i = T 0 9 then kd else T 17 i)
    rw [e116]
    by_cases e : i = T 0 9
    · rw [if_pos e, e, pk_us]
    · rw [if_neg e, pk_un (by omega)]; exact h.kk i (by omega),
  fun i hi h1 => by
    have hi : i < T 0 9 + 1 := hi
    have h1 : (if i = T 0 9 then kd else T 17 i) ≤ 1 := h1
    show m2 117 _ = nI (if i = T 0 9 then x else T 18 i)
    rw [e117]
    by_cases e : i = T 0 9
    · rw [if_pos e] at h1
      rw [if_pos e, e, pk_us]
      exact p1 h1
    · rw [if_neg e] at h1
      rw [if_neg e, pk_un (by omega)]; exact h.kn i (by omega) h1,
  fun i hi => by
    have hi : i < T 0 9 + 1 := hi
    show ((if i = T 0 9 then kd else T 17 i) = 2 → m2 117 _ = _) ∧ (3 ≤ (if i = T 0 9 then kd else T 17 i) → m2 118 _ = _ ∧ m2 117 _ = _)
    rw [hd_17 (T := T) (T' := aKn T kd x) i (fun a ha => by rw [kn_17, if_neg (by omega)]), e117, e118]
    by_cases e : i = T 0 9
    · rw [if_pos e, e, pk_us, pk_us]
      exact ⟨p2, p3⟩
    · rw [if_neg e, pk_un (by omega), pk_un (by omega)]; exact h.kp i (by omega)⟩
/-- the reference's number of a waiting sign -/
def wk (a : Nat) : Nat := if a = 5 then 0 else kpN a
def rkM (k : Nat) : Nat := if 13 ≤ k then 6 else if 11 ≤ k then 5 else if 5 ≤ k then 4 else if k = 2 then 3 else if k = 3 then 2 else if k = 4 then 1 else 0
theorem rk_wk : ∀ a, a ≤ 39 → (a = 5 ∨ 1 ≤ rkN a) → rkM (wk a) = rkN a ∧ wk a ≤ 14 ∧ rkN a ≤ 6 := by decide +kernel
theorem hd_len {T : Nat → Nat → Nat} (h : knOK T) : ∀ i, i ≤ T 0 9 → (hdN T i).length = dpN T i
  | 0, _ => rfl
  | i + 1, hi => by
    have ih := hd_len h i (by omega)
    have hk := h i (by omega)
    rw [hdN, dpN, List.length_cons]
    by_cases c1 : T 17 i ≤ 1
    · rw [if_pos c1, if_pos c1, ih]
    · rw [if_neg c1, if_neg c1]
      by_cases c2 : T 17 i = 2
      · have := hk.2.2.2.1 c2
        rw [if_pos c2, if_pos c2, List.length_tail, ih]
        omega
      · have := hk.2.2.2.2 (by omega)
        rw [if_neg c2, if_neg c2, List.length_tail, List.length_tail, ih]
        omega
/-- the reference as it reads the law -/
def LM (T : Nat → Nat → Nat) (c o : Nat) (q : Bool) (W : List Nat) (mi : Nat → Nat → Int32) : Prop := mi 95 59 = nI W.length ∧ mi 95 60 = nI (hdN T (T 0 9)).length ∧ mi 95 61 = nI o ∧ mi 95 62 = nI c ∧ mi 95 63 = nI q.toNat ∧ (q = true → mi 95 64 = nI (if rkN (W.headD 0) ≤ 3 then 1 else 0)) ∧ WS (W.map wk) (mi 119) ∧ WS (hdN T (T 0 9)) (mi 120)
theorem LM.mv {T : Nat → Nat → Nat} {c o : Nat} {q : Bool} {W : List Nat} {mi mi' : Nat → Nat → Int32} (h : LM T c o q W mi) (h95 : ∀ k, 59 ≤ k → k ≤ 64 → mi' 95 k = mi 95 k) (h119 : mi' 119 = mi 119) (h120 : mi' 120 = mi 120) : LM T c o q W mi' := by
  unfold LM at h ⊢
  rw [h95 59 (by decide) (by decide), h95 60 (by decide) (by decide), h95 61 (by decide) (by decide), h95 62 (by decide) (by decide), h95 63 (by decide) (by decide), h95 64 (by decide) (by decide), h119, h120]
  exact h
theorem F4.lm {T : Nat → Nat → Nat} {c o : Nat} {q : Bool} {W : List Nat} {mi mi' : Nat → Nat → Int32} (h : F4 mi mi') (hL : LM T c o q W mi) : LM T c o q W mi' := hL.mv (fun k h1 h2 => h 95 k (Or.inr (f4_hi (by omega)))) (h.c (by decide)) (h.c (by decide))
theorem LI.b {T : Nat → Nat → Nat} {c o : Nat} {q : Bool} {W : List Nat} (h : LI T c o q W) : W.length ≤ 72 ∧ T 0 9 ≤ 64 ∧ (hdN T (T 0 9)).length ≤ 64 ∧ (hdN T (T 0 9)).length = binN W + (if q then 0 else 1) ∧ c ≤ 64 ∧ o ≤ 8 := by
  have h1 := LZ.len h
  have h2 := h.2.2.2.1
  have h3 := h.2.2.2.2.1
  have h4 := hd_len h.2.2.2.2.2.2 (T 0 9) (Nat.le_refl _)
  have h5 := dpN_le T (T 0 9)
  refine ⟨by omega, by omega, by omega, ?_, h3, h.2.2.1⟩
  rw [h4]
  exact h.2.2.2.2.2.1
section
variable {d : Nat} {Q : Option Value → Mm → Prop} {b : Nat → Nat} {n j c op : Nat} {q : Bool} {W : List Nat} {T : Nat → Nat → Nat} {mi : Nat → Nat → Int32} {ml : Nat → Nat → Int64} {rd : Option Nat}
theorem t_rank {a : Nat} {x : Int32} (hx : x = nI a) (ha : a ≤ 14) (hQ : Q (some (.int (nI (rkM a)))) (mi, ml, R0 rd, 136)) : Cd (d + 1) k_Mod_rank [.int x] (mi, ml, R0 rd, 136) Q := by
  subst hx
  unfold rkM at hQ
  refine r_Mod_rank (by decide) (fun K Kl hK hC => ⟨fun z => ⟨fun z2 => ⟨fun z3 => ⟨fun z4 => ⟨fun z5 => ⟨fun z6 => ⟨rfl, ?_⟩, fun z6 => ⟨rfl, ?_⟩⟩, fun z5 => ⟨rfl, ?_⟩⟩, fun z4 => ⟨rfl, ?_⟩⟩, fun z3 => ⟨rfl, ?_⟩⟩, fun z2 => ⟨rfl, ?_⟩⟩, fun z => ⟨rfl, ?_⟩⟩)
  · have z := iLT z; have z2 := iLT z2; have z3 := iLT z3; have z4 := iNE z4; have z5 := iNE z5; have z6 := iNE z6
    rw [if_neg (by omega), if_neg (by omega), if_neg (by omega), if_neg z4, if_neg z5, if_neg z6] at hQ
    exact hQ
  · have z6 := iEQ z6
    subst z6
    exact hQ
  · have z5 := iEQ z5
    subst z5
    exact hQ
  · have z4 := iEQ z4
    subst z4
    exact hQ
  · have z2 := iLT z2; have z3 := iNLT z3
    rw [if_neg (by omega), if_neg (by omega), if_pos (by omega)] at hQ
    exact hQ
  · have z := iLT z; have z2 := iNLT z2
    rw [if_neg (by omega), if_pos (by omega)] at hQ
    exact hQ
  · have z := iNLT z
    rw [if_pos (by omega)] at hQ
    exact hQ
theorem t_grown {kd x L : Nat} {pv ov : Int32} (hX : MX T mi) (hn : T 0 9 < 64) (eL : mi 95 60 = nI L) (hL : L < 96) (p1 : kd ≤ 1 → pv = nI x) (p2 : kd = 2 → pv = nI (nth 0 (hdN T (T 0 9)) 0)) (p3 : 3 ≤ kd → ov = nI (nth 0 (hdN T (T 0 9)) 0) ∧ pv = nI (nth 0 (hdN T (T 0 9)) 1)) (hQ : ∀ mi', WG mi mi' → MX (aKn T kd x) mi' → (∀ k, k ≠ 33 → k ≠ 60 → mi' 95 k = mi 95 k) → mi' 119 = mi 119 → mi' 95 60 = nI (L + 1) → mi' 120 = upd (mi 120) L (nI (T 0 9)) → Q none (mi', ml, R0 rd, 136)) : Cd (d + 1) k_Mod_grown [.ref 95, .int (nI kd), .int pv, .int ov] (mi, ml, R0 rd, 136) Q := by
  have e33 : mi 95 33 = nI (T 0 9) := hX.nk
  have ix : nI 64 + mi 95 33 = nI (64 + T 0 9) := by rw [e33, nI_add]
  have hth : ∀ c, 98 ≤ c → c ≤ 118 → thD c ≤ 64 := by
    have : ∀ c, c < 119 → 98 ≤ c → thD c ≤ 64 := by decide
    intro c h1 h2
    exact this c (by omega) h1
  have wb : ∀ c, 98 ≤ c → c ≤ 118 → wB c (64 + T 0 9) = true := fun c h1 h2 => wB_hi h1 h2 (by have := hth c h1 h2; omega)
  have w120 : ∀ k, wB 120 k = true := fun k => rfl
  refine r_Mod_grown (by decide) (fun K Kl hK hC => ⟨64 + T 0 9, by omega, ix, ⟨64 + T 0 9, by omega, ix, ⟨64 + T 0 9, by omega, ix, ⟨L, by omega, eL, ⟨rfl, ?_⟩⟩⟩⟩⟩)
  refine hQ _ ((((((WG.none.cu (wb 116 (by decide) (by decide))).cu (wb 117 (by decide) (by decide))).cu (wb 118 (by decide) (by decide))).cu (w120 _)).cu rfl).cu rfl) (hX.kn1 (kd := kd) (x := x) (pv := pv) (ov := ov) (fun k hk => ?_) ?_ (fun c h1 h2 => ?_) rfl rfl rfl p1 p2 p3) (fun k h1 h2 => ?_) rfl ?_ ?_
  · show upd (upd (mi 95) 60 (mi 95 60 + nI 1)) 33 (mi 95 33 + nI 1) k = _
    rw [pk_un (by omega), pk_un (by omega)]
  · show mi 95 33 + nI 1 = _
    rw [e33, nI_add]
  · rw [cu_ne (by omega), cu_ne (by omega), cu_ne (by omega), cu_ne (by omega), cu_ne (by omega), cu_ne (by omega)]
  · show upd (upd (mi 95) 60 (mi 95 60 + nI 1)) 33 (mi 95 33 + nI 1) k = _
    rw [pk_un h1, pk_un h2]
  · show mi 95 60 + nI 1 = _
    rw [eL, nI_add]
  · show upd (mi 120) L (mi 95 33) = _
    rw [e33]
theorem t_drop {L a : Nat} (e : mi 95 60 = nI (L + 1)) (ea : mi 120 L = nI a) (hL : L < 96) (hQ : Q (some (.int (nI a))) (cu mi 95 (upd (mi 95) 60 (nI L)), ml, R0 rd, 136)) : Cd (d + 1) k_Mod_dropHeld [.ref 95] (mi, ml, R0 rd, 136) Q := by
  have e1 : mi 95 60 - nI 1 = nI L := by rw [e]; exact nI_pred L
  rw [← ea, ← e1] at hQ
  exact r_Mod_dropHeld (by decide) (fun K Kl hK hC => ⟨L, by omega, e1, ⟨rfl, hQ⟩⟩)
set_option maxHeartbeats 2000000 in
theorem bindLp {r : Nat} (hr : 1 ≤ r) (hr6 : r ≤ 6) : ∀ (W : List Nat) (T : Nat → Nat → Nat) (mi : Nat → Nat → Int32), MX T mi → LM T c op false W mi → LI T c op false W → (∀ mi', WG mi mi' → (∀ k, 7 ≤ k → k ≤ 10 → mi' 95 k = mi 95 k) → MX (stlN r W T).2 mi' → LM (stlN r W T).2 c op false (stlN r W T).1 mi' → Q none (mi', ml, R0 rd, 136)) → ∀ v2 v3 v4, GoM (d + 1) k_Mod_bind 136 Q 0 [.ref 95, .int (nI r), v2, v3, v4] [] (mi, ml, R0 rd, 136) := by
  intro W
  induction W with
  | nil =>
    intro T mi hX hL hI hQ v2 v3 v4
    refine g_Mod_bind (fun K Kl hK hC => ⟨fun _ => ⟨rfl, hQ mi WG.none (fun _ _ _ => rfl) hX hL⟩, fun z => ?_⟩)
    have z : ¬ mi 95 59 ≤ 0 := z
    rw [hL.1] at z
    exact absurd (by decide) z
  | cons a W ih =>
    intro T mi hX hL hI hQ v2 v3 v4
    have hb := hI.b
    have e59 : mi 95 59 = nI (W.length + 1) := hL.1
    have e591 : mi 95 59 - nI 1 = nI W.length := by rw [e59]; exact nI_pred _
    have eW : mi 119 W.length = nI (wk a) := by
      have := hL.2.2.2.2.2.2.1.1
      rw [List.length_map] at this
      exact this
    have hW72 : W.length < 72 := by
      have : (a :: W).length = W.length + 1 := rfl
      omega
    have hai := hI.1 a List.mem_cons_self
    have ha39 : a ≤ 39 := hai.elim (fun e => by omega) (fun e => e.2)
    have hrw := rk_wk a ha39 (hai.elim Or.inl (fun e => Or.inr e.1))
    refine g_Mod_bind (fun K Kl hK hC => ⟨fun z => ?_, fun _ => ⟨W.length, by omega, e591, hC _ _ _ _ (t_rank eW hrw.2.1 ⟨fun z => ⟨rfl, ?_⟩, fun z => ?_⟩)⟩⟩)
    · have z : mi 95 59 ≤ 0 := z
      rw [e59] at z
      exact absurd z (nI_nle (by omega) (by omega))
    · rw [hrw.1] at z
      have z := iLT z
      have e : stlN r (a :: W) T = (a :: W, T) := if_neg (by omega)
      rw [e] at hQ
      exact hQ mi WG.none (fun _ _ _ => rfl) hX hL
    · rw [hrw.1] at z
      have z := iNLT z
      have e : stlN r (a :: W) T = stlN r W (aKn T (kpN a) 0) := if_pos (by omega)
      rw [e] at hQ
      have hpop := LI.pop hI (show 1 ≤ rkN a by omega)
      have hk := kp_kc a ha39 (by omega)
      have ea5 : wk a = kpN a := by unfold wk; rw [if_neg hk.2.2.2.2.1]
      rw [ea5] at eW
      have hbin : binN (a :: W) = (if a = 5 ∨ a = 39 then 0 else 1) + binN W := rfl
      have hln := hb.2.2.2.1
      have hln : (hdN T (T 0 9)).length = binN (a :: W) + 1 := hln
      have hX1 : MX T (cu mi 95 (upd (mi 95) 59 (mi 95 59 - nI 1))) := hX.mv (fun k hk => pk_un (by omega)) (fun c _ _ => cu_ne (by omega))
      have w1 : WG mi (cu mi 95 (upd (mi 95) 59 (mi 95 59 - nI 1))) := WG.none.cu rfl
      have hws := hL.2.2.2.2.2.2.2
      have fin : ∀ (kd : Nat), kd = kpN a → ∀ m3 pv ov L, WG mi m3 → MX T m3 → (∀ k, k ≠ 59 → k ≠ 60 → m3 95 k = mi 95 k) → m3 95 59 = nI W.length → m3 119 = mi 119 → m3 120 = mi 120 → m3 95 60 = nI L → L + 1 = (hdN (aKn T kd 0) (T 0 9 + 1)).length → WS (hdN (aKn T kd 0) (T 0 9 + 1)).tail (mi 120) → (kd ≤ 1 → pv = nI 0) → (kd = 2 → pv = nI (nth 0 (hdN T (T 0 9)) 0)) → (3 ≤ kd → ov = nI (nth 0 (hdN T (T 0 9)) 0) ∧ pv = nI (nth 0 (hdN T (T 0 9)) 1)) → ∀ x2, x2 = nI kd → ∀ (K : Nat → List Value → List Value → Mm → Prop) (Kl : Nat → List Value → Mm → (Option Value → Mm → Prop) → Prop), (∀ t ls st M, GoM (d + 1) k_Mod_bind 136 Q t ls st M → K t ls st M) → (∀ k as M P, Cd (d + 1) k as M P → Kl k as M P) → ∀ P : Option Value → Mm → Prop, (∀ m4, (∀ v2 v3 v4, GoM (d + 1) k_Mod_bind 136 Q 0 [.ref 95, .int (nI r), v2, v3, v4] [] (m4, ml, R0 rd, 136)) → P none (m4, ml, R0 rd, 136)) → Kl k_Mod_grown [.ref 95, .int x2, .int pv, .int ov] (m3, ml, R0 rd, 136) P := by
        intro kd ekd m3 pv ov L w3 X3 f95 f59 f119 f120 f60 hLl hwst p1 p2 p3 x2 ex2 K Kl hK hC P hP
        subst ex2
        have hLb : L < 64 := by
          have hp2 := hpop.1.b
          have : aKn T (kpN a) 0 0 9 = T 0 9 + 1 := rfl
          rw [this, ← ekd] at hp2
          omega
        refine hC _ _ _ _ (t_grown (kd := kd) (x := 0) (L := L) X3 hpop.2 f60 (by omega) p1 p2 p3 (fun m4 w4 X4 g95 g119 g60 g120 => hP m4 (fun v2 v3 v4 => ?_)))
        rw [ekd] at X4 hLl hwst
        refine ih (aKn T (kpN a) 0) m4 X4 ⟨?_, ?_, ?_, ?_, ?_, (fun q => by cases q), ?_, ?_⟩ hpop.1 (fun m5 w5 t5 X5 L5 => hQ m5 ((w3.trans w4).trans w5) (fun k h1 h2 => by rw [t5 k h1 h2, g95 k (by omega) (by omega), f95 k (by omega) (by omega)]) X5 L5) v2 v3 v4
        · rw [g95 59 (by decide) (by decide)]; exact f59
        · rw [g60, hLl]; rfl
        · rw [g95 61 (by decide) (by decide), f95 61 (by decide) (by decide)]; exact hL.2.2.1
        · rw [g95 62 (by decide) (by decide), f95 62 (by decide) (by decide)]; exact hL.2.2.2.1
        · rw [g95 63 (by decide) (by decide), f95 63 (by decide) (by decide)]; exact hL.2.2.2.2.1
        · rw [g119, f119]; exact hL.2.2.2.2.2.2.1.2
        · rw [g120, f120]
          have eh : hdN (aKn T (kpN a) 0) (T 0 9 + 1) = T 0 9 :: (hdN (aKn T (kpN a) 0) (T 0 9 + 1)).tail := by rw [hdN]; rfl
          show WS (hdN (aKn T (kpN a) 0) (T 0 9 + 1)) _
          rw [eh] at hLl ⊢
          rw [List.length_cons] at hLl
          refine ⟨?_, hwst.upd (by omega)⟩
          rw [show (hdN (aKn T (kpN a) 0) (T 0 9 + 1)).tail.length = L by omega, pk_us]
      have hcg : hdN (aKn T (kpN a) 0) (T 0 9) = hdN T (T 0 9) := hd_17 _ (fun i hi => by rw [kn_17, if_neg (by omega)])
      have hst : aKn T (kpN a) 0 17 (T 0 9) = kpN a := by rw [kn_17, if_pos rfl]
      refine ⟨W.length, by omega, e591, ⟨fun z2 => ?_, fun z2 => ?_⟩⟩
      · have z2 : ¬ mi 119 W.length = nI 2 := z2
        rw [eW] at z2
        have z2 := iNE z2
        have h39 : a ≠ 39 := fun q => z2 (hk.2.2.2.1.mpr q)
        rw [if_neg (by rintro (q | q); exact hk.2.2.2.2.1 q; exact h39 q)] at hbin
        obtain ⟨h0, r0, e0⟩ : ∃ h0 r0, hdN T (T 0 9) = h0 :: r0 := by
          cases hh : hdN T (T 0 9) with
          | nil => rw [hh] at hln; simp at hln
          | cons x y => exact ⟨x, y, rfl⟩
        obtain ⟨h1, r1, e1⟩ : ∃ h1 r1, r0 = h1 :: r1 := by
          cases hh : r0 with
          | nil => rw [e0, hh] at hln; simp at hln; omega
          | cons x y => exact ⟨x, y, rfl⟩
        subst e1
        rw [e0] at hws hln
        obtain ⟨s0, s1, s2⟩ := hws
        have hl1 : r1.length + 2 ≤ 64 := by have := hb.2.2.1; rw [e0] at this; simpa using this
        have e60 : mi 95 60 = nI (r1.length + 1 + 1) := by rw [hL.2.1, e0]; rfl
        refine hC _ _ _ _ (t_drop (L := r1.length + 1) (a := h0) e60 s0 (by omega) (hC _ _ _ _ (t_drop (L := r1.length) (a := h1) rfl s1 (by omega) ?_)))
        have ehd : hdN (aKn T (kpN a) 0) (T 0 9 + 1) = T 0 9 :: r1 := by
          rw [hdN, hst, if_neg (by omega), if_neg z2, hcg, e0]
          rfl
        refine fin (kpN a) rfl (cu (cu (cu mi 95 (upd (mi 95) 59 (mi 95 59 - nI 1))) 95 (upd (upd (mi 95) 59 (mi 95 59 - nI 1)) 60 (nI (r1.length + 1)))) 95 (upd (upd (upd (mi 95) 59 (mi 95 59 - nI 1)) 60 (nI (r1.length + 1))) 60 (nI r1.length))) (nI h1) (nI h0) r1.length ((w1.cu rfl).cu rfl) (hX.mv (fun k hk => by
          show upd (upd (upd (mi 95) 59 _) 60 _) 60 _ k = mi 95 k
          rw [pk_un (by omega), pk_un (by omega), pk_un (by omega)]) (fun c _ _ => by rw [cu_ne (by omega), cu_ne (by omega), cu_ne (by omega)])) (fun k h1 h2 => ?_) e591 rfl rfl rfl (by rw [ehd]; rfl) (by rw [ehd]; exact s2) (fun q => by omega) (fun q => absurd q z2) (fun _ => by rw [e0]; exact ⟨rfl, rfl⟩) _ eW K Kl hK hC _ (fun m4 hg => hK _ _ _ _ (hg _ _ _))
        show upd (upd (upd (mi 95) 59 (mi 95 59 - nI 1)) 60 _) 60 _ k = _
        rw [pk_un h2, pk_un h2, pk_un h1]
      · have z2 : mi 119 W.length = nI 2 := z2
        rw [eW] at z2
        have z2 : kpN a = 2 := iEQ z2
        have h39 : a = 39 := hk.2.2.2.1.mp z2
        rw [if_pos (Or.inr h39)] at hbin
        obtain ⟨h0, r0, e0⟩ : ∃ h0 r0, hdN T (T 0 9) = h0 :: r0 := by
          cases hh : hdN T (T 0 9) with
          | nil => rw [hh] at hln; simp at hln
          | cons x y => exact ⟨x, y, rfl⟩
        rw [e0] at hws hln
        obtain ⟨s0, s1⟩ := hws
        have hl1 : r0.length + 1 ≤ 64 := by have := hb.2.2.1; rw [e0] at this; simpa using this
        have e60 : mi 95 60 = nI (r0.length + 1) := by rw [hL.2.1, e0]; rfl
        refine hC _ _ _ _ (t_drop (L := r0.length) (a := h0) e60 s0 (by omega) ?_)
        have ehd : hdN (aKn T (kpN a) 0) (T 0 9 + 1) = T 0 9 :: r0 := by
          rw [hdN, hst, if_neg (by omega), if_pos z2, hcg, e0]
          rfl
        refine fin (kpN a) rfl (cu (cu mi 95 (upd (mi 95) 59 (mi 95 59 - nI 1))) 95 (upd (upd (mi 95) 59 (mi 95 59 - nI 1)) 60 (nI r0.length))) (nI h0) (-1) r0.length (w1.cu rfl) (hX.mv (fun k hk => by
          show upd (upd (mi 95) 59 _) 60 _ k = mi 95 k
          rw [pk_un (by omega), pk_un (by omega)]) (fun c _ _ => by rw [cu_ne (by omega), cu_ne (by omega)])) (fun k h1 h2 => ?_) e591 rfl rfl rfl (by rw [ehd]; rfl) (by rw [ehd]; exact s1) (fun q => by omega) (fun _ => by rw [e0]; rfl) (fun q => by omega) _ eW K Kl hK hC _ (fun m4 hg => hK _ _ _ _ (hg _ _ _))
        show upd (upd (mi 95) 59 (mi 95 59 - nI 1)) 60 _ k = _
        rw [pk_un h2, pk_un h1]
theorem t_bind {r : Nat} {Y : Int32} (hY : Y = nI r) (hr : 1 ≤ r) (hr6 : r ≤ 6) (hX : MX T mi) (hL : LM T c op false W mi) (hI : LI T c op false W) (hQ : ∀ mi', WG mi mi' → (∀ k, 7 ≤ k → k ≤ 10 → mi' 95 k = mi 95 k) → MX (stlN r W T).2 mi' → LM (stlN r W T).2 c op false (stlN r W T).1 mi' → Q none (mi', ml, R0 rd, 136)) : Cd (d + 2) k_Mod_bind [.ref 95, .int Y] (mi, ml, R0 rd, 136) Q := by
  subst hY
  exact cdM (by decide) (Nat.le_of_ble_eq_true rfl) (Nat.le_refl 136) rfl (bindLp hr hr6 W T mi hX hL hI hQ .null .null .null)
end
