/-! THE REFERENCE READS: strips, signs -/
section
variable {d : Nat} {Q : Option Value → Mm → Prop} {b : Nat → Nat} {n j : Nat} {T : Nat → Nat → Nat} {mi : Nat → Nat → Int32} {ml : Nat → Nat → Int64} {rd : Option Nat}
set_option maxHeartbeats 2000000 in
theorem t_stripLine (hE : TE b n mi) (hP : TP b n j mi) (hX : MX T mi) (hT : tOK T) (hv : ∀ j, tK b n j = 2 → nmOK (tV b n j)) (hQ : RQ b n rd mi ml Q (if T 0 13 = 9 then .error (2, psN b n j) else pStrip (tK b n) (tV b n) (psN b n) T (j + 1))) : Cd (d + 4) k_Mod_stripLine [.ref 95] (mi, ml, R0 rd, 136) Q := by
  have h5 := hT.1.own5
  have h13 := hT.2.2.2.2.1
  have w1 := hT.1.w1; have w8 := hT.1.w8; have g1 := hT.1.h1; have g6 := hT.1.h6
  have hfl := hT.1.fl
  refine r_Mod_stripLine (by decide) (fun K Kl hK hC => ⟨fun z => hC _ _ _ _ (t_tok hE hP (fun m1 f1 P1 => ?_)), fun z => hC _ _ _ _ (t_wrg hP (fun m1 f1 a c => ⟨Or.inl rfl, rfl, hQ.er (if_pos (jEQ z hX.ns rfl)) m1 f1 a c⟩))⟩)
  have z := jNE z hX.ns rfl
  rw [if_neg z] at hQ
  unfold pStrip at hQ
  have X1 := f1.f5.mx hX
  refine hC _ _ _ _ (t_oldName (c := 100) (L := 10) (a := 5) (nm := T 1) (hE.f4 f1) P1 X1.no (by decide) (by omega) X1.on (fun i => (hT.1.nm 0 i).1) (fun q => (hv _ q).1) (fun e he m2 f2 a c => ⟨fun q => absurd (by decide) q, fun _ => ⟨Or.inl rfl, rfl, hQ.er (by rw [he]) m2 (f1.wf.trans f2) a c⟩⟩) (fun w he hw m2 f2 P2 g2 => ⟨fun _ => ?_, fun q => absurd q (by decide)⟩))
  rw [he] at hQ
  have X2 := f2.mx X1
  have wg2 := f1.wg.trans f2.wg
  have ew : ∀ m, MX T m → m 95 23 - nI 1 = nI (T 0 0 - 1) := fun m hm => by rw [hm.w, pk_sub w1]
  have eh : ∀ m, MX T m → m 95 24 - nI 1 = nI (T 0 1 - 1) := fun m hm => by rw [hm.h, pk_sub g1]
  refine hC _ _ _ _ (t_number (lo := 0) (hi := T 0 0 - 1) (hE.wf wg2.wf) P2 rfl (ew m2 X2) (by omega) (by omega) (fun e he3 m3 f3 a c => ⟨fun q => absurd (by decide) q, fun _ => ⟨Or.inl rfl, rfl, hQ.er (by simp only [he3]) m3 (wg2.wf.trans f3) a c⟩⟩) (fun x he3 m3 f3 P3 g3 => ⟨fun _ => ?_, fun q => absurd q (by decide)⟩))
  have bx := pNum_ok he3
  have X3 := f3.mx X2
  have wg3 := wg2.trans f3.wg
  refine hC _ _ _ _ (t_number (lo := 0) (hi := T 0 1 - 1) (hE.wf wg3.wf) P3 rfl (eh m3 X3) (by omega) (by omega) (fun e he4 m4 f4 a c => ⟨fun q => absurd (by decide) q, fun _ => ⟨Or.inl rfl, rfl, hQ.er (by simp only [he3, he4]) m4 (wg3.wf.trans f4) a c⟩⟩) (fun y he4 m4 f4 P4 g4 => ⟨fun _ => ?_, fun q => absurd q (by decide)⟩))
  have bY := pNum_ok he4
  have X4 := f4.mx X3
  have wg4 := wg3.trans f4.wg
  refine hC _ _ _ _ (t_number (lo := x) (hi := T 0 0 - 1) (hE.wf wg4.wf) P4 g3 (ew m4 X4) (by omega) (by omega) (fun e he5 m5 f5 a c => ⟨fun q => absurd (by decide) q, fun _ => ⟨Or.inl rfl, rfl, hQ.er (by simp only [he3, he4, he5]) m5 (wg4.wf.trans f5) a c⟩⟩) (fun x2 he5 m5 f5 P5 g5 => ⟨fun _ => ?_, fun q => absurd q (by decide)⟩))
  have bx2 := pNum_ok he5
  have X5 := f5.mx X4
  have wg5 := wg4.trans f5.wg
  refine hC _ _ _ _ (t_number (lo := y) (hi := T 0 1 - 1) (hE.wf wg5.wf) P5 g4 (eh m5 X5) (by omega) (by omega) (fun e he6 m6 f6 a c => ⟨fun q => absurd (by decide) q, fun _ => ⟨Or.inl rfl, rfl, hQ.er (by simp only [he3, he4, he5, he6]) m6 (wg5.wf.trans f6) a c⟩⟩) (fun y2 he6 m6 f6 P6 g6' => ⟨fun _ => hK _ _ _ _ ?_, fun q => absurd q (by decide)⟩))
  have by2 := pNum_ok he6
  have X6 := f6.mx X5
  have wg6 := wg5.trans f6.wg
  have hQ := hQ.ok (T' := aSt T w x y x2 y2) (j' := j + 1 + 5) (by simp only [he3, he4, he5, he6])
  rw [g2, g3, g4, g5]
  have e23 : m6 95 23 = nI (T 0 0) := X6.w
  have wg : ∀ g : Nat → Int32, (∀ i, i < 48 → g i = m6 103 i) → WG mi (cu m6 103 g) := fun g hg c k hk => by
    by_cases e : c = 103
    · subst e
      rw [cu_self]
      rcases Nat.lt_or_ge k 48 with q | q
      · rw [hg k q]; exact wg6 _ _ hk
      · rw [wB_hi (by decide) (by decide) (show 48 ≤ k from q)] at hk
        cases hk
    · rw [cu_ne e]; exact wg6 _ _ hk
  have inv : (Nat → Bool) → (Nat → Int32) → Prop := fun M g => (∀ f, f < 48 → g (48 + f) = nI (if M f then w + 1 else T 4 f) - 1) ∧ (∀ i, i < 48 → g i = m6 103 i)
  have outer : ∀ t, t ≤ y2 + 1 - y → ∀ g : Nat → Int32, ((∀ f, f < 48 → g (48 + f) = nI (if stM (T 0 0) x y x2 (y + t) x f then w + 1 else T 4 f) - 1) ∧ (∀ i, i < 48 → g i = m6 103 i)) → ∀ v6, GoM (d + 3) k_Mod_stripLine 136 Q 125 [.ref 95, .int (nI w), .int (nI x), .int (nI y), .int (nI x2), .int (nI (y + t)), v6] [] (cu m6 103 g, ml, R0 rd, 136) := by
    refine upto ?_ ?_
    · intro g hg v6
      rw [show y + (y2 + 1 - y) = y2 + 1 by omega] at hg ⊢
      refine g_Mod_stripLine (fun K Kl hK hC => ⟨fun _ => ⟨Or.inr rfl, rfl, ?_⟩, fun q => absurd (jNLT q g6' rfl) (by omega)⟩)
      refine hQ _ ((wg g hg.2).cu rfl) (X6.st1 (z := m6 95 26 + nI 1) ?_ g (fun f hf => ?_)) (P6.mv rfl rfl rfl rfl)
      · rw [X6.ns, nI_add]
      · rw [hg.1 f hf]
        have ea := aSt_eq (T := T) (w := w) (x := x) (y := y) (x2 := x2) (y2 := y2) (by omega)
        have ea := congrFun (congrFun ea 4) f
        have ea : (if stM (T 0 0) x y x2 (y2 + 1) x f then w + 1 else T 4 f) = (if (x ≤ f % T 0 0 ∧ f % T 0 0 ≤ x2) ∧ (y ≤ f / T 0 0 ∧ f / T 0 0 ≤ y2) then w + 1 else T 4 f) := ea
        rw [ea]
    · intro t ht ih g hg v6
      have inner : ∀ s, s ≤ x2 + 1 - x → ∀ g : Nat → Int32, ((∀ f, f < 48 → g (48 + f) = nI (if stM (T 0 0) x y x2 (y + t) (x + s) f then w + 1 else T 4 f) - 1) ∧ (∀ i, i < 48 → g i = m6 103 i)) → GoM (d + 3) k_Mod_stripLine 136 Q 137 [.ref 95, .int (nI w), .int (nI x), .int (nI y), .int (nI x2), .int (nI (y + t)), .int (nI (x + s))] [] (cu m6 103 g, ml, R0 rd, 136) := by
        refine upto ?_ ?_
        · intro g hg
          rw [show x + (x2 + 1 - x) = x2 + 1 by omega, stM_r (by omega)] at hg
          rw [show x + (x2 + 1 - x) = x2 + 1 by omega]
          have ih := ih g hg
          rw [← Nat.add_assoc, nI1 (y + t)] at ih
          exact g_Mod_stripLine (fun K Kl hK hC => ⟨fun _ => hK _ _ _ _ (ih _), fun q => absurd (iNLT q) (by omega)⟩)
        · intro s hs ih2 g hg
          have hin : (y + t) * T 0 0 + (x + s) < 48 := by
            have h1 : (y + t + 1) * T 0 0 ≤ T 0 1 * T 0 0 := Nat.mul_le_mul_right _ (by omega)
            rw [Nat.add_mul, Nat.one_mul, Nat.mul_comm (T 0 1)] at h1
            omega
          have ix : nI 48 + m6 95 23 * nI (y + t) + nI (x + s) = nI (48 + ((y + t) * T 0 0 + (x + s))) := by
            rw [e23, pk_mul, nI_add, nI_add, Nat.mul_comm (T 0 0)]
            congr 1
            omega
          have ih2 := ih2 (upd g (48 + ((y + t) * T 0 0 + (x + s))) (nI w)) ⟨fun f hf => ?_, fun i hi => by rw [pk_un (by omega)]; exact hg.2 i hi⟩
          · rw [← Nat.add_assoc, nI1 (x + s), ← cuu] at ih2
            exact g_Mod_stripLine (fun K Kl hK hC => ⟨fun q => absurd (iLT q) (by omega), fun _ => ⟨48 + ((y + t) * T 0 0 + (x + s)), by omega, ix, hK _ _ _ _ ih2⟩⟩)
          · rw [← Nat.add_assoc x s 1, ← stM_s (w := T 0 0) (x := x) (y := y) (x2 := x2) (Y := y + t) (X := x + s) (by omega) (by omega)]
            by_cases ef : f = (y + t) * T 0 0 + (x + s)
            · rw [ef, pk_us]
              rw [if_pos (by simp)]
              exact (nI_pred w).symm
            · rw [pk_un (by omega), hg.1 f hf]
              have : (f == (y + t) * T 0 0 + (x + s)) = false := beq_eq_false_iff_ne.mpr ef
              simp only [this, Bool.false_or]
      exact g_Mod_stripLine (fun K Kl hK hC => ⟨fun q => absurd (jLT q g6' rfl) (by omega), fun _ => hK _ _ _ _ (inner 0 (Nat.zero_le _) g hg)⟩)
  have o0 := outer 0 (Nat.zero_le _) (m6 103) ⟨fun f hf => by rw [Nat.add_zero, stM_0]; exact X6.ow f hf, fun _ _ => rfl⟩ .null
  rw [cu_id] at o0
  exact o0
set_option maxHeartbeats 2000000 in
theorem t_signLine (hE : TE b n mi) (hP : TP b n j mi) (hX : MX T mi) (hT : tOK T) (hv : ∀ j, tK b n j = 2 → nmOK (tV b n j)) (hQ : RQ b n rd mi ml Q (if T 0 7 = 5 then .error (2, psN b n j) else pSign (tK b n) (tV b n) (psN b n) T (j + 1))) : Cd (d + 4) k_Mod_signLine [.ref 95] (mi, ml, R0 rd, 136) Q := by
  have h5 := hT.1.sg5
  have h4 := hT.1.co4
  have hsl4 : ∀ i, i < T 0 7 → T 14 i ≤ 4 := fun i hi => (hT.1.sl i hi).2
  refine r_Mod_signLine (by decide) (fun K Kl hK hC => ⟨fun z => hC _ _ _ _ (t_tok hE hP (fun m1 f1 P1 => ?_)), fun z => hC _ _ _ _ (t_wrg hP (fun m1 f1 a c => ⟨Or.inl rfl, rfl, hQ.er (if_pos (jEQ z hX.nsg rfl)) m1 f1 a c⟩))⟩)
  have z := jNE z hX.nsg rfl
  rw [if_neg z] at hQ
  unfold pSign at hQ
  have X1 := f1.f5.mx hX
  have es : nI 5 + m1 95 31 = nI (5 + T 0 7) := by rw [X1.nsg, nI_add]
  refine hC _ _ _ _ (t_newName (c := 112) (L := 10) (a := 5) (nm := T 13) (hE.f4 f1) P1 X1.nsg (by decide) (by omega) X1.sn (fun i => (hT.1.nm 0 i).2.2.2.1) (fun q => (hv _ q).1) (fun e he m2 f2 a c => ⟨fun q => absurd (by decide) q, fun _ => ⟨Or.inl rfl, rfl, hQ.er (by rw [he]) m2 (f1.wf.trans f2) a c⟩⟩) (fun nm he m2 f2 P2 => ⟨fun _ => ?_, fun q => absurd q (by decide)⟩))
  rw [he] at hQ
  have X2 := f2.f5.mx (X1.t112 (x := nI nm))
  have w2 : WG mi m2 := (f1.wg.cu (wB_hi (by decide) (by decide) (show 5 ≤ 5 + T 0 7 by omega))).trans f2.wg
  have v112 : m2 112 (5 + T 0 7) = nI nm := by rw [f2.c (c := 112) (by decide), cu_self, pk_us]
  have lp : ∀ r l, l + r = 4 → ∀ (jj : Nat) (cs : Nat → Nat) (m : Nat → Nat → Int32), (l = 0 → tK b n jj = 2) → pCol (tK b n) (tV b n) (psN b n) T 4 (j + 1 + 1) 0 (fun _ => 0) = pCol (tK b n) (tV b n) (psN b n) T r jj l cs → WG mi m → MX T m → TP b n jj m → m 112 (5 + T 0 7) = nI nm → m 113 (5 + T 0 7) = nI l → (∀ k, k < l → m 114 (20 + (4 * T 0 7 + k)) = nI (cs k)) → GoM (d + 3) k_Mod_signLine 136 Q 64 [.ref 95, .int (nI 5 + m1 95 31)] [] (m, ml, R0 rd, 136) := by
    intro r
    induction r with
    | zero =>
      intro l hl jj cs m hl0 hp wm Xm Pm e112 e113 e114
      have hk2 := Pm.2.2.k8.2.2.1
      rw [hp] at hQ
      unfold pCol at hQ
      refine g_Mod_signLine (fun K Kl hK hC => ⟨fun q => ⟨Or.inr rfl, rfl, ?_⟩, fun q => ⟨5 + T 0 7, by omega, es, ⟨fun y => absurd (e113.trans (by rw [show l = 4 by omega])) y, fun _ => hC _ _ _ _ (t_wrg Pm (fun m9 f9 a c => ⟨Or.inl rfl, rfl, hQ.er (by rw [if_pos (hk2.mp q)]) m9 (wm.wf.trans f9) a c⟩))⟩⟩⟩)
      have k2 : ¬ tK b n jj = 2 := fun h => q (hk2.mpr h)
      exact hQ.ok (T' := aSg T nm l cs) (j' := jj) (by rw [if_neg k2]) _ (wm.cu rfl) (Xm.sg1 (by rw [Xm.nsg, nI_add]) e112 e113 hsl4 e114) (Pm.mv rfl rfl rfl rfl)
    | succ r ih =>
      intro l hl jj cs m hl0 hp wm Xm Pm e112 e113 e114
      have hk2 := Pm.2.2.k8.2.2.1
      have ep : pCol (tK b n) (tV b n) (psN b n) T (r + 1) jj l cs = if l = 0 ∨ tK b n jj = 2 then (match pOld (tK b n) (tV b n) (psN b n) (T 11) (T 0 6) jj with
        | .error e => .error e
        | .ok c => pCol (tK b n) (tV b n) (psN b n) T r (jj + 1) (l + 1) (fun i => if i = l then c else cs i)) else .ok (jj, l, cs) := rfl
      by_cases k2 : tK b n jj = 2
      · rw [if_pos (Or.inr k2)] at ep
        refine g_Mod_signLine (fun K Kl hK hC => ⟨fun q => absurd (hk2.mpr k2) q, fun _ => ⟨5 + T 0 7, by omega, es, ⟨fun _ => hC _ _ _ _ (t_oldName (c := 110) (L := 8) (a := 4) (nm := T 11) (hE.wf wm.wf) Pm Xm.nc (by decide) (by omega) Xm.cn (fun i => (hT.1.nm 0 i).2.2.1) (fun q => (hv _ q).1) (fun e he3 m3 f3 a c => ⟨fun q => absurd (by decide) q, fun _ => ⟨Or.inl rfl, rfl, hQ.er (by rw [hp, ep]; simp only [he3]) m3 (wm.wf.trans f3) a c⟩⟩) (fun c he3 hc m3 f3 P3 g3 => ⟨fun _ => ⟨5 + T 0 7, by omega, es, ⟨20 + (4 * T 0 7 + l), by omega, ?_, ⟨5 + T 0 7, by omega, es, ⟨5 + T 0 7, by omega, es, hK _ _ _ _ ?_⟩⟩⟩⟩, fun q => absurd q (by decide)⟩)), fun y => absurd (jEQ y e113 rfl) (by omega)⟩⟩⟩)
        · have e113' : m3 113 (5 + T 0 7) = nI l := by rw [f3.c (c := 113) (by decide)]; exact e113
          show nI 4 * (nI 5 + m1 95 31) + m3 113 (5 + T 0 7) = _
          rw [es, e113', pk_mul, nI_add]
          congr 1
          omega
        · have X3 := f3.mx Xm
          have w3 := wm.trans f3.wg
          have e113' : m3 113 (5 + T 0 7) = nI l := by rw [f3.c (c := 113) (by decide)]; exact e113
          refine ih (l + 1) (by omega) (jj + 1) (fun i => if i = l then c else cs i) (cu (cu m3 114 (upd (m3 114) (20 + (4 * T 0 7 + l)) (m3 95 11))) 113 (upd (m3 113) (5 + T 0 7) (m3 113 (5 + T 0 7) + nI 1))) (fun q => by omega) (by rw [hp, ep]; simp only [he3]) ((w3.cu (wB_hi (by decide) (by decide) (show 20 ≤ 20 + (4 * T 0 7 + l) by omega))).cu (wB_hi (by decide) (by decide) (show 5 ≤ 5 + T 0 7 by omega))) ((X3.t114 (q := l) hsl4).t113) (P3.mv rfl rfl rfl rfl) ?_ ?_ (fun k hk => ?_)
          · show m3 112 (5 + T 0 7) = _
            rw [f3.c (c := 112) (by decide)]; exact e112
          · rw [cu_self, pk_us, e113', nI_add]
          · show upd (m3 114) (20 + (4 * T 0 7 + l)) (m3 95 11) (20 + (4 * T 0 7 + k)) = nI (if k = l then c else cs k)
            by_cases e : k = l
            · rw [e, pk_us, if_pos rfl]; exact g3
            · rw [pk_un (by omega), if_neg e, f3.c (c := 114) (by decide)]; exact e114 k (by omega)
      · have hl1 : l ≠ 0 := fun q => k2 (hl0 q)
        rw [if_neg (by omega)] at ep
        refine g_Mod_signLine (fun K Kl hK hC => ⟨fun _ => ⟨Or.inr rfl, rfl, ?_⟩, fun q => absurd (hk2.mp q) k2⟩)
        exact hQ.ok (T' := aSg T nm l cs) (j' := jj) (by rw [hp, ep]) _ (wm.cu rfl) (Xm.sg1 (by rw [Xm.nsg, nI_add]) e112 e113 hsl4 e114) (Pm.mv rfl rfl rfl rfl)
  have hk2 := P2.2.2.k8.2.2.1
  by_cases k2 : tK b n (j + 1 + 1) = 2
  · refine ⟨fun _ => ⟨5 + T 0 7, by omega, es, hK _ _ _ _ (lp 4 0 rfl (j + 1 + 1) (fun _ => 0) (cu m2 113 (upd (m2 113) (5 + T 0 7) (nI 0))) (fun _ => k2) rfl (w2.cu (wB_hi (by decide) (by decide) (show 5 ≤ 5 + T 0 7 by omega))) X2.t113 (P2.mv rfl rfl rfl rfl) v112 ?_ (fun k hk => by omega))⟩, fun q => absurd (hk2.mpr k2) q⟩
    rw [cu_self, pk_us]
  · refine ⟨fun q => absurd (hk2.mp q) k2, fun _ => hC _ _ _ _ (t_wrg P2 (fun m9 f9 a c => ⟨Or.inl rfl, rfl, hQ.er (e := (1, psN b n (j + 1 + 1))) ?_ m9 (w2.wf.trans f9) a c⟩))⟩
    have ho : pOld (tK b n) (tV b n) (psN b n) (T 11) (T 0 6) (j + 1 + 1) = .error (1, psN b n (j + 1 + 1)) := by unfold pOld; rw [if_neg k2]
    unfold pCol
    rw [if_pos (Or.inl rfl)]
    simp only [ho]
end
