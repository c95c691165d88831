/-! THE READER: strips, glyphs, signs, links (the class) -/
theorem wd1 {x : Int32} {w : Nat} (h : x = nI w) (h1 : 1 ≤ w) : x - nI 1 = nI (w - 1) := by rw [h, pk_sub h1]
/-- the fields of a strip given up to row Y, column X -/
def stM (w x y x2 Y X : Nat) : Nat → Bool := fun f => decide ((x ≤ f % w ∧ f % w ≤ x2 ∧ y ≤ f / w ∧ f / w < Y) ∨ (f / w = Y ∧ x ≤ f % w ∧ f % w < X))
theorem stM_0 (w x y x2 : Nat) : stM w x y x2 y x = fun _ => false := by
  funext f
  exact decide_eq_false (by omega)
theorem stM_s {w x y x2 Y X : Nat} (hX : X < w) (hx : x ≤ X) : (fun g => g == Y * w + X || stM w x y x2 Y X g) = stM w x y x2 Y (X + 1) := by
  funext g
  unfold stM
  by_cases e : g = Y * w + X
  · have h1 : g / w = Y := by rw [e, Nat.mul_comm, Nat.mul_add_div (by omega), Nat.div_eq_of_lt hX, Nat.add_zero]
    have h2 : g % w = X := by rw [e, Nat.mul_comm, Nat.mul_add_mod, Nat.mod_eq_of_lt hX]
    rw [show (g == Y * w + X) = true by simp [e], Bool.true_or]
    exact (decide_eq_true (Or.inr ⟨h1, by omega, by omega⟩)).symm
  · have h3 : ¬ (g / w = Y ∧ g % w = X) := fun z => e (by
      have := Nat.div_add_mod g w
      rw [z.1, z.2, Nat.mul_comm] at this
      exact this.symm)
    rw [show (g == Y * w + X) = false by simp [e], Bool.false_or]
    refine decide_eq_decide.mpr ?_
    omega
theorem stM_r {w x y x2 Y : Nat} (hy : y ≤ Y) : stM w x y x2 Y (x2 + 1) = stM w x y x2 (Y + 1) x := by
  funext f
  refine decide_eq_decide.mpr ?_
  omega
theorem mkT_0 {T : Nat → Nat → Nat} (w : Nat) : mkT T w (fun _ => false) = T := by
  funext a f
  unfold mkT
  split
  · rename_i e; rw [e]; rfl
  · rfl
theorem aSt_eq {T : Nat → Nat → Nat} {w x y x2 y2 : Nat} (hy : y ≤ y2) : t0 (mkT T w (stM (T 0 0) x y x2 (y2 + 1) x)) 13 (T 0 13 + 1) = aSt T w x y x2 y2 := by
  unfold aSt
  congr 1
  funext a f
  unfold mkT
  by_cases ha : a = 4
  · rw [if_pos ha, if_pos ha]
    unfold stM
    by_cases hc : (x ≤ f % T 0 0 ∧ f % T 0 0 ≤ x2) ∧ (y ≤ f / T 0 0 ∧ f / T 0 0 ≤ y2)
    · rw [if_pos hc, if_pos (decide_eq_true (Or.inl ⟨hc.1.1, hc.1.2, hc.2.1, by omega⟩))]
    · rw [if_neg hc, if_neg (fun z => hc (by have := of_decide_eq_true z; omega))]
  · rw [if_neg ha, if_neg ha]
theorem stM_in {T : Nat → Nat → Nat} (hw : wfT T) {x y x2 Y X f : Nat} (hY : Y ≤ T 0 1) (h : stM (T 0 0) x y x2 Y X f = true) (hX : Y < T 0 1 ∨ X ≤ x) : f < T 0 0 * T 0 1 := by
  have h := of_decide_eq_true h
  have h1 := Nat.div_add_mod f (T 0 0)
  have h2 := Nat.mod_lt f (show T 0 0 > 0 by have := hw.w1; omega)
  have h3 : f / T 0 0 < T 0 1 := by omega
  have h4 : T 0 0 * (f / T 0 0) + T 0 0 ≤ T 0 0 * T 0 1 := by
    rw [← Nat.mul_succ]
    exact Nat.mul_le_mul_left _ h3
  omega
theorem rwB : ∀ l, l < 4 → ∀ c, c < 4 → ∀ r, r < 64 → r < 4 ^ l → nI r ||| (nI c <<< ((nI 2 * nI l) &&& 31)) = nI (r + c * 4 ^ l) := by decide +kernel
section
variable {d : Nat} {Q : Option Value → Mm → Prop} {T : Nat → Nat → Nat} {k v p : Nat → Nat} {m j : Nat} {mi : Nat → Nat → Int32} {ml : Nat → Nat → Int64} {o l : Nat}
set_option maxHeartbeats 1000000 in
theorem s_readStrip (ho : o = 0 ∨ o = 31) (hR : RE k v p m mi) (hj : j ≤ m) (ej : mi 68 4 = nI j) (hX : CX o T l mi ml) (hw : wfT T) (hQ : LQ o l m mi ml Q (pStrip k v p T j)) : Cd (d + 4) k_Reader_readStrip [.ref 68] (mi, ml, R0 (some (6 + o)), 136) Q := by
  unfold pStrip at hQ
  have ho2 := ho
  have hXc := hX.1
  have h5 := hw.own5
  have hw8 := hw.w8
  have hh6 := hw.h6
  have hw1 := hw.w1
  have hh1 := hw.h1
  have hfl := hw.fl
  have lp : ∀ w x y x2 y2 m0, w < T 0 2 → x ≤ x2 → x2 < T 0 0 → y ≤ y2 → y2 < T 0 1 → Fr [68] mi m0 → RS (j + 5) mi m0 → CX o T l m0 ml → LQ o l m mi ml Q (.ok (aSt T w x y x2 y2, j + 5)) → j + 4 < m → ∀ v7, GoM (d + 3) k_Reader_readStrip 136 Q 116 [.ref 68, .int (nI w), .int (nI x), .int (nI y), .int (nI x2), .int (nI y2), .int (nI y), v7] [] (m0, ml, R0 (some (6 + o)), 136) := by
    intro w x y x2 y2 m0 hwd hx hx2 hy hy2 F0 S0 hX0 hQ hjm
    have inner : ∀ Y, y ≤ Y → Y ≤ y2 → (∀ m1 v7, RF o mi m1 → m1 68 = m0 68 → CX o (mkT T w (stM (T 0 0) x y x2 (Y + 1) x)) l m1 ml → GoM (d + 3) k_Reader_readStrip 136 Q 116 [.ref 68, .int (nI w), .int (nI x), .int (nI y), .int (nI x2), .int (nI y2), .int (nI Y + nI 1), v7] [] (m1, ml, R0 (some (6 + o)), 136)) → ∀ X, X ≤ x2 + 1 → x ≤ X → ∀ m1, RF o mi m1 → m1 68 = m0 68 → CX o (mkT T w (stM (T 0 0) x y x2 Y X)) l m1 ml → GoM (d + 3) k_Reader_readStrip 136 Q 126 [.ref 68, .int (nI w), .int (nI x), .int (nI y), .int (nI x2), .int (nI y2), .int (nI Y), .int (nI X)] [] (m1, ml, R0 (some (6 + o)), 136) := by
      intro Y hY1 hY2 go
      refine upto ?_ ?_
      · intro _ m1 f1 f68 hX1
        rw [stM_r hY1] at hX1
        have gg := go m1 (.int (nI (x2 + 1))) f1 f68 hX1
        refine g_Reader_readStrip ?_
        rcases ho with rfl | rfl
        all_goals
          intro K Kl hK hC
          exact ⟨fun _ => hK _ _ _ _ gg, fun z => absurd (iNLT z) (by omega)⟩
      · intro X hX ih hx3 m1 f1 f68 hX1
        have hlin : Y * T 0 0 + X < T 0 0 * T 0 1 := by
          have : T 0 0 * (Y + 1) ≤ T 0 0 * T 0 1 := Nat.mul_le_mul_left _ (by omega)
          rw [Nat.mul_succ, Nat.mul_comm] at this
          omega
        refine g_Reader_readStrip ?_
        rcases ho with rfl | rfl
        all_goals
          intro K Kl hK hC
          refine ⟨fun z => absurd (iLT z) (by omega), fun _ => hC _ _ _ _ (s_giveField ho2 hX1 hw hwd (fun f hf => stM_in hw (by omega) hf (Or.inl (by omega))) hlin (fun m2 g1 g68 hX2 => ?_))⟩
          rw [stM_s (by omega) hx3] at hX2
          have ih := ih (by omega) m2 (f1.trans g1) (g68.trans f68) hX2
          rw [nI1 X] at ih
          exact hK _ _ _ _ ih
    have outer : ∀ Y, Y ≤ y2 + 1 → y ≤ Y → ∀ m1 v7, RF o mi m1 → m1 68 = m0 68 → CX o (mkT T w (stM (T 0 0) x y x2 Y x)) l m1 ml → GoM (d + 3) k_Reader_readStrip 136 Q 116 [.ref 68, .int (nI w), .int (nI x), .int (nI y), .int (nI x2), .int (nI y2), .int (nI Y), v7] [] (m1, ml, R0 (some (6 + o)), 136) := by
      refine upto ?_ ?_
      · intro _ m1 v7 f1 f68 hX1
        have hf := hQ (by omega)
        rw [← aSt_eq hy] at hf
        refine g_Reader_readStrip ?_
        rcases ho with rfl | rfl
        all_goals
          intro K Kl hK hC
          refine ⟨fun _ => ⟨Or.inr rfl, rfl, hf _ ml (f1.cu (by omega)) RF.none ⟨⟨hX1.1.wide, hX1.1.high, hX1.1.owners, hX1.1.purse, hX1.1.seed, hX1.1.rain, hX1.1.oname, hX1.1.price, hX1.1.cut, hX1.1.own, hX1.1.cutOn, hX1.1.fee, hX1.1.glyphs, hX1.1.words, hX1.1.gl, hX1.1.gs, hX1.1.so, hX1.1.wn, hX1.1.wlen, hX1.1.ww, hX1.1.hills, hX1.1.links, hX1.1.hn, hX1.1.sg, hX1.1.l1, hX1.1.l2, hX1.1.l3, hX1.1.colours, hX1.1.signs, hX1.1.cname, hX1.1.cm, hX1.1.sname, hX1.1.sl, hX1.1.sr, hX1.1.knots, hX1.1.kk, hX1.1.kn⟩, inc1 hX1.2.1, hX1.2.2.1, hX1.2.2.2⟩ (S0.eq f68)⟩, fun z => absurd (iNLT z) (by omega)⟩
      · intro Y hY ih hy1 m1 v7 f1 f68 hX1
        rw [nI1 Y] at ih
        have inn := inner Y hy1 (by omega) (fun m1 v7 a b c => ih (by omega) m1 v7 a b c) x (by omega) (Nat.le_refl _) m1 f1 f68 hX1
        refine g_Reader_readStrip ?_
        rcases ho with rfl | rfl
        all_goals
          intro K Kl hK hC
          exact ⟨fun z => absurd (iLT z) (by omega), fun _ => hK _ _ _ _ inn⟩
    intro v7
    refine outer y (by omega) (Nat.le_refl _) m0 v7 F0.rf rfl ?_
    rw [stM_0, mkT_0]
    exact hX0
  refine r_Reader_readStrip (by decide) ?_
  rcases ho with rfl | rfl
  all_goals
    intro K Kl hK hC
    refine hC _ _ _ _ (s_readToldName hR hj ej (L := 5) hXc.owners (by decide) (by omega) (fun i hi => ⟨hXc.oname i hi, (hw.nm 0 i).1⟩) (fun e1 he1 n1 g1 a1 b1 => ⟨fun z => absurd z (by decide), fun _ => ⟨Or.inl rfl, rfl, ?_⟩⟩) (fun x1 hx1 hn1 hl1 m1 f1 r1 => ⟨fun _ => ?_, fun z => absurd (nI_pos' (by omega)) z⟩))
    · simp only [he1] at hQ
      exact hQ n1 ml (g1).rf RF.none a1 b1
    simp only [hx1] at hQ
    have F1 := f1
    have S1 := r1
    have hR1 := hR.f68 F1
    have hX1 := hX.f68 ho2 F1
    refine hC _ _ _ _ (s_readNumber hR1 (by omega) r1.1 (lo := 0) (hi := T 0 0 - 1) (wd1 hX1.1.wide hw.w1) (by omega) (by omega) (fun e2 he2 n2 g2 a2 b2 => ⟨fun z => absurd z (by decide), fun _ => ⟨Or.inl rfl, rfl, ?_⟩⟩) (fun x2 hx2 hl2 hb2 hc2 m2 f2 r2 => ⟨fun _ => ?_, fun z => absurd (nI_pos' (by omega)) z⟩))
    · simp only [he2] at hQ
      exact hQ n2 ml ((F1.trans g2).rf) RF.none a2 b2
    simp only [hx2] at hQ
    have F2 := F1.trans f2
    have S2 := S1.trans r2
    have hR2 := hR.f68 F2
    have hX2 := hX.f68 ho2 F2
    refine hC _ _ _ _ (s_readNumber hR2 (by omega) r2.1 (lo := 0) (hi := T 0 1 - 1) (wd1 hX2.1.high hw.h1) (by omega) (by omega) (fun e3 he3 n3 g3 a3 b3 => ⟨fun z => absurd z (by decide), fun _ => ⟨Or.inl rfl, rfl, ?_⟩⟩) (fun x3 hx3 hl3 hb3 hc3 m3 f3 r3 => ⟨fun _ => ?_, fun z => absurd (nI_pos' (by omega)) z⟩))
    · simp only [he3] at hQ
      exact hQ n3 ml ((F2.trans g3).rf) RF.none a3 b3
    simp only [hx3] at hQ
    have F3 := F2.trans f3
    have S3 := S2.trans r3
    have hR3 := hR.f68 F3
    have hX3 := hX.f68 ho2 F3
    refine hC _ _ _ _ (s_readNumber hR3 (by omega) r3.1 (lo := x2) (hi := T 0 0 - 1) (wd1 hX3.1.wide hw.w1) (by omega) (by omega) (fun e4 he4 n4 g4 a4 b4 => ⟨fun z => absurd z (by decide), fun _ => ⟨Or.inl rfl, rfl, ?_⟩⟩) (fun x4 hx4 hl4 hb4 hc4 m4 f4 r4 => ⟨fun _ => ?_, fun z => absurd (nI_pos' (by omega)) z⟩))
    · simp only [he4] at hQ
      exact hQ n4 ml ((F3.trans g4).rf) RF.none a4 b4
    simp only [hx4] at hQ
    have F4 := F3.trans f4
    have S4 := S3.trans r4
    have hR4 := hR.f68 F4
    have hX4 := hX.f68 ho2 F4
    refine hC _ _ _ _ (s_readNumber hR4 (by omega) r4.1 (lo := x3) (hi := T 0 1 - 1) (wd1 hX4.1.high hw.h1) (by omega) (by omega) (fun e5 he5 n5 g5 a5 b5 => ⟨fun z => absurd z (by decide), fun _ => ⟨Or.inl rfl, rfl, ?_⟩⟩) (fun x5 hx5 hl5 hb5 hc5 m5 f5 r5 => ⟨fun _ => ?_, fun z => absurd (nI_pos' (by omega)) z⟩))
    · simp only [he5] at hQ
      exact hQ n5 ml ((F4.trans g5).rf) RF.none a5 b5
    simp only [hx5] at hQ
    have F5 := F4.trans f5
    have S5 := S4.trans r5
    have hR5 := hR.f68 F5
    have hX5 := hX.f68 ho2 F5
    have l0 := lp x1 x2 x3 x4 x5 _ hn1 (by omega) (by omega) (by omega) (by omega) F5 S5 hX5 hQ hl5
    exact hK _ _ _ _ (l0 _)
set_option maxHeartbeats 1000000 in
theorem s_readLink (ho : o = 0 ∨ o = 31) (hR : RE k v p m mi) (hj : j ≤ m) (ej : mi 68 4 = nI j) (hX : CX o T l mi ml) (hw : wfT T) (hlt : T 0 8 < 3) (hQ : LQ o l m mi ml Q (pLink k v p T j)) : Cd (d + 4) k_Reader_readLink [.ref 68] (mi, ml, R0 (some (6 + o)), 136) Q := by
  unfold pLink at hQ
  have ho2 := ho
  have hXc := hX.1
  have h5 := hw.hl3
  have h7 := hR.1
  refine r_Reader_readLink (by decide) ?_
  rcases ho with rfl | rfl
  all_goals
    intro K Kl hK hC
    refine hC _ _ _ _ (s_readToldName hR hj ej (L := 3) hXc.hills (by decide) (by omega) (fun i hi => ⟨hXc.hn i hi, (hw.nm 0 i).2.1⟩) (fun e1 he1 n1 g1 a1 b1 => ⟨fun z => absurd z (by decide), fun _ => ⟨Or.inl rfl, rfl, ?_⟩⟩) (fun x1 hx1 hn1 hl1 m1 f1 r1 => ⟨fun _ => ?_, fun z => absurd (nI_pos' (by omega)) z⟩))
    · simp only [he1] at hQ
      exact hQ n1 ml (g1).rf RF.none a1 b1
    simp only [hx1] at hQ
    have F1 := f1
    have S1 := r1
    have hR1 := hR.f68 F1
    have hX1 := hX.f68 ho2 F1
    unfold pOld at hQ
    have hkb := hR.2.2.2.1 (j + 1)
    refine hC _ _ _ _ (s_kindHere hR1 (by omega) r1.1 ⟨fun z => ?_, fun z => ?_⟩)
    · have z := iEQ z
      have hlt2 := hR.lt (show j + 1 ≤ m by omega) (by omega)
      have ev := (hR1.2.2.2.2.2 (j + 1) (by omega)).2.2 hlt2
      simp only [if_pos z] at hQ
      refine ⟨j + 1, by omega, r1.1, ?_⟩
      rw [ev]
      refine hC _ _ _ _ (s_indexOf2 (L := 3) hX1.1.hills (by decide) (by omega) (fun i hi he hb2 => ⟨fun _ => ?_, fun z2 => absurd (nI_pos' (by omega)) z2⟩) (fun hb2 => ⟨fun z2 => absurd z2 (by decide), fun _ => ?_⟩))
      · have e1 : T 9 i = v (j + 1) := by
          have hh := hX1.1.hn i hi
          have := (hw.nm 0 i).2.1
          exact jEQ he hh rfl
        have e2 : nmF (T 9) (T 0 5) (v (j + 1)) = i := nmF_hit hi e1 (fun a ha e => hb2 a ha ((hX1.1.hn a (by omega)).trans (by rw [e])))
        simp only [e2, if_pos hi] at hQ
        refine ⟨fun z2 => ?_, fun z2 => ?_⟩
        · have z2 := iNE z2
          simp only [if_neg z2] at hQ
          refine hC _ _ _ _ (s_areLinked ho2 hX1.1 hw hn1 hi (fun hlk => ⟨fun z3 => absurd z3 (by decide), fun _ => ?_⟩) (fun hlk => ⟨fun _ => ?_, fun z3 => absurd (by decide) z3⟩))
          · simp only [hlk, if_true] at hQ
            exact hC _ _ _ _ (s_refused hR1 (by omega) r1.1 (fun m2 g a b => ⟨Or.inl rfl, rfl, hQ m2 ml ((F1.trans g).rf) RF.none a b⟩))
          · simp only [hlk] at hQ
            refine hC _ _ _ _ (s_goOn hR1 hlt2 r1.1 (fun m2 g S2 _ => ?_))
            have F2 := F1.trans g
            have hR2 := hR.f68 F2
            have hX2 := hX.f68 ho2 F2
            refine hC _ _ _ _ (s_readNumber hR2 (by omega) S2.1 (lo := 1) (hi := 20) rfl (by decide) (by decide) (fun e2 he2 n2 g2 a2 b2 => ⟨fun z => absurd z (by decide), fun _ => ⟨Or.inl rfl, rfl, ?_⟩⟩) (fun x2 hx2 hl2 hb2 hc2 m3 f3 r3 => ⟨fun _ => ?_, fun z => absurd (nI_pos' (by omega)) z⟩))
            · simp only [show j + 1 + 1 = j + 2 from rfl] at he2
              simp only [he2] at hQ
              exact hQ n2 ml ((F2.trans g2).rf) RF.none a2 b2
            · simp only [show j + 1 + 1 = j + 2 from rfl] at hx2
              simp only [hx2] at hQ
              have F3 := F2.trans f3
              exact hC _ _ _ _ (s_addLink ho2 (hX.f68 ho2 F3) hlt (fun m4 g1 g68 hX4 => ⟨Or.inr rfl, rfl, hQ (by omega) m4 ml (F3.rf.trans g1) RF.none hX4 (((S1.trans S2).trans r3).eq g68)⟩))
        · have z2 := iEQ z2
          simp only [if_pos z2] at hQ
          exact hC _ _ _ _ (s_refused hR1 (by omega) r1.1 (fun m2 g a b => ⟨Or.inl rfl, rfl, hQ m2 ml ((F1.trans g).rf) RF.none a b⟩))
      · have e2 : nmF (T 9) (T 0 5) (v (j + 1)) = T 0 5 := nmF_none (fun a ha e => hb2 a ha ((hX1.1.hn a ha).trans (by rw [e])))
        simp only [e2, Nat.lt_irrefl, if_false] at hQ
        exact hC _ _ _ _ (s_refused hR1 (by omega) r1.1 (fun m2 g a b => ⟨Or.inl rfl, rfl, hQ m2 ml ((F1.trans g).rf) RF.none a b⟩))
    · have z := iNE z
      simp only [if_neg z] at hQ
      exact hC _ _ _ _ (s_refused hR1 (by omega) r1.1 (fun m2 g a b => ⟨Or.inl rfl, rfl, hQ m2 ml ((F1.trans g).rf) RF.none a b⟩))
end
