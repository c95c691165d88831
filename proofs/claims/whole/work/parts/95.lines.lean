/-! THE READER: glyphs, signs (the class) -/
theorem shp_nm {T : Nat → Nat → Nat} (hw : wfT T) (c : Nat) : shpN T c = 0 ↔ ¬ nmF (T 5) (T 0 3) c < T 0 3 := by
  unfold shpN
  constructor
  · intro h hlt
    rw [if_pos (show fnd (fun g => T 5 g == c) (T 0 3) < T 0 3 from hlt)] at h
    have := hw.gs _ (show fnd (fun g => T 5 g == c) (T 0 3) < T 0 3 from hlt)
    omega
  · intro h
    rw [if_neg (show ¬ fnd (fun g => T 5 g == c) (T 0 3) < T 0 3 from h)]
section
variable {d : Nat} {Q : Option Value → Mm → Prop} {T : Nat → Nat → Nat} {k v p : Nat → Nat} {m j : Nat} {mi : Nat → Nat → Int32} {ml : Nat → Nat → Int64} {o l : Nat}
set_option maxHeartbeats 1000000 in
theorem s_readGlyph (ho : o = 0 ∨ o = 31) (hR : RE k v p m mi) (hj : j ≤ m) (ej : mi 68 4 = nI j) (hX : CX o T l mi ml) (hw : wfT T) (hlt : T 0 3 < 9) (hQ : LQ o l m mi ml Q (pGlyph k v p T j)) : Cd (d + 4) k_Reader_readGlyph [.ref 68] (mi, ml, R0 (some (6 + o)), 136) Q := by
  unfold pGlyph at hQ
  have ho2 := ho
  have h7 := hR.1
  have hb := hR.2.2.2.1 j
  have hb1 := hR.2.2.2.1 (j + 1)
  have h9 := hw.gl9
  refine r_Reader_readGlyph (by decide) ?_
  rcases ho with rfl | rfl
  all_goals
    intro K Kl hK hC
    refine hC _ _ _ _ (s_kindHere hR hj ej ⟨fun z => ?_, fun z => ?_⟩)
    · have z := iEQ z
      have hl1 := hR.lt hj (by omega)
      have hok := hR.2.2.2.2.1 j z
      have ev := (hR.2.2.2.2.2 j hj).2.2 hl1
      simp only [if_pos z] at hQ
      refine ⟨j, by omega, ej, ?_⟩
      rw [ev]
      refine hC _ _ _ _ (s_letterAt (by omega) hok.1 ⟨fun z1 => ?_, fun z1 => ?_⟩)
      · have hlt1 := letN_lt (v j) 1
        have z1 := iZ z1
        simp only [if_pos z1] at hQ
        refine hC _ _ _ _ (s_letterAt (by omega) hok.1 ?_)
        have hlt0 := letN_lt (v j) 0
        have hsl := shpN_le hw (letN (v j) 0)
        refine ⟨letN (v j) 0, by omega, rfl, ?_⟩
        have eso := hX.1.so (letN (v j) 0) hlt0
        refine ⟨fun z2 => ?_, fun z2 => ?_⟩
        · have z2 := (shp_nm hw _).mp (jZ z2 eso)
          simp only [if_neg z2] at hQ
          refine hC _ _ _ _ (s_goOn hR hl1 ej (fun m1 f1 r1 _ => ?_))
          have hR1 := hR.f68 f1
          have hX1 := hX.f68 ho2 f1
          refine hC _ _ _ _ (s_kindHere hR1 (by omega) r1.1 ⟨fun z3 => ?_, fun z3 => ?_⟩)
          · have z3 := iNE z3
            simp only [if_neg (show ¬ (k (j + 1) = 1 ∧ nmF (T 6) (T 0 3) (v (j + 1)) < T 0 3) from fun y => z3 y.1)] at hQ
            refine hC _ _ _ _ (s_readNumber hR1 (by omega) r1.1 (lo := 1) (hi := 511) rfl (by decide) (by decide) (fun e2 he2 n2 g2 a2 b2 => ⟨fun z => absurd z (by decide), fun _ => ⟨Or.inl rfl, rfl, ?_⟩⟩) (fun x2 hx2 hl2 hb2 hc2 m3 f3 r3 => ⟨fun _ => ?_, fun z => absurd (nI_pos' (by omega)) z⟩))
            · simp only [he2] at hQ
              exact hQ n2 ml ((f1.trans g2).rf) RF.none a2 b2
            · simp only [hx2] at hQ
              have F3 := f1.trans f3
              exact hC _ _ _ _ (s_addGlyph ho2 (hX.f68 ho2 F3) hlt hlt0 z2 (fun m4 g1 g68 hX4 => ⟨Or.inr rfl, rfl, hQ (by omega) m4 ml (F3.rf.trans g1) RF.none hX4 ((r1.trans r3).eq g68)⟩))
          · have z3 := iEQ z3
            have hl2 := hR.lt (show j + 1 ≤ m by omega) (by omega)
            have ev1 := (hR1.2.2.2.2.2 (j + 1) (by omega)).2.2 hl2
            refine ⟨j + 1, by omega, r1.1, ?_⟩
            rw [ev1]
            refine hC _ _ _ _ (s_indexOf2 (L := 9) hX1.1.glyphs (by decide) (by omega) (fun i hi he hb2 => ⟨fun z4 => (iNN z4 (by omega)).elim, fun _ => ?_⟩) (fun hb2 => ⟨fun _ => ?_, fun z4 => absurd (by decide) z4⟩))
            · have e1 : T 6 i = v (j + 1) := by
                have := hw.gs i hi
                exact jEQ he (hX1.1.gs i hi) rfl
              have e2 : nmF (T 6) (T 0 3) (v (j + 1)) = i := nmF_hit hi e1 (fun a ha e => hb2 a ha ((hX1.1.gs a (by omega)).trans (by rw [e])))
              simp only [if_pos (show k (j + 1) = 1 ∧ nmF (T 6) (T 0 3) (v (j + 1)) < T 0 3 from ⟨z3, by omega⟩)] at hQ
              exact hC _ _ _ _ (s_refused hR1 (by omega) r1.1 (fun m9 g9 a9 b9 => ⟨Or.inl rfl, rfl, hQ m9 ml ((f1.trans g9).rf) RF.none a9 b9⟩))
            · have e2 : nmF (T 6) (T 0 3) (v (j + 1)) = T 0 3 := nmF_none (fun a ha e => hb2 a ha ((hX1.1.gs a ha).trans (by rw [e])))
              have nn : ¬ (k (j + 1) = 1 ∧ nmF (T 6) (T 0 3) (v (j + 1)) < T 0 3) := fun y => by omega
              simp only [if_neg nn] at hQ
              refine hC _ _ _ _ (s_readNumber hR1 (by omega) r1.1 (lo := 1) (hi := 511) rfl (by decide) (by decide) (fun e2 he2 n2 g2 a2 b2 => ⟨fun z => absurd z (by decide), fun _ => ⟨Or.inl rfl, rfl, ?_⟩⟩) (fun x2 hx2 hl2 hb2 hc2 m3 f3 r3 => ⟨fun _ => ?_, fun z => absurd (nI_pos' (by omega)) z⟩))
              · simp only [he2] at hQ
                exact hQ n2 ml ((f1.trans g2).rf) RF.none a2 b2
              · simp only [hx2] at hQ
                have F3 := f1.trans f3
                exact hC _ _ _ _ (s_addGlyph ho2 (hX.f68 ho2 F3) hlt hlt0 z2 (fun m4 g1 g68 hX4 => ⟨Or.inr rfl, rfl, hQ (by omega) m4 ml (F3.rf.trans g1) RF.none hX4 ((r1.trans r3).eq g68)⟩))
        · have z2 : nmF (T 5) (T 0 3) (letN (v j) 0) < T 0 3 := by
            rcases Nat.lt_or_ge (nmF (T 5) (T 0 3) (letN (v j) 0)) (T 0 3) with y | y
            · exact y
            · exact absurd ((shp_nm hw _).mpr (by omega)) (jNZ z2 eso)
          simp only [if_pos z2] at hQ
          exact hC _ _ _ _ (s_refused hR (by omega) ej (fun m9 g9 a9 b9 => ⟨Or.inl rfl, rfl, hQ m9 ml (g9.rf) RF.none a9 b9⟩))
      · have z1 := iNZ z1
        simp only [if_neg z1] at hQ
        exact hC _ _ _ _ (s_refused hR (by omega) ej (fun m9 g9 a9 b9 => ⟨Or.inl rfl, rfl, hQ m9 ml (g9.rf) RF.none a9 b9⟩))
    · have z := iNE z
      simp only [if_neg z] at hQ
      exact hC _ _ _ _ (s_refused hR (by omega) ej (fun m9 g9 a9 b9 => ⟨Or.inl rfl, rfl, hQ m9 ml (g9.rf) RF.none a9 b9⟩))
theorem row_lt {cs : Nat → Nat} {n : Nat} (h : ∀ i, i < n → cs i < 4) : sumN (fun k => cs k * 4 ^ k) n < 4 ^ n := (dig4 n h).1
set_option maxHeartbeats 1000000 in
theorem s_readSign (ho : o = 0 ∨ o = 31) (hR : RE k v p m mi) (hj : j ≤ m) (ej : mi 68 4 = nI j) (hX : CX o T l mi ml) (hw : wfT T) (hlt : T 0 7 < 5) (hQ : LQ o l m mi ml Q (pSign k v p T j)) : Cd (d + 4) k_Reader_readSign [.ref 68] (mi, ml, R0 (some (6 + o)), 136) Q := by
  unfold pSign at hQ
  have ho2 := ho
  have h7 := hR.1
  have hXc := hX.1
  have h4 := hw.co4
  have lp : ∀ nm i, i ≤ 4 → ∀ j1 cs m1 v5, j1 ≤ m → Fr [68] mi m1 → RS j1 mi m1 → (∀ a, a < i → cs a < 4) → LQ o l m mi ml Q (match pCol k v p T (4 - i) j1 i cs with
      | .error e => .error e
      | .ok (j', l, cs) => .ok (aSg T nm l cs, j')) → GoM (d + 3) k_Reader_readSign 136 Q 32 [.ref 68, .ref (26 + o), .int (nI nm), .int (nI (sumN (fun k => cs k * 4 ^ k) i)), .int (nI i), v5] [] (m1, ml, R0 (some (6 + o)), 136) := by
    intro nm
    refine upto ?_ ?_
    · intro j1 cs m1 v5 hj1 F1 S1 hcs hQ
      have hR1 := hR.f68 F1
      have hX1 := hX.f68 ho F1
      have hkb := hR.2.2.2.1 j1
      simp only [Nat.sub_self, pCol] at hQ
      refine g_Reader_readSign ?_
      rcases ho with rfl | rfl
      all_goals
        intro K Kl hK hC
        refine ⟨fun z => absurd (iZ z) (by omega), fun _ => ⟨fun _ => ?_, fun z => absurd (iNLE z) (by omega)⟩⟩
        refine hC _ _ _ _ (s_kindHere hR1 hj1 S1.1 ⟨fun z => ?_, fun z => ?_⟩)
        · simp only [if_neg (iNE z)] at hQ
          exact hC _ _ _ _ (s_addSign ho2 hX1 hw hlt rfl (fun m4 g1 g68 hX4 => ⟨Or.inr rfl, rfl, hQ hj1 m4 ml (F1.rf.trans g1) RF.none hX4 (S1.eq g68)⟩))
        · simp only [if_pos (iEQ z)] at hQ
          exact hC _ _ _ _ (s_refused hR1 hj1 S1.1 (fun m9 g9 a9 b9 => ⟨Or.inl rfl, rfl, hQ m9 ml ((F1.trans g9).rf) RF.none a9 b9⟩))
    · intro i hi ih j1 cs m1 v5 hj1 F1 S1 hcs hQ
      have hR1 := hR.f68 F1
      have hX1 := hX.f68 ho F1
      have hkb := hR.2.2.2.1 j1
      have hrow := row_lt hcs
      have hr64 : sumN (fun k => cs k * 4 ^ k) i < 64 := by
        have : 4 ^ i ≤ 4 ^ 3 := Nat.pow_le_pow_right (by omega) (by omega)
        omega
      rw [show 4 - i = (4 - (i + 1)) + 1 by omega] at hQ
      simp only [pCol] at hQ
      have rdd : (i = 0 ∨ k j1 = 2) → ∀ P : Option Value → Mm → Prop, (∀ e, pOld k v p (T 11) (T 0 6) j1 = .error e → ∀ mi', Fr [68] m1 mi' → mi' 68 0 = nI e.1 → mi' 68 1 = nI e.2 → P (some (.int (-1))) (mi', ml, R0 (some (6 + o)), 136)) → (∀ x, pOld k v p (T 11) (T 0 6) j1 = .ok x → x < T 0 6 → j1 < m → ∀ mi', Fr [68] m1 mi' → RS (j1 + 1) m1 mi' → P (some (.int (nI x))) (mi', ml, R0 (some (6 + o)), 136)) → Cd (d + 3) k_Reader_readToldName [.ref 68, .ref (27 + o), .int (m1 (26 + o) 0)] (m1, ml, R0 (some (6 + o)), 136) P := fun _ P e1 e2 => s_readToldName (L := 4) hR1 hj1 S1.1 hX1.1.colours (by rcases ho with rfl | rfl <;> decide) (by omega) (fun i hi => ⟨hX1.1.cname i hi, (hw.nm 0 i).2.2.1⟩) e1 e2
      have goon : ∀ x m3, pOld k v p (T 11) (T 0 6) j1 = .ok x → (i = 0 ∨ k j1 = 2) → x < T 0 6 → j1 < m → Fr [68] m1 m3 → RS (j1 + 1) m1 m3 → ∀ v5, GoM (d + 3) k_Reader_readSign 136 Q 32 [.ref 68, .ref (26 + o), .int (nI nm), .int (nI (sumN (fun k => cs k * 4 ^ k) i) ||| (nI x <<< ((nI 2 * nI i) &&& 31))), .int (nI i + nI 1), v5] [] (m3, ml, R0 (some (6 + o)), 136) := by
        intro x m3 hx hcond hx4 hjm f3 r3 v5
        simp only [if_pos hcond, hx] at hQ
        have ih := ih (j1 + 1) (fun a => if a = i then x else cs a) m3 v5 (by omega) (F1.trans f3) (S1.trans r3) (fun a ha => by
          show (if a = i then x else cs a) < 4
          split
          · omega
          · exact hcs a (by omega)) hQ
        have es : sumN (fun k => (if k = i then x else cs k) * 4 ^ k) (i + 1) = sumN (fun k => cs k * 4 ^ k) i + x * 4 ^ i := by
          rw [sumN, if_pos rfl]
          congr 1
          exact sumN_cg (fun a ha => by rw [if_neg (by omega)])
        rw [es, ← rwB i (by omega) x (by omega) _ hr64 hrow, nI1 i] at ih
        exact ih
      refine g_Reader_readSign ?_
      rcases ho with rfl | rfl
      all_goals
        intro K Kl hK hC
        refine ⟨fun z => ?_, fun z => ⟨fun z2 => absurd (iLE z2) (by omega), fun _ => hC _ _ _ _ (s_kindHere hR1 hj1 S1.1 ⟨fun z2 => hC _ _ _ _ (s_kindHere hR1 hj1 S1.1 ⟨fun z3 => ?_, fun z3 => ?_⟩), fun z2 => ?_⟩)⟩⟩
        · have hcond : i = 0 ∨ k j1 = 2 := Or.inl (iZ z)
          refine hC _ _ _ _ (rdd hcond _ (fun e2 he2 n2 g2 a2 b2 => ⟨fun z => absurd z (by decide), fun _ => ⟨Or.inl rfl, rfl, ?_⟩⟩) (fun x hx hx4 hjm m3 f3 r3 => ⟨fun _ => hK _ _ _ _ (goon x m3 hx hcond hx4 hjm f3 r3 _), fun z => absurd (nI_pos' (by omega)) z⟩))
          simp only [if_pos hcond, he2] at hQ
          exact hQ n2 ml ((F1.trans g2).rf) RF.none a2 b2
        · have hn : ¬ (i = 0 ∨ k j1 = 2) := fun y => y.elim (iNZ z) (iNE z2)
          simp only [if_neg hn] at hQ
          exact hC _ _ _ _ (s_addSign ho2 hX1 hw hlt rfl (fun m4 g1 g68 hX4 => ⟨Or.inr rfl, rfl, hQ hj1 m4 ml (F1.rf.trans g1) RF.none hX4 (S1.eq g68)⟩))
        · exact absurd (iEQ z3) (iNE z2)
        · have hcond : i = 0 ∨ k j1 = 2 := Or.inr (iEQ z2)
          refine hC _ _ _ _ (rdd hcond _ (fun e2 he2 n2 g2 a2 b2 => ⟨fun z => absurd z (by decide), fun _ => ⟨Or.inl rfl, rfl, ?_⟩⟩) (fun x hx hx4 hjm m3 f3 r3 => ⟨fun _ => hK _ _ _ _ (goon x m3 hx hcond hx4 hjm f3 r3 _), fun z => absurd (nI_pos' (by omega)) z⟩))
          simp only [if_pos hcond, he2] at hQ
          exact hQ n2 ml ((F1.trans g2).rf) RF.none a2 b2
  refine r_Reader_readSign (by decide) ?_
  have lp0 := fun nm => lp nm 0 (by omega)
  rcases ho with rfl | rfl
  all_goals
    intro K Kl hK hC
    refine hC _ _ _ _ (s_readNewName (L := 5) hR hj ej hXc.signs (by decide) (by omega) (fun i hi => ⟨hXc.sname i hi, (hw.nm 0 i).2.2.2.1⟩) (fun e1 he1 n1 g1 a1 b1 => ⟨fun z => absurd z (by decide), fun _ => ⟨Or.inl rfl, rfl, ?_⟩⟩) (fun x1 hx1 hn1 hl1 m1 f1 r1 => ⟨fun _ => ?_, fun z => absurd (nI_pos' (by have := hn1.1; omega)) z⟩))
    · simp only [he1] at hQ
      exact hQ n1 ml g1.rf RF.none a1 b1
    · simp only [hx1] at hQ
      exact hK _ _ _ _ (lp0 x1 (j + 1) (fun _ => 0) m1 _ (by omega) f1 r1 lt_0 hQ)
end
