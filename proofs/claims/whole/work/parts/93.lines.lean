/-! THE READER: lines of names and numbers (the class) -/
/-- what a line's method must meet -/
def LQ (o l m : Nat) (mi : Nat → Nat → Int32) (ml : Nat → Nat → Int64) (Q : Option Value → Mm → Prop) (r : Except (Nat × Nat) ((Nat → Nat → Nat) × Nat)) : Prop := match r with
  | .error e => ∀ mi' ml', RF o mi mi' → RF o ml ml' → mi' 68 0 = nI e.1 → mi' 68 1 = nI e.2 → Q (some (.int (nI 0))) (mi', ml', R0 (some (6 + o)), 136)
  | .ok (T', j') => j' ≤ m → ∀ mi' ml', RF o mi mi' → RF o ml ml' → CX o T' l mi' ml' → RS j' mi mi' → Q (some (.int (nI 1))) (mi', ml', R0 (some (6 + o)), 136)
theorem RS.eq {j : Nat} {a b c : Nat → Nat → Int32} (h : RS j a b) (e : c 68 = b 68) : RS j a c := by
  unfold RS at h ⊢
  rw [e]
  exact h
theorem CX.f68 {o l : Nat} {T : Nat → Nat → Nat} {mi mi' : Nat → Nat → Int32} {ml : Nat → Nat → Int64} (ho : o = 0 ∨ o = 31) (h : CX o T l mi ml) (hf : Fr [68] mi mi') : CX o T l mi' ml := by
  have e : ∀ c, c ≠ 68 → mi' c = mi c := fun c hc => hf c (nin_not (fun hm => by simp at hm; exact hc hm))
  refine ⟨h.1.keep (fun c h1 h2 => e c (by rcases ho with rfl | rfl <;> omega)), ?_, ?_, h.2.2.2⟩
  · rw [e _ (by rcases ho with rfl | rfl <;> omega)]; exact h.2.1
  · rw [e _ (by rcases ho with rfl | rfl <;> omega)]; exact h.2.2.1
section
variable {d : Nat} {Q : Option Value → Mm → Prop} {T : Nat → Nat → Nat} {k v p : Nat → Nat} {m j : Nat} {mi : Nat → Nat → Int32} {ml : Nat → Nat → Int64} {o l : Nat}
theorem s_addHill2 {nm s : Nat} {Y : Int32} {rd : Option Nat} (hY : Y = nI (34 + s)) (ho : o = 0 ∨ o = 31) (hX : CX o T l mi ml) (hlt : T 0 5 < 3) (hQ : ∀ mi', RF o mi mi' → mi' 68 = mi 68 → CX o (aHl T nm s) l mi' ml → Q none (mi', ml, R0 rd, 136)) : Cd (d + 1) k_Hills_addHill [.ref (20 + o), .int (nI nm), .int Y] (mi, ml, R0 rd, 136) Q := by
  subst hY
  exact s_addHill ho hX hlt hQ
set_option maxHeartbeats 1000000 in
theorem s_readOwner (ho : o = 0 ∨ o = 31) (hR : RE k v p m mi) (hj : j ≤ m) (ej : mi 68 4 = nI j) (hX : CX o T l mi ml) (hw : wfT T) (hlt : T 0 2 < 5) (hQ : LQ o l m mi ml Q (pOwner k v p T j)) : Cd (d + 4) k_Reader_readOwner [.ref 68] (mi, ml, R0 (some (6 + o)), 136) Q := by
  unfold pOwner at hQ
  have ho2 := ho
  have hXc := hX.1
  have h5 := hw.own5
  refine r_Reader_readOwner (by decide) ?_
  rcases ho with rfl | rfl
  all_goals
    intro K Kl hK hC
    refine hC _ _ _ _ (s_readNewName hR hj ej (L := 5) hXc.owners (by decide) (by omega) (fun i hi => ⟨hXc.oname i hi, (hw.nm 0 i).1⟩) (fun e1 he1 n1 g1 a1 b1 => ⟨fun z => absurd z (by decide), fun _ => ⟨Or.inl rfl, rfl, ?_⟩⟩) (fun x1 hx1 hn1 hl1 m1 f1 r1 => ⟨fun _ => ?_, fun z => absurd (nI_pos' (by have := hn1.1; omega)) z⟩))
    · simp only [he1] at hQ
      exact hQ n1 ml (g1).rf RF.none a1 b1
    simp only [hx1] at hQ
    have F1 := f1
    have S1 := r1
    have hR1 := hR.f68 F1
    have hX1 := hX.f68 ho2 F1
    refine hC _ _ _ _ (s_readNumber hR1 (by omega) r1.1 (lo := 0) (hi := 99) rfl (by decide) (by decide) (fun e2 he2 n2 g2 a2 b2 => ⟨fun z => absurd z (by decide), fun _ => ⟨Or.inl rfl, rfl, ?_⟩⟩) (fun x2 hx2 hl2 hb2 hc2 m2 f2 r2 => ⟨fun _ => ?_, fun z => absurd (nI_pos' (by omega)) z⟩))
    · simp only [he2] at hQ
      exact hQ n2 ml ((F1.trans g2).rf) RF.none a2 b2
    simp only [hx2] at hQ
    have F2 := F1.trans f2
    have S2 := S1.trans r2
    have hR2 := hR.f68 F2
    have hX2 := hX.f68 ho2 F2
    refine hC _ _ _ _ (s_readNumber hR2 (by omega) r2.1 (lo := 1) (hi := 99) rfl (by decide) (by decide) (fun e3 he3 n3 g3 a3 b3 => ⟨fun z => absurd z (by decide), fun _ => ⟨Or.inl rfl, rfl, ?_⟩⟩) (fun x3 hx3 hl3 hb3 hc3 m3 f3 r3 => ⟨fun _ => ?_, fun z => absurd (nI_pos' (by omega)) z⟩))
    · simp only [he3] at hQ
      exact hQ n3 ml ((F2.trans g3).rf) RF.none a3 b3
    simp only [hx3] at hQ
    have F3 := F2.trans f3
    have S3 := S2.trans r3
    have hR3 := hR.f68 F3
    have hX3 := hX.f68 ho2 F3
    exact hC _ _ _ _ (s_addOwner ho2 hX3 hw hlt (fun m4 g1 g68 hX4 => ⟨Or.inr rfl, rfl, hQ (by omega) m4 ml (F3.rf.trans g1) RF.none hX4 (S3.eq g68)⟩))
set_option maxHeartbeats 1000000 in
theorem s_readWord (ho : o = 0 ∨ o = 31) (hR : RE k v p m mi) (hj : j ≤ m) (ej : mi 68 4 = nI j) (hX : CX o T l mi ml) (hw : wfT T) (hlt : T 0 4 < 6) (hQ : LQ o l m mi ml Q (pWord k v p T j)) : Cd (d + 4) k_Reader_readWord [.ref 68] (mi, ml, R0 (some (6 + o)), 136) Q := by
  unfold pWord at hQ
  have ho2 := ho
  have hXc := hX.1
  have h5 := hw.wd6
  refine r_Reader_readWord (by decide) ?_
  rcases ho with rfl | rfl
  all_goals
    intro K Kl hK hC
    refine hC _ _ _ _ (s_readNewName hR hj ej (L := 6) hXc.words (by decide) (by omega) (fun i hi => ⟨hXc.wn i hi, (hw.wn i hi).1⟩) (fun e1 he1 n1 g1 a1 b1 => ⟨fun z => absurd z (by decide), fun _ => ⟨Or.inl rfl, rfl, ?_⟩⟩) (fun x1 hx1 hn1 hl1 m1 f1 r1 => ⟨fun _ => ?_, fun z => absurd (nI_pos' (by have := hn1.1; omega)) z⟩))
    · simp only [he1] at hQ
      exact hQ n1 ml (g1).rf RF.none a1 b1
    simp only [hx1] at hQ
    have F1 := f1
    have S1 := r1
    have hR1 := hR.f68 F1
    have hX1 := hX.f68 ho2 F1
    refine hC _ _ _ _ (s_readNumber hR1 (by omega) r1.1 (lo := 0) (hi := 99) rfl (by decide) (by decide) (fun e2 he2 n2 g2 a2 b2 => ⟨fun z => absurd z (by decide), fun _ => ⟨Or.inl rfl, rfl, ?_⟩⟩) (fun x2 hx2 hl2 hb2 hc2 m2 f2 r2 => ⟨fun _ => ?_, fun z => absurd (nI_pos' (by omega)) z⟩))
    · simp only [he2] at hQ
      exact hQ n2 ml ((F1.trans g2).rf) RF.none a2 b2
    simp only [hx2] at hQ
    have F2 := F1.trans f2
    have S2 := S1.trans r2
    have hR2 := hR.f68 F2
    have hX2 := hX.f68 ho2 F2
    exact hC _ _ _ _ (s_addWord ho2 hX2 hlt hn1.1 (fun m4 g1 g68 hX4 => ⟨Or.inr rfl, rfl, hQ (by omega) m4 ml (F2.rf.trans g1) RF.none hX4 (S2.eq g68)⟩))
set_option maxHeartbeats 1000000 in
theorem s_readWash (ho : o = 0 ∨ o = 31) (hR : RE k v p m mi) (hj : j ≤ m) (ej : mi 68 4 = nI j) (hX : CX o T l mi ml) (hw : wfT T) (hlt : T 0 6 < 4) (hQ : LQ o l m mi ml Q (pWash k v p T j)) : Cd (d + 4) k_Reader_readWash [.ref 68] (mi, ml, R0 (some (6 + o)), 136) Q := by
  unfold pWash at hQ
  have ho2 := ho
  have hXc := hX.1
  have h5 := hw.co4
  refine r_Reader_readWash (by decide) ?_
  rcases ho with rfl | rfl
  all_goals
    intro K Kl hK hC
    refine hC _ _ _ _ (s_readNewName hR hj ej (L := 4) hXc.colours (by decide) (by omega) (fun i hi => ⟨hXc.cname i hi, (hw.nm 0 i).2.2.1⟩) (fun e1 he1 n1 g1 a1 b1 => ⟨fun z => absurd z (by decide), fun _ => ⟨Or.inl rfl, rfl, ?_⟩⟩) (fun x1 hx1 hn1 hl1 m1 f1 r1 => ⟨fun _ => ?_, fun z => absurd (nI_pos' (by have := hn1.1; omega)) z⟩))
    · simp only [he1] at hQ
      exact hQ n1 ml (g1).rf RF.none a1 b1
    simp only [hx1] at hQ
    have F1 := f1
    have S1 := r1
    have hR1 := hR.f68 F1
    have hX1 := hX.f68 ho2 F1
    refine hC _ _ _ _ (s_readNumber hR1 (by omega) r1.1 (lo := 0) (hi := 9) rfl (by decide) (by decide) (fun e2 he2 n2 g2 a2 b2 => ⟨fun z => absurd z (by decide), fun _ => ⟨Or.inl rfl, rfl, ?_⟩⟩) (fun x2 hx2 hl2 hb2 hc2 m2 f2 r2 => ⟨fun _ => ?_, fun z => absurd (nI_pos' (by omega)) z⟩))
    · simp only [he2] at hQ
      exact hQ n2 ml ((F1.trans g2).rf) RF.none a2 b2
    simp only [hx2] at hQ
    have F2 := F1.trans f2
    have S2 := S1.trans r2
    have hR2 := hR.f68 F2
    have hX2 := hX.f68 ho2 F2
    exact hC _ _ _ _ (s_addColour ho2 hX2 hlt (fun m4 g1 g68 hX4 => ⟨Or.inr rfl, rfl, hQ (by omega) m4 ml (F2.rf.trans g1) RF.none hX4 (S2.eq g68)⟩))
set_option maxHeartbeats 1000000 in
theorem s_readPlain (ho : o = 0 ∨ o = 31) (hR : RE k v p m mi) (hj : j ≤ m) (ej : mi 68 4 = nI j) (hX : CX o T l mi ml) (hw : wfT T) (hQ : LQ o l m mi ml Q (pPlain k v p T j)) : Cd (d + 4) k_Reader_readPlain [.ref 68] (mi, ml, R0 (some (6 + o)), 136) Q := by
  unfold pPlain at hQ
  have ho2 := ho
  have hXc := hX.1
  refine r_Reader_readPlain (by decide) ?_
  rcases ho with rfl | rfl
  all_goals
    intro K Kl hK hC
    refine hC _ _ _ _ (s_readNumber hR hj ej (lo := 1) (hi := 8) rfl (by decide) (by decide) (fun e1 he1 n1 g1 a1 b1 => ⟨fun z => absurd z (by decide), fun _ => ⟨Or.inl rfl, rfl, ?_⟩⟩) (fun x1 hx1 hl1 hb1 hc1 m1 f1 r1 => ⟨fun _ => ?_, fun z => absurd (nI_pos' (by omega)) z⟩))
    · simp only [he1] at hQ
      exact hQ n1 ml (g1).rf RF.none a1 b1
    simp only [hx1] at hQ
    have F1 := f1
    have S1 := r1
    have hR1 := hR.f68 F1
    have hX1 := hX.f68 ho2 F1
    refine hC _ _ _ _ (s_readNumber hR1 (by omega) r1.1 (lo := 1) (hi := 6) rfl (by decide) (by decide) (fun e2 he2 n2 g2 a2 b2 => ⟨fun z => absurd z (by decide), fun _ => ⟨Or.inl rfl, rfl, ?_⟩⟩) (fun x2 hx2 hl2 hb2 hc2 m2 f2 r2 => ⟨fun _ => ?_, fun z => absurd (nI_pos' (by omega)) z⟩))
    · simp only [he2] at hQ
      exact hQ n2 ml ((F1.trans g2).rf) RF.none a2 b2
    simp only [hx2] at hQ
    have F2 := F1.trans f2
    have S2 := S1.trans r2
    have hR2 := hR.f68 F2
    have hX2 := hX.f68 ho2 F2
    exact ⟨Or.inr rfl, rfl, hQ (by omega) _ ml ((F2.rf.cu (by omega)).cu (by omega)) RF.none ⟨⟨rfl, rfl, hX2.1.owners, hX2.1.purse, hX2.1.seed, hX2.1.rain, hX2.1.oname, hX2.1.price, hX2.1.cut, hX2.1.own, hX2.1.cutOn, hX2.1.fee, hX2.1.glyphs, hX2.1.words, hX2.1.gl, hX2.1.gs, hX2.1.so, hX2.1.wn, hX2.1.wlen, hX2.1.ww, hX2.1.hills, hX2.1.links, hX2.1.hn, hX2.1.sg, hX2.1.l1, hX2.1.l2, hX2.1.l3, hX2.1.colours, hX2.1.signs, hX2.1.cname, hX2.1.cm, hX2.1.sname, hX2.1.sl, hX2.1.sr, hX2.1.knots, hX2.1.kk, hX2.1.kn⟩, hX2.2.1, hX2.2.2.1, hX2.2.2.2⟩ (S2.eq rfl)⟩
set_option maxHeartbeats 1000000 in
theorem s_readHill (ho : o = 0 ∨ o = 31) (hR : RE k v p m mi) (hj : j ≤ m) (ej : mi 68 4 = nI j) (hX : CX o T l mi ml) (hw : wfT T) (hlt : T 0 5 < 3) (hQ : LQ o l m mi ml Q (pHill k v p T j)) : Cd (d + 4) k_Reader_readHill [.ref 68] (mi, ml, R0 (some (6 + o)), 136) Q := by
  unfold pHill at hQ
  have ho2 := ho
  have hXc := hX.1
  have h5 := hw.hl3
  refine r_Reader_readHill (by decide) ?_
  rcases ho with rfl | rfl
  all_goals
    intro K Kl hK hC
    refine hC _ _ _ _ (s_readNewName hR hj ej (L := 3) hXc.hills (by decide) (by omega) (fun i hi => ⟨hXc.hn i hi, (hw.nm 0 i).2.1⟩) (fun e1 he1 n1 g1 a1 b1 => ⟨fun z => absurd z (by decide), fun _ => ⟨Or.inl rfl, rfl, ?_⟩⟩) (fun x1 hx1 hn1 hl1 m1 f1 r1 => ⟨fun _ => ?_, fun z => absurd (nI_pos' (by have := hn1.1; omega)) z⟩))
    · simp only [he1] at hQ
      exact hQ n1 ml (g1).rf RF.none a1 b1
    simp only [hx1] at hQ
    have F1 := f1
    have S1 := r1
    have hR1 := hR.f68 F1
    have hX1 := hX.f68 ho2 F1
    have hkb := hR.2.2.2.1 (j + 1)
    refine hC _ _ _ _ (s_kindHere hR1 (by omega) r1.1 ⟨fun z => ?_, fun z => ⟨fun z2 => ?_, fun z2 => ?_⟩⟩)
    · have z := iLT z
      rw [if_neg (by omega)] at hQ
      exact hC _ _ _ _ (s_refused hR1 (by omega) r1.1 (fun m2 g a b => ⟨Or.inl rfl, rfl, hQ m2 ml ((F1.trans g).rf) RF.none a b⟩))
    · have z := iNLT z
      have z2 := iLE z2
      rw [if_pos (by omega)] at hQ
      have hlt2 := hR.lt (show j + 1 ≤ m by omega) (by omega)
      refine hC _ _ _ _ (s_goOn hR1 hlt2 r1.1 (fun m2 g S2 _ => ?_))
      exact hC _ _ _ _ (s_addHill2 (s := k (j + 1) - 34) (by rw [show 34 + (k (j + 1) - 34) = k (j + 1) by omega]) ho2 (hX1.f68 ho2 g) hlt (fun m4 g1 g68 hX4 => ⟨Or.inr rfl, rfl, hQ (by omega) m4 ml ((F1.trans g).rf.trans g1) RF.none hX4 ((S1.trans S2).eq g68)⟩))
    · have z2 := iNLE z2
      rw [if_neg (by omega)] at hQ
      exact hC _ _ _ _ (s_refused hR1 (by omega) r1.1 (fun m2 g a b => ⟨Or.inl rfl, rfl, hQ m2 ml ((F1.trans g).rf) RF.none a b⟩))
end
