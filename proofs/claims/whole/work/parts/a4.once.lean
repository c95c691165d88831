/-! THE READER: a line told once (the class) -/
section
variable {d : Nat} {Q : Option Value → Mm → Prop} {T : Nat → Nat → Nat} {k v p : Nat → Nat} {m j : Nat} {mi : Nat → Nat → Int32} {ml : Nat → Nat → Int64} {o l : Nat}
theorem LQ.cv2 {m0 : Nat} {mi1 : Nat → Nat → Int32} {ml1 : Nat → Nat → Int64} {P : Option Value → Mm → Prop} {r : Except (Nat × Nat) ((Nat → Nat → Nat) × Nat)} (h : LQ o l m0 mi ml Q r) (f1 : RF o mi mi1) (f2 : RF o ml ml1) (r1 : mi1 68 0 = mi 68 0 ∧ mi1 68 1 = mi 68 1) (h0 : ∀ mi' ml', Q (some (.int (nI 0))) (mi', ml', R0 (some (6 + o)), 136) → P (some (.int (nI 0))) (mi', ml', R0 (some (6 + o)), 136)) (h1 : ∀ mi' ml', Q (some (.int (nI 1))) (mi', ml', R0 (some (6 + o)), 136) → P (some (.int (nI 1))) (mi', ml', R0 (some (6 + o)), 136)) : LQ o l m0 mi1 ml1 P r := by
  cases r with
  | error e => exact fun mi' ml' g1 g2 a b => h0 _ _ (h mi' ml' (f1.trans g1) (f2.trans g2) a b)
  | ok q =>
    obtain ⟨T', j'⟩ := q
    exact fun hm mi' ml' g1 g2 hX hS => h1 _ _ (h hm mi' ml' (f1.trans g1) (f2.trans g2) hX ⟨hS.1, hS.2.1.trans r1.1, hS.2.2.trans r1.2⟩)
theorem CX.on {kd : Nat} {X : Int64} (hkd : kd = 20 ∨ (29 ≤ kd ∧ kd ≤ 32)) (hX : X = lN (onN (t0 T (onC kd) 1))) (h : CX o T l mi ml) : CX o (t0 T (onC kd) 1) l mi (cu ml (6 + o) (vp_updL (ml (6 + o)) 8 X)) := by
  have e : cu ml (6 + o) (vp_updL (ml (6 + o)) 8 X) (6 + o) 8 = lN (onN (t0 T (onC kd) 1)) := by
    rw [cu_self]
    exact hX
  have : kd = 20 ∨ kd = 29 ∨ kd = 30 ∨ kd = 31 ∨ kd = 32 := by omega
  rcases this with rfl | rfl | rfl | rfl | rfl
  all_goals exact ⟨⟨h.1.wide, h.1.high, h.1.owners, h.1.purse, h.1.seed, h.1.rain, h.1.oname, h.1.price, h.1.cut, h.1.own, h.1.cutOn, h.1.fee, h.1.glyphs, h.1.words, h.1.gl, h.1.gs, h.1.so, h.1.wn, h.1.wlen, h.1.ww, h.1.hills, h.1.links, h.1.hn, h.1.sg, h.1.l1, h.1.l2, h.1.l3, h.1.colours, h.1.signs, h.1.cname, h.1.cm, h.1.sname, h.1.sl, h.1.sr, h.1.knots, h.1.kk, h.1.kn⟩, h.2.1, h.2.2.1, e⟩
set_option maxHeartbeats 2000000 in
theorem s_readOnce (ho : o = 0 ∨ o = 31) (hR : RE k v p m mi) (hj : j ≤ m) (ej : mi 68 4 = nI j) (hX : CX o T l mi ml) (hT : tOK T) (hk1 : k j ≠ 0) {kd : Nat} (hkd : kd = 20 ∨ (29 ≤ kd ∧ kd ≤ 32)) (hQ : LQ o l m mi ml Q (if T 0 (onC kd) ≠ 0 then .error (3, p j) else if kd = 20 ∧ T 0 13 ≠ 0 then .error (4, p j) else pOncs k v p (t0 T (onC kd) 1) kd (j + 1))) : Cd (d + 5) k_Reader_readOnce [.ref 68, .int (nI kd)] (mi, ml, R0 (some (6 + o)), 136) Q := by
  have ho2 := ho
  have hw := hT.1
  have b13 := hT.2.2.2.2.1
  have hlt0 := hR.lt hj hk1
  have hon := onB hT hkd
  have e8 := hX.2.2.2
  have e3 := hX.2.1
  have hkl : kd ≤ 32 := by omega
  have cx : ∀ m1 X, X = lN (onN (t0 T (onC kd) 1)) → CX o T l m1 ml → CX o (t0 T (onC kd) 1) l m1 (cu ml (6 + o) (vp_updL (ml (6 + o)) 8 X)) := fun m1 X hv h => h.on hkd hv
  refine r_Reader_readOnce (by decide) ?_
  rcases ho with rfl | rfl
  all_goals
    intro K Kl hK hC
    refine ⟨fun z => ?_, fun z => ?_⟩
    · have hz : T 0 (onC kd) = 0 := by
        rcases Nat.eq_zero_or_pos (T 0 (onC kd)) with y | y
        · exact y
        · refine absurd ?_ (hon.2 (by omega))
          rw [← e8]
          exact z
      rw [if_neg (show ¬ T 0 (onC kd) ≠ 0 from fun y => y hz)] at hQ
      refine ⟨fun z20 => ?_, fun z20 => ⟨fun z1 => ?_, fun z1 => ?_⟩⟩
      · rw [if_neg (show ¬ (kd = 20 ∧ T 0 13 ≠ 0) from fun y => iNE z20 y.1)] at hQ
        refine hC _ _ _ _ (s_goOn hR hlt0 ej (fun m1 f1 r1 _ => ?_))
        have hR1 := hR.f68 f1
        have hX1 := cx m1 _ (show ml (6 + _) 8 ||| _ = _ from (by rw [e8]; exact (hon.1 hz).2)) (hX.f68 ho2 f1)
        refine ⟨fun h20 => ?_, fun h20 => swP_c (fun h29 => ?_) (fun h29 => swP_c (fun h30 => ?_) (fun h30 => swP_c (fun h31 => ?_) (fun h31 => swP_n ?_)))⟩
        · exact absurd h20 z20
        · have hk := iEQ h29
          subst hk
          have hQ : LQ _ l m mi ml Q (pOnce k v p (t0 T 15 1) 10 9999 (j + 1)) := hQ
          unfold pOnce at hQ
          refine hC _ _ _ _ (s_readNumber hR1 (by omega) r1.1 (lo := 0) (hi := 9999) rfl (by decide) (by decide) (fun e2 he2 n2 g2 a2 b2 => ⟨fun z => ⟨Or.inl rfl, rfl, ?_⟩, fun z => absurd (show (-1 : Int32) < 0 by decide) z⟩) (fun x2 hx2 hl2 hb2 hc2 m3 f3 r3 => ⟨fun z => (iNN z (by omega)).elim, fun _ => ⟨Or.inr rfl, rfl, ?_⟩⟩))
          · simp only [he2] at hQ
            exact hQ _ _ (((f1.trans g2).rf).cu (by omega)) (RF.none.cu (by omega)) a2 b2
          · simp only [hx2] at hQ
            have hX3 := hX1.f68 ho2 f3
            exact hQ (by omega) _ _ (((f1.trans f3).rf).cu (by omega)) (RF.none.cu (by omega)) ⟨⟨hX3.1.wide, hX3.1.high, hX3.1.owners, rfl, hX3.1.seed, hX3.1.rain, hX3.1.oname, hX3.1.price, hX3.1.cut, hX3.1.own, hX3.1.cutOn, hX3.1.fee, hX3.1.glyphs, hX3.1.words, hX3.1.gl, hX3.1.gs, hX3.1.so, hX3.1.wn, hX3.1.wlen, hX3.1.ww, hX3.1.hills, hX3.1.links, hX3.1.hn, hX3.1.sg, hX3.1.l1, hX3.1.l2, hX3.1.l3, hX3.1.colours, hX3.1.signs, hX3.1.cname, hX3.1.cm, hX3.1.sname, hX3.1.sl, hX3.1.sr, hX3.1.knots, hX3.1.kk, hX3.1.kn⟩, hX3.2.1, hX3.2.2.1, hX3.2.2.2⟩ ⟨(r1.trans r3).1, (r1.trans r3).2.1, (r1.trans r3).2.2⟩
        · have hk := iEQ h30
          subst hk
          have hQ : LQ _ l m mi ml Q (pOnce k v p (t0 T 16 1) 11 99999 (j + 1)) := hQ
          unfold pOnce at hQ
          refine hC _ _ _ _ (s_readNumber hR1 (by omega) r1.1 (lo := 0) (hi := 99999) rfl (by decide) (by decide) (fun e2 he2 n2 g2 a2 b2 => ⟨fun z => ⟨Or.inl rfl, rfl, ?_⟩, fun z => absurd (show (-1 : Int32) < 0 by decide) z⟩) (fun x2 hx2 hl2 hb2 hc2 m3 f3 r3 => ⟨fun z => (iNN z (by omega)).elim, fun _ => ⟨Or.inr rfl, rfl, ?_⟩⟩))
          · simp only [he2] at hQ
            exact hQ _ _ (((f1.trans g2).rf).cu (by omega)) (RF.none.cu (by omega)) a2 b2
          · simp only [hx2] at hQ
            have hX3 := hX1.f68 ho2 f3
            exact hQ (by omega) _ _ (((f1.trans f3).rf).cu (by omega)) (RF.none.cu (by omega)) ⟨⟨hX3.1.wide, hX3.1.high, hX3.1.owners, hX3.1.purse, rfl, hX3.1.rain, hX3.1.oname, hX3.1.price, hX3.1.cut, hX3.1.own, hX3.1.cutOn, hX3.1.fee, hX3.1.glyphs, hX3.1.words, hX3.1.gl, hX3.1.gs, hX3.1.so, hX3.1.wn, hX3.1.wlen, hX3.1.ww, hX3.1.hills, hX3.1.links, hX3.1.hn, hX3.1.sg, hX3.1.l1, hX3.1.l2, hX3.1.l3, hX3.1.colours, hX3.1.signs, hX3.1.cname, hX3.1.cm, hX3.1.sname, hX3.1.sl, hX3.1.sr, hX3.1.knots, hX3.1.kk, hX3.1.kn⟩, hX3.2.1, hX3.2.2.1, hX3.2.2.2⟩ ⟨(r1.trans r3).1, (r1.trans r3).2.1, (r1.trans r3).2.2⟩
        · have hk := iEQ h31
          subst hk
          have hQ : LQ _ l m mi ml Q (pOnce k v p (t0 T 17 1) 12 99 (j + 1)) := hQ
          unfold pOnce at hQ
          refine hC _ _ _ _ (s_readNumber hR1 (by omega) r1.1 (lo := 0) (hi := 99) rfl (by decide) (by decide) (fun e2 he2 n2 g2 a2 b2 => ⟨fun z => ⟨Or.inl rfl, rfl, ?_⟩, fun z => absurd (show (-1 : Int32) < 0 by decide) z⟩) (fun x2 hx2 hl2 hb2 hc2 m3 f3 r3 => ⟨fun z => (iNN z (by omega)).elim, fun _ => ⟨Or.inr rfl, rfl, ?_⟩⟩))
          · simp only [he2] at hQ
            exact hQ _ _ (((f1.trans g2).rf).cu (by omega)) (RF.none.cu (by omega)) a2 b2
          · simp only [hx2] at hQ
            have hX3 := hX1.f68 ho2 f3
            exact hQ (by omega) _ _ (((f1.trans f3).rf).cu (by omega)) (RF.none.cu (by omega)) ⟨⟨hX3.1.wide, hX3.1.high, hX3.1.owners, hX3.1.purse, hX3.1.seed, rfl, hX3.1.oname, hX3.1.price, hX3.1.cut, hX3.1.own, hX3.1.cutOn, hX3.1.fee, hX3.1.glyphs, hX3.1.words, hX3.1.gl, hX3.1.gs, hX3.1.so, hX3.1.wn, hX3.1.wlen, hX3.1.ww, hX3.1.hills, hX3.1.links, hX3.1.hn, hX3.1.sg, hX3.1.l1, hX3.1.l2, hX3.1.l3, hX3.1.colours, hX3.1.signs, hX3.1.cname, hX3.1.cm, hX3.1.sname, hX3.1.sl, hX3.1.sr, hX3.1.knots, hX3.1.kk, hX3.1.kn⟩, hX3.2.1, hX3.2.2.1, hX3.2.2.2⟩ ⟨(r1.trans r3).1, (r1.trans r3).2.1, (r1.trans r3).2.2⟩
        · have hk : kd = 32 := by
            have n20 := iNE z20; have n29 := iNE h29; have n30 := iNE h30; have n31 := iNE h31
            omega
          subst hk
          have hQ : LQ _ l m mi ml Q (pLawL k v p (t0 T 18 1) (j + 1)) := hQ
          exact hC _ _ _ _ (s_readLaw ho2 hR1 (by omega) r1.1 hX1 (show T 0 9 = 0 from hT.2.2.2.1.mp hz) (hQ.cv2 f1.rf (RF.none.cu (by omega)) r1.2 (fun _ _ h => ⟨Or.inl rfl, rfl, h⟩) (fun _ _ h => ⟨Or.inr rfl, rfl, h⟩)))
      · have hs : T 0 13 = 0 := by
          have z1 : mi _ 3 ≤ 0 := z1
          rw [show mi _ 3 = nI (T 0 13) from e3] at z1
          have z1 : nI (T 0 13) ≤ nI 0 := z1
          have := iLE z1
          omega
        rw [if_neg (show ¬ (kd = 20 ∧ T 0 13 ≠ 0) from fun y => y.2 hs)] at hQ
        refine hC _ _ _ _ (s_goOn hR hlt0 ej (fun m1 f1 r1 _ => ?_))
        have hR1 := hR.f68 f1
        have hX1 := cx m1 _ (show ml (6 + _) 8 ||| _ = _ from (by rw [e8]; exact (hon.1 hz).2)) (hX.f68 ho2 f1)
        refine ⟨fun h20 => ?_, fun h20 => swP_c (fun h29 => ?_) (fun h29 => swP_c (fun h30 => ?_) (fun h30 => swP_c (fun h31 => ?_) (fun h31 => swP_n ?_)))⟩
        · have hk := iEQ h20
          subst hk
          have hQ : LQ _ l m mi ml Q (pPlain k v p (t0 T 14 1) (j + 1)) := hQ
          exact hC _ _ _ _ (s_readPlain ho2 hR1 (by omega) r1.1 hX1 (ok_on hT (by decide)).1 (hQ.cv2 f1.rf (RF.none.cu (by omega)) r1.2 (fun _ _ h => ⟨Or.inl rfl, rfl, h⟩) (fun _ _ h => ⟨Or.inr rfl, rfl, h⟩)))
        · exact absurd z20 h20
        · exact absurd z20 h20
        · exact absurd z20 h20
        · exact absurd z20 h20
      · have hs : T 0 13 ≠ 0 := fun y => by
          have z1 : ¬ mi _ 3 ≤ 0 := z1
          rw [show mi _ 3 = nI (T 0 13) from e3, y] at z1
          exact absurd (by decide) z1
        rw [if_pos (show kd = 20 ∧ T 0 13 ≠ 0 from ⟨iEQ z20, hs⟩)] at hQ
        exact hC _ _ _ _ (s_refused hR hj ej (fun m9 g9 a9 b9 => ⟨Or.inl rfl, rfl, hQ m9 ml g9.rf RF.none a9 b9⟩))
    · have hz : T 0 (onC kd) ≠ 0 := fun y => by
        refine absurd ?_ z
        have := (hon.1 y).1
        rw [← e8] at this
        exact this
      rw [if_pos hz] at hQ
      exact hC _ _ _ _ (s_refused hR hj ej (fun m9 g9 a9 b9 => ⟨Or.inl rfl, rfl, hQ m9 ml g9.rf RF.none a9 b9⟩))
end
