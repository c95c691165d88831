/-! THE READER: a line, all lines (the class) -/
theorem R0_set (rd : Option Nat) (x : Nat) : cu (R0 rd) 68 (fun j => if j = 3 then some x else R0 rd 68 j) = R0 (some x) := by
  funext a b
  unfold cu
  by_cases ha : a = 68
  · rw [if_pos ha]
    unfold R0
    rw [if_pos ha, if_pos rfl]
    by_cases hb : b = 3
    · rw [if_pos hb, if_pos hb]
    · rw [if_neg hb, if_neg hb, if_neg hb]
  · rw [if_neg ha]
    unfold R0
    rw [if_neg ha, if_neg ha]
/-- what reading all must meet -/
def AQ (o : Nat) (mi : Nat → Nat → Int32) (ml : Nat → Nat → Int64) (Q : Option Value → Mm → Prop) (r : Except (Nat × Nat) ((Nat → Nat → Nat) × Nat)) : Prop := match r with
  | .error e => ∀ mi' ml', RF o mi mi' → RF o ml ml' → mi' 68 0 = nI e.1 → mi' 68 1 = nI e.2 → Q (some (.int (nI 0))) (mi', ml', R0 (some (6 + o)), 136)
  | .ok (T', n) => tOK T' → ∀ mi' ml', RF o mi mi' → RF o ml ml' → CX o T' n mi' ml' → mi' 68 0 = nI 0 → mi' 68 1 = -1 → Q (some (.int (nI 1))) (mi', ml', R0 (some (6 + o)), 136)
section
variable {d : Nat} {Q : Option Value → Mm → Prop} {T : Nat → Nat → Nat} {k v p : Nat → Nat} {m j : Nat} {mi : Nat → Nat → Int32} {ml : Nat → Nat → Int64} {o l : Nat}
set_option maxHeartbeats 2000000 in
theorem s_readLine (ho : o = 0 ∨ o = 31) (hR : RE k v p m mi) (hj : j ≤ m) (ej : mi 68 4 = nI j) (hX : CX o T l mi ml) (hT : tOK T) (hk1 : k j ≠ 0) (hQ : LQ o l m mi ml Q (pLine k v p T j)) : Cd (d + 6) k_Reader_readLine [.ref 68] (mi, ml, R0 (some (6 + o)), 136) Q := by
  unfold pLine at hQ
  have ho2 := ho
  have hkb := hR.2.2.2.1 j
  refine r_Reader_readLine (by decide) ?_
  rcases ho with rfl | rfl
  all_goals
    intro K Kl hK hC
    refine hC _ _ _ _ (s_kindHere hR hj ej ⟨fun z1 => ?_, fun z1 => ⟨fun z2 => ?_, fun z2 => ?_⟩⟩)
    · have z1 := iLT z1
      refine ⟨fun z3 => ?_, fun z3 => ⟨fun z4 => ?_, fun z4 => ⟨fun z5 => ?_, fun z5 => ?_⟩⟩⟩
      · have z3 := iEQ z3
        have hkd : k j = 20 ∨ (29 ≤ k j ∧ k j ≤ 32) := by omega
        have hb : pBody k v p T j = (if T 0 (onC (k j)) ≠ 0 then .error (3, p j) else if k j = 20 ∧ T 0 13 ≠ 0 then .error (4, p j) else pOncs k v p (t0 T (onC (k j)) 1) (k j) (j + 1)) := by
          unfold pBody
          rw [if_neg (show ¬ (21 ≤ k j ∧ k j ≤ 28) by omega), if_pos hkd]
        refine hC _ _ _ _ (s_readOnce ho2 hR hj ej hX hT hk1 hkd ?_)
        rw [← hb]
        cases hbd : pBody k v p T j with
        | error e =>
          rw [hbd] at hQ
          exact fun m1 l1 f1 f2 a b => ⟨fun z => absurd (by decide) z, fun _ => ⟨Or.inl rfl, rfl, hQ m1 l1 f1 f2 a b⟩⟩
        | ok r =>
          obtain ⟨T1, j1⟩ := r
          rw [hbd] at hQ
          have hQ : LQ _ l m mi ml Q (if k j1 = 4 then .ok (T1, j1 + 1) else .error (1, p j1)) := hQ
          have hkb1 := hR.2.2.2.1 j1
          refine fun hm m1 l1 f1 f2 hX1 hS1 => ⟨fun _ => hC _ _ _ _ (s_kindHere (hR.rf f1) hm hS1.1 ⟨fun z4 => ?_, fun z4 => ?_⟩), fun z => absurd z (by decide)⟩
          · have z4 := iEQ z4
            rw [if_pos z4] at hQ
            have hlt := hR.lt hm (by omega)
            exact hC _ _ _ _ (s_goOn (hR.rf f1) hlt hS1.1 (fun m2 g2 r2 _ => ⟨Or.inr rfl, rfl, hQ (by omega) m2 l1 (f1.trans g2.rf) f2 (hX1.f68 ho2 g2) (hS1.trans r2)⟩))
          · have z4 := iNE z4
            rw [if_neg z4] at hQ
            exact hC _ _ _ _ (s_refused (hR.rf f1) hm hS1.1 (fun m9 g9 a9 b9 => ⟨Or.inl rfl, rfl, hQ m9 l1 (f1.trans g9.rf) f2 a9 b9⟩))
      · have z3 := iNE z3; have z4 := iLT z4
        have hb : pBody k v p T j = .error (1, p j) := by
          unfold pBody
          rw [if_neg (show ¬ (21 ≤ k j ∧ k j ≤ 28) by omega), if_neg (show ¬ (k j = 20 ∨ (29 ≤ k j ∧ k j ≤ 32)) by omega)]
        rw [hb] at hQ
        exact hC _ _ _ _ (s_refused hR hj ej (fun m9 g9 a9 b9 => ⟨Or.inl rfl, rfl, hQ m9 ml g9.rf RF.none a9 b9⟩))
      · have z3 := iNE z3; have z4 := iNLT z4; have z5 := iLT z5
        have hb : pBody k v p T j = .error (1, p j) := by
          unfold pBody
          rw [if_neg (show ¬ (21 ≤ k j ∧ k j ≤ 28) by omega), if_neg (show ¬ (k j = 20 ∨ (29 ≤ k j ∧ k j ≤ 32)) by omega)]
        rw [hb] at hQ
        exact hC _ _ _ _ (s_refused hR hj ej (fun m9 g9 a9 b9 => ⟨Or.inl rfl, rfl, hQ m9 ml g9.rf RF.none a9 b9⟩))
      · have z3 := iNE z3; have z4 := iNLT z4; have z5 := iNLT z5
        have hkd : k j = 20 ∨ (29 ≤ k j ∧ k j ≤ 32) := by omega
        have hb : pBody k v p T j = (if T 0 (onC (k j)) ≠ 0 then .error (3, p j) else if k j = 20 ∧ T 0 13 ≠ 0 then .error (4, p j) else pOncs k v p (t0 T (onC (k j)) 1) (k j) (j + 1)) := by
          unfold pBody
          rw [if_neg (show ¬ (21 ≤ k j ∧ k j ≤ 28) by omega), if_pos hkd]
        refine hC _ _ _ _ (s_readOnce ho2 hR hj ej hX hT hk1 hkd ?_)
        rw [← hb]
        cases hbd : pBody k v p T j with
        | error e =>
          rw [hbd] at hQ
          exact fun m1 l1 f1 f2 a b => ⟨fun z => absurd (by decide) z, fun _ => ⟨Or.inl rfl, rfl, hQ m1 l1 f1 f2 a b⟩⟩
        | ok r =>
          obtain ⟨T1, j1⟩ := r
          rw [hbd] at hQ
          have hQ : LQ _ l m mi ml Q (if k j1 = 4 then .ok (T1, j1 + 1) else .error (1, p j1)) := hQ
          have hkb1 := hR.2.2.2.1 j1
          refine fun hm m1 l1 f1 f2 hX1 hS1 => ⟨fun _ => hC _ _ _ _ (s_kindHere (hR.rf f1) hm hS1.1 ⟨fun z4 => ?_, fun z4 => ?_⟩), fun z => absurd z (by decide)⟩
          · have z4 := iEQ z4
            rw [if_pos z4] at hQ
            have hlt := hR.lt hm (by omega)
            exact hC _ _ _ _ (s_goOn (hR.rf f1) hlt hS1.1 (fun m2 g2 r2 _ => ⟨Or.inr rfl, rfl, hQ (by omega) m2 l1 (f1.trans g2.rf) f2 (hX1.f68 ho2 g2) (hS1.trans r2)⟩))
          · have z4 := iNE z4
            rw [if_neg z4] at hQ
            exact hC _ _ _ _ (s_refused (hR.rf f1) hm hS1.1 (fun m9 g9 a9 b9 => ⟨Or.inl rfl, rfl, hQ m9 l1 (f1.trans g9.rf) f2 a9 b9⟩))
    · have z1 := iNLT z1; have z2 := iLT z2
      refine ⟨fun z3 => ?_, fun z3 => ⟨fun z4 => ?_, fun z4 => ⟨fun z5 => ?_, fun z5 => ?_⟩⟩⟩
      · have z3 := iEQ z3
        have hkd : k j = 20 ∨ (29 ≤ k j ∧ k j ≤ 32) := by omega
        have hb : pBody k v p T j = (if T 0 (onC (k j)) ≠ 0 then .error (3, p j) else if k j = 20 ∧ T 0 13 ≠ 0 then .error (4, p j) else pOncs k v p (t0 T (onC (k j)) 1) (k j) (j + 1)) := by
          unfold pBody
          rw [if_neg (show ¬ (21 ≤ k j ∧ k j ≤ 28) by omega), if_pos hkd]
        refine hC _ _ _ _ (s_readOnce ho2 hR hj ej hX hT hk1 hkd ?_)
        rw [← hb]
        cases hbd : pBody k v p T j with
        | error e =>
          rw [hbd] at hQ
          exact fun m1 l1 f1 f2 a b => ⟨fun z => absurd (by decide) z, fun _ => ⟨Or.inl rfl, rfl, hQ m1 l1 f1 f2 a b⟩⟩
        | ok r =>
          obtain ⟨T1, j1⟩ := r
          rw [hbd] at hQ
          have hQ : LQ _ l m mi ml Q (if k j1 = 4 then .ok (T1, j1 + 1) else .error (1, p j1)) := hQ
          have hkb1 := hR.2.2.2.1 j1
          refine fun hm m1 l1 f1 f2 hX1 hS1 => ⟨fun _ => hC _ _ _ _ (s_kindHere (hR.rf f1) hm hS1.1 ⟨fun z4 => ?_, fun z4 => ?_⟩), fun z => absurd z (by decide)⟩
          · have z4 := iEQ z4
            rw [if_pos z4] at hQ
            have hlt := hR.lt hm (by omega)
            exact hC _ _ _ _ (s_goOn (hR.rf f1) hlt hS1.1 (fun m2 g2 r2 _ => ⟨Or.inr rfl, rfl, hQ (by omega) m2 l1 (f1.trans g2.rf) f2 (hX1.f68 ho2 g2) (hS1.trans r2)⟩))
          · have z4 := iNE z4
            rw [if_neg z4] at hQ
            exact hC _ _ _ _ (s_refused (hR.rf f1) hm hS1.1 (fun m9 g9 a9 b9 => ⟨Or.inl rfl, rfl, hQ m9 l1 (f1.trans g9.rf) f2 a9 b9⟩))
      · have z3 := iNE z3; have z4 := iLT z4
        have hb : pBody k v p T j = .error (1, p j) := by
          unfold pBody
          rw [if_neg (show ¬ (21 ≤ k j ∧ k j ≤ 28) by omega), if_neg (show ¬ (k j = 20 ∨ (29 ≤ k j ∧ k j ≤ 32)) by omega)]
        rw [hb] at hQ
        exact hC _ _ _ _ (s_refused hR hj ej (fun m9 g9 a9 b9 => ⟨Or.inl rfl, rfl, hQ m9 ml g9.rf RF.none a9 b9⟩))
      · have z3 := iNE z3; have z4 := iNLT z4; have z5 := iLT z5
        have hb : pBody k v p T j = .error (1, p j) := by
          unfold pBody
          rw [if_neg (show ¬ (21 ≤ k j ∧ k j ≤ 28) by omega), if_neg (show ¬ (k j = 20 ∨ (29 ≤ k j ∧ k j ≤ 32)) by omega)]
        rw [hb] at hQ
        exact hC _ _ _ _ (s_refused hR hj ej (fun m9 g9 a9 b9 => ⟨Or.inl rfl, rfl, hQ m9 ml g9.rf RF.none a9 b9⟩))
      · have z3 := iNE z3; have z4 := iNLT z4; have z5 := iNLT z5
        have hkd : k j = 20 ∨ (29 ≤ k j ∧ k j ≤ 32) := by omega
        have hb : pBody k v p T j = (if T 0 (onC (k j)) ≠ 0 then .error (3, p j) else if k j = 20 ∧ T 0 13 ≠ 0 then .error (4, p j) else pOncs k v p (t0 T (onC (k j)) 1) (k j) (j + 1)) := by
          unfold pBody
          rw [if_neg (show ¬ (21 ≤ k j ∧ k j ≤ 28) by omega), if_pos hkd]
        refine hC _ _ _ _ (s_readOnce ho2 hR hj ej hX hT hk1 hkd ?_)
        rw [← hb]
        cases hbd : pBody k v p T j with
        | error e =>
          rw [hbd] at hQ
          exact fun m1 l1 f1 f2 a b => ⟨fun z => absurd (by decide) z, fun _ => ⟨Or.inl rfl, rfl, hQ m1 l1 f1 f2 a b⟩⟩
        | ok r =>
          obtain ⟨T1, j1⟩ := r
          rw [hbd] at hQ
          have hQ : LQ _ l m mi ml Q (if k j1 = 4 then .ok (T1, j1 + 1) else .error (1, p j1)) := hQ
          have hkb1 := hR.2.2.2.1 j1
          refine fun hm m1 l1 f1 f2 hX1 hS1 => ⟨fun _ => hC _ _ _ _ (s_kindHere (hR.rf f1) hm hS1.1 ⟨fun z4 => ?_, fun z4 => ?_⟩), fun z => absurd z (by decide)⟩
          · have z4 := iEQ z4
            rw [if_pos z4] at hQ
            have hlt := hR.lt hm (by omega)
            exact hC _ _ _ _ (s_goOn (hR.rf f1) hlt hS1.1 (fun m2 g2 r2 _ => ⟨Or.inr rfl, rfl, hQ (by omega) m2 l1 (f1.trans g2.rf) f2 (hX1.f68 ho2 g2) (hS1.trans r2)⟩))
          · have z4 := iNE z4
            rw [if_neg z4] at hQ
            exact hC _ _ _ _ (s_refused (hR.rf f1) hm hS1.1 (fun m9 g9 a9 b9 => ⟨Or.inl rfl, rfl, hQ m9 l1 (f1.trans g9.rf) f2 a9 b9⟩))
    · have z1 := iNLT z1; have z2 := iNLT z2
      have hkd : 21 ≤ k j ∧ k j ≤ 28 := by omega
      have hb : pBody k v p T j = (if fulN T (k j) then .error (2, p j) else pList k v p T (k j) (j + 1)) := if_pos hkd
      refine hC _ _ _ _ (s_readListed ho2 hR hj ej hX hT hk1 hkd ?_)
      rw [← hb]
      cases hbd : pBody k v p T j with
      | error e =>
        rw [hbd] at hQ
        exact fun m1 l1 f1 f2 a b => ⟨fun z => absurd (by decide) z, fun _ => ⟨Or.inl rfl, rfl, hQ m1 l1 f1 f2 a b⟩⟩
      | ok r =>
        obtain ⟨T1, j1⟩ := r
        rw [hbd] at hQ
        have hQ : LQ _ l m mi ml Q (if k j1 = 4 then .ok (T1, j1 + 1) else .error (1, p j1)) := hQ
        have hkb1 := hR.2.2.2.1 j1
        refine fun hm m1 l1 f1 f2 hX1 hS1 => ⟨fun _ => hC _ _ _ _ (s_kindHere (hR.rf f1) hm hS1.1 ⟨fun z4 => ?_, fun z4 => ?_⟩), fun z => absurd z (by decide)⟩
        · have z4 := iEQ z4
          rw [if_pos z4] at hQ
          have hlt := hR.lt hm (by omega)
          exact hC _ _ _ _ (s_goOn (hR.rf f1) hlt hS1.1 (fun m2 g2 r2 _ => ⟨Or.inr rfl, rfl, hQ (by omega) m2 l1 (f1.trans g2.rf) f2 (hX1.f68 ho2 g2) (hS1.trans r2)⟩))
        · have z4 := iNE z4
          rw [if_neg z4] at hQ
          exact hC _ _ _ _ (s_refused (hR.rf f1) hm hS1.1 (fun m9 g9 a9 b9 => ⟨Or.inl rfl, rfl, hQ m9 l1 (f1.trans g9.rf) f2 a9 b9⟩))
set_option maxHeartbeats 2000000 in
theorem s_readInto {rd : Option Nat} (ho : o = 0 ∨ o = 31) (hR : RE k v p m mi) (hQ : AQ o mi ml Q (pAll k v p 701 tI 0 0)) : Cd (d + 8) k_Reader_readInto [.ref 68, .ref (6 + o)] (mi, ml, R0 rd, 136) Q := by
  have ho2 := ho
  have h7 := hR.1
  have hkk : ∀ i, k i ≤ 45 := fun i => (hR.2.2.2.1 i).1
  have lp : ∀ f T j l m1 l1, 701 ≤ f + j → l ≤ j → j ≤ m → RF o mi m1 → RF o ml l1 → CX o T l m1 l1 → tOK T → m1 68 4 = nI j → m1 68 0 = nI 0 → m1 68 1 = -1 → AQ o mi ml Q (pAll k v p f T j l) → GoM (d + 7) k_Reader_readInto 136 Q 27 [.ref 68, .ref (6 + o)] [] (m1, l1, R0 (some (6 + o)), 136) := by
    intro f
    induction f with
    | zero => intro T j l m1 l1 h1 h2 h3; omega
    | succ f ih =>
      intro T j l m1 l1 h1 h2 h3 f1 f2 hX hT e4 e0 e1 hQ
      have hR1 := hR.rf f1
      have el := hX.2.2.1
      have hkb := hR.2.2.2.1 j
      unfold pAll at hQ
      have stop : k j = 0 → Q (some (.int (nI 1))) (m1, l1, R0 (some (6 + o)), 136) := fun hz => by
        rw [if_pos hz] at hQ
        exact hQ hT m1 l1 f1 f2 hX e0 e1
      refine g_Reader_readInto ?_
      rcases ho with rfl | rfl
      all_goals
        intro K Kl hK hC
        refine ⟨fun z => ⟨Or.inr rfl, rfl, stop ?_⟩, fun z => hC _ _ _ _ (s_kindHere hR1 h3 e4 ⟨fun z2 => ⟨Or.inr rfl, rfl, stop (iZ z2)⟩, fun z2 => ?_⟩)⟩
        · have z := jLE z rfl el
          rw [show j = m by omega]
          exact hR.2.1
        · have z2 := iNZ z2
          rw [if_neg z2] at hQ
          refine hC _ _ _ _ (s_readLine ho2 hR1 h3 e4 hX hT z2 ?_)
          cases hl : pLine k v p T j with
          | error e =>
            rw [hl] at hQ
            exact fun m2 l2 g1 g2 a b => ⟨fun y => absurd (by decide) y, fun _ => ⟨Or.inl rfl, rfl, hQ m2 l2 (f1.trans g1) (f2.trans g2) a b⟩⟩
          | ok r =>
            obtain ⟨T1, j1⟩ := r
            rw [hl] at hQ
            have hok := line_ok hT hkk hR.2.2.2.2.1 hl
            refine fun hm m2 l2 g1 g2 hX2 hS2 => ⟨fun _ => hK _ _ _ _ (ih T1 j1 (l + 1) _ l2 (by omega) (by omega) hm ((f1.trans g1).cu (by omega)) (f2.trans g2) ⟨⟨hX2.1.wide, hX2.1.high, hX2.1.owners, hX2.1.purse, hX2.1.seed, hX2.1.rain, hX2.1.oname, hX2.1.price, hX2.1.cut, hX2.1.own, hX2.1.cutOn, hX2.1.fee, hX2.1.glyphs, hX2.1.words, hX2.1.gl, hX2.1.gs, hX2.1.so, hX2.1.wn, hX2.1.wlen, hX2.1.ww, hX2.1.hills, hX2.1.links, hX2.1.hn, hX2.1.sg, hX2.1.l1, hX2.1.l2, hX2.1.l3, hX2.1.colours, hX2.1.signs, hX2.1.cname, hX2.1.cm, hX2.1.sname, hX2.1.sl, hX2.1.sr, hX2.1.knots, hX2.1.kk, hX2.1.kn⟩, hX2.2.1, inc1 hX2.2.2.1, hX2.2.2.2⟩ hok.1 hS2.1 (hS2.2.1.trans e0) (hS2.2.2.trans e1) hQ), fun y => absurd y (by decide)⟩
  have key : ∀ P : Option Value → Mm → Prop, (∀ m1 l1, RF o mi m1 → RF o ml l1 → CX o tI 0 m1 l1 → P none (m1, l1, R0 (some (6 + o)), 136)) → Cd (d + 7) k_Told_clear [.ref (6 + o)] (mi, ml, cu (R0 rd) 68 (fun j => if j = 3 then some (6 + o) else R0 rd 68 j), 136) P := fun P hP => by
    rw [R0_set]
    exact s_Told_clear ho (fun m1 l1 f1 _ f2 hX => hP m1 l1 f1 f2 hX)
  have lp0 := lp 701 tI 0 0
  refine r_Reader_readInto (by decide) ?_
  rcases ho with rfl | rfl
  all_goals
    intro K Kl hK hC
    refine hC _ _ _ _ (key _ (fun m1 l1 f1 f2 hX => ?_))
    exact hK _ _ _ _ (lp0 _ l1 (by omega) (by omega) (Nat.zero_le _) (((f1.cu (by omega)).cu (by omega)).cu (by omega)) f2 (((hX.f68 ho2 (Fr.cu Fr.none rfl)).f68 ho2 (Fr.cu Fr.none rfl)).f68 ho2 (Fr.cu Fr.none rfl)) tI_ok rfl rfl rfl hQ)
end
