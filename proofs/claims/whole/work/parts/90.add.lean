/-! TOLD: what is added (the class) -/
theorem ext1 {g : Nat → Int32} {f : Nat → Nat} {n x : Nat} {X : Int32} (h : ∀ i, i < n → g i = nI (f i)) (hX : X = nI x) : ∀ i, i < n + 1 → upd g n X i = nI (if i = n then x else f i) := fun i hi => by
  by_cases e : i = n
  · rw [if_pos e, e, pk_us, hX]
  · rw [if_neg e, pk_un e]
    exact h i (by omega)
theorem inc1 {x : Int32} {n : Nat} (h : x = nI n) : x + nI 1 = nI (n + 1) := by rw [h, nI_add]
section
variable {d : Nat} {Q : Option Value → Mm → Prop} {T : Nat → Nat → Nat} {mi : Nat → Nat → Int32} {ml : Nat → Nat → Int64} {rd : Option Nat} {o l : Nat}
theorem fee_ow (hw : wfT T) {nm pr ct : Nat} (f : Nat) : feeN (aOw T nm pr ct) f = feeN T f := by
  show (if T 4 f = 0 then 1 else (if T 4 f - 1 = T 0 2 then pr else T 2 (T 4 f - 1))) = (if T 4 f = 0 then 1 else T 2 (T 4 f - 1))
  by_cases hz : T 4 f = 0
  · rw [if_pos hz, if_pos hz]
  · rw [if_neg hz, if_neg hz, if_neg (by have := hw.ow f; omega)]
theorem cut_ow (hw : wfT T) {nm pr ct : Nat} (f : Nat) : (if T 4 f = 0 then -1 else nI (T 3 (T 4 f - 1))) = (if aOw T nm pr ct 4 f = 0 then -1 else nI (aOw T nm pr ct 3 (aOw T nm pr ct 4 f - 1))) := by
  show _ = (if T 4 f = 0 then -1 else nI (if T 4 f - 1 = T 0 2 then ct else T 3 (T 4 f - 1)))
  by_cases hz : T 4 f = 0
  · rw [if_pos hz, if_pos hz]
  · rw [if_neg hz, if_neg hz, if_neg (by have := hw.ow f; omega)]
theorem s_addOwner (ho : o = 0 ∨ o = 31) (hX : CX o T l mi ml) (hw : wfT T) (hlt : T 0 2 < 5) {nm pr ct : Nat} (hQ : ∀ mi', RF o mi mi' → mi' 68 = mi 68 → CX o (aOw T nm pr ct) l mi' ml → Q none (mi', ml, R0 rd, 136)) : Cd (d + 1) k_Told_addOwner [.ref (6 + o), .int (nI nm), .int (nI pr), .int (nI ct)] (mi, ml, R0 rd, 136) Q := by
  obtain ⟨h, x3, x4, x8⟩ := hX
  have e : mi (6 + o) 2 = nI (T 0 2) := h.owners
  refine r_Told_addOwner (by decide) ?_
  rcases ho with rfl | rfl
  all_goals
    intro K Kl hK hC
    refine ⟨fun z => absurd (jLE z) (by omega), fun _ => ⟨T 0 2, hlt, e, T 0 2, hlt, e, T 0 2, hlt, e, rfl, hQ _ (RF.cu (RF.cu (RF.cu (RF.cu RF.none (by omega)) (by omega)) (by omega)) (by omega)) rfl ⟨⟨h.wide, h.high, inc1 e, h.purse, h.seed, h.rain, ext1 h.oname rfl, ext1 h.price rfl, ext1 h.cut rfl, h.own, fun f hf => (h.cutOn f hf).trans (cut_ow hw f), fun f hf => (h.fee f hf).trans (by rw [fee_ow hw]), h.glyphs, h.words, h.gl, h.gs, h.so, h.wn, h.wlen, h.ww, h.hills, h.links, h.hn, h.sg, h.l1, h.l2, h.l3, h.colours, h.signs, h.cname, h.cm, h.sname, h.sl, h.sr, h.knots, h.kk, h.kn⟩, x3, x4, x8⟩⟩⟩
theorem shp_gl {c s : Nat} (hnew : ¬ nmF (T 5) (T 0 3) c < T 0 3) (x : Nat) : shpN (aGl T c s) x = if x = c then s else shpN T x := by
  show (if fnd (fun g => (if g = T 0 3 then c else T 5 g) == x) (T 0 3 + 1) < T 0 3 + 1 then (if fnd (fun g => (if g = T 0 3 then c else T 5 g) == x) (T 0 3 + 1) = T 0 3 then s else T 6 (fnd (fun g => (if g = T 0 3 then c else T 5 g) == x) (T 0 3 + 1))) else 0) = _
  have hle := fnd_le (fun g => T 5 g == x) (T 0 3)
  by_cases hx : x = c
  · subst hx
    have hall : ∀ i, i < T 0 3 → (T 5 i == x) = false := fun i hi => by
      unfold nmF at hnew
      refine fnd_min (p := fun g => T 5 g == x) (n := T 0 3) (i := i) ?_
      omega
    rw [fnd_at (j := T 0 3) (by omega) (by simp) (fun i hi => by rw [if_neg (by omega)]; exact hall i hi), if_pos (by omega), if_pos rfl, if_pos rfl]
  · rw [if_neg hx]
    unfold shpN
    by_cases hf : fnd (fun g => T 5 g == x) (T 0 3) < T 0 3
    · have h1 := fnd_hit hf
      rw [fnd_at (j := fnd (fun g => T 5 g == x) (T 0 3)) (by omega) (by rw [if_neg (by omega)]; exact h1) (fun i hi => by rw [if_neg (by omega)]; exact fnd_min (p := fun g => T 5 g == x) hi), if_pos (by omega), if_neg (by omega), if_pos hf]
    · rw [if_neg hf, fnd_none (fun i hi => ?_), if_neg (by omega)]
      by_cases he : i = T 0 3
      · rw [if_pos he]
        simp
        omega
      · rw [if_neg he]
        exact fnd_min (p := fun g => T 5 g == x) (n := T 0 3) (by omega)
theorem s_addGlyph (ho : o = 0 ∨ o = 31) (hX : CX o T l mi ml) (hlt : T 0 3 < 9) {c s : Nat} (hc : c < 32) (hnew : ¬ nmF (T 5) (T 0 3) c < T 0 3) (hQ : ∀ mi', RF o mi mi' → mi' 68 = mi 68 → CX o (aGl T c s) l mi' ml → Q none (mi', ml, R0 rd, 136)) : Cd (d + 1) k_Script_addGlyph [.ref (13 + o), .int (nI c), .int (nI s)] (mi, ml, R0 rd, 136) Q := by
  obtain ⟨h, x3, x4, x8⟩ := hX
  have e : mi (13 + o) 0 = nI (T 0 3) := h.glyphs
  have ec : nI c &&& nI 31 = nI c := by rw [and31 (by omega), Nat.mod_eq_of_lt hc]
  refine r_Script_addGlyph (by decide) ?_
  rcases ho with rfl | rfl
  all_goals
    intro K Kl hK hC
    refine ⟨fun z => absurd (jLE z) (by omega), fun _ => ⟨T 0 3, hlt, e, T 0 3, hlt, e, c, hc, ec, rfl, hQ _ (RF.cu (RF.cu (RF.cu (RF.cu RF.none (by omega)) (by omega)) (by omega)) (by omega)) rfl ⟨⟨h.wide, h.high, h.owners, h.purse, h.seed, h.rain, h.oname, h.price, h.cut, h.own, h.cutOn, h.fee, inc1 e, h.words, ext1 h.gl rfl, ext1 h.gs rfl, fun a ha => ?_, h.wn, h.wlen, h.ww, h.hills, h.links, h.hn, h.sg, h.l1, h.l2, h.l3, h.colours, h.signs, h.cname, h.cm, h.sname, h.sl, h.sr, h.knots, h.kk, h.kn⟩, x3, x4, x8⟩⟩⟩
    rw [shp_gl hnew]
    by_cases he : a = c
    · rw [he, if_pos rfl]; exact pk_us
    · rw [if_neg he]; exact (pk_un he).trans (h.so a ha)
theorem s_addWord (ho : o = 0 ∨ o = 31) (hX : CX o T l mi ml) (hlt : T 0 4 < 6) {nm w : Nat} (hn : nm < 2 ^ 30) (hQ : ∀ mi', RF o mi mi' → mi' 68 = mi 68 → CX o (aWd T nm w) l mi' ml → Q none (mi', ml, R0 rd, 136)) : Cd (d + 2) k_Script_addWord [.ref (13 + o), .int (nI nm), .int (nI w)] (mi, ml, R0 rd, 136) Q := by
  obtain ⟨h, x3, x4, x8⟩ := hX
  have e : mi (13 + o) 1 = nI (T 0 4) := h.words
  have elen : ∀ i, (if i = T 0 4 then lenN nm else lenN (T 7 i)) = lenN (if i = T 0 4 then nm else T 7 i) := fun i => by split <;> rfl
  have lp : ∀ j, j ≤ 6 → (∀ i, i < j → letN nm i ≠ 0) → GoM (d + 1) k_Script_addWord 136 Q 12 [.ref (13 + o), .int (nI nm), .int (nI w), .int (nI j)] [] (mi, ml, R0 rd, 136) := by
    refine upto ?_ ?_
    · intro hall
      have hL : lenN nm = 6 := fnd_none (fun i hi => by simp [hall i hi])
      refine g_Script_addWord ?_
      rcases ho with rfl | rfl
      all_goals
        intro K Kl hK hC
        refine ⟨fun _ => ⟨T 0 4, hlt, e, T 0 4, hlt, e, T 0 4, hlt, e, rfl, hQ _ (RF.cu (RF.cu (RF.cu (RF.cu RF.none (by omega)) (by omega)) (by omega)) (by omega)) rfl ⟨⟨h.wide, h.high, h.owners, h.purse, h.seed, h.rain, h.oname, h.price, h.cut, h.own, h.cutOn, h.fee, h.glyphs, inc1 e, h.gl, h.gs, h.so, ext1 h.wn rfl, fun i hi => (ext1 (x := lenN nm) h.wlen (by rw [hL]) i hi).trans (congrArg nI (elen i)), ext1 h.ww rfl, h.hills, h.links, h.hn, h.sg, h.l1, h.l2, h.l3, h.colours, h.signs, h.cname, h.cm, h.sname, h.sl, h.sr, h.knots, h.kk, h.kn⟩, x3, x4, x8⟩⟩, fun z => absurd (iNLE z) (by omega)⟩
    · intro j hj ih hall
      have hlt2 := letN_lt nm j
      refine g_Script_addWord ?_
      rcases ho with rfl | rfl
      all_goals
        intro K Kl hK hC
        refine ⟨fun z => absurd (iLE z) (by omega), fun _ => hC _ _ _ _ (s_letterAt hj hn ⟨fun z => ?_, fun z => ?_⟩)⟩
        · have hL : lenN nm = j := fnd_at hj (by simp [iZ z]) (fun i hi => by simp [hall i hi])
          exact ⟨T 0 4, hlt, e, T 0 4, hlt, e, T 0 4, hlt, e, rfl, hQ _ (RF.cu (RF.cu (RF.cu (RF.cu RF.none (by omega)) (by omega)) (by omega)) (by omega)) rfl ⟨⟨h.wide, h.high, h.owners, h.purse, h.seed, h.rain, h.oname, h.price, h.cut, h.own, h.cutOn, h.fee, h.glyphs, inc1 e, h.gl, h.gs, h.so, ext1 h.wn rfl, fun i hi => (ext1 (x := lenN nm) h.wlen (by rw [hL]) i hi).trans (congrArg nI (elen i)), ext1 h.ww rfl, h.hills, h.links, h.hn, h.sg, h.l1, h.l2, h.l3, h.colours, h.signs, h.cname, h.cm, h.sname, h.sl, h.sr, h.knots, h.kk, h.kn⟩, x3, x4, x8⟩⟩
        · have ih := ih (lt_s hall (iNZ z))
          rw [nI1 j] at ih
          exact hK _ _ _ _ ih
  refine r_Script_addWord (by decide) ?_
  have l0 := lp 0 (Nat.zero_le _) lt_0
  rcases ho with rfl | rfl
  all_goals
    intro K Kl hK hC
    exact ⟨fun _ => hK _ _ _ _ l0, fun z => absurd (jNLT z) (by omega)⟩
theorem s_addHill (ho : o = 0 ∨ o = 31) (hX : CX o T l mi ml) (hlt : T 0 5 < 3) {nm s : Nat} (hQ : ∀ mi', RF o mi mi' → mi' 68 = mi 68 → CX o (aHl T nm s) l mi' ml → Q none (mi', ml, R0 rd, 136)) : Cd (d + 1) k_Hills_addHill [.ref (20 + o), .int (nI nm), .int (nI (34 + s))] (mi, ml, R0 rd, 136) Q := by
  obtain ⟨h, x3, x4, x8⟩ := hX
  have e : mi (20 + o) 0 = nI (T 0 5) := h.hills
  have esg : ∀ i, (if i = T 0 5 then 34 + s else 34 + T 10 i) = 34 + (if i = T 0 5 then s else T 10 i) := fun i => by split <;> rfl
  refine r_Hills_addHill (by decide) ?_
  rcases ho with rfl | rfl
  all_goals
    intro K Kl hK hC
    refine ⟨fun z => absurd (jLE z) (by omega), fun _ => ⟨T 0 5, hlt, e, T 0 5, hlt, e, rfl, hQ _ (RF.cu (RF.cu (RF.cu RF.none (by omega)) (by omega)) (by omega)) rfl ⟨⟨h.wide, h.high, h.owners, h.purse, h.seed, h.rain, h.oname, h.price, h.cut, h.own, h.cutOn, h.fee, h.glyphs, h.words, h.gl, h.gs, h.so, h.wn, h.wlen, h.ww, inc1 e, h.links, ext1 h.hn rfl, fun i hi => (ext1 (f := fun i => 34 + T 10 i) (x := 34 + s) h.sg rfl i hi).trans (congrArg nI (esg i)), h.l1, h.l2, h.l3, h.colours, h.signs, h.cname, h.cm, h.sname, h.sl, h.sr, h.knots, h.kk, h.kn⟩, x3, x4, x8⟩⟩⟩
theorem s_addColour (ho : o = 0 ∨ o = 31) (hX : CX o T l mi ml) (hlt : T 0 6 < 4) {nm m : Nat} (hQ : ∀ mi', RF o mi mi' → mi' 68 = mi 68 → CX o (aCo T nm m) l mi' ml → Q none (mi', ml, R0 rd, 136)) : Cd (d + 1) k_Washing_addColour [.ref (26 + o), .int (nI nm), .int (nI m)] (mi, ml, R0 rd, 136) Q := by
  obtain ⟨h, x3, x4, x8⟩ := hX
  have e : mi (26 + o) 0 = nI (T 0 6) := h.colours
  refine r_Washing_addColour (by decide) ?_
  rcases ho with rfl | rfl
  all_goals
    intro K Kl hK hC
    refine ⟨fun z => absurd (jLE z) (by omega), fun _ => ⟨T 0 6, hlt, e, T 0 6, hlt, e, rfl, hQ _ (RF.cu (RF.cu (RF.cu RF.none (by omega)) (by omega)) (by omega)) rfl ⟨⟨h.wide, h.high, h.owners, h.purse, h.seed, h.rain, h.oname, h.price, h.cut, h.own, h.cutOn, h.fee, h.glyphs, h.words, h.gl, h.gs, h.so, h.wn, h.wlen, h.ww, h.hills, h.links, h.hn, h.sg, h.l1, h.l2, h.l3, inc1 e, h.signs, ext1 h.cname rfl, ext1 h.cm rfl, h.sname, h.sl, h.sr, h.knots, h.kk, h.kn⟩, x3, x4, x8⟩⟩⟩
theorem lk_0 {x y z i : Nat} (hi : i < T 0 8 + 1) : aLk T x y z 16 (3 * i) = if i = T 0 8 then x else T 16 (3 * i) := by
  show (if 3 * i = 3 * T 0 8 + 2 then z else if 3 * i = 3 * T 0 8 + 1 then y else if 3 * i = 3 * T 0 8 then x else T 16 (3 * i)) = _
  rw [if_neg (by omega), if_neg (by omega)]
  by_cases e : i = T 0 8
  · rw [if_pos (by omega), if_pos e]
  · rw [if_neg (by omega), if_neg e]
theorem lk_1 {x y z i : Nat} (hi : i < T 0 8 + 1) : aLk T x y z 16 (3 * i + 1) = if i = T 0 8 then y else T 16 (3 * i + 1) := by
  show (if 3 * i + 1 = 3 * T 0 8 + 2 then z else if 3 * i + 1 = 3 * T 0 8 + 1 then y else if 3 * i + 1 = 3 * T 0 8 then x else T 16 (3 * i + 1)) = _
  rw [if_neg (by omega)]
  by_cases e : i = T 0 8
  · rw [if_pos (by omega), if_pos e]
  · rw [if_neg (by omega), if_neg (by omega), if_neg e]
theorem lk_2 {x y z i : Nat} (hi : i < T 0 8 + 1) : aLk T x y z 16 (3 * i + 2) = if i = T 0 8 then z else T 16 (3 * i + 2) := by
  show (if 3 * i + 2 = 3 * T 0 8 + 2 then z else if 3 * i + 2 = 3 * T 0 8 + 1 then y else if 3 * i + 2 = 3 * T 0 8 then x else T 16 (3 * i + 2)) = _
  by_cases e : i = T 0 8
  · rw [if_pos (by omega), if_pos e]
  · rw [if_neg (by omega), if_neg (by omega), if_neg (by omega), if_neg e]
theorem s_addLink (ho : o = 0 ∨ o = 31) (hX : CX o T l mi ml) (hlt : T 0 8 < 3) {x y z : Nat} (hQ : ∀ mi', RF o mi mi' → mi' 68 = mi 68 → CX o (aLk T x y z) l mi' ml → Q none (mi', ml, R0 rd, 136)) : Cd (d + 1) k_Hills_addLink [.ref (20 + o), .int (nI x), .int (nI y), .int (nI z)] (mi, ml, R0 rd, 136) Q := by
  obtain ⟨h, x3, x4, x8⟩ := hX
  have e : mi (20 + o) 1 = nI (T 0 8) := h.links
  refine r_Hills_addLink (by decide) ?_
  rcases ho with rfl | rfl
  all_goals
    intro K Kl hK hC
    refine ⟨fun z => absurd (jLE z) (by omega), fun _ => ⟨T 0 8, hlt, e, T 0 8, hlt, e, T 0 8, hlt, e, rfl, hQ _ (RF.cu (RF.cu (RF.cu (RF.cu RF.none (by omega)) (by omega)) (by omega)) (by omega)) rfl ⟨⟨h.wide, h.high, h.owners, h.purse, h.seed, h.rain, h.oname, h.price, h.cut, h.own, h.cutOn, h.fee, h.glyphs, h.words, h.gl, h.gs, h.so, h.wn, h.wlen, h.ww, h.hills, inc1 e, h.hn, h.sg, fun i hi => (ext1 h.l1 rfl i hi).trans (congrArg nI (lk_0 hi).symm), fun i hi => (ext1 h.l2 rfl i hi).trans (congrArg nI (lk_1 hi).symm), fun i hi => (ext1 h.l3 rfl i hi).trans (congrArg nI (lk_2 hi).symm), h.colours, h.signs, h.cname, h.cm, h.sname, h.sl, h.sr, h.knots, h.kk, h.kn⟩, x3, x4, x8⟩⟩⟩
end
