/-! TOLD: signs, fields, knots; cleared (the class) -/
theorem sumN_cg {f g : Nat → Nat} {n : Nat} (h : ∀ i, i < n → f i = g i) : sumN f n = sumN g n := by
  induction n with
  | zero => rfl
  | succ n ih =>
    unfold sumN
    rw [ih (fun i hi => h i (by omega)), h n (by omega)]
/-- fields marked by m are o's -/
def mkT (T : Nat → Nat → Nat) (w : Nat) (m : Nat → Bool) : Nat → Nat → Nat := fun a f => if a = 4 then (if m f then w + 1 else T 4 f) else T a f
section
variable {d : Nat} {Q : Option Value → Mm → Prop} {T : Nat → Nat → Nat} {mi : Nat → Nat → Int32} {ml : Nat → Nat → Int64} {rd : Option Nat} {o l : Nat}
theorem row_sg (hw : wfT T) {nm len : Nat} {cs : Nat → Nat} {i : Nat} (hi : i < T 0 7 + 1) : (if i = T 0 7 then sumN (fun k => cs k * 4 ^ k) len else rowN T i) = rowN (aSg T nm len cs) i := by
  show _ = sumN (fun k => (if 4 * T 0 7 ≤ 4 * i + k then cs (4 * i + k - 4 * T 0 7) else T 15 (4 * i + k)) * 4 ^ k) (if i = T 0 7 then len else T 14 i)
  by_cases e : i = T 0 7
  · rw [if_pos e, if_pos e]
    refine sumN_cg (fun k hk => ?_)
    rw [if_pos (by omega), show 4 * i + k - 4 * T 0 7 = k by omega]
  · rw [if_neg e, if_neg e]
    have := hw.sl i (by omega)
    refine sumN_cg (fun k hk => ?_)
    rw [if_neg (by omega)]
theorem s_addSign (ho : o = 0 ∨ o = 31) (hX : CX o T l mi ml) (hw : wfT T) (hlt : T 0 7 < 5) {nm len : Nat} {cs : Nat → Nat} {X : Int32} (hX2 : X = nI (sumN (fun k => cs k * 4 ^ k) len)) (hQ : ∀ mi', RF o mi mi' → mi' 68 = mi 68 → CX o (aSg T nm len cs) l mi' ml → Q none (mi', ml, R0 rd, 136)) : Cd (d + 1) k_Washing_addSign [.ref (26 + o), .int (nI nm), .int (nI len), .int X] (mi, ml, R0 rd, 136) Q := by
  obtain ⟨h, x3, x4, x8⟩ := hX
  have e : mi (26 + o) 1 = nI (T 0 7) := h.signs
  refine r_Washing_addSign (by decide) ?_
  rcases ho with rfl | rfl
  all_goals
    intro K Kl hK hC
    refine ⟨fun z => absurd (jLE z) (by omega), fun _ => ⟨T 0 7, hlt, e, T 0 7, hlt, e, T 0 7, hlt, e, rfl, hQ _ (RF.cu (RF.cu (RF.cu (RF.cu RF.none (by omega)) (by omega)) (by omega)) (by omega)) rfl ⟨⟨h.wide, h.high, h.owners, h.purse, h.seed, h.rain, h.oname, h.price, h.cut, h.own, h.cutOn, h.fee, h.glyphs, h.words, h.gl, h.gs, h.so, h.wn, h.wlen, h.ww, h.hills, h.links, h.hn, h.sg, h.l1, h.l2, h.l3, h.colours, inc1 e, h.cname, h.cm, ext1 h.sname rfl, ext1 h.sl rfl, fun i hi => (ext1 h.sr hX2 i hi).trans (congrArg nI (row_sg hw hi)), h.knots, h.kk, h.kn⟩, x3, x4, x8⟩⟩⟩
theorem s_hasOwner2 (ho : o = 0 ∨ o = 31) (hT : CT o T mi) (hw : wfT T) {w : Nat} (hwd : w < T 0 2) (h1 : Q (some (.int (nI 1))) (mi, ml, R0 rd, 136)) : Cd (d + 1) k_Told_hasOwner [.ref (6 + o), .int (nI w)] (mi, ml, R0 rd, 136) Q := by
  have hf := hw.own5
  have e : mi (6 + o) 2 = nI (T 0 2) := hT.owners
  refine r_Told_hasOwner (by decide) ?_
  rcases ho with rfl | rfl
  all_goals
    intro K Kl hK hC
    exact ⟨fun z => (iNN z).elim, fun _ => ⟨fun z => absurd (jLE z) (by omega), fun _ => ⟨fun z => absurd (iLE z) (by omega), fun _ => ⟨Or.inr rfl, rfl, h1⟩⟩⟩⟩
theorem mk_fee (w : Nat) (m : Nat → Bool) (f : Nat) : feeN (mkT T w m) f = if m f then T 2 w else feeN T f := by
  show (if (if m f then w + 1 else T 4 f) = 0 then 1 else T 2 ((if m f then w + 1 else T 4 f) - 1)) = _
  by_cases hm : m f = true
  · rw [if_pos hm, if_pos hm, if_neg (by omega), Nat.add_sub_cancel]
  · rw [if_neg hm, if_neg hm]
    rfl
theorem mk_cut (w : Nat) (m : Nat → Bool) (f : Nat) : (if mkT T w m 4 f = 0 then -1 else nI (mkT T w m 3 (mkT T w m 4 f - 1))) = if m f then nI (T 3 w) else if T 4 f = 0 then -1 else nI (T 3 (T 4 f - 1)) := by
  show (if (if m f then w + 1 else T 4 f) = 0 then -1 else nI (T 3 ((if m f then w + 1 else T 4 f) - 1))) = _
  by_cases hm : m f = true
  · rw [if_pos hm, if_pos hm, if_neg (by omega), Nat.add_sub_cancel]
  · rw [if_neg hm, if_neg hm]
theorem wf_mk (hw : wfT T) {w : Nat} (hwd : w < T 0 2) {m : Nat → Bool} (hm : ∀ f, m f = true → f < T 0 0 * T 0 1) : wfT (mkT T w m) := by
  refine ⟨hw.w1, hw.w8, hw.h1, hw.h6, hw.own5, hw.gl9, hw.wd6, hw.hl3, hw.co4, hw.sg5, hw.lk3, hw.kn64, hw.pu, hw.se, hw.ra, hw.pr, hw.cu, fun f => ?_, fun f hf => ?_, hw.gl, hw.gs, hw.gld, hw.wn, hw.wz, hw.ww, hw.sg, hw.cm, hw.sl, hw.sr, hw.lk, hw.nm⟩
  · show (if m f then w + 1 else T 4 f) ≤ T 0 2
    split
    · omega
    · exact hw.ow f
  · have hf : T 0 0 * T 0 1 ≤ f := hf
    show (if m f then w + 1 else T 4 f) = 0
    rw [if_neg (fun z => by have := hm f z; omega)]
    exact hw.owo f hf
set_option maxHeartbeats 1000000 in
theorem s_giveField (ho : o = 0 ∨ o = 31) {w : Nat} {m : Nat → Bool} (hX : CX o (mkT T w m) l mi ml) (hw : wfT T) (hwd : w < T 0 2) (hm : ∀ f, m f = true → f < T 0 0 * T 0 1) {x y : Nat} (hf : y * T 0 0 + x < T 0 0 * T 0 1) (hQ : ∀ mi', RF o mi mi' → mi' 68 = mi 68 → CX o (mkT T w (fun g => g == y * T 0 0 + x || m g)) l mi' ml → Q none (mi', ml, R0 rd, 136)) : Cd (d + 2) k_Told_giveField [.ref (6 + o), .int (nI x), .int (nI y), .int (nI w)] (mi, ml, R0 rd, 136) Q := by
  have hfl := hw.fl
  have h5 := hw.own5
  have hwm := wf_mk hw hwd hm
  obtain ⟨h, x3, x4, x8⟩ := hX
  have e : nI y * mi (6 + o) 0 + nI x = nI (y * T 0 0 + x) := by rw [show mi (6 + o) 0 = nI (T 0 0) from h.wide, pk_mul, nI_add]
  have e9 : mi (9 + o) w = nI (T 3 w) := h.cut w hwd
  have e8 : mi (8 + o) w = nI (T 2 w) := h.price w hwd
  have own : ∀ f, f < 48 → upd (mi (10 + o)) (y * T 0 0 + x) (nI w) f = nI (if (f == y * T 0 0 + x || m f) = true then w + 1 else T 4 f) - 1 := fun f hf2 => by
    by_cases e : f = y * T 0 0 + x
    · rw [if_pos (by simp [e]), nI_pred, e, pk_us]
    · rw [pk_un e, show (f == y * T 0 0 + x || m f) = m f by simp [e]]
      exact h.own f hf2
  have cut : ∀ f, f < 48 → upd (mi (11 + o)) (y * T 0 0 + x) (mi (9 + o) w) f = if mkT T w (fun g => g == y * T 0 0 + x || m g) 4 f = 0 then -1 else nI (mkT T w (fun g => g == y * T 0 0 + x || m g) 3 (mkT T w (fun g => g == y * T 0 0 + x || m g) 4 f - 1)) := fun f hf2 => by
    rw [mk_cut]
    by_cases e : f = y * T 0 0 + x
    · rw [if_pos (by simp [e]), e, pk_us, e9]
    · rw [pk_un e, show (f == y * T 0 0 + x || m f) = m f by simp [e], ← mk_cut]
      exact h.cutOn f hf2
  have fee : ∀ f, f < 48 → upd (mi (12 + o)) (y * T 0 0 + x) (mi (8 + o) w) f = nI (feeN (mkT T w (fun g => g == y * T 0 0 + x || m g)) f) := fun f hf2 => by
    rw [mk_fee]
    by_cases e : f = y * T 0 0 + x
    · rw [if_pos (by simp [e]), e, pk_us, e8]
    · rw [pk_un e, show (f == y * T 0 0 + x || m f) = m f by simp [e], ← mk_fee]
      exact h.fee f hf2
  have hF : ∀ P : Option Value → Mm → Prop, P (some (.int (nI 1))) (mi, ml, R0 rd, 136) → Cd (d + 1) k_Told_hasField [.ref (6 + o), .int (nI y * mi (6 + o) 0 + nI x)] (mi, ml, R0 rd, 136) P := fun P hP => by
    rw [e]
    exact s_Told_inField ho h hwm hf hP
  refine r_Told_giveField (by decide) ?_
  rcases ho with rfl | rfl
  all_goals
    intro K Kl hK hC
    refine hC _ _ _ _ (hF _ ⟨fun z => absurd z (by decide), fun _ => hC _ _ _ _ (s_hasOwner2 (by decide) h hwm hwd ⟨fun z => absurd z (by decide), fun _ => ?_⟩)⟩)
    refine ⟨y * T 0 0 + x, by omega, e, w, by omega, rfl, y * T 0 0 + x, by omega, e, w, by omega, rfl, y * T 0 0 + x, by omega, e, rfl, hQ _ (RF.cu (RF.cu (RF.cu RF.none (by omega)) (by omega)) (by omega)) rfl ⟨⟨h.wide, h.high, h.owners, h.purse, h.seed, h.rain, h.oname, h.price, h.cut, own, cut, fee, h.glyphs, h.words, h.gl, h.gs, h.so, h.wn, h.wlen, h.ww, h.hills, h.links, h.hn, h.sg, h.l1, h.l2, h.l3, h.colours, h.signs, h.cname, h.cm, h.sname, h.sl, h.sr, h.knots, h.kk, h.kn⟩, x3, x4, x8⟩⟩
theorem s_lawAdd (ho : o = 0 ∨ o = 31) (hX : CX o T l mi ml) (hlt : T 0 9 < 64) {kd x : Nat} {A B : Int32} (hA : A = nI (kcN kd x)) (hB : kd = 0 → B = nI x) (hQ : ∀ mi', RF o mi mi' → mi' 68 = mi 68 → mi' 69 = mi 69 → CX o (aKn T kd x) l mi' ml → Q none (mi', ml, R0 rd, 136)) : Cd (d + 1) k_Law_add [.ref (32 + o), .int A, .int B] (mi, ml, R0 rd, 136) Q := by
  obtain ⟨h, x3, x4, x8⟩ := hX
  have e : mi (32 + o) 0 = nI (T 0 9) := h.knots
  have ek : ∀ i, (if i = T 0 9 then kcN kd x else kcN (T 17 i) (T 18 i)) = kcN (if i = T 0 9 then kd else T 17 i) (if i = T 0 9 then x else T 18 i) := fun i => by split <;> rfl
  have kn : ∀ i, i < T 0 9 + 1 → (if i = T 0 9 then kd else T 17 i) = 0 → upd (mi (34 + o)) (T 0 9) B i = nI (if i = T 0 9 then x else T 18 i) := fun i hi hz => by
    by_cases he : i = T 0 9
    · rw [if_pos he] at hz
      rw [if_pos he, he, pk_us, hB hz]
    · rw [if_neg he] at hz
      rw [if_neg he, pk_un he]
      exact h.kn i (by omega) hz
  refine r_Law_add (by decide) ?_
  rcases ho with rfl | rfl
  all_goals
    intro K Kl hK hC
    refine ⟨fun z => absurd (jLE z) (by omega), fun _ => ⟨T 0 9, hlt, e, T 0 9, hlt, e, rfl, hQ _ (RF.cu (RF.cu (RF.cu RF.none (by omega)) (by omega)) (by omega)) rfl rfl ⟨⟨h.wide, h.high, h.owners, h.purse, h.seed, h.rain, h.oname, h.price, h.cut, h.own, h.cutOn, h.fee, h.glyphs, h.words, h.gl, h.gs, h.so, h.wn, h.wlen, h.ww, h.hills, h.links, h.hn, h.sg, h.l1, h.l2, h.l3, h.colours, h.signs, h.cname, h.cm, h.sname, h.sl, h.sr, inc1 e, fun i hi => (ext1 (f := fun i => kcN (T 17 i) (T 18 i)) h.kk hA i hi).trans (congrArg nI (ek i)), kn⟩, x3, x4, x8⟩⟩⟩
theorem s_areLinked (ho : o = 0 ∨ o = 31) (hT : CT o T mi) (hw : wfT T) {x y : Nat} (hx : x < T 0 5) (hy : y < T 0 5) (h1 : lkN T x y = true → Q (some (.int (nI 1))) (mi, ml, R0 rd, 136)) (h0 : lkN T x y = false → Q (some (.int (nI 0))) (mi, ml, R0 rd, 136)) : Cd (d + 1) k_Hills_areLinked [.ref (20 + o), .int (nI x), .int (nI y)] (mi, ml, R0 rd, 136) Q := by
  have h3 := hw.hl3
  have hl3 := hw.lk3
  have e : mi (20 + o) 1 = nI (T 0 8) := hT.links
  have lp : ∀ j, j ≤ T 0 8 → (∀ i, i < j → (!((T 16 (3 * i) == x && T 16 (3 * i + 1) == y) || (T 16 (3 * i) == y && T 16 (3 * i + 1) == x))) = true) → GoM d k_Hills_areLinked 136 Q 2 [.ref (20 + o), .int (nI x), .int (nI y), .int (nI j)] [] (mi, ml, R0 rd, 136) := by
    refine upto ?_ ?_
    · intro hall
      have hz := h0 (by unfold lkN; rw [allN_iff.mpr hall]; rfl)
      refine g_Hills_areLinked ?_
      rcases ho with rfl | rfl
      all_goals
        intro K Kl hK hC
        exact ⟨fun _ => ⟨Or.inl rfl, rfl, hz⟩, fun z => absurd (jNLE z) (by omega)⟩
    · intro j hj ih hall
      have hlj := hw.lk j hj
      have a1 : mi (23 + o) j = nI (T 16 (3 * j)) := hT.l1 j hj
      have a2 : mi (24 + o) j = nI (T 16 (3 * j + 1)) := hT.l2 j hj
      have yes : (T 16 (3 * j) = x ∧ T 16 (3 * j + 1) = y) ∨ (T 16 (3 * j) = y ∧ T 16 (3 * j + 1) = x) → Q (some (.int (nI 1))) (mi, ml, R0 rd, 136) := fun z => h1 (by
        unfold lkN
        rw [allN_not hj (by
          rcases z with ⟨z1, z2⟩ | ⟨z1, z2⟩ <;> simp [z1, z2])]
        rfl)
      have no : ¬ ((T 16 (3 * j) = x ∧ T 16 (3 * j + 1) = y) ∨ (T 16 (3 * j) = y ∧ T 16 (3 * j + 1) = x)) → GoM d k_Hills_areLinked 136 Q 2 [.ref (20 + o), .int (nI x), .int (nI y), .int (nI j + nI 1)] [] (mi, ml, R0 rd, 136) := fun z => by
        have ih := ih (lt_s hall (by
          cases hb : ((T 16 (3 * j) == x && T 16 (3 * j + 1) == y) || (T 16 (3 * j) == y && T 16 (3 * j + 1) == x)) with
          | false => rfl
          | true =>
            simp only [Bool.or_eq_true, Bool.and_eq_true, beq_iff_eq] at hb
            exact absurd hb z))
        rw [nI1 j] at ih
        exact ih
      refine g_Hills_areLinked ?_
      rcases ho with rfl | rfl
      all_goals
        intro K Kl hK hC
        refine ⟨fun z => absurd (jLE z) (by omega), fun _ => ⟨j, by omega, rfl, ?_⟩⟩
        refine ⟨fun z => ⟨j, by omega, rfl, fun z2 => hK _ _ _ _ (no ?_), fun z2 => ⟨j, by omega, rfl, fun z3 => hK _ _ _ _ (no ?_), fun z3 => ⟨Or.inr rfl, rfl, yes (Or.inr ⟨jEQ z2 a1, jEQ z3 a2⟩)⟩⟩⟩, fun z => ⟨j, by omega, rfl, fun z2 => ⟨Or.inr rfl, rfl, yes (Or.inl ⟨jEQ z a1, jEQ z2 a2⟩)⟩, fun z2 => ⟨j, by omega, rfl, fun z3 => hK _ _ _ _ (no ?_), fun z3 => ⟨j, by omega, rfl, fun z4 => hK _ _ _ _ (no ?_), fun z4 => ⟨Or.inr rfl, rfl, yes (Or.inr ⟨jEQ z3 a1, jEQ z4 a2⟩)⟩⟩⟩⟩⟩
        · have n1 := jNE z a1; have n2 := jNE z2 a1; omega
        · have n1 := jNE z a1; have n3 := jNE z3 a2; omega
        · have n2 := jNE z2 a2; have n3 := jNE z3 a1; omega
        · have n2 := jNE z2 a2; have n4 := jNE z4 a2; omega
  refine r_Hills_areLinked (by decide) (fun K Kl hK hC => ?_)
  exact hK _ _ _ _ (lp 0 (Nat.zero_le _) lt_0)
theorem s_Script_clear (ho : o = 0 ∨ o = 31) (hQ : ∀ g : Nat → Int32, (∀ c, c < 32 → g c = nI 0) → Q none (cu (cu (cu mi (13 + o) (upd (mi (13 + o)) 0 (nI 0))) (13 + o) (upd (cu mi (13 + o) (upd (mi (13 + o)) 0 (nI 0)) (13 + o)) 1 (nI 0))) (16 + o) g, ml, R0 rd, 136)) : Cd (d + 1) k_Script_clear [.ref (13 + o)] (mi, ml, R0 rd, 136) Q := by
  have lp : ∀ m0, (∀ g : Nat → Int32, (∀ c, c < 32 → g c = nI 0) → Q none (cu m0 (16 + o) g, ml, R0 rd, 136)) → ∀ j, j ≤ 32 → ∀ g : Nat → Int32, (∀ c, c < j → g c = nI 0) → GoM d k_Script_clear 136 Q 12 [.ref (13 + o), .int (nI j)] [] (cu m0 (16 + o) g, ml, R0 rd, 136) := by
    intro m0 hQ
    refine upto ?_ ?_
    · intro g hg
      have hz := hQ g hg
      refine g_Script_clear ?_
      rcases ho with rfl | rfl
      all_goals
        intro K Kl hK hC
        exact ⟨fun _ => ⟨rfl, hz⟩, fun z => absurd (iNLE z) (by omega)⟩
    · intro j hj ih g hg
      have ih := ih (upd g j (nI 0)) (fun f hf => by
        by_cases hfj : f = j
        · subst hfj; exact pk_us
        · rw [pk_un hfj]; exact hg f (by omega))
      rw [nI1 j, ← cuu] at ih
      refine g_Script_clear ?_
      rcases ho with rfl | rfl
      all_goals
        intro K Kl hK hC
        exact ⟨fun z => absurd (iLE z) (by omega), fun _ => ⟨j, by omega, rfl, hK _ _ _ _ ih⟩⟩
  have l0 := lp _ hQ 0 (Nat.zero_le _) (mi (16 + o)) lt_0
  rw [show mi (16 + o) = cu (cu mi (13 + o) (upd (mi (13 + o)) 0 (nI 0))) (13 + o) (upd (cu mi (13 + o) (upd (mi (13 + o)) 0 (nI 0)) (13 + o)) 1 (nI 0)) (16 + o) by rw [cu_ne (by omega), cu_ne (by omega)], cu_id] at l0
  refine r_Script_clear (by decide) ?_
  rcases ho with rfl | rfl
  all_goals
    intro K Kl hK hC
    exact hK _ _ _ _ l0
end
