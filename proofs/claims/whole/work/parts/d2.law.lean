/-! THE REFERENCE: the law for a field -/
/-- the reference's shapes and day, of now (0) or as tried (1) -/
def MB (b : Nat) (S : Nat → Nat → Nat) (mi : Nat → Nat → Int32) : Prop := (∀ f, f < 48 → mi 123 (48 * b + f) = nI (S 1 f)) ∧ mi 124 b = nI (S 0 0)
theorem map_upd {g : Nat → Int64} {i : Nat} {v : Int64} : ∀ {l : List Nat}, (∀ x, x ∈ l → x < i) → l.map (vp_updL g i v) = l.map g
  | [], _ => rfl
  | a :: l, h => by
    have ha := h a List.mem_cons_self
    rw [List.map_cons, List.map_cons, map_upd (fun x hx => h x (List.mem_cons_of_mem _ hx)), pk_uLn (by omega)]
theorem lwS_vK {T : Nat → Nat → Nat} {nm g : Nat → Int64} (hl : wfL T) {i : Nat} (hi : i < T 0 9) {st : List Int64} (hst : lwJ T nm i = some st) (e : st = (hdN T i).map g) : lwS T nm i st = (vK T nm i g).map (fun v => (hdN T (i + 1)).map (vp_updL g i v)) := by
  have hlen := lwJ_len hl i (by omega) st hst
  have hk := hl.1 i hi
  have hlt := hd_lt T i
  rw [e, List.length_map] at hlen
  unfold vK
  rw [e]
  by_cases c0 : T 17 i = 0
  · have eh : hdN T (i + 1) = i :: hdN T i := by rw [hdN, if_pos (by omega)]
    rw [if_pos c0, lw0 c0, eh]
    show _ = some ((i :: hdN T i).map _)
    rw [List.map_cons, map_upd hlt, pk_uLs]
  by_cases c1 : T 17 i = 1
  · have eh : hdN T (i + 1) = i :: hdN T i := by rw [hdN, if_pos (by omega)]
    rw [if_neg c0, if_pos c1, lw1 c1, eh]
    show _ = some ((i :: hdN T i).map _)
    rw [List.map_cons, map_upd hlt, pk_uLs]
  by_cases c2 : T 17 i = 2
  · have eh : hdN T (i + 1) = i :: (hdN T i).tail := by rw [hdN, if_neg (by omega), if_pos c2]
    have hd := hk.2.2.2.1 c2
    cases hh : hdN T i with
    | nil => rw [hh] at hlen; simp at hlen; omega
    | cons h0 r =>
      rw [if_neg c0, if_neg c1, if_pos c2, List.map_cons, lw2 c2, eh, hh]
      rw [hh] at hlt
      show _ = some ((i :: r).map _)
      rw [List.map_cons, map_upd (fun x hx => hlt x (List.mem_cons_of_mem _ hx)), pk_uLs]
      rfl
  have c3 : 3 ≤ T 17 i := by omega
  have eh : hdN T (i + 1) = i :: (hdN T i).tail.tail := by rw [hdN, if_neg (by omega), if_neg c2]
  have hd := hk.2.2.2.2 c3
  cases hh : hdN T i with
  | nil => rw [hh] at hlen; simp at hlen; omega
  | cons h0 r0 =>
    cases r0 with
    | nil => rw [hh] at hlen; simp at hlen; omega
    | cons h1 r =>
      rw [if_neg c0, if_neg c1, if_neg c2, List.map_cons, List.map_cons, lw3 c3, eh, hh]
      rw [hh] at hlt
      show (match jnN (T 17 i) (g h1) (g h0) with
        | some v => some (v :: r.map g)
        | none => none) = (jnN (T 17 i) (g h1) (g h0)).map (fun v => (i :: r).map (vp_updL g i v))
      cases jnN (T 17 i) (g h1) (g h0) with
      | none => rfl
      | some v =>
        show some (v :: r.map g) = some ((i :: r).map (vp_updL g i v))
        rw [List.map_cons, map_upd (fun x hx => hlt x (List.mem_cons_of_mem _ (List.mem_cons_of_mem _ hx))), pk_uLs]
theorem cuuL (f : Nat → Nat → Int64) (c : Nat) (g : Nat → Int64) (j : Nat) (x : Int64) : cu (cu f c g) c (vp_updL (cu f c g c) j x) = cu f c (vp_updL g j x) := by rw [cu_cu, cu_self]
section
variable {d : Nat} {Q : Option Value → Mm → Prop} {A : St} {T S : Nat → Nat → Nat} {mi : Nat → Nat → Int32} {ml : Nat → Nat → Int64} {rd : Option Nat} {x y z : Int32}
/-- the loop over the knots -/
theorem lawLp (hT : MT T mi) (hK : MK T mi) (hw : wfT T) (hl : wfL T) (h0 : T 0 9 ≠ 0) {ml1 : Nat → Nat → Int64} (hml : ML ml ml1) {nm : Nat → Int64} (hnm : ∀ i, i < 6 → ml1 121 i = nm i) (hnb : ∀ i, i < 6 → bI (nm i)) (hQ : ∀ mi' ml', LF mi mi' → ML ml ml' → mi' 95 67 = nI (if (lawN T nm).isNone then 1 else 0) → Q (some (.long ((lawN T nm).getD 0))) (mi', ml', R0 rd, 136)) {v1 v2 v3 : Int32} : ∀ i, i ≤ T 0 9 → ∀ (mi' : Nat → Nat → Int32) (gv : Nat → Int64), LF mi mi' → ((mi' 95 67 = nI 0 ∧ lwJ T nm i = some ((hdN T i).map gv)) ∨ (mi' 95 67 = nI 1 ∧ lwJ T nm i = none)) → GoM (d + 2) k_Mod_lawOf 136 Q 102 [.ref 95, .int v1, .int v2, .int v3, .int (nI i)] [] (mi', cu ml1 122 gv, R0 rd, 136) := by
  have h64 := hw.kn64
  refine upto ?_ ?_
  · intro mi' gv hf hinv
    have hT' := hT.mf hf.mf
    have ek : mi' 95 21 = nI (T 0 9) := hT'.knots
    have hq := hQ mi' (cu ml1 122 gv) hf (hml.cu rfl)
    rcases hinv with ⟨z67, hj⟩ | ⟨z67, hj⟩
    · have hlen := lwJ_len hl _ (Nat.le_refl _) _ hj
      rw [hl.2 h0, List.length_map] at hlen
      obtain ⟨n, hn⟩ : ∃ n, T 0 9 = n + 1 := ⟨T 0 9 - 1, by omega⟩
      have eh : hdN T (T 0 9) = [n] := by
        rw [hn] at hlen ⊢
        unfold hdN at hlen ⊢
        rw [List.length_cons] at hlen
        congr 1
        exact List.eq_nil_of_length_eq_zero (by omega)
      have el : lawN T nm = some (gv n) := by
        unfold lawN
        rw [hj, eh]
        rfl
      rw [el] at hq
      have hq : mi' 95 67 = nI 0 → Q (some (.long (gv n))) _ := hq
      have ix : mi' 95 21 - nI 1 = nI n := by rw [ek, hn, pk_sub (by omega)]; rfl
      exact g_Mod_lawOf (fun K Kl hK hC => ⟨fun _ => ⟨fun _ => ⟨n, by omega, ix, ⟨rfl, hq z67⟩⟩, fun z => absurd z67 z⟩, fun z => absurd (jNLE z ek) (by omega)⟩)
    · have el : lawN T nm = none := by
        unfold lawN
        rw [hj]
      rw [el] at hq
      exact g_Mod_lawOf (fun K Kl hK hC => ⟨fun _ => ⟨fun z => absurd (z67.symm.trans z) (by decide), fun _ => ⟨rfl, hq z67⟩⟩, fun z => absurd (jNLE z ek) (by omega)⟩)
  · intro i hi ih mi' gv hf hinv
    have hT' := hT.mf hf.mf
    have hK' := hK.mf hf.mf
    have ek : mi' 95 21 = nI (T 0 9) := hT'.knots
    obtain ⟨e, he1, he, hinv⟩ : ∃ e, e ≤ 1 ∧ mi' 95 67 = nI e ∧ ((e = 0 ∧ lwJ T nm i = some ((hdN T i).map gv)) ∨ (e = 1 ∧ lwJ T nm i = none)) := by
      rcases hinv with ⟨a, b⟩ | ⟨a, b⟩
      · exact ⟨0, by omega, a, Or.inl ⟨rfl, b⟩⟩
      · exact ⟨1, by omega, a, Or.inr ⟨rfl, b⟩⟩
    have hb : e = 0 → 3 ≤ T 17 i → bI (cu ml1 122 gv 122 (nth 0 (hdN T i) 1)) := fun z c3 => by
      rcases hinv with ⟨-, hj⟩ | ⟨z2, -⟩
      · have hbl := lwJ_b hl hnb i (by omega) _ hj
        have hlen := lwJ_len hl i (by omega) _ hj
        have hd := (hl.1 i hi).2.2.2.2 c3
        rw [List.length_map] at hlen
        cases hh : hdN T i with
        | nil => rw [hh] at hlen; simp at hlen; omega
        | cons h0 r0 =>
          cases r0 with
          | nil => rw [hh] at hlen; simp at hlen; omega
          | cons h1 r =>
            rw [hh] at hbl
            exact hbl (gv h1) (List.mem_cons_of_mem _ List.mem_cons_self)
      · omega
    refine g_Mod_lawOf (fun K Kl hK hC => ⟨fun z => absurd (jLE z ek) (by omega), fun _ => hC _ _ _ _ (t_valueOf (ml := cu ml1 122 gv) hT' hK' hw hl (nm := nm) hnm hi he he1 hb (fun z v hv mi2 hf2 z67 => ⟨i, by omega, rfl, ?_⟩) (fun z v mi2 hf2 z67 => ⟨i, by omega, rfl, ?_⟩))⟩)
    · rcases hinv with ⟨-, hj⟩ | ⟨z2, -⟩
      · have hv : vK T nm i gv = some v := hv
        have := ih mi2 (vp_updL gv i v) (hf.trans hf2) (Or.inl ⟨z67, by
          rw [lwJ, hj]
          show lwS T nm i _ = _
          rw [lwS_vK hl hi hj rfl, hv]
          rfl⟩)
        rw [nI1 i, ← cuuL] at this
        exact hK _ _ _ _ this
      · omega
    · have := ih mi2 (vp_updL gv i v) (hf.trans hf2) (Or.inr ⟨z67, by
        rw [lwJ]
        rcases hinv with ⟨z0, hj⟩ | ⟨-, hj⟩
        · rcases z with z | z
          · omega
          · have z : vK T nm i gv = none := z
            rw [hj]
            show lwS T nm i _ = _
            rw [lwS_vK hl hi hj rfl, z]
            rfl
        · rw [hj]⟩)
      rw [nI1 i, ← cuuL] at this
      exact hK _ _ _ _ this
set_option maxHeartbeats 2000000 in
theorem t_lawOf (hT : MT T mi) (hK : MK T mi) (hw : wfT T) (hl : wfL T) (h0 : T 0 9 ≠ 0) {b : Nat} (hb : b < 2) (hS : MB b S mi) (hs : wfS T S) {f : Nat} (hf : f < T 0 0 * T 0 1) (hQ : ∀ mi' ml', LF mi mi' → ML ml ml' → mi' 95 67 = nI (if (lwN T S f).isNone then 1 else 0) → Q (some (.long ((lwN T S f).getD 0))) (mi', ml', R0 rd, 136)) : Cd (d + 3) k_Mod_lawOf [.ref 95, .int (nI b), .int (nI f)] (mi, ml, R0 rd, 136) Q := by
  have hfl := hw.fl
  have w1 := hw.w1
  have w8 := hw.w8
  have ew : mi 95 12 = nI (T 0 0) := hT.wide
  have es : mi 123 (48 * b + f) = nI (S 1 f) := hS.1 f (by omega)
  have hsl := hs.sh f
  have hdy := hs.day
  have is : nI 48 * nI b + nI f = nI (48 * b + f) := by rw [pk_mul, nI_add]
  have ne0 : ¬ mi 95 12 = 0 := fun e => by rw [ew] at e; have := iZ e; omega
  have hml : ∀ g, ML ml (cu ml 121 g) := fun g => ML.none.cu rfl
  have hnb : ∀ i, i < 6 → bI (lN (nmN T S f i)) := fun i _ => bI_lN (by have := nmN_lt hw hs (show f < 48 by omega) i; omega)
  have hlf : T 4 f ≠ 0 → T 3 (T 4 f - 1) ≤ 99 := fun z => (cutOf hw z).2
  have hle : leftN T f (S 0 0) ≤ 99 := by
    unfold leftN
    split
    · omega
    · rename_i z; have := hlf z; omega
  have cm : ∀ P : Option Value → Mm → Prop, P (some (.int (nI (bcN (S 1 f))))) (mi, ml, R0 rd, 136) → Cd (d + 2) k_Mod_manyOf [.int (mi 123 (48 * b + f))] (mi, ml, R0 rd, 136) P := fun P p => by
    rw [es]
    exact s_Mod_manyOf (by omega) p
  have cv : ∀ (l2 : Nat → Nat → Int64) (P : Option Value → Mm → Prop), (vowN T (S 1 f) = true → P (some (.int (nI 1))) (mi, l2, R0 rd, 136)) → (vowN T (S 1 f) = false → P (some (.int (nI 0))) (mi, l2, R0 rd, 136)) → Cd (d + 2) k_Mod_isVowel [.ref 95, .int (mi 123 (48 * b + f))] (mi, l2, R0 rd, 136) P := fun l2 P p1 p0 => by
    rw [es]
    exact t_isVowel hT hw (by omega) p1 p0
  have fin : ∀ (v : Nat) (g5 : Nat → Int64), v = (vowN T (S 1 f)).toNat → g5 0 = (nI (bcN (S 1 f))).toInt64 → g5 1 = lN v → g5 2 = (nI f / mi 95 12).toInt64 → g5 3 = (nI f - nI f / mi 95 12 * mi 95 12).toInt64 → g5 4 = (mi 124 b).toInt64 → g5 5 = (nI (leftN T f (S 0 0))).toInt64 → ∀ i, i < 6 → cu ml 121 g5 121 i = lN (nmN T S f i) := by
    intro v g5 hv e0 e1 e2 e3 e4 e5 i hi
    have hb9 := bcN_le (S 1 f)
    have : i = 0 ∨ i = 1 ∨ i = 2 ∨ i = 3 ∨ i = 4 ∨ i = 5 := by omega
    rw [cu_self]
    rcases this with rfl | rfl | rfl | rfl | rfl | rfl
    · rw [e0, nI_l (by omega)]; rfl
    · rw [e1, hv]; rfl
    · rw [e2, ew, pk_div (by omega) (by omega) (by omega), nI_l (Nat.lt_of_le_of_lt (Nat.div_le_self _ _) (by omega))]; rfl
    · rw [e3, ew, pk_rem (by omega) (by omega) (by omega), nI_l (Nat.lt_of_le_of_lt (Nat.mod_le _ _) (by omega))]; rfl
    · rw [e4, hS.2, nI_l (by omega)]; rfl
    · rw [e5, nI_l (by omega)]; rfl
  refine r_Mod_lawOf (by decide) (fun K Kl hK0 hC => ⟨48 * b + f, by omega, is, hC _ _ _ _ (cm _ ⟨0, by decide, rfl, hC _ _ _ _ (cv _ _ (fun hv => ⟨fun a => absurd a (by decide), fun _ => ?_⟩) (fun hv => ⟨fun _ => ?_, fun a => absurd (by decide) a⟩))⟩)⟩)
  · refine ⟨1, by decide, rfl, ⟨ne0, ⟨2, by decide, rfl, ⟨ne0, ⟨3, by decide, rfl, ⟨b, by omega, rfl, ⟨4, by decide, rfl, hC _ _ _ _ (t_leftOf hT hw (by omega) hb hS.2 (by omega) ⟨5, by decide, rfl, ⟨Or.inl rfl, hK0 _ _ _ _ ?_⟩⟩)⟩⟩⟩⟩⟩⟩⟩
    have lp := lawLp (d := d) (Q := Q) (rd := rd) hT hK hw hl h0 (hml (vp_updL (vp_updL (vp_updL (vp_updL (vp_updL (vp_updL (ml 121) 0 (nI (bcN (S 1 f))).toInt64) 1 (1)) 2 ((nI f / mi 95 12).toInt64)) 3 ((nI f - nI f / mi 95 12 * mi 95 12).toInt64)) 4 ((mi 124 b).toInt64)) 5 ((nI (leftN T f (S 0 0))).toInt64))) (fin 1 (vp_updL (vp_updL (vp_updL (vp_updL (vp_updL (vp_updL (ml 121) 0 (nI (bcN (S 1 f))).toInt64) 1 (1)) 2 ((nI f / mi 95 12).toInt64)) 3 ((nI f - nI f / mi 95 12 * mi 95 12).toInt64)) 4 ((mi 124 b).toInt64)) 5 ((nI (leftN T f (S 0 0))).toInt64)) (by rw [hv]; rfl) rfl rfl rfl rfl rfl rfl) hnb (fun mi' ml' a b c => hQ mi' ml' a b c) (v1 := nI b) (v2 := nI f) (v3 := mi 123 (48 * b + f)) 0 (Nat.zero_le _) (cu mi 95 (upd (mi 95) 67 (nI 0))) (cu ml 121 (vp_updL (vp_updL (vp_updL (vp_updL (vp_updL (vp_updL (ml 121) 0 (nI (bcN (S 1 f))).toInt64) 1 (1)) 2 ((nI f / mi 95 12).toInt64)) 3 ((nI f - nI f / mi 95 12 * mi 95 12).toInt64)) 4 ((mi 124 b).toInt64)) 5 ((nI (leftN T f (S 0 0))).toInt64)) 122) LF.none.cu (Or.inl ⟨rfl, rfl⟩)
    rw [cu_id] at lp
    simp only [cu_cu]
    exact lp
  · refine ⟨1, by decide, rfl, ⟨ne0, ⟨2, by decide, rfl, ⟨ne0, ⟨3, by decide, rfl, ⟨b, by omega, rfl, ⟨4, by decide, rfl, hC _ _ _ _ (t_leftOf hT hw (by omega) hb hS.2 (by omega) ⟨5, by decide, rfl, ⟨Or.inl rfl, hK0 _ _ _ _ ?_⟩⟩)⟩⟩⟩⟩⟩⟩⟩
    have lp := lawLp (d := d) (Q := Q) (rd := rd) hT hK hw hl h0 (hml (vp_updL (vp_updL (vp_updL (vp_updL (vp_updL (vp_updL (ml 121) 0 (nI (bcN (S 1 f))).toInt64) 1 (0)) 2 ((nI f / mi 95 12).toInt64)) 3 ((nI f - nI f / mi 95 12 * mi 95 12).toInt64)) 4 ((mi 124 b).toInt64)) 5 ((nI (leftN T f (S 0 0))).toInt64))) (fin 0 (vp_updL (vp_updL (vp_updL (vp_updL (vp_updL (vp_updL (ml 121) 0 (nI (bcN (S 1 f))).toInt64) 1 (0)) 2 ((nI f / mi 95 12).toInt64)) 3 ((nI f - nI f / mi 95 12 * mi 95 12).toInt64)) 4 ((mi 124 b).toInt64)) 5 ((nI (leftN T f (S 0 0))).toInt64)) (by rw [hv]; rfl) rfl rfl rfl rfl rfl rfl) hnb (fun mi' ml' a b c => hQ mi' ml' a b c) (v1 := nI b) (v2 := nI f) (v3 := mi 123 (48 * b + f)) 0 (Nat.zero_le _) (cu mi 95 (upd (mi 95) 67 (nI 0))) (cu ml 121 (vp_updL (vp_updL (vp_updL (vp_updL (vp_updL (vp_updL (ml 121) 0 (nI (bcN (S 1 f))).toInt64) 1 (0)) 2 ((nI f / mi 95 12).toInt64)) 3 ((nI f - nI f / mi 95 12 * mi 95 12).toInt64)) 4 ((mi 124 b).toInt64)) 5 ((nI (leftN T f (S 0 0))).toInt64)) 122) LF.none.cu (Or.inl ⟨rfl, rfl⟩)
    rw [cu_id] at lp
    simp only [cu_cu]
    exact lp
theorem MS.b0 (h : MS S mi ml) : MB 0 S mi := ⟨fun f hf => by rw [show 48 * 0 + f = f by omega]; exact h.1 f hf, h.2.1⟩
theorem q_law (hA : MI A mi ml) (hw : wfA A) (hQ : ∀ mi' ml', MF mi mi' → ML ml ml' → Q (some (.long (aLaw A x))) (mi', ml', R0 rd, 136)) : Cd (d + 4) k_Mod_law [.ref 95, .int x] (mi, ml, R0 rd, 136) Q := by
  have hA1 := hA.mf thr0 ML.none
  have hfl := hw.T.fl
  have et : mi 95 22 = if A 0 0 9 = 0 then 0 else 1 := hA.T.lawTold
  unfold aLaw at hQ
  by_cases h9 : A 0 0 9 = 0
  · have hn : ∀ f, lwN (A 0) (A 1) f = none := fun f => by
      unfold lwN lawN
      rw [h9]
      rfl
    have hq : Q (some (.long (-9223372036854775808))) (cu mi 95 (upd (mi 95) 2 (nI 0)), ml, R0 rd, 136) := by
      have := hQ _ ml thr0 ML.none
      cases hx : ixo x (flA A) with
      | none => rw [hx] at this; exact this
      | some f => rw [hx] at this; simp only [hn] at this; exact this
    rw [if_pos h9] at et
    exact r_Mod_law (by decide) (fun K Kl hK hC => ⟨fun _ => ⟨rfl, hq⟩, fun z => absurd et z⟩)
  · rw [if_neg h9] at et
    refine r_Mod_law (by decide) (fun K Kl hK hC => ⟨fun z => absurd (et.symm.trans z) (by decide), fun _ => hC _ _ _ _ (t_isField hA1.T hw.T (fun f hf e => ⟨fun _ => ?_, fun a => absurd a (by decide)⟩) (fun hno => ⟨fun a => absurd (by decide) a, fun _ => ⟨rfl, ?_⟩⟩))⟩)
    · subst e
      rw [ixf hw.T hf] at hQ
      refine hC _ _ _ _ (t_lawOf (b := 0) hA1.T hA1.K hw.T hw.L h9 (by omega) hA1.S.b0 hw.S hf (fun mi' ml' hf2 hl2 z67 => ?_))
      have hQ := hQ mi' ml' (thr0.trans hf2.mf) hl2
      cases hl : lwN (A 0) (A 1) f with
      | none =>
        simp only [hl] at hQ
        rw [hl] at z67
        exact ⟨fun z => absurd ((show mi' 95 67 = nI 1 from z67).symm.trans z) (by decide), fun _ => ⟨rfl, hQ⟩⟩
      | some v =>
        simp only [hl] at hQ
        rw [hl] at z67
        exact ⟨fun _ => ⟨rfl, hQ⟩, fun z => absurd (show mi' 95 67 = nI 0 from z67) z⟩
    · rw [show ixo x (flA A) = none from ixo_none hno] at hQ
      exact hQ _ ml thr0 ML.none
end
