/-! THE REFERENCE: rain, a day -/
section
variable {d : Nat} {Q : Option Value → Mm → Prop} {A : St} {T S : Nat → Nat → Nat} {mi : Nat → Nat → Int32} {ml : Nat → Nat → Int64} {rd : Option Nat} {x y z : Int32}
theorem t_number1 {s n : Nat} (hs : ml 95 72 = lN s) (h0 : 0 < n) (hn : n < 2 ^ 31) (hQ : Q (some (.int (nI (nxN s / 65536 % n)))) (mi, cu ml 95 (vp_updL (ml 95) 72 (lN (nxN s))), R0 rd, 136)) : Cd (d + 1) k_Mod_number1 [.ref 95, .int (nI n)] (mi, ml, R0 rd, 136) Q := by
  have hlt := nxN_lt s
  have e := nxM s
  rw [← hs] at e
  have ev : nI (nxN s / 65536 % n) = (lN (nxN s) / 65536 - lN (nxN s) / 65536 / (nI n).toInt64 * (nI n).toInt64).toInt32 := by
    rw [nI_l hn, show (65536 : Int64) = lN 65536 from rfl, pk_lDiv (by omega) (by decide) (by decide), pk_lRem (Nat.lt_of_le_of_lt (Nat.div_le_self _ _) (by omega)) h0 (by omega), lN_i]
  have hne : ¬ (nI n).toInt64 = 0 := fun z => by
    rw [nI_l hn] at z
    have := (lN_eq hn (by decide)).mp (z.trans (show (0 : Int64) = lN 0 from rfl))
    omega
  rw [ev, ← e] at hQ
  exact r_Mod_number1 (by decide) (fun K Kl hK hC => ⟨by decide, ⟨hne, ⟨rfl, hQ⟩⟩⟩)
set_option maxHeartbeats 1000000 in
theorem t_rains (hT : MT T mi) (hw : wfT T) {b : Nat} (hb : b < 2) (hS : MB b S mi) (hs : wfS T S) (hd : ml 95 72 = lN (S 0 2)) (h0 : T 0 12 = 0 → Q none (mi, ml, R0 rd, 136)) (h1 : T 0 12 ≠ 0 → ∀ mi' ml', BF b mi mi' → DF ml ml' → ml' 95 72 = lN (rainN T S 0 2) → MB b (rainN T S) mi' → Q none (mi', ml', R0 rd, 136)) : Cd (d + 2) k_Mod_rains [.ref 95, .int (nI b)] (mi, ml, R0 rd, 136) Q := by
  have hfl := hw.fl
  have hw1 := hw.w1; have hh1 := hw.h1
  have hpos : 1 ≤ T 0 0 * T 0 1 := Nat.mul_le_mul hw1 hh1
  have hra := hw.ra
  have e2 : mi 98 2 = nI (T 0 12) := hT.rain
  have hf : rnF T S < T 0 0 * T 0 1 := Nat.mod_lt _ hpos
  have hm : nxN (S 0 2) / 65536 % 100 < 100 := Nat.mod_lt _ (by decide)
  have hsl := hs.sh (rnF T S)
  have ix : nI 48 * nI b + nI (rnF T S) = nI (48 * b + rnF T S) := by rw [pk_mul, nI_add]
  have es : mi 123 (48 * b + rnF T S) = nI (S 1 (rnF T S)) := hS.1 _ (by omega)
  have lp : T 0 12 ≠ 0 → ¬ T 0 12 ≤ nxN (S 0 2) / 65536 % 100 → ∀ ml2, DF ml ml2 → ml2 95 72 = lN (nxN (nxN (S 0 2))) → ∀ x2, x2 = nI (48 * b + rnF T S) → (∀ k, k < 9 → S 1 (rnF T S) < 2 ^ (k + 1) → GoM (d + 1) k_Mod_rains 136 Q 42 [.ref 95, .int (nI b), .int x2, .int (nI k)] [] (mi, ml2, R0 rd, 136)) := by
    intro h12 hr ml2 hl2 hd2 x2 hx2
    subst hx2
    have hrain : rainN T S = sF (sSh S (updN (S 1) (rnF T S) (hiN (S 1 (rnF T S))))) 2 (nxN (nxN (S 0 2))) := by unfold rainN; rw [if_neg hr]
    have cb : ∀ k (P : Option Value → Mm → Prop), k < 9 → (S 1 (rnF T S) / 2 ^ k % 2 = 1 → P (some (.int (nI 1))) (mi, ml2, R0 rd, 136)) → (S 1 (rnF T S) / 2 ^ k % 2 = 0 → P (some (.int (nI 0))) (mi, ml2, R0 rd, 136)) → Cd (d + 1) k_Mod_isOf [.int (mi 123 (48 * b + rnF T S)), .int (nI k)] (mi, ml2, R0 rd, 136) P := fun k P hk p1 p0 => by
      rw [es]
      exact t_isOf (by omega) (by omega) p1 p0
    have hit : ∀ k, k < 9 → S 1 (rnF T S) < 2 ^ (k + 1) → S 1 (rnF T S) / 2 ^ k % 2 = 1 → Q none (cu mi 123 (upd (mi 123) (48 * b + rnF T S) (mi 123 (48 * b + rnF T S) ^^^ (nI 1 <<< (nI k &&& 31)))), ml2, R0 rd, 136) := fun k hk hlt hbit => by
      have hnl : ¬ S 1 (rnF T S) < 2 ^ k := fun z => by
        have := (hiB k hk _ hlt).mpr z
        omega
      have hM : MB b (sSh S (updN (S 1) (rnF T S) (hiN (S 1 (rnF T S))))) (cu mi 123 (upd (mi 123) (48 * b + rnF T S) (mi 123 (48 * b + rnF T S) ^^^ (nI 1 <<< (nI k &&& 31))))) := hS.up (by omega) (by rw [es]; exact hiM k hk _ hlt hnl)
      refine h1 h12 _ _ (BF.none.sh1 (by omega)) hl2 ?_ ?_
      · rw [hrain]; exact hd2
      · rw [hrain]; exact hM
    intro k
    induction k with
    | zero =>
      intro _ hlt
      refine g_Mod_rains (fun K Kl hK hC => ⟨fun a => (iNN a (by omega)).elim, fun _ => ⟨48 * b + rnF T S, by omega, rfl, hC _ _ _ _ (cb 0 _ (by decide) (fun hbit => ⟨fun _ => ⟨48 * b + rnF T S, by omega, rfl, ⟨48 * b + rnF T S, by omega, rfl, ⟨rfl, hit 0 (by decide) hlt hbit⟩⟩⟩, fun a => absurd a (by decide)⟩) (fun hbit => ⟨fun a => absurd (by decide) a, fun _ => hK _ _ _ _ ?_⟩))⟩⟩)
      have hz : S 1 (rnF T S) < 2 ^ 0 := (hiB 0 (by decide) _ hlt).mp hbit
      have hz : S 1 (rnF T S) = 0 := by rw [Nat.pow_zero] at hz; omega
      have hq := h1 h12 mi ml2 BF.none hl2 (by rw [hrain]; exact hd2) (by
        rw [hrain]
        refine ⟨fun a ha => ?_, hS.2⟩
        show _ = nI (updN (S 1) (rnF T S) (hiN (S 1 (rnF T S))) a)
        unfold updN
        by_cases e : a = rnF T S
        · rw [if_pos e, hz, e, hS.1 _ (by omega), hz]; rfl
        · rw [if_neg e]; exact hS.1 a ha)
      exact g_Mod_rains (fun K Kl hK hC => ⟨fun _ => ⟨rfl, hq⟩, fun a => absurd (by decide) a⟩)
    | succ k ih =>
      intro hk hlt
      have ih := ih (by omega)
      refine g_Mod_rains (fun K Kl hK hC => ⟨fun a => (iNN a (by omega)).elim, fun _ => ⟨48 * b + rnF T S, by omega, rfl, hC _ _ _ _ (cb (k + 1) _ hk (fun hbit => ⟨fun _ => ⟨48 * b + rnF T S, by omega, rfl, ⟨48 * b + rnF T S, by omega, rfl, ⟨rfl, hit (k + 1) hk hlt hbit⟩⟩⟩, fun a => absurd a (by decide)⟩) (fun hbit => ⟨fun a => absurd (by decide) a, fun _ => hK _ _ _ _ ?_⟩))⟩⟩)
      have ih := ih ((hiB (k + 1) hk _ hlt).mp hbit)
      rw [← pk_m1 k] at ih
      exact ih
  have m72 : ∀ x : Int64, cu ml 95 (vp_updL (ml 95) 72 x) 95 72 = x := fun x => by rw [cu_self, pk_uLs]
  have d1 : DF ml (cu ml 95 (vp_updL (ml 95) 72 (lN (nxN (S 0 2))))) := DF.none.d72
  have nx2 : ∀ P : Option Value → Mm → Prop, P (some (.int (nI (rnF T S)))) (mi, cu (cu ml 95 (vp_updL (ml 95) 72 (lN (nxN (S 0 2))))) 95 (vp_updL (cu ml 95 (vp_updL (ml 95) 72 (lN (nxN (S 0 2)))) 95) 72 (lN (nxN (nxN (S 0 2))))), R0 rd, 136) → Cd (d + 1) k_Mod_number1 [.ref 95, .int (nI (T 0 0 * T 0 1))] (mi, cu ml 95 (vp_updL (ml 95) 72 (lN (nxN (S 0 2)))), R0 rd, 136) P := fun P p => t_number1 (m72 _) hpos (by omega) p
  refine r_Mod_rains (by decide) (fun K Kl hK hC => ⟨2, by decide, rfl, ⟨fun z => ⟨rfl, h0 (jZ z e2)⟩, fun z => hC _ _ _ _ (t_number1 hd (by decide) (by decide) ⟨2, by decide, rfl, ⟨fun y => hC _ _ _ _ (t_fields hT (hC _ _ _ _ (nx2 _ (hK _ _ _ _ (lp (jNZ z e2) ?_ _ d1.d72 ?_ _ ix 8 (by decide) (by omega)))))), fun y => ⟨rfl, ?_⟩⟩⟩)⟩⟩)
  · have y : nI (nxN (S 0 2) / 65536 % 100) < mi 98 2 := y
    rw [e2] at y
    have := iLT y
    omega
  · rw [cu_self, pk_uLs]
  · have y : ¬ nI (nxN (S 0 2) / 65536 % 100) < mi 98 2 := y
    rw [e2] at y
    have y := iNLT y
    have hrain : rainN T S = sF S 2 (nxN (S 0 2)) := by unfold rainN; rw [if_pos y]
    exact h1 (jNZ z e2) mi _ BF.none d1 (by rw [hrain]; exact m72 _) (by rw [hrain]; exact hS)
/-- a day that passes -/
theorem passN_eq (T : Nat → Nat → Nat) (c e r : Bool) (S : Nat → Nat → Nat) : passN T c e r S = sF (if r && !(T 0 12 == 0) then rainN T (if e then sSh (if c then cutS T S else S) (eatN T (if c then cutS T S else S)) else (if c then cutS T S else S)) else (if e then sSh (if c then cutS T S else S) (eatN T (if c then cutS T S else S)) else (if c then cutS T S else S))) 0 ((if r && !(T 0 12 == 0) then rainN T (if e then sSh (if c then cutS T S else S) (eatN T (if c then cutS T S else S)) else (if c then cutS T S else S)) else (if e then sSh (if c then cutS T S else S) (eatN T (if c then cutS T S else S)) else (if c then cutS T S else S))) 0 0 + 1) := rfl
set_option maxHeartbeats 2000000 in
theorem t_aDay (hT : MT T mi) (hK : MK T mi) (hw : wfT T) (hl : wfL T) {b : Nat} (hb : b < 2) (hS : MB b S mi) (hs : wfS T S) (hd : ml 95 72 = lN (S 0 2)) {c e r : Bool} (hc : mi 95 74 = 0 ↔ c = false) (he : mi 95 74 = nI 1 ↔ e = false) (hr : mi 95 74 = nI 2 ↔ r = false) (hQ : ∀ mi' ml', BF b mi mi' → DF ml ml' → ml' 95 72 = lN (passN T c e r S 0 2) → MB b (passN T c e r S) mi' → Q none (mi', ml', R0 rd, 136)) : Cd (d + 5) k_Mod_aDay [.ref 95, .int (nI b)] (mi, ml, R0 rd, 136) Q := by
  have hfl := hw.fl
  have hw1 := hw.w1; have hh1 := hw.h1
  have hpos : 1 ≤ T 0 0 * T 0 1 := Nat.mul_le_mul hw1 hh1
  have hdy := hs.day
  rw [passN_eq] at hQ
  have dayS : ∀ S1 : Nat → Nat → Nat, S1 = (if c then cutS T S else S) → S1 0 0 = S 0 0 := fun S1 h1 => by subst h1; cases c <;> rfl
  /- the day's end -/
  have f3 : ∀ mi3 ml3 S3, BF b mi mi3 → DF ml ml3 → MB b S3 mi3 → ml3 95 72 = lN (S3 0 2) → S3 = (if r && !(T 0 12 == 0) then rainN T (if e then sSh (if c then cutS T S else S) (eatN T (if c then cutS T S else S)) else (if c then cutS T S else S)) else (if e then sSh (if c then cutS T S else S) (eatN T (if c then cutS T S else S)) else (if c then cutS T S else S))) → Q none (cu mi3 124 (upd (mi3 124) b (mi3 124 b + nI 1)), ml3, R0 rd, 136) := by
    intro mi3 ml3 S3 hf hfd hM h72 e3
    rw [← e3] at hQ
    refine hQ _ _ hf.dy hfd h72 ⟨hM.1, ?_⟩
    show upd (mi3 124) b (mi3 124 b + nI 1) b = nI (S3 0 0 + 1)
    rw [pk_us, hM.2, nI_add]
  /- behind the cutting -/
  have f1 : ∀ j mi1 S1, BF b mi mi1 → MB b S1 mi1 → wfS T S1 → S1 0 2 = S 0 2 → S1 = (if c then cutS T S else S) → (j = T 0 0 * T 0 1 ∨ c = false) → j ≤ T 0 0 * T 0 1 → GoM (d + 4) k_Mod_aDay 136 Q 2 [.ref 95, .int (nI b), .int (nI j)] [] (mi1, ml, R0 rd, 136) := by
    intro j mi1 S1 hf hM hs1 e02 e1 hj hj2
    have hT1 := hf.T hT
    have hK1 := hf.K hK
    have w1 : mi1 95 74 = mi 95 74 := hf.k (by decide)
    rw [← e1] at f3
    have tail : ∀ mi2 ml2 S2, BF b mi mi2 → DF ml ml2 → MB b S2 mi2 → wfS T S2 → ml2 95 72 = lN (S2 0 2) → S2 = (if e then sSh S1 (eatN T S1) else S1) → ∀ (K : Nat → List Value → List Value → Mm → Prop) (Kl : Nat → List Value → Mm → (Option Value → Mm → Prop) → Prop), (∀ t ls st M, GoM (d + 4) k_Mod_aDay 136 Q t ls st M → K t ls st M) → (∀ k as M P, Cd (d + 4) k as M P → Kl k as M P) → (mi2 95 74 = nI 2 → Q none (cu mi2 124 (upd (mi2 124) b (mi2 124 b + nI 1)), ml2, R0 rd, 136)) ∧ (¬ mi2 95 74 = nI 2 → ∀ P : Option Value → Mm → Prop, (∀ mi3 ml3, mi3 124 b = mi3 124 b → Q none (cu mi3 124 (upd (mi3 124) b (mi3 124 b + nI 1)), ml3, R0 rd, 136) → P none (mi3, ml3, R0 rd, 136)) → Kl k_Mod_rains [.ref 95, .int (nI b)] (mi2, ml2, R0 rd, 136) P) := by
      intro mi2 ml2 S2 hf2 hl2 hM2 hs2 h72 e2 K Kl hK hC
      have w2 : mi2 95 74 = mi 95 74 := hf2.k (by decide)
      rw [← e2] at f3
      refine ⟨fun z => ?_, fun z P hP => ?_⟩
      · rw [w2] at z
        have hr0 := hr.mp z
        exact f3 mi2 ml2 S2 hf2 hl2 hM2 h72 (by rw [hr0]; rfl)
      · rw [w2] at z
        have hr1 : r = true := by
          cases hrr : r with
          | true => rfl
          | false => exact absurd (hr.mpr hrr) z
        refine hC _ _ _ _ (t_rains (hf2.T hT) hw hb hM2 hs2 h72 (fun h12 => hP _ _ rfl (f3 mi2 ml2 S2 hf2 hl2 hM2 h72 ?_)) (fun h12 mi3 ml3 hf3 hl3 h723 hM3 => hP _ _ rfl (f3 mi3 ml3 (rainN T S2) (hf2.trans hf3) (hl2.trans hl3) hM3 h723 ?_)))
        · rw [h12, show (0 == 0) = true from rfl, Bool.not_true, Bool.and_false]
          rfl
        · rw [hr1, show (T 0 12 == 0) = false from beq_eq_false_iff_ne.mpr h12]
          rfl
    refine g_Mod_aDay (fun K Kl hK hC => hC _ _ _ _ (t_fields hT1 ⟨fun z => ?_, fun z => ⟨fun y => ?_, fun y => ?_⟩⟩))
    rotate_left 2
    · have z := iNLE z
      have y : ¬ mi1 95 74 = 0 := y
      rw [w1] at y
      rcases hj with h | h
      · omega
      · exact absurd (hc.mpr h) y
    all_goals
      refine ⟨fun q => ?_, fun q => ?_⟩
      · have q : mi1 95 74 = nI 1 := q
        rw [w1] at q
        have e0 := he.mp q
        have t := tail mi1 ml S1 hf DF.none hM hs1 (by rw [hd, e02]) (by rw [e0]; rfl) K Kl hK hC
        exact ⟨fun p => ⟨b, by omega, rfl, ⟨b, by omega, rfl, ⟨rfl, t.1 p⟩⟩⟩, fun p => t.2 p _ (fun mi3 ml3 _ h => ⟨b, by omega, rfl, ⟨b, by omega, rfl, ⟨rfl, h⟩⟩⟩)⟩
      · have q : ¬ mi1 95 74 = nI 1 := q
        rw [w1] at q
        have e1' : e = true := by
          cases hee : e with
          | true => rfl
          | false => exact absurd (he.mpr hee) q
        refine hC _ _ _ _ (t_eats hT1 hK1 hw hl hb hM hs1 (fun mi2 ml2 hf2 hl2 hM2 => ?_))
        have t := tail mi2 ml2 (sSh S1 (eatN T S1)) (hf.trans hf2) hl2.df hM2 hs1.eatS (by rw [hl2 95 72 rfl, hd, ← e02]; rfl) (by rw [e1']; rfl) K Kl hK hC
        exact ⟨fun p => ⟨b, by omega, rfl, ⟨b, by omega, rfl, ⟨rfl, t.1 p⟩⟩⟩, fun p => t.2 p _ (fun mi3 ml3 _ h => ⟨b, by omega, rfl, ⟨b, by omega, rfl, ⟨rfl, h⟩⟩⟩)⟩
  cases hcc : c with
  | false =>
    exact r_Mod_aDay (by decide) (fun K Kl hK hC => hK _ _ _ _ (f1 0 mi S BF.none hS hs rfl (by rw [hcc]; rfl) (Or.inr hcc) (Nat.zero_le _)))
  | true =>
    have hcn : ¬ mi 95 74 = 0 := fun z => by rw [hc.mp z] at hcc; cases hcc
    have lp : ∀ j, j ≤ T 0 0 * T 0 1 → ∀ g : Nat → Int32, (∀ f, f < 48 → g (48 * b + f) = nI (if f < j ∧ dueN T (S 0 0) f = true then 0 else S 1 f)) → (∀ i, (i < 48 * b ∨ 48 * b + 48 ≤ i) → g i = mi 123 i) → GoM (d + 4) k_Mod_aDay 136 Q 2 [.ref 95, .int (nI b), .int (nI j)] [] (cu mi 123 g, ml, R0 rd, 136) := by
      refine upto ?_ ?_
      · intro g hg ho
        refine f1 _ _ (cutS T S) (BF.none.sh ho) ⟨fun f hf => ?_, hS.2⟩ hs.cut1 rfl (by rw [hcc]; rfl) (Or.inl rfl) (Nat.le_refl _)
        show g (48 * b + f) = nI (if dueN T (S 0 0) f then 0 else S 1 f)
        rw [hg f hf]
        congr 1
        by_cases hd2 : dueN T (S 0 0) f = true
        · have h4 : T 4 f ≠ 0 := fun z => by
            unfold dueN at hd2
            rw [z] at hd2
            cases hd2
          have hff : f < T 0 0 * T 0 1 := by
            rcases Nat.lt_or_ge f (T 0 0 * T 0 1) with q | q
            · exact q
            · exact absurd (hw.owo f q) h4
          rw [if_pos ⟨hff, hd2⟩, if_pos hd2]
        · rw [if_neg (fun q => hd2 q.2), if_neg hd2]
      · intro j hj ih g hg ho
        have hT1 : MT T (cu mi 123 g) := (BF.none.sh ho : BF b mi _).T hT
        have h4 := hw.ow j
        have h5 := hw.own5
        have eo : mi 103 j = nI (T 4 j) - 1 := hT.own j (by omega)
        have ix : nI 48 * nI b + nI j = nI (48 * b + j) := by rw [pk_mul, nI_add]
        have keep : dueN T (S 0 0) j = false → GoM (d + 4) k_Mod_aDay 136 Q 2 [.ref 95, .int (nI b), .int (nI j + nI 1)] [] (cu mi 123 g, ml, R0 rd, 136) := fun hn => by
          have ih := ih g (fun f hf => by
            rw [hg f hf]
            congr 1
            by_cases e1 : f = j
            · subst e1
              rw [if_neg (by omega), if_neg (by rw [hn]; exact fun q => by cases q.2)]
            · by_cases e2 : f < j ∧ dueN T (S 0 0) f = true
              · rw [if_pos e2, if_pos ⟨by omega, e2.2⟩]
              · rw [if_neg e2, if_neg (fun q => e2 ⟨by omega, q.2⟩)]) ho
          rw [nI1 j] at ih
          exact ih
        refine g_Mod_aDay (fun K Kl hK hC => hC _ _ _ _ (t_fields hT1 ⟨fun z => absurd (iLE z) (by omega), fun _ => ⟨fun y => absurd y hcn, fun _ => ⟨j, by omega, rfl, ⟨fun z => hK _ _ _ _ (keep ?_), fun z => ⟨j, by omega, rfl, ?_⟩⟩⟩⟩⟩))
        · have z : mi 103 j < 0 := z
          rw [eo] at z
          have h0 : T 4 j = 0 := by
            rcases Nat.eq_zero_or_pos (T 4 j) with q | q
            · exact q
            · exact absurd ((nI_predge (by omega)).mpr (by omega)) (lt_not z)
          unfold dueN
          rw [h0]
          rfl
        · have z : ¬ mi 103 j < 0 := z
          have hne : T 4 j ≠ 0 := fun q => z (by rw [eo, q]; decide)
          obtain ⟨q, hq⟩ : ∃ q, T 4 j = q + 1 := ⟨T 4 j - 1, by omega⟩
          have ec : mi 102 q = nI (T 3 q) := hT.cut q (by omega)
          have h99 := hw.cu q (by omega)
          rw [hq, nI_pred] at eo
          have hdue : dueN T (S 0 0) j = (T 3 q == S 0 0) := by
            unfold dueN
            rw [hq]
            rfl
          refine ⟨q, by omega, eo, ⟨b, by omega, rfl, ⟨fun w => hK _ _ _ _ (keep ?_), fun w => ⟨48 * b + j, by omega, ix, ?_⟩⟩⟩⟩
          · have w : ¬ mi 102 q = mi 124 b := w
            rw [ec, hS.2] at w
            rw [hdue]
            exact beq_eq_false_iff_ne.mpr (iNE w)
          · have w : mi 102 q = mi 124 b := w
            rw [ec, hS.2] at w
            have hdt : dueN T (S 0 0) j = true := by rw [hdue]; exact beq_iff_eq.mpr (iEQ w)
            have ih := ih (upd g (48 * b + j) (nI 0)) (fun f hf => by
              by_cases e1 : f = j
              · subst e1
                rw [pk_us, if_pos ⟨by omega, hdt⟩]
              · rw [pk_un (by omega), hg f hf]
                congr 1
                by_cases e2 : f < j ∧ dueN T (S 0 0) f = true
                · rw [if_pos e2, if_pos ⟨by omega, e2.2⟩]
                · rw [if_neg e2, if_neg (fun q => e2 ⟨by omega, q.2⟩)]) (fun i hi => by rw [pk_un (by omega)]; exact ho i hi)
            rw [nI1 j, ← cuu] at ih
            exact hK _ _ _ _ ih
    have l0 := lp 0 (Nat.zero_le _) (mi 123) (fun f hf => by rw [if_neg (by omega)]; exact hS.1 f hf) (fun _ _ => rfl)
    rw [cu_id] at l0
    exact r_Mod_aDay (by decide) (fun K Kl hK hC => hK _ _ _ _ l0)
end
