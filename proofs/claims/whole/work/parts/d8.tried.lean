/-! WHAT THE REFERENCE ANSWERS: tried -/
section
variable {d : Nat} {Q : Option Value → Mm → Prop} {A : St} {T S : Nat → Nat → Nat} {mi : Nat → Nat → Int32} {ml : Nat → Nat → Int64} {rd : Option Nat} {x y z : Int32}
theorem trO_wf (hs : wfS T S) (o : Nat) : wfS T (trO T S o) := hs.sh2 (fun f => by split <;> omega)
set_option maxHeartbeats 1000000 in
/-- the days that are tried -/
theorem triedLp (hT : MT T mi) (hK : MK T mi) (hw : wfT T) (hl : wfL T) (hs : wfS T S) (hd9 : S 0 0 ≤ 999) (hd : ml 95 72 = lN (S 0 2)) {k n : Nat} (hk : k < 4) (hn : n ≤ 99) (hQ : ∀ mi' ml', MF mi mi' → ML ml ml' → Q (some (.int (nI (stkAll (trS T (!(k == 0)) (!(k == 1)) (!(k == 2)) S (min n (999 - S 0 0)) 1))))) (mi', ml', R0 rd, 136)) {y : Int32} : ∀ j, j ≤ min n (999 - S 0 0) → ∀ mi' ml', MF mi mi' → DF ml ml' → mi' 95 74 = nI k → MB 1 (trS T (!(k == 0)) (!(k == 1)) (!(k == 2)) S j) mi' → ml' 95 72 = lN (trS T (!(k == 0)) (!(k == 1)) (!(k == 2)) S j 0 2) → GoM (d + 5) k_Mod_tried 136 Q 111 [.ref 95, .int (nI k), .int y, .int (nI n), .long (ml 95 72), .null, .int (nI j)] [] (mi', ml', R0 rd, 136) := by
  have wf : ∀ j, j ≤ min n (999 - S 0 0) → wfS T (trS T (!(k == 0)) (!(k == 1)) (!(k == 2)) S j) := fun j hj => trS_wf hs _ _ _ (n := 100) (by omega) j (by omega)
  have dy := trS_day T (!(k == 0)) (!(k == 1)) (!(k == 2)) S
  refine upto ?_ ?_
  · intro mi' ml' hf hdf h74 hM h72
    have hT1 := hT.mf hf
    have hwf := wf _ (Nat.le_refl _)
    have e72 : cu ml' 95 (vp_updL (ml' 95) 72 (ml 95 72)) 95 72 = ml 95 72 := by rw [cu_self, pk_uLs]
    have hq := hQ mi' (cu ml' 95 (vp_updL (ml' 95) 72 (ml 95 72))) hf (hdf.d72.ml e72)
    have st : Cd (d + 5) k_Mod_stacksOf [.ref 95, .int (nI 1)] (mi', cu ml' 95 (vp_updL (ml' 95) 72 (ml 95 72)), R0 rd, 136) (fun r M' => M'.2.2.2 = 136 ∧ Q r M') := t_stacksOf (d := d + 3) (b := 1) hT1 hw (by omega) hwf (hM.s hwf) ⟨rfl, hq⟩
    refine g_Mod_tried (fun K Kl hK hC => ⟨fun _ => hC _ _ _ _ (t_stacksOf (b := 1) hT1 hw (by omega) hwf (hM.s hwf) ⟨rfl, hq⟩), fun z => ⟨1, by decide, rfl, ⟨fun _ => hC _ _ _ _ (t_stacksOf (b := 1) hT1 hw (by omega) hwf (hM.s hwf) ⟨rfl, hq⟩), fun q => ?_⟩⟩⟩)
    have z := iNLE z
    have q : ¬ nI 999 ≤ mi' 124 1 := q
    rw [hM.2, dy] at q
    exact absurd (iNLE q) (by omega)
  · intro j hj ih mi' ml' hf hdf h74 hM h72
    have hT1 := hT.mf hf
    have hK1 := hK.mf hf
    have hwf := wf j (by omega)
    refine g_Mod_tried (fun K Kl hK0 hC => ⟨fun z => absurd (iLE z) (by omega), fun _ => ⟨1, by decide, rfl, ⟨fun q => ?_, fun _ => hC _ _ _ _ (t_aDay (b := 1) (c := !(k == 0)) (e := !(k == 1)) (r := !(k == 2)) hT1 hK1 hw hl (by omega) hM hwf h72 ?_ ?_ ?_ (fun mi2 ml2 hf2 hl2 h722 hM2 => ?_))⟩⟩⟩)
    · have q : nI 999 ≤ mi' 124 1 := q
      rw [hM.2, dy] at q
      exact absurd (iLE q) (by omega)
    · rw [h74]
      have : ∀ k, k < 4 → (nI k = 0 ↔ (!(k == 0)) = false) := by decide
      exact this k hk
    · rw [h74]
      have : ∀ k, k < 4 → (nI k = nI 1 ↔ (!(k == 1)) = false) := by decide
      exact this k hk
    · rw [h74]
      have : ∀ k, k < 4 → (nI k = nI 2 ↔ (!(k == 2)) = false) := by decide
      exact this k hk
    · have ih := ih mi2 ml2 (hf.trans hf2.mf) (hdf.trans hl2) ((hf2.k (by decide)).trans h74) hM2 h722
      rw [nI1 j] at ih
      exact hK0 _ _ _ _ ih
set_option maxHeartbeats 1000000 in
/-- behind what is asked -/
theorem triedIn (hA : MI A mi ml) (hw : wfA A) {k n o : Nat} (hk : k < 4) (hn : n ≤ 99) {y : Int32} (hy : k = 3 → y = nI o ∧ o < 5) (hQ : ∀ mi' ml', MF mi mi' → ML ml ml' → Q (some (.int (nI (triedN (A 0) (A 1) k o n)))) (mi', ml', R0 rd, 136)) {mi1 : Nat → Nat → Int32} (hf1 : BF 1 mi mi1) (hM1 : MB 1 (A 1) mi1) : GoM (d + 5) k_Mod_tried 136 Q 55 [.ref 95, .int (nI k), .int y, .int (nI n), .int (nI 0), .null, .null] [] (mi1, ml, R0 rd, 136) := by
  have hfl := hw.T.fl
  have hd9 := hw.d
  have ed : ml 95 72 = lN (A 1 0 2) := hA.S.2.2.2.1
  unfold triedN at hQ
  /- what comes behind the cutting -/
  have fin : ∀ S0 mi2, S0 = (if k = 3 then trO (A 0) (A 1) o else A 1) → BF 1 mi mi2 → MB 1 S0 mi2 → ∀ j, j ≤ A 0 0 0 * A 0 0 1 → (k = 3 → j = A 0 0 0 * A 0 0 1) → GoM (d + 5) k_Mod_tried 136 Q 55 [.ref 95, .int (nI k), .int y, .int (nI n), .int (nI j), .null, .null] [] (mi2, ml, R0 rd, 136) := by
    intro S0 mi2 e0 hf2 hM2 j hj hj3
    have hT2 := hf2.T hA.T
    have hwf : wfS (A 0) S0 := by
      rw [e0]
      split
      · exact trO_wf hw.S o
      · exact hw.S
    have e00 : S0 0 0 = A 1 0 0 := by
      rw [e0]
      split <;> rfl
    have e02 : S0 0 2 = A 1 0 2 := by
      rw [e0]
      split <;> rfl
    have hmf : MF mi (cu mi2 95 (upd (mi2 95) 74 (nI k))) := hf2.mf.cu rfl
    have lp := triedLp (d := d) (Q := Q) (rd := rd) (y := y) hA.T hA.K hw.T hw.L hwf (by omega) (by rw [ed, e02]) hk hn (fun mi' ml' a b => by
      have := hQ mi' ml' a b
      rw [← e0, ← e00] at this
      exact this) 0 (Nat.zero_le _) _ ml hmf DF.none rfl hM2 (by rw [ed, ← e02]; rfl)
    refine g_Mod_tried (fun K Kl hK hC => hC _ _ _ _ (t_fields hT2 ⟨fun _ => hK _ _ _ _ lp, fun z => ⟨fun _ => hK _ _ _ _ lp, fun q => ?_⟩⟩))
    have z := iNLE z
    have q := iEQ q
    have := hj3 q
    omega
  by_cases h3 : k = 3
  · obtain ⟨ey, ho⟩ := hy h3
    subst ey; subst h3
    have lp : ∀ j, j ≤ A 0 0 0 * A 0 0 1 → ∀ g : Nat → Int32, (∀ f, f < 48 → g (48 * 1 + f) = nI (if f < j ∧ A 0 4 f = o + 1 then 0 else A 1 1 f)) → (∀ i, (i < 48 * 1 ∨ 48 * 1 + 48 ≤ i) → g i = mi1 123 i) → GoM (d + 5) k_Mod_tried 136 Q 55 [.ref 95, .int (nI 3), .int (nI o), .int (nI n), .int (nI j), .null, .null] [] (cu mi1 123 g, ml, R0 rd, 136) := by
      refine upto ?_ ?_
      · intro g hg ho2
        refine fin (trO (A 0) (A 1) o) _ (by rw [if_pos rfl]) (hf1.sh ho2) ⟨fun f hf => ?_, hM1.2⟩ _ (Nat.le_refl _) (fun _ => rfl)
        show g (48 * 1 + f) = nI (if A 0 4 f = o + 1 then 0 else A 1 1 f)
        rw [hg f hf]
        congr 1
        by_cases h4 : A 0 4 f = o + 1
        · have hff : f < A 0 0 0 * A 0 0 1 := by
            rcases Nat.lt_or_ge f (A 0 0 0 * A 0 0 1) with q | q
            · exact q
            · have := hw.T.owo f q
              omega
          rw [if_pos ⟨hff, h4⟩, if_pos h4]
        · rw [if_neg (fun q => h4 q.2), if_neg h4]
      · intro j hj ih g hg ho2
        have hT2 : MT (A 0) (cu mi1 123 g) := (hf1.sh ho2 : BF 1 mi _).T hA.T
        have h4 := hw.T.ow j
        have h5 := hw.T.own5
        have eo : mi1 103 j = nI (A 0 4 j) - 1 := (hf1.T hA.T).own j (by omega)
        rw [nI1 j] at ih
        refine g_Mod_tried (fun K Kl hK hC => hC _ _ _ _ (t_fields hT2 ⟨fun z => absurd (iLE z) (by omega), fun _ => ⟨fun z => absurd rfl z, fun _ => ⟨j, by omega, rfl, ⟨fun q => hK _ _ _ _ (ih g ?_ ho2), fun q => ⟨48 + j, by omega, nI_add 48 j, ?_⟩⟩⟩⟩⟩))
        · have q : ¬ mi1 103 j = nI o := q
          have hne : A 0 4 j ≠ o + 1 := fun e => q (by rw [eo, e, nI_pred])
          intro f hf
          rw [hg f hf]
          congr 1
          by_cases e1 : f < j ∧ A 0 4 f = o + 1
          · rw [if_pos e1, if_pos ⟨by omega, e1.2⟩]
          · rw [if_neg e1, if_neg (fun p => by
              by_cases e2 : f = j
              · rw [e2] at p; exact hne p.2
              · exact e1 ⟨by omega, p.2⟩)]
        · have q : mi1 103 j = nI o := q
          have he : A 0 4 j = o + 1 := by
            rcases Nat.eq_zero_or_pos (A 0 4 j) with p | p
            · rw [eo, p] at q
              exact (i_neg_ne (show nI 0 - 1 < 0 by decide) (show o < 2 ^ 31 by omega) q).elim
            · obtain ⟨r, hr⟩ : ∃ r, A 0 4 j = r + 1 := ⟨A 0 4 j - 1, by omega⟩
              rw [eo, hr, nI_pred] at q
              have := iEQ q
              omega
          have ih := ih (upd g (48 + j) (nI 0)) (fun f hf => by
            by_cases e1 : f = j
            · subst e1
              rw [show 48 * 1 + f = 48 + f by omega, pk_us, if_pos ⟨by omega, he⟩]
            · rw [pk_un (by omega), hg f hf]
              congr 1
              by_cases e2 : f < j ∧ A 0 4 f = o + 1
              · rw [if_pos e2, if_pos ⟨by omega, e2.2⟩]
              · rw [if_neg e2, if_neg (fun p => e2 ⟨by omega, p.2⟩)]) (fun i hi => by rw [pk_un (by omega)]; exact ho2 i hi)
          rw [← cuu] at ih
          exact hK _ _ _ _ ih
    have l0 := lp 0 (Nat.zero_le _) (mi1 123) (fun f hf => by rw [if_neg (by omega)]; exact hM1.1 f hf) (fun _ _ => rfl)
    rw [cu_id] at l0
    exact l0
  · exact fin (A 1) mi1 (by rw [if_neg h3]) hf1 hM1 0 (Nat.zero_le _) (fun q => absurd q h3)
set_option maxHeartbeats 1000000 in
theorem q_tried (hA : MI A mi ml) (hw : wfA A) (hQ : ∀ mi' ml', MF mi mi' → ML ml ml' → Q (some (.int (aTried A x y z))) (mi', ml', R0 rd, 136)) : Cd (d + 6) k_Mod_tried [.ref 95, .int x, .int y, .int z] (mi, ml, R0 rd, 136) Q := by
  have hA1 := hA.mf thr0 ML.none
  have h5 := hw.T.own5
  unfold aTried at hQ
  refine r_Mod_tried (by decide) (fun K Kl hK hC => hC _ _ _ _ (t_isIn (fun h1 h2 => ⟨fun a => absurd a (by decide), fun _ => hC _ _ _ _ (t_isIn (fun h3 h4 => ⟨fun _ => ?_, fun a => absurd a (by decide)⟩) (fun hno => ⟨fun a => absurd (by decide) a, fun _ => ⟨rfl, ?_⟩⟩))⟩) (fun hno => ⟨fun _ => ⟨rfl, ?_⟩, fun a => absurd (by decide) a⟩)))
  · obtain ⟨k, hk, rfl, he⟩ := ixo_rg (n := 3) (by omega) h1 h2
    obtain ⟨n, hn, rfl, hen⟩ := ixo_rg (n := 99) (by omega) h3 h4
    rw [he, hen] at hQ
    refine ⟨fun q => ⟨fun q2 => ?_, fun q2 => ⟨rfl, ?_⟩⟩, fun q => hC _ _ _ _ (t_isOwner hA1.T hw.T (fun o ho e => ⟨fun _ => ?_, fun a => absurd a (by decide)⟩) (fun hno => ⟨fun a => absurd (by decide) a, fun _ => ⟨rfl, ?_⟩⟩))⟩
    · have q := iNE q
      simp only [if_neg q, if_pos q2] at hQ
      exact hC _ _ _ _ (t_layTried hA1.S.b0 (fun mi1 hf1 hM1 => hK _ _ _ _ (triedIn (o := 0) hA1 hw (by omega) hn (fun q3 => absurd q3 q) (fun mi' ml' a b => hQ mi' ml' (thr0.trans a) b) hf1 hM1)))
    · have q := iNE q
      simp only [if_neg q, if_neg q2] at hQ
      exact hQ _ ml thr0 ML.none
    · have q := iEQ q
      subst e; subst q
      simp only [if_true, ixo_some ho] at hQ
      exact hC _ _ _ _ (t_layTried hA1.S.b0 (fun mi1 hf1 hM1 => hK _ _ _ _ (triedIn (o := o) hA1 hw (by omega) hn (fun _ => ⟨rfl, by omega⟩) (fun mi' ml' a b => hQ mi' ml' (thr0.trans a) b) hf1 hM1)))
    · have q := iEQ q
      subst q
      simp only [if_true, ixo_none hno] at hQ
      exact hQ _ ml thr0 ML.none
  · obtain ⟨k, hk, rfl, he⟩ := ixo_rg (n := 3) (by omega) h1 h2
    have hn : ixo z 100 = none := hno.elim (fun h => ixo_neg h) (fun h => ixo_big (n := 99) (by omega) h)
    rw [he, hn] at hQ
    exact hQ _ ml thr0 ML.none
  · have hn : ixo x 4 = none := hno.elim (fun h => ixo_neg h) (fun h => ixo_big (n := 3) (by omega) h)
    rw [hn] at hQ
    exact hQ _ ml thr0 ML.none
end
