/-! WHAT THE REFERENCE ANSWERS: summer -/
def LO (r : Option (Nat × List Nat)) (m : Nat) (mi : Nat → Nat → Int32) : Prop := match r with
  | none => mi 95 86 = -1
  | some (s, o) => mi 95 86 = nI s ∧ ∀ i, i < m → mi 127 i = nI (nth 0 o i)
theorem LO.mv {r : Option (Nat × List Nat)} {m : Nat} {mi mi' : Nat → Nat → Int32} (h : LO r m mi) (h1 : mi' 95 86 = mi 95 86) (h2 : mi' 127 = mi 127) : LO r m mi' := by
  unfold LO at h ⊢
  split
  · rw [h1]; exact h
  · rw [h1, h2]; exact h
theorem bs_bd {f : List Nat → Nat} {B : Nat} {L : List (List Nat)} (h : ∀ o, o ∈ L → f o ≤ B) {s : Nat} {q : List Nat} (e : bsN f L = some (s, q)) : s ≤ B := by
  have key : ∀ (L : List (List Nat)) (b : Option (Nat × List Nat)), (∀ o, o ∈ L → f o ≤ B) → (∀ s q, b = some (s, q) → s ≤ B) → ∀ s q, L.foldl (bsF f) b = some (s, q) → s ≤ B := by
    intro L
    induction L with
    | nil => intro b _ hb s q e; exact hb s q e
    | cons o L ih =>
      intro b hL hb s q e
      refine ih (bsF f b o) (fun o2 h2 => hL o2 (List.mem_cons_of_mem _ h2)) (fun s2 q2 e2 => ?_) s q e
      have ho := hL o List.mem_cons_self
      cases b with
      | none => cases e2; exact ho
      | some t =>
        obtain ⟨s3, q3⟩ := t
        have e2 : (if s3 < f o then some (f o, o) else some (s3, q3)) = some (s2, q2) := e2
        split at e2
        · cases e2; exact ho
        · cases e2; exact hb _ _ rfl
  exact key L none h (fun s q e => by cases e) s q e
theorem rf_in {k N m : Nat} : ∀ c o, o ∈ rfN k N m c → ∃ c2, c2 < c ∧ o = dgL N m c2
  | 0, o, h => by cases h
  | c + 1, o, h => by
    rw [rfN] at h
    have ih := rf_in (k := k) (N := N) (m := m) c o
    split at h
    · rcases List.mem_append.mp h with q | q
      · obtain ⟨c2, h2, e⟩ := ih q
        exact ⟨c2, by omega, e⟩
      · rcases List.mem_singleton.mp q with rfl
        exact ⟨c, by omega, rfl⟩
    · obtain ⟨c2, h2, e⟩ := ih h
      exact ⟨c2, by omega, e⟩
theorem pw6 : ∀ N, N < 7 → ∀ m, m < 5 → N ^ m ≤ 1296 := by decide
section
variable {d : Nat} {Q : Option Value → Mm → Prop} {A : St} {T S : Nat → Nat → Nat} {mi : Nat → Nat → Int32} {ml : Nat → Nat → Int64} {rd : Option Nat} {x y z u : Int32}
set_option maxHeartbeats 2000000 in
theorem t_laySummer (hA : MI A mi ml) (hw : wfA A) {h k n : Nat} (hh : h < A 0 0 5) (hk1 : 1 ≤ k) (hk : k < 2 ^ A 0 0 4) (hm4 : bcN k ≤ 4) (hn : n ≤ 30) (hQ : ∀ mi' ml', MF mi mi' → ML ml ml' → mi' 95 85 = nI (bcN k) → LO (bsN (smF (A 0) (A 1) h (bcN k) n) (orL (ckL k (A 0 0 4)) (bcN k) (bcN k ^ bcN k))) (bcN k) mi' → Q none (mi', ml', R0 rd, 136)) : Cd (d + 8) k_Mod_laySummer [.ref 95, .int (nI h), .int (nI k), .int (nI n)] (mi, ml, R0 rd, 136) Q := by
  have h6 := hw.T.wd6
  have hp6 : 2 ^ A 0 0 4 ≤ 2 ^ 6 := Nat.pow_le_pow_right (by decide) h6
  have hk64 : k < 64 := by omega
  have hN0 : 0 < A 0 0 4 := by
    rcases Nat.eq_zero_or_pos (A 0 0 4) with q | q
    · rw [q] at hk; omega
    · exact q
  have hpos : 0 < A 0 0 4 ^ bcN k := Nat.pow_pos hN0
  have hbig := pw6 (A 0 0 4) (by omega) (bcN k) (by omega)
  rw [← rf_or (A 0 0 4) (by omega) k hk hm4] at hQ
  generalize hmd : bcN k = m at hQ hm4 hpos hbig
  have lp : ∀ c, c ≤ A 0 0 4 ^ m → ∀ mi' ml', MF mi mi' → ML ml ml' → mi' 95 85 = nI m → (c < A 0 0 4 ^ m → ∀ i, i < m → mi' 126 i = nI (dgN (A 0 0 4) m c i)) → LO (bsN (smF (A 0) (A 1) h m n) (rfN k (A 0 0 4) m c)) m mi' → ∀ v5 v6, GoM (d + 7) k_Mod_laySummer 136 Q 39 [.ref 95, .int (nI h), .int (nI k), .int (nI n), .int (nI (decide (c < A 0 0 4 ^ m)).toNat), v5, v6] [] (mi', ml', R0 rd, 136) := by
    refine upto ?_ ?_
    · intro mi' ml' hf hl em _ hL v5 v6
      rw [decide_eq_false (Nat.lt_irrefl _)]
      exact g_Mod_laySummer (fun K Kl hK hC => ⟨fun _ => ⟨rfl, hQ mi' ml' hf hl em hL⟩, fun a => absurd (by decide) a⟩)
    · intro c hc ih mi' ml' hf hl em hdg hL v5 v6
      have hdg := hdg hc
      have hdl : ∀ i, i < m → dgN (A 0 0 4) m c i < 6 := fun i hi => by have := dg_lt (N := A 0 0 4) (m := m) (c := c) (i := i) hN0; omega
      have nx := nx_dg (A 0 0 4) (by omega) m (by omega) c hc
      rw [decide_eq_true hc]
      /- the next order -/
      have nxt : ∀ mi3 ml3, MF mi mi3 → ML ml ml3 → mi3 95 85 = nI m → (∀ i, i < m → mi3 126 i = nI (dgN (A 0 0 4) m c i)) → LO (bsN (smF (A 0) (A 1) h m n) (rfN k (A 0 0 4) m (c + 1))) m mi3 → ∀ P : Option Value → Mm → Prop, (∀ (b : Nat) mi4, (∀ v5 v6, GoM (d + 7) k_Mod_laySummer 136 Q 39 [.ref 95, .int (nI h), .int (nI k), .int (nI n), .int (nI b), v5, v6] [] (mi4, ml3, R0 rd, 136)) → P (some (.int (nI b))) (mi4, ml3, R0 rd, 136)) → Cd (d + 7) k_Mod_nextOrder [.ref 95] (mi3, ml3, R0 rd, 136) P := by
        intro mi3 ml3 hf3 hl3 em3 hd3 hL3 P hP
        have hA3 := hA.mf hf3 hl3
        refine t_nextOrder h6 hm4 hA3.T.words em3 hd3 hdl (fun g hg => hP _ _ (fun v5 v6 => ?_))
        rw [nx.1]
        exact ih (cu mi3 126 g) ml3 (scC hf3 (fun _ => rfl)) hl3 em3 (fun hc2 i hi => by
          rw [cu_self, hg i hi]
          exact congrArg nI ((nx.2 i hi) hc2)) (hL3.mv rfl rfl) v5 v6
      have hA2 := hA.mf hf hl
      have eL : ∀ i, i < m → mi' 126 i = nI (nth 0 (dgL (A 0 0 4) m c) i) := fun i hi => by rw [dgL_nth hi]; exact hdg i hi
      have lL : ∀ i, i < m → nth 0 (dgL (A 0 0 4) m c) i < A 0 0 4 := fun i hi => by rw [dgL_nth hi]; exact dg_lt hN0
      refine g_Mod_laySummer (fun K Kl hK hC => ⟨fun a => absurd a (by decide), fun _ => hC _ _ _ _ (t_isOrder hk64 hm4 em eL (fun i hi => by have := lL i hi; omega) (fun ho => ⟨fun a => absurd a (by decide), fun _ => hC _ _ _ _ (t_summerOf hA2.T hA2.K hw.T hw.L hA2.S.b0 hw.S hA2.S.2.2.2.1 hw.d hA2.f.1 hA2.f.2 hh hm4 hn em eL lL (fun mi2 ml2 hf2 hl2 => ?_))⟩) (fun ho => ⟨fun _ => hC _ _ _ _ (nxt mi' ml' hf hl em hdg ?_ _ (fun b mi4 hg => hK _ _ _ _ (hg _ _))), fun a => absurd (by decide) a⟩))⟩)
      · have hF := hf.trans hf2.1
        have hLl := hl.trans hl2
        have em2 : mi2 95 85 = nI m := hf2.2.2.2.1.trans em
        have hd2 : ∀ i, i < m → mi2 126 i = nI (dgN (A 0 0 4) m c i) := fun i hi => by rw [hf2.2.1]; exact hdg i hi
        have hL2 := hL.mv hf2.2.2.2.2 hf2.2.2.1
        have er : rfN k (A 0 0 4) m (c + 1) = rfN k (A 0 0 4) m c ++ [dgL (A 0 0 4) m c] := by rw [rfN, if_pos ho]
        have hsm : (smR (A 0) h m (nth 0 (dgL (A 0 0 4) m c)) (A 1) n).2.1 = smF (A 0) (A 1) h m n (dgL (A 0 0 4) m c) := rfl
        have hsb := smR_le (S := A 1) (h := h) hw.T hm4 lL n
        rw [hsm] at hsb ⊢
        rw [er, bsN_s] at nxt
        /- taken -/
        have take : bsF (smF (A 0) (A 1) h m n) (bsN (smF (A 0) (A 1) h m n) (rfN k (A 0 0 4) m c)) (dgL (A 0 0 4) m c) = some (smF (A 0) (A 1) h m n (dgL (A 0 0 4) m c), dgL (A 0 0 4) m c) → ∀ i, i ≤ 4 → ∀ g : Nat → Int32, (∀ j, j < i → g j = mi2 126 j) → GoM (d + 7) k_Mod_laySummer 136 Q 78 [.ref 95, .int (nI h), .int (nI k), .int (nI n), .int (nI 1), .int (nI (smF (A 0) (A 1) h m n (dgL (A 0 0 4) m c))), .int (nI i)] [] (cu (cu mi2 95 (upd (mi2 95) 86 (nI (smF (A 0) (A 1) h m n (dgL (A 0 0 4) m c))))) 127 g, ml2, R0 rd, 136) := by
          intro eb
          refine upto ?_ ?_
          · intro g hg
            refine g_Mod_laySummer (fun K Kl hK hC => ⟨fun _ => hC _ _ _ _ (nxt (cu (cu mi2 95 (upd (mi2 95) 86 (nI (smF (A 0) (A 1) h m n (dgL (A 0 0 4) m c))))) 127 g) ml2 (scC (hF.cu rfl) (fun _ => rfl)) hLl em2 hd2 ?_ _ (fun b mi4 hg => hK _ _ _ _ (hg _ _))), fun z => absurd (iNLE z) (by omega)⟩)
            rw [eb]
            refine ⟨rfl, fun i hi => ?_⟩
            show g i = _
            rw [hg i (by omega), hd2 i hi, dgL_nth hi]
          · intro i hi ih3 g hg
            have ih3 := ih3 (upd g i (mi2 126 i)) (fun j hj => by
              by_cases e : j = i
              · rw [e, pk_us]
              · rw [pk_un e]; exact hg j (by omega))
            rw [nI1 i, ← cuu] at ih3
            exact g_Mod_laySummer (fun K Kl hK hC => ⟨fun z => absurd (iLE z) (by omega), fun _ => ⟨i, by omega, rfl, ⟨i, by omega, rfl, hK _ _ _ _ ih3⟩⟩⟩)
        have tk0 := fun eb => take eb 0 (Nat.zero_le _) (cu mi2 95 (upd (mi2 95) 86 (nI (smF (A 0) (A 1) h m n (dgL (A 0 0 4) m c)))) 127) lt_0
        rw [cu_id] at tk0
        cases hr : bsN (smF (A 0) (A 1) h m n) (rfN k (A 0 0 4) m c) with
        | none =>
          rw [hr] at tk0 hL2
          have hL2 : mi2 95 86 = -1 := hL2
          refine ⟨fun z => ?_, fun _ => hK _ _ _ _ (tk0 rfl)⟩
          have z : nI (smF (A 0) (A 1) h m n (dgL (A 0 0 4) m c)) ≤ mi2 95 86 := z
          rw [hL2] at z
          exact absurd (Int32.le_trans (nI_pos' (by omega)) z) (by decide)
        | some t =>
          obtain ⟨s, q⟩ := t
          rw [hr] at tk0 hL2 nxt
          have hL3 : mi2 95 86 = nI s := hL2.1
          have hs31 : s < 2 ^ 31 := by
            have := bs_bd (f := smF (A 0) (A 1) h m n) (B := 30 * 396) (L := rfN k (A 0 0 4) m c) (fun o ho => by
              obtain ⟨c2, hc2, rfl⟩ := rf_in c o ho
              have h2 := smR_le (S := A 1) (h := h) hw.T hm4 (l := nth 0 (dgL (A 0 0 4) m c2)) (fun i hi => by rw [dgL_nth hi]; exact dg_lt hN0) n
              exact Nat.le_trans h2 (Nat.mul_le_mul_right _ hn)) hr
            omega
          refine ⟨fun z => hC _ _ _ _ (nxt mi2 ml2 hF hLl em2 hd2 ?_ _ (fun b mi4 hg => hK _ _ _ _ (hg _ _))), fun z => hK _ _ _ _ (tk0 ?_)⟩
          · have z : nI (smF (A 0) (A 1) h m n (dgL (A 0 0 4) m c)) ≤ mi2 95 86 := z
            rw [hL3] at z
            have z := iLE z
            show LO (if _ then _ else _) m mi2
            rw [if_neg (by omega)]
            exact hL2
          · have z : ¬ nI (smF (A 0) (A 1) h m n (dgL (A 0 0 4) m c)) ≤ mi2 95 86 := z
            rw [hL3] at z
            have z := iNLE z
            exact if_pos z
      · rw [rfN, if_neg (by rw [ho]; decide)]
        exact hL
  have zero : ∀ i, i ≤ 4 → ∀ g : Nat → Int32, (∀ j, j < i → g j = nI 0) → ∀ v5 v6, GoM (d + 7) k_Mod_laySummer 136 Q 11 [.ref 95, .int (nI h), .int (nI k), .int (nI n), .int (nI i), v5, v6] [] (cu (cu mi 95 (upd (mi 95) 85 (nI m))) 126 g, ml, R0 rd, 136) := by
    refine upto ?_ ?_
    · intro g hg v5 v6
      have l0 := lp 0 (Nat.zero_le _) (cu (cu (cu mi 95 (upd (mi 95) 85 (nI m))) 126 g) 95 (upd (upd (mi 95) 85 (nI m)) 86 (-1))) ml ((scC (MF.none.cu rfl) (fun _ => rfl)).cu rfl) ML.none rfl (fun _ i hi => by
        show g i = _
        rw [hg i (by omega)]
        unfold dgN
        rw [Nat.zero_div, Nat.zero_mod]) (show (-1 : Int32) = -1 from rfl) v5 v6
      rw [decide_eq_true hpos] at l0
      exact g_Mod_laySummer (fun K Kl hK hC => ⟨fun _ => hK _ _ _ _ l0, fun z => absurd (iNLE z) (by omega)⟩)
    · intro i hi ih g hg v5 v6
      have ih := ih (upd g i (nI 0)) (fun j hj => by
        by_cases e : j = i
        · rw [e, pk_us]
        · rw [pk_un e]; exact hg j (by omega)) v5 v6
      rw [nI1 i, ← cuu] at ih
      exact g_Mod_laySummer (fun K Kl hK hC => ⟨fun z => absurd (iLE z) (by omega), fun _ => ⟨i, by omega, rfl, hK _ _ _ _ ih⟩⟩)
  have z0 := zero 0 (Nat.zero_le _) (cu mi 95 (upd (mi 95) 85 (nI m)) 126) lt_0 .null .null
  rw [cu_id] at z0
  refine r_Mod_laySummer (by decide) (fun K Kl hK hC => hC _ _ _ _ (s_Mod_manyOf (by omega) ?_))
  rw [hmd]
  exact hK _ _ _ _ z0
set_option maxHeartbeats 1000000 in
theorem q_summer (hA : MI A mi ml) (hw : wfA A) (hQ : ∀ mi' ml', MF mi mi' → ML ml ml' → Q (some (.int (aSummer A x y z u))) (mi', ml', R0 rd, 136)) : Cd (d + 9) k_Mod_summer [.ref 95, .int x, .int y, .int z, .int u] (mi, ml, R0 rd, 136) Q := by
  have hA1 := hA.mf thr0 ML.none
  have h3 := hw.T.hl3
  have h6 := hw.T.wd6
  have hp6 : 2 ^ A 0 0 4 ≤ 2 ^ 6 := Nat.pow_le_pow_right (by decide) h6
  have eN : mi 95 16 = nI (A 0 0 4) := hA.T.words
  unfold aSummer at hQ
  refine r_Mod_summer (by decide) (fun K Kl hK hC => hC _ _ _ _ (t_isHill hA1.T hw.T (fun h hh e => ⟨fun a => absurd a (by decide), fun _ => ⟨fun y1 => ⟨rfl, ?_⟩, fun y1 => ⟨fun y2 => ⟨rfl, ?_⟩, fun y2 => ?_⟩⟩⟩) (fun hno => ⟨fun _ => ⟨rfl, ?_⟩, fun a => absurd (by decide) a⟩)))
  · subst e
    have hQ := hQ _ ml thr0 ML.none
    rcases i_nn y with hy | ⟨j, hj, rfl⟩
    · rw [ixo_some hh, ixo_neg hy] at hQ
      exact hQ
    · have := iLT y1
      have j0 : j = 0 := by omega
      subst j0
      rw [ixo_some hh, ixo_some (by have := Nat.two_pow_pos (A 0 0 4); omega)] at hQ
      exact hQ
  · subst e
    have hQ := hQ _ ml thr0 ML.none
    have y0 : ¬ y < 0 := fun q => y1 (Int32.lt_trans q (by decide))
    obtain ⟨j, hj, rfl⟩ := nI_of y0
    have y2 : ¬ nI j >>> (mi 95 16 &&& 31) = 0 := y2
    rw [eN, shZ hj (by omega)] at y2
    rw [ixo_some hh, ixo_none (n := 2 ^ A 0 0 4) (x := nI j) (fun i hi e => y2 (by
      have := iEQ e
      rw [Nat.div_eq_of_lt (by omega)]
      exact nI_0))] at hQ
    exact hQ
  · subst e
    have y0 : ¬ y < 0 := fun q => y1 (Int32.lt_trans q (by decide))
    obtain ⟨k, hj, rfl⟩ := nI_of y0
    have y1 := iNLT y1
    have y2 : nI k >>> (mi 95 16 &&& 31) = 0 := y2
    rw [eN, shZ hj (by omega)] at y2
    have y2 := iZ y2 (Nat.lt_of_le_of_lt (Nat.div_le_self _ _) hj)
    have hk : k < 2 ^ A 0 0 4 := by
      rcases Nat.div_eq_zero_iff.mp y2 with q | q
      · exact absurd q (Nat.ne_of_gt (Nat.two_pow_pos _))
      · exact q
    have hb9 := bcN_le k
    rw [ixo_some hh, ixo_some hk] at hQ
    simp only [if_neg (show ¬ k = 0 by omega)] at hQ
    refine hC _ _ _ _ (s_Mod_manyOf hj ⟨fun q => ⟨rfl, ?_⟩, fun q => hC _ _ _ _ (t_isIn (fun n1 n2 => ⟨fun a => absurd a (by decide), fun _ => hC _ _ _ _ (t_isIn (fun u1 u2 => ⟨fun _ => ?_, fun a => absurd a (by decide)⟩) (fun hno => ⟨fun a => absurd (by decide) a, fun _ => ⟨rfl, ?_⟩⟩))⟩) (fun hno => ⟨fun _ => ⟨rfl, ?_⟩, fun a => absurd (by decide) a⟩))⟩)
    · rw [if_pos (iLT q)] at hQ
      exact hQ _ ml thr0 ML.none
    · have q := iNLT q
      have n0 : ¬ z < 0 := fun q => n1 (Int32.lt_trans q (by decide))
      obtain ⟨n, hn, rfl, en⟩ := ixo_rg (n := 30) (by omega) n0 n2
      have n1 := iNLT n1
      obtain ⟨w, hwu, rfl, eu⟩ := ixo_rg (n := 4) (by omega) u1 u2
      simp only [if_neg (show ¬ 4 < bcN k by omega), en, eu, if_neg (show ¬ n = 0 by omega)] at hQ
      refine hC _ _ _ _ (t_laySummer hA1 hw hh y1 hk (by omega) hn (fun mi' ml' hf hl em hL => ?_))
      have hQ := hQ mi' ml' (thr0.trans hf) hl
      have hbp := bc_pos k (by omega) (by omega)
      have hne := bsN_some (f := smF (A 0) (A 1) h (bcN k) n) (orL (ckL k (A 0 0 4)) (bcN k) (bcN k ^ bcN k)) none (Or.inr (orL_ne (ckL k (A 0 0 4)) (m := bcN k) ⟨hbp, by omega⟩))
      cases hr : bsN (smF (A 0) (A 1) h (bcN k) n) (orL (ckL k (A 0 0 4)) (bcN k) (bcN k ^ bcN k)) with
      | none => exact absurd hr hne
      | some t =>
        obtain ⟨s, o⟩ := t
        rw [hr] at hL
        obtain ⟨hL1, hL2⟩ : mi' 95 86 = nI s ∧ ∀ i, i < bcN k → mi' 127 i = nI (nth 0 o i) := hL
        simp only [hr] at hQ
        refine ⟨fun a => ⟨fun b => ⟨w - 1, by omega, pk_sub (by have := iNZ a; omega), ⟨rfl, ?_⟩⟩, fun b => ⟨rfl, ?_⟩⟩, fun a => ⟨rfl, ?_⟩⟩
        · have a := iNZ a
          have b := jLE b rfl em
          rw [if_neg (by omega), if_neg a, ← hL2 _ (by omega)] at hQ
          exact hQ
        · have b := jNLE b rfl em
          rw [if_pos (by omega)] at hQ
          exact hQ
        · have a := iZ a
          rw [if_neg (by omega), if_pos a, ← hL1] at hQ
          exact hQ
    · have q := iNLT q
      simp only [if_neg (show ¬ 4 < bcN k by omega)] at hQ
      have hn : ixo u 5 = none := hno.elim (fun h => ixo_neg h) (fun h => ixo_big (n := 4) (by omega) h)
      have hQ := hQ _ ml thr0 ML.none
      rw [hn] at hQ
      cases hz : ixo z 31 <;> rw [hz] at hQ <;> exact hQ
    · have q := iNLT q
      simp only [if_neg (show ¬ 4 < bcN k by omega)] at hQ
      have hQ := hQ _ ml thr0 ML.none
      rcases hno with q1 | q1
      · rcases i_nn z with hz | ⟨j, hj2, rfl⟩
        · rw [ixo_neg hz] at hQ
          exact hQ
        · have := iLT q1
          have j0 : j = 0 := by omega
          subst j0
          rw [ixo_some (by omega)] at hQ
          cases hu : ixo u 5 <;> rw [hu] at hQ <;> exact hQ
      · rw [ixo_big (n := 30) (by omega) q1] at hQ
        exact hQ
  · rw [ixo_none hno] at hQ
    exact hQ _ ml thr0 ML.none
end
