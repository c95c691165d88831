/-! THE REFERENCE: a summer in one order -/
/-- scratch, but for the orders -/
def SF (mi mi' : Nat → Nat → Int32) : Prop := MF mi mi' ∧ mi' 126 = mi 126 ∧ mi' 127 = mi 127 ∧ mi' 95 85 = mi 95 85 ∧ mi' 95 86 = mi 95 86
theorem SF.none {mi : Nat → Nat → Int32} : SF mi mi := ⟨MF.none, rfl, rfl, rfl, rfl⟩
theorem SF.trans {a b c : Nat → Nat → Int32} (h : SF a b) (h' : SF b c) : SF a c := ⟨h.1.trans h'.1, h'.2.1.trans h.2.1, h'.2.2.1.trans h.2.2.1, h'.2.2.2.1.trans h.2.2.2.1, h'.2.2.2.2.trans h.2.2.2.2⟩
theorem BF.sf {mi mi' : Nat → Nat → Int32} (h : BF 1 mi mi') : SF mi mi' := ⟨h.mf, h.c (by decide) (by decide) (by decide), h.c (by decide) (by decide) (by decide), h.k (by decide), h.k (by decide)⟩
theorem SF.c128 {mi mi' : Nat → Nat → Int32} {g : Nat → Int32} (h : SF mi mi') : SF mi (cu mi' 128 g) := ⟨scC h.1 (fun _ => rfl), h.2.1, h.2.2.1, h.2.2.2.1, h.2.2.2.2⟩
theorem SF.g95 {mi mi' : Nat → Nat → Int32} {g : Nat → Int32} (h : SF mi mi') (hg : ∀ k, k ≠ 77 → k ≠ 78 → g k = mi' 95 k) : SF mi (cu mi' 95 g) := ⟨h.1.trans (lc_mf hg), h.2.1, h.2.2.1, (hg 85 (by decide) (by decide)).trans h.2.2.2.1, (hg 86 (by decide) (by decide)).trans h.2.2.2.2⟩
theorem smT_last {T S : Nat → Nat → Nat} {m k : Nat} {l : Nat → Nat} : smT T m l k S 0 2 = S 0 2 := by
  unfold smT
  split
  · cases smP T S (l k) <;> rfl
  · rfl
theorem smR_last {T S : Nat → Nat → Nat} {h m : Nat} {l : Nat → Nat} : ∀ k, (smR T h m l S k).1 0 2 = S 0 2
  | 0 => rfl
  | k + 1 => by
    show passN T true true false (smT T m l k (smR T h m l S k).1) 0 2 = _
    rw [passN_last, smT_last]
    exact smR_last (T := T) (S := S) (h := h) (m := m) (l := l) k
section
variable {d : Nat} {Q : Option Value → Mm → Prop} {A : St} {T S : Nat → Nat → Nat} {mi : Nat → Nat → Int32} {ml : Nat → Nat → Int64} {rd : Option Nat} {x y z : Int32}
set_option maxHeartbeats 2000000 in
/-- what is read on a day; then the day passes -/
theorem sumDay (hT : MT T mi) (hK : MK T mi) (hw : wfT T) (hl : wfL T) {S' : Nat → Nat → Nat} (hM : MB 1 S' mi) (hs : wfS T S') (hd : ml 95 72 = lN (S' 0 2)) (h74 : mi 95 74 = nI 2) {h m n k s0 : Nat} (hh : h < T 0 5) (hm4 : m ≤ 4) (hk : k < 30) (em : mi 95 85 = nI m) {l : Nat → Nat} (el : ∀ i, i < m → mi 126 i = nI (l i)) (hlt : ∀ i, i < m → l i < T 0 4) {at1 : Nat → Option Nat} (ea : ∀ i, i < min (k + 1) m → mi 128 i = smI (at1 i)) (hat : ∀ i p, at1 i = some p → p < 2 * (T 0 0 * T 0 1)) (next : ∀ mi' ml', BF 1 mi mi' → ML ml ml' → MB 1 (passN T true true false S') mi' → GoM (d + 5) k_Mod_summerOf 136 Q 14 [.ref 95, .int (nI h), .int (nI n), .int (nI (s0 + sumN (smV T h l S' at1) (min (k + 1) m))), .int (nI k + nI 1), .int (nI (min (k + 1) m))] [] (mi', ml', R0 rd, 136)) : ∀ i, i ≤ min (k + 1) m → GoM (d + 5) k_Mod_summerOf 136 Q 86 [.ref 95, .int (nI h), .int (nI n), .int (nI (s0 + sumN (smV T h l S' at1) i)), .int (nI k), .int (nI i)] [] (mi, ml, R0 rd, 136) := by
  have hfl := hw.fl
  have h6 := hw.wd6
  refine upto ?_ ?_
  · have ad : ∀ P : Option Value → Mm → Prop, (∀ mi' ml', BF 1 mi mi' → ML ml ml' → MB 1 (passN T true true false S') mi' → P none (mi', ml', R0 rd, 136)) → Cd (d + 5) k_Mod_aDay [.ref 95, .int (nI 1)] (mi, ml, R0 rd, 136) P := fun P hP => by
      refine t_aDay (b := 1) (c := true) (e := true) (r := false) hT hK hw hl (by omega) hM hs hd ⟨fun q => absurd (h74.symm.trans q) (by decide), fun q => by cases q⟩ ⟨fun q => absurd (h74.symm.trans q) (by decide), fun q => by cases q⟩ ⟨fun _ => rfl, fun _ => h74⟩ (fun mi2 ml2 hf2 hl2 h72 hM2 => hP mi2 ml2 hf2 (hl2.ml ?_) hM2)
      rw [h72, hd]
      rfl
    exact g_Mod_summerOf (fun K Kl hK hC => ⟨fun _ => hC _ _ _ _ (ad _ (fun mi2 ml2 a b c => hK _ _ _ _ (next mi2 ml2 a b c))), fun z => ⟨fun _ => hC _ _ _ _ (ad _ (fun mi2 ml2 a b c => hK _ _ _ _ (next mi2 ml2 a b c))), fun q => absurd (iNLT q) (by have := jNLE z em; omega)⟩⟩)
  · intro i hi ih
    have ei := ea i hi
    have eo := el i (by omega)
    have hli := hlt i (by omega)
    have h99 := hw.ww (l i) hli
    have eww : mi 107 (l i) = nI (T 8 (l i)) := hT.ww (l i) hli
    rw [sumN, ← Nat.add_assoc, nI1 i] at ih
    refine g_Mod_summerOf (fun K Kl hK hC => ⟨fun z => absurd (jLE z em) (by omega), fun _ => ⟨fun z => absurd (iLT z) (by omega), fun _ => ⟨i, by omega, rfl, ?_⟩⟩⟩)
    cases hai : at1 i with
    | none =>
      have ev : smV T h l S' at1 i = 0 := by unfold smV; rw [hai]
      rw [ev] at ih
      rw [hai] at ei
      refine ⟨fun _ => hK _ _ _ _ ih, fun a => ?_⟩
      exact absurd (show mi 128 i < 0 by rw [ei]; decide) a
    | some p =>
      have hp := hat i p hai
      rw [hai] at ei
      have ei : mi 128 i = nI p := ei
      have ed : mi 128 i / nI 2 = nI (p / 2) := by rw [ei]; exact pk_div (by omega) (by omega) (by omega)
      have er : mi 128 i - mi 128 i / nI 2 * nI 2 = nI (p % 2) := by rw [ei]; exact pk_rem (by omega) (by omega) (by omega)
      have cr : ∀ P : Option Value → Mm → Prop, (stdN T (fun x => readN T h (S' 1 x)) (l i) (p / 2) (p % 2) = true → P (some (.int (nI 1))) (mi, ml, R0 rd, 136)) → (stdN T (fun x => readN T h (S' 1 x)) (l i) (p / 2) (p % 2) = false → P (some (.int (nI 0))) (mi, ml, R0 rd, 136)) → Cd (d + 5) k_Mod_isRead [.ref 95, .int (nI 1), .int (mi 126 i), .int (mi 128 i / nI 2), .int (mi 128 i - mi 128 i / nI 2 * nI 2), .int (nI h)] (mi, ml, R0 rd, 136) P := fun P p1 p0 => by
        rw [er, ed, eo]
        exact t_isRead (b := 1) hT hw (by omega) (hM.s hs) hli (pl_half hp) (by omega) hh p1 p0
      refine ⟨fun a => ?_, fun _ => ⟨i, by omega, rfl, ⟨i, by omega, rfl, ⟨two0, ⟨i, by omega, rfl, ⟨two0, hC _ _ _ _ (cr _ (fun hr => ⟨fun a => absurd a (by decide), fun _ => ⟨i, by omega, rfl, ⟨l i, by omega, eo, ?_⟩⟩⟩) (fun hr => ⟨fun _ => ?_, fun a => absurd (by decide) a⟩))⟩⟩⟩⟩⟩⟩
      · have a : mi 128 i < 0 := a
        rw [ei] at a
        exact (iNN a (by omega)).elim
      · have ev : smV T h l S' at1 i = T 8 (l i) := by unfold smV; rw [hai]; exact if_pos hr
        rw [ev, ← nI_add, ← eww] at ih
        exact hK _ _ _ _ ih
      · have ev : smV T h l S' at1 i = 0 := by unfold smV; rw [hai]; exact if_neg (by rw [hr]; decide)
        rw [ev] at ih
        exact hK _ _ _ _ ih
set_option maxHeartbeats 2000000 in
theorem t_summerOf (hT : MT T mi) (hK : MK T mi) (hw : wfT T) (hl : wfL T) (hS : MB 0 S mi) (hs : wfS T S) (hd : ml 95 72 = lN (S 0 2)) (hd9 : S 0 0 ≤ 999) (h75 : mi 95 75 = -1) (h76 : mi 95 76 = -1) {h m n : Nat} (hh : h < T 0 5) (hm4 : m ≤ 4) (hn : n ≤ 30) (em : mi 95 85 = nI m) {l : Nat → Nat} (el : ∀ i, i < m → mi 126 i = nI (l i)) (hlt : ∀ i, i < m → l i < T 0 4) (hQ : ∀ mi' ml', SF mi mi' → ML ml ml' → Q (some (.int (nI (smR T h m l S n).2.1))) (mi', ml', R0 rd, 136)) : Cd (d + 7) k_Mod_summerOf [.ref 95, .int (nI h), .int (nI n)] (mi, ml, R0 rd, 136) Q := by
  have hfl := hw.fl
  have lp : ∀ k, k ≤ n → ∀ mi' ml', SF mi mi' → ML ml ml' → mi' 95 74 = nI 2 → MB 1 (smR T h m l S k).1 mi' → (∀ i, i < min k m → mi' 128 i = smI ((smR T h m l S k).2.2 i)) → ∀ v5, GoM (d + 6) k_Mod_summerOf 136 Q 14 [.ref 95, .int (nI h), .int (nI n), .int (nI (smR T h m l S k).2.1), .int (nI k), v5] [] (mi', ml', R0 rd, 136) := by
    refine upto ?_ ?_
    · intro mi' ml' hf hl1 h74 hM ha v5
      exact g_Mod_summerOf (fun K Kl hK hC => ⟨fun _ => ⟨rfl, hQ mi' ml' hf hl1⟩, fun z => absurd (iNLE z) (by omega)⟩)
    · intro k hk ih mi' ml' hf hl1 h74 hM ha v5
      have hT1 := hT.mf hf.1
      have hK1 := hK.mf hf.1
      have hwf := smR_wf hw hs hd9 h m l k (by omega)
      have hat := smR_at (T := T) (S := S) h m l (k + 1)
      have em1 : mi' 95 85 = nI m := hf.2.2.2.1.trans em
      have el1 : ∀ i, i < m → mi' 126 i = nI (l i) := fun i hi => by rw [hf.2.1]; exact el i hi
      have e72 : ml' 95 72 = lN ((smR T h m l S k).1 0 2) := by rw [hl1 95 72 rfl, hd, smR_last]
      have e75 : mi' 95 75 = nI 0 - 1 := ((hf.1 95 75 rfl).trans h75).trans (by decide)
      have e76 : mi' 95 76 = nI 0 - 1 := ((hf.1 95 76 rfl).trans h76).trans (by decide)
      rw [nI1 k] at ih
      /- what comes behind the setting -/
      have go : ∀ mi2, SF mi mi2 → mi2 95 74 = nI 2 → MB 1 (smT T m l k (smR T h m l S k).1) mi2 → (∀ i, i < min (k + 1) m → mi2 128 i = smI ((smR T h m l S (k + 1)).2.2 i)) → GoM (d + 6) k_Mod_summerOf 136 Q 86 [.ref 95, .int (nI h), .int (nI n), .int (nI (smR T h m l S k).2.1), .int (nI k), .int (nI 0)] [] (mi2, ml', R0 rd, 136) := by
        intro mi2 hf2 h742 hM2 ha2
        have hT2 := hT.mf hf2.1
        have hK2 := hK.mf hf2.1
        have hw2 := smT_wf hw hwf.1 m l k
        have e722 : ml' 95 72 = lN (smT T m l k (smR T h m l S k).1 0 2) := by
          rw [e72, smT_last]
        exact sumDay (d := d + 1) (n := n) (s0 := (smR T h m l S k).2.1) hT2 hK2 hw hl hM2 hw2.1 e722 h742 hh hm4 (by omega) (hf2.2.2.2.1.trans em) (fun i hi => by rw [hf2.2.1]; exact el i hi) hlt ha2 hat (fun mi3 ml3 f3 l3 M3 => ih mi3 ml3 (hf2.trans f3.sf) (hl1.trans l3) ((f3.k (by decide)).trans h742) M3 (fun i hi => by rw [f3.c (c := 128) (by decide) (by decide) (by decide)]; exact ha2 i hi) _) 0 (Nat.zero_le _)
      have hap : ∀ i, (smR T h m l S (k + 1)).2.2 i = if k < m ∧ i = k then smP T (smR T h m l S k).1 (l k) else (smR T h m l S k).2.2 i := fun _ => rfl
      refine g_Mod_summerOf (fun K Kl hK0 hC => ⟨fun z => absurd (iLE z) (by omega), fun _ => ⟨fun z => hK0 _ _ _ _ (go mi' hf h74 ?_ (fun i hi => ?_)), fun z => ?_⟩⟩)
      · have z := jLE z em1
        unfold smT
        rw [if_neg (by omega)]
        exact hM
      · have z := jLE z em1
        rw [hap, if_neg (by omega)]
        exact ha i (by omega)
      · have hkm := jNLE z em1
        have elk := el1 k hkm
        have hlk := hlt k hkm
        have cl : ∀ P : Option Value → Mm → Prop, (∀ g : Nat → Int32, (∀ j, j ≠ 77 → j ≠ 78 → g j = mi' 95 j) → g 77 = smI (smP T (smR T h m l S k).1 (l k)) → P none (cu mi' 95 g, ml', R0 rd, 136)) → Cd (d + 6) k_Mod_layCheapest [.ref 95, .int (nI 1), .int (mi' 126 k)] (mi', ml', R0 rd, 136) P := fun P hP => by
          rw [elk]
          refine t_layCheapest (b := 1) (fr := 0) (br := 0) hT1 hw (by omega) (hM.s hwf.1) e75 (by omega) e76 (by omega) hlk (fun g hg h77 h78 => hP g hg ?_)
          rw [h77, feX_0]
          exact smP_I T _ _
        refine ⟨k, by omega, rfl, hC _ _ _ _ (cl _ (fun g hg h77 => ⟨k, by omega, rfl, ?_⟩))⟩
        have hf2 := (hf.g95 hg).c128 (g := upd (cu mi' 95 g 128) k (g 77))
        have h742 : g 74 = nI 2 := (hg 74 (by decide) (by decide)).trans h74
        have ha2 : ∀ i, i < min (k + 1) m → upd (mi' 128) k (g 77) i = smI ((smR T h m l S (k + 1)).2.2 i) := fun i hi => by
          rw [hap]
          by_cases e : i = k
          · rw [e, pk_us, if_pos ⟨hkm, rfl⟩]; exact h77
          · rw [pk_un e, if_neg (fun q => e q.2)]; exact ha i (by omega)
        cases hp : smP T (smR T h m l S k).1 (l k) with
        | none =>
          rw [hp] at h77
          refine ⟨fun _ => hK0 _ _ _ _ (go _ hf2 h742 ?_ ha2), fun a => ?_⟩
          · unfold smT
            rw [if_pos hkm, hp]
            exact hM
          · have a : ¬ g 77 < 0 := a
            rw [h77] at a
            exact absurd (by decide) a
        | some p =>
          have hpl := smP_lt hp
          rw [hp] at h77
          have h77 : g 77 = nI p := h77
          have hfit : fitN T (lenN (T 7 (l k))) (p / 2) (p % 2) = true := by
            unfold smP at hp
            cases hc : chN (fun p => costN T ((smR T h m l S k).1 1) (feA T) (l k) (p / 2) (p % 2)) (2 * (T 0 0 * T 0 1)) with
            | none => rw [hc] at hp; cases hp
            | some t =>
              obtain ⟨p2, c2⟩ := t
              rw [hc] at hp
              have hp : p2 = p := Option.some.inj hp
              have := (chN_lt hc).2
              rw [hp] at this
              exact (costN_iff.mp ⟨_, this⟩).1
          have ed : g 77 / nI 2 = nI (p / 2) := by rw [h77]; exact pk_div (by omega) (by omega) (by omega)
          have er : g 77 - g 77 / nI 2 * nI 2 = nI (p % 2) := by rw [h77]; exact pk_rem (by omega) (by omega) (by omega)
          have hT2 := hT.mf hf2.1
          have cs : ∀ P : Option Value → Mm → Prop, (∀ g2 : Nat → Int32, (∀ x, x < 48 → g2 (48 * 1 + x) = nI (putN T ((smR T h m l S k).1 1) (l k) (p / 2) (p % 2) x)) → (∀ i, (i < 48 * 1 ∨ 48 * 1 + 48 ≤ i) → g2 i = mi' 123 i) → P none (cu (cu (cu mi' 95 g) 128 (upd (cu mi' 95 g 128) k (g 77))) 123 g2, ml', R0 rd, 136)) → Cd (d + 6) k_Mod_setsIn [.ref 95, .int (nI 1), .int (mi' 126 k), .int (g 77 / nI 2), .int (g 77 - g 77 / nI 2 * nI 2)] (cu (cu mi' 95 g) 128 (upd (cu mi' 95 g 128) k (g 77)), ml', R0 rd, 136) P := fun P hP => by
            rw [er, ed, elk]
            exact t_setsIn (b := 1) (sh := (smR T h m l S k).1 1) hT2 hw (by omega) hM.1 hlk (pl_half hpl) (by omega) hfit (fun g2 a b => hP g2 a b)
          refine ⟨fun a => ?_, fun _ => ⟨k, by omega, rfl, ⟨two0, ⟨two0, hC _ _ _ _ (cs _ (fun g2 hg2 ho2 => hK0 _ _ _ _ (go _ ?_ h742 ?_ ha2)))⟩⟩⟩⟩
          · have a : g 77 < 0 := a
            rw [h77] at a
            exact (iNN a (by omega)).elim
          · have hb : BF 1 (cu (cu mi' 95 g) 128 (upd (cu mi' 95 g 128) k (g 77))) (cu (cu (cu mi' 95 g) 128 (upd (cu mi' 95 g 128) k (g 77))) 123 g2) := BF.none.sh ho2
            exact hf2.trans hb.sf
          · unfold smT
            rw [if_pos hkm, hp]
            exact ⟨hg2, hM.2⟩
  refine r_Mod_summerOf (by decide) (fun K Kl hK0 hC => hC _ _ _ _ (t_layTried hS (fun mi1 hf1 hM1 => hK0 _ _ _ _ (lp 0 (Nat.zero_le _) (cu mi1 95 (upd (mi1 95) 74 (nI 2))) ml ?_ ML.none rfl hM1 (fun i hi => by omega) _))))
  have := hf1.sf
  exact ⟨this.1.cu rfl, this.2.1, this.2.2.1, this.2.2.2.1, this.2.2.2.2⟩
end
