/-! WHAT THE REFERENCE ANSWERS: days, tried -/
theorem rainN_2 (T S : Nat → Nat → Nat) (i : Nat) : rainN T S 2 i = S 2 i := by
  unfold rainN
  split <;> rfl
theorem rainN_1 (T S : Nat → Nat → Nat) : rainN T S 0 1 = S 0 1 ∧ rainN T S 0 3 = S 0 3 := by
  unfold rainN
  split <;> exact ⟨rfl, rfl⟩
theorem passN_o (T S : Nat → Nat → Nat) (c e r : Bool) : (∀ i, passN T c e r S 2 i = S 2 i) ∧ passN T c e r S 0 1 = S 0 1 ∧ passN T c e r S 0 3 = S 0 3 := by
  have key : ∀ S2 : Nat → Nat → Nat, (∀ i, S2 2 i = S 2 i) → S2 0 1 = S 0 1 → S2 0 3 = S 0 3 → (∀ i, (if r && !(T 0 12 == 0) then rainN T S2 else S2) 2 i = S 2 i) ∧ (if r && !(T 0 12 == 0) then rainN T S2 else S2) 0 1 = S 0 1 ∧ (if r && !(T 0 12 == 0) then rainN T S2 else S2) 0 3 = S 0 3 := fun S2 h1 h2 h3 => by
    split
    · exact ⟨fun i => (rainN_2 T S2 i).trans (h1 i), (rainN_1 T S2).1.trans h2, (rainN_1 T S2).2.trans h3⟩
    · exact ⟨h1, h2, h3⟩
  rw [passN_eq]
  cases c <;> cases e <;> exact key _ (fun _ => rfl) rfl rfl
/-- frame of the days -/
def DX (mi mi' : Nat → Nat → Int32) : Prop := ∀ c k, (c ≠ 95 ∨ (k ≠ 2 ∧ k ≠ 67 ∧ k ≠ 74)) → c ≠ 123 → c ≠ 124 → c ≠ 125 → mi' c k = mi c k
theorem DX.trans {a b c : Nat → Nat → Int32} (h : DX a b) (h' : DX b c) : DX a c := fun i k h1 h2 h3 h4 => (h' i k h1 h2 h3 h4).trans (h i k h1 h2 h3 h4)
theorem BF.dx {b : Nat} {mi mi' : Nat → Nat → Int32} (h : BF b mi mi') : DX mi mi' := fun c k h1 h2 h3 _ => h c k (by omega) (Or.inl h2) (Or.inl h3)
theorem DX.c {c : Nat} {mi mi' : Nat → Nat → Int32} (h : DX mi mi') (h1 : c ≠ 95) (h2 : c ≠ 123) (h3 : c ≠ 124) (h4 : c ≠ 125) : mi' c = mi c := funext (fun k => h c k (Or.inl h1) h2 h3 h4)
theorem DX.T {T : Nat → Nat → Nat} {mi mi' : Nat → Nat → Int32} (h : DX mi mi') (hT : MT T mi) : MT T mi' := hT.h (fun k h1 h2 => h 95 k (by omega) (by decide) (by decide) (by decide)) (fun c h1 h2 => h.c (by omega) (by omega) (by omega) (by omega))
theorem DX.K {T : Nat → Nat → Nat} {mi mi' : Nat → Nat → Int32} (h : DX mi mi') (hK : MK T mi) : MK T mi' := hK.h (fun c h1 h2 => h.c (by omega) (by omega) (by omega) (by omega))
theorem DX.lo {mi mi' : Nat → Nat → Int32} (h : DX mi mi') : Lo mi mi' := fun c hc => h.c (by omega) (by omega) (by omega) (by omega)
theorem DF.lo {ml ml' : Nat → Nat → Int64} (h : DF ml ml') : Lo ml ml' := fun c hc => funext (fun k => h c k (by omega) (by omega) (by omega))
section
variable {d : Nat} {Q : Option Value → Mm → Prop} {A : St} {T S : Nat → Nat → Nat} {mi : Nat → Nat → Int32} {ml : Nat → Nat → Int64} {rd : Option Nat} {x y z : Int32}
set_option maxHeartbeats 1000000 in
theorem t_reads (hT : MT T mi) (hw : wfT T) (hS : MB 0 S mi) (hs : wfS T S) (hro : ∀ i, i < 18 → mi 125 i = nI (S 2 i) - 1) (hQ : ∀ g : Nat → Int32, (∀ i, i < 18 → g i = nI (wrA T S i) - 1) → Q none (cu mi 125 g, ml, R0 rd, 136)) : Cd (d + 7) k_Mod_reads [.ref 95] (mi, ml, R0 rd, 136) Q := by
  have h3 := hw.hl3
  have h6 := hw.wd6
  have hdy := hs.day
  have hsh : ∀ f, f < 48 → mi 123 (48 * 0 + f) = nI (S 1 f) ∧ S 1 f ≤ 511 := fun f hf => ⟨hS.1 f hf, hs.sh f⟩
  have hT1 : ∀ g, MT T (cu mi 125 g) := fun g => hT.h (fun k _ _ => rfl) (fun c _ _ => cu_ne (by omega))
  have outer : ∀ h, h ≤ T 0 5 → ∀ g : Nat → Int32, (∀ i, i < 18 → g i = nI (if i < 6 * h then wrA T S i else S 2 i) - 1) → ∀ v2, GoM (d + 6) k_Mod_reads 136 Q 2 [.ref 95, .int (nI h), v2] [] (cu mi 125 g, ml, R0 rd, 136) := by
    refine upto ?_ ?_
    · intro g hg v2
      refine g_Mod_reads (fun K Kl hK hC => ⟨fun _ => ⟨rfl, hQ g (fun i hi => ?_)⟩, fun z => absurd (jNLE z (hT1 g).hills) (by omega)⟩)
      rw [hg i hi]
      congr 2
      by_cases e : i < 6 * T 0 5
      · rw [if_pos e]
      · rw [if_neg e]
        unfold wrA
        rw [if_neg (by omega)]
    · intro h hh ih g hg v2
      rw [nI1 h] at ih
      have inner : ∀ w, w ≤ T 0 4 → ∀ g : Nat → Int32, (∀ i, i < 18 → g i = nI (if i < 6 * h + w then wrA T S i else S 2 i) - 1) → GoM (d + 6) k_Mod_reads 136 Q 12 [.ref 95, .int (nI h), .int (nI w)] [] (cu mi 125 g, ml, R0 rd, 136) := by
        refine upto ?_ ?_
        · intro g hg
          refine g_Mod_reads (fun K Kl hK hC => ⟨fun _ => hK _ _ _ _ (ih g (fun i hi => ?_) _), fun z => absurd (jNLE z (hT1 g).words) (by omega)⟩)
          rw [hg i hi]
          congr 2
          by_cases e : i < 6 * h + T 0 4
          · rw [if_pos e, if_pos (by omega)]
          · rw [if_neg e]
            by_cases e2 : i < 6 * (h + 1)
            · rw [if_pos e2]
              unfold wrA
              rw [if_neg (by omega)]
            · rw [if_neg e2]
        · intro w hwd ih2 g hg
          have ix : nI 6 * nI h + nI w = nI (6 * h + w) := by rw [pk_mul, nI_add]
          have hro2 := hs.ro (6 * h + w)
          have eg : g (6 * h + w) = nI (S 2 (6 * h + w)) - 1 := by rw [hg _ (by omega), if_neg (by omega)]
          have ew : wrA T S (6 * h + w) = wrN T S w h := by
            unfold wrA
            rw [show (6 * h + w) / 6 = h by omega, show (6 * h + w) % 6 = w by omega, if_pos ⟨hh, hwd⟩]
          have hcn : rdsN T S w h ≤ 96 := cntN_le hw _ w
          have keep : wrN T S w h = S 2 (6 * h + w) → GoM (d + 6) k_Mod_reads 136 Q 12 [.ref 95, .int (nI h), .int (nI w + nI 1)] [] (cu mi 125 g, ml, R0 rd, 136) := fun hk => by
            have ih2 := ih2 g (fun i hi => by
              rw [hg i hi]
              congr 2
              by_cases e : i < 6 * h + w
              · rw [if_pos e, if_pos (by omega)]
              · rw [if_neg e]
                by_cases e2 : i = 6 * h + w
                · rw [if_pos (by omega), e2, ew, hk]
                · rw [if_neg (by omega)])
            rw [nI1 w] at ih2
            exact ih2
          refine g_Mod_reads (fun K Kl hK hC => ⟨fun z => absurd (jLE z (hT1 g).words) (by omega), fun _ => ⟨6 * h + w, by omega, ix, ⟨fun z => hK _ _ _ _ (keep ?_), fun z => hC _ _ _ _ (t_standsOf (b := 0) (hT1 g) hw (by omega) hsh hwd hh ⟨fun z2 => hK _ _ _ _ (keep ?_), fun z2 => ⟨0, by decide, rfl, ⟨6 * h + w, by omega, ix, ?_⟩⟩⟩)⟩⟩⟩)
          · have z : 0 ≤ g (6 * h + w) := z
            rw [eg] at z
            have z := (nI_predge (by omega)).mp z
            unfold wrN
            rw [if_neg (fun q => z q.1)]
          · have z2 : nI (rdsN T S w h) ≤ 0 := z2
            have := iLE (show nI (rdsN T S w h) ≤ nI 0 from z2)
            unfold wrN
            rw [if_neg (fun q => q.2 (by omega))]
          · have z : ¬ 0 ≤ g (6 * h + w) := z
            rw [eg] at z
            have z0 : S 2 (6 * h + w) = 0 := by
              rcases Nat.eq_zero_or_pos (S 2 (6 * h + w)) with q | q
              · exact q
              · exact absurd ((nI_predge (by omega)).mpr (by omega)) z
            have z2 : ¬ nI (rdsN T S w h) ≤ 0 := z2
            have z3 := iNLE (show ¬ nI (rdsN T S w h) ≤ nI 0 from z2)
            have en : wrN T S w h = S 0 0 + 1 := by
              unfold wrN
              rw [if_pos ⟨z0, by omega⟩]
            have ih2 := ih2 (upd g (6 * h + w) (mi 124 0)) (fun i hi => by
              by_cases e2 : i = 6 * h + w
              · rw [e2, pk_us, if_pos (by omega), ew, en, nI_pred]
                exact hS.2
              · rw [pk_un e2, hg i hi]
                congr 2
                by_cases e : i < 6 * h + w
                · rw [if_pos e, if_pos (by omega)]
                · rw [if_neg e, if_neg (by omega)])
            rw [nI1 w, ← cuu] at ih2
            exact hK _ _ _ _ ih2
      exact g_Mod_reads (fun K Kl hK hC => ⟨fun z => absurd (jLE z (hT1 g).hills) (by omega), fun _ => hK _ _ _ _ (inner 0 (Nat.zero_le _) g hg)⟩)
  have l0 := outer 0 (Nat.zero_le _) (mi 125) (fun i hi => by rw [if_neg (by omega)]; exact hro i hi) .null
  rw [cu_id] at l0
  exact r_Mod_reads (by decide) (fun K Kl hK hC => hK _ _ _ _ l0)
theorem MS.r (h : MS S mi ml) : ∀ i, i < 18 → mi 125 i = nI (S 2 i) - 1 := fun i hi => by
  have := h.2.2.2.2.2 (i / 6) (by omega) (i % 6) (by omega)
  rw [show 6 * (i / 6) + i % 6 = i by omega] at this
  exact this
set_option maxHeartbeats 1000000 in
theorem q_days (hA : MI A mi ml) (hw : wfA A) (hQ : ∀ mi' ml', MI (aDays A x).2 mi' ml' → Lo mi mi' → Lo ml ml' → Q (some (.int (aDays A x).1)) (mi', ml', R0 rd, 136)) : Cd (d + 8) k_Mod_days [.ref 95, .int x] (mi, ml, R0 rd, 136) Q := by
  have hA1 := hA.mf thr0 ML.none
  have lo1 : Lo mi (cu mi 95 (upd (mi 95) 2 (nI 0))) := Lo.none.cu (by decide)
  have ed : mi 124 0 = nI (A 1 0 0) := hA.S.2.1
  have hd9 := hw.d
  unfold aDays at hQ
  refine r_Mod_days (by decide) (fun K Kl hK hC => hC _ _ _ _ (t_isIn (fun h1 h2 => ⟨fun a => absurd a (by decide), fun _ => ⟨0, by decide, rfl, ⟨fun z => hK _ _ _ _ ?_, fun z => ⟨rfl, ?_⟩⟩⟩⟩) (fun hno => ⟨fun _ => ⟨rfl, ?_⟩, fun a => absurd (by decide) a⟩)))
  · obtain ⟨n, hn, rfl, he⟩ := ixo_rg (n := 99) (by omega) h1 h2
    have z : mi 124 0 + nI n ≤ nI 999 := z
    rw [ed, nI_add] at z
    have z := iLE z
    simp only [he, if_neg (show ¬ 999 < A 1 0 0 + n by omega)] at hQ
    have lp : ∀ k, k ≤ n → ∀ mi' ml', DX mi mi' → DF ml ml' → mi' 95 74 = -1 → MS (dyS (A 0) (A 1) k) mi' ml' → GoM (d + 7) k_Mod_days 136 Q 38 [.ref 95, .int (nI n), .int (nI k)] [] (mi', ml', R0 rd, 136) := by
      refine upto ?_ ?_
      · intro mi' ml' hf hl h74 hM
        have e124 : mi' 124 0 = nI (A 1 0 0 + n) := by rw [hM.2.1, dyS_day]
        have base : ∀ x94 : Int32, ∀ A' : St, A' 0 = A 0 → A' 2 = A 2 → A' 5 = A 5 → A' 4 0 1 = A 4 0 1 → A' 4 0 2 = A 4 0 2 → A' 4 0 3 = A 4 0 3 → A' 4 0 4 = A 4 0 4 → A' 4 1 = A 4 1 → A' 1 = dyS (A 0) (A 1) n → x94 = nI (A' 4 0 0) → (∀ r, r < A' 4 0 0 → ∀ i, i < 50 → mi 132 (50 * r + i) = nI (A' 3 r i)) → MI A' (cu mi' 95 (upd (mi' 95) 94 x94)) ml' := by
          intro x94 A' e0 e2 e5 e41 e42 e43 e44 eb e1 ex hP
          refine hA.sp (fun c hc => ?_) (fun k k1 k2 k3 k4 => ?_) (hl 95 99 (by decide) (by decide) (by decide)) e0 e2 e5 e41 e42 e43 e44 eb ?_ ⟨?_, ?_⟩
          · rw [cu_ne (by omega)]
            exact hf.c (by omega) (by omega) (by omega) (by omega)
          · rw [cu_self, pk_un k3]
            have h1 := sc2 k4 (a := 2) (b := 67) rfl rfl
            have h2 := sc2 k4 (a := 74) (b := 74) rfl rfl
            exact hf 95 k (Or.inr ⟨h1.1, h1.2, h2.1⟩) (by decide) (by decide) (by decide)
          · rw [e1]
            exact hM
          · rw [cu_self, pk_us]; exact ex
          · intro r hr i hi
            show mi' 132 _ = _
            rw [hf.c (c := 132) (by decide) (by decide) (by decide) (by decide)]
            exact hP r hr i hi
        refine g_Mod_days (fun K Kl hK hC => ⟨fun _ => ⟨fun q => ⟨0, by decide, rfl, ⟨rfl, ?_⟩⟩, fun q => ⟨0, by decide, rfl, ⟨rfl, ?_⟩⟩⟩, fun z => absurd (iNLE z) (by omega)⟩)
        · have q := iLE (show nI n ≤ nI 0 from q)
          have n0 : n = 0 := by omega
          subst n0
          have hq := hQ (cu mi' 95 (upd (mi' 95) 94 (mi' 95 94))) ml' (base _ A rfl rfl rfl rfl rfl rfl rfl rfl rfl ((hf 95 94 (by decide) (by decide) (by decide) (by decide)).trans hA.P.1) hA.P.2) (hf.lo.cu (by decide)) hl.lo
          rw [← e124] at hq
          exact hq
        · have q := iNLE (show ¬ nI n ≤ nI 0 from q)
          rw [if_neg (by omega)] at hQ
          have hq := hQ (cu mi' 95 (upd (mi' 95) 94 (nI 0))) ml' (base _ (s4 (cu A 1 (dyS (A 0) (A 1) n)) 0 0) rfl rfl rfl rfl rfl rfl rfl rfl rfl rfl (fun r hr => absurd hr (Nat.not_lt_zero r))) (hf.lo.cu (by decide)) hl.lo
          rw [← e124] at hq
          exact hq
      · intro k hk ih mi' ml' hf hl h74 hM
        have hT1 := hf.T hA.T
        have hK1 := hf.K hA.K
        have hwf := dyS_wf hw.S (n := n) (by omega) k (by omega)
        have hdy := dyS_day (A 0) (A 1) k
        refine g_Mod_days (fun K Kl hK hC => ⟨fun z => absurd (iLE z) (by omega), fun _ => hC _ _ _ _ (t_reads hT1 hw.T hM.b0 hwf hM.r (fun g hg => hC _ _ _ _ (t_aDay (mi := cu mi' 125 g) (S := sRd (dyS (A 0) (A 1) k) (wrA (A 0) (dyS (A 0) (A 1) k))) (b := 0) (c := true) (e := true) (r := true) (hT1.h (fun k _ _ => rfl) (fun c _ _ => cu_ne (by omega))) (hK1.h (fun c _ _ => cu_ne (by omega))) hw.T hw.L (by omega) hM.b0 (hwf.wr (by omega)) hM.2.2.2.1 ?_ ?_ ?_ (fun mi2 ml2 hf2 hl2 h72 hM2 => ?_))))⟩)
        · exact ⟨fun q => absurd (h74.symm.trans q) (by decide), fun q => by cases q⟩
        · exact ⟨fun q => absurd (h74.symm.trans q) (by decide), fun q => by cases q⟩
        · exact ⟨fun q => absurd (h74.symm.trans q) (by decide), fun q => by cases q⟩
        · have po := passN_o (A 0) (sRd (dyS (A 0) (A 1) k) (wrA (A 0) (dyS (A 0) (A 1) k))) true true true
          have e70 : mi2 95 70 = nI (dyS (A 0) (A 1) k 0 1) := (hf2.k (by decide)).trans hM.2.2.1
          have e71 : mi2 95 71 = nI (dyS (A 0) (A 1) k 0 3) := (hf2.k (by decide)).trans hM.2.2.2.2.1
          have e125 : mi2 125 = g := (hf2.c (by decide) (by decide) (by decide)).trans (cu_self ..)
          have ih := ih mi2 ml2 (hf.trans (fun c k h1 h2 h3 h4 => (hf2.dx c k h1 h2 h3 h4).trans (by rw [cu_ne h4]))) (hl.trans hl2) ((hf2.k (by decide)).trans h74) ⟨fun f hf3 => ?_, hM2.2, ?_, h72, ?_, fun a ha w hw2 => ?_⟩
          · rw [nI1 k] at ih
            exact hK _ _ _ _ ih
          · have := hM2.1 f hf3
            rw [show 48 * 0 + f = f by omega] at this
            exact this
          · rw [e70]
            exact congrArg nI po.2.1.symm
          · rw [e71]
            exact congrArg nI po.2.2.symm
          · rw [e125, hg _ (by omega)]
            exact congrArg (fun q => nI q - 1) (po.1 (6 * a + w)).symm
    refine lp 0 (Nat.zero_le _) _ ml ?_ DF.none rfl hA.S
    intro c k h1 h2 h3 h4
    by_cases e : c = 95
    · subst e
      have h1 := h1.elim (fun q => absurd rfl q) id
      show upd (upd (mi 95) 2 (nI 0)) 74 (-1) k = _
      rw [pk_un h1.2.2, pk_un h1.1]
    · rw [cu_ne e, cu_ne e]
  · obtain ⟨n, hn, rfl, he⟩ := ixo_rg (n := 99) (by omega) h1 h2
    have z : ¬ mi 124 0 + nI n ≤ nI 999 := z
    rw [ed, nI_add] at z
    have z := iNLE z
    simp only [he, if_pos (show 999 < A 1 0 0 + n by omega)] at hQ
    exact hQ _ _ hA1 lo1 Lo.none
  · have hn : ixo x 100 = none := hno.elim (fun h => ixo_neg h) (fun h => ixo_big (n := 99) (by omega) h)
    simp only [hn] at hQ
    exact hQ _ _ hA1 lo1 Lo.none
end
