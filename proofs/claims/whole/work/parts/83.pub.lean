/-! WHAT THE CLASS ANSWERS: summer, days -/
theorem bsN_some {f : List Nat → Nat} : ∀ (L : List (List Nat)) (b : Option (Nat × List Nat)), (b ≠ none ∨ L ≠ []) → L.foldl (bsF f) b ≠ none
  | [], b, h => h.elim id (fun z => absurd rfl z)
  | o :: L, b, _ => bsN_some L (bsF f b o) (Or.inl (by
    unfold bsF
    cases b with
    | none => exact fun e => by cases e
    | some q =>
      obtain ⟨s, q⟩ := q
      simp only
      split <;> exact fun e => by cases e))
theorem orL_len (ck : List Nat) (m : Nat) : ∀ c, (orL ck m c).length = (orL [] m c).length
  | 0 => rfl
  | c + 1 => by
    unfold orL
    split
    · rw [List.length_append, List.length_append, orL_len ck m c]
      rfl
    · exact orL_len ck m c
theorem orL_ne (ck : List Nat) {m : Nat} (hm : 1 ≤ m ∧ m ≤ 4) : orL ck m (m ^ m) ≠ [] := by
  have key : ∀ m, m ≤ 4 → 1 ≤ m → (orL [] m (m ^ m)).length ≠ 0 := by decide +kernel
  intro e
  have h1 := orL_len ck m (m ^ m)
  rw [e] at h1
  exact key m hm.2 hm.1 h1.symm
theorem ckL_bc : ∀ W, W ≤ 6 → ∀ k, k < 64 → k < 2 ^ W → (ckL k W).length = bcN k := by decide +kernel
theorem bc_pos : ∀ k, k < 64 → k ≠ 0 → 1 ≤ bcN k := by decide +kernel
theorem pow6 : ∀ W, W ≤ 6 → nI 1 <<< (nI W &&& 31) = nI (2 ^ W) ∧ 2 ^ W ≤ 64 := by decide +kernel
noncomputable def aSummer (A : St) (x y z u : Int32) : Int32 := match ixo x (A 0 0 5), ixo y (2 ^ A 0 0 4) with
  | some h, some k => if k = 0 then -1 else if 4 < bcN k then -1 else (match ixo z 31, ixo u 5 with
    | some n, some q => if n = 0 then -1 else if bcN k < q then -2 else (match bsN (smF (A 0) (A 1) h (bcN k) n) (orL (ckL k (A 0 0 4)) (bcN k) (bcN k ^ bcN k)) with
      | some (s, o) => if q = 0 then nI s else nI (nth 0 o (q - 1))
      | none => -1)
    | _, _ => -1)
  | _, _ => -1
/-- the scene after k days -/
noncomputable def dyS (T S : Nat → Nat → Nat) : Nat → Nat → Nat → Nat
  | 0 => S
  | k + 1 => passN T true true true (sRd (dyS T S k) (wrA T (dyS T S k)))
noncomputable def aDays (A : St) (x : Int32) : Int32 × St := match ixo x 100 with
  | none => (-1, A)
  | some n => if 999 < A 1 0 0 + n then (-1, A) else (nI (A 1 0 0 + n), if n = 0 then A else s4 (cu A 1 (dyS (A 0) (A 1) n)) 0 0)
theorem dyS_day (T S : Nat → Nat → Nat) : ∀ k, dyS T S k 0 0 = S 0 0 + k
  | 0 => rfl
  | k + 1 => by
    rw [dyS, passN_day]
    show dyS T S k 0 0 + 1 = _
    rw [dyS_day T S k]
    rfl
theorem wfS.wr {T S : Nat → Nat → Nat} (h : wfS T S) (hd : S 0 0 < 1100) : wfS T (sRd S (wrA T S)) := by
  refine ⟨h.sh, h.sho, h.day, h.pu, h.la, h.hu, fun i => ?_⟩
  show wrA T S i ≤ 1100
  have h1 := h.ro i
  have h2 := h.ro (6 * (i / 6) + i % 6)
  unfold wrA wrN
  split
  · split <;> omega
  · omega
theorem dyS_wf {T S : Nat → Nat → Nat} (hs : wfS T S) {n : Nat} (hn : S 0 0 + n ≤ 1099) : ∀ k, k ≤ n → wfS T (dyS T S k)
  | 0, _ => hs
  | k + 1, hk => by
    have hd := dyS_day T S k
    exact ((dyS_wf hs hn k (by omega)).wr (by omega)).pass true true true (show dyS T S k 0 0 < 1100 by omega)
/-- another scene -/
theorem CI.scn {A : St} {S : Nat → Nat → Nat} {mi mi' : Nat → Nat → Int32} {L : List Nat} (h : CI A mi) (hf : Fr L mi mi') (hS : CS 70 S mi') (hL : L.all (fun x => Nat.beq x 35 || (Nat.ble 70 x && Nat.ble x 72) || Nat.ble 83 x) = true) : CI (cu A 1 S) mi' := by
  have out : ∀ c, c < 35 ∨ (36 ≤ c ∧ c < 70) ∨ (73 ≤ c ∧ c < 83) → mi' c = mi c := fun c hc => hf c (nin_not (fun hm => by
    have := List.all_eq_true.mp hL c hm
    simp only [Bool.or_eq_true, Bool.and_eq_true, Nat.ble_eq, Nat.beq_eq] at this
    omega))
  refine ⟨h.T.keep (fun c h1 h2 => out c (by omega)), hS, h.N.fr (fun c h1 h2 => out c (by omega)), ?_, ?_, fun z => ?_, ?_, ?_, ?_, ?_⟩
  · have := h.P
    unfold CP at this ⊢
    rw [out 76 (by omega), out 77 (by omega)]
    exact this
  · rw [out 0 (by omega)]; exact h.k
  · have := h.I z
    unfold CS at this ⊢
    rw [out 73 (by omega), out (73 + 1) (by omega), out (73 + 2) (by omega)]
    exact this
  · rw [out 0 (by omega)]; exact h.f
  · rw [out 1 (by omega)]; exact h.b
  · rw [out 0 (by omega)]; exact h.q
  · rw [out 0 (by omega)]; exact h.qp
theorem CI.fg {A : St} {mi mi' : Nat → Nat → Int32} (h : CI A mi) (hf : Fr [76] mi mi') (hP : CP 0 (A 3) mi') : CI (s4 A 0 0) mi' := by
  refine ⟨h.T.fr hf rfl, h.S.fr hf rfl rfl rfl, h.N.fr2 hf rfl, hP, ?_, fun z => (h.I z).fr hf rfl rfl rfl, ?_, ?_, ?_, ?_⟩
  · rw [hf 0 rfl]; exact h.k
  · rw [hf 0 rfl]; exact h.f
  · rw [hf 1 rfl]; exact h.b
  · rw [hf 0 rfl]; exact h.q
  · rw [hf 0 rfl]; exact h.qp
section
variable {d : Nat} {Q : Option Value → Mm → Prop} {A : St} {mi : Nat → Nat → Int32} {ml : Nat → Nat → Int64} {rd : Option Nat} {x y z u : Int32}
set_option maxHeartbeats 1000000 in
theorem p_summer (hA : CI A mi) (hw : wfA A) (hQ : ∀ mi' ml', Fr SC mi mi' → Fr [36] ml ml' → Q (some (.int (aSummer A x y z u))) (mi', ml', R0 rd, 136)) : Cd (d + 8) k_Hay_summer [.ref 0, .int x, .int y, .int z, .int u] (mi, ml, R0 rd, 136) Q := by
  unfold aSummer at hQ
  have h3 := hw.T.hl3
  have h6 := hw.T.wd6
  have hp6 := pow6 (A 0 0 4) h6
  have ew : mi 13 1 = nI (A 0 0 4) := hA.T.words
  refine r_Hay_summer (by decide) (fun K Kl hK hC => ?_)
  refine hC _ _ _ _ (s_hasHill hA.T hw.T (fun hi hh e => ⟨fun z => absurd z (by decide), fun _ => ?_⟩) (fun hno => ⟨fun _ => ⟨rfl, ?_⟩, fun z => absurd (by decide) z⟩))
  · subst e
    rw [ixo_some hh] at hQ
    refine ⟨fun h1 => ⟨rfl, ?_⟩, fun h1 => ⟨fun h2 => ?_, fun h2 => ⟨rfl, ?_⟩⟩⟩
    · rcases i_nn y with hy | ⟨j, hj, rfl⟩
      · rw [ixo_neg hy] at hQ
        exact hQ mi ml Fr.none Fr.none
      · have hz : j = 0 := by
          have h1 : nI j ≤ nI 0 := h1
          have := iLE h1
          omega
        rw [hz, ixo_some (by have := Nat.two_pow_pos (A 0 0 4); omega)] at hQ
        exact hQ mi ml Fr.none Fr.none
    · have h2 : y < nI 1 <<< (mi 13 1 &&& 31) := h2
      rw [ew, hp6.1] at h2
      have h0 : ¬ y < 0 := fun z => h1 (Int32.le_of_lt z)
      obtain ⟨k, hk, rfl⟩ := nI_of h0
      have h2 := iLT h2
      have hk0 : k ≠ 0 := fun z => h1 (by rw [z]; decide)
      rw [ixo_some h2] at hQ
      simp only [if_neg hk0] at hQ
      have hbl := bcN_le k
      refine hC _ _ _ _ (s_bitCount (by decide) (show k < 512 by omega) ?_)
      refine ⟨fun h4 => ⟨rfl, ?_⟩, fun h4 => ?_⟩
      · rw [if_pos (iLT h4)] at hQ
        exact hQ mi ml Fr.none Fr.none
      · have h4 := iNLT h4
        simp only [if_neg (show ¬ 4 < bcN k by omega)] at hQ
        refine ⟨fun h5 => ⟨rfl, ?_⟩, fun h5 => ⟨fun h7 => ⟨rfl, ?_⟩, fun h7 => ⟨fun h8 => ⟨rfl, ?_⟩, fun h8 => ⟨fun h9 => ?_, fun h9 => ⟨rfl, ?_⟩⟩⟩⟩⟩
        · rcases i_nn z with hz | ⟨j, hj, rfl⟩
          · rw [ixo_neg hz] at hQ
            exact hQ mi ml Fr.none Fr.none
          · have h5 := iLT h5
            rw [show j = 0 by omega, ixo_some (by omega)] at hQ
            rcases ixo_cs u 5 with ⟨q, _, _, eq⟩ | ⟨_, eq⟩
            · rw [eq] at hQ
              exact hQ mi ml Fr.none Fr.none
            · rw [eq] at hQ
              exact hQ mi ml Fr.none Fr.none
        · rw [ixo_big (n := 30) (by omega) h7] at hQ
          exact hQ mi ml Fr.none Fr.none
        · have hz0 : ¬ z < 0 := fun w => h5 (Int32.lt_trans w (by decide))
          obtain ⟨n, hn, rfl, hen⟩ := ixo_rg (n := 30) (by omega) hz0 h7
          rw [hen, ixo_neg h8] at hQ
          exact hQ mi ml Fr.none Fr.none
        · have hz0 : ¬ z < 0 := fun w => h5 (Int32.lt_trans w (by decide))
          obtain ⟨n, hn, rfl, hen⟩ := ixo_rg (n := 30) (by omega) hz0 h7
          obtain ⟨q, hq, rfl, heq⟩ := ixo_rg (n := 4) (by omega) h8 (fun w => absurd h9 (Int32.not_le.mpr w))
          have h5 := iNLT h5
          rw [hen, heq] at hQ
          simp only [if_neg (show ¬ n = 0 by omega)] at hQ
          refine ⟨fun h10 => ?_, fun h10 => ⟨rfl, ?_⟩⟩
          · have h10 := iLE h10
            simp only [if_neg (show ¬ bcN k < q by omega)] at hQ
            have hm4 : 1 ≤ bcN k ∧ bcN k ≤ 4 := ⟨bc_pos k (by omega) hk0, h4⟩
            refine hC _ _ _ _ (s_orderBest (d := d) hA.T hw.T hw.L hA.S hw.S hw.d hh (show k < 64 by omega) (ckL_bc _ h6 k (by omega) h2) hm4 hn (fun m2 l2 f1 f2 hB => ?_))
            have hQ := hQ m2 l2 (f1.mono rfl) f2
            cases hb : bsN (smF (A 0) (A 1) hi (bcN k) n) (orL (ckL k (A 0 0 4)) (bcN k) (bcN k ^ bcN k)) with
            | none => exact absurd hb (bsN_some _ _ (Or.inr (orL_ne _ hm4)))
            | some so =>
              obtain ⟨s, o⟩ := so
              rw [hb] at hB
              obtain ⟨b1, b2⟩ : m2 84 6 = nI s ∧ ∀ i, i < bcN k → m2 85 i = nI (nth 0 o i) := hB
              simp only [hb] at hQ
              refine ⟨fun h11 => ?_, fun h11 => ⟨rfl, ?_⟩⟩
              · have h11 := iNZ h11
                rw [if_neg h11, ← b2 (q - 1) (by omega)] at hQ
                exact ⟨q - 1, by omega, pk_sub (a := q) (b := 1) (by omega), rfl, hQ⟩
              · rw [if_pos (iZ h11), ← b1] at hQ
                exact hQ
          · have h10 := iNLE h10
            simp only [if_pos (show bcN k < q by omega)] at hQ
            exact hQ mi ml Fr.none Fr.none
        · have hz0 : ¬ z < 0 := fun w => h5 (Int32.lt_trans w (by decide))
          obtain ⟨n, hn, rfl, hen⟩ := ixo_rg (n := 30) (by omega) hz0 h7
          rw [hen, ixo_big (n := 4) (by omega) (Int32.not_le.mp h9)] at hQ
          exact hQ mi ml Fr.none Fr.none
    · have h2 : ¬ y < nI 1 <<< (mi 13 1 &&& 31) := h2
      rw [ew, hp6.1] at h2
      rw [ixo_ge (by omega) (Int32.not_lt.mp h2)] at hQ
      exact hQ mi ml Fr.none Fr.none
  · rw [ixo_none hno] at hQ
    exact hQ mi ml Fr.none Fr.none
set_option maxHeartbeats 1000000 in
theorem p_days (hA : CI A mi) (hw : wfA A) (hQ : ∀ mi' ml', CI (aDays A x).2 mi' → Up mi mi' → Up ml ml' → Q (some (.int (aDays A x).1)) (mi', ml', R0 rd, 136)) : Cd (d + 6) k_Hay_days [.ref 0, .int x] (mi, ml, R0 rd, 136) Q := by
  unfold aDays at hQ
  have hd := hw.d
  have ed : mi 70 0 = nI (A 1 0 0) := hA.S.day
  have lp : ∀ n, n ≤ 99 → A 1 0 0 + n ≤ 999 → (∀ mi' ml', CI (if n = 0 then A else s4 (cu A 1 (dyS (A 0) (A 1) n)) 0 0) mi' → Up mi mi' → Up ml ml' → Q (some (.int (nI (A 1 0 0 + n)))) (mi', ml', R0 rd, 136)) → ∀ k, k ≤ n → ∀ m1 l1, Fr [35, 70, 71, 72, 90] mi m1 → Fr [36] ml l1 → CS 70 (dyS (A 0) (A 1) k) m1 → (k = 0 → CI A m1) → GoM (d + 5) k_Hay_days 136 Q 29 [.ref 0, .int (nI n), .int (nI k)] [] (m1, l1, R0 rd, 136) := by
    intro n hn hdn hQ
    refine upto ?_ ?_
    · intro m1 l1 f1 f2 hS1 h0
      have eday : m1 70 0 = nI (A 1 0 0 + n) := by rw [← dyS_day]; exact hS1.day
      refine g_Hay_days (fun K Kl hK hC => ?_)
      refine ⟨fun _ => ⟨fun h2 => ⟨rfl, ?_⟩, fun h2 => ?_⟩, fun h1 => absurd (iNLE h1) (by omega)⟩
      · have hz : n = 0 := by
          have h2 : nI n ≤ nI 0 := h2
          have := iLE h2
          omega
        have hQ := hQ m1 l1 (by rw [if_pos hz]; exact h0 hz) (f1.up rfl) (f2.up rfl)
        rw [← eday] at hQ
        exact hQ
      · have hnz : n ≠ 0 := fun z => h2 (by rw [z]; decide)
        refine hC _ _ _ _ (s_forget (n := 0) (P := A 3) (fun m2 g1 hP => ⟨rfl, ?_⟩))
        have hci := (hA.scn f1 hS1 rfl).fg g1 hP
        have hQ := hQ m2 l1 (by rw [if_neg hnz]; exact hci) ((f1.up rfl).trans (g1.up rfl)) (f2.up rfl)
        rw [← eday, ← g1 70 rfl] at hQ
        exact hQ
    · intro k hk ih m1 l1 f1 f2 hS1 h0
      have hwf := dyS_wf hw.S (n := n) (by omega) k (by omega)
      have hdy := dyS_day (A 0) (A 1) k
      have hwf2 := hwf.wr (by omega)
      refine g_Hay_days (fun K Kl hK hC => ?_)
      refine ⟨fun h1 => absurd (iLE h1) (by omega), fun _ => ?_⟩
      refine hC _ _ _ _ (s_writeDown (d := d) (hA.T.fr f1 rfl) hw.T hS1 hwf (fun m2 g1 hS2 => ?_))
      have f3 := f1.trans (g1.mono rfl)
      refine hC _ _ _ _ (s_pass (d := d) (c := true) (e := true) (r := true) (Or.inl rfl) (hA.T.fr f3 rfl) hw.T hw.L hS2 hwf2 (Or.inl rfl) (fun m3 l3 g2 g3 hS3 => ?_))
      have ih := ih m3 l3 (f3.trans (g2.mono rfl)) (f2.trans g3) hS3 (fun z => absurd z (by omega))
      rw [nI1 k] at ih
      exact hK _ _ _ _ ih
  refine r_Hay_days (by decide) (fun K Kl hK hC => ?_)
  refine ⟨fun h => ⟨rfl, ?_⟩, fun h => ⟨fun h2 => ⟨rfl, ?_⟩, fun h2 => ?_⟩⟩
  · rw [ixo_neg h] at hQ
    exact hQ mi ml hA Up.none Up.none
  · rw [ixo_big (n := 99) (by omega) h2] at hQ
    exact hQ mi ml hA Up.none Up.none
  · obtain ⟨n, hn, rfl, he⟩ := ixo_rg (n := 99) (by omega) h h2
    rw [he] at hQ
    refine ⟨fun h3 => ?_, fun h3 => ⟨rfl, ?_⟩⟩
    · have h3 : mi 70 0 + nI n ≤ nI 999 := h3
      rw [ed, nI_add] at h3
      have h3 := iLE h3
      simp only [if_neg (show ¬ 999 < A 1 0 0 + n by omega)] at hQ
      exact hK _ _ _ _ (lp n hn h3 hQ 0 (Nat.zero_le _) mi ml Fr.none Fr.none hA.S (fun _ => hA))
    · have h3 : ¬ mi 70 0 + nI n ≤ nI 999 := h3
      rw [ed, nI_add] at h3
      have h3 := iNLE h3
      simp only [if_pos (show 999 < A 1 0 0 + n by omega)] at hQ
      exact hQ mi ml hA Up.none Up.none
end
