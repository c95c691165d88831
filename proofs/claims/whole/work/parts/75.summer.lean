/-! A SUMMER'S SUM (the class) -/
section
variable {d : Nat} {Q : Option Value → Mm → Prop} {T S : Nat → Nat → Nat} {mi : Nat → Nat → Int32} {ml : Nat → Nat → Int64} {rd : Option Nat} {N : Nat → Nat → Nat}
set_option maxHeartbeats 2000000 in
theorem s_sumOf (hT : CT 0 T mi) (hw : wfT T) (hl : wfL T) (hS : CS 70 S mi) (hs : wfS T S) (hd : S 0 0 ≤ 999) {h m n : Nat} (hh : h < T 0 5) (hm : m ≤ 4) (hn : n ≤ 30) {l : Nat → Nat} (hlw : ∀ i, i < m → mi 93 i = nI (l i) ∧ l i < T 0 4)
    (hQ : ∀ mi' ml', Fr [35, 84, 86, 87, 88, 94] mi mi' → Fr [36] ml ml' → (∀ k, k ≠ 0 → mi' 84 k = mi 84 k) → Q (some (.int (nI (smR T h m l S n).2.1))) (mi', ml', R0 rd, 136)) : Cd (d + 6) k_Search_sumOf [.ref 84, .int (nI h), .int (nI m), .int (nI n)] (mi, ml, R0 rd, 136) Q := by
  have hfl := hw.fl
  have hwd6 := hw.wd6
  have hll : ∀ i, i < m → l i < T 0 4 := fun i hi => (hlw i hi).2
  have inner : ∀ k, k < n → (∀ mi2 ml2 v7, Fr [35, 84, 86, 87, 88, 94] mi mi2 → Fr [36] ml ml2 → (∀ k, k ≠ 0 → mi2 84 k = mi 84 k) → CS 86 (smR T h m l S (k + 1)).1 mi2 → (∀ i, i < min (k + 1) m → mi2 94 i = smI ((smR T h m l S (k + 1)).2.2 i)) → GoM (d + 5) k_Search_sumOf 136 Q 20 [.ref 84, .int (nI h), .int (nI m), .int (nI n), .int (nI (smR T h m l S (k + 1)).2.1), .int (nI (min (k + 1) m)), .int (nI k + nI 1), v7] [] (mi2, ml2, R0 rd, 136)) →
      ∀ mi1 ml1, Fr [35, 84, 86, 87, 88, 94] mi mi1 → Fr [36] ml ml1 → (∀ k, k ≠ 0 → mi1 84 k = mi 84 k) → CS 86 (smT T m l k (smR T h m l S k).1) mi1 → (∀ i, i < min (k + 1) m → mi1 94 i = smI (smA T m l k (smR T h m l S k).1 (smR T h m l S k).2.2 i)) →
      ∀ j, j ≤ min (k + 1) m → GoM (d + 5) k_Search_sumOf 136 Q 99 [.ref 84, .int (nI h), .int (nI m), .int (nI n), .int (nI ((smR T h m l S k).2.1 + sumN (smV T h l (smT T m l k (smR T h m l S k).1) (smA T m l k (smR T h m l S k).1 (smR T h m l S k).2.2)) j)), .int (nI (min (k + 1) m)), .int (nI k), .int (nI j)] [] (mi1, ml1, R0 rd, 136) := by
    intro k hk go mi1 ml1 f1 f2 f3 hS1 hat
    have hwf := smR_wf hw hs hd h m l k (by omega)
    have hwf1 := smT_wf hw hwf.1 m l k
    have hT1 := hT.fr f1 rfl
    refine upto ?_ ?_
    · refine g_Search_sumOf (fun K Kl hK hC => ?_)
      refine ⟨fun _ => ?_, fun h1 => absurd (iNLE h1) (by omega)⟩
      refine hC _ _ _ _ (s_pass (d := d) (c := true) (e := true) (r := false) (Or.inr rfl) hT1 hw hl hS1 hwf1.1 (Or.inr (Or.inl rfl)) (fun mi2 ml2 g1 g2 hS2 => ?_))
      refine hK _ _ _ _ (go mi2 ml2 _ (f1.trans (g1.mono rfl)) (f2.trans g2) (fun k hk => by rw [g1 84 rfl]; exact f3 k hk) hS2 (fun i hi => ?_))
      rw [g1 94 rfl]
      exact hat i hi
    · intro j hj ih
      have hlj := hlw j (by omega)
      have e93 : mi1 93 j = nI (l j) := by rw [f1 93 rfl]; exact hlj.1
      have ew : mi1 19 (l j) = nI (T 8 (l j)) := hT1.ww _ hlj.2
      have eat := hat j hj
      have esum : sumN (smV T h l (smT T m l k (smR T h m l S k).1) (smA T m l k (smR T h m l S k).1 (smR T h m l S k).2.2)) (j + 1) = sumN (smV T h l (smT T m l k (smR T h m l S k).1) (smA T m l k (smR T h m l S k).1 (smR T h m l S k).2.2)) j + smV T h l (smT T m l k (smR T h m l S k).1) (smA T m l k (smR T h m l S k).1 (smR T h m l S k).2.2) j := rfl
      rw [esum, nI1 j] at ih
      refine g_Search_sumOf (fun K Kl hK hC => ?_)
      refine ⟨fun h1 => absurd (iLE h1) (by omega), fun _ => ⟨j, by omega, rfl, ?_⟩⟩
      rw [eat]
      unfold smV at ih
      cases hp : smA T m l k (smR T h m l S k).1 (smR T h m l S k).2.2 j with
      | none =>
        rw [hp] at ih
        exact ⟨fun _ => hK _ _ _ _ ih, fun h2 => absurd (by decide) h2⟩
      | some p =>
        have hp2 : p < 2 * (T 0 0 * T 0 1) := smR_at (S := S) h m l (k + 1) j p hp
        rw [hp] at ih eat
        refine ⟨fun h2 => (iNN h2).elim, fun _ => ⟨j, by omega, rfl, j, by omega, rfl, ?_⟩⟩
        rw [e93, eat]
        refine hC _ _ _ _ (s_isRead (d := d + 2) hT1 hw (hS1.sh hwf1.1) hlj.2 hp2 hh (fun hr => ?_) (fun hr => ?_))
        · refine ⟨fun h2 => absurd h2 (by decide), fun _ => ⟨j, by omega, rfl, l j, by omega, e93, ?_⟩⟩
          rw [ew]
          simp only [hr, if_true] at ih
          rw [← Nat.add_assoc, ← nI_add (_ + _) (T 8 (l j))] at ih
          exact hK _ _ _ _ ih
        · simp only [hr] at ih
          exact ⟨fun _ => hK _ _ _ _ ih, fun h2 => absurd (by decide) h2⟩
  have lp : ∀ k, k ≤ n → ∀ mi1 ml1 v7, Fr [35, 84, 86, 87, 88, 94] mi mi1 → Fr [36] ml ml1 → (∀ k, k ≠ 0 → mi1 84 k = mi 84 k) → CS 86 (smR T h m l S k).1 mi1 → (∀ i, i < min k m → mi1 94 i = smI ((smR T h m l S k).2.2 i)) → GoM (d + 5) k_Search_sumOf 136 Q 20 [.ref 84, .int (nI h), .int (nI m), .int (nI n), .int (nI (smR T h m l S k).2.1), .int (nI (min k m)), .int (nI k), v7] [] (mi1, ml1, R0 rd, 136) := by
    refine upto ?_ ?_
    · intro mi1 ml1 v7 f1 f2 f3 hS1 hat
      refine g_Search_sumOf (fun K Kl hK hC => ?_)
      exact ⟨fun _ => ⟨rfl, hQ mi1 ml1 f1 f2 f3⟩, fun h1 => absurd (iNLE h1) (by omega)⟩
    · intro k hk ih mi1 ml1 v7 f1 f2 f3 hS1 hat
      have hwf := smR_wf hw hs hd h m l k (by omega)
      have hT1 := hT.fr f1 rfl
      rw [nI1 k] at ih
      have inn := inner k hk (fun mi2 ml2 v7 a b c d e => ih mi2 ml2 v7 a b c d e)
      refine g_Search_sumOf (fun K Kl hK hC => ?_)
      refine ⟨fun h1 => absurd (iLE h1) (by omega), fun _ => ⟨fun h1 => ?_, fun h1 => ?_⟩⟩
      · have h1 := iLE h1
        have e1 : min (k + 1) m = min k m := by omega
        have e2 : smT T m l k (smR T h m l S k).1 = (smR T h m l S k).1 := if_neg (by omega)
        have e3 : smA T m l k (smR T h m l S k).1 (smR T h m l S k).2.2 = (smR T h m l S k).2.2 := funext (fun i => if_neg (by omega))
        rw [e1, e2, e3] at inn
        exact hK _ _ _ _ (inn mi1 ml1 f1 f2 f3 hS1 hat 0 (Nat.zero_le _))
      · have h1 := iNLE h1
        have hlk := hlw k h1
        have e1 : nI (min (k + 1) m) = nI (min k m) + nI 1 := by rw [nI_add]; congr 1; omega
        have e93 : mi1 93 k = nI (l k) := by rw [f1 93 rfl]; exact hlk.1
        have e2 : smT T m l k (smR T h m l S k).1 = (match smP T (smR T h m l S k).1 (l k) with
          | some p => sSh (smR T h m l S k).1 (putN T ((smR T h m l S k).1 1) (l k) (p / 2) (p % 2))
          | none => (smR T h m l S k).1) := if_pos h1
        have e3 : smA T m l k (smR T h m l S k).1 (smR T h m l S k).2.2 k = smP T (smR T h m l S k).1 (l k) := if_pos ⟨h1, rfl⟩
        have e4 : ∀ i, i ≠ k → smA T m l k (smR T h m l S k).1 (smR T h m l S k).2.2 i = (smR T h m l S k).2.2 i := fun i hi => if_neg (fun z => hi z.2)
        refine ⟨k, by omega, rfl, ?_⟩
        rw [e93]
        refine hC _ _ _ _ (s_cheapestPlace (d := d + 1) (Or.inr rfl) (Or.inl rfl) hT1 hw (hS1.sh hwf.1) (hT1.feeA hw) (feA_le hw) hlk.2 ?_)
        generalize hcc : chC (chN (fun p => costN T ((smR T h m l S k).1 1) (feA T) (l k) (p / 2) (p % 2)) (2 * (T 0 0 * T 0 1))) = cc
        rw [smP_I]
        have g1 : Fr [35, 84, 86, 87, 88, 94] mi (cu mi1 84 (upd (mi1 84) 0 cc)) := f1.cu rfl
        have g3 : ∀ q, q ≠ 0 → cu mi1 84 (upd (mi1 84) 0 cc) 84 q = mi 84 q := fun q hq => by
          rw [cu_self, pk_un hq]
          exact f3 q hq
        have hS2 : CS 86 (smR T h m l S k).1 (cu mi1 84 (upd (mi1 84) 0 cc)) := hS1.fr (L := [84]) (Fr.cu Fr.none rfl) rfl rfl rfl
        cases hp : smP T (smR T h m l S k).1 (l k) with
        | none =>
          rw [hp] at e2
          rw [e2, e1] at inn
          refine ⟨fun _ => ⟨k, by omega, rfl, ?_⟩, fun h2 => absurd (by decide) h2⟩
          refine hK _ _ _ _ (inn _ ml1 (g1.cu (c := 94) rfl) f2 g3 (hS2.fr (L := [94]) (Fr.cu Fr.none rfl) rfl rfl rfl) (fun i hi => ?_) 0 (Nat.zero_le _))
          show upd (mi1 94) k (-1) i = _
          by_cases hik : i = k
          · subst hik
            rw [pk_us, e3, hp]
            rfl
          · rw [pk_un hik, e4 i hik]
            exact hat i (by omega)
        | some p =>
          have hp2 := smP_lt hp
          rw [hp] at e2
          rw [e2, e1] at inn
          refine ⟨fun h2 => (iNN h2).elim, fun _ => ⟨k, by omega, rfl, by decide, ?_⟩⟩
          rw [show cu mi1 84 (upd (mi1 84) 0 cc) 93 = mi1 93 from rfl, e93]
          rw [show smI (some p) = nI p from rfl, pk_div (by omega) (by omega) (by omega)]
          refine ⟨by decide, ?_⟩
          rw [pk_rem (by omega) (by omega) (by omega)]
          refine hC _ _ _ _ (s_put (d := d + 2) (Or.inr rfl) (hT.fr g1 rfl) hw hS2.shape hlk.2 (pl_half hp2) (by omega) (fun g hg => ⟨k, by omega, rfl, ?_⟩))
          refine hK _ _ _ _ (inn _ ml1 ((g1.cu (c := 87) rfl).cu (c := 94) rfl) f2 g3 ((CS.setSh hS2 hg).fr (L := [94]) (Fr.cu Fr.none rfl) rfl rfl rfl) (fun i hi => ?_) 0 (Nat.zero_le _))
          show upd (mi1 94) k (nI p) i = _
          by_cases hik : i = k
          · subst hik
            rw [pk_us, e3, hp]
            rfl
          · rw [pk_un hik, e4 i hik]
            exact hat i (by omega)
  refine r_Search_sumOf (by decide) (fun K Kl hK hC => ?_)
  refine hC _ _ _ _ (s_copy (Or.inl ⟨rfl, rfl⟩) hS (fun mi2 hf2 hS2 => ?_))
  refine hK _ _ _ _ (lp 0 (Nat.zero_le _) mi2 ml _ (hf2.mono rfl) Fr.none (fun k _ => by rw [hf2 84 rfl]) hS2 (fun i hi => absurd hi (by omega)))
end
