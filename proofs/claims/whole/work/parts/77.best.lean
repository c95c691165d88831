/-! THE BEST ORDER OF A SUMMER (the class) -/
noncomputable def smF (T S : Nat → Nat → Nat) (h m n : Nat) (o : List Nat) : Nat := (smR T h m (nth 0 o) S n).2.1
section
variable {d : Nat} {Q : Option Value → Mm → Prop} {T S : Nat → Nat → Nat} {mi : Nat → Nat → Int32} {ml : Nat → Nat → Int64} {rd : Option Nat} {N : Nat → Nat → Nat}
set_option maxHeartbeats 2000000 in
theorem s_orderBest (hT : CT 0 T mi) (hw : wfT T) (hl : wfL T) (hS : CS 70 S mi) (hs : wfS T S) (hd : S 0 0 ≤ 999) {h k m n : Nat} (hh : h < T 0 5) (hk : k < 64) (hm : (ckL k (T 0 4)).length = m) (hm4 : 1 ≤ m ∧ m ≤ 4) (hn : n ≤ 30)
    (hQ : ∀ mi' ml', Fr [35, 84, 85, 86, 87, 88, 92, 93, 94] mi mi' → Fr [36] ml ml' → BO (bsN (smF T S h m n) (orL (ckL k (T 0 4)) m (m ^ m))) m mi' → Q none (mi', ml', R0 rd, 136)) : Cd (d + 7) k_Search_orderBest [.ref 84, .int (nI h), .int (nI k), .int (nI n)] (mi, ml, R0 rd, 136) Q := by
  have hwd6 := hw.wd6
  have hmm := mmE m hm4.2
  have bd : ∀ c, c < m ^ m → ∀ i, i < m → nth 0 (ocL (ckL k (T 0 4)) m c) i < T 0 4 := fun c hc i hi => by
    rw [ocL_nth hi]
    exact ckL_lt k (T 0 4) _ (by rw [hm]; exact Nat.mod_lt _ (by omega))
  have codes : ∀ c, c ≤ m ^ m → ∀ mi1 ml1 v7, Fr [35, 84, 85, 86, 87, 88, 92, 93, 94] mi mi1 → Fr [36] ml ml1 → (∀ i, i < m → mi1 92 i = nI (nth 0 (ckL k (T 0 4)) i)) → BO (bsN (smF T S h m n) (orL (ckL k (T 0 4)) m c)) m mi1 → (∀ s o, bsN (smF T S h m n) (orL (ckL k (T 0 4)) m c) = some (s, o) → s ≤ 11880) → GoM (d + 6) k_Search_orderBest 136 Q 88 [.ref 84, .int (nI h), .int (nI k), .int (nI n), .int (nI m), .int (nI (m ^ m)), .int (nI c), v7] [] (mi1, ml1, R0 rd, 136) := by
    refine upto ?_ ?_
    · intro mi1 ml1 v7 f1 f2 hc1 hbo _
      refine g_Search_orderBest (fun K Kl hK hC => ?_)
      exact ⟨fun _ => ⟨rfl, hQ mi1 ml1 f1 f2 hbo⟩, fun h1 => absurd (iNLE h1) (by omega)⟩
    · intro c hc ih mi1 ml1 v7 f1 f2 hc1 hbo hsb
      rw [nI1 c] at ih
      refine g_Search_orderBest (fun K Kl hK hC => ?_)
      refine ⟨fun h1 => absurd (iLE h1) (by omega), fun _ => ?_⟩
      refine hC _ _ _ _ (s_isOrder hm4 (by omega) hc1 (fun hu g hg => ?_) (fun hu g => ?_))
      · refine ⟨fun h1 => absurd h1 (by decide), fun _ => ?_⟩
        have e1 : orL (ckL k (T 0 4)) m (c + 1) = orL (ckL k (T 0 4)) m c ++ [ocL (ckL k (T 0 4)) m c] := if_pos hu
        rw [e1, bsN_s] at ih
        have g1 : Fr [35, 84, 85, 86, 87, 88, 92, 93, 94] mi (cu mi1 93 g) := f1.cu rfl
        have sle := smR_le (S := S) hw (h := h) hm4.2 (bd c hc) n
        have sle2 : smF T S h m n (ocL (ckL k (T 0 4)) m c) ≤ 11880 := by unfold smF; omega
        refine hC _ _ _ _ (s_sumOf (d := d) (hT.fr g1 rfl) hw hl (hS.fr g1 rfl rfl rfl) hs hd hh hm4.2 hn (l := nth 0 (ocL (ckL k (T 0 4)) m c)) (fun i hi => ⟨hg i hi, bd c hc i hi⟩) (fun mi2 ml2 k1 k2 k3 => ?_))
        have g2 := g1.trans (k1.mono rfl)
        have hc2 : ∀ i, i < m → mi2 92 i = nI (nth 0 (ckL k (T 0 4)) i) := fun i hi => by rw [k1 92 rfl]; exact hc1 i hi
        have e93 : ∀ i, i < m → mi2 93 i = nI (nth 0 (ocL (ckL k (T 0 4)) m c) i) := fun i hi => by rw [k1 93 rfl]; exact hg i hi
        have e84 : mi2 84 6 = mi1 84 6 := k3 6 (by decide)
        have e85 : mi2 85 = mi1 85 := k1 85 rfl
        have take : bsF (smF T S h m n) (bsN (smF T S h m n) (orL (ckL k (T 0 4)) m c)) (ocL (ckL k (T 0 4)) m c) = some (smF T S h m n (ocL (ckL k (T 0 4)) m c), ocL (ckL k (T 0 4)) m c) → ∀ v7, GoM (d + 6) k_Search_orderBest 136 Q 88 [.ref 84, .int (nI h), .int (nI k), .int (nI n), .int (nI m), .int (nI (m ^ m)), .int (nI c + nI 1), v7] [] (cu (cu mi2 84 (upd (mi2 84) 6 (nI (smF T S h m n (ocL (ckL k (T 0 4)) m c))))) 85 (va_cpy (mi2 93) (mi2 85) 0 0 m), ml2, R0 rd, 136) := by
          intro he v7
          rw [he] at ih
          refine ih _ ml2 v7 ((g2.cu rfl).cu rfl) (f2.trans k2) hc2 ⟨rfl, fun i hi => ?_⟩ (fun s o e => by cases e; exact sle2)
          show va_cpy (mi2 93) (mi2 85) 0 0 m i = _
          rw [pk_cpy_in (Nat.zero_le _) (by omega), Nat.sub_zero, Nat.zero_add]
          exact e93 i hi
        cases hb : bsN (smF T S h m n) (orL (ckL k (T 0 4)) m c) with
        | none =>
          rw [hb] at take hbo
          have hbo : mi1 84 6 = -1 := hbo
          refine ⟨fun h1 => ?_, fun h1 => ⟨0, 0, m, rfl, rfl, rfl, by show 0 + m ≤ 4; omega, by show 0 + m ≤ 4; omega, hK _ _ _ _ (take rfl _)⟩⟩
          have h1 : nI (smF T S h m n (ocL (ckL k (T 0 4)) m c)) ≤ mi2 84 6 := h1
          rw [e84, hbo] at h1
          exact (iNN (Int32.lt_of_le_of_lt h1 (by decide))).elim
        | some so =>
          obtain ⟨s, o⟩ := so
          have hs2 := hsb s o hb
          rw [hb] at take hbo ih
          obtain ⟨hb1, hb2⟩ : mi1 84 6 = nI s ∧ ∀ i, i < m → mi1 85 i = nI (nth 0 o i) := hbo
          refine ⟨fun h1 => ?_, fun h1 => ⟨0, 0, m, rfl, rfl, rfl, by show 0 + m ≤ 4; omega, by show 0 + m ≤ 4; omega, hK _ _ _ _ (take ?_ _)⟩⟩
          · have h1 : nI (smF T S h m n (ocL (ckL k (T 0 4)) m c)) ≤ mi2 84 6 := h1
            rw [e84, hb1] at h1
            have h1 := iLE h1
            have e2 : bsF (smF T S h m n) (some (s, o)) (ocL (ckL k (T 0 4)) m c) = some (s, o) := if_neg (by omega)
            rw [e2] at ih
            exact hK _ _ _ _ (ih mi2 ml2 _ g2 (f2.trans k2) hc2 ⟨by rw [e84]; exact hb1, fun i hi => by rw [e85]; exact hb2 i hi⟩ (fun s2 o2 e => by cases e; exact hs2))
          · have h1 : ¬ nI (smF T S h m n (ocL (ckL k (T 0 4)) m c)) ≤ mi2 84 6 := h1
            rw [e84, hb1] at h1
            have h1 := iNLE h1
            exact if_pos (by omega)
      · have e1 : orL (ckL k (T 0 4)) m (c + 1) = orL (ckL k (T 0 4)) m c := if_neg hu
        rw [e1] at ih
        refine ⟨fun _ => hK _ _ _ _ (ih (cu mi1 93 g) ml1 _ (f1.cu rfl) f2 hc1 ?_ hsb), fun h1 => absurd (by decide) h1⟩
        exact hbo
  have pw : ∀ j, j ≤ m → ∀ mi1, Fr [35, 84, 85, 86, 87, 88, 92, 93, 94] mi mi1 → (∀ i, i < m → mi1 92 i = nI (nth 0 (ckL k (T 0 4)) i)) → ∀ v7, GoM (d + 6) k_Search_orderBest 136 Q 60 [.ref 84, .int (nI h), .int (nI k), .int (nI n), .int (nI m), .int (nI (m ^ j)), .int (nI j), v7] [] (mi1, ml, R0 rd, 136) := by
    refine upto ?_ ?_
    · intro mi1 f1 hc1 v7
      refine g_Search_orderBest (fun K Kl hK hC => ?_)
      refine ⟨fun _ => ?_, fun h1 => absurd (iNLE h1) (by omega)⟩
      exact hK _ _ _ _ (codes 0 (Nat.zero_le _) _ ml v7 (f1.cu rfl) Fr.none hc1 rfl (fun s o e => by cases e))
    · intro j hj ih mi1 f1 hc1 v7
      refine g_Search_orderBest (fun K Kl hK hC => ?_)
      refine ⟨fun h1 => absurd (iLE h1) (by omega), fun _ => ?_⟩
      have ih := ih mi1 f1 hc1 v7
      rw [nI1 j, Nat.pow_succ, ← pk_mul] at ih
      exact hK _ _ _ _ ih
  have ch : ∀ w, w ≤ T 0 4 → ∀ g : Nat → Int32, (∀ i, i < (ckL k w).length → g i = nI (nth 0 (ckL k w) i)) → GoM (d + 6) k_Search_orderBest 136 Q 6 [.ref 84, .int (nI h), .int (nI k), .int (nI n), .int (nI (ckL k w).length), .int (nI w), .null, .null] [] (cu mi 92 g, ml, R0 rd, 136) := by
    have fin : ∀ w, w ≤ T 0 4 → m ≤ (ckL k w).length → ∀ g : Nat → Int32, (∀ i, i < (ckL k w).length → g i = nI (nth 0 (ckL k w) i)) → GoM (d + 6) k_Search_orderBest 136 Q 60 [.ref 84, .int (nI h), .int (nI k), .int (nI n), .int (nI (ckL k w).length), .int (nI 1), .int (nI 0), .null] [] (cu mi 92 g, ml, R0 rd, 136) := by
      intro w hwW hl2 g hg
      obtain ⟨r, hr⟩ := ckL_pre k (T 0 4) hwW
      have hlen : (ckL k w).length = m := by rw [hr, List.length_append] at hm; omega
      have := pw 0 (Nat.zero_le _) (cu mi 92 g) (Fr.cu Fr.none rfl) (fun i hi => by
        show g i = _
        rw [hr, nth_app (by omega)]
        exact hg i (by omega)) .null
      rw [Nat.pow_zero] at this
      rw [hlen]
      exact this
    refine upto ?_ ?_
    · intro g hg
      have ew : cu mi 92 g 13 1 = nI (T 0 4) := hT.words
      refine g_Search_orderBest (fun K Kl hK hC => ?_)
      refine ⟨fun _ => hK _ _ _ _ (fin (T 0 4) (Nat.le_refl _) (by omega) g hg), fun h1 => absurd (jNLE h1) (by omega)⟩
    · intro w hwd ih g hg
      have ew : cu mi 92 g 13 1 = nI (T 0 4) := hT.words
      obtain ⟨r, hr⟩ := ckL_pre k (T 0 4) (show w ≤ T 0 4 by omega)
      have hle : (ckL k w).length ≤ m := by rw [hr, List.length_append] at hm; omega
      have hb := bitB w (by omega) k hk
      refine g_Search_orderBest (fun K Kl hK hC => ?_)
      refine ⟨fun h1 => absurd (jLE h1) (by omega), fun _ => ⟨fun h1 => ?_, fun h1 => ⟨fun h2 => ?_, fun h2 => ?_⟩⟩⟩
      · have h1 := iLE h1
        exact hK _ _ _ _ (fin w (by omega) (by omega) g hg)
      · have h2 := hb.mp h2
        have e1 : ckL k (w + 1) = ckL k w := if_neg (by omega)
        rw [e1, nI1 w] at ih
        exact hK _ _ _ _ (ih g hg)
      · have h1 := iNLE h1
        have h2 : k / 2 ^ w % 2 ≠ 0 := fun e => h2 (hb.mpr e)
        have e1 : ckL k (w + 1) = ckL k w ++ [w] := if_pos (by omega)
        rw [e1, nI1 w, List.length_append, show (ckL k w).length + [w].length = (ckL k w).length + 1 from rfl, nI1 (ckL k w).length] at ih
        have ih := ih (upd g (ckL k w).length (nI w)) (fun i hi => by
          by_cases he : i = (ckL k w).length
          · rw [he, pk_us, nth_end]
          · rw [pk_un he, nth_app (by omega)]; exact hg i (by omega))
        rw [← cuu] at ih
        exact ⟨(ckL k w).length, by omega, rfl, hK _ _ _ _ ih⟩
  refine r_Search_orderBest (by decide) (fun K Kl hK hC => ?_)
  have := ch 0 (Nat.zero_le _) (mi 92) (fun i hi => absurd hi (Nat.not_lt_zero i))
  rw [cu_id] at this
  exact hK _ _ _ _ this
end
