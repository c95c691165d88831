/-! TRIED OTHERWISE (the class) -/
theorem wfS.trO {T S : Nat → Nat → Nat} (h : wfS T S) (o : Nat) : wfS T (trO T S o) := h.sh2 (fun f => by split <;> omega)
section
variable {d : Nat} {Q : Option Value → Mm → Prop} {T S : Nat → Nat → Nat} {mi : Nat → Nat → Int32} {ml : Nat → Nat → Int64} {rd : Option Nat}
set_option maxHeartbeats 2000000 in
theorem s_stacksAfter (hT : CT 0 T mi) (hw : wfT T) (hl : wfL T) (hS : CS 70 S mi) (hs : wfS T S) (hd : S 0 0 ≤ 999) {what o n : Nat} (hwh : what ≤ 3) (ho : what = 3 → o < T 0 2) (hn : n ≤ 99) (hQ : ∀ mi' ml', Fr [35, 86, 87, 88] mi mi' → Fr [36] ml ml' → Q (some (.int (nI (triedN T S what o n)))) (mi', ml', R0 rd, 136)) : Cd (d + 6) k_Search_stacksAfter [.ref 84, .int (nI what), .int (nI o), .int (nI n)] (mi, ml, R0 rd, 136) Q := by
  have lp : ∀ S0, S0 0 0 = S 0 0 → wfS T S0 → ∀ c e r, ((c, e, r) = (true, true, true) ∨ (c, e, r) = (true, true, false) ∨ (c, e, r) = (false, true, true) ∨ (c, e, r) = (true, false, true)) → triedN T S what o n = stkAll (trS T c e r S0 (min n (999 - S 0 0)) 1) → ∀ k, k ≤ min n (999 - S 0 0) → ∀ mi' ml', Fr [35, 86, 87, 88] mi mi' → Fr [36] ml ml' → CS 86 (trS T c e r S0 k) mi' → GoM (d + 5) k_Search_stacksAfter 136 Q 78 [.ref 84, .int (nI what), .int (nI o), .int (nI n), .int (nI (hwN c e r)), .int (nI k)] [] (mi', ml', R0 rd, 136) := by
    intro S0 hS00 hwf0 c e r hcer htr
    have hwf := fun k hk => trS_wf hwf0 c e r (n := min n (999 - S 0 0)) (by omega) k hk
    refine upto ?_ ?_
    · intro mi' ml' hf1 hf2 hS1
      have hwfk := hwf _ (Nat.le_refl _)
      have hdy := trS_day T c e r S0 (min n (999 - S 0 0))
      have ed : mi' 86 0 = nI (trS T c e r S0 (min n (999 - S 0 0)) 0 0) := hS1.day
      have hQ := hQ mi' ml' hf1 hf2
      rw [htr] at hQ
      refine g_Search_stacksAfter (fun K Kl hK hC => ?_)
      refine ⟨fun _ => hC _ _ _ _ (s_stacksInAll (Or.inr rfl) (hS1.sh hwfk) ⟨rfl, hQ⟩), fun h1 => ⟨fun _ => hC _ _ _ _ (s_stacksInAll (Or.inr rfl) (hS1.sh hwfk) ⟨rfl, hQ⟩), fun h2 => ?_⟩⟩
      have h1 := iNLE h1
      have h2 : ¬ nI 999 ≤ mi' 86 0 := h2
      rw [ed] at h2
      have h2 := iNLE h2
      omega
    · intro k hk ih mi' ml' hf1 hf2 hS1
      have hwfk := hwf k (by omega)
      have hT1 := hT.fr hf1 rfl
      have hdy := trS_day T c e r S0 k
      have ed : mi' 86 0 = nI (trS T c e r S0 k 0 0) := hS1.day
      refine g_Search_stacksAfter (fun K Kl hK hC => ?_)
      refine ⟨fun h1 => absurd (iLE h1) (by omega), fun _ => ⟨fun h2 => ?_, fun _ => ?_⟩⟩
      · have h2 : nI 999 ≤ mi' 86 0 := h2
        rw [ed] at h2
        exact absurd (iLE h2) (by omega)
      · refine hC _ _ _ _ (s_pass (d := d) (c := c) (e := e) (r := r) (Or.inr rfl) hT1 hw hl hS1 hwfk hcer (fun mi2 ml2 g1 g2 hS2 => ?_))
        have ih := ih mi2 ml2 (hf1.trans (g1.mono rfl)) (hf2.trans g2) hS2
        rw [nI1 k] at ih
        exact hK _ _ _ _ ih
  refine r_Search_stacksAfter (by decide) (fun K Kl hK hC => ?_)
  refine hC _ _ _ _ (s_copy (Or.inl ⟨rfl, rfl⟩) hS (fun mi2 hf2 hS2 => ?_))
  have hf3 : Fr [35, 86, 87, 88] mi mi2 := hf2.mono rfl
  have h4 : what = 0 ∨ what = 1 ∨ what = 2 ∨ what = 3 := by omega
  rcases h4 with rfl | rfl | rfl | rfl
  · refine ⟨fun _ => ?_, fun h => absurd rfl h⟩
    exact hK _ _ _ _ (lp S rfl hs false true true (Or.inr (Or.inr (Or.inl rfl))) rfl 0 (Nat.zero_le _) mi2 ml hf3 Fr.none hS2)
  · refine ⟨fun h => absurd h (by decide), fun _ => ⟨fun _ => ?_, fun h => absurd rfl h⟩⟩
    exact hK _ _ _ _ (lp S rfl hs true false true (Or.inr (Or.inr (Or.inr rfl))) rfl 0 (Nat.zero_le _) mi2 ml hf3 Fr.none hS2)
  · refine ⟨fun h => absurd h (by decide), fun _ => ⟨fun h => absurd h (by decide), fun _ => ⟨fun _ => ?_, fun h => absurd rfl h⟩⟩⟩
    exact hK _ _ _ _ (lp S rfl hs true true false (Or.inr (Or.inl rfl)) rfl 0 (Nat.zero_le _) mi2 ml hf3 Fr.none hS2)
  · refine ⟨fun h => absurd h (by decide), fun _ => ⟨fun h => absurd h (by decide), fun _ => ⟨fun h => absurd h (by decide), fun _ => ?_⟩⟩⟩
    refine hC _ _ _ _ (s_cutOwner (hT.fr hf3 rfl) hw (fun f hf => hS2.shape f hf) (ho rfl) (fun g hg => ?_))
    exact hK _ _ _ _ (lp (trO T S o) rfl (hs.trO o) true true true (Or.inl rfl) rfl 0 (Nat.zero_le _) _ ml (hf3.cu rfl) Fr.none (hS2.setSh hg))
end
