/-! WHAT THE REFERENCE ANSWERS: remembered, set, stack, undone, images, notes -/
theorem cu4 {α : Type} {f : Nat → α} {a b : Nat} {x y x' y' : α} (hab : a ≠ b) : cu (cu (cu (cu f a x) b y) a x') b y' = cu (cu f a x') b y' := by
  funext k
  by_cases h1 : k = b
  · rw [h1, cu_self, cu_self]
  · rw [cu_ne h1, cu_ne h1]
    by_cases h2 : k = a
    · rw [h2, cu_self, cu_self]
    · rw [cu_ne h2, cu_ne h1, cu_ne h2, cu_ne h2]
section
variable {d : Nat} {Q : Option Value → Mm → Prop} {A : St} {S : Nat → Nat → Nat} {mi : Nat → Nat → Int32} {ml : Nat → Nat → Int64} {rd : Option Nat} {x y z : Int32}
set_option maxHeartbeats 1000000 in
theorem t_remember {n : Nat} {P : Nat → Nat → Nat} (hS : MS S mi ml) (hP : MPa n P mi) (hn : n ≤ 20) (hQ : ∀ g h : Nat → Int32, (∀ k, k ≠ 94 → h k = mi 95 k) → MPa (rmM n) (rmP n P S) (cu (cu mi 132 g) 95 h) → Q none (cu (cu mi 132 g) 95 h, ml, R0 rd, 136)) : Cd (d + 2) k_Mod_remember [.ref 95] (mi, ml, R0 rd, 136) Q := by
  have e := hP.1
  have lp : n = 20 → ∀ j, j ≤ 950 → ∀ g : Nat → Int32, (∀ i, i < j → g i = mi 132 (i + 50)) → (∀ i, j ≤ i → g i = mi 132 i) → GoM (d + 1) k_Mod_remember 136 Q 11 [.ref 95, .int (nI j)] [] (cu mi 132 g, ml, R0 rd, 136) := by
    intro h20
    have hm : rmM n = 20 := by unfold rmM; rw [if_pos (by omega)]
    refine upto ?_ ?_
    · intro g hg hg2
      have e1 : mi 95 94 - nI 1 = nI 19 := by rw [e, h20]; exact nI_pred 19
      have call : ∀ P1 : Option Value → Mm → Prop, (∀ g2 : Nat → Int32, (∀ i, i < 50 → g2 (50 * 19 + i) = nI (rwS S i)) → (∀ i, (i < 50 * 19 ∨ 50 * 19 + 50 ≤ i) → g2 i = g i) → P1 none (cu (cu (cu mi 132 g) 95 (upd (mi 95) 94 (mi 95 94 - nI 1))) 132 g2, ml, R0 rd, 136)) → Cd (d + 1) k_Mod_put [.ref 95, .ref 132, .int (nI 50 * (mi 95 94 - nI 1))] (cu (cu mi 132 g) 95 (upd (mi 95) 94 (mi 95 94 - nI 1)), ml, R0 rd, 136) P1 := by
        intro P1 hP1
        have hS2 : MS S (cu (cu mi 132 g) 95 (upd (mi 95) 94 (mi 95 94 - nI 1))) ml := hS
        have hY : nI 50 * (mi 95 94 - nI 1) = nI (50 * 19) := by rw [e1]; decide
        exact t_put (c := 132) (L := 1000) (a := 50 * 19) hS2 (Or.inl ⟨rfl, rfl⟩) (by decide) hY hP1
      refine g_Mod_remember (fun K Kl hK hC => ⟨fun _ => hC _ _ _ _ (call _ (fun g2 k1 k2 => ⟨rfl, ?_⟩)), fun a => absurd (iNLE a) (by omega)⟩)
      rw [cu4 (by decide)]
      refine hQ g2 (upd (upd (mi 95) 94 (mi 95 94 - nI 1)) 94 (mi 95 94 - nI 1 + nI 1)) (fun k hk => by rw [pk_un hk, pk_un hk]) ⟨?_, fun r hr i hi => ?_⟩
      · show mi 95 94 - nI 1 + nI 1 = nI (rmM n)
        rw [hm, e1]
        decide
      · rw [hm] at hr
        show g2 (50 * r + i) = nI (rmP n P S r i)
        unfold rmP
        rw [hm]
        by_cases hr9 : r = 19
        · subst hr9
          rw [if_pos rfl]
          exact k1 i hi
        · rw [if_neg (by omega), if_pos (by omega), k2 _ (by omega), hg _ (by omega), show 50 * r + i + 50 = 50 * (r + 1) + i by omega]
          exact hP.2 (r + 1) (by omega) i hi
    · intro j hj ih g hg hg2
      have ih := ih (upd g j (g (j + 50))) (fun i hi => by
        by_cases e : i = j
        · rw [e, pk_us]; exact hg2 (j + 50) (by omega)
        · rw [pk_un e]; exact hg i (by omega)) (fun i hi => by rw [pk_un (by omega)]; exact hg2 i (by omega))
      rw [nI1 j, ← cuu] at ih
      refine g_Mod_remember (fun K Kl hK hC => ⟨fun a => absurd (iLE a) (by omega), fun _ => ⟨j + 50, by omega, nI_add j 50, j, by omega, rfl, hK _ _ _ _ ih⟩⟩)
  refine r_Mod_remember (by decide) (fun K Kl hK hC => ⟨fun a => ?_, fun a => ?_⟩)
  · have hne : n ≠ 20 := jNE a e rfl
    have hm : rmM n = n + 1 := by unfold rmM; rw [if_neg (by omega)]
    have hY : nI 50 * mi 95 94 = nI (50 * n) := by rw [e, pk_mul]
    refine hC _ _ _ _ (t_put (c := 132) (L := 1000) (a := 50 * n) (S := S) hS (Or.inl ⟨rfl, rfl⟩) (by omega) hY (fun g k1 k2 => ⟨rfl, ?_⟩))
    refine hQ g (upd (mi 95) 94 (mi 95 94 + nI 1)) (fun k hk => pk_un hk) ⟨?_, fun r hr i hi => ?_⟩
    · show mi 95 94 + nI 1 = nI (rmM n)
      rw [hm]
      exact inc1 e
    · rw [hm] at hr
      show g (50 * r + i) = nI (rmP n P S r i)
      unfold rmP
      rw [hm]
      by_cases hrn : r = n
      · subst hrn
        rw [if_pos rfl]
        exact k1 i hi
      · rw [if_neg (by omega), if_neg (by omega), k2 _ (by omega)]
        exact hP.2 r (by omega) i hi
  · have h20 : n = 20 := jEQ a e rfl
    have l0 := lp h20 0 (Nat.zero_le _) (mi 132) lt_0 (fun _ _ => rfl)
    rw [cu_id] at l0
    exact hK _ _ _ _ l0
theorem MT.h {T : Nat → Nat → Nat} {m2 : Nat → Nat → Int32} (hT : MT T mi) (h95 : ∀ k, 12 ≤ k → k ≤ 22 → m2 95 k = mi 95 k) (hc : ∀ c, 98 ≤ c → c ≤ 118 → m2 c = mi c) : MT T m2 := by
  unfold MT at hT ⊢
  simp only [h95 12 (by decide) (by decide), h95 13 (by decide) (by decide), h95 14 (by decide) (by decide), h95 15 (by decide) (by decide), h95 16 (by decide) (by decide), h95 17 (by decide) (by decide), h95 18 (by decide) (by decide), h95 19 (by decide) (by decide), h95 20 (by decide) (by decide), h95 21 (by decide) (by decide), h95 22 (by decide) (by decide), hc 98 (by decide) (by decide), hc 100 (by decide) (by decide), hc 101 (by decide) (by decide), hc 102 (by decide) (by decide), hc 103 (by decide) (by decide), hc 104 (by decide) (by decide), hc 105 (by decide) (by decide), hc 106 (by decide) (by decide), hc 107 (by decide) (by decide), hc 108 (by decide) (by decide), hc 109 (by decide) (by decide), hc 110 (by decide) (by decide), hc 111 (by decide) (by decide), hc 112 (by decide) (by decide), hc 113 (by decide) (by decide), hc 114 (by decide) (by decide), hc 115 (by decide) (by decide), hc 116 (by decide) (by decide), hc 117 (by decide) (by decide)]
  exact hT
theorem MK.h {T : Nat → Nat → Nat} {m2 : Nat → Nat → Int32} (hT : MK T mi) (hc : ∀ c, 98 ≤ c → c ≤ 118 → m2 c = mi c) : MK T m2 := by
  unfold MK at hT ⊢
  simp only [hc 117 (by decide) (by decide), hc 118 (by decide) (by decide)]
  exact hT
end
