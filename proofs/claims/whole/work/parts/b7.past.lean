/-! THE REFERENCE: stacks, notes, what is put and taken -/
theorem sumN_ext {f : Nat → Nat} {n : Nat} (h : ∀ i, n ≤ i → f i = 0) : ∀ m, n ≤ m → sumN f m = sumN f n
  | 0, hm => by rw [show n = 0 by omega]
  | m + 1, hm => by
    by_cases e : n = m + 1
    · rw [e]
    · rw [sumN, sumN_ext h m (by omega), h m (by omega)]
      rfl
theorem stk_fl {T S : Nat → Nat → Nat} (hw : wfT T) (hs : wfS T S) : stkAll (S 1) = sumN (fun f => bcN (S 1 f)) (T 0 0 * T 0 1) := sumN_ext (fun i hi => by rw [hs.sho i hi]; decide) 48 hw.fl
section
variable {d : Nat} {Q : Option Value → Mm → Prop} {T S N : Nat → Nat → Nat} {mi : Nat → Nat → Int32} {ml : Nat → Nat → Int64} {rd : Option Nat} {x y z : Int32}
theorem t_stacksOf (hT : MT T mi) (hw : wfT T) {b : Nat} (hb : b < 2) (hs : wfS T S) (hsh : ∀ f, f < 48 → mi 123 (48 * b + f) = nI (S 1 f) ∧ S 1 f ≤ 511) (hQ : Q (some (.int (nI (stkAll (S 1))))) (mi, ml, R0 rd, 136)) : Cd (d + 2) k_Mod_stacksOf [.ref 95, .int (nI b)] (mi, ml, R0 rd, 136) Q := by
  have hfl := hw.fl
  rw [stk_fl hw hs] at hQ
  have lp : ∀ j, j ≤ T 0 0 * T 0 1 → GoM (d + 1) k_Mod_stacksOf 136 Q 4 [.ref 95, .int (nI b), .int (nI (sumN (fun f => bcN (S 1 f)) j)), .int (nI j)] [] (mi, ml, R0 rd, 136) := by
    refine upto ?_ ?_
    · refine g_Mod_stacksOf (fun K Kl hK hC => hC _ _ _ _ (t_fields hT ⟨fun _ => ⟨rfl, hQ⟩, fun a => absurd (iNLE a) (by omega)⟩))
    · intro j hj ih
      have h1 := hsh j (by omega)
      rw [sumN, ← nI_add, nI1 j] at ih
      refine g_Mod_stacksOf (fun K Kl hK hC => hC _ _ _ _ (t_fields hT ⟨fun a => absurd (iLE a) (by omega), fun _ => ⟨48 * b + j, by omega, ix48, ?_⟩⟩))
      rw [h1.1]
      exact hC _ _ _ _ (s_Mod_manyOf (by omega) (hK _ _ _ _ ih))
  refine r_Mod_stacksOf (by decide) (fun K Kl hK hC => hK _ _ _ _ (lp 0 (Nat.zero_le _)))
theorem t_knownBy (hN : MN N mi) (h24 : N 0 0 ≤ 24) (h1 : N 0 1 ≤ N 0 0 + 1) (hQ : Q (some (.int (nI (knM N)))) (mi, ml, R0 rd, 136)) : Cd (d + 1) k_Mod_knownBy [.ref 95] (mi, ml, R0 rd, 136) Q := by
  have e0 := hN.1
  have e1 := hN.2.1
  unfold knM at hQ
  refine r_Mod_knownBy (by decide) (fun K Kl hK hC => ⟨fun a => ⟨rfl, ?_⟩, fun a => ⟨rfl, ?_⟩⟩)
  · have a : 0 ≤ mi 95 89 := a
    rw [e1] at a
    have a := (nI_predge (by omega)).mp a
    rw [if_neg a] at hQ
    obtain ⟨q, hq⟩ : ∃ q, N 0 1 = q + 1 := ⟨N 0 1 - 1, by omega⟩
    rw [hq, Nat.add_sub_cancel, ← nI_pred, ← hq, show nI (N 0 1) - 1 = mi 95 89 from e1.symm] at hQ
    exact hQ
  · have a : ¬ 0 ≤ mi 95 89 := a
    rw [e1] at a
    have hz : N 0 1 = 0 := by
      rcases Nat.eq_zero_or_pos (N 0 1) with y | y
      · exact y
      · exact absurd ((nI_predge (by omega)).mpr (by omega)) a
    rw [if_pos hz, ← e0] at hQ
    exact hQ
theorem t_noted (hN : MN N mi) (h24 : N 0 0 < 24) {a b c : Nat} {X Y Z : Int32} (hX : X = nI a - 1) (hY : a ≠ 0 → Y = nI b) (hZ : Z = nI c) (hQ : ∀ g h : Nat → Int32, (∀ k, k ≠ 88 → h k = mi 95 k) → MN (ntN N a b c) (cu (cu mi 130 g) 95 h) → Q (some (.int (nI (N 0 0)))) (cu (cu mi 130 g) 95 h, ml, R0 rd, 136)) : Cd (d + 1) k_Mod_noted [.ref 95, .int X, .int Y, .int Z] (mi, ml, R0 rd, 136) Q := by
  have e0 := hN.1
  have e3 : nI 3 * mi 95 88 = nI (3 * N 0 0) := by rw [e0, pk_mul]
  have eq1 : mi 95 88 + nI 1 - nI 1 = nI (N 0 0) := by rw [e0, nI_add]; exact nI_pred _
  rw [← eq1] at hQ
  have nt : ∀ r i, i ≠ N 0 0 → ntN N a b c (r + 1) i = N (r + 1) i := fun r i hi => by
    unfold ntN
    rw [if_neg (by omega), if_neg hi]
  refine r_Mod_noted (by decide) (fun K Kl hK hC => ⟨3 * N 0 0, by omega, e3, 3 * N 0 0 + 1, by omega, by rw [show cu mi 130 (upd (mi 130) (3 * N 0 0) X) 95 88 = mi 95 88 from rfl, e3, nI_add], 3 * N 0 0 + 2, by omega, (show nI 3 * mi 95 88 + nI 2 = _ by rw [e3, nI_add]), rfl, ?_⟩)
  have hq := hQ (upd (upd (upd (mi 130) (3 * N 0 0) X) (3 * N 0 0 + 1) Y) (3 * N 0 0 + 2) Z) (upd (mi 95) 88 (mi 95 88 + nI 1)) (fun k hk => pk_un hk) ⟨?_, hN.2.1, fun i hi => ?_⟩
  · simp only [cuu]
    exact hq
  · show mi 95 88 + nI 1 = nI (N 0 0 + 1)
    rw [e0, nI_add]
  · have hi : i < N 0 0 + 1 := hi
    show upd (upd (upd (mi 130) (3 * N 0 0) X) (3 * N 0 0 + 1) Y) (3 * N 0 0 + 2) Z (3 * i) = _ ∧ (_ → upd (upd (upd (mi 130) (3 * N 0 0) X) (3 * N 0 0 + 1) Y) (3 * N 0 0 + 2) Z (3 * i + 1) = _) ∧ upd (upd (upd (mi 130) (3 * N 0 0) X) (3 * N 0 0 + 1) Y) (3 * N 0 0 + 2) Z (3 * i + 2) = _
    by_cases e : i = N 0 0
    · subst e
      have ea : ntN N a b c 1 (N 0 0) = a := if_pos rfl
      have eb : ntN N a b c 2 (N 0 0) = b := if_pos rfl
      have ec : ntN N a b c 3 (N 0 0) = c := if_pos rfl
      rw [ea, eb, ec, pk_un (by omega), pk_un (by omega), pk_us, pk_un (by omega), pk_us, pk_us]
      exact ⟨hX, hY, hZ⟩
    · rw [nt 0 i e, nt 1 i e, nt 2 i e, pk_un (by omega), pk_un (by omega), pk_un (by omega), pk_un (by omega), pk_un (by omega), pk_un (by omega), pk_un (by omega), pk_un (by omega), pk_un (by omega)]
      exact hN.2.2 i (by omega)
theorem t_put (hS : MS S mi ml) {c L a : Nat} (hc : (c = 132 ∧ L = 1000) ∨ (c = 133 ∧ L = 50)) (ha : a + 50 ≤ L) {Y : Int32} (hY : Y = nI a) (hQ : ∀ g : Nat → Int32, (∀ i, i < 50 → g (a + i) = nI (rwS S i)) → (∀ i, (i < a ∨ a + 50 ≤ i) → g i = mi c i) → Q none (cu mi c g, ml, R0 rd, 136)) : Cd (d + 1) k_Mod_put [.ref 95, .ref c, .int Y] (mi, ml, R0 rd, 136) Q := by
  subst hY
  have hp := hS.2.2.1
  have hh := hS.2.2.2.2.1
  have lp : ∀ j, j ≤ 48 → ∀ g : Nat → Int32, (∀ i, i < j → g (a + i) = nI (S 1 i)) → (∀ i, (i < a ∨ a + 50 ≤ i) → g i = mi c i) → GoM d k_Mod_put 136 Q 2 [.ref 95, .ref c, .int (nI a), .int (nI j)] [] (cu mi c g, ml, R0 rd, 136) := by
    refine upto ?_ ?_
    · intro g hg hg2
      have hq := hQ (upd (upd g (a + 48) (mi 95 70)) (a + 49) (mi 95 71)) (fun i hi => by
        unfold rwS
        by_cases h48 : i < 48
        · rw [if_pos h48, pk_un (by omega), pk_un (by omega)]
          exact hg i h48
        · rw [if_neg h48]
          by_cases e : i = 48
          · rw [if_pos e, e, pk_un (by omega), pk_us]
            exact hp
          · rw [if_neg e, show i = 49 by omega, pk_us]
            exact hh) (fun i hi => by rw [pk_un (by omega), pk_un (by omega)]; exact hg2 i hi)
      rw [← cu2] at hq
      refine g_Mod_put ?_
      rcases hc with ⟨rfl, rfl⟩ | ⟨rfl, rfl⟩
      all_goals
        intro K Kl hK hC
        exact ⟨fun _ => ⟨a + 48, by omega, nI_add a 48, a + 49, by omega, nI_add a 49, rfl, hq⟩, fun z => absurd (iNLE z) (by omega)⟩
    · intro j hj ih g hg hg2
      have es : mi 123 j = nI (S 1 j) := hS.1 j hj
      have ih := ih (upd g (a + j) (mi 123 j)) (fun i hi => by
        by_cases e : i = j
        · rw [e, pk_us, es]
        · rw [pk_un (by omega)]; exact hg i (by omega)) (fun i hi => by rw [pk_un (by omega)]; exact hg2 i hi)
      rw [nI1 j, ← cuu] at ih
      refine g_Mod_put ?_
      rcases hc with ⟨rfl, rfl⟩ | ⟨rfl, rfl⟩
      all_goals
        intro K Kl hK hC
        exact ⟨fun z => absurd (iLE z) (by omega), fun _ => ⟨j, by omega, rfl, a + j, by omega, nI_add a j, hK _ _ _ _ ih⟩⟩
  refine r_Mod_put (by decide) (fun K Kl hK hC => ?_)
  have l0 := lp 0 (Nat.zero_le _) (mi c) lt_0 (fun _ _ => rfl)
  rw [cu_id] at l0
  exact hK _ _ _ _ l0
theorem t_take {R : Nat → Nat} {c L a : Nat} (hc : (c = 132 ∧ L = 1000) ∨ (c = 133 ∧ L = 50)) (ha : a + 50 ≤ L) {Y : Int32} (hY : Y = nI a) (hR : ∀ i, i < 50 → mi c (a + i) = nI (R i)) (hQ : ∀ g h : Nat → Int32, (∀ f, f < 48 → g f = nI (R f)) → (∀ k, k ≠ 70 → k ≠ 71 → h k = mi 95 k) → h 70 = nI (R 48) → h 71 = nI (R 49) → Q none (cu (cu mi 123 g) 95 h, ml, R0 rd, 136)) : Cd (d + 1) k_Mod_take [.ref 95, .ref c, .int Y] (mi, ml, R0 rd, 136) Q := by
  subst hY
  have lp : ∀ j, j ≤ 48 → ∀ g : Nat → Int32, (∀ i, i < j → g i = nI (R i)) → GoM d k_Mod_take 136 Q 2 [.ref 95, .ref c, .int (nI a), .int (nI j)] [] (cu mi 123 g, ml, R0 rd, 136) := by
    refine upto ?_ ?_
    · intro g hg
      have hq := hQ g (upd (upd (mi 95) 70 (mi c (a + 48))) 71 (mi c (a + 49))) hg (fun k h1 h2 => by rw [pk_un h2, pk_un h1]) (hR 48 (by omega)) (hR 49 (by omega))
      refine g_Mod_take ?_
      rcases hc with ⟨rfl, rfl⟩ | ⟨rfl, rfl⟩
      all_goals
        intro K Kl hK hC
        refine ⟨fun _ => ⟨a + 48, by omega, nI_add a 48, a + 49, by omega, nI_add a 49, rfl, ?_⟩, fun z => absurd (iNLE z) (by omega)⟩
        rw [cu_cu]
        exact hq
    · intro j hj ih g hg
      have ih := ih (upd g j (mi c (a + j))) (fun i hi => by
        by_cases e : i = j
        · rw [e, pk_us]; exact hR j (by omega)
        · rw [pk_un e]; exact hg i (by omega))
      rw [nI1 j, ← cuu] at ih
      refine g_Mod_take ?_
      rcases hc with ⟨rfl, rfl⟩ | ⟨rfl, rfl⟩
      all_goals
        intro K Kl hK hC
        exact ⟨fun z => absurd (iLE z) (by omega), fun _ => ⟨a + j, by omega, nI_add a j, j, by omega, rfl, hK _ _ _ _ ih⟩⟩
  refine r_Mod_take (by decide) (fun K Kl hK hC => ?_)
  have l0 := lp 0 (Nat.zero_le _) (mi 123) lt_0
  rw [cu_id] at l0
  exact hK _ _ _ _ l0
end
