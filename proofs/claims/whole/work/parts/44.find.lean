/-! LETTERS, FIRST PLACES -/
theorem jLE {x y : Int32} {a b : Nat} (h : x ≤ y) (hx : x = nI a := by first | rfl | assumption) (hy : y = nI b := by first | rfl | assumption) (ha : a < 2 ^ 31 := by omega) (hb : b < 2 ^ 31 := by omega) : a ≤ b := by subst hx; subst hy; exact iLE h ha hb
theorem jNLE {x y : Int32} {a b : Nat} (h : ¬ x ≤ y) (hx : x = nI a := by first | rfl | assumption) (hy : y = nI b := by first | rfl | assumption) (ha : a < 2 ^ 31 := by omega) (hb : b < 2 ^ 31 := by omega) : b < a := by subst hx; subst hy; exact iNLE h ha hb
theorem jLT {x y : Int32} {a b : Nat} (h : x < y) (hx : x = nI a := by first | rfl | assumption) (hy : y = nI b := by first | rfl | assumption) (ha : a < 2 ^ 31 := by omega) (hb : b < 2 ^ 31 := by omega) : a < b := by subst hx; subst hy; exact iLT h ha hb
theorem jNLT {x y : Int32} {a b : Nat} (h : ¬ x < y) (hx : x = nI a := by first | rfl | assumption) (hy : y = nI b := by first | rfl | assumption) (ha : a < 2 ^ 31 := by omega) (hb : b < 2 ^ 31 := by omega) : b ≤ a := by subst hx; subst hy; exact iNLT h ha hb
theorem jEQ {x y : Int32} {a b : Nat} (h : x = y) (hx : x = nI a := by first | rfl | assumption) (hy : y = nI b := by first | rfl | assumption) (ha : a < 2 ^ 31 := by omega) (hb : b < 2 ^ 31 := by omega) : a = b := by subst hx; subst hy; exact iEQ h ha hb
theorem jNE {x y : Int32} {a b : Nat} (h : ¬ x = y) (hx : x = nI a := by first | rfl | assumption) (hy : y = nI b := by first | rfl | assumption) : a ≠ b := by subst hx; subst hy; exact iNE h
theorem jZ {x : Int32} {a : Nat} (h : x = 0) (hx : x = nI a := by first | rfl | assumption) (ha : a < 2 ^ 31 := by omega) : a = 0 := by subst hx; exact iZ h ha
theorem jNZ {x : Int32} {a : Nat} (h : ¬ x = 0) (hx : x = nI a := by first | rfl | assumption) : a ≠ 0 := by subst hx; exact iNZ h
theorem nI1 (j : Nat) : nI (j + 1) = nI j + nI 1 := (nI_add j 1).symm
theorem and31 {n : Nat} (h : n < 2 ^ 32) : nI n &&& nI 31 = nI (n % 32) := pk_andN h 5 (by decide +kernel)
theorem letC {name k : Nat} (hk : k < 6) (hn : name < 2 ^ 30) : (nI name >>> ((nI 5 * (nI 5 - nI k)) &&& 31)) &&& nI 31 = nI (letN name k) := by
  have key : ∀ s, (((nI 5 * (nI 5 - nI k)) &&& 31).toBitVec.smod 32).toNat = s → s = 25 - 5 * k → (nI name >>> ((nI 5 * (nI 5 - nI k)) &&& 31)) &&& nI 31 = nI (letN name k) := by
    intro s hs he
    rw [pk_shrN (by omega) _ s hs, and31 (by have := Nat.div_le_self name (2 ^ s); omega), he]
    rfl
  have : k = 0 ∨ k = 1 ∨ k = 2 ∨ k = 3 ∨ k = 4 ∨ k = 5 := by omega
  rcases this with rfl | rfl | rfl | rfl | rfl | rfl <;> exact key _ (by decide +kernel) rfl
theorem letM {name k : Nat} (hk : k < 6) (hn : name < 2 ^ 30) : (nI name >>> ((nI 25 - nI 5 * nI k) &&& 31)) &&& nI 31 = nI (letN name k) := by
  have key : ∀ s, (((nI 25 - nI 5 * nI k) &&& 31).toBitVec.smod 32).toNat = s → s = 25 - 5 * k → (nI name >>> ((nI 25 - nI 5 * nI k) &&& 31)) &&& nI 31 = nI (letN name k) := by
    intro s hs he
    rw [pk_shrN (by omega) _ s hs, and31 (by have := Nat.div_le_self name (2 ^ s); omega), he]
    rfl
  have : k = 0 ∨ k = 1 ∨ k = 2 ∨ k = 3 ∨ k = 4 ∨ k = 5 := by omega
  rcases this with rfl | rfl | rfl | rfl | rfl | rfl <;> exact key _ (by decide +kernel) rfl
section
variable {d : Nat} {Q : Option Value → Mm → Prop} {T S : Nat → Nat → Nat} {mi : Nat → Nat → Int32} {ml : Nat → Nat → Int64} {rd : Option Nat}
theorem s_letterAt {name k : Nat} (hk : k < 6) (hn : name < 2 ^ 30) (hQ : Q (some (.int (nI (letN name k)))) (mi, ml, R0 rd, 136)) : Cd (d + 1) k_Hay_letterAt [.int (nI name), .int (nI k)] (mi, ml, R0 rd, 136) Q := by
  refine r_Hay_letterAt (by decide) (fun K Kl hK hC => ?_)
  refine ⟨fun h => (iNN h).elim, fun h => ⟨fun h2 => ?_, fun h2 => absurd (iNLT h2) (by omega)⟩⟩
  rw [← letC hk hn] at hQ
  exact ⟨rfl, hQ⟩
/-- the class's search for a name -/
theorem s_indexOf {c L m : Nat} {x : Int32} (hc : (c = 7 ∧ L = 5) ∨ (c = 17 ∧ L = 6) ∨ (c = 21 ∧ L = 3) ∨ (c = 27 ∧ L = 4) ∨ (c = 29 ∧ L = 5) ∨ (c = 15 ∧ L = 9) ∨ (c = 38 ∧ L = 5) ∨ (c = 48 ∧ L = 6) ∨ (c = 52 ∧ L = 3) ∨ (c = 58 ∧ L = 4) ∨ (c = 60 ∧ L = 5) ∨ (c = 46 ∧ L = 9)) (hm : m ≤ L)
    (hit : ∀ j, j < m → mi c j = x → (∀ i, i < j → mi c i ≠ x) → Q (some (.int (nI j))) (mi, ml, R0 rd, 136)) (none : (∀ i, i < m → mi c i ≠ x) → Q (some (.int (-1))) (mi, ml, R0 rd, 136)) : Cd (d + 1) k_Hay_indexOf [.ref c, .int (nI m), .int x] (mi, ml, R0 rd, 136) Q := by
  have lp : ∀ j, j ≤ m → (∀ i, i < j → mi c i ≠ x) → GoM d k_Hay_indexOf 136 Q 2 [.ref c, .int (nI m), .int x, .int (nI j)] [] (mi, ml, R0 rd, 136) := by
    refine upto ?_ ?_
    · intro hb
      refine g_Hay_indexOf (fun K Kl hK hC => ?_)
      exact ⟨fun h => ⟨rfl, none hb⟩, fun h => absurd (iNLE h (by omega) (by omega)) (by omega)⟩
    · intro j hj ih hb
      refine g_Hay_indexOf ?_
      rcases hc with ⟨rfl, rfl⟩ | ⟨rfl, rfl⟩ | ⟨rfl, rfl⟩ | ⟨rfl, rfl⟩ | ⟨rfl, rfl⟩ | ⟨rfl, rfl⟩ | ⟨rfl, rfl⟩ | ⟨rfl, rfl⟩ | ⟨rfl, rfl⟩ | ⟨rfl, rfl⟩ | ⟨rfl, rfl⟩ | ⟨rfl, rfl⟩
      all_goals
        intro K Kl hK hC
        refine ⟨fun h => absurd (iLE h) (by omega), fun h => ⟨fun h2 => absurd (iLE h2) (by omega), fun h2 => ⟨j, by omega, rfl, fun h3 => ?_, fun h3 => ⟨rfl, hit j hj h3 hb⟩⟩⟩⟩
        have ih := ih (lt_s hb h3)
        rw [nI1] at ih
        exact hK _ _ _ _ ih
  refine r_Hay_indexOf (by decide) (fun K Kl hK hC => ?_)
  exact hK _ _ _ _ (lp 0 (Nat.zero_le _) lt_0)
/-- the reference's search for a name -/
theorem s_Mod_find {c L a m : Nat} {x : Int32} (hc : (c = 100 ∧ L = 10) ∨ (c = 104 ∧ L = 18) ∨ (c = 105 ∧ L = 18) ∨ (c = 106 ∧ L = 12) ∨ (c = 108 ∧ L = 6) ∨ (c = 110 ∧ L = 8) ∨ (c = 112 ∧ L = 10)) (hm : a + m ≤ L)
    (hit : ∀ j, j < m → mi c (a + j) = x → (∀ i, i < j → mi c (a + i) ≠ x) → Q (some (.int (nI j))) (mi, ml, R0 rd, 136)) (none : (∀ i, i < m → mi c (a + i) ≠ x) → Q (some (.int (-1))) (mi, ml, R0 rd, 136)) : Cd (d + 1) k_Mod_find [.ref c, .int (nI a), .int (nI m), .int x] (mi, ml, R0 rd, 136) Q := by
  have lp : ∀ j, j ≤ m → (∀ i, i < j → mi c (a + i) ≠ x) → GoM d k_Mod_find 136 Q 3 [.ref c, .int (nI a), .int (nI m), .int x, .int (nI j)] [] (mi, ml, R0 rd, 136) := by
    refine upto ?_ ?_
    · intro hb
      refine g_Mod_find (fun K Kl hK hC => ?_)
      exact ⟨fun h => ⟨rfl, none hb⟩, fun h => absurd (iNLE h (by omega) (by omega)) (by omega)⟩
    · intro j hj ih hb
      refine g_Mod_find ?_
      rcases hc with ⟨rfl, rfl⟩ | ⟨rfl, rfl⟩ | ⟨rfl, rfl⟩ | ⟨rfl, rfl⟩ | ⟨rfl, rfl⟩ | ⟨rfl, rfl⟩ | ⟨rfl, rfl⟩
      all_goals
        intro K Kl hK hC
        refine ⟨fun h => absurd (iLE h) (by omega), fun h => ⟨a + j, by omega, nI_add a j, fun h3 => ?_, fun h3 => ⟨rfl, hit j hj h3 hb⟩⟩⟩
        have ih := ih (lt_s hb h3)
        rw [nI1] at ih
        exact hK _ _ _ _ ih
  refine r_Mod_find (by decide) (fun K Kl hK hC => ?_)
  exact hK _ _ _ _ (lp 0 (Nat.zero_le _) lt_0)
theorem s_Mod_letterOf {name k : Nat} (hk : k < 6) (hn : name < 2 ^ 30) (hQ : Q (some (.int (nI (letN name k)))) (mi, ml, R0 rd, 136)) : Cd (d + 1) k_Mod_letterOf [.int (nI name), .int (nI k)] (mi, ml, R0 rd, 136) Q := by
  refine r_Mod_letterOf (by decide) (fun K Kl hK hC => ?_)
  rw [← letM hk hn] at hQ
  exact ⟨rfl, hQ⟩
theorem s_Mod_longOf {name : Nat} (hn : name < 2 ^ 30) (hQ : Q (some (.int (nI (lenN name)))) (mi, ml, R0 rd, 136)) : Cd (d + 2) k_Mod_longOf [.int (nI name)] (mi, ml, R0 rd, 136) Q := by
  have lp : ∀ j, j ≤ 6 → (∀ i, i < j → letN name i ≠ 0) → GoM (d + 1) k_Mod_longOf 136 Q 2 [.int (nI name), .int (nI j)] [] (mi, ml, R0 rd, 136) := by
    refine upto ?_ ?_
    · intro hb
      refine g_Mod_longOf (fun K Kl hK hC => ?_)
      have : lenN name = 6 := fnd_none (fun i hi => by simp [hb i hi])
      rw [this] at hQ
      exact ⟨fun h => ⟨rfl, hQ⟩, fun h => absurd (iNLE h) (by omega)⟩
    · intro j hj ih hb
      refine g_Mod_longOf (fun K Kl hK hC => ?_)
      refine ⟨fun h => absurd (iLE h) (by omega), fun h => ?_⟩
      refine hC _ _ _ _ (s_Mod_letterOf hj hn ?_)
      have hlt := letN_lt name j
      refine ⟨fun h2 => ⟨rfl, ?_⟩, fun h2 => ?_⟩
      · have hz : letN name j = 0 := by
          have h2 : nI (letN name j) ≤ nI 0 := h2
          have := iLE h2
          omega
        have : lenN name = j := fnd_at hj (by simp [hz]) (fun i hi => by simp [hb i hi])
        rw [this] at hQ
        exact hQ
      · have hz : letN name j ≠ 0 := fun z => h2 (by rw [z]; decide)
        have ih := ih (lt_s hb hz)
        rw [nI1] at ih
        exact hK _ _ _ _ ih
  refine r_Mod_longOf (by decide) (fun K Kl hK hC => ?_)
  exact hK _ _ _ _ (lp 0 (Nat.zero_le _) lt_0)
/-- nine bits counted -/
theorem bitM {s k : Nat} (hs : s < 2 ^ 31) (hk : k < 31) : (nI s >>> (nI k &&& 31)) &&& nI 1 = nI (s / 2 ^ k % 2) := by
  have hsh : ((nI k &&& 31).toBitVec.smod 32).toNat = k := by
    have : ∀ k, k < 31 → ((nI k &&& 31).toBitVec.smod 32).toNat = k := by decide +kernel
    exact this k hk
  rw [pk_shrN hs _ k hsh, pk_andN (by have := Nat.div_le_self s (2 ^ k); omega) 1 (by decide +kernel)]
theorem s_Mod_manyOf {s : Nat} (hs : s < 2 ^ 31) (hQ : Q (some (.int (nI (bcN s)))) (mi, ml, R0 rd, 136)) : Cd (d + 1) k_Mod_manyOf [.int (nI s)] (mi, ml, R0 rd, 136) Q := by
  have lp : ∀ j, j ≤ 9 → GoM d k_Mod_manyOf 136 Q 4 [.int (nI s), .int (nI (sumN (fun k => s / 2 ^ k % 2) j)), .int (nI j)] [] (mi, ml, R0 rd, 136) := by
    refine upto ?_ ?_
    · refine g_Mod_manyOf (fun K Kl hK hC => ?_)
      exact ⟨fun h => ⟨rfl, hQ⟩, fun h => absurd (iNLE h) (by omega)⟩
    · intro j hj ih
      refine g_Mod_manyOf (fun K Kl hK hC => ?_)
      refine ⟨fun h => absurd (iLE h) (by omega), fun h => ?_⟩
      rw [nI1, sumN, ← nI_add, ← bitM hs (by omega)] at ih
      exact hK _ _ _ _ ih
  refine r_Mod_manyOf (by decide) (fun K Kl hK hC => ?_)
  exact hK _ _ _ _ (lp 0 (Nat.zero_le _))
end
