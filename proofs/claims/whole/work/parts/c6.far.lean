/-! NEWS: how far it is (pure) -/
/-- no link carries further -/
def staN (T : Nat → Nat → Nat) (s : Nat → Nat) : Prop := ∀ l, l < T 0 8 → s (T 16 (3 * l)) ≤ s (T 16 (3 * l + 1)) + T 16 (3 * l + 2) ∧ s (T 16 (3 * l + 1)) ≤ s (T 16 (3 * l)) + T 16 (3 * l + 2)
def rxN (a b c : Nat) (s : Nat → Nat) : Nat → Nat := updN (updN s a (min (s a) (s b + c))) b (min (updN s a (min (s a) (s b + c)) b) (updN s a (min (s a) (s b + c)) a + c))
theorem rlx_rx (T : Nat → Nat → Nat) (s : Nat → Nat) (l : Nat) : rlxN T s l = rxN (T 16 (3 * l)) (T 16 (3 * l + 1)) (T 16 (3 * l + 2)) s := rfl
section
variable {a b c : Nat} {s F : Nat → Nat}
theorem r1_lo (h1 : F a ≤ F b + c) (hs : ∀ i, F i ≤ s i) (i : Nat) : F i ≤ updN s a (min (s a) (s b + c)) i := by
  unfold updN
  have ha := hs a
  have hb := hs b
  split
  · rename_i e; rw [e]; omega
  · exact hs i
theorem r1_le (i : Nat) : updN s a (min (s a) (s b + c)) i ≤ s i := by
  unfold updN
  split
  · rename_i e; rw [e]; omega
  · exact Nat.le_refl _
theorem updN_s (k x : Nat) : updN s k x k = x := by unfold updN; rw [if_pos rfl]
theorem rx_lo (h1 : F a ≤ F b + c) (h2 : F b ≤ F a + c) (hs : ∀ i, F i ≤ s i) (i : Nat) : F i ≤ rxN a b c s i := r1_lo h2 (r1_lo h1 hs) i
theorem rx_le (i : Nat) : rxN a b c s i ≤ s i := Nat.le_trans (r1_le i) (r1_le i)
theorem rx_a : rxN a b c s a ≤ s b + c := by
  refine Nat.le_trans (r1_le a) ?_
  rw [updN_s]
  omega
theorem rx_b : rxN a b c s b ≤ s a + c := by
  unfold rxN
  rw [updN_s]
  have : updN s a (min (s a) (s b + c)) a ≤ s a := r1_le a
  omega
theorem r1_gap {M K : Nat} (hc : c ≤ 20) (hs : ∀ i, s i ≤ M ∨ s i = K) (i : Nat) : updN s a (min (s a) (s b + c)) i ≤ M + 20 ∨ updN s a (min (s a) (s b + c)) i = K := by
  unfold updN
  have ha := hs a
  have hb := hs b
  have hi := hs i
  split <;> omega
theorem rx_gap {M K : Nat} (hc : c ≤ 20) (hs : ∀ i, s i ≤ M ∨ s i = K) (i : Nat) : rxN a b c s i ≤ M + 40 ∨ rxN a b c s i = K := r1_gap hc (r1_gap hc hs) i
end
section
variable {T : Nat → Nat → Nat} {s F : Nat → Nat}
theorem rl1_lo (hF : staN T F) (hs : ∀ i, F i ≤ s i) : ∀ n, n ≤ T 0 8 → ∀ i, F i ≤ rl1N T s n i
  | 0, _, i => hs i
  | n + 1, hn, i => rx_lo (hF n (by omega)).1 (hF n (by omega)).2 (rl1_lo hF hs n (by omega)) i
theorem rl1_le : ∀ n i, rl1N T s n i ≤ s i
  | 0, i => Nat.le_refl _
  | n + 1, i => Nat.le_trans (rx_le i) (rl1_le n i)
theorem rl1_lk {l : Nat} : ∀ n, l < n → rl1N T s n (T 16 (3 * l)) ≤ s (T 16 (3 * l + 1)) + T 16 (3 * l + 2) ∧ rl1N T s n (T 16 (3 * l + 1)) ≤ s (T 16 (3 * l)) + T 16 (3 * l + 2)
  | n + 1, hl => by
    by_cases e : l = n
    · subst e
      have h1 : rl1N T s (l + 1) (T 16 (3 * l)) ≤ rl1N T s l (T 16 (3 * l + 1)) + T 16 (3 * l + 2) := rx_a
      have h2 : rl1N T s (l + 1) (T 16 (3 * l + 1)) ≤ rl1N T s l (T 16 (3 * l)) + T 16 (3 * l + 2) := rx_b
      have h3 := rl1_le (T := T) (s := s) l (T 16 (3 * l + 1))
      have h4 := rl1_le (T := T) (s := s) l (T 16 (3 * l))
      omega
    · have ih := rl1_lk (l := l) n (by omega)
      have h1 : rl1N T s (n + 1) (T 16 (3 * l)) ≤ rl1N T s n (T 16 (3 * l)) := rx_le _
      have h2 : rl1N T s (n + 1) (T 16 (3 * l + 1)) ≤ rl1N T s n (T 16 (3 * l + 1)) := rx_le _
      omega
theorem spr_lo (hF : staN T F) (hs : ∀ i, F i ≤ s i) : ∀ r i, F i ≤ sprN T s r i
  | 0, i => hs i
  | r + 1, i => rl1_lo hF (spr_lo hF hs r) _ (Nat.le_refl _) i
theorem spr_le : ∀ r i, sprN T s r i ≤ s i
  | 0, i => Nat.le_refl _
  | r + 1, i => Nat.le_trans (rl1_le _ i) (spr_le r i)
theorem spr_add (p : Nat) : ∀ q, sprN T s (p + q) = sprN T (sprN T s p) q
  | 0 => rfl
  | q + 1 => by
    show rl1N T (sprN T s (p + q)) (T 0 8) = rl1N T (sprN T (sprN T s p) q) (T 0 8)
    rw [spr_add p q]
theorem sta_more {p : Nat} (h : staN T (sprN T s p)) (q : Nat) : staN T (sprN T s (p + q)) := by
  have e : sprN T s (p + q) = sprN T s p := by
    rw [spr_add]
    funext i
    exact Nat.le_antisymm (spr_le q i) (spr_lo h (fun _ => Nat.le_refl _) q i)
  rw [e]
  exact h
/-- the shortest link between two hills -/
def eN (T : Nat → Nat → Nat) (i j : Nat) : Nat → Nat
  | 0 => 1000000
  | n + 1 => if (T 16 (3 * n) = i ∧ T 16 (3 * n + 1) = j) ∨ (T 16 (3 * n) = j ∧ T 16 (3 * n + 1) = i) then min (eN T i j n) (T 16 (3 * n + 2)) else eN T i j n
theorem eN_le {i j l : Nat} (hm : (T 16 (3 * l) = i ∧ T 16 (3 * l + 1) = j) ∨ (T 16 (3 * l) = j ∧ T 16 (3 * l + 1) = i)) : ∀ n, l < n → eN T i j n ≤ T 16 (3 * l + 2)
  | n + 1, hl => by
    unfold eN
    by_cases e : l = n
    · subst e
      rw [if_pos hm]
      omega
    · have ih := eN_le hm n (by omega)
      split <;> omega
theorem eN_or {i j : Nat} : ∀ n, eN T i j n = 1000000 ∨ ∃ l, l < n ∧ ((T 16 (3 * l) = i ∧ T 16 (3 * l + 1) = j) ∨ (T 16 (3 * l) = j ∧ T 16 (3 * l + 1) = i)) ∧ eN T i j n = T 16 (3 * l + 2)
  | 0 => Or.inl rfl
  | n + 1 => by
    have ih := eN_or (i := i) (j := j) n
    unfold eN
    split
    · rename_i hm
      rcases Nat.lt_or_ge (eN T i j n) (T 16 (3 * n + 2)) with z | z
      · rw [Nat.min_eq_left (by omega)]
        rcases ih with h | ⟨l, hl, h⟩
        · exact Or.inl h
        · exact Or.inr ⟨l, by omega, h⟩
      · rw [Nat.min_eq_right z]
        exact Or.inr ⟨n, by omega, hm, rfl⟩
    · rcases ih with h | ⟨l, hl, h⟩
      · exact Or.inl h
      · exact Or.inr ⟨l, by omega, h⟩
def cfN (x y z a b c : Nat) : Nat := min x (min (y + a) (min (z + b) (min (y + c + b) (z + c + a))))
theorem cf_tri (x y z a b c : Nat) : cfN x y z a b c ≤ cfN y x z a c b + a := by
  unfold cfN
  omega
theorem cf_sw (x y z a b c : Nat) : cfN x y z a b c = cfN x z y b a c := by
  unfold cfN
  omega
def cF (T : Nat → Nat → Nat) (s : Nat → Nat) : Nat → Nat := fun i => if i = 0 then cfN (s 0) (s 1) (s 2) (eN T 0 1 (T 0 8)) (eN T 0 2 (T 0 8)) (eN T 1 2 (T 0 8)) else if i = 1 then cfN (s 1) (s 0) (s 2) (eN T 0 1 (T 0 8)) (eN T 1 2 (T 0 8)) (eN T 0 2 (T 0 8)) else if i = 2 then cfN (s 2) (s 0) (s 1) (eN T 0 2 (T 0 8)) (eN T 1 2 (T 0 8)) (eN T 0 1 (T 0 8)) else s i
theorem cF_tri {i j : Nat} (hi : i < 3) (hj : j < 3) {l : Nat} (hl : l < T 0 8) (hm : (T 16 (3 * l) = i ∧ T 16 (3 * l + 1) = j) ∨ (T 16 (3 * l) = j ∧ T 16 (3 * l + 1) = i)) : cF T s i ≤ cF T s j + T 16 (3 * l + 2) := by
  by_cases e : i = j
  · rw [e]; omega
  have h01 := cf_tri (s 0) (s 1) (s 2) (eN T 0 1 (T 0 8)) (eN T 0 2 (T 0 8)) (eN T 1 2 (T 0 8))
  have h10 := cf_tri (s 1) (s 0) (s 2) (eN T 0 1 (T 0 8)) (eN T 1 2 (T 0 8)) (eN T 0 2 (T 0 8))
  have h02 := cf_tri (s 0) (s 2) (s 1) (eN T 0 2 (T 0 8)) (eN T 0 1 (T 0 8)) (eN T 1 2 (T 0 8))
  have h20 := cf_tri (s 2) (s 0) (s 1) (eN T 0 2 (T 0 8)) (eN T 1 2 (T 0 8)) (eN T 0 1 (T 0 8))
  have h12 := cf_tri (s 1) (s 2) (s 0) (eN T 1 2 (T 0 8)) (eN T 0 1 (T 0 8)) (eN T 0 2 (T 0 8))
  have h21 := cf_tri (s 2) (s 1) (s 0) (eN T 1 2 (T 0 8)) (eN T 0 2 (T 0 8)) (eN T 0 1 (T 0 8))
  have s0 := cf_sw (s 0) (s 1) (s 2) (eN T 0 1 (T 0 8)) (eN T 0 2 (T 0 8)) (eN T 1 2 (T 0 8))
  have s1 := cf_sw (s 1) (s 0) (s 2) (eN T 0 1 (T 0 8)) (eN T 1 2 (T 0 8)) (eN T 0 2 (T 0 8))
  have s2 := cf_sw (s 2) (s 0) (s 1) (eN T 0 2 (T 0 8)) (eN T 1 2 (T 0 8)) (eN T 0 1 (T 0 8))
  have c0 : cF T s 0 = cfN (s 0) (s 1) (s 2) (eN T 0 1 (T 0 8)) (eN T 0 2 (T 0 8)) (eN T 1 2 (T 0 8)) := rfl
  have c1 : cF T s 1 = cfN (s 1) (s 0) (s 2) (eN T 0 1 (T 0 8)) (eN T 1 2 (T 0 8)) (eN T 0 2 (T 0 8)) := rfl
  have c2 : cF T s 2 = cfN (s 2) (s 0) (s 1) (eN T 0 2 (T 0 8)) (eN T 1 2 (T 0 8)) (eN T 0 1 (T 0 8)) := rfl
  have : (i = 0 ∧ j = 1) ∨ (i = 1 ∧ j = 0) ∨ (i = 0 ∧ j = 2) ∨ (i = 2 ∧ j = 0) ∨ (i = 1 ∧ j = 2) ∨ (i = 2 ∧ j = 1) := by omega
  rcases this with ⟨rfl, rfl⟩ | ⟨rfl, rfl⟩ | ⟨rfl, rfl⟩ | ⟨rfl, rfl⟩ | ⟨rfl, rfl⟩ | ⟨rfl, rfl⟩
  · have := eN_le (i := 0) (j := 1) hm (T 0 8) hl; omega
  · have := eN_le (i := 0) (j := 1) hm.symm (T 0 8) hl; omega
  · have := eN_le (i := 0) (j := 2) hm (T 0 8) hl; omega
  · have := eN_le (i := 0) (j := 2) hm.symm (T 0 8) hl; omega
  · have := eN_le (i := 1) (j := 2) hm (T 0 8) hl; omega
  · have := eN_le (i := 1) (j := 2) hm.symm (T 0 8) hl; omega
theorem cF_le (i : Nat) : cF T s i ≤ s i := by
  unfold cF cfN
  split
  · rename_i e; rw [e]; omega
  · split
    · rename_i e; rw [e]; omega
    · split
      · rename_i e; rw [e]; omega
      · exact Nat.le_refl _
theorem rl_e {i j : Nat} (hB : ∀ i, s i ≤ 1000000) : rl1N T s (T 0 8) i ≤ s j + eN T i j (T 0 8) ∧ rl1N T s (T 0 8) j ≤ s i + eN T i j (T 0 8) := by
  rcases eN_or (T := T) (i := i) (j := j) (T 0 8) with h | ⟨l, hl, hm, h⟩
  · have h1 := rl1_le (T := T) (s := s) (T 0 8) i
    have h2 := rl1_le (T := T) (s := s) (T 0 8) j
    have h3 := hB i
    have h4 := hB j
    omega
  · have := rl1_lk (T := T) (s := s) (l := l) (T 0 8) hl
    rw [h]
    rcases hm with ⟨e1, e2⟩ | ⟨e1, e2⟩
    · rw [e1, e2] at this; omega
    · rw [e1, e2] at this; omega
theorem sta2 (hE : ∀ l, l < T 0 8 → T 16 (3 * l) < 3 ∧ T 16 (3 * l + 1) < 3) (hB : ∀ i, s i ≤ 1000000) : staN T (sprN T s 2) := by
  have hF : staN T (cF T s) := fun l hl => ⟨cF_tri (hE l hl).1 (hE l hl).2 hl (Or.inl ⟨rfl, rfl⟩), cF_tri (hE l hl).2 (hE l hl).1 hl (Or.inr ⟨rfl, rfl⟩)⟩
  have lo := spr_lo hF cF_le 2
  have hB1 : ∀ i, sprN T s 1 i ≤ 1000000 := fun i => Nat.le_trans (spr_le 1 i) (hB i)
  have up : ∀ i, i < 3 → sprN T s 2 i = cF T s i := by
    intro i hi
    refine Nat.le_antisymm ?_ (lo i)
    have e1 : ∀ i, sprN T s 1 i = rl1N T s (T 0 8) i := fun _ => rfl
    have e2 : ∀ i, sprN T s 2 i = rl1N T (sprN T s 1) (T 0 8) i := fun _ => rfl
    have a01 := rl_e (T := T) (s := s) (i := 0) (j := 1) hB
    have a02 := rl_e (T := T) (s := s) (i := 0) (j := 2) hB
    have a12 := rl_e (T := T) (s := s) (i := 1) (j := 2) hB
    have b01 := rl_e (T := T) (s := sprN T s 1) (i := 0) (j := 1) hB1
    have b02 := rl_e (T := T) (s := sprN T s 1) (i := 0) (j := 2) hB1
    have b12 := rl_e (T := T) (s := sprN T s 1) (i := 1) (j := 2) hB1
    rw [← e1, ← e1] at a01 a02 a12
    rw [← e2, ← e2] at b01 b02 b12
    have d0 := spr_le (T := T) (s := s) 1 0
    have d1 := spr_le (T := T) (s := s) 1 1
    have d2 := spr_le (T := T) (s := s) 1 2
    have f0 := spr_le (T := T) (s := s) 2 0
    have f1 := spr_le (T := T) (s := s) 2 1
    have f2 := spr_le (T := T) (s := s) 2 2
    have : i = 0 ∨ i = 1 ∨ i = 2 := by omega
    rcases this with rfl | rfl | rfl
    · show _ ≤ cfN _ _ _ _ _ _
      unfold cfN
      omega
    · show _ ≤ cfN _ _ _ _ _ _
      unfold cfN
      omega
    · show _ ≤ cfN _ _ _ _ _ _
      unfold cfN
      omega
  intro l hl
  have := hF l hl
  rw [← up _ (hE l hl).1, ← up _ (hE l hl).2] at this
  exact this
theorem staA (hw : wfT T) (hB : ∀ i, s i ≤ 1000000) : staN T (sprN T s (T 0 8)) := by
  have h3 := hw.hl3
  have hE : ∀ l, l < T 0 8 → T 16 (3 * l) < 3 ∧ T 16 (3 * l + 1) < 3 := fun l hl => by have := hw.lk l hl; omega
  have : T 0 8 = 0 ∨ T 0 8 = 1 ∨ 2 ≤ T 0 8 := by omega
  rcases this with h | h | h
  · intro l hl; omega
  · intro l hl
    have e : l = 0 := by omega
    subst e
    have h1 : sprN T s (T 0 8) = rlxN T s 0 := by
      rw [h]
      show rl1N T s (T 0 8) = _
      rw [h]
      rfl
    rw [h1, rlx_rx]
    generalize T 16 (3 * 0) = a
    generalize T 16 (3 * 0 + 1) = b
    generalize T 16 (3 * 0 + 2) = c
    unfold rxN updN
    by_cases e : a = b
    · subst e
      simp only [if_true]
      omega
    · rw [if_pos rfl, if_neg e, if_pos rfl, if_neg (fun z => e z.symm)]
      omega
  · obtain ⟨q, hq⟩ : ∃ q, T 0 8 = 2 + q := ⟨T 0 8 - 2, by omega⟩
    have := sta_more (sta2 (s := s) hE hB) q
    rw [← hq] at this
    exact this
end
