/-! WHAT THE REFERENCE ANSWERS: wants, meant, apart -/
theorem digQ : ∀ n a b : Nat, a < 4 ^ n → b < 4 ^ n → (∀ i, i < n → a / 4 ^ i % 4 = b / 4 ^ i % 4) → a = b
  | 0, a, b, ha, hb, _ => by
    rw [Nat.pow_zero] at ha hb
    omega
  | n + 1, a, b, ha, hb, h => by
    rw [Nat.pow_succ] at ha hb
    have h0 := h 0 (by omega)
    rw [Nat.pow_zero, Nat.div_one, Nat.div_one] at h0
    have := digQ n (a / 4) (b / 4) (by omega) (by omega) (fun i hi => by
      have := h (i + 1) (by omega)
      rw [Nat.pow_succ, Nat.mul_comm, ← Nat.div_div_eq_div_mul, ← Nat.div_div_eq_div_mul] at this
      exact this)
    omega
theorem shZ {s k : Nat} (hs : s < 2 ^ 31) (hk : k < 31) : nI s >>> (nI k &&& 31) = nI (s / 2 ^ k) := by
  have hsh : ((nI k &&& 31).toBitVec.smod 32).toNat = k := by
    have : ∀ k, k < 31 → ((nI k &&& 31).toBitVec.smod 32).toNat = k := by decide +kernel
    exact this k hk
  rw [pk_shrN hs _ k hsh]
theorem digM : ∀ n, n < 5 → ∀ i, i < n → ∀ r, r < 256 → r % 4 ^ n / 4 ^ i % 4 = r / 4 ^ i % 4 := by decide +kernel
theorem orF : ∀ i, i < 4 → ∀ a, a < 4 ^ i → ∀ c, c < 4 → nI a ||| (nI c <<< ((nI 2 * nI i) &&& 31)) = nI (a + c * 4 ^ i) := by decide +kernel
theorem sumM {a : Nat → Nat} {n : Nat} (ha : ∀ k, k < n → a k < 4) : ∀ q, sumN (fun k => a k * 4 ^ k) (n + q) % 4 ^ n = sumN (fun k => a k * 4 ^ k) n
  | 0 => Nat.mod_eq_of_lt (dig4 n ha).1
  | q + 1 => by
    rw [show sumN (fun k => a k * 4 ^ k) (n + (q + 1)) = sumN (fun k => a k * 4 ^ k) (n + q) + a (n + q) * 4 ^ (n + q) from rfl, Nat.pow_add, Nat.mul_comm (a (n + q)), Nat.mul_assoc, Nat.add_mul_mod_self_left]
    exact sumM ha q
theorem rowQ {T : Nat → Nat → Nat} (hw : wfT T) {s n x : Nat} (hs : s < T 0 7) (hn : n ≤ T 14 s) (hx : x < 4 ^ n) : rowN T s % 4 ^ n = x ↔ ∀ i, i < n → T 15 (4 * s + i) = x / 4 ^ i % 4 := by
  have h := rowN_dig hw hs
  have hl := hw.sl s hs
  constructor
  · intro e i hi
    rw [← e, digM n (by omega) i hi _ h.1, h.2 i (by omega)]
  · intro e
    refine digQ n _ _ (Nat.mod_lt _ (Nat.pow_pos (by decide))) hx (fun i hi => ?_)
    rw [digM n (by omega) i hi _ h.1, h.2 i (by omega), e i hi]
section
variable {d : Nat} {Q : Option Value → Mm → Prop} {A : St} {T S : Nat → Nat → Nat} {mi : Nat → Nat → Int32} {ml : Nat → Nat → Int64} {rd : Option Nat} {x y z : Int32}
set_option maxHeartbeats 1000000 in
theorem q_wants (hA : MI A mi ml) (hw : wfA A) (hQ : ∀ mi' ml', MF mi mi' → ML ml ml' → Q (some (.int (aWants A x))) (mi', ml', R0 rd, 136)) : Cd (d + 3) k_Mod_wants [.ref 95, .int x] (mi, ml, R0 rd, 136) Q := by
  have hQ := hQ _ ml thr0 ML.none
  have hA1 := hA.mf thr0 ML.none
  have h5 := hw.T.sg5
  have h4 := hw.T.co4
  have es : mi 95 19 = nI (A 0 0 7) := hA.T.signs
  have ec : mi 95 18 = nI (A 0 0 6) := hA.T.colours
  have hp := pow6 (A 0 0 7) (by omega)
  unfold aWants at hQ
  have lp : ∀ m, m < 64 → Q (some (.int (nI (misN (A 0) m)))) (cu mi 95 (upd (mi 95) 2 (nI 0)), ml, R0 rd, 136) → ∀ j, j ≤ A 0 0 6 → ∀ v, GoM (d + 2) k_Mod_wants 136 Q 24 [.ref 95, .int (nI m), .int (nI (sumN (fun c => ndN (A 0) m c - A 0 12 c) j)), .int (nI j), v] [] (cu mi 95 (upd (mi 95) 2 (nI 0)), ml, R0 rd, 136) := by
    intro m hm hQ
    refine upto ?_ ?_
    · intro v
      refine g_Mod_wants (fun K Kl hK hC => ⟨fun _ => ⟨rfl, hQ⟩, fun z => ?_⟩)
      have z : ¬ mi 95 18 ≤ nI (A 0 0 6) := z
      exact absurd (jNLE z) (by omega)
    · intro j hj ih v
      have hn := ndN_le hw.T m j
      have hcm := hw.T.cm j hj
      have em : mi 111 j = nI (A 0 12 j) := hA.T.cm j hj
      have ih := ih (.int (nI (ndN (A 0) m j) - mi 111 j))
      rw [nI1 j, sumN, ← nI_add] at ih
      refine g_Mod_wants (fun K Kl hK hC => ⟨fun z => ?_, fun _ => hC _ _ _ _ (t_usedOf hA1.T hw.T hm (by omega) ⟨j, by omega, rfl, fun z => ?_, fun z => ?_⟩)⟩)
      · have z : mi 95 18 ≤ nI j := z
        exact absurd (jLE z) (by omega)
      · have z : nI (ndN (A 0) m j) - mi 111 j ≤ 0 := z
        rw [em] at z
        rw [show ndN (A 0) m j - A 0 12 j = 0 by
          rcases Nat.lt_or_ge (A 0 12 j) (ndN (A 0) m j) with q | q
          · rw [pk_sub (by omega)] at z
            have := jLE (b := 0) z
            omega
          · omega] at ih
        exact hK _ _ _ _ ih
      · have z : ¬ nI (ndN (A 0) m j) - mi 111 j ≤ 0 := z
        have hlt : A 0 12 j < ndN (A 0) m j := by
          rw [em] at z
          rcases Nat.lt_or_ge (A 0 12 j) (ndN (A 0) m j) with q | q
          · exact q
          · rcases Nat.lt_or_ge (ndN (A 0) m j) (A 0 12 j) with q2 | q2
            · exact absurd (Int32.le_of_lt (pk_sneg (by omega) q2)) z
            · rw [show A 0 12 j = ndN (A 0) m j by omega, pk_sub (Nat.le_refl _), Nat.sub_self] at z
              exact absurd (by decide) z
        rw [← pk_sub (by omega), ← em] at ih
        exact hK _ _ _ _ ih
  refine r_Mod_wants (by decide) (fun K Kl hK hC => ⟨fun h => ⟨rfl, ?_⟩, fun h => ⟨fun h2 => ?_, fun h2 => ⟨rfl, ?_⟩⟩⟩)
  · rw [ixo_neg h] at hQ
    exact hQ
  · obtain ⟨m, hm, rfl⟩ := nI_of h
    have h2 : nI m >>> (mi 95 19 &&& 31) = 0 := h2
    rw [es, shZ hm (by omega)] at h2
    have h2 := iZ h2 (Nat.lt_of_le_of_lt (Nat.div_le_self _ _) hm)
    have h3 : m < 2 ^ A 0 0 7 := by
      rcases Nat.div_eq_zero_iff.mp h2 with q | q
      · exact absurd q (Nat.ne_of_gt (Nat.pow_pos (by decide)))
      · exact q
    rw [ixo_some h3] at hQ
    exact hK _ _ _ _ (lp m (by omega) hQ 0 (Nat.zero_le _) _)
  · obtain ⟨m, hm, rfl⟩ := nI_of h
    have h2 : ¬ nI m >>> (mi 95 19 &&& 31) = 0 := h2
    rw [es, shZ hm (by omega)] at h2
    rw [ixo_none (fun j hj e => by
      have := iEQ e
      exact h2 (by rw [Nat.div_eq_of_lt (by omega)]; decide))] at hQ
    exact hQ

theorem t_beginOf (hT : MT T mi) (hw : wfT T) {s n : Nat} (hs : s < T 0 7) (hn : n ≤ T 14 s) (hQ : Q (some (.int (nI (rowN T s % 4 ^ n)))) (mi, ml, R0 rd, 136)) : Cd (d + 1) k_Mod_beginOf [.ref 95, .int (nI s), .int (nI n)] (mi, ml, R0 rd, 136) Q := by
  have h5 := hw.sg5
  have h4 := hw.co4
  have hl := hw.sl s hs
  have hc : ∀ k, k < T 14 s → T 15 (4 * s + k) < 4 := fun k hk => by have := hw.sr s hs k hk; omega
  have er : rowN T s % 4 ^ n = sumN (fun k => T 15 (4 * s + k) * 4 ^ k) n := by
    obtain ⟨q, hq⟩ : ∃ q, T 14 s = n + q := ⟨T 14 s - n, by omega⟩
    unfold rowN
    rw [hq]
    exact sumM (a := fun k => T 15 (4 * s + k)) (fun k hk => hc k (by omega)) q
  rw [er] at hQ
  have lp : ∀ j, j ≤ n → GoM d k_Mod_beginOf 136 Q 5 [.ref 95, .int (nI s), .int (nI n), .int (nI (sumN (fun k => T 15 (4 * s + k) * 4 ^ k) j)), .int (nI j)] [] (mi, ml, R0 rd, 136) := by
    refine upto ?_ ?_
    · exact g_Mod_beginOf (fun K Kl hK hC => ⟨fun _ => ⟨rfl, hQ⟩, fun z => absurd (iNLE z) (by omega)⟩)
    · intro j hj ih
      have hr : mi 114 (4 * s + j) = nI (T 15 (4 * s + j)) := hT.sr s hs j (by omega)
      have hb := (dig4 (a := fun k => T 15 (4 * s + k)) j (fun k hk => hc k (by omega))).1
      rw [nI1 j, sumN, ← orF j (by omega) _ hb _ (hc j (by omega)), ← hr] at ih
      exact g_Mod_beginOf (fun K Kl hK hC => ⟨fun z => absurd (iLE z) (by omega), fun _ => ⟨4 * s + j, by omega, (show nI 4 * nI s + nI j = nI (4 * s + j) by rw [pk_mul]; exact nI_add _ _), hK _ _ _ _ ih⟩⟩)
  exact r_Mod_beginOf (by decide) (fun K Kl hK hC => hK _ _ _ _ (lp 0 (Nat.zero_le _)))
set_option maxHeartbeats 1000000 in
theorem t_meantBy (hT : MT T mi) (hw : wfT T) {n x : Nat} (hn : n < 5) (hx : x < 4 ^ n) (hQ : Q (some (.int (nI (mbN T n x)))) (mi, ml, R0 rd, 136)) : Cd (d + 1) k_Mod_meantBy [.ref 95, .int (nI n), .int (nI x)] (mi, ml, R0 rd, 136) Q := by
  have h5 := hw.sg5
  have h4 := hw.co4
  have e : mi 95 19 = nI (T 0 7) := hT.signs
  have hx2 : x < 256 := by have := (pow4 n hn).2; omega
  have one : ∀ j, j < T 0 7 → (∀ v5 v6, GoM d k_Mod_meantBy 136 Q 5 [.ref 95, .int (nI n), .int (nI x), .int (nI (mskN (fun s => decide (n ≤ T 14 s) && (rowN T s % 4 ^ n == x)) (j + 1))), .int (nI (j + 1)), v5, v6] [] (mi, ml, R0 rd, 136)) → ∀ ok, (ok = 1 ∧ n ≤ T 14 j) ∨ (ok = 0 ∧ ¬ n ≤ T 14 j) → GoM d k_Mod_meantBy 136 Q 35 [.ref 95, .int (nI n), .int (nI x), .int (nI (mskN (fun s => decide (n ≤ T 14 s) && (rowN T s % 4 ^ n == x)) j)), .int (nI j), .int (nI ok), .int (nI 0)] [] (mi, ml, R0 rd, 136) := by
    intro j hj ih ok hok
    have hl := hw.sl j hj
    have hlt := mskN_lt (fun s => decide (n ≤ T 14 s) && (rowN T s % 4 ^ n == x)) j
    rw [nI1 j, show mskN (fun s => decide (n ≤ T 14 s) && (rowN T s % 4 ^ n == x)) (j + 1) = mskN (fun s => decide (n ≤ T 14 s) && (rowN T s % 4 ^ n == x)) j + (if (decide (n ≤ T 14 j) && (rowN T j % 4 ^ n == x)) then 2 ^ j else 0) from rfl] at ih
    have no : (decide (n ≤ T 14 j) && (rowN T j % 4 ^ n == x)) = false → ∀ i, GoM d k_Mod_meantBy 136 Q 35 [.ref 95, .int (nI n), .int (nI x), .int (nI (mskN (fun s => decide (n ≤ T 14 s) && (rowN T s % 4 ^ n == x)) j)), .int (nI j), .int (nI 0), .int i] [] (mi, ml, R0 rd, 136) := by
      intro hno i
      have ih := ih (.int (nI 0)) (.int i)
      rw [if_neg (by rw [hno]; decide), Nat.add_zero] at ih
      have ih : GoM d k_Mod_meantBy 136 Q 5 [.ref 95, .int (nI n), .int (nI x), .int (nI (mskN (fun s => decide (n ≤ T 14 s) && (rowN T s % 4 ^ n == x)) j) ||| nI 0), .int (nI j + nI 1), .int (nI 0), .int i] [] (mi, ml, R0 rd, 136) := by
        rw [nI_0, Int32.or_zero]
        rw [nI_0] at ih
        exact ih
      exact g_Mod_meantBy (fun K Kl hK hC => ⟨fun _ => ⟨fun _ => hK _ _ _ _ ih, fun z => absurd (by decide) z⟩, fun _ => ⟨fun _ => ⟨fun _ => hK _ _ _ _ ih, fun z => absurd (by decide) z⟩, fun z => absurd (by decide) z⟩⟩)
    rcases hok with ⟨rfl, hle⟩ | ⟨rfl, hle⟩
    · have lp : ∀ i, i ≤ n → (∀ k, k < i → T 15 (4 * j + k) = x / 4 ^ k % 4) → GoM d k_Mod_meantBy 136 Q 35 [.ref 95, .int (nI n), .int (nI x), .int (nI (mskN (fun s => decide (n ≤ T 14 s) && (rowN T s % 4 ^ n == x)) j)), .int (nI j), .int (nI 1), .int (nI i)] [] (mi, ml, R0 rd, 136) := by
        refine upto ?_ ?_
        · intro hall
          have ih := ih (.int (nI 1)) (.int (nI n))
          rw [if_pos (by rw [decide_eq_true hle, (rowQ hw hj hle hx).mpr hall]; simp), ← orB j (by omega) _ hlt] at ih
          exact g_Mod_meantBy (fun K Kl hK hC => ⟨fun _ => ⟨fun z => absurd z (by decide), fun _ => hK _ _ _ _ ih⟩, fun z => absurd (iNLE z) (by omega)⟩)
        · intro i hi ih2 hall
          have hr : mi 114 (4 * j + i) = nI (T 15 (4 * j + i)) := hT.sr j hj i (by omega)
          have ht := hw.sr j hj i (by omega)
          have hd := rowD i (by omega) x hx2
          have hm4 : x / 4 ^ i % 4 < 4 := Nat.mod_lt _ (by decide)
          refine g_Mod_meantBy (fun K Kl hK hC => ⟨fun z => absurd (iLE z) (by omega), fun _ => ⟨fun z => absurd z (by decide), fun _ => ⟨4 * j + i, by omega, (show nI 4 * nI j + nI i = nI (4 * j + i) by rw [pk_mul]; exact nI_add _ _), fun z => ?_, fun z => ?_⟩⟩⟩)
          · have z : ¬ mi 114 (4 * j + i) = (nI x >>> ((nI 2 * nI i) &&& 31)) &&& nI 3 := z
            rw [hr, hd] at z
            have z := iNE z
            exact hK _ _ _ _ (no (by
              rw [Bool.and_eq_false_iff]
              refine Or.inr (beq_eq_false_iff_ne.mpr (fun q => z ?_))
              exact (rowQ hw hj hle hx).mp q i hi) _)
          · have z : mi 114 (4 * j + i) = (nI x >>> ((nI 2 * nI i) &&& 31)) &&& nI 3 := z
            rw [hr, hd] at z
            have ih2 := ih2 (lt_s hall (iEQ z))
            rw [nI1 i] at ih2
            exact hK _ _ _ _ ih2
      exact lp 0 (Nat.zero_le _) lt_0
    · exact no (by rw [decide_eq_false hle, Bool.false_and]) _
  have lp : ∀ j, j ≤ T 0 7 → ∀ v5 v6, GoM d k_Mod_meantBy 136 Q 5 [.ref 95, .int (nI n), .int (nI x), .int (nI (mskN (fun s => decide (n ≤ T 14 s) && (rowN T s % 4 ^ n == x)) j)), .int (nI j), v5, v6] [] (mi, ml, R0 rd, 136) := by
    refine upto ?_ ?_
    · intro v5 v6
      refine g_Mod_meantBy (fun K Kl hK hC => ⟨fun _ => ⟨rfl, hQ⟩, fun z => absurd (jNLE z) (by omega)⟩)
    · intro j hj ih v5 v6
      have hl := hw.sl j hj
      have el : mi 113 j = nI (T 14 j) := hT.sl j hj
      refine g_Mod_meantBy (fun K Kl hK hC => ⟨fun z => absurd (jLE z) (by omega), fun _ => ⟨j, by omega, rfl, fun z => ?_, fun z => ?_⟩⟩)
      · exact hK _ _ _ _ (one j hj ih 0 (Or.inr ⟨rfl, by have := jLT z; omega⟩))
      · exact hK _ _ _ _ (one j hj ih 1 (Or.inl ⟨rfl, by have := jNLT z; omega⟩))
  exact r_Mod_meantBy (by decide) (fun K Kl hK hC => hK _ _ _ _ (lp 0 (Nat.zero_le _) _ _))
end
