/-! WASHING (the class) -/
theorem dig4 {a : Nat → Nat} : ∀ n, (∀ k, k < n → a k < 4) → sumN (fun k => a k * 4 ^ k) n < 4 ^ n ∧ ∀ i, i < n → sumN (fun k => a k * 4 ^ k) n / 4 ^ i % 4 = a i
  | 0, _ => ⟨Nat.one_pos, fun i hi => absurd hi (by omega)⟩
  | n + 1, h => by
    have ih := dig4 n (fun k hk => h k (by omega))
    have hn := h n (by omega)
    have e : sumN (fun k => a k * 4 ^ k) (n + 1) = sumN (fun k => a k * 4 ^ k) n + 4 ^ n * a n := by rw [sumN, Nat.mul_comm (a n)]
    have hpos : 0 < 4 ^ n := Nat.pow_pos (by decide)
    rw [e]
    constructor
    · have : 4 ^ n * a n ≤ 4 ^ n * 3 := Nat.mul_le_mul_left _ (by omega)
      rw [Nat.pow_succ]
      omega
    · intro i hi
      by_cases hin : i < n
      · rw [← ih.2 i hin]
        obtain ⟨q, rfl⟩ : ∃ q, n = i + 1 + q := ⟨n - i - 1, by omega⟩
        have e2 : 4 ^ (i + 1 + q) * a (i + 1 + q) = 4 ^ i * (4 * (4 ^ q * a (i + 1 + q))) := by
          rw [Nat.pow_add, Nat.pow_succ]
          simp only [Nat.mul_assoc]
        rw [e2, Nat.add_mul_div_left _ _ (Nat.pow_pos (by decide)), Nat.add_mul_mod_self_left]
      · have : i = n := by omega
        subst this
        rw [Nat.add_mul_div_left _ _ hpos, Nat.div_eq_of_lt ih.1, Nat.zero_add, Nat.mod_eq_of_lt hn]
theorem rowN_dig {T : Nat → Nat → Nat} (hw : wfT T) {s : Nat} (hs : s < T 0 7) : rowN T s < 256 ∧ ∀ i, i < T 14 s → rowN T s / 4 ^ i % 4 = T 15 (4 * s + i) := by
  have h4 := hw.co4
  have hl := hw.sl s hs
  have := dig4 (a := fun k => T 15 (4 * s + k)) (T 14 s) (fun k hk => by have := hw.sr s hs k hk; show T 15 (4 * s + k) < 4; omega)
  refine ⟨Nat.lt_of_lt_of_le this.1 (Nat.pow_le_pow_right (by decide) hl.2), this.2⟩
theorem rowD : ∀ i, i < 4 → ∀ r, r < 256 → (nI r >>> ((nI 2 * nI i) &&& 31)) &&& nI 3 = nI (r / 4 ^ i % 4) := by decide +kernel
def ndS (T : Nat → Nat → Nat) (m c s i : Nat) : Nat := if m / 2 ^ s % 2 = 0 then 0 else sumN (fun k => if T 15 (4 * s + k) = c then 1 else 0) i
/-- how many pieces of a colour some signs need -/
def ndN (T : Nat → Nat → Nat) (m c : Nat) : Nat := sumN (fun s => ndS T m c s (T 14 s)) (T 0 7)
section
variable {d : Nat} {Q : Option Value → Mm → Prop} {T S : Nat → Nat → Nat} {mi : Nat → Nat → Int32} {ml : Nat → Nat → Int64} {rd : Option Nat}
set_option maxHeartbeats 1000000 in
theorem s_needed (hT : CT 0 T mi) (hw : wfT T) {m c : Nat} (hm : m < 64) (hc : c < 4) (hQ : Q (some (.int (nI (ndN T m c)))) (mi, ml, R0 rd, 136)) : Cd (d + 1) k_Washing_needed [.ref 26, .int (nI m), .int (nI c)] (mi, ml, R0 rd, 136) Q := by
  have h5 := hw.sg5
  have h4 := hw.co4
  have e : mi 26 1 = nI (T 0 7) := hT.signs
  have inner : ∀ j, j < T 0 7 → (∀ v5, GoM d k_Washing_needed 136 Q 5 [.ref 26, .int (nI m), .int (nI c), .int (nI (sumN (fun s => ndS T m c s (T 14 s)) (j + 1))), .int (nI j + nI 1), v5] [] (mi, ml, R0 rd, 136)) → ∀ i, i ≤ T 14 j → GoM d k_Washing_needed 136 Q 17 [.ref 26, .int (nI m), .int (nI c), .int (nI (sumN (fun s => ndS T m c s (T 14 s)) j + ndS T m c j i)), .int (nI j), .int (nI i)] [] (mi, ml, R0 rd, 136) := by
    intro j hj ihj
    have hl := hw.sl j hj
    have el : mi 30 j = nI (T 14 j) := hT.sl j hj
    have er : mi 31 j = nI (rowN T j) := hT.sr j hj
    have hrow := rowN_dig hw hj
    refine upto ?_ ?_
    · have ihj := ihj (.int (nI (T 14 j)))
      refine g_Washing_needed (fun K Kl hK hC => ?_)
      refine ⟨fun _ => hK _ _ _ _ ihj, fun _ => ⟨j, by omega, rfl, ?_⟩⟩
      rw [el]
      exact ⟨fun _ => hK _ _ _ _ ihj, fun h => absurd (iNLE h) (by omega)⟩
    · intro i hi ih
      have hd := hrow.2 i hi
      have ht := hw.sr j hj i hi
      refine g_Washing_needed (fun K Kl hK hC => ?_)
      refine ⟨fun h => ?_, fun h => ⟨j, by omega, rfl, ?_⟩⟩
      · have h := (bitB j (by omega) m hm).mp h
        have ihj := ihj (.int (nI i))
        rw [sumN, show ndS T m c j (T 14 j) = ndS T m c j i by unfold ndS; rw [if_pos h, if_pos h]] at ihj
        exact hK _ _ _ _ ihj
      · have h : ¬ m / 2 ^ j % 2 = 0 := fun z => h ((bitB j (by omega) m hm).mpr z)
        rw [el]
        have en : ndS T m c j (i + 1) = ndS T m c j i + (if T 15 (4 * j + i) = c then 1 else 0) := by
          unfold ndS
          rw [if_neg h, if_neg h]
          rfl
        rw [en, nI1 i] at ih
        refine ⟨fun h2 => absurd (iLE h2) (by omega), fun _ => ⟨j, by omega, rfl, ?_⟩⟩
        rw [er]
        refine ⟨fun h2 => ?_, fun h2 => ?_⟩
        · rw [rowD i (by omega) _ hrow.1, hd] at h2
          rw [if_neg (iNE h2), Nat.add_zero] at ih
          exact hK _ _ _ _ ih
        · rw [rowD i (by omega) _ hrow.1, hd] at h2
          rw [if_pos (iEQ h2), ← Nat.add_assoc, nI1] at ih
          exact hK _ _ _ _ ih
  have lp : ∀ j, j ≤ T 0 7 → ∀ v5, GoM d k_Washing_needed 136 Q 5 [.ref 26, .int (nI m), .int (nI c), .int (nI (sumN (fun s => ndS T m c s (T 14 s)) j)), .int (nI j), v5] [] (mi, ml, R0 rd, 136) := by
    refine upto ?_ ?_
    · intro v5
      refine g_Washing_needed (fun K Kl hK hC => ?_)
      exact ⟨fun _ => ⟨rfl, hQ⟩, fun h => absurd (jNLE h) (by omega)⟩
    · intro j hj ih v5
      rw [nI1 j] at ih
      refine g_Washing_needed (fun K Kl hK hC => ?_)
      refine ⟨fun h => absurd (jLE h) (by omega), fun _ => ?_⟩
      have := inner j hj ih 0 (Nat.zero_le _)
      rw [show ndS T m c j 0 = 0 by unfold ndS; split <;> rfl, Nat.add_zero] at this
      exact hK _ _ _ _ this
  refine r_Washing_needed (by decide) (fun K Kl hK hC => ?_)
  exact hK _ _ _ _ (lp 0 (Nat.zero_le _) _)
end
