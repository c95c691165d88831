/-! THE PAST (the class): n rows of 50 -/
def CP (n : Nat) (P : Nat → Nat → Nat) (mi : Nat → Nat → Int32) : Prop := mi 76 0 = nI n ∧ n ≤ 20 ∧ ∀ r, r < n → ∀ i, i < 50 → mi 77 (r * 50 + i) = nI (P r i)
/-- a scene as a row -/
def rwS (S : Nat → Nat → Nat) (i : Nat) : Nat := if i < 48 then S 1 i else if i = 48 then S 0 1 else S 0 3
def rmM (n : Nat) : Nat := (if 20 ≤ n then 19 else n) + 1
def rmP (n : Nat) (P S : Nat → Nat → Nat) : Nat → Nat → Nat := fun r i => if r + 1 = rmM n then rwS S i else if 20 ≤ n then P (r + 1) i else P r i
section
variable {d : Nat} {Q : Option Value → Mm → Prop} {T S : Nat → Nat → Nat} {mi : Nat → Nat → Int32} {ml : Nat → Nat → Int64} {rd : Option Nat}
theorem s_forget {n : Nat} {P : Nat → Nat → Nat} (hQ : ∀ mi', Fr [76] mi mi' → CP 0 P mi' → Q none (mi', ml, R0 rd, 136)) : Cd (d + 1) k_Past_forget [.ref 76] (mi, ml, R0 rd, 136) Q := by
  refine r_Past_forget (by decide) (fun K Kl hK hC => ?_)
  exact ⟨rfl, hQ _ (Fr.cu Fr.none rfl) ⟨rfl, by omega, fun r hr => absurd hr (by omega)⟩⟩
theorem past_in {R : Nat → Int32} {n i : Nat} (hS : CS 70 S mi) (hi : i < 50) : upd (upd (va_cpy (mi 71) R 0 (n * 50) 48) (n * 50 + 48) (mi 70 1)) (n * 50 + 48 + 1) (mi 70 3) (n * 50 + i) = nI (rwS S i) := by
  unfold rwS
  by_cases h : i < 48
  · rw [pk_un (by omega), pk_un (by omega), pk_cpy_in (by omega) (by omega), if_pos h, Nat.add_sub_cancel_left, Nat.zero_add]
    exact hS.shape i h
  · rw [if_neg h]
    by_cases h2 : i = 48
    · subst h2
      rw [pk_un (by omega), pk_us, if_pos rfl]
      exact hS.purse
    · have : i = 49 := by omega
      subst this
      rw [pk_us, if_neg h2]
      exact hS.hung
theorem past_out {R g : Nat → Int32} {n r i : Nat} {x y : Int32} (hr : r < n) (hi : i < 50) : upd (upd (va_cpy g R 0 (n * 50) 48) (n * 50 + 48) x) (n * 50 + 48 + 1) y (r * 50 + i) = R (r * 50 + i) := by
  rw [pk_un (by omega), pk_un (by omega), pk_cpy_out (by omega)]
set_option maxHeartbeats 1000000 in
theorem s_remember {n : Nat} {P : Nat → Nat → Nat} (hP : CP n P mi) (hS : CS 70 S mi) (hQ : ∀ mi', Fr [76, 77] mi mi' → CP (rmM n) (rmP n P S) mi' → Q none (mi', ml, R0 rd, 136)) : Cd (d + 1) k_Past_remember [.ref 76, .ref 70] (mi, ml, R0 rd, 136) Q := by
  obtain ⟨e, hn, hP⟩ := hP
  refine r_Past_remember (by decide) (fun K Kl hK hC => ?_)
  refine ⟨fun h => ?_, fun h => ?_⟩
  · rw [e] at h
    have h := iLT h
    have hm : rmM n = n + 1 := by unfold rmM; rw [if_neg (by omega)]
    have ix : nI n * nI 50 = nI (n * 50) := pk_mul n 50
    refine ⟨0, n * 50, 48, rfl, by rw [e]; exact ix, rfl, by decide, by show n * 50 + 48 ≤ 1000; omega, ?_⟩
    refine ⟨n * 50 + 48, by omega, by rw [e, ix, nI_add], n * 50 + 48 + 1, by omega, by rw [e, ix, nI_add, nI_add], rfl, hQ _ (Fr.cu (Fr.cu (Fr.cu (Fr.cu Fr.none rfl) rfl) rfl) rfl) ⟨?_, by omega, fun r hr i hi => ?_⟩⟩
    · rw [hm]
      show mi 76 0 + nI 1 = _
      rw [e, nI_add]
    · rw [hm] at hr
      unfold rmP
      rw [hm]
      by_cases hrn : r = n
      · subst hrn
        rw [if_pos rfl]
        exact past_in hS hi
      · rw [if_neg (by omega), if_neg (by omega)]
        exact (past_out (by omega) hi).trans (hP r (by omega) i hi)
  · rw [e] at h
    have h := iNLT h
    have hm : rmM n = 20 := by unfold rmM; rw [if_pos (by omega)]
    refine ⟨50, 0, 950, rfl, rfl, rfl, by decide, by decide, ?_⟩
    refine ⟨0, 19 * 50, 48, rfl, pk_mul 19 50, rfl, by decide, by decide, ?_⟩
    refine ⟨19 * 50 + 48, by decide, (show nI 19 * nI 50 + nI 48 = nI (19 * 50 + 48) by decide), 19 * 50 + 48 + 1, by decide, (show nI 19 * nI 50 + nI 48 + nI 1 = nI (19 * 50 + 48 + 1) by decide), rfl, hQ _ (Fr.cu (Fr.cu (Fr.cu (Fr.cu (Fr.cu (Fr.cu Fr.none rfl) rfl) rfl) rfl) rfl) rfl) ⟨?_, by omega, fun r hr i hi => ?_⟩⟩
    · rw [hm]
      show nI 19 + nI 1 = nI 20
      decide
    · rw [hm] at hr
      unfold rmP
      rw [hm]
      by_cases hrn : r = 19
      · subst hrn
        rw [if_pos rfl]
        exact past_in hS hi
      · rw [if_neg (by omega), if_pos (by omega)]
        refine (past_out (n := 19) (by omega) hi).trans ?_
        refine Eq.trans (pk_cpy_in (Nat.zero_le _) (by omega)) ?_
        rw [Nat.sub_zero, show 50 + (r * 50 + i) = (r + 1) * 50 + i by omega]
        exact hP (r + 1) (by omega) i hi
end
