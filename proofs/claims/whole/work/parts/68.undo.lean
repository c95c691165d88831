/-! UNDONE (the class) -/
def unS (R : Nat → Nat) (S : Nat → Nat → Nat) : Nat → Nat → Nat := fun a i => if a = 1 then (if i < 48 then R i else 0) else if a = 0 then (if i = 1 then R 48 else if i = 3 then R 49 else S 0 i) else S a i
section
variable {d : Nat} {Q : Option Value → Mm → Prop} {T S : Nat → Nat → Nat} {mi : Nat → Nat → Int32} {ml : Nat → Nat → Int64} {rd : Option Nat}
set_option maxHeartbeats 1000000 in
theorem s_restore {n : Nat} {P : Nat → Nat → Nat} (hP : CP (n + 1) P mi) (hS : CS 70 S mi) (hQ : ∀ mi', Fr [70, 71, 76] mi mi' → CP n P mi' → CS 70 (unS (P n) S) mi' → Q none (mi', ml, R0 rd, 136)) : Cd (d + 1) k_Past_restore [.ref 76, .ref 70] (mi, ml, R0 rd, 136) Q := by
  obtain ⟨e, hn, hP⟩ := hP
  have e1 : mi 76 0 - nI 1 = nI n := by rw [e]; exact nI_pred n
  have ix : (mi 76 0 - nI 1) * nI 50 = nI (n * 50) := by rw [e1]; exact pk_mul n 50
  refine r_Past_restore (by decide) (fun K Kl hK hC => ?_)
  refine ⟨fun _ => ?_, fun h => ?_⟩
  · refine ⟨n * 50, 0, 48, ix, rfl, rfl, by show n * 50 + 48 ≤ 1000; omega, by decide, ?_⟩
    refine ⟨n * 50 + 48, by omega, (show (mi 76 0 - nI 1) * nI 50 + nI 48 = _ by rw [ix, nI_add]), n * 50 + 48 + 1, by omega, (show (mi 76 0 - nI 1) * nI 50 + nI 48 + nI 1 = _ by rw [ix, nI_add, nI_add]), rfl, hQ _ (Fr.cu (Fr.cu (Fr.cu (Fr.cu Fr.none rfl) rfl) rfl) rfl) ⟨e1, by omega, fun r hr i hi => hP r (by omega) i hi⟩ ?_⟩
    refine ⟨hS.day, hP n (by omega) 48 (by omega), hS.last, hP n (by omega) 49 (by omega), fun f hf => ?_, hS.readOn⟩
    refine Eq.trans (pk_cpy_in (Nat.zero_le _) (by omega)) ?_
    show mi 77 (n * 50 + (f - 0)) = nI (if f < 48 then P n f else 0)
    rw [Nat.sub_zero, if_pos hf]
    exact hP n (by omega) f (by omega)
  · rw [e] at h
    exact absurd (nI_le (by omega) (by omega)) h
end
