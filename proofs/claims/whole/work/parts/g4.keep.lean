/-! THE REFERENCE KEEPS A TEXT -/
/-- the first i cells of c, out of the upper half -/
def cpM (c L i : Nat) (mi : Nat → Nat → Int32) : Nat → Nat → Int32 := cu mi c (fun k => if k < i then mi c (L + k) else mi c k)
theorem cpM_0 {c L : Nat} {mi : Nat → Nat → Int32} : cpM c L 0 mi = mi := by
  unfold cpM
  have e : (fun k => if k < 0 then mi c (L + k) else mi c k) = mi c := funext (fun k => if_neg (Nat.not_lt_zero k))
  rw [e]
  exact cu_id _ _
theorem cpM_s {c L i : Nat} {mi : Nat → Nat → Int32} (hi : i < L) : cu (cpM c L i mi) c (upd (cpM c L i mi c) i (cpM c L i mi c (L + i))) = cpM c L (i + 1) mi := by
  unfold cpM
  rw [cu_self, cu_cu]
  congr 1
  funext k
  by_cases e : k = i
  · rw [e, pk_us, if_neg (by omega), if_pos (by omega)]
  · rw [pk_un e]
    by_cases h : k < i
    · rw [if_pos h, if_pos (by omega)]
    · rw [if_neg h, if_neg (by omega)]
def cpL (c L : Nat) : Prop := (c = 98 ∧ L = 3) ∨ (c = 100 ∧ L = 5) ∨ (c = 101 ∧ L = 5) ∨ (c = 102 ∧ L = 5) ∨ (c = 103 ∧ L = 48) ∨ (c = 104 ∧ L = 9) ∨ (c = 105 ∧ L = 9) ∨ (c = 106 ∧ L = 6) ∨ (c = 107 ∧ L = 6) ∨ (c = 108 ∧ L = 3) ∨ (c = 109 ∧ L = 3) ∨ (c = 110 ∧ L = 4) ∨ (c = 111 ∧ L = 4) ∨ (c = 112 ∧ L = 5) ∨ (c = 113 ∧ L = 5) ∨ (c = 114 ∧ L = 20) ∨ (c = 115 ∧ L = 9) ∨ (c = 116 ∧ L = 64) ∨ (c = 117 ∧ L = 64) ∨ (c = 118 ∧ L = 64)
section
variable {d : Nat} {Q : Option Value → Mm → Prop} {mi : Nat → Nat → Int32} {ml : Nat → Nat → Int64} {rd : Option Nat}
set_option maxHeartbeats 2000000 in
theorem copiesLp {c L : Nat} (hc : cpL c L) (hQ : Q none (cpM c L L mi, ml, R0 rd, 136)) : ∀ j, j ≤ L → GoM d k_Mod_copies 136 Q 2 [.ref c, .int (nI L), .int (nI j)] [] (cpM c L j mi, ml, R0 rd, 136) := by
  have hL : L ≤ 64 := by unfold cpL at hc; omega
  refine upto ?_ ?_
  · have hQ := hQ
    rcases hc with ⟨rfl, rfl⟩ | ⟨rfl, rfl⟩ | ⟨rfl, rfl⟩ | ⟨rfl, rfl⟩ | ⟨rfl, rfl⟩ | ⟨rfl, rfl⟩ | ⟨rfl, rfl⟩ | ⟨rfl, rfl⟩ | ⟨rfl, rfl⟩ | ⟨rfl, rfl⟩ | ⟨rfl, rfl⟩ | ⟨rfl, rfl⟩ | ⟨rfl, rfl⟩ | ⟨rfl, rfl⟩ | ⟨rfl, rfl⟩ | ⟨rfl, rfl⟩ | ⟨rfl, rfl⟩ | ⟨rfl, rfl⟩ | ⟨rfl, rfl⟩ | ⟨rfl, rfl⟩
    all_goals exact g_Mod_copies (fun K Kl hK hC => ⟨fun _ => ⟨rfl, hQ⟩, fun z => absurd (iNLE z) (by omega)⟩)
  · intro j hj ih
    rw [nI1 j, ← cpM_s hj] at ih
    have e : nI L + nI j = nI (L + j) := nI_add _ _
    rcases hc with ⟨rfl, rfl⟩ | ⟨rfl, rfl⟩ | ⟨rfl, rfl⟩ | ⟨rfl, rfl⟩ | ⟨rfl, rfl⟩ | ⟨rfl, rfl⟩ | ⟨rfl, rfl⟩ | ⟨rfl, rfl⟩ | ⟨rfl, rfl⟩ | ⟨rfl, rfl⟩ | ⟨rfl, rfl⟩ | ⟨rfl, rfl⟩ | ⟨rfl, rfl⟩ | ⟨rfl, rfl⟩ | ⟨rfl, rfl⟩ | ⟨rfl, rfl⟩ | ⟨rfl, rfl⟩ | ⟨rfl, rfl⟩ | ⟨rfl, rfl⟩ | ⟨rfl, rfl⟩
    all_goals exact g_Mod_copies (fun K Kl hK hC => ⟨fun z => absurd (iLE z) (by omega), fun _ => ⟨_, by omega, e, ⟨j, by omega, rfl, hK _ _ _ _ ih⟩⟩⟩)
theorem t_copies {c L : Nat} {X : Int32} (hX : X = nI L) (hc : cpL c L) (hQ : Q none (cpM c L L mi, ml, R0 rd, 136)) : Cd (d + 1) k_Mod_copies [.ref c, .int X] (mi, ml, R0 rd, 136) Q := by
  subst hX
  have h := copiesLp (d := d) hc hQ 0 (Nat.zero_le _)
  rw [cpM_0] at h
  exact r_Mod_copies (by decide) (fun K Kl hK hC => hK _ _ _ _ h)
end
