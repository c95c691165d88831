/-! BYTES ARE FED (the class) -/
/-- the k-th byte of an int -/
def bytN (x : Int32) (k : Nat) : Nat := x.toBitVec.toNat / 2 ^ (24 - 8 * k) % 256
theorem nI_bv (x : Int32) : nI x.toBitVec.toNat = x := by
  apply Int32.toBitVec.inj
  unfold nI
  simp
theorem shB : ∀ k, k < 4 → (((nI 24 - nI (8 * k)).toUInt32 &&& Int32.toUInt32 31).toBitVec % 32).toNat = 24 - 8 * k := by decide +kernel
theorem bytC (x : Int32) {k : Nat} (hk : k < 4) : (x.toUInt32 >>> ((nI 24 - nI (8 * k)).toUInt32 &&& Int32.toUInt32 31)).toInt32 &&& nI 255 = nI (bytN x k) := by
  have hlt : x.toBitVec.toNat < 2 ^ 32 := x.toBitVec.isLt
  have h1 := pk_ushrN hlt (nI 24 - nI (8 * k)) (24 - 8 * k) (shB k hk)
  rw [nI_bv] at h1
  rw [h1, pk_andN (by have := Nat.div_le_self x.toBitVec.toNat (2 ^ (24 - 8 * k)); omega) 8 (by decide +kernel)]
  rfl
/-- what is fed: the j-th of twenty bytes -/
def fdB (a b c d e : Int32) (j : Nat) : Nat := bytN (if j < 4 then a else if j < 8 then b else if j < 12 then c else if j < 16 then d else e) (j % 4)
def fdA (A : St) (a b c d e : Int32) : St := s4 (cu A 4 (cu (A 4) 1 (fun i => if A 4 0 2 ≤ i ∧ i < A 4 0 2 + 20 then fdB a b c d e (i - A 4 0 2) else A 4 1 i))) 2 (A 4 0 2 + 20)
def aFeed (A : St) (a b c d e : Int32) : Int32 × St := if 700 < A 4 0 2 + 20 then (-1, A) else (nI (A 4 0 2 + 20), fdA A a b c d e)
section
variable {d : Nat} {Q : Option Value → Mm → Prop} {mi : Nat → Nat → Int32} {ml : Nat → Nat → Int64} {rd : Option Nat}
theorem s_takeBytes {x : Int32} {F : Nat} (hF : F + 4 ≤ 700) (ef : mi 0 1 = nI F) (hQ : ∀ mi', Fr [0, 1] mi mi' → mi' 0 1 = nI (F + 4) → (∀ c, c ≠ 1 → mi' 0 c = mi 0 c) → (∀ i, i < F → mi' 1 i = mi 1 i) → (∀ k, k < 4 → mi' 1 (F + k) = nI (bytN x k)) → Q none (mi', ml, R0 rd, 136)) : Cd (d + 1) k_Hay_takeBytes [.ref 0, .int x] (mi, ml, R0 rd, 136) Q := by
  have lp : ∀ k, k ≤ 4 → ∀ m1, Fr [0, 1] mi m1 → m1 0 1 = nI (F + k) → (∀ c, c ≠ 1 → m1 0 c = mi 0 c) → (∀ i, i < F → m1 1 i = mi 1 i) → (∀ i, i < k → m1 1 (F + i) = nI (bytN x i)) → GoM d k_Hay_takeBytes 136 Q 3 [.ref 0, .int x, .int (nI 24 - nI (8 * k))] [] (m1, ml, R0 rd, 136) := by
    refine upto ?_ ?_
    · intro m1 f1 e1 g0 g1 g2
      refine g_Hay_takeBytes (fun K Kl hK hC => ⟨fun _ => ⟨rfl, hQ m1 f1 e1 g0 g1 g2⟩, fun z => absurd (by decide) z⟩)
    · intro k hk ih m1 f1 e1 g0 g1 g2
      have esub : nI 24 - nI (8 * (k + 1)) = nI 24 - nI (8 * k) + (-8) := by
        have : ∀ k, k < 4 → nI 24 - nI (8 * (k + 1)) = nI 24 - nI (8 * k) + (-8) := by decide +kernel
        exact this k hk
      have epos : ¬ nI 24 - nI (8 * k) < 0 := by
        have : ∀ k, k < 4 → ¬ nI 24 - nI (8 * k) < 0 := by decide +kernel
        exact this k hk
      rw [esub] at ih
      refine g_Hay_takeBytes (fun K Kl hK hC => ⟨fun z => absurd z epos, fun _ => ⟨fun z => absurd (jLE z rfl e1) (by omega), fun _ => ⟨F + k, by omega, e1, hK _ _ _ _ (ih _ ((f1.cu rfl).cu rfl) (inc1 e1) (fun c hc => (pk_un hc).trans (g0 c hc)) (fun i hi => (pk_un (by omega)).trans (g1 i hi)) (fun i hi => ?_))⟩⟩⟩)
      show upd (m1 1) (F + k) _ (F + i) = _
      by_cases e : i = k
      · subst e
        rw [pk_us]
        exact bytC x hk
      · rw [pk_un (by omega)]
        exact g2 i (by omega)
  refine r_Hay_takeBytes (by decide) (fun K Kl hK hC => ?_)
  exact hK _ _ _ _ (lp 0 (by omega) mi Fr.none ef (fun _ _ => rfl) (fun _ _ => rfl) lt_0)
set_option maxHeartbeats 1000000 in
theorem p_feed {A : St} {a b c e f : Int32} (hA : CI A mi) (hw : wfA A) (hQ : ∀ mi', CI (aFeed A a b c e f).2 mi' → Up mi mi' → Q (some (.int (aFeed A a b c e f).1)) (mi', ml, R0 rd, 136)) : Cd (d + 2) k_Hay_feed [.ref 0, .int a, .int b, .int c, .int e, .int f] (mi, ml, R0 rd, 136) Q := by
  unfold aFeed at hQ
  have h700 := hw.f
  have ef : mi 0 1 = nI (A 4 0 2) := hA.f
  refine r_Hay_feed (by decide) (fun K Kl hK hC => ⟨fun z => ?_, fun z => ⟨rfl, ?_⟩⟩)
  · have z : mi 0 1 + nI 20 ≤ nI 700 := z
    rw [ef, nI_add] at z
    have z := iLE z
    rw [if_neg (by omega)] at hQ
    refine hC _ _ _ _ (s_takeBytes (F := A 4 0 2) (by omega) ef (fun m1 f1 e1 g1 h1 k1 => ?_))
    refine hC _ _ _ _ (s_takeBytes (F := A 4 0 2 + 4) (by omega) e1 (fun m2 f2 e2 g2 h2 k2 => ?_))
    refine hC _ _ _ _ (s_takeBytes (F := A 4 0 2 + 4 + 4) (by omega) e2 (fun m3 f3 e3 g3 h3 k3 => ?_))
    refine hC _ _ _ _ (s_takeBytes (F := A 4 0 2 + 4 + 4 + 4) (by omega) e3 (fun m4 f4 e4 g4 h4 k4 => ?_))
    refine hC _ _ _ _ (s_takeBytes (F := A 4 0 2 + 4 + 4 + 4 + 4) (by omega) e4 (fun m5 f5 e5 g5 h5 k5 => ⟨rfl, ?_⟩))
    have F5 := (((f1.trans f2).trans f3).trans f4).trans f5
    have g : ∀ q, q ≠ 1 → m5 0 q = mi 0 q := fun q hq => by rw [g5 q hq, g4 q hq, g3 q hq, g2 q hq, g1 q hq]
    have hQ := hQ m5 ⟨hA.T.fr F5 rfl, hA.S.fr F5 rfl rfl rfl, hA.N.fr2 F5 rfl, hA.P.fr F5 rfl rfl, by rw [g 10 (by decide)]; exact hA.k, fun y => (hA.I y).fr F5 rfl rfl rfl, e5, fun i hi => ?_, by rw [g 2 (by decide)]; exact hA.q, by rw [g 3 (by decide)]; exact hA.qp⟩ (F5.up rfl)
    · rw [← e5] at hQ
      exact hQ
    · have hi : i < A 4 0 2 + 20 := hi
      show m5 1 i = nI (if A 4 0 2 ≤ i ∧ i < A 4 0 2 + 20 then fdB a b c e f (i - A 4 0 2) else A 4 1 i)
      by_cases h0 : i < A 4 0 2
      · rw [if_neg (by omega), h5 i (by omega), h4 i (by omega), h3 i (by omega), h2 i (by omega), h1 i (by omega)]
        exact hA.b i h0
      · rw [if_pos (by omega)]
        obtain ⟨j, rfl⟩ : ∃ j, i = A 4 0 2 + j := ⟨i - A 4 0 2, by omega⟩
        rw [Nat.add_sub_cancel_left]
        unfold fdB
        by_cases j4 : j < 4
        · rw [if_pos j4, h5 _ (by omega), h4 _ (by omega), h3 _ (by omega), h2 _ (by omega), k1 j j4, Nat.mod_eq_of_lt j4]
        · rw [if_neg j4]
          by_cases j8 : j < 8
          · rw [if_pos j8, h5 _ (by omega), h4 _ (by omega), h3 _ (by omega), show A 4 0 2 + j = A 4 0 2 + 4 + (j % 4) by omega, k2 _ (by omega)]
          · rw [if_neg j8]
            by_cases j12 : j < 12
            · rw [if_pos j12, h5 _ (by omega), h4 _ (by omega), show A 4 0 2 + j = A 4 0 2 + 4 + 4 + (j % 4) by omega, k3 _ (by omega)]
            · rw [if_neg j12]
              by_cases j16 : j < 16
              · rw [if_pos j16, h5 _ (by omega), show A 4 0 2 + j = A 4 0 2 + 4 + 4 + 4 + (j % 4) by omega, k4 _ (by omega)]
              · rw [if_neg j16, show A 4 0 2 + j = A 4 0 2 + 4 + 4 + 4 + 4 + (j % 4) by omega, k5 _ (by omega)]
  · have z : ¬ mi 0 1 + nI 20 ≤ nI 700 := z
    rw [ef, nI_add] at z
    rw [if_pos (iNLE z)] at hQ
    exact hQ mi hA Up.none
end
