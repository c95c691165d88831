/-! NOTES WEIGHED (the class) -/
/-- what is struck once the last t of K have been weighed -/
def skJ (N : Nat → Nat → Nat) (K : Nat) : Nat → Nat → Bool
  | 0 => fun _ => false
  | t + 1 => fun x => if N 1 (K - 1 - t) = 0 ∧ skJ N K t (K - 1 - t) = false ∧ x = N 3 (K - 1 - t) then true else skJ N K t x
/-- what is struck of those known -/
def skN (N : Nat → Nat → Nat) : Nat → Bool := skJ N (knM N) (knM N)
def ctN (N : Nat → Nat → Nat) (i : Nat) : Bool := !(N 1 i == 0) && !skN N i
theorem sub1 (x : Int32) : x - nI 1 = x + (-1) := Int32.sub_eq_add_neg x (nI 1)
theorem knM_le {N : Nat → Nat → Nat} {mi : Nat → Nat → Int32} (h : CN N mi) : knM N ≤ N 0 0 := by
  obtain ⟨_, _, _, h, _⟩ := h
  unfold knM
  split <;> omega
section
variable {d : Nat} {Q : Option Value → Mm → Prop} {T S : Nat → Nat → Nat} {mi : Nat → Nat → Int32} {ml : Nat → Nat → Int64} {rd : Option Nat} {N : Nat → Nat → Nat}
theorem CN.fr {mi' : Nat → Nat → Int32} (h : CN N mi) (hf : ∀ c, 78 ≤ c → c ≤ 82 → mi' c = mi c) : CN N mi' := by
  unfold CN at h ⊢
  rw [hf 78 (by omega) (by omega), hf 79 (by omega) (by omega), hf 80 (by omega) (by omega), hf 81 (by omega) (by omega), hf 82 (by omega) (by omega)]
  exact h
set_option maxHeartbeats 1000000 in
theorem s_weigh (hN : CN N mi) (hQ : ∀ g : Nat → Int32, (∀ i, i < 24 → g i = nI (skN N i).toNat) → Q none (cu mi 83 g, ml, R0 rd, 136)) : Cd (d + 3) k_Notes_weigh [.ref 78] (mi, ml, R0 rd, 136) Q := by
  have hkl := knM_le hN
  have hN0 := hN
  obtain ⟨e0, e1, h24, hk, hr, hst⟩ := hN
  have back : ∀ t, t ≤ knM N → ∀ g : Nat → Int32, (∀ i, i < 24 → g i = nI (skJ N (knM N) t i).toNat) → GoM (d + 2) k_Notes_weigh 136 Q 28 [.ref 78, .int (nI (knM N - t) - nI 1)] [] (cu mi 83 g, ml, R0 rd, 136) := by
    refine upto ?_ ?_
    · intro g hg
      refine g_Notes_weigh (fun K Kl hK hC => ?_)
      rw [Nat.sub_self]
      exact ⟨fun _ => ⟨rfl, hQ g hg⟩, fun h => absurd (by decide) h⟩
    · intro t ht ih g hg
      obtain ⟨i, hi⟩ : ∃ i, knM N - t = i + 1 := ⟨knM N - t - 1, by omega⟩
      have hi2 : knM N - 1 - t = i := by omega
      have hi3 : knM N - (t + 1) = i := by omega
      rw [hi]
      rw [hi3] at ih
      have ei : nI (i + 1) - nI 1 = nI i := nI_pred i
      have skip : (∀ x, skJ N (knM N) (t + 1) x = skJ N (knM N) t x) → GoM (d + 2) k_Notes_weigh 136 Q 28 [.ref 78, .int (nI (i + 1) - nI 1 + (-1))] [] (cu mi 83 g, ml, R0 rd, 136) := by
        intro hx
        have ih := ih g (fun x hx2 => by rw [hx]; exact hg x hx2)
        rw [sub1] at ih
        rw [ei]
        exact ih
      have step : N 1 i = 0 → skJ N (knM N) t i = false → GoM (d + 2) k_Notes_weigh 136 Q 28 [.ref 78, .int (nI (i + 1) - nI 1 + (-1))] [] (cu (cu mi 83 g) 83 (upd (cu mi 83 g 83) (N 3 i) (nI 1)), ml, R0 rd, 136) := by
        intro h1 h2
        have ih := ih (upd g (N 3 i) (nI 1)) (fun x hx2 => by
          show _ = nI (if N 1 (knM N - 1 - t) = 0 ∧ skJ N (knM N) t (knM N - 1 - t) = false ∧ x = N 3 (knM N - 1 - t) then true else skJ N (knM N) t x).toNat
          rw [hi2]
          by_cases hx3 : x = N 3 i
          · rw [if_pos ⟨h1, h2, hx3⟩, hx3]; exact pk_us
          · rw [if_neg (fun z => hx3 z.2.2), pk_un hx3]; exact hg x hx2)
        rw [sub1, ← cuu] at ih
        rw [ei]
        exact ih
      refine g_Notes_weigh (fun K Kl hK hC => ?_)
      refine ⟨fun h => ?_, fun h => ⟨i, by omega, ei, ?_⟩⟩
      · have h : nI (i + 1) - nI 1 < 0 := h
        rw [ei] at h
        exact (iNN h).elim
      · have hnot : (¬ (N 1 i = 0 ∧ skJ N (knM N) t i = false)) → ∀ x, skJ N (knM N) (t + 1) x = skJ N (knM N) t x := by
          intro hn x
          show (if N 1 (knM N - 1 - t) = 0 ∧ skJ N (knM N) t (knM N - 1 - t) = false ∧ x = N 3 (knM N - 1 - t) then true else skJ N (knM N) t x) = _
          rw [hi2, if_neg (fun z => hn ⟨z.1, z.2.1⟩)]
        rw [show cu mi 83 g 82 = mi 82 from rfl]
        by_cases hz : N 1 i = 0
        · have h3 := hst i (by omega) hz
          rw [h3.1]
          refine ⟨fun h => (iNN h).elim, fun _ => ⟨i, by omega, ei, ?_⟩⟩
          rw [show cu mi 83 g 82 = mi 82 from rfl, h3.1]
          refine ⟨fun h => absurd (iLE h) (by omega), fun _ => ⟨i, by omega, ei, ?_⟩⟩
          rw [show cu mi 83 g 83 = g from rfl, hg i (by omega)]
          cases hb : skJ N (knM N) t i with
          | true => exact ⟨fun _ => hK _ _ _ _ (skip (hnot (fun z => by rw [hb] at z; cases z.2))), fun h => absurd h (by decide)⟩
          | false =>
            refine ⟨fun h => absurd (by decide) h, fun _ => ⟨i, by omega, ei, N 3 i, by omega, h3.1, Or.inr rfl, ?_⟩⟩
            exact hK _ _ _ _ (step hz hb)
        · have h3 := (hr i (by omega) hz).2.2.2
          rw [h3]
          exact ⟨fun _ => hK _ _ _ _ (skip (hnot (fun z => hz z.1))), fun h => absurd (by decide) h⟩
  have forth : ∀ j, j ≤ 24 → ∀ g : Nat → Int32, (∀ i, i < j → g i = nI 0) → GoM (d + 2) k_Notes_weigh 136 Q 2 [.ref 78, .int (nI j)] [] (cu mi 83 g, ml, R0 rd, 136) := by
    refine upto ?_ ?_
    · intro g hg
      have hN1 : CN N (cu mi 83 g) := hN0.fr (fun c h1 h2 => cu_ne (by omega))
      refine g_Notes_weigh (fun K Kl hK hC => ?_)
      refine ⟨fun _ => ?_, fun h => absurd (iNLE h) (by omega)⟩
      refine hC _ _ _ _ (s_knownMany hN1 ?_)
      exact hK _ _ _ _ (back 0 (Nat.zero_le _) g hg)
    · intro j hj ih g hg
      have ih := ih (upd g j (nI 0)) (fun f hf => by
        by_cases hfj : f = j
        · subst hfj; exact pk_us
        · rw [pk_un hfj]; exact hg f (by omega))
      rw [nI1 j, ← cuu] at ih
      refine g_Notes_weigh (fun K Kl hK hC => ?_)
      refine ⟨fun h => absurd (iLE h) (by omega), fun _ => ⟨j, by omega, rfl, Or.inl rfl, ?_⟩⟩
      exact hK _ _ _ _ ih
  refine r_Notes_weigh (by decide) (fun K Kl hK hC => ?_)
  have := forth 0 (Nat.zero_le _) (mi 83) lt_0
  rw [cu_id] at this
  exact hK _ _ _ _ this
end
