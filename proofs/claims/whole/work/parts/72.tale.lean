/-! A TALE; THE K-TH TALE (the class) -/
/-- one note is so in a plain -/
def soN (T N : Nat → Nat → Nat) (sh : Nat → Nat) (i : Nat) : Bool := !ctN N i || (readN T (N 1 i - 1) (sh (N 2 i)) == N 3 i)
def tlN (T N : Nat → Nat → Nat) (w p : Nat) : Bool := (costN T (fun _ => 0) (feA T) w (p / 2) (p % 2)).isSome && allN (soN T N (putN T (fun _ => 0) w (p / 2) (p % 2))) (knM N)
/-- tales among the first places of a word; of the words before -/
def tcP (T N : Nat → Nat → Nat) (w j : Nat) : Nat := sumN (fun p => if tlN T N w p then 1 else 0) j
def tcW (T N : Nat → Nat → Nat) (w : Nat) : Nat := sumN (fun v => tcP T N v (2 * (T 0 0 * T 0 1))) w
section
variable {d : Nat} {Q : Option Value → Mm → Prop} {T S : Nat → Nat → Nat} {mi : Nat → Nat → Int32} {ml : Nat → Nat → Int64} {rd : Option Nat} {N : Nat → Nat → Nat}
set_option maxHeartbeats 1000000 in
theorem s_isTale (hT : CT 0 T mi) (hw : wfT T) (hN : CN N mi) (hwn : wfN T N) (hg : ∀ i, i < 24 → mi 83 i = nI (skN N i).toNat) (hz : ∀ f, f < 48 → mi 87 f = nI 0) {w p : Nat} (hwd : w < T 0 4) (hp : p < 2 * (T 0 0 * T 0 1)) (h1 : tlN T N w p = true → ∀ g, Q (some (.int (nI 1))) (cu mi 87 g, ml, R0 rd, 136)) (h0 : tlN T N w p = false → ∀ g, Q (some (.int (nI 0))) (cu mi 87 g, ml, R0 rd, 136)) : Cd (d + 4) k_Search_isTale [.ref 84, .ref 78, .int (nI w), .int (nI p)] (mi, ml, R0 rd, 136) Q := by
  have hfl := hw.fl
  have hkl := knM_le hN
  have h24 := hN.2.2.1
  have hfull := hN
  obtain ⟨e0, e1, _, hk, hr, hst⟩ := hN
  have lp : (costN T (fun _ => 0) (feA T) w (p / 2) (p % 2)).isSome = true → ∀ g : Nat → Int32, (∀ x, x < 48 → g x = nI (putN T (fun _ => 0) w (p / 2) (p % 2) x)) → ∀ j, j ≤ knM N → (∀ i, i < j → soN T N (putN T (fun _ => 0) w (p / 2) (p % 2)) i = true) → GoM (d + 3) k_Search_isTale 136 Q 51 [.ref 84, .ref 78, .int (nI w), .int (nI p), .int (nI (knM N)), .int (nI j)] [] (cu mi 87 g, ml, R0 rd, 136) := by
    intro hsome g hgp
    have hT1 : CT 0 T (cu mi 87 g) := hT.keep (fun c _ _ => cu_ne (by omega))
    have hN1 : CN N (cu mi 87 g) := hfull.fr (fun c h1 h2 => cu_ne (by omega))
    refine upto ?_ ?_
    · intro hall
      refine g_Search_isTale (fun K Kl hK hC => ?_)
      refine ⟨fun _ => ⟨Or.inr rfl, rfl, h1 ?_ g⟩, fun h => absurd (iNLE h) (by omega)⟩
      unfold tlN
      rw [hsome, allN_iff.mpr hall]
      rfl
    · intro j hj ih hall
      have fwd : soN T N (putN T (fun _ => 0) w (p / 2) (p % 2)) j = true → GoM (d + 3) k_Search_isTale 136 Q 51 [.ref 84, .ref 78, .int (nI w), .int (nI p), .int (nI (knM N)), .int (nI j + nI 1)] [] (cu mi 87 g, ml, R0 rd, 136) := by
        intro hs
        have ih := ih (lt_s hall hs)
        rw [nI1 j] at ih
        exact ih
      refine g_Search_isTale (fun K Kl hK hC => ?_)
      refine ⟨fun h => absurd (iLE h) (by omega), fun _ => ?_⟩
      refine hC _ _ _ _ (s_counts hN1 hg (show j < N 0 0 by omega) (fun hc => ?_) (fun hc => ?_))
      · refine ⟨fun h => absurd h (by decide), fun _ => ?_⟩
        have hnz : N 1 j ≠ 0 := by
          intro z
          unfold ctN at hc
          simp [z] at hc
        have hrj := hr j (by omega) hnz
        have hwj := hwn j (by omega) hnz
        obtain ⟨q, hq⟩ : ∃ q, N 1 j = q + 1 := ⟨N 1 j - 1, by omega⟩
        refine ⟨j, by omega, rfl, j, by omega, rfl, j, by omega, rfl, ?_⟩
        rw [show cu mi 87 g 79 = mi 79 from rfl, show cu mi 87 g 80 = mi 80 from rfl, show cu mi 87 g 81 = mi 81 from rfl, hrj.1, hrj.2.1, hrj.2.2.1, hq, nI_pred]
        refine hC _ _ _ _ (s_isSo hT1 hw (sh := putN T (fun _ => 0) w (p / 2) (p % 2)) (fun x hx => ⟨hgp x hx, putN_le hw (fun _ => by omega) _ _ _ _⟩) (show q < T 0 5 by omega) hwj.2.1 hwj.2.2 (fun hso => ?_) (fun hso => ?_))
        · refine ⟨fun _ => hK _ _ _ _ (fwd ?_), fun h => absurd h (by decide)⟩
          unfold soN
          rw [hq, Nat.add_sub_cancel, hso]
          simp
        · refine ⟨fun h => absurd (by decide) h, fun _ => ⟨Or.inl rfl, rfl, h0 ?_ g⟩⟩
          unfold tlN
          rw [allN_not hj (by unfold soN; rw [hc, hq, Nat.add_sub_cancel]; simp [hso]), Bool.and_false]
      · exact ⟨fun _ => hK _ _ _ _ (fwd (by unfold soN; rw [hc]; rfl)), fun h => absurd (by decide) h⟩
  refine r_Search_isTale (by decide) (fun K Kl hK hC => ⟨by decide, ?_⟩)
  rw [pk_div (by omega) (by omega) (by omega)]
  refine ⟨by decide, ?_⟩
  rw [pk_rem (by omega) (by omega) (by omega)]
  refine hC _ _ _ _ (s_costOf (sh := fun _ => 0) (Or.inr rfl) (Or.inl rfl) hT hw (fun f hf => ⟨hz f hf, by omega⟩) (hT.feeA hw) hwd (pl_half hp) (by omega) ?_)
  cases hc : costN T (fun _ => 0) (feA T) w (p / 2) (p % 2) with
  | none =>
    refine ⟨fun h => absurd h (by decide), fun _ => ⟨Or.inl rfl, rfl, ?_⟩⟩
    have := h0 (by unfold tlN; rw [hc]; rfl) (mi 87)
    rw [cu_id] at this
    exact this
  | some c =>
    have hcl := costN_le (feA_le hw) hc
    refine ⟨fun _ => ⟨by decide, ?_⟩, fun h => absurd (nI_pos' (by omega)) h⟩
    rw [pk_div (by omega) (by omega) (by omega)]
    refine ⟨by decide, ?_⟩
    rw [pk_rem (by omega) (by omega) (by omega)]
    refine hC _ _ _ _ (s_put (sh := fun _ => 0) (Or.inr rfl) hT hw hz hwd (pl_half hp) (by omega) (fun g hgp => ?_))
    refine hC _ _ _ _ (s_knownMany (hfull.fr (fun c h1 h2 => cu_ne (by omega))) ?_)
    exact hK _ _ _ _ (lp (by rw [hc]; rfl) g hgp 0 (Nat.zero_le _) lt_0)
end
