/-! THE REFERENCE: where words stand, the cheapest place -/
theorem mf95 {mi : Nat → Nat → Int32} {g : Nat → Int32} (h : ∀ k, scF k = false → g k = mi 95 k) : MF mi (cu mi 95 g) := fun c k hs => by
  by_cases hc : c = 95
  · subst hc
    rw [cu_self]
    refine h k ?_
    cases hk : scF k with
    | false => rfl
    | true =>
      have : scr 95 k = true := by
        unfold scr
        rw [hk]
        rfl
      rw [this] at hs
      cases hs
  · rw [cu_ne hc]
theorem sc2 {k a b : Nat} (h : scF k = false) (ha : scF a = true) (hb : scF b = true) : k ≠ a ∧ k ≠ b := by
  refine ⟨fun e => ?_, fun e => ?_⟩
  · rw [e, ha] at h; cases h
  · rw [e, hb] at h; cases h
section
variable {d : Nat} {Q : Option Value → Mm → Prop} {T S : Nat → Nat → Nat} {mi : Nat → Nat → Int32} {ml : Nat → Nat → Int64} {rd : Option Nat} {x y z : Int32}
theorem t_standsOf (hT : MT T mi) (hw : wfT T) {b : Nat} (hb : b < 2) {sh : Nat → Nat} (hsh : ∀ f, f < 48 → mi 123 (48 * b + f) = nI (sh f) ∧ sh f ≤ 511) {w h : Nat} (hwd : w < T 0 4) (hh : h < T 0 5) (hQ : Q (some (.int (nI (cntN T (fun f => readN T h (sh f)) w)))) (mi, ml, R0 rd, 136)) : Cd (d + 6) k_Mod_standsOf [.ref 95, .int (nI b), .int (nI w), .int (nI h)] (mi, ml, R0 rd, 136) Q := by
  have hfl := hw.fl
  have inner : ∀ f, f < T 0 0 * T 0 1 → (∀ v6, GoM (d + 5) k_Mod_standsOf 136 Q 6 [.ref 95, .int (nI b), .int (nI w), .int (nI h), .int (nI (sumN (fun p => if stdN T (fun f => readN T h (sh f)) w (p / 2) (p % 2) then 1 else 0) (2 * (f + 1)))), .int (nI f + nI 1), v6] [] (mi, ml, R0 rd, 136)) → ∀ v, v ≤ 2 → GoM (d + 5) k_Mod_standsOf 136 Q 18 [.ref 95, .int (nI b), .int (nI w), .int (nI h), .int (nI (sumN (fun p => if stdN T (fun f => readN T h (sh f)) w (p / 2) (p % 2) then 1 else 0) (2 * f + v))), .int (nI f), .int (nI v)] [] (mi, ml, R0 rd, 136) := by
    intro f hf go
    refine upto ?_ ?_
    · refine g_Mod_standsOf (fun K Kl hK hC => ⟨fun _ => hK _ _ _ _ (go _), fun a => absurd (iNLE a) (by omega)⟩)
    · intro v hv ih
      have es : sumN (fun p => if stdN T (fun f => readN T h (sh f)) w (p / 2) (p % 2) then 1 else 0) (2 * f + (v + 1)) = sumN (fun p => if stdN T (fun f => readN T h (sh f)) w (p / 2) (p % 2) then 1 else 0) (2 * f + v) + (if stdN T (fun f => readN T h (sh f)) w f v then 1 else 0) := by
        show sumN _ (2 * f + v) + (if stdN T (fun f => readN T h (sh f)) w ((2 * f + v) / 2) ((2 * f + v) % 2) then 1 else 0) = _
        rw [show (2 * f + v) / 2 = f by omega, show (2 * f + v) % 2 = v by omega]
      rw [es, ← nI_add, nI1 v] at ih
      refine g_Mod_standsOf (fun K Kl hK hC => ⟨fun a => absurd (iLE a) (by omega), fun _ => hC _ _ _ _ (t_isRead hT hw hb hsh hwd hf hv hh (fun hs => ⟨fun a => absurd a (by decide), fun _ => ?_⟩) (fun hs => ⟨fun _ => ?_, fun a => absurd (by decide) a⟩))⟩)
      · rw [if_pos hs] at ih
        exact hK _ _ _ _ ih
      · rw [if_neg (by rw [hs]; decide)] at ih
        exact hK _ _ _ _ ih
  have outer : ∀ f, f ≤ T 0 0 * T 0 1 → ∀ v6, GoM (d + 5) k_Mod_standsOf 136 Q 6 [.ref 95, .int (nI b), .int (nI w), .int (nI h), .int (nI (sumN (fun p => if stdN T (fun f => readN T h (sh f)) w (p / 2) (p % 2) then 1 else 0) (2 * f))), .int (nI f), v6] [] (mi, ml, R0 rd, 136) := by
    refine upto ?_ ?_
    · intro v6
      refine g_Mod_standsOf (fun K Kl hK hC => hC _ _ _ _ (t_fields hT ⟨fun _ => ⟨rfl, hQ⟩, fun a => absurd (iNLE a) (by omega)⟩))
    · intro f hf ih v6
      rw [nI1 f] at ih
      refine g_Mod_standsOf (fun K Kl hK hC => hC _ _ _ _ (t_fields hT ⟨fun a => absurd (iLE a) (by omega), fun _ => hK _ _ _ _ (inner f hf ih 0 (by omega))⟩))
  refine r_Mod_standsOf (by decide) (fun K Kl hK hC => hK _ _ _ _ (outer 0 (Nat.zero_le _) .null))
set_option maxHeartbeats 1000000 in
theorem t_layCheapest (hT : MT T mi) (hw : wfT T) {b : Nat} (hb : b < 2) {sh : Nat → Nat} (hsh : ∀ f, f < 48 → mi 123 (48 * b + f) = nI (sh f) ∧ sh f ≤ 511) {fr br : Nat} (hfr : mi 95 75 = nI fr - 1) (hfr5 : fr ≤ 5) (hbr : mi 95 76 = nI br - 1) (hbr5 : br ≤ 5) {w : Nat} (hwd : w < T 0 4) (hQ : ∀ g : Nat → Int32, (∀ k, k ≠ 77 → k ≠ 78 → g k = mi 95 k) → g 77 = chP (chN (fun p => costN T sh (feX T fr br) w (p / 2) (p % 2)) (2 * (T 0 0 * T 0 1))) → (∀ p c, chN (fun p => costN T sh (feX T fr br) w (p / 2) (p % 2)) (2 * (T 0 0 * T 0 1)) = some (p, c) → g 78 = nI c) → Q none (cu mi 95 g, ml, R0 rd, 136)) : Cd (d + 6) k_Mod_layCheapest [.ref 95, .int (nI b), .int (nI w)] (mi, ml, R0 rd, 136) Q := by
  have hfl := hw.fl
  have mf : ∀ g : Nat → Int32, (∀ k, k ≠ 77 → k ≠ 78 → g k = mi 95 k) → MF mi (cu mi 95 g) := fun g hg => mf95 (fun k hk => hg k (sc2 hk (a := 77) (b := 78) rfl rfl).1 (sc2 hk (a := 77) (b := 78) rfl rfl).2)
  have hle : ∀ p c, costN T sh (feX T fr br) w (p / 2) (p % 2) = some c → c ≤ 5346 := fun p c hc => costN_le (fun f => by
    have := feeN_le hw f
    unfold feX
    split
    · omega
    · split <;> omega) hc
  have lp : ∀ p, p ≤ 2 * (T 0 0 * T 0 1) → ∀ g : Nat → Int32, (∀ k, k ≠ 77 → k ≠ 78 → g k = mi 95 k) → g 77 = chP (chN (fun p => costN T sh (feX T fr br) w (p / 2) (p % 2)) p) → (∀ q c, chN (fun p => costN T sh (feX T fr br) w (p / 2) (p % 2)) p = some (q, c) → g 78 = nI c) → ∀ v4, GoM (d + 5) k_Mod_layCheapest 136 Q 7 [.ref 95, .int (nI b), .int (nI w), .int (nI p), v4] [] (cu mi 95 g, ml, R0 rd, 136) := by
    refine upto ?_ ?_
    · intro g hg h77 h78 v4
      have hT1 := hT.mf (mf g hg)
      refine g_Mod_layCheapest (fun K Kl hK hC => hC _ _ _ _ (t_fields hT1 ⟨fun _ => ⟨rfl, hQ g hg h77 h78⟩, fun a => ?_⟩))
      have a : ¬ nI 2 * nI (T 0 0 * T 0 1) ≤ nI (2 * (T 0 0 * T 0 1)) := a
      rw [pk_mul] at a
      exact absurd (iNLE a) (by omega)
    · intro p hp ih g hg h77 h78 v4
      have hT1 := hT.mf (mf g hg)
      have ed : nI p / nI 2 = nI (p / 2) := pk_div (by omega) (by omega) (by omega)
      have er : nI p - nI p / nI 2 * nI 2 = nI (p % 2) := pk_rem (by omega) (by omega) (by omega)
      have ph := pl_half hp
      have eco := cost_of (T := T) (sh := sh) (fr := fr) (br := br) (w := w) (f := p / 2) (way := p % 2)
      have skip : costN T sh (feX T fr br) w (p / 2) (p % 2) = none → ∀ v4, GoM (d + 5) k_Mod_layCheapest 136 Q 7 [.ref 95, .int (nI b), .int (nI w), .int (nI p + nI 1), v4] [] (cu mi 95 g, ml, R0 rd, 136) := fun hn v4 => by
        have e : chN (fun p => costN T sh (feX T fr br) w (p / 2) (p % 2)) (p + 1) = chN (fun p => costN T sh (feX T fr br) w (p / 2) (p % 2)) p := by
          rw [chN]
          simp only [hn]
        rw [e] at ih
        have ih := ih g hg h77 h78 v4
        rw [nI1 p] at ih
        exact ih
      refine g_Mod_layCheapest (fun K Kl hK hC => hC _ _ _ _ (t_fields hT1 ⟨fun a => ?_, fun _ => ⟨two0, two0, ?_⟩⟩))
      · have a : nI 2 * nI (T 0 0 * T 0 1) ≤ nI p := a
        rw [pk_mul] at a
        exact absurd (iLE a) (by omega)
      rw [er, ed]
      refine hC _ _ _ _ (t_canSet hT1 hw hb hsh hwd ph (by omega) (fun hcs => ⟨fun a => absurd a (by decide), fun _ => ⟨two0, two0, ?_⟩⟩) (fun hcs => ⟨fun _ => hK _ _ _ _ (skip (by rw [eco, hcs]; rfl) _), fun a => absurd (by decide) a⟩))
      have hfit : fitN T (lenN (T 7 w)) (p / 2) (p % 2) = true := li_fit (by unfold csN at hcs; rw [Bool.and_eq_true] at hcs; exact hcs.1)
      rw [er, ed]
      refine hC _ _ _ _ (t_isBarred hT1 hw (show g 76 = nI br - 1 from (hg 76 (by decide) (by decide)).trans hbr) hbr5 hwd ph (by omega) hfit (fun hba => ⟨fun a => absurd a (by decide), fun _ => hK _ _ _ _ (skip (by rw [eco, hcs, hba]; rfl) _)⟩) (fun hba => ⟨fun _ => ⟨two0, two0, ?_⟩, fun a => absurd (by decide) a⟩))
      rw [er, ed]
      have hco : costN T sh (feX T fr br) w (p / 2) (p % 2) = some (cdN T sh fr w (p / 2) (p % 2)) := by rw [eco, hcs, hba]; rfl
      have hcl := hle p _ hco
      refine hC _ _ _ _ (t_costOf hT1 hw hb hsh (show g 75 = nI fr - 1 from (hg 75 (by decide) (by decide)).trans hfr) hfr5 hwd ph (by omega) hcs ?_)
      generalize cdN T sh fr w (p / 2) (p % 2) = c at hco hcl
      have e1 : chN (fun p => costN T sh (feX T fr br) w (p / 2) (p % 2)) (p + 1) = match chN (fun p => costN T sh (feX T fr br) w (p / 2) (p % 2)) p with
        | none => some (p, c)
        | some (q, y) => if c < y then some (p, c) else some (q, y) := by
        rw [chN]
        simp only [hco]
        cases chN (fun p => costN T sh (feX T fr br) w (p / 2) (p % 2)) p with
        | none => rfl
        | some q => rfl
      have take : chN (fun p => costN T sh (feX T fr br) w (p / 2) (p % 2)) (p + 1) = some (p, c) → ∀ v4, GoM (d + 5) k_Mod_layCheapest 136 Q 7 [.ref 95, .int (nI b), .int (nI w), .int (nI p + nI 1), v4] [] (cu (cu (cu mi 95 g) 95 (upd (cu mi 95 g 95) 77 (nI p))) 95 (upd (cu (cu mi 95 g) 95 (upd (cu mi 95 g 95) 77 (nI p)) 95) 78 (nI c)), ml, R0 rd, 136) := fun he v4 => by
        rw [he] at ih
        have ih := ih (upd (upd g 77 (nI p)) 78 (nI c)) (fun k h1 h2 => by rw [pk_un h2, pk_un h1]; exact hg k h1 h2) rfl (fun q c2 e => by cases e; rfl) v4
        rw [nI1 p, ← cu2] at ih
        exact ih
      cases hr : chN (fun p => costN T sh (feX T fr br) w (p / 2) (p % 2)) p with
      | none =>
        rw [hr] at e1
        rw [hr] at h77
        refine ⟨fun _ => hK _ _ _ _ (take e1 _), fun a => ?_⟩
        have a : ¬ g 77 < 0 := a
        rw [h77] at a
        exact absurd (by decide) a
      | some qy =>
        obtain ⟨q, y⟩ := qy
        have hq := chN_lt hr
        have hyl := hle q y hq.2
        rw [hr] at e1
        have g78 := h78 q y hr
        refine ⟨fun a => ?_, fun _ => ⟨fun a => ?_, fun a => ?_⟩⟩
        · have a : g 77 < 0 := a
          rw [h77, hr] at a
          exact (iNN (show nI q < 0 from a) (by omega)).elim
        · have a : nI c < g 78 := a
          rw [g78] at a
          exact hK _ _ _ _ (take (by rw [e1]; exact if_pos (iLT a)) _)
        · have a : ¬ nI c < g 78 := a
          rw [g78] at a
          have e2 : chN (fun p => costN T sh (feX T fr br) w (p / 2) (p % 2)) (p + 1) = some (q, y) := by rw [e1]; exact if_neg (by have := iNLT a; omega)
          rw [e2, ← hr] at ih
          have ih := ih g hg h77 h78 (.int (nI c))
          rw [nI1 p] at ih
          exact hK _ _ _ _ ih
  refine r_Mod_layCheapest (by decide) (fun K Kl hK hC => hK _ _ _ _ (lp 0 (Nat.zero_le _) (upd (mi 95) 77 (-1)) (fun k h1 _ => pk_un h1) rfl (fun q c e => by cases e) .null))
end
