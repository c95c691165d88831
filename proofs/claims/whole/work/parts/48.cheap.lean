/-! FRAMES; THE CHEAPEST PLACE (the class) -/
def nin : List Nat → Nat → Bool
  | [], _ => true
  | x :: r, c => !(Nat.beq x c) && nin r c
theorem nin_mem {L : List Nat} {c : Nat} (h : c ∈ L) : nin L c = false := by
  induction L with
  | nil => cases h
  | cons x r ih =>
    unfold nin
    rcases List.mem_cons.mp h with e | e
    · subst e; rw [Nat.beq_refl]; rfl
    · rw [ih e, Bool.and_false]
theorem nin_not {L : List Nat} {c : Nat} (h : c ∉ L) : nin L c = true := by
  induction L with
  | nil => rfl
  | cons x r ih =>
    unfold nin
    have h1 : x ≠ c := fun e => h (e ▸ List.mem_cons_self)
    have h2 : Nat.beq x c = false := by
      cases hb : Nat.beq x c with
      | false => rfl
      | true => exact absurd (Nat.eq_of_beq_eq_true hb) h1
    rw [ih (fun hm => h (List.mem_cons_of_mem _ hm)), Bool.and_true, h2]
    rfl
/-- only the cells of L may have changed -/
def Fr {α : Type} (L : List Nat) (m m' : Nat → α) : Prop := ∀ c, nin L c = true → m' c = m c
theorem Fr.none {α : Type} {L : List Nat} {m : Nat → α} : Fr L m m := fun _ _ => rfl
theorem Fr.trans {α : Type} {L : List Nat} {m m' m'' : Nat → α} (h : Fr L m m') (h' : Fr L m' m'') : Fr L m m'' := fun c hc => (h' c hc).trans (h c hc)
theorem Fr.cu {α : Type} {L : List Nat} {m m' : Nat → α} {c : Nat} {g : α} (h : Fr L m m') (hc : nin L c = false) : Fr L m (cu m' c g) := fun a ha => by
  rw [cu_ne (fun e => by rw [e, hc] at ha; cases ha)]
  exact h a ha
theorem Fr.mono {α : Type} {L L' : List Nat} {m m' : Nat → α} (h : Fr L m m') (hL : L.all (fun x => !(nin L' x)) = true) : Fr L' m m' := fun c hc => by
  refine h c (nin_not (fun hm => ?_))
  have := List.all_eq_true.mp hL c hm
  rw [hc] at this
  cases this
theorem CT.fr {o : Nat} {T : Nat → Nat → Nat} {mi mi' : Nat → Nat → Int32} {L : List Nat} (h : CT o T mi) (hf : Fr L mi mi') (hL : L.all (fun x => Nat.blt x (6 + o) || Nat.blt (34 + o) x) = true) : CT o T mi' := h.keep (fun c h1 h2 => hf c (nin_not (fun hm => by
  have := List.all_eq_true.mp hL c hm
  simp only [Bool.or_eq_true, Nat.blt_eq] at this
  omega)))
theorem CS.fr {b : Nat} {S : Nat → Nat → Nat} {mi mi' : Nat → Nat → Int32} {L : List Nat} (h : CS b S mi) (hf : Fr L mi mi') (h0 : nin L b = true) (h1 : nin L (b + 1) = true) (h2 : nin L (b + 2) = true) : CS b S mi' := by
  unfold CS at h ⊢
  rw [hf b h0, hf (b + 1) h1, hf (b + 2) h2]
  exact h
theorem upd_upd (f : Nat → Int32) (j : Nat) (x y : Int32) : upd (upd f j x) j y = upd f j y := by
  funext a
  unfold upd
  split <;> rfl
/-- the cheapest of the first places -/
def chN (c : Nat → Option Nat) : Nat → Option (Nat × Nat)
  | 0 => none
  | j + 1 => match c j, chN c j with
    | none, r => r
    | some x, none => some (j, x)
    | some x, some (p, y) => if x < y then some (j, x) else some (p, y)
def chP (r : Option (Nat × Nat)) : Int32 := match r with
  | none => -1
  | some (p, _) => nI p
def chC (r : Option (Nat × Nat)) : Int32 := match r with
  | none => -2
  | some (_, c) => nI c
theorem chN_lt {c : Nat → Option Nat} {n p x : Nat} (h : chN c n = some (p, x)) : p < n ∧ c p = some x := by
  induction n with
  | zero => cases h
  | succ n ih =>
    unfold chN at h
    split at h
    · have := ih h; exact ⟨by omega, this.2⟩
    · rename_i hc _
      cases h; exact ⟨by omega, hc⟩
    · rename_i hc hr
      split at h
      · cases h; exact ⟨by omega, hc⟩
      · cases h; have := ih hr; exact ⟨by omega, this.2⟩
theorem sumN_bd {f : Nat → Nat} {n B : Nat} (h : ∀ i, i < n → f i ≤ B) : sumN f n ≤ n * B := by
  induction n with
  | zero => simp [sumN]
  | succ n ih =>
    have h1 := ih (fun i hi => h i (by omega))
    have h2 := h n (by omega)
    unfold sumN
    rw [Nat.succ_mul]
    omega
theorem costN_le {T : Nat → Nat → Nat} {sh fe : Nat → Nat} {w f way x : Nat} (hfe : ∀ f, fe f ≤ 100) (h : costN T sh fe w f way = some x) : x ≤ 5346 := by
  unfold costN at h
  split at h
  · cases h
    have hl := lenN_le (T 7 w)
    have : sumN (cstN T sh fe w f way) (lenN (T 7 w)) ≤ lenN (T 7 w) * 891 := sumN_bd (fun i _ => by
      unfold cstN
      split
      · have h1 := bcN_le (wantN T w i)
        have h2 := hfe (plN T f way i)
        calc bcN (wantN T w i) * (fe (plN T f way i) - 1) ≤ 9 * 99 := Nat.mul_le_mul h1 (by omega)
          _ = 891 := rfl
      · omega)
    have h2 : lenN (T 7 w) * 891 ≤ 6 * 891 := Nat.mul_le_mul_right _ hl
    omega
  · cases h
theorem feeN_le {T : Nat → Nat → Nat} (hw : wfT T) (f : Nat) : feeN T f ≤ 99 := by
  unfold feeN
  split
  · omega
  · have := hw.ow f
    exact hw.pr _ (by omega)
/-- the fees of a text, and 1 -/
def feA (T : Nat → Nat → Nat) : Nat → Nat := fun f => feeN T f + 1
theorem feA_le {T : Nat → Nat → Nat} (hw : wfT T) (f : Nat) : feA T f ≤ 100 := by have := feeN_le hw f; unfold feA; omega
theorem CT.feeA {T : Nat → Nat → Nat} {mi : Nat → Nat → Int32} (h : CT 0 T mi) (hw : wfT T) : ∀ f, f < 48 → mi 12 f = nI (feA T f) - 1 ∧ feA T f ≤ 100 := fun f hf => ⟨by unfold feA; rw [nI_pred]; exact h.fee f hf, feA_le hw f⟩
section
variable {d : Nat} {Q : Option Value → Mm → Prop} {T S : Nat → Nat → Nat} {mi : Nat → Nat → Int32} {ml : Nat → Nat → Int64} {rd : Option Nat}
theorem s_cheapestPlace {b fc : Nat} {sh fe : Nat → Nat} (hb : b = 70 ∨ b = 86) (hfc : fc = 12 ∨ fc = 89) (hT : CT 0 T mi) (hw : wfT T) (hsh : ∀ f, f < 48 → mi (b + 1) f = nI (sh f) ∧ sh f ≤ 511) (hfe : ∀ f, f < 48 → mi fc f = nI (fe f) - 1 ∧ fe f ≤ 100) (hfe2 : ∀ f, fe f ≤ 100) {w : Nat} (hwd : w < T 0 4)
    (hQ : Q (some (.int (chP (chN (fun p => costN T sh fe w (p / 2) (p % 2)) (2 * (T 0 0 * T 0 1)))))) (cu mi 84 (upd (mi 84) 0 (chC (chN (fun p => costN T sh fe w (p / 2) (p % 2)) (2 * (T 0 0 * T 0 1))))), ml, R0 rd, 136)) : Cd (d + 4) k_Search_cheapestPlace [.ref 84, .ref b, .ref fc, .int (nI w)] (mi, ml, R0 rd, 136) Q := by
  have hfl := hw.fl
  have hT' : ∀ x, CT 0 T (cu mi 84 (upd (mi 84) 0 x)) := fun x => hT.keep (fun c _ _ => cu_ne (by omega))
  have hsh' : ∀ x, ∀ f, f < 48 → cu mi 84 (upd (mi 84) 0 x) (b + 1) f = nI (sh f) ∧ sh f ≤ 511 := fun x f hf => by rw [cu_ne (by rcases hb with rfl | rfl <;> omega)]; exact hsh f hf
  have hfe' : ∀ x, ∀ f, f < 48 → cu mi 84 (upd (mi 84) 0 x) fc f = nI (fe f) - 1 ∧ fe f ≤ 100 := fun x f hf => by rw [cu_ne (by rcases hfc with rfl | rfl <;> omega)]; exact hfe f hf
  have lp : ∀ j, j ≤ 2 * (T 0 0 * T 0 1) → ∀ v7, GoM (d + 3) k_Search_cheapestPlace 136 Q 18 [.ref 84, .ref b, .ref fc, .int (nI w), .int (chP (chN (fun p => costN T sh fe w (p / 2) (p % 2)) j)), .int (nI (2 * (T 0 0 * T 0 1))), .int (nI j), v7] [] (cu mi 84 (upd (mi 84) 0 (chC (chN (fun p => costN T sh fe w (p / 2) (p % 2)) j))), ml, R0 rd, 136) := by
    refine upto ?_ ?_
    · intro v7
      refine g_Search_cheapestPlace (fun K Kl hK hC => ?_)
      exact ⟨fun h => ⟨rfl, hQ⟩, fun h => absurd (iNLE h) (by omega)⟩
    · intro j hj ih v7
      refine g_Search_cheapestPlace (fun K Kl hK hC => ?_)
      refine ⟨fun h => absurd (iLE h) (by omega), fun h => ?_⟩
      refine ⟨by decide, ?_⟩
      rw [pk_div (by omega) (by omega) (by omega)]
      refine ⟨by decide, ?_⟩
      rw [pk_rem (by omega) (by omega) (by omega)]
      refine hC _ _ _ _ (s_costOf hb hfc (hT' _) hw (hsh' _) (hfe' _) hwd (pl_half hj) (by omega) ?_)
      have ih := ih
      unfold chN at ih
      rw [nI1] at ih
      cases hc : costN T sh fe w (j / 2) (j % 2) with
      | none =>
        rw [hc] at ih
        exact ⟨fun _ => hK _ _ _ _ (ih _), fun h2 => absurd (by decide) h2⟩
      | some x =>
        have hx := costN_le hfe2 hc
        refine ⟨fun h2 => (iNN h2).elim, fun _ => ?_⟩
        rw [hc] at ih
        cases hr : chN (fun p => costN T sh fe w (p / 2) (p % 2)) j with
        | none =>
          rw [hr] at ih
          refine ⟨fun _ => ?_, fun h3 => absurd (by decide) h3⟩
          have ih := ih (.int (nI x))
          rw [show cu mi 84 (upd (mi 84) 0 (chC (some (j, x)))) = cu (cu mi 84 (upd (mi 84) 0 (chC none))) 84 (upd (cu mi 84 (upd (mi 84) 0 (chC none)) 84) 0 (nI x)) by rw [cu_cu, cu_self, upd_upd]; rfl] at ih
          exact hK _ _ _ _ ih
        | some py =>
          obtain ⟨p, y⟩ := py
          rw [hr] at ih
          have hp := chN_lt hr
          have hy := costN_le hfe2 hp.2
          refine ⟨fun h3 => (iNN h3).elim, fun _ => ?_⟩
          refine ⟨fun h3 => ?_, fun h3 => ?_⟩
          · have h3 : nI y ≤ nI x := h3
            have h3 := iLE h3
            have ih := ih (.int (nI x))
            simp only [if_neg (show ¬ x < y by omega)] at ih
            exact hK _ _ _ _ ih
          · have h3 : ¬ nI y ≤ nI x := h3
            have h3 := iNLE h3
            have ih := ih (.int (nI x))
            simp only [if_pos (show x < y by omega)] at ih
            rw [show cu mi 84 (upd (mi 84) 0 (chC (some (j, x)))) = cu (cu mi 84 (upd (mi 84) 0 (chC (some (p, y))))) 84 (upd (cu mi 84 (upd (mi 84) 0 (chC (some (p, y)))) 84) 0 (nI x)) by rw [cu_cu, cu_self, upd_upd]; rfl] at ih
            exact hK _ _ _ _ ih
  refine r_Search_cheapestPlace (by decide) (fun K Kl hK hC => ?_)
  refine hC _ _ _ _ (s_places (hT' _) hw ?_)
  exact hK _ _ _ _ (lp 0 (Nat.zero_le _) _)
end
