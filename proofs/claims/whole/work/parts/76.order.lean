/-! ORDERS OF A SUMMER (the class) -/
/-- the words of a mask -/
def ckL (k : Nat) : Nat → List Nat
  | 0 => []
  | w + 1 => if k / 2 ^ w % 2 = 1 then ckL k w ++ [w] else ckL k w
def usN (m c : Nat) : Nat → Nat
  | 0 => 0
  | t + 1 => usN m c t ||| 2 ^ (c / m ^ t % m)
/-- the words that a code chooses -/
def ocL (ck : List Nat) (m c : Nat) : List Nat := (List.range m).map (fun i => nth 0 ck (c / m ^ (m - 1 - i) % m))
/-- the orders of the first codes -/
def orL (ck : List Nat) (m : Nat) : Nat → List (List Nat)
  | 0 => []
  | c + 1 => if usN m c m = 2 ^ m - 1 then orL ck m c ++ [ocL ck m c] else orL ck m c
def bsF (f : List Nat → Nat) (b : Option (Nat × List Nat)) (o : List Nat) : Option (Nat × List Nat) := match b with
  | none => some (f o, o)
  | some (s, q) => if s < f o then some (f o, o) else some (s, q)
def bsN (f : List Nat → Nat) (L : List (List Nat)) : Option (Nat × List Nat) := L.foldl (bsF f) none
theorem bsN_s (f : List Nat → Nat) (L : List (List Nat)) (o : List Nat) : bsN f (L ++ [o]) = bsF f (bsN f L) o := by
  unfold bsN
  rw [List.foldl_append]
  rfl
def BO (r : Option (Nat × List Nat)) (m : Nat) (mi : Nat → Nat → Int32) : Prop := match r with
  | none => mi 84 6 = -1
  | some (s, o) => mi 84 6 = nI s ∧ ∀ i, i < m → mi 85 i = nI (nth 0 o i)
theorem nth_app {d : Nat} {l r : List Nat} {i : Nat} (h : i < l.length) : nth d (l ++ r) i = nth d l i := by
  induction l generalizing i with
  | nil => cases h
  | cons a l ih => cases i with
    | zero => rfl
    | succ i => exact ih (by simpa using h)
theorem nth_end {d x : Nat} {l : List Nat} : nth d (l ++ [x]) l.length = x := by
  induction l with
  | nil => rfl
  | cons a l ih => exact ih
theorem nth_get {d : Nat} {l : List Nat} {i : Nat} : nth d l i = (l[i]?).getD d := by
  induction l generalizing i with
  | nil => cases i <;> rfl
  | cons a l ih => cases i with
    | zero => rfl
    | succ i => exact ih
theorem ocL_nth {ck : List Nat} {m c i : Nat} (h : i < m) : nth 0 (ocL ck m c) i = nth 0 ck (c / m ^ (m - 1 - i) % m) := by
  rw [nth_get]
  unfold ocL
  rw [List.getElem?_map, List.getElem?_range h]
  rfl
theorem ckL_pre (k : Nat) {w : Nat} : ∀ W, w ≤ W → ∃ r, ckL k W = ckL k w ++ r
  | 0, h => ⟨[], by rw [show w = 0 by omega, List.append_nil]⟩
  | W + 1, h => by
    by_cases he : w = W + 1
    · subst he; exact ⟨[], by rw [List.append_nil]⟩
    · obtain ⟨r, hr⟩ := ckL_pre (w := w) k W (by omega)
      rw [ckL]
      split
      · exact ⟨r ++ [W], by rw [hr, List.append_assoc]⟩
      · exact ⟨r, hr⟩
theorem ckL_lt (k : Nat) : ∀ W i, i < (ckL k W).length → nth 0 (ckL k W) i < W
  | 0, i, h => by cases h
  | W + 1, i, h => by
    rw [ckL] at h ⊢
    split at h
    · rename_i hc
      rw [if_pos hc]
      by_cases hi : i < (ckL k W).length
      · rw [nth_app hi]
        have := ckL_lt k W i hi
        omega
      · rw [List.length_append] at h
        have : i = (ckL k W).length := by
          have : i < (ckL k W).length + 1 := h
          omega
        rw [this, nth_end]
        omega
    · rename_i hc
      rw [if_neg hc]
      have := ckL_lt k W i h
      omega
theorem orB2 : ∀ g, g < 4 → ∀ f, f < 16 → nI f ||| (nI 1 <<< (nI g &&& 31)) = nI (f ||| 2 ^ g) ∧ f ||| 2 ^ g < 16 := by decide +kernel
theorem usB {m c : Nat} (hm : 1 ≤ m ∧ m ≤ 4) : ∀ t, usN m c t < 16
  | 0 => (by decide : 0 < 16)
  | t + 1 => (orB2 _ (by have := Nat.mod_lt (c / m ^ t) (show m > 0 by omega); omega) _ (usB hm t)).2
theorem mmE : ∀ m, m ≤ 4 → (nI 1 <<< (nI m &&& 31)) - nI 1 = nI (2 ^ m - 1) ∧ m ^ m ≤ 256 ∧ 2 ^ m - 1 < 16 := by decide +kernel
theorem mpow {m : Nat} (h : m ≤ 4) : ∀ j, j ≤ m → m ^ j ≤ 256 := by
  have : ∀ m, m ≤ 4 → ∀ j, j ≤ m → m ^ j ≤ 256 := by decide +kernel
  exact this m h
section
variable {d : Nat} {Q : Option Value → Mm → Prop} {T S : Nat → Nat → Nat} {mi : Nat → Nat → Int32} {ml : Nat → Nat → Int64} {rd : Option Nat} {N : Nat → Nat → Nat}
set_option maxHeartbeats 1000000 in
theorem s_isOrder {m c : Nat} (hm : 1 ≤ m ∧ m ≤ 4) (hc : c < 256) {ck : List Nat} (hck : ∀ i, i < m → mi 92 i = nI (nth 0 ck i)) (h1 : usN m c m = 2 ^ m - 1 → ∀ g : Nat → Int32, (∀ i, i < m → g i = nI (nth 0 (ocL ck m c) i)) → Q (some (.int (nI 1))) (cu mi 93 g, ml, R0 rd, 136)) (h0 : usN m c m ≠ 2 ^ m - 1 → ∀ g, Q (some (.int (nI 0))) (cu mi 93 g, ml, R0 rd, 136)) : Cd (d + 1) k_Search_isOrder [.ref 84, .int (nI c), .int (nI m)] (mi, ml, R0 rd, 136) Q := by
  have hdig : ∀ t, c / m ^ t % m < m := fun t => Nat.mod_lt _ (by omega)
  have lp : ∀ t, t ≤ m → ∀ v6, ∀ g : Nat → Int32, (∀ i, m - t ≤ i → i < m → g i = nI (nth 0 (ocL ck m c) i)) → GoM d k_Search_isOrder 136 Q 10 [.ref 84, .int (nI c), .int (nI m), .int (nI (usN m c t)), .int (nI (c / m ^ t)), .int (nI (m - t) - nI 1), v6] [] (cu mi 93 g, ml, R0 rd, 136) := by
    refine upto ?_ ?_
    · intro v6 g hg
      have hu := usB (c := c) hm m
      have em := mmE m hm.2
      refine g_Search_isOrder (fun K Kl hK hC => ?_)
      rw [Nat.sub_self]
      refine ⟨fun _ => ?_, fun h => absurd (by decide) h⟩
      refine ⟨fun h => ⟨Or.inl rfl, rfl, h0 (fun e => h ?_) g⟩, fun h => ⟨Or.inr rfl, rfl, h1 ?_ g (fun i hi => hg i (by omega) hi)⟩⟩
      · rw [e]; exact em.1.symm
      · have h : nI (usN m c m) = (nI 1 <<< (nI m &&& 31)) - nI 1 := h
        rw [em.1] at h
        exact iEQ h
    · intro t ht ih v6 g hg
      obtain ⟨i, hi⟩ : ∃ i, m - t = i + 1 := ⟨m - t - 1, by omega⟩
      have hi3 : m - (t + 1) = i := by omega
      rw [hi]
      rw [hi3] at ih
      have ei : nI (i + 1) - nI 1 = nI i := nI_pred i
      have hcl : c / m ^ t ≤ c := Nat.div_le_self _ _
      have hd2 := hdig t
      have hu := usB (c := c) hm t
      have eor := (orB2 (c / m ^ t % m) (by omega) _ hu).1
      refine g_Search_isOrder (fun K Kl hK hC => ?_)
      refine ⟨fun h => ?_, fun h => ⟨fun e => absurd (iZ e) (by omega), ?_⟩⟩
      · have h : nI (i + 1) - nI 1 < 0 := h
        rw [ei] at h
        exact (iNN h).elim
      · rw [pk_rem (by omega) (by omega) (by omega)]
        refine ⟨c / m ^ t % m, by omega, rfl, i, by omega, ei, fun e => absurd (iZ e) (by omega), ?_⟩
        rw [pk_div (by omega) (by omega) (by omega)]
        have ih := ih (.int (nI (c / m ^ t % m))) (upd g i (mi 92 (c / m ^ t % m))) (fun x hx hx2 => by
          by_cases hxi : x = i
          · subst hxi
            rw [pk_us, ocL_nth hx2, hck _ hd2, show m - 1 - x = t by omega]
          · rw [pk_un hxi]; exact hg x (by omega) hx2)
        rw [sub1, ← cuu, show usN m c (t + 1) = usN m c t ||| 2 ^ (c / m ^ t % m) from rfl, ← eor, show c / m ^ (t + 1) = c / m ^ t / m by rw [Nat.pow_succ, Nat.div_div_eq_div_mul]] at ih
        rw [ei]
        exact hK _ _ _ _ ih
  refine r_Search_isOrder (by decide) (fun K Kl hK hC => ?_)
  have := lp 0 (Nat.zero_le _) .null (mi 93) (fun i h h2 => absurd h (by omega))
  rw [cu_id, Nat.pow_zero, Nat.div_one] at this
  exact hK _ _ _ _ this
end
