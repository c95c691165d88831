/-! ORDERS AS THE REFERENCE COUNTS THEM -/
def dgN (N m c i : Nat) : Nat := c / N ^ (m - 1 - i) % N
def dgL (N m c : Nat) : List Nat := (List.range m).map (dgN N m c)
/-- the words used by the first i of an order -/
def udN (l : Nat → Nat) : Nat → Nat
  | 0 => 0
  | i + 1 => udN l i ||| 2 ^ l i
def isO (k : Nat) (l : Nat → Nat) (m : Nat) : Bool := allN (fun i => (k / 2 ^ l i % 2 == 1) && (udN l i / 2 ^ l i % 2 == 0)) m
/-- the orders among the first codes -/
def rfN (k N m : Nat) : Nat → List (List Nat)
  | 0 => []
  | c + 1 => if isO k (nth 0 (dgL N m c)) m then rfN k N m c ++ [dgL N m c] else rfN k N m c
def nxO (N : Nat) : (Nat → Nat) → Nat → (Nat → Nat) × Bool
  | l, 0 => (l, false)
  | l, t + 1 => if l t + 1 < N then (updN l t (l t + 1), true) else nxO N (updN l t 0) t
theorem dgL_nth {N m c i : Nat} (h : i < m) : nth 0 (dgL N m c) i = dgN N m c i := by
  rw [nth_get]
  unfold dgL
  rw [List.getElem?_map, List.getElem?_range h]
  rfl
theorem rf_or : ∀ N, N < 7 → ∀ k, k < 2 ^ N → bcN k ≤ 4 → rfN k N (bcN k) (N ^ bcN k) = orL (ckL k N) (bcN k) (bcN k ^ bcN k) := by decide +kernel
theorem nx_dg : ∀ N, N < 7 → ∀ m, m < 5 → ∀ c, c < N ^ m → ((nxO N (dgN N m c) m).2 = decide (c + 1 < N ^ m) ∧ ∀ i, i < m → (c + 1 < N ^ m → (nxO N (dgN N m c) m).1 i = dgN N m (c + 1) i)) := by decide +kernel
theorem dg_lt {N m c i : Nat} (h : 0 < N) : dgN N m c i < N := Nat.mod_lt _ h
theorem udOr : ∀ g, g < 6 → ∀ f, f < 64 → nI f ||| (nI 1 <<< (nI g &&& 31)) = nI (f ||| 2 ^ g) ∧ f ||| 2 ^ g < 64 := by decide +kernel
theorem udN_lt {l : Nat → Nat} : ∀ i, (∀ j, j < i → l j < 6) → udN l i < 64
  | 0, _ => (show 0 < 64 by decide)
  | i + 1, h => (udOr (l i) (h i (by omega)) _ (udN_lt i (fun j hj => h j (by omega)))).2
theorem isO_cg {k : Nat} {l l' : Nat → Nat} {m : Nat} (h : ∀ i, i < m → l i = l' i) : isO k l m = isO k l' m := by
  have hu : ∀ i, i ≤ m → udN l i = udN l' i := fun i => by
    induction i with
    | zero => intro _; rfl
    | succ i ih => intro hi; rw [udN, udN, ih (by omega), h i (by omega)]
  rw [Bool.eq_iff_iff]
  unfold isO
  rw [allN_iff, allN_iff]
  constructor
  · intro hh i hi
    have := hh i hi
    rw [h i hi, hu i (by omega)] at this
    exact this
  · intro hh i hi
    have := hh i hi
    rw [← h i hi, ← hu i (by omega)] at this
    exact this
section
variable {d : Nat} {Q : Option Value → Mm → Prop} {A : St} {T S : Nat → Nat → Nat} {mi : Nat → Nat → Int32} {ml : Nat → Nat → Int64} {rd : Option Nat} {x y z : Int32}
theorem t_isOrder {k m : Nat} {l : Nat → Nat} (hk : k < 64) (hm : m ≤ 4) (em : mi 95 85 = nI m) (el : ∀ i, i < m → mi 126 i = nI (l i)) (hl : ∀ i, i < m → l i < 6) (h1 : isO k l m = true → Q (some (.int (nI 1))) (mi, ml, R0 rd, 136)) (h0 : isO k l m = false → Q (some (.int (nI 0))) (mi, ml, R0 rd, 136)) : Cd (d + 2) k_Mod_isOrder [.ref 95, .int (nI k)] (mi, ml, R0 rd, 136) Q := by
  have lp : ∀ i, i ≤ m → (∀ j, j < i → ((k / 2 ^ l j % 2 == 1) && (udN l j / 2 ^ l j % 2 == 0)) = true) → GoM (d + 1) k_Mod_isOrder 136 Q 4 [.ref 95, .int (nI k), .int (nI (udN l i)), .int (nI i)] [] (mi, ml, R0 rd, 136) := by
    refine upto ?_ ?_
    · intro hall
      exact g_Mod_isOrder (fun K Kl hK hC => ⟨fun _ => ⟨Or.inr rfl, rfl, h1 (allN_iff.mpr hall)⟩, fun z => absurd (jNLE z em) (by omega)⟩)
    · intro i hi ih hall
      have hl6 := hl i hi
      have ei := el i hi
      have hud := udN_lt (l := l) i (fun j hj => hl j (by omega))
      have ca : ∀ s (P : Option Value → Mm → Prop), s < 64 → (s / 2 ^ l i % 2 = 1 → P (some (.int (nI 1))) (mi, ml, R0 rd, 136)) → (s / 2 ^ l i % 2 = 0 → P (some (.int (nI 0))) (mi, ml, R0 rd, 136)) → Cd (d + 1) k_Mod_isOf [.int (nI s), .int (mi 126 i)] (mi, ml, R0 rd, 136) P := fun s P hs p1 p0 => by
        rw [ei]
        exact t_isOf (by omega) (by omega) p1 p0
      refine g_Mod_isOrder (fun K Kl hK hC => ⟨fun z => absurd (jLE z em) (by omega), fun _ => ⟨i, by omega, rfl, hC _ _ _ _ (ca k _ hk (fun b1 => ⟨fun a => absurd a (by decide), fun _ => ⟨i, by omega, rfl, hC _ _ _ _ (ca _ _ hud (fun b2 => ⟨fun a => absurd a (by decide), fun _ => ⟨Or.inl rfl, rfl, h0 ?_⟩⟩) (fun b2 => ⟨fun _ => ⟨i, by omega, rfl, hK _ _ _ _ ?_⟩, fun a => absurd (by decide) a⟩))⟩⟩) (fun b1 => ⟨fun _ => ⟨Or.inl rfl, rfl, h0 ?_⟩, fun a => absurd (by decide) a⟩))⟩⟩)
      · exact allN_not hi (by rw [b2]; simp)
      · have ih := ih (lt_s hall (by rw [b1, b2]; rfl))
        rw [udN, ← (udOr (l i) hl6 _ hud).1, nI1 i, ← ei] at ih
        exact ih
      · exact allN_not hi (by rw [b1]; rfl)
  exact r_Mod_isOrder (by decide) (fun K Kl hK hC => hK _ _ _ _ (lp 0 (Nat.zero_le _) lt_0))
/-- the next order -/
theorem t_nextOrder {N m : Nat} {l : Nat → Nat} (hN : N ≤ 6) (hm : m ≤ 4) (eN : mi 95 16 = nI N) (em : mi 95 85 = nI m) (el : ∀ i, i < m → mi 126 i = nI (l i)) (hl : ∀ i, i < m → l i < 6) (hQ : ∀ g : Nat → Int32, (∀ i, i < m → g i = nI ((nxO N l m).1 i)) → Q (some (.int (nI (nxO N l m).2.toNat))) (cu mi 126 g, ml, R0 rd, 136)) : Cd (d + 1) k_Mod_nextOrder [.ref 95] (mi, ml, R0 rd, 136) Q := by
  have lp : ∀ t, t ≤ m → ∀ (l' : Nat → Nat) (g : Nat → Int32), (∀ i, i < m → g i = nI (l' i)) → (∀ i, i < m → l' i < 6) → nxO N l' t = nxO N l m → ∀ x1, x1 = nI t - nI 1 → GoM d k_Mod_nextOrder 136 Q 7 [.ref 95, .int x1] [] (cu mi 126 g, ml, R0 rd, 136) := by
    intro t
    induction t with
    | zero =>
      intro _ l' g hg hl' e x1 hx
      have hq := hQ g (by rw [← e]; exact hg)
      rw [← e] at hq
      subst hx
      exact g_Mod_nextOrder (fun K Kl hK hC => ⟨fun _ => ⟨Or.inl rfl, rfl, hq⟩, fun a => absurd (by decide) a⟩)
    | succ t ih =>
      intro ht l' g hg hl' e x1 hx
      have hlt := hl' t (by omega)
      have et : x1 = nI t := by rw [hx, pk_sub (by omega)]; rfl
      subst et
      have gt := hg t (by omega)
      have e1 : g t + nI 1 = nI (l' t + 1) := by rw [gt, nI_add]
      rw [nxO] at e
      refine g_Mod_nextOrder (fun K Kl hK hC => ⟨fun a => (iNN a (by omega)).elim, fun _ => ⟨t, by omega, rfl, ⟨t, by omega, rfl, ⟨t, by omega, rfl, ⟨fun z => ⟨t, by omega, rfl, hK _ _ _ _ ?_⟩, fun z => ⟨Or.inr rfl, rfl, ?_⟩⟩⟩⟩⟩⟩)
      · have z : mi 95 16 ≤ upd g t (g t + nI 1) t := z
        rw [eN, pk_us, e1] at z
        rw [if_neg (by have := iLE z; omega)] at e
        have ih := ih (by omega) (updN l' t 0) (upd (upd g t (g t + nI 1)) t (nI 0)) (fun i hi => by
          unfold updN
          by_cases ei : i = t
          · rw [ei, pk_us, if_pos rfl]
          · rw [pk_un ei, pk_un ei, if_neg ei]; exact hg i hi) (fun i hi => by
          unfold updN
          split
          · decide
          · exact hl' i hi) e (nI t + (-1)) (by rw [sub1])
        rw [← cu2] at ih
        exact ih
      · have z : ¬ mi 95 16 ≤ upd g t (g t + nI 1) t := z
        rw [eN, pk_us, e1] at z
        rw [if_pos (iNLE z)] at e
        have hq := hQ (upd g t (g t + nI 1)) (fun i hi => by
          rw [← e]
          show _ = nI (updN l' t (l' t + 1) i)
          unfold updN
          by_cases ei : i = t
          · rw [ei, pk_us, if_pos rfl, e1]
          · rw [pk_un ei, if_neg ei]; exact hg i hi)
        rw [← e, ← cuu] at hq
        exact hq
  have l0 := lp m (Nat.le_refl _) l (mi 126) el hl rfl (mi 95 85 - nI 1) (by rw [em])
  rw [cu_id] at l0
  exact r_Mod_nextOrder (by decide) (fun K Kl hK hC => hK _ _ _ _ l0)
end
