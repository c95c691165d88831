/-! THE REFERENCE: what a knot comes to -/
theorem shp_g {T : Nat → Nat → Nat} (hw : wfT T) {g : Nat} (hg : g < T 0 3) : shpN T (T 5 g) = T 6 g := by
  unfold shpN
  by_cases hf : fnd (fun i => T 5 i == T 5 g) (T 0 3) < T 0 3
  · rw [if_pos hf]
    have := fnd_hit hf
    rw [beq_iff_eq] at this
    rw [hw.gld _ _ hf hg this]
  · have e : fnd (fun i => T 5 i == T 5 g) (T 0 3) = T 0 3 := by have := fnd_le (fun i => T 5 i == T 5 g) (T 0 3); omega
    have := fnd_min (p := fun i => T 5 i == T 5 g) (n := T 0 3) (i := g) (by omega)
    simp at this
theorem vow_iff {T : Nat → Nat → Nat} (hw : wfT T) (s : Nat) : vowN T s = true ↔ ∃ g, g < T 0 3 ∧ T 6 g = s ∧ (T 5 g = 1 ∨ T 5 g = 5 ∨ T 5 g = 9 ∨ T 5 g = 15 ∨ T 5 g = 21) := by
  have key : ∀ c, s ≠ 0 → s = shpN T c → ∃ g, g < T 0 3 ∧ T 6 g = s ∧ T 5 g = c := fun c hs e => by
    unfold shpN at e
    split at e
    · rename_i hf
      have := fnd_hit hf
      rw [beq_iff_eq] at this
      exact ⟨_, hf, e.symm, this⟩
    · exact absurd e hs
  unfold vowN
  simp only [Bool.and_eq_true, Bool.or_eq_true, beq_iff_eq, Bool.not_eq_true', beq_eq_false_iff_ne]
  constructor
  · rintro ⟨h0, h⟩
    rcases h with (((h | h) | h) | h) | h
    · obtain ⟨g, a, b, c⟩ := key _ h0 h; exact ⟨g, a, b, Or.inl c⟩
    · obtain ⟨g, a, b, c⟩ := key _ h0 h; exact ⟨g, a, b, Or.inr (Or.inl c)⟩
    · obtain ⟨g, a, b, c⟩ := key _ h0 h; exact ⟨g, a, b, Or.inr (Or.inr (Or.inl c))⟩
    · obtain ⟨g, a, b, c⟩ := key _ h0 h; exact ⟨g, a, b, Or.inr (Or.inr (Or.inr (Or.inl c)))⟩
    · obtain ⟨g, a, b, c⟩ := key _ h0 h; exact ⟨g, a, b, Or.inr (Or.inr (Or.inr (Or.inr c)))⟩
  · rintro ⟨g, hg, e, h⟩
    have h1 := hw.gs g hg
    have e2 := shp_g hw hg
    rw [e] at e2
    refine ⟨by omega, ?_⟩
    rcases h with h | h | h | h | h <;> rw [h] at e2 <;> simp [e2]
/-- nothing but the error's mark has changed -/
def LF (mi mi' : Nat → Nat → Int32) : Prop := ∀ c k, (c ≠ 95 ∨ k ≠ 67) → mi' c k = mi c k
theorem LF.none {mi : Nat → Nat → Int32} : LF mi mi := fun _ _ _ => rfl
theorem LF.trans {a b c : Nat → Nat → Int32} (h : LF a b) (h' : LF b c) : LF a c := fun i k hk => (h' i k hk).trans (h i k hk)
theorem LF.cu {mi mi' : Nat → Nat → Int32} {x : Int32} (h : LF mi mi') : LF mi (cu mi' 95 (upd (mi' 95) 67 x)) := fun a k hk => by
  by_cases e : a = 95
  · subst e
    rw [cu_self, pk_un (by omega)]
    exact h _ _ hk
  · rw [cu_ne e]; exact h _ _ hk
theorem LF.mf {mi mi' : Nat → Nat → Int32} (h : LF mi mi') : MF mi mi' := fun c k hk => h c k (by
  by_cases e : c = 95
  · refine Or.inr (fun e2 => ?_)
    rw [e, e2] at hk
    cases hk
  · exact Or.inl e)
theorem jn13_0 (a b : Int64) (h : a = 0) : jnN 13 a b = some (a * b) := by
  show (if a ≠ 0 ∧ _ then _ else _) = _
  rw [if_neg (fun z => z.1 h)]
theorem jn13_b0 {a b : Int64} (hb : b = 0) (h : bI a) : jnN 13 a b = some (a * b) := by
  show (if a ≠ 0 ∧ 1000000000000 / absL a < absL b then _ else _) = _
  refine if_neg (fun z => ?_)
  have h1 := absL_int h
  have hz : a.toInt ≠ 0 := fun e => z.1 (Int64.toInt_inj.mp e)
  have hpos : 0 < (absL a).toInt := by rw [h1]; omega
  have h2 := z.2
  rw [Int64.lt_iff_toInt_lt, lg_ldiv_nonneg (by decide) hpos, hb] at h2
  have h2 : 1000000000000 / (absL a).toInt < 0 := h2
  have := Int.ediv_nonneg (show (0 : Int) ≤ 1000000000000 by decide) (Int.le_of_lt hpos)
  omega
/-- what a knot comes to, by the values that lie there -/
def vK (T : Nat → Nat → Nat) (nm : Nat → Int64) (i : Nat) (g : Nat → Int64) : Option Int64 := if T 17 i = 0 then some (lN (T 18 i)) else if T 17 i = 1 then some (nm (T 18 i)) else if T 17 i = 2 then some (if g (nth 0 (hdN T i) 0) = 0 then 1 else 0) else jnN (T 17 i) (g (nth 0 (hdN T i) 1)) (g (nth 0 (hdN T i) 0))
theorem hd_lt (T : Nat → Nat → Nat) : ∀ i x, x ∈ hdN T i → x < i
  | 0, x, h => by cases h
  | i + 1, x, h => by
    have ih := hd_lt T i
    unfold hdN at h
    rcases List.mem_cons.mp h with e | e
    · omega
    · have : x ∈ hdN T i := by
        split at e
        · exact e
        · split at e
          · exact List.mem_of_mem_tail e
          · exact List.mem_of_mem_tail (List.mem_of_mem_tail e)
      have := ih x this
      omega
theorem nth_lt {l : List Nat} {n : Nat} (hn : 0 < n) (h : ∀ x, x ∈ l → x < n) (j : Nat) : nth 0 l j < n := by
  rw [nth_get]
  cases hj : l[j]? with
  | none => exact hn
  | some x => exact h x (List.mem_of_getElem? hj)
section
variable {d : Nat} {Q : Option Value → Mm → Prop} {A : St} {T S : Nat → Nat → Nat} {mi : Nat → Nat → Int32} {ml : Nat → Nat → Int64} {rd : Option Nat} {x y z : Int32}
theorem t_isVowel (hT : MT T mi) (hw : wfT T) {s : Nat} (hs : s < 2 ^ 31) (h1 : vowN T s = true → Q (some (.int (nI 1))) (mi, ml, R0 rd, 136)) (h0 : vowN T s = false → Q (some (.int (nI 0))) (mi, ml, R0 rd, 136)) : Cd (d + 1) k_Mod_isVowel [.ref 95, .int (nI s)] (mi, ml, R0 rd, 136) Q := by
  have h9 := hw.gl9
  have lp : ∀ j, j ≤ T 0 3 → (∀ g, g < j → ¬ (T 6 g = s ∧ (T 5 g = 1 ∨ T 5 g = 5 ∨ T 5 g = 9 ∨ T 5 g = 15 ∨ T 5 g = 21))) → ∀ v3, GoM d k_Mod_isVowel 136 Q 2 [.ref 95, .int (nI s), .int (nI j), v3] [] (mi, ml, R0 rd, 136) := by
    refine upto ?_ ?_
    · intro hall v3
      refine g_Mod_isVowel (fun K Kl hK hC => ⟨fun _ => ⟨Or.inl rfl, rfl, h0 ?_⟩, fun z => absurd (jNLE z hT.glyphs) (by omega)⟩)
      cases hv : vowN T s with
      | false => rfl
      | true =>
        obtain ⟨g, hg, h⟩ := (vow_iff hw s).mp hv
        exact absurd h (hall g hg)
    · intro j hj ih hall v3
      have eg : mi 105 j = nI (T 6 j) := hT.gs j hj
      have el : mi 104 j = nI (T 5 j) := hT.gl j hj
      have hgs := hw.gs j hj
      have hgl := hw.gl j hj
      have go : ¬ (T 6 j = s ∧ (T 5 j = 1 ∨ T 5 j = 5 ∨ T 5 j = 9 ∨ T 5 j = 15 ∨ T 5 j = 21)) → GoM d k_Mod_isVowel 136 Q 2 [.ref 95, .int (nI s), .int (nI j + nI 1), .int (mi 104 j)] [] (mi, ml, R0 rd, 136) := fun hn => by
        have := ih (lt_s hall hn) (.int (mi 104 j))
        rw [nI1 j] at this
        exact this
      have yes : mi 105 j = nI s → (T 5 j = 1 ∨ T 5 j = 5 ∨ T 5 j = 9 ∨ T 5 j = 15 ∨ T 5 j = 21) → Q (some (.int (nI 1))) (mi, ml, R0 rd, 136) := fun h2 h3 => h1 ((vow_iff hw s).mpr ⟨j, hj, jEQ h2, h3⟩)
      refine g_Mod_isVowel (fun K Kl hK hC => ⟨fun z => absurd (jLE z hT.glyphs) (by omega), fun _ => ⟨j, by omega, rfl, ⟨j, by omega, rfl, ⟨fun z => hK _ _ _ _ (go (fun q => z (eg.trans (by rw [q.1])))), fun z => ⟨fun a => ⟨Or.inr rfl, rfl, yes z (Or.inl (jEQ a))⟩, fun a => ⟨fun b => ⟨Or.inr rfl, rfl, yes z (Or.inr (Or.inl (jEQ b)))⟩, fun b => ⟨fun c => ⟨Or.inr rfl, rfl, yes z (Or.inr (Or.inr (Or.inl (jEQ c))))⟩, fun c => ⟨fun e => ⟨Or.inr rfl, rfl, yes z (Or.inr (Or.inr (Or.inr (Or.inl (jEQ e)))))⟩, fun e => ⟨fun f => hK _ _ _ _ (go (fun q => ?_)), fun f => ⟨Or.inr rfl, rfl, yes z (Or.inr (Or.inr (Or.inr (Or.inr (jEQ f)))))⟩⟩⟩⟩⟩⟩⟩⟩⟩⟩)
      have a := jNE (a := T 5 j) (b := 1) a
      have b := jNE (a := T 5 j) (b := 5) b
      have c := jNE (a := T 5 j) (b := 9) c
      have e := jNE (a := T 5 j) (b := 15) e
      have f := jNE (a := T 5 j) (b := 21) f
      omega
  exact r_Mod_isVowel (by decide) (fun K Kl hK hC => hK _ _ _ _ (lp 0 (Nat.zero_le _) lt_0 _))
theorem t_bounded {e : Nat} (he : mi 95 67 = nI e) (he1 : e ≤ 1) {n : Int64} (h1 : (e = 1 ∨ bdN n = none) → Q (some (.long 0)) (cu mi 95 (upd (mi 95) 67 (nI 1)), ml, R0 rd, 136)) (h0 : e = 0 → bdN n = some n → Q (some (.long n)) (cu mi 95 (upd (mi 95) 67 (nI 0)), ml, R0 rd, 136)) : Cd (d + 1) k_Mod_bounded [.ref 95, .long n] (mi, ml, R0 rd, 136) Q := by
  refine r_Mod_bounded (by decide) (fun K Kl hK hC => ⟨fun z => ⟨Or.inr rfl, ⟨fun a => absurd (show nI 1 = 0 from a) (by decide), fun _ => ⟨rfl, h1 ?_⟩⟩⟩, fun z => ⟨fun z2 => ⟨Or.inr rfl, ⟨fun a => absurd (show nI 1 = 0 from a) (by decide), fun _ => ⟨rfl, h1 ?_⟩⟩⟩, fun z2 => ⟨fun z3 => ⟨Or.inl rfl, ⟨fun _ => ⟨rfl, h0 ?_ ?_⟩, fun a => absurd (show nI 0 = 0 from rfl) a⟩⟩, fun z3 => ⟨Or.inr rfl, ⟨fun a => absurd (show nI 1 = 0 from a) (by decide), fun _ => ⟨rfl, h1 ?_⟩⟩⟩⟩⟩⟩)
  · have z : ¬ mi 95 67 = 0 := z
    have := jNZ z he
    omega
  · refine Or.inr ?_
    unfold bdN
    exact if_pos (Or.inl (cGt z2))
  · have z : mi 95 67 = 0 := z
    exact jZ z he
  · unfold bdN
    exact if_neg (fun q => q.elim (cNGt z2) (lg_le_not_lt (cGe z3)))
  · refine Or.inr ?_
    unfold bdN
    exact if_pos (Or.inr (lNlt (cNGe z3)))
theorem t_compares {k : Nat} (hk : 5 ≤ k ∧ k ≤ 10) {xk : Int32} (ek : xk = nI k) {a b : Int64} (h1 : jnN k a b = some 1 → Q (some (.int (nI 1))) (mi, ml, R0 rd, 136)) (h0 : jnN k a b = some 0 → Q (some (.int (nI 0))) (mi, ml, R0 rd, 136)) : Cd (d + 1) k_Mod_compares [.int xk, .long a, .long b] (mi, ml, R0 rd, 136) Q := by
  have : k = 5 ∨ k = 6 ∨ k = 7 ∨ k = 8 ∨ k = 9 ∨ k = 10 := by omega
  refine r_Mod_compares (by decide) (fun K Kl hK hC => ?_)
  rcases this with rfl | rfl | rfl | rfl | rfl | rfl
  · have h1 : some (if a < b then (1 : Int64) else 0) = some 1 → _ := h1
    have h0 : some (if a < b then (1 : Int64) else 0) = some 0 → _ := h0
    refine ⟨fun _ => ?_, fun h => absurd ek h⟩
    exact ⟨fun h => ⟨Or.inl rfl, rfl, h0 (congrArg some (if_neg (lg_le_not_lt (cGe h))))⟩, fun h => ⟨Or.inr rfl, rfl, h1 (congrArg some (if_pos (lNlt (cNGe h))))⟩⟩
  · have h1 : some (if a ≤ b then (1 : Int64) else 0) = some 1 → _ := h1
    have h0 : some (if a ≤ b then (1 : Int64) else 0) = some 0 → _ := h0
    refine ⟨fun h => absurd (ek.symm.trans h) (by decide), fun _ => ?_⟩
    refine swP_c (fun _ => ?_) (fun h => absurd ek h)
    exact ⟨fun h => ⟨Or.inl rfl, rfl, h0 (congrArg some (if_neg (lg_lt_not_le (cGt h))))⟩, fun h => ⟨Or.inr rfl, rfl, h1 (congrArg some (if_pos (lNle (cNGt h))))⟩⟩
  · have h1 : some (if a = b then (1 : Int64) else 0) = some 1 → _ := h1
    have h0 : some (if a = b then (1 : Int64) else 0) = some 0 → _ := h0
    refine ⟨fun h => absurd (ek.symm.trans h) (by decide), fun _ => ?_⟩
    refine swP_c (fun h => absurd (ek.symm.trans h) (by decide)) (fun _ => ?_)
    refine swP_c (fun _ => ?_) (fun h => absurd ek h)
    exact ⟨fun h => ⟨Or.inl rfl, rfl, h0 (congrArg some (if_neg (cNEq h)))⟩, fun h => ⟨Or.inr rfl, rfl, h1 (congrArg some (if_pos (cEq h)))⟩⟩
  · have h1 : some (if a ≠ b then (1 : Int64) else 0) = some 1 → _ := h1
    have h0 : some (if a ≠ b then (1 : Int64) else 0) = some 0 → _ := h0
    refine ⟨fun h => absurd (ek.symm.trans h) (by decide), fun _ => ?_⟩
    refine swP_c (fun h => absurd (ek.symm.trans h) (by decide)) (fun _ => ?_)
    refine swP_c (fun h => absurd (ek.symm.trans h) (by decide)) (fun _ => ?_)
    refine swP_c (fun _ => ?_) (fun h => absurd ek h)
    exact ⟨fun h => ⟨Or.inl rfl, rfl, h0 (congrArg some (if_neg (fun e => e (cEq h))))⟩, fun h => ⟨Or.inr rfl, rfl, h1 (congrArg some (if_pos (cNEq h)))⟩⟩
  · have h1 : some (if b ≤ a then (1 : Int64) else 0) = some 1 → _ := h1
    have h0 : some (if b ≤ a then (1 : Int64) else 0) = some 0 → _ := h0
    refine ⟨fun h => absurd (ek.symm.trans h) (by decide), fun _ => ?_⟩
    refine swP_c (fun h => absurd (ek.symm.trans h) (by decide)) (fun _ => ?_)
    refine swP_c (fun h => absurd (ek.symm.trans h) (by decide)) (fun _ => ?_)
    refine swP_c (fun h => absurd (ek.symm.trans h) (by decide)) (fun _ => ?_)
    refine swP_c (fun _ => ?_) (fun h => absurd ek h)
    exact ⟨fun h => ⟨Or.inl rfl, rfl, h0 (congrArg some (if_neg (lg_lt_not_le (cLt h))))⟩, fun h => ⟨Or.inr rfl, rfl, h1 (congrArg some (if_pos (lNle (cNLt h))))⟩⟩
  · have h1 : some (if b < a then (1 : Int64) else 0) = some 1 → _ := h1
    have h0 : some (if b < a then (1 : Int64) else 0) = some 0 → _ := h0
    refine ⟨fun h => absurd (ek.symm.trans h) (by decide), fun _ => ?_⟩
    refine swP_c (fun h => absurd (ek.symm.trans h) (by decide)) (fun _ => ?_)
    refine swP_c (fun h => absurd (ek.symm.trans h) (by decide)) (fun _ => ?_)
    refine swP_c (fun h => absurd (ek.symm.trans h) (by decide)) (fun _ => ?_)
    refine swP_c (fun h => absurd (ek.symm.trans h) (by decide)) (fun _ => ?_)
    refine swP_n ?_
    exact ⟨fun h => ⟨Or.inl rfl, rfl, h0 (congrArg some (if_neg (lg_le_not_lt (cLe h))))⟩, fun h => ⟨Or.inr rfl, rfl, h1 (congrArg some (if_pos (lNlt (cNLe h))))⟩⟩
set_option maxHeartbeats 1000000 in
theorem t_times {e : Nat} (he : mi 95 67 = nI e) (he1 : e ≤ 1) {a b : Int64} (hb : e = 0 → bI a) (h1 : (e = 1 ∨ jnN 13 a b = none) → Q (some (.long 0)) (cu mi 95 (upd (mi 95) 67 (nI 1)), ml, R0 rd, 136)) (h0 : e = 0 → jnN 13 a b = some (a * b) → Q (some (.long (a * b))) (cu mi 95 (upd (mi 95) 67 (nI 0)), ml, R0 rd, 136)) : Cd (d + 1) k_Mod_times [.ref 95, .long a, .long b] (mi, ml, R0 rd, 136) Q := by
  have er : ¬ mi 95 67 = 0 → e = 1 := fun z => by
    have := jNZ z he
    omega
  have ok : mi 95 67 = 0 → e = 0 := fun z => jZ z he
  have k1 : ∀ x y : Int64, absL a = x → absL b = y → ¬ a = 0 → ¬ y ≤ 1000000000000 / x → jnN 13 a b = none := fun x y hx hy ha h => by
    show (if a ≠ 0 ∧ 1000000000000 / absL a < absL b then none else _) = none
    rw [hx, hy]
    exact if_pos ⟨ha, lNlt h⟩
  have k2 : ∀ x y : Int64, absL a = x → absL b = y → y ≤ 1000000000000 / x → jnN 13 a b = some (a * b) := fun x y hx hy h => by
    show (if a ≠ 0 ∧ 1000000000000 / absL a < absL b then none else _) = _
    rw [hx, hy]
    exact if_neg (fun q => lg_lt_not_le q.2 h)
  have nz : ∀ x : Int64, absL a = x → ¬ a = 0 → ¬ x = 0 := fun x hx ha h => absL_ne ha (hx.trans h)
  have pa : ¬ a < 0 → absL a = a := fun h => if_neg h
  have na : a < 0 → absL a = -a := fun h => if_pos h
  have pb : ¬ b < 0 → absL b = b := fun h => if_neg h
  have nb : b < 0 → absL b = -b := fun h => if_pos h
  refine r_Mod_times (by decide) (fun K Kl hK hC => ⟨fun a0 => ⟨fun z => ⟨Or.inr rfl, ⟨fun a => absurd (show nI 1 = 0 from a) (by decide), fun _ => ⟨rfl, h1 (Or.inl (er z))⟩⟩⟩, fun z => ⟨fun _ => ⟨Or.inl rfl, ⟨fun _ => ⟨rfl, h0 (ok z) (jn13_0 a b (cEq a0))⟩, fun a => absurd (show nI 0 = 0 from rfl) a⟩⟩, fun a => absurd (show nI 0 = 0 from rfl) a⟩⟩, fun a0 => ⟨fun b0 => ⟨fun z => ⟨Or.inr rfl, ⟨fun a => absurd (show nI 1 = 0 from a) (by decide), fun _ => ⟨rfl, h1 (Or.inl (er z))⟩⟩⟩, fun z => ⟨fun _ => ⟨Or.inl rfl, ⟨fun _ => ⟨rfl, h0 (ok z) (jn13_b0 (cEq b0) (hb (ok z)))⟩, fun a => absurd (show nI 0 = 0 from rfl) a⟩⟩, fun a => absurd (show nI 0 = 0 from rfl) a⟩⟩, fun b0 => ⟨fun sb => ⟨fun sa => ?_, fun sa => ?_⟩, fun sb => ⟨fun sa => ?_, fun sa => ?_⟩⟩⟩⟩)
  · have hx := pa (lg_le_not_lt (cGe sa))
    have hy := pb (lg_le_not_lt (cGe sb))
    exact ⟨nz _ hx (cNEq a0), ⟨fun le => ⟨fun z => ⟨Or.inr rfl, ⟨fun a => absurd (show nI 1 = 0 from a) (by decide), fun _ => ⟨rfl, h1 (Or.inl (er z))⟩⟩⟩, fun z => ⟨fun _ => ⟨Or.inl rfl, ⟨fun _ => ⟨rfl, h0 (ok z) (k2 _ _ hx hy (cLe le))⟩, fun a => absurd (show nI 0 = 0 from rfl) a⟩⟩, fun a => absurd (show nI 0 = 0 from rfl) a⟩⟩, fun le => ⟨fun z => ⟨Or.inr rfl, ⟨fun a => absurd (show nI 1 = 0 from a) (by decide), fun _ => ⟨rfl, h1 (Or.inl (er z))⟩⟩⟩, fun z => ⟨fun a => absurd (show nI 1 = 0 from a) (by decide), fun _ => ⟨Or.inr rfl, ⟨fun a => absurd (show nI 1 = 0 from a) (by decide), fun _ => ⟨rfl, h1 (Or.inr (k1 _ _ hx hy (cNEq a0) (cNLe le)))⟩⟩⟩⟩⟩⟩⟩
  · have hx := na (lNlt (cNGe sa))
    have hy := pb (lg_le_not_lt (cGe sb))
    exact ⟨nz _ hx (cNEq a0), ⟨fun le => ⟨fun z => ⟨Or.inr rfl, ⟨fun a => absurd (show nI 1 = 0 from a) (by decide), fun _ => ⟨rfl, h1 (Or.inl (er z))⟩⟩⟩, fun z => ⟨fun _ => ⟨Or.inl rfl, ⟨fun _ => ⟨rfl, h0 (ok z) (k2 _ _ hx hy (cLe le))⟩, fun a => absurd (show nI 0 = 0 from rfl) a⟩⟩, fun a => absurd (show nI 0 = 0 from rfl) a⟩⟩, fun le => ⟨fun z => ⟨Or.inr rfl, ⟨fun a => absurd (show nI 1 = 0 from a) (by decide), fun _ => ⟨rfl, h1 (Or.inl (er z))⟩⟩⟩, fun z => ⟨fun a => absurd (show nI 1 = 0 from a) (by decide), fun _ => ⟨Or.inr rfl, ⟨fun a => absurd (show nI 1 = 0 from a) (by decide), fun _ => ⟨rfl, h1 (Or.inr (k1 _ _ hx hy (cNEq a0) (cNLe le)))⟩⟩⟩⟩⟩⟩⟩
  · have hx := pa (lg_le_not_lt (cGe sa))
    have hy := nb (lNlt (cNGe sb))
    exact ⟨nz _ hx (cNEq a0), ⟨fun le => ⟨fun z => ⟨Or.inr rfl, ⟨fun a => absurd (show nI 1 = 0 from a) (by decide), fun _ => ⟨rfl, h1 (Or.inl (er z))⟩⟩⟩, fun z => ⟨fun _ => ⟨Or.inl rfl, ⟨fun _ => ⟨rfl, h0 (ok z) (k2 _ _ hx hy (cLe le))⟩, fun a => absurd (show nI 0 = 0 from rfl) a⟩⟩, fun a => absurd (show nI 0 = 0 from rfl) a⟩⟩, fun le => ⟨fun z => ⟨Or.inr rfl, ⟨fun a => absurd (show nI 1 = 0 from a) (by decide), fun _ => ⟨rfl, h1 (Or.inl (er z))⟩⟩⟩, fun z => ⟨fun a => absurd (show nI 1 = 0 from a) (by decide), fun _ => ⟨Or.inr rfl, ⟨fun a => absurd (show nI 1 = 0 from a) (by decide), fun _ => ⟨rfl, h1 (Or.inr (k1 _ _ hx hy (cNEq a0) (cNLe le)))⟩⟩⟩⟩⟩⟩⟩
  · have hx := na (lNlt (cNGe sa))
    have hy := nb (lNlt (cNGe sb))
    exact ⟨nz _ hx (cNEq a0), ⟨fun le => ⟨fun z => ⟨Or.inr rfl, ⟨fun a => absurd (show nI 1 = 0 from a) (by decide), fun _ => ⟨rfl, h1 (Or.inl (er z))⟩⟩⟩, fun z => ⟨fun _ => ⟨Or.inl rfl, ⟨fun _ => ⟨rfl, h0 (ok z) (k2 _ _ hx hy (cLe le))⟩, fun a => absurd (show nI 0 = 0 from rfl) a⟩⟩, fun a => absurd (show nI 0 = 0 from rfl) a⟩⟩, fun le => ⟨fun z => ⟨Or.inr rfl, ⟨fun a => absurd (show nI 1 = 0 from a) (by decide), fun _ => ⟨rfl, h1 (Or.inl (er z))⟩⟩⟩, fun z => ⟨fun a => absurd (show nI 1 = 0 from a) (by decide), fun _ => ⟨Or.inr rfl, ⟨fun a => absurd (show nI 1 = 0 from a) (by decide), fun _ => ⟨rfl, h1 (Or.inr (k1 _ _ hx hy (cNEq a0) (cNLe le)))⟩⟩⟩⟩⟩⟩⟩
set_option maxHeartbeats 4000000 in
theorem t_valueOf (hT : MT T mi) (hK : MK T mi) (hw : wfT T) (hl : wfL T) {nm : Nat → Int64} (hnm : ∀ i, i < 6 → ml 121 i = nm i) {i : Nat} (hi : i < T 0 9) {e : Nat} (he : mi 95 67 = nI e) (he1 : e ≤ 1) (hb : e = 0 → 3 ≤ T 17 i → bI (ml 122 (nth 0 (hdN T i) 1))) (h0 : e = 0 → ∀ v, vK T nm i (ml 122) = some v → ∀ mi', LF mi mi' → mi' 95 67 = nI 0 → Q (some (.long v)) (mi', ml, R0 rd, 136)) (h1 : (e = 1 ∨ vK T nm i (ml 122) = none) → ∀ v mi', LF mi mi' → mi' 95 67 = nI 1 → Q (some (.long v)) (mi', ml, R0 rd, 136)) : Cd (d + 2) k_Mod_valueOf [.ref 95, .int (nI i)] (mi, ml, R0 rd, 136) Q := by
  have h64 := hw.kn64
  have hk := hl.1 i hi
  have ek0 : mi 116 i = nI (T 17 i) := hT.kk i hi
  have hpt : T 17 i ≤ 1 → mi 117 i = nI (T 18 i) := hT.kn i hi
  have hK2 : T 17 i = 2 → mi 117 i = nI (nth 0 (hdN T i) 0) := (hK i hi).1
  have hK3 : 3 ≤ T 17 i → mi 118 i = nI (nth 0 (hdN T i) 0) ∧ mi 117 i = nI (nth 0 (hdN T i) 1) := (hK i hi).2
  have hn : ∀ j, nth 0 (hdN T i) j < 64 := fun j => by
    rcases Nat.eq_zero_or_pos i with z | z
    · subst z
      exact nth_lt (by decide) (fun x hx => by cases hx) j
    · have := nth_lt z (hd_lt T i) j
      omega
  /- a knot that makes no error -/
  have q0 : ∀ v, vK T nm i (ml 122) = some v → Q (some (.long v)) (mi, ml, R0 rd, 136) := fun v hv => by
    rcases (show e = 0 ∨ e = 1 by omega) with z | z
    · exact h0 z v hv mi LF.none (by rw [he, z])
    · exact h1 (Or.inl z) v mi LF.none (by rw [he, z])
  have z67 : ∀ x : Int32, cu mi 95 (upd (mi 95) 67 x) 95 67 = x := fun x => by rw [cu_self, pk_us]
  by_cases c0 : T 17 i = 0
  · have v0 : vK T nm i (ml 122) = some (lN (T 18 i)) := by unfold vK; rw [if_pos c0]
    have ep := hpt (by omega)
    have h18 := hk.2.1 c0
    have q := q0 _ v0
    rw [← nI_l (by omega), ← ep] at q
    rw [c0] at ek0
    exact r_Mod_valueOf (by decide) (fun K Kl hK hC => ⟨i, by omega, rfl, ⟨fun z => absurd ek0 z, fun _ => ⟨i, by omega, rfl, ⟨rfl, q⟩⟩⟩⟩)
  by_cases c1 : T 17 i = 1
  · have v0 : vK T nm i (ml 122) = some (nm (T 18 i)) := by unfold vK; rw [if_neg c0, if_pos c1]
    have ep := hpt (by omega)
    have h18 := hk.2.2.1 c1
    have q := q0 _ v0
    rw [← hnm _ h18] at q
    rw [c1] at ek0
    exact r_Mod_valueOf (by decide) (fun K Kl hK hC => ⟨i, by omega, rfl, ⟨fun _ => ⟨i, by omega, rfl, ⟨fun z => absurd ek0 z, fun _ => ⟨i, by omega, rfl, ⟨T 18 i, h18, ep, ⟨rfl, q⟩⟩⟩⟩⟩, fun z => absurd (ek0.symm.trans z) (by decide)⟩⟩)
  by_cases c2 : T 17 i = 2
  · have v0 : vK T nm i (ml 122) = some (if ml 122 (nth 0 (hdN T i) 0) = 0 then 1 else 0) := by unfold vK; rw [if_neg c0, if_neg c1, if_pos c2]
    have ep := hK2 c2
    have q := q0 _ v0
    rw [c2] at ek0
    refine r_Mod_valueOf (by decide) (fun K Kl hK hC => ⟨i, by omega, rfl, ⟨fun _ => ⟨i, by omega, rfl, ⟨fun _ => ⟨i, by omega, rfl, ⟨nth 0 (hdN T i) 0, hn 0, ep, ⟨i, by omega, rfl, ⟨fun z => absurd ek0 z, fun _ => ⟨fun y => ⟨rfl, ?_⟩, fun y => ⟨rfl, ?_⟩⟩⟩⟩⟩⟩, fun z => absurd (ek0.symm.trans z) (by decide)⟩⟩, fun z => absurd (ek0.symm.trans z) (by decide)⟩⟩)
    · rw [if_neg (cNEq y)] at q; exact q
    · rw [if_pos (cEq y)] at q; exact q
  have c3 : 3 ≤ T 17 i := by omega
  obtain ⟨e118, e117⟩ := hK3 c3
  have vk : vK T nm i (ml 122) = jnN (T 17 i) (ml 122 (nth 0 (hdN T i) 1)) (ml 122 (nth 0 (hdN T i) 0)) := by unfold vK; rw [if_neg c0, if_neg c1, if_neg c2]
  have hb := fun z => hb z c3
  rw [vk] at q0 h0 h1
  refine r_Mod_valueOf (by decide) (fun K Kl hK hC => ⟨i, by omega, rfl, ⟨fun _ => ⟨i, by omega, rfl, ⟨fun _ => ⟨i, by omega, rfl, ⟨nth 0 (hdN T i) 1, hn 1, e117, ⟨i, by omega, rfl, ⟨fun _ => ⟨i, by omega, rfl, ⟨nth 0 (hdN T i) 0, hn 0, e118, ⟨i, by omega, rfl, ?_⟩⟩⟩, fun z => absurd (jEQ z ek0 rfl) c2⟩⟩⟩⟩, fun z => absurd (jEQ z ek0 rfl) c1⟩⟩, fun z => absurd (jZ z ek0) c0⟩⟩)
  generalize ml 122 (nth 0 (hdN T i) 1) = a at q0 h0 h1 hb
  generalize ml 122 (nth 0 (hdN T i) 0) = b at q0 h0 h1
  have : T 17 i = 3 ∨ T 17 i = 4 ∨ T 17 i = 5 ∨ T 17 i = 6 ∨ T 17 i = 7 ∨ T 17 i = 8 ∨ T 17 i = 9 ∨ T 17 i = 10 ∨ T 17 i = 11 ∨ T 17 i = 12 ∨ T 17 i = 13 ∨ T 17 i = 14 := by omega
  rcases this with c | c | c | c | c | c | c | c | c | c | c | c
  · rw [c] at q0 h0 h1
    have ek : mi 116 i = nI 3 := by rw [ek0, c]
    have q0 : ∀ v, some (if a ≠ 0 ∧ b ≠ 0 then (1 : Int64) else 0) = some v → _ := q0
    refine ⟨fun _ => ?_, fun h => absurd ek h⟩
    exact ⟨fun y => ⟨rfl, q0 _ (congrArg some (if_neg (fun q => q.1 (cEq y))))⟩, fun y => ⟨fun y2 => ⟨rfl, q0 _ (congrArg some (if_neg (fun q => q.2 (cEq y2))))⟩, fun y2 => ⟨rfl, q0 _ (congrArg some (if_pos ⟨cNEq y, cNEq y2⟩))⟩⟩⟩
  · rw [c] at q0 h0 h1
    have ek : mi 116 i = nI 4 := by rw [ek0, c]
    have q0 : ∀ v, some (if a ≠ 0 ∨ b ≠ 0 then (1 : Int64) else 0) = some v → _ := q0
    refine ⟨fun h => absurd (ek.symm.trans h) (by decide), fun _ => ?_⟩
    refine swP_c (fun _ => ?_) (fun h => absurd ek h)
    exact ⟨fun y => ⟨rfl, q0 _ (congrArg some (if_pos (Or.inl (cNEq y))))⟩, fun y => ⟨fun y2 => ⟨rfl, q0 _ (congrArg some (if_neg (fun q => q.elim (fun p => p (cEq y)) (fun p => p (cEq y2)))))⟩, fun y2 => ⟨rfl, q0 _ (congrArg some (if_pos (Or.inr (cNEq y2))))⟩⟩⟩
  · rw [c] at q0 h0 h1
    have ek : mi 116 i = nI 5 := by rw [ek0, c]
    refine ⟨fun h => absurd (ek.symm.trans h) (by decide), fun _ => ?_⟩
    refine swP_c (fun h => absurd (ek.symm.trans h) (by decide)) (fun _ => ?_)
    refine swP_c (fun _ => ?_) (fun h => absurd ek h)
    exact ⟨i, by omega, rfl, hC _ _ _ _ (t_compares (by decide) ek (fun h => ⟨fun y => absurd y (by decide), fun _ => ⟨rfl, q0 _ h⟩⟩) (fun h => ⟨fun _ => ⟨rfl, q0 _ h⟩, fun y => absurd (by decide) y⟩))⟩
  · rw [c] at q0 h0 h1
    have ek : mi 116 i = nI 6 := by rw [ek0, c]
    refine ⟨fun h => absurd (ek.symm.trans h) (by decide), fun _ => ?_⟩
    refine swP_c (fun h => absurd (ek.symm.trans h) (by decide)) (fun _ => ?_)
    refine swP_c (fun h => absurd (ek.symm.trans h) (by decide)) (fun _ => ?_)
    refine swP_c (fun _ => ?_) (fun h => absurd ek h)
    exact ⟨i, by omega, rfl, hC _ _ _ _ (t_compares (by decide) ek (fun h => ⟨fun y => absurd y (by decide), fun _ => ⟨rfl, q0 _ h⟩⟩) (fun h => ⟨fun _ => ⟨rfl, q0 _ h⟩, fun y => absurd (by decide) y⟩))⟩
  · rw [c] at q0 h0 h1
    have ek : mi 116 i = nI 7 := by rw [ek0, c]
    refine ⟨fun h => absurd (ek.symm.trans h) (by decide), fun _ => ?_⟩
    refine swP_c (fun h => absurd (ek.symm.trans h) (by decide)) (fun _ => ?_)
    refine swP_c (fun h => absurd (ek.symm.trans h) (by decide)) (fun _ => ?_)
    refine swP_c (fun h => absurd (ek.symm.trans h) (by decide)) (fun _ => ?_)
    refine swP_c (fun _ => ?_) (fun h => absurd ek h)
    exact ⟨i, by omega, rfl, hC _ _ _ _ (t_compares (by decide) ek (fun h => ⟨fun y => absurd y (by decide), fun _ => ⟨rfl, q0 _ h⟩⟩) (fun h => ⟨fun _ => ⟨rfl, q0 _ h⟩, fun y => absurd (by decide) y⟩))⟩
  · rw [c] at q0 h0 h1
    have ek : mi 116 i = nI 8 := by rw [ek0, c]
    refine ⟨fun h => absurd (ek.symm.trans h) (by decide), fun _ => ?_⟩
    refine swP_c (fun h => absurd (ek.symm.trans h) (by decide)) (fun _ => ?_)
    refine swP_c (fun h => absurd (ek.symm.trans h) (by decide)) (fun _ => ?_)
    refine swP_c (fun h => absurd (ek.symm.trans h) (by decide)) (fun _ => ?_)
    refine swP_c (fun h => absurd (ek.symm.trans h) (by decide)) (fun _ => ?_)
    refine swP_c (fun _ => ?_) (fun h => absurd ek h)
    exact ⟨i, by omega, rfl, hC _ _ _ _ (t_compares (by decide) ek (fun h => ⟨fun y => absurd y (by decide), fun _ => ⟨rfl, q0 _ h⟩⟩) (fun h => ⟨fun _ => ⟨rfl, q0 _ h⟩, fun y => absurd (by decide) y⟩))⟩
  · rw [c] at q0 h0 h1
    have ek : mi 116 i = nI 9 := by rw [ek0, c]
    refine ⟨fun h => absurd (ek.symm.trans h) (by decide), fun _ => ?_⟩
    refine swP_c (fun h => absurd (ek.symm.trans h) (by decide)) (fun _ => ?_)
    refine swP_c (fun h => absurd (ek.symm.trans h) (by decide)) (fun _ => ?_)
    refine swP_c (fun h => absurd (ek.symm.trans h) (by decide)) (fun _ => ?_)
    refine swP_c (fun h => absurd (ek.symm.trans h) (by decide)) (fun _ => ?_)
    refine swP_c (fun h => absurd (ek.symm.trans h) (by decide)) (fun _ => ?_)
    refine swP_c (fun _ => ?_) (fun h => absurd ek h)
    exact ⟨i, by omega, rfl, hC _ _ _ _ (t_compares (by decide) ek (fun h => ⟨fun y => absurd y (by decide), fun _ => ⟨rfl, q0 _ h⟩⟩) (fun h => ⟨fun _ => ⟨rfl, q0 _ h⟩, fun y => absurd (by decide) y⟩))⟩
  · rw [c] at q0 h0 h1
    have ek : mi 116 i = nI 10 := by rw [ek0, c]
    refine ⟨fun h => absurd (ek.symm.trans h) (by decide), fun _ => ?_⟩
    refine swP_c (fun h => absurd (ek.symm.trans h) (by decide)) (fun _ => ?_)
    refine swP_c (fun h => absurd (ek.symm.trans h) (by decide)) (fun _ => ?_)
    refine swP_c (fun h => absurd (ek.symm.trans h) (by decide)) (fun _ => ?_)
    refine swP_c (fun h => absurd (ek.symm.trans h) (by decide)) (fun _ => ?_)
    refine swP_c (fun h => absurd (ek.symm.trans h) (by decide)) (fun _ => ?_)
    refine swP_c (fun h => absurd (ek.symm.trans h) (by decide)) (fun _ => ?_)
    refine swP_c (fun _ => ?_) (fun h => absurd ek h)
    exact ⟨i, by omega, rfl, hC _ _ _ _ (t_compares (by decide) ek (fun h => ⟨fun y => absurd y (by decide), fun _ => ⟨rfl, q0 _ h⟩⟩) (fun h => ⟨fun _ => ⟨rfl, q0 _ h⟩, fun y => absurd (by decide) y⟩))⟩
  · rw [c] at q0 h0 h1
    have ek : mi 116 i = nI 11 := by rw [ek0, c]
    refine ⟨fun h => absurd (ek.symm.trans h) (by decide), fun _ => ?_⟩
    refine swP_c (fun h => absurd (ek.symm.trans h) (by decide)) (fun _ => ?_)
    refine swP_c (fun h => absurd (ek.symm.trans h) (by decide)) (fun _ => ?_)
    refine swP_c (fun h => absurd (ek.symm.trans h) (by decide)) (fun _ => ?_)
    refine swP_c (fun h => absurd (ek.symm.trans h) (by decide)) (fun _ => ?_)
    refine swP_c (fun h => absurd (ek.symm.trans h) (by decide)) (fun _ => ?_)
    refine swP_c (fun h => absurd (ek.symm.trans h) (by decide)) (fun _ => ?_)
    refine swP_c (fun h => absurd (ek.symm.trans h) (by decide)) (fun _ => ?_)
    refine swP_c (fun _ => ?_) (fun h => absurd ek h)
    exact hC _ _ _ _ (t_bounded he he1 (fun h => ⟨rfl, h1 h _ _ LF.none.cu (z67 _)⟩) (fun h h2 => ⟨rfl, h0 h _ h2 _ LF.none.cu (z67 _)⟩))
  · rw [c] at q0 h0 h1
    have ek : mi 116 i = nI 12 := by rw [ek0, c]
    refine ⟨fun h => absurd (ek.symm.trans h) (by decide), fun _ => ?_⟩
    refine swP_c (fun h => absurd (ek.symm.trans h) (by decide)) (fun _ => ?_)
    refine swP_c (fun h => absurd (ek.symm.trans h) (by decide)) (fun _ => ?_)
    refine swP_c (fun h => absurd (ek.symm.trans h) (by decide)) (fun _ => ?_)
    refine swP_c (fun h => absurd (ek.symm.trans h) (by decide)) (fun _ => ?_)
    refine swP_c (fun h => absurd (ek.symm.trans h) (by decide)) (fun _ => ?_)
    refine swP_c (fun h => absurd (ek.symm.trans h) (by decide)) (fun _ => ?_)
    refine swP_c (fun h => absurd (ek.symm.trans h) (by decide)) (fun _ => ?_)
    refine swP_c (fun h => absurd (ek.symm.trans h) (by decide)) (fun _ => ?_)
    refine swP_c (fun _ => ?_) (fun h => absurd ek h)
    exact hC _ _ _ _ (t_bounded he he1 (fun h => ⟨rfl, h1 h _ _ LF.none.cu (z67 _)⟩) (fun h h2 => ⟨rfl, h0 h _ h2 _ LF.none.cu (z67 _)⟩))
  · rw [c] at q0 h0 h1
    have ek : mi 116 i = nI 13 := by rw [ek0, c]
    refine ⟨fun h => absurd (ek.symm.trans h) (by decide), fun _ => ?_⟩
    refine swP_c (fun h => absurd (ek.symm.trans h) (by decide)) (fun _ => ?_)
    refine swP_c (fun h => absurd (ek.symm.trans h) (by decide)) (fun _ => ?_)
    refine swP_c (fun h => absurd (ek.symm.trans h) (by decide)) (fun _ => ?_)
    refine swP_c (fun h => absurd (ek.symm.trans h) (by decide)) (fun _ => ?_)
    refine swP_c (fun h => absurd (ek.symm.trans h) (by decide)) (fun _ => ?_)
    refine swP_c (fun h => absurd (ek.symm.trans h) (by decide)) (fun _ => ?_)
    refine swP_c (fun h => absurd (ek.symm.trans h) (by decide)) (fun _ => ?_)
    refine swP_c (fun h => absurd (ek.symm.trans h) (by decide)) (fun _ => ?_)
    refine swP_c (fun h => absurd (ek.symm.trans h) (by decide)) (fun _ => ?_)
    refine swP_c (fun _ => ?_) (fun h => absurd ek h)
    exact hC _ _ _ _ (t_times he he1 hb (fun h => ⟨rfl, h1 h _ _ LF.none.cu (z67 _)⟩) (fun h h2 => ⟨rfl, h0 h _ h2 _ LF.none.cu (z67 _)⟩))
  · rw [c] at q0 h0 h1
    have ek : mi 116 i = nI 14 := by rw [ek0, c]
    have er : ¬ mi 95 67 = 0 → e = 1 := fun z => by
      have := jNZ z he
      omega
    have ok : mi 95 67 = 0 → e = 0 := fun z => jZ z he
    have jz : b = 0 → jnN 14 a b = none := fun h => if_pos h
    have jn : ¬ b = 0 → jnN 14 a b = some (a / b) := fun h => if_neg h
    refine ⟨fun h => absurd (ek.symm.trans h) (by decide), fun _ => ?_⟩
    refine swP_c (fun h => absurd (ek.symm.trans h) (by decide)) (fun _ => ?_)
    refine swP_c (fun h => absurd (ek.symm.trans h) (by decide)) (fun _ => ?_)
    refine swP_c (fun h => absurd (ek.symm.trans h) (by decide)) (fun _ => ?_)
    refine swP_c (fun h => absurd (ek.symm.trans h) (by decide)) (fun _ => ?_)
    refine swP_c (fun h => absurd (ek.symm.trans h) (by decide)) (fun _ => ?_)
    refine swP_c (fun h => absurd (ek.symm.trans h) (by decide)) (fun _ => ?_)
    refine swP_c (fun h => absurd (ek.symm.trans h) (by decide)) (fun _ => ?_)
    refine swP_c (fun h => absurd (ek.symm.trans h) (by decide)) (fun _ => ?_)
    refine swP_c (fun h => absurd (ek.symm.trans h) (by decide)) (fun _ => ?_)
    refine swP_c (fun h => absurd (ek.symm.trans h) (by decide)) (fun _ => ?_)
    refine swP_c (fun _ => ?_) (fun h => absurd ek h)
    exact ⟨fun z => ⟨Or.inr rfl, ⟨fun y => absurd (show nI 1 = 0 from y) (by decide), fun _ => ⟨rfl, h1 (Or.inl (er z)) _ _ LF.none.cu (z67 _)⟩⟩⟩, fun z => ⟨fun y => ⟨Or.inl rfl, ⟨fun _ => ⟨cNEq y, ⟨rfl, h0 (ok z) _ (jn (cNEq y)) _ LF.none.cu (z67 _)⟩⟩, fun w => absurd (show nI 0 = 0 from rfl) w⟩⟩, fun y => ⟨Or.inr rfl, ⟨fun y => absurd (show nI 1 = 0 from y) (by decide), fun _ => ⟨rfl, h1 (Or.inr (jz (cEq y))) _ _ LF.none.cu (z67 _)⟩⟩⟩⟩⟩
end
