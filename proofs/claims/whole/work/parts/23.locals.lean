/-! LOCALS -/
def propv (v : Value) : Bool := match v with
  | .int _ => true
  | .long _ => true
  | .ref _ => true
  | _ => false
def LRv (w : Wn) (ls : List Value) (arr : Array Slot) (nL : Nat) : Prop := ∃ l, lv_has arr nL l ∧ ∀ k v, nth .null ls k = v → propv v = true → (k, cv w v) ∈ l
theorem LRv.get {w : Wn} {ls : List Value} {arr : Array Slot} {nL k : Nat} {v : Value} (h : LRv w ls arr nL) (hk : nth .null ls k = v) (hp : propv v = true) : arr[k]? = some (.val (cv w v)) := by
  obtain ⟨l, h1, h2⟩ := h
  exact h1.2.2 (k, cv w v) (h2 k v hk hp)
theorem LRv.size {w : Wn} {ls : List Value} {arr : Array Slot} {nL : Nat} (h : LRv w ls arr nL) : arr.size = nL := by
  obtain ⟨l, h1, h2⟩ := h
  exact h1.1
theorem cv_cat (w : Wn) (v : Value) : (cv w v).category = v.category := by cases v <;> rfl
theorem lset_nth {u v : Value} (hu : propv u = true) : ∀ (ls : List Value) (i k : Nat), nth .null (lset ls i v) k = u → (k = i ∧ u = v) ∨ (k ≠ i ∧ nth .null ls k = u ∧ ¬ (k + 1 = i ∧ u.category = 2))
  | [], i, k, h => by
    have h : Value.null = u := h
    subst h
    cases hu
  | a :: l, 0, 0, h => Or.inl ⟨rfl, h.symm⟩
  | a :: l, 0, k + 1, h => Or.inr ⟨by omega, h, by omega⟩
  | a :: l, 1, 0, h => by
    have h : klL a = u := h
    refine Or.inr ⟨by omega, ?_, fun q => ?_⟩
    · show a = u
      cases a <;> simp [klL] at h <;> first | exact h | (subst h; cases hu)
    · subst h
      cases a <;> simp [klL, Value.category, propv] at q hu
  | a :: l, 1, k + 1, h => by
    have h : nth .null (lset l 0 v) k = u := h
    rcases lset_nth hu l 0 k h with ⟨h1, h2⟩ | ⟨h1, h2, h3⟩
    · exact Or.inl ⟨by omega, h2⟩
    · exact Or.inr ⟨by omega, h2, fun q => h3 ⟨by omega, q.2⟩⟩
  | a :: l, n + 2, 0, h => by
    have h : a = u := h
    exact Or.inr ⟨by omega, h, by omega⟩
  | a :: l, n + 2, k + 1, h => by
    have h : nth .null (lset l (n + 1) v) k = u := h
    rcases lset_nth hu l (n + 1) k h with ⟨h1, h2⟩ | ⟨h1, h2, h3⟩
    · exact Or.inl ⟨by omega, h2⟩
    · exact Or.inr ⟨by omega, h2, fun q => h3 ⟨by omega, q.2⟩⟩
theorem LRv.set1 {w : Wn} {ls : List Value} {arr' : Array Slot} {nL i : Nat} {v : Value} {l : List (Nat × Value)} (h2 : ∀ k v, nth .null ls k = v → propv v = true → (k, cv w v) ∈ l)
    (h : lv_has arr' nL ((i, cv w v) :: l.filter (fun q => !(q.1 == i) && !(q.1 + 1 == i && q.2.category == 2)))) : LRv w (lset ls i v) arr' nL := by
  refine ⟨_, h, fun k u hk hu => ?_⟩
  rcases lset_nth hu ls i k hk with ⟨rfl, rfl⟩ | ⟨a1, a2, a3⟩
  · exact List.mem_cons_self
  · refine List.mem_cons_of_mem _ (List.mem_filter.mpr ⟨h2 k u a2 hu, ?_⟩)
    simp only [cv_cat, Bool.and_eq_true, Bool.not_eq_true', beq_eq_false_iff_ne, ne_eq, Bool.and_eq_false_iff]
    refine ⟨a1, ?_⟩
    by_cases q : k + 1 = i
    · exact Or.inr (fun z => a3 ⟨q, z⟩)
    · exact Or.inl q
theorem LRv.set2 {w : Wn} {ls : List Value} {arr' : Array Slot} {nL i : Nat} {v : Value} {l : List (Nat × Value)} (h2 : ∀ k v, nth .null ls k = v → propv v = true → (k, cv w v) ∈ l)
    (h : lv_has arr' nL ((i, cv w v) :: l.filter (fun q => !(q.1 == i) && (!(q.1 == i + 1) && !(q.1 + 1 == i && q.2.category == 2))))) : LRv w (lset (lset ls (i + 1) .null) i v) arr' nL := by
  refine ⟨_, h, fun k u hk hu => ?_⟩
  rcases lset_nth hu _ i k hk with ⟨rfl, rfl⟩ | ⟨a1, a2, a3⟩
  · exact List.mem_cons_self
  · rcases lset_nth hu ls (i + 1) k a2 with ⟨rfl, rfl⟩ | ⟨b1, b2, b3⟩
    · cases hu
    · refine List.mem_cons_of_mem _ (List.mem_filter.mpr ⟨h2 k u b2 hu, ?_⟩)
      simp only [cv_cat, Bool.and_eq_true, Bool.not_eq_true', beq_eq_false_iff_ne, ne_eq, Bool.and_eq_false_iff]
      refine ⟨a1, b1, ?_⟩
      by_cases q : k + 1 = i
      · exact Or.inr (fun z => a3 ⟨q, z⟩)
      · exact Or.inl q
theorem nth_pad {v : Value} (hv : propv v = true) : ∀ (n : Nat) (l : List Value) (k : Nat), nth .null (pad n l) k = v → nth .null l k = v
  | 0, _, _, h => by
    have h : Value.null = v := h
    subst h; cases hv
  | n + 1, [], 0, h => by
    have h : Value.null = v := h
    subst h; cases hv
  | n + 1, [], k + 1, h => by
    have h : nth .null (pad n []) k = v := h
    have := nth_pad hv n [] k h
    exact this
  | n + 1, a :: l, 0, h => h
  | n + 1, a :: l, k + 1, h => nth_pad hv n l k h
theorem en0_args {w : Wn} {v : Value} (hv : propv v = true) : ∀ (as : List Value) (o k : Nat), nth .null (en0 as) k = v → (o + k, cv w v) ∈ lv_args o (as.map (cv w)) := by
  intro as
  induction as with
  | nil =>
    intro o k h
    have h : Value.null = v := h
    subst h; cases hv
  | cons a l ih =>
    intro o k h
    by_cases ha : a.category = 2
    · cases a with
      | long x =>
        have e1 : lv_args o ((Value.long x :: l).map (cv w)) = (o, Value.long x) :: lv_args (o + 2) (l.map (cv w)) := by simp [lv_args, cv, Value.category]
        rw [e1]
        cases k with
        | zero =>
          have h : Value.long x = v := h
          subst h
          exact List.mem_cons_self
        | succ k =>
          cases k with
          | zero =>
            have h : Value.null = v := h
            subst h; cases hv
          | succ k =>
            have h : nth .null (en0 l) k = v := h
            have := ih (o + 2) k h
            rw [show o + 2 + k = o + (k + 1 + 1) by omega] at this
            exact List.mem_cons_of_mem _ this
      | double x =>
        have e1 : lv_args o ((Value.double x :: l).map (cv w)) = (o, Value.double x) :: lv_args (o + 2) (l.map (cv w)) := by simp [lv_args, cv, Value.category]
        rw [e1]
        cases k with
        | zero =>
          have h : Value.double x = v := h
          subst h
          exact List.mem_cons_self
        | succ k =>
          cases k with
          | zero =>
            have h : Value.null = v := h
            subst h; cases hv
          | succ k =>
            have h : nth .null (en0 l) k = v := h
            have := ih (o + 2) k h
            rw [show o + 2 + k = o + (k + 1 + 1) by omega] at this
            exact List.mem_cons_of_mem _ this
      | _ => simp [Value.category] at ha
    · have e1 : lv_args o ((a :: l).map (cv w)) = (o, cv w a) :: lv_args (o + 1) (l.map (cv w)) := by
        have : (cv w a).category ≠ 2 := by rw [cv_cat]; exact ha
        simp [lv_args, this]
        try rcases lv_cat a with q | q <;> simp_all
      rw [e1]
      have e2 : en0 (a :: l) = a :: en0 l := by
        cases a <;> first | rfl | (simp [Value.category] at ha)
      rw [e2] at h
      cases k with
      | zero =>
        have h : a = v := h
        subst h
        exact List.mem_cons_self
      | succ k =>
        have h : nth .null (en0 l) k = v := h
        have := ih (o + 1) k h
        rw [show o + 1 + k = o + (k + 1) by omega] at this
        exact List.mem_cons_of_mem _ this
theorem lg_sl_cv (w : Wn) (as : List Value) : (lg_sl (as.map (cv w))).length = (lg_sl as).length := by
  induction as with
  | nil => rfl
  | cons a l ih =>
    simp only [lg_sl, List.map_cons, List.flatMap_cons, List.length_append, cv_cat] at ih ⊢
    rw [ih]
    split <;> rfl
theorem LRv.entry {w : Wn} {as : List Value} {n : Nat} (h : (lg_sl as).length ≤ n) : LRv w (pad n (en0 as)) ((lg_sl (as.map (cv w)) ++ List.replicate (n - (lg_sl (as.map (cv w))).length) Slot.unset).toArray) n := by
  refine ⟨_, lv_entry (as.map (cv w)) (by rw [lg_sl_cv]; exact h), fun k v hk hv => ?_⟩
  have := en0_args (w := w) hv as 0 k (nth_pad hv n _ k hk)
  rw [Nat.zero_add] at this
  exact this
