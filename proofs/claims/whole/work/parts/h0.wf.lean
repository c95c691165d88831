/-! WHAT CAN BE STAYS SO -/
theorem ixo_lt {x : Int32} {n j : Nat} (h : ixo x n = some j) : j < n := by
  unfold ixo at h
  split at h
  · cases h
  · split at h
    · rename_i h1
      cases h
      exact h1
    · cases h
theorem wfA.sc {A : St} (h : wfA A) {S : Nat → Nat → Nat} (hS : wfS (A 0) S) (hd : S 0 0 ≤ 999) : wfA (cu A 1 S) := ⟨h.T, h.L, hS, hd, h.N, h.P, h.k, h.I, h.f, h.b, h.n, h.w, h.w1, h.st⟩
theorem wfR_rw {T S : Nat → Nat → Nat} (hs : wfS T S) : wfR T (rwS S) := by
  refine ⟨fun i hi => ?_, fun i h1 h2 => ?_, ?_, ?_⟩
  · unfold rwS; rw [if_pos hi]; exact hs.sh i
  · unfold rwS; rw [if_pos h2]; exact hs.sho i h1
  · exact hs.pu
  · exact hs.hu
theorem wfA.rm {A : St} (h : wfA A) : wfA (rmA A) := by
  have hn := h.n
  have hm : rmM (A 4 0 0) ≤ 20 := by unfold rmM; split <;> omega
  refine ⟨h.T, h.L, h.S, h.d, h.N, fun r hr => ?_, h.k, h.I, h.f, h.b, hm, h.w, h.w1, h.st⟩
  have hr : r < rmM (A 4 0 0) := hr
  show wfR (A 0) (rmP (A 4 0 0) (A 3) (A 1) r)
  by_cases e : r + 1 = rmM (A 4 0 0)
  · have : rmP (A 4 0 0) (A 3) (A 1) r = rwS (A 1) := by funext i; unfold rmP; rw [if_pos e]
    rw [this]
    exact wfR_rw h.S
  · by_cases e2 : 20 ≤ A 4 0 0
    · have : rmP (A 4 0 0) (A 3) (A 1) r = A 3 (r + 1) := by funext i; unfold rmP; rw [if_neg e, if_pos e2]
      rw [this]
      exact h.P _ (by unfold rmM at hr e; rw [if_pos e2] at hr e; omega)
    · have : rmP (A 4 0 0) (A 3) (A 1) r = A 3 r := by funext i; unfold rmP; rw [if_neg e, if_neg e2]
      rw [this]
      exact h.P _ (by unfold rmM at hr e; rw [if_neg e2] at hr e; omega)
theorem wf_set {A : St} (h : wfA A) (x y z : Int32) : wfA (aSet A x y z).2 := by
  unfold aSet
  split
  · exact h
  · rename_i w f v hp
    split
    · exact h
    · rename_i c hc
      split
      · exact h
      · rename_i hle
        have hf : f < flA A := by
          unfold pl3 at hp
          split at hp
          · rename_i h1 h2 h3
            cases hp
            exact ixo_lt h2
          · cases hp
        have hs := wfS.put h.T h.S (w := w) (way := v) hf
        refine h.rm.sc ⟨hs.sh, hs.sho, hs.day, ?_, hs.la, hs.hu, hs.ro⟩ h.d
        show A 1 0 1 - c ≤ 9999
        have := h.S.pu
        omega
theorem wf_stack {A : St} (h : wfA A) (x y : Int32) : wfA (aStack A x y).2 := by
  unfold aStack
  split
  · rename_i f s hf hs
    split
    · exact h
    · have hf := ixo_lt hf
      have hs := ixo_lt hs
      have hS := h.S
      refine h.rm.sc ⟨fun i => ?_, fun i hi => ?_, hS.day, hS.pu, hS.la, hS.hu, hS.ro⟩ h.d
      · show updN (A 1 1) f s i ≤ 511
        unfold updN
        split
        · omega
        · exact hS.sh i
      · show updN (A 1 1) f s i = 0
        have hi : A 0 0 0 * A 0 0 1 ≤ i := hi
        unfold flA at hf
        unfold updN
        rw [if_neg (by omega)]
        exact hS.sho i hi
  · exact h
theorem wf_hang {A : St} (h : wfA A) (x : Int32) : wfA (aHang A x).2 := by
  unfold aHang
  split
  · exact h
  · rename_i s hs
    have hs := ixo_lt hs
    have h5 := h.T.sg5
    split
    · exact h
    · rename_i hb
      split
      · have hS := h.S
        have := hgB s (by omega) (A 1 0 3) hS.hu (by omega)
        exact h.rm.sc ⟨hS.sh, hS.sho, hS.day, hS.pu, hS.la, this.2, hS.ro⟩ h.d
      · exact h
theorem wf_lower {A : St} (h : wfA A) (x : Int32) : wfA (aLower A x).2 := by
  unfold aLower
  split
  · exact h
  · rename_i s hs
    split
    · have hS := h.S
      have h32 := hS.hu
      exact h.rm.sc ⟨hS.sh, hS.sho, hS.day, hS.pu, hS.la, (Nat.lt_of_le_of_lt (Nat.sub_le _ _) h32), hS.ro⟩ h.d
    · exact h
theorem wf_note {A : St} (h : wfA A) (x y z : Int32) : wfA (aNote A x y z).2 := by
  unfold aNote
  split
  · rename_i a f c ha hf hc
    split
    · exact h
    · rename_i h24
      have ha := ixo_lt ha
      have hf := ixo_lt hf
      have hc := ixo_lt hc
      have h1 := h.w1
      refine ⟨h.T, h.L, h.S, h.d, fun i hi => ?_, h.P, h.k, h.I, h.f, h.b, h.n, (show A 2 0 0 + 1 ≤ 24 by omega), (show A 2 0 1 ≤ A 2 0 0 + 1 + 1 by omega), fun i hi => ?_⟩
      · have hi : i < A 2 0 0 + 1 := hi
        show (if i = A 2 0 0 then a + 1 else A 2 1 i) ≠ 0 → (if i = A 2 0 0 then a + 1 else A 2 1 i) ≤ A 0 0 5 ∧ (if i = A 2 0 0 then f else A 2 2 i) < A 0 0 0 * A 0 0 1 ∧ (if i = A 2 0 0 then c else A 2 3 i) ≤ 26
        by_cases e : i = A 2 0 0
        · rw [if_pos e, if_pos e, if_pos e]
          exact fun _ => ⟨by omega, hf, by omega⟩
        · rw [if_neg e, if_neg e, if_neg e]
          exact h.N i (by omega)
      · have hi : i < A 2 0 0 + 1 := hi
        show (if i = A 2 0 0 then a + 1 else A 2 1 i) = 0 → (if i = A 2 0 0 then c else A 2 3 i) < i
        by_cases e : i = A 2 0 0
        · rw [if_pos e]
          exact fun q => by omega
        · rw [if_neg e, if_neg e]
          exact h.st i (by omega)
  · exact h
theorem wf_strike {A : St} (h : wfA A) (x : Int32) : wfA (aStrike A x).2 := by
  unfold aStrike
  split
  · rename_i k hk
    split
    · exact h
    · rename_i h24
      have hk := ixo_lt hk
      have h1 := h.w1
      refine ⟨h.T, h.L, h.S, h.d, fun i hi => ?_, h.P, h.k, h.I, h.f, h.b, h.n, (show A 2 0 0 + 1 ≤ 24 by omega), (show A 2 0 1 ≤ A 2 0 0 + 1 + 1 by omega), fun i hi => ?_⟩
      · have hi : i < A 2 0 0 + 1 := hi
        show (if i = A 2 0 0 then 0 else A 2 1 i) ≠ 0 → (if i = A 2 0 0 then 0 else A 2 1 i) ≤ A 0 0 5 ∧ (if i = A 2 0 0 then 0 else A 2 2 i) < A 0 0 0 * A 0 0 1 ∧ (if i = A 2 0 0 then k else A 2 3 i) ≤ 26
        by_cases e : i = A 2 0 0
        · rw [if_pos e, if_pos e, if_pos e]
          exact fun q => absurd rfl q
        · rw [if_neg e, if_neg e, if_neg e]
          exact h.N i (by omega)
      · have hi : i < A 2 0 0 + 1 := hi
        show (if i = A 2 0 0 then 0 else A 2 1 i) = 0 → (if i = A 2 0 0 then k else A 2 3 i) < i
        by_cases e : i = A 2 0 0
        · rw [if_pos e, if_pos e]
          exact fun _ => by omega
        · rw [if_neg e, if_neg e]
          exact h.st i (by omega)
  · exact h
theorem wf_known {A : St} (h : wfA A) (x : Int32) : wfA (aKnown A x).2 := by
  unfold aKnown
  split
  · exact ⟨h.T, h.L, h.S, h.d, h.N, h.P, h.k, h.I, h.f, h.b, h.n, h.w, Nat.zero_le _, h.st⟩
  · split
    · rename_i n hn
      have hn := ixo_lt hn
      exact ⟨h.T, h.L, h.S, h.d, h.N, h.P, h.k, h.I, h.f, h.b, h.n, h.w, (show n + 1 ≤ A 2 0 0 + 1 by omega), h.st⟩
    · exact h
theorem wf_undo {A : St} (h : wfA A) : wfA (aUndo A).2 := by
  unfold aUndo
  split
  · exact h
  · rename_i hz
    have hn := h.n
    have hR := h.P (A 4 0 0 - 1) (by omega)
    have hS := h.S
    have hfl := h.T.fl
    have hs : wfS (A 0) (unS (A 3 (A 4 0 0 - 1)) (A 1)) := by
      refine ⟨fun f => ?_, fun f hf => ?_, hS.day, hR.2.2.1, hS.la, hR.2.2.2, hS.ro⟩
      · show (if f < 48 then A 3 (A 4 0 0 - 1) f else 0) ≤ 511
        split
        · exact hR.1 f (by assumption)
        · omega
      · show (if f < 48 then A 3 (A 4 0 0 - 1) f else 0) = 0
        split
        · exact hR.2.1 f hf (by assumption)
        · rfl
    exact ⟨h.T, h.L, hs, h.d, h.N, fun r hr => h.P r (by have : r < A 4 0 0 - 1 := hr; omega), h.k, h.I, h.f, h.b, (show A 4 0 0 - 1 ≤ 20 by omega), h.w, h.w1, h.st⟩
theorem wf_keep {A : St} (h : wfA A) : wfA (aKeep A).2 := ⟨h.T, h.L, h.S, h.d, h.N, h.P, Nat.le_refl 1, fun _ => ⟨h.S, h.d⟩, h.f, h.b, h.n, h.w, h.w1, h.st⟩
theorem wf_back {A : St} (h : wfA A) : wfA (aBack A).2 := by
  unfold aBack
  split
  · exact h
  · rename_i hz
    have hI := h.I hz
    exact ⟨h.T, h.L, hI.1, hI.2, h.N, lt_0, h.k, h.I, h.f, h.b, Nat.zero_le _, h.w, h.w1, h.st⟩
theorem wf_days {A : St} (h : wfA A) (x : Int32) : wfA (aDays A x).2 := by
  unfold aDays
  split
  · exact h
  · rename_i n hn
    split
    · exact h
    · rename_i hd
      show wfA (if n = 0 then A else _)
      split
      · exact h
      · have hs := dyS_wf h.S (n := n) (by omega) n (Nat.le_refl _)
        have hd2 := dyS_day (A 0) (A 1) n
        exact ⟨h.T, h.L, hs, (show dyS (A 0) (A 1) n 0 0 ≤ 999 by omega), h.N, lt_0, h.k, h.I, h.f, h.b, Nat.zero_le _, h.w, h.w1, h.st⟩
theorem wf_feed {A : St} (h : wfA A) (a b c d e : Int32) : wfA (aFeed A a b c d e).2 := by
  unfold aFeed
  split
  · exact h
  · rename_i hf
    refine ⟨h.T, h.L, h.S, h.d, h.N, h.P, h.k, h.I, (show A 4 0 2 + 20 ≤ 700 by omega), fun i => ?_, h.n, h.w, h.w1, h.st⟩
    show (if A 4 0 2 ≤ i ∧ i < A 4 0 2 + 20 then fdB a b c d e (i - A 4 0 2) else A 4 1 i) < 256
    split
    · unfold fdB bytN
      exact Nat.mod_lt _ (by decide)
    · exact h.b i
theorem all_ok {k v p : Nat → Nat} (hk : ∀ i, k i ≤ 45) (hn : ∀ i, k i = 2 → nmOK (v i)) : ∀ f T j l, tOK T → ∀ T' l', pAll k v p f T j l = .ok (T', l') → tOK T'
  | 0, T, j, l, hT, T', l', h => by rw [pAll] at h; cases h
  | f + 1, T, j, l, hT, T', l', h => by
    rw [pAll] at h
    split at h
    · cases h; exact hT
    · cases hL : pLine k v p T j with
      | error e => rw [hL] at h; cases h
      | ok s =>
        obtain ⟨T1, j1⟩ := s
        rw [hL] at h
        exact all_ok hk hn f T1 j1 (l + 1) (line_ok hT hk hn hL).1 T' l' h
theorem wf_bg {A : St} (h : wfA A) {T : Nat → Nat → Nat} (hT : tOK T) : wfA (txN A T) := by
  have hw := hT.1
  have hpu := hw.pu
  have hse := hw.se
  exact ⟨hw, hT.2.1, ⟨fun _ => Nat.zero_le _, fun _ _ => rfl, Nat.zero_le _, hpu, (show T 0 11 < 2 ^ 31 by omega), (show 0 < 32 by decide), fun _ => Nat.zero_le _⟩, Nat.zero_le _, lt_0, lt_0, Nat.zero_le _, (fun q => absurd rfl q), Nat.zero_le _, h.b, Nat.zero_le _, Nat.zero_le _, Nat.zero_le _, lt_0⟩
theorem wf_text {A : St} (h : wfA A) (x : Int32) : wfA (aText A x).2 := by
  unfold aText
  split
  · exact h
  · rename_i n hn
    cases hp : pText (A 4 1) n with
    | error e => exact ⟨h.T, h.L, h.S, h.d, h.N, h.P, h.k, h.I, Nat.zero_le _, h.b, h.n, h.w, h.w1, h.st⟩
    | ok s =>
      obtain ⟨T, l⟩ := s
      have tkb : ∀ i, tK (A 4 1) n i ≤ 45 ∧ (tK (A 4 1) n i = 2 → nmOK (tV (A 4 1) n i)) := fun i => by
        unfold tK tV
        by_cases hl : psN (A 4 1) n i < n
        · rw [if_pos hl, if_pos hl]
          have := tk_in (b := A 4 1) hl
          exact ⟨this.2.1, this.2.2.2⟩
        · rw [if_neg hl, if_neg hl]
          exact ⟨by decide, fun q => by cases q⟩
      exact wf_bg h (all_ok (fun i => (tkb i).1) (fun i => (tkb i).2) 701 tI 0 0 tI_ok T l hp)
