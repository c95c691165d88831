/-! NOTES WRITTEN; A SUMMER'S SUM (the class) -/
/-- the place at which a word is set -/
def smP (T S : Nat → Nat → Nat) (w : Nat) : Option Nat := (chN (fun p => costN T (S 1) (feA T) w (p / 2) (p % 2)) (2 * (T 0 0 * T 0 1))).map Prod.fst
def smI (r : Option Nat) : Int32 := match r with
  | none => -1
  | some p => nI p
/-- the scene once day k's word is set -/
def smT (T : Nat → Nat → Nat) (m : Nat) (l : Nat → Nat) (k : Nat) (S : Nat → Nat → Nat) : Nat → Nat → Nat := if k < m then (match smP T S (l k) with
  | some p => sSh S (putN T (S 1) (l k) (p / 2) (p % 2))
  | none => S) else S
def smA (T : Nat → Nat → Nat) (m : Nat) (l : Nat → Nat) (k : Nat) (S : Nat → Nat → Nat) (at0 : Nat → Option Nat) : Nat → Option Nat := fun i => if k < m ∧ i = k then smP T S (l k) else at0 i
def smV (T : Nat → Nat → Nat) (h : Nat) (l : Nat → Nat) (S : Nat → Nat → Nat) (at0 : Nat → Option Nat) (i : Nat) : Nat := match at0 i with
  | some p => if stdN T (fun x => readN T h (S 1 x)) (l i) (p / 2) (p % 2) then T 8 (l i) else 0
  | none => 0
/-- scene, sum and places after k days -/
noncomputable def smR (T : Nat → Nat → Nat) (h m : Nat) (l : Nat → Nat) (S : Nat → Nat → Nat) : Nat → (Nat → Nat → Nat) × Nat × (Nat → Option Nat)
  | 0 => (S, 0, fun _ => none)
  | k + 1 => (passN T true true false (smT T m l k (smR T h m l S k).1), (smR T h m l S k).2.1 + sumN (smV T h l (smT T m l k (smR T h m l S k).1) (smA T m l k (smR T h m l S k).1 (smR T h m l S k).2.2)) (min (k + 1) m), smA T m l k (smR T h m l S k).1 (smR T h m l S k).2.2)
theorem smP_lt {T S : Nat → Nat → Nat} {w p : Nat} (h : smP T S w = some p) : p < 2 * (T 0 0 * T 0 1) := by
  unfold smP at h
  cases hc : chN (fun p => costN T (S 1) (feA T) w (p / 2) (p % 2)) (2 * (T 0 0 * T 0 1)) with
  | none => rw [hc] at h; cases h
  | some q =>
    obtain ⟨a, b⟩ := q
    rw [hc] at h
    cases h
    exact (chN_lt hc).1
theorem smP_I (T S : Nat → Nat → Nat) (w : Nat) : chP (chN (fun p => costN T (S 1) (feA T) w (p / 2) (p % 2)) (2 * (T 0 0 * T 0 1))) = smI (smP T S w) := by
  unfold smP
  cases hc : chN (fun p => costN T (S 1) (feA T) w (p / 2) (p % 2)) (2 * (T 0 0 * T 0 1)) with
  | none => rfl
  | some q => rfl
theorem smT_wf {T S : Nat → Nat → Nat} (hw : wfT T) (hs : wfS T S) (m : Nat) (l : Nat → Nat) (k : Nat) : wfS T (smT T m l k S) ∧ smT T m l k S 0 0 = S 0 0 := by
  unfold smT
  split
  · cases hp : smP T S (l k) with
    | none => exact ⟨hs, rfl⟩
    | some p =>
      have := smP_lt hp
      exact ⟨wfS.put hw hs (pl_half this), rfl⟩
  · exact ⟨hs, rfl⟩
theorem smR_wf {T S : Nat → Nat → Nat} (hw : wfT T) (hs : wfS T S) (hd : S 0 0 ≤ 999) (h m : Nat) (l : Nat → Nat) : ∀ k, k ≤ 100 → wfS T (smR T h m l S k).1 ∧ (smR T h m l S k).1 0 0 = S 0 0 + k
  | 0, _ => ⟨hs, rfl⟩
  | k + 1, hk => by
    have ih := smR_wf hw hs hd h m l k (by omega)
    have h2 := smT_wf hw ih.1 m l k
    refine ⟨h2.1.pass true true false (by rw [h2.2, ih.2]; omega), ?_⟩
    show passN T true true false (smT T m l k (smR T h m l S k).1) 0 0 = _
    rw [passN_day, h2.2, ih.2]
    rfl
theorem smR_at {T S : Nat → Nat → Nat} (h m : Nat) (l : Nat → Nat) : ∀ k i p, (smR T h m l S k).2.2 i = some p → p < 2 * (T 0 0 * T 0 1)
  | 0, i, p, hp => by cases hp
  | k + 1, i, p, hp => by
    have hp : smA T m l k (smR T h m l S k).1 (smR T h m l S k).2.2 i = some p := hp
    unfold smA at hp
    split at hp
    · exact smP_lt hp
    · exact smR_at h m l k i p hp
theorem smV_le {T : Nat → Nat → Nat} (hw : wfT T) {h m : Nat} {l : Nat → Nat} (hl : ∀ i, i < m → l i < T 0 4) (S : Nat → Nat → Nat) (at0 : Nat → Option Nat) {i : Nat} (hi : i < m) : smV T h l S at0 i ≤ 99 := by
  unfold smV
  split
  · split
    · exact hw.ww _ (hl i hi)
    · omega
  · omega
theorem smR_le {T S : Nat → Nat → Nat} (hw : wfT T) {h m : Nat} (hm : m ≤ 4) {l : Nat → Nat} (hl : ∀ i, i < m → l i < T 0 4) : ∀ k, (smR T h m l S k).2.1 ≤ k * 396
  | 0 => Nat.le_refl _
  | k + 1 => by
    have ih := smR_le (S := S) hw hm hl (h := h) k
    have h2 : sumN (smV T h l (smT T m l k (smR T h m l S k).1) (smA T m l k (smR T h m l S k).1 (smR T h m l S k).2.2)) (min (k + 1) m) ≤ min (k + 1) m * 99 := sumN_bd (fun i hi => smV_le hw hl _ _ (by omega))
    show (smR T h m l S k).2.1 + _ ≤ _
    omega
section
variable {d : Nat} {Q : Option Value → Mm → Prop} {T S : Nat → Nat → Nat} {mi : Nat → Nat → Int32} {ml : Nat → Nat → Int64} {rd : Option Nat} {N : Nat → Nat → Nat}
theorem s_Notes_clear (hQ : ∀ mi', Fr [78] mi mi' → CN (fun _ _ => 0) mi' → Q none (mi', ml, R0 rd, 136)) : Cd (d + 1) k_Notes_clear [.ref 78] (mi, ml, R0 rd, 136) Q := by
  refine r_Notes_clear (by decide) (fun K Kl hK hC => ?_)
  refine ⟨rfl, hQ _ (Fr.cu (Fr.cu Fr.none rfl) rfl) ⟨rfl, (show (-1 : Int32) = nI 0 - 1 by decide), by decide, by decide, fun i hi => absurd hi (Nat.not_lt_zero i), fun i hi => absurd hi (Nat.not_lt_zero i)⟩⟩
/-- a note, or a strike, behind the last -/
def ntN (N : Nat → Nat → Nat) (a b c : Nat) : Nat → Nat → Nat := fun r i => if r = 0 then (if i = 0 then N 0 0 + 1 else N 0 i) else if i = N 0 0 then (if r = 1 then a else if r = 2 then b else c) else N r i
theorem s_Notes_write (hN : CN N mi) {a b c : Nat} {x y z u : Int32} (h : (a ≠ 0 ∧ x = nI a - 1 ∧ y = nI b ∧ z = nI c ∧ u = -1) ∨ (a = 0 ∧ u = nI c ∧ c < N 0 0)) (hfull : 24 ≤ N 0 0 → Q (some (.int (-1))) (mi, ml, R0 rd, 136)) (hQ : N 0 0 < 24 → ∀ mi', Fr [78, 79, 80, 81, 82] mi mi' → CN (ntN N a b c) mi' → Q (some (.int (nI (N 0 0)))) (mi', ml, R0 rd, 136)) : Cd (d + 1) k_Notes_write [.ref 78, .int x, .int y, .int z, .int u] (mi, ml, R0 rd, 136) Q := by
  obtain ⟨e0, e1, h24, hk, hr, hst⟩ := hN
  refine r_Notes_write (by decide) (fun K Kl hK hC => ?_)
  refine ⟨fun h1 => ?_, fun h1 => ⟨rfl, hfull (jNLT h1)⟩⟩
  have h1 := jLT h1
  have eq1 : mi 78 0 + nI 1 - nI 1 = nI (N 0 0) := by rw [e0, nI_add]; exact nI_pred _
  have hQ := hQ h1
  rw [← eq1] at hQ
  refine ⟨N 0 0, h1, e0, N 0 0, h1, e0, N 0 0, h1, e0, N 0 0, h1, e0, rfl, hQ _ (Fr.cu (Fr.cu (Fr.cu (Fr.cu (Fr.cu Fr.none rfl) rfl) rfl) rfl) rfl) ⟨?_, e1, ?_, ?_, ?_, ?_⟩⟩
  · show mi 78 0 + nI 1 = nI (N 0 0 + 1)
    rw [e0, nI_add]
  · show N 0 0 + 1 ≤ 24
    omega
  · show N 0 1 ≤ N 0 0 + 1 + 1
    omega
  · intro i hi hne
    have hi : i < N 0 0 + 1 := hi
    by_cases he : i = N 0 0
    · subst he
      have hne : (if N 0 0 = N 0 0 then a else N 1 (N 0 0)) ≠ 0 := hne
      rw [if_pos rfl] at hne
      rcases h with ⟨_, e2, e3, e4, e5⟩ | ⟨z1, _⟩
      · have ea : ntN N a b c 1 (N 0 0) = a := if_pos rfl
        have eb : ntN N a b c 2 (N 0 0) = b := if_pos rfl
        have ec : ntN N a b c 3 (N 0 0) = c := if_pos rfl
        rw [ea, eb, ec]
        exact ⟨pk_us.trans e2, pk_us.trans e3, pk_us.trans e4, pk_us.trans e5⟩
      · exact absurd z1 hne
    · have e2 : ∀ r, ntN N a b c (r + 1) i = N (r + 1) i := fun r => by
        unfold ntN
        rw [if_neg (by omega), if_neg he]
      rw [e2] at hne
      have := hr i (by omega) hne
      rw [e2 0, e2 1, e2 2]
      exact ⟨(pk_un he).trans this.1, (pk_un he).trans this.2.1, (pk_un he).trans this.2.2.1, (pk_un he).trans this.2.2.2⟩
  · intro i hi hne
    have hi : i < N 0 0 + 1 := hi
    by_cases he : i = N 0 0
    · subst he
      have ea : ntN N a b c 1 (N 0 0) = a := if_pos rfl
      have ec : ntN N a b c 3 (N 0 0) = c := if_pos rfl
      rw [ea] at hne
      rw [ec]
      rcases h with ⟨z1, _⟩ | ⟨_, e2, e3⟩
      · exact absurd hne z1
      · exact ⟨pk_us.trans e2, e3⟩
    · have e2 : ∀ r, ntN N a b c (r + 1) i = N (r + 1) i := fun r => by
        unfold ntN
        rw [if_neg (by omega), if_neg he]
      rw [e2] at hne
      have := hst i (by omega) hne
      rw [e2 2]
      exact ⟨(pk_un he).trans this.1, this.2⟩
end
