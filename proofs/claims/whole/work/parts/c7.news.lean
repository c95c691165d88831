/-! NEWS: from the far-off table to the answer (pure) -/
def swK (T : Nat → Nat → Nat) : Nat → Nat → Nat := fun a i => if a = 16 then (if i % 3 = 0 then T 16 (i + 1) else if i % 3 = 1 then T 16 (i - 1) else T 16 i) else T a i
theorem swK_0 (T : Nat → Nat → Nat) (i : Nat) : swK T 0 i = T 0 i := rfl
theorem swK_1 (T : Nat → Nat → Nat) (l : Nat) : swK T 16 (3 * l) = T 16 (3 * l + 1) := by
  unfold swK
  rw [if_pos rfl, if_pos (by omega)]
theorem swK_2 (T : Nat → Nat → Nat) (l : Nat) : swK T 16 (3 * l + 1) = T 16 (3 * l) := by
  unfold swK
  rw [if_pos rfl, if_neg (by omega), if_pos (by omega)]
  rfl
theorem swK_3 (T : Nat → Nat → Nat) (l : Nat) : swK T 16 (3 * l + 2) = T 16 (3 * l + 2) := by
  unfold swK
  rw [if_pos rfl, if_neg (by omega), if_neg (by omega)]
theorem swK_sta {T : Nat → Nat → Nat} {s : Nat → Nat} (h : staN (swK T) s) : staN T s := fun l hl => by
  have := h l hl
  rw [swK_1, swK_2, swK_3] at this
  exact ⟨this.2, this.1⟩
theorem sta_swK {T : Nat → Nat → Nat} {s : Nat → Nat} (h : staN T s) : staN (swK T) s := fun l hl => by
  have := h l hl
  rw [swK_1, swK_2, swK_3]
  exact ⟨this.2, this.1⟩
/-- how far a hill is: at first -/
def fN (p i : Nat) : Nat := if i = p then 0 else 999999
def farN (T : Nat → Nat → Nat) (p : Nat) : Nat → Nat := sprN (swK T) (fN p) 3
theorem fN_le (p i : Nat) : fN p i ≤ 1000000 := by unfold fN; split <;> omega
section
variable {T : Nat → Nat → Nat} {s F : Nat → Nat}
theorem rl1_gap {K : Nat} (hc : ∀ l, l < T 0 8 → T 16 (3 * l + 2) ≤ 20) {M : Nat} (hs : ∀ i, s i ≤ M ∨ s i = K) : ∀ n, n ≤ T 0 8 → ∀ i, rl1N T s n i ≤ M + 40 * n ∨ rl1N T s n i = K
  | 0, _, i => hs i
  | n + 1, hn, i => by
    have := rx_gap (a := T 16 (3 * n)) (b := T 16 (3 * n + 1)) (hc n (by omega)) (rl1_gap hc hs n (by omega)) i
    rw [show M + 40 * (n + 1) = M + 40 * n + 40 by omega]
    exact this
theorem spr_gap {K : Nat} (h3 : T 0 8 ≤ 3) (hc : ∀ l, l < T 0 8 → T 16 (3 * l + 2) ≤ 20) {M : Nat} (hs : ∀ i, s i ≤ M ∨ s i = K) : ∀ r, ∀ i, sprN T s r i ≤ M + 120 * r ∨ sprN T s r i = K
  | 0, i => hs i
  | r + 1, i => by
    have := rl1_gap (s := sprN T s r) hc (spr_gap h3 hc hs r) (T 0 8) (Nat.le_refl _) i
    show rl1N T (sprN T s r) (T 0 8) i ≤ _ ∨ rl1N T (sprN T s r) (T 0 8) i = _
    omega
theorem far_sta (hw : wfT T) (p : Nat) : staN T (farN T p) := by
  have h3 := hw.hl3
  refine swK_sta ?_
  have hE : ∀ l, l < swK T 0 8 → swK T 16 (3 * l) < 3 ∧ swK T 16 (3 * l + 1) < 3 := fun l hl => by
    have := hw.lk l hl
    rw [swK_1, swK_2]
    omega
  exact sta_more (sta2 (s := fN p) hE (fN_le p)) 1
theorem far_gap (hw : wfT T) (p i : Nat) : farN T p i ≤ 360 ∨ farN T p i = 999999 := by
  have := spr_gap (T := swK T) (s := fN p) (K := 999999) (M := 0) hw.lk3 (fun l hl => by
    rw [swK_3]
    exact (hw.lk l hl).2.2.2) (fun i => by unfold fN; split <;> omega) 3 i
  unfold farN
  omega
theorem far_lo (hF : staN T F) {p : Nat} (hs : ∀ i, F i ≤ fN p i) (i : Nat) : F i ≤ farN T p i := spr_lo (sta_swK hF) hs 3 i
theorem far_p (p : Nat) : farN T p p = 0 := by
  have := spr_le (T := swK T) (s := fN p) 3 p
  unfold farN
  have e : fN p p = 0 := by unfold fN; rw [if_pos rfl]
  omega
end
section
variable {T S : Nat → Nat → Nat} {w h : Nat}
def nwS (T S : Nat → Nat → Nat) (w : Nat) : Nat → Nat := fun i => if i < T 0 5 then rsN T S w i else 1000000
theorem nw_lo (hw : wfT T) (hs : wfS T S) (i : Nat) (hf : farN T i h ≤ 9999) : newsN T S w h ≤ nwS T S w i + farN T i h := by
  have hB : ∀ i, nwS T S w i ≤ 1000000 := fun i => by
    unfold nwS
    split
    · exact rsN_le hs w i
    · omega
  have st := staA (s := nwS T S w) hw hB
  have hle := spr_le (T := T) (s := nwS T S w) (T 0 8)
  have lo := far_lo (T := T) (F := fun x => min (sprN T (nwS T S w) (T 0 8) x - sprN T (nwS T S w) (T 0 8) i) 999999) (p := i) (fun l hl => by
    have := st l hl
    show min _ _ ≤ min _ _ + _ ∧ min _ _ ≤ min _ _ + _
    omega) (fun x => by
    show min _ _ ≤ _
    unfold fN
    split
    · rename_i e; rw [e]; omega
    · omega) h
  have e : newsN T S w h = sprN T (nwS T S w) (T 0 8) h := rfl
  have := hle i
  have lo : min (sprN T (nwS T S w) (T 0 8) h - sprN T (nwS T S w) (T 0 8) i) 999999 ≤ farN T i h := lo
  rw [e]
  omega
theorem nw_hi (hw : wfT T) (hs : wfS T S) (h : Nat) : newsN T S w h = 1000000 ∨ (newsN T S w h ≤ 9999 ∧ ∃ i, i < 3 ∧ nwS T S w i + farN T i h ≤ newsN T S w h) := by
  have h3 := hw.hl3
  have hB : ∀ i, nwS T S w i ≤ 1000000 := fun i => by
    unfold nwS
    split
    · exact rsN_le hs w i
    · omega
  have f0 := far_sta hw 0
  have f1 := far_sta hw 1
  have f2 := far_sta hw 2
  have lo := spr_lo (T := T) (s := nwS T S w) (F := fun x => min (min (nwS T S w 0 + farN T 0 x) (min (nwS T S w 1 + farN T 1 x) (nwS T S w 2 + farN T 2 x))) 1000000) (fun l hl => by
    have a0 := f0 l hl
    have a1 := f1 l hl
    have a2 := f2 l hl
    show min _ _ ≤ min _ _ + _ ∧ min _ _ ≤ min _ _ + _
    omega) (fun x => by
    show min _ _ ≤ _
    by_cases h0 : x = 0
    · subst h0; have := far_p (T := T) 0; omega
    · by_cases h1 : x = 1
      · subst h1; have := far_p (T := T) 1; omega
      · by_cases h2 : x = 2
        · subst h2; have := far_p (T := T) 2; omega
        · have : nwS T S w x = 1000000 := by unfold nwS; rw [if_neg (by omega)]
          omega) (T 0 8) h
  have gap := spr_gap (T := T) (s := nwS T S w) (K := 1000000) (M := 1100) hw.lk3 (fun l hl => (hw.lk l hl).2.2.2) (fun i => by
    unfold nwS rsN
    have := hs.ro (6 * i + w)
    have := hs.day
    split
    · split
      · omega
      · split <;> omega
    · omega) (T 0 8) h
  have l3 := hw.lk3
  have e : newsN T S w h = sprN T (nwS T S w) (T 0 8) h := rfl
  have lo : min (min (nwS T S w 0 + farN T 0 h) (min (nwS T S w 1 + farN T 1 h) (nwS T S w 2 + farN T 2 h))) 1000000 ≤ newsN T S w h := lo
  rw [← e] at gap
  have : newsN T S w h = 1000000 ∨ newsN T S w h ≤ 9999 := by omega
  rcases this with z | z
  · exact Or.inl z
  · refine Or.inr ⟨z, ?_⟩
    have : nwS T S w 0 + farN T 0 h ≤ newsN T S w h ∨ nwS T S w 1 + farN T 1 h ≤ newsN T S w h ∨ nwS T S w 2 + farN T 2 h ≤ newsN T S w h := by omega
    rcases this with y | y | y
    · exact ⟨0, by omega, y⟩
    · exact ⟨1, by omega, y⟩
    · exact ⟨2, by omega, y⟩
/-- the reference's loop -/
def nwJ (T S : Nat → Nat → Nat) (w h : Nat) : Nat → Option Nat
  | 0 => none
  | i + 1 => if rsN T S w i = 1000000 ∨ 9999 < farN T i h then nwJ T S w h i else match nwJ T S w h i with
    | none => some (rsN T S w i + farN T i h)
    | some b => if rsN T S w i + farN T i h < b then some (rsN T S w i + farN T i h) else some b
theorem nwJ_sp : ∀ n, (nwJ T S w h n = none ∧ ∀ i, i < n → rsN T S w i = 1000000 ∨ 9999 < farN T i h) ∨ ∃ b, nwJ T S w h n = some b ∧ (∃ i, i < n ∧ ¬ (rsN T S w i = 1000000 ∨ 9999 < farN T i h) ∧ b = rsN T S w i + farN T i h) ∧ ∀ i, i < n → ¬ (rsN T S w i = 1000000 ∨ 9999 < farN T i h) → b ≤ rsN T S w i + farN T i h
  | 0 => Or.inl ⟨rfl, fun i hi => by omega⟩
  | n + 1 => by
    have ih := nwJ_sp n
    by_cases hc : rsN T S w n = 1000000 ∨ 9999 < farN T n h
    · have e : nwJ T S w h (n + 1) = nwJ T S w h n := by rw [nwJ, if_pos hc]
      rw [e]
      rcases ih with ⟨h1, h2⟩ | ⟨b, h1, ⟨i, hi, h2⟩, h3⟩
      · refine Or.inl ⟨h1, fun i hi => ?_⟩
        by_cases ei : i = n
        · rw [ei]; exact hc
        · exact h2 i (by omega)
      · refine Or.inr ⟨b, h1, ⟨i, by omega, h2⟩, fun k hk hk2 => ?_⟩
        by_cases ei : k = n
        · rw [ei] at hk2; exact absurd hc hk2
        · exact h3 k (by omega) hk2
    · refine Or.inr ?_
      rcases ih with ⟨h1, h2⟩ | ⟨b, h1, ⟨i, hi, h2⟩, h3⟩
      · have e : nwJ T S w h (n + 1) = some (rsN T S w n + farN T n h) := by rw [nwJ, if_neg hc, h1]
        refine ⟨_, e, ⟨n, by omega, hc, rfl⟩, fun k hk hk2 => ?_⟩
        by_cases ei : k = n
        · rw [ei]; exact Nat.le_refl _
        · exact absurd (h2 k (by omega)) hk2
      · by_cases hlt : rsN T S w n + farN T n h < b
        · have e : nwJ T S w h (n + 1) = some (rsN T S w n + farN T n h) := by rw [nwJ, if_neg hc, h1]; exact if_pos hlt
          refine ⟨_, e, ⟨n, by omega, hc, rfl⟩, fun k hk hk2 => ?_⟩
          by_cases ei : k = n
          · rw [ei]; exact Nat.le_refl _
          · have := h3 k (by omega) hk2; omega
        · have e : nwJ T S w h (n + 1) = some b := by rw [nwJ, if_neg hc, h1]; exact if_neg hlt
          refine ⟨_, e, ⟨i, by omega, h2⟩, fun k hk hk2 => ?_⟩
          by_cases ei : k = n
          · rw [ei]; omega
          · exact h3 k (by omega) hk2
theorem nwJ_eq (hw : wfT T) (hs : wfS T S) : (if 1000000 ≤ newsN T S w h then (-2 : Int32) else nI (newsN T S w h)) = wsI (nwJ T S w h (T 0 5)) := by
  have h3 := hw.hl3
  have hrs : ∀ i, i < T 0 5 → nwS T S w i = rsN T S w i := fun i hi => by unfold nwS; rw [if_pos hi]
  rcases nwJ_sp (T := T) (S := S) (w := w) (h := h) (T 0 5) with ⟨h1, h2⟩ | ⟨b, h1, ⟨i, hi, h2, h2b⟩, h4⟩
  · rw [h1]
    rcases nw_hi (w := w) hw hs h with z | ⟨z, i, hi3, hi⟩
    · rw [if_pos (by omega)]; rfl
    · exfalso
      by_cases hi5 : i < T 0 5
      · have := h2 i hi5
        rw [hrs i hi5] at hi
        omega
      · have : nwS T S w i = 1000000 := by unfold nwS; rw [if_neg hi5]
        omega
  · rw [h1]
    have lo := nw_lo (w := w) (h := h) hw hs i (by omega)
    rw [hrs i hi] at lo
    rcases nw_hi (w := w) hw hs h with z | ⟨z, k, hk3, hk⟩
    · have : rsN T S w i ≤ 9999 ∨ rsN T S w i = 1000000 := by
        unfold rsN
        have := hs.ro (6 * i + w)
        have := hs.day
        split
        · omega
        · split <;> omega
      omega
    · by_cases hk5 : k < T 0 5
      · rw [hrs k hk5] at hk
        have := h4 k hk5 (by omega)
        have e : newsN T S w h = b := by omega
        rw [if_neg (by omega), e]
        rfl
      · have : nwS T S w k = 1000000 := by unfold nwS; rw [if_neg hk5]
        omega
end
