/-! THE REFERENCE READS: what it holds meanwhile -/
def MX (T : Nat → Nat → Nat) (mi : Nat → Nat → Int32) : Prop :=
  (mi 95 23 = nI (T 0 0)) ∧
  (mi 95 24 = nI (T 0 1)) ∧
  (mi 95 25 = nI (T 0 2)) ∧
  (mi 95 26 = nI (T 0 13)) ∧
  (mi 95 27 = nI (T 0 3)) ∧
  (mi 95 28 = nI (T 0 4)) ∧
  (mi 95 29 = nI (T 0 5)) ∧
  (mi 95 30 = nI (T 0 6)) ∧
  (mi 95 31 = nI (T 0 7)) ∧
  (mi 95 32 = nI (T 0 8)) ∧
  (mi 95 33 = nI (T 0 9)) ∧
  (mi 95 34 = nI (T 0 14)) ∧
  (mi 95 35 = nI (T 0 18)) ∧
  (mi 98 3 = nI (T 0 10)) ∧
  (mi 98 4 = nI (T 0 11)) ∧
  (mi 98 5 = nI (T 0 12)) ∧
  (mi 99 0 = nI (T 0 15)) ∧
  (mi 99 1 = nI (T 0 16)) ∧
  (mi 99 2 = nI (T 0 17)) ∧
  (∀ i, i < T 0 2 → mi 100 (5 + i) = nI (T 1 i)) ∧
  (∀ i, i < T 0 2 → mi 101 (5 + i) = nI (T 2 i)) ∧
  (∀ i, i < T 0 2 → mi 102 (5 + i) = nI (T 3 i)) ∧
  (∀ f, f < 48 → mi 103 (48 + f) = nI (T 4 f) - 1) ∧
  (∀ i, i < T 0 3 → mi 104 (9 + i) = nI (T 5 i)) ∧
  (∀ i, i < T 0 3 → mi 105 (9 + i) = nI (T 6 i)) ∧
  (∀ i, i < T 0 4 → mi 106 (6 + i) = nI (T 7 i)) ∧
  (∀ i, i < T 0 4 → mi 107 (6 + i) = nI (T 8 i)) ∧
  (∀ i, i < T 0 5 → mi 108 (3 + i) = nI (T 9 i)) ∧
  (∀ i, i < T 0 5 → mi 109 (3 + i) = nI (T 10 i)) ∧
  (∀ i, i < T 0 6 → mi 110 (4 + i) = nI (T 11 i)) ∧
  (∀ i, i < T 0 6 → mi 111 (4 + i) = nI (T 12 i)) ∧
  (∀ i, i < T 0 7 → mi 112 (5 + i) = nI (T 13 i)) ∧
  (∀ i, i < T 0 7 → mi 113 (5 + i) = nI (T 14 i)) ∧
  (∀ i, i < T 0 7 → ∀ k, k < T 14 i → mi 114 (20 + (4 * i + k)) = nI (T 15 (4 * i + k))) ∧
  (∀ i, i < 3 * T 0 8 → mi 115 (9 + i) = nI (T 16 i)) ∧
  (T 0 18 = 0 → mi 95 62 = nI 0) ∧
  (∀ i, i < T 0 9 → mi 116 (64 + i) = nI (T 17 i)) ∧
  (∀ i, i < T 0 9 → T 17 i ≤ 1 → mi 117 (64 + i) = nI (T 18 i)) ∧
  (∀ i, i < T 0 9 → (T 17 i = 2 → mi 117 (64 + i) = nI (nth 0 (hdN T i) 0)) ∧ (3 ≤ T 17 i → mi 118 (64 + i) = nI (nth 0 (hdN T i) 0) ∧ mi 117 (64 + i) = nI (nth 0 (hdN T i) 1)))
theorem MX.w {T : Nat → Nat → Nat} {mi : Nat → Nat → Int32} (h : MX T mi) : mi 95 23 = nI (T 0 0) := h.1
theorem MX.h {T : Nat → Nat → Nat} {mi : Nat → Nat → Int32} (h : MX T mi) : mi 95 24 = nI (T 0 1) := h.2.1
theorem MX.no {T : Nat → Nat → Nat} {mi : Nat → Nat → Int32} (h : MX T mi) : mi 95 25 = nI (T 0 2) := h.2.2.1
theorem MX.ns {T : Nat → Nat → Nat} {mi : Nat → Nat → Int32} (h : MX T mi) : mi 95 26 = nI (T 0 13) := h.2.2.2.1
theorem MX.ng {T : Nat → Nat → Nat} {mi : Nat → Nat → Int32} (h : MX T mi) : mi 95 27 = nI (T 0 3) := h.2.2.2.2.1
theorem MX.nw {T : Nat → Nat → Nat} {mi : Nat → Nat → Int32} (h : MX T mi) : mi 95 28 = nI (T 0 4) := h.2.2.2.2.2.1
theorem MX.nh {T : Nat → Nat → Nat} {mi : Nat → Nat → Int32} (h : MX T mi) : mi 95 29 = nI (T 0 5) := h.2.2.2.2.2.2.1
theorem MX.nc {T : Nat → Nat → Nat} {mi : Nat → Nat → Int32} (h : MX T mi) : mi 95 30 = nI (T 0 6) := h.2.2.2.2.2.2.2.1
theorem MX.nsg {T : Nat → Nat → Nat} {mi : Nat → Nat → Int32} (h : MX T mi) : mi 95 31 = nI (T 0 7) := h.2.2.2.2.2.2.2.2.1
theorem MX.nl {T : Nat → Nat → Nat} {mi : Nat → Nat → Int32} (h : MX T mi) : mi 95 32 = nI (T 0 8) := h.2.2.2.2.2.2.2.2.2.1
theorem MX.nk {T : Nat → Nat → Nat} {mi : Nat → Nat → Int32} (h : MX T mi) : mi 95 33 = nI (T 0 9) := h.2.2.2.2.2.2.2.2.2.2.1
theorem MX.pt {T : Nat → Nat → Nat} {mi : Nat → Nat → Int32} (h : MX T mi) : mi 95 34 = nI (T 0 14) := h.2.2.2.2.2.2.2.2.2.2.2.1
theorem MX.ls {T : Nat → Nat → Nat} {mi : Nat → Nat → Int32} (h : MX T mi) : mi 95 35 = nI (T 0 18) := h.2.2.2.2.2.2.2.2.2.2.2.2.1
theorem MX.pu {T : Nat → Nat → Nat} {mi : Nat → Nat → Int32} (h : MX T mi) : mi 98 3 = nI (T 0 10) := h.2.2.2.2.2.2.2.2.2.2.2.2.2.1
theorem MX.se {T : Nat → Nat → Nat} {mi : Nat → Nat → Int32} (h : MX T mi) : mi 98 4 = nI (T 0 11) := h.2.2.2.2.2.2.2.2.2.2.2.2.2.2.1
theorem MX.ra {T : Nat → Nat → Nat} {mi : Nat → Nat → Int32} (h : MX T mi) : mi 98 5 = nI (T 0 12) := h.2.2.2.2.2.2.2.2.2.2.2.2.2.2.2.1
theorem MX.o0 {T : Nat → Nat → Nat} {mi : Nat → Nat → Int32} (h : MX T mi) : mi 99 0 = nI (T 0 15) := h.2.2.2.2.2.2.2.2.2.2.2.2.2.2.2.2.1
theorem MX.o1 {T : Nat → Nat → Nat} {mi : Nat → Nat → Int32} (h : MX T mi) : mi 99 1 = nI (T 0 16) := h.2.2.2.2.2.2.2.2.2.2.2.2.2.2.2.2.2.1
theorem MX.o2 {T : Nat → Nat → Nat} {mi : Nat → Nat → Int32} (h : MX T mi) : mi 99 2 = nI (T 0 17) := h.2.2.2.2.2.2.2.2.2.2.2.2.2.2.2.2.2.2.1
theorem MX.on {T : Nat → Nat → Nat} {mi : Nat → Nat → Int32} (h : MX T mi) : ∀ i, i < T 0 2 → mi 100 (5 + i) = nI (T 1 i) := h.2.2.2.2.2.2.2.2.2.2.2.2.2.2.2.2.2.2.2.1
theorem MX.pr {T : Nat → Nat → Nat} {mi : Nat → Nat → Int32} (h : MX T mi) : ∀ i, i < T 0 2 → mi 101 (5 + i) = nI (T 2 i) := h.2.2.2.2.2.2.2.2.2.2.2.2.2.2.2.2.2.2.2.2.1
theorem MX.cud {T : Nat → Nat → Nat} {mi : Nat → Nat → Int32} (h : MX T mi) : ∀ i, i < T 0 2 → mi 102 (5 + i) = nI (T 3 i) := h.2.2.2.2.2.2.2.2.2.2.2.2.2.2.2.2.2.2.2.2.2.1
theorem MX.ow {T : Nat → Nat → Nat} {mi : Nat → Nat → Int32} (h : MX T mi) : ∀ f, f < 48 → mi 103 (48 + f) = nI (T 4 f) - 1 := h.2.2.2.2.2.2.2.2.2.2.2.2.2.2.2.2.2.2.2.2.2.2.1
theorem MX.gl {T : Nat → Nat → Nat} {mi : Nat → Nat → Int32} (h : MX T mi) : ∀ i, i < T 0 3 → mi 104 (9 + i) = nI (T 5 i) := h.2.2.2.2.2.2.2.2.2.2.2.2.2.2.2.2.2.2.2.2.2.2.2.1
theorem MX.gs {T : Nat → Nat → Nat} {mi : Nat → Nat → Int32} (h : MX T mi) : ∀ i, i < T 0 3 → mi 105 (9 + i) = nI (T 6 i) := h.2.2.2.2.2.2.2.2.2.2.2.2.2.2.2.2.2.2.2.2.2.2.2.2.1
theorem MX.wn {T : Nat → Nat → Nat} {mi : Nat → Nat → Int32} (h : MX T mi) : ∀ i, i < T 0 4 → mi 106 (6 + i) = nI (T 7 i) := h.2.2.2.2.2.2.2.2.2.2.2.2.2.2.2.2.2.2.2.2.2.2.2.2.2.1
theorem MX.ww {T : Nat → Nat → Nat} {mi : Nat → Nat → Int32} (h : MX T mi) : ∀ i, i < T 0 4 → mi 107 (6 + i) = nI (T 8 i) := h.2.2.2.2.2.2.2.2.2.2.2.2.2.2.2.2.2.2.2.2.2.2.2.2.2.2.1
theorem MX.hn {T : Nat → Nat → Nat} {mi : Nat → Nat → Int32} (h : MX T mi) : ∀ i, i < T 0 5 → mi 108 (3 + i) = nI (T 9 i) := h.2.2.2.2.2.2.2.2.2.2.2.2.2.2.2.2.2.2.2.2.2.2.2.2.2.2.2.1
theorem MX.sg {T : Nat → Nat → Nat} {mi : Nat → Nat → Int32} (h : MX T mi) : ∀ i, i < T 0 5 → mi 109 (3 + i) = nI (T 10 i) := h.2.2.2.2.2.2.2.2.2.2.2.2.2.2.2.2.2.2.2.2.2.2.2.2.2.2.2.2.1
theorem MX.cn {T : Nat → Nat → Nat} {mi : Nat → Nat → Int32} (h : MX T mi) : ∀ i, i < T 0 6 → mi 110 (4 + i) = nI (T 11 i) := h.2.2.2.2.2.2.2.2.2.2.2.2.2.2.2.2.2.2.2.2.2.2.2.2.2.2.2.2.2.1
theorem MX.cm {T : Nat → Nat → Nat} {mi : Nat → Nat → Int32} (h : MX T mi) : ∀ i, i < T 0 6 → mi 111 (4 + i) = nI (T 12 i) := h.2.2.2.2.2.2.2.2.2.2.2.2.2.2.2.2.2.2.2.2.2.2.2.2.2.2.2.2.2.2.1
theorem MX.sn {T : Nat → Nat → Nat} {mi : Nat → Nat → Int32} (h : MX T mi) : ∀ i, i < T 0 7 → mi 112 (5 + i) = nI (T 13 i) := h.2.2.2.2.2.2.2.2.2.2.2.2.2.2.2.2.2.2.2.2.2.2.2.2.2.2.2.2.2.2.2.1
theorem MX.sl {T : Nat → Nat → Nat} {mi : Nat → Nat → Int32} (h : MX T mi) : ∀ i, i < T 0 7 → mi 113 (5 + i) = nI (T 14 i) := h.2.2.2.2.2.2.2.2.2.2.2.2.2.2.2.2.2.2.2.2.2.2.2.2.2.2.2.2.2.2.2.2.1
theorem MX.sr {T : Nat → Nat → Nat} {mi : Nat → Nat → Int32} (h : MX T mi) : ∀ i, i < T 0 7 → ∀ k, k < T 14 i → mi 114 (20 + (4 * i + k)) = nI (T 15 (4 * i + k)) := h.2.2.2.2.2.2.2.2.2.2.2.2.2.2.2.2.2.2.2.2.2.2.2.2.2.2.2.2.2.2.2.2.2.1
theorem MX.lk {T : Nat → Nat → Nat} {mi : Nat → Nat → Int32} (h : MX T mi) : ∀ i, i < 3 * T 0 8 → mi 115 (9 + i) = nI (T 16 i) := h.2.2.2.2.2.2.2.2.2.2.2.2.2.2.2.2.2.2.2.2.2.2.2.2.2.2.2.2.2.2.2.2.2.2.1
theorem MX.ct {T : Nat → Nat → Nat} {mi : Nat → Nat → Int32} (h : MX T mi) : T 0 18 = 0 → mi 95 62 = nI 0 := h.2.2.2.2.2.2.2.2.2.2.2.2.2.2.2.2.2.2.2.2.2.2.2.2.2.2.2.2.2.2.2.2.2.2.2.1
theorem MX.kk {T : Nat → Nat → Nat} {mi : Nat → Nat → Int32} (h : MX T mi) : ∀ i, i < T 0 9 → mi 116 (64 + i) = nI (T 17 i) := h.2.2.2.2.2.2.2.2.2.2.2.2.2.2.2.2.2.2.2.2.2.2.2.2.2.2.2.2.2.2.2.2.2.2.2.2.1
theorem MX.kn {T : Nat → Nat → Nat} {mi : Nat → Nat → Int32} (h : MX T mi) : ∀ i, i < T 0 9 → T 17 i ≤ 1 → mi 117 (64 + i) = nI (T 18 i) := h.2.2.2.2.2.2.2.2.2.2.2.2.2.2.2.2.2.2.2.2.2.2.2.2.2.2.2.2.2.2.2.2.2.2.2.2.2.1
theorem MX.kp {T : Nat → Nat → Nat} {mi : Nat → Nat → Int32} (h : MX T mi) : ∀ i, i < T 0 9 → (T 17 i = 2 → mi 117 (64 + i) = nI (nth 0 (hdN T i) 0)) ∧ (3 ≤ T 17 i → mi 118 (64 + i) = nI (nth 0 (hdN T i) 0) ∧ mi 117 (64 + i) = nI (nth 0 (hdN T i) 1)) := h.2.2.2.2.2.2.2.2.2.2.2.2.2.2.2.2.2.2.2.2.2.2.2.2.2.2.2.2.2.2.2.2.2.2.2.2.2.2
/-- the same cells -/
theorem MX.mv {T : Nat → Nat → Nat} {mi mi' : Nat → Nat → Int32} (h : MX T mi) (h95 : ∀ k, (23 ≤ k ∧ k ≤ 35) ∨ k = 62 → mi' 95 k = mi 95 k) (hc : ∀ c, 98 ≤ c → c ≤ 118 → mi' c = mi c) : MX T mi' := by
  unfold MX at h ⊢
  simp only [h95 23 (by decide), h95 24 (by decide), h95 25 (by decide), h95 26 (by decide), h95 27 (by decide), h95 28 (by decide), h95 29 (by decide), h95 30 (by decide), h95 31 (by decide), h95 32 (by decide), h95 33 (by decide), h95 34 (by decide), h95 35 (by decide), h95 62 (by decide), hc 98 (by decide) (by decide), hc 99 (by decide) (by decide), hc 100 (by decide) (by decide), hc 101 (by decide) (by decide), hc 102 (by decide) (by decide), hc 103 (by decide) (by decide), hc 104 (by decide) (by decide), hc 105 (by decide) (by decide), hc 106 (by decide) (by decide), hc 107 (by decide) (by decide), hc 108 (by decide) (by decide), hc 109 (by decide) (by decide), hc 110 (by decide) (by decide), hc 111 (by decide) (by decide), hc 112 (by decide) (by decide), hc 113 (by decide) (by decide), hc 114 (by decide) (by decide), hc 115 (by decide) (by decide), hc 116 (by decide) (by decide), hc 117 (by decide) (by decide), hc 118 (by decide) (by decide)]
  exact h
theorem hd_17 {T T' : Nat → Nat → Nat} : ∀ i, (∀ a, a < i → T' 17 a = T 17 a) → hdN T' i = hdN T i
  | 0, _ => rfl
  | i + 1, h => by rw [hdN, hdN, hd_17 i (fun a ha => h a (by omega)), h i (by omega)]
/-- fields that the reading changes -/
def wF (k : Nat) : Bool := (Nat.ble 4 k && Nat.ble k 5) || (Nat.ble 7 k && Nat.ble k 11) || (Nat.ble 23 k && Nat.ble k 35) || (Nat.ble 59 k && Nat.ble k 64)
def thD (c : Nat) : Nat := nth 1000 [3, 0, 5, 5, 5, 48, 9, 9, 6, 6, 3, 3, 4, 4, 5, 5, 20, 9, 64, 64, 64] (c - 98)
def wA2 (c k : Nat) : Bool := (Nat.beq c 95 && wF k) || (Nat.ble 98 c && Nat.ble c 118 && Nat.ble (thD c) k) || (Nat.ble 119 c && Nat.ble c 120)
/-- nothing but what the reading may change has changed -/
def WF (mi mi' : Nat → Nat → Int32) : Prop := ∀ c k, wA2 c k = false → mi' c k = mi c k
theorem WF.none {mi : Nat → Nat → Int32} : WF mi mi := fun _ _ _ => rfl
theorem WF.trans {a b c : Nat → Nat → Int32} (h : WF a b) (h' : WF b c) : WF a c := fun i k hk => (h' i k hk).trans (h i k hk)
theorem WF.cu {mi mi' : Nat → Nat → Int32} {c k : Nat} {x : Int32} (h : WF mi mi') (hk : wA2 c k = true) : WF mi (cu mi' c (upd (mi' c) k x)) := fun a i hi => by
  by_cases e : a = c
  · subst e
    rw [cu_self, pk_un (fun e2 => by rw [e2, hk] at hi; cases hi)]
    exact h _ _ hi
  · rw [cu_ne e]; exact h _ _ hi
/-- the fault stays too -/
def wB (c k : Nat) : Bool := wA2 c k && !(Nat.beq c 95 && (Nat.beq k 4 || Nat.beq k 5))
def WG (mi mi' : Nat → Nat → Int32) : Prop := ∀ c k, wB c k = false → mi' c k = mi c k
theorem WG.none {mi : Nat → Nat → Int32} : WG mi mi := fun _ _ _ => rfl
theorem WG.trans {a b c : Nat → Nat → Int32} (h : WG a b) (h' : WG b c) : WG a c := fun i k hk => (h' i k hk).trans (h i k hk)
theorem WG.cu {mi mi' : Nat → Nat → Int32} {c k : Nat} {x : Int32} (h : WG mi mi') (hk : wB c k = true) : WG mi (cu mi' c (upd (mi' c) k x)) := fun a i hi => by
  by_cases e : a = c
  · subst e
    rw [cu_self, pk_un (fun e2 => by rw [e2, hk] at hi; cases hi)]
    exact h _ _ hi
  · rw [cu_ne e]; exact h _ _ hi
theorem WG.wf {mi mi' : Nat → Nat → Int32} (h : WG mi mi') : WF mi mi' := fun c k hk => h c k (by unfold wB; rw [hk]; rfl)
theorem wB_hi {c k : Nat} (h1 : 98 ≤ c) (h2 : c ≤ 118) (h3 : thD c ≤ k) : wB c k = true := by
  unfold wB wA2
  rw [Nat.ble_eq_true_of_le h1, Nat.ble_eq_true_of_le h2, Nat.ble_eq_true_of_le h3, show Nat.beq c 95 = false by
    cases hb : Nat.beq c 95 with
    | false => rfl
    | true => have := Nat.eq_of_beq_eq_true hb; omega]
  rfl
theorem wA_hi {c k : Nat} (h1 : 98 ≤ c) (h2 : c ≤ 118) (h3 : thD c ≤ k) : wA2 c k = true := by
  unfold wA2
  rw [Nat.ble_eq_true_of_le h1, Nat.ble_eq_true_of_le h2, Nat.ble_eq_true_of_le h3]
  simp
theorem F4.wf {mi mi' : Nat → Nat → Int32} (h : F4 mi mi') : WF mi mi' := fun c k hk => h c k (by
  by_cases e : c = 95
  · refine Or.inr ?_
    cases hf : f4 k with
    | false => rfl
    | true =>
      have hk4 : k = 7 ∨ k = 8 ∨ k = 9 ∨ k = 10 := by
        unfold f4 at hf
        simp only [Bool.or_eq_true] at hf
        rcases hf with ((h | h) | h) | h
        · exact Or.inl (Nat.eq_of_beq_eq_true h)
        · exact Or.inr (Or.inl (Nat.eq_of_beq_eq_true h))
        · exact Or.inr (Or.inr (Or.inl (Nat.eq_of_beq_eq_true h)))
        · exact Or.inr (Or.inr (Or.inr (Nat.eq_of_beq_eq_true h)))
      rcases hk4 with rfl | rfl | rfl | rfl <;> (rw [e] at hk; cases hk)
  · exact Or.inl e)
/-- token and got -/
def F5 (mi mi' : Nat → Nat → Int32) : Prop := ∀ c k, (c ≠ 95 ∨ (f4 k = false ∧ k ≠ 11)) → mi' c k = mi c k
theorem F5.none {mi : Nat → Nat → Int32} : F5 mi mi := fun _ _ _ => rfl
theorem F5.trans {a b c : Nat → Nat → Int32} (h : F5 a b) (h' : F5 b c) : F5 a c := fun i k hk => (h' i k hk).trans (h i k hk)
theorem F4.f5 {mi mi' : Nat → Nat → Int32} (h : F4 mi mi') : F5 mi mi' := fun c k hk => h c k (hk.imp id (fun q => q.1))
theorem F5.got {mi mi' : Nat → Nat → Int32} {x : Int32} (h : F5 mi mi') : F5 mi (cu mi' 95 (upd (mi' 95) 11 x)) := fun a i hi => by
  by_cases e : a = 95
  · subst e
    have hi2 := hi.elim (fun q => absurd rfl q) id
    rw [cu_self, pk_un hi2.2]
    exact h _ _ hi
  · rw [cu_ne e]; exact h _ _ hi
theorem F5.c {mi mi' : Nat → Nat → Int32} {c : Nat} (h : F5 mi mi') (hc : c ≠ 95) : mi' c = mi c := funext (fun k => h c k (Or.inl hc))
theorem F5.k {mi mi' : Nat → Nat → Int32} {k : Nat} (h : F5 mi mi') (h1 : f4 k = false := by rfl) (h2 : k ≠ 11 := by decide) : mi' 95 k = mi 95 k := h 95 k (Or.inr ⟨h1, h2⟩)
theorem f4_hi {k : Nat} (h : 11 < k) : f4 k = false := by
  have e : ∀ a, a < 11 → Nat.beq k a = false := fun a ha => by
    cases hb : Nat.beq k a with
    | false => rfl
    | true => have := Nat.eq_of_beq_eq_true hb; omega
  unfold f4
  rw [e 7 (by decide), e 8 (by decide), e 9 (by decide), e 10 (by decide)]
  rfl
theorem F5.mx {T : Nat → Nat → Nat} {mi mi' : Nat → Nat → Int32} (h : F5 mi mi') (hX : MX T mi) : MX T mi' := hX.mv (fun k hk => h 95 k (Or.inr ⟨f4_hi (by omega), by omega⟩)) (fun c h1 h2 => h.c (by omega))
theorem F5.wf {mi mi' : Nat → Nat → Int32} (h : F5 mi mi') : WF mi mi' := fun c k hk => h c k (by
  by_cases e : c = 95
  · refine Or.inr ⟨?_, fun e2 => by rw [e, e2] at hk; cases hk⟩
    cases hf : f4 k with
    | false => rfl
    | true =>
      have hk4 : k = 7 ∨ k = 8 ∨ k = 9 ∨ k = 10 := by
        unfold f4 at hf
        simp only [Bool.or_eq_true] at hf
        rcases hf with ((h | h) | h) | h
        · exact Or.inl (Nat.eq_of_beq_eq_true h)
        · exact Or.inr (Or.inl (Nat.eq_of_beq_eq_true h))
        · exact Or.inr (Or.inr (Or.inl (Nat.eq_of_beq_eq_true h)))
        · exact Or.inr (Or.inr (Or.inr (Nat.eq_of_beq_eq_true h)))
      rcases hk4 with rfl | rfl | rfl | rfl <;> (rw [e] at hk; cases hk)
  · exact Or.inl e)
theorem F5.wg {mi mi' : Nat → Nat → Int32} (h : F5 mi mi') : WG mi mi' := fun c k hk => by
  by_cases e : c = 95
  · by_cases e4 : k = 4
    · subst e; subst e4; exact h.k
    · by_cases e5 : k = 5
      · subst e; subst e5; exact h.k
      · refine h.wf c k ?_
        unfold wB at hk
        rw [Bool.and_eq_false_iff] at hk
        rcases hk with q | q
        · exact q
        · have b4 : Nat.beq k 4 = false := by
            cases hb : Nat.beq k 4 with
            | false => rfl
            | true => exact absurd (Nat.eq_of_beq_eq_true hb) e4
          have b5 : Nat.beq k 5 = false := by
            cases hb : Nat.beq k 5 with
            | false => rfl
            | true => exact absurd (Nat.eq_of_beq_eq_true hb) e5
          rw [b4, b5, Bool.or_false, Bool.and_false] at q
          cases q
  · exact h c k (Or.inl e)
theorem F4.wg {mi mi' : Nat → Nat → Int32} (h : F4 mi mi') : WG mi mi' := h.f5.wg
theorem TE.f5 {b : Nat → Nat} {n : Nat} {mi mi' : Nat → Nat → Int32} (h : TE b n mi) (hf : F5 mi mi') : TE b n mi' := h.mv hf.k (hf.c (by decide)) (hf.c (by decide))
theorem TE.wf {b : Nat → Nat} {n : Nat} {mi mi' : Nat → Nat → Int32} (h : TE b n mi) (hf : WF mi mi') : TE b n mi' := h.mv (hf 95 6 rfl) (funext (fun k => hf 96 k rfl)) (funext (fun k => hf 97 k rfl))
/-- the reference stands at token j -/
def TP (b : Nat → Nat) (n j : Nat) (mi : Nat → Nat → Int32) : Prop := mi 95 10 = nI (psN b n j) ∧ mi 95 7 = nI (if psN b n j < n then tkE b n (psN b n j) else n) ∧ KW (tK b n j) (tV b n j) (mi 95 8) (mi 95 9)
theorem TP.mv {b : Nat → Nat} {n j : Nat} {mi mi' : Nat → Nat → Int32} (h : TP b n j mi) (h7 : mi' 95 7 = mi 95 7) (h8 : mi' 95 8 = mi 95 8) (h9 : mi' 95 9 = mi 95 9) (h10 : mi' 95 10 = mi 95 10) : TP b n j mi' := by
  unfold TP at h ⊢
  rw [h7, h8, h9, h10]
  exact h
/-- what kind says -/
theorem KW.k8 {k v : Nat} {x8 x9 : Int32} (h : KW k v x8 x9) : (x8 = nI 0 ↔ k = 0) ∧ (x8 = nI 1 ↔ 20 ≤ k) ∧ (x8 = nI 2 ↔ k = 2) ∧ (x8 = nI 3 ↔ k = 1) ∧ (x8 = nI 5 ↔ 11 ≤ k ∧ k ≤ 16) ∧ k ≤ 45 ∧ (k = 2 → x9 = nI v) ∧ (20 ≤ k → x9 = nI (kK k)) ∧ (11 ≤ k → k ≤ 16 → x9 = nI (k - 11)) ∧ (4 ≤ k → k ≤ 10 → x8 = nI 4 ∧ x9 = nI (sgc k)) ∧ (x8 = nI 4 → (4 ≤ k ∧ k ≤ 10 ∧ x9 = nI (sgc k)) ∨ (k = 3 ∧ x9 = nI 37)) ∧ (k = 1 → ∃ w, x9 = nI w ∧ w < 1000000 ∧ (w = v ∨ (99999 < w ∧ 99999 < v))) := by
  have ne : ∀ a b : Nat, a < 7 → b < 7 → a ≠ b → ¬ nI a = nI b := fun a b ha hb h e => h (iEQ e)
  unfold KW at h
  rcases h with ⟨h1, h2⟩ | ⟨h1, h2, h3⟩ | ⟨h1, h2, h3⟩ | ⟨h1, h2 | ⟨h2, h3⟩⟩ | ⟨h0, h1, h2, h3⟩ | ⟨h0, h1, h2, h3⟩ | ⟨h0, h1, h2, h3⟩
  · exact ⟨⟨fun _ => by omega, fun _ => h2⟩, ⟨fun q => absurd (h2.symm.trans q) (ne _ _ (by decide) (by decide) (by decide)), fun q => by omega⟩, ⟨fun q => absurd (h2.symm.trans q) (ne _ _ (by decide) (by decide) (by decide)), fun q => by omega⟩, ⟨fun q => absurd (h2.symm.trans q) (ne _ _ (by decide) (by decide) (by decide)), fun q => by omega⟩, ⟨fun q => absurd (h2.symm.trans q) (ne _ _ (by decide) (by decide) (by decide)), fun q => by omega⟩, by omega, fun q => by omega, fun q => by omega, fun q q2 => by omega, fun q q2 => by omega, fun q => absurd (h2.symm.trans q) (ne _ _ (by decide) (by decide) (by decide)), fun q => by omega⟩
  · exact ⟨⟨fun q => absurd (h2.symm.trans q) (ne _ _ (by decide) (by decide) (by decide)), fun q => by omega⟩, ⟨fun q => absurd (h2.symm.trans q) (ne _ _ (by decide) (by decide) (by decide)), fun q => by omega⟩, ⟨fun q => absurd (h2.symm.trans q) (ne _ _ (by decide) (by decide) (by decide)), fun q => by omega⟩, ⟨fun _ => by omega, fun _ => h2⟩, ⟨fun q => absurd (h2.symm.trans q) (ne _ _ (by decide) (by decide) (by decide)), fun q => by omega⟩, by omega, fun q => by omega, fun q => by omega, fun q q2 => by omega, fun q q2 => by omega, fun q => absurd (h2.symm.trans q) (ne _ _ (by decide) (by decide) (by decide)), fun _ => h3⟩
  · exact ⟨⟨fun q => absurd (h2.symm.trans q) (ne _ _ (by decide) (by decide) (by decide)), fun q => by omega⟩, ⟨fun q => absurd (h2.symm.trans q) (ne _ _ (by decide) (by decide) (by decide)), fun q => by omega⟩, ⟨fun _ => by omega, fun _ => h2⟩, ⟨fun q => absurd (h2.symm.trans q) (ne _ _ (by decide) (by decide) (by decide)), fun q => by omega⟩, ⟨fun q => absurd (h2.symm.trans q) (ne _ _ (by decide) (by decide) (by decide)), fun q => by omega⟩, by omega, fun _ => h3, fun q => by omega, fun q q2 => by omega, fun q q2 => by omega, fun q => absurd (h2.symm.trans q) (ne _ _ (by decide) (by decide) (by decide)), fun q => by omega⟩
  · exact ⟨⟨fun q => absurd (h2.symm.trans q) (ne _ _ (by decide) (by decide) (by decide)), fun q => by omega⟩, ⟨fun q => absurd (h2.symm.trans q) (ne _ _ (by decide) (by decide) (by decide)), fun q => by omega⟩, ⟨fun q => absurd (h2.symm.trans q) (ne _ _ (by decide) (by decide) (by decide)), fun q => by omega⟩, ⟨fun q => absurd (h2.symm.trans q) (ne _ _ (by decide) (by decide) (by decide)), fun q => by omega⟩, ⟨fun q => absurd (h2.symm.trans q) (ne _ _ (by decide) (by decide) (by decide)), fun q => by omega⟩, by omega, fun q => by omega, fun q => by omega, fun q q2 => by omega, fun q q2 => by omega, fun q => absurd (h2.symm.trans q) (ne _ _ (by decide) (by decide) (by decide)), fun q => by omega⟩
  · exact ⟨⟨fun q => absurd (h2.symm.trans q) (ne _ _ (by decide) (by decide) (by decide)), fun q => by omega⟩, ⟨fun q => absurd (h2.symm.trans q) (ne _ _ (by decide) (by decide) (by decide)), fun q => by omega⟩, ⟨fun q => absurd (h2.symm.trans q) (ne _ _ (by decide) (by decide) (by decide)), fun q => by omega⟩, ⟨fun q => absurd (h2.symm.trans q) (ne _ _ (by decide) (by decide) (by decide)), fun q => by omega⟩, ⟨fun q => absurd (h2.symm.trans q) (ne _ _ (by decide) (by decide) (by decide)), fun q => by omega⟩, by omega, fun q => by omega, fun q => by omega, fun q q2 => by omega, fun q q2 => by omega, fun _ => Or.inr ⟨h1, h3⟩, fun q => by omega⟩
  · exact ⟨⟨fun q => absurd (h2.symm.trans q) (ne _ _ (by decide) (by decide) (by decide)), fun q => by omega⟩, ⟨fun q => absurd (h2.symm.trans q) (ne _ _ (by decide) (by decide) (by decide)), fun q => by omega⟩, ⟨fun q => absurd (h2.symm.trans q) (ne _ _ (by decide) (by decide) (by decide)), fun q => by omega⟩, ⟨fun q => absurd (h2.symm.trans q) (ne _ _ (by decide) (by decide) (by decide)), fun q => by omega⟩, ⟨fun q => absurd (h2.symm.trans q) (ne _ _ (by decide) (by decide) (by decide)), fun q => by omega⟩, by omega, fun q => by omega, fun q => by omega, fun q q2 => by omega, fun _ _ => ⟨h2, h3⟩, fun _ => Or.inl ⟨h0, h1, h3⟩, fun q => by omega⟩
  · exact ⟨⟨fun q => absurd (h2.symm.trans q) (ne _ _ (by decide) (by decide) (by decide)), fun q => by omega⟩, ⟨fun q => absurd (h2.symm.trans q) (ne _ _ (by decide) (by decide) (by decide)), fun q => by omega⟩, ⟨fun q => absurd (h2.symm.trans q) (ne _ _ (by decide) (by decide) (by decide)), fun q => by omega⟩, ⟨fun q => absurd (h2.symm.trans q) (ne _ _ (by decide) (by decide) (by decide)), fun q => by omega⟩, ⟨fun _ => by omega, fun _ => h2⟩, by omega, fun q => by omega, fun q => by omega, fun _ _ => h3, fun q q2 => by omega, fun q => absurd (h2.symm.trans q) (ne _ _ (by decide) (by decide) (by decide)), fun q => by omega⟩
  · exact ⟨⟨fun q => absurd (h2.symm.trans q) (ne _ _ (by decide) (by decide) (by decide)), fun q => by omega⟩, ⟨fun _ => by omega, fun _ => h2⟩, ⟨fun q => absurd (h2.symm.trans q) (ne _ _ (by decide) (by decide) (by decide)), fun q => by omega⟩, ⟨fun q => absurd (h2.symm.trans q) (ne _ _ (by decide) (by decide) (by decide)), fun q => by omega⟩, ⟨fun q => absurd (h2.symm.trans q) (ne _ _ (by decide) (by decide) (by decide)), fun q => by omega⟩, by omega, fun q => by omega, fun _ => h3, fun q q2 => by omega, fun q q2 => by omega, fun q => absurd (h2.symm.trans q) (ne _ _ (by decide) (by decide) (by decide)), fun q => by omega⟩
section
variable {d : Nat} {Q : Option Value → Mm → Prop} {b : Nat → Nat} {n j : Nat} {mi : Nat → Nat → Int32} {ml : Nat → Nat → Int64} {rd : Option Nat}
theorem t_tok (hE : TE b n mi) (hP : TP b n j mi) (hQ : ∀ mi', F4 mi mi' → TP b n (j + 1) mi' → Q none (mi', ml, R0 rd, 136)) : Cd (d + 2) k_Mod_token [.ref 95] (mi, ml, R0 rd, 136) Q := by
  have hps := psN_le (b := b) (n := n) j
  have hi : (if psN b n j < n then tkE b n (psN b n j) else n) ≤ n := by
    split
    · rename_i h; exact (tkE_le h).2
    · exact Nat.le_refl _
  have er : runE isBl b n (if psN b n j < n then tkE b n (psN b n j) else n) = psN b n (j + 1) := by
    show _ = (if psN b n j < n then runE isBl b n (tkE b n (psN b n j)) else n)
    split
    · rfl
    · exact runE_0 (by omega)
  refine t_token hE hi hP.2.1 (fun mi' hf h10 h7 hk => hQ mi' hf ⟨?_, ?_, ?_⟩)
  · rw [h10, er]
  · rw [h7, er]
  · rw [er] at hk
    exact hk
theorem t_wrong {c : Nat} (hQ : ∀ mi', WF mi mi' → mi' 95 4 = nI c → mi' 95 5 = mi 95 10 → Q (some (.int (nI 0))) (mi', ml, R0 rd, 136)) : Cd (d + 1) k_Mod_wrong [.ref 95, .int (nI c)] (mi, ml, R0 rd, 136) Q :=
  r_Mod_wrong (by decide) (fun K Kl hK hC => ⟨Or.inl rfl, rfl, hQ _ ((WF.none.cu rfl).cu rfl) rfl rfl⟩)
/-- a refusal at the token -/
theorem t_wrg {c : Nat} (hP : TP b n j mi) (hQ : ∀ mi', WF mi mi' → mi' 95 4 = nI c → mi' 95 5 = nI (psN b n j) → Q (some (.int (nI 0))) (mi', ml, R0 rd, 136)) : Cd (d + 1) k_Mod_wrong [.ref 95, .int (nI c)] (mi, ml, R0 rd, 136) Q := t_wrong (fun mi' hf h4 h5 => hQ mi' hf h4 (h5.trans hP.1))
theorem sgc_inj : ∀ a, 4 ≤ a → a ≤ 10 → ∀ b, 4 ≤ b → b ≤ 10 → (nI (sgc a) = nI (sgc b) → a = b) ∧ ¬ nI 37 = nI (sgc b) := by
  have h : ∀ x, x < 11 → ∀ y, y < 11 → (decide (4 ≤ x) && decide (4 ≤ y) && decide (nI (sgc x) = nI (sgc y))) = true → x = y := by decide +kernel
  have h2 : ∀ y, y < 11 → 4 ≤ y → ¬ nI 37 = nI (sgc y) := by decide +kernel
  intro a a1 a2 c c1 c2
  exact ⟨fun e => h a (by omega) c (by omega) (by rw [decide_eq_true a1, decide_eq_true c1, decide_eq_true e]; rfl), h2 c (by omega) c1⟩
theorem kK_inj : ∀ a, 20 ≤ a → a ≤ 45 → ∀ b, 20 ≤ b → b ≤ 45 → nI (kK a) = nI (kK b) → a = b := by
  have h : ∀ x, x < 46 → ∀ y, y < 46 → (decide (20 ≤ x) && decide (20 ≤ y) && decide (nI (kK x) = nI (kK y))) = true → x = y := by decide +kernel
  intro a a1 a2 c c1 c2 e
  exact h a (by omega) c (by omega) (by rw [decide_eq_true a1, decide_eq_true c1, decide_eq_true e]; rfl)
theorem t_isSign {q : Nat} (hP : TP b n j mi) (hq : 4 ≤ q ∧ q ≤ 10) {X : Int32} (hX : X = nI (sgc q)) (h1 : tK b n j = q → Q (some (.int (nI 1))) (mi, ml, R0 rd, 136)) (h0 : tK b n j ≠ q → Q (some (.int (nI 0))) (mi, ml, R0 rd, 136)) : Cd (d + 1) k_Mod_isSign [.ref 95, .int X] (mi, ml, R0 rd, 136) Q := by
  subst hX
  have hk := hP.2.2.k8
  refine r_Mod_isSign (by decide) (fun K Kl hK hC => ⟨fun z => ⟨Or.inl rfl, rfl, h0 (fun e => ?_)⟩, fun z => ⟨fun y => ⟨Or.inl rfl, rfl, h0 (fun e => ?_)⟩, fun y => ⟨Or.inr rfl, rfl, h1 ?_⟩⟩⟩)
  · exact z (hk.2.2.2.2.2.2.2.2.2.1 (by omega) (by omega)).1
  · have := (hk.2.2.2.2.2.2.2.2.2.1 (by omega) (by omega)).2
    rw [e] at this
    exact y this
  · rcases hk.2.2.2.2.2.2.2.2.2.2.1 z with ⟨a, c, e⟩ | ⟨a, e⟩
    · exact (sgc_inj _ a c q hq.1 hq.2).1 (e.symm.trans y)
    · exact absurd (e.symm.trans y) (sgc_inj q hq.1 hq.2 q hq.1 hq.2).2
theorem t_isKey {q : Nat} (hP : TP b n j mi) (hq : 20 ≤ q ∧ q ≤ 45) {X : Int32} (hX : X = nI (kK q)) (h1 : tK b n j = q → Q (some (.int (nI 1))) (mi, ml, R0 rd, 136)) (h0 : tK b n j ≠ q → Q (some (.int (nI 0))) (mi, ml, R0 rd, 136)) : Cd (d + 1) k_Mod_isKey [.ref 95, .int X] (mi, ml, R0 rd, 136) Q := by
  subst hX
  have hk := hP.2.2.k8
  refine r_Mod_isKey (by decide) (fun K Kl hK hC => ⟨fun z => ⟨Or.inl rfl, rfl, h0 (fun e => z (hk.2.1.mpr (by omega)))⟩, fun z => ⟨fun y => ⟨Or.inl rfl, rfl, h0 (fun e => ?_)⟩, fun y => ⟨Or.inr rfl, rfl, h1 ?_⟩⟩⟩)
  · have := hk.2.2.2.2.2.2.2.1 (by omega)
    rw [e] at this
    exact y this
  · have h20 := hk.2.1.mp z
    have := hk.2.2.2.2.2.2.2.1 h20
    exact kK_inj _ h20 hk.2.2.2.2.2.1 q hq.1 hq.2 (this.symm.trans y)
theorem t_number (hE : TE b n mi) (hP : TP b n j mi) {lo hi : Nat} {X Y : Int32} (hX : X = nI lo) (hY : Y = nI hi) (hlo : lo ≤ 99999) (hhi : hi ≤ 99999) (herr : ∀ e, pNum (tK b n) (tV b n) (psN b n) j lo hi = .error e → ∀ mi', WF mi mi' → mi' 95 4 = nI e.1 → mi' 95 5 = nI e.2 → Q (some (.int (nI 0))) (mi', ml, R0 rd, 136)) (hok : ∀ x, pNum (tK b n) (tV b n) (psN b n) j lo hi = .ok x → ∀ mi', F5 mi mi' → TP b n (j + 1) mi' → mi' 95 11 = nI x → Q (some (.int (nI 1))) (mi', ml, R0 rd, 136)) : Cd (d + 3) k_Mod_number [.ref 95, .int X, .int Y] (mi, ml, R0 rd, 136) Q := by
  subst hX; subst hY
  have hk := hP.2.2.k8
  unfold pNum at herr hok
  refine r_Mod_number (by decide) (fun K Kl hK hC => ⟨fun z => ?_, fun z => ?_⟩)
  · have k1 := hk.2.2.2.1.mp z
    obtain ⟨w, ew, hw, hr⟩ := hk.2.2.2.2.2.2.2.2.2.2.2 k1
    rw [if_pos k1] at herr hok
    have cin : ∀ P : Option Value → Mm → Prop, (lo ≤ tV b n j ∧ tV b n j ≤ hi → w = tV b n j → P (some (.int (nI 1))) (mi, ml, R0 rd, 136)) → (¬ (lo ≤ tV b n j ∧ tV b n j ≤ hi) → P (some (.int (nI 0))) (mi, ml, R0 rd, 136)) → Cd (d + 2) k_Mod_isIn [.int (mi 95 9), .int (nI lo), .int (nI hi)] (mi, ml, R0 rd, 136) P := fun P p1 p0 => by
      rw [ew]
      refine t_isIn (fun a c => p1 ?_ ?_) (fun a => p0 ?_)
      · have a := iNLT a; have c := iNLT c; omega
      · have a := iNLT a; have c := iNLT c; omega
      · rcases a with a | a
        · have := iLT a; omega
        · have := iLT a; omega
    refine hC _ _ _ _ (cin _ (fun hin hwv => ⟨fun _ => ?_, fun a => absurd a (by decide)⟩) (fun hno => ⟨fun a => absurd (by decide) a, fun _ => hC _ _ _ _ (t_wrg hP (fun mi' f a c => ⟨Or.inl rfl, rfl, herr (2, psN b n j) (if_neg hno) mi' f a c⟩))⟩))
    have fg : F5 mi (cu mi 95 (upd (mi 95) 11 (mi 95 9))) := F5.none.got
    refine hC _ _ _ _ (t_tok (hE.f5 fg) (hP.mv rfl rfl rfl rfl) (fun mi' hf hP' => ⟨Or.inr rfl, rfl, hok (tV b n j) (if_pos hin) mi' (fg.trans hf.f5) hP' ?_⟩))
    rw [hf 95 11 (Or.inr rfl), cu_self, pk_us, ew, hwv]
  · have k1 : tK b n j ≠ 1 := fun q => z (hk.2.2.2.1.mpr q)
    rw [if_neg k1] at herr
    exact hC _ _ _ _ (t_wrg hP (fun mi' f a c => ⟨Or.inl rfl, rfl, herr _ rfl mi' f a c⟩))
theorem t_newName (hE : TE b n mi) (hP : TP b n j mi) {c L a m : Nat} {nm : Nat → Nat} {Y : Int32} (hY : Y = nI m) (hc : (c = 100 ∧ L = 10) ∨ (c = 106 ∧ L = 12) ∨ (c = 108 ∧ L = 6) ∨ (c = 110 ∧ L = 8) ∨ (c = 112 ∧ L = 10)) (hm : a + m < L) (hnm : ∀ i, i < m → mi c (a + i) = nI (nm i)) (hb : ∀ i, nm i < 2 ^ 30) (hv : tK b n j = 2 → tV b n j < 2 ^ 30) (herr : ∀ e, pNew (tK b n) (tV b n) (psN b n) nm m j = .error e → ∀ mi', WF mi mi' → mi' 95 4 = nI e.1 → mi' 95 5 = nI e.2 → Q (some (.int (nI 0))) (mi', ml, R0 rd, 136)) (hok : ∀ x, pNew (tK b n) (tV b n) (psN b n) nm m j = .ok x → ∀ mi', F4 (cu mi c (upd (mi c) (a + m) (nI x))) mi' → TP b n (j + 1) mi' → Q (some (.int (nI 1))) (mi', ml, R0 rd, 136)) : Cd (d + 3) k_Mod_newName [.ref 95, .ref c, .int (nI a), .int Y] (mi, ml, R0 rd, 136) Q := by
  subst hY
  have hk := hP.2.2.k8
  unfold pNew at herr hok
  refine r_Mod_newName (by decide) ?_
  by_cases k2 : tK b n j = 2
  · have e8 := hk.2.2.1.mpr k2
    have e9 := hk.2.2.2.2.2.2.1 k2
    have hv := hv k2
    rw [if_pos k2] at herr hok
    have fnd1 : ∀ P : Option Value → Mm → Prop, (∀ i, nmF nm m (tV b n j) = i → i < m → P (some (.int (nI i))) (mi, ml, R0 rd, 136)) → (nmF nm m (tV b n j) = m → P (some (.int (-1))) (mi, ml, R0 rd, 136)) → Cd (d + 2) k_Mod_find [.ref c, .int (nI a), .int (nI m), .int (mi 95 9)] (mi, ml, R0 rd, 136) P := fun P p1 p0 => by
      rw [e9]
      refine s_Mod_find (L := L) (by rcases hc with h | h | h | h | h <;> simp [h]) (by omega) (fun i hi e hbf => p1 i ?_ hi) (fun hbf => p0 ?_)
      · rw [hnm i hi] at e
        exact nmF_hit hi (nI_inj (by have := hb i; omega) (by omega) e) (fun q hq e2 => hbf q hq (by rw [hnm q (by omega), e2]))
      · exact nmF_none (fun q hq e2 => hbf q hq (by rw [hnm q hq, e2]))
    rcases hc with ⟨rfl, rfl⟩ | ⟨rfl, rfl⟩ | ⟨rfl, rfl⟩ | ⟨rfl, rfl⟩ | ⟨rfl, rfl⟩
    all_goals
      intro K Kl hK hC
      refine ⟨fun _ => hC _ _ _ _ (fnd1 _ (fun i hi1 hi2 => ⟨fun q => (iNN q (by omega)).elim, fun _ => hC _ _ _ _ (t_wrg hP (fun mi' f p q => ⟨Or.inl rfl, rfl, herr (3, psN b n j) (if_pos (by omega)) mi' f p q⟩))⟩) (fun hn => ⟨fun _ => ⟨a + m, by omega, nI_add _ _, ?_⟩, fun q => absurd (show (-1 : Int32) < 0 by decide) q⟩)), fun z => absurd e8 z⟩
      have hokx := hok (tV b n j) (if_neg (by omega))
      rw [← e9] at hokx
      exact hC _ _ _ _ (t_tok (hE.mv rfl rfl rfl) (hP.mv rfl rfl rfl rfl) (fun mi' hf hP' => ⟨Or.inr rfl, rfl, hokx mi' hf hP'⟩))
  · rw [if_neg k2] at herr
    intro K Kl hK hC
    exact ⟨fun z => absurd (hk.2.2.1.mp z) k2, fun _ => hC _ _ _ _ (t_wrg hP (fun mi' f p q => ⟨Or.inl rfl, rfl, herr _ rfl mi' f p q⟩))⟩
theorem t_oldName (hE : TE b n mi) (hP : TP b n j mi) {c L a m : Nat} {nm : Nat → Nat} {Y : Int32} (hY : Y = nI m) (hc : (c = 100 ∧ L = 10) ∨ (c = 106 ∧ L = 12) ∨ (c = 108 ∧ L = 6) ∨ (c = 110 ∧ L = 8) ∨ (c = 112 ∧ L = 10)) (hm : a + m ≤ L) (hnm : ∀ i, i < m → mi c (a + i) = nI (nm i)) (hb : ∀ i, nm i < 2 ^ 30) (hv : tK b n j = 2 → tV b n j < 2 ^ 30) (herr : ∀ e, pOld (tK b n) (tV b n) (psN b n) nm m j = .error e → ∀ mi', WF mi mi' → mi' 95 4 = nI e.1 → mi' 95 5 = nI e.2 → Q (some (.int (nI 0))) (mi', ml, R0 rd, 136)) (hok : ∀ x, pOld (tK b n) (tV b n) (psN b n) nm m j = .ok x → x < m → ∀ mi', F5 mi mi' → TP b n (j + 1) mi' → mi' 95 11 = nI x → Q (some (.int (nI 1))) (mi', ml, R0 rd, 136)) : Cd (d + 3) k_Mod_oldName [.ref 95, .ref c, .int (nI a), .int Y] (mi, ml, R0 rd, 136) Q := by
  subst hY
  have hk := hP.2.2.k8
  unfold pOld at herr hok
  refine r_Mod_oldName (by decide) ?_
  by_cases k2 : tK b n j = 2
  · have e8 := hk.2.2.1.mpr k2
    have e9 := hk.2.2.2.2.2.2.1 k2
    have hv := hv k2
    rw [if_pos k2] at herr hok
    have fnd1 : ∀ P : Option Value → Mm → Prop, (∀ i, nmF nm m (tV b n j) = i → i < m → P (some (.int (nI i))) (mi, ml, R0 rd, 136)) → (nmF nm m (tV b n j) = m → P (some (.int (-1))) (mi, ml, R0 rd, 136)) → Cd (d + 2) k_Mod_find [.ref c, .int (nI a), .int (nI m), .int (mi 95 9)] (mi, ml, R0 rd, 136) P := fun P p1 p0 => by
      rw [e9]
      refine s_Mod_find (L := L) (by rcases hc with h | h | h | h | h <;> simp [h]) (by omega) (fun i hi e hbf => p1 i ?_ hi) (fun hbf => p0 ?_)
      · rw [hnm i hi] at e
        exact nmF_hit hi (nI_inj (by have := hb i; omega) (by omega) e) (fun q hq e2 => hbf q hq (by rw [hnm q (by omega), e2]))
      · exact nmF_none (fun q hq e2 => hbf q hq (by rw [hnm q hq, e2]))
    have hmL : m ≤ 12 := by rcases hc with h | h | h | h | h <;> omega
    intro K Kl hK hC
    refine ⟨fun _ => hC _ _ _ _ (fnd1 _ (fun i hi1 hi2 => ⟨fun _ => ?_, fun q => absurd (nI_pos' (n := i) (by omega)) q⟩) (fun hn => ⟨fun q => absurd q (by decide), fun _ => hC _ _ _ _ (t_wrg hP (fun mi' f p q => ⟨Or.inl rfl, rfl, herr (4, psN b n j) (if_neg (by omega)) mi' f p q⟩))⟩)), fun z => absurd e8 z⟩
    have fg : F5 mi (cu mi 95 (upd (mi 95) 11 (nI i))) := F5.none.got
    refine hC _ _ _ _ (t_tok (hE.f5 fg) (hP.mv rfl rfl rfl rfl) (fun mi' hf hP' => ⟨Or.inr rfl, rfl, hok i (by rw [hi1, if_pos hi2]) hi2 mi' (fg.trans hf.f5) hP' ?_⟩))
    rw [hf 95 11 (Or.inr rfl), cu_self, pk_us]
  · rw [if_neg k2] at herr
    intro K Kl hK hC
    exact ⟨fun z => absurd (hk.2.2.1.mp z) k2, fun _ => hC _ _ _ _ (t_wrg hP (fun mi' f p q => ⟨Or.inl rfl, rfl, herr _ rfl mi' f p q⟩))⟩
end
