/-! THE REFERENCE HOLDS A -/
/-- fields of the reference that no later call looks at -/
def scF (k : Nat) : Bool := Nat.beq k 2 || (Nat.ble 6 k && Nat.ble k 11) || (Nat.ble 23 k && Nat.ble k 35) || (Nat.ble 59 k && Nat.ble k 64) || Nat.beq k 67 || Nat.beq k 74 || (Nat.ble 77 k && Nat.ble k 81) || Nat.beq k 85 || Nat.beq k 86 || Nat.beq k 92 || Nat.beq k 93
def scr (c k : Nat) : Bool := (Nat.beq c 95 && scF k) || (Nat.beq c 123 && Nat.ble 48 k) || (Nat.beq c 124 && Nat.beq k 1) || Nat.beq c 99 || (Nat.ble 119 c && Nat.ble c 120) || (Nat.ble 126 c && Nat.ble c 129) || Nat.beq c 131
/-- nothing that stays has changed -/
def MF (mi mi' : Nat → Nat → Int32) : Prop := ∀ c k, scr c k = false → mi' c k = mi c k
def ML (ml ml' : Nat → Nat → Int64) : Prop := ∀ c k, (Nat.beq c 121 || Nat.beq c 122) = false → ml' c k = ml c k
theorem MF.none {mi : Nat → Nat → Int32} : MF mi mi := fun _ _ _ => rfl
theorem MF.trans {a b c : Nat → Nat → Int32} (h : MF a b) (h' : MF b c) : MF a c := fun i k hk => (h' i k hk).trans (h i k hk)
theorem MF.cu {mi mi' : Nat → Nat → Int32} {c k : Nat} {x : Int32} (h : MF mi mi') (hs : scr c k = true) : MF mi (cu mi' c (upd (mi' c) k x)) := fun a b hab => by
  by_cases ha : a = c
  · subst ha
    rw [cu_self]
    by_cases hb : b = k
    · subst hb; rw [hs] at hab; cases hab
    · rw [pk_un hb]; exact h a b hab
  · rw [cu_ne ha]; exact h a b hab
theorem ML.none {ml : Nat → Nat → Int64} : ML ml ml := fun _ _ _ => rfl
theorem ML.trans {a b c : Nat → Nat → Int64} (h : ML a b) (h' : ML b c) : ML a c := fun i k hk => (h' i k hk).trans (h i k hk)
theorem ML.cu {ml ml' : Nat → Nat → Int64} {c : Nat} {g : Nat → Int64} (h : ML ml ml') (hs : (Nat.beq c 121 || Nat.beq c 122) = true) : ML ml (cu ml' c g) := fun a b hab => by
  by_cases ha : a = c
  · subst ha; rw [hs] at hab; cases hab
  · rw [cu_ne ha]; exact h a b hab
/-- the knots whose values lie there after i knots, the last one first -/
def hdN (T : Nat → Nat → Nat) : Nat → List Nat
  | 0 => []
  | i + 1 => i :: (if T 17 i ≤ 1 then hdN T i else if T 17 i = 2 then (hdN T i).tail else (hdN T i).tail.tail)
def MK (T : Nat → Nat → Nat) (mi : Nat → Nat → Int32) : Prop := ∀ i, i < T 0 9 → (T 17 i = 2 → mi 117 i = nI (nth 0 (hdN T i) 0)) ∧ (3 ≤ T 17 i → mi 118 i = nI (nth 0 (hdN T i) 0) ∧ mi 117 i = nI (nth 0 (hdN T i) 1))
/-- the reference's scene -/
def MS (S : Nat → Nat → Nat) (mi : Nat → Nat → Int32) (ml : Nat → Nat → Int64) : Prop := (∀ f, f < 48 → mi 123 f = nI (S 1 f)) ∧ mi 124 0 = nI (S 0 0) ∧ mi 95 70 = nI (S 0 1) ∧ ml 95 72 = lN (S 0 2) ∧ mi 95 71 = nI (S 0 3) ∧ (∀ h, h < 3 → ∀ w, w < 6 → mi 125 (6 * h + w) = nI (S 2 (6 * h + w)) - 1)
def MN (N : Nat → Nat → Nat) (mi : Nat → Nat → Int32) : Prop := mi 95 88 = nI (N 0 0) ∧ mi 95 89 = nI (N 0 1) - 1 ∧ (∀ i, i < N 0 0 → mi 130 (3 * i) = nI (N 1 i) - 1 ∧ (N 1 i ≠ 0 → mi 130 (3 * i + 1) = nI (N 2 i)) ∧ mi 130 (3 * i + 2) = nI (N 3 i))
def MPa (n : Nat) (P : Nat → Nat → Nat) (mi : Nat → Nat → Int32) : Prop := mi 95 94 = nI n ∧ ∀ r, r < n → ∀ i, i < 50 → mi 132 (50 * r + i) = nI (P r i)
def MIm (I : Nat → Nat → Nat) (mi : Nat → Nat → Int32) (ml : Nat → Nat → Int64) : Prop := (∀ i, i < 50 → mi 133 i = nI (rwS I i)) ∧ mi 95 98 = nI (I 0 0) ∧ ml 95 99 = lN (I 0 2) ∧ (∀ h, h < 3 → ∀ w, w < 6 → mi 134 (6 * h + w) = nI (I 2 (6 * h + w)) - 1)
def langM : List Nat := [112, 108, 97, 105, 110, 32, 111, 119, 110, 101, 114, 32, 115, 116, 114, 105, 112, 32, 103, 108, 121, 112, 104, 32, 119, 111, 114, 100, 32, 104, 105, 108, 108, 32, 119, 97, 115, 104, 32, 115, 105, 103, 110, 32, 108, 105, 110, 107, 32, 112, 117, 114, 115, 101, 32, 115, 101, 101, 100, 32, 114, 97, 105, 110, 32, 108, 97, 119, 32, 97, 108, 108, 32, 108, 111, 119, 32, 104, 105, 103, 104, 32, 101, 97, 116, 32, 97, 110, 100, 32, 111, 114, 32, 110, 111, 116, 32, 115, 116, 97, 99, 107, 115, 32, 118, 111, 119, 101, 108, 32, 114, 111, 119, 32, 99, 111, 108, 32, 100, 97, 121, 32, 108, 101, 102, 116, 32]
/-- the reference holds A -/
def MI (A : St) (mi : Nat → Nat → Int32) (ml : Nat → Nat → Int64) : Prop := MT (A 0) mi ∧ MK (A 0) mi ∧ MS (A 1) mi ml ∧ MN (A 2) mi ∧ MPa (A 4 0 0) (A 3) mi ∧ (mi 95 96 = nI (A 4 0 1) ∧ (A 4 0 1 ≠ 0 → MIm (A 5) mi ml)) ∧ (mi 95 1 = nI (A 4 0 2) ∧ ∀ i, i < A 4 0 2 → mi 96 i = nI (A 4 1 i)) ∧ (mi 95 4 = nI (A 4 0 3) ∧ mi 95 5 = nI (A 4 0 4) - 1) ∧ (mi 95 75 = -1 ∧ mi 95 76 = -1) ∧ (∀ i, i < 127 → mi 97 i = nI (nth 0 langM i))
theorem MI.T {A : St} {mi : Nat → Nat → Int32} {ml : Nat → Nat → Int64} (h : MI A mi ml) : MT (A 0) mi := h.1
theorem MI.K {A : St} {mi : Nat → Nat → Int32} {ml : Nat → Nat → Int64} (h : MI A mi ml) : MK (A 0) mi := h.2.1
theorem MI.S {A : St} {mi : Nat → Nat → Int32} {ml : Nat → Nat → Int64} (h : MI A mi ml) : MS (A 1) mi ml := h.2.2.1
theorem MI.N {A : St} {mi : Nat → Nat → Int32} {ml : Nat → Nat → Int64} (h : MI A mi ml) : MN (A 2) mi := h.2.2.2.1
theorem MI.P {A : St} {mi : Nat → Nat → Int32} {ml : Nat → Nat → Int64} (h : MI A mi ml) : MPa (A 4 0 0) (A 3) mi := h.2.2.2.2.1
theorem MI.I {A : St} {mi : Nat → Nat → Int32} {ml : Nat → Nat → Int64} (h : MI A mi ml) : mi 95 96 = nI (A 4 0 1) ∧ (A 4 0 1 ≠ 0 → MIm (A 5) mi ml) := h.2.2.2.2.2.1
theorem MI.b {A : St} {mi : Nat → Nat → Int32} {ml : Nat → Nat → Int64} (h : MI A mi ml) : mi 95 1 = nI (A 4 0 2) ∧ ∀ i, i < A 4 0 2 → mi 96 i = nI (A 4 1 i) := h.2.2.2.2.2.2.1
theorem MI.q {A : St} {mi : Nat → Nat → Int32} {ml : Nat → Nat → Int64} (h : MI A mi ml) : mi 95 4 = nI (A 4 0 3) ∧ mi 95 5 = nI (A 4 0 4) - 1 := h.2.2.2.2.2.2.2.1
theorem MI.f {A : St} {mi : Nat → Nat → Int32} {ml : Nat → Nat → Int64} (h : MI A mi ml) : mi 95 75 = -1 ∧ mi 95 76 = -1 := h.2.2.2.2.2.2.2.2.1
theorem MI.w {A : St} {mi : Nat → Nat → Int32} {ml : Nat → Nat → Int64} (h : MI A mi ml) : ∀ i, i < 127 → mi 97 i = nI (nth 0 langM i) := h.2.2.2.2.2.2.2.2.2
theorem MT.mf {T : Nat → Nat → Nat} {mi mi' : Nat → Nat → Int32} (h : MT T mi) (hf : MF mi mi') : MT T mi' := by
  unfold MT at h ⊢
  simp only [show mi' 95 12 = mi 95 12 from hf 95 12 rfl, show mi' 95 13 = mi 95 13 from hf 95 13 rfl, show mi' 95 14 = mi 95 14 from hf 95 14 rfl, show mi' 95 15 = mi 95 15 from hf 95 15 rfl, show mi' 95 16 = mi 95 16 from hf 95 16 rfl, show mi' 95 17 = mi 95 17 from hf 95 17 rfl, show mi' 95 18 = mi 95 18 from hf 95 18 rfl, show mi' 95 19 = mi 95 19 from hf 95 19 rfl, show mi' 95 20 = mi 95 20 from hf 95 20 rfl, show mi' 95 21 = mi 95 21 from hf 95 21 rfl, show mi' 95 22 = mi 95 22 from hf 95 22 rfl, show mi' 98 0 = mi 98 0 from hf 98 0 rfl, show mi' 98 1 = mi 98 1 from hf 98 1 rfl, show mi' 98 2 = mi 98 2 from hf 98 2 rfl, show ∀ k, mi' 100 k = mi 100 k from fun k => hf 100 k rfl, show ∀ k, mi' 101 k = mi 101 k from fun k => hf 101 k rfl, show ∀ k, mi' 102 k = mi 102 k from fun k => hf 102 k rfl, show ∀ k, mi' 103 k = mi 103 k from fun k => hf 103 k rfl, show ∀ k, mi' 104 k = mi 104 k from fun k => hf 104 k rfl, show ∀ k, mi' 105 k = mi 105 k from fun k => hf 105 k rfl, show ∀ k, mi' 106 k = mi 106 k from fun k => hf 106 k rfl, show ∀ k, mi' 107 k = mi 107 k from fun k => hf 107 k rfl, show ∀ k, mi' 108 k = mi 108 k from fun k => hf 108 k rfl, show ∀ k, mi' 109 k = mi 109 k from fun k => hf 109 k rfl, show ∀ k, mi' 110 k = mi 110 k from fun k => hf 110 k rfl, show ∀ k, mi' 111 k = mi 111 k from fun k => hf 111 k rfl, show ∀ k, mi' 112 k = mi 112 k from fun k => hf 112 k rfl, show ∀ k, mi' 113 k = mi 113 k from fun k => hf 113 k rfl, show ∀ k, mi' 114 k = mi 114 k from fun k => hf 114 k rfl, show ∀ k, mi' 115 k = mi 115 k from fun k => hf 115 k rfl, show ∀ k, mi' 116 k = mi 116 k from fun k => hf 116 k rfl, show ∀ k, mi' 117 k = mi 117 k from fun k => hf 117 k rfl]
  exact h
theorem MK.mf {T : Nat → Nat → Nat} {mi mi' : Nat → Nat → Int32} (h : MK T mi) (hf : MF mi mi') : MK T mi' := by
  unfold MK at h ⊢
  simp only [show ∀ k, mi' 117 k = mi 117 k from fun k => hf 117 k rfl, show ∀ k, mi' 118 k = mi 118 k from fun k => hf 118 k rfl]
  exact h
theorem sc123 {f : Nat} (h : f < 48) : scr 123 f = false := by
  have : Nat.ble 48 f = false := by
    cases hb : Nat.ble 48 f with
    | false => rfl
    | true => have := Nat.le_of_ble_eq_true hb; omega
  unfold scr
  rw [this]
  rfl
theorem MS.mf {S : Nat → Nat → Nat} {mi mi' : Nat → Nat → Int32} {ml ml' : Nat → Nat → Int64} (h : MS S mi ml) (hf : MF mi mi') (hl : ML ml ml') : MS S mi' ml' :=
  ⟨fun f hf2 => (hf 123 f (sc123 hf2)).trans (h.1 f hf2), (hf 124 0 rfl).trans h.2.1, (hf 95 70 rfl).trans h.2.2.1, (hl 95 72 rfl).trans h.2.2.2.1, (hf 95 71 rfl).trans h.2.2.2.2.1, fun a ha w hw => (hf 125 _ rfl).trans (h.2.2.2.2.2 a ha w hw)⟩
theorem MN.mf {N : Nat → Nat → Nat} {mi mi' : Nat → Nat → Int32} (h : MN N mi) (hf : MF mi mi') : MN N mi' :=
  ⟨(hf 95 88 rfl).trans h.1, (hf 95 89 rfl).trans h.2.1, fun i hi => ⟨(hf 130 _ rfl).trans (h.2.2 i hi).1, fun z => (hf 130 _ rfl).trans ((h.2.2 i hi).2.1 z), (hf 130 _ rfl).trans (h.2.2 i hi).2.2⟩⟩
theorem MPa.mf {n : Nat} {P : Nat → Nat → Nat} {mi mi' : Nat → Nat → Int32} (h : MPa n P mi) (hf : MF mi mi') : MPa n P mi' := ⟨(hf 95 94 rfl).trans h.1, fun r hr i hi => (hf 132 _ rfl).trans (h.2 r hr i hi)⟩
theorem MIm.mf {I : Nat → Nat → Nat} {mi mi' : Nat → Nat → Int32} {ml ml' : Nat → Nat → Int64} (h : MIm I mi ml) (hf : MF mi mi') (hl : ML ml ml') : MIm I mi' ml' :=
  ⟨fun i hi => (hf 133 i rfl).trans (h.1 i hi), (hf 95 98 rfl).trans h.2.1, (hl 95 99 rfl).trans h.2.2.1, fun a ha w hw => (hf 134 _ rfl).trans (h.2.2.2 a ha w hw)⟩
theorem MI.mf {A : St} {mi mi' : Nat → Nat → Int32} {ml ml' : Nat → Nat → Int64} (h : MI A mi ml) (hf : MF mi mi') (hl : ML ml ml') : MI A mi' ml' :=
  ⟨h.T.mf hf, h.K.mf hf, h.S.mf hf hl, h.N.mf hf, h.P.mf hf, ⟨(hf 95 96 rfl).trans h.I.1, fun z => (h.I.2 z).mf hf hl⟩, ⟨(hf 95 1 rfl).trans h.b.1, fun i hi => (hf 96 i rfl).trans (h.b.2 i hi)⟩, ⟨(hf 95 4 rfl).trans h.q.1, (hf 95 5 rfl).trans h.q.2⟩, ⟨(hf 95 75 rfl).trans h.f.1, (hf 95 76 rfl).trans h.f.2⟩, fun i hi => (hf 97 i rfl).trans (h.w i hi)⟩
/-- only the reference's cells have changed -/
def Lo {α : Type} (m m' : Nat → α) : Prop := ∀ c, (c < 95 ∨ 135 ≤ c) → m' c = m c
theorem MF.lo {mi mi' : Nat → Nat → Int32} (h : MF mi mi') : Lo mi mi' := fun c hc => funext (fun k => h c k (by
  have e : ∀ a, a ≠ c → Nat.beq c a = false := fun a ha => by
    cases hb : Nat.beq c a with
    | false => rfl
    | true => exact absurd (Nat.eq_of_beq_eq_true hb).symm ha
  have e2 : ∀ a b, (c < a ∨ b < c) → (Nat.ble a c && Nat.ble c b) = false := fun a b hab => by
    cases hb : (Nat.ble a c && Nat.ble c b) with
    | false => rfl
    | true =>
      rw [Bool.and_eq_true, Nat.ble_eq, Nat.ble_eq] at hb
      omega
  unfold scr
  rw [e 95 (by omega), e 123 (by omega), e 124 (by omega), e 99 (by omega), e 131 (by omega), e2 119 120 (by omega), e2 126 129 (by omega)]
  rfl))
theorem ML.lo {ml ml' : Nat → Nat → Int64} (h : ML ml ml') : Lo ml ml' := fun c hc => funext (fun k => h c k (by
  have e : ∀ a, a ≠ c → Nat.beq c a = false := fun a ha => by
    cases hb : Nat.beq c a with
    | false => rfl
    | true => exact absurd (Nat.eq_of_beq_eq_true hb).symm ha
  rw [e 121 (by omega), e 122 (by omega)]
  rfl))
theorem Lo.none {α : Type} {m : Nat → α} : Lo m m := fun _ _ => rfl
theorem Lo.trans {α : Type} {m m' m'' : Nat → α} (h : Lo m m') (h' : Lo m' m'') : Lo m m'' := fun c hc => (h' c hc).trans (h c hc)
theorem Lo.cu {α : Type} {m m' : Nat → α} {c : Nat} {g : α} (h : Lo m m') (hc : 95 ≤ c ∧ c < 135) : Lo m (cu m' c g) := fun a ha => by
  rw [cu_ne (by omega)]
  exact h a ha
