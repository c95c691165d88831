/-! THE REFERENCE'S TOKENS: signs, a token -/
/-- how kind and which tell a token of the class -/
def sgc (k : Nat) : Nat := nth 0 [59, 40, 41, 43, 45, 42, 47] (k - 4)
def KW (k v : Nat) (x8 x9 : Int32) : Prop := (k = 0 ∧ x8 = nI 0) ∨ (k = 1 ∧ x8 = nI 3 ∧ ∃ w, x9 = nI w ∧ w < 1000000 ∧ (w = v ∨ (99999 < w ∧ 99999 < v))) ∨ (k = 2 ∧ x8 = nI 2 ∧ x9 = nI v) ∨ (k = 3 ∧ (x8 = nI 6 ∨ (x8 = nI 4 ∧ x9 = nI 37))) ∨ (4 ≤ k ∧ k ≤ 10 ∧ x8 = nI 4 ∧ x9 = nI (sgc k)) ∨ (11 ≤ k ∧ k ≤ 16 ∧ x8 = nI 5 ∧ x9 = nI (k - 11)) ∨ (20 ≤ k ∧ k ≤ 45 ∧ x8 = nI 1 ∧ x9 = nI (kK k))
def f4 (k : Nat) : Bool := Nat.beq k 7 || Nat.beq k 8 || Nat.beq k 9 || Nat.beq k 10
/-- only the token has changed -/
def F4 (mi mi' : Nat → Nat → Int32) : Prop := ∀ c k, (c ≠ 95 ∨ f4 k = false) → mi' c k = mi c k
theorem F4.none {mi : Nat → Nat → Int32} : F4 mi mi := fun _ _ _ => rfl
theorem F4.trans {a b c : Nat → Nat → Int32} (h : F4 a b) (h' : F4 b c) : F4 a c := fun i k hk => (h' i k hk).trans (h i k hk)
theorem F4.cu {mi mi' : Nat → Nat → Int32} {k : Nat} {x : Int32} (h : F4 mi mi') (hk : f4 k = true) : F4 mi (cu mi' 95 (upd (mi' 95) k x)) := fun a i hi => by
  by_cases e : a = 95
  · subst e
    rw [cu_self]
    have hi := hi.elim (fun q => absurd rfl q) id
    rw [pk_un (fun e2 => by rw [e2, hk] at hi; cases hi)]
    exact h _ _ (Or.inr hi)
  · rw [cu_ne e]; exact h _ _ hi
theorem F4.c {mi mi' : Nat → Nat → Int32} {c : Nat} (h : F4 mi mi') (hc : c ≠ 95) : mi' c = mi c := funext (fun k => h c k (Or.inl hc))
theorem TE.f4 {b : Nat → Nat} {n : Nat} {mi mi' : Nat → Nat → Int32} (h : TE b n mi) (hf : F4 mi mi') : TE b n mi' := h.mv (hf 95 6 (Or.inr rfl)) (hf.c (by decide)) (hf.c (by decide))
theorem sg60 (c2 : Nat) : (c2 = 61 → sgK 60 c2 = 12 ∧ sgL 60 c2 = 2) ∧ (c2 = 62 → sgK 60 c2 = 14 ∧ sgL 60 c2 = 2) ∧ (c2 ≠ 61 → c2 ≠ 62 → sgK 60 c2 = 11 ∧ sgL 60 c2 = 1) := by
  refine ⟨fun h => by subst h; decide, fun h => by subst h; decide, fun h1 h2 => ⟨?_, ?_⟩⟩
  · unfold sgK
    simp [h1, h2]
  · unfold sgL
    simp [h1, h2]
theorem sg62 (c2 : Nat) : (c2 = 61 → sgK 62 c2 = 15 ∧ sgL 62 c2 = 2) ∧ (c2 ≠ 61 → sgK 62 c2 = 16 ∧ sgL 62 c2 = 1) := by
  refine ⟨fun h => by subst h; decide, fun h1 => ⟨?_, ?_⟩⟩
  · unfold sgK
    simp [h1]
  · unfold sgL
    simp [h1]
theorem sg61 (c2 : Nat) : sgK 61 c2 = 13 ∧ sgL 61 c2 = 1 := ⟨rfl, sgL1 (by decide) (by decide)⟩
section
variable {d : Nat} {Q : Option Value → Mm → Prop} {b : Nat → Nat} {n : Nat} {mi : Nat → Nat → Int32} {ml : Nat → Nat → Int64} {rd : Option Nat}
set_option maxHeartbeats 4000000 in
theorem t_signToken (hE : TE b n mi) {i : Nat} (hi : i < n) (e7 : mi 95 7 = nI i) (hQ : ∀ mi', F4 mi mi' → mi' 95 10 = mi 95 10 → mi' 95 7 = nI (i + sgL (b i) (bhN b n i)) → KW (sgK (b i) (bhN b n i)) 0 (mi' 95 8) (mi' 95 9) → Q none (mi', ml, R0 rd, 136)) : Cd (d + 1) k_Mod_signToken [.ref 95] (mi, ml, R0 rd, 136) Q := by
  have h7 := hE.2.1
  have hb := hE.2.2.1 i hi
  have e71 : mi 95 7 + nI 1 = nI (i + 1) := by rw [e7, nI_add]
  have e72 : mi 95 7 + nI 1 + nI 1 = nI (i + 2) := by rw [e71, nI_add]
  have bh0 : n ≤ i + 1 → bhN b n i = 0 := fun h => by unfold bhN; rw [if_neg (by omega)]
  have bh1 : i + 1 < n → bhN b n i = b (i + 1) := fun h => by unfold bhN; rw [if_pos h]
  have fin : ∀ (v L : Nat) mi', F4 mi mi' → mi' 95 10 = mi 95 10 → mi' 95 7 = nI (i + L) → mi' 95 8 = nI 5 → mi' 95 9 = nI v → v ≤ 5 → sgK (b i) (bhN b n i) = 11 + v ∧ sgL (b i) (bhN b n i) = L → Q none (mi', ml, R0 rd, 136) := fun v L mi' hf h10 h7 h8 h9 hv hs => hQ mi' hf h10 (by rw [hs.2]; exact h7) (by
    rw [hs.1]
    refine Or.inr (Or.inr (Or.inr (Or.inr (Or.inr (Or.inl ⟨by omega, by omega, h8, ?_⟩)))))
    rw [h9]
    congr 1
    omega)
  refine r_Mod_signToken (by decide) (fun K Kl hK hC => ⟨i, by omega, e7, ⟨fun a60 => ?_, fun a60 => ⟨fun a62 => ?_, fun a62 => ⟨fun a61 => ?_, fun a61 => ?_⟩⟩⟩⟩)
  · have ec : mi 96 i = nI 60 := a60
    have hc : b i = 60 := jEQ ec hb.1 rfl
    refine ⟨fun q => ?_, fun q => ?_⟩
    · have q : mi 95 6 ≤ mi 95 7 + nI 1 := q
      rw [e71, hE.1] at q
      have q := iLE q
      have hbh := bh0 (by omega)
      have etv : nI 0 = nI (bhN b n i) := by rw [hbh]
      have hbl : bhN b n i < 256 := by rw [hbh]; decide
      exact ⟨fun a => absurd (ec.symm.trans a) (by decide), fun _ => ⟨fun q1 => ⟨fun a => absurd ec a, fun _ => ⟨fun q2 => ⟨fun a => absurd (by decide) a, fun _ => ⟨fun _ => ⟨fun _ => ⟨fun a => absurd ec a, fun _ => ⟨fun _ => ⟨fun _ => ⟨rfl, fin 0 1 _ ((((F4.none.cu rfl).cu rfl).cu rfl).cu rfl) rfl e71 rfl rfl (by decide) (by rw [hc]; exact (sg60 _).2.2 (jNE q1 etv rfl) (jNE q2 etv rfl))⟩, fun a => absurd (by decide) a⟩, fun a => absurd (by decide) a⟩⟩, fun a => absurd (ec.symm.trans a) (by decide)⟩, fun a => absurd (by decide) a⟩⟩, fun q2 => ⟨fun a => absurd (by decide) a, fun _ => ⟨fun a => absurd a (by decide), fun _ => ⟨fun _ => ⟨fun a => absurd ec a, fun _ => ⟨fun _ => ⟨fun a => absurd a (by decide), fun _ => ⟨rfl, fin 3 2 _ (((((F4.none.cu rfl).cu rfl).cu rfl).cu rfl).cu rfl) rfl e72 rfl rfl (by decide) (by rw [hc]; exact (sg60 _).2.1 (jEQ q2 etv rfl))⟩⟩, fun a => absurd (by decide) a⟩⟩, fun a => absurd (ec.symm.trans a) (by decide)⟩⟩⟩⟩⟩, fun q1 => ⟨fun a => absurd ec a, fun _ => ⟨fun q2 => ⟨fun _ => ⟨fun _ => ⟨fun a => absurd ec a, fun _ => ⟨fun a => absurd a (by decide), fun _ => ⟨rfl, fin 1 2 _ (((((F4.none.cu rfl).cu rfl).cu rfl).cu rfl).cu rfl) rfl e72 rfl rfl (by decide) (by rw [hc]; exact (sg60 _).1 (jEQ q1 etv rfl))⟩⟩⟩, fun a => absurd (ec.symm.trans a) (by decide)⟩, fun a => absurd a (by decide)⟩, fun q2 => ⟨fun _ => ⟨fun _ => ⟨fun a => absurd ec a, fun _ => ⟨fun a => absurd a (by decide), fun _ => ⟨rfl, absurd (jEQ q1 etv rfl) (by rw [jEQ q2 etv rfl]; decide)⟩⟩⟩, fun a => absurd (ec.symm.trans a) (by decide)⟩, fun a => absurd a (by decide)⟩⟩⟩⟩⟩
    · have q : ¬ mi 95 6 ≤ mi 95 7 + nI 1 := q
      rw [e71, hE.1] at q
      have q := iNLE q
      have hb1 := hE.2.2.1 (i + 1) (by omega)
      have hbh := bh1 (by omega)
      have etv : mi 96 (i + 1) = nI (bhN b n i) := by rw [hbh]; exact hb1.1
      have hbl : bhN b n i < 256 := by rw [hbh]; exact hb1.2
      exact ⟨i + 1, by omega, e71, ⟨fun a => absurd (ec.symm.trans a) (by decide), fun _ => ⟨fun q1 => ⟨fun a => absurd ec a, fun _ => ⟨fun q2 => ⟨fun a => absurd (by decide) a, fun _ => ⟨fun _ => ⟨fun _ => ⟨fun a => absurd ec a, fun _ => ⟨fun _ => ⟨fun _ => ⟨rfl, fin 0 1 _ ((((F4.none.cu rfl).cu rfl).cu rfl).cu rfl) rfl e71 rfl rfl (by decide) (by rw [hc]; exact (sg60 _).2.2 (jNE q1 etv rfl) (jNE q2 etv rfl))⟩, fun a => absurd (by decide) a⟩, fun a => absurd (by decide) a⟩⟩, fun a => absurd (ec.symm.trans a) (by decide)⟩, fun a => absurd (by decide) a⟩⟩, fun q2 => ⟨fun a => absurd (by decide) a, fun _ => ⟨fun a => absurd a (by decide), fun _ => ⟨fun _ => ⟨fun a => absurd ec a, fun _ => ⟨fun _ => ⟨fun a => absurd a (by decide), fun _ => ⟨rfl, fin 3 2 _ (((((F4.none.cu rfl).cu rfl).cu rfl).cu rfl).cu rfl) rfl e72 rfl rfl (by decide) (by rw [hc]; exact (sg60 _).2.1 (jEQ q2 etv rfl))⟩⟩, fun a => absurd (by decide) a⟩⟩, fun a => absurd (ec.symm.trans a) (by decide)⟩⟩⟩⟩⟩, fun q1 => ⟨fun a => absurd ec a, fun _ => ⟨fun q2 => ⟨fun _ => ⟨fun _ => ⟨fun a => absurd ec a, fun _ => ⟨fun a => absurd a (by decide), fun _ => ⟨rfl, fin 1 2 _ (((((F4.none.cu rfl).cu rfl).cu rfl).cu rfl).cu rfl) rfl e72 rfl rfl (by decide) (by rw [hc]; exact (sg60 _).1 (jEQ q1 etv rfl))⟩⟩⟩, fun a => absurd (ec.symm.trans a) (by decide)⟩, fun a => absurd a (by decide)⟩, fun q2 => ⟨fun _ => ⟨fun _ => ⟨fun a => absurd ec a, fun _ => ⟨fun a => absurd a (by decide), fun _ => ⟨rfl, absurd (jEQ q1 etv rfl) (by rw [jEQ q2 etv rfl]; decide)⟩⟩⟩, fun a => absurd (ec.symm.trans a) (by decide)⟩, fun a => absurd a (by decide)⟩⟩⟩⟩⟩⟩
  · have ec : mi 96 i = nI 62 := a62
    have hc : b i = 62 := jEQ ec hb.1 rfl
    refine ⟨fun q => ?_, fun q => ?_⟩
    · have q : mi 95 6 ≤ mi 95 7 + nI 1 := q
      rw [e71, hE.1] at q
      have q := iLE q
      have hbh := bh0 (by omega)
      have etv : nI 0 = nI (bhN b n i) := by rw [hbh]
      have hbl : bhN b n i < 256 := by rw [hbh]; decide
      exact ⟨fun a => absurd (ec.symm.trans a) (by decide), fun _ => ⟨fun q1 => ⟨fun _ => ⟨fun a => absurd (by decide) a, fun _ => ⟨fun _ => ⟨fun _ => ⟨fun _ => ⟨fun _ => ⟨rfl, fin 5 1 _ ((((F4.none.cu rfl).cu rfl).cu rfl).cu rfl) rfl e71 rfl rfl (by decide) (by rw [hc]; exact (sg62 _).2 (jNE q1 etv rfl))⟩, fun a => absurd (by decide) a⟩, fun a => absurd (ec.symm.trans a) (by decide)⟩, fun a => absurd (ec.symm.trans a) (by decide)⟩, fun a => absurd (by decide) a⟩⟩, fun a => absurd (ec.symm.trans a) (by decide)⟩, fun q1 => ⟨fun _ => ⟨fun _ => ⟨fun _ => ⟨fun _ => ⟨fun a => absurd a (by decide), fun _ => ⟨rfl, fin 4 2 _ (((((F4.none.cu rfl).cu rfl).cu rfl).cu rfl).cu rfl) rfl e72 rfl rfl (by decide) (by rw [hc]; exact (sg62 _).1 (jEQ q1 etv rfl))⟩⟩, fun a => absurd (ec.symm.trans a) (by decide)⟩, fun a => absurd (ec.symm.trans a) (by decide)⟩, fun a => absurd a (by decide)⟩, fun a => absurd (ec.symm.trans a) (by decide)⟩⟩⟩
    · have q : ¬ mi 95 6 ≤ mi 95 7 + nI 1 := q
      rw [e71, hE.1] at q
      have q := iNLE q
      have hb1 := hE.2.2.1 (i + 1) (by omega)
      have hbh := bh1 (by omega)
      have etv : mi 96 (i + 1) = nI (bhN b n i) := by rw [hbh]; exact hb1.1
      have hbl : bhN b n i < 256 := by rw [hbh]; exact hb1.2
      exact ⟨i + 1, by omega, e71, ⟨fun a => absurd (ec.symm.trans a) (by decide), fun _ => ⟨fun q1 => ⟨fun _ => ⟨fun a => absurd (by decide) a, fun _ => ⟨fun _ => ⟨fun _ => ⟨fun _ => ⟨fun _ => ⟨rfl, fin 5 1 _ ((((F4.none.cu rfl).cu rfl).cu rfl).cu rfl) rfl e71 rfl rfl (by decide) (by rw [hc]; exact (sg62 _).2 (jNE q1 etv rfl))⟩, fun a => absurd (by decide) a⟩, fun a => absurd (ec.symm.trans a) (by decide)⟩, fun a => absurd (ec.symm.trans a) (by decide)⟩, fun a => absurd (by decide) a⟩⟩, fun a => absurd (ec.symm.trans a) (by decide)⟩, fun q1 => ⟨fun _ => ⟨fun _ => ⟨fun _ => ⟨fun _ => ⟨fun a => absurd a (by decide), fun _ => ⟨rfl, fin 4 2 _ (((((F4.none.cu rfl).cu rfl).cu rfl).cu rfl).cu rfl) rfl e72 rfl rfl (by decide) (by rw [hc]; exact (sg62 _).1 (jEQ q1 etv rfl))⟩⟩, fun a => absurd (ec.symm.trans a) (by decide)⟩, fun a => absurd (ec.symm.trans a) (by decide)⟩, fun a => absurd a (by decide)⟩, fun a => absurd (ec.symm.trans a) (by decide)⟩⟩⟩⟩
  · have n60 := jNE a60 hb.1 rfl
    have n62 := jNE a62 hb.1 rfl
    have n61 := jNE a61 hb.1 rfl
    have sl : sgL (b i) (bhN b n i) = 1 := sgL1 n60 n62
    have sgn : ∀ (k : Nat) mi', F4 mi mi' → mi' 95 10 = mi 95 10 → mi' 95 7 = nI (i + 1) → mi' 95 8 = nI 4 → mi' 95 9 = nI (sgc k) → 4 ≤ k ∧ k ≤ 10 → sgK (b i) (bhN b n i) = k → Q none (mi', ml, R0 rd, 136) := fun k mi' hf h10 h7 h8 h9 hk hs => hQ mi' hf h10 (by rw [sl]; exact h7) (by
      rw [hs]
      exact Or.inr (Or.inr (Or.inr (Or.inr (Or.inl ⟨hk.1, hk.2, h8, h9⟩)))))
    have sig : ∀ (k : Nat) mi', F4 mi mi' → mi' 95 10 = mi 95 10 → mi' 95 7 = nI (i + 1) → (mi' 95 8 = nI 6 ∨ (mi' 95 8 = nI 4 ∧ mi' 95 9 = nI 37)) → sgK (b i) (bhN b n i) = 3 → Q none (mi', ml, R0 rd, 136) := fun k mi' hf h10 h7 h8 hs => hQ mi' hf h10 (by rw [sl]; exact h7) (by
      rw [hs]
      exact Or.inr (Or.inr (Or.inr (Or.inl ⟨rfl, h8⟩))))
    have oth : b i ≠ 59 → b i ≠ 40 → b i ≠ 41 → b i ≠ 43 → b i ≠ 45 → b i ≠ 42 → b i ≠ 47 → sgK (b i) (bhN b n i) = 3 := fun h1 h2 h3 h4 h5 h6 h7 => by
      unfold sgK
      rw [if_neg h1, if_neg h2, if_neg h3, if_neg h4, if_neg h5, if_neg h6, if_neg h7, if_neg n61, if_neg n60, if_neg n62]
    exact ⟨fun s59 => ⟨fun a => absurd a (by decide), fun _ => ⟨rfl, sgn 4 _ (((F4.none.cu rfl).cu rfl).cu rfl) rfl e71 rfl s59 (by decide) (by rw [show b i = 59 from jEQ s59 hb.1 rfl]; rfl)⟩⟩, fun s59 => ⟨fun s40 => ⟨fun a => absurd a (by decide), fun _ => ⟨rfl, sgn 5 _ (((F4.none.cu rfl).cu rfl).cu rfl) rfl e71 rfl s40 (by decide) (by rw [show b i = 40 from jEQ s40 hb.1 rfl]; rfl)⟩⟩, fun s40 => ⟨fun s41 => ⟨fun a => absurd a (by decide), fun _ => ⟨rfl, sgn 6 _ (((F4.none.cu rfl).cu rfl).cu rfl) rfl e71 rfl s41 (by decide) (by rw [show b i = 41 from jEQ s41 hb.1 rfl]; rfl)⟩⟩, fun s41 => ⟨fun s43 => ⟨fun a => absurd a (by decide), fun _ => ⟨rfl, sgn 7 _ (((F4.none.cu rfl).cu rfl).cu rfl) rfl e71 rfl s43 (by decide) (by rw [show b i = 43 from jEQ s43 hb.1 rfl]; rfl)⟩⟩, fun s43 => ⟨fun s45 => ⟨fun a => absurd a (by decide), fun _ => ⟨rfl, sgn 8 _ (((F4.none.cu rfl).cu rfl).cu rfl) rfl e71 rfl s45 (by decide) (by rw [show b i = 45 from jEQ s45 hb.1 rfl]; rfl)⟩⟩, fun s45 => ⟨fun s42 => ⟨fun a => absurd a (by decide), fun _ => ⟨rfl, sgn 9 _ (((F4.none.cu rfl).cu rfl).cu rfl) rfl e71 rfl s42 (by decide) (by rw [show b i = 42 from jEQ s42 hb.1 rfl]; rfl)⟩⟩, fun s42 => ⟨fun s47 => ⟨fun a => absurd a (by decide), fun _ => ⟨rfl, sgn 10 _ (((F4.none.cu rfl).cu rfl).cu rfl) rfl e71 rfl s47 (by decide) (by rw [show b i = 47 from jEQ s47 hb.1 rfl]; rfl)⟩⟩, fun s47 => ⟨fun s37 => ⟨fun _ => ⟨rfl, sig 3 _ (((F4.none.cu rfl).cu rfl).cu rfl) rfl e71 (Or.inl rfl) (oth (jNE s59 hb.1 rfl) (jNE s40 hb.1 rfl) (jNE s41 hb.1 rfl) (jNE s43 hb.1 rfl) (jNE s45 hb.1 rfl) (jNE s42 hb.1 rfl) (jNE s47 hb.1 rfl))⟩, fun a => absurd (by decide) a⟩, fun s37 => ⟨fun a => absurd a (by decide), fun _ => ⟨rfl, sig 3 _ (((F4.none.cu rfl).cu rfl).cu rfl) rfl e71 (Or.inr ⟨rfl, s37⟩) (by rw [show b i = 37 from jEQ s37 hb.1 rfl]; rfl)⟩⟩⟩⟩⟩⟩⟩⟩⟩⟩
  · have ec : mi 96 i = nI 61 := a61
    have hc : b i = 61 := jEQ ec hb.1 rfl
    refine ⟨fun q => ?_, fun q => ?_⟩
    · have q : mi 95 6 ≤ mi 95 7 + nI 1 := q
      rw [e71, hE.1] at q
      have q := iLE q
      have hbh := bh0 (by omega)
      have etv : nI 0 = nI (bhN b n i) := by rw [hbh]
      have hbl : bhN b n i < 256 := by rw [hbh]; decide
      exact ⟨fun _ => ⟨fun _ => ⟨fun a => absurd (by decide) a, fun _ => ⟨fun _ => ⟨fun a => absurd ec a, fun _ => ⟨rfl, fin 2 1 _ ((((F4.none.cu rfl).cu rfl).cu rfl).cu rfl) rfl e71 rfl rfl (by decide) (by rw [hc]; exact sg61 _)⟩⟩, fun a => absurd (by decide) a⟩⟩, fun a => absurd (ec.symm.trans a) (by decide)⟩, fun a => absurd ec a⟩
    · have q : ¬ mi 95 6 ≤ mi 95 7 + nI 1 := q
      rw [e71, hE.1] at q
      have q := iNLE q
      have hb1 := hE.2.2.1 (i + 1) (by omega)
      have hbh := bh1 (by omega)
      have etv : mi 96 (i + 1) = nI (bhN b n i) := by rw [hbh]; exact hb1.1
      have hbl : bhN b n i < 256 := by rw [hbh]; exact hb1.2
      exact ⟨i + 1, by omega, e71, ⟨fun _ => ⟨fun _ => ⟨fun a => absurd (by decide) a, fun _ => ⟨fun _ => ⟨fun a => absurd ec a, fun _ => ⟨rfl, fin 2 1 _ ((((F4.none.cu rfl).cu rfl).cu rfl).cu rfl) rfl e71 rfl rfl (by decide) (by rw [hc]; exact sg61 _)⟩⟩, fun a => absurd (by decide) a⟩⟩, fun a => absurd (ec.symm.trans a) (by decide)⟩, fun a => absurd ec a⟩⟩
end
