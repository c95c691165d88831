/-! TOLD CLEARED; THE READER: tokens here, refusals, numbers, names (the class) -/
section
variable {d : Nat} {Q : Option Value → Mm → Prop} {T : Nat → Nat → Nat} {mi : Nat → Nat → Int32} {ml : Nat → Nat → Int64} {rd : Option Nat} {o l : Nat}
set_option maxHeartbeats 1000000 in
theorem s_Told_clear (ho : o = 0 ∨ o = 31) (hQ : ∀ mi' ml', RF o mi mi' → mi' 68 = mi 68 → RF o ml ml' → CX o tI 0 mi' ml' → Q none (mi', ml', R0 rd, 136)) : Cd (d + 2) k_Told_clear [.ref (6 + o)] (mi, ml, R0 rd, 136) Q := by
  have lp : ∀ j, j ≤ 48 → ∀ m1 l1, RF o mi m1 → m1 68 = mi 68 → RF o ml l1 → m1 (6 + o) 0 = nI 4 → m1 (6 + o) 1 = nI 3 → m1 (6 + o) 2 = nI 0 → m1 (6 + o) 3 = nI 0 → m1 (6 + o) 4 = nI 0 → m1 (6 + o) 5 = nI 100 → m1 (6 + o) 6 = nI 0 → m1 (6 + o) 7 = nI 0 → l1 (6 + o) 8 = 0 → (∀ f, f < j → m1 (10 + o) f = -1) → (∀ f, f < j → m1 (11 + o) f = -1) → (∀ f, f < j → m1 (12 + o) f = nI 1) → GoM (d + 1) k_Told_clear 136 Q 48 [.ref (6 + o), .int (nI j)] [] (m1, l1, R0 rd, 136) := by
    refine upto ?_ ?_
    · intro m1 l1 f1 f68 f2 a0 a1 a2 a3 a4 a5 a6 a7 a8 g10 g11 g12
      have ho2 := ho
      refine g_Told_clear ?_
      rcases ho with rfl | rfl
      all_goals
        intro K Kl hK hC
        refine ⟨fun _ => hC _ _ _ _ (s_Script_clear ho2 (fun gs0 gs => ?_)), fun z => absurd (iNLE z) (by omega)⟩
        refine hC _ _ _ _ (r_Hills_clear (by decide) (fun K2 Kl2 hK2 hC2 => ⟨rfl, hC _ _ _ _ (r_Washing_clear (by decide) (fun K3 Kl3 hK3 hC3 => ⟨rfl, rfl, ?_⟩))⟩))
        exact hQ _ _ (RF.cu (RF.cu (RF.cu (RF.cu (RF.cu (RF.cu (RF.cu (RF.cu f1 (by omega)) (by omega)) (by omega)) (by omega)) (by omega)) (by omega)) (by omega)) (by omega)) f68 f2 ⟨⟨a0, a1, a2, a5, a6, a7, fun i hi => absurd hi (Nat.not_lt_zero i), fun i hi => absurd hi (Nat.not_lt_zero i), fun i hi => absurd hi (Nat.not_lt_zero i), fun f hf => (g10 f hf).trans (show (-1 : Int32) = nI 0 - 1 by decide), fun f hf => g11 f hf, fun f hf => g12 f hf, rfl, rfl, fun i hi => absurd hi (Nat.not_lt_zero i), fun i hi => absurd hi (Nat.not_lt_zero i), fun c hc => gs c hc, fun i hi => absurd hi (Nat.not_lt_zero i), fun i hi => absurd hi (Nat.not_lt_zero i), fun i hi => absurd hi (Nat.not_lt_zero i), rfl, rfl, fun i hi => absurd hi (Nat.not_lt_zero i), fun i hi => absurd hi (Nat.not_lt_zero i), fun i hi => absurd hi (Nat.not_lt_zero i), fun i hi => absurd hi (Nat.not_lt_zero i), fun i hi => absurd hi (Nat.not_lt_zero i), rfl, rfl, fun i hi => absurd hi (Nat.not_lt_zero i), fun i hi => absurd hi (Nat.not_lt_zero i), fun i hi => absurd hi (Nat.not_lt_zero i), fun i hi => absurd hi (Nat.not_lt_zero i), fun i hi => absurd hi (Nat.not_lt_zero i), rfl, fun i hi => absurd hi (Nat.not_lt_zero i), fun i hi => absurd hi (Nat.not_lt_zero i)⟩, a3, a4, a8⟩
    · intro j hj ih m1 l1 f1 f68 f2 a0 a1 a2 a3 a4 a5 a6 a7 a8 g10 g11 g12
      rw [nI1 j] at ih
      have ex : ∀ {g : Nat → Int32} {X : Int32}, (∀ f, f < j → g f = X) → ∀ f, f < j + 1 → upd g j X f = X := fun {g X} hg f hf => by
        by_cases e : f = j
        · rw [e]; exact pk_us
        · rw [pk_un e]; exact hg f (by omega)
      refine g_Told_clear ?_
      rcases ho with rfl | rfl
      all_goals
        intro K Kl hK hC
        exact ⟨fun z => absurd (iLE z) (by omega), fun _ => ⟨j, by omega, rfl, j, by omega, rfl, j, by omega, rfl, hK _ _ _ _ (ih _ l1 (RF.cu (RF.cu (RF.cu f1 (by omega)) (by omega)) (by omega)) f68 f2 a0 a1 a2 a3 a4 a5 a6 a7 a8 (ex g10) (ex g11) (ex g12))⟩⟩
  refine r_Told_clear (by decide) ?_
  have l0 := lp 0 (Nat.zero_le _)
  rcases ho with rfl | rfl
  all_goals
    intro K Kl hK hC
    exact hK _ _ _ _ (l0 _ _ (RF.cu (RF.cu (RF.cu (RF.cu (RF.cu (RF.cu (RF.cu (RF.cu RF.none (by omega)) (by omega)) (by omega)) (by omega)) (by omega)) (by omega)) (by omega)) (by omega)) rfl (RF.cu RF.none (by omega)) rfl rfl rfl rfl rfl rfl rfl rfl rfl lt_0 lt_0 lt_0)
/-- the scene as a text begins -/
def bgS (T : Nat → Nat → Nat) : Nat → Nat → Nat := fun a i => if a = 0 then (if i = 1 then T 0 10 else if i = 2 then T 0 11 else 0) else 0
theorem s_Scene_begin (hT : CT 0 T mi) (hQ : ∀ mi', Fr [70, 71, 72] mi mi' → CS 70 (bgS T) mi' → Q none (mi', ml, R0 rd, 136)) : Cd (d + 2) k_Scene_begin [.ref 70, .ref 6] (mi, ml, R0 rd, 136) Q := by
  have ep : mi 6 5 = nI (T 0 10) := hT.purse
  have es : mi 6 6 = nI (T 0 11) := hT.seed
  have lp : ∀ j, j ≤ 18 → ∀ m1, Fr [70, 71, 72] mi m1 → m1 70 0 = nI 0 → m1 70 1 = nI (T 0 10) → m1 70 2 = nI (T 0 11) → m1 70 3 = nI 0 → (∀ f, f < 48 → m1 71 f = nI 0) → (∀ i, i < j → m1 72 i = -1) → GoM (d + 1) k_Scene_begin 136 Q 32 [.ref 70, .ref 6, .int (nI j)] [] (m1, ml, R0 rd, 136) := by
    refine upto ?_ ?_
    · intro m1 f1 a0 a1 a2 a3 g1 g2
      refine g_Scene_begin (fun K Kl hK hC => ⟨fun _ => ⟨rfl, hQ m1 f1 ⟨a0, a1, a2, a3, g1, fun w hw h hh => (g2 _ (by omega)).trans (show (-1 : Int32) = nI 0 - 1 by decide)⟩⟩, fun z => absurd (iNLE z) (by omega)⟩)
    · intro j hj ih m1 f1 a0 a1 a2 a3 g1 g2
      rw [nI1 j] at ih
      refine g_Scene_begin (fun K Kl hK hC => ⟨fun z => absurd (iLE z) (by omega), fun _ => ⟨j, by omega, rfl, hK _ _ _ _ (ih _ (f1.cu rfl) a0 a1 a2 a3 g1 (fun i hi => ?_))⟩⟩)
      show upd (m1 72) j (-1) i = -1
      by_cases e : i = j
      · rw [e]; exact pk_us
      · rw [pk_un e]; exact g2 i (by omega)
  refine r_Scene_begin (by decide) (fun K Kl hK hC => ?_)
  refine hC _ _ _ _ (s_clearFields (Or.inl rfl) (fun g hg => ?_))
  exact hK _ _ _ _ (lp 0 (Nat.zero_le _) _ ((((Fr.none.cu rfl).cu rfl).cu rfl).cu rfl |>.cu rfl) rfl ep es rfl hg lt_0)
end
/-- a name that can be -/
def nmOK (x : Nat) : Prop := x < 2 ^ 30 ∧ 1 ≤ lenN x ∧ (∀ k, lenN x ≤ k → k < 6 → letN x k = 0) ∧ 1 ≤ letN x 0 ∧ letN x 0 ≤ 26
/-- the tokens as the reader has them: m of them -/
def RE (k v p : Nat → Nat) (m : Nat) (mi : Nat → Nat → Int32) : Prop := m ≤ 700 ∧ k m = 0 ∧ (∀ i, i < m → k i ≠ 0) ∧ (∀ i, k i ≤ 45 ∧ v i < 2 ^ 30 ∧ p i ≤ 700) ∧ (∀ i, k i = 2 → nmOK (v i)) ∧ ∀ i, i ≤ m → mi 3 i = nI (k i) ∧ mi 5 i = nI (p i) ∧ (i < m → mi 4 i = nI (v i))
/-- the reader is at j, nothing refused -/
def RS (j : Nat) (mi mi' : Nat → Nat → Int32) : Prop := mi' 68 4 = nI j ∧ mi' 68 0 = mi 68 0 ∧ mi' 68 1 = mi 68 1
theorem RE.fr {k v p : Nat → Nat} {m : Nat} {mi mi' : Nat → Nat → Int32} (h : RE k v p m mi) (h3 : mi' 3 = mi 3) (h4 : mi' 4 = mi 4) (h5 : mi' 5 = mi 5) : RE k v p m mi' := by
  unfold RE at h ⊢
  rw [h3, h4, h5]
  exact h
theorem RE.rf {k v p : Nat → Nat} {m o : Nat} {mi mi' : Nat → Nat → Int32} (h : RE k v p m mi) (hf : RF o mi mi') : RE k v p m mi' := h.fr (hf 3 (by omega) (by omega) (by omega)) (hf 4 (by omega) (by omega) (by omega)) (hf 5 (by omega) (by omega) (by omega))
theorem RE.f68 {k v p : Nat → Nat} {m : Nat} {mi mi' : Nat → Nat → Int32} (h : RE k v p m mi) (hf : Fr [68] mi mi') : RE k v p m mi' := h.fr (hf 3 rfl) (hf 4 rfl) (hf 5 rfl)
theorem RE.lt {k v p : Nat → Nat} {m j : Nat} {mi : Nat → Nat → Int32} (h : RE k v p m mi) (hj : j ≤ m) (hk : k j ≠ 0) : j < m := by
  rcases Nat.lt_or_ge j m with z | z
  · exact z
  · exact absurd (by rw [show j = m by omega]; exact h.2.1) hk
theorem Fr.rf {α : Type} {o : Nat} {m m' : Nat → α} (h : Fr [68] m m') : RF o m m' := fun c _ h2 _ => h c (nin_not (fun hm => by simp at hm; exact h2 hm))
theorem RS.trans {j j' : Nat} {a b c : Nat → Nat → Int32} (h : RS j a b) (h' : RS j' b c) : RS j' a c := ⟨h'.1, h'.2.1.trans h.2.1, h'.2.2.trans h.2.2⟩
section
variable {d : Nat} {Q : Option Value → Mm → Prop} {k v p : Nat → Nat} {m j : Nat} {mi : Nat → Nat → Int32} {ml : Nat → Nat → Int64} {rd : Option Nat} {o l : Nat}
theorem s_kindHere (hR : RE k v p m mi) (hj : j ≤ m) (ej : mi 68 4 = nI j) (hQ : Q (some (.int (nI (k j)))) (mi, ml, R0 rd, 136)) : Cd (d + 1) k_Reader_kindHere [.ref 68] (mi, ml, R0 rd, 136) Q := by
  have h7 := hR.1
  rw [← (hR.2.2.2.2.2 j hj).1] at hQ
  exact r_Reader_kindHere (by decide) (fun K Kl hK hC => ⟨j, by omega, ej, rfl, hQ⟩)
theorem s_goOn (hR : RE k v p m mi) (hj : j < m) (ej : mi 68 4 = nI j) (hQ : ∀ mi', Fr [68] mi mi' → RS (j + 1) mi mi' → (∀ c, c ≠ 4 → mi' 68 c = mi 68 c) → Q none (mi', ml, R0 rd, 136)) : Cd (d + 1) k_Reader_goOn [.ref 68] (mi, ml, R0 rd, 136) Q := by
  have h7 := hR.1
  exact r_Reader_goOn (by decide) (fun K Kl hK hC => ⟨fun z => absurd (jLE z) (by omega), fun _ => ⟨rfl, hQ _ (Fr.cu Fr.none rfl) ⟨inc1 ej, rfl, rfl⟩ (fun c hc => pk_un hc)⟩⟩)
theorem s_refused (hR : RE k v p m mi) (hj : j ≤ m) (ej : mi 68 4 = nI j) {c : Nat} (hQ : ∀ mi', Fr [68] mi mi' → mi' 68 0 = nI c → mi' 68 1 = nI (p j) → Q (some (.int (nI 0))) (mi', ml, R0 rd, 136)) : Cd (d + 1) k_Reader_refused [.ref 68, .int (nI c)] (mi, ml, R0 rd, 136) Q := by
  have h7 := hR.1
  have e := (hR.2.2.2.2.2 j hj).2.1
  exact r_Reader_refused (by decide) (fun K Kl hK hC => ⟨j, by omega, ej, Or.inl rfl, rfl, hQ _ (Fr.cu (Fr.cu Fr.none rfl) rfl) rfl e⟩)
theorem s_refuse (hR : RE k v p m mi) (hj : j ≤ m) (ej : mi 68 4 = nI j) {c : Nat} (hQ : ∀ mi', Fr [68] mi mi' → mi' 68 0 = nI c → mi' 68 1 = nI (p j) → Q (some (.int (-1))) (mi', ml, R0 rd, 136)) : Cd (d + 2) k_Reader_refuse [.ref 68, .int (nI c)] (mi, ml, R0 rd, 136) Q :=
  r_Reader_refuse (by decide) (fun K Kl hK hC => hC _ _ _ _ (s_refused hR hj ej (fun mi' f1 f2 f3 => ⟨rfl, hQ mi' f1 f2 f3⟩)))
theorem s_readNumber (hR : RE k v p m mi) (hj : j ≤ m) (ej : mi 68 4 = nI j) {lo hi : Nat} {Y : Int32} (hY : Y = nI hi) (hl : lo < 2 ^ 30) (hh : hi < 2 ^ 30) (herr : ∀ e, pNum k v p j lo hi = .error e → ∀ mi', Fr [68] mi mi' → mi' 68 0 = nI e.1 → mi' 68 1 = nI e.2 → Q (some (.int (-1))) (mi', ml, R0 rd, 136)) (hok : ∀ x, pNum k v p j lo hi = .ok x → j < m → x ≤ hi → lo ≤ x → ∀ mi', Fr [68] mi mi' → RS (j + 1) mi mi' → Q (some (.int (nI x))) (mi', ml, R0 rd, 136)) : Cd (d + 3) k_Reader_readNumber [.ref 68, .int (nI lo), .int Y] (mi, ml, R0 rd, 136) Q := by
  subst hY
  have h7 := hR.1
  have hb := hR.2.2.2.1 j
  unfold pNum at herr hok
  refine r_Reader_readNumber (by decide) (fun K Kl hK hC => hC _ _ _ _ (s_kindHere hR hj ej ⟨fun z => ?_, fun z => ?_⟩))
  · have z := iEQ z
    have hlt := hR.lt hj (by omega)
    have ev := (hR.2.2.2.2.2 j hj).2.2 hlt
    simp only [if_pos z] at herr hok
    refine ⟨j, by omega, ej, ?_⟩
    rw [ev]
    refine ⟨fun z1 => ?_, fun z1 => ⟨fun z2 => ?_, fun z2 => ?_⟩⟩
    · have z1 := iLT z1
      exact hC _ _ _ _ (s_refuse hR hj ej (fun mi' f1 f2 f3 => ⟨rfl, herr (2, p j) (if_neg (by omega)) mi' f1 f2 f3⟩))
    · have z1 := iNLT z1
      have z2 := iLE z2
      refine hC _ _ _ _ (s_goOn hR hlt ej (fun mi' f1 f2 _ => ⟨rfl, hok (v j) (if_pos (by omega)) hlt z2 z1 mi' f1 f2⟩))
    · have z2 := iNLE z2
      exact hC _ _ _ _ (s_refuse hR hj ej (fun mi' f1 f2 f3 => ⟨rfl, herr (2, p j) (if_neg (by omega)) mi' f1 f2 f3⟩))
  · have z := iNE z
    simp only [if_neg z] at herr hok
    exact hC _ _ _ _ (s_refuse hR hj ej (fun mi' f1 f2 f3 => ⟨rfl, herr (1, p j) rfl mi' f1 f2 f3⟩))
theorem nmF_hit {nm : Nat → Nat} {c i x : Nat} (hi : i < c) (h : nm i = x) (hb : ∀ a, a < i → nm a ≠ x) : nmF nm c x = i := fnd_at hi (by simp [h]) (fun a ha => by simp [hb a ha])
theorem nmF_none {nm : Nat → Nat} {c x : Nat} (hb : ∀ a, a < c → nm a ≠ x) : nmF nm c x = c := fnd_none (fun a ha => by simp [hb a ha])
theorem s_readNewName (hR : RE k v p m mi) (hj : j ≤ m) (ej : mi 68 4 = nI j) {c L n : Nat} {nm : Nat → Nat} {Y : Int32} (hY : Y = nI n) (hc : (c = 7 ∧ L = 5) ∨ (c = 17 ∧ L = 6) ∨ (c = 21 ∧ L = 3) ∨ (c = 27 ∧ L = 4) ∨ (c = 29 ∧ L = 5) ∨ (c = 15 ∧ L = 9) ∨ (c = 38 ∧ L = 5) ∨ (c = 48 ∧ L = 6) ∨ (c = 52 ∧ L = 3) ∨ (c = 58 ∧ L = 4) ∨ (c = 60 ∧ L = 5) ∨ (c = 46 ∧ L = 9)) (hn : n ≤ L) (hnm : ∀ i, i < n → mi c i = nI (nm i) ∧ nm i < 2 ^ 30) (herr : ∀ e, pNew k v p nm n j = .error e → ∀ mi', Fr [68] mi mi' → mi' 68 0 = nI e.1 → mi' 68 1 = nI e.2 → Q (some (.int (-1))) (mi', ml, R0 rd, 136)) (hok : ∀ x, pNew k v p nm n j = .ok x → nmOK x → j < m → ∀ mi', Fr [68] mi mi' → RS (j + 1) mi mi' → Q (some (.int (nI x))) (mi', ml, R0 rd, 136)) : Cd (d + 3) k_Reader_readNewName [.ref 68, .ref c, .int Y] (mi, ml, R0 rd, 136) Q := by
  subst hY
  have h7 := hR.1
  have hb := hR.2.2.2.1 j
  unfold pNew at herr hok
  refine r_Reader_readNewName (by decide) (fun K Kl hK hC => hC _ _ _ _ (s_kindHere hR hj ej ⟨fun z => ?_, fun z => ?_⟩))
  · have z := iEQ z
    have hlt := hR.lt hj (by omega)
    have ev := (hR.2.2.2.2.2 j hj).2.2 hlt
    simp only [if_pos z] at herr hok
    refine ⟨j, by omega, ej, ?_⟩
    rw [ev]
    refine hC _ _ _ _ (s_indexOf hc hn (fun i hi he hb2 => ⟨fun z2 => (iNN z2 (by rcases hc with ⟨_, h⟩ | ⟨_, h⟩ | ⟨_, h⟩ | ⟨_, h⟩ | ⟨_, h⟩ | ⟨_, h⟩ | ⟨_, h⟩ | ⟨_, h⟩ | ⟨_, h⟩ | ⟨_, h⟩ | ⟨_, h⟩ | ⟨_, h⟩ <;> omega)).elim, fun _ => ?_⟩) (fun hb2 => ⟨fun _ => ?_, fun z2 => absurd (by decide) z2⟩))
    · have e1 : nm i = v j := by
        rw [(hnm i hi).1] at he
        have := (hnm i hi).2
        exact iEQ he
      have e2 : nmF nm n (v j) = i := nmF_hit hi e1 (fun a ha e => hb2 a ha (by rw [(hnm a (by omega)).1, e]))
      exact hC _ _ _ _ (s_refuse hR hj ej (fun mi' f1 f2 f3 => ⟨rfl, herr (3, p j) (if_pos (by omega)) mi' f1 f2 f3⟩))
    · have e2 : nmF nm n (v j) = n := nmF_none (fun a ha e => hb2 a ha (by rw [(hnm a ha).1, e]))
      refine hC _ _ _ _ (s_goOn hR hlt ej (fun mi' f1 f2 _ => ⟨rfl, hok (v j) (if_neg (by omega)) (hR.2.2.2.2.1 j z) hlt mi' f1 f2⟩))
  · have z := iNE z
    simp only [if_neg z] at herr hok
    exact hC _ _ _ _ (s_refuse hR hj ej (fun mi' f1 f2 f3 => ⟨rfl, herr (1, p j) rfl mi' f1 f2 f3⟩))
theorem s_readToldName (hR : RE k v p m mi) (hj : j ≤ m) (ej : mi 68 4 = nI j) {c L n : Nat} {nm : Nat → Nat} {Y : Int32} (hY : Y = nI n) (hc : (c = 7 ∧ L = 5) ∨ (c = 17 ∧ L = 6) ∨ (c = 21 ∧ L = 3) ∨ (c = 27 ∧ L = 4) ∨ (c = 29 ∧ L = 5) ∨ (c = 15 ∧ L = 9) ∨ (c = 38 ∧ L = 5) ∨ (c = 48 ∧ L = 6) ∨ (c = 52 ∧ L = 3) ∨ (c = 58 ∧ L = 4) ∨ (c = 60 ∧ L = 5) ∨ (c = 46 ∧ L = 9)) (hn : n ≤ L) (hnm : ∀ i, i < n → mi c i = nI (nm i) ∧ nm i < 2 ^ 30) (herr : ∀ e, pOld k v p nm n j = .error e → ∀ mi', Fr [68] mi mi' → mi' 68 0 = nI e.1 → mi' 68 1 = nI e.2 → Q (some (.int (-1))) (mi', ml, R0 rd, 136)) (hok : ∀ x, pOld k v p nm n j = .ok x → x < n → j < m → ∀ mi', Fr [68] mi mi' → RS (j + 1) mi mi' → Q (some (.int (nI x))) (mi', ml, R0 rd, 136)) : Cd (d + 3) k_Reader_readToldName [.ref 68, .ref c, .int Y] (mi, ml, R0 rd, 136) Q := by
  subst hY
  have h7 := hR.1
  have hb := hR.2.2.2.1 j
  have hL : L ≤ 9 := by rcases hc with ⟨_, h⟩ | ⟨_, h⟩ | ⟨_, h⟩ | ⟨_, h⟩ | ⟨_, h⟩ | ⟨_, h⟩ | ⟨_, h⟩ | ⟨_, h⟩ | ⟨_, h⟩ | ⟨_, h⟩ | ⟨_, h⟩ | ⟨_, h⟩ <;> omega
  unfold pOld at herr hok
  refine r_Reader_readToldName (by decide) (fun K Kl hK hC => hC _ _ _ _ (s_kindHere hR hj ej ⟨fun z => ?_, fun z => ?_⟩))
  · have z := iEQ z
    have hlt := hR.lt hj (by omega)
    have ev := (hR.2.2.2.2.2 j hj).2.2 hlt
    simp only [if_pos z] at herr hok
    refine ⟨j, by omega, ej, ?_⟩
    rw [ev]
    refine hC _ _ _ _ (s_indexOf hc hn (fun i hi he hb2 => ⟨fun _ => ?_, fun z2 => absurd (nI_pos' (by omega)) z2⟩) (fun hb2 => ⟨fun z2 => absurd z2 (by decide), fun _ => ?_⟩))
    · have e1 : nm i = v j := by
        rw [(hnm i hi).1] at he
        have := (hnm i hi).2
        exact iEQ he
      have e2 : nmF nm n (v j) = i := nmF_hit hi e1 (fun a ha e => hb2 a ha (by rw [(hnm a (by omega)).1, e]))
      refine hC _ _ _ _ (s_goOn hR hlt ej (fun mi' f1 f2 _ => ⟨rfl, hok i (by rw [if_pos (by omega), e2]) hi hlt mi' f1 f2⟩))
    · have e2 : nmF nm n (v j) = n := nmF_none (fun a ha e => hb2 a ha (by rw [(hnm a ha).1, e]))
      exact hC _ _ _ _ (s_refuse hR hj ej (fun mi' f1 f2 f3 => ⟨rfl, herr (4, p j) (if_neg (by omega)) mi' f1 f2 f3⟩))
  · have z := iNE z
    simp only [if_neg z] at herr hok
    exact hC _ _ _ _ (s_refuse hR hj ej (fun mi' f1 f2 f3 => ⟨rfl, herr (1, p j) rfl mi' f1 f2 f3⟩))
end
