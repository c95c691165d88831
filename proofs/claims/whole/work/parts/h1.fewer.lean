/-! WHAT THE CONSTRUCTORS CALL: with fewer cells -/
section
variable {d : Nat} {Q : Option Value → Mm → Prop} {A : St} {T S : Nat → Nat → Nat} {o l : Nat} {mi : Nat → Nat → Int32} {ml : Nat → Nat → Int64} {rd : Option Nat}
theorem s_clearFields95 {b : Nat} (hb : b = 70 ∨ b = 86) (hQ : ∀ g : Nat → Int32, (∀ f, f < 48 → g f = nI 0) → Q none (cu mi (b + 1) g, ml, R0 rd, 95)) : Cd (d + 1) k_Scene_clearFields [.ref b] (mi, ml, R0 rd, 95) Q := by
  have lp : ∀ j, j ≤ 48 → ∀ g : Nat → Int32, (∀ f, f < j → g f = nI 0) → GoM d k_Scene_clearFields 95 Q 2 [.ref b, .int (nI j)] [] (cu mi (b + 1) g, ml, R0 rd, 95) := by
    refine upto ?_ ?_
    · intro g hg
      refine g_Scene_clearFields (fun K Kl hK hC => ?_)
      exact ⟨fun _ => ⟨rfl, hQ g hg⟩, fun h => absurd (iNLE h) (by omega)⟩
    · intro j hj ih g hg
      have ih := ih (upd g j (nI 0)) (fun f hf => by
        by_cases hfj : f = j
        · subst hfj; exact pk_us
        · rw [pk_un hfj]; exact hg f (by omega))
      rw [nI1, ← cuu] at ih
      refine g_Scene_clearFields ?_
      rcases hb with rfl | rfl
      all_goals
        intro K Kl hK hC
        refine ⟨fun h => absurd (iLE h) (by omega), fun _ => ⟨j, by omega, rfl, ?_⟩⟩
        exact hK _ _ _ _ ih
  refine r_Scene_clearFields (by decide) (fun K Kl hK hC => ?_)
  have := lp 0 (Nat.zero_le _) (mi (b + 1)) lt_0
  rw [cu_id] at this
  exact hK _ _ _ _ this
theorem s_Script_clear95 (ho : o = 0 ∨ o = 31) (hQ : ∀ g : Nat → Int32, (∀ c, c < 32 → g c = nI 0) → Q none (cu (cu (cu mi (13 + o) (upd (mi (13 + o)) 0 (nI 0))) (13 + o) (upd (cu mi (13 + o) (upd (mi (13 + o)) 0 (nI 0)) (13 + o)) 1 (nI 0))) (16 + o) g, ml, R0 rd, 95)) : Cd (d + 1) k_Script_clear [.ref (13 + o)] (mi, ml, R0 rd, 95) Q := by
  have lp : ∀ m0, (∀ g : Nat → Int32, (∀ c, c < 32 → g c = nI 0) → Q none (cu m0 (16 + o) g, ml, R0 rd, 95)) → ∀ j, j ≤ 32 → ∀ g : Nat → Int32, (∀ c, c < j → g c = nI 0) → GoM d k_Script_clear 95 Q 12 [.ref (13 + o), .int (nI j)] [] (cu m0 (16 + o) g, ml, R0 rd, 95) := by
    intro m0 hQ
    refine upto ?_ ?_
    · intro g hg
      have hz := hQ g hg
      refine g_Script_clear ?_
      rcases ho with rfl | rfl
      all_goals
        intro K Kl hK hC
        exact ⟨fun _ => ⟨rfl, hz⟩, fun z => absurd (iNLE z) (by omega)⟩
    · intro j hj ih g hg
      have ih := ih (upd g j (nI 0)) (fun f hf => by
        by_cases hfj : f = j
        · subst hfj; exact pk_us
        · rw [pk_un hfj]; exact hg f (by omega))
      rw [nI1 j, ← cuu] at ih
      refine g_Script_clear ?_
      rcases ho with rfl | rfl
      all_goals
        intro K Kl hK hC
        exact ⟨fun z => absurd (iLE z) (by omega), fun _ => ⟨j, by omega, rfl, hK _ _ _ _ ih⟩⟩
  have l0 := lp _ hQ 0 (Nat.zero_le _) (mi (16 + o)) lt_0
  rw [show mi (16 + o) = cu (cu mi (13 + o) (upd (mi (13 + o)) 0 (nI 0))) (13 + o) (upd (cu mi (13 + o) (upd (mi (13 + o)) 0 (nI 0)) (13 + o)) 1 (nI 0)) (16 + o) by rw [cu_ne (by omega), cu_ne (by omega)], cu_id] at l0
  refine r_Script_clear (by decide) ?_
  rcases ho with rfl | rfl
  all_goals
    intro K Kl hK hC
    exact hK _ _ _ _ l0
set_option maxHeartbeats 1000000 in
theorem s_Told_clear95 (ho : o = 0 ∨ o = 31) (hQ : ∀ mi' ml', RF o mi mi' → mi' 68 = mi 68 → RF o ml ml' → CX o tI 0 mi' ml' → Q none (mi', ml', R0 rd, 95)) : Cd (d + 2) k_Told_clear [.ref (6 + o)] (mi, ml, R0 rd, 95) Q := by
  have lp : ∀ j, j ≤ 48 → ∀ m1 l1, RF o mi m1 → m1 68 = mi 68 → RF o ml l1 → m1 (6 + o) 0 = nI 4 → m1 (6 + o) 1 = nI 3 → m1 (6 + o) 2 = nI 0 → m1 (6 + o) 3 = nI 0 → m1 (6 + o) 4 = nI 0 → m1 (6 + o) 5 = nI 100 → m1 (6 + o) 6 = nI 0 → m1 (6 + o) 7 = nI 0 → l1 (6 + o) 8 = 0 → (∀ f, f < j → m1 (10 + o) f = -1) → (∀ f, f < j → m1 (11 + o) f = -1) → (∀ f, f < j → m1 (12 + o) f = nI 1) → GoM (d + 1) k_Told_clear 95 Q 48 [.ref (6 + o), .int (nI j)] [] (m1, l1, R0 rd, 95) := by
    refine upto ?_ ?_
    · intro m1 l1 f1 f68 f2 a0 a1 a2 a3 a4 a5 a6 a7 a8 g10 g11 g12
      have ho2 := ho
      refine g_Told_clear ?_
      rcases ho with rfl | rfl
      all_goals
        intro K Kl hK hC
        refine ⟨fun _ => hC _ _ _ _ (s_Script_clear95 ho2 (fun gs0 gs => ?_)), fun z => absurd (iNLE z) (by omega)⟩
        refine hC _ _ _ _ (r_Hills_clear (by decide) (fun K2 Kl2 hK2 hC2 => ⟨rfl, hC _ _ _ _ (r_Washing_clear (by decide) (fun K3 Kl3 hK3 hC3 => ⟨rfl, rfl, ?_⟩))⟩))
        exact hQ _ _ (RF.cu (RF.cu (RF.cu (RF.cu (RF.cu (RF.cu (RF.cu (RF.cu f1 (by omega)) (by omega)) (by omega)) (by omega)) (by omega)) (by omega)) (by omega)) (by omega)) f68 f2 ⟨⟨a0, a1, a2, a5, a6, a7, fun i hi => absurd hi (Nat.not_lt_zero i), fun i hi => absurd hi (Nat.not_lt_zero i), fun i hi => absurd hi (Nat.not_lt_zero i), fun f hf => (g10 f hf).trans (show (-1 : Int32) = nI 0 - 1 by decide), fun f hf => g11 f hf, fun f hf => g12 f hf, rfl, rfl, fun i hi => absurd hi (Nat.not_lt_zero i), fun i hi => absurd hi (Nat.not_lt_zero i), fun c hc => gs c hc, fun i hi => absurd hi (Nat.not_lt_zero i), fun i hi => absurd hi (Nat.not_lt_zero i), fun i hi => absurd hi (Nat.not_lt_zero i), rfl, rfl, fun i hi => absurd hi (Nat.not_lt_zero i), fun i hi => absurd hi (Nat.not_lt_zero i), fun i hi => absurd hi (Nat.not_lt_zero i), fun i hi => absurd hi (Nat.not_lt_zero i), fun i hi => absurd hi (Nat.not_lt_zero i), rfl, rfl, fun i hi => absurd hi (Nat.not_lt_zero i), fun i hi => absurd hi (Nat.not_lt_zero i), fun i hi => absurd hi (Nat.not_lt_zero i), fun i hi => absurd hi (Nat.not_lt_zero i), fun i hi => absurd hi (Nat.not_lt_zero i), rfl, fun i hi => absurd hi (Nat.not_lt_zero i), fun i hi => absurd hi (Nat.not_lt_zero i)⟩, a3, a4, a8⟩
    · intro j hj ih m1 l1 f1 f68 f2 a0 a1 a2 a3 a4 a5 a6 a7 a8 g10 g11 g12
      rw [nI1 j] at ih
      have ex : ∀ {g : Nat → Int32} {X : Int32}, (∀ f, f < j → g f = X) → ∀ f, f < j + 1 → upd g j X f = X := fun {g X} hg f hf => by
        by_cases e : f = j
        · rw [e]; exact pk_us
        · rw [pk_un e]; exact hg f (by omega)
      refine g_Told_clear ?_
      rcases ho with rfl | rfl
      all_goals
        intro K Kl hK hC
        exact ⟨fun z => absurd (iLE z) (by omega), fun _ => ⟨j, by omega, rfl, j, by omega, rfl, j, by omega, rfl, hK _ _ _ _ (ih _ l1 (RF.cu (RF.cu (RF.cu f1 (by omega)) (by omega)) (by omega)) f68 f2 a0 a1 a2 a3 a4 a5 a6 a7 a8 (ex g10) (ex g11) (ex g12))⟩⟩
  refine r_Told_clear (by decide) ?_
  have l0 := lp 0 (Nat.zero_le _)
  rcases ho with rfl | rfl
  all_goals
    intro K Kl hK hC
    exact hK _ _ _ _ (l0 _ _ (RF.cu (RF.cu (RF.cu (RF.cu (RF.cu (RF.cu (RF.cu (RF.cu RF.none (by omega)) (by omega)) (by omega)) (by omega)) (by omega)) (by omega)) (by omega)) (by omega)) rfl (RF.cu RF.none (by omega)) rfl rfl rfl rfl rfl rfl rfl rfl rfl lt_0 lt_0 lt_0)
theorem s_Scene_begin95 (hT : CT 0 T mi) (hQ : ∀ mi', Fr [70, 71, 72] mi mi' → CS 70 (bgS T) mi' → Q none (mi', ml, R0 rd, 95)) : Cd (d + 2) k_Scene_begin [.ref 70, .ref 6] (mi, ml, R0 rd, 95) Q := by
  have ep : mi 6 5 = nI (T 0 10) := hT.purse
  have es : mi 6 6 = nI (T 0 11) := hT.seed
  have lp : ∀ j, j ≤ 18 → ∀ m1, Fr [70, 71, 72] mi m1 → m1 70 0 = nI 0 → m1 70 1 = nI (T 0 10) → m1 70 2 = nI (T 0 11) → m1 70 3 = nI 0 → (∀ f, f < 48 → m1 71 f = nI 0) → (∀ i, i < j → m1 72 i = -1) → GoM (d + 1) k_Scene_begin 95 Q 32 [.ref 70, .ref 6, .int (nI j)] [] (m1, ml, R0 rd, 95) := by
    refine upto ?_ ?_
    · intro m1 f1 a0 a1 a2 a3 g1 g2
      refine g_Scene_begin (fun K Kl hK hC => ⟨fun _ => ⟨rfl, hQ m1 f1 ⟨a0, a1, a2, a3, g1, fun w hw h hh => (g2 _ (by omega)).trans (show (-1 : Int32) = nI 0 - 1 by decide)⟩⟩, fun z => absurd (iNLE z) (by omega)⟩)
    · intro j hj ih m1 f1 a0 a1 a2 a3 g1 g2
      rw [nI1 j] at ih
      refine g_Scene_begin (fun K Kl hK hC => ⟨fun z => absurd (iLE z) (by omega), fun _ => ⟨j, by omega, rfl, hK _ _ _ _ (ih _ (f1.cu rfl) a0 a1 a2 a3 g1 (fun i hi => ?_))⟩⟩)
      show upd (m1 72) j (-1) i = -1
      by_cases e : i = j
      · rw [e]; exact pk_us
      · rw [pk_un e]; exact g2 i (by omega)
  refine r_Scene_begin (by decide) (fun K Kl hK hC => ?_)
  refine hC _ _ _ _ (s_clearFields95 (Or.inl rfl) (fun g hg => ?_))
  exact hK _ _ _ _ (lp 0 (Nat.zero_le _) _ ((((Fr.none.cu rfl).cu rfl).cu rfl).cu rfl |>.cu rfl) rfl ep es rfl hg lt_0)
set_option maxHeartbeats 2000000 in
theorem copiesLp135 {c L : Nat} (hc : cpL c L) (hQ : Q none (cpM c L L mi, ml, R0 rd, 135)) : ∀ j, j ≤ L → GoM d k_Mod_copies 135 Q 2 [.ref c, .int (nI L), .int (nI j)] [] (cpM c L j mi, ml, R0 rd, 135) := by
  have hL : L ≤ 64 := by unfold cpL at hc; omega
  refine upto ?_ ?_
  · have hQ := hQ
    rcases hc with ⟨rfl, rfl⟩ | ⟨rfl, rfl⟩ | ⟨rfl, rfl⟩ | ⟨rfl, rfl⟩ | ⟨rfl, rfl⟩ | ⟨rfl, rfl⟩ | ⟨rfl, rfl⟩ | ⟨rfl, rfl⟩ | ⟨rfl, rfl⟩ | ⟨rfl, rfl⟩ | ⟨rfl, rfl⟩ | ⟨rfl, rfl⟩ | ⟨rfl, rfl⟩ | ⟨rfl, rfl⟩ | ⟨rfl, rfl⟩ | ⟨rfl, rfl⟩ | ⟨rfl, rfl⟩ | ⟨rfl, rfl⟩ | ⟨rfl, rfl⟩ | ⟨rfl, rfl⟩
    all_goals exact g_Mod_copies (fun K Kl hK hC => ⟨fun _ => ⟨rfl, hQ⟩, fun z => absurd (iNLE z) (by omega)⟩)
  · intro j hj ih
    rw [nI1 j, ← cpM_s hj] at ih
    have e : nI L + nI j = nI (L + j) := nI_add _ _
    rcases hc with ⟨rfl, rfl⟩ | ⟨rfl, rfl⟩ | ⟨rfl, rfl⟩ | ⟨rfl, rfl⟩ | ⟨rfl, rfl⟩ | ⟨rfl, rfl⟩ | ⟨rfl, rfl⟩ | ⟨rfl, rfl⟩ | ⟨rfl, rfl⟩ | ⟨rfl, rfl⟩ | ⟨rfl, rfl⟩ | ⟨rfl, rfl⟩ | ⟨rfl, rfl⟩ | ⟨rfl, rfl⟩ | ⟨rfl, rfl⟩ | ⟨rfl, rfl⟩ | ⟨rfl, rfl⟩ | ⟨rfl, rfl⟩ | ⟨rfl, rfl⟩ | ⟨rfl, rfl⟩
    all_goals exact g_Mod_copies (fun K Kl hK hC => ⟨fun z => absurd (iLE z) (by omega), fun _ => ⟨_, by omega, e, ⟨j, by omega, rfl, hK _ _ _ _ ih⟩⟩⟩)
theorem t_copies135 {c L : Nat} {X : Int32} (hX : X = nI L) (hc : cpL c L) (hQ : Q none (cpM c L L mi, ml, R0 rd, 135)) : Cd (d + 1) k_Mod_copies [.ref c, .int X] (mi, ml, R0 rd, 135) Q := by
  subst hX
  have h := copiesLp135 (d := d) hc hQ 0 (Nat.zero_le _)
  rw [cpM_0] at h
  exact r_Mod_copies (by decide) (fun K Kl hK hC => hK _ _ _ _ h)
set_option maxHeartbeats 2000000 in
theorem t_begin135 (hQ : ∀ mi', BG mi mi' → Q none (mi', cu ml 95 (vp_updL (ml 95) 72 (mi 98 1).toInt64), R0 rd, 135)) : Cd (d + 1) k_Mod_begin [.ref 95] (mi, ml, R0 rd, 135) Q := by
  have l2 : ∀ m1 : Nat → Nat → Int32, ∀ ml1, (∀ m2, (∀ c, c ≠ 125 → m2 c = m1 c) → (∀ i, i < 18 → m2 125 i = -1) → Q none (cu (cu (cu (cu m2 95 (upd (m2 95) 88 (nI 0))) 95 (upd (upd (m2 95) 88 (nI 0)) 89 (-1))) 95 (upd (upd (upd (m2 95) 88 (nI 0)) 89 (-1)) 94 (nI 0))) 95 (upd (upd (upd (upd (m2 95) 88 (nI 0)) 89 (-1)) 94 (nI 0)) 96 (nI 0)), ml1, R0 rd, 135)) → ∀ j, j ≤ 18 → ∀ m2 : Nat → Nat → Int32, (∀ c, c ≠ 125 → m2 c = m1 c) → (∀ i, i < j → m2 125 i = -1) → GoM d k_Mod_begin 135 Q 56 [.ref 95, .int (nI j)] [] (m2, ml1, R0 rd, 135) := by
    intro m1 ml1 h1
    refine upto ?_ ?_
    · intro m2 f2 g2
      exact g_Mod_begin (fun K Kl hK hC => ⟨fun _ => ⟨Or.inl rfl, rfl, h1 m2 f2 g2⟩, fun z => absurd (iNLE z) (by omega)⟩)
    · intro j hj ih m2 f2 g2
      rw [nI1 j] at ih
      refine g_Mod_begin (fun K Kl hK hC => ⟨fun z => absurd (iLE z) (by omega), fun _ => ⟨j, by omega, rfl, hK _ _ _ _ (ih _ (fun c hc => by rw [cu_ne hc]; exact f2 c hc) (fun i hi => ?_))⟩⟩)
      show upd (m2 125) j (-1) i = -1
      by_cases e : i = j
      · rw [e]; exact pk_us
      · rw [pk_un e]; exact g2 i (by omega)
  have l1 : ∀ j, j ≤ 48 → ∀ m1 : Nat → Nat → Int32, (∀ c, c ≠ 123 → m1 c = mi c) → (∀ i, i < j → m1 123 i = nI 0) → GoM d k_Mod_begin 135 Q 2 [.ref 95, .int (nI j)] [] (m1, ml, R0 rd, 135) := by
    refine upto ?_ ?_
    · intro m1 f1 g1
      have e98 : m1 98 = mi 98 := f1 98 (by decide)
      have e95 : m1 95 = mi 95 := f1 95 (by decide)
      have hs : (mi 98 1).toInt64 = (m1 98 1).toInt64 := by rw [e98]
      rw [hs] at hQ
      refine g_Mod_begin (fun K Kl hK hC => ⟨fun _ => ⟨0, by decide, rfl, ⟨0, by decide, rfl, ⟨1, by decide, rfl, hK _ _ _ _ (l2 _ _ (fun m2 f2 g2 => hQ _ ?_) 0 (Nat.zero_le _) _ (fun _ _ => rfl) lt_0)⟩⟩⟩, fun z => absurd (iNLE z) (by omega)⟩)
      have k95 := f2 95 (by decide)
      have k95 : m2 95 = upd (upd (m1 95) 70 (m1 98 0)) 71 (nI 0) := k95
      refine ⟨fun c h1 h2 => ?_, fun k hk => ?_, ?_, ?_, rfl, rfl, rfl, rfl, fun f hf => ?_, ?_, g2⟩
      · rw [cu_ne h1, cu_ne h1, cu_ne h1, cu_ne h1, f2 c (by omega), cu_ne (by omega), cu_ne (by omega), cu_ne (by omega), f1 c (by omega)]
      · show upd (upd (upd (upd (m2 95) 88 _) 89 _) 94 _) 96 _ k = _
        rw [pk_un (bg6_ne hk rfl), pk_un (bg6_ne hk rfl), pk_un (bg6_ne hk rfl), pk_un (bg6_ne hk rfl), k95, pk_un (bg6_ne hk rfl), pk_un (bg6_ne hk rfl), e95]
      · show m2 95 70 = _
        rw [k95, ← e98]
        rfl
      · show m2 95 71 = _
        rw [k95]
        rfl
      · show m2 123 f = _
        rw [f2 123 (by decide)]
        exact g1 f hf
      · show m2 124 0 = _
        rw [f2 124 (by decide)]
        rfl
    · intro j hj ih m1 f1 g1
      rw [nI1 j] at ih
      refine g_Mod_begin (fun K Kl hK hC => ⟨fun z => absurd (iLE z) (by omega), fun _ => ⟨j, by omega, rfl, hK _ _ _ _ (ih _ (fun c hc => by rw [cu_ne hc]; exact f1 c hc) (fun i hi => ?_))⟩⟩)
      show upd (m1 123) j (nI 0) i = nI 0
      by_cases e : i = j
      · rw [e]; exact pk_us
      · rw [pk_un e]; exact g1 i (by omega)
  exact r_Mod_begin (by decide) (fun K Kl hK hC => hK _ _ _ _ (l1 0 (Nat.zero_le _) mi (fun _ _ => rfl) lt_0))
set_option maxHeartbeats 4000000 in
theorem t_keepText135 (hX : MX T mi) (hT : tOK T) (e1 : mi 95 1 = nI 0) (e4 : mi 95 4 = nI 0) (e5 : mi 95 5 = -1) (e75 : mi 95 75 = -1 ∧ mi 95 76 = -1) (e97 : ∀ i, i < 127 → mi 97 i = nI (nth 0 langM i)) (hQ : ∀ mi' ml', MI (txN A T) mi' ml' → Lo mi mi' → Lo ml ml' → Q none (mi', ml', R0 rd, 135)) : Cd (d + 2) k_Mod_keepText [.ref 95] (mi, ml, R0 rd, 135) Q := by
  have h18 := hT.2.2.1 18 (by decide) (by decide)
  have hb5 := hT.1.own5
  have hgl9 := hT.1.gl9
  have hwd6 := hT.1.wd6
  have hhl3 := hT.1.hl3
  have hco4 := hT.1.co4
  have hsg5 := hT.1.sg5
  have hlk3 := hT.1.lk3
  have hkn64 := hT.1.kn64
  have hse := hT.1.se
  have hb : mi 95 35 = 0 ∨ mi 95 35 = 1 := by
    rw [hX.ls]
    rcases (show T 0 18 = 0 ∨ T 0 18 = 1 by omega) with e | e
    · rw [e]; exact Or.inl rfl
    · rw [e]; exact Or.inr rfl
  refine r_Mod_keepText (by decide) (fun K Kl hK hC => ⟨hb, hC _ _ _ _ (t_copies135 rfl (Or.inl ⟨rfl, rfl⟩) (hC _ _ _ _ (t_copies135 rfl (Or.inr (Or.inl ⟨rfl, rfl⟩)) (hC _ _ _ _ (t_copies135 rfl (Or.inr (Or.inr (Or.inl ⟨rfl, rfl⟩))) (hC _ _ _ _ (t_copies135 rfl (Or.inr (Or.inr (Or.inr (Or.inl ⟨rfl, rfl⟩)))) (hC _ _ _ _ (t_copies135 rfl (Or.inr (Or.inr (Or.inr (Or.inr (Or.inl ⟨rfl, rfl⟩))))) (hC _ _ _ _ (t_copies135 rfl (Or.inr (Or.inr (Or.inr (Or.inr (Or.inr (Or.inl ⟨rfl, rfl⟩)))))) (hC _ _ _ _ (t_copies135 rfl (Or.inr (Or.inr (Or.inr (Or.inr (Or.inr (Or.inr (Or.inl ⟨rfl, rfl⟩))))))) (hC _ _ _ _ (t_copies135 rfl (Or.inr (Or.inr (Or.inr (Or.inr (Or.inr (Or.inr (Or.inr (Or.inl ⟨rfl, rfl⟩)))))))) (hC _ _ _ _ (t_copies135 rfl (Or.inr (Or.inr (Or.inr (Or.inr (Or.inr (Or.inr (Or.inr (Or.inr (Or.inl ⟨rfl, rfl⟩))))))))) (hC _ _ _ _ (t_copies135 rfl (Or.inr (Or.inr (Or.inr (Or.inr (Or.inr (Or.inr (Or.inr (Or.inr (Or.inr (Or.inl ⟨rfl, rfl⟩)))))))))) (hC _ _ _ _ (t_copies135 rfl (Or.inr (Or.inr (Or.inr (Or.inr (Or.inr (Or.inr (Or.inr (Or.inr (Or.inr (Or.inr (Or.inl ⟨rfl, rfl⟩))))))))))) (hC _ _ _ _ (t_copies135 rfl (Or.inr (Or.inr (Or.inr (Or.inr (Or.inr (Or.inr (Or.inr (Or.inr (Or.inr (Or.inr (Or.inr (Or.inl ⟨rfl, rfl⟩)))))))))))) (hC _ _ _ _ (t_copies135 rfl (Or.inr (Or.inr (Or.inr (Or.inr (Or.inr (Or.inr (Or.inr (Or.inr (Or.inr (Or.inr (Or.inr (Or.inr (Or.inl ⟨rfl, rfl⟩))))))))))))) (hC _ _ _ _ (t_copies135 rfl (Or.inr (Or.inr (Or.inr (Or.inr (Or.inr (Or.inr (Or.inr (Or.inr (Or.inr (Or.inr (Or.inr (Or.inr (Or.inr (Or.inl ⟨rfl, rfl⟩)))))))))))))) (hC _ _ _ _ (t_copies135 rfl (Or.inr (Or.inr (Or.inr (Or.inr (Or.inr (Or.inr (Or.inr (Or.inr (Or.inr (Or.inr (Or.inr (Or.inr (Or.inr (Or.inr (Or.inl ⟨rfl, rfl⟩))))))))))))))) (hC _ _ _ _ (t_copies135 rfl (Or.inr (Or.inr (Or.inr (Or.inr (Or.inr (Or.inr (Or.inr (Or.inr (Or.inr (Or.inr (Or.inr (Or.inr (Or.inr (Or.inr (Or.inr (Or.inl ⟨rfl, rfl⟩)))))))))))))))) (hC _ _ _ _ (t_copies135 rfl (Or.inr (Or.inr (Or.inr (Or.inr (Or.inr (Or.inr (Or.inr (Or.inr (Or.inr (Or.inr (Or.inr (Or.inr (Or.inr (Or.inr (Or.inr (Or.inr (Or.inl ⟨rfl, rfl⟩))))))))))))))))) (hC _ _ _ _ (t_copies135 rfl (Or.inr (Or.inr (Or.inr (Or.inr (Or.inr (Or.inr (Or.inr (Or.inr (Or.inr (Or.inr (Or.inr (Or.inr (Or.inr (Or.inr (Or.inr (Or.inr (Or.inr (Or.inl ⟨rfl, rfl⟩)))))))))))))))))) (hC _ _ _ _ (t_copies135 rfl (Or.inr (Or.inr (Or.inr (Or.inr (Or.inr (Or.inr (Or.inr (Or.inr (Or.inr (Or.inr (Or.inr (Or.inr (Or.inr (Or.inr (Or.inr (Or.inr (Or.inr (Or.inr (Or.inl ⟨rfl, rfl⟩))))))))))))))))))) (hC _ _ _ _ (t_copies135 rfl (Or.inr (Or.inr (Or.inr (Or.inr (Or.inr (Or.inr (Or.inr (Or.inr (Or.inr (Or.inr (Or.inr (Or.inr (Or.inr (Or.inr (Or.inr (Or.inr (Or.inr (Or.inr (Or.inr (⟨rfl, rfl⟩)))))))))))))))))))) (hC _ _ _ _ (t_begin135 (fun m4 hB => ⟨rfl, ?_⟩))))))))))))))))))))))))))))))))))))))))))⟩)
  have hs : (mi 98 (3 + 1)).toInt64 = lN (T 0 11) := by rw [hX.se, nI_l (by omega)]
  refine hQ _ _ ⟨?_, ?_, ?_, ?_, ?_, ?_, ?_, ?_, ?_, ?_⟩ ?_ ?_
  · show MT T m4
    refine ⟨(hB.2.1 12 rfl).trans hX.w,
      (hB.2.1 13 rfl).trans hX.h,
      (hB.2.1 14 rfl).trans hX.no,
      (hB.2.1 15 rfl).trans hX.ng,
      (hB.2.1 16 rfl).trans hX.nw,
      (hB.2.1 17 rfl).trans hX.nh,
      (hB.2.1 18 rfl).trans hX.nc,
      (hB.2.1 19 rfl).trans hX.nsg,
      (hB.2.1 20 rfl).trans hX.nl,
      (hB.2.1 21 rfl).trans hX.nk,
      (hB.2.1 22 rfl).trans (by
      show mi 95 35 = if T 0 9 = 0 then 0 else 1
      rw [hX.ls]
      by_cases e : T 0 9 = 0
      · rw [if_pos e, hT.2.2.2.1.mpr e]; rfl
      · rw [if_neg e]
        have := h18
        have : T 0 18 ≠ 0 := fun q => e (hT.2.2.2.1.mp q)
        rw [show T 0 18 = 1 by omega]; rfl),
      (by rw [hB.1 98 (by decide) (by decide)]; exact hX.pu),
      (by rw [hB.1 98 (by decide) (by decide)]; exact hX.se),
      (by rw [hB.1 98 (by decide) (by decide)]; exact hX.ra),
      fun i hi => (by rw [hB.1 100 (by decide) (by decide)]; show (if i < 5 then mi 100 (5 + i) else _) = _; rw [if_pos (by omega)]; exact hX.on i hi),
      fun i hi => (by rw [hB.1 101 (by decide) (by decide)]; show (if i < 5 then mi 101 (5 + i) else _) = _; rw [if_pos (by omega)]; exact hX.pr i hi),
      fun i hi => (by rw [hB.1 102 (by decide) (by decide)]; show (if i < 5 then mi 102 (5 + i) else _) = _; rw [if_pos (by omega)]; exact hX.cud i hi),
      fun i hi => (by rw [hB.1 103 (by decide) (by decide)]; show (if i < 48 then mi 103 (48 + i) else _) = _; rw [if_pos (by omega)]; exact hX.ow i hi),
      fun i hi => (by rw [hB.1 104 (by decide) (by decide)]; show (if i < 9 then mi 104 (9 + i) else _) = _; rw [if_pos (by omega)]; exact hX.gl i hi),
      fun i hi => (by rw [hB.1 105 (by decide) (by decide)]; show (if i < 9 then mi 105 (9 + i) else _) = _; rw [if_pos (by omega)]; exact hX.gs i hi),
      fun i hi => (by rw [hB.1 106 (by decide) (by decide)]; show (if i < 6 then mi 106 (6 + i) else _) = _; rw [if_pos (by omega)]; exact hX.wn i hi),
      fun i hi => (by rw [hB.1 107 (by decide) (by decide)]; show (if i < 6 then mi 107 (6 + i) else _) = _; rw [if_pos (by omega)]; exact hX.ww i hi),
      fun i hi => (by rw [hB.1 108 (by decide) (by decide)]; show (if i < 3 then mi 108 (3 + i) else _) = _; rw [if_pos (by omega)]; exact hX.hn i hi),
      fun i hi => (by rw [hB.1 109 (by decide) (by decide)]; show (if i < 3 then mi 109 (3 + i) else _) = _; rw [if_pos (by omega)]; exact hX.sg i hi),
      fun i hi => (by rw [hB.1 110 (by decide) (by decide)]; show (if i < 4 then mi 110 (4 + i) else _) = _; rw [if_pos (by omega)]; exact hX.cn i hi),
      fun i hi => (by rw [hB.1 111 (by decide) (by decide)]; show (if i < 4 then mi 111 (4 + i) else _) = _; rw [if_pos (by omega)]; exact hX.cm i hi),
      fun i hi => (by rw [hB.1 112 (by decide) (by decide)]; show (if i < 5 then mi 112 (5 + i) else _) = _; rw [if_pos (by omega)]; exact hX.sn i hi),
      fun i hi => (by rw [hB.1 113 (by decide) (by decide)]; show (if i < 5 then mi 113 (5 + i) else _) = _; rw [if_pos (by omega)]; exact hX.sl i hi),
      fun i hi k hk => (by rw [hB.1 114 (by decide) (by decide)]; show (if (4 * i + k) < 20 then mi 114 (20 + (4 * i + k)) else _) = _; rw [if_pos (by have := hT.1.sl i hi; omega)]; exact hX.sr i hi k hk),
      fun i hi => (by rw [hB.1 115 (by decide) (by decide)]; show (if i < 9 then mi 115 (9 + i) else _) = _; rw [if_pos (by omega)]; exact hX.lk i hi),
      fun i hi => (by rw [hB.1 116 (by decide) (by decide)]; show (if i < 64 then mi 116 (64 + i) else _) = _; rw [if_pos (by omega)]; exact hX.kk i hi),
      fun i hi h1 => (by rw [hB.1 117 (by decide) (by decide)]; show (if i < 64 then mi 117 (64 + i) else _) = _; rw [if_pos (by omega)]; exact hX.kn i hi h1)⟩
  · intro i hi
    have h := hX.kp i hi
    have hi : i < T 0 9 := hi
    have e117 : m4 117 i = mi 117 (64 + i) := by rw [hB.1 117 (by decide) (by decide)]; show (if i < 64 then mi 117 (64 + i) else _) = _; rw [if_pos (by omega)]
    have e118 : m4 118 i = mi 118 (64 + i) := by rw [hB.1 118 (by decide) (by decide)]; show (if i < 64 then mi 118 (64 + i) else _) = _; rw [if_pos (by omega)]
    rw [e117, e118]
    exact h
  · exact ⟨hB.2.2.2.2.2.2.2.2.1, hB.2.2.2.2.2.2.2.2.2.1, hB.2.2.1.trans hX.pu, hs, hB.2.2.2.1, fun h hh w hw => (hB.2.2.2.2.2.2.2.2.2.2 _ (by omega)).trans (show (-1 : Int32) = nI 0 - 1 by decide)⟩
  · exact ⟨hB.2.2.2.2.1, hB.2.2.2.2.2.1.trans (show (-1 : Int32) = nI 0 - 1 by decide), lt_0⟩
  · exact ⟨hB.2.2.2.2.2.2.1, lt_0⟩
  · exact ⟨hB.2.2.2.2.2.2.2.1, fun q => absurd rfl q⟩
  · exact ⟨(hB.2.1 1 rfl).trans e1, lt_0⟩
  · exact ⟨(hB.2.1 4 rfl).trans e4, (hB.2.1 5 rfl).trans (e5.trans (show (-1 : Int32) = nI 0 - 1 by decide))⟩
  · exact ⟨(hB.2.1 75 rfl).trans e75.1, (hB.2.1 76 rfl).trans e75.2⟩
  · intro i hi
    rw [hB.1 97 (by decide) (by decide)]
    exact e97 i hi
  · intro c hc
    rw [hB.1 c (by omega) (by omega)]
    unfold cpM
    iterate 31 rw [cu_ne (by omega)]
  · intro c hc
    rw [cu_ne (by omega)]
set_option maxHeartbeats 4000000 in
theorem t_plain135 (hQ : ∀ mi', WG mi mi' → (∀ k, k < 12 → mi' 95 k = mi 95 k) → MX tI mi' → Q none (mi', ml, R0 rd, 135)) : Cd (d + 1) k_Mod_plain [.ref 95] (mi, ml, R0 rd, 135) Q := by
  have l2 : ∀ m1 : Nat → Nat → Int32, WG mi m1 → (∀ m2, WG mi m2 → (∀ c, c ≠ 103 → m2 c = m1 c) → (∀ i, 48 ≤ i → i < 96 → m2 103 i = -1) → Q none (m2, ml, R0 rd, 135)) → ∀ j, j ≤ 96 → 48 ≤ j → ∀ m2 : Nat → Nat → Int32, WG mi m2 → (∀ c, c ≠ 103 → m2 c = m1 c) → (∀ i, 48 ≤ i → i < j → m2 103 i = -1) → GoM d k_Mod_plain 135 Q 115 [.ref 95, .int (nI j)] [] (m2, ml, R0 rd, 135) := by
    intro m1 w1 h1
    refine upto ?_ ?_
    · intro _ m2 w2 f2 g2
      exact g_Mod_plain (fun K Kl hK hC => ⟨fun _ => ⟨rfl, h1 m2 w2 f2 g2⟩, fun z => absurd (iNLE z) (by omega)⟩)
    · intro j hj ih h48 m2 w2 f2 g2
      rw [nI1 j] at ih
      refine g_Mod_plain (fun K Kl hK hC => ⟨fun z => absurd (iLE z) (by omega), fun _ => ⟨j, by omega, rfl, hK _ _ _ _ (ih (by omega) _ (w2.cu (wB_hi (by decide) (by decide) h48)) (fun c hc => by rw [cu_ne hc]; exact f2 c hc) (fun i h hi => ?_))⟩⟩)
      show upd (m2 103) j (-1) i = -1
      by_cases e : i = j
      · rw [e]; exact pk_us
      · rw [pk_un e]; exact g2 i h (by omega)
  have l1 : ∀ m0 : Nat → Nat → Int32, (∀ m1, WG mi m1 → (∀ c, c ≠ 99 → m1 c = m0 c) → (∀ i, i < 3 → m1 99 i = nI 0) → ∀ m2, WG mi m2 → (∀ c, c ≠ 103 → m2 c = m1 c) → (∀ i, 48 ≤ i → i < 96 → m2 103 i = -1) → Q none (m2, ml, R0 rd, 135)) → ∀ j, j ≤ 3 → ∀ m1 : Nat → Nat → Int32, WG mi m1 → (∀ c, c ≠ 99 → m1 c = m0 c) → (∀ i, i < j → m1 99 i = nI 0) → GoM d k_Mod_plain 135 Q 94 [.ref 95, .int (nI j)] [] (m1, ml, R0 rd, 135) := by
    intro m0 h0
    refine upto ?_ ?_
    · intro m1 w1 f1 g1
      exact g_Mod_plain (fun K Kl hK hC => ⟨fun _ => hK _ _ _ _ (l2 m1 w1 (h0 m1 w1 f1 g1) 48 (by decide) (by decide) m1 w1 (fun _ _ => rfl) (fun i h hi => by omega)), fun z => absurd (iNLE z) (by omega)⟩)
    · intro j hj ih m1 w1 f1 g1
      rw [nI1 j] at ih
      refine g_Mod_plain (fun K Kl hK hC => ⟨fun z => absurd (iLE z) (by omega), fun _ => ⟨j, by omega, rfl, Or.inl rfl, hK _ _ _ _ (ih _ (w1.cu (wB_hi (by decide) (by decide) (Nat.zero_le _))) (fun c hc => by rw [cu_ne hc]; exact f1 c hc) (fun i hi => ?_))⟩⟩)
      show upd (m1 99) j (nI 0) i = nI 0
      by_cases e : i = j
      · rw [e]; exact pk_us
      · rw [pk_un e]; exact g1 i (by omega)
  refine r_Mod_plain (by decide) (fun K Kl hK hC => ?_)
  refine ⟨Or.inl rfl, Or.inl rfl, ⟨3, by decide, rfl, ⟨4, by decide, rfl, ⟨5, by decide, rfl, hK _ _ _ _ (l1 _ (fun m1 w1 f1 g1 m2 w2 f2 g2 => hQ m2 w2 ?_ ?_) 0 (Nat.zero_le _) _ (((((((((((((((((WG.none.cu rfl).cu rfl).cu rfl).cu rfl).cu rfl).cu rfl).cu rfl).cu rfl).cu rfl).cu rfl).cu rfl).cu rfl).cu rfl).cu rfl).cu rfl).cu rfl).cu rfl) (fun _ _ => rfl) lt_0)⟩⟩⟩⟩
  · intro k hk
    rw [f2 95 (by decide), f1 95 (by decide)]
    show upd (upd (upd (upd (upd (upd (upd (upd (upd (upd (upd (upd (upd (upd (mi 95) 23 _) 24 _) 25 _) 26 _) 27 _) 28 _) 29 _) 30 _) 31 _) 32 _) 33 _) 62 _) 34 _) 35 _ k = _
    iterate 14 rw [pk_un (by omega)]
  · have k95 := (f2 95 (by decide)).trans (f1 95 (by decide))
    have k98 := (f2 98 (by decide)).trans (f1 98 (by decide))
    have e99 : ∀ i, i < 3 → m2 99 i = nI 0 := fun i hi => by rw [f2 99 (by decide)]; exact g1 i hi
    exact ⟨congrFun k95 23, congrFun k95 24, congrFun k95 25, congrFun k95 26, congrFun k95 27, congrFun k95 28, congrFun k95 29, congrFun k95 30, congrFun k95 31, congrFun k95 32, congrFun k95 33, congrFun k95 34, congrFun k95 35, congrFun k98 3, congrFun k98 4, congrFun k98 5, e99 0 (by decide), e99 1 (by decide), e99 2 (by decide), lt_0, lt_0, lt_0, fun f hf => (g2 (48 + f) (by omega) (by omega)).trans (show (-1 : Int32) = nI 0 - 1 by decide), lt_0, lt_0, lt_0, lt_0, lt_0, lt_0, lt_0, lt_0, lt_0, lt_0, fun i hi => absurd hi (Nat.not_lt_zero i), lt_0, fun _ => congrFun k95 62, lt_0, fun i hi => absurd hi (Nat.not_lt_zero i), fun i hi => absurd hi (Nat.not_lt_zero i)⟩
end
