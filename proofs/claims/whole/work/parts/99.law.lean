/-! THE LAW READ: signs, all of it (the class) -/
section
variable {d : Nat} {Q : Option Value → Mm → Prop} {T : Nat → Nat → Nat} {k v p : Nat → Nat} {m j c op : Nat} {q : Bool} {W : List Nat} {mi0 mi : Nat → Nat → Int32} {ml : Nat → Nat → Int64} {o l : Nat}
theorem c_settle (ho : o = 0 ∨ o = 31) {r : Nat} {Y : Int32} (hY : Y = nI r) (hr : 1 ≤ r) (hr2 : r ≤ 6) (hX : CX o T l mi ml) (hL : LZ j c op false W mi0 mi) (hI : LI T c op false W) (hQ : ∀ mi', RF o mi mi' → CX o (stlN r W T).2 l mi' ml → LZ j c op false (stlN r W T).1 mi0 mi' → Q none (mi', ml, R0 (some (6 + o)), 136)) : Cd (d + 2) k_Reader_settle [.ref 68, .int Y] (mi, ml, R0 (some (6 + o)), 136) Q := by
  subst hY
  exact cdM (by decide) (Nat.le_of_ble_eq_true rfl) (Nat.le_refl 136) rfl (s_settle ho hr hr2 W T mi hX hL hI hQ)
theorem LZ.len {c0 : Nat} (hI : LI T c0 op q W) : W.length ≤ 8 + opsN W := by
  have := len_W W
  obtain ⟨i1, i2, i3, i4, i5, i6, i7⟩ := hI
  omega
set_option maxHeartbeats 2000000 in
theorem s_readSignBehind (ho : o = 0 ∨ o = 31) (hR : RE k v p m mi) (hj : j ≤ m) (hX : CX o T l mi ml) (hL : LZ j c op false W mi0 mi) (hI : LI T c op false W) (hQ : VQ o l j mi0 mi ml Q (pSgn k v p T c op W j)) : Cd (d + 3) k_Reader_readSignBehind [.ref 68] (mi, ml, R0 (some (6 + o)), 136) Q := by
  unfold pSgn at hQ
  have ho2 := ho
  have h7 := hR.1
  have hb := hR.2.2.2.1 j
  have e6 := hL.2.2.1
  have hop : op ≤ 8 := hI.2.2.1
  have hrb : ∀ a, a ≤ 45 → rkN a ≤ 6 := by decide +kernel
  have hrk := hrb (k j) hb.1
  have c64 : c ≤ 64 := hI.2.2.2.2.1
  have rest : ∀ r, 1 ≤ r → r ≤ 6 → rkN (k j) ≠ 0 → rkN (k j) ≠ 3 → ∀ m1, RF o mi m1 → CX o (stlN r W T).2 l m1 ml → LZ j c op false (stlN r W T).1 mi0 m1 → VQ o l j mi0 mi ml Q (if 64 ≤ c then .error (2, p j) else .ok ((stlN r W T).2, c + 1, op, true, k j :: (stlN r W T).1)) → ∀ (P : Option Value → Mm → Prop), (64 ≤ c → ∀ m2, RF o mi m2 → m2 68 0 = nI 2 → m2 68 1 = nI (p j) → P (some (.int (nI 0))) (m2, ml, R0 (some (6 + o)), 136)) → (c < 64 → ∀ m2, Fr [68] (cu m1 68 (upd (m1 68) 7 (nI 1))) m2 → LZ j (c + 1) op true (stlN r W T).1 mi0 m2 → P (some (.int (nI 1))) (m2, ml, R0 (some (6 + o)), 136)) → Cd (d + 2) k_Reader_isKnot [.ref 68] (cu m1 68 (upd (m1 68) 7 (nI 1)), ml, R0 (some (6 + o)), 136) P := by
    intro r hr1 hr2 _ _ m1 f1 hX1 hL1 _ P a b
    have hL2 : LZ j c op true (stlN r W T).1 mi0 (cu m1 68 (upd (m1 68) 7 (nI 1))) := hL1.set hL1.1.1 hL1.2.1 hL1.2.2.1 rfl (by decide) (by decide)
    have g1 : Fr [68] m1 (cu m1 68 (upd (m1 68) 7 (nI 1))) := Fr.cu Fr.none rfl
    exact s_isKnot ((hR.rf f1).f68 g1) hj hL2 c64 (fun z m2 f2 a1 a2 => a z m2 ((f1.trans g1.rf).trans f2.rf) a1 a2) b
  refine r_Reader_readSignBehind (by decide) ?_
  rcases ho with rfl | rfl
  all_goals
    intro K Kl hK hC
    refine hC _ _ _ _ (s_kindHere hR hj hL.1.1 ⟨fun z6 => ?_, fun z6 => ⟨fun z => ?_, fun z => ?_⟩⟩)
    · simp only [if_neg (show ¬ (k j = 6 ∧ op ≠ 0) from fun y => iNE z6 y.1)] at hQ
      refine hC _ _ _ _ (s_rankOf rfl hb.1 ⟨fun r0 => ?_, fun r0 => ⟨fun r3 => ?_, fun r3 => ?_⟩⟩)
      · simp only [if_pos (show rkN (k j) = 0 ∨ rkN (k j) = 3 from Or.inl (iZ r0))] at hQ
        exact hC _ _ _ _ (s_refused hR hj hL.1.1 (fun m9 g9 a9 b9 => ⟨Or.inl rfl, rfl, hQ m9 g9.rf a9 b9⟩))
      · have n0 := iNZ r0
        have n3 := iNE r3
        simp only [if_neg (show ¬ (rkN (k j) = 0 ∨ rkN (k j) = 3) from fun y => y.elim n0 n3)] at hQ
        refine ⟨fun r4 => ⟨fun _ => ?_, fun y => absurd rfl y⟩, fun r4 => ⟨fun y => absurd y (by decide), fun _ => ?_⟩⟩
        · have n4 := iNE r4
          simp only [if_neg n4, if_neg (show ¬ (rkN (k j) = 4 ∧ rkN ((stlN 5 W T).1.headD 0) = 4) from fun y => n4 y.1)] at hQ
          have hI1 := hI.settle (r := rkN (k j)) (by omega)
          refine hC _ _ _ _ (c_settle ho2 rfl (by omega) (by omega) hX hL hI (fun m1 f1 hX1 hL1 => ⟨fun _ => ?_, fun y => absurd rfl y⟩))
          refine ⟨Or.inr rfl, hC _ _ _ _ (rest (rkN (k j)) (by omega) (by omega) n0 n3 m1 f1 hX1 hL1 hQ _ (fun hc m2 g2 a b => ⟨fun _ => ⟨Or.inl rfl, rfl, ?_⟩, fun y => absurd (by decide) y⟩) (fun hc m2 g2 hL2 => ⟨fun y => absurd y (by decide), fun _ => ?_⟩))⟩
          · simp only [if_pos hc] at hQ
            exact hQ m2 g2 a b
          · simp only [if_neg (show ¬ 64 ≤ c by omega)] at hQ
            have g0 : Fr [68] m1 (cu m1 68 (upd (m1 68) 7 (nI 1))) := Fr.cu Fr.none rfl
            exact hC _ _ _ _ (s_await hL2 (by have := hI1.1; have := len_W (stlN (rkN (k j)) W T).1; obtain ⟨i1, i2, i3, i4, i5, i6, i7⟩ := hI1; omega) (fun m3 f3 hL3 => ⟨fun y => absurd y (by decide), fun _ => ⟨Or.inr rfl, rfl, hQ m3 (((f1.trans g0.rf).trans g2.rf).trans f3.rf2) (((hX1.f68 ho2 g0).f68 ho2 g2).f2 ho2 f3) hL3⟩⟩))
        · have n4 := iEQ r4
          have e5 : nI (rkN (k j)) + nI 1 = nI 5 := by rw [n4]; decide
          simp only [if_pos n4] at hQ
          have hI1 := hI.settle (r := 5) (by decide)
          refine hC _ _ _ _ (c_settle ho2 e5 (by decide) (by decide) hX hL hI (fun m1 f1 hX1 hL1 => ⟨fun y => absurd y (by decide), fun _ => ?_⟩))
          have e9 := hL1.2.2.2.2.1
          have hws := hL1.2.2.2.2.2
          have hlen := len_W (stlN 5 W T).1
          obtain ⟨i1, i2, i3, i4, i5, i6, i7⟩ := hI1
          have hI1 : LI (stlN 5 W T).2 c op false (stlN 5 W T).1 := ⟨i1, i2, i3, i4, i5, i6, i7⟩
          refine ⟨fun z1 => ?_, fun z1 => ?_⟩
          · have hz : (stlN 5 W T).1 = [] := by
              cases hW : (stlN 5 W T).1 with
              | nil => rfl
              | cons a W' =>
                have z1 : m1 68 9 ≤ 0 := z1
                rw [e9, hW] at z1
                rw [hW] at hlen
                have hl2 : (a :: W').length = W'.length + 1 := rfl
                rw [hW] at i2 i4
                exact absurd z1 (nI_nle (by omega) (by omega))
            simp only [if_neg (show ¬ (rkN (k j) = 4 ∧ rkN ((stlN 5 W T).1.headD 0) = 4) from fun y => absurd y.2 (by rw [hz]; decide))] at hQ
            refine ⟨Or.inr rfl, hC _ _ _ _ (rest 5 (by omega) (by omega) (by omega) (by omega) m1 f1 hX1 hL1 hQ _ (fun hc m2 g2 a b => ⟨fun _ => ⟨Or.inl rfl, rfl, ?_⟩, fun y => absurd (by decide) y⟩) (fun hc m2 g2 hL2 => ⟨fun y => absurd y (by decide), fun _ => ?_⟩))⟩
            · simp only [if_pos hc] at hQ
              exact hQ m2 g2 a b
            · simp only [if_neg (show ¬ 64 ≤ c by omega)] at hQ
              have g0 : Fr [68] m1 (cu m1 68 (upd (m1 68) 7 (nI 1))) := Fr.cu Fr.none rfl
              exact hC _ _ _ _ (s_await hL2 (by have := hI1.1; have := len_W (stlN 5 W T).1; obtain ⟨i1, i2, i3, i4, i5, i6, i7⟩ := hI1; omega) (fun m3 f3 hL3 => ⟨fun y => absurd y (by decide), fun _ => ⟨Or.inr rfl, rfl, hQ m3 (((f1.trans g0.rf).trans g2.rf).trans f3.rf2) (((hX1.f68 ho2 g0).f68 ho2 g2).f2 ho2 f3) hL3⟩⟩))
          · obtain ⟨a, W', hW⟩ : ∃ a W', (stlN 5 W T).1 = a :: W' := by
              cases hW : (stlN 5 W T).1 with
              | nil =>
                have z1 : ¬ m1 68 9 ≤ 0 := z1
                rw [e9, hW] at z1
                exact absurd (by decide) z1
              | cons a W' => exact ⟨a, W', rfl⟩
            have ea : m1 69 W'.length = nI a := by
              rw [hW] at hws
              exact hws.1
            have e91 : m1 68 9 - nI 1 = nI W'.length := by rw [e9, hW]; exact nI_pred _
            have hl2 : (stlN 5 W T).1.length = W'.length + 1 := by rw [hW]; rfl
            have ha : a ≤ 39 := (i1 a (by rw [hW]; exact List.mem_cons_self)).elim (fun e => by omega) (fun e => e.2)
            have hra := hrb a (by omega)
            have ehd : (stlN 5 W T).1.headD 0 = a := by rw [hW]; rfl
            refine ⟨W'.length, by omega, e91, hC _ _ _ _ (s_rankOf ea (by omega) ⟨fun z2 => ?_, fun z2 => ?_⟩)⟩
            · have z2 := iNE z2
              simp only [ehd, if_neg (show ¬ (rkN (k j) = 4 ∧ rkN a = 4) from fun y => z2 (by omega))] at hQ
              refine ⟨Or.inr rfl, hC _ _ _ _ (rest 5 (by omega) (by omega) (by omega) (by omega) m1 f1 hX1 hL1 hQ _ (fun hc m2 g2 a b => ⟨fun _ => ⟨Or.inl rfl, rfl, ?_⟩, fun y => absurd (by decide) y⟩) (fun hc m2 g2 hL2 => ⟨fun y => absurd y (by decide), fun _ => ?_⟩))⟩
              · simp only [if_pos hc] at hQ
                exact hQ m2 g2 a b
              · simp only [if_neg (show ¬ 64 ≤ c by omega)] at hQ
                have g0 : Fr [68] m1 (cu m1 68 (upd (m1 68) 7 (nI 1))) := Fr.cu Fr.none rfl
                exact hC _ _ _ _ (s_await hL2 (by have := hI1.1; have := len_W (stlN 5 W T).1; obtain ⟨i1, i2, i3, i4, i5, i6, i7⟩ := hI1; omega) (fun m3 f3 hL3 => ⟨fun y => absurd y (by decide), fun _ => ⟨Or.inr rfl, rfl, hQ m3 (((f1.trans g0.rf).trans g2.rf).trans f3.rf2) (((hX1.f68 ho2 g0).f68 ho2 g2).f2 ho2 f3) hL3⟩⟩))
            · have z2 := iEQ z2
              simp only [ehd, if_pos (show rkN (k j) = 4 ∧ rkN a = 4 from ⟨n4, by omega⟩)] at hQ
              exact hC _ _ _ _ (s_refused (hR.rf f1) hj hL1.1.1 (fun m9 g9 a9 b9 => ⟨Or.inl rfl, rfl, hQ m9 (f1.trans g9.rf) a9 b9⟩))
      · have e3 := iEQ r3
        simp only [if_pos (show rkN (k j) = 0 ∨ rkN (k j) = 3 from Or.inr e3)] at hQ
        exact hC _ _ _ _ (s_refused hR hj hL.1.1 (fun m9 g9 a9 b9 => ⟨Or.inl rfl, rfl, hQ m9 g9.rf a9 b9⟩))
    · have hz : op = 0 := by
        have z : mi 68 6 ≤ 0 := z
        rw [e6] at z
        have z : nI op ≤ nI 0 := z
        have := iLE z
        omega
      simp only [if_neg (show ¬ (k j = 6 ∧ op ≠ 0) from fun y => y.2 hz)] at hQ
      refine hC _ _ _ _ (s_rankOf rfl hb.1 ⟨fun r0 => ?_, fun r0 => ⟨fun r3 => ?_, fun r3 => ?_⟩⟩)
      · simp only [if_pos (show rkN (k j) = 0 ∨ rkN (k j) = 3 from Or.inl (iZ r0))] at hQ
        exact hC _ _ _ _ (s_refused hR hj hL.1.1 (fun m9 g9 a9 b9 => ⟨Or.inl rfl, rfl, hQ m9 g9.rf a9 b9⟩))
      · have n0 := iNZ r0
        have n3 := iNE r3
        simp only [if_neg (show ¬ (rkN (k j) = 0 ∨ rkN (k j) = 3) from fun y => y.elim n0 n3)] at hQ
        refine ⟨fun r4 => ⟨fun _ => ?_, fun y => absurd rfl y⟩, fun r4 => ⟨fun y => absurd y (by decide), fun _ => ?_⟩⟩
        · have n4 := iNE r4
          simp only [if_neg n4, if_neg (show ¬ (rkN (k j) = 4 ∧ rkN ((stlN 5 W T).1.headD 0) = 4) from fun y => n4 y.1)] at hQ
          have hI1 := hI.settle (r := rkN (k j)) (by omega)
          refine hC _ _ _ _ (c_settle ho2 rfl (by omega) (by omega) hX hL hI (fun m1 f1 hX1 hL1 => ⟨fun _ => ?_, fun y => absurd rfl y⟩))
          refine ⟨Or.inr rfl, hC _ _ _ _ (rest (rkN (k j)) (by omega) (by omega) n0 n3 m1 f1 hX1 hL1 hQ _ (fun hc m2 g2 a b => ⟨fun _ => ⟨Or.inl rfl, rfl, ?_⟩, fun y => absurd (by decide) y⟩) (fun hc m2 g2 hL2 => ⟨fun y => absurd y (by decide), fun _ => ?_⟩))⟩
          · simp only [if_pos hc] at hQ
            exact hQ m2 g2 a b
          · simp only [if_neg (show ¬ 64 ≤ c by omega)] at hQ
            have g0 : Fr [68] m1 (cu m1 68 (upd (m1 68) 7 (nI 1))) := Fr.cu Fr.none rfl
            exact hC _ _ _ _ (s_await hL2 (by have := hI1.1; have := len_W (stlN (rkN (k j)) W T).1; obtain ⟨i1, i2, i3, i4, i5, i6, i7⟩ := hI1; omega) (fun m3 f3 hL3 => ⟨fun y => absurd y (by decide), fun _ => ⟨Or.inr rfl, rfl, hQ m3 (((f1.trans g0.rf).trans g2.rf).trans f3.rf2) (((hX1.f68 ho2 g0).f68 ho2 g2).f2 ho2 f3) hL3⟩⟩))
        · have n4 := iEQ r4
          have e5 : nI (rkN (k j)) + nI 1 = nI 5 := by rw [n4]; decide
          simp only [if_pos n4] at hQ
          have hI1 := hI.settle (r := 5) (by decide)
          refine hC _ _ _ _ (c_settle ho2 e5 (by decide) (by decide) hX hL hI (fun m1 f1 hX1 hL1 => ⟨fun y => absurd y (by decide), fun _ => ?_⟩))
          have e9 := hL1.2.2.2.2.1
          have hws := hL1.2.2.2.2.2
          have hlen := len_W (stlN 5 W T).1
          obtain ⟨i1, i2, i3, i4, i5, i6, i7⟩ := hI1
          have hI1 : LI (stlN 5 W T).2 c op false (stlN 5 W T).1 := ⟨i1, i2, i3, i4, i5, i6, i7⟩
          refine ⟨fun z1 => ?_, fun z1 => ?_⟩
          · have hz : (stlN 5 W T).1 = [] := by
              cases hW : (stlN 5 W T).1 with
              | nil => rfl
              | cons a W' =>
                have z1 : m1 68 9 ≤ 0 := z1
                rw [e9, hW] at z1
                rw [hW] at hlen
                have hl2 : (a :: W').length = W'.length + 1 := rfl
                rw [hW] at i2 i4
                exact absurd z1 (nI_nle (by omega) (by omega))
            simp only [if_neg (show ¬ (rkN (k j) = 4 ∧ rkN ((stlN 5 W T).1.headD 0) = 4) from fun y => absurd y.2 (by rw [hz]; decide))] at hQ
            refine ⟨Or.inr rfl, hC _ _ _ _ (rest 5 (by omega) (by omega) (by omega) (by omega) m1 f1 hX1 hL1 hQ _ (fun hc m2 g2 a b => ⟨fun _ => ⟨Or.inl rfl, rfl, ?_⟩, fun y => absurd (by decide) y⟩) (fun hc m2 g2 hL2 => ⟨fun y => absurd y (by decide), fun _ => ?_⟩))⟩
            · simp only [if_pos hc] at hQ
              exact hQ m2 g2 a b
            · simp only [if_neg (show ¬ 64 ≤ c by omega)] at hQ
              have g0 : Fr [68] m1 (cu m1 68 (upd (m1 68) 7 (nI 1))) := Fr.cu Fr.none rfl
              exact hC _ _ _ _ (s_await hL2 (by have := hI1.1; have := len_W (stlN 5 W T).1; obtain ⟨i1, i2, i3, i4, i5, i6, i7⟩ := hI1; omega) (fun m3 f3 hL3 => ⟨fun y => absurd y (by decide), fun _ => ⟨Or.inr rfl, rfl, hQ m3 (((f1.trans g0.rf).trans g2.rf).trans f3.rf2) (((hX1.f68 ho2 g0).f68 ho2 g2).f2 ho2 f3) hL3⟩⟩))
          · obtain ⟨a, W', hW⟩ : ∃ a W', (stlN 5 W T).1 = a :: W' := by
              cases hW : (stlN 5 W T).1 with
              | nil =>
                have z1 : ¬ m1 68 9 ≤ 0 := z1
                rw [e9, hW] at z1
                exact absurd (by decide) z1
              | cons a W' => exact ⟨a, W', rfl⟩
            have ea : m1 69 W'.length = nI a := by
              rw [hW] at hws
              exact hws.1
            have e91 : m1 68 9 - nI 1 = nI W'.length := by rw [e9, hW]; exact nI_pred _
            have hl2 : (stlN 5 W T).1.length = W'.length + 1 := by rw [hW]; rfl
            have ha : a ≤ 39 := (i1 a (by rw [hW]; exact List.mem_cons_self)).elim (fun e => by omega) (fun e => e.2)
            have hra := hrb a (by omega)
            have ehd : (stlN 5 W T).1.headD 0 = a := by rw [hW]; rfl
            refine ⟨W'.length, by omega, e91, hC _ _ _ _ (s_rankOf ea (by omega) ⟨fun z2 => ?_, fun z2 => ?_⟩)⟩
            · have z2 := iNE z2
              simp only [ehd, if_neg (show ¬ (rkN (k j) = 4 ∧ rkN a = 4) from fun y => z2 (by omega))] at hQ
              refine ⟨Or.inr rfl, hC _ _ _ _ (rest 5 (by omega) (by omega) (by omega) (by omega) m1 f1 hX1 hL1 hQ _ (fun hc m2 g2 a b => ⟨fun _ => ⟨Or.inl rfl, rfl, ?_⟩, fun y => absurd (by decide) y⟩) (fun hc m2 g2 hL2 => ⟨fun y => absurd y (by decide), fun _ => ?_⟩))⟩
              · simp only [if_pos hc] at hQ
                exact hQ m2 g2 a b
              · simp only [if_neg (show ¬ 64 ≤ c by omega)] at hQ
                have g0 : Fr [68] m1 (cu m1 68 (upd (m1 68) 7 (nI 1))) := Fr.cu Fr.none rfl
                exact hC _ _ _ _ (s_await hL2 (by have := hI1.1; have := len_W (stlN 5 W T).1; obtain ⟨i1, i2, i3, i4, i5, i6, i7⟩ := hI1; omega) (fun m3 f3 hL3 => ⟨fun y => absurd y (by decide), fun _ => ⟨Or.inr rfl, rfl, hQ m3 (((f1.trans g0.rf).trans g2.rf).trans f3.rf2) (((hX1.f68 ho2 g0).f68 ho2 g2).f2 ho2 f3) hL3⟩⟩))
            · have z2 := iEQ z2
              simp only [ehd, if_pos (show rkN (k j) = 4 ∧ rkN a = 4 from ⟨n4, by omega⟩)] at hQ
              exact hC _ _ _ _ (s_refused (hR.rf f1) hj hL1.1.1 (fun m9 g9 a9 b9 => ⟨Or.inl rfl, rfl, hQ m9 (f1.trans g9.rf) a9 b9⟩))
      · have e3 := iEQ r3
        simp only [if_pos (show rkN (k j) = 0 ∨ rkN (k j) = 3 from Or.inr e3)] at hQ
        exact hC _ _ _ _ (s_refused hR hj hL.1.1 (fun m9 g9 a9 b9 => ⟨Or.inl rfl, rfl, hQ m9 g9.rf a9 b9⟩))
    · have hz : op ≠ 0 := fun y => by
        have z : ¬ mi 68 6 ≤ 0 := z
        rw [e6, y] at z
        exact absurd (by decide) z
      simp only [if_pos (show k j = 6 ∧ op ≠ 0 from ⟨iEQ z6, hz⟩)] at hQ
      obtain ⟨W1, hW1⟩ := stl_br hI hz
      refine hC _ _ _ _ (c_settle ho2 rfl (by decide) (by decide) hX hL hI (fun m1 f1 hX1 hL1 => ⟨Or.inr rfl, rfl, ?_⟩))
      rw [hW1] at hL1
      have g9 : m1 68 9 = nI (W1.length + 1) := hL1.2.2.2.2.1
      refine hQ _ ((f1.cu (by omega)).cu (by omega)) ((hX1.f68 ho2 (Fr.cu Fr.none rfl)).f68 ho2 (Fr.cu Fr.none rfl)) ?_
      rw [hW1]
      refine ⟨hL1.1, hL1.2.1, ?_, hL1.2.2.2.1, ?_, hL1.2.2.2.2.2.2⟩
      · show m1 68 6 - nI 1 = nI (op - 1)
        rw [hL1.2.2.1, pk_sub (by omega)]
      · show m1 68 9 - nI 1 = nI W1.length
        rw [g9]
        exact nI_pred _
end
