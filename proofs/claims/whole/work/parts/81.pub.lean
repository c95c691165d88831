/-! WHAT THE CLASS ANSWERS: cheapest, crossed, life, pays, owed -/
section
variable {d : Nat} {Q : Option Value → Mm → Prop} {A : St} {mi : Nat → Nat → Int32} {ml : Nat → Nat → Int64} {rd : Option Nat} {x y z u : Int32}
theorem swP_c {J : Nat → Prop} {x a : Int32} {d t : Nat} {l : List (Int32 × Nat)} (h1 : x = a → J t) (h2 : ¬ x = a → swP J x d l) : swP J x d ((a, t) :: l) := ⟨h1, h2⟩
theorem swP_n {J : Nat → Prop} {x : Int32} {d : Nat} (h : J d) : swP J x d [] := h
theorem two0 : ¬ nI 2 = 0 := by decide
theorem p_cheapest (hA : CI A mi) (hw : wfA A) (hQ : ∀ mi' ml', Fr SC mi mi' → Fr [36] ml ml' → Q (some (.int (aCheapest A x y))) (mi', ml', R0 rd, 136)) : Cd (d + 5) k_Hay_cheapest [.ref 0, .int x, .int y] (mi, ml, R0 rd, 136) Q := by
  unfold aCheapest at hQ
  have h6 := hw.T.wd6
  have hfl := hw.T.fl
  refine r_Hay_cheapest (by decide) (fun K Kl hK hC => ?_)
  refine hC _ _ _ _ (s_hasWord hA.T hw.T (fun w hwd e => ⟨fun z => absurd z (by decide), fun _ => ?_⟩) (fun hno => ⟨fun _ => ⟨rfl, ?_⟩, fun z => absurd (by decide) z⟩))
  · subst e
    rw [ixo_some hwd] at hQ
    refine ⟨fun h => ⟨rfl, ?_⟩, fun h => ⟨fun h2 => ?_, fun h2 => ⟨rfl, ?_⟩⟩⟩
    · rw [ixo_neg h] at hQ
      exact hQ mi ml Fr.none Fr.none
    · obtain ⟨k, hk, rfl, he⟩ := ixo_rg (n := 2) (by omega) h (fun z => absurd h2 (Int32.not_le.mpr z))
      rw [he] at hQ
      refine hC _ _ _ _ (s_cheapestPlace (d := d) (Or.inl rfl) (Or.inl rfl) hA.T hw.T (hA.S.sh hw.S) (hA.T.feeA hw.T) (feA_le hw.T) hwd ?_)
      have hQ := hQ (cu mi 84 (upd (mi 84) 0 (chC (chN (fun p => costN (A 0) (A 1 1) (feA (A 0)) w (p / 2) (p % 2)) (2 * (A 0 0 0 * A 0 0 1)))))) ml (Fr.cu Fr.none rfl) Fr.none
      cases hc : chN (fun p => costN (A 0) (A 1 1) (feA (A 0)) w (p / 2) (p % 2)) (2 * (A 0 0 0 * A 0 0 1)) with
      | none =>
        simp only [show chA A (feA (A 0)) w = none from hc, hc] at hQ
        exact ⟨fun z => absurd z (by decide), fun _ => ⟨rfl, hQ⟩⟩
      | some pc =>
        obtain ⟨p, c⟩ := pc
        have hp := chN_lt hc
        simp only [show chA A (feA (A 0)) w = some (p, c) from hc, hc] at hQ
        refine ⟨fun _ => ⟨fun h3 => ⟨fun h4 => ⟨by decide, ?_⟩, fun h4 => ⟨by decide, ?_⟩⟩, fun h3 => ⟨rfl, ?_⟩⟩, fun z => absurd (nI_pos' (by omega)) z⟩
        · rw [if_neg (iNZ h3), if_neg (iNE h4), ← pk_rem (by omega) (by omega) (by omega)] at hQ
          exact ⟨rfl, hQ⟩
        · rw [if_neg (iNZ h3), if_pos (iEQ h4), ← pk_div (by omega) (by omega) (by omega)] at hQ
          exact ⟨rfl, hQ⟩
        · rw [if_pos (iZ h3)] at hQ
          exact hQ
    · rw [ixo_big (n := 2) (by omega) (Int32.not_le.mp h2)] at hQ
      exact hQ mi ml Fr.none Fr.none
  · rw [ixo_none hno] at hQ
    exact hQ mi ml Fr.none Fr.none
theorem pairN_bd (hw : wfT (A 0)) {v w : Nat} {b : Bool} {c p q : Nat} (h : pairN (A 0) (A 1 1) v w b = some (c, p, q)) : c ≤ 11000 ∧ p < 96 ∧ q < 96 := by
  have hfl := hw.fl
  have := pbN_bd (sk := fun p => b && !(p % 2 == 0)) (ok := fun p q => !b || crN (A 0) v p w q) (c1 := fun p => costN (A 0) (A 1 1) (feA (A 0)) v (p / 2) (p % 2)) (more := fun p q => costN (A 0) (putN (A 0) (A 1 1) v (p / 2) (p % 2)) (feA (A 0)) w (q / 2) (q % 2)) (n := 2 * (A 0 0 0 * A 0 0 1)) (fun j c h => costN_le (feA_le hw) h) (fun p j m h => costN_le (feA_le hw) h) (by omega) (2 * (A 0 0 0 * A 0 0 1)) (Nat.le_refl _)
  have e : pbN (fun p => costN (A 0) (A 1 1) (feA (A 0)) v (p / 2) (p % 2)) (fun p q => costN (A 0) (putN (A 0) (A 1 1) v (p / 2) (p % 2)) (feA (A 0)) w (q / 2) (q % 2)) (fun p => b && !(p % 2 == 0)) (fun p q => !b || crN (A 0) v p w q) (2 * (A 0 0 0 * A 0 0 1)) (2 * (A 0 0 0 * A 0 0 1)) = some (c, p, q) := h
  rw [e] at this
  exact this
theorem p_crossed (hA : CI A mi) (hw : wfA A) (hQ : ∀ mi' ml', Fr SC mi mi' → Fr [36] ml ml' → Q (some (.int (aCrossed A x y z))) (mi', ml', R0 rd, 136)) : Cd (d + 6) k_Hay_crossed [.ref 0, .int x, .int y, .int z] (mi, ml, R0 rd, 136) Q := by
  unfold aCrossed at hQ
  refine r_Hay_crossed (by decide) (fun K Kl hK hC => ?_)
  refine hC _ _ _ _ (p_areUnlike hA hw (fun v w hv hw1 hne e1 e2 => ⟨fun z => absurd z (by decide), fun _ => ?_⟩) (fun hno => ⟨fun _ => ⟨rfl, ?_⟩, fun z => absurd (by decide) z⟩))
  · subst e1; subst e2
    rw [un2_some hw.T hv hw1 hne] at hQ
    refine ⟨fun h => ⟨rfl, ?_⟩, fun h => ⟨fun h2 => ?_, fun h2 => ⟨rfl, ?_⟩⟩⟩
    · rw [ixo_neg h] at hQ
      exact hQ mi ml Fr.none Fr.none
    · obtain ⟨k, hk, rfl, he⟩ := ixo_rg (n := 2) (by omega) h (fun z => absurd h2 (Int32.not_le.mpr z))
      rw [he] at hQ
      refine hC _ _ _ _ (s_placeBoth (d := d) (x := true) hA.T hw.T hA.S hw.S hv hw1 (fun m2 f2 hP => ?_))
      have hQ := hQ m2 ml (f2.mono rfl) Fr.none
      cases hc : pairN (A 0) (A 1 1) v w true with
      | none =>
        rw [hc] at hP
        have hP : m2 84 1 = -2 := hP
        simp only [hc] at hQ
        refine ⟨fun h3 => ?_, fun _ => ⟨rfl, hQ⟩⟩
        have h3 : 0 ≤ m2 84 1 := h3
        rw [hP] at h3
        exact absurd h3 (by decide)
      | some cpq =>
        obtain ⟨c, p, q⟩ := cpq
        have hb := pairN_bd hw.T hc
        rw [hc] at hP
        obtain ⟨g1, g2, g3⟩ : m2 84 1 = nI c ∧ m2 84 2 = nI p ∧ m2 84 3 = nI q := hP
        simp only [hc] at hQ
        refine ⟨fun _ => ⟨fun h3 => ⟨fun h4 => ⟨by decide, ?_⟩, fun h4 => ⟨by decide, ?_⟩⟩, fun h3 => ⟨rfl, ?_⟩⟩, fun z => ?_⟩
        · rw [if_neg (iNZ h3), if_neg (iNE h4), ← pk_div (by omega) (by omega) (by omega), ← g3] at hQ
          exact ⟨rfl, hQ⟩
        · rw [if_neg (iNZ h3), if_pos (iEQ h4), ← pk_div (by omega) (by omega) (by omega), ← g2] at hQ
          exact ⟨rfl, hQ⟩
        · rw [if_pos (iZ h3), ← g1] at hQ
          exact hQ
        · have z : ¬ 0 ≤ m2 84 1 := z
          rw [g1] at z
          exact absurd (nI_pos' (by omega)) z
    · rw [ixo_big (n := 2) (by omega) (Int32.not_le.mp h2)] at hQ
      exact hQ mi ml Fr.none Fr.none
  · rw [un2_none hno] at hQ
    exact hQ mi ml Fr.none Fr.none
theorem p_life (hA : CI A mi) (hw : wfA A) (hQ : ∀ mi' ml', Fr SC mi mi' → Fr [36] ml ml' → Q (some (.int (aLife A x y z u))) (mi', ml', R0 rd, 136)) : Cd (d + 7) k_Hay_life [.ref 0, .int x, .int y, .int z, .int u] (mi, ml, R0 rd, 136) Q := by
  unfold aLife at hQ
  have h3 := hw.T.hl3
  refine r_Hay_life (by decide) (fun K Kl hK hC => ?_)
  refine hC _ _ _ _ (p_isPlaced hA hw (fun w f v h1 h2 h3 e1 e2 e3 => ⟨fun z => absurd z (by decide), fun _ => ?_⟩) (fun hno => ⟨fun _ => ⟨rfl, ?_⟩, fun z => absurd (by decide) z⟩))
  · subst e1; subst e2; subst e3
    rw [pl3_some hw.T h1 h2 h3] at hQ
    refine hC _ _ _ _ (s_hasHill hA.T hw.T (fun h hh e => ⟨fun _ => ?_, fun z => absurd z (by decide)⟩) (fun hno => ⟨fun z => absurd (by decide) z, fun _ => ⟨rfl, ?_⟩⟩))
    · subst e
      rw [ixo_some hh] at hQ
      refine hC _ _ _ _ (s_costOf (d := d + 3) (Or.inl rfl) (Or.inl rfl) hA.T hw.T (hA.S.sh hw.S) (hA.T.feeA hw.T) h1 h2 h3 ?_)
      cases hc : costN (A 0) (A 1 1) (feA (A 0)) w f v with
      | none =>
        simp only [hc] at hQ
        exact ⟨fun h => absurd h (by decide), fun _ => ⟨rfl, hQ mi ml Fr.none Fr.none⟩⟩
      | some c =>
        simp only [hc] at hQ
        have hcl := costN_le (feA_le hw.T) hc
        refine ⟨fun _ => ?_, fun h => absurd (nI_pos' (by omega)) h⟩
        exact hC _ _ _ _ (s_lifeOf (d := d) hA.T hw.T hw.L hA.S hw.S hw.d h1 h2 h3 hh (fun m2 l2 f1 f2 => ⟨rfl, hQ m2 l2 (f1.mono rfl) f2⟩))
    · rw [ixo_none hno] at hQ
      exact hQ mi ml Fr.none Fr.none
  · rw [pl3_none hno] at hQ
    exact hQ mi ml Fr.none Fr.none
theorem p_pays (hA : CI A mi) (hw : wfA A) (hQ : ∀ mi' ml', Fr SC mi mi' → Fr [36] ml ml' → Q (some (.int (aPays A x y))) (mi', ml', R0 rd, 136)) : Cd (d + 8) k_Hay_pays [.ref 0, .int x, .int y] (mi, ml, R0 rd, 136) Q := by
  unfold aPays at hQ
  have h3 := hw.T.hl3
  refine r_Hay_pays (by decide) (fun K Kl hK hC => ?_)
  refine hC _ _ _ _ (s_hasHill hA.T hw.T (fun hi hh e => ⟨fun z => absurd z (by decide), fun _ => ?_⟩) (fun hno => ⟨fun _ => ⟨rfl, ?_⟩, fun z => absurd (by decide) z⟩))
  · subst e
    rw [ixo_some hh] at hQ
    refine ⟨fun h => ⟨rfl, ?_⟩, fun h => ⟨fun h2 => ?_, fun h2 => ⟨rfl, ?_⟩⟩⟩
    · rw [ixo_neg h] at hQ
      exact hQ mi ml Fr.none Fr.none
    · obtain ⟨k, hk, rfl, he⟩ := ixo_rg (n := 3) (by omega) h (fun z => absurd h2 (Int32.not_le.mpr z))
      rw [he] at hQ
      refine hC _ _ _ _ (s_payBest (d := d) hA.T hw.T hw.L hA.S hw.S hw.d hh (fun m2 l2 f1 f2 hP => ?_))
      have hQ := hQ m2 l2 (f1.mono rfl) f2
      have hbd := pyA_bd (S := A 1) hw.T (h := hi) (A 0 0 4) hw.T.wd6
      cases hc : pyA (A 0) (A 1) hi (A 0 0 4) with
      | none =>
        rw [hc] at hP
        obtain ⟨g1, g2⟩ : m2 84 4 = -1 ∧ m2 84 5 = -2147483648 := hP
        simp only [hc] at hQ
        refine ⟨fun h3 => ?_, fun _ => ⟨rfl, hQ⟩⟩
        have h3 : 0 ≤ m2 84 4 := h3
        rw [g1] at h3
        exact absurd h3 (by decide)
      | some mwp =>
        obtain ⟨m, w, p⟩ := mwp
        have hb := hbd m w p hc
        rw [hc] at hP
        obtain ⟨g1, g2, g3⟩ : m2 84 5 = m ∧ m2 84 4 = nI w ∧ m2 84 2 = nI p := hP
        simp only [hc] at hQ
        refine ⟨fun _ => ⟨fun h3 => ⟨rfl, ?_⟩, fun h3 => swP_c (fun h4 => ⟨rfl, ?_⟩) (fun h4 => swP_c (fun h5 => ⟨two0, rfl, ?_⟩) (fun h5 => swP_n ⟨two0, rfl, ?_⟩))⟩, fun z => ?_⟩
        · rw [if_pos (iEQ h3), ← g1] at hQ
          exact hQ
        · rw [if_neg (iNE h3), if_pos (iEQ h4), ← g2] at hQ
          exact hQ
        · rw [if_neg (iNE h3), if_neg (iNE h4), if_pos (iEQ h5), ← pk_div (by omega) (by omega) (by omega), ← g3] at hQ
          exact hQ
        · rw [if_neg (iNE h3), if_neg (iNE h4), if_neg (iNE h5), ← pk_rem (by omega) (by omega) (by omega), ← g3] at hQ
          exact hQ
        · have z : ¬ 0 ≤ m2 84 4 := z
          rw [g2] at z
          exact absurd (nI_pos' (by omega)) z
    · rw [ixo_big (n := 3) (by omega) (Int32.not_le.mp h2)] at hQ
      exact hQ mi ml Fr.none Fr.none
  · rw [ixo_none hno] at hQ
    exact hQ mi ml Fr.none Fr.none
theorem p_owed (hA : CI A mi) (hw : wfA A) (hQ : ∀ mi' ml', Fr SC mi mi' → Fr [36] ml ml' → Q (some (.int (aOwed A x y))) (mi', ml', R0 rd, 136)) : Cd (d + 6) k_Hay_owed [.ref 0, .int x, .int y] (mi, ml, R0 rd, 136) Q := by
  unfold aOwed at hQ
  have h6 := hw.T.wd6
  have h5 := hw.T.own5
  refine r_Hay_owed (by decide) (fun K Kl hK hC => ?_)
  refine hC _ _ _ _ (s_hasWord hA.T hw.T (fun w hwd e => ⟨fun z => absurd z (by decide), fun _ => ?_⟩) (fun hno => ⟨fun _ => ⟨rfl, ?_⟩, fun z => absurd (by decide) z⟩))
  · subst e
    rw [ixo_some hwd] at hQ
    refine hC _ _ _ _ (s_Told_hasOwner hA.T hw.T (fun o ho e => ⟨fun _ => ?_, fun z => absurd z (by decide)⟩) (fun hno => ⟨fun z => absurd (by decide) z, fun _ => ⟨rfl, ?_⟩⟩))
    · subst e
      rw [ixo_some ho] at hQ
      refine hC _ _ _ _ (s_leastWithFee (d := d) hA.T hw.T (hA.S.sh hw.S) hwd ho (e := 1) (by omega) (by decide) (fun m2 f2 => ?_))
      refine hC _ _ _ _ (s_leastWithFee (d := d) (hA.T.fr f2 rfl) hw.T ((hA.S.fr f2 rfl rfl rfl).sh hw.S) hwd ho (e := 0) (by omega) (by decide) (fun m3 f3 => ?_))
      have hQ := hQ m3 ml ((f2.trans f3).mono rfl) Fr.none
      cases hc : chN (fun p => costN (A 0) (A 1 1) (feO (A 0) o 1) w (p / 2) (p % 2)) (2 * (A 0 0 0 * A 0 0 1)) with
      | none =>
        simp only [show chA A (feO (A 0) o 1) w = none from hc] at hQ
        exact ⟨fun z => absurd z (by decide), fun _ => ⟨rfl, hQ⟩⟩
      | some pc =>
        obtain ⟨p, c⟩ := pc
        have hcl := costN_le (feO_le hw.T (by omega)) (chN_lt hc).2
        refine ⟨fun _ => ?_, fun z => absurd (nI_pos' (by omega)) z⟩
        cases he : chN (fun p => costN (A 0) (A 1 1) (feO (A 0) o 0) w (p / 2) (p % 2)) (2 * (A 0 0 0 * A 0 0 1)) with
        | none =>
          simp only [show chA A (feO (A 0) o 1) w = some (p, c) from hc, show chA A (feO (A 0) o 0) w = none from he] at hQ
          exact ⟨fun z => absurd z (by decide), fun _ => ⟨rfl, hQ⟩⟩
        | some qe =>
          obtain ⟨q, e⟩ := qe
          have hel := costN_le (feO_le hw.T (by omega)) (chN_lt he).2
          simp only [show chA A (feO (A 0) o 1) w = some (p, c) from hc, show chA A (feO (A 0) o 0) w = some (q, e) from he] at hQ
          exact ⟨fun _ => ⟨rfl, hQ⟩, fun z => absurd (nI_pos' (by omega)) z⟩
    · rw [ixo_none hno] at hQ
      exact hQ mi ml Fr.none Fr.none
  · rw [ixo_none hno] at hQ
    exact hQ mi ml Fr.none Fr.none
end
