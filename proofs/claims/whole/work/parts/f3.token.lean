/-! THE REFERENCE'S TOKENS: a token -/
theorem lt_dg {c : Nat} (h : isLt c = true) : isDg c = false := by
  have := lt_bd h
  unfold isDg
  rw [decide_eq_false (show ¬ c ≤ 57 by omega), Bool.and_false]
section
variable {d : Nat} {Q : Option Value → Mm → Prop} {b : Nat → Nat} {n : Nat} {mi : Nat → Nat → Int32} {ml : Nat → Nat → Int64} {rd : Option Nat}
set_option maxHeartbeats 4000000 in
theorem t_token (hE : TE b n mi) {i0 : Nat} (hi0 : i0 ≤ n) (e70 : mi 95 7 = nI i0) (hQ : ∀ mi', F4 mi mi' → mi' 95 10 = nI (runE isBl b n i0) → mi' 95 7 = nI (if runE isBl b n i0 < n then tkE b n (runE isBl b n i0) else n) → KW (if runE isBl b n i0 < n then tkK b n (runE isBl b n i0) else 0) (if runE isBl b n i0 < n then tkV b n (runE isBl b n i0) else 0) (mi' 95 8) (mi' 95 9) → Q none (mi', ml, R0 rd, 136)) : Cd (d + 2) k_Mod_token [.ref 95] (mi, ml, R0 rd, 136) Q := by
  have h7 := hE.2.1
  generalize epos : runE isBl b n i0 = pos at hQ
  /- letters -/
  have wlp : pos < n → isLt (b pos) = true → ∀ t j, j + t = n → ∀ mi', F4 mi mi' → mi' 95 7 = nI j → mi' 95 10 = nI pos → runE isLt b n j = runE isLt b n pos → GoM (d + 1) k_Mod_token 136 Q 90 [.ref 95] [] (mi', ml, R0 rd, 136) := by
    intro hp hlt
    rw [if_pos hp, if_pos hp, if_pos hp] at hQ
    have hdg := lt_dg hlt
    have hre := runE_le (p := isLt) (b := b) (show pos ≤ n by omega)
    have hr1 : pos + 1 ≤ runE isLt b n pos := by
      rw [runE_s hp hlt]
      exact (runE_le (p := isLt) (b := b) (show pos + 1 ≤ n by omega)).1
    have ek : tkK b n pos = if 6 < runE isLt b n pos - pos then 3 else kwK (wdV b n pos 0 0) := by unfold tkK; rw [hdg, hlt]; rfl
    have ev : tkV b n pos = wdV b n pos 0 0 := by unfold tkV; rw [hdg, hlt]; rfl
    have ee : tkE b n pos = runE isLt b n pos := by unfold tkE; rw [hdg, hlt]; rfl
    rw [ek, ev, ee] at hQ
    /- the word's end -/
    have fin : ∀ mi', F4 mi mi' → mi' 95 7 = nI (runE isLt b n pos) → mi' 95 10 = nI pos → ∀ j, j = runE isLt b n pos → ¬ (j < n ∧ isLt (b j) = true) → GoM (d + 1) k_Mod_token 136 Q 90 [.ref 95] [] (mi', ml, R0 rd, 136) := by
      intro mi' hf e7 e10 j ej hno
      subst ej
      have hE1 := hE.f4 hf
      have fr2 : ∀ x y : Int32, F4 mi (cu (cu mi' 95 (upd (mi' 95) 9 x)) 95 (upd (upd (mi' 95) 9 x) 8 y)) := fun x y => (hf.cu rfl).cu rfl
      refine g_Mod_token (fun K Kl hK hC => hC _ _ _ _ (t_isSmall (i := runE isLt b n pos) hE1 e7 hre.2 (fun h1 h2 => absurd ⟨h1, h2⟩ hno) (fun _ => ⟨fun _ => hC _ _ _ _ (t_wordAt (a := pos) (e := runE isLt b n pos) hE1 hre.1 hre.2 e10 e7 ?_), fun a => absurd (by decide) a⟩)))
      by_cases h6 : 6 < runE isLt b n pos - pos
      · rw [mt_long h6, if_neg (by omega)]
        rw [if_pos h6] at hQ
        refine ⟨fun _ => ⟨fun z => ?_, fun z => ⟨fun _ => ⟨rfl, hQ _ (fr2 _ _) e10 e7 (Or.inr (Or.inr (Or.inr (Or.inl ⟨rfl, Or.inl rfl⟩))))⟩, fun z => absurd (show nI 6 = nI 2 from z) (by decide)⟩⟩, fun z => absurd (show (-1 : Int32) < 0 by decide) z⟩
        have z : mi' 95 7 - mi' 95 10 ≤ nI 6 := z
        rw [e7, e10, pk_sub hre.1] at z
        exact absurd (iLE z) (by omega)
      · rw [if_neg h6] at hQ
        rcases kw_ref (b := b) (n := n) (a := pos) (by omega) (by omega) (by omega) with ⟨hk, hr⟩ | ⟨w, hw, hk, hr⟩
        · rw [hr, if_neg (by omega)]
          rw [hk] at hQ
          refine ⟨fun _ => ⟨fun _ => ⟨fun z => absurd rfl z, fun _ => ?_⟩, fun z => ?_⟩, fun z => absurd (show (-1 : Int32) < 0 by decide) z⟩
          · refine hC _ _ _ _ (t_packed (a := pos) (hE.f4 (fr2 (-1) (nI 2))) (by omega) (by omega) e10 e7 ⟨rfl, hQ _ ((fr2 (-1) (nI 2)).cu rfl) e10 e7 (Or.inr (Or.inr (Or.inl ⟨rfl, rfl, rfl⟩)))⟩)
          · have z : ¬ mi' 95 7 - mi' 95 10 ≤ nI 6 := z
            rw [e7, e10, pk_sub hre.1] at z
            exact absurd (iNLE z) (by omega)
        · have hkl := kK_lt w hw
          rw [hr, if_pos hkl]
          rw [hk] at hQ
          exact ⟨fun z => (iNN (show nI (kK (20 + w)) < 0 from z) (by omega)).elim, fun _ => ⟨fun _ => ⟨rfl, hQ _ (fr2 _ _) e10 e7 (Or.inr (Or.inr (Or.inr (Or.inr (Or.inr (Or.inr ⟨by omega, by omega, rfl, rfl⟩))))))⟩, fun z => absurd (show nI 1 = nI 2 from z) (by decide)⟩⟩
    intro t
    induction t with
    | zero =>
      intro j hj mi' hf e7 e10 er
      have hno : ¬ (j < n ∧ isLt (b j) = true) := by omega
      rw [runE_0 hno] at er
      exact fin mi' hf (by rw [e7, er]) e10 j er hno
    | succ t ih =>
      intro j hj mi' hf e7 e10 er
      by_cases hin : j < n ∧ isLt (b j) = true
      · have hE1 := hE.f4 hf
        rw [runE_s hin.1 hin.2] at er
        have ih := ih (j + 1) (by omega) (cu mi' 95 (upd (mi' 95) 7 (mi' 95 7 + nI 1))) (hf.cu rfl) (by show mi' 95 7 + nI 1 = _; rw [e7, nI_add]) e10 er
        exact g_Mod_token (fun K Kl hK hC => hC _ _ _ _ (t_isSmall (i := j) hE1 e7 (by omega) (fun _ _ => ⟨fun a => absurd a (by decide), fun _ => hK _ _ _ _ ih⟩) (fun h => absurd hin h)))
      · rw [runE_0 hin] at er
        exact fin mi' hf (by rw [e7, er]) e10 j er hin
  /- digits -/
  have dlp : pos < n → isDg (b pos) = true → ∀ t j, j + t = n → ∀ mi' w a, F4 mi mi' → mi' 95 7 = nI j → mi' 95 10 = nI pos → mi' 95 8 = nI 3 → mi' 95 9 = nI w → (w < 1000000 ∧ (w = a ∨ (99999 < w ∧ 99999 < a))) → nuV b n j a = nuV b n pos 0 → runE isDg b n j = runE isDg b n pos → GoM (d + 1) k_Mod_token 136 Q 213 [.ref 95] [] (mi', ml, R0 rd, 136) := by
    intro hp hdg
    rw [if_pos hp, if_pos hp, if_pos hp] at hQ
    have ek : tkK b n pos = 1 := by unfold tkK; rw [hdg]; rfl
    have ev : tkV b n pos = nuV b n pos 0 := by unfold tkV; rw [hdg]; rfl
    have ee : tkE b n pos = runE isDg b n pos := by unfold tkE; rw [hdg]; rfl
    rw [ek, ev, ee] at hQ
    have fin : ∀ mi' w a, F4 mi mi' → ∀ j, j ≤ n → mi' 95 7 = nI j → mi' 95 10 = nI pos → mi' 95 8 = nI 3 → mi' 95 9 = nI w → (w < 1000000 ∧ (w = a ∨ (99999 < w ∧ 99999 < a))) → a = nuV b n pos 0 → j = runE isDg b n pos → ¬ (j < n ∧ isDg (b j) = true) → GoM (d + 1) k_Mod_token 136 Q 213 [.ref 95] [] (mi', ml, R0 rd, 136) := by
      intro mi' w a hf j hj e7 e10 e8 e9 hr ea ej hno
      rw [ej] at e7
      rw [ea] at hr
      exact g_Mod_token (fun K Kl hK hC => hC _ _ _ _ (t_isDigit (i := j) (hE.f4 hf) (by rw [e7, ej]) hj (fun h1 h2 => absurd ⟨h1, h2⟩ hno) (fun _ => ⟨fun _ => ⟨rfl, hQ mi' hf e10 e7 (Or.inr (Or.inl ⟨rfl, e8, w, e9, hr.1, hr.2⟩))⟩, fun a => absurd (by decide) a⟩)))
    intro t
    induction t with
    | zero =>
      intro j hj mi' w a hf e7 e10 e8 e9 hr en er
      have hno : ¬ (j < n ∧ isDg (b j) = true) := by omega
      rw [runE_0 hno] at er
      rw [nuV_0 hno] at en
      exact fin mi' w a hf j (by omega) e7 e10 e8 e9 hr en er hno
    | succ t ih =>
      intro j hj mi' w a hf e7 e10 e8 e9 hr en er
      by_cases hin : j < n ∧ isDg (b j) = true
      · have hE1 := hE.f4 hf
        have hbd := dg_bd hin.2
        have hbj := hE1.2.2.1 j hin.1
        rw [runE_s hin.1 hin.2] at er
        rw [nuV_s hin.1 hin.2] at en
        have e71 : mi' 95 7 + nI 1 = nI (j + 1) := by rw [e7, nI_add]
        refine g_Mod_token (fun K Kl hK hC => hC _ _ _ _ (t_isDigit (i := j) hE1 e7 (by omega) (fun _ _ => ⟨fun a => absurd a (by decide), fun _ => ⟨fun z => ⟨j, by omega, e7, hK _ _ _ _ ?_⟩, fun z => hK _ _ _ _ ?_⟩⟩) (fun h => absurd hin h)))
        · have z : mi' 95 9 ≤ nI 99999 := z
          rw [e9] at z
          have z := iLE z
          have ew : nI 10 * mi' 95 9 + mi' 96 j - nI 48 = nI (10 * w + b j - 48) := by rw [e9, hbj.1, pk_mul, nI_add, pk_sub (by omega)]
          exact ih (j + 1) (by omega) (cu (cu mi' 95 (upd (mi' 95) 9 (nI 10 * mi' 95 9 + mi' 96 j - nI 48))) 95 (upd (upd (mi' 95) 9 (nI 10 * mi' 95 9 + mi' 96 j - nI 48)) 7 (mi' 95 7 + nI 1))) (10 * w + b j - 48) _ ((hf.cu rfl).cu rfl) e71 e10 e8 ew (by omega) en er
        · have z : ¬ mi' 95 9 ≤ nI 99999 := z
          rw [e9] at z
          have z := iNLE z
          exact ih (j + 1) (by omega) (cu (cu mi' 95 (upd (mi' 95) 9 (mi' 95 9))) 95 (upd (upd (mi' 95) 9 (mi' 95 9)) 7 (mi' 95 7 + nI 1))) w _ ((hf.cu rfl).cu rfl) e71 e10 e8 e9 (by omega) en er
      · rw [runE_0 hin] at er
        rw [nuV_0 hin] at en
        exact fin mi' w a hf j (by omega) e7 e10 e8 e9 hr en er hin
  /- blanks -/
  have blk : ∀ t j, j + t = n → ∀ mi', F4 mi mi' → mi' 95 7 = nI j → runE isBl b n j = pos → GoM (d + 1) k_Mod_token 136 Q 0 [.ref 95] [] (mi', ml, R0 rd, 136) := by
    intro t
    induction t with
    | zero =>
      intro j hj mi' hf e7 er
      rw [runE_0 (by omega)] at er
      have er2 := er
      rw [er] at e7
      refine g_Mod_token (fun K Kl hK hC => ⟨fun _ => ?_, fun z => absurd (jNLE z (hE.f4 hf).1 e7) (by omega)⟩)
      have hpl := runE_le (p := isBl) (b := b) hi0
      rw [epos] at hpl
      have hf1 : F4 mi (cu mi' 95 (upd (mi' 95) 10 (mi' 95 7))) := hf.cu rfl
      have hE1 := hE.f4 hf1
      have e6 : mi' 95 6 = nI n := (hE.f4 hf).1
      refine ⟨fun z => hC _ _ _ _ (t_isSmall (i := pos) hE1 e7 hpl.2 (fun h1 h2 => ⟨fun a => absurd a (by decide), fun _ => hK _ _ _ _ (wlp h1 h2 (n - pos) pos (by omega) _ hf1 e7 e7 rfl)⟩) (fun hs => ⟨fun _ => hC _ _ _ _ (t_isDigit (i := pos) hE1 e7 hpl.2 (fun h1 h2 => ⟨fun a => absurd a (by decide), fun _ => hK _ _ _ _ (dlp h1 h2 (n - pos) pos (by omega) _ 0 0 ((hf1.cu rfl).cu rfl) e7 e7 rfl rfl ⟨by decide, Or.inl rfl⟩ rfl rfl)⟩) (fun hdg => ⟨fun _ => ?_, fun a => absurd (by decide) a⟩)), fun a => absurd (by decide) a⟩)), fun z => ⟨rfl, ?_⟩⟩
      · have z : ¬ mi' 95 7 = mi' 95 6 := z
        rw [e7, e6] at z
        have z := iNE z
        have hlt : pos < n := by omega
        rw [if_pos hlt, if_pos hlt, if_pos hlt] at hQ
        have n1 : isDg (b pos) = false := by
          cases h : isDg (b pos) with
          | false => rfl
          | true => exact absurd ⟨hlt, h⟩ hdg
        have n2 : isLt (b pos) = false := by
          cases h : isLt (b pos) with
          | false => rfl
          | true => exact absurd ⟨hlt, h⟩ hs
        have ek : tkK b n pos = sgK (b pos) (bhN b n pos) := by unfold tkK; rw [n1, n2]; rfl
        have ev : tkV b n pos = 0 := by unfold tkV; rw [n1, n2]; rfl
        have ee : tkE b n pos = pos + sgL (b pos) (bhN b n pos) := by unfold tkE; rw [n1, n2]; rfl
        rw [ek, ev, ee] at hQ
        exact hC _ _ _ _ (t_signToken hE1 hlt e7 (fun mi2 hf2 h10 h7 hkw => ⟨rfl, hQ mi2 (hf1.trans hf2) (h10.trans e7) h7 hkw⟩))
      · have z : mi' 95 7 = mi' 95 6 := z
        rw [e7, e6] at z
        have z := iEQ z
        rw [if_neg (by omega), if_neg (by omega), if_neg (by omega)] at hQ
        exact hQ _ (hf1.cu rfl) e7 (by show mi' 95 7 = _; rw [e7, z]) (Or.inl ⟨rfl, rfl⟩)
    | succ t ih =>
      intro j hj mi' hf e7 er
      have hE1 := hE.f4 hf
      have hbj := hE1.2.2.1 j (by omega)
      have e71 : mi' 95 7 + nI 1 = nI (j + 1) := by rw [e7, nI_add]
      have go : isBl (b j) = true → GoM (d + 1) k_Mod_token 136 Q 0 [.ref 95] [] (cu mi' 95 (upd (mi' 95) 7 (mi' 95 7 + nI 1)), ml, R0 rd, 136) := fun hb => by
        rw [runE_s (by omega) hb] at er
        exact ih (j + 1) (by omega) _ (hf.cu rfl) e71 er
      refine g_Mod_token (fun K Kl hK hC => ⟨fun z => absurd (jLE z hE1.1 e7) (by omega), fun _ => ⟨j, by omega, e7, ⟨fun y => hK _ _ _ _ (go ?_), fun y => ⟨j, by omega, e7, ⟨fun w => ?_, fun w => hK _ _ _ _ (go ?_)⟩⟩⟩⟩⟩)
      · unfold isBl
        rw [show b j = 10 from jEQ y hbj.1 rfl]
        rfl
      · have hb : isBl (b j) = false := by
          unfold isBl
          rw [show (b j == 32) = false from beq_eq_false_iff_ne.mpr (jNE w hbj.1 rfl), show (b j == 10) = false from beq_eq_false_iff_ne.mpr (jNE y hbj.1 rfl)]
          rfl
        rw [runE_0 (by rw [hb]; exact fun q => by cases q.2)] at er
        rw [er] at e7
        have hpl := runE_le (p := isBl) (b := b) hi0
        rw [epos] at hpl
        have hf1 : F4 mi (cu mi' 95 (upd (mi' 95) 10 (mi' 95 7))) := hf.cu rfl
        have hE1 := hE.f4 hf1
        have e6 : mi' 95 6 = nI n := (hE.f4 hf).1
        refine ⟨fun z => hC _ _ _ _ (t_isSmall (i := pos) hE1 e7 hpl.2 (fun h1 h2 => ⟨fun a => absurd a (by decide), fun _ => hK _ _ _ _ (wlp h1 h2 (n - pos) pos (by omega) _ hf1 e7 e7 rfl)⟩) (fun hs => ⟨fun _ => hC _ _ _ _ (t_isDigit (i := pos) hE1 e7 hpl.2 (fun h1 h2 => ⟨fun a => absurd a (by decide), fun _ => hK _ _ _ _ (dlp h1 h2 (n - pos) pos (by omega) _ 0 0 ((hf1.cu rfl).cu rfl) e7 e7 rfl rfl ⟨by decide, Or.inl rfl⟩ rfl rfl)⟩) (fun hdg => ⟨fun _ => ?_, fun a => absurd (by decide) a⟩)), fun a => absurd (by decide) a⟩)), fun z => ⟨rfl, ?_⟩⟩
        · have z : ¬ mi' 95 7 = mi' 95 6 := z
          rw [e7, e6] at z
          have z := iNE z
          have hlt : pos < n := by omega
          rw [if_pos hlt, if_pos hlt, if_pos hlt] at hQ
          have n1 : isDg (b pos) = false := by
            cases h : isDg (b pos) with
            | false => rfl
            | true => exact absurd ⟨hlt, h⟩ hdg
          have n2 : isLt (b pos) = false := by
            cases h : isLt (b pos) with
            | false => rfl
            | true => exact absurd ⟨hlt, h⟩ hs
          have ek : tkK b n pos = sgK (b pos) (bhN b n pos) := by unfold tkK; rw [n1, n2]; rfl
          have ev : tkV b n pos = 0 := by unfold tkV; rw [n1, n2]; rfl
          have ee : tkE b n pos = pos + sgL (b pos) (bhN b n pos) := by unfold tkE; rw [n1, n2]; rfl
          rw [ek, ev, ee] at hQ
          exact hC _ _ _ _ (t_signToken hE1 hlt e7 (fun mi2 hf2 h10 h7 hkw => ⟨rfl, hQ mi2 (hf1.trans hf2) (h10.trans e7) h7 hkw⟩))
        · have z : mi' 95 7 = mi' 95 6 := z
          rw [e7, e6] at z
          have z := iEQ z
          rw [if_neg (by omega), if_neg (by omega), if_neg (by omega)] at hQ
          exact hQ _ (hf1.cu rfl) e7 (by show mi' 95 7 = _; rw [e7, z]) (Or.inl ⟨rfl, rfl⟩)
      · unfold isBl
        rw [show b j = 32 from jEQ w hbj.1 rfl]
        rfl
  exact cdM (by decide) (Nat.le_of_ble_eq_true rfl) (Nat.le_refl 136) rfl (blk (n - i0) i0 (by omega) mi F4.none e70 epos)
end
