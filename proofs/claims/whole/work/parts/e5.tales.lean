/-! WHAT THE REFERENCE ANSWERS: tales, tale -/
theorem cs_0 {T : Nat → Nat → Nat} {w f way : Nat} : (costN T (fun _ => 0) (feA T) w f way).isSome = liN T w f way := by
  rw [cs_cost]
  have e : csN T (fun _ => 0) w f way = liN T w f way := by
    unfold csN
    have h1 : allN (fun k => ((fun _ => 0 : Nat → Nat) (plN T f way k) == 0) || ((fun _ => 0 : Nat → Nat) (plN T f way k) == wantN T w k)) (lenN (T 7 w)) = true := allN_iff.mpr (fun i hi => rfl)
    rw [h1, Bool.and_true]
  rw [e]
  cases liN T w f way <;> rfl
section
variable {d : Nat} {Q : Option Value → Mm → Prop} {A : St} {T S N : Nat → Nat → Nat} {mi : Nat → Nat → Int32} {ml : Nat → Nat → Int64} {rd : Option Nat} {x y z : Int32}
set_option maxHeartbeats 2000000 in
theorem t_isTale (hT : MT T mi) (hw : wfT T) (hN : MN N mi) (h24 : N 0 0 ≤ 24) (hk1 : N 0 1 ≤ N 0 0 + 1) (hwN : wfN T N) (hct : ∀ i, i < knM N → mi 131 i = nI (!skN N i).toNat) {w p : Nat} (hwd : w < T 0 4) (hp : p < 2 * (T 0 0 * T 0 1)) (h1 : ∀ mi', BF 1 mi mi' → tlN T N w p = true → Q (some (.int (nI 1))) (mi', ml, R0 rd, 136)) (h0 : ∀ mi', BF 1 mi mi' → tlN T N w p = false → Q (some (.int (nI 0))) (mi', ml, R0 rd, 136)) : Cd (d + 5) k_Mod_isTale [.ref 95, .int (nI w), .int (nI (p / 2)), .int (nI (p % 2))] (mi, ml, R0 rd, 136) Q := by
  have hfl := hw.fl
  have hl3 := hw.hl3
  have hkn : knM N ≤ N 0 0 := by unfold knM; split <;> omega
  have ph := pl_half hp
  unfold tlN at h1 h0
  rw [cs_0] at h1 h0
  have notes : liN T w (p / 2) (p % 2) = true → ∀ i, i ≤ knM N → (∀ j, j < i → soN T N (putN T (fun _ => 0) w (p / 2) (p % 2)) j = true) → ∀ mi', BF 1 mi mi' → (∀ f, f < 48 → mi' 123 (48 + f) = nI (putN T (fun _ => 0) w (p / 2) (p % 2) f)) → GoM (d + 4) k_Mod_isTale 136 Q 50 [.ref 95, .int (nI w), .int (nI (p / 2)), .int (nI (p % 2)), .int (nI i)] [] (mi', ml, R0 rd, 136) := by
    intro hli
    refine upto ?_ ?_
    · intro hall mi' hf hsh
      have hN1 := hN.mf hf.mf
      exact g_Mod_isTale (fun K Kl hK hC => hC _ _ _ _ (t_knownBy hN1 h24 hk1 ⟨fun _ => ⟨Or.inr rfl, rfl, h1 mi' hf (by rw [hli, allN_iff.mpr hall]; rfl)⟩, fun z => absurd (iNLE z) (by omega)⟩))
    · intro i hi ih hall mi' hf hsh
      have hN1 := hN.mf hf.mf
      have hT1 := hf.T hT
      have e131 : mi' 131 i = nI (!skN N i).toNat := by rw [hf.c (c := 131) (by decide) (by decide) (by decide)]; exact hct i hi
      obtain ⟨n1, n2, n3⟩ := hN1.2.2 i (by omega)
      have i0 : nI 3 * nI i = nI (3 * i) := pk_mul _ _
      have i1 : nI 3 * nI i + nI 1 = nI (3 * i + 1) := by rw [pk_mul, nI_add]
      have i2 : nI 3 * nI i + nI 2 = nI (3 * i + 2) := by rw [pk_mul, nI_add]
      have go : soN T N (putN T (fun _ => 0) w (p / 2) (p % 2)) i = true → GoM (d + 4) k_Mod_isTale 136 Q 50 [.ref 95, .int (nI w), .int (nI (p / 2)), .int (nI (p % 2)), .int (nI i + nI 1)] [] (mi', ml, R0 rd, 136) := fun hs => by
        have ih := ih (lt_s hall hs) mi' hf hsh
        rw [nI1 i] at ih
        exact ih
      refine g_Mod_isTale (fun K Kl hK hC => hC _ _ _ _ (t_knownBy hN1 h24 hk1 ⟨fun z => absurd (iLE z) (by omega), fun _ => ⟨i, by omega, rfl, ⟨fun z => hK _ _ _ _ (go ?_), fun z => ⟨3 * i, by omega, i0, ⟨fun z2 => hK _ _ _ _ (go ?_), fun z2 => ⟨3 * i, by omega, i0, ⟨3 * i + 1, by omega, i1, ?_⟩⟩⟩⟩⟩⟩⟩))
      · have z : mi' 131 i = 0 := z
        rw [e131] at z
        have hsk : skN N i = true := by
          cases hb : skN N i with
          | true => rfl
          | false => rw [hb] at z; exact absurd z (by decide)
        unfold soN ctN
        rw [hsk]
        simp
      · have z2 : mi' 130 (3 * i) < 0 := z2
        rw [n1] at z2
        have h10 : N 1 i = 0 := by
          rcases Nat.eq_zero_or_pos (N 1 i) with q | q
          · exact q
          · have := hwN i (by omega) (by omega)
            exact absurd ((nI_predge (by omega)).mpr (by omega)) (lt_not z2)
        unfold soN ctN
        rw [h10]
        rfl
      · have z : ¬ mi' 131 i = 0 := z
        rw [e131] at z
        have hsk : skN N i = false := by
          cases hb : skN N i with
          | false => rfl
          | true => rw [hb] at z; exact absurd (by decide) z
        have z2 : ¬ mi' 130 (3 * i) < 0 := z2
        have h10 : N 1 i ≠ 0 := fun q => z2 (by rw [n1, q]; decide)
        obtain ⟨w1, w2, w3⟩ := hwN i (by omega) h10
        obtain ⟨hh, ehh⟩ : ∃ hh, N 1 i = hh + 1 := ⟨N 1 i - 1, by omega⟩
        have n2 := n2 h10
        rw [ehh, nI_pred] at n1
        have ix : nI 48 + mi' 130 (3 * i + 1) = nI (48 + N 2 i) := by rw [n2, nI_add]
        have esh := hsh (N 2 i) (by omega)
        have hpl : putN T (fun _ => 0) w (p / 2) (p % 2) (N 2 i) ≤ 511 := putN_le hw (fun _ => Nat.zero_le _) _ _ _ _
        have hrl := readN_le hw hh (putN T (fun _ => 0) w (p / 2) (p % 2) (N 2 i))
        have cr : ∀ P : Option Value → Mm → Prop, P (some (.int (nI (readN T hh (putN T (fun _ => 0) w (p / 2) (p % 2) (N 2 i)))))) (mi', ml, R0 rd, 136) → Cd (d + 4) k_Mod_readOf [.ref 95, .int (mi' 130 (3 * i)), .int (mi' 123 (48 + N 2 i))] (mi', ml, R0 rd, 136) P := fun P hP => by
          rw [n1, esh]
          exact t_readOf hT1 hw (by omega) (by omega) hP
        have eso : soN T N (putN T (fun _ => 0) w (p / 2) (p % 2)) i = (readN T hh (putN T (fun _ => 0) w (p / 2) (p % 2) (N 2 i)) == N 3 i) := by
          unfold soN ctN
          rw [hsk, ehh]
          rfl
        refine ⟨48 + N 2 i, by omega, ix, hC _ _ _ _ (cr _ ⟨3 * i + 2, by omega, i2, ⟨fun q => hK _ _ _ _ (go ?_), fun q => ⟨Or.inl rfl, rfl, h0 mi' hf ?_⟩⟩⟩)⟩
        · have q : nI (readN T hh (putN T (fun _ => 0) w (p / 2) (p % 2) (N 2 i))) = mi' 130 (3 * i + 2) := q
          rw [n3] at q
          rw [eso]
          exact beq_iff_eq.mpr (iEQ q)
        · have q : ¬ nI (readN T hh (putN T (fun _ => 0) w (p / 2) (p % 2) (N 2 i))) = mi' 130 (3 * i + 2) := q
          rw [n3] at q
          rw [hli, allN_not hi (by rw [eso]; exact beq_eq_false_iff_ne.mpr (iNE q)), Bool.and_false]
  have clear : liN T w (p / 2) (p % 2) = true → ∀ j, j ≤ 48 → ∀ g : Nat → Int32, (∀ f, f < j → g (48 + f) = nI 0) → (∀ i, (i < 48 ∨ 96 ≤ i) → g i = mi 123 i) → GoM (d + 4) k_Mod_isTale 136 Q 15 [.ref 95, .int (nI w), .int (nI (p / 2)), .int (nI (p % 2)), .int (nI j)] [] (cu mi 123 g, ml, R0 rd, 136) := by
    intro hli
    refine upto ?_ ?_
    · intro g hg ho
      have hf : BF 1 mi (cu mi 123 g) := BF.none.sh (fun i hi => ho i (by omega))
      refine g_Mod_isTale (fun K Kl hK hC => ⟨fun _ => hC _ _ _ _ (t_setsIn (b := 1) (sh := fun _ => 0) (hf.T hT) hw (by omega) hg hwd ph (by omega) (li_fit hli) (fun g2 hg2 ho2 => hK _ _ _ _ (notes hli 0 (Nat.zero_le _) lt_0 _ (hf.sh (fun i hi => ho2 i (by omega))) hg2))), fun z => absurd (iNLE z) (by omega)⟩)
    · intro j hj ih g hg ho
      have ih := ih (upd g (48 + j) (nI 0)) (fun f hf => by
        by_cases e : f = j
        · rw [e, pk_us]
        · rw [pk_un (by omega)]; exact hg f (by omega)) (fun i hi => by rw [pk_un (by omega)]; exact ho i hi)
      rw [nI1 j, ← cuu] at ih
      exact g_Mod_isTale (fun K Kl hK hC => ⟨fun z => absurd (iLE z) (by omega), fun _ => ⟨48 + j, by omega, nI_add 48 j, hK _ _ _ _ ih⟩⟩)
  refine r_Mod_isTale (by decide) (fun K Kl hK hC => hC _ _ _ _ (t_lies hT hw hwd ph (by omega) (fun hli => ⟨fun _ => hK _ _ _ _ ?_, fun a => absurd a (by decide)⟩) (fun hli => ⟨fun a => absurd (by decide) a, fun _ => ⟨Or.inl rfl, rfl, h0 mi BF.none (by rw [hli]; rfl)⟩⟩)))
  have l0 := clear hli 0 (Nat.zero_le _) (mi 123) lt_0 (fun _ _ => rfl)
  rw [cu_id] at l0
  exact l0
/-- what was asked for has not come, or is there -/
def AK (T N : Nat → Nat → Nat) (x a : Int32) (w j : Nat) : Prop := (a = -1 ∧ noT T N x w j) ∨ ∃ v p, v < T 0 4 ∧ p < 2 * (T 0 0 * T 0 1) ∧ tlN T N v p = true ∧ x = nI (tcW T N v + tcP T N v p) ∧ a = nI (96 * v + p)
set_option maxHeartbeats 2000000 in
/-- words and places -/
theorem talesLp (hT : MT T mi) (hw : wfT T) (hN : MN N mi) (h24 : N 0 0 ≤ 24) (hk1 : N 0 1 ≤ N 0 0 + 1) (hwN : wfN T N) (hct : ∀ i, i < knM N → mi 131 i = nI (!skN N i).toNat) (hQ : ∀ mi', MF mi mi' → mi' 95 92 = nI (tcW T N (T 0 4)) → AK T N x (mi' 95 93) (T 0 4) 0 → Q none (mi', ml, R0 rd, 136)) : ∀ w, w ≤ T 0 4 → ∀ mi', MF mi mi' → mi' 131 = mi 131 → mi' 95 92 = nI (tcW T N w) → AK T N x (mi' 95 93) w 0 → ∀ v3, GoM (d + 5) k_Mod_layTales 136 Q 88 [.ref 95, .int x, .int (nI w), v3] [] (mi', ml, R0 rd, 136) := by
  have hfl := hw.fl
  have h6 := hw.wd6
  refine upto ?_ ?_
  · intro mi' hf h131 h92 hak v3
    exact g_Mod_layTales (fun K Kl hK hC => ⟨fun _ => ⟨rfl, hQ mi' hf h92 hak⟩, fun z => absurd (jNLE z (hT.mf hf).words) (by omega)⟩)
  · intro w hwd ih mi1 hf1 h1311 h921 hak1 v3
    rw [nI1 w] at ih
    have inner : ∀ j, j ≤ 2 * (T 0 0 * T 0 1) → ∀ mi', MF mi mi' → mi' 131 = mi 131 → mi' 95 92 = nI (tcW T N w + tcP T N w j) → AK T N x (mi' 95 93) w j → GoM (d + 5) k_Mod_layTales 136 Q 98 [.ref 95, .int x, .int (nI w), .int (nI j)] [] (mi', ml, R0 rd, 136) := by
      refine upto ?_ ?_
      · intro mi' hf h131 h92 hak
        have hT1 := hT.mf hf
        refine g_Mod_layTales (fun K Kl hK hC => hC _ _ _ _ (t_fields hT1 ⟨fun _ => hK _ _ _ _ (ih mi' hf h131 h92 ?_ _), fun a => ?_⟩))
        · rcases hak with ⟨a, b⟩ | h
          · refine Or.inl ⟨a, fun v hv p hp ht => ?_, fun p hp => by omega⟩
            by_cases e : v = w
            · subst e; exact b.2 p hp ht
            · exact b.1 v (by omega) p hp ht
          · exact Or.inr h
        · have a : ¬ nI 2 * nI (T 0 0 * T 0 1) ≤ nI (2 * (T 0 0 * T 0 1)) := a
          rw [pk_mul] at a
          exact absurd (iNLE a) (by omega)
      · intro p hp ih2 mi' hf h131 h92 hak
        have hT1 := hT.mf hf
        have ed : nI p / nI 2 = nI (p / 2) := pk_div (by omega) (by omega) (by omega)
        have er : nI p - nI p / nI 2 * nI 2 = nI (p % 2) := pk_rem (by omega) (by omega) (by omega)
        rw [nI1 p] at ih2
        refine g_Mod_layTales (fun K Kl hK hC => hC _ _ _ _ (t_fields hT1 ⟨fun a => ?_, fun _ => ⟨two0, two0, ?_⟩⟩))
        · have a : nI 2 * nI (T 0 0 * T 0 1) ≤ nI p := a
          rw [pk_mul] at a
          exact absurd (iLE a) (by omega)
        rw [er, ed]
        refine hC _ _ _ _ (t_isTale hT1 hw (hN.mf hf) h24 hk1 hwN (fun i hi => by rw [h131]; exact hct i hi) hwd hp (fun mi2 hf2 ht => ⟨fun _ => ⟨fun q => hK _ _ _ _ ?_, fun q => hK _ _ _ _ ?_⟩, fun a => absurd a (by decide)⟩) (fun mi2 hf2 ht => ⟨fun a => absurd (by decide) a, fun _ => hK _ _ _ _ ?_⟩))
        · have e92 : mi2 95 92 = nI (tcW T N w + tcP T N w p) := (hf2.k (by decide)).trans h92
          have e93 : mi2 95 93 = mi' 95 93 := hf2.k (by decide)
          have q : ¬ mi2 95 92 = x := q
          rw [e92] at q
          refine ih2 (cu mi2 95 (upd (mi2 95) 92 (mi2 95 92 + nI 1))) ((hf.trans hf2.mf).cu rfl) ((hf2.c (c := 131) (by decide) (by decide) (by decide)).trans h131) ?_ ?_
          · show mi2 95 92 + nI 1 = _
            rw [e92, nI_add, tcP_s, if_pos ht]
            rfl
          · show AK T N x (mi2 95 93) w (p + 1)
            rw [e93]
            rcases hak with ⟨a, b⟩ | h
            · refine Or.inl ⟨a, b.1, fun p2 hp2 ht2 => ?_⟩
              by_cases e : p2 = p
              · subst e; exact fun z => q z.symm
              · exact b.2 p2 (by omega) ht2
            · exact Or.inr h
        · have e92 : mi2 95 92 = nI (tcW T N w + tcP T N w p) := (hf2.k (by decide)).trans h92
          have q : mi2 95 92 = x := q
          refine ih2 (cu (cu mi2 95 (upd (mi2 95) 93 (nI 96 * nI w + nI p))) 95 (upd (upd (mi2 95) 93 (nI 96 * nI w + nI p)) 92 (mi2 95 92 + nI 1))) (((hf.trans hf2.mf).cu rfl).cu rfl) ((hf2.c (c := 131) (by decide) (by decide) (by decide)).trans h131) ?_ ?_
          · show mi2 95 92 + nI 1 = _
            rw [e92, nI_add, tcP_s, if_pos ht]
            rfl
          · show AK T N x (nI 96 * nI w + nI p) w (p + 1)
            rw [pk_mul, nI_add]
            exact Or.inr ⟨w, p, hwd, hp, ht, by rw [← q, e92], rfl⟩
        · refine ih2 mi2 (hf.trans hf2.mf) ((hf2.c (c := 131) (by decide) (by decide) (by decide)).trans h131) ?_ ?_
          · rw [tcP_s, if_neg (by rw [ht]; decide)]
            exact (hf2.k (by decide)).trans h92
          · rw [show mi2 95 93 = mi' 95 93 from hf2.k (by decide)]
            rcases hak with ⟨a, b⟩ | h
            · refine Or.inl ⟨a, b.1, fun p2 hp2 ht2 => ?_⟩
              by_cases e : p2 = p
              · rw [e, ht] at ht2; cases ht2
              · exact b.2 p2 (by omega) ht2
            · exact Or.inr h
    exact g_Mod_layTales (fun K Kl hK hC => ⟨fun z => absurd (jLE z (hT.mf hf1).words) (by omega), fun _ => hK _ _ _ _ (inner 0 (Nat.zero_le _) mi1 hf1 h1311 h921 hak1)⟩)
end
