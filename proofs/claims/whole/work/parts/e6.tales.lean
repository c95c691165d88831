/-! WHAT THE REFERENCE ANSWERS: tales, tale, look -/
section
variable {d : Nat} {Q : Option Value → Mm → Prop} {A : St} {T S N : Nat → Nat → Nat} {mi : Nat → Nat → Int32} {ml : Nat → Nat → Int64} {rd : Option Nat} {x y z : Int32}
set_option maxHeartbeats 1000000 in
theorem t_layTales (hA : MI A mi ml) (hw : wfA A) (hQ : ∀ mi', MF mi mi' → mi' 95 92 = nI (tcW (A 0) (A 2) (A 0 0 4)) → AK (A 0) (A 2) x (mi' 95 93) (A 0 0 4) 0 → Q none (mi', ml, R0 rd, 136)) : Cd (d + 6) k_Mod_layTales [.ref 95, .int x] (mi, ml, R0 rd, 136) Q := by
  have h24 := hw.w
  have hk1 := hw.w1
  have hkn : knM (A 2) ≤ A 2 0 0 := by unfold knM; split <;> omega
  have mf : ∀ g, MF mi (cu mi 131 g) := fun g => scC MF.none (fun _ => rfl)
  have last : ∀ g : Nat → Int32, (∀ i, i < knM (A 2) → g i = nI (!skN (A 2) i).toNat) → ∀ v3, GoM (d + 5) k_Mod_layTales 136 Q 88 [.ref 95, .int x, .int (nI 0), v3] [] (cu (cu (cu mi 131 g) 95 (upd (mi 95) 92 (nI 0))) 95 (upd (upd (mi 95) 92 (nI 0)) 93 (-1)), ml, R0 rd, 136) := fun g hg v3 => by
    have m3 : MF mi (cu (cu (cu mi 131 g) 95 (upd (mi 95) 92 (nI 0))) 95 (upd (upd (mi 95) 92 (nI 0)) 93 (-1))) := ((mf g).cu rfl).cu rfl
    have hA3 := hA.mf m3 ML.none
    exact talesLp hA3.T hw.T hA3.N h24 hk1 hw.N hg (fun mi' f h92 hak => hQ mi' (m3.trans f) h92 hak) 0 (Nat.zero_le _) _ MF.none rfl rfl (Or.inl ⟨rfl, fun v hv => by omega, fun p hp => by omega⟩) v3
  have strikes : ∀ s, s ≤ knM (A 2) → ∀ g : Nat → Int32, (∀ i, i < knM (A 2) → g i = nI (!skJ (A 2) (knM (A 2)) (knM (A 2) - s) i).toNat) → ∀ x2 v3, x2 = nI s - nI 1 → GoM (d + 5) k_Mod_layTales 136 Q 30 [.ref 95, .int x, .int x2, v3] [] (cu mi 131 g, ml, R0 rd, 136) := by
    intro s
    induction s with
    | zero =>
      intro _ g hg x2 v3 hx
      subst hx
      exact g_Mod_layTales (fun K Kl hK hC => ⟨fun _ => hK _ _ _ _ (last g (fun i hi => by rw [hg i hi, Nat.sub_zero]; rfl) _), fun a => absurd (by decide) a⟩)
    | succ s ih =>
      intro hs g hg x2 v3 hx
      have ex : x2 = nI s := by rw [hx, pk_sub (by omega)]; rfl
      subst ex
      have hNs := hA.N.2.2 s (by omega)
      have hst := hw.st s (by omega)
      have i0 : nI 3 * nI s = nI (3 * s) := pk_mul _ _
      have i2 : nI 3 * nI s + nI 2 = nI (3 * s + 2) := by rw [pk_mul, nI_add]
      have et : knM (A 2) - s = (knM (A 2) - (s + 1)) + 1 := by omega
      have ei : knM (A 2) - 1 - (knM (A 2) - (s + 1)) = s := by omega
      have gs := hg s (by omega)
      have keep : (A 2 1 s = 0 → skJ (A 2) (knM (A 2)) (knM (A 2) - (s + 1)) s = true) → ∀ v3, GoM (d + 5) k_Mod_layTales 136 Q 30 [.ref 95, .int x, .int (nI s + (-1)), v3] [] (cu mi 131 g, ml, R0 rd, 136) := fun hn v3 => ih (by omega) g (fun i hi => by
        rw [hg i hi, et]
        show _ = nI (!(if A 2 1 (knM (A 2) - 1 - (knM (A 2) - (s + 1))) = 0 ∧ skJ (A 2) (knM (A 2)) (knM (A 2) - (s + 1)) (knM (A 2) - 1 - (knM (A 2) - (s + 1))) = false ∧ i = A 2 3 (knM (A 2) - 1 - (knM (A 2) - (s + 1))) then true else skJ (A 2) (knM (A 2)) (knM (A 2) - (s + 1)) i)).toNat
        rw [ei, if_neg (fun q => by rw [hn q.1] at q; cases q.2.1)]) _ v3 (by rw [sub1])
      refine g_Mod_layTales (fun K Kl hK hC => ⟨fun a => (iNN a (by omega)).elim, fun _ => ⟨s, by omega, rfl, ⟨fun z => hK _ _ _ _ (keep (fun _ => ?_) _), fun z => ⟨3 * s, by omega, i0, ⟨fun z2 => hK _ _ _ _ (keep (fun q => ?_) _), fun z2 => ⟨3 * s + 2, by omega, i2, ?_⟩⟩⟩⟩⟩⟩)
      · have z : g s = 0 := z
        rw [gs] at z
        cases hb : skJ (A 2) (knM (A 2)) (knM (A 2) - (s + 1)) s with
        | true => rfl
        | false => rw [hb] at z; exact absurd z (by decide)
      · have z2 : 0 ≤ mi 130 (3 * s) := z2
        rw [hNs.1, q] at z2
        exact absurd z2 (by decide)
      · have z : ¬ g s = 0 := z
        rw [gs] at z
        have hb : skJ (A 2) (knM (A 2)) (knM (A 2) - (s + 1)) s = false := by
          cases hb : skJ (A 2) (knM (A 2)) (knM (A 2) - (s + 1)) s with
          | false => rfl
          | true => rw [hb] at z; exact absurd (by decide) z
        have z2 : ¬ 0 ≤ mi 130 (3 * s) := z2
        have h10 : A 2 1 s = 0 := by
          rcases Nat.eq_zero_or_pos (A 2 1 s) with q | q
          · exact q
          · have hb5 := hw.N s (by omega) (by omega)
            have h3 := hw.T.hl3
            rw [hNs.1] at z2
            exact absurd ((nI_predge (by omega)).mpr (by omega)) z2
        have ht := hst h10
        have ih := ih (by omega) (upd g (A 2 3 s) (nI 0)) (fun i hi => by
          rw [et]
          show _ = nI (!(if A 2 1 (knM (A 2) - 1 - (knM (A 2) - (s + 1))) = 0 ∧ skJ (A 2) (knM (A 2)) (knM (A 2) - (s + 1)) (knM (A 2) - 1 - (knM (A 2) - (s + 1))) = false ∧ i = A 2 3 (knM (A 2) - 1 - (knM (A 2) - (s + 1))) then true else skJ (A 2) (knM (A 2)) (knM (A 2) - (s + 1)) i)).toNat
          rw [ei]
          by_cases e : i = A 2 3 s
          · rw [e, pk_us, if_pos ⟨h10, hb, rfl⟩]; rfl
          · rw [pk_un e, if_neg (fun q => e q.2.2)]; exact hg i hi) (nI s + (-1)) v3 (by rw [sub1])
        rw [← cuu] at ih
        exact ⟨A 2 3 s, by omega, hNs.2.2, Or.inl rfl, hK _ _ _ _ ih⟩
  have ones : ∀ i, i ≤ knM (A 2) → ∀ g : Nat → Int32, (∀ j, j < i → g j = nI 1) → ∀ v3, GoM (d + 5) k_Mod_layTales 136 Q 2 [.ref 95, .int x, .int (nI i), v3] [] (cu mi 131 g, ml, R0 rd, 136) := by
    refine upto ?_ ?_
    · intro g hg v3
      have hN1 := hA.N.mf (mf g)
      exact g_Mod_layTales (fun K Kl hK hC => hC _ _ _ _ (t_knownBy hN1 h24 hk1 ⟨fun _ => hC _ _ _ _ (t_knownBy hN1 h24 hk1 (hK _ _ _ _ (strikes _ (Nat.le_refl _) g (fun i hi => by rw [hg i hi, Nat.sub_self]; rfl) _ _ rfl))), fun z => absurd (iNLE z) (by omega)⟩))
    · intro i hi ih g hg v3
      have hN1 := hA.N.mf (mf g)
      have ih := ih (upd g i (nI 1)) (fun j hj => by
        by_cases e : j = i
        · rw [e, pk_us]
        · rw [pk_un e]; exact hg j (by omega)) v3
      rw [nI1 i, ← cuu] at ih
      exact g_Mod_layTales (fun K Kl hK hC => hC _ _ _ _ (t_knownBy hN1 h24 hk1 ⟨fun z => absurd (iLE z) (by omega), fun _ => ⟨i, by omega, rfl, Or.inr rfl, hK _ _ _ _ ih⟩⟩))
  have l0 := ones 0 (Nat.zero_le _) (mi 131) lt_0 .null
  rw [cu_id] at l0
  exact r_Mod_layTales (by decide) (fun K Kl hK hC => hK _ _ _ _ l0)
theorem q_tales (hA : MI A mi ml) (hw : wfA A) (hQ : ∀ mi' ml', MF mi mi' → ML ml ml' → Q (some (.int (aTales A))) (mi', ml', R0 rd, 136)) : Cd (d + 7) k_Mod_tales [.ref 95] (mi, ml, R0 rd, 136) Q := by
  have hA1 := hA.mf thr0 ML.none
  unfold aTales at hQ
  refine r_Mod_tales (by decide) (fun K Kl hK hC => hC _ _ _ _ (t_layTales hA1 hw (fun mi' hf h92 _ => ⟨rfl, ?_⟩)))
  have hQ := hQ mi' ml (thr0.trans hf) ML.none
  rw [← h92] at hQ
  exact hQ
set_option maxHeartbeats 1000000 in
theorem q_tale (hA : MI A mi ml) (hw : wfA A) (hQ : ∀ mi' ml', MF mi mi' → ML ml ml' → Q (some (.int (aTale A x y))) (mi', ml', R0 rd, 136)) : Cd (d + 7) k_Mod_tale [.ref 95, .int x, .int y] (mi, ml, R0 rd, 136) Q := by
  have hA1 := hA.mf thr0 ML.none
  have h6 := hw.T.wd6
  have hfl := hw.T.fl
  unfold aTale at hQ
  refine r_Mod_tale (by decide) (fun K Kl hK hC => ⟨fun x0 => ⟨rfl, ?_⟩, fun x0 => hC _ _ _ _ (t_isIn (fun g1 g2 => ⟨fun _ => ?_, fun a => absurd a (by decide)⟩) (fun hno => ⟨fun a => absurd (by decide) a, fun _ => ⟨rfl, ?_⟩⟩))⟩)
  · rw [ixo_neg x0] at hQ
    exact hQ _ ml thr0 ML.none
  · obtain ⟨k, hk, rfl⟩ := nI_of x0
    obtain ⟨q, hq, rfl, he⟩ := ixo_rg (n := 2) (by omega) g1 g2
    rw [ixo_some hk, he] at hQ
    refine hC _ _ _ _ (t_layTales hA1 hw (fun mi' hf _ hak => ?_))
    have hQ := hQ mi' ml (thr0.trans hf) ML.none
    rcases hak with ⟨h93, hno⟩ | ⟨v, p, hv, hp, ht, hx, h93⟩
    · have hn : ¬ tlW (A 0) (A 2) k < A 0 0 4 := fun h => by
        obtain ⟨t1, t2, t3⟩ := tl_in h
        exact hno.1 _ h _ t1 t2 (by rw [← t3])
      simp only [if_neg hn] at hQ
      refine ⟨fun a => ?_, fun _ => ⟨rfl, hQ⟩⟩
      have a : 0 ≤ mi' 95 93 := a
      rw [h93] at a
      exact absurd a (by decide)
    · have b1 := tcW_le hw.T (N := A 2) v
      have b2 := tcP_le (T := A 0) (N := A 2) v p
      have hx := iEQ hx
      obtain ⟨t1, t2⟩ := tl_at hv hp ht hx
      simp only [t1, t2, if_pos hv] at hQ
      have d96 : nI (96 * v + p) / nI 96 = nI v := by rw [pk_div (by omega) (by decide) (by decide)]; congr 1; omega
      have r96 : nI (96 * v + p) - nI (96 * v + p) / nI 96 * nI 96 = nI p := by rw [pk_rem (by omega) (by decide) (by decide)]; congr 1; omega
      have d2 : nI p / nI 2 = nI (p / 2) := pk_div (by omega) (by decide) (by decide)
      have r2 : nI (96 * v + p) - nI (96 * v + p) / nI 2 * nI 2 = nI (p % 2) := by rw [pk_rem (by omega) (by decide) (by decide)]; congr 1; omega
      refine ⟨fun _ => ⟨fun a => ⟨fun b => ⟨two0, ?_⟩, fun b => ⟨by decide, two0, ?_⟩⟩, fun a => ⟨by decide, ?_⟩⟩, fun a => ?_⟩
      · rw [if_neg (iNZ a), if_neg (iNE b), ← r2, ← h93] at hQ
        exact ⟨rfl, hQ⟩
      · rw [if_neg (iNZ a), if_pos (iEQ b), ← d2, ← r96, ← h93] at hQ
        exact ⟨rfl, hQ⟩
      · rw [if_pos (iZ a), ← d96, ← h93] at hQ
        exact ⟨rfl, hQ⟩
      · have a : ¬ 0 ≤ mi' 95 93 := a
        rw [h93] at a
        exact absurd (nI_pos' (by omega)) a
  · obtain ⟨k, hk, rfl⟩ := nI_of x0
    have hn : ixo y 3 = none := hno.elim (fun h => ixo_neg h) (fun h => ixo_big (n := 2) (by omega) h)
    rw [ixo_some hk, hn] at hQ
    exact hQ _ ml thr0 ML.none
end
