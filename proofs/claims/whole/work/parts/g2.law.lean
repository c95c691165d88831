/-! THE REFERENCE READS: the whole law -/
section
variable {d : Nat} {Q : Option Value → Mm → Prop} {b : Nat → Nat} {n : Nat} {ml : Nat → Nat → Int64} {rd : Option Nat}
theorem tK_lt {b : Nat → Nat} {n j : Nat} (h : tK b n j ≠ 0) : j < n := by
  have : psN b n j < n := by
    rcases Nat.lt_or_ge (psN b n j) n with q | q
    · exact q
    · exact absurd (show tK b n j = 0 by unfold tK; rw [if_neg (by omega)]) h
  have := (psN_le (b := b) (n := n) j).2 this
  omega
set_option maxHeartbeats 2000000 in
theorem sumLp {mi0 : Nat → Nat → Int32} : ∀ f (T : Nat → Nat → Nat) c op q W j (mi : Nat → Nat → Int32), j ≤ n → n < f + j → TE b n mi → TP b n j mi → WG mi0 mi → MX T mi → T 0 18 ≠ 0 → LM T c op q W mi → LI T c op q W → RQ b n rd mi0 ml Q (pLaw (tK b n) (tV b n) (psN b n) f T c op q W j) → GoM (d + 3) k_Mod_sumRead 136 Q 25 [.ref 95] [] (mi, ml, R0 rd, 136)
  | 0, T, c, op, q, W, j, mi, h1, h2, _, _, _, _, _, _, _, _ => by omega
  | f + 1, T, c, op, q, W, j, mi, h1, h2, hE, hP, w0, hX, h18, hL, hI, hQ => by
    have hk45 := hP.2.2.k8.2.2.2.2.2.1
    have hop : op ≤ 8 := hI.b.2.2.2.2.2
    have l61 := hL.2.2.1
    have l63 := hL.2.2.2.2.1
    have leaf : q = true → ∀ P : Option Value → Mm → Prop, (∀ m2, Q (some (.int (nI 0))) (m2, ml, R0 rd, 136) → P (some (.int (nI 0))) (m2, ml, R0 rd, 136)) → (∀ m2, GoM (d + 3) k_Mod_sumRead 136 Q 25 [.ref 95] [] (m2, ml, R0 rd, 136) → P (some (.int (nI 1))) (m2, ml, R0 rd, 136)) → Cd (d + 3) k_Mod_leafRead [.ref 95] (mi, ml, R0 rd, 136) P := by
      intro eq P p0 p1
      subst eq
      refine t_leafRead hE hP hX h18 hL hI ?_
      rw [pLaw_t] at hQ
      cases hv : pVal (tK b n) (tV b n) (psN b n) T c op W j with
      | error e =>
        rw [hv] at hQ
        exact fun m2 f2 a1 a2 => p0 m2 (hQ m2 (w0.wf.trans f2) a1 a2)
      | ok s =>
        obtain ⟨T', c', o', q', W'⟩ := s
        rw [hv] at hQ
        have hx := val_lx hv
        have hj := tK_lt hx.2
        exact fun m2 w2 X2 L2 P2 => p1 m2 (sumLp f T' c' o' q' W' (j + 1) m2 (by omega) (by omega) (hE.wf w2.wf) P2 (w0.trans w2) X2 (by rw [hx.1.2 18 (by decide)]; exact h18) L2 (LI_val hI hv) hQ)
    have sign : q = false → ¬ (op = 0 ∧ tK b n j = 4) → ∀ P : Option Value → Mm → Prop, (∀ m2, Q (some (.int (nI 0))) (m2, ml, R0 rd, 136) → P (some (.int (nI 0))) (m2, ml, R0 rd, 136)) → (∀ m2, GoM (d + 3) k_Mod_sumRead 136 Q 25 [.ref 95] [] (m2, ml, R0 rd, 136) → P (some (.int (nI 1))) (m2, ml, R0 rd, 136)) → Cd (d + 3) k_Mod_signs [.ref 95] (mi, ml, R0 rd, 136) P := by
      intro eq hne P p0 p1
      subst eq
      refine t_signs hE hP hX h18 hL hI ?_
      rw [pLaw_f, if_neg hne] at hQ
      cases hv : pSgn (tK b n) (tV b n) (psN b n) T c op W j with
      | error e =>
        rw [hv] at hQ
        exact fun m2 f2 a1 a2 => p0 m2 (hQ m2 (w0.wf.trans f2) a1 a2)
      | ok s =>
        obtain ⟨T', c', o', q', W'⟩ := s
        rw [hv] at hQ
        have hx := sgn_lx hv
        have hj := tK_lt hx.2
        exact fun m2 w2 X2 L2 P2 => p1 m2 (sumLp f T' c' o' q' W' (j + 1) m2 (by omega) (by omega) (hE.wf w2.wf) P2 (w0.trans w2) X2 (by rw [hx.1.2 18 (by decide)]; exact h18) L2 (LI_sgn hI hk45 hv) hQ)
    refine g_Mod_sumRead (fun K Kl hK hC => hC _ _ _ _ (t_isSign (q := 4) hP (by decide) rfl (fun h4 => ⟨fun z => absurd z (by decide), fun _ => ⟨fun zq => ?_, fun zq => ⟨fun zo => ?_, fun zo => ?_⟩⟩⟩) (fun h4 => ⟨fun _ => ?_, fun z => absurd rfl z⟩)))
    · have eqt : q = true := by
        cases q with
        | true => rfl
        | false => exact absurd l63 zq
      refine ⟨fun z => ?_, fun z => ?_⟩
      · have eq : q = false := by
          cases q with
          | false => rfl
          | true => exact absurd (show nI 1 = 0 from l63.symm.trans z) (by decide)
        exact hC _ _ _ _ (sign eq (by rw [eqt] at eq; cases eq) _ (fun m2 h => ⟨fun y => absurd rfl y, fun _ => ⟨Or.inl rfl, rfl, h⟩⟩) (fun m2 h => ⟨fun _ => hK _ _ _ _ h, fun y => absurd y (by decide)⟩))
      · have eq : q = true := by
          cases q with
          | true => rfl
          | false => exact absurd l63 z
        exact hC _ _ _ _ (leaf eq _ (fun m2 h => ⟨fun _ => ⟨Or.inl rfl, rfl, h⟩, fun y => absurd rfl y⟩) (fun m2 h => ⟨fun y => absurd y (by decide), fun _ => hK _ _ _ _ h⟩))
    · have eqf : q = false := by
        cases q with
        | false => rfl
        | true => exact absurd (show nI 1 = 0 from l63.symm.trans zq) (by decide)
      subst eqf
      have zo : mi 95 61 ≤ 0 := zo
      rw [l61] at zo
      have zo := iLE (show nI _ ≤ nI 0 from zo)
      rw [pLaw_f, if_pos ⟨by omega, h4⟩] at hQ
      exact hC _ _ _ _ (t_bind (r := 1) rfl (by decide) (by decide) hX hL hI (fun m1 w1 t1 X1 L1 => ⟨Or.inr rfl, rfl, hQ m1 (w0.trans w1) X1 (hP.mv (t1 7 (by decide) (by decide)) (t1 8 (by decide) (by decide)) (t1 9 (by decide) (by decide)) (t1 10 (by decide) (by decide)))⟩))
    · have zo : ¬ mi 95 61 ≤ 0 := zo
      rw [l61] at zo
      have zo := iNLE (show ¬ nI _ ≤ nI 0 from zo)
      refine ⟨fun z => ?_, fun z => ?_⟩
      · have eq : q = false := by
          cases q with
          | false => rfl
          | true => exact absurd (show nI 1 = 0 from l63.symm.trans z) (by decide)
        exact hC _ _ _ _ (sign eq (by omega) _ (fun m2 h => ⟨fun y => absurd rfl y, fun _ => ⟨Or.inl rfl, rfl, h⟩⟩) (fun m2 h => ⟨fun _ => hK _ _ _ _ h, fun y => absurd y (by decide)⟩))
      · have eq : q = true := by
          cases q with
          | true => rfl
          | false => exact absurd l63 z
        exact hC _ _ _ _ (leaf eq _ (fun m2 h => ⟨fun _ => ⟨Or.inl rfl, rfl, h⟩, fun y => absurd rfl y⟩) (fun m2 h => ⟨fun y => absurd y (by decide), fun _ => hK _ _ _ _ h⟩))
    · refine ⟨fun z => ?_, fun z => ?_⟩
      · have eq : q = false := by
          cases q with
          | false => rfl
          | true => exact absurd (show nI 1 = 0 from l63.symm.trans z) (by decide)
        exact hC _ _ _ _ (sign eq (by omega) _ (fun m2 h => ⟨fun y => absurd rfl y, fun _ => ⟨Or.inl rfl, rfl, h⟩⟩) (fun m2 h => ⟨fun _ => hK _ _ _ _ h, fun y => absurd y (by decide)⟩))
      · have eq : q = true := by
          cases q with
          | true => rfl
          | false => exact absurd l63 z
        exact hC _ _ _ _ (leaf eq _ (fun m2 h => ⟨fun _ => ⟨Or.inl rfl, rfl, h⟩, fun y => absurd rfl y⟩) (fun m2 h => ⟨fun y => absurd y (by decide), fun _ => hK _ _ _ _ h⟩))
theorem t_sumRead {T : Nat → Nat → Nat} {j : Nat} {mi : Nat → Nat → Int32} (hn : n ≤ 700) (hj : j ≤ n) (hE : TE b n mi) (hP : TP b n j mi) (hX : MX T mi) (h18 : T 0 18 ≠ 0) (h9 : T 0 9 = 0) (e62 : mi 95 62 = nI 0) (hQ : RQ b n rd mi ml Q (pLaw (tK b n) (tV b n) (psN b n) 701 T 0 0 true [] j)) : Cd (d + 4) k_Mod_sumRead [.ref 95] (mi, ml, R0 rd, 136) Q := by
  refine r_Mod_sumRead (by decide) (fun K Kl hK hC => ⟨Or.inr rfl, Or.inr rfl, hK _ _ _ _ (sumLp 701 T 0 0 true [] j _ hj (by omega) (hE.mv rfl rfl rfl) (hP.mv rfl rfl rfl rfl) (((((WG.none.cu rfl).cu rfl).cu rfl).cu rfl).cu rfl) (hX.mv (fun k hk => ?_) (fun c _ _ => ?_)) h18 ⟨rfl, ?_, rfl, e62, rfl, fun _ => rfl, trivial, ?_⟩ (LI_0 h9) hQ)⟩)
  · show upd (upd (upd (upd (upd (mi 95) 59 _) 60 _) 61 _) 63 _) 64 _ k = _
    rw [pk_un (by omega), pk_un (by omega), pk_un (by omega), pk_un (by omega), pk_un (by omega)]
  · rw [cu_ne (by omega), cu_ne (by omega), cu_ne (by omega), cu_ne (by omega), cu_ne (by omega)]
  · show nI 0 = _
    rw [h9]; rfl
  · rw [h9]; exact trivial
end
