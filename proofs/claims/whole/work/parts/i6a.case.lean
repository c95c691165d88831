/-! THE CASES OF THE LAW'S LOOP (written by a program) -/
abbrev CsG (Kl : Nat → List Value → Mm → (Option Value → Mm → Prop) → Prop) (K : Nat → List Value → List Value → Mm → Prop) (pc i : Nat) (v5 v6 : Value) (st : List Value) (M : Mm) : Prop := GnN Kl mcT 2 136 (fun r _ => r = some (.int 1)) K m_L 989 (sfx m_L pc) [.ref 901, .ref 0, .ref 95, .ref 135, .int (nI i), v5, v6] st M
/-- what a case may use, and where it ends -/
abbrev CsH (Kl : Nat → List Value → Mm → (Option Value → Mm → Prop) → Prop) (K : Nat → List Value → List Value → Mm → Prop) (L : Nat) (xs : Nat → Int32) (i : Nat) : Prop := (∀ k as M P, ClL 12 L xs k as M P → Kl k as M P) ∧ i + 6 ≤ L ∧ L ≤ 3072 ∧ ∀ (A : St) (mi : Nat → Nat → Int32) (ml : Nat → Nat → Int64) (rd : Option Nat) (v5 v6 : Value), CI A mi → MI A mi ml → wfA A → K 23 [.ref 901, .ref 0, .ref 95, .ref 135, .int (nI i + nI 6), v5, v6] [] (mi, ml, R0 rd, 136)
theorem CsH.cd {Kl : Nat → List Value → Mm → (Option Value → Mm → Prop) → Prop} {K : Nat → List Value → List Value → Mm → Prop} {L : Nat} {xs : Nat → Int32} {i : Nat} (h : CsH Kl K L xs i) {k : Nat} {as : List Value} {M : Mm} {P : Option Value → Mm → Prop} (q : Cd 12 k as M P) : Kl k as M P := h.1 _ _ _ _ (Or.inl q)
theorem CsH.sc {Kl : Nat → List Value → Mm → (Option Value → Mm → Prop) → Prop} {K : Nat → List Value → List Value → Mm → Prop} {L : Nat} {xs : Nat → Int32} {i : Nat} (h : CsH Kl K L xs i) (k : Nat) (hk : k < 6) {M : Mm} {P : Option Value → Mm → Prop} (q : P (some (.int (xs (i + k)))) M) : Kl 2000 [.ref 901, .int (nI i + nI k)] M P := by
  obtain ⟨hC, hi, hL, -⟩ := h
  refine hC _ _ _ _ (Or.inr (Or.inl ⟨rfl, i + k, by omega, ?_, q⟩))
  rw [nI_add]
theorem lg_cmp_rf (x : Int64) : lg_cmp x x = 0 := by
  unfold lg_cmp
  rw [if_neg (by simp), if_pos rfl]
section
variable {Kl : Nat → List Value → Mm → (Option Value → Mm → Prop) → Prop} {K : Nat → List Value → List Value → Mm → Prop} {L : Nat} {xs : Nat → Int32} {i : Nat} {A : St} {mi : Nat → Nat → Int32} {ml : Nat → Nat → Int64} {rd : Option Nat} {v5 v6 : Value}
set_option maxRecDepth 20000 in
theorem lc_0 (H : CsH Kl K L xs i) (hA : CI A mi) (hM : MI A mi ml) (hw : wfA A) : CsG Kl K 224 i v5 v6 [] (mi, ml, R0 rd, 136) := by
  refine H.sc 1 (by decide) (H.sc 2 (by decide) (H.sc 3 (by decide) (H.sc 4 (by decide) (H.sc 5 (by decide) (H.cd (p_feed hA hw (fun mi1 f0 f1 => ?_)))))))
  refine H.sc 1 (by decide) (H.sc 2 (by decide) (H.sc 3 (by decide) (H.sc 4 (by decide) (H.sc 5 (by decide) (H.cd (q_feed (hM.up f1 Up.none) hw (fun mi2 g0 g1 => ⟨fun _ => ?_, fun a => absurd rfl a⟩)))))))
  exact H.2.2.2 _ _ _ _ _ _ (f0.lo g1) g0 (wf_feed hw _ _ _ _ _)
set_option maxRecDepth 20000 in
theorem lc_1 (H : CsH Kl K L xs i) (hA : CI A mi) (hM : MI A mi ml) (hw : wfA A) : CsG Kl K 297 i v5 v6 [] (mi, ml, R0 rd, 136) := by
  refine H.sc 1 (by decide) (H.cd (p_text hA hw (fun mi1 ml1 rd1 f0 f1 f2 => ?_)))
  refine H.sc 1 (by decide) (H.cd (q_text (hM.up f1 f2) hw (fun mi2 ml2 g0 g1 g2 => ⟨fun _ => ?_, fun a => absurd rfl a⟩)))
  exact H.2.2.2 _ _ _ _ _ _ (f0.lo g1) g0 (wf_text hw _)
set_option maxRecDepth 20000 in
theorem lc_2 (H : CsH Kl K L xs i) (hA : CI A mi) (hM : MI A mi ml) (hw : wfA A) : CsG Kl K 322 i v5 v6 [] (mi, ml, R0 rd, 136) := by
  refine H.sc 1 (by decide) (H.cd (p_fault hA ?_))
  refine H.sc 1 (by decide) (H.cd (q_fault hM (fun mi2 ml2 g1 g2 => ⟨fun _ => ?_, fun a => absurd rfl a⟩)))
  exact H.2.2.2 _ _ _ _ _ _ (hA.lo g1.lo) (hM.mf g1 g2) hw
set_option maxRecDepth 20000 in
theorem lc_3 (H : CsH Kl K L xs i) (hA : CI A mi) (hM : MI A mi ml) (hw : wfA A) : CsG Kl K 347 i v5 v6 [] (mi, ml, R0 rd, 136) := by
  refine H.sc 1 (by decide) (H.sc 2 (by decide) (H.cd (p_named hA hw ?_)))
  refine H.sc 1 (by decide) (H.sc 2 (by decide) (H.cd (q_named hM hw (fun mi2 ml2 g1 g2 => ⟨fun _ => ?_, fun a => absurd rfl a⟩))))
  exact H.2.2.2 _ _ _ _ _ _ (hA.lo g1.lo) (hM.mf g1 g2) hw
set_option maxRecDepth 20000 in
theorem lc_5 (H : CsH Kl K L xs i) (hA : CI A mi) (hM : MI A mi ml) (hw : wfA A) : CsG Kl K 452 i v5 v6 [] (mi, ml, R0 rd, 136) := by
  refine H.sc 1 (by decide) (H.cd (p_shape hA ?_))
  refine H.sc 1 (by decide) (H.cd (q_shape hM hw (fun mi2 ml2 g1 g2 => ⟨fun _ => ?_, fun a => absurd rfl a⟩)))
  exact H.2.2.2 _ _ _ _ _ _ (hA.lo g1.lo) (hM.mf g1 g2) hw
set_option maxRecDepth 20000 in
theorem lc_6 (H : CsH Kl K L xs i) (hA : CI A mi) (hM : MI A mi ml) (hw : wfA A) : CsG Kl K 477 i v5 v6 [] (mi, ml, R0 rd, 136) := by
  refine H.sc 1 (by decide) (H.sc 2 (by decide) (H.cd (p_seen hA hw ?_)))
  refine H.sc 1 (by decide) (H.sc 2 (by decide) (H.cd (q_seen hM hw (fun mi2 ml2 g1 g2 => ⟨fun _ => ?_, fun a => absurd rfl a⟩))))
  exact H.2.2.2 _ _ _ _ _ _ (hA.lo g1.lo) (hM.mf g1 g2) hw
set_option maxRecDepth 20000 in
theorem lc_7 (H : CsH Kl K L xs i) (hA : CI A mi) (hM : MI A mi ml) (hw : wfA A) : CsG Kl K 514 i v5 v6 [] (mi, ml, R0 rd, 136) := by
  refine H.sc 1 (by decide) (H.sc 2 (by decide) (H.cd (p_read hA hw ?_)))
  refine H.sc 1 (by decide) (H.sc 2 (by decide) (H.cd (q_read hM hw (fun mi2 ml2 g1 g2 => ⟨fun _ => ?_, fun a => absurd rfl a⟩))))
  exact H.2.2.2 _ _ _ _ _ _ (hA.lo g1.lo) (hM.mf g1 g2) hw
end
