section
variable {Kl : Nat → List Value → Mm → (Option Value → Mm → Prop) → Prop} {K : Nat → List Value → List Value → Mm → Prop} {L : Nat} {xs : Nat → Int32} {i : Nat} {A : St} {mi : Nat → Nat → Int32} {ml : Nat → Nat → Int64} {rd : Option Nat} {v5 v6 : Value}
set_option maxRecDepth 20000 in
theorem lc_29 (H : CsH Kl K L xs i) (hA : CI A mi) (hM : MI A mi ml) (hw : wfA A) : CsG Kl K 1329 i v5 v6 [] (mi, ml, R0 rd, 136) := by
  refine H.sc 1 (by decide) (H.sc 2 (by decide) (H.cd (p_maybe hA hw ?_)))
  refine H.sc 1 (by decide) (H.sc 2 (by decide) (H.cd (q_maybe hM hw (fun mi2 ml2 g1 g2 => ⟨fun _ => ?_, fun a => absurd rfl a⟩))))
  exact H.2.2.2 _ _ _ _ _ _ (hA.lo g1.lo) (hM.mf g1 g2) hw
set_option maxRecDepth 20000 in
theorem lc_30 (H : CsH Kl K L xs i) (hA : CI A mi) (hM : MI A mi ml) (hw : wfA A) : CsG Kl K 1366 i v5 v6 [] (mi, ml, R0 rd, 136) := by
  refine H.sc 1 (by decide) (H.sc 2 (by decide) (H.sc 3 (by decide) (H.cd (p_maystand hA hw ?_))))
  refine H.sc 1 (by decide) (H.sc 2 (by decide) (H.sc 3 (by decide) (H.cd (q_maystand hM hw (fun mi2 ml2 g1 g2 => ⟨fun _ => ?_, fun a => absurd rfl a⟩)))))
  exact H.2.2.2 _ _ _ _ _ _ (hA.lo g1.lo) (hM.mf g1 g2) hw
set_option maxRecDepth 20000 in
theorem lc_31 (H : CsH Kl K L xs i) (hA : CI A mi) (hM : MI A mi ml) (hw : wfA A) : CsG Kl K 1415 i v5 v6 [] (mi, ml, R0 rd, 136) := by
  refine H.sc 1 (by decide) (H.sc 2 (by decide) (H.sc 3 (by decide) (H.cd (p_likeliest hA hw ?_))))
  refine H.sc 1 (by decide) (H.sc 2 (by decide) (H.sc 3 (by decide) (H.cd (q_likeliest hM hw (fun mi2 ml2 g1 g2 => ⟨fun _ => ?_, fun a => absurd rfl a⟩)))))
  exact H.2.2.2 _ _ _ _ _ _ (hA.lo g1.lo) (hM.mf g1 g2) hw
set_option maxRecDepth 20000 in
theorem lc_32 (H : CsH Kl K L xs i) (hA : CI A mi) (hM : MI A mi ml) (hw : wfA A) : CsG Kl K 1464 i v5 v6 [] (mi, ml, R0 rd, 136) := by
  refine H.sc 1 (by decide) (H.sc 2 (by decide) (H.sc 3 (by decide) (H.cd (p_note hA hw (fun mi1 f0 f1 => ?_)))))
  refine H.sc 1 (by decide) (H.sc 2 (by decide) (H.sc 3 (by decide) (H.cd (q_note (hM.up f1 Up.none) hw (fun mi2 g0 g1 => ⟨fun _ => ?_, fun a => absurd rfl a⟩)))))
  exact H.2.2.2 _ _ _ _ _ _ (f0.lo g1) g0 (wf_note hw _ _ _)
set_option maxRecDepth 20000 in
theorem lc_33 (H : CsH Kl K L xs i) (hA : CI A mi) (hM : MI A mi ml) (hw : wfA A) : CsG Kl K 1513 i v5 v6 [] (mi, ml, R0 rd, 136) := by
  refine H.sc 1 (by decide) (H.cd (p_strike hA hw (fun mi1 f0 f1 => ?_)))
  refine H.sc 1 (by decide) (H.cd (q_strike (hM.up f1 Up.none) hw (fun mi2 g0 g1 => ⟨fun _ => ?_, fun a => absurd rfl a⟩)))
  exact H.2.2.2 _ _ _ _ _ _ (f0.lo g1) g0 (wf_strike hw _)
set_option maxRecDepth 20000 in
theorem lc_34 (H : CsH Kl K L xs i) (hA : CI A mi) (hM : MI A mi ml) (hw : wfA A) : CsG Kl K 1538 i v5 v6 [] (mi, ml, R0 rd, 136) := by
  refine H.sc 1 (by decide) (H.cd (p_known hA hw (fun mi1 f0 f1 => ?_)))
  refine H.sc 1 (by decide) (H.cd (q_known (hM.up f1 Up.none) hw (fun mi2 g0 g1 => ⟨fun _ => ?_, fun a => absurd rfl a⟩)))
  exact H.2.2.2 _ _ _ _ _ _ (f0.lo g1) g0 (wf_known hw _)
set_option maxRecDepth 20000 in
theorem lc_35 (H : CsH Kl K L xs i) (hA : CI A mi) (hM : MI A mi ml) (hw : wfA A) : CsG Kl K 1563 i v5 v6 [] (mi, ml, R0 rd, 136) := by
  refine H.cd (p_tales hA hw (fun mi1 ml1 f1 f2 => ?_))
  refine H.cd (q_tales (hM.up (frSC f1) (fr36 f2)) hw (fun mi2 ml2 g1 g2 => ⟨fun _ => ?_, fun a => absurd rfl a⟩))
  exact H.2.2.2 _ _ _ _ _ _ ((hA.fr f1).lo g1.lo) ((hM.up (frSC f1) (fr36 f2)).mf g1 g2) hw
end
