section
variable {Kl : Nat → List Value → Mm → (Option Value → Mm → Prop) → Prop} {K : Nat → List Value → List Value → Mm → Prop} {L : Nat} {xs : Nat → Int32} {i : Nat} {A : St} {mi : Nat → Nat → Int32} {ml : Nat → Nat → Int64} {rd : Option Nat} {v5 v6 : Value}
set_option maxRecDepth 20000 in
theorem lc_8 (H : CsH Kl K L xs i) (hA : CI A mi) (hM : MI A mi ml) (hw : wfA A) : CsG Kl K 551 i v5 v6 [] (mi, ml, R0 rd, 136) := by
  refine H.sc 1 (by decide) (H.sc 2 (by decide) (H.cd (p_taken hA hw ?_)))
  refine H.sc 1 (by decide) (H.sc 2 (by decide) (H.cd (q_taken hM hw (fun mi2 ml2 g1 g2 => ⟨fun _ => ?_, fun a => absurd rfl a⟩))))
  exact H.2.2.2 _ _ _ _ _ _ (hA.lo g1.lo) (hM.mf g1 g2) hw
set_option maxRecDepth 20000 in
theorem lc_9 (H : CsH Kl K L xs i) (hA : CI A mi) (hM : MI A mi ml) (hw : wfA A) : CsG Kl K 588 i v5 v6 [] (mi, ml, R0 rd, 136) := by
  refine H.sc 1 (by decide) (H.cd (p_law hA hw (fun mi1 ml1 f1 f2 => ?_)))
  refine H.sc 1 (by decide) (H.cd (q_law (hM.up (frSC f1) (fr36 f2)) hw (fun mi2 ml2 g1 g2 => ⟨fun _ => ?_, fun a => absurd (lg_cmp_rf _) a⟩)))
  exact H.2.2.2 _ _ _ _ _ _ ((hA.fr f1).lo g1.lo) ((hM.up (frSC f1) (fr36 f2)).mf g1 g2) hw
set_option maxRecDepth 20000 in
theorem lc_10 (H : CsH Kl K L xs i) (hA : CI A mi) (hM : MI A mi ml) (hw : wfA A) : CsG Kl K 614 i v5 v6 [] (mi, ml, R0 rd, 136) := by
  refine H.sc 1 (by decide) (H.sc 2 (by decide) (H.sc 3 (by decide) (H.cd (p_cost hA hw ?_))))
  refine H.sc 1 (by decide) (H.sc 2 (by decide) (H.sc 3 (by decide) (H.cd (q_cost hM hw (fun mi2 ml2 g1 g2 => ⟨fun _ => ?_, fun a => absurd rfl a⟩)))))
  exact H.2.2.2 _ _ _ _ _ _ (hA.lo g1.lo) (hM.mf g1 g2) hw
set_option maxRecDepth 20000 in
theorem lc_11 (H : CsH Kl K L xs i) (hA : CI A mi) (hM : MI A mi ml) (hw : wfA A) : CsG Kl K 663 i v5 v6 [] (mi, ml, R0 rd, 136) := by
  refine H.sc 1 (by decide) (H.sc 2 (by decide) (H.sc 3 (by decide) (H.cd (p_set hA hw (fun mi1 f0 f1 => ?_)))))
  refine H.sc 1 (by decide) (H.sc 2 (by decide) (H.sc 3 (by decide) (H.cd (q_set (hM.up f1 Up.none) hw (fun mi2 g0 g1 => ⟨fun _ => ?_, fun a => absurd rfl a⟩)))))
  exact H.2.2.2 _ _ _ _ _ _ (f0.lo g1) g0 (wf_set hw _ _ _)
set_option maxRecDepth 20000 in
theorem lc_12 (H : CsH Kl K L xs i) (hA : CI A mi) (hM : MI A mi ml) (hw : wfA A) : CsG Kl K 712 i v5 v6 [] (mi, ml, R0 rd, 136) := by
  refine H.sc 1 (by decide) (H.sc 2 (by decide) (H.cd (p_stack hA hw (fun mi1 f0 f1 => ?_))))
  refine H.sc 1 (by decide) (H.sc 2 (by decide) (H.cd (q_stack (hM.up f1 Up.none) hw (fun mi2 g0 g1 => ⟨fun _ => ?_, fun a => absurd rfl a⟩))))
  exact H.2.2.2 _ _ _ _ _ _ (f0.lo g1) g0 (wf_stack hw _ _)
set_option maxRecDepth 20000 in
theorem lc_13 (H : CsH Kl K L xs i) (hA : CI A mi) (hM : MI A mi ml) (hw : wfA A) : CsG Kl K 749 i v5 v6 [] (mi, ml, R0 rd, 136) := by
  refine H.sc 1 (by decide) (H.cd (p_days hA hw (fun mi1 ml1 f0 f1 f2 => ?_)))
  refine H.sc 1 (by decide) (H.cd (q_days (hM.up f1 f2) hw (fun mi2 ml2 g0 g1 g2 => ⟨fun _ => ?_, fun a => absurd rfl a⟩)))
  exact H.2.2.2 _ _ _ _ _ _ (f0.lo g1) g0 (wf_days hw _)
set_option maxRecDepth 20000 in
theorem lc_14 (H : CsH Kl K L xs i) (hA : CI A mi) (hM : MI A mi ml) (hw : wfA A) : CsG Kl K 774 i v5 v6 [] (mi, ml, R0 rd, 136) := by
  refine H.sc 1 (by decide) (H.sc 2 (by decide) (H.cd (p_stands hA hw (fun mi1 ml1 f1 f2 => ?_))))
  refine H.sc 1 (by decide) (H.sc 2 (by decide) (H.cd (q_stands (hM.up (frSC f1) (fr36 f2)) hw (fun mi2 ml2 g1 g2 => ⟨fun _ => ?_, fun a => absurd rfl a⟩))))
  exact H.2.2.2 _ _ _ _ _ _ ((hA.fr f1).lo g1.lo) ((hM.up (frSC f1) (fr36 f2)).mf g1 g2) hw
end
