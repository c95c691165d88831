section
variable {Kl : Nat → List Value → Mm → (Option Value → Mm → Prop) → Prop} {K : Nat → List Value → List Value → Mm → Prop} {L : Nat} {xs : Nat → Int32} {i : Nat} {A : St} {mi : Nat → Nat → Int32} {ml : Nat → Nat → Int64} {rd : Option Nat} {v5 v6 : Value}
set_option maxRecDepth 20000 in
theorem lc_36 (H : CsH Kl K L xs i) (hA : CI A mi) (hM : MI A mi ml) (hw : wfA A) : CsG Kl K 1576 i v5 v6 [] (mi, ml, R0 rd, 136) := by
  refine H.sc 1 (by decide) (H.sc 2 (by decide) (H.cd (p_tale hA hw (fun mi1 ml1 f1 f2 => ?_))))
  refine H.sc 1 (by decide) (H.sc 2 (by decide) (H.cd (q_tale (hM.up (frSC f1) (fr36 f2)) hw (fun mi2 ml2 g1 g2 => ⟨fun _ => ?_, fun a => absurd rfl a⟩))))
  exact H.2.2.2 _ _ _ _ _ _ ((hA.fr f1).lo g1.lo) ((hM.up (frSC f1) (fr36 f2)).mf g1 g2) hw
set_option maxRecDepth 20000 in
theorem lc_37 (H : CsH Kl K L xs i) (hA : CI A mi) (hM : MI A mi ml) (hw : wfA A) : CsG Kl K 1613 i v5 v6 [] (mi, ml, R0 rd, 136) := by
  refine H.sc 1 (by decide) (H.sc 2 (by decide) (H.sc 3 (by decide) (H.cd (p_tried hA hw (fun mi1 ml1 f1 f2 => ?_)))))
  refine H.sc 1 (by decide) (H.sc 2 (by decide) (H.sc 3 (by decide) (H.cd (q_tried (hM.up (frSC f1) (fr36 f2)) hw (fun mi2 ml2 g1 g2 => ⟨fun _ => ?_, fun a => absurd rfl a⟩)))))
  exact H.2.2.2 _ _ _ _ _ _ ((hA.fr f1).lo g1.lo) ((hM.up (frSC f1) (fr36 f2)).mf g1 g2) hw
set_option maxRecDepth 20000 in
theorem lc_38 (H : CsH Kl K L xs i) (hA : CI A mi) (hM : MI A mi ml) (hw : wfA A) : CsG Kl K 1662 i v5 v6 [] (mi, ml, R0 rd, 136) := by
  refine H.cd (p_undo hA hw (fun mi1 f0 f1 => ?_))
  refine H.cd (q_undo (hM.up f1 Up.none) hw (fun mi2 g0 g1 => ⟨fun _ => ?_, fun a => absurd rfl a⟩))
  exact H.2.2.2 _ _ _ _ _ _ (f0.lo g1) g0 (wf_undo hw)
set_option maxRecDepth 20000 in
theorem lc_39 (H : CsH Kl K L xs i) (hA : CI A mi) (hM : MI A mi ml) (hw : wfA A) : CsG Kl K 1675 i v5 v6 [] (mi, ml, R0 rd, 136) := by
  refine H.cd (p_keep hA (fun mi1 f0 f1 => ?_))
  refine H.cd (q_keep (hM.up f1 Up.none) hw (fun mi2 ml2 g0 g1 g2 => ⟨fun _ => ?_, fun a => absurd rfl a⟩))
  exact H.2.2.2 _ _ _ _ _ _ (f0.lo g1) g0 (wf_keep hw)
set_option maxRecDepth 20000 in
theorem lc_40 (H : CsH Kl K L xs i) (hA : CI A mi) (hM : MI A mi ml) (hw : wfA A) : CsG Kl K 1688 i v5 v6 [] (mi, ml, R0 rd, 136) := by
  refine H.cd (p_back hA hw (fun mi1 f0 f1 => ?_))
  refine H.cd (q_back (hM.up f1 Up.none) hw (fun mi2 ml2 g0 g1 g2 => ⟨fun _ => ?_, fun a => absurd rfl a⟩))
  exact H.2.2.2 _ _ _ _ _ _ (f0.lo g1) g0 (wf_back hw)
set_option maxRecDepth 20000 in
theorem lc_41 (H : CsH Kl K L xs i) (hA : CI A mi) (hM : MI A mi ml) (hw : wfA A) : CsG Kl K 1701 i v5 v6 [] (mi, ml, R0 rd, 136) := by
  refine H.sc 1 (by decide) (H.cd (p_count hA hw ?_))
  refine H.sc 1 (by decide) (H.cd (q_count hM hw (fun mi2 ml2 g1 g2 => ⟨fun _ => ?_, fun a => absurd rfl a⟩)))
  exact H.2.2.2 _ _ _ _ _ _ (hA.lo g1.lo) (hM.mf g1 g2) hw
end
