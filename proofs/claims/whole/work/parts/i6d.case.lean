section
variable {Kl : Nat → List Value → Mm → (Option Value → Mm → Prop) → Prop} {K : Nat → List Value → List Value → Mm → Prop} {L : Nat} {xs : Nat → Int32} {i : Nat} {A : St} {mi : Nat → Nat → Int32} {ml : Nat → Nat → Int64} {rd : Option Nat} {v5 v6 : Value}
set_option maxRecDepth 20000 in
theorem lc_22 (H : CsH Kl K L xs i) (hA : CI A mi) (hM : MI A mi ml) (hw : wfA A) : CsG Kl K 1142 i v5 v6 [] (mi, ml, R0 rd, 136) := by
  refine H.sc 1 (by decide) (H.cd (p_hang hA hw (fun mi1 f0 f1 => ?_)))
  refine H.sc 1 (by decide) (H.cd (q_hang (hM.up f1 Up.none) hw (fun mi2 g0 g1 => ⟨fun _ => ?_, fun a => absurd rfl a⟩)))
  exact H.2.2.2 _ _ _ _ _ _ (f0.lo g1) g0 (wf_hang hw _)
set_option maxRecDepth 20000 in
theorem lc_23 (H : CsH Kl K L xs i) (hA : CI A mi) (hM : MI A mi ml) (hw : wfA A) : CsG Kl K 1167 i v5 v6 [] (mi, ml, R0 rd, 136) := by
  refine H.sc 1 (by decide) (H.cd (p_lower hA hw (fun mi1 f0 f1 => ?_)))
  refine H.sc 1 (by decide) (H.cd (q_lower (hM.up f1 Up.none) hw (fun mi2 g0 g1 => ⟨fun _ => ?_, fun a => absurd rfl a⟩)))
  exact H.2.2.2 _ _ _ _ _ _ (f0.lo g1) g0 (wf_lower hw _)
set_option maxRecDepth 20000 in
theorem lc_24 (H : CsH Kl K L xs i) (hA : CI A mi) (hM : MI A mi ml) (hw : wfA A) : CsG Kl K 1192 i v5 v6 [] (mi, ml, R0 rd, 136) := by
  refine H.sc 1 (by decide) (H.cd (p_pieces hA hw ?_))
  refine H.sc 1 (by decide) (H.cd (q_pieces hM hw (fun mi2 ml2 g1 g2 => ⟨fun _ => ?_, fun a => absurd rfl a⟩)))
  exact H.2.2.2 _ _ _ _ _ _ (hA.lo g1.lo) (hM.mf g1 g2) hw
set_option maxRecDepth 20000 in
theorem lc_25 (H : CsH Kl K L xs i) (hA : CI A mi) (hM : MI A mi ml) (hw : wfA A) : CsG Kl K 1217 i v5 v6 [] (mi, ml, R0 rd, 136) := by
  refine H.sc 1 (by decide) (H.cd (p_wants hA hw ?_))
  refine H.sc 1 (by decide) (H.cd (q_wants hM hw (fun mi2 ml2 g1 g2 => ⟨fun _ => ?_, fun a => absurd rfl a⟩)))
  exact H.2.2.2 _ _ _ _ _ _ (hA.lo g1.lo) (hM.mf g1 g2) hw
set_option maxRecDepth 20000 in
theorem lc_26 (H : CsH Kl K L xs i) (hA : CI A mi) (hM : MI A mi ml) (hw : wfA A) : CsG Kl K 1242 i v5 v6 [] (mi, ml, R0 rd, 136) := by
  refine H.sc 1 (by decide) (H.sc 2 (by decide) (H.cd (p_meant hA hw ?_)))
  refine H.sc 1 (by decide) (H.sc 2 (by decide) (H.cd (q_meant hM hw (fun mi2 ml2 g1 g2 => ⟨fun _ => ?_, fun a => absurd rfl a⟩))))
  exact H.2.2.2 _ _ _ _ _ _ (hA.lo g1.lo) (hM.mf g1 g2) hw
set_option maxRecDepth 20000 in
theorem lc_27 (H : CsH Kl K L xs i) (hA : CI A mi) (hM : MI A mi ml) (hw : wfA A) : CsG Kl K 1279 i v5 v6 [] (mi, ml, R0 rd, 136) := by
  refine H.cd (p_apart hA hw ?_)
  refine H.cd (q_apart hM hw (fun mi2 ml2 g1 g2 => ⟨fun _ => ?_, fun a => absurd rfl a⟩))
  exact H.2.2.2 _ _ _ _ _ _ (hA.lo g1.lo) (hM.mf g1 g2) hw
set_option maxRecDepth 20000 in
theorem lc_28 (H : CsH Kl K L xs i) (hA : CI A mi) (hM : MI A mi ml) (hw : wfA A) : CsG Kl K 1292 i v5 v6 [] (mi, ml, R0 rd, 136) := by
  refine H.sc 1 (by decide) (H.sc 2 (by decide) (H.cd (p_news hA hw (fun mi1 ml1 f1 f2 => ?_))))
  refine H.sc 1 (by decide) (H.sc 2 (by decide) (H.cd (q_news (hM.up (frSC f1) (fr36 f2)) hw (fun mi2 ml2 g1 g2 => ⟨fun _ => ?_, fun a => absurd rfl a⟩))))
  exact H.2.2.2 _ _ _ _ _ _ ((hA.fr f1).lo g1.lo) ((hM.up (frSC f1) (fr36 f2)).mf g1 g2) hw
end
