section
variable {Kl : Nat → List Value → Mm → (Option Value → Mm → Prop) → Prop} {K : Nat → List Value → List Value → Mm → Prop} {L : Nat} {xs : Nat → Int32} {i : Nat} {A : St} {mi : Nat → Nat → Int32} {ml : Nat → Nat → Int64} {rd : Option Nat} {v5 v6 : Value}
set_option maxRecDepth 20000 in
theorem lc_15 (H : CsH Kl K L xs i) (hA : CI A mi) (hM : MI A mi ml) (hw : wfA A) : CsG Kl K 811 i v5 v6 [] (mi, ml, R0 rd, 136) := by
  refine H.sc 1 (by decide) (H.sc 2 (by decide) (H.cd (p_cheapest hA hw (fun mi1 ml1 f1 f2 => ?_))))
  refine H.sc 1 (by decide) (H.sc 2 (by decide) (H.cd (q_cheapest (hM.up (frSC f1) (fr36 f2)) hw (fun mi2 ml2 g1 g2 => ⟨fun _ => ?_, fun a => absurd rfl a⟩))))
  exact H.2.2.2 _ _ _ _ _ _ ((hA.fr f1).lo g1.lo) ((hM.up (frSC f1) (fr36 f2)).mf g1 g2) hw
set_option maxRecDepth 20000 in
theorem lc_16 (H : CsH Kl K L xs i) (hA : CI A mi) (hM : MI A mi ml) (hw : wfA A) : CsG Kl K 848 i v5 v6 [] (mi, ml, R0 rd, 136) := by
  refine H.sc 1 (by decide) (H.sc 2 (by decide) (H.sc 3 (by decide) (H.cd (p_crossed hA hw (fun mi1 ml1 f1 f2 => ?_)))))
  refine H.sc 1 (by decide) (H.sc 2 (by decide) (H.sc 3 (by decide) (H.cd (q_crossed (hM.up (frSC f1) (fr36 f2)) hw (fun mi2 ml2 g1 g2 => ⟨fun _ => ?_, fun a => absurd rfl a⟩)))))
  exact H.2.2.2 _ _ _ _ _ _ ((hA.fr f1).lo g1.lo) ((hM.up (frSC f1) (fr36 f2)).mf g1 g2) hw
set_option maxRecDepth 20000 in
theorem lc_17 (H : CsH Kl K L xs i) (hA : CI A mi) (hM : MI A mi ml) (hw : wfA A) : CsG Kl K 897 i v5 v6 [] (mi, ml, R0 rd, 136) := by
  refine H.sc 1 (by decide) (H.sc 2 (by decide) (H.sc 3 (by decide) (H.sc 4 (by decide) (H.cd (p_life hA hw (fun mi1 ml1 f1 f2 => ?_))))))
  refine H.sc 1 (by decide) (H.sc 2 (by decide) (H.sc 3 (by decide) (H.sc 4 (by decide) (H.cd (q_life (hM.up (frSC f1) (fr36 f2)) hw (fun mi2 ml2 g1 g2 => ⟨fun _ => ?_, fun a => absurd rfl a⟩))))))
  exact H.2.2.2 _ _ _ _ _ _ ((hA.fr f1).lo g1.lo) ((hM.up (frSC f1) (fr36 f2)).mf g1 g2) hw
set_option maxRecDepth 20000 in
theorem lc_18 (H : CsH Kl K L xs i) (hA : CI A mi) (hM : MI A mi ml) (hw : wfA A) : CsG Kl K 958 i v5 v6 [] (mi, ml, R0 rd, 136) := by
  refine H.sc 1 (by decide) (H.sc 2 (by decide) (H.cd (p_pays hA hw (fun mi1 ml1 f1 f2 => ?_))))
  refine H.sc 1 (by decide) (H.sc 2 (by decide) (H.cd (q_pays (hM.up (frSC f1) (fr36 f2)) hw (fun mi2 ml2 g1 g2 => ⟨fun _ => ?_, fun a => absurd rfl a⟩))))
  exact H.2.2.2 _ _ _ _ _ _ ((hA.fr f1).lo g1.lo) ((hM.up (frSC f1) (fr36 f2)).mf g1 g2) hw
set_option maxRecDepth 20000 in
theorem lc_19 (H : CsH Kl K L xs i) (hA : CI A mi) (hM : MI A mi ml) (hw : wfA A) : CsG Kl K 995 i v5 v6 [] (mi, ml, R0 rd, 136) := by
  refine H.sc 1 (by decide) (H.sc 2 (by decide) (H.cd (p_owed hA hw (fun mi1 ml1 f1 f2 => ?_))))
  refine H.sc 1 (by decide) (H.sc 2 (by decide) (H.cd (q_owed (hM.up (frSC f1) (fr36 f2)) hw (fun mi2 ml2 g1 g2 => ⟨fun _ => ?_, fun a => absurd rfl a⟩))))
  exact H.2.2.2 _ _ _ _ _ _ ((hA.fr f1).lo g1.lo) ((hM.up (frSC f1) (fr36 f2)).mf g1 g2) hw
set_option maxRecDepth 20000 in
theorem lc_20 (H : CsH Kl K L xs i) (hA : CI A mi) (hM : MI A mi ml) (hw : wfA A) : CsG Kl K 1032 i v5 v6 [] (mi, ml, R0 rd, 136) := by
  refine H.sc 1 (by decide) (H.sc 2 (by decide) (H.sc 3 (by decide) (H.cd (p_shared hA hw (fun mi1 ml1 f1 f2 => ?_)))))
  refine H.sc 1 (by decide) (H.sc 2 (by decide) (H.sc 3 (by decide) (H.cd (q_shared (hM.up (frSC f1) (fr36 f2)) hw (fun mi2 ml2 g1 g2 => ⟨fun _ => ?_, fun a => absurd rfl a⟩)))))
  exact H.2.2.2 _ _ _ _ _ _ ((hA.fr f1).lo g1.lo) ((hM.up (frSC f1) (fr36 f2)).mf g1 g2) hw
set_option maxRecDepth 20000 in
theorem lc_21 (H : CsH Kl K L xs i) (hA : CI A mi) (hM : MI A mi ml) (hw : wfA A) : CsG Kl K 1081 i v5 v6 [] (mi, ml, R0 rd, 136) := by
  refine H.sc 1 (by decide) (H.sc 2 (by decide) (H.sc 3 (by decide) (H.sc 4 (by decide) (H.cd (p_summer hA hw (fun mi1 ml1 f1 f2 => ?_))))))
  refine H.sc 1 (by decide) (H.sc 2 (by decide) (H.sc 3 (by decide) (H.sc 4 (by decide) (H.cd (q_summer (hM.up (frSC f1) (fr36 f2)) hw (fun mi2 ml2 g1 g2 => ⟨fun _ => ?_, fun a => absurd rfl a⟩))))))
  exact H.2.2.2 _ _ _ _ _ _ ((hA.fr f1).lo g1.lo) ((hM.up (frSC f1) (fr36 f2)).mf g1 g2) hw
end
