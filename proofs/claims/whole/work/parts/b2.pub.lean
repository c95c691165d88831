/-! WHAT THE REFERENCE ANSWERS: small calls -/
section
variable {d : Nat} {Q : Option Value → Mm → Prop} {A : St} {mi : Nat → Nat → Int32} {ml : Nat → Nat → Int64} {rd : Option Nat} {x y z : Int32}
theorem thr0 : MF mi (cu mi 95 (upd (mi 95) 2 (nI 0))) := MF.none.cu rfl
theorem q_fault (hA : MI A mi ml) (hQ : ∀ mi' ml', MF mi mi' → ML ml ml' → Q (some (.int (aFault A x))) (mi', ml', R0 rd, 136)) : Cd (d + 1) k_Mod_fault [.ref 95, .int x] (mi, ml, R0 rd, 136) Q := by
  have hQ := hQ _ ml thr0 ML.none
  unfold aFault at hQ
  refine r_Mod_fault (by decide) (fun K Kl hK hC => ⟨fun h => ⟨fun h2 => ⟨rfl, ?_⟩, fun h2 => ⟨rfl, ?_⟩⟩, fun h => ⟨rfl, ?_⟩⟩)
  · rw [if_neg h, if_neg h2] at hQ
    exact hQ
  · rw [if_neg h, if_pos h2, ← hA.q.2] at hQ
    exact hQ
  · rw [if_pos h, ← hA.q.1] at hQ
    exact hQ
theorem t_find2 {c L m : Nat} {f : Nat → Nat} {xm : Int32} (hxm : xm = nI m) (hc : (c = 100 ∧ L = 10) ∨ (c = 104 ∧ L = 18) ∨ (c = 105 ∧ L = 18) ∨ (c = 106 ∧ L = 12) ∨ (c = 108 ∧ L = 6) ∨ (c = 110 ∧ L = 8) ∨ (c = 112 ∧ L = 10)) (hm : m ≤ L) (hf : ∀ i, i < m → mi c i = nI (f i)) (hQ : Q (some (.int (nmI f m x))) (mi, ml, R0 rd, 136)) : Cd (d + 1) k_Mod_find [.ref c, .int (nI 0), .int xm, .int x] (mi, ml, R0 rd, 136) Q := by
  subst hxm
  refine s_Mod_find hc (by omega) (fun j hj e hb => ?_) (fun hb => ?_)
  · rw [nmI_hit hj (by rw [← hf j hj, ← Nat.zero_add j]; exact e) (fun i hi => by rw [← hf i (by omega), ← Nat.zero_add i]; exact hb i hi)] at hQ
    exact hQ
  · rw [nmI_none (fun i hi => by rw [← hf i hi, ← Nat.zero_add i]; exact hb i hi)] at hQ
    exact hQ
theorem q_named (hA : MI A mi ml) (hw : wfA A) (hQ : ∀ mi' ml', MF mi mi' → ML ml ml' → Q (some (.int (aNamed A x y))) (mi', ml', R0 rd, 136)) : Cd (d + 2) k_Mod_named [.ref 95, .int x, .int y] (mi, ml, R0 rd, 136) Q := by
  have hQ := hQ _ ml thr0 ML.none
  have hT := hA.T.mf thr0
  unfold aNamed at hQ
  have b1 := hw.T.own5
  have b2 := hw.T.wd6
  have b3 := hw.T.hl3
  refine r_Mod_named (by decide) (fun K Kl hK hC => ⟨fun h => ?_, fun h => swP_c (fun h2 => ?_) (fun h2 => swP_c (fun h3 => ?_) (fun h3 => swP_n ?_))⟩)
  · rw [if_pos h] at hQ
    exact hC _ _ _ _ (t_find2 (L := 10) hT.owners (by decide) (by omega) hT.oname ⟨rfl, hQ⟩)
  · rw [if_neg h, if_pos h2] at hQ
    exact hC _ _ _ _ (t_find2 (L := 12) hT.words (by decide) (by omega) hT.wn ⟨rfl, hQ⟩)
  · rw [if_neg h, if_neg h2, if_pos h3] at hQ
    exact hC _ _ _ _ (t_find2 (L := 6) hT.hills (by decide) (by omega) hT.hn ⟨rfl, hQ⟩)
  · rw [if_neg h, if_neg h2, if_neg h3] at hQ
    exact ⟨rfl, hQ⟩
theorem q_shape (hA : MI A mi ml) (hw : wfA A) (hQ : ∀ mi' ml', MF mi mi' → ML ml ml' → Q (some (.int (aShape A x))) (mi', ml', R0 rd, 136)) : Cd (d + 3) k_Mod_shape [.ref 95, .int x] (mi, ml, R0 rd, 136) Q := by
  have hQ := hQ _ ml thr0 ML.none
  have hT := hA.T.mf thr0
  unfold aShape at hQ
  refine r_Mod_shape (by decide) (fun K Kl hK hC => hC _ _ _ _ (t_isIn (fun h1 h2 => ⟨fun a => absurd a (by decide), fun _ => ?_⟩) (fun h => ⟨fun _ => ⟨rfl, ?_⟩, fun a => absurd (by decide) a⟩)))
  · obtain ⟨c, hc1, h26, rfl, he⟩ := ixl_in h1 h2
    rw [he] at hQ
    exact hC _ _ _ _ (t_shapeOf hT hw.T (by omega) ⟨rfl, hQ⟩)
  · rw [show ixl x = none from h.elim ixl_lt ixl_gt] at hQ
    exact hQ
theorem q_seen (hA : MI A mi ml) (hw : wfA A) (hQ : ∀ mi' ml', MF mi mi' → ML ml ml' → Q (some (.int (aSeen A x y))) (mi', ml', R0 rd, 136)) : Cd (d + 3) k_Mod_seen [.ref 95, .int x, .int y] (mi, ml, R0 rd, 136) Q := by
  have hQ := hQ _ ml thr0 ML.none
  have hT := hA.T.mf thr0
  have hS := hA.S.mf thr0 ML.none
  unfold aSeen at hQ
  have hfl := hw.T.fl
  have h3 := hw.T.hl3
  refine r_Mod_seen (by decide) (fun K Kl hK hC => hC _ _ _ _ (t_isHill hT hw.T (fun h hh e => ⟨fun a => absurd a (by decide), fun _ => hC _ _ _ _ (t_isField hT hw.T (fun f hf e2 => ⟨fun a => absurd a (by decide), fun _ => ?_⟩) (fun hno => ⟨fun _ => ⟨rfl, ?_⟩, fun a => absurd (by decide) a⟩))⟩) (fun hno => ⟨fun _ => ⟨rfl, ?_⟩, fun a => absurd (by decide) a⟩)))
  · subst e; subst e2
    have hs := hw.S.sh f
    have es := hS.1 f (by omega)
    refine ⟨f, by omega, rfl, ?_⟩
    rw [es]
    rw [ixo_some hh, ixo_some (n := flA A) hf (by unfold flA; omega)] at hQ
    exact hC _ _ _ _ (t_seenOf hT hw.T hh (by omega) ⟨rfl, hQ⟩)
  · subst e
    rw [ixo_some hh, ixo_none (n := flA A) hno] at hQ
    exact hQ
  · rw [ixo_none hno] at hQ
    exact hQ
theorem q_read (hA : MI A mi ml) (hw : wfA A) (hQ : ∀ mi' ml', MF mi mi' → ML ml ml' → Q (some (.int (aRead A x y))) (mi', ml', R0 rd, 136)) : Cd (d + 3) k_Mod_read [.ref 95, .int x, .int y] (mi, ml, R0 rd, 136) Q := by
  have hQ := hQ _ ml thr0 ML.none
  have hT := hA.T.mf thr0
  have hS := hA.S.mf thr0 ML.none
  unfold aRead at hQ
  have hfl := hw.T.fl
  have h3 := hw.T.hl3
  refine r_Mod_read (by decide) (fun K Kl hK hC => hC _ _ _ _ (t_isHill hT hw.T (fun h hh e => ⟨fun a => absurd a (by decide), fun _ => hC _ _ _ _ (t_isField hT hw.T (fun f hf e2 => ⟨fun a => absurd a (by decide), fun _ => ?_⟩) (fun hno => ⟨fun _ => ⟨rfl, ?_⟩, fun a => absurd (by decide) a⟩))⟩) (fun hno => ⟨fun _ => ⟨rfl, ?_⟩, fun a => absurd (by decide) a⟩)))
  · subst e; subst e2
    have hs := hw.S.sh f
    have es := hS.1 f (by omega)
    refine ⟨f, by omega, rfl, ?_⟩
    rw [es]
    rw [ixo_some hh, ixo_some (n := flA A) hf (by unfold flA; omega)] at hQ
    exact hC _ _ _ _ (t_readOf hT hw.T hh (by omega) ⟨rfl, hQ⟩)
  · subst e
    rw [ixo_some hh, ixo_none (n := flA A) hno] at hQ
    exact hQ
  · rw [ixo_none hno] at hQ
    exact hQ
theorem q_taken (hA : MI A mi ml) (hw : wfA A) (hQ : ∀ mi' ml', MF mi mi' → ML ml ml' → Q (some (.int (aTaken A x y))) (mi', ml', R0 rd, 136)) : Cd (d + 3) k_Mod_taken [.ref 95, .int x, .int y] (mi, ml, R0 rd, 136) Q := by
  have hQ := hQ _ ml thr0 ML.none
  have hT := hA.T.mf thr0
  unfold aTaken at hQ
  have h3 := hw.T.hl3
  refine r_Mod_taken (by decide) (fun K Kl hK hC => hC _ _ _ _ (t_isHill hT hw.T (fun h hh e => ⟨fun a => absurd a (by decide), fun _ => hC _ _ _ _ (t_isIn (fun h1 h2 => ⟨fun a => absurd a (by decide), fun _ => ?_⟩) (fun hno => ⟨fun _ => ⟨rfl, ?_⟩, fun a => absurd (by decide) a⟩))⟩) (fun hno => ⟨fun _ => ⟨rfl, ?_⟩, fun a => absurd (by decide) a⟩)))
  · subst e
    obtain ⟨c, hc1, h26, rfl, he⟩ := ixl_in h1 h2
    have hs := shpN_le hw.T c
    rw [ixo_some hh, he] at hQ
    exact hC _ _ _ _ (t_shapeOf hT hw.T (by omega) (hC _ _ _ _ (t_readOf hT hw.T hh (by omega) ⟨rfl, hQ⟩)))
  · subst e
    rw [ixo_some hh, show ixl y = none from hno.elim ixl_lt ixl_gt] at hQ
    exact hQ
  · rw [ixo_none hno] at hQ
    exact hQ
end
