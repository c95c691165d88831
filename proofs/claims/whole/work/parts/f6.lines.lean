/-! THE REFERENCE READS: lines -/
section
variable {d : Nat} {Q : Option Value → Mm → Prop} {b : Nat → Nat} {n j : Nat} {T : Nat → Nat → Nat} {mi : Nat → Nat → Int32} {ml : Nat → Nat → Int64} {rd : Option Nat}
theorem RQ.er {e : Nat × Nat} {r : Except (Nat × Nat) ((Nat → Nat → Nat) × Nat)} (h : RQ b n rd mi ml Q r) (he : r = .error e) : ∀ mi', WF mi mi' → mi' 95 4 = nI e.1 → mi' 95 5 = nI e.2 → Q (some (.int (nI 0))) (mi', ml, R0 rd, 136) := by
  rw [he] at h
  exact h
theorem RQ.ok {T' : Nat → Nat → Nat} {j' : Nat} {r : Except (Nat × Nat) ((Nat → Nat → Nat) × Nat)} (h : RQ b n rd mi ml Q r) (he : r = .ok (T', j')) : ∀ mi', WG mi mi' → MX T' mi' → TP b n j' mi' → Q (some (.int (nI 1))) (mi', ml, R0 rd, 136) := by
  rw [he] at h
  exact h
set_option maxHeartbeats 1000000 in
theorem t_plainLine (hE : TE b n mi) (hP : TP b n j mi) (hX : MX T mi) (hT : tOK T) (hQ : RQ b n rd mi ml Q (if T 0 14 ≠ 0 then .error (3, psN b n j) else if T 0 13 ≠ 0 then .error (4, psN b n j) else pPlain (tK b n) (tV b n) (psN b n) (t0 T 14 1) (j + 1))) : Cd (d + 4) k_Mod_plainLine [.ref 95] (mi, ml, R0 rd, 136) Q := by
  have h1 := hT.2.2.1 14 (by decide) (by decide)
  have h13 := hT.2.2.2.2.1
  refine r_Mod_plainLine (by decide) (fun K Kl hK hC => ⟨fun z => ⟨fun y => ⟨Or.inr rfl, hC _ _ _ _ (t_tok (mi := cu mi 95 (upd (mi 95) 34 (nI 1))) (hE.mv rfl rfl rfl) (hP.mv rfl rfl rfl rfl) (fun m1 f1 P1 => ?_))⟩, fun y => hC _ _ _ _ (t_wrg hP (fun m1 f1 a c => ⟨Or.inl rfl, rfl, ?_⟩))⟩, fun z => hC _ _ _ _ (t_wrg hP (fun m1 f1 a c => ⟨Or.inl rfl, rfl, ?_⟩))⟩)
  · have z := jZ (show mi 95 34 = 0 from z) hX.pt
    have y : T 0 13 = 0 := by
      have := iLE (show nI (T 0 13) ≤ nI 0 by rw [← hX.ns]; exact y)
      omega
    rw [if_neg (by omega), if_neg (by omega)] at hQ
    have X1 := f1.f5.mx hX.f14
    have E1 := (hE.mv rfl rfl rfl : TE b n (cu mi 95 (upd (mi 95) 34 (nI 1)))).f4 f1
    have w1 : WG mi m1 := (WG.none.cu rfl : WG mi (cu mi 95 (upd (mi 95) 34 (nI 1)))).trans f1.wg
    refine hC _ _ _ _ (t_number (lo := 1) (hi := 8) E1 P1 rfl rfl (by decide) (by decide) (fun e he m2 f2 a c => ⟨fun q => absurd (by decide) q, fun _ => ⟨Or.inl rfl, rfl, hQ.er (by unfold pPlain; rw [he]) m2 (w1.wf.trans f2) a c⟩⟩) (fun w he m2 f2 P2 g2 => ⟨fun _ => ?_, fun q => absurd q (by decide)⟩))
    have X2 := (f2.mx X1).s0 g2
    have w2 : WG mi (cu m2 95 (upd (m2 95) 23 (m2 95 11))) := (w1.trans f2.wg).cu rfl
    have E2 := hE.wf w2.wf
    refine hC _ _ _ _ (t_number (mi := cu m2 95 (upd (m2 95) 23 (m2 95 11))) (lo := 1) (hi := 6) E2 (P2.mv rfl rfl rfl rfl) rfl rfl (by decide) (by decide) (fun e he3 m3 f3 a c => ⟨fun q => absurd (by decide) q, fun _ => ⟨Or.inl rfl, rfl, hQ.er (by unfold pPlain; rw [he]; simp only [he3]) m3 (w2.wf.trans f3) a c⟩⟩) (fun h he3 m3 f3 P3 g3 => ⟨fun _ => ⟨Or.inr rfl, rfl, ?_⟩, fun q => absurd q (by decide)⟩))
    exact hQ.ok (by unfold pPlain; rw [he]; simp only [he3]) _ ((w2.trans f3.wg).cu rfl) ((f3.mx X2).s1 g3) (P3.mv rfl rfl rfl rfl)
  · have z := jZ (show mi 95 34 = 0 from z) hX.pt
    have y : T 0 13 ≠ 0 := by
      have := iNLE (show ¬ nI (T 0 13) ≤ nI 0 by rw [← hX.ns]; exact y)
      omega
    exact hQ.er (by rw [if_neg (by omega), if_pos y]) m1 f1 a c
  · have z := jNZ (show ¬ mi 95 34 = 0 from z) hX.pt
    exact hQ.er (by rw [if_pos z]) m1 f1 a c
set_option maxHeartbeats 1000000 in
theorem t_ownerLine (hE : TE b n mi) (hP : TP b n j mi) (hX : MX T mi) (hT : tOK T) (hv : ∀ j, tK b n j = 2 → nmOK (tV b n j)) (hQ : RQ b n rd mi ml Q (if T 0 2 = 5 then .error (2, psN b n j) else pOwner (tK b n) (tV b n) (psN b n) T (j + 1))) : Cd (d + 4) k_Mod_ownerLine [.ref 95] (mi, ml, R0 rd, 136) Q := by
  have h5 := hT.1.own5
  refine r_Mod_ownerLine (by decide) (fun K Kl hK hC => ⟨fun z => hC _ _ _ _ (t_tok hE hP (fun m1 f1 P1 => ?_)), fun z => hC _ _ _ _ (t_wrg hP (fun m1 f1 a c => ⟨Or.inl rfl, rfl, hQ.er (if_pos (jEQ z hX.no rfl)) m1 f1 a c⟩))⟩)
  have z := jNE z hX.no rfl
  rw [if_neg z] at hQ
  unfold pOwner at hQ
  have X1 := f1.f5.mx hX
  have E1 := hE.f4 f1
  refine hC _ _ _ _ (t_newName (c := 100) (L := 10) (a := 5) (nm := T 1) E1 P1 X1.no (by decide) (by omega) X1.on (fun i => (hT.1.nm 0 i).1) (fun q => (hv _ q).1) (fun e he m2 f2 a c => ⟨fun _ => ⟨Or.inl rfl, rfl, hQ.er (by rw [he]) m2 (f1.wf.trans f2) a c⟩, fun q => absurd (by decide) q⟩) (fun nm he m2 f2 P2 => ⟨fun q => absurd q (by decide), fun _ => ?_⟩))
  have w2 : WG mi m2 := (f1.wg.cu (wB_hi (by decide) (by decide) (show 5 ≤ 5 + T 0 2 by omega))).trans f2.wg
  have X2 := f2.f5.mx (X1.t100 (x := nI nm))
  refine hC _ _ _ _ (t_number (lo := 0) (hi := 99) (hE.wf w2.wf) P2 rfl rfl (by decide) (by decide) (fun e he3 m3 f3 a c => ⟨fun q => absurd (by decide) q, fun _ => ⟨Or.inl rfl, rfl, hQ.er (by rw [he]; simp only [he3]) m3 (w2.wf.trans f3) a c⟩⟩) (fun pr he3 m3 f3 P3 g3 => ⟨fun _ => ⟨5 + T 0 2, by omega, ?_, ?_⟩, fun q => absurd q (by decide)⟩))
  · show nI 5 + m3 95 25 = _
    rw [(f3.mx X2).no, nI_add]
  have X3 := (f3.mx X2).t101 (x := m3 95 11)
  have w3 : WG mi (cu m3 101 (upd (m3 101) (5 + T 0 2) (m3 95 11))) := (w2.trans f3.wg).cu (wB_hi (by decide) (by decide) (show 5 ≤ 5 + T 0 2 by omega))
  refine hC _ _ _ _ (t_number (mi := cu m3 101 (upd (m3 101) (5 + T 0 2) (m3 95 11))) (lo := 1) (hi := 99) (hE.wf w3.wf) (P3.mv rfl rfl rfl rfl) rfl rfl (by decide) (by decide) (fun e he5 m5 f5 a c => ⟨fun q => absurd (by decide) q, fun _ => ⟨Or.inl rfl, rfl, hQ.er (by rw [he]; simp only [he3, he5]) m5 (w3.wf.trans f5) a c⟩⟩) (fun ct he5 m5 f5 P5 g5 => ⟨fun _ => ⟨5 + T 0 2, by omega, ?_, ⟨Or.inr rfl, rfl, ?_⟩⟩, fun q => absurd q (by decide)⟩))
  · show nI 5 + m5 95 25 = _
    rw [(f5.mx X3).no, nI_add]
  have X5 := (f5.mx X3).t102 (x := m5 95 11)
  have w5 : WG mi (cu m5 102 (upd (m5 102) (5 + T 0 2) (m5 95 11))) := (w3.trans f5.wg).cu (wB_hi (by decide) (by decide) (show 5 ≤ 5 + T 0 2 by omega))
  have v100 : m5 100 (5 + T 0 2) = nI nm := by
    rw [f5.c (c := 100) (by decide)]
    show m3 100 (5 + T 0 2) = _
    rw [f3.c (c := 100) (by decide), f2.c (c := 100) (by decide), cu_self, pk_us]
  have v101 : m5 101 (5 + T 0 2) = nI pr := by
    rw [f5.c (c := 101) (by decide), cu_self, pk_us]
    exact g3
  refine hQ.ok (by rw [he]; simp only [he3, he5]; rfl) _ (w5.cu rfl) (X5.ow1 ?_ v100 v101 ?_) (P5.mv rfl rfl rfl rfl)
  · show m5 95 25 + nI 1 = _
    rw [(f5.mx X3).no, nI_add]
  · rw [cu_self, pk_us]
    exact g5
set_option maxHeartbeats 1000000 in
theorem t_onceLine {q hi c : Nat} {X : Int32} (hX0 : X = nI q) (hq : (q = 0 ∧ hi = 9999 ∧ c = 10) ∨ (q = 1 ∧ hi = 99999 ∧ c = 11) ∨ (q = 2 ∧ hi = 99 ∧ c = 12)) (hE : TE b n mi) (hP : TP b n j mi) (hX : MX T mi) (hT : tOK T) (hQ : RQ b n rd mi ml Q (if T 0 (c + 5) ≠ 0 then .error (3, psN b n j) else pOnce (tK b n) (tV b n) (psN b n) (t0 T (c + 5) 1) c hi (j + 1))) : Cd (d + 4) k_Mod_onceLine [.ref 95, .int X] (mi, ml, R0 rd, 136) Q := by
  subst hX0
  refine r_Mod_onceLine (by decide) ?_
  have b15 := hT.2.2.1 15 (by decide) (by decide)
  have b16 := hT.2.2.1 16 (by decide) (by decide)
  have b17 := hT.2.2.1 17 (by decide) (by decide)
  rcases hq with ⟨rfl, rfl, rfl⟩ | ⟨rfl, rfl, rfl⟩ | ⟨rfl, rfl, rfl⟩
  · intro K Kl hK hC
    refine ⟨0, by decide, rfl, ⟨fun z => ⟨0, by decide, rfl, Or.inr rfl, hC _ _ _ _ (t_tok (mi := cu mi 99 (upd (mi 99) 0 (nI 1))) (hE.mv rfl rfl rfl) (hP.mv rfl rfl rfl rfl) (fun m1 f1 P1 => ?_))⟩, fun z => hC _ _ _ _ (t_wrg hP (fun m1 f1 a c => ⟨Or.inl rfl, rfl, hQ.er (if_pos (jNZ z hX.o0)) m1 f1 a c⟩))⟩⟩
    have z := jZ z hX.o0
    rw [if_neg (fun q => q z)] at hQ
    have X1 := f1.f5.mx hX.f15
    have w1 : WG mi m1 := (WG.none.cu rfl : WG mi (cu mi 99 (upd (mi 99) 0 (nI 1)))).trans f1.wg
    refine ⟨fun q => absurd (show nI 0 = 0 from rfl) q, fun _ => hC _ _ _ _ (t_number (lo := 0) (hi := 9999) (hE.wf w1.wf) P1 rfl rfl (by decide) (by decide) (fun e he m2 f2 a c => ⟨fun q => absurd (by decide) q, fun _ => ⟨Or.inl rfl, rfl, hQ.er (by unfold pOnce; rw [he]) m2 (w1.wf.trans f2) a c⟩⟩) (fun w he m2 f2 P2 g2 => ⟨fun _ => ⟨3, by decide, rfl, ⟨Or.inr rfl, rfl, ?_⟩⟩, fun q => absurd q (by decide)⟩))⟩
    exact hQ.ok (by unfold pOnce; rw [he]) _ ((w1.trans f2.wg).cu rfl) ((f2.mx X1).s10 g2) (P2.mv rfl rfl rfl rfl)
  · intro K Kl hK hC
    refine ⟨1, by decide, rfl, ⟨fun z => ⟨1, by decide, rfl, Or.inr rfl, hC _ _ _ _ (t_tok (mi := cu mi 99 (upd (mi 99) 1 (nI 1))) (hE.mv rfl rfl rfl) (hP.mv rfl rfl rfl rfl) (fun m1 f1 P1 => ?_))⟩, fun z => hC _ _ _ _ (t_wrg hP (fun m1 f1 a c => ⟨Or.inl rfl, rfl, hQ.er (if_pos (jNZ z hX.o1)) m1 f1 a c⟩))⟩⟩
    have z := jZ z hX.o1
    rw [if_neg (fun q => q z)] at hQ
    have X1 := f1.f5.mx hX.f16
    have w1 : WG mi m1 := (WG.none.cu rfl : WG mi (cu mi 99 (upd (mi 99) 1 (nI 1)))).trans f1.wg
    refine ⟨fun _ => ⟨fun q => absurd rfl q, fun _ => hC _ _ _ _ (t_number (lo := 0) (hi := 99999) (hE.wf w1.wf) P1 rfl rfl (by decide) (by decide) (fun e he m2 f2 a c => ⟨fun q => absurd (by decide) q, fun _ => ⟨Or.inl rfl, rfl, hQ.er (by unfold pOnce; rw [he]) m2 (w1.wf.trans f2) a c⟩⟩) (fun w he m2 f2 P2 g2 => ⟨fun _ => ⟨4, by decide, rfl, ⟨Or.inr rfl, rfl, ?_⟩⟩, fun q => absurd q (by decide)⟩))⟩, fun q => absurd q (by decide)⟩
    exact hQ.ok (by unfold pOnce; rw [he]) _ ((w1.trans f2.wg).cu rfl) ((f2.mx X1).s11 g2) (P2.mv rfl rfl rfl rfl)
  · intro K Kl hK hC
    refine ⟨2, by decide, rfl, ⟨fun z => ⟨2, by decide, rfl, Or.inr rfl, hC _ _ _ _ (t_tok (mi := cu mi 99 (upd (mi 99) 2 (nI 1))) (hE.mv rfl rfl rfl) (hP.mv rfl rfl rfl rfl) (fun m1 f1 P1 => ?_))⟩, fun z => hC _ _ _ _ (t_wrg hP (fun m1 f1 a c => ⟨Or.inl rfl, rfl, hQ.er (if_pos (jNZ z hX.o2)) m1 f1 a c⟩))⟩⟩
    have z := jZ z hX.o2
    rw [if_neg (fun q => q z)] at hQ
    have X1 := f1.f5.mx hX.f17
    have w1 : WG mi m1 := (WG.none.cu rfl : WG mi (cu mi 99 (upd (mi 99) 2 (nI 1)))).trans f1.wg
    refine ⟨fun _ => ⟨fun _ => hC _ _ _ _ (t_number (lo := 0) (hi := 99) (hE.wf w1.wf) P1 rfl rfl (by decide) (by decide) (fun e he m2 f2 a c => ⟨fun q => absurd (by decide) q, fun _ => ⟨Or.inl rfl, rfl, hQ.er (by unfold pOnce; rw [he]) m2 (w1.wf.trans f2) a c⟩⟩) (fun w he m2 f2 P2 g2 => ⟨fun _ => ⟨5, by decide, rfl, ⟨Or.inr rfl, rfl, ?_⟩⟩, fun q => absurd q (by decide)⟩)), fun q => absurd q (by decide)⟩, fun q => absurd q (by decide)⟩
    exact hQ.ok (by unfold pOnce; rw [he]) _ ((w1.trans f2.wg).cu rfl) ((f2.mx X1).s12 g2) (P2.mv rfl rfl rfl rfl)
end
