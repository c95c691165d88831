/-! THE REFERENCE: layPair; what it answers: crossed, shared -/
section
variable {d : Nat} {Q : Option Value → Mm → Prop} {A : St} {T S : Nat → Nat → Nat} {mi : Nat → Nat → Int32} {ml : Nat → Nat → Int64} {rd : Option Nat} {x y z : Int32}
set_option maxHeartbeats 2000000 in
theorem pairIn_f (hA : MI A mi ml) (hw : wfA A) {one two p : Nat} (h1 : one < A 0 0 4) (h2 : two < A 0 0 4) (hp : p < (2 * (A 0 0 0 * A 0 0 1))) (hcs : csN (A 0) (A 1 1) one (p / 2) (p % 2) = true) (ih : ∀ mi', MF mi mi' → MR ((poN ((fun p q => costN (A 0) (putN (A 0) (A 1 1) one (p / 2) (p % 2)) (feA (A 0)) two (q / 2) (q % 2)) p) ((fun p q => !false || crN (A 0) one p two q) p) (cdN (A 0) (A 1 1) 0 one (p / 2) (p % 2)) p (pbN (fun p => costN (A 0) (A 1 1) (feA (A 0)) one (p / 2) (p % 2)) (fun p q => costN (A 0) (putN (A 0) (A 1 1) one (p / 2) (p % 2)) (feA (A 0)) two (q / 2) (q % 2)) (fun p => false && !(p % 2 == 0)) (fun p q => !false || crN (A 0) one p two q) (2 * (A 0 0 0 * A 0 0 1)) p)) (2 * (A 0 0 0 * A 0 0 1))) (mi' 95) → ∀ v5 v6, GoM (d + 6) k_Mod_layPair 136 Q 8 [.ref 95, .int (nI one), .int (nI two), .int (nI 0), .int (nI p + nI 1), v5, v6] [] (mi', ml, R0 rd, 136)) : ∀ q, q ≤ (2 * (A 0 0 0 * A 0 0 1)) → ∀ mi', MF mi mi' → MR ((poN ((fun p q => costN (A 0) (putN (A 0) (A 1 1) one (p / 2) (p % 2)) (feA (A 0)) two (q / 2) (q % 2)) p) ((fun p q => !false || crN (A 0) one p two q) p) (cdN (A 0) (A 1 1) 0 one (p / 2) (p % 2)) p (pbN (fun p => costN (A 0) (A 1 1) (feA (A 0)) one (p / 2) (p % 2)) (fun p q => costN (A 0) (putN (A 0) (A 1 1) one (p / 2) (p % 2)) (feA (A 0)) two (q / 2) (q % 2)) (fun p => false && !(p % 2 == 0)) (fun p q => !false || crN (A 0) one p two q) (2 * (A 0 0 0 * A 0 0 1)) p)) q) (mi' 95) → ∀ v6, GoM (d + 6) k_Mod_layPair 136 Q 54 [.ref 95, .int (nI one), .int (nI two), .int (nI 0), .int (nI p), .int (nI q), v6] [] (mi', ml, R0 rd, 136) := by
  have hfl := hw.T.fl
  have ec : costN (A 0) (A 1 1) (feA (A 0)) one (p / 2) (p % 2) = some (cdN (A 0) (A 1 1) 0 one (p / 2) (p % 2)) := by rw [cs_cost, hcs]; rfl
  have hcl := costN_le (fun f => feA_le hw.T f) ec
  have bd : ∀ q, q ≤ (2 * (A 0 0 0 * A 0 0 1)) → prB ((poN ((fun p q => costN (A 0) (putN (A 0) (A 1 1) one (p / 2) (p % 2)) (feA (A 0)) two (q / 2) (q % 2)) p) ((fun p q => !false || crN (A 0) one p two q) p) (cdN (A 0) (A 1 1) 0 one (p / 2) (p % 2)) p (pbN (fun p => costN (A 0) (A 1 1) (feA (A 0)) one (p / 2) (p % 2)) (fun p q => costN (A 0) (putN (A 0) (A 1 1) one (p / 2) (p % 2)) (feA (A 0)) two (q / 2) (q % 2)) (fun p => false && !(p % 2 == 0)) (fun p q => !false || crN (A 0) one p two q) (2 * (A 0 0 0 * A 0 0 1)) p)) q) := fun q hq => poN_bd (n := (2 * (A 0 0 0 * A 0 0 1))) (pbN_bd (fun j c hc => costN_le (fun f => feA_le hw.T f) hc) (fun p j m hm => costN_le (fun f => feA_le hw.T f) hm) (by omega) p (by omega)) (fun j m hm => costN_le (fun f => feA_le hw.T f) hm) hcl (by omega) (by omega) q hq
  have nomore : ∀ {q}, csN (A 0) (A 1 1) two (q / 2) (q % 2) = false → costN (A 0) (putN (A 0) (A 1 1) one (p / 2) (p % 2)) (feA (A 0)) two (q / 2) (q % 2) = none := fun {q} hn => by
    cases hm : costN (A 0) (putN (A 0) (A 1 1) one (p / 2) (p % 2)) (feA (A 0)) two (q / 2) (q % 2) with
    | none => rfl
    | some m =>
      obtain ⟨z, hz⟩ := cost_alone ec hm
      rw [cs_cost, hn] at hz
      cases hz
  refine upto ?_ ?_
  · intro mi' hf hR v6
    have hA2 := hA.mf hf ML.none
    refine g_Mod_layPair (fun K Kl hK hC => hC _ _ _ _ (t_fields hA2.T ⟨fun _ => hK _ _ _ _ (ih mi' hf hR _ _), fun a => ?_⟩))
    have a : ¬ nI 2 * nI (A 0 0 0 * A 0 0 1) ≤ nI (2 * (A 0 0 0 * A 0 0 1)) := a
    rw [pk_mul] at a
    exact absurd (iNLE a) (by omega)
  · intro q hq ih2 mi' hf hR v6
    have hA2 := hA.mf hf ML.none
    have edq : nI q / nI 2 = nI (q / 2) := pk_div (by omega) (by omega) (by omega)
    have erq : nI q - nI q / nI 2 * nI 2 = nI (q % 2) := pk_rem (by omega) (by omega) (by omega)
    have qh := pl_half hq
    rw [nI1 q] at ih2
    have skip : ((fun p q => !false || crN (A 0) one p two q) p q = false ∨ (fun p q => costN (A 0) (putN (A 0) (A 1 1) one (p / 2) (p % 2)) (feA (A 0)) two (q / 2) (q % 2)) p q = none) → ∀ mi2, MF mi mi2 → MR ((poN ((fun p q => costN (A 0) (putN (A 0) (A 1 1) one (p / 2) (p % 2)) (feA (A 0)) two (q / 2) (q % 2)) p) ((fun p q => !false || crN (A 0) one p two q) p) (cdN (A 0) (A 1 1) 0 one (p / 2) (p % 2)) p (pbN (fun p => costN (A 0) (A 1 1) (feA (A 0)) one (p / 2) (p % 2)) (fun p q => costN (A 0) (putN (A 0) (A 1 1) one (p / 2) (p % 2)) (feA (A 0)) two (q / 2) (q % 2)) (fun p => false && !(p % 2 == 0)) (fun p q => !false || crN (A 0) one p two q) (2 * (A 0 0 0 * A 0 0 1)) p)) q) (mi2 95) → ∀ v6, GoM (d + 6) k_Mod_layPair 136 Q 54 [.ref 95, .int (nI one), .int (nI two), .int (nI 0), .int (nI p), .int (nI q + nI 1), v6] [] (mi2, ml, R0 rd, 136) := fun h mi2 hf2 hR2 v6 => ih2 mi2 hf2 (by rw [poN_s h]; exact hR2) v6
    refine g_Mod_layPair (fun K Kl hK hC => hC _ _ _ _ (t_fields hA2.T ⟨fun a => ?_, fun _ => ⟨fun _ => ⟨two0, two0, ?_⟩, fun a => absurd (by decide) a⟩⟩))
    · have a : nI 2 * nI (A 0 0 0 * A 0 0 1) ≤ nI q := a
      rw [pk_mul] at a
      exact absurd (iLE a) (by omega)
    rw [erq, edq]
    refine hC _ _ _ _ (t_canSet (b := 0) hA2.T hw.T (by omega) (hA2.S.s0 hw.S) h2 qh (by omega) (fun hc2 => ⟨fun _ => ⟨fun _ => hC _ _ _ _ (t_togetherOf (S := A 1) hA2.T hw.T hA2.S.b0 hw.S hA2.f.1 h1 h2 hp hq hcs (fun mi2 m hf2 hm => ?_) (fun mi2 hf2 hm => ⟨fun _ => hK _ _ _ _ (skip (Or.inr hm) mi2 (hf.trans hf2.mf) (hR.mv (hf2.k (by decide)) (hf2.k (by decide)) (hf2.k (by decide))) _), fun a => absurd (by decide) a⟩)), fun a => absurd (by decide) a⟩, fun a => absurd a (by decide)⟩) (fun hc2 => ⟨fun a => absurd (by decide) a, fun _ => hK _ _ _ _ (skip (Or.inr (nomore hc2)) mi' hf hR _)⟩))
    have hok : (fun p q => !false || crN (A 0) one p two q) p q = true := rfl
    have hml := costN_le (fun f => feA_le hw.T f) hm
    have e1 := poN_t (more := (fun p q => costN (A 0) (putN (A 0) (A 1 1) one (p / 2) (p % 2)) (feA (A 0)) two (q / 2) (q % 2)) p) (ok := (fun p q => !false || crN (A 0) one p two q) p) (cost := cdN (A 0) (A 1 1) 0 one (p / 2) (p % 2)) (p := p) (r := pbN (fun p => costN (A 0) (A 1 1) (feA (A 0)) one (p / 2) (p % 2)) (fun p q => costN (A 0) (putN (A 0) (A 1 1) one (p / 2) (p % 2)) (feA (A 0)) two (q / 2) (q % 2)) (fun p => false && !(p % 2 == 0)) (fun p q => !false || crN (A 0) one p two q) (2 * (A 0 0 0 * A 0 0 1)) p) hok hm
    have hR2 : MR ((poN ((fun p q => costN (A 0) (putN (A 0) (A 1 1) one (p / 2) (p % 2)) (feA (A 0)) two (q / 2) (q % 2)) p) ((fun p q => !false || crN (A 0) one p two q) p) (cdN (A 0) (A 1 1) 0 one (p / 2) (p % 2)) p (pbN (fun p => costN (A 0) (A 1 1) (feA (A 0)) one (p / 2) (p % 2)) (fun p q => costN (A 0) (putN (A 0) (A 1 1) one (p / 2) (p % 2)) (feA (A 0)) two (q / 2) (q % 2)) (fun p => false && !(p % 2 == 0)) (fun p q => !false || crN (A 0) one p two q) (2 * (A 0 0 0 * A 0 0 1)) p)) q) (mi2 95) := hR.mv (hf2.k (by decide)) (hf2.k (by decide)) (hf2.k (by decide))
    have hmf2 := hf.trans hf2.mf
    have hbd := bd q (by omega)
    cases hr : (poN ((fun p q => costN (A 0) (putN (A 0) (A 1 1) one (p / 2) (p % 2)) (feA (A 0)) two (q / 2) (q % 2)) p) ((fun p q => !false || crN (A 0) one p two q) p) (cdN (A 0) (A 1 1) 0 one (p / 2) (p % 2)) p (pbN (fun p => costN (A 0) (A 1 1) (feA (A 0)) one (p / 2) (p % 2)) (fun p q => costN (A 0) (putN (A 0) (A 1 1) one (p / 2) (p % 2)) (feA (A 0)) two (q / 2) (q % 2)) (fun p => false && !(p % 2 == 0)) (fun p q => !false || crN (A 0) one p two q) (2 * (A 0 0 0 * A 0 0 1)) p)) q with
    | none =>
      rw [hr] at e1 hR2
      have hR2 : mi2 95 79 = -1 := hR2
      refine ⟨fun a => (iNN a (by omega)).elim, fun _ => ⟨fun _ => hK _ _ _ _ (ih2 _ (((hmf2.cu rfl).cu rfl).cu rfl) (by rw [e1]; exact ⟨rfl, rfl, rfl⟩) _), fun a => ?_⟩⟩
      have a : ¬ mi2 95 79 < 0 := a
      rw [hR2] at a
      exact absurd (by decide) a
    | some t =>
      obtain ⟨w, a1, b1⟩ := t
      rw [hr] at e1 hR2 hbd
      have hR3 : mi2 95 79 = nI w := hR2.1
      have hw1 : w ≤ 11000 := hbd.1
      simp only at e1
      refine ⟨fun a => (iNN a (by omega)).elim, fun _ => ⟨fun a => ?_, fun _ => ⟨fun c => ?_, fun c => ?_⟩⟩⟩
      · have a : mi2 95 79 < 0 := a
        rw [hR3] at a
        exact (iNN a (by omega)).elim
      · have c : nI (cdN (A 0) (A 1 1) 0 one (p / 2) (p % 2) + m) < mi2 95 79 := c
        rw [hR3] at c
        rw [if_pos (iLT c)] at e1
        exact hK _ _ _ _ (ih2 _ (((hmf2.cu rfl).cu rfl).cu rfl) (by rw [e1]; exact ⟨rfl, rfl, rfl⟩) _)
      · have c : ¬ nI (cdN (A 0) (A 1 1) 0 one (p / 2) (p % 2) + m) < mi2 95 79 := c
        rw [hR3] at c
        rw [if_neg (by have := iNLT c; omega)] at e1
        exact hK _ _ _ _ (ih2 mi2 hmf2 (by rw [e1]; exact hR2) _)
set_option maxHeartbeats 1000000 in
theorem t_layPair_f (hA : MI A mi ml) (hw : wfA A) {one two : Nat} (h1 : one < A 0 0 4) (h2 : two < A 0 0 4) (hQ : ∀ mi', MF mi mi' → MR (pairN (A 0) (A 1 1) one two false) (mi' 95) → Q none (mi', ml, R0 rd, 136)) : Cd (d + 7) k_Mod_layPair [.ref 95, .int (nI one), .int (nI two), .int (nI 0)] (mi, ml, R0 rd, 136) Q := by
  have hfl := hw.T.fl
  have lp : ∀ p, p ≤ (2 * (A 0 0 0 * A 0 0 1)) → ∀ mi', MF mi mi' → MR (pbN (fun p => costN (A 0) (A 1 1) (feA (A 0)) one (p / 2) (p % 2)) (fun p q => costN (A 0) (putN (A 0) (A 1 1) one (p / 2) (p % 2)) (feA (A 0)) two (q / 2) (q % 2)) (fun p => false && !(p % 2 == 0)) (fun p q => !false || crN (A 0) one p two q) (2 * (A 0 0 0 * A 0 0 1)) p) (mi' 95) → ∀ v5 v6, GoM (d + 6) k_Mod_layPair 136 Q 8 [.ref 95, .int (nI one), .int (nI two), .int (nI 0), .int (nI p), v5, v6] [] (mi', ml, R0 rd, 136) := by
    refine upto ?_ ?_
    · intro mi' hf hR v5 v6
      have hA2 := hA.mf hf ML.none
      refine g_Mod_layPair (fun K Kl hK hC => hC _ _ _ _ (t_fields hA2.T ⟨fun _ => ⟨rfl, hQ mi' hf hR⟩, fun a => ?_⟩))
      have a : ¬ nI 2 * nI (A 0 0 0 * A 0 0 1) ≤ nI (2 * (A 0 0 0 * A 0 0 1)) := a
      rw [pk_mul] at a
      exact absurd (iNLE a) (by omega)
    intro p hp ih mi' hf hR v5 v6
    have hA2 := hA.mf hf ML.none
    have edp : nI p / nI 2 = nI (p / 2) := pk_div (by omega) (by omega) (by omega)
    have erp : nI p - nI p / nI 2 * nI 2 = nI (p % 2) := pk_rem (by omega) (by omega) (by omega)
    have ph := pl_half hp
    rw [nI1 p] at ih
    refine g_Mod_layPair (fun K Kl hK hC => hC _ _ _ _ (t_fields hA2.T ⟨fun a => ?_, fun _ => ⟨fun _ => ⟨two0, two0, ?_⟩, fun a => absurd (by decide) a⟩⟩))
    · have a : nI 2 * nI (A 0 0 0 * A 0 0 1) ≤ nI p := a
      rw [pk_mul] at a
      exact absurd (iLE a) (by omega)
    rw [erp, edp]
    refine hC _ _ _ _ (t_canSet (b := 0) hA2.T hw.T (by omega) (hA2.S.s0 hw.S) h1 ph (by omega) (fun hcs => ⟨fun _ => hK _ _ _ _ ?_, fun a => absurd a (by decide)⟩) (fun hcs => ⟨fun a => absurd (by decide) a, fun _ => hK _ _ _ _ ?_⟩))
    · rw [pbN_t (c := cdN (A 0) (A 1 1) 0 one (p / 2) (p % 2)) (show (fun p => false && !(p % 2 == 0)) p = false from rfl) (by rw [cs_cost, hcs]; rfl)] at ih
      exact pairIn_f hA hw h1 h2 hp hcs ih 0 (Nat.zero_le _) mi' hf hR _
    · rw [pbN_s (Or.inr (by rw [cs_cost, hcs]; rfl))] at ih
      exact ih mi' hf hR _ _
  exact r_Mod_layPair (by decide) (fun K Kl hK hC => hK _ _ _ _ (lp 0 (Nat.zero_le _) (cu mi 95 (upd (mi 95) 79 (-1))) (MF.none.cu rfl) (show cu mi 95 (upd (mi 95) 79 (-1)) 95 79 = -1 from rfl) _ _))
set_option maxHeartbeats 2000000 in
theorem pairIn_t (hA : MI A mi ml) (hw : wfA A) {one two p : Nat} (h1 : one < A 0 0 4) (h2 : two < A 0 0 4) (hp : p < (2 * (A 0 0 0 * A 0 0 1))) (hp2 : p % 2 = 0) (hcs : csN (A 0) (A 1 1) one (p / 2) (p % 2) = true) (ih : ∀ mi', MF mi mi' → MR ((poN ((fun p q => costN (A 0) (putN (A 0) (A 1 1) one (p / 2) (p % 2)) (feA (A 0)) two (q / 2) (q % 2)) p) ((fun p q => !true || crN (A 0) one p two q) p) (cdN (A 0) (A 1 1) 0 one (p / 2) (p % 2)) p (pbN (fun p => costN (A 0) (A 1 1) (feA (A 0)) one (p / 2) (p % 2)) (fun p q => costN (A 0) (putN (A 0) (A 1 1) one (p / 2) (p % 2)) (feA (A 0)) two (q / 2) (q % 2)) (fun p => true && !(p % 2 == 0)) (fun p q => !true || crN (A 0) one p two q) (2 * (A 0 0 0 * A 0 0 1)) p)) (2 * (A 0 0 0 * A 0 0 1))) (mi' 95) → ∀ v5 v6, GoM (d + 6) k_Mod_layPair 136 Q 8 [.ref 95, .int (nI one), .int (nI two), .int (nI 1), .int (nI p + nI 1), v5, v6] [] (mi', ml, R0 rd, 136)) : ∀ q, q ≤ (2 * (A 0 0 0 * A 0 0 1)) → ∀ mi', MF mi mi' → MR ((poN ((fun p q => costN (A 0) (putN (A 0) (A 1 1) one (p / 2) (p % 2)) (feA (A 0)) two (q / 2) (q % 2)) p) ((fun p q => !true || crN (A 0) one p two q) p) (cdN (A 0) (A 1 1) 0 one (p / 2) (p % 2)) p (pbN (fun p => costN (A 0) (A 1 1) (feA (A 0)) one (p / 2) (p % 2)) (fun p q => costN (A 0) (putN (A 0) (A 1 1) one (p / 2) (p % 2)) (feA (A 0)) two (q / 2) (q % 2)) (fun p => true && !(p % 2 == 0)) (fun p q => !true || crN (A 0) one p two q) (2 * (A 0 0 0 * A 0 0 1)) p)) q) (mi' 95) → ∀ v6, GoM (d + 6) k_Mod_layPair 136 Q 54 [.ref 95, .int (nI one), .int (nI two), .int (nI 1), .int (nI p), .int (nI q), v6] [] (mi', ml, R0 rd, 136) := by
  have hfl := hw.T.fl
  have ec : costN (A 0) (A 1 1) (feA (A 0)) one (p / 2) (p % 2) = some (cdN (A 0) (A 1 1) 0 one (p / 2) (p % 2)) := by rw [cs_cost, hcs]; rfl
  have hcl := costN_le (fun f => feA_le hw.T f) ec
  have bd : ∀ q, q ≤ (2 * (A 0 0 0 * A 0 0 1)) → prB ((poN ((fun p q => costN (A 0) (putN (A 0) (A 1 1) one (p / 2) (p % 2)) (feA (A 0)) two (q / 2) (q % 2)) p) ((fun p q => !true || crN (A 0) one p two q) p) (cdN (A 0) (A 1 1) 0 one (p / 2) (p % 2)) p (pbN (fun p => costN (A 0) (A 1 1) (feA (A 0)) one (p / 2) (p % 2)) (fun p q => costN (A 0) (putN (A 0) (A 1 1) one (p / 2) (p % 2)) (feA (A 0)) two (q / 2) (q % 2)) (fun p => true && !(p % 2 == 0)) (fun p q => !true || crN (A 0) one p two q) (2 * (A 0 0 0 * A 0 0 1)) p)) q) := fun q hq => poN_bd (n := (2 * (A 0 0 0 * A 0 0 1))) (pbN_bd (fun j c hc => costN_le (fun f => feA_le hw.T f) hc) (fun p j m hm => costN_le (fun f => feA_le hw.T f) hm) (by omega) p (by omega)) (fun j m hm => costN_le (fun f => feA_le hw.T f) hm) hcl (by omega) (by omega) q hq
  have nomore : ∀ {q}, csN (A 0) (A 1 1) two (q / 2) (q % 2) = false → costN (A 0) (putN (A 0) (A 1 1) one (p / 2) (p % 2)) (feA (A 0)) two (q / 2) (q % 2) = none := fun {q} hn => by
    cases hm : costN (A 0) (putN (A 0) (A 1 1) one (p / 2) (p % 2)) (feA (A 0)) two (q / 2) (q % 2) with
    | none => rfl
    | some m =>
      obtain ⟨z, hz⟩ := cost_alone ec hm
      rw [cs_cost, hn] at hz
      cases hz
  refine upto ?_ ?_
  · intro mi' hf hR v6
    have hA2 := hA.mf hf ML.none
    refine g_Mod_layPair (fun K Kl hK hC => hC _ _ _ _ (t_fields hA2.T ⟨fun _ => hK _ _ _ _ (ih mi' hf hR _ _), fun a => ?_⟩))
    have a : ¬ nI 2 * nI (A 0 0 0 * A 0 0 1) ≤ nI (2 * (A 0 0 0 * A 0 0 1)) := a
    rw [pk_mul] at a
    exact absurd (iNLE a) (by omega)
  · intro q hq ih2 mi' hf hR v6
    have hA2 := hA.mf hf ML.none
    have edq : nI q / nI 2 = nI (q / 2) := pk_div (by omega) (by omega) (by omega)
    have erq : nI q - nI q / nI 2 * nI 2 = nI (q % 2) := pk_rem (by omega) (by omega) (by omega)
    have qh := pl_half hq
    rw [nI1 q] at ih2
    have skip : ((fun p q => !true || crN (A 0) one p two q) p q = false ∨ (fun p q => costN (A 0) (putN (A 0) (A 1 1) one (p / 2) (p % 2)) (feA (A 0)) two (q / 2) (q % 2)) p q = none) → ∀ mi2, MF mi mi2 → MR ((poN ((fun p q => costN (A 0) (putN (A 0) (A 1 1) one (p / 2) (p % 2)) (feA (A 0)) two (q / 2) (q % 2)) p) ((fun p q => !true || crN (A 0) one p two q) p) (cdN (A 0) (A 1 1) 0 one (p / 2) (p % 2)) p (pbN (fun p => costN (A 0) (A 1 1) (feA (A 0)) one (p / 2) (p % 2)) (fun p q => costN (A 0) (putN (A 0) (A 1 1) one (p / 2) (p % 2)) (feA (A 0)) two (q / 2) (q % 2)) (fun p => true && !(p % 2 == 0)) (fun p q => !true || crN (A 0) one p two q) (2 * (A 0 0 0 * A 0 0 1)) p)) q) (mi2 95) → ∀ v6, GoM (d + 6) k_Mod_layPair 136 Q 54 [.ref 95, .int (nI one), .int (nI two), .int (nI 1), .int (nI p), .int (nI q + nI 1), v6] [] (mi2, ml, R0 rd, 136) := fun h mi2 hf2 hR2 v6 => ih2 mi2 hf2 (by rw [poN_s h]; exact hR2) v6
    refine g_Mod_layPair (fun K Kl hK hC => hC _ _ _ _ (t_fields hA2.T ⟨fun a => ?_, fun _ => ⟨fun a => absurd a (by decide), fun _ => ⟨two0, ⟨fun b => hK _ _ _ _ (skip (Or.inl ?_) mi' hf hR _), fun b => ⟨two0, two0, ?_⟩⟩⟩⟩⟩))
    · have a : nI 2 * nI (A 0 0 0 * A 0 0 1) ≤ nI q := a
      rw [pk_mul] at a
      exact absurd (iLE a) (by omega)
    · have b : nI q - nI q / nI 2 * nI 2 = 0 := b
      rw [erq] at b
      have b := iZ b
      show (false || crN (A 0) one p two q) = false
      unfold crN
      rw [b]
      rfl
    have b : ¬ nI q - nI q / nI 2 * nI 2 = 0 := b
    rw [erq] at b
    have b := iNZ b
    rw [erq, edq]
    refine hC _ _ _ _ (t_canSet (b := 0) hA2.T hw.T (by omega) (hA2.S.s0 hw.S) h2 qh (by omega) (fun hc2 => ⟨fun _ => ⟨fun a => absurd a (by decide), fun _ => hC _ _ _ _ (t_bothOf hA2.T hw.T h1 h2 hp hq hp2 (by omega) (cs_fit hcs) (cs_fit hc2) ⟨fun b2 => hC _ _ _ _ (t_togetherOf (S := A 1) hA2.T hw.T hA2.S.b0 hw.S hA2.f.1 h1 h2 hp hq hcs (fun mi2 m hf2 hm => ?_) (fun mi2 hf2 hm => ⟨fun _ => hK _ _ _ _ (skip (Or.inr hm) mi2 (hf.trans hf2.mf) (hR.mv (hf2.k (by decide)) (hf2.k (by decide)) (hf2.k (by decide))) _), fun a => absurd (by decide) a⟩)), fun b2 => hK _ _ _ _ (skip (Or.inl ?_) mi' hf hR _)⟩)⟩, fun a => absurd a (by decide)⟩) (fun hc2 => ⟨fun a => absurd (by decide) a, fun _ => hK _ _ _ _ (skip (Or.inr (nomore hc2)) mi' hf hR _)⟩))
    rotate_left
    · show (false || crN (A 0) one p two q) = false
      rw [Bool.false_or]
      cases hcr : crN (A 0) one p two q with
      | false => rfl
      | true =>
        rw [hcr] at b2
        exact absurd rfl b2
    have hok : (fun p q => !true || crN (A 0) one p two q) p q = true := by
      show (false || crN (A 0) one p two q) = true
      rw [Bool.false_or]
      cases hcr : crN (A 0) one p two q with
      | true => rfl
      | false =>
        rw [hcr] at b2
        exact absurd b2 (by decide)
    have hml := costN_le (fun f => feA_le hw.T f) hm
    have e1 := poN_t (more := (fun p q => costN (A 0) (putN (A 0) (A 1 1) one (p / 2) (p % 2)) (feA (A 0)) two (q / 2) (q % 2)) p) (ok := (fun p q => !true || crN (A 0) one p two q) p) (cost := cdN (A 0) (A 1 1) 0 one (p / 2) (p % 2)) (p := p) (r := pbN (fun p => costN (A 0) (A 1 1) (feA (A 0)) one (p / 2) (p % 2)) (fun p q => costN (A 0) (putN (A 0) (A 1 1) one (p / 2) (p % 2)) (feA (A 0)) two (q / 2) (q % 2)) (fun p => true && !(p % 2 == 0)) (fun p q => !true || crN (A 0) one p two q) (2 * (A 0 0 0 * A 0 0 1)) p) hok hm
    have hR2 : MR ((poN ((fun p q => costN (A 0) (putN (A 0) (A 1 1) one (p / 2) (p % 2)) (feA (A 0)) two (q / 2) (q % 2)) p) ((fun p q => !true || crN (A 0) one p two q) p) (cdN (A 0) (A 1 1) 0 one (p / 2) (p % 2)) p (pbN (fun p => costN (A 0) (A 1 1) (feA (A 0)) one (p / 2) (p % 2)) (fun p q => costN (A 0) (putN (A 0) (A 1 1) one (p / 2) (p % 2)) (feA (A 0)) two (q / 2) (q % 2)) (fun p => true && !(p % 2 == 0)) (fun p q => !true || crN (A 0) one p two q) (2 * (A 0 0 0 * A 0 0 1)) p)) q) (mi2 95) := hR.mv (hf2.k (by decide)) (hf2.k (by decide)) (hf2.k (by decide))
    have hmf2 := hf.trans hf2.mf
    have hbd := bd q (by omega)
    cases hr : (poN ((fun p q => costN (A 0) (putN (A 0) (A 1 1) one (p / 2) (p % 2)) (feA (A 0)) two (q / 2) (q % 2)) p) ((fun p q => !true || crN (A 0) one p two q) p) (cdN (A 0) (A 1 1) 0 one (p / 2) (p % 2)) p (pbN (fun p => costN (A 0) (A 1 1) (feA (A 0)) one (p / 2) (p % 2)) (fun p q => costN (A 0) (putN (A 0) (A 1 1) one (p / 2) (p % 2)) (feA (A 0)) two (q / 2) (q % 2)) (fun p => true && !(p % 2 == 0)) (fun p q => !true || crN (A 0) one p two q) (2 * (A 0 0 0 * A 0 0 1)) p)) q with
    | none =>
      rw [hr] at e1 hR2
      have hR2 : mi2 95 79 = -1 := hR2
      refine ⟨fun a => (iNN a (by omega)).elim, fun _ => ⟨fun _ => hK _ _ _ _ (ih2 _ (((hmf2.cu rfl).cu rfl).cu rfl) (by rw [e1]; exact ⟨rfl, rfl, rfl⟩) _), fun a => ?_⟩⟩
      have a : ¬ mi2 95 79 < 0 := a
      rw [hR2] at a
      exact absurd (by decide) a
    | some t =>
      obtain ⟨w, a1, b1⟩ := t
      rw [hr] at e1 hR2 hbd
      have hR3 : mi2 95 79 = nI w := hR2.1
      have hw1 : w ≤ 11000 := hbd.1
      simp only at e1
      refine ⟨fun a => (iNN a (by omega)).elim, fun _ => ⟨fun a => ?_, fun _ => ⟨fun c => ?_, fun c => ?_⟩⟩⟩
      · have a : mi2 95 79 < 0 := a
        rw [hR3] at a
        exact (iNN a (by omega)).elim
      · have c : nI (cdN (A 0) (A 1 1) 0 one (p / 2) (p % 2) + m) < mi2 95 79 := c
        rw [hR3] at c
        rw [if_pos (iLT c)] at e1
        exact hK _ _ _ _ (ih2 _ (((hmf2.cu rfl).cu rfl).cu rfl) (by rw [e1]; exact ⟨rfl, rfl, rfl⟩) _)
      · have c : ¬ nI (cdN (A 0) (A 1 1) 0 one (p / 2) (p % 2) + m) < mi2 95 79 := c
        rw [hR3] at c
        rw [if_neg (by have := iNLT c; omega)] at e1
        exact hK _ _ _ _ (ih2 mi2 hmf2 (by rw [e1]; exact hR2) _)
set_option maxHeartbeats 1000000 in
theorem t_layPair_t (hA : MI A mi ml) (hw : wfA A) {one two : Nat} (h1 : one < A 0 0 4) (h2 : two < A 0 0 4) (hQ : ∀ mi', MF mi mi' → MR (pairN (A 0) (A 1 1) one two true) (mi' 95) → Q none (mi', ml, R0 rd, 136)) : Cd (d + 7) k_Mod_layPair [.ref 95, .int (nI one), .int (nI two), .int (nI 1)] (mi, ml, R0 rd, 136) Q := by
  have hfl := hw.T.fl
  have lp : ∀ p, p ≤ (2 * (A 0 0 0 * A 0 0 1)) → ∀ mi', MF mi mi' → MR (pbN (fun p => costN (A 0) (A 1 1) (feA (A 0)) one (p / 2) (p % 2)) (fun p q => costN (A 0) (putN (A 0) (A 1 1) one (p / 2) (p % 2)) (feA (A 0)) two (q / 2) (q % 2)) (fun p => true && !(p % 2 == 0)) (fun p q => !true || crN (A 0) one p two q) (2 * (A 0 0 0 * A 0 0 1)) p) (mi' 95) → ∀ v5 v6, GoM (d + 6) k_Mod_layPair 136 Q 8 [.ref 95, .int (nI one), .int (nI two), .int (nI 1), .int (nI p), v5, v6] [] (mi', ml, R0 rd, 136) := by
    refine upto ?_ ?_
    · intro mi' hf hR v5 v6
      have hA2 := hA.mf hf ML.none
      refine g_Mod_layPair (fun K Kl hK hC => hC _ _ _ _ (t_fields hA2.T ⟨fun _ => ⟨rfl, hQ mi' hf hR⟩, fun a => ?_⟩))
      have a : ¬ nI 2 * nI (A 0 0 0 * A 0 0 1) ≤ nI (2 * (A 0 0 0 * A 0 0 1)) := a
      rw [pk_mul] at a
      exact absurd (iNLE a) (by omega)
    intro p hp ih mi' hf hR v5 v6
    have hA2 := hA.mf hf ML.none
    have edp : nI p / nI 2 = nI (p / 2) := pk_div (by omega) (by omega) (by omega)
    have erp : nI p - nI p / nI 2 * nI 2 = nI (p % 2) := pk_rem (by omega) (by omega) (by omega)
    have ph := pl_half hp
    rw [nI1 p] at ih
    refine g_Mod_layPair (fun K Kl hK hC => hC _ _ _ _ (t_fields hA2.T ⟨fun a => ?_, fun _ => ⟨fun a => absurd a (by decide), fun _ => ⟨two0, ⟨fun b => hK _ _ _ _ ?_, fun b => ⟨two0, two0, ?_⟩⟩⟩⟩⟩))
    · have a : nI 2 * nI (A 0 0 0 * A 0 0 1) ≤ nI p := a
      rw [pk_mul] at a
      exact absurd (iLE a) (by omega)
    · have b : nI p - nI p / nI 2 * nI 2 = nI 1 := b
      rw [erp] at b
      have b := iEQ b
      rw [pbN_s (Or.inl (show (true && !(p % 2 == 0)) = true by rw [b]; rfl))] at ih
      exact ih mi' hf hR _ _
    have b : ¬ nI p - nI p / nI 2 * nI 2 = nI 1 := b
    rw [erp] at b
    have b := iNE b
    have hp2 : p % 2 = 0 := by omega
    rw [erp, edp]
    refine hC _ _ _ _ (t_canSet (b := 0) hA2.T hw.T (by omega) (hA2.S.s0 hw.S) h1 ph (by omega) (fun hcs => ⟨fun _ => hK _ _ _ _ ?_, fun a => absurd a (by decide)⟩) (fun hcs => ⟨fun a => absurd (by decide) a, fun _ => hK _ _ _ _ ?_⟩))
    · rw [pbN_t (c := cdN (A 0) (A 1 1) 0 one (p / 2) (p % 2)) (show (true && !(p % 2 == 0)) = false by rw [hp2]; rfl) (by rw [cs_cost, hcs]; rfl)] at ih
      exact pairIn_t hA hw h1 h2 hp hp2 hcs ih 0 (Nat.zero_le _) mi' hf hR _
    · rw [pbN_s (Or.inr (by rw [cs_cost, hcs]; rfl))] at ih
      exact ih mi' hf hR _ _
  exact r_Mod_layPair (by decide) (fun K Kl hK hC => hK _ _ _ _ (lp 0 (Nat.zero_le _) (cu mi 95 (upd (mi 95) 79 (-1))) (MF.none.cu rfl) (show cu mi 95 (upd (mi 95) 79 (-1)) 95 79 = -1 from rfl) _ _))
set_option maxHeartbeats 1000000 in
theorem q_crossed (hA : MI A mi ml) (hw : wfA A) (hQ : ∀ mi' ml', MF mi mi' → ML ml ml' → Q (some (.int (aCrossed A x y z))) (mi', ml', R0 rd, 136)) : Cd (d + 8) k_Mod_crossed [.ref 95, .int x, .int y, .int z] (mi, ml, R0 rd, 136) Q := by
  have hA1 := hA.mf thr0 ML.none
  have h6 := hw.T.wd6
  have hfl := hw.T.fl
  unfold aCrossed at hQ
  refine r_Mod_crossed (by decide) (fun K Kl hK hC => hC _ _ _ _ (t_isWord hA1.T hw.T (fun v hv e1 => ⟨fun a => absurd a (by decide), fun _ => hC _ _ _ _ (t_isWord hA1.T hw.T (fun w hwd e2 => ⟨fun a => absurd a (by decide), fun _ => ⟨fun exy => ⟨rfl, ?_⟩, fun exy => hC _ _ _ _ (t_isIn (fun g1 g2 => ⟨fun _ => ?_, fun a => absurd a (by decide)⟩) (fun hno => ⟨fun a => absurd (by decide) a, fun _ => ⟨rfl, ?_⟩⟩))⟩⟩) (fun hno => ⟨fun _ => ⟨rfl, ?_⟩, fun a => absurd (by decide) a⟩))⟩) (fun hno => ⟨fun _ => ⟨rfl, ?_⟩, fun a => absurd (by decide) a⟩)))
  · rw [un2_none (Or.inl exy)] at hQ
    exact hQ _ ml thr0 ML.none
  · subst e1; subst e2
    obtain ⟨k, hk, rfl, he⟩ := ixo_rg (n := 2) (by omega) g1 g2
    rw [un2_some hw.T hv hwd (iNE exy), he] at hQ
    refine hC _ _ _ _ (t_layPair_t hA1 hw hv hwd (fun mi' hf hR => ?_))
    have hQ := hQ mi' ml (thr0.trans hf) ML.none
    cases hr : pairN (A 0) (A 1 1) v w true with
    | none =>
      rw [hr] at hR
      simp only [hr] at hQ
      have hR : mi' 95 79 = -1 := hR
      refine ⟨fun a => ?_, fun _ => ⟨rfl, hQ⟩⟩
      have a : 0 ≤ mi' 95 79 := a
      rw [hR] at a
      exact absurd a (by decide)
    | some t =>
      obtain ⟨c, p, q⟩ := t
      have hin := pbN_in _ (show pbN _ _ _ _ _ _ = some (c, p, q) from hr)
      rw [hr] at hR
      simp only [hr] at hQ
      obtain ⟨c0, m0, hc0, hm0, hx0⟩ := hin.2.2
      have b1 := costN_le (fun f => feA_le hw.T f) hc0
      have b2 := costN_le (fun f => feA_le hw.T f) hm0
      obtain ⟨r1, r2, r3⟩ : mi' 95 79 = nI c ∧ mi' 95 80 = nI p ∧ mi' 95 81 = nI q := hR
      refine ⟨fun _ => ⟨fun a => ⟨fun a2 => ⟨two0, ?_⟩, fun a2 => ⟨two0, ?_⟩⟩, fun a => ⟨rfl, ?_⟩⟩, fun a => ?_⟩
      · rw [if_neg (iNZ a), if_neg (iNE a2), ← pk_div (by omega) (by omega) (by omega), ← r3] at hQ
        exact ⟨rfl, hQ⟩
      · rw [if_neg (iNZ a), if_pos (iEQ a2), ← pk_div (by omega) (by omega) (by omega), ← r2] at hQ
        exact ⟨rfl, hQ⟩
      · rw [if_pos (iZ a), ← r1] at hQ
        exact hQ
      · have a : ¬ 0 ≤ mi' 95 79 := a
        rw [r1] at a
        exact absurd (nI_pos' (by omega)) a
  · subst e1; subst e2
    have hn : ixo z 3 = none := hno.elim (fun h => ixo_neg h) (fun h => ixo_big (n := 2) (by omega) h)
    rw [un2_some hw.T hv hwd (iNE exy), hn] at hQ
    exact hQ _ ml thr0 ML.none
  · rw [un2_none (Or.inr (Or.inr (ixo_none hno)))] at hQ
    exact hQ _ ml thr0 ML.none
  · rw [un2_none (Or.inr (Or.inl (ixo_none hno)))] at hQ
    exact hQ _ ml thr0 ML.none
set_option maxHeartbeats 2000000 in
theorem q_shared (hA : MI A mi ml) (hw : wfA A) (hQ : ∀ mi' ml', MF mi mi' → ML ml ml' → Q (some (.int (aShared A x y z))) (mi', ml', R0 rd, 136)) : Cd (d + 8) k_Mod_shared [.ref 95, .int x, .int y, .int z] (mi, ml, R0 rd, 136) Q := by
  have hA1 := hA.mf thr0 ML.none
  have h6 := hw.T.wd6
  have hfl := hw.T.fl
  unfold aShared at hQ
  refine r_Mod_shared (by decide) (fun K Kl hK hC => hC _ _ _ _ (t_isWord hA1.T hw.T (fun v hv e1 => ⟨fun a => absurd a (by decide), fun _ => hC _ _ _ _ (t_isWord hA1.T hw.T (fun w hwd e2 => ⟨fun a => absurd a (by decide), fun _ => ⟨fun exy => ⟨rfl, ?_⟩, fun exy => hC _ _ _ _ (t_isIn (fun g1 g2 => ⟨fun _ => ?_, fun a => absurd a (by decide)⟩) (fun hno => ⟨fun a => absurd (by decide) a, fun _ => ⟨rfl, ?_⟩⟩))⟩⟩) (fun hno => ⟨fun _ => ⟨rfl, ?_⟩, fun a => absurd (by decide) a⟩))⟩) (fun hno => ⟨fun _ => ⟨rfl, ?_⟩, fun a => absurd (by decide) a⟩)))
  · rw [un2_none (Or.inl exy)] at hQ
    exact hQ _ ml thr0 ML.none
  · subst e1; subst e2
    obtain ⟨k, hk, rfl, he⟩ := ixo_rg (n := 6) (by omega) g1 g2
    rw [un2_some hw.T hv hwd (iNE exy), he] at hQ
    refine hC _ _ _ _ (t_layPair_f hA1 hw hv hwd (fun mi' hf hR => ?_))
    have hf0 := thr0.trans hf
    have hA2 := hA.mf hf0 ML.none
    cases hr : pairN (A 0) (A 1 1) v w false with
    | none =>
      have hQ := hQ mi' ml hf0 ML.none
      rw [hr] at hR
      simp only [hr] at hQ
      have hR : mi' 95 79 = -1 := hR
      refine ⟨fun a => ?_, fun _ => ⟨rfl, hQ⟩⟩
      have a : 0 ≤ mi' 95 79 := a
      rw [hR] at a
      exact absurd a (by decide)
    | some t =>
      obtain ⟨c, p, q⟩ := t
      have hal := pair_alone hr
      have hin := pbN_in _ (show pbN _ _ _ _ _ _ = some (c, p, q) from hr)
      rw [hr] at hR
      simp only [hr] at hQ
      obtain ⟨c0, m0, hc0, hm0, hx0⟩ := hin.2.2
      have b1 := costN_le (fun f => feA_le hw.T f) hc0
      have b2 := costN_le (fun f => feA_le hw.T f) hm0
      obtain ⟨r1, r2, r3⟩ : mi' 95 79 = nI c ∧ mi' 95 80 = nI p ∧ mi' 95 81 = nI q := hR
      refine ⟨fun _ => ⟨fun k5 => ?_, fun k5 => ?_⟩, fun a => ?_⟩
      · have k5 := iLE k5
        obtain ⟨pv, hpv⟩ := hal.1
        obtain ⟨pw, hpw⟩ := hal.2
        refine hC _ _ _ _ (t_layCheapest (b := 0) (fr := 0) (br := 0) hA2.T hw.T (by omega) (hA2.S.s0 hw.S) (hA2.f.1.trans (by decide)) (by omega) (hA2.f.2.trans (by decide)) (by omega) hv (fun g1 hg1 h77 h78 => ?_))
        rw [feX_0] at h77 h78
        have e78 := h78 _ _ hpv
        have hf3 := hf0.trans (lc_mf hg1)
        have hA3 := hA.mf hf3 ML.none
        refine hC _ _ _ _ (t_layCheapest (b := 0) (fr := 0) (br := 0) hA3.T hw.T (by omega) (hA3.S.s0 hw.S) (hA3.f.1.trans (by decide)) (by omega) (hA3.f.2.trans (by decide)) (by omega) hwd (fun g2 hg2 i77 i78 => ⟨two0, ?_⟩))
        rw [feX_0] at i77 i78
        have f78 := i78 _ _ hpw
        have hf4 := hf3.trans (lc_mf hg2)
        have hQ := hQ _ ml hf4 ML.none
        have s79 : g2 79 = nI c := (hg2 79 (by decide) (by decide)).trans ((hg1 79 (by decide) (by decide)).trans r1)
        refine ⟨fun k6 => ⟨rfl, ?_⟩, fun k6 => ⟨rfl, ?_⟩⟩
        · have k6 := iNE k6
          rw [if_neg (by omega), if_neg (by omega), if_neg (by omega), if_neg (by omega), if_neg (by omega), if_neg (by omega), Int32.add_comm (nI (chv A w)) (nI (chv A v)), ← e78, ← f78, ← s79] at hQ
          exact hQ
        · have k6 := iEQ k6
          rw [if_neg (by omega), if_neg (by omega), if_neg (by omega), if_neg (by omega), if_neg (by omega), if_pos (by omega), ← e78, ← f78, ← s79] at hQ
          exact hQ
      · have k5 := iNLE k5
        have hQ := hQ mi' ml hf0 ML.none
        refine ⟨fun a => ⟨fun a2 => ⟨fun a3 => ⟨fun a4 => ⟨two0, ?_⟩, fun a4 => ⟨two0, ?_⟩⟩, fun a3 => ⟨two0, ?_⟩⟩, fun a2 => ⟨two0, ?_⟩⟩, fun a => ⟨rfl, ?_⟩⟩
        · have a := iNZ a
          have a2 := iNE a2
          have a3 := iNE a3
          have a4 := iNE a4
          rw [if_neg a, if_neg a2, if_neg a3, if_neg a4, if_pos (by omega), ← pk_rem (by omega) (by omega) (by omega), ← r3] at hQ
          exact ⟨rfl, hQ⟩
        · have a4 := iEQ a4
          rw [if_neg (by omega), if_neg (by omega), if_neg (by omega), if_pos a4, ← pk_rem (by omega) (by omega) (by omega), ← r2] at hQ
          exact ⟨rfl, hQ⟩
        · have a3 := iEQ a3
          rw [if_neg (by omega), if_neg (by omega), if_pos a3, ← pk_div (by omega) (by omega) (by omega), ← r3] at hQ
          exact ⟨rfl, hQ⟩
        · have a2 := iEQ a2
          rw [if_neg (by omega), if_pos a2, ← pk_div (by omega) (by omega) (by omega), ← r2] at hQ
          exact ⟨rfl, hQ⟩
        · rw [if_pos (iZ a), ← r1] at hQ
          exact hQ
      · have a : ¬ 0 ≤ mi' 95 79 := a
        rw [r1] at a
        exact absurd (nI_pos' (by omega)) a
  · subst e1; subst e2
    have hn : ixo z 7 = none := hno.elim (fun h => ixo_neg h) (fun h => ixo_big (n := 6) (by omega) h)
    rw [un2_some hw.T hv hwd (iNE exy), hn] at hQ
    exact hQ _ ml thr0 ML.none
  · rw [un2_none (Or.inr (Or.inr (ixo_none hno)))] at hQ
    exact hQ _ ml thr0 ML.none
  · rw [un2_none (Or.inr (Or.inl (ixo_none hno)))] at hQ
    exact hQ _ ml thr0 ML.none
end
