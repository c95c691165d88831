/-! WHAT THE REFERENCE ANSWERS: look, thrown -/
/-- what look does: 0 and its answer, or which exception -/
def aLook (A : St) (x y : Int32) : Nat × Int32 := match ixo x (flA A) with
  | none => (1, nI 0)
  | some f => match ixo y 5 with
    | none => (2, nI 0)
    | some k => (0, if k = 0 then nI (A 1 1 f) else if k = 1 then nI (bcN (A 1 1 f)) else if k = 2 then nI (A 0 4 f) - 1 else if k = 3 then nI (feeN (A 0) f) else nI (leftN (A 0) f (A 1 0 0)))
section
variable {d : Nat} {Q : Option Value → Mm → Prop} {A : St} {T S N : Nat → Nat → Nat} {mi : Nat → Nat → Int32} {ml : Nat → Nat → Int64} {rd : Option Nat} {x y z : Int32}
theorem t_fails {n : Nat} (hQ : Q (some (.int (nI 0))) (cu mi 95 (upd (mi 95) 2 (nI n)), ml, R0 rd, 136)) : Cd (d + 1) k_Mod_fails [.ref 95, .int (nI n)] (mi, ml, R0 rd, 136) Q := r_Mod_fails (by decide) (fun K Kl hK hC => ⟨rfl, hQ⟩)
theorem q_thrown {n : Nat} (h : mi 95 2 = nI n) (hQ : Q (some (.int (nI n))) (mi, ml, R0 rd, 136)) : Cd (d + 1) k_Mod_thrown [.ref 95] (mi, ml, R0 rd, 136) Q := by
  rw [← h] at hQ
  exact r_Mod_thrown (by decide) (fun K Kl hK hC => ⟨rfl, hQ⟩)
set_option maxHeartbeats 1000000 in
theorem q_look (hA : MI A mi ml) (hw : wfA A) (hQ : ∀ mi', MF mi mi' → mi' 95 2 = nI (aLook A x y).1 → Q (some (.int (aLook A x y).2)) (mi', ml, R0 rd, 136)) : Cd (d + 3) k_Mod_look [.ref 95, .int x, .int y] (mi, ml, R0 rd, 136) Q := by
  have hA1 := hA.mf thr0 ML.none
  have hfl := hw.T.fl
  have hd9 := hw.d
  unfold aLook at hQ
  refine r_Mod_look (by decide) (fun K Kl hK hC => hC _ _ _ _ (t_isField hA1.T hw.T (fun f hf e => ⟨fun _ => ?_, fun a => absurd a (by decide)⟩) (fun hno => ⟨fun a => absurd (by decide) a, fun _ => hC _ _ _ _ (t_fails ⟨rfl, ?_⟩)⟩)))
  · subst e
    rw [ixf hw.T hf] at hQ
    have es : mi 123 f = nI (A 1 1 f) := hA.S.1 f (by omega)
    have hs := hw.S.sh f
    have eo : mi 103 f = nI (A 0 4 f) - 1 := hA.T.own f (by omega)
    rcases ixo_cs y 5 with ⟨k, hk, rfl, he⟩ | ⟨hne, he⟩
    · simp only [he] at hQ
      have : k = 0 ∨ k = 1 ∨ k = 2 ∨ k = 3 ∨ k = 4 := by omega
      rcases this with rfl | rfl | rfl | rfl | rfl
      · have hq := hQ _ thr0 rfl
        rw [if_pos rfl, ← es] at hq
        exact ⟨fun _ => ⟨f, by omega, rfl, ⟨rfl, hq⟩⟩, fun a => absurd rfl a⟩
      · have hq := hQ _ thr0 rfl
        have cm : ∀ P : Option Value → Mm → Prop, P (some (.int (nI (bcN (A 1 1 f))))) (cu mi 95 (upd (mi 95) 2 (nI 0)), ml, R0 rd, 136) → Cd (d + 2) k_Mod_manyOf [.int (mi 123 f)] (cu mi 95 (upd (mi 95) 2 (nI 0)), ml, R0 rd, 136) P := fun P p => by
          rw [es]
          exact s_Mod_manyOf (by omega) p
        refine ⟨fun a => absurd a (by decide), fun _ => swP_c (fun _ => ⟨f, by omega, rfl, hC _ _ _ _ (cm _ ⟨rfl, hq⟩)⟩) (fun a => absurd rfl a)⟩
      · have hq := hQ _ thr0 rfl
        have hq : Q (some (.int (nI (A 0 4 f) - 1))) _ := hq
        rw [← eo] at hq
        exact ⟨fun a => absurd a (by decide), fun _ => swP_c (fun a => absurd a (by decide)) (fun _ => swP_c (fun _ => ⟨f, by omega, rfl, ⟨rfl, hq⟩⟩) (fun a => absurd rfl a))⟩
      · have hq := hQ _ thr0 rfl
        exact ⟨fun a => absurd a (by decide), fun _ => swP_c (fun a => absurd a (by decide)) (fun _ => swP_c (fun a => absurd a (by decide)) (fun _ => swP_c (fun _ => hC _ _ _ _ (t_priceOf hA1.T hw.T (by omega) ⟨rfl, hq⟩)) (fun a => absurd rfl a)))⟩
      · have hq := hQ _ thr0 rfl
        exact ⟨fun a => absurd a (by decide), fun _ => swP_c (fun a => absurd a (by decide)) (fun _ => swP_c (fun a => absurd a (by decide)) (fun _ => swP_c (fun a => absurd a (by decide)) (fun _ => swP_c (fun _ => hC _ _ _ _ (t_leftOf (b := 0) hA1.T hw.T (by omega) (by omega) hA1.S.2.1 (by omega) ⟨rfl, hq⟩)) (fun a => absurd rfl a))))⟩
    · simp only [he] at hQ
      have hq := hQ (cu (cu mi 95 (upd (mi 95) 2 (nI 0))) 95 (upd (upd (mi 95) 2 (nI 0)) 2 (nI 2))) (thr0.cu rfl) rfl
      have fin : ∀ P : Option Value → Mm → Prop, P (some (.int (nI 0))) (cu (cu mi 95 (upd (mi 95) 2 (nI 0))) 95 (upd (upd (mi 95) 2 (nI 0)) 2 (nI 2)), ml, R0 rd, 136) → Cd (d + 2) k_Mod_fails [.ref 95, .int (nI 2)] (cu mi 95 (upd (mi 95) 2 (nI 0)), ml, R0 rd, 136) P := fun P p => t_fails p
      exact ⟨fun a => absurd a (hne 0 (by decide)), fun _ => swP_c (fun a => absurd a (hne 1 (by decide))) (fun _ => swP_c (fun a => absurd a (hne 2 (by decide))) (fun _ => swP_c (fun a => absurd a (hne 3 (by decide))) (fun _ => swP_c (fun a => absurd a (hne 4 (by decide))) (fun _ => swP_n (hC _ _ _ _ (fin _ ⟨rfl, hq⟩))))))⟩
  · rw [show ixo x (flA A) = none from ixo_none hno] at hQ
    exact hQ _ (thr0.cu rfl) rfl
end
