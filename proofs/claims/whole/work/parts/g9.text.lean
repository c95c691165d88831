/-! THE REFERENCE TAKES A TEXT: the call -/
section
variable {d : Nat} {Q : Option Value → Mm → Prop} {A : St} {mi : Nat → Nat → Int32} {ml : Nat → Nat → Int64} {rd : Option Nat} {x : Int32}
set_option maxHeartbeats 2000000 in
theorem q_text (hA : MI A mi ml) (hw : wfA A) (hQ : ∀ mi' ml', MI (aText A x).2 mi' ml' → Lo mi mi' → Lo ml ml' → Q (some (.int (aText A x).1)) (mi', ml', R0 rd, 136)) : Cd (d + 6) k_Mod_text [.ref 95, .int x] (mi, ml, R0 rd, 136) Q := by
  unfold aText at hQ
  have h700 := hw.f
  have ef : mi 95 1 = nI (A 4 0 2) := hA.b.1
  have m1f : MF mi (cu mi 95 (upd (mi 95) 2 (nI 0))) := MF.none.cu rfl
  refine r_Mod_text (by decide) (fun K Kl hK hC => ⟨fun z => ⟨rfl, ?_⟩, fun z => ⟨fun z2 => ?_, fun z2 => ⟨rfl, ?_⟩⟩⟩)
  · rw [ixo_neg z] at hQ
    exact hQ _ _ (hA.mf m1f ML.none) m1f.lo Lo.none
  · have z2 : x ≤ mi 95 1 := z2
    rw [ef] at z2
    obtain ⟨n, hn, rfl⟩ := nI_of z
    have z2 := iLE z2
    rw [ixo_some (n := A 4 0 2 + 1) (by omega)] at hQ
    unfold pText at hQ
    have hE0 : TE (A 4 1) n (cu (cu (cu (cu (cu (cu mi 95 (upd (mi 95) 2 (nI 0))) 95 (upd (upd (mi 95) 2 (nI 0)) 6 (nI n))) 95 (upd (upd (upd (mi 95) 2 (nI 0)) 6 (nI n)) 1 (nI 0))) 95 (upd (upd (upd (upd (mi 95) 2 (nI 0)) 6 (nI n)) 1 (nI 0)) 4 (nI 0))) 95 (upd (upd (upd (upd (upd (mi 95) 2 (nI 0)) 6 (nI n)) 1 (nI 0)) 4 (nI 0)) 5 (-1))) 95 (upd (upd (upd (upd (upd (upd (mi 95) 2 (nI 0)) 6 (nI n)) 1 (nI 0)) 4 (nI 0)) 5 (-1)) 7 (nI 0))) := ⟨rfl, by omega, fun i hi => ⟨hA.b.2 i (by omega), hw.b i⟩, hA.w⟩
    generalize hm0 : (cu (cu (cu (cu (cu (cu mi 95 (upd (mi 95) 2 (nI 0))) 95 (upd (upd (mi 95) 2 (nI 0)) 6 (nI n))) 95 (upd (upd (upd (mi 95) 2 (nI 0)) 6 (nI n)) 1 (nI 0))) 95 (upd (upd (upd (upd (mi 95) 2 (nI 0)) 6 (nI n)) 1 (nI 0)) 4 (nI 0))) 95 (upd (upd (upd (upd (upd (mi 95) 2 (nI 0)) 6 (nI n)) 1 (nI 0)) 4 (nI 0)) 5 (-1))) 95 (upd (upd (upd (upd (upd (upd (mi 95) 2 (nI 0)) 6 (nI n)) 1 (nI 0)) 4 (nI 0)) 5 (-1)) 7 (nI 0))) = m0 at hE0
    have e0 : m0 95 1 = nI 0 ∧ m0 95 4 = nI 0 ∧ m0 95 5 = -1 ∧ m0 95 7 = nI 0 ∧ m0 95 75 = mi 95 75 ∧ m0 95 76 = mi 95 76 := by
      rw [← hm0]; exact ⟨rfl, rfl, rfl, rfl, rfl, rfl⟩
    have ec : ∀ c, c ≠ 95 → m0 c = mi c := fun c hc => by
      rw [← hm0, cu_ne hc, cu_ne hc, cu_ne hc, cu_ne hc, cu_ne hc, cu_ne hc]
    have e95 : ∀ k, k ≠ 1 → k ≠ 2 → k ≠ 6 → wA2 95 k = false → m0 95 k = mi 95 k := fun k h1 h2 h6 hw => by
      have h4 : k ≠ 4 := fun e => by rw [e] at hw; cases hw
      have h5 : k ≠ 5 := fun e => by rw [e] at hw; cases hw
      have h7 : k ≠ 7 := fun e => by rw [e] at hw; cases hw
      rw [← hm0]
      show upd (upd (upd (upd (upd (upd (mi 95) 2 _) 6 _) 1 _) 4 _) 5 _) 7 _ k = _
      rw [pk_un h7, pk_un h5, pk_un h4, pk_un h1, pk_un h6, pk_un h2]
    have lo0 : Lo mi m0 := fun c hc => ec c (by omega)
    have tkb : ∀ i, tK (A 4 1) n i ≤ 45 ∧ (tK (A 4 1) n i = 2 → nmOK (tV (A 4 1) n i)) := fun i => by
      unfold tK tV
      by_cases hl : psN (A 4 1) n i < n
      · rw [if_pos hl, if_pos hl]
        have := tk_in (b := A 4 1) hl
        exact ⟨this.2.1, this.2.2.2⟩
      · rw [if_neg hl, if_neg hl]
        exact ⟨by decide, fun q => by cases q⟩
    subst hm0
    refine hC _ _ _ _ (t_plain (fun m1 w1 t1 X1 => hC _ _ _ _ (t_token (b := A 4 1) (n := n) (hE0.wf w1.wf) (Nat.zero_le n) ((t1 7 (by decide)).trans e0.2.2.2.1) (fun m2 f2 h10 h7 hk => hK _ _ _ _ ?_))))
    refine txtLp (A := A) (by omega) e0.1 e0.2.1 e0.2.2.1 ⟨e0.2.2.2.2.1.trans hA.f.1, e0.2.2.2.2.2.trans hA.f.2⟩ (fun i hi => by rw [ec 97 (by decide)]; exact hA.w i hi) (fun i => (tkb i).1) (fun i => (tkb i).2) 701 tI 0 0 m2 (Nat.zero_le n) (by omega) (hE0.wf (w1.trans f2.wg).wf) ⟨h10, h7, hk⟩ (w1.trans f2.wg) (f2.f5.mx X1) tI_ok (fun e he m3 f3 a4 a5 => ?_) (fun T' l' he m3 ml3 hA3 lo3 lol => ?_)
    · simp only [he] at hQ
      refine hQ _ _ (hA.er hw.T (fun c k hc hk => by rw [f3 c k hk, ec c hc]) (fun k hk h1 h2 h6 => by rw [f3 95 k hk]; exact e95 k h1 h2 h6 hk) ((f3 95 1 rfl).trans e0.1) a4 a5) (lo0.trans f3.lo) Lo.none
    · simp only [he] at hQ
      exact hQ _ _ hA3 (lo0.trans lo3) lol
  · have z2 : ¬ x ≤ mi 95 1 := z2
    rw [ef] at z2
    obtain ⟨n, hn, rfl⟩ := nI_of z
    have z2 := iNLE z2
    rw [ixo_big (by omega) (nI_lt z2 (by omega))] at hQ
    exact hQ _ _ (hA.mf m1f ML.none) m1f.lo Lo.none
end
