/-! THE LAW'S LOOP -/
def swL : List (Int32 × Nat) := [(nI 0, 224), (nI 1, 297), (nI 2, 322), (nI 3, 347), (nI 4, 384), (nI 5, 452), (nI 6, 477), (nI 7, 514), (nI 8, 551), (nI 9, 588), (nI 10, 614), (nI 11, 663), (nI 12, 712), (nI 13, 749), (nI 14, 774), (nI 15, 811), (nI 16, 848), (nI 17, 897), (nI 18, 958), (nI 19, 995), (nI 20, 1032), (nI 21, 1081), (nI 22, 1142), (nI 23, 1167), (nI 24, 1192), (nI 25, 1217), (nI 26, 1242), (nI 27, 1279), (nI 28, 1292), (nI 29, 1329), (nI 30, 1366), (nI 31, 1415), (nI 32, 1464), (nI 33, 1513), (nI 34, 1538), (nI 35, 1563), (nI 36, 1576), (nI 37, 1613), (nI 38, 1662), (nI 39, 1675), (nI 40, 1688), (nI 41, 1701)]
theorem swP_all {J : Nat → Prop} {x : Int32} {d : Nat} : ∀ {l : List (Int32 × Nat)}, (∀ q ∈ l, J q.2) → J d → swP J x d l
  | [], _, hd => hd
  | _ :: _, h, hd => ⟨fun _ => h _ List.mem_cons_self, fun _ => swP_all (fun q hq => h q (List.mem_cons_of_mem _ hq)) hd⟩
theorem top_le {L i : Nat} (hL : L ≤ 3072) (hi : i ≤ L) (h : ¬ (nI L - nI 6 < nI i)) : i + 6 ≤ L := by
  rcases Nat.lt_or_ge L 6 with q | q
  · exfalso
    have e : ∀ L, L < 6 → ∀ i, i < 6 → nI L - nI 6 < nI i := by decide
    exact h (e L q i (by omega))
  · have e : nI L = nI (L - 6) + nI 6 := by rw [nI_add, show L - 6 + 6 = L by omega]
    rw [e, Int32.add_sub_cancel] at h
    have := iNLT h
    omega
section
variable {Kl : Nat → List Value → Mm → (Option Value → Mm → Prop) → Prop} {K : Nat → List Value → List Value → Mm → Prop} {L : Nat} {xs : Nat → Int32} {i : Nat} {A : St} {mi : Nat → Nat → Int32} {ml : Nat → Nat → Int64} {rd : Option Nat} {v5 v6 : Value}
set_option maxRecDepth 20000 in
theorem lc_top {M : Mm} (hC : ∀ k as M P, ClL 12 L xs k as M P → Kl k as M P) (hL : L ≤ 3072) (hi : i ≤ L) (h : i + 6 ≤ L → ∀ q ∈ swL, CsG Kl K q.2 i v5 v6 [] M) (h' : i + 6 ≤ L → CsG Kl K 1726 i v5 v6 [] M) :
    match sfx m_L 23 with
    | e :: rest => stpN Kl mcT 2 136 (fun r _ => r = some (.int 1)) (fun t => GnN Kl mcT 2 136 (fun r _ => r = some (.int 1)) K m_L 1000 (sfx m_L t)) e (GnN Kl mcT 2 136 (fun r _ => r = some (.int 1)) K m_L 1000 rest) [.ref 901, .ref 0, .ref 95, .ref 135, .int (nI i), v5, v6] [] M
    | [] => False := by
  refine hC _ _ _ _ (Or.inr (Or.inr ⟨rfl, rfl, ?_⟩))
  refine ⟨fun _ => ⟨Or.inr rfl, rfl⟩, fun hn => ?_⟩
  have h6 : i + 6 ≤ L := top_le hL hi hn
  refine hC _ _ _ _ (Or.inr (Or.inl ⟨rfl, i, by omega, rfl, ?_⟩))
  exact swP_all (J := fun pc => CsG Kl K pc i v5 v6 [] M) (d := 1726) (l := swL) (h h6) (h' h6)
set_option maxRecDepth 20000 in
theorem lc_def (H : CsH Kl K L xs i) (hA : CI A mi) (hM : MI A mi ml) (hw : wfA A) : CsG Kl K 1726 i v5 v6 [] (mi, ml, R0 rd, 136) := H.2.2.2 _ _ _ _ _ _ hA hM hw
set_option maxRecDepth 20000 in
theorem lc_4 {M : Mm} (H : CsH Kl K L xs i) (h4 : K 398 [.ref 901, .ref 0, .ref 95, .ref 135, .int (nI i), v5, v6] [.ref 135, .int (xs (i + 2)), .int (xs (i + 1)), .ref 0] M) : CsG Kl K 384 i v5 v6 [] M := H.sc 1 (by decide) (H.sc 2 (by decide) h4)
theorem aLook_le (A : St) (x y : Int32) : (aLook A x y).1 ≤ 2 := by
  unfold aLook
  split
  · exact Nat.le_of_ble_eq_true rfl
  · split <;> exact Nat.le_of_ble_eq_true rfl
set_option maxRecDepth 20000 in
theorem lc_401 (H : CsH Kl K L xs i) (hA : CI A mi) (hM : MI A mi ml) (hw : wfA A) (hans : (aLook A (xs (i + 1)) (xs (i + 2))).1 = 0 → ml 135 0 = (aLook A (xs (i + 1)) (xs (i + 2))).2.toInt64) : CsG Kl K 401 i v5 v6 [.int (nI (aLook A (xs (i + 1)) (xs (i + 2))).1)] (mi, ml, R0 rd, 136) := by
  have hle := aLook_le A (xs (i + 1)) (xs (i + 2))
  refine H.sc 1 (by decide) (H.sc 2 (by decide) (H.cd (q_look hM hw (fun mi2 g1 g2 => ?_))))
  have fin : ∀ v5 v6, K 23 [.ref 901, .ref 0, .ref 95, .ref 135, .int (nI i + nI 6), v5, v6] [] (mi2, ml, R0 rd, 136) := fun v5 v6 => H.2.2.2 _ _ _ _ _ _ (hA.lo g1.lo) (hM.mf g1 ML.none) hw
  refine H.cd (q_thrown g2 ⟨fun _ => ⟨fun _ => fin _ _, fun h0 => ⟨0, by decide, rfl, ⟨fun _ => fin _ _, fun a => absurd ?_ a⟩⟩⟩, fun a => absurd rfl a⟩)
  have h0 : (aLook A (xs (i + 1)) (xs (i + 2))).1 = 0 := nI_inj (by omega) (by omega) h0
  show lg_cmp (ml 135 0) _ = 0
  rw [hans h0]
  exact lg_cmp_rf _
set_option maxRecDepth 20000 in
theorem lc_all (H : CsH Kl K L xs i) (hA : CI A mi) (hM : MI A mi ml) (hw : wfA A) (h4 : K 398 [.ref 901, .ref 0, .ref 95, .ref 135, .int (nI i), v5, v6] [.ref 135, .int (xs (i + 2)), .int (xs (i + 1)), .ref 0] (mi, ml, R0 rd, 136)) : ∀ q ∈ swL, CsG Kl K q.2 i v5 v6 [] (mi, ml, R0 rd, 136) := List.forall_mem_cons.mpr ⟨lc_0 H hA hM hw, List.forall_mem_cons.mpr ⟨lc_1 H hA hM hw, List.forall_mem_cons.mpr ⟨lc_2 H hA hM hw, List.forall_mem_cons.mpr ⟨lc_3 H hA hM hw, List.forall_mem_cons.mpr ⟨lc_4 H h4, List.forall_mem_cons.mpr ⟨lc_5 H hA hM hw, List.forall_mem_cons.mpr ⟨lc_6 H hA hM hw, List.forall_mem_cons.mpr ⟨lc_7 H hA hM hw, List.forall_mem_cons.mpr ⟨lc_8 H hA hM hw, List.forall_mem_cons.mpr ⟨lc_9 H hA hM hw, List.forall_mem_cons.mpr ⟨lc_10 H hA hM hw, List.forall_mem_cons.mpr ⟨lc_11 H hA hM hw, List.forall_mem_cons.mpr ⟨lc_12 H hA hM hw, List.forall_mem_cons.mpr ⟨lc_13 H hA hM hw, List.forall_mem_cons.mpr ⟨lc_14 H hA hM hw, List.forall_mem_cons.mpr ⟨lc_15 H hA hM hw, List.forall_mem_cons.mpr ⟨lc_16 H hA hM hw, List.forall_mem_cons.mpr ⟨lc_17 H hA hM hw, List.forall_mem_cons.mpr ⟨lc_18 H hA hM hw, List.forall_mem_cons.mpr ⟨lc_19 H hA hM hw, List.forall_mem_cons.mpr ⟨lc_20 H hA hM hw, List.forall_mem_cons.mpr ⟨lc_21 H hA hM hw, List.forall_mem_cons.mpr ⟨lc_22 H hA hM hw, List.forall_mem_cons.mpr ⟨lc_23 H hA hM hw, List.forall_mem_cons.mpr ⟨lc_24 H hA hM hw, List.forall_mem_cons.mpr ⟨lc_25 H hA hM hw, List.forall_mem_cons.mpr ⟨lc_26 H hA hM hw, List.forall_mem_cons.mpr ⟨lc_27 H hA hM hw, List.forall_mem_cons.mpr ⟨lc_28 H hA hM hw, List.forall_mem_cons.mpr ⟨lc_29 H hA hM hw, List.forall_mem_cons.mpr ⟨lc_30 H hA hM hw, List.forall_mem_cons.mpr ⟨lc_31 H hA hM hw, List.forall_mem_cons.mpr ⟨lc_32 H hA hM hw, List.forall_mem_cons.mpr ⟨lc_33 H hA hM hw, List.forall_mem_cons.mpr ⟨lc_34 H hA hM hw, List.forall_mem_cons.mpr ⟨lc_35 H hA hM hw, List.forall_mem_cons.mpr ⟨lc_36 H hA hM hw, List.forall_mem_cons.mpr ⟨lc_37 H hA hM hw, List.forall_mem_cons.mpr ⟨lc_38 H hA hM hw, List.forall_mem_cons.mpr ⟨lc_39 H hA hM hw, List.forall_mem_cons.mpr ⟨lc_40 H hA hM hw, List.forall_mem_cons.mpr ⟨lc_41 H hA hM hw, fun _ h => absurd h List.not_mem_nil⟩⟩⟩⟩⟩⟩⟩⟩⟩⟩⟩⟩⟩⟩⟩⟩⟩⟩⟩⟩⟩⟩⟩⟩⟩⟩⟩⟩⟩⟩⟩⟩⟩⟩⟩⟩⟩⟩⟩⟩⟩⟩
end
