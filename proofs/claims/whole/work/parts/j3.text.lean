/-! THE TEXT'S METHODS -/
section
variable {l : Launch} {w : Wn} {j : Nat}
theorem c_sPren (hj : j < 156) : JM l (ZU w) sPre prog_31_method_11_code 3 (some .int) 0 0 [.int (nI j), .int (nI 156), .null] (some (.int (nI j))) := by
  refine va_MetF (cc := prog_31_method_11_code) (maxL := 3) (ret := some .int) (by decide +kernel) rfl ?_
  intro p e s m args below meth c s₁ B hml hv
  obtain ⟨rfl, hU⟩ := hv
  have hts0 := atoms_spec (ws := Cond.code sPre prog_31_method_11_code 3 (some .int) :: gw) B.pre
  have hts : ∀ x ∈ gw, x.before _ s = true := fun x hx => hts0 x (List.mem_cons_of_mem _ hx)
  have hown : s.vm.findClass sPre.cls = some m.cls := findClass_of_methodNamed B.named
  have hr := B.returns
  have hlk := B.notSynchronized
  rw [lg_entry_eq]
  have hl := lv_entry [.int (nI j), .int (nI 156), .null] (n := 3) (Nat.le_of_ble_eq_true rfl)
  generalize (lg_sl _ ++ List.replicate _ Slot.unset).toArray = ls at hl ⊢
  have hl : lv_has ls 3 [(0, .int (nI j)), (1, .int (nI 156)), (2, .null)] := hl
  refine lv_iload_n B.exec B.bytes d_sPre_0 rfl (lv_at hl 0 rfl) ?_
  refine lv_if_lt (tgt := 9) B.exec B.bytes d_sPre_1 (by decide) (fun h => absurd h (nI_pos (by omega))) (fun _ => ?_)
  refine lv_iload_n B.exec B.bytes d_sPre_4 rfl (lv_at hl 0 rfl) ?_
  refine lv_iload_n B.exec B.bytes d_sPre_5 rfl (lv_at hl 1 rfl) ?_
  refine lv_icmp_lt (tgt := 16) B.exec B.bytes d_sPre_6 (by decide) (fun _ => ?_) (fun h => absurd (nI_lt hj (by omega)) h)
  refine lv_iload_n B.exec B.bytes d_sPre_16 rfl (lv_at hl 0 rfl) ?_
  exact W.iret B.exec B.bytes hr (fun t ht _ => ⟨rfl, ht⟩) (fun q hq => nomatch hq) d_sPre_17
theorem c_sPrer {t : Nat} (hj : j < 156) : JM l (ZU w) sPre prog_31_method_11_code 3 (some .int) 0 0 [.int (nI j), .int (nI 156), .ref t] (some (.int (nI j))) := by
  refine va_MetF (cc := prog_31_method_11_code) (maxL := 3) (ret := some .int) (by decide +kernel) rfl ?_
  intro p e s m args below meth c s₁ B hml hv
  obtain ⟨rfl, hU⟩ := hv
  have hts0 := atoms_spec (ws := Cond.code sPre prog_31_method_11_code 3 (some .int) :: gw) B.pre
  have hts : ∀ x ∈ gw, x.before _ s = true := fun x hx => hts0 x (List.mem_cons_of_mem _ hx)
  have hown : s.vm.findClass sPre.cls = some m.cls := findClass_of_methodNamed B.named
  have hr := B.returns
  have hlk := B.notSynchronized
  rw [lg_entry_eq]
  have hl := lv_entry [.int (nI j), .int (nI 156), .ref t] (n := 3) (Nat.le_of_ble_eq_true rfl)
  generalize (lg_sl _ ++ List.replicate _ Slot.unset).toArray = ls at hl ⊢
  have hl : lv_has ls 3 [(0, .int (nI j)), (1, .int (nI 156)), (2, .ref t)] := hl
  refine lv_iload_n B.exec B.bytes d_sPre_0 rfl (lv_at hl 0 rfl) ?_
  refine lv_if_lt (tgt := 9) B.exec B.bytes d_sPre_1 (by decide) (fun h => absurd h (nI_pos (by omega))) (fun _ => ?_)
  refine lv_iload_n B.exec B.bytes d_sPre_4 rfl (lv_at hl 0 rfl) ?_
  refine lv_iload_n B.exec B.bytes d_sPre_5 rfl (lv_at hl 1 rfl) ?_
  refine lv_icmp_lt (tgt := 16) B.exec B.bytes d_sPre_6 (by decide) (fun _ => ?_) (fun h => absurd (nI_lt hj (by omega)) h)
  refine lv_iload_n B.exec B.bytes d_sPre_16 rfl (lv_at hl 0 rfl) ?_
  exact W.iret B.exec B.bytes hr (fun t ht _ => ⟨rfl, ht⟩) (fun q hq => nomatch hq) d_sPre_17
theorem c_sChk (hj : j < 156) : JM l (ZU w) sChk prog_23_method_155_code 2 (none) 1 22 [.int (nI j), .int (nI 156)] (none) := by
  refine va_MetF (cc := prog_23_method_155_code) (maxL := 2) (ret := none) (by decide +kernel) rfl ?_
  intro p e s m args below meth c s₁ B hml hv
  obtain ⟨rfl, hU⟩ := hv
  have hts0 := atoms_spec (ws := Cond.code sChk prog_23_method_155_code 2 (none) :: gw) B.pre
  have hts : ∀ x ∈ gw, x.before _ s = true := fun x hx => hts0 x (List.mem_cons_of_mem _ hx)
  have hown : s.vm.findClass sChk.cls = some m.cls := findClass_of_methodNamed B.named
  have hr := B.returns
  have hlk := B.notSynchronized
  rw [lg_entry_eq]
  have hl := lv_entry [.int (nI j), .int (nI 156)] (n := 2) (Nat.le_of_ble_eq_true rfl)
  generalize (lg_sl _ ++ List.replicate _ Slot.unset).toArray = ls at hl ⊢
  have hl : lv_has ls 2 [(0, .int (nI j)), (1, .int (nI 156))] := hl
  refine lv_iload_n B.exec B.bytes d_sChk_0 rfl (lv_at hl 0 rfl) ?_
  refine lv_iload_n B.exec B.bytes d_sChk_1 rfl (lv_at hl 1 rfl) ?_
  have hB : ∀ U : State, U.heap = s.heap → s.WarmedH U.vm → ZU w U := fun U hh hW => ⟨fun q hq => by rw [hh]; exact hU.1 q hq, hU.2.moved hW.alike⟩
  rcases hU.at.2.2.2.2 with hz | ⟨t, hz⟩
  · refine va_gets B.exec B.bytes hz va_S.rf hown (hts _ gs_f_1053) (fun x h => h) d_sChk_2 ?_
    refine jS (As := [.int (nI j), .int (nI 156), .null]) (rest := []) (c_sPren hj) ⟨B.exec, B.bytes, hml, hown, hts⟩ ZU.blind hB gs_c_sPre gs_i3 gs_l_1059 gs_m_sPre (np := 3) ⟨by decide, by decide, by decide +kernel⟩ ⟨Nat.le_of_ble_eq_true rfl, Nat.le_of_ble_eq_true rfl⟩ ⟨Nat.le_refl _, Nat.le_refl _⟩ rfl hl.1 (Nat.le_of_ble_eq_true rfl) d_sChk_5 rfl ?_
    refine lv_pop B.exec B.bytes d_sChk_8 rfl ?_
    exact W.vret B.exec B.bytes hr (fun t ht _ => ⟨rfl, ht⟩) (fun q hq => nomatch hq) d_sChk_9
  · refine va_gets B.exec B.bytes hz va_S.rf hown (hts _ gs_f_1053) (fun x h => h) d_sChk_2 ?_
    refine jS (As := [.int (nI j), .int (nI 156), .ref t]) (rest := []) (c_sPrer hj) ⟨B.exec, B.bytes, hml, hown, hts⟩ ZU.blind hB gs_c_sPre gs_i3 gs_l_1059 gs_m_sPre (np := 3) ⟨by decide, by decide, by decide +kernel⟩ ⟨Nat.le_of_ble_eq_true rfl, Nat.le_of_ble_eq_true rfl⟩ ⟨Nat.le_refl _, Nat.le_refl _⟩ rfl hl.1 (Nat.le_of_ble_eq_true rfl) d_sChk_5 rfl ?_
    refine lv_pop B.exec B.bytes d_sChk_8 rfl ?_
    exact W.vret B.exec B.bytes hr (fun t ht _ => ⟨rfl, ht⟩) (fun q hq => nomatch hq) d_sChk_9
theorem lch_255 : ∀ j, j < 156 → nI (lch j) &&& 255 = nI (lch j) := by decide +kernel
/-- the text's bytes lie at v -/
def ZV (w : Wn) (v : Nat) (U : State) : Prop := ZU w U ∧ va_T .byte v 156 (fun j => .int (nI (lch j))) (AW w) U U.heap
theorem ZV.blind {v : Nat} {As : List Value} : FrameBlind (va_Pc As (ZV w v)) := fun a U g mk z => ⟨z.1, ⟨z.2.1.1, z.2.1.2.moved (u := U) (U := U.calling g mk a) (Vm.Alike.refl U.vm)⟩, va_T.moved (u := U) (U := U.calling g mk a) (Vm.Alike.refl U.vm) z.2.2⟩
theorem c_sL1 {v : Nat} (hj : j < 156) : JM l (ZV w v) sL1 prog_24_method_2_code 2 (some .char) 2 43 [.ref v, .int (nI j)] (some (.int (nI (lch j)))) := by
  refine va_MetF (cc := prog_24_method_2_code) (maxL := 2) (ret := some .char) (by decide +kernel) rfl ?_
  intro p e s m args below meth c s₁ B hml hv
  obtain ⟨rfl, hU⟩ := hv
  have hts0 := atoms_spec (ws := Cond.code sL1 prog_24_method_2_code 2 (some .char) :: gw) B.pre
  have hts : ∀ x ∈ gw, x.before _ s = true := fun x hx => hts0 x (List.mem_cons_of_mem _ hx)
  have hown : s.vm.findClass sL1.cls = some m.cls := findClass_of_methodNamed B.named
  have hr := B.returns
  have hlk := B.notSynchronized
  rw [lg_entry_eq]
  have hl := lv_entry [.ref v, .int (nI j)] (n := 2) (Nat.le_of_ble_eq_true rfl)
  generalize (lg_sl _ ++ List.replicate _ Slot.unset).toArray = ls at hl ⊢
  have hl : lv_has ls 2 [(0, .ref v), (1, .int (nI j))] := hl
  obtain ⟨hU, hT⟩ := hU
  have hB : ∀ U : State, U.heap = s.heap → s.WarmedH U.vm → ZU w U := fun U hh hW => ⟨fun q hq => by rw [hh]; exact hU.1 q hq, hU.2.moved hW.alike⟩
  refine lv_iload_n B.exec B.bytes d_sL1_0 rfl (lv_at hl 1 rfl) ?_
  refine lv_aload_n B.exec B.bytes d_sL1_1 rfl (lv_at hl 0 rfl) ?_
  refine va_tlen B.exec B.bytes hT va_S.rf (v := nI 156) rfl d_sL1_2 ?_
  refine jS (As := [.int (nI j), .int (nI 156)]) (rest := []) (c_sChk hj) ⟨B.exec, B.bytes, hml, hown, hts⟩ ZU.blind hB gs_c_sChk gs_i0 gs_l_9 gs_m_sChk (np := 2) ⟨by decide, by decide, by decide +kernel⟩ ⟨Nat.le_of_ble_eq_true rfl, Nat.le_of_ble_eq_true rfl⟩ ⟨Nat.le_refl _, Nat.le_refl _⟩ rfl hl.1 (Nat.le_of_ble_eq_true rfl) d_sL1_3 rfl ?_
  refine lv_aload_n B.exec B.bytes d_sL1_6 rfl (lv_at hl 0 rfl) ?_
  refine lv_iload_n B.exec B.bytes d_sL1_7 rfl (lv_at hl 1 rfl) ?_
  refine va_tb B.exec B.bytes hT va_S.rf (vp_in_nI hj (by omega)) (v := .int (nI (lch j))) (by rw [nI_clamp (by omega)]) d_sL1_8 ?_
  refine lv_sipush (v := 255) B.exec B.bytes d_sL1_9 (by decide) ?_
  refine lv_iand B.exec B.bytes d_sL1_12 ?_
  refine lv_i2c (v := nI (lch j)) B.exec B.bytes d_sL1_13 ((sc_c2 _).trans (lch_255 j hj)) ?_
  exact W.zret B.exec B.bytes hr (by rw [← lch_255 j hj]; exact sc_nar _) (fun t ht _ => ⟨rfl, ht⟩) (fun q hq => nomatch hq) d_sL1_14
theorem c_sLat  : JM l (ZU w) sLat prog_23_method_154_code 1 (some .boolean) 0 0 [.ref w.2.1] (some (.int 1)) := by
  refine va_MetF (cc := prog_23_method_154_code) (maxL := 1) (ret := some .boolean) (by decide +kernel) rfl ?_
  intro p e s m args below meth c s₁ B hml hv
  obtain ⟨rfl, hU⟩ := hv
  have hts0 := atoms_spec (ws := Cond.code sLat prog_23_method_154_code 1 (some .boolean) :: gw) B.pre
  have hts : ∀ x ∈ gw, x.before _ s = true := fun x hx => hts0 x (List.mem_cons_of_mem _ hx)
  have hown : s.vm.findClass sLat.cls = some m.cls := findClass_of_methodNamed B.named
  have hr := B.returns
  have hlk := B.notSynchronized
  rw [lg_entry_eq]
  have hl := lv_entry [.ref w.2.1] (n := 1) (Nat.le_of_ble_eq_true rfl)
  generalize (lg_sl _ ++ List.replicate _ Slot.unset).toArray = ls at hl ⊢
  have hl : lv_has ls 1 [(0, .ref w.2.1)] := hl
  obtain ⟨h1, h2, ⟨v, h3, h4⟩, h5, -⟩ := hU.at
  refine va_gets B.exec B.bytes h5 va_S.rf hown (hts _ gs_f_38) (fun x h => h) d_sLat_0 ?_
  refine lv_if_eq (tgt := 17) B.exec B.bytes d_sLat_3 (by decide) (fun h => absurd h (by decide)) (fun _ => ?_)
  refine lv_aload_n B.exec B.bytes d_sLat_6 rfl (lv_at hl 0 rfl) ?_
  refine vk_getf B.exec B.bytes h2 va_S.rf hown (hts _ gs_f_15) (fun x h => h) d_sLat_7 ?_
  refine lv_if_ne (tgt := 17) B.exec B.bytes d_sLat_10 (by decide) (fun h => absurd rfl h) (fun _ => ?_)
  refine lv_iconst (v := 1) B.exec B.bytes d_sLat_13 (by decide) ?_
  refine lv_goto (tgt := 18) B.exec B.bytes d_sLat_14 (by decide) ?_
  exact W.zret B.exec B.bytes hr (by rfl) (fun t ht _ => ⟨rfl, ht⟩) (fun q hq => nomatch hq) d_sLat_18
theorem c_sCod  : JM l (ZU w) sCod prog_23_method_152_code 1 (some .byte) 0 0 [.ref w.2.1] (some (.int 0)) := by
  refine va_MetF (cc := prog_23_method_152_code) (maxL := 1) (ret := some .byte) (by decide +kernel) rfl ?_
  intro p e s m args below meth c s₁ B hml hv
  obtain ⟨rfl, hU⟩ := hv
  have hts0 := atoms_spec (ws := Cond.code sCod prog_23_method_152_code 1 (some .byte) :: gw) B.pre
  have hts : ∀ x ∈ gw, x.before _ s = true := fun x hx => hts0 x (List.mem_cons_of_mem _ hx)
  have hown : s.vm.findClass sCod.cls = some m.cls := findClass_of_methodNamed B.named
  have hr := B.returns
  have hlk := B.notSynchronized
  rw [lg_entry_eq]
  have hl := lv_entry [.ref w.2.1] (n := 1) (Nat.le_of_ble_eq_true rfl)
  generalize (lg_sl _ ++ List.replicate _ Slot.unset).toArray = ls at hl ⊢
  have hl : lv_has ls 1 [(0, .ref w.2.1)] := hl
  obtain ⟨h1, h2, ⟨v, h3, h4⟩, h5, -⟩ := hU.at
  refine va_gets B.exec B.bytes h5 va_S.rf hown (hts _ gs_f_38) (fun x h => h) d_sCod_0 ?_
  refine lv_if_eq (tgt := 13) B.exec B.bytes d_sCod_3 (by decide) (fun h => absurd h (by decide)) (fun _ => ?_)
  refine lv_aload_n B.exec B.bytes d_sCod_6 rfl (lv_at hl 0 rfl) ?_
  refine vk_getf B.exec B.bytes h2 va_S.rf hown (hts _ gs_f_15) (fun x h => h) d_sCod_7 ?_
  refine lv_goto (tgt := 14) B.exec B.bytes d_sCod_10 (by decide) ?_
  exact W.zret B.exec B.bytes hr (by rfl) (fun t ht _ => ⟨rfl, ht⟩) (fun q hq => nomatch hq) d_sCod_14
theorem c_sLen  : JM l (ZU w) sLen prog_23_method_54_code 1 (some .int) 1 20 [.ref w.2.1] (some (.int (nI 156))) := by
  refine va_MetF (cc := prog_23_method_54_code) (maxL := 1) (ret := some .int) (by decide +kernel) rfl ?_
  intro p e s m args below meth c s₁ B hml hv
  obtain ⟨rfl, hU⟩ := hv
  have hts0 := atoms_spec (ws := Cond.code sLen prog_23_method_54_code 1 (some .int) :: gw) B.pre
  have hts : ∀ x ∈ gw, x.before _ s = true := fun x hx => hts0 x (List.mem_cons_of_mem _ hx)
  have hown : s.vm.findClass sLen.cls = some m.cls := findClass_of_methodNamed B.named
  have hr := B.returns
  have hlk := B.notSynchronized
  rw [lg_entry_eq]
  have hl := lv_entry [.ref w.2.1] (n := 1) (Nat.le_of_ble_eq_true rfl)
  generalize (lg_sl _ ++ List.replicate _ Slot.unset).toArray = ls at hl ⊢
  have hl : lv_has ls 1 [(0, .ref w.2.1)] := hl
  have hB : ∀ U : State, U.heap = s.heap → s.WarmedH U.vm → ZU w U := fun U hh hW => ⟨fun q hq => by rw [hh]; exact hU.1 q hq, hU.2.moved hW.alike⟩
  obtain ⟨h1, h2, ⟨v, h3, h4⟩, h5, -⟩ := hU.at
  refine lv_aload_n B.exec B.bytes d_sLen_0 rfl (lv_at hl 0 rfl) ?_
  refine vk_getf B.exec B.bytes h3 va_S.rf hown (hts _ gs_f_9) (fun x h => h) d_sLen_1 ?_
  refine va_tlen B.exec B.bytes h4 va_S.rf (v := nI 156) rfl d_sLen_4 ?_
  refine lv_aload_n B.exec B.bytes d_sLen_5 rfl (lv_at hl 0 rfl) ?_
  refine jV (b := w.2.1) (A := AW w) (As := []) (rest := [.int (nI 156)]) (c_sCod) ⟨B.exec, B.bytes, hml, hown, hts⟩ ZU.blind hB h1 gs_c_sCod gs_i0 gs_l_335 ⟨gs_m_sCod, gs_s_sCod⟩ (np := 0) ⟨by decide, by decide, by decide +kernel⟩ ⟨Nat.le_of_ble_eq_true rfl, Nat.le_of_ble_eq_true rfl⟩ ⟨Nat.le_refl _, Nat.le_refl _⟩ rfl hl.1 (Nat.le_of_ble_eq_true rfl) d_sLen_6 rfl ?_
  refine lv_ishr B.exec B.bytes d_sLen_9 ?_
  rw [sc_shr0 (by omega)]
  exact W.iret B.exec B.bytes hr (fun t ht _ => ⟨rfl, ht⟩) (fun q hq => nomatch hq) d_sLen_10
theorem c_sAt (hj : j < 156) : JM l (ZU w) sAt prog_23_method_56_code 2 (some .char) 3 64 [.ref w.2.1, .int (nI j)] (some (.int (nI (lch j)))) := by
  refine va_MetF (cc := prog_23_method_56_code) (maxL := 2) (ret := some .char) (by decide +kernel) rfl ?_
  intro p e s m args below meth c s₁ B hml hv
  obtain ⟨rfl, hU⟩ := hv
  have hts0 := atoms_spec (ws := Cond.code sAt prog_23_method_56_code 2 (some .char) :: gw) B.pre
  have hts : ∀ x ∈ gw, x.before _ s = true := fun x hx => hts0 x (List.mem_cons_of_mem _ hx)
  have hown : s.vm.findClass sAt.cls = some m.cls := findClass_of_methodNamed B.named
  have hr := B.returns
  have hlk := B.notSynchronized
  rw [lg_entry_eq]
  have hl := lv_entry [.ref w.2.1, .int (nI j)] (n := 2) (Nat.le_of_ble_eq_true rfl)
  generalize (lg_sl _ ++ List.replicate _ Slot.unset).toArray = ls at hl ⊢
  have hl : lv_has ls 2 [(0, .ref w.2.1), (1, .int (nI j))] := hl
  have hB : ∀ U : State, U.heap = s.heap → s.WarmedH U.vm → ZU w U := fun U hh hW => ⟨fun q hq => by rw [hh]; exact hU.1 q hq, hU.2.moved hW.alike⟩
  obtain ⟨h1, h2, ⟨v, h3, h4⟩, h5, -⟩ := hU.at
  refine lv_aload_n B.exec B.bytes d_sAt_0 rfl (lv_at hl 0 rfl) ?_
  refine jV (b := w.2.1) (A := AW w) (As := []) (rest := []) (c_sLat) ⟨B.exec, B.bytes, hml, hown, hts⟩ ZU.blind hB h1 gs_c_sLat gs_i0 gs_l_492 ⟨gs_m_sLat, gs_s_sLat⟩ (np := 0) ⟨by decide, by decide, by decide +kernel⟩ ⟨Nat.le_of_ble_eq_true rfl, Nat.le_of_ble_eq_true rfl⟩ ⟨Nat.le_refl _, Nat.le_refl _⟩ rfl hl.1 (Nat.le_of_ble_eq_true rfl) d_sAt_1 rfl ?_
  refine lv_if_eq (tgt := 16) B.exec B.bytes d_sAt_4 (by decide) (fun h => absurd h (by decide)) (fun _ => ?_)
  refine lv_aload_n B.exec B.bytes d_sAt_7 rfl (lv_at hl 0 rfl) ?_
  refine vk_getf B.exec B.bytes h3 va_S.rf hown (hts _ gs_f_9) (fun x h => h) d_sAt_8 ?_
  refine lv_iload_n B.exec B.bytes d_sAt_11 rfl (lv_at hl 1 rfl) ?_
  have hB2 : ∀ U : State, U.heap = s.heap → s.WarmedH U.vm → ZV w v U := fun U hh hW => ⟨⟨fun q hq => by rw [hh]; exact hU.1 q hq, hU.2.moved hW.alike⟩, by rw [hh]; exact h4.moved hW.alike⟩
  refine jS (As := [.ref v, .int (nI j)]) (rest := []) (c_sL1 hj) ⟨B.exec, B.bytes, hml, hown, hts⟩ ZV.blind hB2 gs_c_sL1 gs_i1 gs_l_495 gs_m_sL1 (np := 2) ⟨by decide, by decide, by decide +kernel⟩ ⟨Nat.le_of_ble_eq_true rfl, Nat.le_of_ble_eq_true rfl⟩ ⟨Nat.le_refl _, Nat.le_refl _⟩ rfl hl.1 (Nat.le_of_ble_eq_true rfl) d_sAt_12 rfl ?_
  exact W.zret B.exec B.bytes hr (by rw [← lch_255 j hj]; exact sc_nar _) (fun t ht _ => ⟨rfl, ht⟩) (fun q hq => nomatch hq) d_sAt_15
end
section
variable {l : Launch} {w : Wn}
set_option maxHeartbeats 1000000 in
theorem sd15 : SD15 l w := by
  intro p en R s m args below meth c Qw own nL kc ks n0 nmax cc ls st M e q d P X hR1 hR2 hok hd hg hp hc8 hC k
  obtain ⟨pc, ins, len, hb, g, ⟨a, b, c3, dd⟩, v, sw⟩ := e
  obtain ⟨hx, hc, hml, hown, hts, hKK, hs0, hw0, hr1, hr2, hr3, hr4, hr5⟩ := X
  simp only at hg hd k hp hC
  subst hg
  obtain ⟨hd4, hC⟩ := hC
  obtain ⟨pre, hst, hq1, hlen⟩ := tkr_spec _ _ _ _ hp
  rw [List.append_nil] at hq1
  have hU : ZU w s := ⟨hs0, hKK.2.2.2⟩
  intro H locs arr hR hS hL hn1 hn2
  have hB : ∀ U : State, U.heap = H → s.WarmedH U.vm → ZU w U := fun U hh hW => ⟨fun q hq => by rw [hh, hS.2.1 q (Nat.lt_of_lt_of_le hq hw0) (Nat.not_le.mpr hq)]; exact hs0 q hq, hKK.2.2.2.moved hW.alike⟩
  have hO : va_O "java/lang/String" w.2.1 (AW w) s H := hU.at.1.kept hS.2.1
  have hcs : kc + (M.2.2.2 - n0) ≤ R.cells ∧ ks + (SL M.2.2.2 - SL n0) ≤ R.slots := ⟨by omega, by have := SL_mono hn2; omega⟩
  have h8 : ((q.2.map (cv w)).map fun v => v.category).sum ≤ 8 := by rw [cats_sum]; exact hc8
  cases ins with
  | invokevirtual i =>
    have hok := band hok
    have hok1 := band hok.1
    obtain rfl : own = 8 := nbq hok1.1
    obtain rfl : len = 3 := nbq hok1.2
    rcases hC with ⟨rfl, has, hP⟩ | ⟨rfl, j, hj, has, hP⟩
    · have hi : i = 68 := by
        rcases Bool.or_eq_true_iff.mp hok.2 with z | z
        · exact nbq (band (band z).1).1
        · exact absurd (nbq (band (band z).1).2) (show ¬ (1004 : Nat) = 1005 by decide)
      subst hi
      have hpre : pre = [.ref 900] := by
        rw [has] at hq1
        have := congrArg List.reverse hq1
        simpa using this.symm
      have e1 : st.map (cv w) = ([] : List Value).reverse ++ .ref w.2.1 :: q.2.map (cv w) := by
        rw [hst, hpre]; rfl
      have hk := k _ _ hP H locs arr hR hS hL hn1 hn2
      exact jV (b := w.2.1) (A := AW w) (As := []) (rest := q.2.map (cv w)) c_sLen ⟨hx, hc, hml, hown, hts⟩ ZU.blind hB hO gs_c_sLen gs_i0 gs_l_68 ⟨gs_m_sLen, gs_s_sLen⟩ (np := 0) ⟨by decide, by decide, by decide +kernel⟩ ⟨by omega, by omega⟩ hcs rfl hL.size h8 hd e1 hk
    · have hi : i = 77 := by
        rcases Bool.or_eq_true_iff.mp hok.2 with z | z
        · exact absurd (nbq (band (band z).1).2) (show ¬ (1005 : Nat) = 1004 by decide)
        · exact nbq (band (band z).1).1
      subst hi
      have hpre : pre = [.int (nI j), .ref 900] := by
        rw [has] at hq1
        have := congrArg List.reverse hq1
        simpa using this.symm
      have e1 : st.map (cv w) = [Value.int (nI j)].reverse ++ .ref w.2.1 :: q.2.map (cv w) := by
        rw [hst, hpre]; rfl
      have hk := k _ _ hP H locs arr hR hS hL hn1 hn2
      exact jV (b := w.2.1) (A := AW w) (As := [.int (nI j)]) (rest := q.2.map (cv w)) (c_sAt hj) ⟨hx, hc, hml, hown, hts⟩ ZU.blind hB hO gs_c_sAt gs_i0 gs_l_77 ⟨gs_m_sAt, gs_s_sAt⟩ (np := 1) ⟨by decide, by decide, by decide +kernel⟩ ⟨by omega, by omega⟩ hcs rfl hL.size h8 hd e1 hk
  | _ => cases hok
end
