/-! THE LAW'S LOOK -/
theorem gl_39 : Cond.methodLink RL 39 yL_look ∈ gw := gw_mem 1519 (by decide +kernel) rfl
theorem gl_st : Cond.static yL_look ∈ gw := gw_mem 1520 (by decide +kernel) rfl
theorem gl_cw : Cond.codeWith yL_look cL_look 5 (some .int) [(0, 10, 13, 13), (0, 10, 17, 15)] ∈ gw := gw_mem 1521 (by decide +kernel) rfl
theorem gl_13 : Cond.classLink RL 13 ioX ∈ gw := gw_mem 1522 (by decide +kernel) rfl
theorem gl_15 : Cond.classLink RL 15 nsX ∈ gw := gw_mem 1523 (by decide +kernel) rfl
theorem gl_7 : Cond.methodLink RL 7 yX11_look ∈ gw := gw_mem 1524 (by decide +kernel) rfl
theorem gl_im : Cond.instanceMethod yX11_look ∈ gw := gw_mem 1525 (by decide +kernel) rfl
theorem gl_se : Cond.selects RX11 yX11_look yX11_look ∈ gw := gw_mem 1526 (by decide +kernel) rfl
theorem gl_co : Cond.code yX11_look cX11_look 3 (some .int) ∈ gw := gw_mem 1527 (by decide +kernel) rfl
theorem gl_iL : Cond.initialized RL ∈ gw := gw_mem 145 (by decide +kernel) rfl
theorem gl_iH : Cond.initialized RX11 ∈ gw := gw_mem 146 (by decide +kernel) rfl
theorem dl_0 : decode cL_look 0 = .ok (.aload_n 3, 1) := by decide +kernel
theorem dl_1 : decode cL_look 1 = .ok (.iconst 0, 1) := by decide +kernel
theorem dl_2 : decode cL_look 2 = .ok (.aload_n 0, 1) := by decide +kernel
theorem dl_3 : decode cL_look 3 = .ok (.iload_n 1, 1) := by decide +kernel
theorem dl_4 : decode cL_look 4 = .ok (.iload_n 2, 1) := by decide +kernel
theorem dl_5 : decode cL_look 5 = .ok (.invokevirtual 7, 3) := by decide +kernel
theorem dl_13 : decode cL_look 13 = .ok (.astore 4, 2) := by decide +kernel
theorem dl_15 : decode cL_look 15 = .ok (.iconst 1, 1) := by decide +kernel
theorem dl_16 : decode cL_look 16 = .ok (.ireturn, 1) := by decide +kernel
theorem dl_17 : decode cL_look 17 = .ok (.astore 4, 2) := by decide +kernel
theorem dl_19 : decode cL_look 19 = .ok (.iconst 2, 1) := by decide +kernel
theorem dl_20 : decode cL_look 20 = .ok (.ireturn, 1) := by decide +kernel
def m_Q : List En := [
  (8, .i2l, 1, false, 0, (0, 0, 0, 0), .null, []),
  (9, .lastore, 1, false, 7, (0, 0, 0, 0), .null, []),
  (10, .goto (11), 3, false, 3, (21, 0, 0, 0), .null, []),
  (13, .astore 4, 2, false, 1, (4, 0, 0, 0), .null, []),
  (15, .iconst (1), 1, false, 0, (0, 0, 0, 0), .int (nI 1), []),
  (16, .ireturn, 1, false, 9, (0, 0, 0, 0), .null, []),
  (17, .astore 4, 2, false, 1, (4, 0, 0, 0), .null, []),
  (19, .iconst (2), 1, false, 0, (0, 0, 0, 0), .int (nI 2), []),
  (20, .ireturn, 1, false, 9, (0, 0, 0, 0), .null, []),
  (21, .iconst (0), 1, false, 0, (0, 0, 0, 0), .int (nI 0), []),
  (22, .ireturn, 1, false, 9, (0, 0, 0, 0), .null, [])]
theorem m_Q_ok : asc m_Q = true ∧ linked m_Q = true := by decide +kernel
theorem m_Q_all : m_Q.all (fun e => okE cL_look 16 5 e && (!Nat.beq e.2.2.2.2.1 13)) = true := by decide +kernel
section
variable {l : Launch} {w : Wn} {A : St} {mi : Nat → Nat → Int32} {ml : Nat → Nat → Int64} {rd : Option Nat} {x y : Int32}
theorem LkB.blind {As : List Value} {M : Mm} : FrameBlind (va_Pc As (LkB w M)) := fun a U g mk z => ⟨z.1, z.2.1, z.2.2.1.calling, z.2.2.2.calling⟩
/-- what the law's look leaves -/
def LwQ (A : St) (mi : Nat → Nat → Int32) (ml : Nat → Nat → Int64) (rd : Option Nat) (x y : Int32) (r : Option Value) (M' : Mm) : Prop := ∃ ml' : Nat → Nat → Int64, ml' 95 = ml 95 ∧ ((aLook A x y).1 = 0 → ml' 135 0 = (aLook A x y).2.toInt64) ∧ r = some (.int (nI (aLook A x y).1)) ∧ M' = (mi, ml', R0 rd, 136)
set_option maxHeartbeats 2000000 in
theorem c_Lk (hl : l.stackTraces = false) (h15 : SD15 l w) (hokM : ∀ k, k < 339 → okM k = true) (hA : CI A mi) (hw : wfA A) :
    Met l yL_look (Cond.codeWith yL_look cL_look 5 (some .int) [(0, 10, 13, 13), (0, 10, 17, 15)] :: gw) { frames := 7, cells := 1, slots := 6, locals := 144 } (va_Pc (([.ref 0, .int x, .int y, .ref 135] : List Value).map (cv w)) (LkB w (mi, ml, R0 rd, 136)))
      (fun _ st oc t => ∃ (r : Option Value) (M' : Mm), oc = .returned (r.map (cv w)) ∧ LwQ A mi ml rd x y r M' ∧ M'.2.2.2 = 136 ∧ RelW w M' t.heap ∧ va_F (AW w) st t) 1 6 (AW w) := by
  refine va_MetW (cc := cL_look) (maxL := 5) (ret := some .int) (by decide +kernel) rfl ?_
  intro p e s m args below meth c s₁ B hml hv
  obtain ⟨rfl, hrel, hKK, hZX⟩ := hv
  have hts0 := atoms_spec (ws := Cond.codeWith yL_look cL_look 5 (some .int) [(0, 10, 13, 13), (0, 10, 17, 15)] :: gw) B.pre
  have hts : ∀ z ∈ gw, z.before _ s = true := fun z hz => hts0 z (List.mem_cons_of_mem _ hz)
  have htab : c.exceptionTable.toList = tableOf [(0, 10, 13, 13), (0, 10, 17, 15)] := vx_table (x := yL_look) B (hts0 _ List.mem_cons_self)
  have hown : s.vm.findClass RL = some m.cls := findClass_of_methodNamed B.named
  have hr := B.returns
  have hlk := B.notSynchronized
  have hsz : w.1 + 136 ≤ s.heap.size := hrel.2.1
  have hs0 : ∀ q, q < w.1 → s.heap[q]? = w.2.2.1[q]? := hrel.1
  have X : Ctx p { frames := 7, cells := 1, slots := 6, locals := 144 } s m (([.ref 0, .int x, .int y, .ref 135] : List Value).map (cv w)).toArray c w 16 5 1 6 136 136 cL_look := ⟨B.exec, B.bytes, hml, hown, hts, hKK, hs0, by omega, Nat.le_of_ble_eq_true rfl, by rw [Nat.sub_self]; exact Nat.le_of_ble_eq_true rfl, Nat.le_of_ble_eq_true rfl, Nat.le_of_ble_eq_true rfl, Nat.le_refl _⟩
  rw [lg_entry_eq]
  have hl5 := lv_entry (([.ref 0, .int x, .int y, .ref 135] : List Value).map (cv w)) (n := 5) (Nat.le_of_ble_eq_true rfl)
  have hLR := LRv.entry (w := w) (as := [.ref 0, .int x, .int y, .ref 135]) (n := 5) (Nat.le_of_ble_eq_true rfl)
  generalize (lg_sl _ ++ List.replicate _ Slot.unset).toArray = ls at hl5 hLR ⊢
  have hl5 : lv_has ls 5 [(0, .ref (ad w 0)), (1, .int x), (2, .int y), (3, .ref (ad w 135))] := hl5
  refine lv_aload_n B.exec B.bytes dl_0 rfl (lv_at hl5 3 rfl) ?_
  refine lv_iconst (v := 0) B.exec B.bytes dl_1 (by decide) ?_
  refine lv_aload_n B.exec B.bytes dl_2 rfl (lv_at hl5 0 rfl) ?_
  refine lv_iload_n B.exec B.bytes dl_3 rfl (lv_at hl5 1 rfl) ?_
  refine lv_iload_n B.exec B.bytes dl_4 rfl (lv_at hl5 2 rfl) ?_
  have hgo : GoodIn gw (Cond.code yX11_look cX11_look 3 (some .int) :: gw) := good_J gl_co
  have he0 := wl_get (w := w) (M := (mi, ml, R0 rd, 136)) (c := 0) (show 0 < 136 by omega)
  rw [entE_obj (ci := 11) (by decide +kernel) (by decide)] at he0
  have hrecv := va_recv hKK.1 hrel.2.2.2.2 (cls_ok 11 (by decide)).1 he0
  rw [show (cn 11, TT 11, nfl 11).1 = RX11 from rfl] at hrecv
  refine vx_calli (S := Unit) (SX := Unit) (AX := AW w) (vx_runV (As := [.int x, .int y]) (b := ad w 0) (rest := [.int 0, .ref (ad w 135)]) (C := RX11) ⟨B.exec, B.bytes, hml, hown, hts⟩ (c_look (rd := rd) (ml := ml) (x := x) (y := y) hl h15 hokM hA hw) ⟨callB_of 2 hts hgo rfl rfl rfl (hts _ gl_iH) (hts _ gl_7) ⟨by decide, by decide, by decide +kernel⟩ ⟨Nat.le_of_ble_eq_true rfl, Nat.le_of_ble_eq_true rfl⟩, hts _ gl_im, hts _ gl_se⟩ ⟨LkB.blind, hrecv, fun U hU hW => ⟨rfl, by rw [hU]; exact hrel, hKK.warm hW, hZX.warm hW⟩⟩ rfl rfl hl5.1 rfl (Nat.le_of_ble_eq_true rfl) dl_5 ⟨Nat.le_of_ble_eq_true rfl, Nat.le_of_ble_eq_true rfl⟩) va_S.rf (fun q _ h => h) (fun q h => h) (fun q _ h => h) ?_ ?_
  · intro E ce q9 u t H1 locs1 ht hvm _ hB hz1 hk1 hS hce hcv hcl
    obtain ⟨hR1, hE⟩ := hB
    rw [ht] at hR1
    have fin : ∀ (n pc : Nat), decode cL_look pc = .ok (.ireturn, 1) → (aLook A x y).1 = n → n ≠ 0 → ∀ ls1 : Array Slot, W p l e { frames := 7, cells := 1, slots := 6, locals := 144 } s m (([.ref 0, .int x, .int y, .ref 135] : List Value).map (cv w)).toArray below meth c H1 locs1 1 6 (MQ below (fun _ st oc t => ∃ (r : Option Value) (M' : Mm), oc = .returned (r.map (cv w)) ∧ LwQ A mi ml rd x y r M' ∧ M'.2.2.2 = 136 ∧ RelW w M' t.heap ∧ va_F (AW w) st t) (([.ref 0, .int x, .int y, .ref 135] : List Value).map (cv w)).toArray s 1 6 (AW w)) (F0 m pc ls1 [.int (nI n)]) := fun n pc hd hn h0 ls1 =>
      W.iret B.exec B.bytes hr (fun t2 ht2 _ => ⟨some (.int (nI n)), (mi, ml, R0 rd, 136), rfl, ⟨ml, rfl, fun z => absurd (hn.symm.trans z) h0, by rw [hn], rfl⟩, rfl, by rw [ht2]; exact hR1, hS.F ht2⟩) hS.2.2 hd
    refine cx_catch (own := RL) (n1 := ioX) (n2 := nsX) hown (x1 := ⟨0, 10, 13, 13⟩) (x2 := ⟨0, 10, 17, 15⟩) htab (by decide) (by decide) (by decide) (by decide) (hts _ gl_13) (hts _ gl_15) hce hcv hcl ?_
    rcases hE with ⟨rfl, h1⟩ | ⟨rfl, h1⟩
    · refine Or.inl ⟨va_Nw.use (nb_ot _ (by decide)) (hZX.2.2.2.2.1 (.castable ioX ioX) (by decide)), ?_⟩
      refine lv_astore B.exec B.bytes dl_13 hl5 (by decide) rfl (fun ls1 hl1 => ?_)
      refine lv_iconst (v := nI 1) B.exec B.bytes dl_15 (by decide) ?_
      exact fin 1 16 dl_16 h1 (by decide) _
    · refine Or.inr ⟨hZX.2.2.2.2.2, va_Nw.use (nb_ot _ (by decide)) (hZX.2.2.2.2.1 (.castable nsX nsX) (by decide)), ?_⟩
      refine lv_astore B.exec B.bytes dl_17 hl5 (by decide) rfl (fun ls1 hl1 => ?_)
      refine lv_iconst (v := nI 2) B.exec B.bytes dl_19 (by decide) ?_
      exact fin 2 20 dl_20 h1 (by decide) _
  · intro r u t H1 locs1 ht hvm hpost hB hz1 hk1 hS
    obtain ⟨h0, rfl⟩ := hpost
    have hR1 : RelW w (mi, ml, R0 rd, 136) H1 := by rw [← ht]; exact hB
    have key : Wst p l e { frames := 7, cells := 1, slots := 6, locals := 144 } s m (([.ref 0, .int x, .int y, .ref 135] : List Value).map (cv w)).toArray below meth c (MQ below (fun _ st oc t => ∃ (r : Option Value) (M' : Mm), oc = .returned (r.map (cv w)) ∧ LwQ A mi ml rd x y r M' ∧ M'.2.2.2 = 136 ∧ RelW w M' t.heap ∧ va_F (AW w) st t) (([.ref 0, .int x, .int y, .ref 135] : List Value).map (cv w)).toArray s 1 6 (AW w)) w 5 1 6 136 136 8 [.ref 0, .int x, .int y, .ref 135, .null] [.int (aLook A x y).2, .int (nI 0), .ref 135] (mi, ml, R0 rd, 136) := by
      refine segN (n := 30) (K := fun _ _ _ _ => False) (Cl := Cd 2) (mc := mcT) (ret := 1) (nmax := 136) (Q := fun r M' => LwQ A mi ml rd x y r M') (code := m_Q) (Cd_mono 2) m_Q_ok.1 m_Q_ok.2 ?_ (fun _ _ _ _ z => z.elim) ?_
      · intro t en rest hs hbf ls st M1 h
        have hE := band (List.all_eq_true.mp m_Q_all en (sfx_mem hs en List.mem_cons_self))
        have hE1 := band hE.1
        have hdec : decode cL_look en.1 = .ok (en.2.1, en.2.2.1) := by
          have h1 := hE1.1
          split at h1
          · rename_i i n hdd
            have h1 := band h1
            rw [hdd, of_decide_eq_true h1.1, nbq h1.2]
          · cases h1
        rw [← sfx_head hs]
        refine sdAll (d := 2) (ret := 1) h15 X (Nat.le_of_ble_eq_true rfl) (Nat.le_of_ble_eq_true rfl) (fun z => ?_) hE1.2 hdec (fun k as M P hk => sound l w h15 hokM 2 k as M P hk) (fun hg9 hret => ?_) h
        · have := hE.2
          rw [(band z).1] at this
          cases this
        · unfold stp at hret
          simp only [hg9] at hret
          have hlen1 : en.2.2.1 = 1 := by
            have hb := hE1.2
            unfold okB at hb
            simp only [hg9] at hb
            exact nbq hb
          rw [hlen1] at hdec
          intro H locs arr hR hS hL hn1 hn2
          split at hret
          · rename_i hins
            rw [hins] at hdec
            split at hret
            · have hq := hret
              have hn : M1.2.2.2 = 136 := by
                obtain ⟨ml', -, -, -, rfl⟩ := hret
                rfl
              have e1 : 1 + (M1.2.2.2 - 136) = 1 := by rw [hn]
              have e2 : 6 + (SL M1.2.2.2 - SL 136) = 6 := by rw [hn, Nat.sub_self]
              rw [e1, e2]
              exact W.iret B.exec B.bytes hr (fun t ht _ => ⟨some (.int _), M1, rfl, hq, hn, by rw [ht]; exact hR, hS.F ht⟩) hS.2.2 hdec
            · exact hret.elim
          · split at hret
            · exact hret.elim
            · exact hret.elim
          · split at hret
            · exact hret.elim
            · exact hret.elim
          · exact hret.elim
      · refine ⟨0, by decide, rfl, cu ml 135 (vp_updL (ml 135) 0 (aLook A x y).2.toInt64), cu_ne (by decide), fun _ => ?_, ?_, rfl⟩
        · rw [cu_self]
          unfold vp_updL
          rw [if_pos rfl]
        · rw [h0]
    have hk := key H1 locs1 ls hR1 hS hLR (Nat.le_refl _) (Nat.le_refl _)
    simp only [Nat.sub_self] at hk
    exact hk
end
