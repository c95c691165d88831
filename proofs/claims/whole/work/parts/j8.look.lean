/-! THE CLASS'S LOOK -/
abbrev ioX : String := "java/lang/IndexOutOfBoundsException"
abbrev nsN : List String := ["java/lang/RuntimeException", "java/lang/Exception"]
def nbW : List Cond := [.castable ioX ioX, .castable nsX nsX, .declares (Bundle.initS nsR), .declares (Bundle.initS "java/lang/Exception"), .declares (Bundle.initS Bundle.tN)]
theorem io_tbl : ∀ w ∈ (vx_atS RX11 160 ioX nsN).filter goodWord, w ∈ lw_tbl := by decide +kernel
theorem ns_tbl : ∀ w ∈ ((nsAtoms RX11 189).filter vx_no).filter goodWord, w ∈ lw_tbl := by decide +kernel
theorem io_bad : ∀ w ∈ (vx_atS RX11 160 ioX nsN).filter (fun w => !goodWord w), w ∈ nbW := by decide +kernel
theorem ns_bad : ∀ w ∈ ((nsAtoms RX11 189).filter vx_no).filter (fun w => !goodWord w), w ∈ nbW := by decide +kernel
theorem io_ot : ∀ w ∈ Cond.classLink RX11 156 ioX :: Cond.initialized ioX :: vx_atS RX11 160 ioX nsN, vx_ot w = true := by decide +kernel
theorem ns_ot : ∀ w ∈ Cond.classLink RX11 185 nsX :: Cond.initialized nsX :: (nsAtoms RX11 189).filter vx_no, vx_ot w = true := by decide +kernel
theorem nb_ot : ∀ w ∈ nbW, w.onTables = true := by decide +kernel
theorem gk_156 : Cond.classLink RX11 156 ioX ∈ gw := gw_mem 1528 (by decide +kernel) rfl
theorem gk_ioi : Cond.initialized ioX ∈ gw := gw_mem 167 (by decide +kernel) rfl
theorem gk_185 : Cond.classLink RX11 185 nsX ∈ gw := gw_mem 1595 (by decide +kernel) rfl
theorem gk_nsi : Cond.initialized nsX ∈ gw := gw_mem 169 (by decide +kernel) rfl
theorem dk_11 : decode cX11_look 11 = .ok (.new 156, 3) := by decide +kernel
theorem dk_14 : decode cX11_look 14 = .ok (.dup, 1) := by decide +kernel
theorem dk_15 : decode cX11_look 15 = .ok (.ldc 158, 2) := by decide +kernel
theorem dk_17 : decode cX11_look 17 = .ok (.invokespecial 160, 3) := by decide +kernel
theorem dk_20 : decode cX11_look 20 = .ok (.athrow, 1) := by decide +kernel
theorem dk_115 : decode cX11_look 115 = .ok (.new 185, 3) := by decide +kernel
theorem dk_118 : decode cX11_look 118 = .ok (.dup, 1) := by decide +kernel
theorem dk_119 : decode cX11_look 119 = .ok (.ldc 187, 2) := by decide +kernel
theorem dk_121 : decode cX11_look 121 = .ok (.invokespecial 189, 3) := by decide +kernel
theorem dk_124 : decode cX11_look 124 = .ok (.athrow, 1) := by decide +kernel
def m_K : List En := [
  (0, .aload_n 0, 1, false, 0, (0, 0, 0, 0), .null, []),
  (1, .getfield 31, 3, false, 0, (11, 5, 2, 1), .null, []),
  (4, .iload_n 1, 1, false, 0, (1, 0, 0, 0), .null, []),
  (5, .invokevirtual 152, 3, false, 8, (122, 2, 9, 0), .null, []),
  (8, .ifCond .ne (13), 3, false, 2, (21, 0, 0, 0), .null, []),
  (11, .new 156, 3, true, 99, (98, 0, 0, 0), .null, []),
  (14, .dup, 1, false, 0, (0, 0, 0, 0), .null, []),
  (15, .ldc 158, 2, false, 99, (0, 0, 0, 0), .null, []),
  (17, .invokespecial 160, 3, false, 99, (9999, 2, 0, 2), .null, []),
  (20, .athrow, 1, false, 99, (0, 0, 0, 0), .null, []),
  (21, .iload_n 2, 1, false, 0, (2, 0, 0, 0), .null, []),
  (22, .tableswitch (93) (0) (4) #[34, 44, 57, 67, 77], 34, false, 4, (115, 0, 0, 0), .null, [(nI 0, 56), (nI 1, 66), (nI 2, 79), (nI 3, 89), (nI 4, 99)]),
  (56, .aload_n 0, 1, false, 0, (0, 0, 0, 0), .null, []),
  (57, .getfield 50, 3, false, 0, (11, 8, 2, 1), .null, []),
  (60, .getfield 163, 3, false, 0, (5, 4, 2, 1), .null, []),
  (63, .iload_n 1, 1, false, 0, (1, 0, 0, 0), .null, []),
  (64, .iaload, 1, false, 5, (0, 0, 0, 0), .null, []),
  (65, .ireturn, 1, false, 9, (0, 0, 0, 0), .null, []),
  (66, .aload_n 0, 1, false, 0, (0, 0, 0, 0), .null, []),
  (67, .getfield 50, 3, false, 0, (11, 8, 2, 1), .null, []),
  (70, .getfield 163, 3, false, 0, (5, 4, 2, 1), .null, []),
  (73, .iload_n 1, 1, false, 0, (1, 0, 0, 0), .null, []),
  (74, .iaload, 1, false, 5, (0, 0, 0, 0), .null, []),
  (75, .invokestatic 166, 3, false, 8, (336, 1, 17, 1), .null, []),
  (78, .ireturn, 1, false, 9, (0, 0, 0, 0), .null, []),
  (79, .aload_n 0, 1, false, 0, (0, 0, 0, 0), .null, []),
  (80, .getfield 31, 3, false, 0, (11, 5, 2, 1), .null, []),
  (83, .getfield 172, 3, false, 0, (9, 12, 2, 1), .null, []),
  (86, .iload_n 1, 1, false, 0, (1, 0, 0, 0), .null, []),
  (87, .iaload, 1, false, 5, (0, 0, 0, 0), .null, []),
  (88, .ireturn, 1, false, 9, (0, 0, 0, 0), .null, []),
  (89, .aload_n 0, 1, false, 0, (0, 0, 0, 0), .null, []),
  (90, .getfield 31, 3, false, 0, (11, 5, 2, 1), .null, []),
  (93, .getfield 175, 3, false, 0, (9, 14, 2, 1), .null, []),
  (96, .iload_n 1, 1, false, 0, (1, 0, 0, 0), .null, []),
  (97, .iaload, 1, false, 5, (0, 0, 0, 0), .null, []),
  (98, .ireturn, 1, false, 9, (0, 0, 0, 0), .null, []),
  (99, .aload_n 0, 1, false, 0, (0, 0, 0, 0), .null, []),
  (100, .getfield 31, 3, false, 0, (11, 5, 2, 1), .null, []),
  (103, .iload_n 1, 1, false, 0, (1, 0, 0, 0), .null, []),
  (104, .aload_n 0, 1, false, 0, (0, 0, 0, 0), .null, []),
  (105, .getfield 50, 3, false, 0, (11, 8, 2, 1), .null, []),
  (108, .getfield 178, 3, false, 0, (5, 0, 0, 0), .null, []),
  (111, .invokevirtual 181, 3, false, 8, (124, 3, 9, 0), .null, []),
  (114, .ireturn, 1, false, 9, (0, 0, 0, 0), .null, []),
  (115, .new 185, 3, true, 99, (98, 0, 0, 0), .null, []),
  (118, .dup, 1, false, 0, (0, 0, 0, 0), .null, []),
  (119, .ldc 187, 2, false, 99, (0, 0, 0, 0), .null, []),
  (121, .invokespecial 189, 3, false, 99, (9999, 2, 0, 2), .null, []),
  (124, .athrow, 1, false, 99, (0, 0, 0, 0), .null, [])]
theorem m_K_ok : asc m_K = true ∧ linked m_K = true := by decide +kernel
theorem m_K_all : m_K.all (fun e => okE cX11_look 11 3 e && (!Nat.beq e.2.2.2.2.1 13)) = true := by decide +kernel
/-- what a throw needs -/
def ZX (w : Wn) (U : State) : Prop := vx_Zq Bundle.tN "UNASSIGNED_STACK" Bundle.steD (AW w) U w.2.2.1 ∧ vx_Zq Bundle.tN "SUPPRESSED_SENTINEL" Bundle.listD (AW w) U w.2.2.1 ∧ (∃ a, vk_R RX11 158 "no such field" a U) ∧ (∃ a, vk_R RX11 187 "no such what" a U) ∧ (∀ x ∈ nbW, va_Nw x U) ∧ va_Nc nsX ioX U
theorem ZX.warm {w : Wn} {s U : State} (hW : s.WarmedH U.vm) (h : ZX w s) : ZX w U := by
  obtain ⟨h1, h2, ⟨a, h3⟩, ⟨b, h4⟩, h5, h6⟩ := h
  refine ⟨h1.moved hW.alike, h2.moved hW.alike, ⟨a, h3.warm hW⟩, ⟨b, h4.warm hW⟩, fun x hx => ?_, h6.moved hW.alike⟩
  have h := h5 x hx
  simp only [nbW, List.mem_cons, List.not_mem_nil, or_false] at hx
  rcases hx with rfl | rfl | rfl | rfl | rfl
  · exact va_Nw.warmC hW h
  · exact va_Nw.warmC hW h
  · exact va_Nw.warmD hW h
  · exact va_Nw.warmD hW h
  · exact va_Nw.warmD hW h
theorem ZX.calling {w : Wn} {U : State} {g : JFrame} {mk : MethodId} {a : Array Value} (h : ZX w U) : ZX w (U.calling g mk a) := by
  obtain ⟨h1, h2, ⟨a, h3⟩, ⟨b, h4⟩, h5, h6⟩ := h
  exact ⟨h1.moved (u := U) (Vm.Alike.refl U.vm), h2.moved (u := U) (Vm.Alike.refl U.vm), ⟨a, h3.same rfl⟩, ⟨b, h4.same rfl⟩, fun x hx => va_Nw.same (nb_ot x hx) (u := U) rfl (h5 x hx), h6.moved (u := U) (Vm.Alike.refl U.vm)⟩
theorem RelW.ext {w : Wn} {M : Mm} {H H1 : Heap} (h : RelW w M H) (hn : M.2.2.2 = 136) (h1 : H.size ≤ H1.size) (h2 : ∀ q : Nat, q < H.size → H1[q]? = H[q]?) : RelW w M H1 := by
  obtain ⟨a1, a2, a3, a4, a5⟩ := h
  refine ⟨fun q hq => ?_, by omega, fun z => by omega, a4, a5.kept (fun k q hk => ?_)⟩
  · rw [h2 q (by omega)]; exact a1 q hq
  · obtain ⟨hk, rfl⟩ := wl_of hk
    exact h2 _ (by show ad w k < H.size; rw [ad_lt (by omega)]; omega)
section
variable {Kl : Nat → List Value → Mm → (Option Value → Mm → Prop) → Prop} {K : Nat → List Value → List Value → Mm → Prop} {A : St} {mi : Nat → Nat → Int32} {ml : Nat → Nat → Int64} {rd : Option Nat} {x y : Int32}
set_option maxHeartbeats 1000000 in
theorem lk_run (hC : ∀ k as M P, Cd 2 k as M P → Kl k as M P) (hA : CI A mi) (hw : wfA A) (h11 : (aLook A x y).1 = 1 → K 11 [.ref 0, .int x, .int y] [] (mi, ml, R0 rd, 136)) (h115 : (aLook A x y).1 = 2 → K 115 [.ref 0, .int x, .int y] [] (mi, ml, R0 rd, 136)) :
    GnN Kl mcT 1 136 (fun r M' => M' = (mi, ml, R0 rd, 136) ∧ (aLook A x y).1 = 0 ∧ r = some (.int (aLook A x y).2)) K m_K 90 (sfx m_K 0) [.ref 0, .int x, .int y] [] (mi, ml, R0 rd, 136) := by
  have hfl := hw.T.fl
  have hd9 := hw.d
  refine hC _ _ _ _ (s_Told_hasField (o := 0) (Or.inl rfl) hA.T hw.T (fun f hf e => ⟨fun _ => ?_, fun a => absurd a (by decide)⟩) (fun hno => ⟨fun a => absurd (by decide) a, fun _ => h11 ?_⟩))
  · subst e
    have e1 : ixo (nI f) (flA A) = some f := ixf hw.T hf
    have es : mi 71 f = nI (A 1 1 f) := hA.S.shape f (by omega)
    have hs := hw.S.sh f
    rcases ixo_cs y 5 with ⟨k, hk, rfl, he⟩ | ⟨hne, he⟩
    · have eL : aLook A (nI f) (nI k) = (0, if k = 0 then nI (A 1 1 f) else if k = 1 then nI (bcN (A 1 1 f)) else if k = 2 then nI (A 0 4 f) - 1 else if k = 3 then nI (feeN (A 0) f) else nI (leftN (A 0) f (A 1 0 0))) := by
        unfold aLook
        rw [e1]
        simp only [he]
      have fin : ∀ r : Int32, r = (if k = 0 then nI (A 1 1 f) else if k = 1 then nI (bcN (A 1 1 f)) else if k = 2 then nI (A 0 4 f) - 1 else if k = 3 then nI (feeN (A 0) f) else nI (leftN (A 0) f (A 1 0 0))) → (((mi, ml, R0 rd, 136) : Mm) = (mi, ml, R0 rd, 136) ∧ (aLook A (nI f) (nI k)).1 = 0 ∧ some (Value.int r) = some (.int (aLook A (nI f) (nI k)).2)) := fun r hr => ⟨rfl, by rw [eL], by rw [eL, hr]⟩
      clear eL
      have : k = 0 ∨ k = 1 ∨ k = 2 ∨ k = 3 ∨ k = 4 := by omega
      rcases this with rfl | rfl | rfl | rfl | rfl
      · exact ⟨fun _ => ⟨f, by omega, rfl, fin _ es⟩, fun a => absurd rfl a⟩
      · have cm : ∀ P : Option Value → Mm → Prop, P (some (.int (nI (bcN (A 1 1 f))))) (mi, ml, R0 rd, 136) → Cd 2 336 [.int (mi 71 f)] (mi, ml, R0 rd, 136) P := fun P p => by
          rw [es]
          exact s_bitCount (by decide) (by omega) p
        exact ⟨fun a => absurd a (by decide), fun _ => swP_c (fun _ => ⟨f, by omega, rfl, hC _ _ _ _ (cm _ (fin _ rfl))⟩) (fun a => absurd rfl a)⟩
      · exact ⟨fun a => absurd a (by decide), fun _ => swP_c (fun a => absurd a (by decide)) (fun _ => swP_c (fun _ => ⟨f, by omega, rfl, fin _ (hA.T.own f (by omega))⟩) (fun a => absurd rfl a))⟩
      · exact ⟨fun a => absurd a (by decide), fun _ => swP_c (fun a => absurd a (by decide)) (fun _ => swP_c (fun a => absurd a (by decide)) (fun _ => swP_c (fun _ => ⟨f, by omega, rfl, fin _ (hA.T.fee f (by omega))⟩) (fun a => absurd rfl a)))⟩
      · have ed : mi 70 0 = nI (A 1 0 0) := hA.S.day
        have cm : ∀ P : Option Value → Mm → Prop, P (some (.int (nI (leftN (A 0) f (A 1 0 0))))) (mi, ml, R0 rd, 136) → Cd 2 k_Told_daysLeft [.ref 6, .int (nI f), .int (mi 70 0)] (mi, ml, R0 rd, 136) P := fun P p => by
          rw [ed]
          exact s_daysLeft hA.T hw.T (by omega) (by omega) p
        exact ⟨fun a => absurd a (by decide), fun _ => swP_c (fun a => absurd a (by decide)) (fun _ => swP_c (fun a => absurd a (by decide)) (fun _ => swP_c (fun a => absurd a (by decide)) (fun _ => swP_c (fun _ => hC _ _ _ _ (cm _ (fin _ rfl))) (fun a => absurd rfl a))))⟩
    · have e2 : (aLook A (nI f) y).1 = 2 := by
        unfold aLook
        rw [e1]
        simp only [he]
      exact ⟨fun a => absurd a (hne 0 (by decide)), fun _ => swP_c (fun a => absurd a (hne 1 (by decide))) (fun _ => swP_c (fun a => absurd a (hne 2 (by decide))) (fun _ => swP_c (fun a => absurd a (hne 3 (by decide))) (fun _ => swP_c (fun a => absurd a (hne 4 (by decide))) (fun _ => swP_n (h115 e2)))))⟩
  · unfold aLook
    rw [show ixo x (flA A) = none from ixo_none hno]
end
