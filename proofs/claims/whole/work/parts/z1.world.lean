/-! THE CALL OF LOOK IN THE LAW -/
theorem d_L398 : decode code 398 = .ok (.invokestatic 39, 3) := by decide +kernel
theorem good_K {z : Cond} (h : z ∈ gw) : GoodIn gw (z :: gw) := fun x hx => by
  have hg : x ∈ gw := by
    rcases List.mem_cons.mp hx with rfl | h'
    · exact h
    · exact h'
  exact ⟨hg, good_of_word (gw_good x hg)⟩
section
variable {p : Program} {l : Launch} {en : Env} {R : Room} {s : State} {m : MethodId} {args : Array Value} {below : List Frame} {meth : Method} {c : Code} {Qw : State → Prop} {w : Wn} {kc : Nat}
set_option maxHeartbeats 1000000 in
set_option maxRecDepth 20000 in
theorem sdLook (hl : l.stackTraces = false) (h15 : SD15 l w) (hokM : ∀ k, k < 339 → okM k = true) (X : Ctx p R s m args c w 16 7 (kc + 1) (6 * (kc + 1)) 0 136 code) (hZ : ZX w s) (hR1 : 13 ≤ R.frames) (hR2 : 468 ≤ R.locals) (A : St) (mi : Nat → Nat → Int32) (ml : Nat → Nat → Int64) (rd : Option Nat) (ls : List Value) (x y : Int32) (hA : CI A mi) (hw : wfA A)
    (k : ∀ ml' : Nat → Nat → Int64, ml' 95 = ml 95 → ((aLook A x y).1 = 0 → ml' 135 0 = (aLook A x y).2.toInt64) → Wst p l en R s m args below meth c Qw w 7 (kc + 1) (6 * (kc + 1)) 0 136 401 ls [.int (nI (aLook A x y).1)] (mi, ml', R0 rd, 136)) :
    Wst p l en R s m args below meth c Qw w 7 kc (6 * kc) 0 136 398 ls [.ref 135, .int y, .int x, .ref 0] (mi, ml, R0 rd, 136) := by
  obtain ⟨hx, hc, hml, hown, hts, hKK, hs0, hw0, hr1, hr2, hr3, hr4, hr5⟩ := X
  intro H locs arr hR hS hL hn1 hn2
  generalize hSL : SL 136 - SL 0 = zS at hr2
  have e1 : kc + ((mi, ml, R0 rd, 136) : Mm).2.2.2 - 0 = kc + 136 := rfl
  refine zcall (n1 := 136) (Q := LwQ A mi ml rd x y) (mc := 1) (ms := 6) (rest := []) (vx_runSW (hh := [(0, 10, 13, 13), (0, 10, 17, 15)]) (As := ([.ref 0, .int x, .int y, .ref 135] : List Value).map (cv w)) (rest := []) (n := 4) ⟨hx, hc, hml, hown, hts⟩ (c_Lk (rd := rd) (ml := ml) (x := x) (y := y) hl h15 hokM hA hw) ⟨⟨rfl, rfl, by show 7 + 1 ≤ R.frames; omega, by show 8 + (5 + 11) + 144 ≤ R.locals; omega, pay_in hts (good_K gl_cw), List.mem_cons_self⟩, hts _ gl_cw, hts _ gl_iL, ⟨by decide, by decide⟩, fun sig h => ?_, hts _ gl_39, hts _ gl_st⟩ ⟨LkB.blind, fun U hU hW => ⟨rfl, by rw [hU]; exact hR, hKK.warm hW, hZ.warm hW⟩⟩ rfl rfl hL.size rfl (Nat.le_of_ble_eq_true rfl) d_L398 ⟨?_, ?_⟩) hS ?_
  · have h2 : (parseMethodDescriptor yL_look.desc).map (fun d => d.parameters.length) = some 4 := by decide +kernel
    rw [h] at h2
    exact (Option.some.inj h2).symm
  · show kc + (136 - 0) + 1 ≤ R.cells
    omega
  · show 6 * kc + zS + 6 ≤ R.slots
    omega
  · intro r M' H1 locs1 hq hn hR' hS'
    obtain ⟨ml', q1, q2, rfl, rfl⟩ := hq
    have hk := k ml' q1 q2 H1 locs1 arr hR' hS' hL hn1 hn2
    have e2 : kc + 1 + (136 - 0) = kc + (136 - 0) + 1 := by omega
    have e3 : 6 * (kc + 1) + (SL 136 - SL 0) = 6 * kc + (SL 136 - SL 0) + 6 := by rw [hSL]; omega
    have hk : W p l en R s m args below meth c H1 locs1 (kc + 1 + (136 - 0)) (6 * (kc + 1) + (SL 136 - SL 0)) Qw (F0 m 401 arr [.int (nI (aLook A x y).1)]) := hk
    rw [e2, e3, hSL] at hk
    exact hk
end
/-! THE WORLD AS THE LAW BEGINS -/
def langB : List Int32 := langL.map nI
theorem langB_get : ∀ (l : List Nat) (j : Nat), (l.map nI).getD j 0 = nI (nth 0 l j)
  | [], _ => rfl
  | _ :: _, 0 => rfl
  | _ :: l, j + 1 => langB_get l j
abbrev lwG : Cond := Jvm.Cond.and given_1 narrow_1
def elC (j : Nat) : Cond := Cond.eq (.elem (.field (.string "HayWriting$Tokens" 66) "java/lang/String" "value" "[B") (.int (Int32.ofNat j))) (.int (langB.getD j 0))
theorem nw_el : ((flatC lwG).drop 43).take 156 = (List.range 156).map elC := by decide +kernel
theorem nw_elem (j : Nat) (hj : j < 156) : elC j ∈ flatC lwG := by
  have h : elC j ∈ ((flatC lwG).drop 43).take 156 := by
    rw [nw_el]
    exact List.mem_map.mpr ⟨j, List.mem_range.mpr hj, rfl⟩
  exact List.mem_of_mem_drop (List.mem_of_mem_take h)
theorem nw_ex : Cond.exactly (.string "HayWriting$Tokens" 66) "java/lang/String" ∈ flatC lwG := by decide +kernel
theorem nw_co : Cond.eq (.field (.string "HayWriting$Tokens" 66) "java/lang/String" "coder" "B") (.int 0) ∈ flatC lwG := by decide +kernel
theorem nw_ar : Cond.arrayOf (.field (.string "HayWriting$Tokens" 66) "java/lang/String" "value" "[B") .byte ∈ flatC lwG := by decide +kernel
theorem nw_le : Cond.eq (.length (.field (.string "HayWriting$Tokens" 66) "java/lang/String" "value" "[B")) (.int (Int32.ofNat 156)) ∈ flatC lwG := by decide +kernel
theorem nw_e1 : Cond.exactly (.string RX11 158) "java/lang/String" ∈ flatC lwG := by decide +kernel
theorem nw_e2 : Cond.exactly (.string RX11 187) "java/lang/String" ∈ flatC lwG := by decide +kernel
theorem nw_cs : Cond.eq (.static "java/lang/String" "COMPACT_STRINGS" "Z") (.int 1) ∈ flatC lwG := by decide +kernel
theorem nw_si : Cond.isRef (.static "jdk/internal/util/Preconditions" "SIOOBE_FORMATTER" "Ljava/util/function/BiFunction;") ∈ flatC lwG := by decide +kernel
theorem nw_us : Cond.isRef (.static Bundle.tN "UNASSIGNED_STACK" Bundle.steD) ∈ flatC lwG := by decide +kernel
theorem nw_ss : Cond.isRef (.static Bundle.tN "SUPPRESSED_SENTINEL" Bundle.listD) ∈ flatC lwG := by decide +kernel
theorem nw_nc : Cond.not (.castable nsX ioX) ∈ flatC lwG := by decide +kernel
theorem tb_760 : lw_tbl[760]? = some (.stringRef RX8 66 langS) := by decide +kernel
theorem tb_1568 : lw_tbl[1568]? = some (.stringRef RX11 158 "no such field") := by decide +kernel
theorem tb_1604 : lw_tbl[1604]? = some (.stringRef RX11 187 "no such what") := by decide +kernel
theorem tb_770 : lw_tbl[770]? = some (.laysStatic "java/lang/String" "COMPACT_STRINGS" "Z") := by decide +kernel
theorem tb_789 : lw_tbl[789]? = some (.laysStatic "jdk/internal/util/Preconditions" "SIOOBE_FORMATTER" "Ljava/util/function/BiFunction;") := by decide +kernel
theorem tb_1555 : lw_tbl[1555]? = some (.laysStatic Bundle.tN "UNASSIGNED_STACK" Bundle.steD) := by decide +kernel
theorem tb_1557 : lw_tbl[1557]? = some (.laysStatic Bundle.tN "SUPPRESSED_SENTINEL" Bundle.listD) := by decide +kernel
theorem tb_164 : lw_tbl[164]? = some (.initialized Bundle.tN) := by decide +kernel
theorem tb_nb : ∀ z ∈ nbW, z ∈ lw_tbl := by decide +kernel
theorem arr_at {args : Array Value} {s : State} {ty : FieldType} (h : (Cond.arrayClass ty).before args s = true) : ∃ cA : ClassId, ArrOfT s cA ty ∧ s.vm.findClass ("[" ++ ty.toString) = some cA := by
  obtain ⟨cA, kA, comp, h1, h2, h3⟩ := Cond.arrayClass_spec h
  exact ⟨cA, fun n z => ⟨fun k h => (by cases h), kA, h2, comp, h3⟩, h1⟩
set_option maxHeartbeats 1000000 in
/-- there is such a world -/
theorem w_start {s : State} {b : Nat} (hts : ∀ z ∈ lw_tbl, z.before #[Value.ref b] s = true) (hgv : lwG.before #[Value.ref b] s = true) : ∃ w : Wn, w.1 = s.heap.size ∧ w.2.2.1 = s.heap ∧ w.2.2.2.2 9 = b ∧ KK w s ∧ ZX w s := by
  have hgw : ∀ z ∈ gw, z.before #[Value.ref b] s = true := fun z hz => hts z (List.mem_filter.mp hz).1
  have hat : ∀ {i : Nat} {z : Cond}, lw_tbl[i]? = some z → z.before #[Value.ref b] s = true := fun h => hts _ (List.mem_of_getElem? h)
  have hfl := flat_of_before _ hgv
  have hcl : ∀ ci : Nat, ∃ q : ClassId × (Nat → Nat), ci < 13 → u_Kn s (cn ci) (TT ci) (nfl ci) q.1 q.2 := fun ci => by
    by_cases h : ci < 13
    · obtain ⟨-, g2, -, -, g5, -⟩ := cls_ok ci h
      obtain ⟨cC, iS, hk⟩ := u_known (C := cn ci) (T := TT ci) (N := nfl ci) (n := nfl ci) hgw g2 (hgw _ g5)
      exact ⟨(cC, iS), fun _ => hk⟩
    · exact ⟨(0, fun _ => 0), fun z => absurd z h⟩
  obtain ⟨qc, hqc⟩ := Classical.axiomOfChoice hcl
  obtain ⟨cI, aI, fI⟩ := arr_at (hgw _ gw_arr_int)
  obtain ⟨cJ, aJ, fJ⟩ := arr_at (hgw _ gw_arr_long)
  obtain ⟨cZ, aZ, fZ⟩ := arr_at (hgw _ gw_arr_boolean)
  have hA : ∀ a : Nat, a < s.heap.size → ¬ (fun q : Nat => s.heap.size ≤ q) a := fun a ha => Nat.not_le.mpr ha
  obtain ⟨adK, adV, hS, hE⟩ := vk_Sof (args := #[Value.ref b]) (s := s) (N := 1) (tm := fun _ => Term.string RX8 66) (len := [156]) (byt := [langB]) (A := fun q => s.heap.size ≤ q) (fun i hi => by
      obtain rfl : i = 0 := by omega
      decide) (fun i hi => hfl _ nw_ex) (fun i hi => hfl _ nw_co) (fun i hi => hfl _ nw_ar) (fun i hi => by
      obtain rfl : i = 0 := by omega
      exact hfl _ nw_le) (fun i hi j hj => by
      obtain rfl : i = 0 := by omega
      exact hfl _ (nw_elem j hj)) (fun i j hi hj hij => by omega) hA
  obtain ⟨t1, t2, t3, t4⟩ := hS.1 0 (by omega)
  have hev := hE 0 (by omega)
  have hb8 : (fun j => Value.int ((([langB] : List (List Int32)).getD 0 []).getD j 0)) = (fun j => .int (nI (lch j))) := funext (fun j => by
    show Value.int ((langL.map nI).getD j 0) = .int (nI (nth 0 langL j))
    rw [langB_get])
  rw [hb8] at t4
  have hvr : ∀ {k : Nat} {tx : String}, (Cond.exactly (.string RX11 k) "java/lang/String").before #[Value.ref b] s = true → (Cond.stringRef RX11 k tx).before #[Value.ref b] s = true → ∃ a, vk_R RX11 k tx a s := fun {k} {tx} h1 h2 => by
    obtain ⟨a, _, _, _, q1, -⟩ := Cond.exactly_spec (args := #[Value.ref b]) (first := s) (o := none) (s := s) (idx := []) h1
    exact ⟨a, vk_R.of h2 q1⟩
  refine ⟨(s.heap.size, adK 0, s.heap, (fun c => (qc c).1, fun c => (qc c).2), fun i => if i = 0 then cI else if i = 1 then cJ else if i = 2 then cZ else b), rfl, rfl, rfl, ⟨⟨fun ci q hq => ?_, fun k q hk => ?_⟩, fun z hz => ?_, vk_R.of (hat tb_760) hev, t1, t2, ⟨adV 0, t3, t4⟩, va_Zof (hat tb_770) (hgw _ gs_i0) (va_eqt (hfl _ nw_cs)) hA, va_Zqof (hat tb_789) (hgw _ gs_i3) (hfl _ nw_si) hA⟩, vx_Zqof (hat tb_1555) (hat tb_164) (hfl _ nw_us) hA, vx_Zqof (hat tb_1557) (hat tb_164) (hfl _ nw_ss) hA, hvr (hfl _ nw_e1) (hat tb_1568), hvr (hfl _ nw_e2) (hat tb_1604), fun z hz => va_Nw.of (nb_ot z hz) (hts z (tb_nb z hz)), va_Nc.of (hfl _ nw_nc)⟩
  · have hlt : ci < 13 := (List.getElem?_eq_some_iff.mp hq).1
    have g1 := (cls_ok ci hlt).1
    rw [g1] at hq
    cases hq
    exact hqc ci hlt
  · match k, hk with
    | 0, hk => cases hk; exact ⟨aI, fI⟩
    | 1, hk => cases hk; exact ⟨aJ, fJ⟩
    | 2, hk => cases hk; exact ⟨aZ, fZ⟩
    | k + 3, hk => cases hk
  · obtain ⟨q, hq, rfl⟩ := List.mem_map.mp hz
    exact va_Nw.of rfl (hat (nTab_ok q hq))
