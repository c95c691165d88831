/-! THE CLASS'S LOOK, over the machine -/
section
variable {l : Launch} {w : Wn} {A : St} {mi : Nat → Nat → Int32} {ml : Nat → Nat → Int64} {rd : Option Nat} {x y : Int32}
/-- what look's caller gives -/
def LkB (w : Wn) (M : Mm) (U : State) : Prop := RelW w M U.heap ∧ KK w U ∧ ZX w U
/-- what comes out of it: a return, a throw -/
def LkQ (w : Wn) (A : St) (x y : Int32) (M : Mm) : Array Value → State → Outcome → State → Prop := va_Qi (S := Unit) (fun r _ => (aLook A x y).1 = 0 ∧ r = (aLook A x y).2) (fun _ t => RelW w M t.heap) (AW w)
def LkX (w : Wn) (A : St) (x y : Int32) (M : Mm) : String → State → State → Prop := vx_X (S := Unit) (fun _ => True) (fun E _ t => RelW w M t.heap ∧ ((E = ioX ∧ (aLook A x y).1 = 1) ∨ (E = nsX ∧ (aLook A x y).1 = 2))) (AW w)
set_option maxHeartbeats 2000000 in
theorem c_look (hl : l.stackTraces = false) (h15 : SD15 l w) (hokM : ∀ k, k < 339 → okM k = true) (hA : CI A mi) (hw : wfA A) :
    vx_Met l yX11_look (Cond.code yX11_look cX11_look 3 (some .int) :: gw) { frames := 6, cells := 1, slots := 6, locals := 108 } (va_Pc (([.ref 0, .int x, .int y] : List Value).map (cv w)) (LkB w (mi, ml, R0 rd, 136))) (LkQ w A x y (mi, ml, R0 rd, 136)) (LkX w A x y (mi, ml, R0 rd, 136)) 1 6 (AW w) := by
  refine vx_ofW (cc := cX11_look) (maxL := 3) (ret := some .int) (by decide +kernel) rfl ?_
  intro p e s m args below meth c s₁ B hml htab hv
  obtain ⟨rfl, hrel, hKK, hZX⟩ := hv
  have hts0 := atoms_spec (ws := Cond.code yX11_look cX11_look 3 (some .int) :: gw) B.pre
  have hts : ∀ z ∈ gw, z.before _ s = true := fun z hz => hts0 z (List.mem_cons_of_mem _ hz)
  have hown : s.vm.findClass RX11 = some m.cls := findClass_of_methodNamed B.named
  have hr := B.returns
  have hlk := B.notSynchronized
  have hsz : w.1 + 136 ≤ s.heap.size := hrel.2.1
  have hs0 : ∀ q, q < w.1 → s.heap[q]? = w.2.2.1[q]? := hrel.1
  have hq0 : ∀ a : Nat, a < w.2.2.1.size → ¬ AW w a → s.heap[a]? = w.2.2.1[a]? := fun a _ ha => hs0 a (Nat.lt_of_not_le ha)
  have hU := hZX.1.kept hq0
  have hN := hZX.2.1.kept hq0
  obtain ⟨sa, hsa⟩ := hZX.2.2.1
  obtain ⟨sb, hsb⟩ := hZX.2.2.2.1
  have hnb : ∀ z ∈ nbW, z.before (([.ref 0, .int x, .int y] : List Value).map (cv w)).toArray s = true := fun z hz => va_Nw.use (nb_ot z hz) (hZX.2.2.2.2.1 z hz)
  have X : Ctx p { frames := 6, cells := 1, slots := 6, locals := 108 } s m (([.ref 0, .int x, .int y] : List Value).map (cv w)).toArray c w 11 3 0 0 136 136 cX11_look := ⟨B.exec, B.bytes, hml, hown, hts, hKK, hs0, by omega, Nat.le_of_ble_eq_true rfl, by rw [Nat.sub_self]; exact Nat.le_of_ble_eq_true rfl, Nat.le_of_ble_eq_true rfl, Nat.le_of_ble_eq_true rfl, Nat.le_refl _⟩
  have hFx : ∀ (H : Heap) (locs : List Loc), va_S (AW w) s.heap H locs → ∀ t : State, H.size ≤ t.heap.size → (∀ q : Nat, q < H.size → t.heap[q]? = H[q]?) → va_F (AW w) s t := fun H locs hS t h1 h2 => ⟨Nat.le_trans hS.1 h1, fun q hq hn => by rw [h2 q (Nat.lt_of_lt_of_le hq hS.1)]; exact hS.2.1 q hq hn⟩
  rw [lg_entry_eq]
  have key : Wst p l e { frames := 6, cells := 1, slots := 6, locals := 108 } s m (([.ref 0, .int x, .int y] : List Value).map (cv w)).toArray below meth c (vx_MQ below (LkQ w A x y (mi, ml, R0 rd, 136)) (LkX w A x y (mi, ml, R0 rd, 136)) (([.ref 0, .int x, .int y] : List Value).map (cv w)).toArray s 1 6 (AW w)) w 3 0 0 136 136 0 [.ref 0, .int x, .int y] [] (mi, ml, R0 rd, 136) := by
    refine segN (n := 90) (K := Wst p l e { frames := 6, cells := 1, slots := 6, locals := 108 } s m (([.ref 0, .int x, .int y] : List Value).map (cv w)).toArray below meth c (vx_MQ below (LkQ w A x y (mi, ml, R0 rd, 136)) (LkX w A x y (mi, ml, R0 rd, 136)) (([.ref 0, .int x, .int y] : List Value).map (cv w)).toArray s 1 6 (AW w)) w 3 0 0 136 136) (Cl := Cd 2) (mc := mcT) (ret := 1) (nmax := 136) (code := m_K) (Cd_mono 2) m_K_ok.1 m_K_ok.2 ?_ (fun _ _ _ _ z => z) (lk_run (fun _ _ _ _ z => z) hA hw ?_ ?_)
    · intro t en rest hs hbf ls st M1 h
      have hE := band (List.all_eq_true.mp m_K_all en (sfx_mem hs en List.mem_cons_self))
      have hE1 := band hE.1
      have hdec : decode cX11_look en.1 = .ok (en.2.1, en.2.2.1) := by
        have h1 := hE1.1
        split at h1
        · rename_i i n hdd
          have h1 := band h1
          rw [hdd, of_decide_eq_true h1.1, nbq h1.2]
        · cases h1
      rw [← sfx_head hs]
      refine sdAll (d := 2) (ret := 1) h15 X (Nat.le_of_ble_eq_true rfl) (Nat.le_of_ble_eq_true rfl) (fun z => ?_) hE1.2 hdec (fun k as M P hk => sound l w h15 hokM 2 k as M P hk) (fun hg9 hret => ?_) h
      · have := hE.2
        rw [(band z).1] at this
        cases this
      · unfold stp at hret
        simp only [hg9] at hret
        have hlen1 : en.2.2.1 = 1 := by
          have hb := hE1.2
          unfold okB at hb
          simp only [hg9] at hb
          exact nbq hb
        rw [hlen1] at hdec
        intro H locs arr hR hS hL hn1 hn2
        split at hret
        · rename_i hins
          rw [hins] at hdec
          split at hret
          · obtain ⟨rfl, h0, hv⟩ := hret
            cases hv
            refine W.widen (k := 1) (n := 6) (by rw [Nat.sub_self]; exact Nat.le_of_ble_eq_true rfl) (by rw [Nat.sub_self]; exact Nat.le_of_ble_eq_true rfl) ?_
            exact vx_ret (W.iret B.exec B.bytes hr (fun t ht _ => ⟨⟨_, (), rfl, ⟨h0, rfl⟩, by show RelW w (mi, ml, R0 rd, 136) t.heap; rw [ht]; exact hR⟩, hS.F ht⟩) hS.2.2 hdec)
          · exact hret.elim
        · split at hret
          · exact hret.elim
          · exact hret.elim
        · split at hret
          · exact hret.elim
          · exact hret.elim
        · exact hret.elim
    · intro h1 H locs arr hR hS hL hn1 hn2
      exact vx_throwS (pc := 11) (cc := cX11_look) B.exec B.bytes hl (own := RX11) (cls := ioX) (names := nsN) (ik := 156) (is := 158) (ic := 160) (sa := sa) (text := "no such field") (A := AW w) hown (by decide +kernel) (by decide +kernel) (hts _ gk_156) (hts _ gk_ioi) hsa (vx_hat (fun z hz => hts z (List.mem_filter.mpr ⟨io_tbl z hz, (List.mem_filter.mp hz).2⟩)) io_bad hnb) io_ot hU hN hS (hL.size.trans hml.symm) dk_11 dk_14 dk_15 dk_17 dk_20 (fun z hz => (htab z hz).elim) (Nat.le_of_ble_eq_true rfl) (Nat.le_of_ble_eq_true rfl) (by rw [Nat.sub_self]; exact Nat.le_of_ble_eq_true rfl) (by rw [Nat.sub_self]; exact Nat.le_of_ble_eq_true rfl) hlk (fun t hv hz hq => ⟨(), trivial, ⟨hR.ext rfl hz hq, Or.inl ⟨rfl, h1⟩⟩, hFx H locs hS t hz hq⟩) hS.2.2 (by rw [Nat.sub_self]; exact Nat.le_of_ble_eq_true rfl) (by rw [Nat.sub_self]; exact Nat.le_of_ble_eq_true rfl)
    · intro h1 H locs arr hR hS hL hn1 hn2
      exact vx_throwN (pc := 115) (cc := cX11_look) B.exec B.bytes hl (own := RX11) (ik := 185) (is := 187) (ic := 189) (sa := sb) (text := "no such what") (A := AW w) hown (hts _ gk_185) (hts _ gk_nsi) hsb (vx_hat (fun z hz => hts z (List.mem_filter.mpr ⟨ns_tbl z hz, (List.mem_filter.mp hz).2⟩)) ns_bad hnb) ns_ot hU hN hS (hL.size.trans hml.symm) dk_115 dk_118 dk_119 dk_121 dk_124 (fun z hz => (htab z hz).elim) (Nat.le_of_ble_eq_true rfl) (Nat.le_of_ble_eq_true rfl) (by rw [Nat.sub_self]; exact Nat.le_of_ble_eq_true rfl) (by rw [Nat.sub_self]; exact Nat.le_of_ble_eq_true rfl) hlk (fun t hv hz hq => ⟨(), trivial, ⟨hR.ext rfl hz hq, Or.inr ⟨rfl, h1⟩⟩, hFx H locs hS t hz hq⟩) hS.2.2 (by rw [Nat.sub_self]; exact Nat.le_of_ble_eq_true rfl) (by rw [Nat.sub_self]; exact Nat.le_of_ble_eq_true rfl)
  have := key s.heap [] _ hrel va_S.rf (LRv.entry (as := [.ref 0, .int x, .int y]) (n := 3) (Nat.le_of_ble_eq_true rfl)) (Nat.le_refl _) (Nat.le_refl _)
  simp only [Nat.sub_self] at this
  exact this
end
