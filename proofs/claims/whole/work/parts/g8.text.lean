/-! THE REFERENCE TAKES A TEXT -/
theorem wA_95 {c k : Nat} (h : c < 95 ∨ 135 ≤ c) : wA2 c k = false := by
  have e : Nat.beq c 95 = false := by
    cases hb : Nat.beq c 95 with
    | false => rfl
    | true => have := Nat.eq_of_beq_eq_true hb; omega
  have e2 : ∀ a b, (c < a ∨ b < c) → (Nat.ble a c && Nat.ble c b) = false := fun a b hab => by
    cases hb : (Nat.ble a c && Nat.ble c b) with
    | false => rfl
    | true =>
      rw [Bool.and_eq_true, Nat.ble_eq, Nat.ble_eq] at hb
      omega
  unfold wA2
  rw [e, e2 98 118 (by omega), e2 119 120 (by omega)]
  rfl
theorem WF.lo {mi mi' : Nat → Nat → Int32} (h : WF mi mi') : Lo mi mi' := fun c hc => funext (fun k => h c k (wA_95 hc))
/-- the reference after a text that it refuses -/
theorem MI.er {A : St} {mi m2 : Nat → Nat → Int32} {ml : Nat → Nat → Int64} (hA : MI A mi ml) (hw : wfT (A 0)) {e : Nat × Nat} (hc : ∀ c k, c ≠ 95 → wA2 c k = false → m2 c k = mi c k) (h95 : ∀ k, wA2 95 k = false → k ≠ 1 → k ≠ 2 → k ≠ 6 → m2 95 k = mi 95 k) (e1 : m2 95 1 = nI 0) (e4 : m2 95 4 = nI e.1) (e5 : m2 95 5 = nI e.2) : MI (txE A e) m2 ml := by
  have hb5 := hw.own5
  have hgl9 := hw.gl9
  have hwd6 := hw.wd6
  have hhl3 := hw.hl3
  have hco4 := hw.co4
  have hsg5 := hw.sg5
  have hlk3 := hw.lk3
  have hkn64 := hw.kn64
  have lo : ∀ c k, 98 ≤ c → c ≤ 118 → k < thD c → m2 c k = mi c k := fun c k h1 h2 h3 => hc c k (by omega) (wA_lo h1 h2 h3)
  refine ⟨?_, ?_, ?_, ?_, ?_, ⟨?_, fun z => ?_⟩, ⟨e1, lt_0⟩, ⟨e4, ?_⟩, ⟨?_, ?_⟩, ?_⟩
  · have h := hA.T
    show MT (A 0) m2
    obtain ⟨a0, a1, a2, a3, a4, a5, a6, a7, a8, a9, a10, a11, a12, a13, a14, a15, a16, a17, a18, a19, a20, a21, a22, a23, a24, a25, a26, a27, a28, a29, a30, a31⟩ := h
    refine ⟨(h95 12 rfl (by decide) (by decide) (by decide)).trans a0, (h95 13 rfl (by decide) (by decide) (by decide)).trans a1, (h95 14 rfl (by decide) (by decide) (by decide)).trans a2, (h95 15 rfl (by decide) (by decide) (by decide)).trans a3, (h95 16 rfl (by decide) (by decide) (by decide)).trans a4, (h95 17 rfl (by decide) (by decide) (by decide)).trans a5, (h95 18 rfl (by decide) (by decide) (by decide)).trans a6, (h95 19 rfl (by decide) (by decide) (by decide)).trans a7, (h95 20 rfl (by decide) (by decide) (by decide)).trans a8, (h95 21 rfl (by decide) (by decide) (by decide)).trans a9, (h95 22 rfl (by decide) (by decide) (by decide)).trans a10, (hc 98 0 (by decide) rfl).trans a11, (hc 98 1 (by decide) rfl).trans a12, (hc 98 2 (by decide) rfl).trans a13,
      fun i hi => (lo 100 i (by decide) (by decide) (show i < 5 by omega)).trans (a14 i hi),
      fun i hi => (lo 101 i (by decide) (by decide) (show i < 5 by omega)).trans (a15 i hi),
      fun i hi => (lo 102 i (by decide) (by decide) (show i < 5 by omega)).trans (a16 i hi),
      fun i hi => (lo 103 i (by decide) (by decide) (show i < 48 by omega)).trans (a17 i hi),
      fun i hi => (lo 104 i (by decide) (by decide) (show i < 9 by omega)).trans (a18 i hi),
      fun i hi => (lo 105 i (by decide) (by decide) (show i < 9 by omega)).trans (a19 i hi),
      fun i hi => (lo 106 i (by decide) (by decide) (show i < 6 by omega)).trans (a20 i hi),
      fun i hi => (lo 107 i (by decide) (by decide) (show i < 6 by omega)).trans (a21 i hi),
      fun i hi => (lo 108 i (by decide) (by decide) (show i < 3 by omega)).trans (a22 i hi),
      fun i hi => (lo 109 i (by decide) (by decide) (show i < 3 by omega)).trans (a23 i hi),
      fun i hi => (lo 110 i (by decide) (by decide) (show i < 4 by omega)).trans (a24 i hi),
      fun i hi => (lo 111 i (by decide) (by decide) (show i < 4 by omega)).trans (a25 i hi),
      fun i hi => (lo 112 i (by decide) (by decide) (show i < 5 by omega)).trans (a26 i hi),
      fun i hi => (lo 113 i (by decide) (by decide) (show i < 5 by omega)).trans (a27 i hi),
      fun i hi k hk => (lo 114 _ (by decide) (by decide) (show 4 * i + k < 20 by have := hw.sl i hi; omega)).trans (a28 i hi k hk),
      fun i hi => (lo 115 i (by decide) (by decide) (show i < 9 by omega)).trans (a29 i hi),
      fun i hi => (lo 116 i (by decide) (by decide) (show i < 64 by omega)).trans (a30 i hi),
      fun i hi h1 => (lo 117 i (by decide) (by decide) (show i < 64 by omega)).trans (a31 i hi h1)⟩
  · intro i hi
    have hi : i < A 0 0 9 := hi
    have h := hA.K i hi
    rw [lo 117 i (by decide) (by decide) (show i < 64 by omega), lo 118 i (by decide) (by decide) (show i < 64 by omega)]
    exact h
  · have h := hA.S
    exact ⟨fun f hf => (hc 123 f (by decide) rfl).trans (h.1 f hf), (hc 124 0 (by decide) rfl).trans h.2.1, (h95 70 rfl (by decide) (by decide) (by decide)).trans h.2.2.1, h.2.2.2.1, (h95 71 rfl (by decide) (by decide) (by decide)).trans h.2.2.2.2.1, fun a ha w hw => (hc 125 _ (by decide) rfl).trans (h.2.2.2.2.2 a ha w hw)⟩
  · have h := hA.N
    exact ⟨(h95 88 rfl (by decide) (by decide) (by decide)).trans h.1, (h95 89 rfl (by decide) (by decide) (by decide)).trans h.2.1, fun i hi => ⟨(hc 130 _ (by decide) rfl).trans (h.2.2 i hi).1, fun z => (hc 130 _ (by decide) rfl).trans ((h.2.2 i hi).2.1 z), (hc 130 _ (by decide) rfl).trans (h.2.2 i hi).2.2⟩⟩
  · have h := hA.P
    exact ⟨(h95 94 rfl (by decide) (by decide) (by decide)).trans h.1, fun r hr i hi => (hc 132 _ (by decide) rfl).trans (h.2 r hr i hi)⟩
  · exact (h95 96 rfl (by decide) (by decide) (by decide)).trans hA.I.1
  · have h := hA.I.2 z
    exact ⟨fun i hi => (hc 133 i (by decide) rfl).trans (h.1 i hi), (h95 98 rfl (by decide) (by decide) (by decide)).trans h.2.1, h.2.2.1, fun a ha w hw => (hc 134 _ (by decide) rfl).trans (h.2.2.2 a ha w hw)⟩
  · rw [e5]
    exact (nI_pred e.2).symm
  · exact (h95 75 rfl (by decide) (by decide) (by decide)).trans hA.f.1
  · exact (h95 76 rfl (by decide) (by decide) (by decide)).trans hA.f.2
  · intro i hi
    rw [hc 97 i (by decide) rfl]
    exact hA.w i hi
section
variable {d : Nat} {Q : Option Value → Mm → Prop} {A : St} {b : Nat → Nat} {n : Nat} {ml : Nat → Nat → Int64} {rd : Option Nat} {x : Int32}
set_option maxHeartbeats 2000000 in
theorem txtLp {m0 : Nat → Nat → Int32} (hn : n ≤ 700) (e1 : m0 95 1 = nI 0) (e4 : m0 95 4 = nI 0) (e5 : m0 95 5 = -1) (e75 : m0 95 75 = -1 ∧ m0 95 76 = -1) (e97 : ∀ i, i < 127 → m0 97 i = nI (nth 0 langM i)) (hk : ∀ i, tK b n i ≤ 45) (hv : ∀ j, tK b n j = 2 → nmOK (tV b n j)) : ∀ f (T : Nat → Nat → Nat) j l (mi : Nat → Nat → Int32), j ≤ n → n < f + j → TE b n mi → TP b n j mi → WG m0 mi → MX T mi → tOK T → (∀ e, pAll (tK b n) (tV b n) (psN b n) f T j l = .error e → ∀ m2, WF m0 m2 → m2 95 4 = nI e.1 → m2 95 5 = nI e.2 → Q (some (.int (-1))) (m2, ml, R0 rd, 136)) → (∀ T' l', pAll (tK b n) (tV b n) (psN b n) f T j l = .ok (T', l') → ∀ m3 ml3, MI (txN A T') m3 ml3 → Lo m0 m3 → Lo ml ml3 → Q (some (.int (nI l'))) (m3, ml3, R0 rd, 136)) → GoM (d + 5) k_Mod_text 136 Q 55 [.ref 95, .int x, .int (nI l)] [] (mi, ml, R0 rd, 136)
  | 0, T, j, l, mi, h1, h2, _, _, _, _, _, _, _ => by omega
  | f + 1, T, j, l, mi, h1, h2, hE, hP, w0, hX, hT, her, hok => by
    have hk0 := hP.2.2.k8.1
    rw [pAll] at her hok
    refine g_Mod_text (fun K Kl hK hC => ⟨fun z => ?_, fun z => ?_⟩)
    · have z : tK b n j = 0 := hk0.mp z
      rw [if_pos z] at hok
      have w2 := w0.wf2
      exact hC _ _ _ _ (t_keepText (A := A) hX hT (w2.1.trans e1) (w2.2.1.trans e4) (w2.2.2.1.trans e5) ⟨w2.2.2.2.1.trans e75.1, w2.2.2.2.2.trans e75.2⟩ (fun i hi => (w0 97 i rfl).trans (e97 i hi)) (fun m3 ml3 hA3 lo lol => ⟨rfl, hok T l rfl m3 ml3 hA3 (w0.wf.lo.trans lo) lol⟩))
    · have z : tK b n j ≠ 0 := fun q => z (hk0.mpr q)
      rw [if_neg z] at hok her
      refine hC _ _ _ _ (t_lineRead hn hE hP hX hT hv ?_)
      cases hL : pLine (tK b n) (tV b n) (psN b n) T j with
      | error e =>
        rw [hL] at her
        exact fun m2 f2 a1 a2 => ⟨fun y => absurd rfl y, fun _ => ⟨rfl, her e rfl m2 (w0.wf.trans f2) a1 a2⟩⟩
      | ok s =>
        obtain ⟨T', j'⟩ := s
        rw [hL] at her hok
        have hl := line_ok hT hk hv hL
        have hj' : j' ≤ n := by
          unfold pLine at hL
          cases hB : pBody (tK b n) (tV b n) (psN b n) T j with
          | error e => rw [hB] at hL; cases hL
          | ok r =>
            obtain ⟨T1, j1⟩ := r
            rw [hB] at hL
            have hL : (if tK b n j1 = 4 then _ else _) = _ := hL
            split at hL
            · rename_i h4
              cases hL
              have := tK_lt (show tK b n j1 ≠ 0 by omega)
              omega
            · cases hL
        refine fun m2 w2 X2 P2 => ⟨fun _ => hK _ _ _ _ ?_, fun y => absurd y (by decide)⟩
        have ih := txtLp hn e1 e4 e5 e75 e97 hk hv f T' j' (l + 1) m2 hj' (by omega) (hE.wf w2.wf) P2 (w0.trans w2) X2 hl.1 her hok
        rw [nI1 l] at ih
        exact ih
end
