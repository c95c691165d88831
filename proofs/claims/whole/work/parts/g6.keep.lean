/-! THE REFERENCE KEEPS A TEXT: all of it -/
theorem wA_lo {c k : Nat} (h1 : 98 ≤ c) (h2 : c ≤ 118) (h3 : k < thD c) : wA2 c k = false := by
  unfold wA2
  have e1 : Nat.beq c 95 = false := by
    cases hb : Nat.beq c 95 with
    | false => rfl
    | true => have := Nat.eq_of_beq_eq_true hb; omega
  have e2 : Nat.ble (thD c) k = false := by
    cases hb : Nat.ble (thD c) k with
    | false => rfl
    | true => have := Nat.le_of_ble_eq_true hb; omega
  have e3 : Nat.ble 119 c = false := by
    cases hb : Nat.ble 119 c with
    | false => rfl
    | true => have := Nat.le_of_ble_eq_true hb; omega
  rw [e1, e2, e3]
  simp
section
variable {d : Nat} {Q : Option Value → Mm → Prop} {A : St} {T : Nat → Nat → Nat} {mi : Nat → Nat → Int32} {ml : Nat → Nat → Int64} {rd : Option Nat}
set_option maxHeartbeats 4000000 in
theorem t_keepText (hX : MX T mi) (hT : tOK T) (e1 : mi 95 1 = nI 0) (e4 : mi 95 4 = nI 0) (e5 : mi 95 5 = -1) (e75 : mi 95 75 = -1 ∧ mi 95 76 = -1) (e97 : ∀ i, i < 127 → mi 97 i = nI (nth 0 langM i)) (hQ : ∀ mi' ml', MI (txN A T) mi' ml' → Lo mi mi' → Lo ml ml' → Q none (mi', ml', R0 rd, 136)) : Cd (d + 2) k_Mod_keepText [.ref 95] (mi, ml, R0 rd, 136) Q := by
  have h18 := hT.2.2.1 18 (by decide) (by decide)
  have hb5 := hT.1.own5
  have hgl9 := hT.1.gl9
  have hwd6 := hT.1.wd6
  have hhl3 := hT.1.hl3
  have hco4 := hT.1.co4
  have hsg5 := hT.1.sg5
  have hlk3 := hT.1.lk3
  have hkn64 := hT.1.kn64
  have hse := hT.1.se
  have hb : mi 95 35 = 0 ∨ mi 95 35 = 1 := by
    rw [hX.ls]
    rcases (show T 0 18 = 0 ∨ T 0 18 = 1 by omega) with e | e
    · rw [e]; exact Or.inl rfl
    · rw [e]; exact Or.inr rfl
  refine r_Mod_keepText (by decide) (fun K Kl hK hC => ⟨hb, hC _ _ _ _ (t_copies rfl (Or.inl ⟨rfl, rfl⟩) (hC _ _ _ _ (t_copies rfl (Or.inr (Or.inl ⟨rfl, rfl⟩)) (hC _ _ _ _ (t_copies rfl (Or.inr (Or.inr (Or.inl ⟨rfl, rfl⟩))) (hC _ _ _ _ (t_copies rfl (Or.inr (Or.inr (Or.inr (Or.inl ⟨rfl, rfl⟩)))) (hC _ _ _ _ (t_copies rfl (Or.inr (Or.inr (Or.inr (Or.inr (Or.inl ⟨rfl, rfl⟩))))) (hC _ _ _ _ (t_copies rfl (Or.inr (Or.inr (Or.inr (Or.inr (Or.inr (Or.inl ⟨rfl, rfl⟩)))))) (hC _ _ _ _ (t_copies rfl (Or.inr (Or.inr (Or.inr (Or.inr (Or.inr (Or.inr (Or.inl ⟨rfl, rfl⟩))))))) (hC _ _ _ _ (t_copies rfl (Or.inr (Or.inr (Or.inr (Or.inr (Or.inr (Or.inr (Or.inr (Or.inl ⟨rfl, rfl⟩)))))))) (hC _ _ _ _ (t_copies rfl (Or.inr (Or.inr (Or.inr (Or.inr (Or.inr (Or.inr (Or.inr (Or.inr (Or.inl ⟨rfl, rfl⟩))))))))) (hC _ _ _ _ (t_copies rfl (Or.inr (Or.inr (Or.inr (Or.inr (Or.inr (Or.inr (Or.inr (Or.inr (Or.inr (Or.inl ⟨rfl, rfl⟩)))))))))) (hC _ _ _ _ (t_copies rfl (Or.inr (Or.inr (Or.inr (Or.inr (Or.inr (Or.inr (Or.inr (Or.inr (Or.inr (Or.inr (Or.inl ⟨rfl, rfl⟩))))))))))) (hC _ _ _ _ (t_copies rfl (Or.inr (Or.inr (Or.inr (Or.inr (Or.inr (Or.inr (Or.inr (Or.inr (Or.inr (Or.inr (Or.inr (Or.inl ⟨rfl, rfl⟩)))))))))))) (hC _ _ _ _ (t_copies rfl (Or.inr (Or.inr (Or.inr (Or.inr (Or.inr (Or.inr (Or.inr (Or.inr (Or.inr (Or.inr (Or.inr (Or.inr (Or.inl ⟨rfl, rfl⟩))))))))))))) (hC _ _ _ _ (t_copies rfl (Or.inr (Or.inr (Or.inr (Or.inr (Or.inr (Or.inr (Or.inr (Or.inr (Or.inr (Or.inr (Or.inr (Or.inr (Or.inr (Or.inl ⟨rfl, rfl⟩)))))))))))))) (hC _ _ _ _ (t_copies rfl (Or.inr (Or.inr (Or.inr (Or.inr (Or.inr (Or.inr (Or.inr (Or.inr (Or.inr (Or.inr (Or.inr (Or.inr (Or.inr (Or.inr (Or.inl ⟨rfl, rfl⟩))))))))))))))) (hC _ _ _ _ (t_copies rfl (Or.inr (Or.inr (Or.inr (Or.inr (Or.inr (Or.inr (Or.inr (Or.inr (Or.inr (Or.inr (Or.inr (Or.inr (Or.inr (Or.inr (Or.inr (Or.inl ⟨rfl, rfl⟩)))))))))))))))) (hC _ _ _ _ (t_copies rfl (Or.inr (Or.inr (Or.inr (Or.inr (Or.inr (Or.inr (Or.inr (Or.inr (Or.inr (Or.inr (Or.inr (Or.inr (Or.inr (Or.inr (Or.inr (Or.inr (Or.inl ⟨rfl, rfl⟩))))))))))))))))) (hC _ _ _ _ (t_copies rfl (Or.inr (Or.inr (Or.inr (Or.inr (Or.inr (Or.inr (Or.inr (Or.inr (Or.inr (Or.inr (Or.inr (Or.inr (Or.inr (Or.inr (Or.inr (Or.inr (Or.inr (Or.inl ⟨rfl, rfl⟩)))))))))))))))))) (hC _ _ _ _ (t_copies rfl (Or.inr (Or.inr (Or.inr (Or.inr (Or.inr (Or.inr (Or.inr (Or.inr (Or.inr (Or.inr (Or.inr (Or.inr (Or.inr (Or.inr (Or.inr (Or.inr (Or.inr (Or.inr (Or.inl ⟨rfl, rfl⟩))))))))))))))))))) (hC _ _ _ _ (t_copies rfl (Or.inr (Or.inr (Or.inr (Or.inr (Or.inr (Or.inr (Or.inr (Or.inr (Or.inr (Or.inr (Or.inr (Or.inr (Or.inr (Or.inr (Or.inr (Or.inr (Or.inr (Or.inr (Or.inr (⟨rfl, rfl⟩)))))))))))))))))))) (hC _ _ _ _ (t_begin (fun m4 hB => ⟨rfl, ?_⟩))))))))))))))))))))))))))))))))))))))))))⟩)
  have hs : (mi 98 (3 + 1)).toInt64 = lN (T 0 11) := by rw [hX.se, nI_l (by omega)]
  refine hQ _ _ ⟨?_, ?_, ?_, ?_, ?_, ?_, ?_, ?_, ?_, ?_⟩ ?_ ?_
  · show MT T m4
    refine ⟨(hB.2.1 12 rfl).trans hX.w,
      (hB.2.1 13 rfl).trans hX.h,
      (hB.2.1 14 rfl).trans hX.no,
      (hB.2.1 15 rfl).trans hX.ng,
      (hB.2.1 16 rfl).trans hX.nw,
      (hB.2.1 17 rfl).trans hX.nh,
      (hB.2.1 18 rfl).trans hX.nc,
      (hB.2.1 19 rfl).trans hX.nsg,
      (hB.2.1 20 rfl).trans hX.nl,
      (hB.2.1 21 rfl).trans hX.nk,
      (hB.2.1 22 rfl).trans (by
      show mi 95 35 = if T 0 9 = 0 then 0 else 1
      rw [hX.ls]
      by_cases e : T 0 9 = 0
      · rw [if_pos e, hT.2.2.2.1.mpr e]; rfl
      · rw [if_neg e]
        have := h18
        have : T 0 18 ≠ 0 := fun q => e (hT.2.2.2.1.mp q)
        rw [show T 0 18 = 1 by omega]; rfl),
      (by rw [hB.1 98 (by decide) (by decide)]; exact hX.pu),
      (by rw [hB.1 98 (by decide) (by decide)]; exact hX.se),
      (by rw [hB.1 98 (by decide) (by decide)]; exact hX.ra),
      fun i hi => (by rw [hB.1 100 (by decide) (by decide)]; show (if i < 5 then mi 100 (5 + i) else _) = _; rw [if_pos (by omega)]; exact hX.on i hi),
      fun i hi => (by rw [hB.1 101 (by decide) (by decide)]; show (if i < 5 then mi 101 (5 + i) else _) = _; rw [if_pos (by omega)]; exact hX.pr i hi),
      fun i hi => (by rw [hB.1 102 (by decide) (by decide)]; show (if i < 5 then mi 102 (5 + i) else _) = _; rw [if_pos (by omega)]; exact hX.cud i hi),
      fun i hi => (by rw [hB.1 103 (by decide) (by decide)]; show (if i < 48 then mi 103 (48 + i) else _) = _; rw [if_pos (by omega)]; exact hX.ow i hi),
      fun i hi => (by rw [hB.1 104 (by decide) (by decide)]; show (if i < 9 then mi 104 (9 + i) else _) = _; rw [if_pos (by omega)]; exact hX.gl i hi),
      fun i hi => (by rw [hB.1 105 (by decide) (by decide)]; show (if i < 9 then mi 105 (9 + i) else _) = _; rw [if_pos (by omega)]; exact hX.gs i hi),
      fun i hi => (by rw [hB.1 106 (by decide) (by decide)]; show (if i < 6 then mi 106 (6 + i) else _) = _; rw [if_pos (by omega)]; exact hX.wn i hi),
      fun i hi => (by rw [hB.1 107 (by decide) (by decide)]; show (if i < 6 then mi 107 (6 + i) else _) = _; rw [if_pos (by omega)]; exact hX.ww i hi),
      fun i hi => (by rw [hB.1 108 (by decide) (by decide)]; show (if i < 3 then mi 108 (3 + i) else _) = _; rw [if_pos (by omega)]; exact hX.hn i hi),
      fun i hi => (by rw [hB.1 109 (by decide) (by decide)]; show (if i < 3 then mi 109 (3 + i) else _) = _; rw [if_pos (by omega)]; exact hX.sg i hi),
      fun i hi => (by rw [hB.1 110 (by decide) (by decide)]; show (if i < 4 then mi 110 (4 + i) else _) = _; rw [if_pos (by omega)]; exact hX.cn i hi),
      fun i hi => (by rw [hB.1 111 (by decide) (by decide)]; show (if i < 4 then mi 111 (4 + i) else _) = _; rw [if_pos (by omega)]; exact hX.cm i hi),
      fun i hi => (by rw [hB.1 112 (by decide) (by decide)]; show (if i < 5 then mi 112 (5 + i) else _) = _; rw [if_pos (by omega)]; exact hX.sn i hi),
      fun i hi => (by rw [hB.1 113 (by decide) (by decide)]; show (if i < 5 then mi 113 (5 + i) else _) = _; rw [if_pos (by omega)]; exact hX.sl i hi),
      fun i hi k hk => (by rw [hB.1 114 (by decide) (by decide)]; show (if (4 * i + k) < 20 then mi 114 (20 + (4 * i + k)) else _) = _; rw [if_pos (by have := hT.1.sl i hi; omega)]; exact hX.sr i hi k hk),
      fun i hi => (by rw [hB.1 115 (by decide) (by decide)]; show (if i < 9 then mi 115 (9 + i) else _) = _; rw [if_pos (by omega)]; exact hX.lk i hi),
      fun i hi => (by rw [hB.1 116 (by decide) (by decide)]; show (if i < 64 then mi 116 (64 + i) else _) = _; rw [if_pos (by omega)]; exact hX.kk i hi),
      fun i hi h1 => (by rw [hB.1 117 (by decide) (by decide)]; show (if i < 64 then mi 117 (64 + i) else _) = _; rw [if_pos (by omega)]; exact hX.kn i hi h1)⟩
  · intro i hi
    have h := hX.kp i hi
    have hi : i < T 0 9 := hi
    have e117 : m4 117 i = mi 117 (64 + i) := by rw [hB.1 117 (by decide) (by decide)]; show (if i < 64 then mi 117 (64 + i) else _) = _; rw [if_pos (by omega)]
    have e118 : m4 118 i = mi 118 (64 + i) := by rw [hB.1 118 (by decide) (by decide)]; show (if i < 64 then mi 118 (64 + i) else _) = _; rw [if_pos (by omega)]
    rw [e117, e118]
    exact h
  · exact ⟨hB.2.2.2.2.2.2.2.2.1, hB.2.2.2.2.2.2.2.2.2.1, hB.2.2.1.trans hX.pu, hs, hB.2.2.2.1, fun h hh w hw => (hB.2.2.2.2.2.2.2.2.2.2 _ (by omega)).trans (show (-1 : Int32) = nI 0 - 1 by decide)⟩
  · exact ⟨hB.2.2.2.2.1, hB.2.2.2.2.2.1.trans (show (-1 : Int32) = nI 0 - 1 by decide), lt_0⟩
  · exact ⟨hB.2.2.2.2.2.2.1, lt_0⟩
  · exact ⟨hB.2.2.2.2.2.2.2.1, fun q => absurd rfl q⟩
  · exact ⟨(hB.2.1 1 rfl).trans e1, lt_0⟩
  · exact ⟨(hB.2.1 4 rfl).trans e4, (hB.2.1 5 rfl).trans (e5.trans (show (-1 : Int32) = nI 0 - 1 by decide))⟩
  · exact ⟨(hB.2.1 75 rfl).trans e75.1, (hB.2.1 76 rfl).trans e75.2⟩
  · intro i hi
    rw [hB.1 97 (by decide) (by decide)]
    exact e97 i hi
  · intro c hc
    rw [hB.1 c (by omega) (by omega)]
    unfold cpM
    iterate 31 rw [cu_ne (by omega)]
  · intro c hc
    rw [cu_ne (by omega)]
end
