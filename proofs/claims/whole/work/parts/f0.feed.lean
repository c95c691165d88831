/-! WHAT THE REFERENCE ANSWERS: feed -/
theorem bytS (x : Int32) {sh : Nat} (hsh : sh = 24 ∨ sh = 16 ∨ sh = 8 ∨ sh = 0) {s : Int32} (hs : (s.toBitVec.smod 32).toNat = sh) : (x >>> s) &&& nI 255 = nI (x.toBitVec.toNat / 2 ^ sh % 256) := by
  have h1 := pk_shr x s sh hs
  rw [pk_and (x >>> s) (m := nI 255) 8 (by decide +kernel)]
  congr 1
  have e1 : (x >>> s).toInt = if 2 * (x >>> s).toBitVec.toNat < 2 ^ 32 then ((x >>> s).toBitVec.toNat : Int) else ((x >>> s).toBitVec.toNat : Int) - (2 ^ 32 : Nat) := BitVec.toInt_eq_toNat_cond _
  have e2 : x.toInt = if 2 * x.toBitVec.toNat < 2 ^ 32 then (x.toBitVec.toNat : Int) else (x.toBitVec.toNat : Int) - (2 ^ 32 : Nat) := BitVec.toInt_eq_toNat_cond _
  have l1 := (x >>> s).toBitVec.isLt
  have l2 := x.toBitVec.isLt
  generalize (x >>> s).toBitVec.toNat = a at *
  generalize x.toBitVec.toNat = b at *
  rw [Int.shiftRight_eq_div_pow] at h1
  rw [e1, e2] at h1
  rcases hsh with rfl | rfl | rfl | rfl
  · split at h1 <;> split at h1 <;> omega
  · split at h1 <;> split at h1 <;> omega
  · split at h1 <;> split at h1 <;> omega
  · split at h1 <;> split at h1 <;> omega
theorem bytM (x : Int32) : ∀ k, k < 4 → (x >>> ((nI 24 - nI 8 * nI k) &&& 31)) &&& nI 255 = nI (bytN x k) := fun k hk => by
  have h : ∀ k, k < 4 → (((nI 24 - nI 8 * nI k) &&& 31).toBitVec.smod 32).toNat = 24 - 8 * k := by decide +kernel
  exact bytS x (by omega) (h k hk)
section
variable {d : Nat} {Q : Option Value → Mm → Prop} {A : St} {T S N : Nat → Nat → Nat} {mi : Nat → Nat → Int32} {ml : Nat → Nat → Int64} {rd : Option Nat} {x y z : Int32}
/-- bytes, fault and what else the reading changes -/
theorem MI.tp {A' : St} {m2 : Nat → Nat → Int32} (hA : MI A mi ml) (hc : ∀ c, 96 < c → c < 135 → m2 c = mi c) (h95 : ∀ k, k ≠ 1 → k ≠ 4 → k ≠ 5 → scF k = false → m2 95 k = mi 95 k) (e0 : A' 0 = A 0) (e1 : A' 1 = A 1) (e2 : A' 2 = A 2) (e3 : A' 3 = A 3) (e5 : A' 5 = A 5) (e40 : A' 4 0 0 = A 4 0 0) (e41 : A' 4 0 1 = A 4 0 1) (hb : m2 95 1 = nI (A' 4 0 2) ∧ ∀ i, i < A' 4 0 2 → m2 96 i = nI (A' 4 1 i)) (hq : m2 95 4 = nI (A' 4 0 3) ∧ m2 95 5 = nI (A' 4 0 4) - 1) : MI A' m2 ml := by
  refine ⟨?_, ?_, ?_, ?_, ?_, ⟨?_, fun z => ?_⟩, hb, hq, ⟨?_, ?_⟩, ?_⟩
  · rw [e0]
    exact hA.T.h (fun k h1 h2 => h95 k (by omega) (by omega) (by omega) (by
      have : ∀ k, k < 23 → 12 ≤ k → scF k = false := by decide
      exact this k (by omega) h1)) (fun c h1 h2 => hc c (by omega) (by omega))
  · rw [e0]
    exact hA.K.h (fun c h1 h2 => hc c (by omega) (by omega))
  · rw [e1]
    have := hA.S
    unfold MS at this ⊢
    rw [hc 123 (by decide) (by decide), hc 124 (by decide) (by decide), hc 125 (by decide) (by decide), h95 70 (by decide) (by decide) (by decide) rfl, h95 71 (by decide) (by decide) (by decide) rfl]
    exact this
  · rw [e2]
    have := hA.N
    unfold MN at this ⊢
    rw [h95 88 (by decide) (by decide) (by decide) rfl, h95 89 (by decide) (by decide) (by decide) rfl, hc 130 (by decide) (by decide)]
    exact this
  · rw [e3, e40]
    have := hA.P
    unfold MPa at this ⊢
    rw [hc 132 (by decide) (by decide), h95 94 (by decide) (by decide) (by decide) rfl]
    exact this
  · rw [e41, h95 96 (by decide) (by decide) (by decide) rfl]; exact hA.I.1
  · rw [e41] at z
    rw [e5]
    exact (hA.I.2 z).h (hc 133 (by decide) (by decide)) (hc 134 (by decide) (by decide)) (h95 98 (by decide) (by decide) (by decide) rfl) rfl
  · rw [h95 75 (by decide) (by decide) (by decide) rfl]; exact hA.f.1
  · rw [h95 76 (by decide) (by decide) (by decide) rfl]; exact hA.f.2
  · rw [hc 97 (by decide) (by decide)]; exact hA.w
set_option maxHeartbeats 1000000 in
theorem q_feed {a b c e f : Int32} (hA : MI A mi ml) (hw : wfA A) (hQ : ∀ mi', MI (aFeed A a b c e f).2 mi' ml → Lo mi mi' → Q (some (.int (aFeed A a b c e f).1)) (mi', ml, R0 rd, 136)) : Cd (d + 1) k_Mod_feed [.ref 95, .int a, .int b, .int c, .int e, .int f] (mi, ml, R0 rd, 136) Q := by
  have hA1 := hA.mf thr0 ML.none
  have lo1 : Lo mi (cu mi 95 (upd (mi 95) 2 (nI 0))) := Lo.none.cu (by decide)
  have h700 := hw.f
  have e1 : mi 95 1 = nI (A 4 0 2) := hA.b.1
  unfold aFeed at hQ
  have lp : A 4 0 2 + 20 ≤ 700 → ∀ k, k ≤ 20 → ∀ g : Nat → Int32, (∀ i, i < A 4 0 2 → g i = nI (A 4 1 i)) → (∀ j, j < k → g (A 4 0 2 + j) = nI (fdB a b c e f j)) → ∀ v7, GoM d k_Mod_feed 136 Q 23 [.ref 95, .int a, .int b, .int c, .int e, .int f, .int (nI k), v7] [] (cu (cu mi 95 (upd (mi 95) 2 (nI 0))) 96 g, ml, R0 rd, 136) := by
    intro h7
    rw [if_neg (by omega)] at hQ
    refine upto ?_ ?_
    · intro g hg hg2 v7
      have hq := hQ (cu (cu (cu mi 95 (upd (mi 95) 2 (nI 0))) 96 g) 95 (upd (upd (mi 95) 2 (nI 0)) 1 (mi 95 1 + nI 20))) (hA.tp (A' := fdA A a b c e f) (fun c h1 h2 => by rw [cu_ne (by omega), cu_ne (by omega), cu_ne (by omega)]) (fun k h1 h2 h3 h4 => by
        show upd (upd (mi 95) 2 (nI 0)) 1 _ k = _
        rw [pk_un h1, pk_un (k2 h4)]) rfl rfl rfl rfl rfl rfl rfl ⟨?_, fun i hi => ?_⟩ hA.q) ((lo1.cu (by decide)).cu (by decide))
      · have er : nI (A 4 0 2 + 20) = mi 95 1 + nI 20 := by rw [e1, nI_add]
        have hq : Q (some (.int (nI (A 4 0 2 + 20)))) _ := hq
        rw [er] at hq
        exact g_Mod_feed (fun K Kl hK hC => ⟨fun _ => ⟨rfl, hq⟩, fun z => absurd (iNLE z) (by omega)⟩)
      · show mi 95 1 + nI 20 = nI (A 4 0 2 + 20)
        rw [e1, nI_add]
      · have hi : i < A 4 0 2 + 20 := hi
        show g i = nI (if A 4 0 2 ≤ i ∧ i < A 4 0 2 + 20 then fdB a b c e f (i - A 4 0 2) else A 4 1 i)
        by_cases h0 : i < A 4 0 2
        · rw [if_neg (by omega)]; exact hg i h0
        · rw [if_pos (by omega)]
          have := hg2 (i - A 4 0 2) (by omega)
          rw [show A 4 0 2 + (i - A 4 0 2) = i by omega] at this
          exact this
    · intro k hk ih g hg hg2 v7
      have er : nI k - nI k / nI 4 * nI 4 = nI (k % 4) := pk_rem (by omega) (by omega) (by omega)
      have ix : mi 95 1 + nI k = nI (A 4 0 2 + k) := by rw [e1, nI_add]
      have bt : ∀ w : Int32, w = (if k < 4 then a else if k < 8 then b else if k < 12 then c else if k < 16 then e else f) → (w >>> ((nI 24 - nI 8 * (nI k - nI k / nI 4 * nI 4)) &&& 31)) &&& nI 255 = nI (fdB a b c e f k) := fun w hw2 => by
        rw [er, bytM w _ (Nat.mod_lt _ (by decide)), hw2]
        rfl
      rw [nI1 k] at ih
      have go : ∀ w : Int32, w = (if k < 4 then a else if k < 8 then b else if k < 12 then c else if k < 16 then e else f) → GoM d k_Mod_feed 136 Q 23 [.ref 95, .int a, .int b, .int c, .int e, .int f, .int (nI k + nI 1), .int w] [] (cu (cu (cu mi 95 (upd (mi 95) 2 (nI 0))) 96 g) 96 (upd (cu (cu mi 95 (upd (mi 95) 2 (nI 0))) 96 g 96) (A 4 0 2 + k) ((w >>> ((nI 24 - nI 8 * (nI k - nI k / nI 4 * nI 4)) &&& 31)) &&& nI 255)), ml, R0 rd, 136) := fun w hw2 => by
        have := ih (upd g (A 4 0 2 + k) ((w >>> ((nI 24 - nI 8 * (nI k - nI k / nI 4 * nI 4)) &&& 31)) &&& nI 255)) (fun i hi => by rw [pk_un (by omega)]; exact hg i hi) (fun j hj => by
          by_cases ej : j = k
          · rw [ej, pk_us]; exact bt w hw2
          · rw [pk_un (by omega)]; exact hg2 j (by omega)) (.int w)
        rw [← cuu] at this
        exact this
      refine g_Mod_feed (fun K Kl hK hC => ⟨fun z => absurd (iLE z) (by omega), fun _ => ⟨fun z1 => ⟨fun z2 => ⟨fun z3 => ⟨fun z4 => ⟨by decide, A 4 0 2 + k, by omega, ix, hK _ _ _ _ (go f ?_)⟩, fun z4 => ⟨by decide, A 4 0 2 + k, by omega, ix, hK _ _ _ _ (go e ?_)⟩⟩, fun z3 => ⟨by decide, A 4 0 2 + k, by omega, ix, hK _ _ _ _ (go c ?_)⟩⟩, fun z2 => ⟨by decide, A 4 0 2 + k, by omega, ix, hK _ _ _ _ (go b ?_)⟩⟩, fun z1 => ⟨by decide, A 4 0 2 + k, by omega, ix, hK _ _ _ _ (go a ?_)⟩⟩⟩)
      · have z4 := iLE z4
        rw [if_neg (by omega), if_neg (by omega), if_neg (by omega), if_neg (by omega)]
      · have z3 := iLE z3
        have z4 := iNLE z4
        rw [if_neg (by omega), if_neg (by omega), if_neg (by omega), if_pos (by omega)]
      · have z2 := iLE z2
        have z3 := iNLE z3
        rw [if_neg (by omega), if_neg (by omega), if_pos (by omega)]
      · have z1 := iLE z1
        have z2 := iNLE z2
        rw [if_neg (by omega), if_pos (by omega)]
      · have z1 := iNLE z1
        rw [if_pos (by omega)]
  refine r_Mod_feed (by decide) (fun K Kl hK hC => ⟨fun z => ?_, fun z => ⟨rfl, ?_⟩⟩)
  · have z : mi 95 1 + nI 20 ≤ nI 700 := z
    rw [e1, nI_add] at z
    have z := iLE z
    have l0 := lp z 0 (Nat.zero_le _) (cu mi 95 (upd (mi 95) 2 (nI 0)) 96) (fun i hi => hA.b.2 i hi) lt_0 .null
    rw [cu_id] at l0
    exact hK _ _ _ _ l0
  · have z : ¬ mi 95 1 + nI 20 ≤ nI 700 := z
    rw [e1, nI_add] at z
    rw [if_pos (iNLE z)] at hQ
    exact hQ _ hA1 lo1
end
