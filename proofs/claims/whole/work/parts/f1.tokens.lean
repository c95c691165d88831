/-! THE REFERENCE'S TOKENS: letters, digits, words of the language -/
def stR (w : Nat) : Nat := nth 127 [0, 6, 12, 18, 24, 29, 34, 39, 44, 49, 55, 60, 65, 69, 73, 77, 82, 86, 90, 93, 97, 104, 110, 114, 118, 122] w
def lnM (w : Nat) : Nat := nth 0 [5, 5, 5, 5, 4, 4, 4, 4, 4, 5, 4, 4, 3, 3, 3, 4, 3, 3, 2, 3, 6, 5, 3, 3, 3, 4] w
/-- the reference's number of a word of the language, by the class's kind -/
def kK (k : Nat) : Nat := if k ≤ 32 then k - 20 else if k = 33 then 16 else if k ≤ 36 then k - 21 else if k = 37 then 18 else if k = 38 then 17 else k - 20
theorem lnM_le : ∀ w, w < 26 → lnM w ≤ 6 ∧ 1 ≤ lnM w ∧ stR w + lnM w < 127 := by decide
theorem lang_in : ∀ w, w < 26 → ∀ i, i < lnM w → 97 ≤ nth 0 langM (stR w + i) ∧ nth 0 langM (stR w + i) ≤ 122 := by decide +kernel
theorem lang_sp : ∀ w, w < 26 → nth 0 langM (stR w + lnM w) = 32 ∧ stR (w + 1) = stR w + lnM w + 1 := by decide +kernel
theorem kK_lt : ∀ w, w < 26 → kK (20 + w) < 26 := by decide
theorem lang_kw : ∀ w, w < 26 → ∀ k, k < 6 → lcl (w * 6 + k) = if k < lnM (kK (20 + w)) then nth 0 langM (stR (kK (20 + w)) + k) - 96 else 0 := by decide +kernel
theorem kK_sur : ∀ r, r < 26 → ∃ w, w < 26 ∧ kK (20 + w) = r := by
  have : ∀ r, r < 26 → kK (20 + (if r < 13 then r else if r = 13 then 14 else if r = 14 then 15 else if r = 15 then 16 else if r = 16 then 13 else if r = 17 then 18 else if r = 18 then 17 else r)) = r ∧ (if r < 13 then r else if r = 13 then 14 else if r = 14 then 15 else if r = 15 then 16 else if r = 16 then 13 else if r = 17 then 18 else if r = 18 then 17 else r) < 26 := by decide
  intro r hr
  exact ⟨_, (this r hr).2, (this r hr).1⟩
theorem lang_one : ∀ w, w < 26 → ∀ w2, w2 < 26 → (∀ k, k < 6 → lcl (w * 6 + k) = lcl (w2 * 6 + k)) → w = w2 := by decide +kernel
/-- a word of the language stands there -/
def mtR (b : Nat → Nat) (a L r : Nat) : Bool := (lnM r == L) && allN (fun i => nth 0 langM (stR r + i) == b (a + i)) (lnM r)
/-- letters in a row -/
def ltC (b : Nat → Nat) (a L i : Nat) : Nat := if i < L then b (a + i) - 96 else 0
def wsm (c : Nat → Nat) (l : Nat) : Nat := sumN (fun i => c i * 32 ^ (5 - i)) l
def pkF (c : Nat → Nat) : Nat → Nat
  | 0 => 0
  | t + 1 => pkF c t * 32 + c t
theorem pk_wsm (c : Nat → Nat) : pkF c 6 = wsm c 6 := by
  simp only [pkF, wsm, sumN]
  omega
theorem pkF_lt {c : Nat → Nat} (h : ∀ i, c i < 32) : ∀ t, pkF c t < 32 ^ t
  | 0 => (show 0 < 1 by decide)
  | t + 1 => by
    have := pkF_lt h t
    have := h t
    rw [pkF, Nat.pow_succ]
    omega
theorem wsm_let {c : Nat → Nat} (h : ∀ i, c i < 32) : ∀ k, k < 6 → letN (wsm c 6) k = c k := by
  have h0 := h 0; have h1 := h 1; have h2 := h 2; have h3 := h 3; have h4 := h 4; have h5 := h 5
  intro k hk
  have e : wsm c 6 = c 0 * 33554432 + c 1 * 1048576 + c 2 * 32768 + c 3 * 1024 + c 4 * 32 + c 5 := by
    simp only [wsm, sumN]
    omega
  unfold letN
  rw [e]
  have : k = 0 ∨ k = 1 ∨ k = 2 ∨ k = 3 ∨ k = 4 ∨ k = 5 := by omega
  rcases this with rfl | rfl | rfl | rfl | rfl | rfl <;> omega
section
variable {b : Nat → Nat} {n : Nat}
theorem run_in {p : Nat → Bool} {i : Nat} (hi : i ≤ n) : ∀ j, i ≤ j → j < runE p b n i → j < n ∧ p (b j) = true := by
  have key : ∀ m i, i + m = n → ∀ j, i ≤ j → j < runE p b n i → j < n ∧ p (b j) = true := by
    intro m
    induction m with
    | zero =>
      intro i hm j h1 h2
      rw [runE_0 (by omega)] at h2
      omega
    | succ m ih =>
      intro i hm j h1 h2
      by_cases hp : i < n ∧ p (b i) = true
      · by_cases e : j = i
        · subst e; exact hp
        · rw [runE_s hp.1 hp.2] at h2
          exact ih (i + 1) (by omega) j (by omega) h2
      · rw [runE_0 hp] at h2
        omega
  exact key (n - i) i (by omega)
theorem wd_wsm {a : Nat} (ha : a ≤ n) (hL : runE isLt b n a - a ≤ 6) : wdV b n a 0 0 = wsm (ltC b a (runE isLt b n a - a)) 6 := by
  have hr := runE_le (p := isLt) (b := b) ha
  have key : ∀ l, l ≤ runE isLt b n a - a → wdV b n (a + l) l (wsm (ltC b a (runE isLt b n a - a)) l) = wsm (ltC b a (runE isLt b n a - a)) 6 := by
    refine upto ?_ ?_
    · have hstop : ¬ (a + (runE isLt b n a - a) < n ∧ isLt (b (a + (runE isLt b n a - a))) = true) := fun z => by
        rw [show a + (runE isLt b n a - a) = runE isLt b n a by omega] at z
        have := runE_ne a ha z.1
        rw [this] at z
        cases z.2
      rw [wdV_0 hstop]
      have ext : ∀ t, runE isLt b n a - a ≤ t → wsm (ltC b a (runE isLt b n a - a)) t = wsm (ltC b a (runE isLt b n a - a)) (runE isLt b n a - a) := fun t => by
        induction t with
        | zero => intro h; rw [show runE isLt b n a - a = 0 by omega]
        | succ t ih =>
          intro h
          by_cases e : runE isLt b n a - a = t + 1
          · rw [e]
          · have := ih (by omega)
            unfold wsm at this ⊢
            rw [sumN, this]
            have : ltC b a (runE isLt b n a - a) t = 0 := by unfold ltC; rw [if_neg (by omega)]
            rw [this]
            omega
      exact (ext 6 hL).symm
    · intro l hl ih
      have hin := run_in (b := b) (p := isLt) ha (a + l) (by omega) (by omega)
      rw [wdV_s hin.1 hin.2, if_pos (by omega)]
      have e : wsm (ltC b a (runE isLt b n a - a)) l + (b (a + l) - 96) * 32 ^ (5 - l) = wsm (ltC b a (runE isLt b n a - a)) (l + 1) := by
        show _ = wsm (ltC b a (runE isLt b n a - a)) l + ltC b a (runE isLt b n a - a) l * 32 ^ (5 - l)
        unfold ltC
        rw [if_pos hl]
      rw [e]
      exact ih
  exact key 0 (Nat.zero_le _)
theorem ltC_lt {a : Nat} (ha : a ≤ n) : ∀ i, ltC b a (runE isLt b n a - a) i < 32 := fun i => by
  unfold ltC
  split
  · have hin := run_in (b := b) (p := isLt) ha (a + i) (by omega) (by omega)
    have := lt_bd hin.2
    omega
  · decide
/-- class and reference know the same words -/
theorem kw_ref {a : Nat} (ha : a ≤ n) (hL : runE isLt b n a - a ≤ 6) (hL1 : 1 ≤ runE isLt b n a - a) : (kwK (wdV b n a 0 0) = 2 ∧ fnd (mtR b a (runE isLt b n a - a)) 26 = 26) ∨ ∃ w, w < 26 ∧ kwK (wdV b n a 0 0) = 20 + w ∧ fnd (mtR b a (runE isLt b n a - a)) 26 = kK (20 + w) := by
  have hlt := ltC_lt (b := b) ha
  rw [wd_wsm ha hL]
  generalize hLd : runE isLt b n a - a = L at *
  have hin : ∀ i, i < L → 97 ≤ b (a + i) ∧ b (a + i) ≤ 122 := fun i hi => lt_bd (run_in (b := b) (p := isLt) ha (a + i) (by omega) (by omega)).2
  have hlet := wsm_let hlt
  have eqv : ∀ w, w < 26 → (isKw (wsm (ltC b a L) 6) w = true ↔ mtR b a L (kK (20 + w)) = true) := fun w hw => by
    have hk := lang_kw w hw
    have hr := kK_lt w hw
    have hll := lnM_le _ hr
    have hli := lang_in _ hr
    unfold isKw mtR
    rw [allN_iff, Bool.and_eq_true, allN_iff, beq_iff_eq]
    constructor
    · intro h
      have h2 : ∀ k, k < 6 → ltC b a L k = if k < lnM (kK (20 + w)) then nth 0 langM (stR (kK (20 + w)) + k) - 96 else 0 := fun k hk2 => by
        have := beq_iff_eq.mp (h k hk2)
        rw [hlet k hk2, hk k hk2] at this
        exact this
      have eL : lnM (kK (20 + w)) = L := by
        rcases Nat.lt_trichotomy (lnM (kK (20 + w))) L with q | q | q
        · have := h2 (lnM (kK (20 + w))) (by omega)
          rw [if_neg (by omega)] at this
          unfold ltC at this
          rw [if_pos q] at this
          have := hin _ q
          omega
        · exact q
        · have := h2 L (by omega)
          rw [if_pos q] at this
          unfold ltC at this
          rw [if_neg (by omega)] at this
          have := hli L q
          omega
      refine ⟨eL, fun i hi => beq_iff_eq.mpr ?_⟩
      have := h2 i (by omega)
      rw [if_pos hi] at this
      unfold ltC at this
      rw [if_pos (by omega)] at this
      have := hin i (by omega)
      have := hli i hi
      omega
    · intro ⟨eL, h⟩ k hk2
      rw [beq_iff_eq, hlet k hk2, hk k hk2]
      unfold ltC
      rw [← eL]
      by_cases hkl : k < lnM (kK (20 + w))
      · have := beq_iff_eq.mp (h k hkl)
        rw [if_pos hkl, if_pos hkl, this]
      · rw [if_neg hkl, if_neg hkl]
  by_cases hf : fnd (isKw (wsm (ltC b a L) 6)) 26 < 26
  · refine Or.inr ⟨_, hf, ?_, ?_⟩
    · unfold kwK
      rw [if_pos hf]
    · have hm := fnd_hit hf
      refine fnd_at (kK_lt _ hf) ((eqv _ hf).mp hm) (fun r hr => ?_)
      cases hb : mtR b a L r with
      | false => rfl
      | true =>
        obtain ⟨w2, hw2, e2⟩ := kK_sur r (by have := kK_lt _ hf; omega)
        rw [← e2] at hb
        have h2 := (eqv w2 hw2).mpr hb
        have row : ∀ w, isKw (wsm (ltC b a L) 6) w = true → ∀ k, k < 6 → letN (wsm (ltC b a L) 6) k = lcl (w * 6 + k) := fun w h k hk => by
          unfold isKw at h
          rw [allN_iff] at h
          exact beq_iff_eq.mp (h k hk)
        have : fnd (isKw (wsm (ltC b a L) 6)) 26 = w2 := lang_one _ hf _ hw2 (fun k hk => by
          rw [← row _ hm k hk, ← row _ h2 k hk])
        rw [this, e2] at hr
        omega
  · refine Or.inl ⟨?_, fnd_none (fun r hr => ?_)⟩
    · unfold kwK
      rw [if_neg hf]
    · cases hb : mtR b a L r with
      | false => rfl
      | true =>
        obtain ⟨w2, hw2, e2⟩ := kK_sur r hr
        rw [← e2] at hb
        have h2 := (eqv w2 hw2).mpr hb
        have h26 : fnd (isKw (wsm (ltC b a L) 6)) 26 = 26 := by have := fnd_le (isKw (wsm (ltC b a L) 6)) 26; omega
        have := fnd_min (p := isKw (wsm (ltC b a L) 6)) (n := 26) (i := w2) (by omega)
        rw [h2] at this
        cases this
theorem mt_long {a L : Nat} (h : 6 < L) : fnd (mtR b a L) 26 = 26 := fnd_none (fun r hr => by
  unfold mtR
  rw [show (lnM r == L) = false from beq_eq_false_iff_ne.mpr (by have := lnM_le r hr; omega)]
  rfl)
end
/-- the reference's text -/
def TE (b : Nat → Nat) (n : Nat) (mi : Nat → Nat → Int32) : Prop := mi 95 6 = nI n ∧ n ≤ 700 ∧ (∀ i, i < n → mi 96 i = nI (b i) ∧ b i < 256) ∧ (∀ i, i < 127 → mi 97 i = nI (nth 0 langM i))
theorem TE.mv {b : Nat → Nat} {n : Nat} {mi mi' : Nat → Nat → Int32} (h : TE b n mi) (h6 : mi' 95 6 = mi 95 6) (h96 : mi' 96 = mi 96) (h97 : mi' 97 = mi 97) : TE b n mi' := by
  unfold TE at h ⊢
  rw [h6, h96, h97]
  exact h
section
variable {d : Nat} {Q : Option Value → Mm → Prop} {b : Nat → Nat} {n : Nat} {mi : Nat → Nat → Int32} {ml : Nat → Nat → Int64} {rd : Option Nat}
theorem t_isSmall (hE : TE b n mi) {i : Nat} {x : Int32} (hx : x = nI i) (hi : i ≤ n) (h1 : i < n → isLt (b i) = true → Q (some (.int (nI 1))) (mi, ml, R0 rd, 136)) (h0 : ¬ (i < n ∧ isLt (b i) = true) → Q (some (.int (nI 0))) (mi, ml, R0 rd, 136)) : Cd (d + 1) k_Mod_isSmall [.ref 95, .int x] (mi, ml, R0 rd, 136) Q := by
  subst hx
  have h7 := hE.2.1
  refine r_Mod_isSmall (by decide) (fun K Kl hK hC => ⟨fun z => ⟨Or.inl rfl, rfl, h0 (fun q => ?_)⟩, fun z => ?_⟩)
  · have := jLE z hE.1
    omega
  · have z := jNLE z hE.1
    have hb := hE.2.2.1 i z
    refine ⟨i, by omega, rfl, ⟨fun y => ⟨Or.inl rfl, rfl, h0 (fun q => ?_)⟩, fun y => ⟨i, by omega, rfl, ⟨fun w => ⟨Or.inl rfl, rfl, h0 (fun q => ?_)⟩, fun w => ⟨Or.inr rfl, rfl, h1 z ?_⟩⟩⟩⟩⟩
    · have := jLT y hb.1
      have := lt_bd q.2
      omega
    · have := jLT w rfl hb.1
      have := lt_bd q.2
      omega
    · have y := jNLT y hb.1
      have w := jNLT w rfl hb.1
      unfold isLt
      rw [decide_eq_true (by omega), decide_eq_true (by omega)]
      rfl
theorem t_isDigit (hE : TE b n mi) {i : Nat} {x : Int32} (hx : x = nI i) (hi : i ≤ n) (h1 : i < n → isDg (b i) = true → Q (some (.int (nI 1))) (mi, ml, R0 rd, 136)) (h0 : ¬ (i < n ∧ isDg (b i) = true) → Q (some (.int (nI 0))) (mi, ml, R0 rd, 136)) : Cd (d + 1) k_Mod_isDigit [.ref 95, .int x] (mi, ml, R0 rd, 136) Q := by
  subst hx
  have h7 := hE.2.1
  refine r_Mod_isDigit (by decide) (fun K Kl hK hC => ⟨fun z => ⟨Or.inl rfl, rfl, h0 (fun q => ?_)⟩, fun z => ?_⟩)
  · have := jLE z hE.1
    omega
  · have z := jNLE z hE.1
    have hb := hE.2.2.1 i z
    refine ⟨i, by omega, rfl, ⟨fun y => ⟨Or.inl rfl, rfl, h0 (fun q => ?_)⟩, fun y => ⟨i, by omega, rfl, ⟨fun w => ⟨Or.inl rfl, rfl, h0 (fun q => ?_)⟩, fun w => ⟨Or.inr rfl, rfl, h1 z ?_⟩⟩⟩⟩⟩
    · have := jLT y hb.1
      have := dg_bd q.2
      omega
    · have := jLT w rfl hb.1
      have := dg_bd q.2
      omega
    · have y := jNLT y hb.1
      have w := jNLT w rfl hb.1
      unfold isDg
      rw [decide_eq_true (by omega), decide_eq_true (by omega)]
      rfl
theorem or32 {p c : Nat} (hc : c < 32) (hp : p < 2 ^ 26) : (nI p <<< (nI 5 &&& 31)) ||| nI c = nI (p * 32 + c) := by
  rw [pk_shlN (nI 5 &&& 31) 5 (by decide +kernel) (by omega), nI_or]
  congr 1
  have := orW (a := p * 2 ^ 5) (c := c) (k := 0) hc (by simp)
  rw [Nat.pow_zero, Nat.mul_one] at this
  rw [this]
theorem t_packed (hE : TE b n mi) {a : Nat} {xa xe : Int32} (ha : a ≤ n) (hL : runE isLt b n a - a ≤ 6) (exa : xa = nI a) (exe : xe = nI (runE isLt b n a)) (hQ : Q (some (.int (nI (wdV b n a 0 0)))) (mi, ml, R0 rd, 136)) : Cd (d + 1) k_Mod_packed [.ref 95, .int xa, .int xe] (mi, ml, R0 rd, 136) Q := by
  subst exa; subst exe
  have h7 := hE.2.1
  have hr := runE_le (p := isLt) (b := b) ha
  have hlt := ltC_lt (b := b) ha
  rw [wd_wsm ha hL, ← pk_wsm] at hQ
  have lp : ∀ t, t ≤ 6 → GoM d k_Mod_packed 136 Q 5 [.ref 95, .int (nI a), .int (nI (runE isLt b n a)), .int (nI (pkF (ltC b a (runE isLt b n a - a)) t)), .int (nI (a + t))] [] (mi, ml, R0 rd, 136) := by
    refine upto ?_ ?_
    · refine g_Mod_packed (fun K Kl hK hC => ⟨fun _ => ⟨rfl, hQ⟩, fun z => ?_⟩)
      have z : ¬ nI a + nI 6 ≤ nI (a + 6) := z
      rw [nI_add] at z
      exact absurd (iNLE z) (by omega)
    · intro t ht ih
      have hpl := pkF_lt hlt t
      have hp26 : pkF (ltC b a (runE isLt b n a - a)) t < 2 ^ 26 := by
        have : 32 ^ t ≤ 32 ^ 5 := Nat.pow_le_pow_right (by decide) (by omega)
        omega
      rw [pkF, ← or32 (hlt t) hp26, ← Nat.add_assoc, nI1 (a + t)] at ih
      refine g_Mod_packed (fun K Kl hK hC => ⟨fun z => ?_, fun _ => ⟨fun z => ?_, fun z => ?_⟩⟩)
      · have z : nI a + nI 6 ≤ nI (a + t) := z
        rw [nI_add] at z
        exact absurd (iLE z) (by omega)
      · have z := iLE z
        have e : ltC b a (runE isLt b n a - a) t = 0 := by unfold ltC; rw [if_neg (by omega)]
        rw [e] at ih
        exact hK _ _ _ _ ih
      · have z := iNLE z
        have e : ltC b a (runE isLt b n a - a) t = b (a + t) - 96 := by unfold ltC; rw [if_pos (by omega)]
        have hin := run_in (b := b) (p := isLt) ha (a + t) (by omega) (by omega)
        have hbd := lt_bd hin.2
        have hb := hE.2.2.1 (a + t) hin.1
        rw [e, ← pk_sub (by omega), ← hb.1] at ih
        exact ⟨a + t, by omega, rfl, hK _ _ _ _ ih⟩
  exact r_Mod_packed (by decide) (fun K Kl hK hC => hK _ _ _ _ (lp 0 (Nat.zero_le _)))
set_option maxHeartbeats 1000000 in
theorem t_wordAt (hE : TE b n mi) {a e : Nat} {xa xe : Int32} (hae : a ≤ e) (hen : e ≤ n) (exa : xa = nI a) (exe : xe = nI e) (hQ : Q (some (.int (if fnd (mtR b a (e - a)) 26 < 26 then nI (fnd (mtR b a (e - a)) 26) else -1))) (mi, ml, R0 rd, 136)) : Cd (d + 1) k_Mod_wordAt [.ref 95, .int xa, .int xe] (mi, ml, R0 rd, 136) Q := by
  subst exa; subst exe
  have h7 := hE.2.1
  have hlang := hE.2.2.2
  have outer : ∀ w, w ≤ 26 → (∀ r, r < w → mtR b a (e - a) r = false) → ∀ v5 v6 v7, GoM d k_Mod_wordAt 136 Q 5 [.ref 95, .int (nI a), .int (nI e), .int (nI w), .int (nI (stR w)), v5, v6, v7] [] (mi, ml, R0 rd, 136) := by
    refine upto ?_ ?_
    · intro hall v5 v6 v7
      rw [fnd_none hall, if_neg (by omega)] at hQ
      exact g_Mod_wordAt (fun K Kl hK hC => ⟨fun _ => ⟨rfl, hQ⟩, fun z => absurd z (by decide)⟩)
    · intro w hw ih hall v5 v6 v7
      have hll := lnM_le w hw
      have hsp := lang_sp w hw
      have hli := lang_in w hw
      /- behind the comparison -/
      have no : mtR b a (e - a) w = false → ∀ i, GoM d k_Mod_wordAt 136 Q 57 [.ref 95, .int (nI a), .int (nI e), .int (nI w), .int (nI (stR w)), .int (nI (lnM w)), .int (nI 0), .int (nI i)] [] (mi, ml, R0 rd, 136) := fun hn i => by
        have ih := ih (lt_s hall hn)
        rw [hsp.2, Nat.add_assoc, ← nI_add (stR w), ← nI_add (lnM w), nI1 w] at ih
        exact g_Mod_wordAt (fun K Kl hK hC => ⟨fun _ => ⟨fun _ => hK _ _ _ _ (ih _ _ _), fun q => absurd (by decide) q⟩, fun _ => ⟨fun _ => ⟨fun _ => hK _ _ _ _ (ih _ _ _), fun q => absurd (by decide) q⟩, fun q => absurd (by decide) q⟩⟩)
      have yes : lnM w = e - a → ∀ i, i ≤ lnM w → (∀ j, j < i → (nth 0 langM (stR w + j) == b (a + j)) = true) → GoM d k_Mod_wordAt 136 Q 57 [.ref 95, .int (nI a), .int (nI e), .int (nI w), .int (nI (stR w)), .int (nI (lnM w)), .int (nI 1), .int (nI i)] [] (mi, ml, R0 rd, 136) := by
        intro hL
        refine upto ?_ ?_
        · intro hall2
          have hm : mtR b a (e - a) w = true := by
            unfold mtR
            rw [beq_iff_eq.mpr hL, allN_iff.mpr hall2]
            rfl
          rw [fnd_at hw hm hall, if_pos hw] at hQ
          exact g_Mod_wordAt (fun K Kl hK hC => ⟨fun _ => ⟨fun q => absurd q (by decide), fun _ => ⟨rfl, hQ⟩⟩, fun z => absurd (iNLE z) (by omega)⟩)
        · intro i hi ih2 hall2
          have e1 := hlang (stR w + i) (by omega)
          have e2 := hE.2.2.1 (a + i) (by omega)
          have hl2 := hli i hi
          refine g_Mod_wordAt (fun K Kl hK hC => ⟨fun z => absurd (iLE z) (by omega), fun _ => ⟨fun q => absurd q (by decide), fun _ => ⟨stR w + i, by omega, nI_add _ _, ⟨a + i, by omega, nI_add _ _, ⟨fun z => ?_, fun z => ?_⟩⟩⟩⟩⟩)
          · have z : ¬ mi 97 (stR w + i) = mi 96 (a + i) := z
            rw [e1, e2.1] at z
            have := no (by
              unfold mtR
              rw [allN_not (p := fun i => nth 0 langM (stR w + i) == b (a + i)) hi (beq_eq_false_iff_ne.mpr (iNE z)), Bool.and_false]) (i + 1)
            rw [nI1 i] at this
            exact hK _ _ _ _ this
          · have z : mi 97 (stR w + i) = mi 96 (a + i) := z
            rw [e1, e2.1] at z
            have ih2 := ih2 (lt_s hall2 (beq_iff_eq.mpr (iEQ z)))
            rw [nI1 i] at ih2
            exact hK _ _ _ _ ih2
      have cnt : ∀ i, i ≤ lnM w → ∀ v6 v7, GoM d k_Mod_wordAt 136 Q 18 [.ref 95, .int (nI a), .int (nI e), .int (nI w), .int (nI (stR w)), .int (nI i), v6, v7] [] (mi, ml, R0 rd, 136) := by
        refine upto ?_ ?_
        · intro v6 v7
          have e1 := hlang (stR w + lnM w) (by omega)
          rw [hsp.1] at e1
          refine g_Mod_wordAt (fun K Kl hK hC => ⟨stR w + lnM w, by omega, nI_add _ _, ⟨fun _ => ⟨fun z => ?_, fun z => ?_⟩, fun q => absurd e1 q⟩⟩)
          · have z : ¬ nI (lnM w) = nI e - nI a := z
            rw [pk_sub hae] at z
            exact hK _ _ _ _ (no (by
              unfold mtR
              rw [show (lnM w == e - a) = false from beq_eq_false_iff_ne.mpr (iNE z)]
              rfl) 0)
          · have z : nI (lnM w) = nI e - nI a := z
            rw [pk_sub hae] at z
            exact hK _ _ _ _ (yes (iEQ z) 0 (Nat.zero_le _) lt_0)
        · intro i hi ih2 v6 v7
          have e1 := hlang (stR w + i) (by omega)
          have hl2 := hli i hi
          refine g_Mod_wordAt (fun K Kl hK hC => ⟨stR w + i, by omega, nI_add _ _, ⟨fun q => ?_, fun _ => ?_⟩⟩)
          · have := jEQ q e1 rfl
            omega
          · have ih2 := ih2 v6 v7
            rw [nI1 i] at ih2
            exact hK _ _ _ _ ih2
      exact g_Mod_wordAt (fun K Kl hK hC => ⟨fun z => absurd (iLE (show nI 127 ≤ nI (stR w) from z)) (by omega), fun _ => hK _ _ _ _ (cnt 0 (Nat.zero_le _) _ _)⟩)
  exact r_Mod_wordAt (by decide) (fun K Kl hK hC => hK _ _ _ _ (outer 0 (Nat.zero_le _) lt_0 _ _ _))
end
