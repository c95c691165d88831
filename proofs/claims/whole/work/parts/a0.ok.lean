/-! A TEXT THAT CAN BE, LINE BY LINE -/
def tOK (T : Nat → Nat → Nat) : Prop := wfT T ∧ wfL T ∧ (∀ i, 14 ≤ i → i ≤ 18 → T 0 i ≤ 1) ∧ (T 0 18 = 0 ↔ T 0 9 = 0) ∧ T 0 13 ≤ 9 ∧ (T 0 13 = 0 → ∀ f, T 4 f = 0)
theorem wfL_cg {T T' : Nat → Nat → Nat} (h0 : T' 0 9 = T 0 9) (h1 : ∀ i, T' 17 i = T 17 i) (h2 : ∀ i, T' 18 i = T 18 i) (h : wfL T) : wfL T' := by
  have hd : ∀ n, dpN T' n = dpN T n := fun n => dpN_cg (fun i _ => h1 i)
  refine ⟨fun i hi => ?_, fun z => ?_⟩
  · rw [h1, h2, hd]
    exact h.1 i (by omega)
  · rw [h0, hd]
    exact h.2 (by omega)
theorem tI_ok : tOK tI := by
  refine ⟨⟨(by decide), (by decide), (by decide), (by decide), (by decide), (by decide), (by decide), (by decide), (by decide), (by decide), (by decide), (by decide), (by decide), (by decide), (by decide), fun i hi => absurd hi (Nat.not_lt_zero i), fun i hi => absurd hi (Nat.not_lt_zero i), fun f => Nat.zero_le _, fun f _ => rfl, fun i hi => absurd hi (Nat.not_lt_zero i), fun i hi => absurd hi (Nat.not_lt_zero i), fun i j hi => absurd hi (Nat.not_lt_zero i), fun i hi => absurd hi (Nat.not_lt_zero i), fun i hi => absurd hi (Nat.not_lt_zero i), fun i hi => absurd hi (Nat.not_lt_zero i), fun i hi => absurd hi (Nat.not_lt_zero i), fun i hi => absurd hi (Nat.not_lt_zero i), fun i hi => absurd hi (Nat.not_lt_zero i), fun i hi => absurd hi (Nat.not_lt_zero i), fun i hi => absurd hi (Nat.not_lt_zero i), fun f i => ⟨by show 0 < _; decide, by show 0 < _; decide, by show 0 < _; decide, by show 0 < _; decide, fun _ => trivial⟩⟩, ⟨fun i hi => absurd hi (Nat.not_lt_zero i), fun z => absurd rfl z⟩, fun i h1 h2 => ?_, ⟨fun _ => rfl, fun _ => rfl⟩, by decide, fun _ f => rfl⟩
  show (if i = 0 then 4 else if i = 1 then 3 else if i = 10 then 100 else 0) ≤ 1
  rw [if_neg (by omega), if_neg (by omega), if_neg (by omega)]
  omega
theorem pNum_ok {k v p : Nat → Nat} {j lo hi x : Nat} (h : pNum k v p j lo hi = .ok x) : k j = 1 ∧ lo ≤ x ∧ x ≤ hi := by
  unfold pNum at h
  split at h
  · split at h
    · cases h
      rename_i h1 h2
      exact ⟨h1, h2⟩
    · cases h
  · cases h
theorem pNew_ok {k v p nm : Nat → Nat} {c j x : Nat} (h : pNew k v p nm c j = .ok x) : k j = 2 ∧ x = v j := by
  unfold pNew at h
  split at h
  · split at h
    · cases h
    · cases h
      rename_i h1 _
      exact ⟨h1, rfl⟩
  · cases h
theorem pOld_ok {k v p nm : Nat → Nat} {c j x : Nat} (h : pOld k v p nm c j = .ok x) : k j = 2 ∧ x < c := by
  unfold pOld at h
  split at h
  · split at h
    · cases h
      rename_i h1 h2
      exact ⟨h1, h2⟩
    · cases h
  · cases h
section
variable {k v p : Nat → Nat} {T T' : Nat → Nat → Nat} {j j' : Nat}
theorem ifP {c : Prop} {dc : Decidable c} {a b : Nat} (P : Nat → Prop) (h1 : c → P a) (h0 : ¬ c → P b) : P (@ite Nat c dc a b) := by
  split
  · rename_i h; exact h1 h
  · rename_i h; exact h0 h
theorem ok_ow (hT : tOK T) {nm pr ct : Nat} (hlt : T 0 2 < 5) (hn : nm < 2 ^ 30) (h1 : pr ≤ 99) (h2 : 1 ≤ ct ∧ ct ≤ 99) : tOK (aOw T nm pr ct) := by
  obtain ⟨hw, hl, hf, h18, h13, h4⟩ := hT
  exact ⟨⟨hw.w1, hw.w8, hw.h1, hw.h6, (show T 0 2 + 1 ≤ 5 by omega), hw.gl9, hw.wd6, hw.hl3, hw.co4, hw.sg5, hw.lk3, hw.kn64, hw.pu, hw.se, hw.ra, fun i hi => ifP (fun x => x ≤ 99) (fun _ => h1) (fun e => hw.pr i (by have hi : i < T 0 2 + 1 := hi; omega)), fun i hi => ifP (fun x => 1 ≤ x ∧ x ≤ 99) (fun _ => h2) (fun e => hw.cu i (by have hi : i < T 0 2 + 1 := hi; omega)), fun f => Nat.le_succ_of_le (hw.ow f), hw.owo, hw.gl, hw.gs, hw.gld, hw.wn, hw.wz, hw.ww, hw.sg, hw.cm, hw.sl, hw.sr, hw.lk, fun f i => ⟨ifP (fun x => x < 2 ^ 30) (fun _ => hn) (fun _ => (hw.nm f i).1), (hw.nm f i).2.1, (hw.nm f i).2.2.1, (hw.nm f i).2.2.2.1, fun _ => trivial⟩⟩, wfL_cg (T := T) rfl (fun _ => rfl) (fun _ => rfl) hl, fun i h1 h2 => ifP (fun x => x ≤ 1) (fun e => absurd e (by omega)) (fun _ => hf i h1 h2), h18, h13, h4⟩
theorem gl_new {c s : Nat} (hw : wfT T) (hnew : ¬ nmF (T 5) (T 0 3) c < T 0 3) (a b : Nat) (ha : a < T 0 3 + 1) (hb : b < T 0 3 + 1) (e : (if a = T 0 3 then c else T 5 a) = (if b = T 0 3 then c else T 5 b)) : a = b := by
  have hall : ∀ i, i < T 0 3 → T 5 i ≠ c := fun i hi ec => hnew (by
    have := fnd_le (fun g => T 5 g == c) (T 0 3)
    rcases Nat.lt_or_ge (nmF (T 5) (T 0 3) c) (T 0 3) with z | z
    · exact z
    · have hm := fnd_min (p := fun g => T 5 g == c) (n := T 0 3) (i := i) (by unfold nmF at z; omega)
      simp [ec] at hm)
  by_cases ea : a = T 0 3
  · by_cases eb : b = T 0 3
    · omega
    · rw [if_pos ea, if_neg eb] at e
      exact absurd e.symm (hall b (by omega))
  · by_cases eb : b = T 0 3
    · rw [if_neg ea, if_pos eb] at e
      exact absurd e (hall a (by omega))
    · rw [if_neg ea, if_neg eb] at e
      exact hw.gld a b (by omega) (by omega) e
theorem ok_gl (hT : tOK T) {c s : Nat} (hlt : T 0 3 < 9) (h1 : 1 ≤ c ∧ c ≤ 26) (h2 : 1 ≤ s ∧ s ≤ 511) (hnew : ¬ nmF (T 5) (T 0 3) c < T 0 3) : tOK (aGl T c s) := by
  obtain ⟨hw, hl, hf, h18, h13, h4⟩ := hT
  exact ⟨⟨hw.w1, hw.w8, hw.h1, hw.h6, hw.own5, (show T 0 3 + 1 ≤ 9 by omega), hw.wd6, hw.hl3, hw.co4, hw.sg5, hw.lk3, hw.kn64, hw.pu, hw.se, hw.ra, hw.pr, hw.cu, hw.ow, hw.owo, fun i hi => ifP (fun x => 1 ≤ x ∧ x ≤ 26) (fun _ => h1) (fun e => hw.gl i (by have hi : i < T 0 3 + 1 := hi; omega)), fun i hi => ifP (fun x => 1 ≤ x ∧ x ≤ 511) (fun _ => h2) (fun e => hw.gs i (by have hi : i < T 0 3 + 1 := hi; omega)), fun a b ha hb e => gl_new (s := s) hw hnew a b ha hb e, hw.wn, hw.wz, hw.ww, hw.sg, hw.cm, hw.sl, hw.sr, hw.lk, hw.nm⟩, wfL_cg (T := T) rfl (fun _ => rfl) (fun _ => rfl) hl, fun i h1 h2 => ifP (fun x => x ≤ 1) (fun e => absurd e (by omega)) (fun _ => hf i h1 h2), h18, h13, h4⟩
theorem ok_wd (hT : tOK T) {nm w : Nat} (hlt : T 0 4 < 6) (hn : nmOK nm) (h1 : w ≤ 99) : tOK (aWd T nm w) := by
  obtain ⟨hw, hl, hf, h18, h13, h4⟩ := hT
  exact ⟨⟨hw.w1, hw.w8, hw.h1, hw.h6, hw.own5, hw.gl9, (show T 0 4 + 1 ≤ 6 by omega), hw.hl3, hw.co4, hw.sg5, hw.lk3, hw.kn64, hw.pu, hw.se, hw.ra, hw.pr, hw.cu, hw.ow, hw.owo, hw.gl, hw.gs, hw.gld, fun i hi => ifP (fun x => x < 2 ^ 30 ∧ 1 ≤ lenN x) (fun _ => ⟨hn.1, hn.2.1⟩) (fun e => hw.wn i (by have hi : i < T 0 4 + 1 := hi; omega)), fun i hi => ifP (fun x => ∀ k, lenN x ≤ k → k < 6 → letN x k = 0) (fun _ => hn.2.2.1) (fun e => hw.wz i (by have hi : i < T 0 4 + 1 := hi; omega)), fun i hi => ifP (fun x => x ≤ 99) (fun _ => h1) (fun e => hw.ww i (by have hi : i < T 0 4 + 1 := hi; omega)), hw.sg, hw.cm, hw.sl, hw.sr, hw.lk, hw.nm⟩, wfL_cg (T := T) rfl (fun _ => rfl) (fun _ => rfl) hl, fun i h1 h2 => ifP (fun x => x ≤ 1) (fun e => absurd e (by omega)) (fun _ => hf i h1 h2), h18, h13, h4⟩
theorem ok_hl (hT : tOK T) {nm s : Nat} (hlt : T 0 5 < 3) (hn : nm < 2 ^ 30) (h1 : s ≤ 2) : tOK (aHl T nm s) := by
  obtain ⟨hw, hl, hf, h18, h13, h4⟩ := hT
  exact ⟨⟨hw.w1, hw.w8, hw.h1, hw.h6, hw.own5, hw.gl9, hw.wd6, (show T 0 5 + 1 ≤ 3 by omega), hw.co4, hw.sg5, hw.lk3, hw.kn64, hw.pu, hw.se, hw.ra, hw.pr, hw.cu, hw.ow, hw.owo, hw.gl, hw.gs, hw.gld, hw.wn, hw.wz, hw.ww, fun i hi => ifP (fun x => x ≤ 2) (fun _ => h1) (fun e => hw.sg i (by have hi : i < T 0 5 + 1 := hi; omega)), hw.cm, hw.sl, hw.sr, fun i hi => ⟨Nat.lt_succ_of_lt (hw.lk i hi).1, Nat.lt_succ_of_lt (hw.lk i hi).2.1, (hw.lk i hi).2.2⟩, fun f i => ⟨(hw.nm f i).1, ifP (fun x => x < 2 ^ 30) (fun _ => hn) (fun _ => (hw.nm f i).2.1), (hw.nm f i).2.2.1, (hw.nm f i).2.2.2.1, fun _ => trivial⟩⟩, wfL_cg (T := T) rfl (fun _ => rfl) (fun _ => rfl) hl, fun i h1 h2 => ifP (fun x => x ≤ 1) (fun e => absurd e (by omega)) (fun _ => hf i h1 h2), h18, h13, h4⟩
theorem ok_co (hT : tOK T) {nm m : Nat} (hlt : T 0 6 < 4) (hn : nm < 2 ^ 30) (h1 : m ≤ 9) : tOK (aCo T nm m) := by
  obtain ⟨hw, hl, hf, h18, h13, h4⟩ := hT
  exact ⟨⟨hw.w1, hw.w8, hw.h1, hw.h6, hw.own5, hw.gl9, hw.wd6, hw.hl3, (show T 0 6 + 1 ≤ 4 by omega), hw.sg5, hw.lk3, hw.kn64, hw.pu, hw.se, hw.ra, hw.pr, hw.cu, hw.ow, hw.owo, hw.gl, hw.gs, hw.gld, hw.wn, hw.wz, hw.ww, hw.sg, fun i hi => ifP (fun x => x ≤ 9) (fun _ => h1) (fun e => hw.cm i (by have hi : i < T 0 6 + 1 := hi; omega)), hw.sl, fun i hi k hk => Nat.lt_succ_of_lt (hw.sr i hi k hk), hw.lk, fun f i => ⟨(hw.nm f i).1, (hw.nm f i).2.1, ifP (fun x => x < 2 ^ 30) (fun _ => hn) (fun _ => (hw.nm f i).2.2.1), (hw.nm f i).2.2.2.1, fun _ => trivial⟩⟩, wfL_cg (T := T) rfl (fun _ => rfl) (fun _ => rfl) hl, fun i h1 h2 => ifP (fun x => x ≤ 1) (fun e => absurd e (by omega)) (fun _ => hf i h1 h2), h18, h13, h4⟩
theorem sg_sr (hw : wfT T) {nm l : Nat} {cs : Nat → Nat} (h2 : ∀ a, a < l → cs a < T 0 6) (i : Nat) (hi : i < T 0 7 + 1) (a : Nat) (ha : a < (if i = T 0 7 then l else T 14 i)) : (if 4 * T 0 7 ≤ 4 * i + a then cs (4 * i + a - 4 * T 0 7) else T 15 (4 * i + a)) < T 0 6 := by
  by_cases e : i = T 0 7
  · rw [if_pos e] at ha
    rw [if_pos (by omega), show 4 * i + a - 4 * T 0 7 = a by omega]
    exact h2 a ha
  · rw [if_neg e] at ha
    have := hw.sl i (by omega)
    rw [if_neg (by omega)]
    exact hw.sr i (by omega) a ha
theorem ok_sg (hT : tOK T) {nm l : Nat} {cs : Nat → Nat} (hlt : T 0 7 < 5) (hn : nm < 2 ^ 30) (h1 : 1 ≤ l ∧ l ≤ 4) (h2 : ∀ a, a < l → cs a < T 0 6) : tOK (aSg T nm l cs) := by
  obtain ⟨hw, hl, hf, h18, h13, h4⟩ := hT
  exact ⟨⟨hw.w1, hw.w8, hw.h1, hw.h6, hw.own5, hw.gl9, hw.wd6, hw.hl3, hw.co4, (show T 0 7 + 1 ≤ 5 by omega), hw.lk3, hw.kn64, hw.pu, hw.se, hw.ra, hw.pr, hw.cu, hw.ow, hw.owo, hw.gl, hw.gs, hw.gld, hw.wn, hw.wz, hw.ww, hw.sg, hw.cm, fun i hi => ifP (fun x => 1 ≤ x ∧ x ≤ 4) (fun _ => h1) (fun e => hw.sl i (by have hi : i < T 0 7 + 1 := hi; omega)), fun i hi a ha => sg_sr (nm := nm) hw h2 i hi a ha, hw.lk, fun f i => ⟨(hw.nm f i).1, (hw.nm f i).2.1, (hw.nm f i).2.2.1, ifP (fun x => x < 2 ^ 30) (fun _ => hn) (fun _ => (hw.nm f i).2.2.2.1), fun _ => trivial⟩⟩, wfL_cg (T := T) rfl (fun _ => rfl) (fun _ => rfl) hl, fun i h1 h2 => ifP (fun x => x ≤ 1) (fun e => absurd e (by omega)) (fun _ => hf i h1 h2), h18, h13, h4⟩
theorem lk_ok (hw : wfT T) {x y z : Nat} (hx : x < T 0 5) (hy : y < T 0 5) (hz : 1 ≤ z ∧ z ≤ 20) (i : Nat) (hi : i < T 0 8 + 1) : aLk T x y z 16 (3 * i) < T 0 5 ∧ aLk T x y z 16 (3 * i + 1) < T 0 5 ∧ 1 ≤ aLk T x y z 16 (3 * i + 2) ∧ aLk T x y z 16 (3 * i + 2) ≤ 20 := by
  rw [lk_0 hi, lk_1 hi, lk_2 hi]
  by_cases e : i = T 0 8
  · rw [if_pos e, if_pos e, if_pos e]
    exact ⟨hx, hy, hz⟩
  · rw [if_neg e, if_neg e, if_neg e]
    exact hw.lk i (by omega)
theorem ok_lk (hT : tOK T) {x y z : Nat} (hlt : T 0 8 < 3) (hx : x < T 0 5) (hy : y < T 0 5) (hz : 1 ≤ z ∧ z ≤ 20) : tOK (aLk T x y z) := by
  obtain ⟨hw, hl, hf, h18, h13, h4⟩ := hT
  exact ⟨⟨hw.w1, hw.w8, hw.h1, hw.h6, hw.own5, hw.gl9, hw.wd6, hw.hl3, hw.co4, hw.sg5, (show T 0 8 + 1 ≤ 3 by omega), hw.kn64, hw.pu, hw.se, hw.ra, hw.pr, hw.cu, hw.ow, hw.owo, hw.gl, hw.gs, hw.gld, hw.wn, hw.wz, hw.ww, hw.sg, hw.cm, hw.sl, hw.sr, fun i hi => lk_ok hw hx hy hz i hi, hw.nm⟩, wfL_cg (T := T) rfl (fun _ => rfl) (fun _ => rfl) hl, fun i h1 h2 => ifP (fun x => x ≤ 1) (fun e => absurd e (by omega)) (fun _ => hf i h1 h2), h18, h13, h4⟩
theorem ok_st (hT : tOK T) {w x y x2 y2 : Nat} (hlt : T 0 13 < 9) (hwd : w < T 0 2) (hy : y2 < T 0 1) : tOK (aSt T w x y x2 y2) := by
  obtain ⟨hw, hl, hf, h18, h13, h4⟩ := hT
  have h2 := hw.w1
  refine ⟨⟨hw.w1, hw.w8, hw.h1, hw.h6, hw.own5, hw.gl9, hw.wd6, hw.hl3, hw.co4, hw.sg5, hw.lk3, hw.kn64, hw.pu, hw.se, hw.ra, hw.pr, hw.cu, fun f => ifP (fun x => x ≤ T 0 2) (fun _ => hwd) (fun _ => hw.ow f), fun f hf => ifP (fun x => x = 0) (fun e => absurd e (fun e => absurd (Nat.lt_of_le_of_lt e.2.2 hy) (Nat.not_lt.mpr ((Nat.le_div_iff_mul_le h2).mpr (by rw [Nat.mul_comm]; exact hf))))) (fun _ => hw.owo f hf), hw.gl, hw.gs, hw.gld, hw.wn, hw.wz, hw.ww, hw.sg, hw.cm, hw.sl, hw.sr, hw.lk, hw.nm⟩, wfL_cg (T := T) rfl (fun _ => rfl) (fun _ => rfl) hl, fun i h1 h2 => ?_, h18, (show T 0 13 + 1 ≤ 9 by omega), fun z => absurd z (Nat.succ_ne_zero _)⟩
  · show (if i = 13 then _ else T 0 i) ≤ 1
    rw [if_neg (by omega)]
    exact hf i h1 h2
theorem ok_t0 (hT : tOK T) {c x : Nat} (hc : (c = 10 ∧ x ≤ 9999) ∨ (c = 11 ∧ x ≤ 99999) ∨ (c = 12 ∧ x ≤ 99)) : tOK (t0 T c x) := by
  obtain ⟨hw, hl, hf, h18, h13, h4⟩ := hT
  have g : ∀ i, 14 ≤ i → i ≤ 18 → t0 T c x 0 i ≤ 1 := fun i h1 h2 => by
    show (if i = c then x else T 0 i) ≤ 1
    rw [if_neg (by omega)]
    exact hf i h1 h2
  rcases hc with ⟨rfl, hx⟩ | ⟨rfl, hx⟩ | ⟨rfl, hx⟩
  · exact ⟨⟨hw.w1, hw.w8, hw.h1, hw.h6, hw.own5, hw.gl9, hw.wd6, hw.hl3, hw.co4, hw.sg5, hw.lk3, hw.kn64, hx, hw.se, hw.ra, hw.pr, hw.cu, hw.ow, hw.owo, hw.gl, hw.gs, hw.gld, hw.wn, hw.wz, hw.ww, hw.sg, hw.cm, hw.sl, hw.sr, hw.lk, hw.nm⟩, wfL_cg (T := T) rfl (fun _ => rfl) (fun _ => rfl) hl, g, h18, h13, h4⟩
  · exact ⟨⟨hw.w1, hw.w8, hw.h1, hw.h6, hw.own5, hw.gl9, hw.wd6, hw.hl3, hw.co4, hw.sg5, hw.lk3, hw.kn64, hw.pu, hx, hw.ra, hw.pr, hw.cu, hw.ow, hw.owo, hw.gl, hw.gs, hw.gld, hw.wn, hw.wz, hw.ww, hw.sg, hw.cm, hw.sl, hw.sr, hw.lk, hw.nm⟩, wfL_cg (T := T) rfl (fun _ => rfl) (fun _ => rfl) hl, g, h18, h13, h4⟩
  · exact ⟨⟨hw.w1, hw.w8, hw.h1, hw.h6, hw.own5, hw.gl9, hw.wd6, hw.hl3, hw.co4, hw.sg5, hw.lk3, hw.kn64, hw.pu, hw.se, hx, hw.pr, hw.cu, hw.ow, hw.owo, hw.gl, hw.gs, hw.gld, hw.wn, hw.wz, hw.ww, hw.sg, hw.cm, hw.sl, hw.sr, hw.lk, hw.nm⟩, wfL_cg (T := T) rfl (fun _ => rfl) (fun _ => rfl) hl, g, h18, h13, h4⟩
theorem ok_pl (hT : tOK T) {w h : Nat} (hw1 : 1 ≤ w ∧ w ≤ 8) (hh1 : 1 ≤ h ∧ h ≤ 6) (hz : T 0 13 = 0) : tOK (t0 (t0 T 0 w) 1 h) := by
  obtain ⟨hw, hl, hf, h18, h13, h4⟩ := hT
  refine ⟨⟨hw1.1, hw1.2, hh1.1, hh1.2, hw.own5, hw.gl9, hw.wd6, hw.hl3, hw.co4, hw.sg5, hw.lk3, hw.kn64, hw.pu, hw.se, hw.ra, hw.pr, hw.cu, hw.ow, fun f _ => h4 hz f, hw.gl, hw.gs, hw.gld, hw.wn, hw.wz, hw.ww, hw.sg, hw.cm, hw.sl, hw.sr, hw.lk, hw.nm⟩, wfL_cg (T := T) rfl (fun _ => rfl) (fun _ => rfl) hl, fun i h1 h2 => ?_, h18, h13, h4⟩
  show (if i = 1 then h else if i = 0 then w else T 0 i) ≤ 1
  rw [if_neg (by omega), if_neg (by omega)]
  exact hf i h1 h2
theorem ok_on (hT : tOK T) {c : Nat} (hc : 14 ≤ c ∧ c ≤ 17) : tOK (t0 T c 1) := by
  obtain ⟨hw, hl, hf, h18, h13, h4⟩ := hT
  have g : ∀ i, 14 ≤ i → i ≤ 18 → t0 T c 1 0 i ≤ 1 := fun i h1 h2 => by
    show (if i = c then 1 else T 0 i) ≤ 1
    split
    · omega
    · exact hf i h1 h2
  have : c = 14 ∨ c = 15 ∨ c = 16 ∨ c = 17 := by omega
  rcases this with rfl | rfl | rfl | rfl
  · exact ⟨⟨hw.w1, hw.w8, hw.h1, hw.h6, hw.own5, hw.gl9, hw.wd6, hw.hl3, hw.co4, hw.sg5, hw.lk3, hw.kn64, hw.pu, hw.se, hw.ra, hw.pr, hw.cu, hw.ow, hw.owo, hw.gl, hw.gs, hw.gld, hw.wn, hw.wz, hw.ww, hw.sg, hw.cm, hw.sl, hw.sr, hw.lk, hw.nm⟩, wfL_cg (T := T) rfl (fun _ => rfl) (fun _ => rfl) hl, g, h18, h13, h4⟩
  · exact ⟨⟨hw.w1, hw.w8, hw.h1, hw.h6, hw.own5, hw.gl9, hw.wd6, hw.hl3, hw.co4, hw.sg5, hw.lk3, hw.kn64, hw.pu, hw.se, hw.ra, hw.pr, hw.cu, hw.ow, hw.owo, hw.gl, hw.gs, hw.gld, hw.wn, hw.wz, hw.ww, hw.sg, hw.cm, hw.sl, hw.sr, hw.lk, hw.nm⟩, wfL_cg (T := T) rfl (fun _ => rfl) (fun _ => rfl) hl, g, h18, h13, h4⟩
  · exact ⟨⟨hw.w1, hw.w8, hw.h1, hw.h6, hw.own5, hw.gl9, hw.wd6, hw.hl3, hw.co4, hw.sg5, hw.lk3, hw.kn64, hw.pu, hw.se, hw.ra, hw.pr, hw.cu, hw.ow, hw.owo, hw.gl, hw.gs, hw.gld, hw.wn, hw.wz, hw.ww, hw.sg, hw.cm, hw.sl, hw.sr, hw.lk, hw.nm⟩, wfL_cg (T := T) rfl (fun _ => rfl) (fun _ => rfl) hl, g, h18, h13, h4⟩
  · exact ⟨⟨hw.w1, hw.w8, hw.h1, hw.h6, hw.own5, hw.gl9, hw.wd6, hw.hl3, hw.co4, hw.sg5, hw.lk3, hw.kn64, hw.pu, hw.se, hw.ra, hw.pr, hw.cu, hw.ow, hw.owo, hw.gl, hw.gs, hw.gld, hw.wn, hw.wz, hw.ww, hw.sg, hw.cm, hw.sl, hw.sr, hw.lk, hw.nm⟩, wfL_cg (T := T) rfl (fun _ => rfl) (fun _ => rfl) hl, g, h18, h13, h4⟩
end
