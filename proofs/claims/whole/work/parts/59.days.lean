/-! A DAY PASSES: whole (the class) -/
def cutS (T S : Nat → Nat → Nat) : Nat → Nat → Nat := sSh S (fun f => if dueN T (S 0 0) f then 0 else S 1 f)
/-- a day: cut, eaten, rained on -/
noncomputable def passN (T : Nat → Nat → Nat) (c e r : Bool) (S : Nat → Nat → Nat) : Nat → Nat → Nat :=
  let S1 := if c then cutS T S else S
  let S2 := if e then sSh S1 (eatN T S1) else S1
  let S3 := if r && !(T 0 12 == 0) then rainN T S2 else S2
  sF S3 0 (S3 0 0 + 1)
def hwN (c e r : Bool) : Nat := c.toNat + 2 * e.toNat + 4 * r.toNat
theorem wfS.sh2 {T S : Nat → Nat → Nat} (h : wfS T S) {sh : Nat → Nat} (h1 : ∀ f, sh f ≤ S 1 f) : wfS T (sSh S sh) :=
  ⟨fun f => Nat.le_trans (h1 f) (h.sh f), fun f hf => by have := h.sho f hf; have := h1 f; show sh f = 0; omega, h.day, h.pu, h.la, h.hu, h.ro⟩
theorem wfS.cut1 {T S : Nat → Nat → Nat} (h : wfS T S) : wfS T (cutS T S) := h.sh2 (fun f => by split <;> omega)
theorem updN_lo {f : Nat → Nat} {k x : Nat} (h : x ≤ f k) (i : Nat) : updN f k x i ≤ f i := by
  unfold updN
  split
  · rename_i e; rw [e]; exact h
  · exact Nat.le_refl _
theorem wfS.eatS {T S : Nat → Nat → Nat} (h : wfS T S) : wfS T (sSh S (eatN T S)) := by
  refine h.sh2 (fun f => ?_)
  unfold eatN
  cases etN T S (T 0 0 * T 0 1) with
  | none => exact Nat.le_refl _
  | some t => exact updN_lo (loN_le _ (by have := h.sh t.1; omega)) f
theorem wfS.last2 {T S : Nat → Nat → Nat} (h : wfS T S) {x : Nat} (hx : x < 2 ^ 31) : wfS T (sF S 2 x) := ⟨h.sh, h.sho, h.day, h.pu, hx, h.hu, h.ro⟩
theorem wfS.rain {T S : Nat → Nat → Nat} (h : wfS T S) : wfS T (rainN T S) := by
  unfold rainN
  split
  · exact h.last2 (nxN_lt _)
  · exact (h.sh2 (updN_lo (hiN_le _))).last2 (nxN_lt _)
theorem wfS.day1 {T S : Nat → Nat → Nat} (h : wfS T S) {x : Nat} (hx : x ≤ 1100) : wfS T (sF S 0 x) := ⟨h.sh, h.sho, hx, h.pu, h.la, h.hu, h.ro⟩
theorem rainN_day (T S : Nat → Nat → Nat) : rainN T S 0 0 = S 0 0 := by
  unfold rainN
  split <;> rfl
theorem passN_day (T : Nat → Nat → Nat) (c e r : Bool) (S : Nat → Nat → Nat) : passN T c e r S 0 0 = S 0 0 + 1 := by
  have h1 : (if c then cutS T S else S) 0 0 = S 0 0 := by cases c <;> rfl
  have h2 : (if e then sSh (if c then cutS T S else S) (eatN T (if c then cutS T S else S)) else (if c then cutS T S else S)) 0 0 = S 0 0 := by
    cases e
    · exact h1
    · exact h1
  show (if r && !(T 0 12 == 0) then rainN T (if e then sSh (if c then cutS T S else S) (eatN T (if c then cutS T S else S)) else (if c then cutS T S else S)) else _) 0 0 + 1 = _
  split
  · rw [rainN_day, h2]
  · rw [h2]
theorem wfS.pass {T S : Nat → Nat → Nat} (h : wfS T S) (c e r : Bool) (hd : S 0 0 < 1100) : wfS T (passN T c e r S) := by
  have hday := passN_day T c e r S
  have h1 : wfS T (if c then cutS T S else S) := by cases c; exact h; exact h.cut1
  have h2 : wfS T (if e then sSh (if c then cutS T S else S) (eatN T (if c then cutS T S else S)) else (if c then cutS T S else S)) := by
    cases e
    · exact h1
    · exact h1.eatS
  have h3 : wfS T (if r && !(T 0 12 == 0) then rainN T (if e then sSh (if c then cutS T S else S) (eatN T (if c then cutS T S else S)) else (if c then cutS T S else S)) else (if e then sSh (if c then cutS T S else S) (eatN T (if c then cutS T S else S)) else (if c then cutS T S else S))) := by
    split
    · exact h2.rain
    · exact h2
  exact h3.day1 (by
    have hday : (if r && !(T 0 12 == 0) then rainN T (if e then sSh (if c then cutS T S else S) (eatN T (if c then cutS T S else S)) else (if c then cutS T S else S)) else (if e then sSh (if c then cutS T S else S) (eatN T (if c then cutS T S else S)) else (if c then cutS T S else S))) 0 0 + 1 = S 0 0 + 1 := hday
    omega)
section
variable {d : Nat} {Q : Option Value → Mm → Prop} {T S : Nat → Nat → Nat} {mi : Nat → Nat → Int32} {ml : Nat → Nat → Int64} {rd : Option Nat}
set_option maxHeartbeats 2000000 in
theorem s_pass {b : Nat} (hb : b = 70 ∨ b = 86) (hT : CT 0 T mi) (hw : wfT T) (hl : wfL T) (hS : CS b S mi) (hs : wfS T S) {c e r : Bool} (hcer : (c, e, r) = (true, true, true) ∨ (c, e, r) = (true, true, false) ∨ (c, e, r) = (false, true, true) ∨ (c, e, r) = (true, false, true)) (hQ : ∀ mi' ml', Fr [35, b, b + 1] mi mi' → Fr [36] ml ml' → CS b (passN T c e r S) mi' → Q none (mi', ml', R0 rd, 136)) : Cd (d + 5) k_Scene_pass [.ref b, .ref 6, .int (nI (hwN c e r))] (mi, ml, R0 rd, 136) Q := by
  have hday := hs.day
  have hra := hw.ra
  have ms : ∀ L, L = [35, b + 1] ∨ L = [b, b + 1] ∨ L = [b + 1] → L.all (fun x => !(nin [35, b, b + 1] x)) = true := by
    intro L hL
    rcases hb with rfl | rfl <;> rcases hL with rfl | rfl | rfl <;> rfl
  have hok : [35, b, b + 1].all (fun x => Nat.blt x (6 + 0) || Nat.blt (34 + 0) x) = true := by rcases hb with rfl | rfl <;> rfl
  have n0 : nin [35, b, b + 1] b = false := by rcases hb with rfl | rfl <;> rfl
  have n1 : nin [35, b, b + 1] (b + 1) = false := by rcases hb with rfl | rfl <;> rfl
  have fin : ∀ mi3 ml3 S3, Fr [35, b, b + 1] mi mi3 → Fr [36] ml ml3 → CS b S3 mi3 → passN T c e r S = sF S3 0 (S3 0 0 + 1) → Q none (cu mi3 b (upd (mi3 b) 0 (mi3 b 0 + nI 1)), ml3, R0 rd, 136) := by
    intro mi3 ml3 S3 hf hfl hS3 heq
    refine hQ _ _ (hf.cu n0) hfl ?_
    rw [heq, hS3.day, ← nI1]
    exact hS3.setF (by decide)
  refine r_Scene_pass (by decide) ?_
  rcases hcer with h | h | h | h <;> cases h <;> rcases hb with rfl | rfl
  · intro K Kl hK hC
    refine ⟨fun h => absurd h (by decide), fun _ => ?_⟩
    refine hC _ _ _ _ (s_cutThoseDue (Or.inl rfl) hT hw (fun f hf => hS.shape f hf) hS.day (by omega) (fun g hg => ?_))
    have f1 : Fr [35, 70, 70 + 1] mi (cu mi (70 + 1) g) := Fr.none.cu n1
    have hS1 : CS 70 (cutS T S) (cu mi (70 + 1) g) := hS.setSh hg
    have hs1 := hs.cut1
    have hT1 := hT.fr f1 hok
    refine ⟨fun h => absurd h (by decide), fun _ => ?_⟩
    refine hC _ _ _ _ (s_eat (Or.inl rfl) hT1 hw hl hS1 hs1 (fun mi2 ml2 f2 hfl hS2 => ?_))
    have f2 : Fr [35, 70, 70 + 1] mi mi2 := f1.trans (f2.mono (ms _ (Or.inl rfl)))
    have hs2 := hs1.eatS
    have hT2 := hT.fr f2 hok
    refine ⟨fun h => absurd h (by decide), fun _ => ?_⟩
    have er := hT2.rain
    refine ⟨fun h => ?_, fun h => ?_⟩
    · have hz := jZ h er
      exact ⟨rfl, fin _ _ _ f2 hfl hS2 (by unfold passN; simp only [hz]; rfl)⟩
    · have hz := jNZ h er
      have hc : (true && !(T 0 12 == 0)) = true := by simp [hz]
      refine hC _ _ _ _ (s_rainOn (Or.inl rfl) hT2 hw hS2 hs2 (fun mi3 f3 hS3 => ?_))
      have f3 : Fr [35, 70, 70 + 1] mi mi3 := f2.trans (f3.mono (ms _ (Or.inr (Or.inl rfl))))
      exact ⟨rfl, fin _ _ _ f3 hfl hS3 (by simp only [passN, hc]; rfl)⟩
  · intro K Kl hK hC
    refine ⟨fun h => absurd h (by decide), fun _ => ?_⟩
    refine hC _ _ _ _ (s_cutThoseDue (Or.inr rfl) hT hw (fun f hf => hS.shape f hf) hS.day (by omega) (fun g hg => ?_))
    have f1 : Fr [35, 86, 86 + 1] mi (cu mi (86 + 1) g) := Fr.none.cu n1
    have hS1 : CS 86 (cutS T S) (cu mi (86 + 1) g) := hS.setSh hg
    have hs1 := hs.cut1
    have hT1 := hT.fr f1 hok
    refine ⟨fun h => absurd h (by decide), fun _ => ?_⟩
    refine hC _ _ _ _ (s_eat (Or.inr rfl) hT1 hw hl hS1 hs1 (fun mi2 ml2 f2 hfl hS2 => ?_))
    have f2 : Fr [35, 86, 86 + 1] mi mi2 := f1.trans (f2.mono (ms _ (Or.inl rfl)))
    have hs2 := hs1.eatS
    have hT2 := hT.fr f2 hok
    refine ⟨fun h => absurd h (by decide), fun _ => ?_⟩
    have er := hT2.rain
    refine ⟨fun h => ?_, fun h => ?_⟩
    · have hz := jZ h er
      exact ⟨rfl, fin _ _ _ f2 hfl hS2 (by unfold passN; simp only [hz]; rfl)⟩
    · have hz := jNZ h er
      have hc : (true && !(T 0 12 == 0)) = true := by simp [hz]
      refine hC _ _ _ _ (s_rainOn (Or.inr rfl) hT2 hw hS2 hs2 (fun mi3 f3 hS3 => ?_))
      have f3 : Fr [35, 86, 86 + 1] mi mi3 := f2.trans (f3.mono (ms _ (Or.inr (Or.inl rfl))))
      exact ⟨rfl, fin _ _ _ f3 hfl hS3 (by simp only [passN, hc]; rfl)⟩
  · intro K Kl hK hC
    refine ⟨fun h => absurd h (by decide), fun _ => ?_⟩
    refine hC _ _ _ _ (s_cutThoseDue (Or.inl rfl) hT hw (fun f hf => hS.shape f hf) hS.day (by omega) (fun g hg => ?_))
    have f1 : Fr [35, 70, 70 + 1] mi (cu mi (70 + 1) g) := Fr.none.cu n1
    have hS1 : CS 70 (cutS T S) (cu mi (70 + 1) g) := hS.setSh hg
    have hs1 := hs.cut1
    have hT1 := hT.fr f1 hok
    refine ⟨fun h => absurd h (by decide), fun _ => ?_⟩
    refine hC _ _ _ _ (s_eat (Or.inl rfl) hT1 hw hl hS1 hs1 (fun mi2 ml2 f2 hfl hS2 => ?_))
    have f2 : Fr [35, 70, 70 + 1] mi mi2 := f1.trans (f2.mono (ms _ (Or.inl rfl)))
    have hs2 := hs1.eatS
    have hT2 := hT.fr f2 hok
    refine ⟨fun _ => ?_, fun h => absurd (by decide) h⟩
    exact ⟨rfl, fin _ _ _ f2 hfl hS2 (by unfold passN; rfl)⟩
  · intro K Kl hK hC
    refine ⟨fun h => absurd h (by decide), fun _ => ?_⟩
    refine hC _ _ _ _ (s_cutThoseDue (Or.inr rfl) hT hw (fun f hf => hS.shape f hf) hS.day (by omega) (fun g hg => ?_))
    have f1 : Fr [35, 86, 86 + 1] mi (cu mi (86 + 1) g) := Fr.none.cu n1
    have hS1 : CS 86 (cutS T S) (cu mi (86 + 1) g) := hS.setSh hg
    have hs1 := hs.cut1
    have hT1 := hT.fr f1 hok
    refine ⟨fun h => absurd h (by decide), fun _ => ?_⟩
    refine hC _ _ _ _ (s_eat (Or.inr rfl) hT1 hw hl hS1 hs1 (fun mi2 ml2 f2 hfl hS2 => ?_))
    have f2 : Fr [35, 86, 86 + 1] mi mi2 := f1.trans (f2.mono (ms _ (Or.inl rfl)))
    have hs2 := hs1.eatS
    have hT2 := hT.fr f2 hok
    refine ⟨fun _ => ?_, fun h => absurd (by decide) h⟩
    exact ⟨rfl, fin _ _ _ f2 hfl hS2 (by unfold passN; rfl)⟩
  · intro K Kl hK hC
    refine ⟨fun _ => ?_, fun h => absurd (by decide) h⟩
    have f1 : Fr [35, 70, 70 + 1] mi mi := Fr.none
    have hS1 := hS
    have hs1 := hs
    have hT1 := hT.fr f1 hok
    refine ⟨fun h => absurd h (by decide), fun _ => ?_⟩
    refine hC _ _ _ _ (s_eat (Or.inl rfl) hT1 hw hl hS1 hs1 (fun mi2 ml2 f2 hfl hS2 => ?_))
    have f2 : Fr [35, 70, 70 + 1] mi mi2 := f1.trans (f2.mono (ms _ (Or.inl rfl)))
    have hs2 := hs1.eatS
    have hT2 := hT.fr f2 hok
    refine ⟨fun h => absurd h (by decide), fun _ => ?_⟩
    have er := hT2.rain
    refine ⟨fun h => ?_, fun h => ?_⟩
    · have hz := jZ h er
      exact ⟨rfl, fin _ _ _ f2 hfl hS2 (by unfold passN; simp only [hz]; rfl)⟩
    · have hz := jNZ h er
      have hc : (true && !(T 0 12 == 0)) = true := by simp [hz]
      refine hC _ _ _ _ (s_rainOn (Or.inl rfl) hT2 hw hS2 hs2 (fun mi3 f3 hS3 => ?_))
      have f3 : Fr [35, 70, 70 + 1] mi mi3 := f2.trans (f3.mono (ms _ (Or.inr (Or.inl rfl))))
      exact ⟨rfl, fin _ _ _ f3 hfl hS3 (by simp only [passN, hc]; rfl)⟩
  · intro K Kl hK hC
    refine ⟨fun _ => ?_, fun h => absurd (by decide) h⟩
    have f1 : Fr [35, 86, 86 + 1] mi mi := Fr.none
    have hS1 := hS
    have hs1 := hs
    have hT1 := hT.fr f1 hok
    refine ⟨fun h => absurd h (by decide), fun _ => ?_⟩
    refine hC _ _ _ _ (s_eat (Or.inr rfl) hT1 hw hl hS1 hs1 (fun mi2 ml2 f2 hfl hS2 => ?_))
    have f2 : Fr [35, 86, 86 + 1] mi mi2 := f1.trans (f2.mono (ms _ (Or.inl rfl)))
    have hs2 := hs1.eatS
    have hT2 := hT.fr f2 hok
    refine ⟨fun h => absurd h (by decide), fun _ => ?_⟩
    have er := hT2.rain
    refine ⟨fun h => ?_, fun h => ?_⟩
    · have hz := jZ h er
      exact ⟨rfl, fin _ _ _ f2 hfl hS2 (by unfold passN; simp only [hz]; rfl)⟩
    · have hz := jNZ h er
      have hc : (true && !(T 0 12 == 0)) = true := by simp [hz]
      refine hC _ _ _ _ (s_rainOn (Or.inr rfl) hT2 hw hS2 hs2 (fun mi3 f3 hS3 => ?_))
      have f3 : Fr [35, 86, 86 + 1] mi mi3 := f2.trans (f3.mono (ms _ (Or.inr (Or.inl rfl))))
      exact ⟨rfl, fin _ _ _ f3 hfl hS3 (by simp only [passN, hc]; rfl)⟩
  · intro K Kl hK hC
    refine ⟨fun h => absurd h (by decide), fun _ => ?_⟩
    refine hC _ _ _ _ (s_cutThoseDue (Or.inl rfl) hT hw (fun f hf => hS.shape f hf) hS.day (by omega) (fun g hg => ?_))
    have f1 : Fr [35, 70, 70 + 1] mi (cu mi (70 + 1) g) := Fr.none.cu n1
    have hS1 : CS 70 (cutS T S) (cu mi (70 + 1) g) := hS.setSh hg
    have hs1 := hs.cut1
    have hT1 := hT.fr f1 hok
    refine ⟨fun _ => ?_, fun h => absurd (by decide) h⟩
    have f2 := f1
    have hS2 := hS1
    have hs2 := hs1
    have hfl : Fr [36] ml ml := Fr.none
    have hT2 := hT.fr f2 hok
    refine ⟨fun h => absurd h (by decide), fun _ => ?_⟩
    have er := hT2.rain
    refine ⟨fun h => ?_, fun h => ?_⟩
    · have hz := jZ h er
      exact ⟨rfl, fin _ _ _ f2 hfl hS2 (by unfold passN; simp only [hz]; rfl)⟩
    · have hz := jNZ h er
      have hc : (true && !(T 0 12 == 0)) = true := by simp [hz]
      refine hC _ _ _ _ (s_rainOn (Or.inl rfl) hT2 hw hS2 hs2 (fun mi3 f3 hS3 => ?_))
      have f3 : Fr [35, 70, 70 + 1] mi mi3 := f2.trans (f3.mono (ms _ (Or.inr (Or.inl rfl))))
      exact ⟨rfl, fin _ _ _ f3 hfl hS3 (by simp only [passN, hc]; rfl)⟩
  · intro K Kl hK hC
    refine ⟨fun h => absurd h (by decide), fun _ => ?_⟩
    refine hC _ _ _ _ (s_cutThoseDue (Or.inr rfl) hT hw (fun f hf => hS.shape f hf) hS.day (by omega) (fun g hg => ?_))
    have f1 : Fr [35, 86, 86 + 1] mi (cu mi (86 + 1) g) := Fr.none.cu n1
    have hS1 : CS 86 (cutS T S) (cu mi (86 + 1) g) := hS.setSh hg
    have hs1 := hs.cut1
    have hT1 := hT.fr f1 hok
    refine ⟨fun _ => ?_, fun h => absurd (by decide) h⟩
    have f2 := f1
    have hS2 := hS1
    have hs2 := hs1
    have hfl : Fr [36] ml ml := Fr.none
    have hT2 := hT.fr f2 hok
    refine ⟨fun h => absurd h (by decide), fun _ => ?_⟩
    have er := hT2.rain
    refine ⟨fun h => ?_, fun h => ?_⟩
    · have hz := jZ h er
      exact ⟨rfl, fin _ _ _ f2 hfl hS2 (by unfold passN; simp only [hz]; rfl)⟩
    · have hz := jNZ h er
      have hc : (true && !(T 0 12 == 0)) = true := by simp [hz]
      refine hC _ _ _ _ (s_rainOn (Or.inr rfl) hT2 hw hS2 hs2 (fun mi3 f3 hS3 => ?_))
      have f3 : Fr [35, 86, 86 + 1] mi mi3 := f2.trans (f3.mono (ms _ (Or.inr (Or.inl rfl))))
      exact ⟨rfl, fin _ _ _ f3 hfl hS3 (by simp only [passN, hc]; rfl)⟩
end
