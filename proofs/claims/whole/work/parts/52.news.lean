/-! WHAT HAS BEEN READ, AND NEWS (the class) -/
def sRd (S : Nat → Nat → Nat) (r : Nat → Nat) : Nat → Nat → Nat := fun a i => if a = 2 then r i else S a i
/-- how often hill h reads word w now -/
def rdsN (T S : Nat → Nat → Nat) (w h : Nat) : Nat := cntN T (fun f => readN T h (S 1 f)) w
/-- what is written down as a day begins -/
def wrN (T S : Nat → Nat → Nat) (w h : Nat) : Nat := if S 2 (6 * h + w) = 0 ∧ rdsN T S w h ≠ 0 then S 0 0 + 1 else S 2 (6 * h + w)
def wrA (T S : Nat → Nat → Nat) : Nat → Nat := fun i => if i / 6 < T 0 5 ∧ i % 6 < T 0 4 then wrN T S (i % 6) (i / 6) else S 2 i
def updN (f : Nat → Nat) (k x : Nat) : Nat → Nat := fun i => if i = k then x else f i
def rlxN (T : Nat → Nat → Nat) (s : Nat → Nat) (l : Nat) : Nat → Nat :=
  updN (updN s (T 16 (3 * l)) (min (s (T 16 (3 * l))) (s (T 16 (3 * l + 1)) + T 16 (3 * l + 2)))) (T 16 (3 * l + 1)) (min (updN s (T 16 (3 * l)) (min (s (T 16 (3 * l))) (s (T 16 (3 * l + 1)) + T 16 (3 * l + 2))) (T 16 (3 * l + 1))) (updN s (T 16 (3 * l)) (min (s (T 16 (3 * l))) (s (T 16 (3 * l + 1)) + T 16 (3 * l + 2))) (T 16 (3 * l)) + T 16 (3 * l + 2)))
def rl1N (T : Nat → Nat → Nat) (s : Nat → Nat) : Nat → Nat → Nat
  | 0 => s
  | l + 1 => rlxN T (rl1N T s l) l
def sprN (T : Nat → Nat → Nat) (s : Nat → Nat) : Nat → Nat → Nat
  | 0 => s
  | r + 1 => rl1N T (sprN T s r) (T 0 8)
/-- since when hill h itself has read word w -/
def rsN (T S : Nat → Nat → Nat) (w h : Nat) : Nat := if S 2 (6 * h + w) ≠ 0 then S 2 (6 * h + w) - 1 else if rdsN T S w h ≠ 0 then S 0 0 else 1000000
def newsN (T S : Nat → Nat → Nat) (w h : Nat) : Nat := sprN T (fun i => if i < T 0 5 then rsN T S w i else 1000000) (T 0 8) h
theorem updN_le {f : Nat → Nat} {k x B : Nat} (hf : ∀ i, f i ≤ B) (hx : x ≤ B) (i : Nat) : updN f k x i ≤ B := by
  unfold updN
  split
  · exact hx
  · exact hf i
theorem rlxN_le {T : Nat → Nat → Nat} {s : Nat → Nat} {B : Nat} (hs : ∀ i, s i ≤ B) (l i : Nat) : rlxN T s l i ≤ B := by
  unfold rlxN
  have h1 : ∀ i, updN s (T 16 (3 * l)) (min (s (T 16 (3 * l))) (s (T 16 (3 * l + 1)) + T 16 (3 * l + 2))) i ≤ B := updN_le hs (Nat.le_trans (Nat.min_le_left _ _) (hs _))
  exact updN_le h1 (Nat.le_trans (Nat.min_le_left _ _) (h1 _)) i
theorem rl1N_le {T : Nat → Nat → Nat} {s : Nat → Nat} {B : Nat} (hs : ∀ i, s i ≤ B) : ∀ l i, rl1N T s l i ≤ B
  | 0, i => hs i
  | l + 1, i => rlxN_le (fun i => rl1N_le hs l i) l i
theorem sprN_le {T : Nat → Nat → Nat} {s : Nat → Nat} {B : Nat} (hs : ∀ i, s i ≤ B) : ∀ r i, sprN T s r i ≤ B
  | 0, i => hs i
  | r + 1, i => rl1N_le (fun i => sprN_le hs r i) _ i
theorem rsN_le {T S : Nat → Nat → Nat} (hs : wfS T S) (w h : Nat) : rsN T S w h ≤ 1000000 := by
  have h1 := hs.ro (6 * h + w)
  have h2 := hs.day
  unfold rsN
  split
  · omega
  · split <;> omega
theorem s_min2 {d n : Nat} {Q : Option Value → Mm → Prop} {mi : Nat → Nat → Int32} {ml : Nat → Nat → Int64} {mr : Nat → Nat → Option Nat} (hn : n ≤ 136) {a b : Nat} {x y : Int32} (hx : x = nI a) (hy : y = nI b) (ha : a < 2 ^ 31) (hb : b < 2 ^ 31) (hQ : Q (some (.int (nI (min a b)))) (mi, ml, mr, n)) : Cd (d + 1) 338 [.int x, .int y] (mi, ml, mr, n) Q := by
  subst hx; subst hy
  exact s_min hn ha hb hQ
theorem cu2 (f : Nat → Nat → Int32) (c : Nat) (g : Nat → Int32) (i j : Nat) (x y : Int32) : cu (cu (cu f c g) c (upd (cu f c g c) i x)) c (upd (cu (cu f c g) c (upd (cu f c g c) i x) c) j y) = cu f c (upd (upd g i x) j y) := by simp only [cu_cu, cu_self]
theorem nI_predge {n : Nat} (hn : n < 2 ^ 31) : (0 ≤ nI n - 1) ↔ n ≠ 0 := by
  rcases Nat.eq_zero_or_pos n with z | z
  · subst z; decide
  · obtain ⟨q, rfl⟩ : ∃ q, n = q + 1 := ⟨n - 1, by omega⟩
    rw [nI_pred]
    exact ⟨fun _ => by omega, fun _ => nI_pos' (by omega)⟩
theorem ge_not {x : Int32} (h : ¬ 0 ≤ x) : x < 0 := by
  rcases Int32.lt_or_le x 0 with z | z
  · exact z
  · exact absurd z h
theorem lt_not {x : Int32} (h : x < 0) : ¬ 0 ≤ x := Int32.not_le.mpr h
section
variable {d : Nat} {Q : Option Value → Mm → Prop} {T S : Nat → Nat → Nat} {mi : Nat → Nat → Int32} {ml : Nat → Nat → Int64} {rd : Option Nat}
set_option maxHeartbeats 1000000 in
theorem s_writeDown (hT : CT 0 T mi) (hw : wfT T) (hS : CS 70 S mi) (hs : wfS T S)
    (hQ : ∀ mi', Fr [72, 90] mi mi' → CS 70 (sRd S (wrA T S)) mi' → Q none (mi', ml, R0 rd, 136)) : Cd (d + 5) k_Search_writeDownReading [.ref 84] (mi, ml, R0 rd, 136) Q := by
  have h3 := hw.hl3
  have h6 := hw.wd6
  have hday := hs.day
  have inner : ∀ h, h < T 0 5 → (∀ v2 v3 mi', Fr [72, 90] mi mi' → (∀ a, a < 6 → ∀ b, b < 3 → mi' 72 (a * 3 + b) = nI (if b < h + 1 ∧ a < T 0 4 then wrN T S a b else S 2 (6 * b + a)) - 1) → GoM (d + 4) k_Search_writeDownReading 136 Q 2 [.ref 84, .int (nI h + nI 1), v2, v3] [] (mi', ml, R0 rd, 136)) → ∀ j, j ≤ T 0 4 → ∀ v3 mi', Fr [72, 90] mi mi' → (∀ f, f < 48 → mi' 90 f = nI (readN T h (S 1 f))) → (∀ a, a < 6 → ∀ b, b < 3 → mi' 72 (a * 3 + b) = nI (if (b < h ∧ a < T 0 4) ∨ (b = h ∧ a < j) then wrN T S a b else S 2 (6 * b + a)) - 1) → GoM (d + 4) k_Search_writeDownReading 136 Q 23 [.ref 84, .int (nI h), .int (nI j), v3] [] (mi', ml, R0 rd, 136) := by
    intro h hh ihh
    refine upto ?_ ?_
    · intro v3 mi' hf h90 h72
      have hT' := hT.fr hf rfl
      have ew : mi' 13 1 = nI (T 0 4) := hT'.words
      refine g_Search_writeDownReading (fun K Kl hK hC => ?_)
      refine ⟨fun _ => hK _ _ _ _ (ihh _ _ mi' hf (fun a ha b hb => ?_)), fun h1 => absurd (jNLE h1) (by omega)⟩
      rw [h72 a ha b hb]
      congr 2
      by_cases hc : b < h + 1 ∧ a < T 0 4
      · rw [if_pos hc, if_pos (by omega)]
      · rw [if_neg hc, if_neg (by omega)]
    · intro j hj ih v3 mi' hf h90 h72
      have hT' := hT.fr hf rfl
      have ew : mi' 13 1 = nI (T 0 4) := hT'.words
      have ed : mi' 70 0 = nI (S 0 0) := by rw [hf 70 rfl]; exact hS.day
      have hr := hs.ro (6 * h + j)
      have here := h72 j (by omega) h (by omega)
      rw [if_neg (by omega)] at here
      have eix : nI j * nI 3 + nI h = nI (j * 3 + h) := by rw [pk_mul, nI_add]
      have keepit : wrN T S j h = S 2 (6 * h + j) → ∀ v3, GoM (d + 4) k_Search_writeDownReading 136 Q 23 [.ref 84, .int (nI h), .int (nI j + nI 1), v3] [] (mi', ml, R0 rd, 136) := by
        intro hk v3
        have ih := ih v3 mi' hf h90 (fun a ha b hb => by
          rw [h72 a ha b hb]
          congr 2
          by_cases hc : (b < h ∧ a < T 0 4) ∨ (b = h ∧ a < j)
          · rw [if_pos hc, if_pos (by omega)]
          · rw [if_neg hc]
            by_cases hc2 : (b < h ∧ a < T 0 4) ∨ (b = h ∧ a < j + 1)
            · have h1 : b = h := by omega
              have h2 : a = j := by omega
              subst h1; subst h2
              rw [if_pos hc2, hk]
            · rw [if_neg hc2])
        rw [nI1] at ih
        exact ih
      refine g_Search_writeDownReading (fun K Kl hK hC => ?_)
      refine ⟨fun h1 => absurd (jLE h1) (by omega), fun _ => ⟨j * 3 + h, by omega, eix, ?_⟩⟩
      rw [here]
      refine ⟨fun h1 => ?_, fun h1 => ?_⟩
      · have h1 := (nI_predge (by omega)).mp h1
        exact hK _ _ _ _ (keepit (by unfold wrN; rw [if_neg (by omega)]) _)
      · have hz : S 2 (6 * h + j) = 0 := by
          rcases Nat.eq_zero_or_pos (S 2 (6 * h + j)) with z | z
          · exact z
          · exact absurd ((nI_predge (by omega)).mpr (by omega)) h1
        refine hC _ _ _ _ (s_placesRead hT' hw (rl := fun f => readN T h (S 1 f)) (fun f hf => ⟨h90 f hf, readN_le hw _ _⟩) hj ?_)
        have hcl := cntN_le hw (fun f => readN T h (S 1 f)) j
        refine ⟨fun h2 => ?_, fun h2 => ⟨j * 3 + h, by omega, eix, ?_⟩⟩
        · have h2 : nI (cntN T (fun f => readN T h (S 1 f)) j) ≤ nI 0 := h2
          have h2 := iLE h2
          exact hK _ _ _ _ (keepit (by unfold wrN rdsN; rw [if_neg (by omega)]) _)
        · have h2 : ¬ nI (cntN T (fun f => readN T h (S 1 f)) j) ≤ nI 0 := h2
          have h2 := iNLE h2
          rw [ed]
          have ih := ih (.int (nI j * nI 3 + nI h)) (cu mi' 72 (upd (mi' 72) (j * 3 + h) (nI (S 0 0)))) (hf.cu rfl) h90 (fun a ha b hb => by
            rw [cu_self]
            by_cases hab : b = h ∧ a = j
            · obtain ⟨rfl, rfl⟩ := hab
              rw [pk_us, if_pos (by omega)]
              unfold wrN rdsN
              rw [if_pos ⟨hz, by omega⟩, nI_pred]
            · rw [pk_un (by omega), h72 a ha b hb]
              congr 2
              by_cases hc : (b < h ∧ a < T 0 4) ∨ (b = h ∧ a < j)
              · rw [if_pos hc, if_pos (by omega)]
              · rw [if_neg hc, if_neg (by omega)])
          rw [nI1] at ih
          exact hK _ _ _ _ ih
  have lp : ∀ h, h ≤ T 0 5 → ∀ v2 v3 mi', Fr [72, 90] mi mi' → (∀ a, a < 6 → ∀ b, b < 3 → mi' 72 (a * 3 + b) = nI (if b < h ∧ a < T 0 4 then wrN T S a b else S 2 (6 * b + a)) - 1) → GoM (d + 4) k_Search_writeDownReading 136 Q 2 [.ref 84, .int (nI h), v2, v3] [] (mi', ml, R0 rd, 136) := by
    refine upto ?_ ?_
    · intro v2 v3 mi' hf h72
      have hT' := hT.fr hf rfl
      have eh : mi' 20 0 = nI (T 0 5) := hT'.hills
      refine g_Search_writeDownReading (fun K Kl hK hC => ?_)
      refine ⟨fun _ => ⟨rfl, hQ mi' hf ?_⟩, fun h1 => absurd (jNLE h1) (by omega)⟩
      have f70 := hf 70 rfl
      have f71 : mi' (70 + 1) = mi (70 + 1) := hf 71 rfl
      unfold CS
      rw [f70, f71]
      refine ⟨hS.day, hS.purse, hS.last, hS.hung, hS.shape, fun a ha b hb => ?_⟩
      refine (h72 a ha b hb).trans ?_
      congr 2
      show _ = wrA T S (6 * b + a)
      unfold wrA
      rw [show (6 * b + a) / 6 = b by omega, show (6 * b + a) % 6 = a by omega]
    · intro h hh ih v2 v3 mi' hf h72
      have hT' := hT.fr hf rfl
      have eh : mi' 20 0 = nI (T 0 5) := hT'.hills
      refine g_Search_writeDownReading (fun K Kl hK hC => ?_)
      refine ⟨fun h1 => absurd (jLE h1) (by omega), fun _ => ?_⟩
      refine hC _ _ _ _ (s_readAll hT' hw (sh := S 1) (fun f hf2 => by rw [hf 71 rfl]; exact ⟨hS.shape f hf2, hs.sh f⟩) hh (fun g hg => ?_))
      rw [nI1] at ih
      have := inner h hh ih 0 (Nat.zero_le _) v3 (cu mi' 90 g) (hf.cu rfl) hg (fun a ha b hb => by
        rw [cu_ne (by omega), h72 a ha b hb]
        congr 2
        by_cases hc : b < h ∧ a < T 0 4
        · rw [if_pos hc, if_pos (by omega)]
        · rw [if_neg hc, if_neg (by omega)])
      exact hK _ _ _ _ this
  refine r_Search_writeDownReading (by decide) (fun K Kl hK hC => ?_)
  exact hK _ _ _ _ (lp 0 (Nat.zero_le _) _ _ mi Fr.none (fun a ha b hb => by rw [if_neg (by omega)]; exact hS.readOn a ha b hb))
theorem s_readSince (hT : CT 0 T mi) (hw : wfT T) (hS : CS 70 S mi) (hs : wfS T S) {w h : Nat} (hwd : w < T 0 4) (hh : h < T 0 5)
    (hQ : ∀ mi', Fr [90] mi mi' → Q (some (.int (nI (rsN T S w h)))) (mi', ml, R0 rd, 136)) : Cd (d + 5) k_Search_readSince [.ref 84, .int (nI w), .int (nI h)] (mi, ml, R0 rd, 136) Q := by
  have h3 := hw.hl3
  have h6 := hw.wd6
  have hr := hs.ro (6 * h + w)
  have e : mi 72 (w * 3 + h) = nI (S 2 (6 * h + w)) - 1 := hS.readOn w (by omega) h (by omega)
  have ed : mi 70 0 = nI (S 0 0) := hS.day
  refine r_Search_readSince (by decide) (fun K Kl hK hC => ⟨w * 3 + h, by omega, by rw [pk_mul, nI_add], ?_⟩)
  rw [e]
  refine ⟨fun h1 => ?_, fun h1 => ⟨rfl, ?_⟩⟩
  · have hz : S 2 (6 * h + w) = 0 := by
      rcases Nat.eq_zero_or_pos (S 2 (6 * h + w)) with z | z
      · exact z
      · exact absurd ((nI_predge (by omega)).mpr (by omega)) (lt_not h1)
    refine hC _ _ _ _ (s_readAll hT hw (hS.sh hs) hh (fun g hg => ?_))
    have hT' : CT 0 T (cu mi 90 g) := hT.keep (fun c _ _ => cu_ne (by omega))
    refine hC _ _ _ _ (s_placesRead hT' hw (rl := fun f => readN T h (S 1 f)) (fun f hf => ⟨hg f hf, readN_le hw _ _⟩) hwd ?_)
    have hcl := cntN_le hw (fun f => readN T h (S 1 f)) w
    have hQ := hQ _ (Fr.cu Fr.none rfl : Fr [90] mi (cu mi 90 g))
    unfold rsN rdsN at hQ
    rw [if_neg (by omega)] at hQ
    refine ⟨fun h2 => ⟨rfl, ?_⟩, fun h2 => ⟨rfl, ?_⟩⟩
    · have h2 : nI (cntN T (fun f => readN T h (S 1 f)) w) ≤ nI 0 := h2
      have h2 := iLE h2
      rw [if_neg (by omega)] at hQ
      exact hQ
    · have h2 : ¬ nI (cntN T (fun f => readN T h (S 1 f)) w) ≤ nI 0 := h2
      have h2 := iNLE h2
      rw [if_pos (by omega), ← ed] at hQ
      exact hQ
  · have hz : S 2 (6 * h + w) ≠ 0 := fun z => h1 (by rw [z]; decide)
    have hQ := hQ mi Fr.none
    unfold rsN at hQ
    rw [if_pos hz] at hQ
    obtain ⟨q, hq⟩ : ∃ q, S 2 (6 * h + w) = q + 1 := ⟨S 2 (6 * h + w) - 1, by omega⟩
    rw [hq] at hQ ⊢
    rw [nI_pred]
    exact hQ
set_option maxHeartbeats 1000000 in
theorem s_spread (hT : CT 0 T mi) (hw : wfT T) {s : Nat → Nat} (hsb : ∀ i, s i ≤ 1000000) (hs0 : ∀ i, i < 3 → mi 91 i = nI (s i)) (hQ : ∀ g : Nat → Int32, (∀ i, i < 3 → g i = nI (sprN T s (T 0 8) i)) → Q none (cu mi 91 g, ml, R0 rd, 136)) : Cd (d + 2) k_Hills_spread [.ref 20, .ref 91] (mi, ml, R0 rd, 136) Q := by
  have h3 := hw.lk3
  have hh3 := hw.hl3
  have inner : ∀ r, r < T 0 8 → (∀ v3 v4 v5, ∀ g : Nat → Int32, (∀ i, i < 3 → g i = nI (sprN T s (r + 1) i)) → GoM (d + 1) k_Hills_spread 136 Q 2 [.ref 20, .ref 91, .int (nI r + nI 1), v3, v4, v5] [] (cu mi 91 g, ml, R0 rd, 136)) → ∀ l, l ≤ T 0 8 → ∀ v4 v5, ∀ g : Nat → Int32, (∀ i, i < 3 → g i = nI (rl1N T (sprN T s r) l i)) → GoM (d + 1) k_Hills_spread 136 Q 12 [.ref 20, .ref 91, .int (nI r), .int (nI l), v4, v5] [] (cu mi 91 g, ml, R0 rd, 136) := by
    intro r hr ihr
    refine upto ?_ ?_
    · intro v4 v5 g hg
      have el : cu mi 91 g 20 1 = nI (T 0 8) := hT.links
      refine g_Hills_spread (fun K Kl hK hC => ?_)
      exact ⟨fun _ => hK _ _ _ _ (ihr _ _ _ g hg), fun h1 => absurd (jNLE h1) (by omega)⟩
    · intro l hl ih v4 v5 g hg
      have el : cu mi 91 g 20 1 = nI (T 0 8) := hT.links
      have l1 : mi 23 l = nI (T 16 (3 * l)) := hT.l1 l hl
      have l2 : mi 24 l = nI (T 16 (3 * l + 1)) := hT.l2 l hl
      have l3 : mi 25 l = nI (T 16 (3 * l + 2)) := hT.l3 l hl
      have hlk := hw.lk l hl
      have hb : ∀ i, rl1N T (sprN T s r) l i ≤ 1000000 := fun i => rl1N_le (fun i => sprN_le hsb r i) l i
      have ih := ih (.int (nI (T 16 (3 * l)))) (.int (nI (T 16 (3 * l + 1))))
      generalize ha : T 16 (3 * l) = a at *
      generalize hbb : T 16 (3 * l + 1) = b at *
      generalize hnn : T 16 (3 * l + 2) = n at *
      have hba := hb a; have hbb2 := hb b
      refine g_Hills_spread (fun K Kl hK hC => ?_)
      refine ⟨fun h1 => absurd (jLE h1) (by omega), fun _ => ⟨l, by omega, rfl, ?_⟩⟩
      rw [show cu mi 91 g 23 = mi 23 from rfl, l1]
      refine ⟨l, by omega, rfl, ?_⟩
      rw [show cu mi 91 g 24 = mi 24 from rfl, l2]
      refine ⟨a, by omega, rfl, b, by omega, rfl, l, by omega, rfl, ?_⟩
      rw [show cu mi 91 g 25 = mi 25 from rfl, l3, show cu mi 91 g 91 = g from rfl, hg a (by omega), hg b (by omega)]
      refine hC _ _ _ _ (s_min2 (by decide) rfl (nI_add _ _) (by omega) (by omega) ?_)
      refine ⟨a, by omega, rfl, ?_⟩
      have u1 : ∀ i, i < 3 → upd g a (nI (min (rl1N T (sprN T s r) l a) (rl1N T (sprN T s r) l b + n))) i = nI (updN (rl1N T (sprN T s r) l) a (min (rl1N T (sprN T s r) l a) (rl1N T (sprN T s r) l b + n)) i) := by
        intro i hi
        unfold updN
        by_cases h1 : i = a
        · rw [if_pos h1, h1]; exact pk_us
        · rw [if_neg h1, pk_un h1]; exact hg i hi
      have ub : ∀ i, updN (rl1N T (sprN T s r) l) a (min (rl1N T (sprN T s r) l a) (rl1N T (sprN T s r) l b + n)) i ≤ 1000000 := updN_le hb (Nat.le_trans (Nat.min_le_left _ _) hba)
      have uba := ub a; have ubb := ub b
      refine ⟨b, by omega, rfl, a, by omega, rfl, l, by omega, rfl, ?_⟩
      rw [cuu, show cu mi 91 (upd g a (nI (min (rl1N T (sprN T s r) l a) (rl1N T (sprN T s r) l b + n)))) 25 = mi 25 from rfl, l3, cu_self, u1 a (by omega), u1 b (by omega)]
      refine hC _ _ _ _ (s_min2 (by decide) rfl (nI_add _ _) (by omega) (by omega) ?_)
      refine ⟨b, by omega, rfl, ?_⟩
      rw [cuu]
      have ih := ih (upd (upd g a (nI (min (rl1N T (sprN T s r) l a) (rl1N T (sprN T s r) l b + n)))) b (nI (min (updN (rl1N T (sprN T s r) l) a (min (rl1N T (sprN T s r) l a) (rl1N T (sprN T s r) l b + n)) b) (updN (rl1N T (sprN T s r) l) a (min (rl1N T (sprN T s r) l a) (rl1N T (sprN T s r) l b + n)) a + n)))) (fun i hi => by
        rw [rl1N]
        unfold rlxN
        rw [ha, hbb, hnn]
        by_cases h1 : i = b
        · subst h1; rw [pk_us]; congr 1; exact (if_pos rfl).symm
        · rw [pk_un h1, u1 i hi]; congr 1; exact (if_neg h1).symm)
      rw [nI1] at ih
      exact hK _ _ _ _ ih
  have lp : ∀ r, r ≤ T 0 8 → ∀ v3 v4 v5, ∀ g : Nat → Int32, (∀ i, i < 3 → g i = nI (sprN T s r i)) → GoM (d + 1) k_Hills_spread 136 Q 2 [.ref 20, .ref 91, .int (nI r), v3, v4, v5] [] (cu mi 91 g, ml, R0 rd, 136) := by
    refine upto ?_ ?_
    · intro v3 v4 v5 g hg
      have el : cu mi 91 g 20 1 = nI (T 0 8) := hT.links
      refine g_Hills_spread (fun K Kl hK hC => ?_)
      exact ⟨fun _ => ⟨rfl, hQ g hg⟩, fun h1 => absurd (jNLE h1) (by omega)⟩
    · intro r hr ih v3 v4 v5 g hg
      have el : cu mi 91 g 20 1 = nI (T 0 8) := hT.links
      rw [nI1] at ih
      refine g_Hills_spread (fun K Kl hK hC => ?_)
      refine ⟨fun h1 => absurd (jLE h1) (by omega), fun _ => ?_⟩
      exact hK _ _ _ _ (inner r hr ih 0 (Nat.zero_le _) _ _ g hg)
  refine r_Hills_spread (by decide) (fun K Kl hK hC => ?_)
  have := lp 0 (Nat.zero_le _) .null .null .null (mi 91) hs0
  rw [cu_id] at this
  exact hK _ _ _ _ this
theorem s_knownSince (hT : CT 0 T mi) (hw : wfT T) (hS : CS 70 S mi) (hs : wfS T S) {w h : Nat} (hwd : w < T 0 4) (hh : h < T 0 5)
    (hQ : ∀ mi', Fr [90, 91] mi mi' → Q (some (.int (if 1000000 ≤ newsN T S w h then -2 else nI (newsN T S w h)))) (mi', ml, R0 rd, 136)) : Cd (d + 6) k_Search_knownSince [.ref 84, .int (nI w), .int (nI h)] (mi, ml, R0 rd, 136) Q := by
  have h3 := hw.hl3
  have hsb : ∀ i, (if i < T 0 5 then rsN T S w i else 1000000) ≤ 1000000 := fun i => by
    split
    · exact rsN_le hs w i
    · exact Nat.le_refl _
  have lp : ∀ j, j ≤ 3 → ∀ mi', Fr [90, 91] mi mi' → (∀ i, i < j → mi' 91 i = nI (if i < T 0 5 then rsN T S w i else 1000000)) → GoM (d + 5) k_Search_knownSince 136 Q 2 [.ref 84, .int (nI w), .int (nI h), .int (nI j)] [] (mi', ml, R0 rd, 136) := by
    refine upto ?_ ?_
    · intro mi' hf hg
      have hT' := hT.fr hf rfl
      refine g_Search_knownSince (fun K Kl hK hC => ?_)
      refine ⟨fun _ => ?_, fun h1 => absurd (iNLE h1) (by omega)⟩
      refine hC _ _ _ _ (s_spread hT' hw hsb hg (fun g hgg => ⟨h, by omega, rfl, ?_⟩))
      have hb : newsN T S w h ≤ 1000000 := sprN_le hsb _ h
      have eg : g h = nI (newsN T S w h) := hgg h (by omega)
      rw [show cu mi' 91 g 91 = g from rfl, eg]
      have hQ := hQ _ (hf.cu (g := g) (show nin [90, 91] 91 = false from rfl))
      refine ⟨fun h1 => ⟨h, by omega, rfl, rfl, ?_⟩, fun h1 => ⟨rfl, ?_⟩⟩
      · have h1 := iLT h1
        rw [if_neg (by omega), ← eg] at hQ
        exact hQ
      · have h1 := iNLT h1
        rw [if_pos (by omega)] at hQ
        exact hQ
    · intro j hj ih mi' hf hg
      have hT' := hT.fr hf rfl
      have eh : mi' 20 0 = nI (T 0 5) := hT'.hills
      have hS' := hS.fr hf rfl rfl rfl
      have step : ∀ mi2, Fr [90] mi' mi2 → GoM (d + 5) k_Search_knownSince 136 Q 2 [.ref 84, .int (nI w), .int (nI h), .int (nI j + nI 1)] [] (cu mi2 91 (upd (mi2 91) j (nI (if j < T 0 5 then rsN T S w j else 1000000))), ml, R0 rd, 136) := by
        intro mi2 hf2
        have ih := ih (cu mi2 91 (upd (mi2 91) j (nI (if j < T 0 5 then rsN T S w j else 1000000)))) ((hf.trans (hf2.mono rfl)).cu rfl) (fun i hi => by
          rw [cu_self]
          by_cases hij : i = j
          · subst hij; exact pk_us
          · rw [pk_un hij, hf2 91 rfl]; exact hg i (by omega))
        rw [nI1] at ih
        exact ih
      refine g_Search_knownSince (fun K Kl hK hC => ?_)
      refine ⟨fun h1 => absurd (iLE h1) (by omega), fun _ => ⟨fun h1 => ?_, fun h1 => ?_⟩⟩
      · have h1 := jLE h1
        have st := step mi' Fr.none
        rw [if_neg (by omega)] at st
        exact ⟨j, by omega, rfl, hK _ _ _ _ st⟩
      · have h1 := jNLE h1
        refine hC _ _ _ _ (s_readSince hT' hw hS' hs hwd h1 (fun mi2 hf2 => ?_))
        have st := step mi2 hf2
        rw [if_pos h1] at st
        exact ⟨j, by omega, rfl, hK _ _ _ _ st⟩
  refine r_Search_knownSince (by decide) (fun K Kl hK hC => ?_)
  exact hK _ _ _ _ (lp 0 (Nat.zero_le _) mi Fr.none lt_0)
end
