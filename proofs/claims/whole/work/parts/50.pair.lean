/-! ANOTHER FEE; TWO WORDS (the class) -/
/-- the fees and 1, where owner o takes e - 1 -/
def feO (T : Nat → Nat → Nat) (o e : Nat) : Nat → Nat := fun f => if T 4 f = o + 1 then e else feeN T f + 1
theorem feO_le {T : Nat → Nat → Nat} (hw : wfT T) {o e : Nat} (he : e ≤ 1) (f : Nat) : feO T o e f ≤ 100 := by
  have := feeN_le hw f
  unfold feO
  split <;> omega
theorem cu3 (f : Nat → Nat → Int32) (c : Nat) (g : Nat → Int32) (i j k : Nat) (x y z : Int32) : cu (cu (cu (cu f c g) c (upd (cu f c g c) i x)) c (upd (cu (cu f c g) c (upd (cu f c g c) i x) c) j y)) c (upd (cu (cu (cu f c g) c (upd (cu f c g c) i x)) c (upd (cu (cu f c g) c (upd (cu f c g c) i x) c) j y) c) k z) = cu f c (upd (upd (upd g i x) j y) k z) := by simp only [cu_cu, cu_self]
def poN (more : Nat → Option Nat) (ok : Nat → Bool) (cost p : Nat) (r : Option (Nat × Nat × Nat)) : Nat → Option (Nat × Nat × Nat)
  | 0 => r
  | j + 1 => match ok j with
    | false => poN more ok cost p r j
    | true => match more j, poN more ok cost p r j with
      | none, r' => r'
      | some m, none => some (cost + m, p, j)
      | some m, some (x, a, b) => if cost + m < x then some (cost + m, p, j) else some (x, a, b)
theorem poN_idle {more : Nat → Option Nat} {ok : Nat → Bool} {cost p x a b n : Nat} (h : x ≤ cost) : poN more ok cost p (some (x, a, b)) n = some (x, a, b) := by
  induction n with
  | zero => rfl
  | succ n ih =>
    unfold poN
    rw [ih]
    split
    · rfl
    · split
      · rfl
      · rename_i he; cases he
      · rename_i he
        cases he
        rw [if_neg (by omega)]
/-- the best pair of places -/
def pbN (c1 : Nat → Option Nat) (more : Nat → Nat → Option Nat) (sk : Nat → Bool) (ok : Nat → Nat → Bool) (n : Nat) : Nat → Option (Nat × Nat × Nat)
  | 0 => none
  | j + 1 => match c1 j, sk j with
    | some c, false => poN (more j) (ok j) c j (pbN c1 more sk ok n j) n
    | _, _ => pbN c1 more sk ok n j
def crN (T : Nat → Nat → Nat) (one p two q : Nat) : Bool := !(q % 2 == 0) && (decide (p / 2 % T 0 0 ≤ q / 2 % T 0 0) && decide (q / 2 % T 0 0 < p / 2 % T 0 0 + lenN (T 7 one))) && (decide (q / 2 / T 0 0 ≤ p / 2 / T 0 0) && decide (p / 2 / T 0 0 < q / 2 / T 0 0 + lenN (T 7 two)))
def pairN (T : Nat → Nat → Nat) (sh : Nat → Nat) (one two : Nat) (x : Bool) : Option (Nat × Nat × Nat) :=
  pbN (fun p => costN T sh (feA T) one (p / 2) (p % 2)) (fun p q => costN T (putN T sh one (p / 2) (p % 2)) (feA T) two (q / 2) (q % 2)) (fun p => x && !(p % 2 == 0)) (fun p q => !x || crN T one p two q) (2 * (T 0 0 * T 0 1)) (2 * (T 0 0 * T 0 1))
/-- how the class holds it -/
def PR (r : Option (Nat × Nat × Nat)) (g : Nat → Int32) : Prop := match r with
  | none => g 1 = -2
  | some (x, p, q) => g 1 = nI x ∧ g 2 = nI p ∧ g 3 = nI q
def prB (r : Option (Nat × Nat × Nat)) : Prop := match r with
  | none => True
  | some (x, p, q) => x ≤ 11000 ∧ p < 96 ∧ q < 96
theorem poN_bd {more : Nat → Option Nat} {ok : Nat → Bool} {cost p n : Nat} {r : Option (Nat × Nat × Nat)} (hr : prB r) (hm : ∀ j m, more j = some m → m ≤ 5346) (hc : cost ≤ 5346) (hp : p < 96) (hn : n ≤ 96) : ∀ j, j ≤ n → prB (poN more ok cost p r j)
  | 0, _ => hr
  | j + 1, hj => by
    have ih := poN_bd (ok := ok) hr hm hc hp hn j (by omega)
    unfold poN
    split
    · exact ih
    · split
      · exact ih
      · rename_i m he _
        have := hm j m he
        exact ⟨by omega, hp, by omega⟩
      · rename_i m x a b he he2
        have := hm j m he
        split
        · exact ⟨by omega, hp, by omega⟩
        · rw [he2] at ih; exact ih
theorem putN_le {T : Nat → Nat → Nat} (hw : wfT T) {sh : Nat → Nat} (hs : ∀ f, sh f ≤ 511) (w f way x : Nat) : putN T sh w f way x ≤ 511 := by
  unfold putN
  split
  · exact putJ_le hw hs w f way _ x
  · exact hs x
section
variable {d : Nat} {Q : Option Value → Mm → Prop} {T S : Nat → Nat → Nat} {mi : Nat → Nat → Int32} {ml : Nat → Nat → Int64} {rd : Option Nat}
theorem s_leastWithFee {sh : Nat → Nat} (hT : CT 0 T mi) (hw : wfT T) (hsh : ∀ f, f < 48 → mi 71 f = nI (sh f) ∧ sh f ≤ 511) {w o e : Nat} {x : Int32} (hwd : w < T 0 4) (ho : o < T 0 2) (he : e ≤ 1) (hx : x = nI e - 1)
    (hQ : ∀ mi', Fr [84, 89] mi mi' → Q (some (.int (chC (chN (fun p => costN T sh (feO T o e) w (p / 2) (p % 2)) (2 * (T 0 0 * T 0 1)))))) (mi', ml, R0 rd, 136)) : Cd (d + 5) k_Search_leastWithFee [.ref 84, .int (nI w), .int (nI o), .int x] (mi, ml, R0 rd, 136) Q := by
  have h5 := hw.own5
  have lp : ∀ j, j ≤ 48 → ∀ g : Nat → Int32, (∀ f, f < j → g f = nI (feO T o e f) - 1) → GoM (d + 4) k_Search_leastWithFee 136 Q 3 [.ref 84, .int (nI w), .int (nI o), .int x, .int (nI j)] [] (cu mi 89 g, ml, R0 rd, 136) := by
    refine upto ?_ ?_
    · intro g hg
      refine g_Search_leastWithFee (fun K Kl hK hC => ?_)
      refine ⟨fun _ => ?_, fun h => absurd (iNLE h) (by omega)⟩
      have hT' : CT 0 T (cu mi 89 g) := hT.keep (fun c _ _ => cu_ne (by omega))
      refine hC _ _ _ _ (s_cheapestPlace (Or.inl rfl) (Or.inr rfl) hT' hw hsh (fun f hf => ⟨hg f hf, feO_le hw he f⟩) (feO_le hw he) hwd ?_)
      exact ⟨rfl, hQ _ (Fr.cu (Fr.cu Fr.none rfl) rfl)⟩
    · intro j hj ih g hg
      have hc : mi 10 j = nI (T 4 j) - 1 := hT.own j hj
      have hf : mi 12 j = nI (feeN T j) := hT.fee j hj
      have h4 := hw.ow j
      refine g_Search_leastWithFee (fun K Kl hK hC => ?_)
      refine ⟨fun h => absurd (iLE h) (by omega), fun _ => ⟨j, by omega, rfl, ?_⟩⟩
      rw [show cu mi 89 g 10 = mi 10 from rfl, hc]
      have key : nI (T 4 j) - 1 = nI o ↔ T 4 j = o + 1 := by
        constructor
        · intro h
          rcases Nat.eq_zero_or_pos (T 4 j) with z | z
          · rw [z] at h
            exact absurd h (i_neg_ne (x := nI 0 - 1) (by decide) (by omega))
          · obtain ⟨q, hq⟩ : ∃ q, T 4 j = q + 1 := ⟨T 4 j - 1, by omega⟩
            rw [hq, nI_pred] at h
            have := iEQ h
            omega
        · intro h
          rw [h, nI_pred]
      refine ⟨fun h => ⟨j, by omega, rfl, j, by omega, rfl, ?_⟩, fun h => ⟨j, by omega, rfl, ?_⟩⟩
      · have hn : ¬ T 4 j = o + 1 := fun e => h (key.mpr e)
        rw [show cu mi 89 g 12 = mi 12 from rfl, hf]
        have ih := ih (upd g j (nI (feeN T j))) (fun f hf => by
          by_cases hfj : f = j
          · subst hfj; unfold feO; rw [if_neg hn, nI_pred]; exact pk_us
          · rw [pk_un hfj]; exact hg f (by omega))
        rw [nI1, ← cuu] at ih
        exact hK _ _ _ _ ih
      · have hn := key.mp h
        have ih := ih (upd g j x) (fun f hf => by
          by_cases hfj : f = j
          · subst hfj; unfold feO; rw [if_pos hn, ← hx]; exact pk_us
          · rw [pk_un hfj]; exact hg f (by omega))
        rw [nI1, ← cuu] at ih
        exact hK _ _ _ _ ih
  refine r_Search_leastWithFee (by decide) (fun K Kl hK hC => ?_)
  have := lp 0 (Nat.zero_le _) (mi 89) lt_0
  rw [cu_id] at this
  exact hK _ _ _ _ this
theorem s_cross (hT : CT 0 T mi) (hw : wfT T) {one two p q : Nat} (h1 : one < T 0 4) (h2 : two < T 0 4) (hp : p < 96) (hq : q < 96) (hy : crN T one p two q = true → Q (some (.int (nI 1))) (mi, ml, R0 rd, 136)) (hn : crN T one p two q = false → Q (some (.int (nI 0))) (mi, ml, R0 rd, 136)) : Cd (d + 1) k_Search_cross [.ref 84, .int (nI one), .int (nI p), .int (nI two), .int (nI q)] (mi, ml, R0 rd, 136) Q := by
  have hw1 := hw.w1; have hw8 := hw.w8; have h6 := hw.wd6
  have e0 : mi 6 0 = nI (T 0 0) := hT.wide
  have l1 : mi 18 one = nI (lenN (T 7 one)) := hT.wlen one h1
  have l2 : mi 18 two = nI (lenN (T 7 two)) := hT.wlen two h2
  have b1 := lenN_le (T 7 one); have b2 := lenN_le (T 7 two)
  have hne : ¬ nI (T 0 0) = 0 := nI_ne0 (by omega) (by omega)
  have m1 := Nat.mod_le (p / 2) (T 0 0); have m2 := Nat.mod_le (q / 2) (T 0 0)
  have n1 : 0 ≤ q / 2 / T 0 0 := Nat.zero_le _
  have n2 : 0 ≤ p / 2 / T 0 0 := Nat.zero_le _
  have d1 := Nat.div_le_self (p / 2) (T 0 0); have d2 := Nat.div_le_self (q / 2) (T 0 0)
  refine r_Search_cross (by decide) (fun K Kl hK hC => ⟨by decide, ?_⟩)
  rw [pk_rem (by omega) (by omega) (by omega)]
  refine ⟨fun h => ⟨Or.inl rfl, rfl, hn ?_⟩, fun h => ⟨fun h3 => ?_, fun h3 => ?_⟩⟩
  · have := iZ h
    unfold crN
    simp [this]
  · have hz := iNZ h
    refine ⟨by decide, ?_⟩
    rw [pk_div (by omega) (by omega) (by omega)]
    refine ⟨by rw [e0]; exact hne, ?_⟩
    rw [e0, pk_rem (by omega) (by omega) (by omega)]
    refine ⟨by decide, ?_⟩
    rw [pk_div (by omega) (by omega) (by omega)]
    refine ⟨by rw [e0]; exact hne, ?_⟩
    rw [e0, pk_rem (by omega) (by omega) (by omega)]
    refine ⟨by decide, ?_⟩
    rw [pk_div (by omega) (by omega) (by omega)]
    refine ⟨by rw [e0]; exact hne, ?_⟩
    rw [e0, pk_div (by omega) (by omega) (by omega)]
    refine ⟨by decide, ?_⟩
    rw [pk_div (by omega) (by omega) (by omega)]
    refine ⟨by rw [e0]; exact hne, ?_⟩
    rw [e0, pk_div (by omega) (by omega) (by omega)]
    have hfalse : (q / 2 % T 0 0 < p / 2 % T 0 0 ∨ p / 2 % T 0 0 + lenN (T 7 one) ≤ q / 2 % T 0 0 ∨ p / 2 / T 0 0 < q / 2 / T 0 0 ∨ q / 2 / T 0 0 + lenN (T 7 two) ≤ p / 2 / T 0 0) → crN T one p two q = false := by
      intro h
      cases hh : crN T one p two q with
      | false => rfl
      | true =>
        unfold crN at hh
        simp only [Bool.and_eq_true, decide_eq_true_eq] at hh
        omega
    refine ⟨fun h4 => ⟨Or.inl rfl, rfl, hn (hfalse ?_)⟩, fun h4 => ?_⟩
    · rcases Nat.lt_or_ge (q / 2 % T 0 0) (p / 2 % T 0 0) with z | z
      · exact Or.inl z
      · rw [pk_sub z] at h4; exact (iNN h4).elim
    · have g1 : p / 2 % T 0 0 ≤ q / 2 % T 0 0 := by
        rcases Nat.lt_or_ge (q / 2 % T 0 0) (p / 2 % T 0 0) with z | z
        · exact absurd (pk_sneg (by omega) z) h4
        · exact z
      rw [pk_sub g1]
      refine ⟨one, by omega, rfl, ?_⟩
      rw [l1]
      refine ⟨fun h5 => ⟨Or.inl rfl, rfl, hn (hfalse (by have := iLE h5; omega))⟩, fun h5 => ?_⟩
      have g2 := iNLE h5
      refine ⟨fun h6 => ⟨Or.inl rfl, rfl, hn (hfalse ?_)⟩, fun h6 => ?_⟩
      · rcases Nat.lt_or_ge (p / 2 / T 0 0) (q / 2 / T 0 0) with z | z
        · exact Or.inr (Or.inr (Or.inl z))
        · rw [pk_sub z] at h6; exact (iNN h6).elim
      · have g3 : q / 2 / T 0 0 ≤ p / 2 / T 0 0 := by
          rcases Nat.lt_or_ge (p / 2 / T 0 0) (q / 2 / T 0 0) with z | z
          · exact absurd (pk_sneg (by omega) z) h6
          · exact z
        rw [pk_sub g3]
        refine ⟨two, by omega, rfl, ?_⟩
        rw [l2]
        refine ⟨fun h7 => ⟨Or.inl rfl, rfl, hn (hfalse (by have := iLE h7; omega))⟩, fun h7 => ⟨Or.inr rfl, rfl, hy ?_⟩⟩
        have g4 := iNLE h7
        unfold crN
        simp only [Bool.and_eq_true, decide_eq_true_eq]
        exact ⟨⟨by simp [hz], by omega, by omega⟩, by omega, by omega⟩
  · rw [e0] at h3
    exact absurd (nI_le (by omega) (by omega)) h3
set_option maxHeartbeats 1000000 in
theorem s_placeOther {sh : Nat → Nat} (hT : CT 0 T mi) (hw : wfT T) (hsh : ∀ f, f < 48 → mi 87 f = nI (sh f) ∧ sh f ≤ 511) {one two p cost : Nat} {x : Bool} {r : Option (Nat × Nat × Nat)} (h1 : one < T 0 4) (h2 : two < T 0 4) (hp : p < 96) (hc : cost ≤ 5346) (hr : prB r) (hg0 : PR r (mi 84))
    (hQ : ∀ g, PR (poN (fun q => costN T sh (feA T) two (q / 2) (q % 2)) (fun q => !x || crN T one p two q) cost p r (2 * (T 0 0 * T 0 1))) g → Q none (cu mi 84 g, ml, R0 rd, 136)) : Cd (d + 4) k_Search_placeOther [.ref 84, .int (nI one), .int (nI p), .int (nI cost), .int (nI two), .int (nI x.toNat)] (mi, ml, R0 rd, 136) Q := by
  have hfl := hw.fl
  have lp : ∀ j, j ≤ 2 * (T 0 0 * T 0 1) → ∀ v8, ∀ g, PR (poN (fun q => costN T sh (feA T) two (q / 2) (q % 2)) (fun q => !x || crN T one p two q) cost p r j) g → GoM (d + 3) k_Search_placeOther 136 Q 9 [.ref 84, .int (nI one), .int (nI p), .int (nI cost), .int (nI two), .int (nI x.toNat), .int (nI (2 * (T 0 0 * T 0 1))), .int (nI j), v8] [] (cu mi 84 g, ml, R0 rd, 136) := by
    refine upto ?_ ?_
    · intro v8 g hg
      refine g_Search_placeOther (fun K Kl hK hC => ?_)
      exact ⟨fun h => ⟨rfl, hQ g hg⟩, fun h => absurd (iNLE h) (by omega)⟩
    · intro j hj ih v8 g hg
      have hT' : CT 0 T (cu mi 84 g) := hT.keep (fun c _ _ => cu_ne (by omega))
      have hbd := poN_bd (ok := fun q => !x || crN T one p two q) (more := fun q => costN T sh (feA T) two (q / 2) (q % 2)) hr (fun j m he => costN_le (feA_le hw) he) hc hp (show 2 * (T 0 0 * T 0 1) ≤ 96 by omega) j (by omega)
      refine g_Search_placeOther (fun K Kl hK hC => ?_)
      refine ⟨fun h => absurd (iLE h) (by omega), fun h => ?_⟩
      have skip : (!x || crN T one p two j) = false → GoM (d + 3) k_Search_placeOther 136 Q 9 [.ref 84, .int (nI one), .int (nI p), .int (nI cost), .int (nI two), .int (nI x.toNat), .int (nI (2 * (T 0 0 * T 0 1))), .int (nI j + nI 1), v8] [] (cu mi 84 g, ml, R0 rd, 136) := by
        intro hno
        have ih := ih v8 g (by unfold poN; simp only [hno]; exact hg)
        rw [nI1] at ih
        exact ih
      cases x
      · refine ⟨fun _ => ?_, fun hx => absurd (by decide) hx⟩
        have hok : (!false || crN T one p two j) = true := rfl
        refine ⟨by decide, ?_⟩
        rw [pk_div (by omega) (by omega) (by omega)]
        refine ⟨by decide, ?_⟩
        rw [pk_rem (by omega) (by omega) (by omega)]
        refine hC _ _ _ _ (s_costOf (Or.inr rfl) (Or.inl rfl) hT' hw hsh (hT'.feeA hw) h2 (pl_half hj) (by omega) ?_)
        cases hm : costN T sh (feA T) two (j / 2) (j % 2) with
        | none =>
          refine ⟨fun _ => ?_, fun h3 => absurd (by decide) h3⟩
          have ih := ih (.int (-2)) g (by unfold poN; simp only [hok, hm]; exact hg)
          rw [nI1] at ih
          exact hK _ _ _ _ ih
        | some m =>
          have hml := costN_le (feA_le hw) hm
          refine ⟨fun h3 => (iNN h3).elim, fun _ => ?_⟩
          cases hr2 : poN (fun q => costN T sh (feA T) two (q / 2) (q % 2)) (fun q => !false || crN T one p two q) cost p r j with
          | none =>
            rw [hr2] at hg
            have hg : g 1 = -2 := hg
            refine ⟨fun _ => ?_, fun h3 => absurd (show g 1 < 0 by rw [hg]; decide) h3⟩
            have ih := ih (.int (nI m)) (upd (upd (upd g 1 (nI cost + nI m)) 2 (nI p)) 3 (nI j)) (by
              unfold poN; simp only [hok, hm, hr2]; exact ⟨nI_add cost m, rfl, rfl⟩)
            rw [nI1, ← cu3] at ih
            exact hK _ _ _ _ ih
          | some t =>
            obtain ⟨y, a, b⟩ := t
            rw [hr2] at hg hbd
            have hy1 : y ≤ 11000 := hbd.1
            have hg1 : g 1 = nI y := hg.1
            refine ⟨fun h3 => by have h3 : g 1 < 0 := h3; rw [hg1] at h3; exact (iNN h3).elim, fun _ => ⟨fun h3 => ?_, fun h3 => ?_⟩⟩
            · have h3 : g 1 ≤ nI cost + nI m := h3
              rw [hg1, nI_add] at h3
              have h3 := iLE h3
              have ih := ih (.int (nI m)) g (by unfold poN; simp only [hok, hm, hr2]; rw [if_neg (by omega)]; exact hg)
              rw [nI1] at ih
              exact hK _ _ _ _ ih
            · have h3 : ¬ g 1 ≤ nI cost + nI m := h3
              rw [hg1, nI_add] at h3
              have h3 := iNLE h3
              have ih := ih (.int (nI m)) (upd (upd (upd g 1 (nI cost + nI m)) 2 (nI p)) 3 (nI j)) (by
                unfold poN; simp only [hok, hm, hr2]; rw [if_pos (by omega)]; exact ⟨nI_add cost m, rfl, rfl⟩)
              rw [nI1, ← cu3] at ih
              exact hK _ _ _ _ ih
      · refine ⟨fun hx => absurd hx (by decide), fun _ => ?_⟩
        refine hC _ _ _ _ (s_cross hT' hw h1 h2 hp (by omega) (fun hy => ?_) (fun hn => ?_))
        · refine ⟨fun _ => ?_, fun hx => absurd hx (by decide)⟩
          have hok : (!true || crN T one p two j) = true := by rw [hy]; rfl
          refine ⟨by decide, ?_⟩
          rw [pk_div (by omega) (by omega) (by omega)]
          refine ⟨by decide, ?_⟩
          rw [pk_rem (by omega) (by omega) (by omega)]
          refine hC _ _ _ _ (s_costOf (Or.inr rfl) (Or.inl rfl) hT' hw hsh (hT'.feeA hw) h2 (pl_half hj) (by omega) ?_)
          cases hm : costN T sh (feA T) two (j / 2) (j % 2) with
          | none =>
            refine ⟨fun _ => ?_, fun h3 => absurd (by decide) h3⟩
            have ih := ih (.int (-2)) g (by unfold poN; simp only [hok, hm]; exact hg)
            rw [nI1] at ih
            exact hK _ _ _ _ ih
          | some m =>
            have hml := costN_le (feA_le hw) hm
            refine ⟨fun h3 => (iNN h3).elim, fun _ => ?_⟩
            cases hr2 : poN (fun q => costN T sh (feA T) two (q / 2) (q % 2)) (fun q => !true || crN T one p two q) cost p r j with
            | none =>
              rw [hr2] at hg
              have hg : g 1 = -2 := hg
              refine ⟨fun _ => ?_, fun h3 => absurd (show g 1 < 0 by rw [hg]; decide) h3⟩
              have ih := ih (.int (nI m)) (upd (upd (upd g 1 (nI cost + nI m)) 2 (nI p)) 3 (nI j)) (by
                unfold poN; simp only [hok, hm, hr2]; exact ⟨nI_add cost m, rfl, rfl⟩)
              rw [nI1, ← cu3] at ih
              exact hK _ _ _ _ ih
            | some t =>
              obtain ⟨y, a, b⟩ := t
              rw [hr2] at hg hbd
              have hy1 : y ≤ 11000 := hbd.1
              have hg1 : g 1 = nI y := hg.1
              refine ⟨fun h3 => by have h3 : g 1 < 0 := h3; rw [hg1] at h3; exact (iNN h3).elim, fun _ => ⟨fun h3 => ?_, fun h3 => ?_⟩⟩
              · have h3 : g 1 ≤ nI cost + nI m := h3
                rw [hg1, nI_add] at h3
                have h3 := iLE h3
                have ih := ih (.int (nI m)) g (by unfold poN; simp only [hok, hm, hr2]; rw [if_neg (by omega)]; exact hg)
                rw [nI1] at ih
                exact hK _ _ _ _ ih
              · have h3 : ¬ g 1 ≤ nI cost + nI m := h3
                rw [hg1, nI_add] at h3
                have h3 := iNLE h3
                have ih := ih (.int (nI m)) (upd (upd (upd g 1 (nI cost + nI m)) 2 (nI p)) 3 (nI j)) (by
                  unfold poN; simp only [hok, hm, hr2]; rw [if_pos (by omega)]; exact ⟨nI_add cost m, rfl, rfl⟩)
                rw [nI1, ← cu3] at ih
                exact hK _ _ _ _ ih
        · exact ⟨fun hx => absurd (by decide) hx, fun _ => hK _ _ _ _ (skip (by rw [hn]; rfl))⟩
  refine r_Search_placeOther (by decide) (fun K Kl hK hC => ?_)
  refine hC _ _ _ _ (s_places hT hw ?_)
  have := lp 0 (Nat.zero_le _) .null (mi 84) hg0
  rw [cu_id] at this
  exact hK _ _ _ _ this
end
