/-! THE REFERENCE: two words -/
theorem cs_cost {T : Nat → Nat → Nat} {sh : Nat → Nat} {w f way : Nat} : costN T sh (feA T) w f way = if csN T sh w f way then some (cdN T sh 0 w f way) else none := by
  have eco := cost_of (T := T) (sh := sh) (fr := 0) (br := 0) (w := w) (f := f) (way := way)
  rw [feX_0, show baN T 0 w f way = false from rfl, Bool.not_false, Bool.and_true] at eco
  exact eco
theorem cs_fit {T : Nat → Nat → Nat} {sh : Nat → Nat} {w f way : Nat} (hcs : csN T sh w f way = true) : fitN T (lenN (T 7 w)) f way = true := li_fit (by unfold csN at hcs; rw [Bool.and_eq_true] at hcs; exact hcs.1)
theorem sumN_z {f : Nat → Nat} : ∀ n, (∀ i, i < n → f i = 0) → sumN f n = 0
  | 0, _ => rfl
  | n + 1, h => by
    rw [sumN, sumN_z n (fun i hi => h i (by omega)), h n (by omega)]
theorem sumN_one {f : Nat → Nat} {j : Nat} : ∀ n, j < n → f j = 1 → (∀ i, i < n → i ≠ j → f i = 0) → sumN f n = 1
  | 0, h, _, _ => by omega
  | n + 1, h, h1, h0 => by
    by_cases e : j = n
    · subst e
      rw [sumN, sumN_z j (fun i hi => h0 i (by omega) (by omega)), h1]
    · rw [sumN, sumN_one n (by omega) h1 (fun i hi => h0 i (by omega)), h0 n (by omega) (fun q => e q.symm)]
/-- fields of both: one or none, where one lies across and one down -/
theorem both_cr {T : Nat → Nat → Nat} (hw : wfT T) {one two p q : Nat} (hp2 : p % 2 = 0) (hq2 : q % 2 = 1) (hf1 : fitN T (lenN (T 7 one)) (p / 2) (p % 2) = true) : sumN (fun i => sumN (fun k => if plN T (p / 2) (p % 2) i = plN T (q / 2) (q % 2) k then 1 else 0) (lenN (T 7 two))) (lenN (T 7 one)) = if crN T one p two q then 1 else 0 := by
  have w1 := hw.w1
  rw [hp2] at hf1
  rw [hp2, hq2]
  unfold fitN at hf1
  rw [if_pos rfl, decide_eq_true_eq] at hf1
  have key : ∀ i k, i < lenN (T 7 one) → (plN T (p / 2) 0 i = plN T (q / 2) 1 k ↔ (p / 2 % T 0 0 + i = q / 2 % T 0 0 ∧ p / 2 / T 0 0 = q / 2 / T 0 0 + k)) := fun i k hi => by
    unfold plN stN
    rw [if_pos rfl, if_neg (by decide), Nat.mul_one]
    have d1 := Nat.div_add_mod (p / 2) (T 0 0)
    have d2 := Nat.div_add_mod (q / 2) (T 0 0)
    have m2 := Nat.mod_lt (q / 2) (show T 0 0 > 0 by omega)
    generalize p / 2 % T 0 0 = x1 at *
    generalize p / 2 / T 0 0 = y1 at *
    generalize q / 2 % T 0 0 = x2 at *
    generalize q / 2 / T 0 0 = y2 at *
    constructor
    · intro h
      rw [← d1, ← d2] at h
      have e : T 0 0 * y1 + (x1 + i) = T 0 0 * (y2 + k) + x2 := by
        rw [Nat.mul_add, Nat.mul_comm (T 0 0) k]
        omega
      have hm := congrArg (· % T 0 0) e
      have hd := congrArg (· / T 0 0) e
      simp only [Nat.mul_add_mod, Nat.mod_eq_of_lt (show x1 + i < T 0 0 by omega), Nat.mod_eq_of_lt m2] at hm
      simp only [Nat.mul_add_div (show T 0 0 > 0 by omega), Nat.div_eq_of_lt (show x1 + i < T 0 0 by omega), Nat.div_eq_of_lt m2] at hd
      omega
    · rintro ⟨h1, h2⟩
      rw [← d1, ← d2, h2, Nat.mul_add, Nat.mul_comm (T 0 0) k]
      omega
  by_cases hc : crN T one p two q = true
  · rw [if_pos hc]
    unfold crN at hc
    simp only [Bool.and_eq_true, decide_eq_true_eq] at hc
    refine sumN_one (j := q / 2 % T 0 0 - p / 2 % T 0 0) _ (by omega) ?_ ?_
    · refine sumN_one (j := p / 2 / T 0 0 - q / 2 / T 0 0) _ (by omega) ?_ ?_
      · rw [if_pos ((key _ _ (by omega)).mpr (by omega))]
      · intro k hk hne
        rw [if_neg (fun h => by have := (key _ _ (by omega)).mp h; omega)]
    · intro i hi hne
      refine sumN_z _ (fun k hk => ?_)
      rw [if_neg (fun h => by have := (key _ _ hi).mp h; omega)]
  · rw [if_neg hc]
    refine sumN_z _ (fun i hi => sumN_z _ (fun k hk => ?_))
    rw [if_neg (fun h => ?_)]
    have := (key i k hi).mp h
    apply hc
    unfold crN
    simp only [Bool.and_eq_true, decide_eq_true_eq, Bool.not_eq_true', beq_eq_false_iff_ne]
    omega
section
variable {d : Nat} {Q : Option Value → Mm → Prop} {A : St} {T S : Nat → Nat → Nat} {mi : Nat → Nat → Int32} {ml : Nat → Nat → Int64} {rd : Option Nat} {x y z : Int32}
set_option maxHeartbeats 1000000 in
theorem t_bothOf (hT : MT T mi) (hw : wfT T) {one two p q : Nat} (h1 : one < T 0 4) (h2 : two < T 0 4) (hp : p < 2 * (T 0 0 * T 0 1)) (hq : q < 2 * (T 0 0 * T 0 1)) (hp2 : p % 2 = 0) (hq2 : q % 2 = 1) (hf1 : fitN T (lenN (T 7 one)) (p / 2) (p % 2) = true) (hf2 : fitN T (lenN (T 7 two)) (q / 2) (q % 2) = true) (hQ : Q (some (.int (nI (if crN T one p two q then 1 else 0)))) (mi, ml, R0 rd, 136)) : Cd (d + 4) k_Mod_bothOf [.ref 95, .int (nI one), .int (nI p), .int (nI two), .int (nI q)] (mi, ml, R0 rd, 136) Q := by
  have hfl := hw.fl
  rw [← both_cr hw hp2 hq2 hf1] at hQ
  have hl1 := lenN_le (T 7 one)
  have hl2 := lenN_le (T 7 two)
  have edp : nI p / nI 2 = nI (p / 2) := pk_div (by omega) (by omega) (by omega)
  have erp : nI p - nI p / nI 2 * nI 2 = nI (p % 2) := pk_rem (by omega) (by omega) (by omega)
  have edq : nI q / nI 2 = nI (q / 2) := pk_div (by omega) (by omega) (by omega)
  have erq : nI q - nI q / nI 2 * nI 2 = nI (q % 2) := pk_rem (by omega) (by omega) (by omega)
  have c1 : ∀ i (P : Option Value → Mm → Prop), i < lenN (T 7 one) → P (some (.int (nI (plN T (p / 2) (p % 2) i)))) (mi, ml, R0 rd, 136) → Cd (d + 3) k_Mod_fieldAt [.ref 95, .int (nI p / nI 2), .int (nI p - nI p / nI 2 * nI 2), .int (nI i)] (mi, ml, R0 rd, 136) P := fun i P hi hP => by
    rw [erp, edp]
    exact t_fieldIn hT hw (pl_half hp) (by omega) hi hf1 hP
  have c2 : ∀ i (P : Option Value → Mm → Prop), i < lenN (T 7 two) → P (some (.int (nI (plN T (q / 2) (q % 2) i)))) (mi, ml, R0 rd, 136) → Cd (d + 3) k_Mod_fieldAt [.ref 95, .int (nI q / nI 2), .int (nI q - nI q / nI 2 * nI 2), .int (nI i)] (mi, ml, R0 rd, 136) P := fun i P hi hP => by
    rw [erq, edq]
    exact t_fieldIn hT hw (pl_half hq) (by omega) hi hf2 hP
  have outer : ∀ i, i ≤ lenN (T 7 one) → ∀ v7, GoM (d + 3) k_Mod_bothOf 136 Q 6 [.ref 95, .int (nI one), .int (nI p), .int (nI two), .int (nI q), .int (nI (sumN (fun i => sumN (fun k => if plN T (p / 2) (p % 2) i = plN T (q / 2) (q % 2) k then 1 else 0) (lenN (T 7 two))) i)), .int (nI i), v7] [] (mi, ml, R0 rd, 136) := by
    refine upto ?_ ?_
    · intro v7
      exact g_Mod_bothOf (fun K Kl hK hC => hC _ _ _ _ (t_wordLong hT hw h1 ⟨fun _ => ⟨rfl, hQ⟩, fun a => absurd (iNLE a) (by omega)⟩))
    · intro i hi ih v7
      rw [nI1 i, sumN] at ih
      have inner : ∀ k, k ≤ lenN (T 7 two) → GoM (d + 3) k_Mod_bothOf 136 Q 19 [.ref 95, .int (nI one), .int (nI p), .int (nI two), .int (nI q), .int (nI (sumN (fun i => sumN (fun k => if plN T (p / 2) (p % 2) i = plN T (q / 2) (q % 2) k then 1 else 0) (lenN (T 7 two))) i + sumN (fun k => if plN T (p / 2) (p % 2) i = plN T (q / 2) (q % 2) k then 1 else 0) k)), .int (nI i), .int (nI k)] [] (mi, ml, R0 rd, 136) := by
        refine upto ?_ ?_
        · exact g_Mod_bothOf (fun K Kl hK hC => hC _ _ _ _ (t_wordLong hT hw h2 ⟨fun _ => hK _ _ _ _ (ih _), fun a => absurd (iNLE a) (by omega)⟩))
        · intro k hk ih2
          have b1 := plN_lt hw (pl_half hp) hf1 hi
          have b2 := plN_lt hw (pl_half hq) hf2 hk
          rw [nI1 k, sumN, ← Nat.add_assoc, ← nI_add] at ih2
          refine g_Mod_bothOf (fun K Kl hK hC => hC _ _ _ _ (t_wordLong hT hw h2 ⟨fun a => absurd (iLE a) (by omega), fun _ => ⟨two0, two0, hC _ _ _ _ (c1 i _ hi ⟨two0, two0, hC _ _ _ _ (c2 k _ hk ⟨fun z => ?_, fun z => ?_⟩)⟩)⟩⟩))
          · have z := iNE z
            rw [if_neg z] at ih2
            exact hK _ _ _ _ ih2
          · have z := iEQ z
            rw [if_pos z] at ih2
            exact hK _ _ _ _ ih2
      have i0 := inner 0 (Nat.zero_le _)
      exact g_Mod_bothOf (fun K Kl hK hC => hC _ _ _ _ (t_wordLong hT hw h1 ⟨fun a => absurd (iLE a) (by omega), fun _ => hK _ _ _ _ i0⟩))
  exact r_Mod_bothOf (by decide) (fun K Kl hK hC => hK _ _ _ _ (outer 0 (Nat.zero_le _) _))
set_option maxHeartbeats 1000000 in
theorem t_togetherOf (hT : MT T mi) (hw : wfT T) (hS : MB 0 S mi) (hs : wfS T S) (hfr : mi 95 75 = -1) {one two p q : Nat} (h1 : one < T 0 4) (h2 : two < T 0 4) (hp : p < 2 * (T 0 0 * T 0 1)) (hq : q < 2 * (T 0 0 * T 0 1)) (hcs : csN T (S 1) one (p / 2) (p % 2) = true) (hQ1 : ∀ mi' m, BF 1 mi mi' → costN T (putN T (S 1) one (p / 2) (p % 2)) (feA T) two (q / 2) (q % 2) = some m → Q (some (.int (nI (cdN T (S 1) 0 one (p / 2) (p % 2) + m)))) (mi', ml, R0 rd, 136)) (hQ0 : ∀ mi', BF 1 mi mi' → costN T (putN T (S 1) one (p / 2) (p % 2)) (feA T) two (q / 2) (q % 2) = none → Q (some (.int (-1))) (mi', ml, R0 rd, 136)) : Cd (d + 6) k_Mod_togetherOf [.ref 95, .int (nI one), .int (nI p), .int (nI two), .int (nI q)] (mi, ml, R0 rd, 136) Q := by
  have hfl := hw.fl
  have edp : nI p / nI 2 = nI (p / 2) := pk_div (by omega) (by omega) (by omega)
  have erp : nI p - nI p / nI 2 * nI 2 = nI (p % 2) := pk_rem (by omega) (by omega) (by omega)
  have edq : nI q / nI 2 = nI (q / 2) := pk_div (by omega) (by omega) (by omega)
  have erq : nI q - nI q / nI 2 * nI 2 = nI (q % 2) := pk_rem (by omega) (by omega) (by omega)
  have ph := pl_half hp
  have qh := pl_half hq
  have hsh : ∀ f, f < 48 → mi 123 (48 * 0 + f) = nI (S 1 f) ∧ S 1 f ≤ 511 := fun f hf => ⟨hS.1 f hf, hs.sh f⟩
  refine r_Mod_togetherOf (by decide) (fun K Kl hK hC => ⟨two0, two0, ?_⟩)
  rw [erp, edp]
  refine hC _ _ _ _ (t_canSet (b := 0) hT hw (by omega) hsh h1 ph (by omega) (fun _ => ⟨fun _ => hC _ _ _ _ (t_layTried hS (fun mi1 hf1 hM1 => ⟨two0, two0, ?_⟩)), fun a => absurd a (by decide)⟩) (fun hno => by rw [hcs] at hno; cases hno))
  have hT1 := hf1.T hT
  have hsh1 : ∀ f, f < 48 → mi1 123 (48 * 0 + f) = nI (S 1 f) ∧ S 1 f ≤ 511 := fun f hf => ⟨(hf1 123 _ (Or.inl (by decide)) (Or.inr (Or.inl (by omega))) (Or.inl (by decide))).trans (hS.1 f hf), hs.sh f⟩
  have fr1 : mi1 95 75 = nI 0 - 1 := ((hf1.k (by decide)).trans hfr).trans (by decide)
  rw [erp, edp]
  refine hC _ _ _ _ (t_costOf (b := 0) (fr := 0) hT1 hw (by omega) hsh1 fr1 (by omega) h1 ph (by omega) hcs ⟨two0, two0, ?_⟩)
  rw [erp, edp]
  refine hC _ _ _ _ (t_setsIn (b := 1) (sh := S 1) hT1 hw (by omega) hM1.1 h1 ph (by omega) (cs_fit hcs) (fun g hg ho => ⟨two0, two0, ?_⟩))
  have hf2 : BF 1 mi (cu mi1 123 g) := hf1.sh (fun i hi => ho i (by omega))
  have hT2 := hf2.T hT
  have hsh2 : ∀ f, f < 48 → cu mi1 123 g 123 (48 * 1 + f) = nI (putN T (S 1) one (p / 2) (p % 2) f) ∧ putN T (S 1) one (p / 2) (p % 2) f ≤ 511 := fun f hf => ⟨hg f hf, putN_le hw hs.sh _ _ _ _⟩
  have ec := cs_cost (T := T) (sh := putN T (S 1) one (p / 2) (p % 2)) (w := two) (f := q / 2) (way := q % 2)
  rw [erq, edq]
  refine hC _ _ _ _ (t_canSet (b := 1) hT2 hw (by omega) hsh2 h2 qh (by omega) (fun hc2 => ⟨fun a => absurd a (by decide), fun _ => ⟨two0, two0, ?_⟩⟩) (fun hc2 => ⟨fun _ => ⟨rfl, hQ0 _ hf2 (by rw [ec, hc2]; rfl)⟩, fun a => absurd (by decide) a⟩))
  rw [erq, edq]
  refine hC _ _ _ _ (t_costOf (b := 1) (fr := 0) hT2 hw (by omega) hsh2 fr1 (by omega) h2 qh (by omega) hc2 ⟨rfl, ?_⟩)
  have hq := hQ1 _ _ hf2 (show _ = some (cdN T (putN T (S 1) one (p / 2) (p % 2)) 0 two (q / 2) (q % 2)) by rw [ec, hc2]; rfl)
  rw [← nI_add] at hq
  exact hq
/-- how the reference holds a pair -/
def MR (r : Option (Nat × Nat × Nat)) (g : Nat → Int32) : Prop := match r with
  | none => g 79 = -1
  | some (x, p, q) => g 79 = nI x ∧ g 80 = nI p ∧ g 81 = nI q
theorem MR.mv {r : Option (Nat × Nat × Nat)} {g g' : Nat → Int32} (h : MR r g) (h1 : g' 79 = g 79) (h2 : g' 80 = g 80) (h3 : g' 81 = g 81) : MR r g' := by
  unfold MR at h ⊢
  split
  · rw [h1]; exact h
  · rw [h1, h2, h3]; exact h
theorem poN_s {more : Nat → Option Nat} {ok : Nat → Bool} {cost p : Nat} {r : Option (Nat × Nat × Nat)} {j : Nat} (h : ok j = false ∨ more j = none) : poN more ok cost p r (j + 1) = poN more ok cost p r j := by
  rw [poN]
  rcases h with h | h
  · rw [h]
  · rw [h]
    cases ok j <;> rfl
theorem poN_t {more : Nat → Option Nat} {ok : Nat → Bool} {cost p m : Nat} {r : Option (Nat × Nat × Nat)} {j : Nat} (h : ok j = true) (h2 : more j = some m) : poN more ok cost p r (j + 1) = match poN more ok cost p r j with
    | none => some (cost + m, p, j)
    | some (x, a, b) => if cost + m < x then some (cost + m, p, j) else some (x, a, b) := by
  rw [poN, h, h2]
  cases poN more ok cost p r j <;> rfl
theorem pbN_s {c1 : Nat → Option Nat} {more : Nat → Nat → Option Nat} {sk : Nat → Bool} {ok : Nat → Nat → Bool} {n j : Nat} (h : sk j = true ∨ c1 j = none) : pbN c1 more sk ok n (j + 1) = pbN c1 more sk ok n j := by
  rw [pbN]
  rcases h with h | h
  · rw [h]
    cases c1 j <;> rfl
  · rw [h]
theorem pbN_t {c1 : Nat → Option Nat} {more : Nat → Nat → Option Nat} {sk : Nat → Bool} {ok : Nat → Nat → Bool} {n j c : Nat} (h : sk j = false) (h2 : c1 j = some c) : pbN c1 more sk ok n (j + 1) = poN (more j) (ok j) c j (pbN c1 more sk ok n j) n := by
  rw [pbN, h, h2]
end
