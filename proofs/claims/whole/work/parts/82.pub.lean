/-! WHAT THE CLASS ANSWERS: shared, summer, days -/
theorem poN_in {more : Nat → Option Nat} {ok : Nat → Bool} {cost p : Nat} {r : Option (Nat × Nat × Nat)} {x a b : Nat} : ∀ j, poN more ok cost p r j = some (x, a, b) → r = some (x, a, b) ∨ (a = p ∧ b < j ∧ ∃ m, more b = some m ∧ x = cost + m)
  | 0, h => Or.inl h
  | j + 1, h => by
    have up : (r = some (x, a, b) ∨ (a = p ∧ b < j ∧ ∃ m, more b = some m ∧ x = cost + m)) → (r = some (x, a, b) ∨ (a = p ∧ b < j + 1 ∧ ∃ m, more b = some m ∧ x = cost + m)) := fun z => z.imp id (fun z => ⟨z.1, by omega, z.2.2⟩)
    unfold poN at h
    split at h
    · exact up (poN_in j h)
    · split at h
      · exact up (poN_in j h)
      · rename_i hm _
        cases h
        exact Or.inr ⟨rfl, by omega, _, hm, rfl⟩
      · rename_i hm hr
        split at h
        · cases h
          exact Or.inr ⟨rfl, by omega, _, hm, rfl⟩
        · cases h
          exact up (poN_in j hr)
theorem pbN_in {c1 : Nat → Option Nat} {more : Nat → Nat → Option Nat} {sk : Nat → Bool} {ok : Nat → Nat → Bool} {n x a b : Nat} : ∀ j, pbN c1 more sk ok n j = some (x, a, b) → a < j ∧ b < n ∧ ∃ c m, c1 a = some c ∧ more a b = some m ∧ x = c + m
  | 0, h => by cases h
  | j + 1, h => by
    unfold pbN at h
    split at h
    · rename_i c hc _
      rcases poN_in n h with h | ⟨e, hb, m, hm, hx⟩
      · have := pbN_in j h
        exact ⟨by omega, this.2⟩
      · subst e
        exact ⟨by omega, hb, c, m, hc, hm, hx⟩
    · have := pbN_in j h
      exact ⟨by omega, this.2⟩
theorem chN_ex {c : Nat → Option Nat} {p x : Nat} : ∀ n, p < n → c p = some x → ∃ a b, chN c n = some (a, b)
  | 0, h, _ => absurd h (by omega)
  | n + 1, h, hx => by
    unfold chN
    by_cases he : p = n
    · subst he
      rw [hx]
      cases hr : chN c p with
      | none => exact ⟨_, _, rfl⟩
      | some q =>
        obtain ⟨a, b⟩ := q
        simp only
        split
        · exact ⟨_, _, rfl⟩
        · exact ⟨_, _, rfl⟩
    · obtain ⟨a, b, hr⟩ := chN_ex n (by omega) hx
      rw [hr]
      cases hc : c n with
      | none => exact ⟨_, _, rfl⟩
      | some q =>
        simp only
        split
        · exact ⟨_, _, rfl⟩
        · exact ⟨_, _, rfl⟩
theorem costN_iff {T : Nat → Nat → Nat} {sh fe : Nat → Nat} {w f way : Nat} : (∃ x, costN T sh fe w f way = some x) ↔ fitN T (lenN (T 7 w)) f way = true ∧ ∀ k, k < lenN (T 7 w) → wantN T w k ≠ 0 ∧ fe (plN T f way k) ≠ 0 ∧ (sh (plN T f way k) = 0 ∨ sh (plN T f way k) = wantN T w k) := by
  unfold costN
  constructor
  · intro ⟨x, h⟩
    split at h
    · rename_i hc
      rw [Bool.and_eq_true, allN_iff] at hc
      refine ⟨hc.1, fun k hk => ?_⟩
      have := hc.2 k hk
      unfold okcN at this
      simp only [Bool.and_eq_true, Bool.or_eq_true, decide_eq_true_eq] at this
      exact ⟨this.1.1, this.1.2, this.2⟩
    · cases h
  · intro ⟨h1, h2⟩
    have : allN (okcN T sh fe w f way) (lenN (T 7 w)) = true := allN_iff.mpr (fun k hk => by
      have := h2 k hk
      unfold okcN
      simp only [Bool.and_eq_true, Bool.or_eq_true, decide_eq_true_eq]
      exact ⟨⟨this.1, this.2.1⟩, this.2.2⟩)
    rw [h1, this]
    exact ⟨_, rfl⟩
/-- what a word that can be put up leaves -/
theorem putN_old {T : Nat → Nat → Nat} {sh fe : Nat → Nat} {w f way x : Nat} (h : costN T sh fe w f way = some x) (i : Nat) : sh i = 0 ∨ putN T sh w f way i = sh i := by
  have hc := (costN_iff.mp ⟨x, h⟩)
  have : ∀ j, j ≤ lenN (T 7 w) → (sh i = 0 ∨ putJ T sh w f way j i = sh i) := by
    intro j
    induction j with
    | zero => exact fun _ => Or.inr rfl
    | succ j ih =>
      intro hj
      unfold putJ
      by_cases he : i = plN T f way j
      · have := (hc.2 j (by omega)).2.2
        rw [← he] at this
        rw [if_pos he]
        exact this.imp id (fun z => z.symm)
      · rw [if_neg he]
        exact ih (by omega)
  unfold putN
  rw [if_pos hc.1]
  exact this _ (Nat.le_refl _)
/-- what can stand beside another word can stand alone -/
theorem cost_alone {T : Nat → Nat → Nat} {sh fe : Nat → Nat} {v a b w f way x y : Nat} (h : costN T sh fe v a b = some x) (h2 : costN T (putN T sh v a b) fe w f way = some y) : ∃ z, costN T sh fe w f way = some z := by
  have hc := costN_iff.mp ⟨y, h2⟩
  refine costN_iff.mpr ⟨hc.1, fun k hk => ?_⟩
  have h3 := hc.2 k hk
  refine ⟨h3.1, h3.2.1, ?_⟩
  rcases putN_old h (plN T f way k) with z | z
  · exact Or.inl z
  · rw [← z]
    exact h3.2.2
def chv (A : St) (w : Nat) : Nat := match chA A (feA (A 0)) w with
  | some (_, c) => c
  | none => 0
def aShared (A : St) (x y z : Int32) : Int32 := match un2 A x y, ixo z 7 with
  | some (v, w), some k => (match pairN (A 0) (A 1 1) v w false with
    | none => -2
    | some (c, p, q) => if k = 0 then nI c else if k = 1 then nI (p / 2) else if k = 2 then nI (q / 2) else if k = 3 then nI (p % 2) else if k = 4 then nI (q % 2) else if k = 5 then nI (chv A v) - (nI (chv A v) + nI (chv A w) - nI c) / nI 2 else nI (chv A w) - (nI (chv A w) + nI (chv A v) - nI c) / nI 2)
  | _, _ => -1
theorem pair_alone {A : St} {v w : Nat} {b : Bool} {c p q : Nat} (h : pairN (A 0) (A 1 1) v w b = some (c, p, q)) : (∃ p, chN (fun p => costN (A 0) (A 1 1) (feA (A 0)) v (p / 2) (p % 2)) (2 * (A 0 0 0 * A 0 0 1)) = some (p, chv A v)) ∧ (∃ p, chN (fun p => costN (A 0) (A 1 1) (feA (A 0)) w (p / 2) (p % 2)) (2 * (A 0 0 0 * A 0 0 1)) = some (p, chv A w)) := by
  unfold pairN at h
  obtain ⟨hp, hq, c1, m1, e1, e2, _⟩ := pbN_in _ h
  obtain ⟨z, hz⟩ := cost_alone e1 e2
  have key : ∀ w p x, p < 2 * (A 0 0 0 * A 0 0 1) → costN (A 0) (A 1 1) (feA (A 0)) w (p / 2) (p % 2) = some x → ∃ p, chN (fun p => costN (A 0) (A 1 1) (feA (A 0)) w (p / 2) (p % 2)) (2 * (A 0 0 0 * A 0 0 1)) = some (p, chv A w) := by
    intro w p x hp hx
    obtain ⟨a, b, hab⟩ := chN_ex (c := fun p => costN (A 0) (A 1 1) (feA (A 0)) w (p / 2) (p % 2)) _ hp hx
    refine ⟨a, ?_⟩
    unfold chv
    rw [show chA A (feA (A 0)) w = some (a, b) from hab]
    exact hab
  exact ⟨key v p _ hp e1, key w q _ hq hz⟩
section
variable {d : Nat} {Q : Option Value → Mm → Prop} {A : St} {mi : Nat → Nat → Int32} {ml : Nat → Nat → Int64} {rd : Option Nat} {x y z u : Int32}
set_option maxHeartbeats 1000000 in
theorem p_shared (hA : CI A mi) (hw : wfA A) (hQ : ∀ mi' ml', Fr SC mi mi' → Fr [36] ml ml' → Q (some (.int (aShared A x y z))) (mi', ml', R0 rd, 136)) : Cd (d + 6) k_Hay_shared [.ref 0, .int x, .int y, .int z] (mi, ml, R0 rd, 136) Q := by
  unfold aShared at hQ
  refine r_Hay_shared (by decide) (fun K Kl hK hC => ?_)
  refine hC _ _ _ _ (p_areUnlike hA hw (fun v w hv hw1 hne e1 e2 => ⟨fun z => absurd z (by decide), fun _ => ?_⟩) (fun hno => ⟨fun _ => ⟨rfl, ?_⟩, fun z => absurd (by decide) z⟩))
  · subst e1; subst e2
    rw [un2_some hw.T hv hw1 hne] at hQ
    refine ⟨fun h => ⟨rfl, ?_⟩, fun h => ⟨fun h2 => ?_, fun h2 => ⟨rfl, ?_⟩⟩⟩
    · rw [ixo_neg h] at hQ
      exact hQ mi ml Fr.none Fr.none
    · obtain ⟨k, hk, rfl, he⟩ := ixo_rg (n := 6) (by omega) h (fun z => absurd h2 (Int32.not_le.mpr z))
      rw [he] at hQ
      refine hC _ _ _ _ (s_placeBoth (d := d) (x := false) hA.T hw.T hA.S hw.S hv hw1 (fun m2 f2 hP => ?_))
      have hQ0 := hQ
      have hQ := hQ m2 ml (f2.mono rfl) Fr.none
      cases hc : pairN (A 0) (A 1 1) v w false with
      | none =>
        rw [hc] at hP
        have hP : m2 84 1 = -2 := hP
        simp only [hc] at hQ
        refine ⟨fun h3 => ?_, fun _ => ⟨rfl, hQ⟩⟩
        have h3 : 0 ≤ m2 84 1 := h3
        rw [hP] at h3
        exact absurd h3 (by decide)
      | some cpq =>
        obtain ⟨c, p, q⟩ := cpq
        have hb := pairN_bd hw.T hc
        have hal := pair_alone hc
        rw [hc] at hP
        obtain ⟨g1, g2, g3⟩ : m2 84 1 = nI c ∧ m2 84 2 = nI p ∧ m2 84 3 = nI q := hP
        simp only [hc] at hQ hQ0
        refine ⟨fun _ => ⟨fun h3 => ⟨rfl, ?_⟩, fun h3 => swP_c (fun h4 => ⟨two0, rfl, ?_⟩) (fun h4 => swP_c (fun h5 => ⟨two0, rfl, ?_⟩) (fun h5 => swP_c (fun h6 => ⟨two0, rfl, ?_⟩) (fun h6 => swP_c (fun h7 => ⟨two0, rfl, ?_⟩) (fun h7 => swP_c (fun h8 => ?_) (fun h8 => swP_n ?_)))))⟩, fun z => ?_⟩
        · rw [if_pos (iEQ h3), ← g1] at hQ
          exact hQ
        · rw [if_neg (iNE h3), if_pos (iEQ h4), ← pk_div (by omega) (by omega) (by omega), ← g2] at hQ
          exact hQ
        · rw [if_neg (iNE h3), if_neg (iNE h4), if_pos (iEQ h5), ← pk_div (by omega) (by omega) (by omega), ← g3] at hQ
          exact hQ
        · rw [if_neg (iNE h3), if_neg (iNE h4), if_neg (iNE h5), if_pos (iEQ h6), ← pk_rem (by omega) (by omega) (by omega), ← g2] at hQ
          exact hQ
        · rw [if_neg (iNE h3), if_neg (iNE h4), if_neg (iNE h5), if_neg (iNE h6), if_pos (iEQ h7), ← pk_rem (by omega) (by omega) (by omega), ← g3] at hQ
          exact hQ
        · simp only [if_neg (iNE h3), if_neg (iNE h4), if_neg (iNE h5), if_neg (iNE h6), if_neg (iNE h7), if_pos (iEQ h8)] at hQ0
          exact hC _ _ _ _ (s_shareOf (d := d) (hA.T.fr f2 rfl) hw.T ((hA.S.fr f2 rfl rfl rfl).sh hw.S) hv hw1 g1 hb.1 hal.1 hal.2 (fun m3 f3 => ⟨rfl, hQ0 m3 ml ((f2.mono rfl).trans (f3.mono rfl)) Fr.none⟩))
        · simp only [if_neg (iNE h3), if_neg (iNE h4), if_neg (iNE h5), if_neg (iNE h6), if_neg (iNE h7), if_neg (iNE h8)] at hQ0
          exact hC _ _ _ _ (s_shareOf (d := d) (hA.T.fr f2 rfl) hw.T ((hA.S.fr f2 rfl rfl rfl).sh hw.S) hw1 hv g1 hb.1 hal.2 hal.1 (fun m3 f3 => ⟨rfl, hQ0 m3 ml ((f2.mono rfl).trans (f3.mono rfl)) Fr.none⟩))
        · have z : ¬ 0 ≤ m2 84 1 := z
          rw [g1] at z
          exact absurd (nI_pos' (by omega)) z
    · rw [ixo_big (n := 6) (by omega) (Int32.not_le.mp h2)] at hQ
      exact hQ mi ml Fr.none Fr.none
  · rw [un2_none hno] at hQ
    exact hQ mi ml Fr.none Fr.none
end
