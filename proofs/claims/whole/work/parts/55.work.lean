/-! THE LAW: worked through by the class -/
theorem kc3 {k x : Nat} (h : 3 ≤ k) : kcN k x = kcN k 0 := by unfold kcN; rw [if_neg (by omega), if_neg (by omega)]
theorem s_max2 {d n : Nat} {Q : Option Value → Mm → Prop} {mi : Nat → Nat → Int32} {ml : Nat → Nat → Int64} {mr : Nat → Nat → Option Nat} (hn : n ≤ 136) {a b : Nat} {x y : Int32} (hx : x = nI a) (hy : y = nI b) (ha : a < 2 ^ 31) (hb : b < 2 ^ 31) (hQ : Q (some (.int (nI (max a b)))) (mi, ml, mr, n)) : Cd (d + 1) 337 [.int x, .int y] (mi, ml, mr, n) Q := by
  subst hx; subst hy
  exact s_max hn ha hb hQ
section
variable {d : Nat} {Q : Option Value → Mm → Prop} {T S : Nat → Nat → Nat} {mi : Nat → Nat → Int32} {ml : Nat → Nat → Int64} {rd : Option Nat}
theorem s_daysLeft2 (hT : CT 0 T mi) (hw : wfT T) {f day : Nat} {x : Int32} (hx : x = nI day) (hf : f < 48) (hd : day < 10000) (hQ : Q (some (.int (nI (leftN T f day)))) (mi, ml, R0 rd, 136)) : Cd (d + 1) k_Told_daysLeft [.ref 6, .int (nI f), .int x] (mi, ml, R0 rd, 136) Q := by
  subst hx
  exact s_daysLeft hT hw hf hd hQ
set_option maxHeartbeats 1000000 in
theorem s_lookAt {b : Nat} (hb : b = 70 ∨ b = 86) (hT : CT 0 T mi) (hw : wfT T) (hS : CS b S mi) (hs : wfS T S) {f : Nat} (hf : f < T 0 0 * T 0 1) (hQ : ∀ mi', Fr [35] mi mi' → (∀ i, i < 6 → mi' 35 i = nI (nmN T S f i)) → Q none (mi', ml, R0 rd, 136)) : Cd (d + 2) k_Law_lookAt [.ref 32, .ref 6, .ref b, .int (nI f)] (mi, ml, R0 rd, 136) Q := by
  have hfl := hw.fl
  have hw1 := hw.w1; have hw8 := hw.w8
  have e0 : mi 6 0 = nI (T 0 0) := hT.wide
  have hsh := hS.sh hs f (by omega)
  have hd := hs.day
  have hmax : max 1 (T 0 0) = T 0 0 := Nat.max_eq_right hw1
  have hml := Nat.mod_le f (T 0 0)
  have hne : ¬ nI (T 0 0) = 0 := nI_ne0 (by omega) (by omega)
  refine r_Law_lookAt (by decide) ?_
  rcases hb with rfl | rfl
  all_goals
    intro K Kl hK hC
    refine hC _ _ _ _ (s_max2 (by decide) rfl e0 (by omega) (by omega) ?_)
    rw [hmax]
    refine ⟨f, by omega, rfl, ?_⟩
    rw [hsh.1]
    refine hC _ _ _ _ (s_bitCount (by decide) (by omega) ?_)
    refine ⟨0, by decide, rfl, ?_⟩
    have fr1 : ∀ x0, Fr [35] mi (cu mi 35 (upd (mi 35) 0 x0)) := fun x0 => Fr.cu Fr.none rfl
    refine hC _ _ _ _ (s_isVowel (s := S 1 f) (hT.fr (fr1 _) rfl) hw hsh.2 (fun hv => ?_) (fun hv => ?_))
    · refine ⟨fun h => absurd h (by decide), fun _ => ⟨1, by decide, rfl, ?_⟩⟩
      refine ⟨hne, ?_⟩
      rw [pk_div (by omega) (by omega) (by omega)]
      refine ⟨2, by decide, rfl, ?_⟩
      refine ⟨hne, ?_⟩
      rw [pk_rem (by omega) (by omega) (by omega)]
      refine ⟨3, by decide, rfl, ?_⟩
      refine ⟨4, by decide, rfl, ?_⟩
      refine hC _ _ _ _ (s_daysLeft2 (hT.fr (L := [35]) (Fr.cu (Fr.cu (Fr.cu (Fr.cu (Fr.cu Fr.none rfl) rfl) rfl) rfl) rfl) rfl) hw hS.day (by omega) (by omega) ?_)
      refine ⟨5, by decide, rfl, rfl, hQ _ (Fr.cu (Fr.cu (Fr.cu (Fr.cu (Fr.cu (Fr.cu Fr.none rfl) rfl) rfl) rfl) rfl) rfl) (fun i hi => ?_)⟩
      have h6 : i = 0 ∨ i = 1 ∨ i = 2 ∨ i = 3 ∨ i = 4 ∨ i = 5 := by omega
      rcases h6 with rfl | rfl | rfl | rfl | rfl | rfl
      · rfl
      · show _ = nI (vowN T (S 1 f)).toNat
        rw [hv]; rfl
      · rfl
      · rfl
      · exact hS.day
      · rfl
    · refine ⟨fun _ => ⟨1, by decide, rfl, ?_⟩, fun h => absurd (by decide) h⟩
      refine ⟨hne, ?_⟩
      rw [pk_div (by omega) (by omega) (by omega)]
      refine ⟨2, by decide, rfl, ?_⟩
      refine ⟨hne, ?_⟩
      rw [pk_rem (by omega) (by omega) (by omega)]
      refine ⟨3, by decide, rfl, ?_⟩
      refine ⟨4, by decide, rfl, ?_⟩
      refine hC _ _ _ _ (s_daysLeft2 (hT.fr (L := [35]) (Fr.cu (Fr.cu (Fr.cu (Fr.cu (Fr.cu Fr.none rfl) rfl) rfl) rfl) rfl) rfl) hw hS.day (by omega) (by omega) ?_)
      refine ⟨5, by decide, rfl, rfl, hQ _ (Fr.cu (Fr.cu (Fr.cu (Fr.cu (Fr.cu (Fr.cu Fr.none rfl) rfl) rfl) rfl) rfl) rfl) (fun i hi => ?_)⟩
      have h6 : i = 0 ∨ i = 1 ∨ i = 2 ∨ i = 3 ∨ i = 4 ∨ i = 5 := by omega
      rcases h6 with rfl | rfl | rfl | rfl | rfl | rfl
      · rfl
      · show _ = nI (vowN T (S 1 f)).toNat
        rw [hv]; rfl
      · rfl
      · rfl
      · exact hS.day
      · rfl
set_option maxHeartbeats 2000000 in
theorem s_work {b : Nat} (hb : b = 70 ∨ b = 86) (hT : CT 0 T mi) (hw : wfT T) (hl : wfL T) (hS : CS b S mi) (hs : wfS T S) {f : Nat} (hf : f < T 0 0 * T 0 1) (hQ : ∀ mi' ml', Fr [35] mi mi' → Fr [36] ml ml' → Q (some (.long (oe (lwN T S f)))) (mi', ml', R0 rd, 136)) : Cd (d + 3) k_Law_work [.ref 32, .ref 6, .ref b, .int (nI f)] (mi, ml, R0 rd, 136) Q := by
  have hfl := hw.fl
  have h64 := hw.kn64
  have lp : ∀ mi', Fr [35] mi mi' → (∀ i, i < 6 → mi' 35 i = nI (nmN T S f i)) → ∀ i, i ≤ T 0 9 → ∀ st, lwJ T (fun i => lN (nmN T S f i)) i = some st → ∀ v6 p, PL st p → GoM (d + 2) k_Law_work 136 Q 13 [.ref 32, .ref 6, .ref b, .int (nI f), .int (nI st.length), .int (nI i), v6] [] (mi', cu ml 36 p, R0 rd, 136) := by
    intro mi' hf' hnm
    have hT' := hT.fr hf' rfl
    have ek : mi' 32 0 = nI (T 0 9) := hT'.knots
    have hQ := fun p => hQ mi' (cu ml 36 p) hf' (Fr.cu Fr.none rfl)
    refine upto ?_ ?_
    · intro st hst v6 p hp
      have hlen := lwJ_len hl _ (Nat.le_refl _) st hst
      have hdp := dpN_le T (T 0 9)
      refine g_Law_work (fun K Kl hK hC => ?_)
      refine ⟨fun _ => ⟨fun h1 => ⟨rfl, ?_⟩, fun h1 => ⟨0, by decide, rfl, rfl, ?_⟩⟩, fun h => absurd (jNLE h) (by omega)⟩
      · have h1 := iNE h1
        have : lwN T S f = none := by
          unfold lwN lawN
          rw [hst]
          split
          · rename_i he; cases he; exact absurd rfl h1
          · rfl
        have hQ := hQ p
        rw [this] at hQ
        exact hQ
      · have h1 := iEQ h1
        obtain ⟨v, rfl⟩ : ∃ v, st = [v] := by
          cases st with
          | nil => simp at h1
          | cons v r =>
            cases r with
            | nil => exact ⟨v, rfl⟩
            | cons => simp at h1
        have : lwN T S f = some v := by
          unfold lwN lawN
          rw [hst]
        have hQ := hQ p
        rw [this] at hQ
        have e : p 0 = v := hp.1
        rw [← e] at hQ
        exact hQ
    · intro i hi ih st hst v6 p hp
      have hlen := lwJ_len hl _ (by omega) st hst
      have hdp := dpN_le T i
      have hk := hl.1 i hi
      have hbl := lwJ_b hl (fun i _ => bI_lN (by have := nmN_lt hw hs (show f < 48 by omega) i; omega)) _ (by omega) st hst
      have hnext : ∀ st2, lwS T (fun i => lN (nmN T S f i)) i st = some st2 → lwJ T (fun i => lN (nmN T S f i)) (i + 1) = some st2 := by
        intro st2 h
        unfold lwJ
        rw [hst]
        exact h
      have ekk : mi' 33 i = nI (kcN (T 17 i) (T 18 i)) := hT'.kk i hi
      have fin : ∀ st2, lwS T (fun i => lN (nmN T S f i)) i st = some st2 → ∀ v6 p2, PL st2 p2 → GoM (d + 2) k_Law_work 136 Q 13 [.ref 32, .ref 6, .ref b, .int (nI f), .int (nI st2.length), .int (nI i + nI 1), v6] [] (mi', cu ml 36 p2, R0 rd, 136) := by
        intro st2 h v6 p2 hp2
        have ih := ih st2 (hnext st2 h) v6 p2 hp2
        rw [nI1] at ih
        exact ih
      have cml : ∀ k x, cu (cu ml 36 p) 36 (vp_updL (cu ml 36 p 36) k x) = cu ml 36 (vp_updL p k x) := fun k x => by rw [cu_cu, cu_self]
      refine g_Law_work (fun K Kl hK hC => ?_)
      refine ⟨fun h => absurd (jLE h) (by omega), fun _ => ⟨i, by omega, rfl, ?_⟩⟩
      rw [ekk]
      have cases4 : T 17 i = 0 ∨ T 17 i = 1 ∨ T 17 i = 2 ∨ 3 ≤ T 17 i := by omega
      rcases cases4 with h0 | h0 | h0 | h0
      · have ec : kcN (T 17 i) (T 18 i) = 1 := by rw [h0]; rfl
        have en : mi' 34 i = nI (T 18 i) := hT'.kn i hi h0
        have h9 := hk.2.1 h0
        rw [ec]
        refine ⟨fun h => absurd rfl h, fun _ => ⟨i, by omega, rfl, st.length, by omega, rfl, ?_⟩⟩
        rw [en, nI_l (by omega), cml]
        have := fin _ (lw0 h0) (.int (nI 1)) _ (show PL (lN (T 18 i) :: st) (vp_updL p st.length (lN (T 18 i))) from ⟨pk_uLs, PL_upd hp (Nat.le_refl _)⟩)
        rw [List.length_cons, nI1] at this
        exact hK _ _ _ _ this
      · have ec : kcN (T 17 i) (T 18 i) = 40 + T 18 i := by rw [h0]; rfl
        have h6 := hk.2.2.1 h0
        have hn := nmN_lt hw hs (show f < 48 by omega) (T 18 i)
        rw [ec]
        refine ⟨fun _ => ⟨fun h => absurd (iLT h) (by omega), fun _ => ⟨fun h => absurd (iLT h) (by omega), fun _ => ⟨T 18 i, h6, by rw [pk_sub (by omega)]; congr 1; omega, st.length, by omega, rfl, ?_⟩⟩⟩, fun h => absurd (iEQ h) (by omega)⟩
        rw [hnm _ h6, nI_l (by omega), cml]
        have := fin _ (lw1 h0) (.int (nI (40 + T 18 i))) _ (show PL (lN (nmN T S f (T 18 i)) :: st) (vp_updL p st.length (lN (nmN T S f (T 18 i)))) from ⟨pk_uLs, PL_upd hp (Nat.le_refl _)⟩)
        rw [List.length_cons, nI1] at this
        exact hK _ _ _ _ this
      · have ec : kcN (T 17 i) (T 18 i) = 39 := by rw [h0]; rfl
        have h1 := hk.2.2.2.1 h0
        rw [ec]
        cases st with
        | nil => rw [← hlen] at h1; exact absurd h1 (by decide)
        | cons a r =>
          have hp0 : p r.length = a := hp.1
          have hlr : (a :: r).length = r.length + 1 := rfl
          have ei : nI (a :: r).length - nI 1 = nI r.length := by rw [pk_sub (by omega)]; congr 1
          refine ⟨fun _ => ⟨fun _ => ⟨fun h => absurd rfl h, fun _ => ⟨fun h => absurd (iLT h) (by omega), fun _ => ⟨r.length, by omega, ei, fun h2 => ⟨r.length, by omega, ei, ?_⟩, fun h2 => ⟨r.length, by omega, ei, ?_⟩⟩⟩⟩, fun h => absurd (by decide) h⟩, fun h => absurd h (by decide)⟩
          · have h2 : ¬ lg_cmp (p r.length) 0 = 0 := h2
            rw [hp0] at h2
            rw [cml]
            have := fin _ (lw2 h0) (.int (nI 39)) (vp_updL p r.length 0) (by rw [if_neg (cNEq h2)]; exact ⟨pk_uLs, PL_upd hp.2 (Nat.le_refl _)⟩)
            exact hK _ _ _ _ this
          · have h2 : ¬ ¬ lg_cmp (p r.length) 0 = 0 := fun z => z h2
            rw [hp0] at h2
            rw [cml]
            have := fin _ (lw2 h0) (.int (nI 39)) (vp_updL p r.length 1) (by rw [if_pos (Classical.byContradiction (fun q => h2 (fun z => q (cEq z))))]; exact ⟨pk_uLs, PL_upd hp.2 (Nat.le_refl _)⟩)
            exact hK _ _ _ _ this
      · have h2 := hk.2.2.2.2 h0
        have hec : kcN (T 17 i) (T 18 i) ≤ 38 ∧ 7 ≤ kcN (T 17 i) (T 18 i) := by
          have h14 := hk.1
          have : T 17 i = 3 ∨ T 17 i = 4 ∨ T 17 i = 5 ∨ T 17 i = 6 ∨ T 17 i = 7 ∨ T 17 i = 8 ∨ T 17 i = 9 ∨ T 17 i = 10 ∨ T 17 i = 11 ∨ T 17 i = 12 ∨ T 17 i = 13 ∨ T 17 i = 14 := by omega
          rw [kc3 h0]
          rcases this with h | h | h | h | h | h | h | h | h | h | h | h <;> rw [h] <;> decide
        cases st with
        | nil => rw [← hlen] at h2; exact absurd h2 (by decide)
        | cons bb r =>
          cases r with
          | nil => rw [← hlen] at h2; have h2 : 2 ≤ 1 := h2; omega
          | cons a r =>
            have hp0 : p (r.length + 1) = bb := hp.1
            have hp1 : p r.length = a := hp.2.1
            have hlr : (bb :: a :: r).length = r.length + 2 := rfl
            have e1 : nI (bb :: a :: r).length + (-1) = nI (r.length + 1) := by rw [hlr]; exact pk_m1 _
            have ei : nI (bb :: a :: r).length + (-1) - nI 1 = nI r.length := by rw [e1, pk_sub (by omega)]; congr 1
            refine ⟨fun _ => ⟨fun _ => ⟨fun _ => ⟨fun h => absurd (iLT h) (by omega), fun _ => ⟨r.length, by omega, ei, r.length + 1, by omega, e1, ?_⟩⟩, fun h => absurd (iEQ h) (by omega)⟩, fun h => absurd (iNLT h) (by omega)⟩, fun h => absurd (iEQ h) (by omega)⟩
            rw [show cu ml 36 p 36 = p from rfl, hp0, hp1]
            refine hC _ _ _ _ (s_join ⟨h0, hk.1⟩ ?_)
            refine ⟨r.length, by omega, ei, r.length, by omega, ei, ?_⟩
            rw [cml]
            cases hj : jnN (T 17 i) a bb with
            | none =>
              have : lwN T S f = none := by
                unfold lwN lawN
                rw [lwJ_none (i := i + 1) (by unfold lwJ; rw [hst]; show lwS _ _ _ _ = none; rw [lw3 h0, hj]) _ (by omega)]
              have hQ := hQ (vp_updL p r.length (oe none))
              rw [this] at hQ
              refine ⟨fun h => absurd ?_ h, fun _ => ⟨rfl, hQ⟩⟩
              rw [show cu ml 36 (vp_updL p r.length (oe none)) 36 r.length = oe none from pk_uLs]
              exact (lg_cmp_eq _ _).mpr rfl
            | some v =>
              have hbv := bI_jn (hbl a (List.mem_cons_of_mem _ List.mem_cons_self)) (hbl bb List.mem_cons_self) hj
              have := fin (v :: r) (by rw [lw3 h0, hj]) (.int (nI (kcN (T 17 i) (T 18 i)))) (vp_updL p r.length v) ⟨pk_uLs, PL_upd hp.2.2 (Nat.le_refl _)⟩
              rw [List.length_cons, ← e1] at this
              refine ⟨fun _ => hK _ _ _ _ this, fun h => ?_⟩
              rw [show cu ml 36 (vp_updL p r.length (oe (some v))) 36 r.length = v from pk_uLs] at h
              exact absurd (cEq h) (bI_ne hbv)
  have ent : RunP m_X1_work 3 (d + 2) k_Law_work 136 Q 0 [.ref 32, .ref 6, .ref b, .int (nI f), .null, .null, .null] [] (mi, ml, R0 rd, 136) := by
    intro K Kl hK hC
    refine hC _ _ _ _ (s_lookAt hb hT hw hS hs hf (fun mi' hf' hnm => ?_))
    have := lp mi' hf' hnm 0 (Nat.zero_le _) [] rfl .null (ml 36) trivial
    rw [cu_id] at this
    exact hK _ _ _ _ this
  exact r_Law_work (by decide) ent
end
