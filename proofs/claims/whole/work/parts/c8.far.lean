/-! THE REFERENCE: layFar, news -/
theorem far_st {g : Nat → Int32} {F : Nat → Nat → Nat} (hg : ∀ p x, p < 3 → x < 3 → g (3 * p + x) = nI (F p x)) {h b : Nat} (hh : h < 3) (hb : b < 3) {w : Nat} : ∀ p x, p < 3 → x < 3 → upd g (3 * h + b) (nI w) (3 * p + x) = nI (if p = h then updN (F h) b w x else F p x) := by
  intro p x hp hx
  by_cases e : 3 * p + x = 3 * h + b
  · have e1 : p = h := by omega
    have e2 : x = b := by omega
    subst e1; subst e2
    rw [pk_us, if_pos rfl, updN_s]
  · rw [pk_un e, hg p x hp hx]
    by_cases e1 : p = h
    · subst e1
      rw [if_pos rfl]
      unfold updN
      rw [if_neg (by omega)]
    · rw [if_neg e1]
theorem far_stp {F : Nat → Nat → Nat} {h a b c w : Nat} {p x : Nat} (hp : p < 3) (hx : x < 3) (eb : updN (F h) b w b = w) : (if p = h then updN (fun x => if h = h then updN (F h) b w x else F h x) a (min (updN (F h) b w a) (w + c)) x else (if p = h then updN (F h) b w x else F p x)) = if p = h then updN (updN (F h) b w) a (min (updN (F h) b w a) (updN (F h) b w b + c)) x else F p x := by
  rw [eb]
  by_cases e : p = h
  · have e2 : (fun x => if h = h then updN (F h) b w x else F h x) = updN (F h) b w := funext (fun y => if_pos rfl)
    rw [if_pos e, if_pos e, e2]
  · rw [if_neg e, if_neg e, if_neg e]
section
variable {d : Nat} {Q : Option Value → Mm → Prop} {T S : Nat → Nat → Nat} {mi : Nat → Nat → Int32} {ml : Nat → Nat → Int64} {rd : Option Nat} {x y z : Int32}
/-- one link, all hills -/
theorem far_in {l a b c : Nat} (hl : l < 3) (ha3 : a < 3) (hb3 : b < 3) (hc : c ≤ 20) (ec : mi 115 (3 * l + 2) = nI c) {F : Nat → Nat → Nat} (hB : ∀ p i, F p i ≤ 1000000) {v1 : Int32} (next : ∀ g : Nat → Int32, (∀ p x, p < 3 → x < 3 → g (3 * p + x) = nI (rxN b a c (F p) x)) → ∀ v3 v4 v5 v6, GoM d k_Mod_layFar 136 Q 45 [.ref 95, .int v1, .int (nI l + nI 1), v3, v4, v5, v6] [] (cu mi 129 g, ml, R0 rd, 136)) {x3 x4 : Int32} (e3 : x3 = nI a) (e4 : x4 = nI b) : ∀ h, h ≤ 3 → ∀ g : Nat → Int32, (∀ p x, p < 3 → x < 3 → g (3 * p + x) = nI (if p < h then rxN b a c (F p) x else F p x)) → ∀ v6, GoM d k_Mod_layFar 136 Q 77 [.ref 95, .int v1, .int (nI l), .int x3, .int x4, .int (nI h), v6] [] (cu mi 129 g, ml, R0 rd, 136) := by
  subst e3; subst e4
  refine upto ?_ ?_
  · intro g hg v6
    refine g_Mod_layFar (fun K Kl hK hC => ⟨fun _ => hK _ _ _ _ (next g (fun p x hp hx => ?_) _ _ _ _), fun z => absurd (iNLE z) (by omega)⟩)
    rw [hg p x hp hx, if_pos hp]
  · intro h h3 ih g hg v6
    have ia : nI 3 * nI h + nI a = nI (3 * h + a) := by rw [pk_mul, nI_add]
    have ib : nI 3 * nI h + nI b = nI (3 * h + b) := by rw [pk_mul, nI_add]
    have i2 : nI 3 * nI l + nI 2 = nI (3 * l + 2) := by rw [pk_mul, nI_add]
    have ga : g (3 * h + a) = nI (F h a) := by rw [hg h a h3 ha3, if_neg (by omega)]
    have gb : g (3 * h + b) = nI (F h b) := by rw [hg h b h3 hb3, if_neg (by omega)]
    have hBa := hB h a
    have hBb := hB h b
    have hg0 := hg
    have ih := fun g2 (q : ∀ p x, p < 3 → x < 3 → g2 (3 * p + x) = nI (if p = h then rxN b a c (F h) x else (if p < h then rxN b a c (F p) x else F p x))) v => ih g2 (fun p x hp hx => by
      rw [q p x hp hx]
      by_cases e1 : p = h
      · rw [if_pos e1, if_pos (by omega), e1]
      · rw [if_neg e1]
        by_cases e2 : p < h
        · rw [if_pos e2, if_pos (by omega)]
        · rw [if_neg e2, if_neg (by omega)]) v
    clear hg
    obtain ⟨G, hG, hGh, hG2⟩ : ∃ G : Nat → Nat → Nat, (∀ p x, p < 3 → x < 3 → g (3 * p + x) = nI (G p x)) ∧ G h = F h ∧ ∀ p x, p ≠ h → G p x = (if p < h then rxN b a c (F p) x else F p x) := ⟨fun p x => if p < h then rxN b a c (F p) x else F p x, hg0, by funext x; show (if h < h then _ else _) = _; rw [if_neg (by omega)], fun _ _ _ => rfl⟩
    have ih := fun g2 (q : ∀ p x, p < 3 → x < 3 → g2 (3 * p + x) = nI (if p = h then rxN b a c (G h) x else G p x)) v => ih g2 (fun p x hp hx => by
      rw [q p x hp hx]
      by_cases e1 : p = h
      · rw [if_pos e1, if_pos e1, hGh]
      · rw [if_neg e1, if_neg e1, hG2 p x e1]) v
    have hB : ∀ p i, p = h → G p i ≤ 1000000 := fun p i e => by rw [e, hGh]; exact hB h i
    rw [← hGh] at ga gb hBa hBb
    clear hg0 hGh hG2
    have hg := hG
    clear hG
    have hB : ∀ (p : Nat) i, G h i ≤ 1000000 := fun p i => hB h i rfl
    refine g_Mod_layFar (fun K Kl hK hC => ⟨fun z => absurd (iLE z) (by omega), fun _ => ⟨3 * h + a, by omega, ia, ⟨3 * l + 2, by omega, i2, ⟨3 * h + b, by omega, ib, ⟨fun z0 => ⟨3 * h + b, by omega, ib, ⟨3 * h + b, by omega, ib, ?_⟩⟩, fun z0 => ⟨3 * h + b, by omega, ib, ?_⟩⟩⟩⟩⟩⟩)
    · have z0 : g (3 * h + b) ≤ g (3 * h + a) + mi 115 (3 * l + 2) := z0
      rw [ga, gb, ec, nI_add] at z0
      have z0 := iLE z0
      have ev : (g (3 * h + b)) = nI (min (G h b) (G h a + c)) := by rw [gb]; congr 1; omega
      have far1 := far_st hg h3 hb3 (w := min (G h b) (G h a + c))
      have eb1 : updN (G h) b (min (G h b) (G h a + c)) b = min (G h b) (G h a + c) := updN_s _ _
      have ra : upd g (3 * h + b) (g (3 * h + b)) (3 * h + a) = nI (updN (G h) b (min (G h b) (G h a + c)) a) := by rw [ev, far1 h a h3 ha3, if_pos rfl]
      have rb : upd g (3 * h + b) (g (3 * h + b)) (3 * h + b) = nI (min (G h b) (G h a + c)) := by rw [ev, pk_us]
      have hua : updN (G h) b (min (G h b) (G h a + c)) a ≤ 1000000 := updN_le (fun i => hB h i) (by have := hB h b; omega) a
      generalize hu : updN (G h) b (min (G h b) (G h a + c)) a = u at ra hua
      refine ⟨3 * h + b, by omega, ib, ⟨3 * l + 2, by omega, i2, ⟨3 * h + a, by omega, ia, ⟨fun z => ⟨3 * h + a, by omega, ia, ⟨3 * h + a, by omega, ia, ?_⟩⟩, fun z => ⟨3 * h + a, by omega, ia, ?_⟩⟩⟩⟩⟩
      · have z : upd g (3 * h + b) (g (3 * h + b)) (3 * h + a) ≤ upd g (3 * h + b) (g (3 * h + b)) (3 * h + b) + mi 115 (3 * l + 2) := z
        rw [ra, rb, ec, nI_add] at z
        have z := iLE z
        have e2 : (upd g (3 * h + b) (g (3 * h + b)) (3 * h + a)) = nI (min u (min (G h b) (G h a + c) + c)) := by rw [ra]; congr 1; omega
        have ih := ih (upd (upd g (3 * h + b) (g (3 * h + b))) (3 * h + a) (upd g (3 * h + b) (g (3 * h + b)) (3 * h + a))) (fun p x hp hx => by
          rw [e2, ev, ← hu]
          have h2 := far_st far1 h3 ha3 (w := min (updN (G h) b (min (G h b) (G h a + c)) a) (min (G h b) (G h a + c) + c)) p x hp hx
          rw [h2]
          exact congrArg nI (far_stp hp hx eb1)) (.int (upd g (3 * h + b) (g (3 * h + b)) (3 * h + b) + mi 115 (3 * l + 2)))
        rw [nI1 h, ← cu2] at ih
        exact hK _ _ _ _ ih
      · have z : ¬ upd g (3 * h + b) (g (3 * h + b)) (3 * h + a) ≤ upd g (3 * h + b) (g (3 * h + b)) (3 * h + b) + mi 115 (3 * l + 2) := z
        rw [ra, rb, ec, nI_add] at z
        have z := iNLE z
        have e2 : (upd g (3 * h + b) (g (3 * h + b)) (3 * h + b) + mi 115 (3 * l + 2)) = nI (min u (min (G h b) (G h a + c) + c)) := by rw [rb, ec, nI_add]; congr 1; omega
        have ih := ih (upd (upd g (3 * h + b) (g (3 * h + b))) (3 * h + a) (upd g (3 * h + b) (g (3 * h + b)) (3 * h + b) + mi 115 (3 * l + 2))) (fun p x hp hx => by
          rw [e2, ev, ← hu]
          have h2 := far_st far1 h3 ha3 (w := min (updN (G h) b (min (G h b) (G h a + c)) a) (min (G h b) (G h a + c) + c)) p x hp hx
          rw [h2]
          exact congrArg nI (far_stp hp hx eb1)) (.int (upd g (3 * h + b) (g (3 * h + b)) (3 * h + b) + mi 115 (3 * l + 2)))
        rw [nI1 h, ← cu2] at ih
        exact hK _ _ _ _ ih
    · have z0 : ¬ g (3 * h + b) ≤ g (3 * h + a) + mi 115 (3 * l + 2) := z0
      rw [ga, gb, ec, nI_add] at z0
      have z0 := iNLE z0
      have ev : (g (3 * h + a) + mi 115 (3 * l + 2)) = nI (min (G h b) (G h a + c)) := by rw [ga, ec, nI_add]; congr 1; omega
      have far1 := far_st hg h3 hb3 (w := min (G h b) (G h a + c))
      have eb1 : updN (G h) b (min (G h b) (G h a + c)) b = min (G h b) (G h a + c) := updN_s _ _
      have ra : upd g (3 * h + b) (g (3 * h + a) + mi 115 (3 * l + 2)) (3 * h + a) = nI (updN (G h) b (min (G h b) (G h a + c)) a) := by rw [ev, far1 h a h3 ha3, if_pos rfl]
      have rb : upd g (3 * h + b) (g (3 * h + a) + mi 115 (3 * l + 2)) (3 * h + b) = nI (min (G h b) (G h a + c)) := by rw [ev, pk_us]
      have hua : updN (G h) b (min (G h b) (G h a + c)) a ≤ 1000000 := updN_le (fun i => hB h i) (by have := hB h b; omega) a
      generalize hu : updN (G h) b (min (G h b) (G h a + c)) a = u at ra hua
      refine ⟨3 * h + b, by omega, ib, ⟨3 * l + 2, by omega, i2, ⟨3 * h + a, by omega, ia, ⟨fun z => ⟨3 * h + a, by omega, ia, ⟨3 * h + a, by omega, ia, ?_⟩⟩, fun z => ⟨3 * h + a, by omega, ia, ?_⟩⟩⟩⟩⟩
      · have z : upd g (3 * h + b) (g (3 * h + a) + mi 115 (3 * l + 2)) (3 * h + a) ≤ upd g (3 * h + b) (g (3 * h + a) + mi 115 (3 * l + 2)) (3 * h + b) + mi 115 (3 * l + 2) := z
        rw [ra, rb, ec, nI_add] at z
        have z := iLE z
        have e2 : (upd g (3 * h + b) (g (3 * h + a) + mi 115 (3 * l + 2)) (3 * h + a)) = nI (min u (min (G h b) (G h a + c) + c)) := by rw [ra]; congr 1; omega
        have ih := ih (upd (upd g (3 * h + b) (g (3 * h + a) + mi 115 (3 * l + 2))) (3 * h + a) (upd g (3 * h + b) (g (3 * h + a) + mi 115 (3 * l + 2)) (3 * h + a))) (fun p x hp hx => by
          rw [e2, ev, ← hu]
          have h2 := far_st far1 h3 ha3 (w := min (updN (G h) b (min (G h b) (G h a + c)) a) (min (G h b) (G h a + c) + c)) p x hp hx
          rw [h2]
          exact congrArg nI (far_stp hp hx eb1)) (.int (upd g (3 * h + b) (g (3 * h + a) + mi 115 (3 * l + 2)) (3 * h + b) + mi 115 (3 * l + 2)))
        rw [nI1 h, ← cu2] at ih
        exact hK _ _ _ _ ih
      · have z : ¬ upd g (3 * h + b) (g (3 * h + a) + mi 115 (3 * l + 2)) (3 * h + a) ≤ upd g (3 * h + b) (g (3 * h + a) + mi 115 (3 * l + 2)) (3 * h + b) + mi 115 (3 * l + 2) := z
        rw [ra, rb, ec, nI_add] at z
        have z := iNLE z
        have e2 : (upd g (3 * h + b) (g (3 * h + a) + mi 115 (3 * l + 2)) (3 * h + b) + mi 115 (3 * l + 2)) = nI (min u (min (G h b) (G h a + c) + c)) := by rw [rb, ec, nI_add]; congr 1; omega
        have ih := ih (upd (upd g (3 * h + b) (g (3 * h + a) + mi 115 (3 * l + 2))) (3 * h + a) (upd g (3 * h + b) (g (3 * h + a) + mi 115 (3 * l + 2)) (3 * h + b) + mi 115 (3 * l + 2))) (fun p x hp hx => by
          rw [e2, ev, ← hu]
          have h2 := far_st far1 h3 ha3 (w := min (updN (G h) b (min (G h b) (G h a + c)) a) (min (G h b) (G h a + c) + c)) p x hp hx
          rw [h2]
          exact congrArg nI (far_stp hp hx eb1)) (.int (upd g (3 * h + b) (g (3 * h + a) + mi 115 (3 * l + 2)) (3 * h + b) + mi 115 (3 * l + 2)))
        rw [nI1 h, ← cu2] at ih
        exact hK _ _ _ _ ih
set_option maxHeartbeats 1000000 in
theorem t_layFar (hT : MT T mi) (hw : wfT T) (hQ : ∀ g : Nat → Int32, (∀ p x, p < 3 → x < 3 → g (3 * p + x) = nI (farN T p x)) → Q none (cu mi 129 g, ml, R0 rd, 136)) : Cd (d + 1) k_Mod_layFar [.ref 95] (mi, ml, R0 rd, 136) Q := by
  have hl3 := hw.lk3
  have hh3 := hw.hl3
  have el : mi 95 20 = nI (T 0 8) := hT.links
  have rounds : ∀ r, r ≤ 3 → ∀ g : Nat → Int32, (∀ p x, p < 3 → x < 3 → g (3 * p + x) = nI (sprN (swK T) (fN p) r x)) → ∀ v2 v3 v4 v5 v6, GoM d k_Mod_layFar 136 Q 38 [.ref 95, .int (nI r), v2, v3, v4, v5, v6] [] (cu mi 129 g, ml, R0 rd, 136) := by
    refine upto ?_ ?_
    · intro g hg v2 v3 v4 v5 v6
      exact g_Mod_layFar (fun K Kl hK hC => ⟨fun _ => ⟨rfl, hQ g hg⟩, fun z => absurd (iNLE z) (by omega)⟩)
    · intro r hr ih g hg v2 v3 v4 v5 v6
      rw [nI1 r] at ih
      have links : ∀ l, l ≤ T 0 8 → ∀ g : Nat → Int32, (∀ p x, p < 3 → x < 3 → g (3 * p + x) = nI (rl1N (swK T) (sprN (swK T) (fN p) r) l x)) → ∀ v3 v4 v5 v6, GoM d k_Mod_layFar 136 Q 45 [.ref 95, .int (nI r), .int (nI l), v3, v4, v5, v6] [] (cu mi 129 g, ml, R0 rd, 136) := by
        refine upto ?_ ?_
        · intro g hg v3 v4 v5 v6
          exact g_Mod_layFar (fun K Kl hK hC => ⟨fun _ => hK _ _ _ _ (ih g hg _ _ _ _ _), fun z => absurd (jNLE z) (by omega)⟩)
        · intro l hl ih g hg v3 v4 v5 v6
          have hlk := hw.lk l hl
          have i0 : nI 3 * nI l = nI (3 * l) := pk_mul _ _
          have i1 : nI 3 * nI l + nI 1 = nI (3 * l + 1) := by rw [pk_mul, nI_add]
          have e0 : mi 115 (3 * l) = nI (T 16 (3 * l)) := hT.lk _ (by omega)
          have e1 : mi 115 (3 * l + 1) = nI (T 16 (3 * l + 1)) := hT.lk _ (by omega)
          have e2 : mi 115 (3 * l + 2) = nI (T 16 (3 * l + 2)) := hT.lk _ (by omega)
          rw [nI1 l] at ih
          have inn := far_in (d := d) (Q := Q) (ml := ml) (rd := rd) (v1 := nI r) (show l < 3 by omega) (show T 16 (3 * l) < 3 by omega) (show T 16 (3 * l + 1) < 3 by omega) hlk.2.2.2 e2 (F := fun p => rl1N (swK T) (sprN (swK T) (fN p) r) l) (fun p i => rl1N_le (sprN_le (fN_le p) r) l i) (fun g2 q v3 v4 v5 v6 => ih g2 (fun p x hp hx => by
            rw [q p x hp hx, rl1N, rlx_rx, swK_1, swK_2, swK_3]) v3 v4 v5 v6) e0 e1 0 (Nat.zero_le _) g (fun p x hp hx => by rw [if_neg (by omega)]; exact hg p x hp hx)
          exact g_Mod_layFar (fun K Kl hK hC => ⟨fun z => absurd (jLE z) (by omega), fun _ => ⟨3 * l, by omega, i0, ⟨3 * l + 1, by omega, i1, hK _ _ _ _ (inn _)⟩⟩⟩)
      exact g_Mod_layFar (fun K Kl hK hC => ⟨fun z => absurd (iLE z) (by omega), fun _ => hK _ _ _ _ (links 0 (Nat.zero_le _) g hg _ _ _ _)⟩)
  have init : ∀ k, k ≤ 9 → ∀ g : Nat → Int32, (∀ j, j < k → g j = nI (fN (j / 3) (j % 3))) → ∀ v2 v3 v4 v5 v6, GoM d k_Mod_layFar 136 Q 2 [.ref 95, .int (nI k), v2, v3, v4, v5, v6] [] (cu mi 129 g, ml, R0 rd, 136) := by
    refine upto ?_ ?_
    · intro g hg v2 v3 v4 v5 v6
      exact g_Mod_layFar (fun K Kl hK hC => ⟨fun _ => hK _ _ _ _ (rounds 0 (by omega) g (fun p x hp hx => by
        rw [hg (3 * p + x) (by omega), show (3 * p + x) / 3 = p by omega, show (3 * p + x) % 3 = x by omega]
        rfl) _ _ _ _ _), fun z => absurd (iNLE z) (by omega)⟩)
    · intro k hk ih g hg v2 v3 v4 v5 v6
      have ed : nI k / nI 3 = nI (k / 3) := pk_div (by omega) (by omega) (by omega)
      have er : nI k - nI k / nI 3 * nI 3 = nI (k % 3) := pk_rem (by omega) (by omega) (by omega)
      rw [nI1 k] at ih
      refine g_Mod_layFar (fun K Kl hK hC => ⟨fun z => absurd (iLE z) (by omega), fun _ => ⟨by decide, ⟨by decide, ⟨fun z => ⟨k, by omega, rfl, ?_⟩, fun z => ⟨k, by omega, rfl, ?_⟩⟩⟩⟩⟩)
      · have z : ¬ nI k / nI 3 = nI k - nI k / nI 3 * nI 3 := z
        rw [er, ed] at z
        have z := iNE z
        have ih := ih (upd g k (nI 999999)) (fun j hj => by
          by_cases e : j = k
          · subst e
            rw [pk_us]
            unfold fN
            rw [if_neg (by omega)]
          · rw [pk_un e]; exact hg j (by omega)) v2 v3 v4 v5 v6
        rw [← cuu] at ih
        exact hK _ _ _ _ ih
      · have z : nI k / nI 3 = nI k - nI k / nI 3 * nI 3 := z
        rw [er, ed] at z
        have z := iEQ z
        have ih := ih (upd g k (nI 0)) (fun j hj => by
          by_cases e : j = k
          · subst e
            rw [pk_us]
            unfold fN
            rw [if_pos (by omega)]
          · rw [pk_un e]; exact hg j (by omega)) v2 v3 v4 v5 v6
        rw [← cuu] at ih
        exact hK _ _ _ _ ih
  have ini := init 0 (Nat.zero_le _) (mi 129) (fun j hj => by omega) .null .null .null .null .null
  rw [cu_id] at ini
  exact r_Mod_layFar (by decide) (fun K Kl hK hC => hK _ _ _ _ ini)
end
