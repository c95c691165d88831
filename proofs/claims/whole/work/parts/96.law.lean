/-! THE LAW READ: what is kept; ranks, knots, waiting signs (the class) -/
def opnN : List Nat → Nat
  | [] => 0
  | a :: W => (if a = 5 then 1 else 0) + opnN W
def opsN : List Nat → Nat
  | [] => 0
  | a :: W => (if a = 5 then 0 else 1) + opsN W
def binN : List Nat → Nat
  | [] => 0
  | a :: W => (if a = 5 ∨ a = 39 then 0 else 1) + binN W
/-- knots that can be -/
def knOK (T : Nat → Nat → Nat) : Prop := ∀ i, i < T 0 9 → T 17 i ≤ 14 ∧ (T 17 i = 0 → T 18 i ≤ 9999) ∧ (T 17 i = 1 → T 18 i < 6) ∧ (T 17 i = 2 → 1 ≤ dpN T i) ∧ (3 ≤ T 17 i → 2 ≤ dpN T i)
def wkOK (W : List Nat) : Prop := ∀ a, a ∈ W → a = 5 ∨ (1 ≤ rkN a ∧ a ≤ 39)
/-- what holds as the law is read -/
def LI (T : Nat → Nat → Nat) (c o : Nat) (q : Bool) (W : List Nat) : Prop := wkOK W ∧ opnN W = o ∧ o ≤ 8 ∧ T 0 9 + opsN W = c ∧ c ≤ 64 ∧ dpN T (T 0 9) = binN W + (if q then 0 else 1) ∧ knOK T
theorem len_W (W : List Nat) : W.length = opnN W + opsN W := by
  induction W with
  | nil => rfl
  | cons a W ih =>
    unfold opnN opsN
    rw [List.length_cons, ih]
    split <;> omega
theorem dpN_cg {T T' : Nat → Nat → Nat} {n : Nat} (h : ∀ i, i < n → T' 17 i = T 17 i) : dpN T' n = dpN T n := by
  induction n with
  | zero => rfl
  | succ n ih =>
    unfold dpN
    rw [ih (fun i hi => h i (by omega)), h n (by omega)]
theorem kn_17 (T : Nat → Nat → Nat) (kd x i : Nat) : aKn T kd x 17 i = if i = T 0 9 then kd else T 17 i := rfl
theorem kn_18 (T : Nat → Nat → Nat) (kd x i : Nat) : aKn T kd x 18 i = if i = T 0 9 then x else T 18 i := rfl
theorem kn_dp (T : Nat → Nat → Nat) (kd x : Nat) : ∀ i, i ≤ T 0 9 → dpN (aKn T kd x) i = dpN T i := fun i hi => dpN_cg (fun a ha => by rw [kn_17, if_neg (by omega)])
theorem kn_dps (T : Nat → Nat → Nat) (kd x : Nat) : dpN (aKn T kd x) (T 0 9 + 1) = if kd ≤ 1 then dpN T (T 0 9) + 1 else if kd = 2 then dpN T (T 0 9) else dpN T (T 0 9) - 1 := by
  rw [dpN, kn_17, if_pos rfl, kn_dp T kd x _ (Nat.le_refl _)]
theorem kn_ok {T : Nat → Nat → Nat} (h : knOK T) {kd x : Nat} (h1 : kd ≤ 14) (h2 : kd = 0 → x ≤ 9999) (h3 : kd = 1 → x < 6) (h4 : kd = 2 → 1 ≤ dpN T (T 0 9)) (h5 : 3 ≤ kd → 2 ≤ dpN T (T 0 9)) : knOK (aKn T kd x) := by
  intro i hi
  have hi : i < T 0 9 + 1 := hi
  rw [kn_17, kn_18, kn_dp T kd x i (by omega)]
  by_cases e : i = T 0 9
  · rw [if_pos e, if_pos e, e]
    exact ⟨h1, h2, h3, h4, h5⟩
  · rw [if_neg e, if_neg e]
    exact h i (by omega)
theorem rk_cs {a : Nat} (h : 1 ≤ rkN a) : a = 37 ∨ a = 38 ∨ a = 39 ∨ (7 ≤ a ∧ a ≤ 16) := by
  unfold rkN at h
  split at h
  · omega
  · split at h
    · omega
    · split at h
      · omega
      · split at h
        · omega
        · split at h
          · omega
          · split at h <;> omega
theorem kp_kc : ∀ a, a ≤ 39 → 1 ≤ rkN a → kcN (kpN a) 0 = a ∧ 2 ≤ kpN a ∧ kpN a ≤ 14 ∧ (kpN a = 2 ↔ a = 39) ∧ a ≠ 5 ∧ rkN a ≤ 6 := by decide +kernel
theorem rk_5 : rkN 5 = 0 := rfl
/-- one waiting sign is settled -/
theorem LI.pop {T : Nat → Nat → Nat} {c o a : Nat} {W : List Nat} (h : LI T c o false (a :: W)) (ha : 1 ≤ rkN a) : LI (aKn T (kpN a) 0) c o false W ∧ T 0 9 < 64 := by
  obtain ⟨h1, h2, h3, h4, h5, h6, h7⟩ := h
  have ha2 : a ≤ 39 := (h1 a List.mem_cons_self).elim (fun e => by omega) (fun e => e.2)
  have hk := kp_kc a ha2 ha
  have n5 := hk.2.2.2.2.1
  have e2 : opnN W = o := by
    unfold opnN at h2
    rw [if_neg n5] at h2
    omega
  have e4 : T 0 9 + 1 + opsN W = c := by
    unfold opsN at h4
    rw [if_neg n5] at h4
    omega
  have h6 : dpN T (T 0 9) = binN (a :: W) + 1 := h6
  refine ⟨⟨fun x hx => h1 x (List.mem_cons_of_mem _ hx), e2, h3, e4, h5, ?_, ?_⟩, by omega⟩
  · show dpN (aKn T (kpN a) 0) (T 0 9 + 1) = binN W + 1
    rw [kn_dps, h6, show binN (a :: W) = (if a = 5 ∨ a = 39 then 0 else 1) + binN W from rfl, if_neg (show ¬ kpN a ≤ 1 by omega)]
    by_cases e : a = 39
    · rw [if_pos (show a = 5 ∨ a = 39 from Or.inr e), if_pos (hk.2.2.2.1.mpr e)]
      omega
    · rw [if_neg (show ¬ (a = 5 ∨ a = 39) from fun z => z.elim n5 e), if_neg (fun z => e (hk.2.2.2.1.mp z))]
      omega
  · refine kn_ok h7 hk.2.2.1 (by omega) (by omega) (fun _ => by omega) (fun z => ?_)
    have e : a ≠ 39 := fun y => by have := hk.2.2.2.1.mpr y; omega
    rw [h6, show binN (a :: W) = (if a = 5 ∨ a = 39 then 0 else 1) + binN W from rfl, if_neg (show ¬ (a = 5 ∨ a = 39) from fun z => z.elim n5 e)]
    omega
theorem LI.settle {T : Nat → Nat → Nat} {c o r : Nat} {W : List Nat} (h : LI T c o false W) (hr : 1 ≤ r) : LI (stlN r W T).2 c o false (stlN r W T).1 := by
  induction W generalizing T with
  | nil => exact h
  | cons a W ih =>
    unfold stlN
    split
    · rename_i hra
      exact ih (h.pop (by omega)).1
    · exact h
/-- what is on top once all that bind are settled -/
theorem stl_top {r : Nat} {W : List Nat} {T : Nat → Nat → Nat} : ∀ a W', (stlN r W T).1 = a :: W' → rkN a < r := by
  induction W generalizing T with
  | nil => intro a W' h; cases h
  | cons b W ih =>
    intro a W' h
    unfold stlN at h
    split at h
    · exact ih a W' h
    · rename_i hn
      cases h
      omega
/-- the reader's waiting signs, the last one first -/
def WS : List Nat → (Nat → Int32) → Prop
  | [], _ => True
  | a :: W, g => g W.length = nI a ∧ WS W g
theorem WS.upd {W : List Nat} {g : Nat → Int32} {i : Nat} {x : Int32} (h : WS W g) (hi : W.length ≤ i) : WS W (upd g i x) := by
  induction W with
  | nil => trivial
  | cons a W ih =>
    have hi : W.length + 1 ≤ i := hi
    exact ⟨(pk_un (by omega)).trans h.1, ih h.2 (by omega)⟩
/-- the reader as it reads the law -/
def LZ (j c o : Nat) (q : Bool) (W : List Nat) (mi0 mi : Nat → Nat → Int32) : Prop := RS j mi0 mi ∧ mi 68 5 = nI c ∧ mi 68 6 = nI o ∧ mi 68 7 = nI q.toNat ∧ mi 68 9 = nI W.length ∧ WS W (mi 69)
section
variable {d : Nat} {Q : Option Value → Mm → Prop} {T : Nat → Nat → Nat} {k v p : Nat → Nat} {m j c op : Nat} {q : Bool} {W : List Nat} {mi0 mi : Nat → Nat → Int32} {ml : Nat → Nat → Int64} {rd : Option Nat} {o l : Nat}
theorem s_rankOf {a : Nat} {x : Int32} (hx : x = nI a) (ha : a ≤ 45) (hQ : Q (some (.int (nI (rkN a)))) (mi, ml, R0 rd, 136)) : Cd (d + 1) k_Reader_rankOf [.int x] (mi, ml, R0 rd, 136) Q := by
  subst hx
  refine r_Reader_rankOf (by decide) (fun K Kl hK hC => ?_)
  refine ⟨fun h7 => ⟨rfl, ?_⟩, fun h7 => swP_c (fun h8 => ⟨rfl, ?_⟩) (fun h8 => swP_c (fun h9 => ⟨rfl, ?_⟩) (fun h9 => swP_c (fun h10 => ⟨rfl, ?_⟩) (fun h10 => swP_c (fun h37 => ⟨rfl, ?_⟩) (fun h37 => swP_c (fun h38 => ⟨rfl, ?_⟩) (fun h38 => swP_c (fun h39 => ⟨rfl, ?_⟩) (fun h39 => swP_n ?_))))))⟩
  · rw [iEQ h7] at hQ; exact hQ
  · rw [iEQ h8] at hQ; exact hQ
  · rw [iEQ h9] at hQ; exact hQ
  · rw [iEQ h10] at hQ; exact hQ
  · rw [iEQ h37] at hQ; exact hQ
  · rw [iEQ h38] at hQ; exact hQ
  · rw [iEQ h39] at hQ; exact hQ
  · have n7 := iNE h7; have n8 := iNE h8; have n9 := iNE h9; have n10 := iNE h10; have n37 := iNE h37; have n38 := iNE h38; have n39 := iNE h39
    have e : rkN a = if 11 ≤ a ∧ a ≤ 16 then 4 else 0 := by
      unfold rkN
      rw [if_neg n37, if_neg n38, if_neg n39, if_neg (fun z => z.elim n7 n8), if_neg (fun z => z.elim n9 n10)]
    rw [e] at hQ
    refine ⟨fun z => ⟨rfl, ?_⟩, fun z => ⟨fun z2 => ⟨rfl, ?_⟩, fun z2 => ⟨rfl, ?_⟩⟩⟩
    · rw [if_neg (by have := iLT z; omega)] at hQ; exact hQ
    · rw [if_neg (by have := iLT z2; omega)] at hQ; exact hQ
    · rw [if_pos ⟨iNLT z, iNLT z2⟩] at hQ; exact hQ
theorem LZ.set {i : Nat} {x : Int32} {j' c' o' : Nat} {q' : Bool} (h : LZ j c op q W mi0 mi) (h4 : upd (mi 68) i x 4 = nI j') (h5 : upd (mi 68) i x 5 = nI c') (h6 : upd (mi 68) i x 6 = nI o') (h7 : upd (mi 68) i x 7 = nI q'.toNat) (hi : 4 ≤ i) (hi2 : i < 8) : LZ j' c' o' q' W mi0 (cu mi 68 (upd (mi 68) i x)) := by
  obtain ⟨⟨r1, r2, r3⟩, a5, a6, a7, a9, ws⟩ := h
  refine ⟨⟨h4, ?_, ?_⟩, h5, h6, h7, ?_, ws⟩
  · rw [cu_self, pk_un (by omega)]; exact r2
  · rw [cu_self, pk_un (by omega)]; exact r3
  · rw [cu_self, pk_un (by omega)]; exact a9
theorem s_isKnot (hR : RE k v p m mi) (hj : j ≤ m) (hL : LZ j c op q W mi0 mi) (hc : c ≤ 64) (h0 : 64 ≤ c → ∀ mi', Fr [68] mi mi' → mi' 68 0 = nI 2 → mi' 68 1 = nI (p j) → Q (some (.int (nI 0))) (mi', ml, R0 rd, 136)) (h1 : c < 64 → ∀ mi', Fr [68] mi mi' → LZ j (c + 1) op q W mi0 mi' → Q (some (.int (nI 1))) (mi', ml, R0 rd, 136)) : Cd (d + 2) k_Reader_isKnot [.ref 68] (mi, ml, R0 rd, 136) Q := by
  have e5 := hL.2.1
  refine r_Reader_isKnot (by decide) (fun K Kl hK hC => ⟨fun z => ⟨Or.inr rfl, rfl, h1 (jLT z) _ (Fr.cu Fr.none rfl) (hL.set hL.1.1 (inc1 e5) hL.2.2.1 hL.2.2.2.1 (by decide) (by decide))⟩, fun z => ?_⟩)
  have z := jNLT z
  exact hC _ _ _ _ (s_refused hR hj hL.1.1 (fun m1 f1 a b => ⟨Or.inl rfl, rfl, h0 z m1 f1 a b⟩))
theorem s_await (hL : LZ j c op q W mi0 mi) (hlen : W.length < 72) {a : Nat} (hQ : ∀ mi', Fr [68, 69] mi mi' → LZ j c op q (a :: W) mi0 mi' → Q (some (.int (nI 1))) (mi', ml, R0 rd, 136)) : Cd (d + 1) k_Reader_await [.ref 68, .int (nI a)] (mi, ml, R0 rd, 136) Q := by
  obtain ⟨⟨r1, r2, r3⟩, a5, a6, a7, a9, ws⟩ := hL
  refine r_Reader_await (by decide) (fun K Kl hK hC => ⟨fun z => absurd (jLE z) (by omega), fun _ => ⟨W.length, hlen, a9, Or.inr rfl, rfl, hQ _ (Fr.cu (Fr.cu Fr.none rfl) rfl) ⟨⟨r1, r2, r3⟩, a5, a6, a7, inc1 a9, pk_us, ws.upd (Nat.le_refl _)⟩⟩⟩)
end
