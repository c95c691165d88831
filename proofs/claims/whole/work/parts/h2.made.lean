/-! THINGS ARE MADE -/
theorem nws_arr {e : En} {nmax n : Nat} {x : Int32} {r : List Value} {t : ArrayType} {M : Mm} (hn : M.2.2.2 = n) (he : e.2.1 = .newarray t) (hb : (Nat.blt n nmax && Nat.beq (lay n).1 e.2.2.2.2.2.1.1) = true) : nws e nmax (.int x :: r) M = some (x = nI (lay n).2, .ref n :: r, mk1 M) := by
  unfold nws
  rw [hn, hb, he]
theorem nws_obj {e : En} {nmax n i : Nat} {r : List Value} {M : Mm} (hn : M.2.2.2 = n) (he : e.2.1 = .new i) (hb : (Nat.blt n nmax && Nat.beq (lay n).1 e.2.2.2.2.2.1.1) = true) : nws e nmax r M = some (True, .ref n :: r, mk1 M) := by
  unfold nws
  rw [hn, hb, he]
/-- the ints of what the class's constructor makes -/
def ZI (a k : Nat) : Int32 := if (a = 0 ∧ k = 3) ∨ (a = 78 ∧ k = 1) then -1 else 0
def rowL {α : Type} (z : α) : List (Nat × α) → Nat → α
  | [], _ => z
  | (i, x) :: L, k => if k = i then x else rowL z L k
theorem rowL_out {α : Type} {z : α} {b : Nat} : ∀ (L : List (Nat × α)), L.all (fun q => Nat.blt q.1 b) = true → ∀ k, b ≤ k → rowL z L k = z
  | [], _, _, _ => rfl
  | (i, x) :: L, h, k, hk => by
    rw [List.all_cons, Bool.and_eq_true] at h
    have h1 : i < b := by simpa using h.1
    rw [rowL, if_neg (by omega)]
    exact rowL_out L h.2 k hk
theorem nth_out {α : Type} {z : α} : ∀ (L : List α) (k : Nat), L.length ≤ k → nth z L k = z
  | [], k, _ => rfl
  | a :: L, 0, h => by simp at h
  | a :: L, k + 1, h => nth_out L k (by simpa using h)
/-- a row of references, by a count -/
theorem row_R {o : Nat} {L : List (Nat × Option Nat)} (ho : o < 136) (h : ∀ k, k < 110 → rowL none L k = R0 none o k) (hL : L.all (fun q => Nat.blt q.1 110) = true) : rowL none L = R0 none o := by
  funext k
  rcases Nat.lt_or_ge k 110 with q | q
  · exact h k q
  · rw [rowL_out L hL k q]
    unfold R0
    by_cases e : o = 68
    · rw [if_pos e, if_neg (by omega), nth_out _ _ (by simp; omega)]
    · rw [if_neg e, nth_out]
      have hl : ∀ o, o < 136 → (nth [] (nth [] refLL (o / 12)) (o % 12)).length ≤ 110 := by decide +kernel
      have := hl o ho
      omega
theorem row_E {a : Nat} (h : (nth [] (nth [] refLL (a / 12)) (a % 12)).isEmpty = true) (h68 : a ≠ 68) : (fun _ => none) = R0 none a := by
  funext k
  unfold R0
  rw [if_neg h68]
  cases hh : nth [] (nth [] refLL (a / 12)) (a % 12) with
  | nil => rfl
  | cons x y => rw [hh] at h; cases h
theorem row_Z {a : Nat} (h0 : a ≠ 0) (h78 : a ≠ 78) : (fun _ => (0 : Int32)) = ZI a := by
  funext k
  unfold ZI
  rw [if_neg (by omega)]
/-- o is being made since n0 cells, n now: its fields L, J -/
def MkI (mi : Nat → Nat → Int32) (ml : Nat → Nat → Int64) (mr : Nat → Nat → Option Nat) (o n0 n : Nat) (L : List (Nat × Option Nat)) (J : List (Nat × Int32)) (M : Mm) : Prop := M.2.2.2 = n ∧ (∀ a, a ≠ o → (a < n0 ∨ n ≤ a) → M.1 a = mi a) ∧ (∀ a, n0 ≤ a → a < n → M.1 a = ZI a) ∧ M.1 o = rowL 0 J ∧ (∀ a, a ≠ o → (a < n0 ∨ n ≤ a) → M.2.1 a = ml a) ∧ (∀ a, a = o ∨ (n0 ≤ a ∧ a < n) → M.2.1 a = fun _ => 0) ∧ (∀ a, a ≠ o → (a < n0 ∨ n ≤ a) → M.2.2.1 a = mr a) ∧ (∀ a, n0 ≤ a → a < n → M.2.2.1 a = R0 none a) ∧ M.2.2.1 o = rowL none L
/-- o and the cells n0 .. n1 - 1 are made -/
def Made (o n0 n1 : Nat) (mi mi' : Nat → Nat → Int32) (ml ml' : Nat → Nat → Int64) (mr mr' : Nat → Nat → Option Nat) : Prop := (∀ a, a ≠ o → (a < n0 ∨ n1 ≤ a) → mi' a = mi a ∧ ml' a = ml a ∧ mr' a = mr a) ∧ (∀ a, a = o ∨ (n0 ≤ a ∧ a < n1) → mi' a = ZI a ∧ ml' a = (fun _ => 0) ∧ mr' a = R0 none a)
section
variable {mi : Nat → Nat → Int32} {ml : Nat → Nat → Int64} {mr : Nat → Nat → Option Nat} {o n0 n : Nat} {L : List (Nat × Option Nat)} {J : List (Nat × Int32)} {M : Mm}
theorem MkI.st (h1 : mi o = fun _ => 0) (h2 : ml o = fun _ => 0) (h3 : mr o = fun _ => none) : MkI mi ml mr o n n [] [] (mi, ml, mr, n) := ⟨rfl, fun _ _ _ => rfl, fun a _ _ => by omega, h1, fun _ _ _ => rfl, fun a ha => by rcases ha with e | e; rw [e]; exact h2; omega, fun _ _ _ => rfl, fun a _ _ => by omega, h3⟩
theorem MkI.mk (h : MkI mi ml mr o n0 n L J M) (hn0 : n0 ≤ n) (ho : o < n0) (h0 : n ≠ 0) (h78 : n ≠ 78) (h68 : n ≠ 68) (he : (nth [] (nth [] refLL (n / 12)) (n % 12)).isEmpty = true) : MkI mi ml mr o n0 (n + 1) L J (mk1 M) := by
  obtain ⟨a0, a1, a2, a3, a4, a5, a6, a7, a8⟩ := h
  unfold mk1 MkI
  rw [a0]
  refine ⟨rfl, fun a h1 h2 => ?_, fun a h1 h2 => ?_, ?_, fun a h1 h2 => ?_, fun a h1 => ?_, fun a h1 h2 => ?_, fun a h1 h2 => ?_, ?_⟩
  · show cu M.1 n _ a = _
    rw [cu_ne (by omega)]; exact a1 a h1 (by omega)
  · show cu M.1 n _ a = _
    by_cases e : a = n
    · rw [e, cu_self]; exact row_Z h0 h78
    · rw [cu_ne e]; exact a2 a h1 (by omega)
  · show cu M.1 n _ o = _
    rw [cu_ne (by omega)]; exact a3
  · show cu M.2.1 n _ a = _
    rw [cu_ne (by omega)]; exact a4 a h1 (by omega)
  · show cu M.2.1 n _ a = _
    by_cases e : a = n
    · rw [e, cu_self]
    · rw [cu_ne e]; exact a5 a (by omega)
  · show cu M.2.2.1 n _ a = _
    rw [cu_ne (by omega)]; exact a6 a h1 (by omega)
  · show cu M.2.2.1 n _ a = _
    by_cases e : a = n
    · rw [e, cu_self]; exact row_E he h68
    · rw [cu_ne e]; exact a7 a h1 (by omega)
  · show cu M.2.2.1 n _ o = _
    rw [cu_ne (by omega)]; exact a8
theorem MkI.wr (h : MkI mi ml mr o n0 n L J M) (ho : o < n0) (k : Nat) (x : Option Nat) : MkI mi ml mr o n0 n ((k, x) :: L) J (wR M o k x) := by
  obtain ⟨a0, a1, a2, a3, a4, a5, a6, a7, a8⟩ := h
  refine ⟨a0, a1, a2, a3, a4, a5, fun a h1 h2 => ?_, fun a h1 h2 => ?_, ?_⟩
  · show cu M.2.2.1 o _ a = _
    rw [cu_ne h1]; exact a6 a h1 h2
  · show cu M.2.2.1 o _ a = _
    rw [cu_ne (by omega)]; exact a7 a h1 h2
  · show cu M.2.2.1 o _ o = _
    rw [cu_self, a8]
    rfl
theorem MkI.wi (h : MkI mi ml mr o n0 n L J M) (ho : o < n0) (k : Nat) (x : Int32) : MkI mi ml mr o n0 n L ((k, x) :: J) (wI M o k x) := by
  obtain ⟨a0, a1, a2, a3, a4, a5, a6, a7, a8⟩ := h
  refine ⟨a0, fun a h1 h2 => ?_, fun a h1 h2 => ?_, ?_, a4, a5, a6, a7, a8⟩
  · show cu M.1 o _ a = _
    rw [cu_ne h1]; exact a1 a h1 h2
  · show cu M.1 o _ a = _
    rw [cu_ne (by omega)]; exact a2 a h1 h2
  · show cu M.1 o _ o = _
    rw [cu_self, a3]
    funext i
    by_cases e : i = k
    · rw [e, pk_us, rowL, if_pos rfl]
    · rw [pk_un e, rowL, if_neg e]
/-- a thing made inside -/
theorem MkI.call {n1 : Nat} {mi' : Nat → Nat → Int32} {ml' : Nat → Nat → Int64} {mr' : Nat → Nat → Option Nat} (h : MkI mi ml mr o n0 n L J M) (hn0 : n0 ≤ n) (ho : o < n0) (hn1 : n + 1 ≤ n1) (hm : Made n (n + 1) n1 (mk1 M).1 mi' (mk1 M).2.1 ml' (mk1 M).2.2.1 mr') : MkI mi ml mr o n0 n1 L J (mi', ml', mr', n1) := by
  obtain ⟨a0, a1, a2, a3, a4, a5, a6, a7, a8⟩ := h
  have e1 : ∀ a, a ≠ n → (mk1 M).1 a = M.1 a ∧ (mk1 M).2.1 a = M.2.1 a ∧ (mk1 M).2.2.1 a = M.2.2.1 a := fun a ha => by
    unfold mk1
    rw [a0]
    exact ⟨cu_ne ha, cu_ne ha, cu_ne ha⟩
  have out : ∀ a, a < n ∨ n1 ≤ a → mi' a = M.1 a ∧ ml' a = M.2.1 a ∧ mr' a = M.2.2.1 a := fun a ha => by
    have h1 := hm.1 a (by omega) (by omega)
    have h2 := e1 a (by omega)
    exact ⟨h1.1.trans h2.1, h1.2.1.trans h2.2.1, h1.2.2.trans h2.2.2⟩
  refine ⟨rfl, fun a h1 h2 => ?_, fun a h1 h2 => ?_, ?_, fun a h1 h2 => ?_, fun a h1 => ?_, fun a h1 h2 => ?_, fun a h1 h2 => ?_, ?_⟩
  · exact (out a (by omega)).1.trans (a1 a h1 (by omega))
  · rcases Nat.lt_or_ge a n with q | q
    · exact (out a (by omega)).1.trans (a2 a h1 q)
    · exact (hm.2 a (by have h2 : a < n1 := h2; omega)).1
  · exact (out o (by omega)).1.trans a3
  · exact (out a (by omega)).2.1.trans (a4 a h1 (by omega))
  · rcases Nat.lt_or_ge a n with q | q
    · exact (out a (by omega)).2.1.trans (a5 a (by omega))
    · exact (hm.2 a (by omega)).2.1
  · exact (out a (by omega)).2.2.trans (a6 a h1 (by omega))
  · rcases Nat.lt_or_ge a n with q | q
    · exact (out a (by omega)).2.2.trans (a7 a h1 q)
    · exact (hm.2 a (by have h2 : a < n1 := h2; omega)).2.2
  · exact (out o (by omega)).2.2.trans a8
theorem MkI.fin (h : MkI mi ml mr o n0 n L J M) (hL : rowL none L = R0 none o) (hJ : rowL 0 J = ZI o) : Made o n0 n mi M.1 ml M.2.1 mr M.2.2.1 := by
  obtain ⟨a0, a1, a2, a3, a4, a5, a6, a7, a8⟩ := h
  refine ⟨fun a h1 h2 => ⟨a1 a h1 h2, a4 a h1 h2, a6 a h1 h2⟩, fun a h1 => ⟨?_, a5 a h1, ?_⟩⟩
  · rcases h1 with e | e
    · rw [e, a3]; exact hJ
    · exact a2 a e.1 e.2
  · rcases h1 with e | e
    · rw [e, a8]; exact hL
    · exact a7 a e.1 e.2
/-- the row of a thing just made is empty -/
theorem MkI.new (h : MkI mi ml mr o n0 n L J M) : (mk1 M).1 n = (fun _ => 0) ∧ (mk1 M).2.1 n = (fun _ => 0) ∧ (mk1 M).2.2.1 n = fun _ => none := by
  unfold mk1
  rw [h.1]
  exact ⟨cu_self, cu_self, cu_self⟩
end
section
variable {d : Nat} {Q : Option Value → Mm → Prop} {mi : Nat → Nat → Int32} {ml : Nat → Nat → Int64} {mr : Nat → Nat → Option Nat}
set_option maxHeartbeats 2000000 in
theorem i_Tokens2 (h1 : mi 2 = fun _ => 0) (h2 : ml 2 = fun _ => 0) (h3 : mr 2 = fun _ => none) (hQ : ∀ mi' ml' mr', Made 2 3 6 mi mi' ml ml' mr mr' → Q none (mi', ml', mr', 6)) : Cd (d + 1) k_Tokens_init [.ref 2, .ref 1] (mi, ml, mr, 3) Q := by
  have hs := MkI.st (n := 3) h1 h2 h3
  refine cdM (n := 6) (by decide) (Nat.le_of_ble_eq_true rfl) (Nat.le_of_ble_eq_true rfl) rfl (g_Tokens_init (fun K Kl hK hC => ?_))
  conv => whnf
  rw [nws_arr (n := 3) rfl rfl rfl]
  refine ⟨rfl, ?_⟩
  have h1 := (hs.mk (by decide) (by decide) (by decide) (by decide) (by decide) rfl).wr (by decide) 0 (some 3)
  conv => whnf
  rw [nws_arr (n := 4) rfl rfl rfl]
  refine ⟨rfl, ?_⟩
  have h2 := (h1.mk (by decide) (by decide) (by decide) (by decide) (by decide) rfl).wr (by decide) 1 (some 4)
  conv => whnf
  rw [nws_arr (n := 5) rfl rfl rfl]
  refine ⟨rfl, ?_⟩
  have h3 := (h2.mk (by decide) (by decide) (by decide) (by decide) (by decide) rfl).wr (by decide) 2 (some 5)
  have h4 := h3.wr (by decide) 3 (some 1)
  refine ⟨rfl, hQ _ _ _ (h4.fin (row_R (by decide) (by decide +kernel) rfl) (row_Z (by decide) (by decide)))⟩
set_option maxHeartbeats 2000000 in
theorem i_Script13 (h1 : mi 13 = fun _ => 0) (h2 : ml 13 = fun _ => 0) (h3 : mr 13 = fun _ => none) (hQ : ∀ mi' ml' mr', Made 13 14 20 mi mi' ml ml' mr mr' → Q none (mi', ml', mr', 20)) : Cd (d + 1) k_Script_init [.ref 13] (mi, ml, mr, 14) Q := by
  have hs := MkI.st (n := 14) h1 h2 h3
  refine cdM (n := 20) (by decide) (Nat.le_of_ble_eq_true rfl) (Nat.le_of_ble_eq_true rfl) rfl (g_Script_init (fun K Kl hK hC => ?_))
  conv => whnf
  rw [nws_arr (n := 14) rfl rfl rfl]
  refine ⟨rfl, ?_⟩
  have h1 := (hs.mk (by decide) (by decide) (by decide) (by decide) (by decide) rfl).wr (by decide) 2 (some 14)
  conv => whnf
  rw [nws_arr (n := 15) rfl rfl rfl]
  refine ⟨rfl, ?_⟩
  have h2 := (h1.mk (by decide) (by decide) (by decide) (by decide) (by decide) rfl).wr (by decide) 3 (some 15)
  conv => whnf
  rw [nws_arr (n := 16) rfl rfl rfl]
  refine ⟨rfl, ?_⟩
  have h3 := (h2.mk (by decide) (by decide) (by decide) (by decide) (by decide) rfl).wr (by decide) 4 (some 16)
  conv => whnf
  rw [nws_arr (n := 17) rfl rfl rfl]
  refine ⟨rfl, ?_⟩
  have h4 := (h3.mk (by decide) (by decide) (by decide) (by decide) (by decide) rfl).wr (by decide) 5 (some 17)
  conv => whnf
  rw [nws_arr (n := 18) rfl rfl rfl]
  refine ⟨rfl, ?_⟩
  have h5 := (h4.mk (by decide) (by decide) (by decide) (by decide) (by decide) rfl).wr (by decide) 6 (some 18)
  conv => whnf
  rw [nws_arr (n := 19) rfl rfl rfl]
  refine ⟨rfl, ?_⟩
  have h6 := (h5.mk (by decide) (by decide) (by decide) (by decide) (by decide) rfl).wr (by decide) 7 (some 19)
  refine ⟨rfl, hQ _ _ _ (h6.fin (row_R (by decide) (by decide +kernel) rfl) (row_Z (by decide) (by decide)))⟩
set_option maxHeartbeats 2000000 in
theorem i_Hills20 (h1 : mi 20 = fun _ => 0) (h2 : ml 20 = fun _ => 0) (h3 : mr 20 = fun _ => none) (hQ : ∀ mi' ml' mr', Made 20 21 26 mi mi' ml ml' mr mr' → Q none (mi', ml', mr', 26)) : Cd (d + 1) k_Hills_init [.ref 20] (mi, ml, mr, 21) Q := by
  have hs := MkI.st (n := 21) h1 h2 h3
  refine cdM (n := 26) (by decide) (Nat.le_of_ble_eq_true rfl) (Nat.le_of_ble_eq_true rfl) rfl (g_Hills_init (fun K Kl hK hC => ?_))
  conv => whnf
  rw [nws_arr (n := 21) rfl rfl rfl]
  refine ⟨rfl, ?_⟩
  have h1 := (hs.mk (by decide) (by decide) (by decide) (by decide) (by decide) rfl).wr (by decide) 2 (some 21)
  conv => whnf
  rw [nws_arr (n := 22) rfl rfl rfl]
  refine ⟨rfl, ?_⟩
  have h2 := (h1.mk (by decide) (by decide) (by decide) (by decide) (by decide) rfl).wr (by decide) 3 (some 22)
  conv => whnf
  rw [nws_arr (n := 23) rfl rfl rfl]
  refine ⟨rfl, ?_⟩
  have h3 := (h2.mk (by decide) (by decide) (by decide) (by decide) (by decide) rfl).wr (by decide) 4 (some 23)
  conv => whnf
  rw [nws_arr (n := 24) rfl rfl rfl]
  refine ⟨rfl, ?_⟩
  have h4 := (h3.mk (by decide) (by decide) (by decide) (by decide) (by decide) rfl).wr (by decide) 5 (some 24)
  conv => whnf
  rw [nws_arr (n := 25) rfl rfl rfl]
  refine ⟨rfl, ?_⟩
  have h5 := (h4.mk (by decide) (by decide) (by decide) (by decide) (by decide) rfl).wr (by decide) 6 (some 25)
  refine ⟨rfl, hQ _ _ _ (h5.fin (row_R (by decide) (by decide +kernel) rfl) (row_Z (by decide) (by decide)))⟩
set_option maxHeartbeats 2000000 in
theorem i_Washing26 (h1 : mi 26 = fun _ => 0) (h2 : ml 26 = fun _ => 0) (h3 : mr 26 = fun _ => none) (hQ : ∀ mi' ml' mr', Made 26 27 32 mi mi' ml ml' mr mr' → Q none (mi', ml', mr', 32)) : Cd (d + 1) k_Washing_init [.ref 26] (mi, ml, mr, 27) Q := by
  have hs := MkI.st (n := 27) h1 h2 h3
  refine cdM (n := 32) (by decide) (Nat.le_of_ble_eq_true rfl) (Nat.le_of_ble_eq_true rfl) rfl (g_Washing_init (fun K Kl hK hC => ?_))
  conv => whnf
  rw [nws_arr (n := 27) rfl rfl rfl]
  refine ⟨rfl, ?_⟩
  have h1 := (hs.mk (by decide) (by decide) (by decide) (by decide) (by decide) rfl).wr (by decide) 2 (some 27)
  conv => whnf
  rw [nws_arr (n := 28) rfl rfl rfl]
  refine ⟨rfl, ?_⟩
  have h2 := (h1.mk (by decide) (by decide) (by decide) (by decide) (by decide) rfl).wr (by decide) 3 (some 28)
  conv => whnf
  rw [nws_arr (n := 29) rfl rfl rfl]
  refine ⟨rfl, ?_⟩
  have h3 := (h2.mk (by decide) (by decide) (by decide) (by decide) (by decide) rfl).wr (by decide) 4 (some 29)
  conv => whnf
  rw [nws_arr (n := 30) rfl rfl rfl]
  refine ⟨rfl, ?_⟩
  have h4 := (h3.mk (by decide) (by decide) (by decide) (by decide) (by decide) rfl).wr (by decide) 5 (some 30)
  conv => whnf
  rw [nws_arr (n := 31) rfl rfl rfl]
  refine ⟨rfl, ?_⟩
  have h5 := (h4.mk (by decide) (by decide) (by decide) (by decide) (by decide) rfl).wr (by decide) 6 (some 31)
  refine ⟨rfl, hQ _ _ _ (h5.fin (row_R (by decide) (by decide +kernel) rfl) (row_Z (by decide) (by decide)))⟩
set_option maxHeartbeats 2000000 in
theorem i_Law32 (h1 : mi 32 = fun _ => 0) (h2 : ml 32 = fun _ => 0) (h3 : mr 32 = fun _ => none) (hQ : ∀ mi' ml' mr', Made 32 33 37 mi mi' ml ml' mr mr' → Q none (mi', ml', mr', 37)) : Cd (d + 1) k_Law_init [.ref 32] (mi, ml, mr, 33) Q := by
  have hs := MkI.st (n := 33) h1 h2 h3
  refine cdM (n := 37) (by decide) (Nat.le_of_ble_eq_true rfl) (Nat.le_of_ble_eq_true rfl) rfl (g_Law_init (fun K Kl hK hC => ?_))
  conv => whnf
  rw [nws_arr (n := 33) rfl rfl rfl]
  refine ⟨rfl, ?_⟩
  have h1 := (hs.mk (by decide) (by decide) (by decide) (by decide) (by decide) rfl).wr (by decide) 1 (some 33)
  conv => whnf
  rw [nws_arr (n := 34) rfl rfl rfl]
  refine ⟨rfl, ?_⟩
  have h2 := (h1.mk (by decide) (by decide) (by decide) (by decide) (by decide) rfl).wr (by decide) 2 (some 34)
  conv => whnf
  rw [nws_arr (n := 35) rfl rfl rfl]
  refine ⟨rfl, ?_⟩
  have h3 := (h2.mk (by decide) (by decide) (by decide) (by decide) (by decide) rfl).wr (by decide) 3 (some 35)
  conv => whnf
  rw [nws_arr (n := 36) rfl rfl rfl]
  refine ⟨rfl, ?_⟩
  have h4 := (h3.mk (by decide) (by decide) (by decide) (by decide) (by decide) rfl).wr (by decide) 4 (some 36)
  refine ⟨rfl, hQ _ _ _ (h4.fin (row_R (by decide) (by decide +kernel) rfl) (row_Z (by decide) (by decide)))⟩
set_option maxHeartbeats 2000000 in
theorem i_Script44 (h1 : mi 44 = fun _ => 0) (h2 : ml 44 = fun _ => 0) (h3 : mr 44 = fun _ => none) (hQ : ∀ mi' ml' mr', Made 44 45 51 mi mi' ml ml' mr mr' → Q none (mi', ml', mr', 51)) : Cd (d + 1) k_Script_init [.ref 44] (mi, ml, mr, 45) Q := by
  have hs := MkI.st (n := 45) h1 h2 h3
  refine cdM (n := 51) (by decide) (Nat.le_of_ble_eq_true rfl) (Nat.le_of_ble_eq_true rfl) rfl (g_Script_init (fun K Kl hK hC => ?_))
  conv => whnf
  rw [nws_arr (n := 45) rfl rfl rfl]
  refine ⟨rfl, ?_⟩
  have h1 := (hs.mk (by decide) (by decide) (by decide) (by decide) (by decide) rfl).wr (by decide) 2 (some 45)
  conv => whnf
  rw [nws_arr (n := 46) rfl rfl rfl]
  refine ⟨rfl, ?_⟩
  have h2 := (h1.mk (by decide) (by decide) (by decide) (by decide) (by decide) rfl).wr (by decide) 3 (some 46)
  conv => whnf
  rw [nws_arr (n := 47) rfl rfl rfl]
  refine ⟨rfl, ?_⟩
  have h3 := (h2.mk (by decide) (by decide) (by decide) (by decide) (by decide) rfl).wr (by decide) 4 (some 47)
  conv => whnf
  rw [nws_arr (n := 48) rfl rfl rfl]
  refine ⟨rfl, ?_⟩
  have h4 := (h3.mk (by decide) (by decide) (by decide) (by decide) (by decide) rfl).wr (by decide) 5 (some 48)
  conv => whnf
  rw [nws_arr (n := 49) rfl rfl rfl]
  refine ⟨rfl, ?_⟩
  have h5 := (h4.mk (by decide) (by decide) (by decide) (by decide) (by decide) rfl).wr (by decide) 6 (some 49)
  conv => whnf
  rw [nws_arr (n := 50) rfl rfl rfl]
  refine ⟨rfl, ?_⟩
  have h6 := (h5.mk (by decide) (by decide) (by decide) (by decide) (by decide) rfl).wr (by decide) 7 (some 50)
  refine ⟨rfl, hQ _ _ _ (h6.fin (row_R (by decide) (by decide +kernel) rfl) (row_Z (by decide) (by decide)))⟩
set_option maxHeartbeats 2000000 in
theorem i_Hills51 (h1 : mi 51 = fun _ => 0) (h2 : ml 51 = fun _ => 0) (h3 : mr 51 = fun _ => none) (hQ : ∀ mi' ml' mr', Made 51 52 57 mi mi' ml ml' mr mr' → Q none (mi', ml', mr', 57)) : Cd (d + 1) k_Hills_init [.ref 51] (mi, ml, mr, 52) Q := by
  have hs := MkI.st (n := 52) h1 h2 h3
  refine cdM (n := 57) (by decide) (Nat.le_of_ble_eq_true rfl) (Nat.le_of_ble_eq_true rfl) rfl (g_Hills_init (fun K Kl hK hC => ?_))
  conv => whnf
  rw [nws_arr (n := 52) rfl rfl rfl]
  refine ⟨rfl, ?_⟩
  have h1 := (hs.mk (by decide) (by decide) (by decide) (by decide) (by decide) rfl).wr (by decide) 2 (some 52)
  conv => whnf
  rw [nws_arr (n := 53) rfl rfl rfl]
  refine ⟨rfl, ?_⟩
  have h2 := (h1.mk (by decide) (by decide) (by decide) (by decide) (by decide) rfl).wr (by decide) 3 (some 53)
  conv => whnf
  rw [nws_arr (n := 54) rfl rfl rfl]
  refine ⟨rfl, ?_⟩
  have h3 := (h2.mk (by decide) (by decide) (by decide) (by decide) (by decide) rfl).wr (by decide) 4 (some 54)
  conv => whnf
  rw [nws_arr (n := 55) rfl rfl rfl]
  refine ⟨rfl, ?_⟩
  have h4 := (h3.mk (by decide) (by decide) (by decide) (by decide) (by decide) rfl).wr (by decide) 5 (some 55)
  conv => whnf
  rw [nws_arr (n := 56) rfl rfl rfl]
  refine ⟨rfl, ?_⟩
  have h5 := (h4.mk (by decide) (by decide) (by decide) (by decide) (by decide) rfl).wr (by decide) 6 (some 56)
  refine ⟨rfl, hQ _ _ _ (h5.fin (row_R (by decide) (by decide +kernel) rfl) (row_Z (by decide) (by decide)))⟩
set_option maxHeartbeats 2000000 in
theorem i_Washing57 (h1 : mi 57 = fun _ => 0) (h2 : ml 57 = fun _ => 0) (h3 : mr 57 = fun _ => none) (hQ : ∀ mi' ml' mr', Made 57 58 63 mi mi' ml ml' mr mr' → Q none (mi', ml', mr', 63)) : Cd (d + 1) k_Washing_init [.ref 57] (mi, ml, mr, 58) Q := by
  have hs := MkI.st (n := 58) h1 h2 h3
  refine cdM (n := 63) (by decide) (Nat.le_of_ble_eq_true rfl) (Nat.le_of_ble_eq_true rfl) rfl (g_Washing_init (fun K Kl hK hC => ?_))
  conv => whnf
  rw [nws_arr (n := 58) rfl rfl rfl]
  refine ⟨rfl, ?_⟩
  have h1 := (hs.mk (by decide) (by decide) (by decide) (by decide) (by decide) rfl).wr (by decide) 2 (some 58)
  conv => whnf
  rw [nws_arr (n := 59) rfl rfl rfl]
  refine ⟨rfl, ?_⟩
  have h2 := (h1.mk (by decide) (by decide) (by decide) (by decide) (by decide) rfl).wr (by decide) 3 (some 59)
  conv => whnf
  rw [nws_arr (n := 60) rfl rfl rfl]
  refine ⟨rfl, ?_⟩
  have h3 := (h2.mk (by decide) (by decide) (by decide) (by decide) (by decide) rfl).wr (by decide) 4 (some 60)
  conv => whnf
  rw [nws_arr (n := 61) rfl rfl rfl]
  refine ⟨rfl, ?_⟩
  have h4 := (h3.mk (by decide) (by decide) (by decide) (by decide) (by decide) rfl).wr (by decide) 5 (some 61)
  conv => whnf
  rw [nws_arr (n := 62) rfl rfl rfl]
  refine ⟨rfl, ?_⟩
  have h5 := (h4.mk (by decide) (by decide) (by decide) (by decide) (by decide) rfl).wr (by decide) 6 (some 62)
  refine ⟨rfl, hQ _ _ _ (h5.fin (row_R (by decide) (by decide +kernel) rfl) (row_Z (by decide) (by decide)))⟩
set_option maxHeartbeats 2000000 in
theorem i_Law63 (h1 : mi 63 = fun _ => 0) (h2 : ml 63 = fun _ => 0) (h3 : mr 63 = fun _ => none) (hQ : ∀ mi' ml' mr', Made 63 64 68 mi mi' ml ml' mr mr' → Q none (mi', ml', mr', 68)) : Cd (d + 1) k_Law_init [.ref 63] (mi, ml, mr, 64) Q := by
  have hs := MkI.st (n := 64) h1 h2 h3
  refine cdM (n := 68) (by decide) (Nat.le_of_ble_eq_true rfl) (Nat.le_of_ble_eq_true rfl) rfl (g_Law_init (fun K Kl hK hC => ?_))
  conv => whnf
  rw [nws_arr (n := 64) rfl rfl rfl]
  refine ⟨rfl, ?_⟩
  have h1 := (hs.mk (by decide) (by decide) (by decide) (by decide) (by decide) rfl).wr (by decide) 1 (some 64)
  conv => whnf
  rw [nws_arr (n := 65) rfl rfl rfl]
  refine ⟨rfl, ?_⟩
  have h2 := (h1.mk (by decide) (by decide) (by decide) (by decide) (by decide) rfl).wr (by decide) 2 (some 65)
  conv => whnf
  rw [nws_arr (n := 66) rfl rfl rfl]
  refine ⟨rfl, ?_⟩
  have h3 := (h2.mk (by decide) (by decide) (by decide) (by decide) (by decide) rfl).wr (by decide) 3 (some 66)
  conv => whnf
  rw [nws_arr (n := 67) rfl rfl rfl]
  refine ⟨rfl, ?_⟩
  have h4 := (h3.mk (by decide) (by decide) (by decide) (by decide) (by decide) rfl).wr (by decide) 4 (some 67)
  refine ⟨rfl, hQ _ _ _ (h4.fin (row_R (by decide) (by decide +kernel) rfl) (row_Z (by decide) (by decide)))⟩
set_option maxHeartbeats 2000000 in
theorem i_Told6 (h1 : mi 6 = fun _ => 0) (h2 : ml 6 = fun _ => 0) (h3 : mr 6 = fun _ => none) (hQ : ∀ mi' ml' mr', Made 6 7 37 mi mi' ml ml' mr mr' → Q none (mi', ml', mr', 37)) : Cd (d + 2) k_Told_init [.ref 6] (mi, ml, mr, 7) Q := by
  have hs := MkI.st (n := 7) h1 h2 h3
  refine cdM (n := 37) (by decide) (Nat.le_of_ble_eq_true rfl) (Nat.le_of_ble_eq_true rfl) rfl (g_Told_init (fun K Kl hK hC => ?_))
  conv => whnf
  rw [nws_arr (n := 7) rfl rfl rfl]
  refine ⟨rfl, ?_⟩
  have h1 := (hs.mk (by decide) (by decide) (by decide) (by decide) (by decide) rfl).wr (by decide) 9 (some 7)
  conv => whnf
  rw [nws_arr (n := 8) rfl rfl rfl]
  refine ⟨rfl, ?_⟩
  have h2 := (h1.mk (by decide) (by decide) (by decide) (by decide) (by decide) rfl).wr (by decide) 10 (some 8)
  conv => whnf
  rw [nws_arr (n := 9) rfl rfl rfl]
  refine ⟨rfl, ?_⟩
  have h3 := (h2.mk (by decide) (by decide) (by decide) (by decide) (by decide) rfl).wr (by decide) 11 (some 9)
  conv => whnf
  rw [nws_arr (n := 10) rfl rfl rfl]
  refine ⟨rfl, ?_⟩
  have h4 := (h3.mk (by decide) (by decide) (by decide) (by decide) (by decide) rfl).wr (by decide) 12 (some 10)
  conv => whnf
  rw [nws_arr (n := 11) rfl rfl rfl]
  refine ⟨rfl, ?_⟩
  have h5 := (h4.mk (by decide) (by decide) (by decide) (by decide) (by decide) rfl).wr (by decide) 13 (some 11)
  conv => whnf
  rw [nws_arr (n := 12) rfl rfl rfl]
  refine ⟨rfl, ?_⟩
  have h6 := (h5.mk (by decide) (by decide) (by decide) (by decide) (by decide) rfl).wr (by decide) 14 (some 12)
  conv => whnf
  rw [nws_obj (n := 13) rfl rfl rfl]
  refine ⟨trivial, ?_⟩
  refine hC _ _ _ _ (i_Script13 h6.new.1 h6.new.2.1 h6.new.2.2 (fun mi7 ml7 mr7 m7 => ?_))
  have h7 := (h6.call (n1 := 20) (by decide) (by decide) (by decide) m7).wr (by decide) 15 (some 13)
  conv => whnf
  rw [nws_obj (n := 20) rfl rfl rfl]
  refine ⟨trivial, ?_⟩
  refine hC _ _ _ _ (i_Hills20 h7.new.1 h7.new.2.1 h7.new.2.2 (fun mi8 ml8 mr8 m8 => ?_))
  have h8 := (h7.call (n1 := 26) (by decide) (by decide) (by decide) m8).wr (by decide) 16 (some 20)
  conv => whnf
  rw [nws_obj (n := 26) rfl rfl rfl]
  refine ⟨trivial, ?_⟩
  refine hC _ _ _ _ (i_Washing26 h8.new.1 h8.new.2.1 h8.new.2.2 (fun mi9 ml9 mr9 m9 => ?_))
  have h9 := (h8.call (n1 := 32) (by decide) (by decide) (by decide) m9).wr (by decide) 17 (some 26)
  conv => whnf
  rw [nws_obj (n := 32) rfl rfl rfl]
  refine ⟨trivial, ?_⟩
  refine hC _ _ _ _ (i_Law32 h9.new.1 h9.new.2.1 h9.new.2.2 (fun mi10 ml10 mr10 m10 => ?_))
  have h10 := (h9.call (n1 := 37) (by decide) (by decide) (by decide) m10).wr (by decide) 18 (some 32)
  refine ⟨rfl, hQ _ _ _ (h10.fin (row_R (by decide) (by decide +kernel) rfl) (row_Z (by decide) (by decide)))⟩
set_option maxHeartbeats 2000000 in
theorem i_Told37 (h1 : mi 37 = fun _ => 0) (h2 : ml 37 = fun _ => 0) (h3 : mr 37 = fun _ => none) (hQ : ∀ mi' ml' mr', Made 37 38 68 mi mi' ml ml' mr mr' → Q none (mi', ml', mr', 68)) : Cd (d + 2) k_Told_init [.ref 37] (mi, ml, mr, 38) Q := by
  have hs := MkI.st (n := 38) h1 h2 h3
  refine cdM (n := 68) (by decide) (Nat.le_of_ble_eq_true rfl) (Nat.le_of_ble_eq_true rfl) rfl (g_Told_init (fun K Kl hK hC => ?_))
  conv => whnf
  rw [nws_arr (n := 38) rfl rfl rfl]
  refine ⟨rfl, ?_⟩
  have h1 := (hs.mk (by decide) (by decide) (by decide) (by decide) (by decide) rfl).wr (by decide) 9 (some 38)
  conv => whnf
  rw [nws_arr (n := 39) rfl rfl rfl]
  refine ⟨rfl, ?_⟩
  have h2 := (h1.mk (by decide) (by decide) (by decide) (by decide) (by decide) rfl).wr (by decide) 10 (some 39)
  conv => whnf
  rw [nws_arr (n := 40) rfl rfl rfl]
  refine ⟨rfl, ?_⟩
  have h3 := (h2.mk (by decide) (by decide) (by decide) (by decide) (by decide) rfl).wr (by decide) 11 (some 40)
  conv => whnf
  rw [nws_arr (n := 41) rfl rfl rfl]
  refine ⟨rfl, ?_⟩
  have h4 := (h3.mk (by decide) (by decide) (by decide) (by decide) (by decide) rfl).wr (by decide) 12 (some 41)
  conv => whnf
  rw [nws_arr (n := 42) rfl rfl rfl]
  refine ⟨rfl, ?_⟩
  have h5 := (h4.mk (by decide) (by decide) (by decide) (by decide) (by decide) rfl).wr (by decide) 13 (some 42)
  conv => whnf
  rw [nws_arr (n := 43) rfl rfl rfl]
  refine ⟨rfl, ?_⟩
  have h6 := (h5.mk (by decide) (by decide) (by decide) (by decide) (by decide) rfl).wr (by decide) 14 (some 43)
  conv => whnf
  rw [nws_obj (n := 44) rfl rfl rfl]
  refine ⟨trivial, ?_⟩
  refine hC _ _ _ _ (i_Script44 h6.new.1 h6.new.2.1 h6.new.2.2 (fun mi7 ml7 mr7 m7 => ?_))
  have h7 := (h6.call (n1 := 51) (by decide) (by decide) (by decide) m7).wr (by decide) 15 (some 44)
  conv => whnf
  rw [nws_obj (n := 51) rfl rfl rfl]
  refine ⟨trivial, ?_⟩
  refine hC _ _ _ _ (i_Hills51 h7.new.1 h7.new.2.1 h7.new.2.2 (fun mi8 ml8 mr8 m8 => ?_))
  have h8 := (h7.call (n1 := 57) (by decide) (by decide) (by decide) m8).wr (by decide) 16 (some 51)
  conv => whnf
  rw [nws_obj (n := 57) rfl rfl rfl]
  refine ⟨trivial, ?_⟩
  refine hC _ _ _ _ (i_Washing57 h8.new.1 h8.new.2.1 h8.new.2.2 (fun mi9 ml9 mr9 m9 => ?_))
  have h9 := (h8.call (n1 := 63) (by decide) (by decide) (by decide) m9).wr (by decide) 17 (some 57)
  conv => whnf
  rw [nws_obj (n := 63) rfl rfl rfl]
  refine ⟨trivial, ?_⟩
  refine hC _ _ _ _ (i_Law63 h9.new.1 h9.new.2.1 h9.new.2.2 (fun mi10 ml10 mr10 m10 => ?_))
  have h10 := (h9.call (n1 := 68) (by decide) (by decide) (by decide) m10).wr (by decide) 18 (some 63)
  refine ⟨rfl, hQ _ _ _ (h10.fin (row_R (by decide) (by decide +kernel) rfl) (row_Z (by decide) (by decide)))⟩
set_option maxHeartbeats 2000000 in
theorem i_Reader68 (h1 : mi 68 = fun _ => 0) (h2 : ml 68 = fun _ => 0) (h3 : mr 68 = fun _ => none) (hQ : ∀ mi' ml' mr', Made 68 69 70 mi mi' ml ml' mr mr' → Q none (mi', ml', mr', 70)) : Cd (d + 1) k_Reader_init [.ref 68, .ref 2] (mi, ml, mr, 69) Q := by
  have hs := MkI.st (n := 69) h1 h2 h3
  refine cdM (n := 70) (by decide) (Nat.le_of_ble_eq_true rfl) (Nat.le_of_ble_eq_true rfl) rfl (g_Reader_init (fun K Kl hK hC => ?_))
  conv => whnf
  rw [nws_arr (n := 69) rfl rfl rfl]
  refine ⟨rfl, ?_⟩
  have h1 := (hs.mk (by decide) (by decide) (by decide) (by decide) (by decide) rfl).wr (by decide) 8 (some 69)
  have h2 := h1.wr (by decide) 2 (some 2)
  refine ⟨rfl, hQ _ _ _ (h2.fin (row_R (by decide) (by decide +kernel) rfl) (row_Z (by decide) (by decide)))⟩
set_option maxHeartbeats 2000000 in
theorem i_Scene70 (h1 : mi 70 = fun _ => 0) (h2 : ml 70 = fun _ => 0) (h3 : mr 70 = fun _ => none) (hQ : ∀ mi' ml' mr', Made 70 71 73 mi mi' ml ml' mr mr' → Q none (mi', ml', mr', 73)) : Cd (d + 1) k_Scene_init [.ref 70] (mi, ml, mr, 71) Q := by
  have hs := MkI.st (n := 71) h1 h2 h3
  refine cdM (n := 73) (by decide) (Nat.le_of_ble_eq_true rfl) (Nat.le_of_ble_eq_true rfl) rfl (g_Scene_init (fun K Kl hK hC => ?_))
  conv => whnf
  rw [nws_arr (n := 71) rfl rfl rfl]
  refine ⟨rfl, ?_⟩
  have h1 := (hs.mk (by decide) (by decide) (by decide) (by decide) (by decide) rfl).wr (by decide) 4 (some 71)
  conv => whnf
  rw [nws_arr (n := 72) rfl rfl rfl]
  refine ⟨rfl, ?_⟩
  have h2 := (h1.mk (by decide) (by decide) (by decide) (by decide) (by decide) rfl).wr (by decide) 5 (some 72)
  refine ⟨rfl, hQ _ _ _ (h2.fin (row_R (by decide) (by decide +kernel) rfl) (row_Z (by decide) (by decide)))⟩
set_option maxHeartbeats 2000000 in
theorem i_Scene73 (h1 : mi 73 = fun _ => 0) (h2 : ml 73 = fun _ => 0) (h3 : mr 73 = fun _ => none) (hQ : ∀ mi' ml' mr', Made 73 74 76 mi mi' ml ml' mr mr' → Q none (mi', ml', mr', 76)) : Cd (d + 1) k_Scene_init [.ref 73] (mi, ml, mr, 74) Q := by
  have hs := MkI.st (n := 74) h1 h2 h3
  refine cdM (n := 76) (by decide) (Nat.le_of_ble_eq_true rfl) (Nat.le_of_ble_eq_true rfl) rfl (g_Scene_init (fun K Kl hK hC => ?_))
  conv => whnf
  rw [nws_arr (n := 74) rfl rfl rfl]
  refine ⟨rfl, ?_⟩
  have h1 := (hs.mk (by decide) (by decide) (by decide) (by decide) (by decide) rfl).wr (by decide) 4 (some 74)
  conv => whnf
  rw [nws_arr (n := 75) rfl rfl rfl]
  refine ⟨rfl, ?_⟩
  have h2 := (h1.mk (by decide) (by decide) (by decide) (by decide) (by decide) rfl).wr (by decide) 5 (some 75)
  refine ⟨rfl, hQ _ _ _ (h2.fin (row_R (by decide) (by decide +kernel) rfl) (row_Z (by decide) (by decide)))⟩
set_option maxHeartbeats 2000000 in
theorem i_Past76 (h1 : mi 76 = fun _ => 0) (h2 : ml 76 = fun _ => 0) (h3 : mr 76 = fun _ => none) (hQ : ∀ mi' ml' mr', Made 76 77 78 mi mi' ml ml' mr mr' → Q none (mi', ml', mr', 78)) : Cd (d + 1) k_Past_init [.ref 76] (mi, ml, mr, 77) Q := by
  have hs := MkI.st (n := 77) h1 h2 h3
  refine cdM (n := 78) (by decide) (Nat.le_of_ble_eq_true rfl) (Nat.le_of_ble_eq_true rfl) rfl (g_Past_init (fun K Kl hK hC => ?_))
  conv => whnf
  rw [nws_arr (n := 77) rfl rfl rfl]
  refine ⟨rfl, ?_⟩
  have h1 := (hs.mk (by decide) (by decide) (by decide) (by decide) (by decide) rfl).wr (by decide) 1 (some 77)
  refine ⟨rfl, hQ _ _ _ (h1.fin (row_R (by decide) (by decide +kernel) rfl) (row_Z (by decide) (by decide)))⟩
set_option maxHeartbeats 2000000 in
theorem i_Notes78 (h1 : mi 78 = fun _ => 0) (h2 : ml 78 = fun _ => 0) (h3 : mr 78 = fun _ => none) (hQ : ∀ mi' ml' mr', Made 78 79 84 mi mi' ml ml' mr mr' → Q none (mi', ml', mr', 84)) : Cd (d + 1) k_Notes_init [.ref 78] (mi, ml, mr, 79) Q := by
  have hs := MkI.st (n := 79) h1 h2 h3
  refine cdM (n := 84) (by decide) (Nat.le_of_ble_eq_true rfl) (Nat.le_of_ble_eq_true rfl) rfl (g_Notes_init (fun K Kl hK hC => ?_))
  have h1 := hs.wi (by decide) 1 (-1)
  conv => whnf
  rw [nws_arr (n := 79) rfl rfl rfl]
  refine ⟨rfl, ?_⟩
  have h2 := (h1.mk (by decide) (by decide) (by decide) (by decide) (by decide) rfl).wr (by decide) 2 (some 79)
  conv => whnf
  rw [nws_arr (n := 80) rfl rfl rfl]
  refine ⟨rfl, ?_⟩
  have h3 := (h2.mk (by decide) (by decide) (by decide) (by decide) (by decide) rfl).wr (by decide) 3 (some 80)
  conv => whnf
  rw [nws_arr (n := 81) rfl rfl rfl]
  refine ⟨rfl, ?_⟩
  have h4 := (h3.mk (by decide) (by decide) (by decide) (by decide) (by decide) rfl).wr (by decide) 4 (some 81)
  conv => whnf
  rw [nws_arr (n := 82) rfl rfl rfl]
  refine ⟨rfl, ?_⟩
  have h5 := (h4.mk (by decide) (by decide) (by decide) (by decide) (by decide) rfl).wr (by decide) 5 (some 82)
  conv => whnf
  rw [nws_arr (n := 83) rfl rfl rfl]
  refine ⟨rfl, ?_⟩
  have h6 := (h5.mk (by decide) (by decide) (by decide) (by decide) (by decide) rfl).wr (by decide) 6 (some 83)
  refine ⟨rfl, hQ _ _ _ (h6.fin (row_R (by decide) (by decide +kernel) rfl) (by funext k; unfold ZI; simp [rowL]))⟩
set_option maxHeartbeats 2000000 in
theorem i_Scene86 (h1 : mi 86 = fun _ => 0) (h2 : ml 86 = fun _ => 0) (h3 : mr 86 = fun _ => none) (hQ : ∀ mi' ml' mr', Made 86 87 89 mi mi' ml ml' mr mr' → Q none (mi', ml', mr', 89)) : Cd (d + 1) k_Scene_init [.ref 86] (mi, ml, mr, 87) Q := by
  have hs := MkI.st (n := 87) h1 h2 h3
  refine cdM (n := 89) (by decide) (Nat.le_of_ble_eq_true rfl) (Nat.le_of_ble_eq_true rfl) rfl (g_Scene_init (fun K Kl hK hC => ?_))
  conv => whnf
  rw [nws_arr (n := 87) rfl rfl rfl]
  refine ⟨rfl, ?_⟩
  have h1 := (hs.mk (by decide) (by decide) (by decide) (by decide) (by decide) rfl).wr (by decide) 4 (some 87)
  conv => whnf
  rw [nws_arr (n := 88) rfl rfl rfl]
  refine ⟨rfl, ?_⟩
  have h2 := (h1.mk (by decide) (by decide) (by decide) (by decide) (by decide) rfl).wr (by decide) 5 (some 88)
  refine ⟨rfl, hQ _ _ _ (h2.fin (row_R (by decide) (by decide +kernel) rfl) (row_Z (by decide) (by decide)))⟩
set_option maxHeartbeats 2000000 in
theorem i_Search84 (h1 : mi 84 = fun _ => 0) (h2 : ml 84 = fun _ => 0) (h3 : mr 84 = fun _ => none) (hQ : ∀ mi' ml' mr', Made 84 85 95 mi mi' ml ml' mr mr' → Q none (mi', ml', mr', 95)) : Cd (d + 2) k_Search_init [.ref 84, .ref 6, .ref 70] (mi, ml, mr, 85) Q := by
  have hs := MkI.st (n := 85) h1 h2 h3
  refine cdM (n := 95) (by decide) (Nat.le_of_ble_eq_true rfl) (Nat.le_of_ble_eq_true rfl) rfl (g_Search_init (fun K Kl hK hC => ?_))
  conv => whnf
  rw [nws_arr (n := 85) rfl rfl rfl]
  refine ⟨rfl, ?_⟩
  have h1 := (hs.mk (by decide) (by decide) (by decide) (by decide) (by decide) rfl).wr (by decide) 8 (some 85)
  conv => whnf
  rw [nws_obj (n := 86) rfl rfl rfl]
  refine ⟨trivial, ?_⟩
  refine hC _ _ _ _ (i_Scene86 h1.new.1 h1.new.2.1 h1.new.2.2 (fun mi2 ml2 mr2 m2 => ?_))
  have h2 := (h1.call (n1 := 89) (by decide) (by decide) (by decide) m2).wr (by decide) 11 (some 86)
  conv => whnf
  rw [nws_arr (n := 89) rfl rfl rfl]
  refine ⟨rfl, ?_⟩
  have h3 := (h2.mk (by decide) (by decide) (by decide) (by decide) (by decide) rfl).wr (by decide) 12 (some 89)
  conv => whnf
  rw [nws_arr (n := 90) rfl rfl rfl]
  refine ⟨rfl, ?_⟩
  have h4 := (h3.mk (by decide) (by decide) (by decide) (by decide) (by decide) rfl).wr (by decide) 13 (some 90)
  conv => whnf
  rw [nws_arr (n := 91) rfl rfl rfl]
  refine ⟨rfl, ?_⟩
  have h5 := (h4.mk (by decide) (by decide) (by decide) (by decide) (by decide) rfl).wr (by decide) 14 (some 91)
  conv => whnf
  rw [nws_arr (n := 92) rfl rfl rfl]
  refine ⟨rfl, ?_⟩
  have h6 := (h5.mk (by decide) (by decide) (by decide) (by decide) (by decide) rfl).wr (by decide) 15 (some 92)
  conv => whnf
  rw [nws_arr (n := 93) rfl rfl rfl]
  refine ⟨rfl, ?_⟩
  have h7 := (h6.mk (by decide) (by decide) (by decide) (by decide) (by decide) rfl).wr (by decide) 16 (some 93)
  conv => whnf
  rw [nws_arr (n := 94) rfl rfl rfl]
  refine ⟨rfl, ?_⟩
  have h8 := (h7.mk (by decide) (by decide) (by decide) (by decide) (by decide) rfl).wr (by decide) 17 (some 94)
  have h9 := h8.wr (by decide) 9 (some 6)
  have h10 := h9.wr (by decide) 10 (some 70)
  refine ⟨rfl, hQ _ _ _ (h10.fin (row_R (by decide) (by decide +kernel) rfl) (row_Z (by decide) (by decide)))⟩
end
