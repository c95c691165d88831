/-! THE REFERENCE IS MADE -/
/-- it is being made: n cells now, its fields L, J, so many of its words written -/
def MkM (mi : Nat → Nat → Int32) (ml : Nat → Nat → Int64) (n : Nat) (L : List (Nat × Option Nat)) (J : List (Nat × Int32)) (w : Nat) (M : Mm) : Prop := M.2.2.2 = n ∧ (∀ a, a < 95 → M.1 a = mi a ∧ M.2.1 a = ml a) ∧ (∀ a, a ≠ 95 → M.2.2.1 a = R0 none a) ∧ M.2.2.1 95 = rowL none L ∧ M.1 95 = rowL 0 J ∧ (∀ i, i < w → M.1 97 i = nI (nth 0 langM i))
section
variable {mi : Nat → Nat → Int32} {ml : Nat → Nat → Int64} {n w : Nat} {L : List (Nat × Option Nat)} {J : List (Nat × Int32)} {M : Mm}
theorem MkM.mk (h : MkM mi ml n L J w M) (h0 : 95 < n) (h97 : n ≠ 97 ∨ w = 0) (he : (nth [] (nth [] refLL (n / 12)) (n % 12)).isEmpty = true) : MkM mi ml (n + 1) L J w (mk1 M) := by
  obtain ⟨a0, a1, a2, a3, a4, a5⟩ := h
  unfold mk1
  rw [a0]
  refine ⟨rfl, fun a ha => ?_, fun a ha => ?_, ?_, ?_, fun i hi => ?_⟩
  · show cu M.1 n (fun _ => 0) a = _ ∧ cu M.2.1 n (fun _ => 0) a = _
    rw [cu_ne (by omega), cu_ne (by omega)]; exact a1 a ha
  · show cu M.2.2.1 n (fun _ => none) a = _
    by_cases e : a = n
    · rw [e, cu_self]; exact row_E he (by omega)
    · rw [cu_ne e]; exact a2 a ha
  · show cu M.2.2.1 n (fun _ => none) 95 = _
    rw [cu_ne (by omega)]; exact a3
  · show cu M.1 n (fun _ => 0) 95 = _
    rw [cu_ne (by omega)]; exact a4
  · show cu M.1 n (fun _ => 0) 97 i = _
    rw [cu_ne (by omega)]; exact a5 i hi
theorem MkM.wr (h : MkM mi ml n L J w M) (k : Nat) (x : Option Nat) : MkM mi ml n ((k, x) :: L) J w (wR M 95 k x) := by
  obtain ⟨a0, a1, a2, a3, a4, a5⟩ := h
  refine ⟨a0, a1, fun a ha => ?_, ?_, a4, a5⟩
  · show cu M.2.2.1 95 (fun j => if j = k then x else M.2.2.1 95 j) a = _
    rw [cu_ne ha]; exact a2 a ha
  · show cu M.2.2.1 95 (fun j => if j = k then x else M.2.2.1 95 j) 95 = _
    rw [cu_self, a3]
    rfl
theorem MkM.wi (h : MkM mi ml n L J w M) (k : Nat) (x : Int32) : MkM mi ml n L ((k, x) :: J) w (wI M 95 k x) := by
  obtain ⟨a0, a1, a2, a3, a4, a5⟩ := h
  refine ⟨a0, fun a ha => ?_, a2, a3, ?_, a5⟩
  · show cu M.1 95 (upd (M.1 95) k x) a = _ ∧ _
    rw [cu_ne (by omega)]; exact a1 a ha
  · show cu M.1 95 (upd (M.1 95) k x) 95 = _
    rw [cu_self, a4]
    funext i
    by_cases e : i = k
    · rw [e, pk_us, rowL, if_pos rfl]
    · rw [pk_un e, rowL, if_neg e]
theorem MkM.wd (h : MkM mi ml n L J w M) {x : Int32} (hx : x = nI (nth 0 langM w)) : MkM mi ml n L J (w + 1) (wI M 97 w x) := by
  obtain ⟨a0, a1, a2, a3, a4, a5⟩ := h
  refine ⟨a0, fun a ha => ?_, a2, a3, ?_, fun i hi => ?_⟩
  · show cu M.1 97 (upd (M.1 97) w x) a = _ ∧ _
    rw [cu_ne (by omega)]; exact a1 a ha
  · show cu M.1 97 (upd (M.1 97) w x) 95 = _
    rw [cu_ne (by omega)]; exact a4
  · show cu M.1 97 (upd (M.1 97) w x) 97 i = _
    rw [cu_self]
    by_cases e : i = w
    · rw [e, pk_us]; exact hx
    · rw [pk_un e]; exact a5 i (by omega)
end
section
variable {d : Nat} {Q : Option Value → Mm → Prop} {mi : Nat → Nat → Int32} {ml : Nat → Nat → Int64} {mr : Nat → Nat → Option Nat}
set_option maxHeartbeats 16000000 in
theorem i_Mod (h1 : mi 95 = fun _ => 0) (h3 : mr 95 = fun _ => none) (hr : ∀ a, a ≠ 95 → mr a = R0 none a) (hQ : ∀ mi' ml', MI A0 mi' ml' → (∀ a, a < 95 → mi' a = mi a ∧ ml' a = ml a) → Q none (mi', ml', R0 none, 135)) : Cd (d + 3) k_Mod_init [.ref 95] (mi, ml, mr, 96) Q := by
  have h : MkM mi ml 96 [] [] 0 (mi, ml, mr, 96) := ⟨rfl, fun _ _ => ⟨rfl, rfl⟩, hr, h3, h1, fun i q => absurd q (Nat.not_lt_zero i)⟩
  refine cdM (n := 135) (by decide) (Nat.le_of_ble_eq_true rfl) (Nat.le_of_ble_eq_true rfl) rfl (g_Mod_init (fun K Kl hK hC => ?_))
  clear h1 h3 hr
  generalize (mi, ml, mr, 96) = M at h ⊢
  conv => whnf
  rw [nws_arr (n := 96) h.1 rfl rfl]
  refine ⟨rfl, ?_⟩
  replace h := h.mk (by decide) (by decide) rfl
  generalize mk1 M = M1 at h ⊢
  clear M
  rename Mm => M
  conv => whnf
  replace h := h.wr 0 (some 96)
  generalize wR M 95 0 (some 96) = M1 at h ⊢
  clear M
  rename Mm => M
  conv => whnf
  rw [nws_arr (n := 97) h.1 rfl rfl]
  refine ⟨rfl, ?_⟩
  replace h := h.mk (by decide) (by decide) rfl
  generalize mk1 M = M1 at h ⊢
  clear M
  rename Mm => M
  refine ⟨0, by decide, rfl, ?_⟩
  replace h := h.wd (x := nI 112) rfl
  generalize wI M 97 0 (nI 112) = M1 at h ⊢
  clear M
  rename Mm => M
  refine ⟨1, by decide, rfl, ?_⟩
  replace h := h.wd (x := nI 108) rfl
  generalize wI M 97 1 (nI 108) = M1 at h ⊢
  clear M
  rename Mm => M
  refine ⟨2, by decide, rfl, ?_⟩
  replace h := h.wd (x := nI 97) rfl
  generalize wI M 97 2 (nI 97) = M1 at h ⊢
  clear M
  rename Mm => M
  refine ⟨3, by decide, rfl, ?_⟩
  replace h := h.wd (x := nI 105) rfl
  generalize wI M 97 3 (nI 105) = M1 at h ⊢
  clear M
  rename Mm => M
  refine ⟨4, by decide, rfl, ?_⟩
  replace h := h.wd (x := nI 110) rfl
  generalize wI M 97 4 (nI 110) = M1 at h ⊢
  clear M
  rename Mm => M
  trace_state
  sorry
end
