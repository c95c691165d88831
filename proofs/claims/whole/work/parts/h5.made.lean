/-! THE REFERENCE IS MADE: all of it -/
theorem gn_st2 {Cl : Nat → List Value → Mm → (Option Value → Mm → Prop) → Prop} {mc : Nat → Nat} {ret nmax : Nat} {Q : Option Value → Mm → Prop} {K : Nat → List Value → List Value → Mm → Prop} {code es : List En} {F0 : Nat} {ls st : List Value} (F t : Nat) {a : Nat → Nat → Int32} {b : Nat → Nat → Int64} {c : Nat → Nat → Option Nat} (W : List (Nat × Int32)) (hF : F + 4 * W.length = F0) (h : chkS W es t = true) (z : ∀ a', (∀ i, i ≠ 97 → a' i = a i) → a' 97 = W.foldl (fun g q => upd g q.1 q.2) (a 97) → GnN Cl mc ret nmax Q K code F (aftS W es) ls (.ref 97 :: st) (a', b, c, 98)) : GnN Cl mc ret nmax Q K code F0 es ls (.ref 97 :: st) (a, b, c, 98) := by
  subst hF
  exact gn_st W es F a h z
section
variable {mi : Nat → Nat → Int32} {ml : Nat → Nat → Int64} {L : List (Nat × Option Nat)} {J : List (Nat × Int32)} {M : Mm}
theorem MkM.new97 {w : Nat} (h : MkM mi ml 97 L J w M) : (mk1 M).1 97 = fun _ => 0 := by
  unfold mk1
  rw [h.1]
  exact (cu_self : cu M.1 97 (fun _ => 0) 97 = _)
theorem MkM.wds {a a' : Nat → Nat → Int32} {b : Nat → Nat → Int64} {c : Nat → Nat → Option Nat} (h : MkM mi ml 98 L J 0 (a, b, c, 98)) (hz : a 97 = fun _ => 0) (g1 : ∀ i, i ≠ 97 → a' i = a i) (g2 : a' 97 = wordsK.foldl (fun g q => upd g q.1 q.2) (a 97)) : MkM mi ml 98 L J 127 (a', b, c, 98) := by
  obtain ⟨a0, a1, a2, a3, a4, a5⟩ := h
  refine ⟨rfl, fun i hi => ⟨(g1 i (by omega)).trans (a1 i hi).1, (a1 i hi).2⟩, a2, a3, (g1 95 (by decide)).trans a4, fun i hi => ?_⟩
  show a' 97 i = _
  rw [g2, hz]
  exact wordsK_ok i hi
end
section
variable {d : Nat} {Q : Option Value → Mm → Prop} {mi : Nat → Nat → Int32} {ml : Nat → Nat → Int64} {mr : Nat → Nat → Option Nat}
set_option maxHeartbeats 4000000 in
theorem i_Mod (h1 : mi 95 = fun _ => 0) (h3 : mr 95 = fun _ => none) (hr : ∀ a, a ≠ 95 → mr a = R0 none a) (hQ : ∀ mi' ml', MI A0 mi' ml' → (∀ a, a < 95 → mi' a = mi a ∧ ml' a = ml a) → Q none (mi', ml', R0 none, 135)) : Cd (d + 3) k_Mod_init [.ref 95] (mi, ml, mr, 96) Q := by
  have h : MkM mi ml 96 [] [] 0 (mi, ml, mr, 96) := ⟨rfl, fun _ _ => ⟨rfl, rfl⟩, hr, h3, h1, fun i q => absurd q (Nat.not_lt_zero i)⟩
  refine cdM (n := 135) (by decide) (Nat.le_of_ble_eq_true rfl) (Nat.le_of_ble_eq_true rfl) rfl (g_Mod_init (fun K Kl hK hC => ?_))
  clear h1 h3 hr
  conv => whnf
  rw [nws_arr (n := 96) rfl rfl rfl]
  refine ⟨rfl, ?_⟩
  conv => whnf
  rw [nws_arr (n := 97) rfl rfl rfl]
  refine ⟨rfl, ?_⟩
  replace h := (h.mk (by decide) (by decide) rfl).wr 0 (some 96)
  have hz := h.new97
  replace h := h.mk (by decide) (by decide) rfl
  generalize mk1 (wR (mk1 (mi, ml, mr, 96)) 95 0 (some 96)) = M at h hz ⊢
  obtain ⟨a, b, c, n⟩ := M
  obtain rfl : n = 98 := h.1
  refine gn_st2 284 774 wordsK (by decide +kernel) (by decide +kernel) (fun a2 g1 g2 => ?_)
  replace h := h.wds hz g1 g2
  clear g1 g2 hz
  conv => whnf
  replace h : MkM mi ml _ _ _ _ (((cu (a2, b, c, 98).1 95 (upd ((a2, b, c, 98).1 95) 5 (-1))), (a2, b, c, 98).2.1, cu (a2, b, c, 98).2.2.1 95 (fun j => if j = 3 then some 97 else (a2, b, c, 98).2.2.1 95 j), (a2, b, c, 98).2.2.2) : Mm) := ((h).wr 3 (some 97)).wi 5 (-1)
  generalize (((cu (a2, b, c, 98).1 95 (upd ((a2, b, c, 98).1 95) 5 (-1))), (a2, b, c, 98).2.1, cu (a2, b, c, 98).2.2.1 95 (fun j => if j = 3 then some 97 else (a2, b, c, 98).2.2.1 95 j), (a2, b, c, 98).2.2.2) : Mm) = M at h ⊢
  obtain ⟨a, b, c, n⟩ := M
  obtain rfl : n = 98 := h.1
  conv => whnf
  rw [nws_arr (n := 98) rfl rfl rfl]
  refine ⟨rfl, ?_⟩
  conv => whnf
  replace h : MkM mi ml _ _ _ _ (wR (mk1 (a, b, c, 98)) 95 36 (some 98)) := (h.mk (by decide) (by decide) rfl).wr 36 (some 98)
  generalize wR (mk1 (a, b, c, 98)) 95 36 (some 98) = M at h ⊢
  obtain ⟨a, b, c, n⟩ := M
  obtain rfl : n = 99 := h.1
  conv => whnf
  rw [nws_arr (n := 99) rfl rfl rfl]
  refine ⟨rfl, ?_⟩
  conv => whnf
  replace h : MkM mi ml _ _ _ _ (wR (mk1 (a, b, c, 99)) 95 37 (some 99)) := (h.mk (by decide) (by decide) rfl).wr 37 (some 99)
  generalize wR (mk1 (a, b, c, 99)) 95 37 (some 99) = M at h ⊢
  obtain ⟨a, b, c, n⟩ := M
  obtain rfl : n = 100 := h.1
  conv => whnf
  rw [nws_arr (n := 100) rfl rfl rfl]
  refine ⟨rfl, ?_⟩
  conv => whnf
  replace h : MkM mi ml _ _ _ _ (wR (mk1 (a, b, c, 100)) 95 38 (some 100)) := (h.mk (by decide) (by decide) rfl).wr 38 (some 100)
  generalize wR (mk1 (a, b, c, 100)) 95 38 (some 100) = M at h ⊢
  obtain ⟨a, b, c, n⟩ := M
  obtain rfl : n = 101 := h.1
  conv => whnf
  rw [nws_arr (n := 101) rfl rfl rfl]
  refine ⟨rfl, ?_⟩
  conv => whnf
  replace h : MkM mi ml _ _ _ _ (wR (mk1 (a, b, c, 101)) 95 39 (some 101)) := (h.mk (by decide) (by decide) rfl).wr 39 (some 101)
  generalize wR (mk1 (a, b, c, 101)) 95 39 (some 101) = M at h ⊢
  obtain ⟨a, b, c, n⟩ := M
  obtain rfl : n = 102 := h.1
  conv => whnf
  rw [nws_arr (n := 102) rfl rfl rfl]
  refine ⟨rfl, ?_⟩
  conv => whnf
  replace h : MkM mi ml _ _ _ _ (wR (mk1 (a, b, c, 102)) 95 40 (some 102)) := (h.mk (by decide) (by decide) rfl).wr 40 (some 102)
  generalize wR (mk1 (a, b, c, 102)) 95 40 (some 102) = M at h ⊢
  obtain ⟨a, b, c, n⟩ := M
  obtain rfl : n = 103 := h.1
  conv => whnf
  rw [nws_arr (n := 103) rfl rfl rfl]
  refine ⟨rfl, ?_⟩
  conv => whnf
  replace h : MkM mi ml _ _ _ _ (wR (mk1 (a, b, c, 103)) 95 41 (some 103)) := (h.mk (by decide) (by decide) rfl).wr 41 (some 103)
  generalize wR (mk1 (a, b, c, 103)) 95 41 (some 103) = M at h ⊢
  obtain ⟨a, b, c, n⟩ := M
  obtain rfl : n = 104 := h.1
  conv => whnf
  rw [nws_arr (n := 104) rfl rfl rfl]
  refine ⟨rfl, ?_⟩
  conv => whnf
  replace h : MkM mi ml _ _ _ _ (wR (mk1 (a, b, c, 104)) 95 42 (some 104)) := (h.mk (by decide) (by decide) rfl).wr 42 (some 104)
  generalize wR (mk1 (a, b, c, 104)) 95 42 (some 104) = M at h ⊢
  obtain ⟨a, b, c, n⟩ := M
  obtain rfl : n = 105 := h.1
  conv => whnf
  rw [nws_arr (n := 105) rfl rfl rfl]
  refine ⟨rfl, ?_⟩
  conv => whnf
  replace h : MkM mi ml _ _ _ _ (wR (mk1 (a, b, c, 105)) 95 43 (some 105)) := (h.mk (by decide) (by decide) rfl).wr 43 (some 105)
  generalize wR (mk1 (a, b, c, 105)) 95 43 (some 105) = M at h ⊢
  obtain ⟨a, b, c, n⟩ := M
  obtain rfl : n = 106 := h.1
  conv => whnf
  rw [nws_arr (n := 106) rfl rfl rfl]
  refine ⟨rfl, ?_⟩
  conv => whnf
  replace h : MkM mi ml _ _ _ _ (wR (mk1 (a, b, c, 106)) 95 44 (some 106)) := (h.mk (by decide) (by decide) rfl).wr 44 (some 106)
  generalize wR (mk1 (a, b, c, 106)) 95 44 (some 106) = M at h ⊢
  obtain ⟨a, b, c, n⟩ := M
  obtain rfl : n = 107 := h.1
  conv => whnf
  rw [nws_arr (n := 107) rfl rfl rfl]
  refine ⟨rfl, ?_⟩
  conv => whnf
  replace h : MkM mi ml _ _ _ _ (wR (mk1 (a, b, c, 107)) 95 45 (some 107)) := (h.mk (by decide) (by decide) rfl).wr 45 (some 107)
  generalize wR (mk1 (a, b, c, 107)) 95 45 (some 107) = M at h ⊢
  obtain ⟨a, b, c, n⟩ := M
  obtain rfl : n = 108 := h.1
  conv => whnf
  rw [nws_arr (n := 108) rfl rfl rfl]
  refine ⟨rfl, ?_⟩
  conv => whnf
  replace h : MkM mi ml _ _ _ _ (wR (mk1 (a, b, c, 108)) 95 46 (some 108)) := (h.mk (by decide) (by decide) rfl).wr 46 (some 108)
  generalize wR (mk1 (a, b, c, 108)) 95 46 (some 108) = M at h ⊢
  obtain ⟨a, b, c, n⟩ := M
  obtain rfl : n = 109 := h.1
  conv => whnf
  rw [nws_arr (n := 109) rfl rfl rfl]
  refine ⟨rfl, ?_⟩
  conv => whnf
  replace h : MkM mi ml _ _ _ _ (wR (mk1 (a, b, c, 109)) 95 47 (some 109)) := (h.mk (by decide) (by decide) rfl).wr 47 (some 109)
  generalize wR (mk1 (a, b, c, 109)) 95 47 (some 109) = M at h ⊢
  obtain ⟨a, b, c, n⟩ := M
  obtain rfl : n = 110 := h.1
  conv => whnf
  rw [nws_arr (n := 110) rfl rfl rfl]
  refine ⟨rfl, ?_⟩
  conv => whnf
  replace h : MkM mi ml _ _ _ _ (wR (mk1 (a, b, c, 110)) 95 48 (some 110)) := (h.mk (by decide) (by decide) rfl).wr 48 (some 110)
  generalize wR (mk1 (a, b, c, 110)) 95 48 (some 110) = M at h ⊢
  obtain ⟨a, b, c, n⟩ := M
  obtain rfl : n = 111 := h.1
  conv => whnf
  rw [nws_arr (n := 111) rfl rfl rfl]
  refine ⟨rfl, ?_⟩
  conv => whnf
  replace h : MkM mi ml _ _ _ _ (wR (mk1 (a, b, c, 111)) 95 49 (some 111)) := (h.mk (by decide) (by decide) rfl).wr 49 (some 111)
  generalize wR (mk1 (a, b, c, 111)) 95 49 (some 111) = M at h ⊢
  obtain ⟨a, b, c, n⟩ := M
  obtain rfl : n = 112 := h.1
  conv => whnf
  rw [nws_arr (n := 112) rfl rfl rfl]
  refine ⟨rfl, ?_⟩
  conv => whnf
  replace h : MkM mi ml _ _ _ _ (wR (mk1 (a, b, c, 112)) 95 50 (some 112)) := (h.mk (by decide) (by decide) rfl).wr 50 (some 112)
  generalize wR (mk1 (a, b, c, 112)) 95 50 (some 112) = M at h ⊢
  obtain ⟨a, b, c, n⟩ := M
  obtain rfl : n = 113 := h.1
  conv => whnf
  rw [nws_arr (n := 113) rfl rfl rfl]
  refine ⟨rfl, ?_⟩
  conv => whnf
  replace h : MkM mi ml _ _ _ _ (wR (mk1 (a, b, c, 113)) 95 51 (some 113)) := (h.mk (by decide) (by decide) rfl).wr 51 (some 113)
  generalize wR (mk1 (a, b, c, 113)) 95 51 (some 113) = M at h ⊢
  obtain ⟨a, b, c, n⟩ := M
  obtain rfl : n = 114 := h.1
  conv => whnf
  rw [nws_arr (n := 114) rfl rfl rfl]
  refine ⟨rfl, ?_⟩
  conv => whnf
  replace h : MkM mi ml _ _ _ _ (wR (mk1 (a, b, c, 114)) 95 52 (some 114)) := (h.mk (by decide) (by decide) rfl).wr 52 (some 114)
  generalize wR (mk1 (a, b, c, 114)) 95 52 (some 114) = M at h ⊢
  obtain ⟨a, b, c, n⟩ := M
  obtain rfl : n = 115 := h.1
  conv => whnf
  rw [nws_arr (n := 115) rfl rfl rfl]
  refine ⟨rfl, ?_⟩
  conv => whnf
  replace h : MkM mi ml _ _ _ _ (wR (mk1 (a, b, c, 115)) 95 53 (some 115)) := (h.mk (by decide) (by decide) rfl).wr 53 (some 115)
  generalize wR (mk1 (a, b, c, 115)) 95 53 (some 115) = M at h ⊢
  obtain ⟨a, b, c, n⟩ := M
  obtain rfl : n = 116 := h.1
  conv => whnf
  rw [nws_arr (n := 116) rfl rfl rfl]
  refine ⟨rfl, ?_⟩
  conv => whnf
  replace h : MkM mi ml _ _ _ _ (wR (mk1 (a, b, c, 116)) 95 54 (some 116)) := (h.mk (by decide) (by decide) rfl).wr 54 (some 116)
  generalize wR (mk1 (a, b, c, 116)) 95 54 (some 116) = M at h ⊢
  obtain ⟨a, b, c, n⟩ := M
  obtain rfl : n = 117 := h.1
  conv => whnf
  rw [nws_arr (n := 117) rfl rfl rfl]
  refine ⟨rfl, ?_⟩
  conv => whnf
  replace h : MkM mi ml _ _ _ _ (wR (mk1 (a, b, c, 117)) 95 55 (some 117)) := (h.mk (by decide) (by decide) rfl).wr 55 (some 117)
  generalize wR (mk1 (a, b, c, 117)) 95 55 (some 117) = M at h ⊢
  obtain ⟨a, b, c, n⟩ := M
  obtain rfl : n = 118 := h.1
  conv => whnf
  rw [nws_arr (n := 118) rfl rfl rfl]
  refine ⟨rfl, ?_⟩
  conv => whnf
  replace h : MkM mi ml _ _ _ _ (wR (mk1 (a, b, c, 118)) 95 56 (some 118)) := (h.mk (by decide) (by decide) rfl).wr 56 (some 118)
  generalize wR (mk1 (a, b, c, 118)) 95 56 (some 118) = M at h ⊢
  obtain ⟨a, b, c, n⟩ := M
  obtain rfl : n = 119 := h.1
  conv => whnf
  rw [nws_arr (n := 119) rfl rfl rfl]
  refine ⟨rfl, ?_⟩
  conv => whnf
  replace h : MkM mi ml _ _ _ _ (wR (mk1 (a, b, c, 119)) 95 57 (some 119)) := (h.mk (by decide) (by decide) rfl).wr 57 (some 119)
  generalize wR (mk1 (a, b, c, 119)) 95 57 (some 119) = M at h ⊢
  obtain ⟨a, b, c, n⟩ := M
  obtain rfl : n = 120 := h.1
  conv => whnf
  rw [nws_arr (n := 120) rfl rfl rfl]
  refine ⟨rfl, ?_⟩
  conv => whnf
  replace h : MkM mi ml _ _ _ _ (wR (mk1 (a, b, c, 120)) 95 58 (some 120)) := (h.mk (by decide) (by decide) rfl).wr 58 (some 120)
  generalize wR (mk1 (a, b, c, 120)) 95 58 (some 120) = M at h ⊢
  obtain ⟨a, b, c, n⟩ := M
  obtain rfl : n = 121 := h.1
  conv => whnf
  rw [nws_arr (n := 121) rfl rfl rfl]
  refine ⟨rfl, ?_⟩
  conv => whnf
  replace h : MkM mi ml _ _ _ _ (wR (mk1 (a, b, c, 121)) 95 65 (some 121)) := (h.mk (by decide) (by decide) rfl).wr 65 (some 121)
  generalize wR (mk1 (a, b, c, 121)) 95 65 (some 121) = M at h ⊢
  obtain ⟨a, b, c, n⟩ := M
  obtain rfl : n = 122 := h.1
  conv => whnf
  rw [nws_arr (n := 122) rfl rfl rfl]
  refine ⟨rfl, ?_⟩
  conv => whnf
  replace h : MkM mi ml _ _ _ _ (wR (mk1 (a, b, c, 122)) 95 66 (some 122)) := (h.mk (by decide) (by decide) rfl).wr 66 (some 122)
  generalize wR (mk1 (a, b, c, 122)) 95 66 (some 122) = M at h ⊢
  obtain ⟨a, b, c, n⟩ := M
  obtain rfl : n = 123 := h.1
  conv => whnf
  rw [nws_arr (n := 123) rfl rfl rfl]
  refine ⟨rfl, ?_⟩
  conv => whnf
  replace h : MkM mi ml _ _ _ _ (wR (mk1 (a, b, c, 123)) 95 68 (some 123)) := (h.mk (by decide) (by decide) rfl).wr 68 (some 123)
  generalize wR (mk1 (a, b, c, 123)) 95 68 (some 123) = M at h ⊢
  obtain ⟨a, b, c, n⟩ := M
  obtain rfl : n = 124 := h.1
  conv => whnf
  rw [nws_arr (n := 124) rfl rfl rfl]
  refine ⟨rfl, ?_⟩
  conv => whnf
  replace h : MkM mi ml _ _ _ _ (wR (mk1 (a, b, c, 124)) 95 69 (some 124)) := (h.mk (by decide) (by decide) rfl).wr 69 (some 124)
  generalize wR (mk1 (a, b, c, 124)) 95 69 (some 124) = M at h ⊢
  obtain ⟨a, b, c, n⟩ := M
  obtain rfl : n = 125 := h.1
  conv => whnf
  rw [nws_arr (n := 125) rfl rfl rfl]
  refine ⟨rfl, ?_⟩
  conv => whnf
  replace h : MkM mi ml _ _ _ _ (((cu (cu (mk1 (a, b, c, 125)).1 95 (upd ((mk1 (a, b, c, 125)).1 95) 75 (-1))) 95 (upd ((cu (mk1 (a, b, c, 125)).1 95 (upd ((mk1 (a, b, c, 125)).1 95) 75 (-1))) 95) 76 (-1))), (mk1 (a, b, c, 125)).2.1, cu (mk1 (a, b, c, 125)).2.2.1 95 (fun j => if j = 73 then some 125 else (mk1 (a, b, c, 125)).2.2.1 95 j), (mk1 (a, b, c, 125)).2.2.2) : Mm) := (((h.mk (by decide) (by decide) rfl).wr 73 (some 125)).wi 75 (-1)).wi 76 (-1)
  generalize (((cu (cu (mk1 (a, b, c, 125)).1 95 (upd ((mk1 (a, b, c, 125)).1 95) 75 (-1))) 95 (upd ((cu (mk1 (a, b, c, 125)).1 95 (upd ((mk1 (a, b, c, 125)).1 95) 75 (-1))) 95) 76 (-1))), (mk1 (a, b, c, 125)).2.1, cu (mk1 (a, b, c, 125)).2.2.1 95 (fun j => if j = 73 then some 125 else (mk1 (a, b, c, 125)).2.2.1 95 j), (mk1 (a, b, c, 125)).2.2.2) : Mm) = M at h ⊢
  obtain ⟨a, b, c, n⟩ := M
  obtain rfl : n = 126 := h.1
  conv => whnf
  rw [nws_arr (n := 126) rfl rfl rfl]
  refine ⟨rfl, ?_⟩
  conv => whnf
  replace h : MkM mi ml _ _ _ _ (wR (mk1 (a, b, c, 126)) 95 82 (some 126)) := (h.mk (by decide) (by decide) rfl).wr 82 (some 126)
  generalize wR (mk1 (a, b, c, 126)) 95 82 (some 126) = M at h ⊢
  obtain ⟨a, b, c, n⟩ := M
  obtain rfl : n = 127 := h.1
  conv => whnf
  rw [nws_arr (n := 127) rfl rfl rfl]
  refine ⟨rfl, ?_⟩
  conv => whnf
  replace h : MkM mi ml _ _ _ _ (wR (mk1 (a, b, c, 127)) 95 83 (some 127)) := (h.mk (by decide) (by decide) rfl).wr 83 (some 127)
  generalize wR (mk1 (a, b, c, 127)) 95 83 (some 127) = M at h ⊢
  obtain ⟨a, b, c, n⟩ := M
  obtain rfl : n = 128 := h.1
  conv => whnf
  rw [nws_arr (n := 128) rfl rfl rfl]
  refine ⟨rfl, ?_⟩
  conv => whnf
  replace h : MkM mi ml _ _ _ _ (wR (mk1 (a, b, c, 128)) 95 84 (some 128)) := (h.mk (by decide) (by decide) rfl).wr 84 (some 128)
  generalize wR (mk1 (a, b, c, 128)) 95 84 (some 128) = M at h ⊢
  obtain ⟨a, b, c, n⟩ := M
  obtain rfl : n = 129 := h.1
  conv => whnf
  rw [nws_arr (n := 129) rfl rfl rfl]
  refine ⟨rfl, ?_⟩
  conv => whnf
  replace h : MkM mi ml _ _ _ _ (((cu (mk1 (a, b, c, 129)).1 95 (upd ((mk1 (a, b, c, 129)).1 95) 89 (-1))), (mk1 (a, b, c, 129)).2.1, cu (mk1 (a, b, c, 129)).2.2.1 95 (fun j => if j = 87 then some 129 else (mk1 (a, b, c, 129)).2.2.1 95 j), (mk1 (a, b, c, 129)).2.2.2) : Mm) := ((h.mk (by decide) (by decide) rfl).wr 87 (some 129)).wi 89 (-1)
  generalize (((cu (mk1 (a, b, c, 129)).1 95 (upd ((mk1 (a, b, c, 129)).1 95) 89 (-1))), (mk1 (a, b, c, 129)).2.1, cu (mk1 (a, b, c, 129)).2.2.1 95 (fun j => if j = 87 then some 129 else (mk1 (a, b, c, 129)).2.2.1 95 j), (mk1 (a, b, c, 129)).2.2.2) : Mm) = M at h ⊢
  obtain ⟨a, b, c, n⟩ := M
  obtain rfl : n = 130 := h.1
  conv => whnf
  rw [nws_arr (n := 130) rfl rfl rfl]
  refine ⟨rfl, ?_⟩
  conv => whnf
  replace h : MkM mi ml _ _ _ _ (wR (mk1 (a, b, c, 130)) 95 90 (some 130)) := (h.mk (by decide) (by decide) rfl).wr 90 (some 130)
  generalize wR (mk1 (a, b, c, 130)) 95 90 (some 130) = M at h ⊢
  obtain ⟨a, b, c, n⟩ := M
  obtain rfl : n = 131 := h.1
  conv => whnf
  rw [nws_arr (n := 131) rfl rfl rfl]
  refine ⟨rfl, ?_⟩
  conv => whnf
  replace h : MkM mi ml _ _ _ _ (wR (mk1 (a, b, c, 131)) 95 91 (some 131)) := (h.mk (by decide) (by decide) rfl).wr 91 (some 131)
  generalize wR (mk1 (a, b, c, 131)) 95 91 (some 131) = M at h ⊢
  obtain ⟨a, b, c, n⟩ := M
  obtain rfl : n = 132 := h.1
  conv => whnf
  rw [nws_arr (n := 132) rfl rfl rfl]
  refine ⟨rfl, ?_⟩
  conv => whnf
  replace h : MkM mi ml _ _ _ _ (wR (mk1 (a, b, c, 132)) 95 95 (some 132)) := (h.mk (by decide) (by decide) rfl).wr 95 (some 132)
  generalize wR (mk1 (a, b, c, 132)) 95 95 (some 132) = M at h ⊢
  obtain ⟨a, b, c, n⟩ := M
  obtain rfl : n = 133 := h.1
  conv => whnf
  rw [nws_arr (n := 133) rfl rfl rfl]
  refine ⟨rfl, ?_⟩
  conv => whnf
  replace h : MkM mi ml _ _ _ _ (wR (mk1 (a, b, c, 133)) 95 97 (some 133)) := (h.mk (by decide) (by decide) rfl).wr 97 (some 133)
  generalize wR (mk1 (a, b, c, 133)) 95 97 (some 133) = M at h ⊢
  obtain ⟨a, b, c, n⟩ := M
  obtain rfl : n = 134 := h.1
  conv => whnf
  rw [nws_arr (n := 134) rfl rfl rfl]
  refine ⟨rfl, ?_⟩
  conv => whnf
  replace h : MkM mi ml _ _ _ _ (wR (mk1 (a, b, c, 134)) 95 100 (some 134)) := (h.mk (by decide) (by decide) rfl).wr 100 (some 134)
  generalize wR (mk1 (a, b, c, 134)) 95 100 (some 134) = M at h ⊢
  obtain ⟨a, b, c, n⟩ := M
  obtain rfl : n = 135 := h.1
  obtain ⟨_, a1, a2, a3, a4, a5⟩ := h
  have hR : c = R0 none := funext (fun q => by
    by_cases e : q = 95
    · rw [e]; exact a3.trans (row_R (by decide) (by decide +kernel) rfl)
    · exact a2 q e)
  subst hR
  refine hC _ _ _ _ (t_plain135 (fun m1 w1 t1 X1 => ?_))
  have k : ∀ i, (a 95 i = _) := fun i => congrFun a4 i
  refine hC _ _ _ _ (t_keepText135 (A := A0) X1 tI_ok ((t1 1 (by decide)).trans (k 1)) ((t1 4 (by decide)).trans (k 4)) ((t1 5 (by decide)).trans (k 5)) ⟨(w1 95 75 rfl).trans (k 75), (w1 95 76 rfl).trans (k 76)⟩ (fun i hi => (w1 97 i rfl).trans (a5 i hi)) (fun m2 ml2 hA lo lol => ⟨rfl, hQ m2 ml2 hA (fun q hq => ?_)⟩))
  exact ⟨(lo q (Or.inl hq)).trans ((w1.wf.lo q (Or.inl hq)).trans (a1 q hq).1), (lol q (Or.inl hq)).trans (a1 q hq).2⟩
end
