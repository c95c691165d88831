/-! THE CLASS IS MADE -/
theorem Cd_eq {d k : Nat} {as : List Value} {M M' : Mm} {P : Option Value → Mm → Prop} (e : M' = M) (h : Cd d k as M' P) : Cd d k as M P := e ▸ h
/-- what is told at first -/
def A0 : St := fun a => if a = 0 then tI else if a = 1 then bgS tI else fun _ _ => 0
theorem MkI.sub {mi mi' : Nat → Nat → Int32} {ml ml' : Nat → Nat → Int64} {mr mr' : Nat → Nat → Option Nat} {n : Nat} {L : List (Nat × Option Nat)} {J : List (Nat × Int32)} (h : MkI mi ml mr 0 1 n L J (mi', ml', mr', n)) (hr : ∀ a, 1 ≤ a → mr a = R0 none a) : mr' = cu (R0 none) 0 (rowL none L) := by
  obtain ⟨a0, a1, a2, a3, a4, a5, a6, a7, a8⟩ := h
  funext a
  by_cases e : a = 0
  · rw [e, cu_self]; exact a8
  · rw [cu_ne e]
    rcases Nat.lt_or_ge a n with q | q
    · exact a7 a (by omega) q
    · exact (a6 a e (Or.inr q)).trans (hr a (by omega))
section
variable {d : Nat} {Q : Option Value → Mm → Prop} {mi : Nat → Nat → Int32} {ml : Nat → Nat → Int64} {mr : Nat → Nat → Option Nat}
set_option maxHeartbeats 4000000 in
theorem i_Hay (h1 : mi 0 = fun _ => 0) (h2 : ml 0 = fun _ => 0) (h3 : mr 0 = fun _ => none) (hr : ∀ a, 1 ≤ a → mr a = R0 none a) (hQ : ∀ mi' ml', CI A0 mi' → Q none (mi', ml', R0 none, 95)) : Cd (d + 3) k_Hay_init [.ref 0] (mi, ml, mr, 1) Q := by
  have hs := MkI.st (n := 1) h1 h2 h3
  refine cdM (n := 95) (by decide) (Nat.le_of_ble_eq_true rfl) (Nat.le_of_ble_eq_true rfl) rfl (g_Hay_init (fun K Kl hK hC => ?_))
  conv => whnf
  rw [nws_arr (n := 1) rfl rfl rfl]
  refine ⟨rfl, ?_⟩
  have h1 := (hs.mk (by decide) (by decide) (by decide) (by decide) (by decide) rfl).wr (by decide) 0 (some 1)
  have h2 := h1.wi (by decide) 3 (-1)
  conv => whnf
  rw [nws_obj (n := 2) rfl rfl rfl]
  refine ⟨trivial, ?_⟩
  refine hC _ _ _ _ (i_Tokens2 h2.new.1 h2.new.2.1 h2.new.2.2 (fun mi3 ml3 mr3 m3 => ?_))
  have c3 := h2.call (n1 := 6) (by decide) (by decide) (by decide) m3
  clear m3
  have e3 := c3.sub hr
  subst e3
  have h3 := c3.wr (by decide) 4 (some 2)
  conv => whnf
  rw [nws_obj (n := 6) rfl rfl rfl]
  refine ⟨trivial, ?_⟩
  refine hC _ _ _ _ (i_Told6 h3.new.1 h3.new.2.1 h3.new.2.2 (fun mi4 ml4 mr4 m4 => ?_))
  have c4 := h3.call (n1 := 37) (by decide) (by decide) (by decide) m4
  clear m4
  have e4 := c4.sub hr
  subst e4
  have h4 := c4.wr (by decide) 5 (some 6)
  conv => whnf
  rw [nws_obj (n := 37) rfl rfl rfl]
  refine ⟨trivial, ?_⟩
  refine hC _ _ _ _ (i_Told37 h4.new.1 h4.new.2.1 h4.new.2.2 (fun mi5 ml5 mr5 m5 => ?_))
  have c5 := h4.call (n1 := 68) (by decide) (by decide) (by decide) m5
  clear m5
  have e5 := c5.sub hr
  subst e5
  have h5 := c5.wr (by decide) 6 (some 37)
  conv => whnf
  rw [nws_obj (n := 68) rfl rfl rfl]
  refine ⟨trivial, ?_⟩
  refine hC _ _ _ _ (i_Reader68 h5.new.1 h5.new.2.1 h5.new.2.2 (fun mi6 ml6 mr6 m6 => ?_))
  have c6 := h5.call (n1 := 70) (by decide) (by decide) (by decide) m6
  clear m6
  have e6 := c6.sub hr
  subst e6
  have h6 := c6.wr (by decide) 7 (some 68)
  conv => whnf
  rw [nws_obj (n := 70) rfl rfl rfl]
  refine ⟨trivial, ?_⟩
  refine hC _ _ _ _ (i_Scene70 h6.new.1 h6.new.2.1 h6.new.2.2 (fun mi7 ml7 mr7 m7 => ?_))
  have c7 := h6.call (n1 := 73) (by decide) (by decide) (by decide) m7
  clear m7
  have e7 := c7.sub hr
  subst e7
  have h7 := c7.wr (by decide) 8 (some 70)
  conv => whnf
  rw [nws_obj (n := 73) rfl rfl rfl]
  refine ⟨trivial, ?_⟩
  refine hC _ _ _ _ (i_Scene73 h7.new.1 h7.new.2.1 h7.new.2.2 (fun mi8 ml8 mr8 m8 => ?_))
  have c8 := h7.call (n1 := 76) (by decide) (by decide) (by decide) m8
  clear m8
  have e8 := c8.sub hr
  subst e8
  have h8 := c8.wr (by decide) 9 (some 73)
  conv => whnf
  rw [nws_obj (n := 76) rfl rfl rfl]
  refine ⟨trivial, ?_⟩
  refine hC _ _ _ _ (i_Past76 h8.new.1 h8.new.2.1 h8.new.2.2 (fun mi9 ml9 mr9 m9 => ?_))
  have c9 := h8.call (n1 := 78) (by decide) (by decide) (by decide) m9
  clear m9
  have e9 := c9.sub hr
  subst e9
  have h9 := c9.wr (by decide) 11 (some 76)
  conv => whnf
  rw [nws_obj (n := 78) rfl rfl rfl]
  refine ⟨trivial, ?_⟩
  refine hC _ _ _ _ (i_Notes78 h9.new.1 h9.new.2.1 h9.new.2.2 (fun mi10 ml10 mr10 m10 => ?_))
  have c10 := h9.call (n1 := 84) (by decide) (by decide) (by decide) m10
  clear m10
  have e10 := c10.sub hr
  subst e10
  have h10 := c10.wr (by decide) 12 (some 78)
  conv => whnf
  rw [nws_obj (n := 84) rfl rfl rfl]
  refine ⟨trivial, ?_⟩
  refine hC _ _ _ _ (i_Search84 h10.new.1 h10.new.2.1 h10.new.2.2 (fun mi11 ml11 mr11 m11 => ?_))
  have c11 := h10.call (n1 := 95) (by decide) (by decide) (by decide) m11
  clear m11
  have e11 := c11.sub hr
  subst e11
  have h11 := c11.wr (by decide) 13 (some 84)
  have hf := h11.fin (row_R (by decide) (by decide +kernel) rfl) (by funext k; unfold ZI; simp [rowL])
  have hR : ∀ (M : Mm), Made 0 1 95 mi M.1 ml M.2.1 mr M.2.2.1 → M.2.2.1 = R0 none := fun M hf => funext (fun a => by
    by_cases e : a = 0
    · exact (hf.2 a (Or.inl e)).2.2
    · rcases Nat.lt_or_ge a 95 with q | q
      · exact (hf.2 a (Or.inr ⟨by omega, q⟩)).2.2
      · exact (hf.1 a e (Or.inr q)).2.2.trans (hr a (by omega)))
  have hR := hR _ hf
  have z : ∀ a, a < 95 → mi11 a = ZI a := fun a ha => (hf.2 a (by omega)).1
  refine hC _ _ _ _ (Cd_eq (M' := (mi11, ml11, R0 none, 95)) (congrArg (fun z => ((mi11, ml11, z, 95) : Mm)) hR.symm) (s_Told_clear95 (o := 0) (Or.inl rfl) (fun mi12 ml12 f1 e68 f2 hX => ?_)))
  refine hC _ _ _ _ (s_Scene_begin95 (T := tI) hX.1 (fun mi13 f3 hS => ⟨rfl, hQ mi13 ml12 ?_⟩))
  have k : ∀ c, c < 6 ∨ (72 < c ∧ c < 95) → mi13 c = ZI c := fun c hc => by
    rw [f3 c (nin_not (fun hm => by simp at hm; omega)), f1 c (by omega) (by omega) (by omega)]
    exact z c (by omega)
  refine ⟨hX.1.keep (fun c h1 h2 => f3 c (nin_not (fun hm => by simp at hm; omega))), hS, ⟨?_, ?_, Nat.zero_le _, Nat.zero_le _, lt_0, lt_0⟩, ⟨?_, Nat.zero_le _, lt_0⟩, ?_, fun q => absurd rfl q, ?_, lt_0, ?_, ?_⟩
  · rw [k 78 (by omega)]; rfl
  · rw [k 78 (by omega)]; decide
  · rw [k 76 (by omega)]; rfl
  · rw [k 0 (by omega)]; rfl
  · rw [k 0 (by omega)]; rfl
  · rw [k 0 (by omega)]; rfl
  · rw [k 0 (by omega)]; decide
theorem wfA_0 : wfA A0 := by
  have hw := tI_ok.1
  exact ⟨hw, tI_ok.2.1, ⟨fun _ => Nat.zero_le _, fun _ _ => rfl, Nat.zero_le _, hw.pu, (show tI 0 11 < 2 ^ 31 by decide), (show 0 < 32 by decide), fun _ => Nat.zero_le _⟩, Nat.zero_le _, lt_0, lt_0, Nat.zero_le _, (fun q => absurd rfl q), Nat.zero_le _, (fun _ => (show 0 < 256 by decide)), Nat.zero_le _, Nat.zero_le _, Nat.zero_le _, lt_0⟩
end
