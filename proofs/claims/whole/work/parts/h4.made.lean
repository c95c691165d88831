/-! THE REFERENCE IS MADE -/
/-- it is being made: n cells now, its fields L, J, so many of its words written -/
def MkM (mi : Nat → Nat → Int32) (ml : Nat → Nat → Int64) (n : Nat) (L : List (Nat × Option Nat)) (J : List (Nat × Int32)) (w : Nat) (M : Mm) : Prop := M.2.2.2 = n ∧ (∀ a, a < 95 → M.1 a = mi a ∧ M.2.1 a = ml a) ∧ (∀ a, a ≠ 95 → M.2.2.1 a = R0 none a) ∧ M.2.2.1 95 = rowL none L ∧ M.1 95 = rowL 0 J ∧ (∀ i, i < w → M.1 97 i = nI (nth 0 langM i))
section
variable {mi : Nat → Nat → Int32} {ml : Nat → Nat → Int64} {n w : Nat} {L : List (Nat × Option Nat)} {J : List (Nat × Int32)} {M : Mm}
theorem MkM.mk (h : MkM mi ml n L J w M) (h0 : 95 < n) (h97 : n ≠ 97 ∨ w = 0) (he : (nth [] (nth [] refLL (n / 12)) (n % 12)).isEmpty = true) : MkM mi ml (n + 1) L J w (mk1 M) := by
  obtain ⟨a0, a1, a2, a3, a4, a5⟩ := h
  unfold mk1
  rw [a0]
  refine ⟨rfl, fun a ha => ?_, fun a ha => ?_, ?_, ?_, fun i hi => ?_⟩
  · show cu M.1 n (fun _ => 0) a = _ ∧ cu M.2.1 n (fun _ => 0) a = _
    rw [cu_ne (by omega), cu_ne (by omega)]; exact a1 a ha
  · show cu M.2.2.1 n (fun _ => none) a = _
    by_cases e : a = n
    · rw [e, cu_self]; exact row_E he (by omega)
    · rw [cu_ne e]; exact a2 a ha
  · show cu M.2.2.1 n (fun _ => none) 95 = _
    rw [cu_ne (by omega)]; exact a3
  · show cu M.1 n (fun _ => 0) 95 = _
    rw [cu_ne (by omega)]; exact a4
  · show cu M.1 n (fun _ => 0) 97 i = _
    rw [cu_ne (by omega)]; exact a5 i hi
theorem MkM.wr (h : MkM mi ml n L J w M) (k : Nat) (x : Option Nat) : MkM mi ml n ((k, x) :: L) J w (wR M 95 k x) := by
  obtain ⟨a0, a1, a2, a3, a4, a5⟩ := h
  refine ⟨a0, a1, fun a ha => ?_, ?_, a4, a5⟩
  · show cu M.2.2.1 95 (fun j => if j = k then x else M.2.2.1 95 j) a = _
    rw [cu_ne ha]; exact a2 a ha
  · show cu M.2.2.1 95 (fun j => if j = k then x else M.2.2.1 95 j) 95 = _
    rw [cu_self, a3]
    rfl
theorem MkM.wi (h : MkM mi ml n L J w M) (k : Nat) (x : Int32) : MkM mi ml n L ((k, x) :: J) w (wI M 95 k x) := by
  obtain ⟨a0, a1, a2, a3, a4, a5⟩ := h
  refine ⟨a0, fun a ha => ?_, a2, a3, ?_, a5⟩
  · show cu M.1 95 (upd (M.1 95) k x) a = _ ∧ _
    rw [cu_ne (by omega)]; exact a1 a ha
  · show cu M.1 95 (upd (M.1 95) k x) 95 = _
    rw [cu_self, a4]
    funext i
    by_cases e : i = k
    · rw [e, pk_us, rowL, if_pos rfl]
    · rw [pk_un e, rowL, if_neg e]
theorem MkM.wd (h : MkM mi ml n L J w M) {x : Int32} (hx : x = nI (nth 0 langM w)) : MkM mi ml n L J (w + 1) (wI M 97 w x) := by
  obtain ⟨a0, a1, a2, a3, a4, a5⟩ := h
  refine ⟨a0, fun a ha => ?_, a2, a3, ?_, fun i hi => ?_⟩
  · show cu M.1 97 (upd (M.1 97) w x) a = _ ∧ _
    rw [cu_ne (by omega)]; exact a1 a ha
  · show cu M.1 97 (upd (M.1 97) w x) 95 = _
    rw [cu_ne (by omega)]; exact a4
  · show cu M.1 97 (upd (M.1 97) w x) 97 i = _
    rw [cu_self]
    by_cases e : i = w
    · rw [e, pk_us]; exact hx
    · rw [pk_un e]; exact a5 i (by omega)
end
/-! a row of stores -/
def isDup (e : En) : Bool := match e with
  | (_, .dup, _, false, 0, _, _, _) => true
  | _ => false
def isPush (x : Int32) (e : En) : Bool := match e with
  | (_, .iconst _, _, false, 0, _, .int y, _) => decide (y = x)
  | (_, .bipush _, _, false, 0, _, .int y, _) => decide (y = x)
  | _ => false
def isIas (e : En) : Bool := match e with
  | (_, .iastore, _, false, 7, _, _, _) => true
  | _ => false
def chkS : List (Nat × Int32) → List En → Nat → Bool
  | [], e :: _, t => Nat.beq e.1 t
  | [], [], _ => false
  | q :: K, e1 :: e2 :: e3 :: e4 :: es, t => isDup e1 && isPush (nI q.1) e2 && isPush q.2 e3 && isIas e4 && Nat.blt q.1 127 && chkS K es t
  | _, _, _ => false
def aftS : List (Nat × Int32) → List En → List En
  | [], es => es
  | _ :: K, _ :: _ :: _ :: _ :: es => aftS K es
  | _, _ => []
section
variable {Cl : Nat → List Value → Mm → (Option Value → Mm → Prop) → Prop} {mc : Nat → Nat} {ret nmax : Nat} {Q : Option Value → Mm → Prop} {K : Nat → List Value → List Value → Mm → Prop} {code rest : List En} {F : Nat} {ls st : List Value} {M : Mm} {e : En}
theorem gn_dup {o : Nat} (h : isDup e = true) (z : GnN Cl mc ret nmax Q K code F rest ls (.ref o :: .ref o :: st) M) : GnN Cl mc ret nmax Q K code (F + 1) (e :: rest) ls (.ref o :: st) M := by
  unfold isDup at h
  split at h
  · exact z
  · cases h
theorem gn_push {x : Int32} (h : isPush x e = true) (z : GnN Cl mc ret nmax Q K code F rest ls (.int x :: st) M) : GnN Cl mc ret nmax Q K code (F + 1) (e :: rest) ls st M := by
  unfold isPush at h
  split at h
  · have h := of_decide_eq_true h
    subst h
    exact z
  · have h := of_decide_eq_true h
    subst h
    exact z
  · cases h
theorem gn_ias {j : Nat} {x : Int32} {a : Nat → Nat → Int32} {b : Nat → Nat → Int64} {c : Nat → Nat → Option Nat} (h : isIas e = true) (hj : j < 127) (z : GnN Cl mc ret nmax Q K code F rest ls st (cu a 97 (upd (a 97) j x), b, c, 98)) : GnN Cl mc ret nmax Q K code (F + 1) (e :: rest) ls (.int x :: .int (nI j) :: .ref 97 :: st) (a, b, c, 98) := by
  unfold isIas at h
  split at h
  · exact ⟨j, hj, rfl, z⟩
  · cases h
theorem gn_st {t : Nat} {b : Nat → Nat → Int64} {c : Nat → Nat → Option Nat} : ∀ (W : List (Nat × Int32)) (es : List En) (F : Nat) (a : Nat → Nat → Int32), chkS W es t = true → (∀ a', (∀ i, i ≠ 97 → a' i = a i) → a' 97 = W.foldl (fun g q => upd g q.1 q.2) (a 97) → GnN Cl mc ret nmax Q K code F (aftS W es) ls (.ref 97 :: st) (a', b, c, 98)) → GnN Cl mc ret nmax Q K code (F + 4 * W.length) es ls (.ref 97 :: st) (a, b, c, 98)
  | [], es, F, a, _, z => z a (fun _ _ => rfl) rfl
  | q :: W, e1 :: e2 :: e3 :: e4 :: es, F, a, h, z => by
    unfold chkS at h
    simp only [Bool.and_eq_true] at h
    obtain ⟨⟨⟨⟨⟨h1, h2⟩, h3⟩, h4⟩, h5⟩, h6⟩ := h
    have hj : q.1 < 127 := by simpa using h5
    have e : F + 4 * (q :: W).length = F + 4 * W.length + 1 + 1 + 1 + 1 := by rw [List.length_cons]; omega
    rw [e]
    refine gn_dup h1 (gn_push h2 (gn_push h3 (gn_ias h4 hj (gn_st W es F _ h6 (fun a' g1 g2 => z a' (fun i hi => (g1 i hi).trans (cu_ne hi)) ?_)))))
    rw [g2, cu_self]
    rfl
  | q :: W, [], F, a, h, _ => by unfold chkS at h; cases h
  | q :: W, [_], F, a, h, _ => by unfold chkS at h; cases h
  | q :: W, [_, _], F, a, h, _ => by unfold chkS at h; cases h
  | q :: W, [_, _, _], F, a, h, _ => by unfold chkS at h; cases h
end
def wordsK : List (Nat × Int32) := [(0, nI 112), (1, nI 108), (2, nI 97), (3, nI 105), (4, nI 110), (5, nI 32), (6, nI 111), (7, nI 119), (8, nI 110), (9, nI 101), (10, nI 114), (11, nI 32), (12, nI 115), (13, nI 116), (14, nI 114), (15, nI 105), (16, nI 112), (17, nI 32), (18, nI 103), (19, nI 108), (20, nI 121), (21, nI 112), (22, nI 104), (23, nI 32), (24, nI 119), (25, nI 111), (26, nI 114), (27, nI 100), (28, nI 32), (29, nI 104), (30, nI 105), (31, nI 108), (32, nI 108), (33, nI 32), (34, nI 119), (35, nI 97), (36, nI 115), (37, nI 104), (38, nI 32), (39, nI 115), (40, nI 105), (41, nI 103), (42, nI 110), (43, nI 32), (44, nI 108), (45, nI 105), (46, nI 110), (47, nI 107), (48, nI 32), (49, nI 112), (50, nI 117), (51, nI 114), (52, nI 115), (53, nI 101), (54, nI 32), (55, nI 115), (56, nI 101), (57, nI 101), (58, nI 100), (59, nI 32), (60, nI 114), (61, nI 97), (62, nI 105), (63, nI 110), (64, nI 32), (65, nI 108), (66, nI 97), (67, nI 119), (68, nI 32), (69, nI 97), (70, nI 108), (71, nI 108), (72, nI 32), (73, nI 108), (74, nI 111), (75, nI 119), (76, nI 32), (77, nI 104), (78, nI 105), (79, nI 103), (80, nI 104), (81, nI 32), (82, nI 101), (83, nI 97), (84, nI 116), (85, nI 32), (86, nI 97), (87, nI 110), (88, nI 100), (89, nI 32), (90, nI 111), (91, nI 114), (92, nI 32), (93, nI 110), (94, nI 111), (95, nI 116), (96, nI 32), (97, nI 115), (98, nI 116), (99, nI 97), (100, nI 99), (101, nI 107), (102, nI 115), (103, nI 32), (104, nI 118), (105, nI 111), (106, nI 119), (107, nI 101), (108, nI 108), (109, nI 32), (110, nI 114), (111, nI 111), (112, nI 119), (113, nI 32), (114, nI 99), (115, nI 111), (116, nI 108), (117, nI 32), (118, nI 100), (119, nI 97), (120, nI 121), (121, nI 32), (122, nI 108), (123, nI 101), (124, nI 102), (125, nI 116), (126, nI 32)]
theorem wordsK_ok : ∀ i, i < 127 → wordsK.foldl (fun g q => upd g q.1 q.2) (fun _ => 0) i = nI (nth 0 langM i) := by decide +kernel
