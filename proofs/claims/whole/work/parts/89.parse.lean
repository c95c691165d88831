/-! THE TEXT AS LINES: k, v, p the tokens' kinds, values, places. Row 0 of a text beyond 12: 13 strips, 14 .. 18 whether plain, purse, seed, rain, law are told -/
def pNum (k v p : Nat → Nat) (j lo hi : Nat) : Except (Nat × Nat) Nat := if k j = 1 then (if lo ≤ v j ∧ v j ≤ hi then .ok (v j) else .error (2, p j)) else .error (1, p j)
/-- the number of a name among the first c -/
def nmF (nm : Nat → Nat) (c x : Nat) : Nat := fnd (fun i => nm i == x) c
def pNew (k v p : Nat → Nat) (nm : Nat → Nat) (c j : Nat) : Except (Nat × Nat) Nat := if k j = 2 then (if nmF nm c (v j) < c then .error (3, p j) else .ok (v j)) else .error (1, p j)
def pOld (k v p : Nat → Nat) (nm : Nat → Nat) (c j : Nat) : Except (Nat × Nat) Nat := if k j = 2 then (if nmF nm c (v j) < c then .ok (nmF nm c (v j)) else .error (4, p j)) else .error (1, p j)
/-- a number of row 0 -/
def t0 (T : Nat → Nat → Nat) (c x : Nat) : Nat → Nat → Nat := fun a i => if a = 0 then (if i = c then x else T 0 i) else T a i
/-- behind the last of row r, of which there are T 0 c -/
def tA (T : Nat → Nat → Nat) (r i x : Nat) : Nat → Nat → Nat := fun a k => if a = r then (if k = i then x else T r k) else T a k
def aOw (T : Nat → Nat → Nat) (nm pr ct : Nat) : Nat → Nat → Nat := t0 (tA (tA (tA T 1 (T 0 2) nm) 2 (T 0 2) pr) 3 (T 0 2) ct) 2 (T 0 2 + 1)
def aGl (T : Nat → Nat → Nat) (c s : Nat) : Nat → Nat → Nat := t0 (tA (tA T 5 (T 0 3) c) 6 (T 0 3) s) 3 (T 0 3 + 1)
def aWd (T : Nat → Nat → Nat) (nm w : Nat) : Nat → Nat → Nat := t0 (tA (tA T 7 (T 0 4) nm) 8 (T 0 4) w) 4 (T 0 4 + 1)
def aHl (T : Nat → Nat → Nat) (nm s : Nat) : Nat → Nat → Nat := t0 (tA (tA T 9 (T 0 5) nm) 10 (T 0 5) s) 5 (T 0 5 + 1)
def aCo (T : Nat → Nat → Nat) (nm m : Nat) : Nat → Nat → Nat := t0 (tA (tA T 11 (T 0 6) nm) 12 (T 0 6) m) 6 (T 0 6 + 1)
def aSg (T : Nat → Nat → Nat) (nm l : Nat) (cs : Nat → Nat) : Nat → Nat → Nat := t0 (tA (tA (fun a i => if a = 15 then (if 4 * T 0 7 ≤ i then cs (i - 4 * T 0 7) else T 15 i) else T a i) 13 (T 0 7) nm) 14 (T 0 7) l) 7 (T 0 7 + 1)
def aLk (T : Nat → Nat → Nat) (x y z : Nat) : Nat → Nat → Nat := t0 (tA (tA (tA T 16 (3 * T 0 8) x) 16 (3 * T 0 8 + 1) y) 16 (3 * T 0 8 + 2) z) 8 (T 0 8 + 1)
def aKn (T : Nat → Nat → Nat) (kd x : Nat) : Nat → Nat → Nat := t0 (tA (tA T 17 (T 0 9) kd) 18 (T 0 9) x) 9 (T 0 9 + 1)
/-- a strip's fields -/
def aSt (T : Nat → Nat → Nat) (o x y x2 y2 : Nat) : Nat → Nat → Nat := t0 (fun a f => if a = 4 then (if (x ≤ f % T 0 0 ∧ f % T 0 0 ≤ x2) ∧ (y ≤ f / T 0 0 ∧ f / T 0 0 ≤ y2) then o + 1 else T 4 f) else T a f) 13 (T 0 13 + 1)
def pOwner (k v p : Nat → Nat) (T : Nat → Nat → Nat) (j : Nat) : Except (Nat × Nat) ((Nat → Nat → Nat) × Nat) := match pNew k v p (T 1) (T 0 2) j with
  | .error e => .error e
  | .ok nm => match pNum k v p (j + 1) 0 99 with
    | .error e => .error e
    | .ok pr => match pNum k v p (j + 2) 1 99 with
      | .error e => .error e
      | .ok ct => .ok (aOw T nm pr ct, j + 3)
def pStrip (k v p : Nat → Nat) (T : Nat → Nat → Nat) (j : Nat) : Except (Nat × Nat) ((Nat → Nat → Nat) × Nat) := match pOld k v p (T 1) (T 0 2) j with
  | .error e => .error e
  | .ok o => match pNum k v p (j + 1) 0 (T 0 0 - 1) with
    | .error e => .error e
    | .ok x => match pNum k v p (j + 2) 0 (T 0 1 - 1) with
      | .error e => .error e
      | .ok y => match pNum k v p (j + 3) x (T 0 0 - 1) with
        | .error e => .error e
        | .ok x2 => match pNum k v p (j + 4) y (T 0 1 - 1) with
          | .error e => .error e
          | .ok y2 => .ok (aSt T o x y x2 y2, j + 5)
def pGlyph (k v p : Nat → Nat) (T : Nat → Nat → Nat) (j : Nat) : Except (Nat × Nat) ((Nat → Nat → Nat) × Nat) :=
  if k j = 2 then (if letN (v j) 1 = 0 then (if nmF (T 5) (T 0 3) (letN (v j) 0) < T 0 3 then .error (3, p j) else if k (j + 1) = 1 ∧ nmF (T 6) (T 0 3) (v (j + 1)) < T 0 3 then .error (3, p (j + 1)) else match pNum k v p (j + 1) 1 511 with
    | .error e => .error e
    | .ok s => .ok (aGl T (letN (v j) 0) s, j + 2)) else .error (2, p j)) else .error (1, p j)
def pWord (k v p : Nat → Nat) (T : Nat → Nat → Nat) (j : Nat) : Except (Nat × Nat) ((Nat → Nat → Nat) × Nat) := match pNew k v p (T 7) (T 0 4) j with
  | .error e => .error e
  | .ok nm => match pNum k v p (j + 1) 0 99 with
    | .error e => .error e
    | .ok w => .ok (aWd T nm w, j + 2)
def pHill (k v p : Nat → Nat) (T : Nat → Nat → Nat) (j : Nat) : Except (Nat × Nat) ((Nat → Nat → Nat) × Nat) := match pNew k v p (T 9) (T 0 5) j with
  | .error e => .error e
  | .ok nm => if 34 ≤ k (j + 1) ∧ k (j + 1) ≤ 36 then .ok (aHl T nm (k (j + 1) - 34), j + 2) else .error (1, p (j + 1))
def pWash (k v p : Nat → Nat) (T : Nat → Nat → Nat) (j : Nat) : Except (Nat × Nat) ((Nat → Nat → Nat) × Nat) := match pNew k v p (T 11) (T 0 6) j with
  | .error e => .error e
  | .ok nm => match pNum k v p (j + 1) 0 9 with
    | .error e => .error e
    | .ok m => .ok (aCo T nm m, j + 2)
/-- the colours of a sign, from the l-th on: at most r more -/
def pCol (k v p : Nat → Nat) (T : Nat → Nat → Nat) : Nat → Nat → Nat → (Nat → Nat) → Except (Nat × Nat) (Nat × Nat × (Nat → Nat))
  | 0, j, l, cs => if k j = 2 then .error (2, p j) else .ok (j, l, cs)
  | r + 1, j, l, cs => if l = 0 ∨ k j = 2 then (match pOld k v p (T 11) (T 0 6) j with
    | .error e => .error e
    | .ok c => pCol k v p T r (j + 1) (l + 1) (fun i => if i = l then c else cs i)) else .ok (j, l, cs)
def pSign (k v p : Nat → Nat) (T : Nat → Nat → Nat) (j : Nat) : Except (Nat × Nat) ((Nat → Nat → Nat) × Nat) := match pNew k v p (T 13) (T 0 7) j with
  | .error e => .error e
  | .ok nm => match pCol k v p T 4 (j + 1) 0 (fun _ => 0) with
    | .error e => .error e
    | .ok (j', l, cs) => .ok (aSg T nm l cs, j')
/-- two hills are linked -/
def lkN (T : Nat → Nat → Nat) (x y : Nat) : Bool := !allN (fun l => !((T 16 (3 * l) == x && T 16 (3 * l + 1) == y) || (T 16 (3 * l) == y && T 16 (3 * l + 1) == x))) (T 0 8)
def pLink (k v p : Nat → Nat) (T : Nat → Nat → Nat) (j : Nat) : Except (Nat × Nat) ((Nat → Nat → Nat) × Nat) := match pOld k v p (T 9) (T 0 5) j with
  | .error e => .error e
  | .ok x => match pOld k v p (T 9) (T 0 5) (j + 1) with
    | .error e => .error e
    | .ok y => if y = x then .error (5, p (j + 1)) else if lkN T x y then .error (3, p (j + 1)) else match pNum k v p (j + 2) 1 20 with
      | .error e => .error e
      | .ok z => .ok (aLk T x y z, j + 3)
def pPlain (k v p : Nat → Nat) (T : Nat → Nat → Nat) (j : Nat) : Except (Nat × Nat) ((Nat → Nat → Nat) × Nat) := match pNum k v p j 1 8 with
  | .error e => .error e
  | .ok w => match pNum k v p (j + 1) 1 6 with
    | .error e => .error e
    | .ok h => .ok (t0 (t0 T 0 w) 1 h, j + 2)
def pOnce (k v p : Nat → Nat) (T : Nat → Nat → Nat) (c hi j : Nat) : Except (Nat × Nat) ((Nat → Nat → Nat) × Nat) := match pNum k v p j 0 hi with
  | .error e => .error e
  | .ok x => .ok (t0 T c x, j + 1)
/-- how much a sign of the law binds -/
def rkN (k : Nat) : Nat := if k = 37 then 1 else if k = 38 then 2 else if k = 39 then 3 else if k = 7 ∨ k = 8 then 5 else if k = 9 ∨ k = 10 then 6 else if 11 ≤ k ∧ k ≤ 16 then 4 else 0
/-- a token's kind as a knot's -/
def kpN (k : Nat) : Nat := if k = 39 then 2 else if k = 38 then 3 else if k = 37 then 4 else if 11 ≤ k ∧ k ≤ 16 then k - 6 else k + 4
/-- signs that bind at least r have what is to their right -/
def stlN (r : Nat) : List Nat → (Nat → Nat → Nat) → List Nat × (Nat → Nat → Nat)
  | [], T => ([], T)
  | a :: W, T => if r ≤ rkN a then stlN r W (aKn T (kpN a) 0) else (a :: W, T)
/-- the law from token j on: counted c, open o, a value is wanted q, waiting W -/
def pLaw (k v p : Nat → Nat) : Nat → (Nat → Nat → Nat) → Nat → Nat → Bool → List Nat → Nat → Except (Nat × Nat) ((Nat → Nat → Nat) × Nat)
  | 0, _, _, _, _, _, _ => .error (0, 0)
  | f + 1, T, c, o, true, W, j =>
    if k j = 5 then (if 8 ≤ o then .error (2, p j) else pLaw k v p f T c (o + 1) true (5 :: W) (j + 1))
    else if k j = 39 then (if 3 < rkN (W.headD 0) then .error (1, p j) else if 64 ≤ c then .error (2, p j) else pLaw k v p f T (c + 1) o true (39 :: W) (j + 1))
    else if k j ≠ 1 ∧ (k j < 40 ∨ 45 < k j) then .error (1, p j)
    else if k j = 1 ∧ 9999 < v j then .error (2, p j)
    else if 64 ≤ c then .error (2, p j)
    else pLaw k v p f (if k j = 1 then aKn T 0 (v j) else aKn T 1 (k j - 40)) (c + 1) o false W (j + 1)
  | f + 1, T, c, o, false, W, j =>
    if o = 0 ∧ k j = 4 then .ok ((stlN 1 W T).2, j)
    else if k j = 6 ∧ o ≠ 0 then pLaw k v p f (stlN 1 W T).2 c (o - 1) false ((stlN 1 W T).1.tail) (j + 1)
    else if rkN (k j) = 0 ∨ rkN (k j) = 3 then .error (1, p j)
    else if rkN (k j) = 4 ∧ rkN ((stlN 5 W T).1.headD 0) = 4 then .error (1, p j)
    else if 64 ≤ c then .error (2, p j)
    else pLaw k v p f (stlN (if rkN (k j) = 4 then 5 else rkN (k j)) W T).2 (c + 1) o true (k j :: (stlN (if rkN (k j) = 4 then 5 else rkN (k j)) W T).1) (j + 1)
def pLawL (k v p : Nat → Nat) (T : Nat → Nat → Nat) (j : Nat) : Except (Nat × Nat) ((Nat → Nat → Nat) × Nat) := if k j = 33 then pLaw k v p 701 T 0 0 true [] (j + 1) else .error (1, p j)
/-- is there no room for one more of a listed kind -/
def fulN (T : Nat → Nat → Nat) (kd : Nat) : Bool := if kd = 21 then T 0 2 == 5 else if kd = 22 then T 0 13 == 9 else if kd = 23 then T 0 3 == 9 else if kd = 24 then T 0 4 == 6 else if kd = 25 then T 0 5 == 3 else if kd = 26 then T 0 6 == 4 else if kd = 27 then T 0 7 == 5 else T 0 8 == 3
def pList (k v p : Nat → Nat) (T : Nat → Nat → Nat) (kd j : Nat) : Except (Nat × Nat) ((Nat → Nat → Nat) × Nat) := if kd = 21 then pOwner k v p T j else if kd = 22 then pStrip k v p T j else if kd = 23 then pGlyph k v p T j else if kd = 24 then pWord k v p T j else if kd = 25 then pHill k v p T j else if kd = 26 then pWash k v p T j else if kd = 27 then pSign k v p T j else pLink k v p T j
/-- where row 0 tells that a line is told -/
def onC (kd : Nat) : Nat := if kd = 20 then 14 else kd - 14
def pOncs (k v p : Nat → Nat) (T : Nat → Nat → Nat) (kd j : Nat) : Except (Nat × Nat) ((Nat → Nat → Nat) × Nat) := if kd = 20 then pPlain k v p T j else if kd = 29 then pOnce k v p T 10 9999 j else if kd = 30 then pOnce k v p T 11 99999 j else if kd = 31 then pOnce k v p T 12 99 j else pLawL k v p T j
def pBody (k v p : Nat → Nat) (T : Nat → Nat → Nat) (j : Nat) : Except (Nat × Nat) ((Nat → Nat → Nat) × Nat) :=
  if 21 ≤ k j ∧ k j ≤ 28 then (if fulN T (k j) then .error (2, p j) else pList k v p T (k j) (j + 1))
  else if k j = 20 ∨ (29 ≤ k j ∧ k j ≤ 32) then (if T 0 (onC (k j)) ≠ 0 then .error (3, p j) else if k j = 20 ∧ T 0 13 ≠ 0 then .error (4, p j) else pOncs k v p (t0 T (onC (k j)) 1) (k j) (j + 1))
  else .error (1, p j)
def pLine (k v p : Nat → Nat) (T : Nat → Nat → Nat) (j : Nat) : Except (Nat × Nat) ((Nat → Nat → Nat) × Nat) := match pBody k v p T j with
  | .error e => .error e
  | .ok (T', j') => if k j' = 4 then .ok (T', j' + 1) else .error (1, p j')
/-- all lines: the text and how many -/
def pAll (k v p : Nat → Nat) : Nat → (Nat → Nat → Nat) → Nat → Nat → Except (Nat × Nat) ((Nat → Nat → Nat) × Nat)
  | 0, _, _, _ => .error (0, 0)
  | f + 1, T, j, l => if k j = 0 then .ok (T, l) else match pLine k v p T j with
    | .error e => .error e
    | .ok (T', j') => pAll k v p f T' j' (l + 1)
/-- what is told before any line -/
def tI : Nat → Nat → Nat := fun a i => if a = 0 then (if i = 0 then 4 else if i = 1 then 3 else if i = 10 then 100 else 0) else 0
/-- the text of the first n bytes -/
def pText (b : Nat → Nat) (n : Nat) : Except (Nat × Nat) ((Nat → Nat → Nat) × Nat) := pAll (tK b n) (tV b n) (psN b n) 701 tI 0 0
/-- what is told only once, as the class keeps it -/
def onN (T : Nat → Nat → Nat) : Nat := T 0 14 * 2 ^ 20 + T 0 15 * 2 ^ 29 + T 0 16 * 2 ^ 30 + T 0 17 * 2 ^ 31 + T 0 18 * 2 ^ 32
def CX (o : Nat) (T : Nat → Nat → Nat) (l : Nat) (mi : Nat → Nat → Int32) (ml : Nat → Nat → Int64) : Prop := CT o T mi ∧ mi (6 + o) 3 = nI (T 0 13) ∧ mi (6 + o) 4 = nI l ∧ ml (6 + o) 8 = lN (onN T)
/-- only a Told's cells have changed, and the reader's -/
def RF {α : Type} (o : Nat) (m m' : Nat → α) : Prop := ∀ c, (c < 6 + o ∨ 34 + o < c) → c ≠ 68 → c ≠ 69 → m' c = m c
theorem RF.none {α : Type} {o : Nat} {m : Nat → α} : RF o m m := fun _ _ _ _ => rfl
theorem RF.trans {α : Type} {o : Nat} {m m' m'' : Nat → α} (h : RF o m m') (h' : RF o m' m'') : RF o m m'' := fun c a b d => (h' c a b d).trans (h c a b d)
theorem RF.cu {α : Type} {o : Nat} {m m' : Nat → α} {c : Nat} {g : α} (h : RF o m m') (hc : (6 + o ≤ c ∧ c ≤ 34 + o) ∨ c = 68 ∨ c = 69) : RF o m (cu m' c g) := fun a h1 h2 h3 => by
  rw [cu_ne (by omega)]
  exact h a h1 h2 h3
