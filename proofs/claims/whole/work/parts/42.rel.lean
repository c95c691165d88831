/-! WHAT A TEXT SAYS, T: numbers T f i.  0: wide, high, owners, glyphs, words, hills, colours, signs, links, knots, purse, seed, rain (0 .. 12).
1 an owner's name, 2 price, 3 cut; 4 a field's owner and 1 (0 none); 5 a glyph's letter, 6 shape; 7 a word's name, 8 worth; 9 a hill's name, 10 sight (0 all, 1 low, 2 high); 11 a colour's name, 12 pieces; 13 a sign's name, 14 length, 15 its colours (4 s + k); 16 a link (3 l: one, other, days); 17 a knot's kind, 18 its number or name.
A SCENE, S: 0: day, purse, last number, hung; 1 a field's shape; 2 the day and 1 on which hill h has read word w (6 h + w; 0 none) -/
/-- the shape of a letter -/
def shpN (T : Nat → Nat → Nat) (c : Nat) : Nat := if fnd (fun g => T 5 g == c) (T 0 3) < T 0 3 then T 6 (fnd (fun g => T 5 g == c) (T 0 3)) else 0
def feeN (T : Nat → Nat → Nat) (f : Nat) : Nat := if T 4 f = 0 then 1 else T 2 (T 4 f - 1)
/-- the colours of a sign, two bits each -/
def rowN (T : Nat → Nat → Nat) (s : Nat) : Nat := sumN (fun k => T 15 (4 * s + k) * 4 ^ k) (T 14 s)
/-- the class's number for a knot -/
def kcN (k x : Nat) : Nat := if k = 1 then 40 + x else nth 0 [1, 0, 39, 38, 37, 11, 12, 13, 14, 15, 16, 7, 8, 9, 10] k
/-- the class's Told at cell 6 + o holds T -/
def CT (o : Nat) (T : Nat → Nat → Nat) (mi : Nat → Nat → Int32) : Prop :=
  (mi (6 + o) 0 = nI (T 0 0)) ∧
  (mi (6 + o) 1 = nI (T 0 1)) ∧
  (mi (6 + o) 2 = nI (T 0 2)) ∧
  (mi (6 + o) 5 = nI (T 0 10)) ∧
  (mi (6 + o) 6 = nI (T 0 11)) ∧
  (mi (6 + o) 7 = nI (T 0 12)) ∧
  (∀ i, i < T 0 2 → mi (7 + o) i = nI (T 1 i)) ∧
  (∀ i, i < T 0 2 → mi (8 + o) i = nI (T 2 i)) ∧
  (∀ i, i < T 0 2 → mi (9 + o) i = nI (T 3 i)) ∧
  (∀ f, f < 48 → mi (10 + o) f = nI (T 4 f) - 1) ∧
  (∀ f, f < 48 → mi (11 + o) f = if T 4 f = 0 then -1 else nI (T 3 (T 4 f - 1))) ∧
  (∀ f, f < 48 → mi (12 + o) f = nI (feeN T f)) ∧
  (mi (13 + o) 0 = nI (T 0 3)) ∧
  (mi (13 + o) 1 = nI (T 0 4)) ∧
  (∀ i, i < T 0 3 → mi (14 + o) i = nI (T 5 i)) ∧
  (∀ i, i < T 0 3 → mi (15 + o) i = nI (T 6 i)) ∧
  (∀ c, c < 32 → mi (16 + o) c = nI (shpN T c)) ∧
  (∀ i, i < T 0 4 → mi (17 + o) i = nI (T 7 i)) ∧
  (∀ i, i < T 0 4 → mi (18 + o) i = nI (lenN (T 7 i))) ∧
  (∀ i, i < T 0 4 → mi (19 + o) i = nI (T 8 i)) ∧
  (mi (20 + o) 0 = nI (T 0 5)) ∧
  (mi (20 + o) 1 = nI (T 0 8)) ∧
  (∀ i, i < T 0 5 → mi (21 + o) i = nI (T 9 i)) ∧
  (∀ i, i < T 0 5 → mi (22 + o) i = nI (34 + T 10 i)) ∧
  (∀ i, i < T 0 8 → mi (23 + o) i = nI (T 16 (3 * i))) ∧
  (∀ i, i < T 0 8 → mi (24 + o) i = nI (T 16 (3 * i + 1))) ∧
  (∀ i, i < T 0 8 → mi (25 + o) i = nI (T 16 (3 * i + 2))) ∧
  (mi (26 + o) 0 = nI (T 0 6)) ∧
  (mi (26 + o) 1 = nI (T 0 7)) ∧
  (∀ i, i < T 0 6 → mi (27 + o) i = nI (T 11 i)) ∧
  (∀ i, i < T 0 6 → mi (28 + o) i = nI (T 12 i)) ∧
  (∀ i, i < T 0 7 → mi (29 + o) i = nI (T 13 i)) ∧
  (∀ i, i < T 0 7 → mi (30 + o) i = nI (T 14 i)) ∧
  (∀ i, i < T 0 7 → mi (31 + o) i = nI (rowN T i)) ∧
  (mi (32 + o) 0 = nI (T 0 9)) ∧
  (∀ i, i < T 0 9 → mi (33 + o) i = nI (kcN (T 17 i) (T 18 i))) ∧
  (∀ i, i < T 0 9 → T 17 i = 0 → mi (34 + o) i = nI (T 18 i))
theorem CT.wide {o : Nat} {T : Nat → Nat → Nat} {mi : Nat → Nat → Int32} (h : CT o T mi) : mi (6 + o) 0 = nI (T 0 0) := h.1
theorem CT.high {o : Nat} {T : Nat → Nat → Nat} {mi : Nat → Nat → Int32} (h : CT o T mi) : mi (6 + o) 1 = nI (T 0 1) := h.2.1
theorem CT.owners {o : Nat} {T : Nat → Nat → Nat} {mi : Nat → Nat → Int32} (h : CT o T mi) : mi (6 + o) 2 = nI (T 0 2) := h.2.2.1
theorem CT.purse {o : Nat} {T : Nat → Nat → Nat} {mi : Nat → Nat → Int32} (h : CT o T mi) : mi (6 + o) 5 = nI (T 0 10) := h.2.2.2.1
theorem CT.seed {o : Nat} {T : Nat → Nat → Nat} {mi : Nat → Nat → Int32} (h : CT o T mi) : mi (6 + o) 6 = nI (T 0 11) := h.2.2.2.2.1
theorem CT.rain {o : Nat} {T : Nat → Nat → Nat} {mi : Nat → Nat → Int32} (h : CT o T mi) : mi (6 + o) 7 = nI (T 0 12) := h.2.2.2.2.2.1
theorem CT.oname {o : Nat} {T : Nat → Nat → Nat} {mi : Nat → Nat → Int32} (h : CT o T mi) : ∀ i, i < T 0 2 → mi (7 + o) i = nI (T 1 i) := h.2.2.2.2.2.2.1
theorem CT.price {o : Nat} {T : Nat → Nat → Nat} {mi : Nat → Nat → Int32} (h : CT o T mi) : ∀ i, i < T 0 2 → mi (8 + o) i = nI (T 2 i) := h.2.2.2.2.2.2.2.1
theorem CT.cut {o : Nat} {T : Nat → Nat → Nat} {mi : Nat → Nat → Int32} (h : CT o T mi) : ∀ i, i < T 0 2 → mi (9 + o) i = nI (T 3 i) := h.2.2.2.2.2.2.2.2.1
theorem CT.own {o : Nat} {T : Nat → Nat → Nat} {mi : Nat → Nat → Int32} (h : CT o T mi) : ∀ f, f < 48 → mi (10 + o) f = nI (T 4 f) - 1 := h.2.2.2.2.2.2.2.2.2.1
theorem CT.cutOn {o : Nat} {T : Nat → Nat → Nat} {mi : Nat → Nat → Int32} (h : CT o T mi) : ∀ f, f < 48 → mi (11 + o) f = if T 4 f = 0 then -1 else nI (T 3 (T 4 f - 1)) := h.2.2.2.2.2.2.2.2.2.2.1
theorem CT.fee {o : Nat} {T : Nat → Nat → Nat} {mi : Nat → Nat → Int32} (h : CT o T mi) : ∀ f, f < 48 → mi (12 + o) f = nI (feeN T f) := h.2.2.2.2.2.2.2.2.2.2.2.1
theorem CT.glyphs {o : Nat} {T : Nat → Nat → Nat} {mi : Nat → Nat → Int32} (h : CT o T mi) : mi (13 + o) 0 = nI (T 0 3) := h.2.2.2.2.2.2.2.2.2.2.2.2.1
theorem CT.words {o : Nat} {T : Nat → Nat → Nat} {mi : Nat → Nat → Int32} (h : CT o T mi) : mi (13 + o) 1 = nI (T 0 4) := h.2.2.2.2.2.2.2.2.2.2.2.2.2.1
theorem CT.gl {o : Nat} {T : Nat → Nat → Nat} {mi : Nat → Nat → Int32} (h : CT o T mi) : ∀ i, i < T 0 3 → mi (14 + o) i = nI (T 5 i) := h.2.2.2.2.2.2.2.2.2.2.2.2.2.2.1
theorem CT.gs {o : Nat} {T : Nat → Nat → Nat} {mi : Nat → Nat → Int32} (h : CT o T mi) : ∀ i, i < T 0 3 → mi (15 + o) i = nI (T 6 i) := h.2.2.2.2.2.2.2.2.2.2.2.2.2.2.2.1
theorem CT.so {o : Nat} {T : Nat → Nat → Nat} {mi : Nat → Nat → Int32} (h : CT o T mi) : ∀ c, c < 32 → mi (16 + o) c = nI (shpN T c) := h.2.2.2.2.2.2.2.2.2.2.2.2.2.2.2.2.1
theorem CT.wn {o : Nat} {T : Nat → Nat → Nat} {mi : Nat → Nat → Int32} (h : CT o T mi) : ∀ i, i < T 0 4 → mi (17 + o) i = nI (T 7 i) := h.2.2.2.2.2.2.2.2.2.2.2.2.2.2.2.2.2.1
theorem CT.wlen {o : Nat} {T : Nat → Nat → Nat} {mi : Nat → Nat → Int32} (h : CT o T mi) : ∀ i, i < T 0 4 → mi (18 + o) i = nI (lenN (T 7 i)) := h.2.2.2.2.2.2.2.2.2.2.2.2.2.2.2.2.2.2.1
theorem CT.ww {o : Nat} {T : Nat → Nat → Nat} {mi : Nat → Nat → Int32} (h : CT o T mi) : ∀ i, i < T 0 4 → mi (19 + o) i = nI (T 8 i) := h.2.2.2.2.2.2.2.2.2.2.2.2.2.2.2.2.2.2.2.1
theorem CT.hills {o : Nat} {T : Nat → Nat → Nat} {mi : Nat → Nat → Int32} (h : CT o T mi) : mi (20 + o) 0 = nI (T 0 5) := h.2.2.2.2.2.2.2.2.2.2.2.2.2.2.2.2.2.2.2.2.1
theorem CT.links {o : Nat} {T : Nat → Nat → Nat} {mi : Nat → Nat → Int32} (h : CT o T mi) : mi (20 + o) 1 = nI (T 0 8) := h.2.2.2.2.2.2.2.2.2.2.2.2.2.2.2.2.2.2.2.2.2.1
theorem CT.hn {o : Nat} {T : Nat → Nat → Nat} {mi : Nat → Nat → Int32} (h : CT o T mi) : ∀ i, i < T 0 5 → mi (21 + o) i = nI (T 9 i) := h.2.2.2.2.2.2.2.2.2.2.2.2.2.2.2.2.2.2.2.2.2.2.1
theorem CT.sg {o : Nat} {T : Nat → Nat → Nat} {mi : Nat → Nat → Int32} (h : CT o T mi) : ∀ i, i < T 0 5 → mi (22 + o) i = nI (34 + T 10 i) := h.2.2.2.2.2.2.2.2.2.2.2.2.2.2.2.2.2.2.2.2.2.2.2.1
theorem CT.l1 {o : Nat} {T : Nat → Nat → Nat} {mi : Nat → Nat → Int32} (h : CT o T mi) : ∀ i, i < T 0 8 → mi (23 + o) i = nI (T 16 (3 * i)) := h.2.2.2.2.2.2.2.2.2.2.2.2.2.2.2.2.2.2.2.2.2.2.2.2.1
theorem CT.l2 {o : Nat} {T : Nat → Nat → Nat} {mi : Nat → Nat → Int32} (h : CT o T mi) : ∀ i, i < T 0 8 → mi (24 + o) i = nI (T 16 (3 * i + 1)) := h.2.2.2.2.2.2.2.2.2.2.2.2.2.2.2.2.2.2.2.2.2.2.2.2.2.1
theorem CT.l3 {o : Nat} {T : Nat → Nat → Nat} {mi : Nat → Nat → Int32} (h : CT o T mi) : ∀ i, i < T 0 8 → mi (25 + o) i = nI (T 16 (3 * i + 2)) := h.2.2.2.2.2.2.2.2.2.2.2.2.2.2.2.2.2.2.2.2.2.2.2.2.2.2.1
theorem CT.colours {o : Nat} {T : Nat → Nat → Nat} {mi : Nat → Nat → Int32} (h : CT o T mi) : mi (26 + o) 0 = nI (T 0 6) := h.2.2.2.2.2.2.2.2.2.2.2.2.2.2.2.2.2.2.2.2.2.2.2.2.2.2.2.1
theorem CT.signs {o : Nat} {T : Nat → Nat → Nat} {mi : Nat → Nat → Int32} (h : CT o T mi) : mi (26 + o) 1 = nI (T 0 7) := h.2.2.2.2.2.2.2.2.2.2.2.2.2.2.2.2.2.2.2.2.2.2.2.2.2.2.2.2.1
theorem CT.cname {o : Nat} {T : Nat → Nat → Nat} {mi : Nat → Nat → Int32} (h : CT o T mi) : ∀ i, i < T 0 6 → mi (27 + o) i = nI (T 11 i) := h.2.2.2.2.2.2.2.2.2.2.2.2.2.2.2.2.2.2.2.2.2.2.2.2.2.2.2.2.2.1
theorem CT.cm {o : Nat} {T : Nat → Nat → Nat} {mi : Nat → Nat → Int32} (h : CT o T mi) : ∀ i, i < T 0 6 → mi (28 + o) i = nI (T 12 i) := h.2.2.2.2.2.2.2.2.2.2.2.2.2.2.2.2.2.2.2.2.2.2.2.2.2.2.2.2.2.2.1
theorem CT.sname {o : Nat} {T : Nat → Nat → Nat} {mi : Nat → Nat → Int32} (h : CT o T mi) : ∀ i, i < T 0 7 → mi (29 + o) i = nI (T 13 i) := h.2.2.2.2.2.2.2.2.2.2.2.2.2.2.2.2.2.2.2.2.2.2.2.2.2.2.2.2.2.2.2.1
theorem CT.sl {o : Nat} {T : Nat → Nat → Nat} {mi : Nat → Nat → Int32} (h : CT o T mi) : ∀ i, i < T 0 7 → mi (30 + o) i = nI (T 14 i) := h.2.2.2.2.2.2.2.2.2.2.2.2.2.2.2.2.2.2.2.2.2.2.2.2.2.2.2.2.2.2.2.2.1
theorem CT.sr {o : Nat} {T : Nat → Nat → Nat} {mi : Nat → Nat → Int32} (h : CT o T mi) : ∀ i, i < T 0 7 → mi (31 + o) i = nI (rowN T i) := h.2.2.2.2.2.2.2.2.2.2.2.2.2.2.2.2.2.2.2.2.2.2.2.2.2.2.2.2.2.2.2.2.2.1
theorem CT.knots {o : Nat} {T : Nat → Nat → Nat} {mi : Nat → Nat → Int32} (h : CT o T mi) : mi (32 + o) 0 = nI (T 0 9) := h.2.2.2.2.2.2.2.2.2.2.2.2.2.2.2.2.2.2.2.2.2.2.2.2.2.2.2.2.2.2.2.2.2.2.1
theorem CT.kk {o : Nat} {T : Nat → Nat → Nat} {mi : Nat → Nat → Int32} (h : CT o T mi) : ∀ i, i < T 0 9 → mi (33 + o) i = nI (kcN (T 17 i) (T 18 i)) := h.2.2.2.2.2.2.2.2.2.2.2.2.2.2.2.2.2.2.2.2.2.2.2.2.2.2.2.2.2.2.2.2.2.2.2.1
theorem CT.kn {o : Nat} {T : Nat → Nat → Nat} {mi : Nat → Nat → Int32} (h : CT o T mi) : ∀ i, i < T 0 9 → T 17 i = 0 → mi (34 + o) i = nI (T 18 i) := h.2.2.2.2.2.2.2.2.2.2.2.2.2.2.2.2.2.2.2.2.2.2.2.2.2.2.2.2.2.2.2.2.2.2.2.2
theorem CT.keep {o : Nat} {T : Nat → Nat → Nat} {mi mi2 : Nat → Nat → Int32} (h : CT o T mi) (hk : ∀ c, 6 + o ≤ c → c ≤ 34 + o → mi2 c = mi c) : CT o T mi2 := by
  unfold CT at h ⊢
  simp only [hk (6 + o) (by omega) (by omega), hk (7 + o) (by omega) (by omega), hk (8 + o) (by omega) (by omega), hk (9 + o) (by omega) (by omega), hk (10 + o) (by omega) (by omega), hk (11 + o) (by omega) (by omega), hk (12 + o) (by omega) (by omega), hk (13 + o) (by omega) (by omega), hk (14 + o) (by omega) (by omega), hk (15 + o) (by omega) (by omega), hk (16 + o) (by omega) (by omega), hk (17 + o) (by omega) (by omega), hk (18 + o) (by omega) (by omega), hk (19 + o) (by omega) (by omega), hk (20 + o) (by omega) (by omega), hk (21 + o) (by omega) (by omega), hk (22 + o) (by omega) (by omega), hk (23 + o) (by omega) (by omega), hk (24 + o) (by omega) (by omega), hk (25 + o) (by omega) (by omega), hk (26 + o) (by omega) (by omega), hk (27 + o) (by omega) (by omega), hk (28 + o) (by omega) (by omega), hk (29 + o) (by omega) (by omega), hk (30 + o) (by omega) (by omega), hk (31 + o) (by omega) (by omega), hk (32 + o) (by omega) (by omega), hk (33 + o) (by omega) (by omega), hk (34 + o) (by omega) (by omega)]
  exact h
/-- the reference holds T (where a knot's parts are: apart) -/
def MT (T : Nat → Nat → Nat) (mi : Nat → Nat → Int32) : Prop :=
  (mi 95 12 = nI (T 0 0)) ∧
  (mi 95 13 = nI (T 0 1)) ∧
  (mi 95 14 = nI (T 0 2)) ∧
  (mi 95 15 = nI (T 0 3)) ∧
  (mi 95 16 = nI (T 0 4)) ∧
  (mi 95 17 = nI (T 0 5)) ∧
  (mi 95 18 = nI (T 0 6)) ∧
  (mi 95 19 = nI (T 0 7)) ∧
  (mi 95 20 = nI (T 0 8)) ∧
  (mi 95 21 = nI (T 0 9)) ∧
  (mi 95 22 = if T 0 9 = 0 then 0 else 1) ∧
  (mi 98 0 = nI (T 0 10)) ∧
  (mi 98 1 = nI (T 0 11)) ∧
  (mi 98 2 = nI (T 0 12)) ∧
  (∀ i, i < T 0 2 → mi 100 i = nI (T 1 i)) ∧
  (∀ i, i < T 0 2 → mi 101 i = nI (T 2 i)) ∧
  (∀ i, i < T 0 2 → mi 102 i = nI (T 3 i)) ∧
  (∀ f, f < 48 → mi 103 f = nI (T 4 f) - 1) ∧
  (∀ i, i < T 0 3 → mi 104 i = nI (T 5 i)) ∧
  (∀ i, i < T 0 3 → mi 105 i = nI (T 6 i)) ∧
  (∀ i, i < T 0 4 → mi 106 i = nI (T 7 i)) ∧
  (∀ i, i < T 0 4 → mi 107 i = nI (T 8 i)) ∧
  (∀ i, i < T 0 5 → mi 108 i = nI (T 9 i)) ∧
  (∀ i, i < T 0 5 → mi 109 i = nI (T 10 i)) ∧
  (∀ i, i < T 0 6 → mi 110 i = nI (T 11 i)) ∧
  (∀ i, i < T 0 6 → mi 111 i = nI (T 12 i)) ∧
  (∀ i, i < T 0 7 → mi 112 i = nI (T 13 i)) ∧
  (∀ i, i < T 0 7 → mi 113 i = nI (T 14 i)) ∧
  (∀ i, i < T 0 7 → ∀ k, k < T 14 i → mi 114 (4 * i + k) = nI (T 15 (4 * i + k))) ∧
  (∀ i, i < 3 * T 0 8 → mi 115 i = nI (T 16 i)) ∧
  (∀ i, i < T 0 9 → mi 116 i = nI (T 17 i)) ∧
  (∀ i, i < T 0 9 → T 17 i ≤ 1 → mi 117 i = nI (T 18 i))
theorem MT.wide {T : Nat → Nat → Nat} {mi : Nat → Nat → Int32} (h : MT T mi) : mi 95 12 = nI (T 0 0) := h.1
theorem MT.high {T : Nat → Nat → Nat} {mi : Nat → Nat → Int32} (h : MT T mi) : mi 95 13 = nI (T 0 1) := h.2.1
theorem MT.owners {T : Nat → Nat → Nat} {mi : Nat → Nat → Int32} (h : MT T mi) : mi 95 14 = nI (T 0 2) := h.2.2.1
theorem MT.glyphs {T : Nat → Nat → Nat} {mi : Nat → Nat → Int32} (h : MT T mi) : mi 95 15 = nI (T 0 3) := h.2.2.2.1
theorem MT.words {T : Nat → Nat → Nat} {mi : Nat → Nat → Int32} (h : MT T mi) : mi 95 16 = nI (T 0 4) := h.2.2.2.2.1
theorem MT.hills {T : Nat → Nat → Nat} {mi : Nat → Nat → Int32} (h : MT T mi) : mi 95 17 = nI (T 0 5) := h.2.2.2.2.2.1
theorem MT.colours {T : Nat → Nat → Nat} {mi : Nat → Nat → Int32} (h : MT T mi) : mi 95 18 = nI (T 0 6) := h.2.2.2.2.2.2.1
theorem MT.signs {T : Nat → Nat → Nat} {mi : Nat → Nat → Int32} (h : MT T mi) : mi 95 19 = nI (T 0 7) := h.2.2.2.2.2.2.2.1
theorem MT.links {T : Nat → Nat → Nat} {mi : Nat → Nat → Int32} (h : MT T mi) : mi 95 20 = nI (T 0 8) := h.2.2.2.2.2.2.2.2.1
theorem MT.knots {T : Nat → Nat → Nat} {mi : Nat → Nat → Int32} (h : MT T mi) : mi 95 21 = nI (T 0 9) := h.2.2.2.2.2.2.2.2.2.1
theorem MT.lawTold {T : Nat → Nat → Nat} {mi : Nat → Nat → Int32} (h : MT T mi) : mi 95 22 = if T 0 9 = 0 then 0 else 1 := h.2.2.2.2.2.2.2.2.2.2.1
theorem MT.purse {T : Nat → Nat → Nat} {mi : Nat → Nat → Int32} (h : MT T mi) : mi 98 0 = nI (T 0 10) := h.2.2.2.2.2.2.2.2.2.2.2.1
theorem MT.seed {T : Nat → Nat → Nat} {mi : Nat → Nat → Int32} (h : MT T mi) : mi 98 1 = nI (T 0 11) := h.2.2.2.2.2.2.2.2.2.2.2.2.1
theorem MT.rain {T : Nat → Nat → Nat} {mi : Nat → Nat → Int32} (h : MT T mi) : mi 98 2 = nI (T 0 12) := h.2.2.2.2.2.2.2.2.2.2.2.2.2.1
theorem MT.oname {T : Nat → Nat → Nat} {mi : Nat → Nat → Int32} (h : MT T mi) : ∀ i, i < T 0 2 → mi 100 i = nI (T 1 i) := h.2.2.2.2.2.2.2.2.2.2.2.2.2.2.1
theorem MT.price {T : Nat → Nat → Nat} {mi : Nat → Nat → Int32} (h : MT T mi) : ∀ i, i < T 0 2 → mi 101 i = nI (T 2 i) := h.2.2.2.2.2.2.2.2.2.2.2.2.2.2.2.1
theorem MT.cut {T : Nat → Nat → Nat} {mi : Nat → Nat → Int32} (h : MT T mi) : ∀ i, i < T 0 2 → mi 102 i = nI (T 3 i) := h.2.2.2.2.2.2.2.2.2.2.2.2.2.2.2.2.1
theorem MT.own {T : Nat → Nat → Nat} {mi : Nat → Nat → Int32} (h : MT T mi) : ∀ f, f < 48 → mi 103 f = nI (T 4 f) - 1 := h.2.2.2.2.2.2.2.2.2.2.2.2.2.2.2.2.2.1
theorem MT.gl {T : Nat → Nat → Nat} {mi : Nat → Nat → Int32} (h : MT T mi) : ∀ i, i < T 0 3 → mi 104 i = nI (T 5 i) := h.2.2.2.2.2.2.2.2.2.2.2.2.2.2.2.2.2.2.1
theorem MT.gs {T : Nat → Nat → Nat} {mi : Nat → Nat → Int32} (h : MT T mi) : ∀ i, i < T 0 3 → mi 105 i = nI (T 6 i) := h.2.2.2.2.2.2.2.2.2.2.2.2.2.2.2.2.2.2.2.1
theorem MT.wn {T : Nat → Nat → Nat} {mi : Nat → Nat → Int32} (h : MT T mi) : ∀ i, i < T 0 4 → mi 106 i = nI (T 7 i) := h.2.2.2.2.2.2.2.2.2.2.2.2.2.2.2.2.2.2.2.2.1
theorem MT.ww {T : Nat → Nat → Nat} {mi : Nat → Nat → Int32} (h : MT T mi) : ∀ i, i < T 0 4 → mi 107 i = nI (T 8 i) := h.2.2.2.2.2.2.2.2.2.2.2.2.2.2.2.2.2.2.2.2.2.1
theorem MT.hn {T : Nat → Nat → Nat} {mi : Nat → Nat → Int32} (h : MT T mi) : ∀ i, i < T 0 5 → mi 108 i = nI (T 9 i) := h.2.2.2.2.2.2.2.2.2.2.2.2.2.2.2.2.2.2.2.2.2.2.1
theorem MT.sg {T : Nat → Nat → Nat} {mi : Nat → Nat → Int32} (h : MT T mi) : ∀ i, i < T 0 5 → mi 109 i = nI (T 10 i) := h.2.2.2.2.2.2.2.2.2.2.2.2.2.2.2.2.2.2.2.2.2.2.2.1
theorem MT.cname {T : Nat → Nat → Nat} {mi : Nat → Nat → Int32} (h : MT T mi) : ∀ i, i < T 0 6 → mi 110 i = nI (T 11 i) := h.2.2.2.2.2.2.2.2.2.2.2.2.2.2.2.2.2.2.2.2.2.2.2.2.1
theorem MT.cm {T : Nat → Nat → Nat} {mi : Nat → Nat → Int32} (h : MT T mi) : ∀ i, i < T 0 6 → mi 111 i = nI (T 12 i) := h.2.2.2.2.2.2.2.2.2.2.2.2.2.2.2.2.2.2.2.2.2.2.2.2.2.1
theorem MT.sname {T : Nat → Nat → Nat} {mi : Nat → Nat → Int32} (h : MT T mi) : ∀ i, i < T 0 7 → mi 112 i = nI (T 13 i) := h.2.2.2.2.2.2.2.2.2.2.2.2.2.2.2.2.2.2.2.2.2.2.2.2.2.2.1
theorem MT.sl {T : Nat → Nat → Nat} {mi : Nat → Nat → Int32} (h : MT T mi) : ∀ i, i < T 0 7 → mi 113 i = nI (T 14 i) := h.2.2.2.2.2.2.2.2.2.2.2.2.2.2.2.2.2.2.2.2.2.2.2.2.2.2.2.1
theorem MT.sr {T : Nat → Nat → Nat} {mi : Nat → Nat → Int32} (h : MT T mi) : ∀ i, i < T 0 7 → ∀ k, k < T 14 i → mi 114 (4 * i + k) = nI (T 15 (4 * i + k)) := h.2.2.2.2.2.2.2.2.2.2.2.2.2.2.2.2.2.2.2.2.2.2.2.2.2.2.2.2.1
theorem MT.lk {T : Nat → Nat → Nat} {mi : Nat → Nat → Int32} (h : MT T mi) : ∀ i, i < 3 * T 0 8 → mi 115 i = nI (T 16 i) := h.2.2.2.2.2.2.2.2.2.2.2.2.2.2.2.2.2.2.2.2.2.2.2.2.2.2.2.2.2.1
theorem MT.kk {T : Nat → Nat → Nat} {mi : Nat → Nat → Int32} (h : MT T mi) : ∀ i, i < T 0 9 → mi 116 i = nI (T 17 i) := h.2.2.2.2.2.2.2.2.2.2.2.2.2.2.2.2.2.2.2.2.2.2.2.2.2.2.2.2.2.2.1
theorem MT.kn {T : Nat → Nat → Nat} {mi : Nat → Nat → Int32} (h : MT T mi) : ∀ i, i < T 0 9 → T 17 i ≤ 1 → mi 117 i = nI (T 18 i) := h.2.2.2.2.2.2.2.2.2.2.2.2.2.2.2.2.2.2.2.2.2.2.2.2.2.2.2.2.2.2.2
/-- the class's Scene at cell b holds S -/
def CS (b : Nat) (S : Nat → Nat → Nat) (mi : Nat → Nat → Int32) : Prop :=
  (mi b 0 = nI (S 0 0)) ∧
  (mi b 1 = nI (S 0 1)) ∧
  (mi b 2 = nI (S 0 2)) ∧
  (mi b 3 = nI (S 0 3)) ∧
  (∀ f, f < 48 → mi (b + 1) f = nI (S 1 f)) ∧
  (∀ wd, wd < 6 → ∀ h, h < 3 → mi (b + 2) (wd * 3 + h) = nI (S 2 (6 * h + wd)) - 1)
theorem CS.day {b : Nat} {S : Nat → Nat → Nat} {mi : Nat → Nat → Int32} (h : CS b S mi) : mi b 0 = nI (S 0 0) := h.1
theorem CS.purse {b : Nat} {S : Nat → Nat → Nat} {mi : Nat → Nat → Int32} (h : CS b S mi) : mi b 1 = nI (S 0 1) := h.2.1
theorem CS.last {b : Nat} {S : Nat → Nat → Nat} {mi : Nat → Nat → Int32} (h : CS b S mi) : mi b 2 = nI (S 0 2) := h.2.2.1
theorem CS.hung {b : Nat} {S : Nat → Nat → Nat} {mi : Nat → Nat → Int32} (h : CS b S mi) : mi b 3 = nI (S 0 3) := h.2.2.2.1
theorem CS.shape {b : Nat} {S : Nat → Nat → Nat} {mi : Nat → Nat → Int32} (h : CS b S mi) : ∀ f, f < 48 → mi (b + 1) f = nI (S 1 f) := h.2.2.2.2.1
theorem CS.readOn {b : Nat} {S : Nat → Nat → Nat} {mi : Nat → Nat → Int32} (h : CS b S mi) : ∀ wd, wd < 6 → ∀ h, h < 3 → mi (b + 2) (wd * 3 + h) = nI (S 2 (6 * h + wd)) - 1 := h.2.2.2.2.2
/-- a text that can be -/
def wfT (T : Nat → Nat → Nat) : Prop :=
  (1 ≤ T 0 0) ∧
  (T 0 0 ≤ 8) ∧
  (1 ≤ T 0 1) ∧
  (T 0 1 ≤ 6) ∧
  (T 0 2 ≤ 5) ∧
  (T 0 3 ≤ 9) ∧
  (T 0 4 ≤ 6) ∧
  (T 0 5 ≤ 3) ∧
  (T 0 6 ≤ 4) ∧
  (T 0 7 ≤ 5) ∧
  (T 0 8 ≤ 3) ∧
  (T 0 9 ≤ 64) ∧
  (T 0 10 ≤ 9999) ∧
  (T 0 11 ≤ 99999) ∧
  (T 0 12 ≤ 99) ∧
  (∀ i, i < T 0 2 → T 2 i ≤ 99) ∧
  (∀ i, i < T 0 2 → 1 ≤ T 3 i ∧ T 3 i ≤ 99) ∧
  (∀ f, T 4 f ≤ T 0 2) ∧
  (∀ f, T 0 0 * T 0 1 ≤ f → T 4 f = 0) ∧
  (∀ i, i < T 0 3 → 1 ≤ T 5 i ∧ T 5 i ≤ 26) ∧
  (∀ i, i < T 0 3 → 1 ≤ T 6 i ∧ T 6 i ≤ 511) ∧
  (∀ i j, i < T 0 3 → j < T 0 3 → T 5 i = T 5 j → i = j) ∧
  (∀ i, i < T 0 4 → T 7 i < 2 ^ 30 ∧ 1 ≤ lenN (T 7 i)) ∧
  (∀ i, i < T 0 4 → ∀ k, lenN (T 7 i) ≤ k → k < 6 → letN (T 7 i) k = 0) ∧
  (∀ i, i < T 0 4 → T 8 i ≤ 99) ∧
  (∀ i, i < T 0 5 → T 10 i ≤ 2) ∧
  (∀ i, i < T 0 6 → T 12 i ≤ 9) ∧
  (∀ i, i < T 0 7 → 1 ≤ T 14 i ∧ T 14 i ≤ 4) ∧
  (∀ i, i < T 0 7 → ∀ k, k < T 14 i → T 15 (4 * i + k) < T 0 6) ∧
  (∀ i, i < T 0 8 → T 16 (3 * i) < T 0 5 ∧ T 16 (3 * i + 1) < T 0 5 ∧ 1 ≤ T 16 (3 * i + 2) ∧ T 16 (3 * i + 2) ≤ 20) ∧
  (∀ f, ∀ i, T 1 i < 2 ^ 30 ∧ T 9 i < 2 ^ 30 ∧ T 11 i < 2 ^ 30 ∧ T 13 i < 2 ^ 30 ∧ (f = 0 → True))
theorem wfT.w1 {T : Nat → Nat → Nat} (h : wfT T) : 1 ≤ T 0 0 := h.1
theorem wfT.w8 {T : Nat → Nat → Nat} (h : wfT T) : T 0 0 ≤ 8 := h.2.1
theorem wfT.h1 {T : Nat → Nat → Nat} (h : wfT T) : 1 ≤ T 0 1 := h.2.2.1
theorem wfT.h6 {T : Nat → Nat → Nat} (h : wfT T) : T 0 1 ≤ 6 := h.2.2.2.1
theorem wfT.own5 {T : Nat → Nat → Nat} (h : wfT T) : T 0 2 ≤ 5 := h.2.2.2.2.1
theorem wfT.gl9 {T : Nat → Nat → Nat} (h : wfT T) : T 0 3 ≤ 9 := h.2.2.2.2.2.1
theorem wfT.wd6 {T : Nat → Nat → Nat} (h : wfT T) : T 0 4 ≤ 6 := h.2.2.2.2.2.2.1
theorem wfT.hl3 {T : Nat → Nat → Nat} (h : wfT T) : T 0 5 ≤ 3 := h.2.2.2.2.2.2.2.1
theorem wfT.co4 {T : Nat → Nat → Nat} (h : wfT T) : T 0 6 ≤ 4 := h.2.2.2.2.2.2.2.2.1
theorem wfT.sg5 {T : Nat → Nat → Nat} (h : wfT T) : T 0 7 ≤ 5 := h.2.2.2.2.2.2.2.2.2.1
theorem wfT.lk3 {T : Nat → Nat → Nat} (h : wfT T) : T 0 8 ≤ 3 := h.2.2.2.2.2.2.2.2.2.2.1
theorem wfT.kn64 {T : Nat → Nat → Nat} (h : wfT T) : T 0 9 ≤ 64 := h.2.2.2.2.2.2.2.2.2.2.2.1
theorem wfT.pu {T : Nat → Nat → Nat} (h : wfT T) : T 0 10 ≤ 9999 := h.2.2.2.2.2.2.2.2.2.2.2.2.1
theorem wfT.se {T : Nat → Nat → Nat} (h : wfT T) : T 0 11 ≤ 99999 := h.2.2.2.2.2.2.2.2.2.2.2.2.2.1
theorem wfT.ra {T : Nat → Nat → Nat} (h : wfT T) : T 0 12 ≤ 99 := h.2.2.2.2.2.2.2.2.2.2.2.2.2.2.1
theorem wfT.pr {T : Nat → Nat → Nat} (h : wfT T) : ∀ i, i < T 0 2 → T 2 i ≤ 99 := h.2.2.2.2.2.2.2.2.2.2.2.2.2.2.2.1
theorem wfT.cu {T : Nat → Nat → Nat} (h : wfT T) : ∀ i, i < T 0 2 → 1 ≤ T 3 i ∧ T 3 i ≤ 99 := h.2.2.2.2.2.2.2.2.2.2.2.2.2.2.2.2.1
theorem wfT.ow {T : Nat → Nat → Nat} (h : wfT T) : ∀ f, T 4 f ≤ T 0 2 := h.2.2.2.2.2.2.2.2.2.2.2.2.2.2.2.2.2.1
theorem wfT.owo {T : Nat → Nat → Nat} (h : wfT T) : ∀ f, T 0 0 * T 0 1 ≤ f → T 4 f = 0 := h.2.2.2.2.2.2.2.2.2.2.2.2.2.2.2.2.2.2.1
theorem wfT.gl {T : Nat → Nat → Nat} (h : wfT T) : ∀ i, i < T 0 3 → 1 ≤ T 5 i ∧ T 5 i ≤ 26 := h.2.2.2.2.2.2.2.2.2.2.2.2.2.2.2.2.2.2.2.1
theorem wfT.gs {T : Nat → Nat → Nat} (h : wfT T) : ∀ i, i < T 0 3 → 1 ≤ T 6 i ∧ T 6 i ≤ 511 := h.2.2.2.2.2.2.2.2.2.2.2.2.2.2.2.2.2.2.2.2.1
theorem wfT.gld {T : Nat → Nat → Nat} (h : wfT T) : ∀ i j, i < T 0 3 → j < T 0 3 → T 5 i = T 5 j → i = j := h.2.2.2.2.2.2.2.2.2.2.2.2.2.2.2.2.2.2.2.2.2.1
theorem wfT.wn {T : Nat → Nat → Nat} (h : wfT T) : ∀ i, i < T 0 4 → T 7 i < 2 ^ 30 ∧ 1 ≤ lenN (T 7 i) := h.2.2.2.2.2.2.2.2.2.2.2.2.2.2.2.2.2.2.2.2.2.2.1
theorem wfT.wz {T : Nat → Nat → Nat} (h : wfT T) : ∀ i, i < T 0 4 → ∀ k, lenN (T 7 i) ≤ k → k < 6 → letN (T 7 i) k = 0 := h.2.2.2.2.2.2.2.2.2.2.2.2.2.2.2.2.2.2.2.2.2.2.2.1
theorem wfT.ww {T : Nat → Nat → Nat} (h : wfT T) : ∀ i, i < T 0 4 → T 8 i ≤ 99 := h.2.2.2.2.2.2.2.2.2.2.2.2.2.2.2.2.2.2.2.2.2.2.2.2.1
theorem wfT.sg {T : Nat → Nat → Nat} (h : wfT T) : ∀ i, i < T 0 5 → T 10 i ≤ 2 := h.2.2.2.2.2.2.2.2.2.2.2.2.2.2.2.2.2.2.2.2.2.2.2.2.2.1
theorem wfT.cm {T : Nat → Nat → Nat} (h : wfT T) : ∀ i, i < T 0 6 → T 12 i ≤ 9 := h.2.2.2.2.2.2.2.2.2.2.2.2.2.2.2.2.2.2.2.2.2.2.2.2.2.2.1
theorem wfT.sl {T : Nat → Nat → Nat} (h : wfT T) : ∀ i, i < T 0 7 → 1 ≤ T 14 i ∧ T 14 i ≤ 4 := h.2.2.2.2.2.2.2.2.2.2.2.2.2.2.2.2.2.2.2.2.2.2.2.2.2.2.2.1
theorem wfT.sr {T : Nat → Nat → Nat} (h : wfT T) : ∀ i, i < T 0 7 → ∀ k, k < T 14 i → T 15 (4 * i + k) < T 0 6 := h.2.2.2.2.2.2.2.2.2.2.2.2.2.2.2.2.2.2.2.2.2.2.2.2.2.2.2.2.1
theorem wfT.lk {T : Nat → Nat → Nat} (h : wfT T) : ∀ i, i < T 0 8 → T 16 (3 * i) < T 0 5 ∧ T 16 (3 * i + 1) < T 0 5 ∧ 1 ≤ T 16 (3 * i + 2) ∧ T 16 (3 * i + 2) ≤ 20 := h.2.2.2.2.2.2.2.2.2.2.2.2.2.2.2.2.2.2.2.2.2.2.2.2.2.2.2.2.2.1
theorem wfT.nm {T : Nat → Nat → Nat} (h : wfT T) : ∀ f, ∀ i, T 1 i < 2 ^ 30 ∧ T 9 i < 2 ^ 30 ∧ T 11 i < 2 ^ 30 ∧ T 13 i < 2 ^ 30 ∧ (f = 0 → True) := h.2.2.2.2.2.2.2.2.2.2.2.2.2.2.2.2.2.2.2.2.2.2.2.2.2.2.2.2.2.2
/-- a scene that can be -/
def wfS (T : Nat → Nat → Nat) (S : Nat → Nat → Nat) : Prop :=
  (∀ f, S 1 f ≤ 511) ∧
  (∀ f, T 0 0 * T 0 1 ≤ f → S 1 f = 0) ∧
  (S 0 0 ≤ 1100) ∧
  (S 0 1 ≤ 9999) ∧
  (S 0 2 < 2 ^ 31) ∧
  (S 0 3 < 32) ∧
  (∀ i, S 2 i ≤ 1100)
theorem wfS.sh {T : Nat → Nat → Nat} {S : Nat → Nat → Nat} (h : wfS T S) : ∀ f, S 1 f ≤ 511 := h.1
theorem wfS.sho {T : Nat → Nat → Nat} {S : Nat → Nat → Nat} (h : wfS T S) : ∀ f, T 0 0 * T 0 1 ≤ f → S 1 f = 0 := h.2.1
theorem wfS.day {T : Nat → Nat → Nat} {S : Nat → Nat → Nat} (h : wfS T S) : S 0 0 ≤ 1100 := h.2.2.1
theorem wfS.pu {T : Nat → Nat → Nat} {S : Nat → Nat → Nat} (h : wfS T S) : S 0 1 ≤ 9999 := h.2.2.2.1
theorem wfS.la {T : Nat → Nat → Nat} {S : Nat → Nat → Nat} (h : wfS T S) : S 0 2 < 2 ^ 31 := h.2.2.2.2.1
theorem wfS.hu {T : Nat → Nat → Nat} {S : Nat → Nat → Nat} (h : wfS T S) : S 0 3 < 32 := h.2.2.2.2.2.1
theorem wfS.ro {T : Nat → Nat → Nat} {S : Nat → Nat → Nat} (h : wfS T S) : ∀ i, S 2 i ≤ 1100 := h.2.2.2.2.2.2
