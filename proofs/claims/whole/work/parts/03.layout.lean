/-- element of a list, with a default; by structural recursion, so that it reduces on literals -/
def nth {α : Type} (d : α) : List α → Nat → α
  | [], _ => d
  | a :: _, 0 => a
  | _ :: l, n + 1 => nth d l n
/-- the cells that the law makes, in their order: (class number, fields) or (13 int, 14 long, 15 boolean; length) -/
def layLL : List (List (Nat × Nat)) := [[(11, 14), (13, 700), (8, 6), (13, 701), (13, 701), (13, 701), (9, 19), (13, 5), (13, 5), (13, 5), (13, 48), (13, 48)],
  [(13, 48), (6, 8), (13, 9), (13, 9), (13, 32), (13, 6), (13, 6), (13, 6), (0, 7), (13, 3), (13, 3), (13, 3)],
  [(13, 3), (13, 3), (10, 7), (13, 4), (13, 4), (13, 5), (13, 5), (13, 5), (1, 5), (13, 64), (13, 64), (13, 6)],
  [(14, 64), (9, 19), (13, 5), (13, 5), (13, 5), (13, 48), (13, 48), (13, 48), (6, 8), (13, 9), (13, 9), (13, 32)],
  [(13, 6), (13, 6), (13, 6), (0, 7), (13, 3), (13, 3), (13, 3), (13, 3), (13, 3), (10, 7), (13, 4), (13, 4)],
  [(13, 5), (13, 5), (13, 5), (1, 5), (13, 64), (13, 64), (13, 6), (14, 64), (4, 10), (13, 72), (5, 6), (13, 48)],
  [(13, 18), (5, 6), (13, 48), (13, 18), (3, 2), (13, 1000), (2, 7), (13, 24), (13, 24), (13, 24), (13, 24), (15, 24)],
  [(7, 18), (13, 4), (5, 6), (13, 48), (13, 18), (13, 48), (13, 48), (13, 3), (13, 4), (13, 4), (13, 4), (12, 101)],
  [(13, 700), (13, 127), (13, 6), (15, 3), (13, 10), (13, 10), (13, 10), (13, 96), (13, 18), (13, 18), (13, 12), (13, 12)],
  [(13, 6), (13, 6), (13, 8), (13, 8), (13, 10), (13, 10), (13, 40), (13, 18), (13, 128), (13, 128), (13, 128), (13, 96)],
  [(13, 96), (14, 6), (14, 64), (13, 96), (13, 2), (13, 18), (13, 4), (13, 4), (13, 4), (13, 9), (13, 72), (15, 24)],
  [(13, 1000), (13, 50), (13, 18), (14, 1)]]
def lay (c : Nat) : Nat × Nat := nth (99, 0) (nth [] layLL (c / 12)) (c % 12)
/-- slots of the first n cells -/
def SL : Nat → Nat
  | 0 => 0
  | n + 1 => SL n + (lay n).2
def refLL : List (List (List (Option Nat))) := [[[some 1, none, none, none, some 2, some 6, some 37, some 68, some 70, some 73, none, some 76, some 78, some 84], [], [some 3, some 4, some 5, some 1], [], [], [], [none, none, none, none, none, none, none, none, none, some 7, some 8, some 9, some 10, some 11, some 12, some 13, some 20, some 26, some 32], [], [], [], [], []],
  [[], [none, none, some 14, some 15, some 16, some 17, some 18, some 19], [], [], [], [], [], [], [none, none, some 21, some 22, some 23, some 24, some 25], [], [], []],
  [[], [], [none, none, some 27, some 28, some 29, some 30, some 31], [], [], [], [], [], [none, some 33, some 34, some 35, some 36], [], [], []],
  [[], [none, none, none, none, none, none, none, none, none, some 38, some 39, some 40, some 41, some 42, some 43, some 44, some 51, some 57, some 63], [], [], [], [], [], [], [none, none, some 45, some 46, some 47, some 48, some 49, some 50], [], [], []],
  [[], [], [], [none, none, some 52, some 53, some 54, some 55, some 56], [], [], [], [], [], [none, none, some 58, some 59, some 60, some 61, some 62], [], []],
  [[], [], [], [none, some 64, some 65, some 66, some 67], [], [], [], [], [none, none, some 2, none, none, none, none, none, some 69], [], [none, none, none, none, some 71, some 72], []],
  [[], [none, none, none, none, some 74, some 75], [], [], [none, some 77], [], [none, none, some 79, some 80, some 81, some 82, some 83], [], [], [], [], []],
  [[none, none, none, none, none, none, none, none, some 85, some 6, some 70, some 86, some 89, some 90, some 91, some 92, some 93, some 94], [], [none, none, none, none, some 87, some 88], [], [], [], [], [], [], [], [], [some 96, none, none, some 97, none, none, none, none, none, none, none, none, none, none, none, none, none, none, none, none, none, none, none, none, none, none, none, none, none, none, none, none, none, none, none, none, some 98, some 99, some 100, some 101, some 102, some 103, some 104, some 105, some 106, some 107, some 108, some 109, some 110, some 111, some 112, some 113, some 114, some 115, some 116, some 117, some 118, some 119, some 120, none, none, none, none, none, none, some 121, some 122, none, some 123, some 124, none, none, none, some 125, none, none, none, none, none, none, none, none, some 126, some 127, some 128, none, none, some 129, none, none, some 130, some 131, none, none, none, some 132, none, some 133, none, none, some 134]],
  [[], [], [], [], [], [], [], [], [], [], [], []],
  [[], [], [], [], [], [], [], [], [], [], [], []],
  [[], [], [], [], [], [], [], [], [], [], [], []],
  [[], [], [], []]]
/-- where each reference field points once all is made; rd: what Reader.told is -/
def R0 (rd : Option Nat) (o k : Nat) : Option Nat := if o = 68 then (if k = 3 then rd else nth none [none, none, some 2, none, none, none, none, none, some 69] k) else nth none (nth [] (nth [] refLL (o / 12)) (o % 12)) k
def nflL : List Nat := [7, 5, 7, 2, 10, 6, 8, 18, 6, 19, 7, 14, 101]
def nfl (ci : Nat) : Nat := nth 0 nflL ci
def ftgLL : List (List Nat) := [[0, 0, 2, 2, 2, 2, 2],
  [0, 2, 2, 2, 2],
  [0, 0, 2, 2, 2, 2, 2],
  [0, 2],
  [0, 0, 2, 2, 0, 0, 0, 3, 2, 0],
  [0, 0, 0, 0, 2, 2],
  [0, 0, 2, 2, 2, 2, 2, 2],
  [0, 0, 0, 0, 0, 0, 0, 0, 2, 2, 2, 2, 2, 2, 2, 2, 2, 2],
  [2, 2, 2, 2, 0, 0],
  [0, 0, 0, 0, 0, 0, 0, 0, 1, 2, 2, 2, 2, 2, 2, 2, 2, 2, 2],
  [0, 0, 2, 2, 2, 2, 2],
  [2, 0, 0, 0, 2, 2, 2, 2, 2, 2, 3, 2, 2, 2],
  [2, 0, 0, 2, 0, 0, 0, 0, 0, 0, 0, 0, 0, 0, 0, 0, 0, 0, 0, 0, 0, 0, 3, 0, 0, 0, 0, 0, 0, 0, 0, 0, 0, 0, 3, 3, 2, 2, 2, 2, 2, 2, 2, 2, 2, 2, 2, 2, 2, 2, 2, 2, 2, 2, 2, 2, 2, 2, 2, 0, 0, 0, 0, 3, 3, 2, 2, 3, 2, 2, 0, 0, 1, 2, 0, 0, 0, 0, 0, 0, 0, 0, 2, 2, 2, 0, 0, 2, 0, 0, 2, 2, 0, 0, 0, 2, 3, 2, 0, 1, 2]]
/-- a field's kind: 0 int, 1 long, 2 a reference, 3 boolean -/
def ftg (ci k : Nat) : Nat := nth 9 (nth [] ftgLL ci) k
