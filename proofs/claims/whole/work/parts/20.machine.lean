/-! THE SMALL MACHINE: what the methods do, over a memory of cells by number (0 .. 135, in the order in which the law makes them): as a predicate transformer that reduces by itself -/
/-- ints, longs, references by cell and place; how many cells there are -/
abbrev Mm : Type := (Nat → Nat → Int32) × (Nat → Nat → Int64) × (Nat → Nat → Option Nat) × Nat
/-- pc, instruction, its length, whether a jump goes back to it, group, four numbers, a value, a switch -/
abbrev En : Type := Nat × Instr × Nat × Bool × Nat × (Nat × Nat × Nat × Nat) × Value × List (Int32 × Nat)
def cu {α : Type} (f : Nat → α) (c : Nat) (g : α) : Nat → α := fun a => if a = c then g else f a
def wI (M : Mm) (c k : Nat) (x : Int32) : Mm := (cu M.1 c (upd (M.1 c) k x), M.2)
def wL (M : Mm) (c k : Nat) (x : Int64) : Mm := (M.1, cu M.2.1 c (vp_updL (M.2.1 c) k x), M.2.2)
def wR (M : Mm) (c k : Nat) (x : Option Nat) : Mm := (M.1, M.2.1, cu M.2.2.1 c (fun j => if j = k then x else M.2.2.1 c j), M.2.2.2)
def wA (M : Mm) (c : Nat) (f : Nat → Int32) : Mm := (cu M.1 c f, M.2)
def mk1 (M : Mm) : Mm := (cu M.1 M.2.2.2 (fun _ => 0), cu M.2.1 M.2.2.2 (fun _ => 0), cu M.2.2.1 M.2.2.2 (fun _ => none), M.2.2.2 + 1)
def fv (M : Mm) (o k t : Nat) : Value := match t with
  | 1 => .long (M.2.1 o k)
  | 2 => va_rf (M.2.2.1 o k)
  | _ => .int (M.1 o k)
def klL (v : Value) : Value := match v with
  | .long _ => .null
  | v => v
def lset : List Value → Nat → Value → List Value
  | [], _, _ => []
  | _ :: l, 0, v => v :: l
  | a :: l, 1, v => klL a :: lset l 0 v
  | a :: l, n + 2, v => a :: lset l (n + 1) v
def b2i (f : Int32 → Int32 → Int32) (st : List Value) : Option (List Value) := match st with
  | .int y :: .int x :: r => some (.int (f x y) :: r)
  | _ => none
def b2l (f : Int64 → Int64 → Int64) (st : List Value) : Option (List Value) := match st with
  | .long y :: .long x :: r => some (.long (f x y) :: r)
  | _ => none
def ldI (v : Value) (st : List Value) : Option (List Value) := match v with
  | .int x => some (.int x :: st)
  | _ => none
def ldL (v : Value) (st : List Value) : Option (List Value) := match v with
  | .long x => some (.long x :: st)
  | _ => none
def ldA (v : Value) (st : List Value) : Option (List Value) := match v with
  | .ref x => some (.ref x :: st)
  | _ => none
/-- group 0: the operand stack alone changes -/
def pst (e : En) (ls st : List Value) (M : Mm) : Option (List Value) := match e.2.1 with
  | .iconst _ => some (e.2.2.2.2.2.2.1 :: st)
  | .bipush _ => some (e.2.2.2.2.2.2.1 :: st)
  | .sipush _ => some (e.2.2.2.2.2.2.1 :: st)
  | .ldc _ => some (e.2.2.2.2.2.2.1 :: st)
  | .ldc_w _ => some (e.2.2.2.2.2.2.1 :: st)
  | .lconst _ => some (e.2.2.2.2.2.2.1 :: st)
  | .ldc2_w _ => some (e.2.2.2.2.2.2.1 :: st)
  | .iload _ => ldI (nth .null ls e.2.2.2.2.2.1.1) st
  | .iload_n _ => ldI (nth .null ls e.2.2.2.2.2.1.1) st
  | .lload _ => ldL (nth .null ls e.2.2.2.2.2.1.1) st
  | .lload_n _ => ldL (nth .null ls e.2.2.2.2.2.1.1) st
  | .aload _ => ldA (nth .null ls e.2.2.2.2.2.1.1) st
  | .aload_n _ => ldA (nth .null ls e.2.2.2.2.2.1.1) st
  | .iadd => b2i (fun x y => x + y) st
  | .isub => b2i (fun x y => x - y) st
  | .imul => b2i (fun x y => x * y) st
  | .iand => b2i (fun x y => x &&& y) st
  | .ior => b2i (fun x y => x ||| y) st
  | .ixor => b2i (fun x y => x ^^^ y) st
  | .ishl => b2i (fun x y => x <<< (y &&& 31)) st
  | .ishr => b2i (fun x y => x >>> (y &&& 31)) st
  | .iushr => b2i (fun x y => (x.toUInt32 >>> (y.toUInt32 &&& Int32.toUInt32 31)).toInt32) st
  | .ladd => b2l (fun x y => x + y) st
  | .lsub => b2l (fun x y => x - y) st
  | .lmul => b2l (fun x y => x * y) st
  | .land => b2l (fun x y => x &&& y) st
  | .lor => b2l (fun x y => x ||| y) st
  | .ineg => match st with
    | .int x :: r => some (.int (-x) :: r)
    | _ => none
  | .lneg => match st with
    | .long x :: r => some (.long (-x) :: r)
    | _ => none
  | .lshl => match st with
    | .int y :: .long x :: r => some (.long (x <<< (y.toInt64 &&& 63)) :: r)
    | _ => none
  | .lcmp => match st with
    | .long y :: .long x :: r => some (.int (lg_cmp x y) :: r)
    | _ => none
  | .i2l => match st with
    | .int x :: r => some (.long x.toInt64 :: r)
    | _ => none
  | .l2i => match st with
    | .long x :: r => some (.int x.toInt32 :: r)
    | _ => none
  | .dup => match st with
    | .int x :: r => some (.int x :: .int x :: r)
    | .ref x :: r => some (.ref x :: .ref x :: r)
    | _ => none
  | .pop => match st with
    | .int _ :: r => some r
    | .ref _ :: r => some r
    | _ => none
  | .dup2 => match st with
    | .int x :: .ref y :: r => some (.int x :: .ref y :: .int x :: .ref y :: r)
    | _ => none
  | .getfield _ => match st with
    | .ref o :: r => match Nat.beq (lay o).1 e.2.2.2.2.2.1.1 && Nat.blt o M.2.2.2 with
      | true => some (fv M o e.2.2.2.2.2.1.2.1 e.2.2.2.2.2.1.2.2.1 :: r)
      | false => none
    | _ => none
  | .arraylength => match st with
    | .ref o :: r => match Nat.ble 13 (lay o).1 && Nat.ble (lay o).1 15 && Nat.blt o M.2.2.2 with
      | true => some (.int (nI (lay o).2) :: r)
      | false => none
    | _ => none
  | _ => none
/-- group 1: a local is written -/
def lst (e : En) (ls st : List Value) : Option (List Value × List Value) := match e.2.1 with
  | .istore _ => match st with
    | .int x :: r => some (lset ls e.2.2.2.2.2.1.1 (.int x), r)
    | _ => none
  | .istore_n _ => match st with
    | .int x :: r => some (lset ls e.2.2.2.2.2.1.1 (.int x), r)
    | _ => none
  | .astore _ => match st with
    | .ref x :: r => some (lset ls e.2.2.2.2.2.1.1 (.ref x), r)
    | _ => none
  | .astore_n _ => match st with
    | .ref x :: r => some (lset ls e.2.2.2.2.2.1.1 (.ref x), r)
    | _ => none
  | .lstore _ => match st with
    | .long x :: r => some (lset (lset ls (e.2.2.2.2.2.1.1 + 1) .null) e.2.2.2.2.2.1.1 (.long x), r)
    | _ => none
  | .lstore_n _ => match st with
    | .long x :: r => some (lset (lset ls (e.2.2.2.2.2.1.1 + 1) .null) e.2.2.2.2.2.1.1 (.long x), r)
    | _ => none
  | .iinc _ _ => match nth .null ls e.2.2.2.2.2.1.1 with
    | .int x => match e.2.2.2.2.2.2.1 with
      | .int k => some (lset ls e.2.2.2.2.2.1.1 (.int (x + k)), st)
      | _ => none
    | _ => none
  | _ => none
/-- what holds where the jump is taken, and where it isn't -/
def c1P (o : ClassFile.Cond) (x : Int32) : Prop × Prop := match o with
  | .eq => (x = 0, ¬ x = 0)
  | .ne => (¬ x = 0, x = 0)
  | .lt => (x < 0, ¬ x < 0)
  | .ge => (0 ≤ x, ¬ 0 ≤ x)
  | .gt => (0 < x, ¬ 0 < x)
  | .le => (x ≤ 0, ¬ x ≤ 0)
def c2P (o : ClassFile.Cond) (x y : Int32) : Prop × Prop := match o with
  | .eq => (x = y, ¬ x = y)
  | .ne => (¬ x = y, x = y)
  | .lt => (x < y, ¬ x < y)
  | .ge => (y ≤ x, ¬ y ≤ x)
  | .gt => (y < x, ¬ y < x)
  | .le => (x ≤ y, ¬ x ≤ y)
/-- group 2: a condition -/
def cst (e : En) (st : List Value) : Option ((Prop × Prop) × List Value) := match e.2.1 with
  | .ifCond o _ => match st with
    | .int x :: r => some (c1P o x, r)
    | _ => none
  | .if_icmp o _ => match st with
    | .int y :: .int x :: r => some (c2P o x y, r)
    | _ => none
  | _ => none
/-- group 5: a place of an array is read: its length, the index, the stack by the place -/
def ald (e : En) (st : List Value) (M : Mm) : Option (Nat × Int32 × (Nat → List Value)) := match e.2.1 with
  | .iaload => match st with
    | .int i :: .ref o :: r => match Nat.beq (lay o).1 13 && Nat.blt o M.2.2.2 with
      | true => some ((lay o).2, i, fun j => .int (M.1 o j) :: r)
      | false => none
    | _ => none
  | .laload => match st with
    | .int i :: .ref o :: r => match Nat.beq (lay o).1 14 && Nat.blt o M.2.2.2 with
      | true => some ((lay o).2, i, fun j => .long (M.2.1 o j) :: r)
      | false => none
    | _ => none
  | .baload => match st with
    | .int i :: .ref o :: r => match Nat.beq (lay o).1 15 && Nat.blt o M.2.2.2 with
      | true => some ((lay o).2, i, fun j => .int (M.1 o j) :: r)
      | false => none
    | _ => none
  | _ => none
/-- group 7 and 14: a place of an array is written -/
def ast (e : En) (st : List Value) (M : Mm) : Option (Nat × Int32 × Prop × List Value × (Nat → Mm)) := match e.2.1 with
  | .iastore => match st with
    | .int x :: .int i :: .ref o :: r => match Nat.beq (lay o).1 13 && Nat.blt o M.2.2.2 with
      | true => some ((lay o).2, i, True, r, fun j => wI M o j x)
      | false => none
    | _ => none
  | .lastore => match st with
    | .long x :: .int i :: .ref o :: r => match Nat.beq (lay o).1 14 && Nat.blt o M.2.2.2 with
      | true => some ((lay o).2, i, True, r, fun j => wL M o j x)
      | false => none
    | _ => none
  | .bastore => match st with
    | .int x :: .int i :: .ref o :: r => match Nat.beq (lay o).1 15 && Nat.blt o M.2.2.2 with
      | true => some ((lay o).2, i, x = 0 ∨ x = 1, r, fun j => wI M o j x)
      | false => none
    | _ => none
  | _ => none
/-- groups 6 and 13: divisions; fields written -/
def obs (e : En) (st : List Value) (M : Mm) : Option (Prop × List Value × Mm) := match e.2.1 with
  | .idiv => match st with
    | .int y :: .int x :: r => some (¬ y = 0, .int (x / y) :: r, M)
    | _ => none
  | .irem => match st with
    | .int y :: .int x :: r => some (¬ y = 0, .int (x - x / y * y) :: r, M)
    | _ => none
  | .ldiv => match st with
    | .long y :: .long x :: r => some (¬ y = 0, .long (x / y) :: r, M)
    | _ => none
  | .lrem => match st with
    | .long y :: .long x :: r => some (¬ y = 0, .long (x - x / y * y) :: r, M)
    | _ => none
  | .putfield _ => match st with
    | .int x :: .ref o :: r => match Nat.beq (lay o).1 e.2.2.2.2.2.1.1 && Nat.blt o M.2.2.2 with
      | true => match e.2.2.2.2.2.1.2.2.1 with
        | 0 => some (True, r, wI M o e.2.2.2.2.2.1.2.1 x)
        | 3 => some (x = 0 ∨ x = 1, r, wI M o e.2.2.2.2.2.1.2.1 x)
        | _ => none
      | false => none
    | .long x :: .ref o :: r => match Nat.beq (lay o).1 e.2.2.2.2.2.1.1 && Nat.blt o M.2.2.2 with
      | true => match e.2.2.2.2.2.1.2.2.1 with
        | 1 => some (True, r, wL M o e.2.2.2.2.2.1.2.1 x)
        | _ => none
      | false => none
    | .ref x :: .ref o :: r => match Nat.beq (lay o).1 e.2.2.2.2.2.1.1 && Nat.blt o M.2.2.2 with
      | true => match e.2.2.2.2.2.1.2.2.1 with
        | 2 => some (True, r, wR M o e.2.2.2.2.2.1.2.1 (some x))
        | _ => none
      | false => none
    | _ => none
  | _ => none
/-- group 10: a cell is made -/
def nws (e : En) (nmax : Nat) (st : List Value) (M : Mm) : Option (Prop × List Value × Mm) := match Nat.blt M.2.2.2 nmax && Nat.beq (lay M.2.2.2).1 e.2.2.2.2.2.1.1 with
  | true => match e.2.1 with
    | .new _ => some (True, .ref M.2.2.2 :: st, mk1 M)
    | .newarray _ => match st with
      | .int x :: r => some (x = nI (lay M.2.2.2).2, .ref M.2.2.2 :: r, mk1 M)
      | _ => none
    | _ => none
  | false => none
/-- group 11: System.arraycopy of ints -/
def cps (st : List Value) (M : Mm) : Option ((Int32 × Int32 × Int32) × (Nat × Nat) × List Value × (Nat → Nat → Nat → Mm)) := match st with
  | .int n :: .int dp :: .ref b :: .int sp :: .ref a :: r => match Nat.beq (lay a).1 13 && Nat.blt a M.2.2.2 && (Nat.beq (lay b).1 13 && Nat.blt b M.2.2.2) && Nat.beq M.2.2.2 136 with
    | true => some ((sp, dp, n), ((lay a).2, (lay b).2), r, fun s d k => wA M b (va_cpy (M.1 a) (M.1 b) s d k))
    | false => none
  | _ => none
def swP (J : Nat → Prop) (x : Int32) (d : Nat) : List (Int32 × Nat) → Prop
  | [] => J d
  | q :: l => (x = q.1 → J q.2) ∧ (¬ x = q.1 → swP J x d l)
def cats : List Value → Nat
  | [] => 0
  | v :: l => v.category + cats l
/-- the first n of a stack, the last one first -/
def tkr : Nat → List Value → List Value → Option (List Value × List Value)
  | 0, acc, st => some (acc, st)
  | n + 1, acc, v :: st => tkr n (v :: acc) st
  | _ + 1, _, [] => none
def rcv (kd ci n : Nat) (as : List Value) : Bool := match kd with
  | 0 => match as with
    | .ref o :: _ => Nat.beq (lay o).1 ci && Nat.blt o n
    | _ => false
  | 2 => match as with
    | .ref _ :: _ => true
    | _ => false
  | _ => true
/-- one step: J a jump, N the next instruction, Q the end, Cl a call -/
def stp (Cl : Nat → List Value → Mm → (Option Value → Mm → Prop) → Prop) (mc : Nat → Nat) (ret nmax : Nat) (Q : Option Value → Mm → Prop) (J : Nat → List Value → List Value → Mm → Prop) (e : En) (N : List Value → List Value → Mm → Prop) (ls st : List Value) (M : Mm) : Prop :=
  match e.2.2.2.2.1 with
  | 0 => match pst e ls st M with
    | some st' => N ls st' M
    | none => False
  | 1 => match lst e ls st with
    | some q => N q.1 q.2 M
    | none => False
  | 2 => match cst e st with
    | some q => (q.1.1 → J e.2.2.2.2.2.1.1 ls q.2 M) ∧ (q.1.2 → N ls q.2 M)
    | none => False
  | 3 => J e.2.2.2.2.2.1.1 ls st M
  | 4 => match st with
    | .int x :: r => swP (fun t => J t ls r M) x e.2.2.2.2.2.1.1 e.2.2.2.2.2.2.2
    | _ => False
  | 5 => match ald e st M with
    | some q => ∃ j : Nat, j < q.1 ∧ q.2.1 = nI j ∧ N ls (q.2.2 j) M
    | none => False
  | 6 => match obs e st M with
    | some q => q.1 ∧ N ls q.2.1 q.2.2
    | none => False
  | 7 => match ast e st M with
    | some q => ∃ j : Nat, j < q.1 ∧ q.2.1 = nI j ∧ N ls q.2.2.2.1 (q.2.2.2.2 j)
    | none => False
  | 8 => match tkr e.2.2.2.2.2.1.2.1 [] st with
    | some q => match rcv e.2.2.2.2.2.1.2.2.2 e.2.2.2.2.2.1.2.2.1 M.2.2.2 q.1 && Nat.ble (cats q.2) 8 && Nat.ble (M.2.2.2 + mc e.2.2.2.2.2.1.1) nmax with
      | true => Cl e.2.2.2.2.2.1.1 q.1 M (fun r M' => N ls (r.toList ++ q.2) M')
      | false => False
    | none => False
  | 9 => match e.2.1 with
    | .ireturn => match st with
      | [.int x] => match ret with
        | 1 => Q (some (.int x)) M
        | 2 => (x = 0 ∨ x = 1) ∧ Q (some (.int x)) M
        | _ => False
      | _ => False
    | .lreturn => match st with
      | [.long x] => match ret with
        | 3 => Q (some (.long x)) M
        | _ => False
      | _ => False
    | .return_ => match st with
      | [] => match ret with
        | 0 => Q none M
        | _ => False
      | _ => False
    | _ => False
  | 10 => match nws e nmax st M with
    | some q => q.1 ∧ N ls q.2.1 q.2.2
    | none => False
  | 11 => match cps st M with
    | some q => match Nat.ble (cats q.2.2.1) 8 with
      | true => ∃ s d k : Nat, q.1.1 = nI s ∧ q.1.2.1 = nI d ∧ q.1.2.2 = nI k ∧ s + k ≤ q.2.1.1 ∧ d + k ≤ q.2.1.2 ∧ N ls q.2.2.1 (q.2.2.2 s d k)
      | false => False
    | none => False
  | 12 => match st with
    | .ref _ :: r => match Nat.ble (cats r) 8 with
      | true => N ls r M
      | false => False
    | _ => False
  | 13 => match obs e st M with
    | some q => N ls q.2.1 q.2.2
    | none => False
  | 14 => match ast e st M with
    | some q => ∃ j : Nat, j < q.1 ∧ q.2.1 = nI j ∧ q.2.2.1 ∧ N ls q.2.2.2.1 (q.2.2.2.2 j)
    | none => False
  | 15 => match tkr e.2.2.2.2.2.1.2.1 [] st with
    | some q => match Nat.ble (cats q.2) 8 with
      | true => Cl e.2.2.2.2.2.1.1 q.1 M (fun r M' => N ls (r.toList ++ q.2) M')
      | false => False
    | none => False
  | _ => False
def sfx (code : List En) (t : Nat) : List En := match code with
  | [] => []
  | e :: l => match Nat.beq e.1 t with
    | true => e :: l
    | false => sfx l t
/-- up to the next place to which a jump goes back: K there -/
def Gn (Cl : Nat → List Value → Mm → (Option Value → Mm → Prop) → Prop) (mc : Nat → Nat) (ret nmax : Nat) (Q : Option Value → Mm → Prop) (K : Nat → List Value → List Value → Mm → Prop) (code : List En) : Nat → List En → List Value → List Value → Mm → Prop
  | 0, _, _, _, _ => False
  | _ + 1, [], _, _, _ => False
  | n + 1, e :: rest, ls, st, M => match e.2.2.2.1 with
    | true => K e.1 ls st M
    | false => stp Cl mc ret nmax Q (fun t => Gn Cl mc ret nmax Q K code n (sfx code t)) e (Gn Cl mc ret nmax Q K code n rest) ls st M
/-- from here the method comes to its end with Q: the least such -/
def Go (Cl : Nat → List Value → Mm → (Option Value → Mm → Prop) → Prop) (mc : Nat → Nat) (ret nmax : Nat) (Q : Option Value → Mm → Prop) (code : List En) (pc : Nat) (ls st : List Value) (M : Mm) : Prop :=
  ∀ P : Nat → List Value → List Value → Mm → Prop, (∀ (t : Nat) (e : En) (rest : List En), sfx code t = e :: rest → ∀ ls st M, stp Cl mc ret nmax Q P e (P (e.1 + e.2.2.1)) ls st M → P t ls st M) → P pc ls st M
def en0 : List Value → List Value
  | [] => []
  | .long x :: l => .long x :: .null :: en0 l
  | .double x :: l => .double x :: .null :: en0 l
  | v :: l => v :: en0 l
def pad : Nat → List Value → List Value
  | 0, _ => []
  | n + 1, [] => .null :: pad n []
  | n + 1, a :: l => a :: pad n l
