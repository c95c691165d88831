/-! ONE STEP IS SOUND -/
def langS : String := "plain owner strip glyph word  hill  wash  sign  link  purse seed  rain  law   eat   all   low   high  or    and   not   stacksvowel row   col   day   left  "
def langL : List Nat := [112, 108, 97, 105, 110, 32, 111, 119, 110, 101, 114, 32, 115, 116, 114, 105, 112, 32, 103, 108, 121, 112, 104, 32, 119, 111, 114, 100, 32, 32, 104, 105, 108, 108, 32, 32, 119, 97, 115, 104, 32, 32, 115, 105, 103, 110, 32, 32, 108, 105, 110, 107, 32, 32, 112, 117, 114, 115, 101, 32, 115, 101, 101, 100, 32, 32, 114, 97, 105, 110, 32, 32, 108, 97, 119, 32, 32, 32, 101, 97, 116, 32, 32, 32, 97, 108, 108, 32, 32, 32, 108, 111, 119, 32, 32, 32, 104, 105, 103, 104, 32, 32, 111, 114, 32, 32, 32, 32, 97, 110, 100, 32, 32, 32, 110, 111, 116, 32, 32, 32, 115, 116, 97, 99, 107, 115, 118, 111, 119, 101, 108, 32, 114, 111, 119, 32, 32, 32, 99, 111, 108, 32, 32, 32, 100, 97, 121, 32, 32, 32, 108, 101, 102, 116, 32, 32]
def lch (j : Nat) : Nat := nth 0 langL j
/-- the language's text as it lay when the law began, and two statics of its class's methods -/
def ZT (w : Wn) (U : State) : Prop := va_O "java/lang/String" w.2.1 (AW w) U w.2.2.1 ∧ va_OF "java/lang/String" "coder" "B" (.int 0) w.2.1 (AW w) U w.2.2.1 ∧ (∃ v : Nat, va_OF "java/lang/String" "value" "[B" (.ref v) w.2.1 (AW w) U w.2.2.1 ∧ va_T .byte v 156 (fun j => .int (nI (lch j))) (AW w) U w.2.2.1) ∧ va_Z "java/lang/String" "COMPACT_STRINGS" "Z" (.int 1) (AW w) U w.2.2.1 ∧ va_Zq "jdk/internal/util/Preconditions" "SIOOBE_FORMATTER" "Ljava/util/function/BiFunction;" (AW w) U w.2.2.1
theorem ZT.moved {w : Wn} {u U : State} (hvm : u.vm.Alike U.vm) (h : ZT w u) : ZT w U := by
  obtain ⟨h1, h2, ⟨v, h3, h4⟩, h5, h6⟩ := h
  exact ⟨h1.moved hvm, h2.moved hvm, ⟨v, h3.moved hvm, h4.moved hvm⟩, h5.moved hvm, h6.moved hvm⟩
/-- what is known of the tables in every state -/
def KK (w : Wn) (U : State) : Prop := va_K w.2.2.2.1 vwCl (tysW w) U ∧ (∀ x ∈ nestW, va_Nw x U) ∧ vk_R RX8 66 langS w.2.1 U ∧ ZT w U
/-- a method's body: its machine, code, words, world and room -/
def Ctx (p : Program) (R : Room) (s : State) (m : MethodId) (args : Array Value) (c : Code) (w : Wn) (own nL kc ks n0 nmax : Nat) (cc : ByteArray) : Prop :=
  p.tables.exec = Jvm.exec ∧ c.code = cc ∧ c.maxLocals = nL ∧ s.vm.findClass (cn own) = some m.cls ∧ (∀ x ∈ gw, x.before args s = true) ∧ KK w s ∧ (∀ q, q < w.1 → s.heap[q]? = w.2.2.1[q]?) ∧ w.1 ≤ s.heap.size ∧ kc + (nmax - n0) ≤ R.cells ∧ ks + (SL nmax - SL n0) ≤ R.slots ∧ 1 ≤ R.frames ∧ 36 ≤ R.locals ∧ nmax ≤ 136
/-- the machine, standing where the small machine stands, comes to Qw -/
def Wst (p : Program) (l : Launch) (en : Env) (R : Room) (s : State) (m : MethodId) (args : Array Value) (below : List Frame) (meth : Method) (c : Code) (Qw : State → Prop) (w : Wn) (nL kc ks n0 nmax : Nat) (pc : Nat) (ls st : List Value) (M : Mm) : Prop :=
  ∀ (H : Heap) (locs : List Loc) (arr : Array Slot), RelW w M H → va_S (AW w) s.heap H locs → LRv w ls arr nL → n0 ≤ M.2.2.2 → M.2.2.2 ≤ nmax →
    W p l en R s m args below meth c H locs (kc + (M.2.2.2 - n0)) (ks + (SL M.2.2.2 - SL n0)) Qw (F0 m pc arr (st.map (cv w)))
theorem band {a b : Bool} (h : (a && b) = true) : a = true ∧ b = true := by simpa using h
theorem nbq {a b : Nat} (h : Nat.beq a b = true) : a = b := Nat.eq_of_beq_eq_true h
theorem nbl {a b : Nat} (h : Nat.blt a b = true) : a < b := Nat.le_of_ble_eq_true h
theorem b2i_some {f : Int32 → Int32 → Int32} {st st' : List Value} (h : b2i f st = some st') : ∃ x y r, st = .int y :: .int x :: r ∧ st' = .int (f x y) :: r := by
  unfold b2i at h
  split at h
  · cases h; exact ⟨_, _, _, rfl, rfl⟩
  · cases h
theorem b2l_some {f : Int64 → Int64 → Int64} {st st' : List Value} (h : b2l f st = some st') : ∃ x y r, st = .long y :: .long x :: r ∧ st' = .long (f x y) :: r := by
  unfold b2l at h
  split at h
  · cases h; exact ⟨_, _, _, rfl, rfl⟩
  · cases h
theorem ldI_some {v : Value} {st st' : List Value} (h : ldI v st = some st') : ∃ x, v = .int x ∧ st' = .int x :: st := by
  unfold ldI at h
  split at h
  · cases h; exact ⟨_, rfl, rfl⟩
  · cases h
theorem ldL_some {v : Value} {st st' : List Value} (h : ldL v st = some st') : ∃ x, v = .long x ∧ st' = .long x :: st := by
  unfold ldL at h
  split at h
  · cases h; exact ⟨_, rfl, rfl⟩
  · cases h
theorem ldA_some {v : Value} {st st' : List Value} (h : ldA v st = some st') : ∃ x, v = .ref x ∧ st' = .ref x :: st := by
  unfold ldA at h
  split at h
  · cases h; exact ⟨_, rfl, rfl⟩
  · cases h
section
variable {p : Program} {l : Launch} {en : Env} {R : Room} {s : State} {m : MethodId} {args : Array Value} {below : List Frame} {meth : Method} {c : Code} {Qw : State → Prop} {w : Wn} {own nL kc ks n0 nmax : Nat} {cc : ByteArray} {ls st : List Value} {M : Mm}

set_option maxHeartbeats 4000000 in
theorem sd0 {e : En} {st' : List Value} (X : Ctx p R s m args c w own nL kc ks n0 nmax cc) (hok : okB own nL e = true) (hd : decode cc e.1 = .ok (e.2.1, e.2.2.1)) (hg : e.2.2.2.2.1 = 0) (h : pst e ls st M = some st') (k : Wst p l en R s m args below meth c Qw w nL kc ks n0 nmax (e.1 + e.2.2.1) ls st' M) : Wst p l en R s m args below meth c Qw w nL kc ks n0 nmax e.1 ls st M := by
  obtain ⟨pc, ins, len, hb, g, ⟨a, b, c3, d⟩, v, sw⟩ := e
  obtain ⟨hx, hc, hml, hown, hts, ⟨hK, hN, hZ, -⟩, -⟩ := X
  simp only at hg hd k
  subst hg
  intro H locs arr hR hS hL hn1 hn2
  have kk := k H locs arr hR hS hL hn1 hn2
  clear k
  unfold pst at h
  simp only at h
  split at h
  · have hok := band hok
    obtain rfl : v = Value.int (Int32.ofInt _) := of_decide_eq_true hok.1
    obtain rfl : len = 1 := nbq hok.2
    cases h
    exact lv_iconst hx hc hd rfl kk
  · have hok := band hok
    obtain rfl : v = Value.int (Int8.ofInt _).toInt32 := of_decide_eq_true hok.1
    obtain rfl : len = 2 := nbq hok.2
    cases h
    exact lv_bipush hx hc hd rfl kk
  · have hok := band hok
    obtain rfl : v = Value.int (Int16.ofInt _).toInt32 := of_decide_eq_true hok.1
    obtain rfl : len = 3 := nbq hok.2
    cases h
    exact lv_sipush hx hc hd rfl kk
  · have hok := band hok
    obtain rfl : len = 2 := nbq hok.2
    have hok1 := hok.1
    cases h
    cases v with
    | int x => exact lv_ldc hx hc hown (hts _ (kTab_ofI hok1)) hd kk
    | ref q =>
      have hq := band hok1
      have hq2 := band hq.1
      obtain rfl : q = 900 := nbq hq2.1
      obtain rfl : own = 8 := nbq hq2.2
      have hi := nbq hq.2
      subst hi
      refine va_ldcS hx hc hown hZ hd ?_
      exact kk
    | _ => cases hok1
  · have hok := band hok
    obtain rfl : len = 3 := nbq hok.2
    have hok1 := hok.1
    cases h
    cases v with
    | int x => exact lv_ldcw hx hc hown (hts _ (kTab_ofI hok1)) hd kk
    | _ => cases hok1
  · have hok := band hok
    obtain rfl : v = Value.long (Int64.ofNat _) := of_decide_eq_true hok.1
    obtain rfl : len = 1 := nbq hok.2
    cases h
    exact lv_lconst hx hc hd rfl kk
  · have hok := band hok
    obtain rfl : len = 3 := nbq hok.2
    have hok1 := hok.1
    cases h
    cases v with
    | long x => exact lv_ldc2 hx hc hown (hts _ (kTab_ofL hok1)) hd kk
    | _ => cases hok1
  · have hok := band hok
    obtain rfl : a = _ := nbq hok.1
    obtain rfl : len = 2 := nbq hok.2
    obtain ⟨x, hx1, rfl⟩ := ldI_some h
    exact lv_iload hx hc hd (hL.get hx1 rfl) kk
  · have hok := band hok
    have ha : a = _ := nbq hok.1
    obtain rfl : len = 1 := nbq hok.2
    obtain ⟨x, hx1, rfl⟩ := ldI_some h
    exact lv_iload_n hx hc hd ha.symm (hL.get hx1 rfl) kk
  · have hok := band hok
    obtain rfl : a = _ := nbq hok.1
    obtain rfl : len = 2 := nbq hok.2
    obtain ⟨x, hx1, rfl⟩ := ldL_some h
    exact lv_lload hx hc hd (hL.get hx1 rfl) kk
  · have hok := band hok
    have ha : a = _ := nbq hok.1
    obtain rfl : len = 1 := nbq hok.2
    obtain ⟨x, hx1, rfl⟩ := ldL_some h
    exact lv_lload_n hx hc hd ha.symm (hL.get hx1 rfl) kk
  · have hok := band hok
    obtain rfl : a = _ := nbq hok.1
    obtain rfl : len = 2 := nbq hok.2
    obtain ⟨x, hx1, rfl⟩ := ldA_some h
    exact lv_aload hx hc hd (hL.get hx1 rfl) kk
  · have hok := band hok
    have ha : a = _ := nbq hok.1
    obtain rfl : len = 1 := nbq hok.2
    obtain ⟨x, hx1, rfl⟩ := ldA_some h
    exact lv_aload_n hx hc hd ha.symm (hL.get hx1 rfl) kk
  · obtain rfl : len = 1 := nbq hok
    obtain ⟨x, y, r, rfl, rfl⟩ := b2i_some h
    exact lv_iadd hx hc hd kk
  · obtain rfl : len = 1 := nbq hok
    obtain ⟨x, y, r, rfl, rfl⟩ := b2i_some h
    exact lv_isub hx hc hd kk
  · obtain rfl : len = 1 := nbq hok
    obtain ⟨x, y, r, rfl, rfl⟩ := b2i_some h
    exact lv_imul hx hc hd kk
  · obtain rfl : len = 1 := nbq hok
    obtain ⟨x, y, r, rfl, rfl⟩ := b2i_some h
    exact lv_iand hx hc hd kk
  · obtain rfl : len = 1 := nbq hok
    obtain ⟨x, y, r, rfl, rfl⟩ := b2i_some h
    exact lv_ior hx hc hd kk
  · obtain rfl : len = 1 := nbq hok
    obtain ⟨x, y, r, rfl, rfl⟩ := b2i_some h
    exact lv_ixor hx hc hd kk
  · obtain rfl : len = 1 := nbq hok
    obtain ⟨x, y, r, rfl, rfl⟩ := b2i_some h
    exact lv_ishl hx hc hd kk
  · obtain rfl : len = 1 := nbq hok
    obtain ⟨x, y, r, rfl, rfl⟩ := b2i_some h
    exact lv_ishr hx hc hd kk
  · obtain rfl : len = 1 := nbq hok
    obtain ⟨x, y, r, rfl, rfl⟩ := b2i_some h
    exact lv_iushr hx hc hd rfl kk
  · obtain rfl : len = 1 := nbq hok
    obtain ⟨x, y, r, rfl, rfl⟩ := b2l_some h
    exact lv_ladd hx hc hd kk
  · obtain rfl : len = 1 := nbq hok
    obtain ⟨x, y, r, rfl, rfl⟩ := b2l_some h
    exact lv_lsub hx hc hd kk
  · obtain rfl : len = 1 := nbq hok
    obtain ⟨x, y, r, rfl, rfl⟩ := b2l_some h
    exact lv_lmul hx hc hd kk
  · obtain rfl : len = 1 := nbq hok
    obtain ⟨x, y, r, rfl, rfl⟩ := b2l_some h
    exact lv_land hx hc hd kk
  · obtain rfl : len = 1 := nbq hok
    obtain ⟨x, y, r, rfl, rfl⟩ := b2l_some h
    exact lv_lor hx hc hd kk
  · obtain rfl : len = 1 := nbq hok
    split at h
    · cases h
      exact lv_ineg hx hc hd kk
    · cases h
  · obtain rfl : len = 1 := nbq hok
    split at h
    · cases h
      exact lv_lneg hx hc hd kk
    · cases h
  · obtain rfl : len = 1 := nbq hok
    split at h
    · cases h
      exact lv_lshl hx hc hd rfl kk
    · cases h
  · obtain rfl : len = 1 := nbq hok
    split at h
    · cases h
      exact W.lcmp hx hc hd kk
    · cases h
  · obtain rfl : len = 1 := nbq hok
    split at h
    · cases h
      exact lv_i2l hx hc hd rfl kk
    · cases h
  · obtain rfl : len = 1 := nbq hok
    split at h
    · cases h
      exact lv_l2i hx hc hd rfl kk
    · cases h
  · obtain rfl : len = 1 := nbq hok
    split at h
    · cases h
      exact lv_dup hx hc hd rfl kk
    · cases h
      exact lv_dup hx hc hd rfl kk
    · cases h
  · obtain rfl : len = 1 := nbq hok
    split at h
    · cases h
      exact lv_pop hx hc hd rfl kk
    · cases h
      exact lv_pop hx hc hd rfl kk
    · cases h
  · obtain rfl : len = 1 := nbq hok
    split at h
    · cases h
      exact lv_dup2_11 hx hc hd rfl rfl kk
    · cases h
  · have hok := band hok
    obtain rfl : len = 3 := nbq hok.2
    obtain ⟨hl, ha, hb2, ht⟩ := fTab_of hok.1
    simp only at hl ha hb2 ht
    split at h
    · rename_i o r
      split at h
      · rename_i hq
        cases h
        have hq := band hq
        have ho := nbl hq.2
        have hlay := nbq hq.1
        obtain ⟨g1, g2, g3, g4, g5, g6⟩ := cls_ok a ha
        have he := wl_get (w := w) ho
        rw [entE_obj hlay ha] at he
        rw [← ht] at kk
        exact va_get hx hc hts g2 hown hK hR.2.2.2.2 o he g1 b hb2 (hts _ hl) (fun _ z => z) (flds_get hb2) hd kk
      · cases h
    · cases h
  · obtain rfl : len = 1 := nbq hok
    split at h
    · rename_i o r
      split at h
      · rename_i hq
        cases h
        have hq := band hq
        have ho := nbl hq.2
        have he := wl_get (w := w) ho
        have hq1 := band hq.1
        have h13 : 13 ≤ (lay o).1 := Nat.le_of_ble_eq_true hq1.1
        have h15 : (lay o).1 ≤ 15 := Nat.le_of_ble_eq_true hq1.2
        have h3 : (lay o).1 = 13 ∨ (lay o).1 = 14 ∨ (lay o).1 = 15 := by omega
        rcases h3 with h3 | h3 | h3
        · rw [entE_int h3] at he
          exact va_alen hx hc hK hR.2.2.2.2 o 0 he rfl rfl hd kk
        · rw [entE_long h3] at he
          exact va_alen hx hc hK hR.2.2.2.2 o 1 he rfl rfl hd kk
        · rw [entE_bool h3] at he
          exact va_alen hx hc hK hR.2.2.2.2 o 2 he rfl rfl hd kk
      · cases h
    · cases h
  · cases h
set_option maxHeartbeats 4000000 in
theorem sd1 {e : En} {q : List Value × List Value} (X : Ctx p R s m args c w own nL kc ks n0 nmax cc) (hok : okB own nL e = true) (hd : decode cc e.1 = .ok (e.2.1, e.2.2.1)) (hg : e.2.2.2.2.1 = 1) (h : lst e ls st = some q) (k : Wst p l en R s m args below meth c Qw w nL kc ks n0 nmax (e.1 + e.2.2.1) q.1 q.2 M) : Wst p l en R s m args below meth c Qw w nL kc ks n0 nmax e.1 ls st M := by
  obtain ⟨pc, ins, len, hb, g, ⟨a, b, c3, d⟩, v, sw⟩ := e
  obtain ⟨hx, hc, hml, hown, hts, -⟩ := X
  simp only at hg hd k
  subst hg
  intro H locs arr hR hS hL hn1 hn2
  obtain ⟨lv, hl1, hl2⟩ := hL
  unfold lst at h
  simp only at h
  split at h
  · have hok := band hok
    have hok1 := band hok.1
    obtain rfl : a = _ := nbq hok1.1
    obtain rfl : len = 2 := nbq hok.2
    split at h
    · cases h
      refine lv_istore hx hc hd hl1 (nbl hok1.2) rfl (fun arr' h' => ?_)
      exact k H locs arr' hR hS (LRv.set1 hl2 h') hn1 hn2
    · cases h
  · have hok := band hok
    have hok1 := band hok.1
    have ha : a = _ := nbq hok1.1
    obtain rfl : len = 1 := nbq hok.2
    split at h
    · cases h
      refine lv_istore_n hx hc hd rfl hl1 (nbl hok1.2) rfl (fun arr' h' => ?_)
      exact k H locs arr' hR hS (by rw [ha]; exact LRv.set1 hl2 h') hn1 hn2
    · cases h
  · have hok := band hok
    have hok1 := band hok.1
    obtain rfl : a = _ := nbq hok1.1
    obtain rfl : len = 2 := nbq hok.2
    split at h
    · cases h
      refine lv_astore hx hc hd hl1 (nbl hok1.2) rfl (fun arr' h' => ?_)
      exact k H locs arr' hR hS (LRv.set1 hl2 h') hn1 hn2
    · cases h
  · have hok := band hok
    have hok1 := band hok.1
    have ha : a = _ := nbq hok1.1
    obtain rfl : len = 1 := nbq hok.2
    split at h
    · cases h
      refine lv_astore_n hx hc hd rfl hl1 (nbl hok1.2) rfl (fun arr' h' => ?_)
      exact k H locs arr' hR hS (by rw [ha]; exact LRv.set1 hl2 h') hn1 hn2
    · cases h
  · have hok := band hok
    have hok1 := band hok.1
    obtain rfl : a = _ := nbq hok1.1
    obtain rfl : len = 2 := nbq hok.2
    split at h
    · cases h
      refine lv_lstore hx hc hd hl1 (nbl hok1.2) rfl (fun arr' h' => ?_)
      exact k H locs arr' hR hS (LRv.set2 hl2 h') hn1 hn2
    · cases h
  · have hok := band hok
    have hok1 := band hok.1
    have ha : a = _ := nbq hok1.1
    obtain rfl : len = 1 := nbq hok.2
    split at h
    · cases h
      refine lv_lstore_n hx hc hd rfl hl1 (nbl hok1.2) rfl (fun arr' h' => ?_)
      exact k H locs arr' hR hS (by rw [ha]; exact LRv.set2 hl2 h') hn1 hn2
    · cases h
  · have hok := band hok
    have hok1 := band hok.1
    have hok2 := band hok1.1
    obtain rfl : a = _ := nbq hok2.1
    obtain rfl : len = 3 := nbq hok.2
    obtain rfl : v = Value.int (Int32.ofInt _) := of_decide_eq_true hok1.2
    split at h
    · rename_i x hxv
      cases h
      have hm := hl2 _ _ hxv rfl
      obtain ⟨k9, hk9⟩ := List.getElem?_of_mem hm
      refine lv_iinc hx hc hd hl1 hk9 rfl (nbl hok2.2) rfl (fun arr' h' => ?_)
      exact k H locs arr' hR hS (LRv.set1 hl2 h') hn1 hn2
    · cases h
  · cases h
set_option maxHeartbeats 4000000 in
theorem sd2 {e : En} {q : (Prop × Prop) × List Value} (X : Ctx p R s m args c w own nL kc ks n0 nmax cc) (hok : okB own nL e = true) (hd : decode cc e.1 = .ok (e.2.1, e.2.2.1)) (hg : e.2.2.2.2.1 = 2) (h : cst e st = some q) (k1 : q.1.1 → Wst p l en R s m args below meth c Qw w nL kc ks n0 nmax e.2.2.2.2.2.1.1 ls q.2 M) (k2 : q.1.2 → Wst p l en R s m args below meth c Qw w nL kc ks n0 nmax (e.1 + e.2.2.1) ls q.2 M) : Wst p l en R s m args below meth c Qw w nL kc ks n0 nmax e.1 ls st M := by
  obtain ⟨pc, ins, len, hb, g, ⟨a, b, c3, d⟩, v, sw⟩ := e
  obtain ⟨hx, hc, hml, hown, hts, -⟩ := X
  simp only at hg hd k1 k2
  subst hg
  intro H locs arr hR hS hL hn1 hn2
  unfold cst at h
  simp only at h
  split at h
  · rename_i o off
    have hok := band hok
    obtain rfl : len = 3 := nbq hok.2
    have ht : ((pc : Nat) : Int) + off = ((a : Nat) : Int) := of_decide_eq_true hok.1
    split at h
    · cases h
      cases o
      · exact lv_if_eq hx hc hd ht (fun z => k1 z H locs arr hR hS hL hn1 hn2) (fun z => k2 z H locs arr hR hS hL hn1 hn2)
      · exact lv_if_ne hx hc hd ht (fun z => k1 z H locs arr hR hS hL hn1 hn2) (fun z => k2 z H locs arr hR hS hL hn1 hn2)
      · exact lv_if_lt hx hc hd ht (fun z => k1 z H locs arr hR hS hL hn1 hn2) (fun z => k2 z H locs arr hR hS hL hn1 hn2)
      · exact lv_if_ge hx hc hd ht (fun z => k1 z H locs arr hR hS hL hn1 hn2) (fun z => k2 z H locs arr hR hS hL hn1 hn2)
      · exact lv_if_gt hx hc hd ht (fun z => k1 z H locs arr hR hS hL hn1 hn2) (fun z => k2 z H locs arr hR hS hL hn1 hn2)
      · exact lv_if_le hx hc hd ht (fun z => k1 z H locs arr hR hS hL hn1 hn2) (fun z => k2 z H locs arr hR hS hL hn1 hn2)
    · cases h
  · rename_i o off
    have hok := band hok
    obtain rfl : len = 3 := nbq hok.2
    have ht : ((pc : Nat) : Int) + off = ((a : Nat) : Int) := of_decide_eq_true hok.1
    split at h
    · cases h
      cases o
      · exact lv_icmp_eq hx hc hd ht (fun z => k1 z H locs arr hR hS hL hn1 hn2) (fun z => k2 z H locs arr hR hS hL hn1 hn2)
      · exact lv_icmp_ne hx hc hd ht (fun z => k1 z H locs arr hR hS hL hn1 hn2) (fun z => k2 z H locs arr hR hS hL hn1 hn2)
      · exact lv_icmp_lt hx hc hd ht (fun z => k1 z H locs arr hR hS hL hn1 hn2) (fun z => k2 z H locs arr hR hS hL hn1 hn2)
      · exact lv_icmp_ge hx hc hd ht (fun z => k1 z H locs arr hR hS hL hn1 hn2) (fun z => k2 z H locs arr hR hS hL hn1 hn2)
      · exact lv_icmp_gt hx hc hd ht (fun z => k1 z H locs arr hR hS hL hn1 hn2) (fun z => k2 z H locs arr hR hS hL hn1 hn2)
      · exact lv_icmp_le hx hc hd ht (fun z => k1 z H locs arr hR hS hL hn1 hn2) (fun z => k2 z H locs arr hR hS hL hn1 hn2)
    · cases h
  · cases h
theorem sd3 {e : En} (X : Ctx p R s m args c w own nL kc ks n0 nmax cc) (hok : okB own nL e = true) (hd : decode cc e.1 = .ok (e.2.1, e.2.2.1)) (hg : e.2.2.2.2.1 = 3) (k : Wst p l en R s m args below meth c Qw w nL kc ks n0 nmax e.2.2.2.2.2.1.1 ls st M) : Wst p l en R s m args below meth c Qw w nL kc ks n0 nmax e.1 ls st M := by
  obtain ⟨pc, ins, len, hb, g, ⟨a, b, c3, d⟩, v, sw⟩ := e
  obtain ⟨hx, hc, hml, hown, hts, -⟩ := X
  simp only at hg hd k
  subst hg
  intro H locs arr hR hS hL hn1 hn2
  cases ins with
  | goto off =>
    have hok := band hok
    obtain rfl : len = 3 := nbq hok.2
    exact lv_goto hx hc hd (of_decide_eq_true hok.1) (k H locs arr hR hS hL hn1 hn2)
  | _ => cases hok
end
