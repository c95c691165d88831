/-! THE LANGUAGE'S TEXT: String.length and String.charAt -/
abbrev sLen : MethodName := ⟨"java/lang/String", "length", "()I"⟩
abbrev sCod : MethodName := ⟨"java/lang/String", "coder", "()B"⟩
abbrev sAt : MethodName := ⟨"java/lang/String", "charAt", "(I)C"⟩
abbrev sLat : MethodName := ⟨"java/lang/String", "isLatin1", "()Z"⟩
abbrev sChk : MethodName := ⟨"java/lang/String", "checkIndex", "(II)V"⟩
abbrev sL1 : MethodName := ⟨"java/lang/StringLatin1", "charAt", "([BI)C"⟩
abbrev sPre : MethodName := ⟨"jdk/internal/util/Preconditions", "checkIndex", "(IILjava/util/function/BiFunction;)I"⟩
/-- what these methods know: the heap as the law began, below; the text -/
def ZU (w : Wn) (U : State) : Prop := (∀ q, q < w.1 → U.heap[q]? = w.2.2.1[q]?) ∧ ZT w U
/-- a method that answers v and changes nothing -/
def JM (l : Launch) (B : State → Prop) (y : MethodName) (cc : ByteArray) (n : Nat) (ret : Option FieldType) (d lo : Nat) (As : List Value) (v : Option Value) : Prop := Met l y (Cond.code y cc n ret :: gw) { frames := d, cells := 0, slots := 0, locals := lo } (va_Pc As B) (fun _ st oc t => oc = .returned v ∧ t.heap = st.heap) 0 0 (fun _ => False)
theorem ZU.blind {w : Wn} {As : List Value} : FrameBlind (va_Pc As (ZU w)) := fun a U g mk z => ⟨z.1, z.2.1, z.2.2.moved (u := U) (U := U.calling g mk a) (Vm.Alike.refl U.vm)⟩
theorem ZU.at {w : Wn} {s : State} (h : ZU w s) : va_O "java/lang/String" w.2.1 (AW w) s s.heap ∧ va_OF "java/lang/String" "coder" "B" (.int 0) w.2.1 (AW w) s s.heap ∧ (∃ v : Nat, va_OF "java/lang/String" "value" "[B" (.ref v) w.2.1 (AW w) s s.heap ∧ va_T .byte v 156 (fun j => .int (nI (lch j))) (AW w) s s.heap) ∧ va_Z "java/lang/String" "COMPACT_STRINGS" "Z" (.int 1) (AW w) s s.heap ∧ va_Zq "jdk/internal/util/Preconditions" "SIOOBE_FORMATTER" "Ljava/util/function/BiFunction;" (AW w) s s.heap := by
  obtain ⟨hq, h1, h2, ⟨v, h3, h4⟩, h5, h6⟩ := h
  have k : ∀ a : Nat, a < w.2.2.1.size → ¬ AW w a → s.heap[a]? = w.2.2.1[a]? := fun a _ ha => hq a (Nat.lt_of_not_le ha)
  exact ⟨h1.kept k, h2.kept k, ⟨v, h3.kept k, h4.kept k⟩, h5.kept k, h6.kept k⟩
theorem good_J {y : MethodName} {cc : ByteArray} {n : Nat} {ret : Option FieldType} (h : Cond.code y cc n ret ∈ gw) : GoodIn gw (Cond.code y cc n ret :: gw) := fun x hx => by
  have hg : x ∈ gw := by
    rcases List.mem_cons.mp hx with rfl | h'
    · exact h
    · exact h'
  exact ⟨hg, good_of_word (gw_good x hg)⟩
section
variable {p : Program} {l : Launch} {en : Env} {R : Room} {s : State} {m : MethodId} {args : Array Value} {below : List Frame} {meth : Method} {c : Code} {Qw : State → Prop} {w : Wn} {H : Heap} {locs : List Loc} {cells slots : Nat} {arr : Array Slot} {pc nL : Nat} {cc : ByteArray} {own : String} {st0 rest : List Value}
theorem jcall {v : Option Value} (hr : va_Run p l en R s m args below meth c H locs cells slots 0 0 (F0 m pc arr st0) rest (fun st oc t => oc = .returned v ∧ t.heap = st.heap) (fun _ => False))
    (kk : W p l en R s m args below meth c H locs cells slots Qw (F0 m (pc + 3) arr (v.toList ++ rest))) : W p l en R s m args below meth c H locs cells slots Qw (F0 m pc arr st0) := by
  intro T hT X
  obtain ⟨v', st₀, t, T', L, h0, X', hL, e1, e2, ⟨hv, hh⟩, st⟩ := hr T hT X
  cases hv
  have hn : L = [] := by
    cases L with
    | nil => rfl
    | cons a r => exact (hL a List.mem_cons_self).elim
  subst hn
  rw [List.append_nil] at X'
  obtain ⟨t2, a1, b1⟩ := kk T' (by rw [e1, hh, h0]) X'
  exact ⟨t2, st t2 a1, b1⟩
/-- a static call of one of them -/
theorem jS {y : MethodName} {bytes : ByteArray} {n np d lo index : Nat} {ret : Option FieldType} {As : List Value} {v : Option Value} {B : State → Prop} (hM : JM l B y bytes n ret d lo As v) (S : CallFix p m c cc nL s args gw own) (hbl : FrameBlind (va_Pc As B)) (hB : ∀ U : State, U.heap = H → s.WarmedH U.vm → B U) (hc : Cond.code y bytes n ret ∈ gw) (hi : Cond.initialized y.cls ∈ gw) (hl : Cond.methodLink own index y ∈ gw) (hs : Cond.static y ∈ gw)
    (hy : y.cls ≠ "java/lang/invoke/MethodHandle" ∧ y.cls ≠ "java/lang/invoke/VarHandle" ∧ (parseMethodDescriptor y.desc).map (fun d => d.parameters.length) = some np) (hroom : d + 1 ≤ R.frames ∧ 8 + (n + 11) + lo ≤ R.locals) (hcs : cells ≤ R.cells ∧ slots ≤ R.slots) (hn : As.length = np) (hsz : arr.size = nL) (h8 : (rest.map fun v => v.category).sum ≤ 8) (hd : decode cc pc = .ok (.invokestatic index, 3)) (hst : st0 = As.reverse ++ rest)
    (kk : W p l en R s m args below meth c H locs cells slots Qw (F0 m (pc + 3) arr (v.toList ++ rest))) : W p l en R s m args below meth c H locs cells slots Qw (F0 m pc arr st0) := by
  have hts := S.2.2.2.2
  refine jcall (va_runS (As := As) (rest := rest) S hM ⟨callB_of np hts (good_J hc) rfl rfl rfl (hts _ hi) (hts _ hl) hy hroom, hts _ hs⟩ ⟨hbl, fun U hh hW => ⟨rfl, hB U hh hW⟩⟩ rfl hn hsz hst ?_ hd hcs) kk
  show 2 * 0 + _ ≤ 8
  omega
/-- a call of one of them on the text -/
theorem jV {y : MethodName} {bytes : ByteArray} {n np d lo index b : Nat} {A : Nat → Prop} {ret : Option FieldType} {As : List Value} {v : Option Value} {B : State → Prop} (hM : JM l B y bytes n ret d lo (.ref b :: As) v) (S : CallFix p m c cc nL s args gw own) (hbl : FrameBlind (va_Pc (.ref b :: As) B)) (hB : ∀ U : State, U.heap = H → s.WarmedH U.vm → B U) (hO : va_O "java/lang/String" b A s H) (hc : Cond.code y bytes n ret ∈ gw) (hi : Cond.initialized y.cls ∈ gw) (hl : Cond.methodLink own index y ∈ gw) (hs : Cond.instanceMethod y ∈ gw ∧ Cond.selects "java/lang/String" y y ∈ gw)
    (hy : y.cls ≠ "java/lang/invoke/MethodHandle" ∧ y.cls ≠ "java/lang/invoke/VarHandle" ∧ (parseMethodDescriptor y.desc).map (fun d => d.parameters.length) = some np) (hroom : d + 1 ≤ R.frames ∧ 8 + (n + 11) + lo ≤ R.locals) (hcs : cells ≤ R.cells ∧ slots ≤ R.slots) (hn : As.length = np) (hsz : arr.size = nL) (h8 : (rest.map fun v => v.category).sum ≤ 8) (hd : decode cc pc = .ok (.invokevirtual index, 3)) (hst : st0 = As.reverse ++ .ref b :: rest)
    (kk : W p l en R s m args below meth c H locs cells slots Qw (F0 m (pc + 3) arr (v.toList ++ rest))) : W p l en R s m args below meth c H locs cells slots Qw (F0 m pc arr st0) := by
  have hts := S.2.2.2.2
  obtain ⟨cell, h1, h2, h3, -⟩ := hO
  refine jcall (va_runV (As := As) (b := b) (rest := rest) (C := "java/lang/String") S hM ⟨callB_of np hts (good_J hc) rfl rfl rfl (hts _ hi) (hts _ hl) hy hroom, hts _ hs.1, hts _ hs.2⟩ ⟨hbl, ⟨cell, h1, h2, h3⟩, fun U hh hW => ⟨rfl, hB U hh hW⟩⟩ rfl hn hsz hst ?_ hd hcs) kk
  show 2 * 0 + _ ≤ 8
  omega
end
