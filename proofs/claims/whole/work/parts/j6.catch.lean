/-! A THROW THAT IS CAUGHT: a table of rows that name classes -/
/-- the search for a handler ends with h, and leaves the tables vm' -/
def cx_F (e : Env) (s : State) (f : JFrame) (a : Addr) (h : Handler) (vm' : Vm) : Prop := ∀ (Q : Handler → Pre) (E : CtlPost) (d : Bool) (acts : List Action), wp (findHandler f a) Q E e d acts s ↔ Q h d acts (s.setVm vm')
section
variable {e : Env} {s : State} {f : JFrame} {a : Addr} {cell : Cell} {x : ExceptionTableEntry} {t : List ExceptionTableEntry} {cl : ClassId} {Q : Handler → Pre} {E : CtlPost} {d : Bool} {acts : List Action}
/-- one row that covers the place: it catches, or the search goes on -/
theorem cx_row (hx : covers x f.pc = true) (h0 : x.catchType ≠ 0) (hl : s.vm.ClassLinks e.platform f.method.cls x.catchType cl) (hcell : s.heap[a]? = some cell) (hobj : ∀ k, cell.vm ≠ .statics k)
    (hk : ∃ k, s.vm.classes[cell.cls]? = some k) (hc : ∃ k, s.vm.classes[cl]? = some k) :
    (s.vm.assignable cell.cls cl = true → (wp (findHandler.go f a (x :: t)) Q E e d acts s ↔ Q (.found x.handlerPc) d acts (s.setVm (s.vm.noted f.method.cls x.catchType (.cls cl))))) ∧
    (s.vm.assignable cell.cls cl = false → (wp (findHandler.go f a (x :: t)) Q E e d acts s ↔ wp (findHandler.go f a t) Q E e d acts (s.setVm (s.vm.noted f.method.cls x.catchType (.cls cl))))) := by
  simp only [covers] at hx
  obtain ⟨w1, w2⟩ := (resolveClass_links e.toSetting hl).op (op := VmOp.resolveClass f.method.cls x.catchType) rfl
  have hal : s.vm.Alike (s.vm.noted f.method.cls x.catchType (.cls cl)) := (Vm.Alike.refl s.vm).noted _ _ _
  obtain ⟨i1, hi1⟩ := hk
  obtain ⟨i2, hi2⟩ := hc
  obtain ⟨j1, hj1, -⟩ := hal.2.2 _ _ hi1
  obtain ⟨j2, hj2, -⟩ := hal.2.2 _ _ hi2
  refine ⟨fun hf => ?_, fun hf => ?_⟩
  · have hf' : (s.vm.noted f.method.cls x.catchType (.cls cl)).assignable cell.cls cl = true := by rw [hal.assignable]; exact hf
    simp [findHandler.go, hx, h0, w1, w2, hcell, hobj, hj1, hj2, hf', VmOp.dirties, VmOp.acts]
  · have hf' : (s.vm.noted f.method.cls x.catchType (.cls cl)).assignable cell.cls cl = false := by rw [hal.assignable]; exact hf
    simp [findHandler.go, hx, h0, w1, w2, hcell, hobj, hj1, hj2, hf', VmOp.dirties, VmOp.acts]
end
section
variable {p : Program} {l : Launch} {e : Env} {R : Room} {s : State} {m : MethodId} {args : Array Value} {below : List Frame} {meth : Method} {c : Code} {T : State} {H : Heap} {locs : List Loc} {cells slots : Nat} {Q : State → Prop} {pc : Nat} {ls : Array Slot} {rest : List Value}
/-- the machine goes to the handler -/
theorem cx_to {q : Addr} {hp : Nat} {vm' : Vm} (hW : s.WarmedH vm') (hf : cx_F e ((T.setTop (F0 m pc ls rest)).pushFrame (.throwing q)) (F0 m pc ls rest) q (.found hp) vm') (X : Stand p l e R s m args below meth c T locs cells slots) :
    Stand p l e R s m args below meth c (T.setVm vm') locs cells slots ∧ Steps p.tables e below ((T.setTop (F0 m pc ls rest)).pushFrame (.throwing q)) ((T.setVm vm').setTop (F0 m hp ls [.ref q])) := by
  refine ⟨X.noted hW, ?_⟩
  have hA : At T (F0 m pc ls rest).method c below := X.here
  obtain ⟨hgo, hw⟩ := hA.throwing q
  refine Steps.head hgo hw ?_
  have hst : (stepThrowing e ((T.setTop (F0 m pc ls rest)).pushFrame (.throwing q)) q (.java (F0 m pc ls rest) :: T.frames.tail)).Is ((((T.setTop (F0 m pc ls rest)).pushFrame (.throwing q)).setVm vm').setFrames (.java (F0 m hp ls [.ref q]) :: T.frames.tail)) [] := by
    simp only [stepThrowing, searchFrame, vmDo]
    generalize hr : Sem.go _ e false [] ((T.setTop (F0 m pc ls rest)).pushFrame (.throwing q)) = res
    obtain ⟨as, rfl, ha⟩ := Sem.eq_ok_of hr (a := Handler.found hp) (s' := ((T.setTop (F0 m pc ls rest)).pushFrame (.throwing q)).setVm vm') (acts' := []) (by simp [hf _ _ _ _])
    exact ⟨rfl, ha⟩
  rw [stepThread_throwing (frames_entered hA.top _), hst.1]
  obtain ⟨g₀, hg⟩ := Option.isSome_iff_exists.mp hA.top
  obtain ⟨r, hr⟩ := State.topJava?_eq_some.mp hg
  have hr' : (T.setVm vm').frames = .java g₀ :: r := hr
  have hswap : ∀ (u : State) (F G : List Frame), ((u.setFrames F).setVm vm').setFrames G = (u.setVm vm').setFrames G := fun u F G => by
    have h1 : (u.setFrames F).setVm vm' = (u.setVm vm').setFrames F := rfl
    rw [h1, State.setFrames_setFrames]
  rw [State.setTop_of_frames _ hr', hr, List.tail_cons, State.pushFrame, hswap, State.setTop_of_frames _ hr, hswap]
  exact Steps.refl _
/-- caught by the first or by the second of two rows that both cover the place -/
theorem cx_catch {own n1 n2 E : String} {ce : Cell} {q : Addr} {x1 x2 : ExceptionTableEntry} (hown : s.vm.findClass own = some m.cls) (htab : c.exceptionTable.toList = [x1, x2]) (v1 : covers x1 pc = true) (v2 : covers x2 pc = true) (z1 : x1.catchType ≠ 0) (z2 : x2.catchType ≠ 0)
    (k1 : (Cond.classLink own x1.catchType n1).before args s = true) (k2 : (Cond.classLink own x2.catchType n2).before args s = true) (hcell : H[q]? = some ce) (hv : ce.vm = .none) (hcl : s.vm.findClass E = some ce.cls)
    (kk : (((Cond.castable E n1).before args s = true ∧ W p l e R s m args below meth c H locs cells slots Q (F0 m x1.handlerPc ls [.ref q])) ∨ (va_Nc E n1 s ∧ (Cond.castable E n2).before args s = true ∧ W p l e R s m args below meth c H locs cells slots Q (F0 m x2.handlerPc ls [.ref q])))) : vx_W p l e R s m args below meth c H locs cells slots Q (F0 m pc ls rest) q := by
  intro T hT X
  have hpl : e.platform.magicAccessors = ({} : Platform).magicAccessors := by rw [X.admits.platform]
  obtain ⟨t1, ht1, lk1⟩ := Cond.classLink_spec hown k1 e.platform hpl
  obtain ⟨t2, ht2, lk2⟩ := Cond.classLink_spec hown k2 e.platform hpl
  obtain ⟨kE, hkE, -⟩ := Vm.findClass_spec hcl
  obtain ⟨kt1, hkt1, -⟩ := Vm.findClass_spec ht1
  obtain ⟨kt2, hkt2, -⟩ := Vm.findClass_spec ht2
  obtain ⟨S, hS⟩ : ∃ z, z = (T.setTop (F0 m pc ls rest)).pushFrame (.throwing q) := ⟨_, rfl⟩
  have hSv : S.vm = T.vm := by rw [hS]; rfl
  have hSW : s.WarmedH S.vm := by rw [hSv]; exact X.warmed
  have hSc : S.heap[q]? = some ce := by rw [hS]; show T.heap[q]? = some ce; rw [hT]; exact hcell
  have hobj : ∀ k, ce.vm ≠ .statics k := fun k h => by rw [hv] at h; cases h
  have hm : S.vm.method? m = some meth := by rw [hSv]; exact X.method'
  have cls' : ∀ {vm' : Vm}, s.WarmedH vm' → ∀ {i : ClassId} {k : Class}, s.vm.classes[i]? = some k → ∃ k', vm'.classes[i]? = some k' := fun {vm'} hW {i} {k} hk => by
    obtain ⟨k', hk', -⟩ := hW.alike.2.2 _ _ hk
    exact ⟨k', hk'⟩
  obtain ⟨dk1, _, _, _, hd1, _, _, _, _, _, _, hopen1⟩ := lk1.here
  obtain ⟨dk2, _, _, _, hd2, _, _, _, _, _, _, hopen2⟩ := lk2.here
  have hW1 : s.WarmedH (S.vm.noted m.cls x1.catchType (.cls t1)) := hSW.noted hd1 hopen1 (State.rightAt_cls lk1)
  rcases kk with ⟨c1, kk⟩ | ⟨⟨c5, c6, g1, g2, g3⟩, c2, kk⟩
  · obtain ⟨c3, c4, hc3, hc4, hasg⟩ := Cond.castable_spec c1
    cases Option.some.inj (hc3.symm.trans hcl)
    cases Option.some.inj (hc4.symm.trans ht1)
    obtain ⟨vy1, hv1⟩ : ∃ v, v = S.vm.noted m.cls x1.catchType (.cls t1) := ⟨_, rfl⟩
    have hf : cx_F e S (F0 m pc ls rest) q (.found x1.handlerPc) vy1 := fun Q' E' d acts => by
      rw [hv1, _root_.Jvm.W.findHandler_eq (f := F0 m pc ls rest) hm X.code, htab]
      exact (cx_row (f := F0 m pc ls rest) v1 z1 (hSW.classLinks lk1) hSc hobj (cls' hSW hkE) (cls' hSW hkt1)).1 (by rw [hSW.alike.assignable]; exact hasg)
    rw [hS] at hf
    obtain ⟨X', st⟩ := cx_to (by rw [hv1]; exact hW1) hf X
    obtain ⟨t, a1, b1⟩ := kk (T.setVm vy1) hT X'
    exact ⟨t, st.trans a1, b1⟩
  · obtain ⟨c3, c4, hc3, hc4, hasg⟩ := Cond.castable_spec c2
    cases Option.some.inj (hc3.symm.trans hcl)
    cases Option.some.inj (hc4.symm.trans ht2)
    cases Option.some.inj (g1.symm.trans hcl)
    cases Option.some.inj (g2.symm.trans ht1)
    have hW2 : s.WarmedH ((S.vm.noted m.cls x1.catchType (.cls t1)).noted m.cls x2.catchType (.cls t2)) := hW1.noted hd2 hopen2 (State.rightAt_cls lk2)
    obtain ⟨vy2, hv2⟩ : ∃ v, v = (S.vm.noted m.cls x1.catchType (.cls t1)).noted m.cls x2.catchType (.cls t2) := ⟨_, rfl⟩
    have hf : cx_F e S (F0 m pc ls rest) q (.found x2.handlerPc) vy2 := fun Q' E' d acts => by
      rw [hv2, _root_.Jvm.W.findHandler_eq (f := F0 m pc ls rest) hm X.code, htab, (cx_row (f := F0 m pc ls rest) v1 z1 (hSW.classLinks lk1) hSc hobj (cls' hSW hkE) (cls' hSW hkt1)).2 (by rw [hSW.alike.assignable]; exact g3)]
      exact (cx_row (s := S.setVm (S.vm.noted m.cls x1.catchType (.cls t1))) (f := F0 m pc ls rest) v2 z2 (hW1.classLinks lk2) hSc hobj (cls' hW1 hkE) (cls' hW1 hkt2)).1 (by show (S.vm.noted m.cls x1.catchType (.cls t1)).assignable _ _ = true; rw [hW1.alike.assignable]; exact hasg)
    rw [hS] at hf
    obtain ⟨X', st⟩ := cx_to (by rw [hv2]; exact hW2) hf X
    obtain ⟨t, a1, b1⟩ := kk (T.setVm vy2) hT X'
    exact ⟨t, st.trans a1, b1⟩
end
