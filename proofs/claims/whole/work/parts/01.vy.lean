/-! a throw that the first row of the method's own table catches, the row's class linked before or only now. My own row, out of the laws on the search, on links and on walks; it takes the place of the printed vx_catch, which names a law of Shelf42 -/
section VY
variable {p : Program} {l : Launch} {e : Env} {R : Room} {s : State} {m : MethodId} {args : Array Value} {below : List Frame} {meth : Method} {c : Code} {H : Heap} {locs : List Loc} {cells slots : Nat} {Q : State → Prop} {pc : Nat} {ls : Array Slot} {rest : List Value}
/-- what the search answers at the first row, and the tables that it leaves -/
theorem vy_find {S : State} {g : JFrame} {q : Addr} {x : ExceptionTableEntry} {suf : List ExceptionTableEntry} {k : ClassId} {ce : Cell} {mt : Method} (hm : S.vm.method? g.method = some mt) (hc : mt.code = some c)
    (htab : c.exceptionTable.toList = x :: suf) (hx : covers x g.pc = true) (h0 : x.catchType ≠ 0) (hl : S.vm.ClassLinks e.platform g.method.cls x.catchType k) (hce : S.heap[q]? = some ce) (hv : ce.vm = .none)
    (hfit : S.vm.assignable ce.cls k = true) (Qh : Handler → Pre) (E : CtlPost) (d : Bool) (acts : List Action) :
    wp (findHandler g q) Qh E e d acts S ↔ Qh (.found x.handlerPc) d acts (S.setVm (S.vm.noted g.method.cls x.catchType (.cls k))) := by
  obtain ⟨-, -, -, kk, -, -, -, -, -, hkk, -, -⟩ := hl.here
  obtain ⟨kc, hkc⟩ := Vm.classAt_of_assignable hfit ⟨kk, hkk⟩
  have hA : S.vm.Alike (S.vm.noted g.method.cls x.catchType (.cls k)) := (Vm.Alike.refl S.vm).noted _ _ _
  obtain ⟨kk', hkk', -⟩ := hA.2.2 _ _ hkk
  obtain ⟨kc', hkc', -⟩ := hA.2.2 _ _ hkc
  have hfit' : (S.vm.noted g.method.cls x.catchType (.cls k)).assignable ce.cls k = true := hA.assignable _ _ ▸ hfit
  obtain ⟨r1, r2⟩ := (resolveClass_links e.toSetting hl).op (op := VmOp.resolveClass g.method.cls x.catchType) rfl
  have hno : ∀ j, ce.vm ≠ .statics j := fun j h => by rw [hv] at h; cases h
  rw [Jvm.W.findHandler_eq hm hc, htab]
  simp only [covers] at hx
  simp [findHandler.go, hx, h0, r1, r2, hce, hno, hkk', hkc', hfit', VmOp.dirties, VmOp.acts]
/-- one step of the machine: from the note over the frame to the frame at the handler -/
theorem vy_step {T : State} {g : JFrame} {q : Addr} {x : ExceptionTableEntry} {suf : List ExceptionTableEntry} {k : ClassId} {ce : Cell} (X : Stand p l e R s m args below meth c T locs cells slots) (hg : g.method = m)
    (htab : c.exceptionTable.toList = x :: suf) (hx : covers x g.pc = true) (h0 : x.catchType ≠ 0) (hl : T.vm.ClassLinks e.platform m.cls x.catchType k) (hce : T.heap[q]? = some ce) (hv : ce.vm = .none) (hfit : T.vm.assignable ce.cls k = true) :
    Steps p.tables e below ((T.setTop g).pushFrame (.throwing q)) ((T.setVm (T.vm.noted m.cls x.catchType (.cls k))).setTop { g with pc := x.handlerPc, stack := [.ref q] }) := by
  subst hg
  obtain ⟨g0, hf⟩ := X.frames_eq
  have find := vy_find (e := e) (S := (T.setTop g).pushFrame (.throwing q)) (g := g) (q := q) (mt := meth) X.method' X.code htab hx h0 hl hce hv hfit
  have step : (stepThrowing e ((T.setTop g).pushFrame (.throwing q)) q (.java g :: T.frames.tail)).1 = (((T.setTop g).pushFrame (.throwing q)).setVm (T.vm.noted g.method.cls x.catchType (.cls k))).setFrames (.java { g with pc := x.handlerPc, stack := [.ref q] } :: T.frames.tail) := by
    simp only [stepThrowing, searchFrame, vmDo]
    generalize hr : Sem.go _ e false [] _ = res
    obtain ⟨as, rfl, -⟩ := Sem.eq_ok_of hr (a := Handler.found x.handlerPc) (s' := ((T.setTop g).pushFrame (.throwing q)).setVm (T.vm.noted g.method.cls x.catchType (.cls k))) (acts' := []) (by simp [find _ _ _ _]; rfl)
    rfl
  obtain ⟨hgo, hw⟩ := X.here.throwing q
  refine Steps.head hgo hw ?_
  rw [stepThread_throwing (frames_entered X.here.top _), step, State.setTop_of_frames (s := T.setVm (T.vm.noted g.method.cls x.catchType (.cls k))) (f := g0) (r := below) _ hf, hf, List.tail_cons, State.pushFrame, State.setTop_of_frames _ hf, State.setFrames_setFrames]
  show Steps p.tables e below (((T.setVm (T.vm.noted g.method.cls x.catchType (.cls k))).setFrames _).setFrames _) _
  rw [State.setFrames_setFrames]
  exact Steps.refl _
/-- caught by the first row of this method's table -/
theorem vy_catch {own name : String} {E : String} {ce : Cell} {q : Addr} (hown : s.vm.findClass own = some m.cls) (x : ExceptionTableEntry) (suf : List ExceptionTableEntry) (htab : c.exceptionTable.toList = x :: suf) (hx : covers x pc = true) (h0 : x.catchType ≠ 0)
    (hlink : (Cond.classLink own x.catchType name).before args s = true) (hcast : (Cond.castable E name).before args s = true) (hcell : H[q]? = some ce) (hv : ce.vm = .none) (hcl : s.vm.findClass E = some ce.cls)
    (kk : W p l e R s m args below meth c H locs cells slots Q (F0 m x.handlerPc ls [.ref q])) : vx_W p l e R s m args below meth c H locs cells slots Q (F0 m pc ls rest) q := by
  intro T hT X
  obtain ⟨a1, a2, ha1, ha2, hasg⟩ := Cond.castable_spec hcast
  cases Option.some.inj (ha1.symm.trans hcl)
  obtain ⟨a3, ha3, hl⟩ := Cond.classLink_spec hown hlink e.platform (by rw [X.admits.platform])
  cases Option.some.inj (ha2.symm.trans ha3)
  obtain ⟨dk, -, -, -, hd, -, -, -, -, -, -, hopen⟩ := hl.here
  have hW : s.WarmedH (T.vm.noted m.cls x.catchType (.cls a2)) := X.warmed.noted hd hopen (State.rightAt_cls hl)
  have st := vy_step X (g := F0 m pc ls rest) (q := q) rfl htab hx h0 (X.warmed.classLinks hl) (by rw [hT]; exact hcell) hv (X.warmed.alike.assignable _ _ ▸ hasg)
  obtain ⟨t, b1, b2⟩ := kk (T.setVm (T.vm.noted m.cls x.catchType (.cls a2))) hT (X.noted hW)
  exact ⟨t, st.trans b1, b2⟩
end VY
