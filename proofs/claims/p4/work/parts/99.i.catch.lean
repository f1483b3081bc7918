/-! AN EXCEPTION THAT A CALLEE HAS THROWN, caught by the only row of this method's table (the printed law for it leans on a shelf that a round hasn't) -/
section AXX
variable {p : Program} {l : Launch} {e : Env} {R : Room} {s : State} {m : MethodId} {args : Array Value} {below : List Frame} {meth : Method} {c : Code} {H : Heap} {locs : List Loc} {cells slots : Nat} {Q : State → Prop} {ls : Array Slot} {rest : List Value} {pc : Nat}
/-- the search for a handler, where the table has one row, which names a class that takes the object: it links that class, and ends there -/
theorem ax_seek {S : State} {g : JFrame} {q : Addr} {x : ExceptionTableEntry} {cN : ClassId} {ce : Cell} {meth : Method} {c : Code} (hm : S.vm.method? g.method = some meth) (hc : meth.code = some c) (htab : c.exceptionTable.toList = [x]) (hx : covers x g.pc = true) (h0 : x.catchType ≠ 0)
    (hl : S.vm.ClassLinks e.platform g.method.cls x.catchType cN) (hcell : S.heap[q]? = some ce) (hv : ce.vm = .none) (hkE : ∃ k, S.vm.classes[ce.cls]? = some k) (hkN : ∃ k, S.vm.classes[cN]? = some k) (hfit : S.vm.assignable ce.cls cN = true)
    (Qh : Handler → Pre) (E : CtlPost) (d : Bool) (acts : List Action) : wp (findHandler g q) Qh E e d acts S ↔ Qh (.found x.handlerPc) d acts (S.setVm (S.vm.noted g.method.cls x.catchType (.cls cN))) := by
  rw [Jvm.W.findHandler_eq hm hc, htab]
  have hal := (Vm.Alike.refl S.vm).noted g.method.cls x.catchType (.cls cN)
  obtain ⟨r1, r2⟩ := (resolveClass_links e.toSetting hl).op (op := VmOp.resolveClass g.method.cls x.catchType) rfl
  obtain ⟨k1, hk1⟩ := hkE
  obtain ⟨k2, hk2⟩ := hkN
  obtain ⟨j1, hj1, -⟩ := hal.2.2 _ _ hk1
  obtain ⟨j2, hj2, -⟩ := hal.2.2 _ _ hk2
  have hf : (S.vm.noted g.method.cls x.catchType (.cls cN)).assignable ce.cls cN = true := by rw [hal.assignable]; exact hfit
  have ho : ∀ k, ce.vm ≠ .statics k := fun k h => by rw [hv] at h; cases h
  simp only [covers] at hx
  simp [findHandler.go, hx, h0, r1, r2, hcell, ho, hj1, hj2, hf, VmOp.dirties, VmOp.acts]
theorem ax_catch1 {own name E : String} {ce : Cell} {q : Addr} (hown : s.vm.findClass own = some m.cls) (x : ExceptionTableEntry) (htab : c.exceptionTable.toList = [x]) (hx : covers x pc = true) (h0 : x.catchType ≠ 0)
    (hlink : (Cond.classLink own x.catchType name).before args s = true) (hcast : (Cond.castable E name).before args s = true) (hcell : H[q]? = some ce) (hv : ce.vm = .none) (hcl : s.vm.findClass E = some ce.cls)
    (kk : W p l e R s m args below meth c H locs cells slots Q (F0 m x.handlerPc ls [.ref q])) : vx_W p l e R s m args below meth c H locs cells slots Q (F0 m pc ls rest) q := by
  intro T hT X
  have hpl : e.platform.magicAccessors = ({} : Platform).magicAccessors := by rw [X.admits.platform]
  obtain ⟨cE, cN, hcE, hcN, hasg⟩ := Cond.castable_spec hcast
  cases Option.some.inj (hcE.symm.trans hcl)
  obtain ⟨cK, hcK, hK⟩ := Cond.classLink_spec hown hlink e.platform hpl
  cases Option.some.inj (hcN.symm.trans hcK)
  obtain ⟨kE, hkE, -⟩ := Vm.findClass_spec hcl
  obtain ⟨dk, _, _, kN, hd, _, _, _, _, hkN, _, hfree⟩ := hK.here
  have hW := X.warmed
  obtain ⟨kE', hkE', -⟩ := hW.alike.2.2 _ _ hkE
  obtain ⟨kN', hkN', -⟩ := hW.alike.2.2 _ _ hkN
  have hW' := hW.noted hd hfree (State.rightAt_cls hK)
  have find := ax_seek (e := e) (S := (T.setTop (F0 m pc ls rest)).pushFrame (.throwing q)) (g := F0 m pc ls rest) (q := q) (x := x) (cN := cN) (ce := ce) X.method' X.code htab hx h0 (hW.classLinks hK) (by rw [← hT] at hcell; exact hcell) hv ⟨kE', hkE'⟩ ⟨kN', hkN'⟩ (by
    have := hW.alike.assignable
    show T.vm.assignable ce.cls cN = true
    rw [hW.alike.assignable]
    exact hasg)
  have find2 : ∀ (Qh : Handler → Pre) (E2 : CtlPost) (d : Bool) (acts : List Action), wp (findHandler (F0 m pc ls rest) q) Qh E2 e d acts ((T.setTop (F0 m pc ls rest)).pushFrame (.throwing q)) ↔ Qh (.found x.handlerPc) d acts (((T.setTop (F0 m pc ls rest)).pushFrame (.throwing q)).setVm (T.vm.noted m.cls x.catchType (.cls cN))) := find
  obtain ⟨t, a1, b1⟩ := kk (T.setVm (T.vm.noted m.cls x.catchType (.cls cN))) hT (X.noted hW')
  refine ⟨t, ?_, b1⟩
  have hAt : At T (F0 m pc ls rest).method c below := X.here
  obtain ⟨hgo, hw⟩ := hAt.throwing q
  refine Steps.head hgo hw ?_
  obtain ⟨g₀, hg⟩ := Option.isSome_iff_exists.mp hAt.top
  obtain ⟨r, hr⟩ := State.topJava?_eq_some.mp hg
  have hone : (stepThrowing e ((T.setTop (F0 m pc ls rest)).pushFrame (.throwing q)) q (.java (F0 m pc ls rest) :: r)).Is ((((T.setTop (F0 m pc ls rest)).pushFrame (.throwing q)).setVm (T.vm.noted m.cls x.catchType (.cls cN))).setFrames (.java { F0 m pc ls rest with pc := x.handlerPc, stack := [.ref q] } :: r)) [] := by
    simp only [stepThrowing, searchFrame, vmDo]
    generalize hres : Sem.go _ e false [] ((T.setTop (F0 m pc ls rest)).pushFrame (.throwing q)) = res
    obtain ⟨as, rfl, has⟩ := Sem.eq_ok_of hres (a := Handler.found x.handlerPc) (s' := ((T.setTop (F0 m pc ls rest)).pushFrame (.throwing q)).setVm (T.vm.noted m.cls x.catchType (.cls cN))) (acts' := []) (by simp [find2])
    exact ⟨rfl, has⟩
  rw [stepThread_throwing (frames_entered hAt.top _), hr, List.tail_cons, hone.1]
  have hr2 : (T.setVm (T.vm.noted m.cls x.catchType (.cls cN))).frames = .java g₀ :: r := hr
  rw [State.setTop_of_frames _ hr2] at a1
  have e1 : ∀ (u : State) (F G : List Frame) (v : Vm), ((u.setFrames F).setVm v).setFrames G = (u.setVm v).setFrames G := by
    intro u F G v
    have h1 : (u.setFrames F).setVm v = (u.setVm v).setFrames F := rfl
    rw [h1, State.setFrames_setFrames]
  rw [State.pushFrame, e1, State.setTop_of_frames _ hr, e1]
  exact a1
end AXX
