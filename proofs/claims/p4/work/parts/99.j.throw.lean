/-! 'throw new NoSuchElementException("..")': its constructor reaches the next one by entry 13 of its pool (the library's law for such a throw knows entry 7 alone); put together out of the library's pieces, as much of it as a catching caller asks -/
section AXT2
def ax_EX : String := "java/util/NoSuchElementException"
def ax_RT : String := "java/lang/RuntimeException"
def ax_b1 : ByteArray := ⟨#[0x2a, 0x2b, 0xb7, 0x00, 0x0d, 0xb1]⟩
def ax_tail (own : String) (ic : Nat) : List Cond :=
  [.methodLink own ic (Bundle.initS ax_EX), .instantiable ax_EX 6, .castable ax_EX ax_EX, .selects ax_EX Bundle.tFill0 Bundle.tFill0, .selects ax_EX Bundle.tFill Bundle.tFill,
   .lays ax_EX Bundle.tN "cause" "Ljava/lang/Throwable;", .lays ax_EX Bundle.tN "stackTrace" Bundle.steD, .lays ax_EX Bundle.tN "suppressedExceptions" Bundle.listD, .lays ax_EX Bundle.tN "detailMessage" "Ljava/lang/String;",
   .isRef (.static Bundle.tN "UNASSIGNED_STACK" Bundle.steD), .isRef (.static Bundle.tN "SUPPRESSED_SENTINEL" Bundle.listD),
   .fieldLink Bundle.tN 198 Bundle.tN "backtrace" "Ljava/lang/Object;", .lays Bundle.tN Bundle.tN "backtrace" "Ljava/lang/Object;", .lays ax_EX Bundle.tN "backtrace" "Ljava/lang/Object;"]
def ax_atoms (own : String) (ic : Nat) : List Cond := Bundle.throwableAtoms ++ (Bundle.throwableSAtoms ++ (Bundle.passSAtoms ax_EX ax_RT 13 ax_b1 ++ (Bundle.chainSAtoms ax_RT ["java/lang/Exception"] ++ ax_tail own ic)))
variable {p : Program} {l : Launch} {e : Env} {R : Room} {s : State} {m₀ : MethodId} {args : Array Value} {below : List Frame} {meth : Method} {c : Code} {W : State} {locs : List Loc} {cells slots : Nat}
theorem ax_ctor (X : Stand p l e R s m₀ args below meth c W locs cells slots) (hexec : p.tables.exec = Jvm.exec) (htr : e.platform.stackTraces = false) {own : String} {ic : Nat}
    (hown : s.vm.findClass own = some m₀.cls) (h : ∀ a ∈ ax_atoms own ic, a.before args s = true) (hlocs : ∀ x ∈ locs, ∀ cell, s.heap[x.base]? = some cell → cell.vm.isStatics = false)
    {a : Addr} {cX : ClassId} {kX : Class} (hfX : s.vm.findClass ax_EX = some cX) (hkX : s.vm.classes[cX]? = some kX) (hcell : W.heap[a]? = some (freshCell cX kX)) (hnew : s.heap.size ≤ a) {msg : Value} (hmsg : msg.isRef = true)
    {g : JFrame} (hg : g.method = m₀) (hsize : g.locals.size = c.maxLocals) (hlocked : g.locked = none) (hentered : g.entered = []) {rest : List Value} (hstack : g.stack = msg :: .ref a :: .ref a :: rest)
    (hd6 : decode c.code g.pc = .ok (.invokespecial ic, 3)) (hd9 : decode c.code (g.pc + 3) = .ok (.athrow, 1)) (hout : ∀ x ∈ c.exceptionTable.toList, covers x (g.pc + 3) = false)
    (hRf : 5 < R.frames) (hRl : 2 * g.monitorRoom + ((Value.ref a :: rest).map fun v => v.category).sum + 81 ≤ R.locals) (hlocks : meth.locks = false) :
    ∃ U : State, Steps p.tables e below (W.setTop g) U ∧ U.status = .running ∧ Ended U below (.threw a) ∧ s.WarmedH U.vm ∧ s.sameButNew ({ U with vm := s.vm } : State) locs cells slots ∧ ∃ ce, U.heap[a]? = some ce ∧ ce.vm = .none ∧ s.vm.findClass ax_EX = some ce.cls := by
  have hpl : e.platform.magicAccessors = ({} : Platform).magicAccessors := by rw [X.admits.platform]
  have hA : ∀ x ∈ Bundle.throwableAtoms, x.before args s = true := fun x hx => h x (List.mem_append_left _ hx)
  have hB : ∀ x ∈ Bundle.throwableSAtoms, x.before args s = true := fun x hx => h x (List.mem_append_right _ (List.mem_append_left _ hx))
  have hC : ∀ x ∈ Bundle.passSAtoms ax_EX ax_RT 13 ax_b1, x.before args s = true := fun x hx => h x (List.mem_append_right _ (List.mem_append_right _ (List.mem_append_left _ hx)))
  have hE : ∀ x ∈ Bundle.chainSAtoms ax_RT ["java/lang/Exception"], x.before args s = true := fun x hx => h x (List.mem_append_right _ (List.mem_append_right _ (List.mem_append_right _ (List.mem_append_left _ hx))))
  have hF : ∀ x ∈ ax_tail own ic, x.before args s = true := fun x hx => h x (List.mem_append_right _ (List.mem_append_right _ (List.mem_append_right _ (List.mem_append_right _ hx))))
  have q : ∀ x, x ∈ ax_tail own ic → x.holds args s none s [] = true := fun x hx => hF x hx
  obtain ⟨T, Z0, L, -, Y⟩ := ThrowableC.of_atoms (args := args) (s := s) (pl := e.platform) (by rw [X.admits.platform]) (by rw [X.admits.platform]) hpl hA
  obtain ⟨Z, M, LZ, LM, hnZ⟩ := Init0T.ofS_atoms (args := args) hpl L Y hB
  obtain ⟨P1, L1, hP1, hS1⟩ := PassC.ofS_atoms (args := args) (s := s) hpl (X := ax_EX) (Y := ax_RT) (by decide) (by decide) (by decide +kernel) (by decide +kernel) (by decide +kernel) (by decide +kernel) hC
  obtain ⟨P2, Ps, hlen, L2, hL2, hP2, hlk2, hlk3⟩ := Bundle.chainS (args := args) hpl hnZ ["java/lang/Exception"] ax_RT (by decide) (by decide) hE
  have hf1 : s.vm.findClass ax_EX = some P1.m.cls := findClass_of_methodNamed hP1
  cases Option.some.inj (hfX.symm.trans hf1)
  obtain ⟨c1, k1, hc1, hk, hord, -, -, hn6⟩ := Cond.instantiable_spec (q (.instantiable ax_EX 6) (by simp [ax_tail]))
  cases Option.some.inj (hc1.symm.trans hf1)
  cases Option.some.inj (hkX.symm.trans hk)
  have hs0 : selectMethod e.platform s.vm P1.m.cls T.fill0 = .method T.fill0 := by
    obtain ⟨c2, r2, m2, g1, g2, g3, g4, -⟩ := Cond.selects_spec (q (.selects ax_EX Bundle.tFill0 Bundle.tFill0) (by simp [ax_tail]))
    cases Option.some.inj (g1.symm.trans hf1)
    cases Option.some.inj (g2.symm.trans (State.methodFound?_of_named Y.fill0 (by decide)))
    cases Option.some.inj (g3.symm.trans Y.fill0)
    rw [Launch.admits_selectMethod X.admits]; exact g4
  have hs1 : selectMethod e.platform s.vm P1.m.cls T.fill = .method T.fill := by
    obtain ⟨c2, r2, m2, g1, g2, g3, g4, -⟩ := Cond.selects_spec (q (.selects ax_EX Bundle.tFill Bundle.tFill) (by simp [ax_tail]))
    cases Option.some.inj (g1.symm.trans hf1)
    cases Option.some.inj (g2.symm.trans (State.methodFound?_of_named Y.fill (by decide)))
    cases Option.some.inj (g3.symm.trans Y.fill)
    rw [Launch.admits_selectMethod X.admits]; exact g4
  obtain ⟨cS0, hcS0, hiss⟩ := Y.statics
  obtain ⟨u0, hu0⟩ := Cond.staticRefV Y.unassigned L.unassignedStatic L.statics hcS0 hiss (q (.isRef (.static Bundle.tN "UNASSIGNED_STACK" Bundle.steD)) (by simp [ax_tail]))
  obtain ⟨sen, hsen⟩ := Cond.staticRefV Y.sentinel L.sentinelStatic L.statics hcS0 hiss (q (.isRef (.static Bundle.tN "SUPPRESSED_SENTINEL" Bundle.listD)) (by simp [ax_tail]))
  obtain ⟨ci9, i9, fB, hk9, hg9, ha9, hsB, -, hnB, htB, hffB⟩ := Cond.ownField (t := .object "java/lang/Object") Y.found L.cls (by decide +kernel) (q (.fieldLink Bundle.tN 198 Bundle.tN "backtrace" "Ljava/lang/Object;") (by simp [ax_tail])) (q (.lays Bundle.tN Bundle.tN "backtrace" "Ljava/lang/Object;") (by simp [ax_tail])) e.platform hpl
  obtain ⟨cS, hcS, heS, -, hkeep⟩ := X.same.2.2.2.2.2 T.aS cS0 hcS0
  have ho : ∀ i, (⟨T.aS, i⟩ : Loc) ∉ locs := fun i hm => by
    have := hlocs _ hm cS0 hcS0
    rw [hiss] at this; cases this
  have hkn : cS.vm ≠ .unknown := by
    rw [heS]; intro hu
    rw [show cS0.vm = .unknown from hu] at hiss
    cases hiss
  have hne : T.aS ≠ a := Nat.ne_of_lt (Nat.lt_of_lt_of_le (Array.getElem?_eq_some_iff.mp hcS0).1 hnew)
  obtain ⟨iM, hffM⟩ := Y.msg
  obtain ⟨tyC, dC, hdC, hdnC⟩ := Cond.laysAt hf1 hk Y.cause (q (.lays ax_EX Bundle.tN "cause" "Ljava/lang/Throwable;") (by simp [ax_tail]))
  obtain ⟨tyS, dS, hdS, hdnS⟩ := Cond.laysAt hf1 hk Y.stack (q (.lays ax_EX Bundle.tN "stackTrace" Bundle.steD) (by simp [ax_tail]))
  obtain ⟨tyP, dP, hdP, hdnP⟩ := Cond.laysAt hf1 hk Y.supp (q (.lays ax_EX Bundle.tN "suppressedExceptions" Bundle.listD) (by simp [ax_tail]))
  obtain ⟨tyM, dM, hdM, hdnM⟩ := Cond.laysAt hf1 hk hffM (q (.lays ax_EX Bundle.tN "detailMessage" "Ljava/lang/String;") (by simp [ax_tail]))
  obtain ⟨tyB, dB, hdB, hdnB⟩ := Cond.laysAt hf1 hk hffB (q (.lays ax_EX Bundle.tN "backtrace" "Ljava/lang/Object;") (by simp [ax_tail]))
  have bC := Cond.laysApart hdB hdC hdnB hdnC (by rw [hnB, Y.causeName]; decide)
  have bS := Cond.laysApart hdB hdS hdnB hdnS (by rw [hnB, Y.stackName]; decide)
  have bP := Cond.laysApart hdB hdP hdnB hdnP (by rw [hnB, Y.suppName]; decide)
  have hskip : SkipFacts T e.platform s (fun u => u) u0 ((preparedCellV T.toThrowableT (freshCell P1.m.cls kX) a u0 sen).withEntry W.cur) :=
    ⟨{ ci198 := ci9, i198 := i9, fBack := fB }, ⟨hk9, hg9, ha9, hsB⟩, by
      have := fresh_default (c := P1.m.cls) tyB
      rw [htB] at this
      simpa [preparedCellV, Cell.setSlot, Cell.withEntry, Array.getElem?_setIfInBounds, bC, bS, bP, bC.symm, bS.symm, bP.symm, defaultValue] using this, fun _ _ => rfl⟩
  obtain ⟨tm, mC, cdC, kC, vm₁, hnC, -, -, -, -, -, -, -, hW₁, st1⟩ := Steps.initColdS (tb := p.tables) (e := e) (below := below) (s := s) (U := W) X.here hexec X.warmed hpl hown (t := Bundle.initS ax_EX) rfl rfl (by decide)
    (q (.methodLink own ic (Bundle.initS ax_EX)) (by simp [ax_tail])) (hC (.instanceMethod (Bundle.initS ax_EX)) (by simp [Bundle.passSAtoms])) (bytes := ax_b1) (maxL := 2) (hC (.code (Bundle.initS ax_EX) ax_b1 2 none) (by simp [Bundle.passSAtoms]))
    (f := g) hg (a := a) (msg := msg) (rest := .ref a :: rest) hstack hd6
  cases Option.some.inj (hnC.symm.trans hP1)
  have hlk1 : P1.sup = P2.m := Option.some.inj (hS1.symm.trans hP2)
  obtain ⟨vm₂, X₂, st2⟩ := (X.noted hW₁).ctorMessageOffV hexec (g := { g with stack := .ref a :: rest }) hg hsize T L Z LZ M LM (P1 :: P2 :: Ps)
    (fun P hP => by
      rcases List.mem_cons.mp hP with rfl | hP
      · exact L1
      · rcases List.mem_cons.mp hP with rfl | hP
        · exact L2
        · exact hL2 P hP) ⟨hlk1, hlk2, hlk3⟩ (u0 := u0) (sen := sen) (self := a) hmsg (cell := freshCell P1.m.cls kX) (cellS := cS)
    hcell (fun _ => by simp) (by simp) rfl rfl hs0 hs1 hcS hne hkn (by rw [hkeep _ (ho _)]; exact hu0) (by rw [hkeep _ (ho _)]; exact hsen)
    (Takes.of_laid hk hord tyC (by rw [Y.causeType]; rfl)) (Takes.of_laid hk hord tyS (by rw [Y.stackType]; exact fits_refV_array _ u0)) (Takes.of_laid hk hord tyP (by rw [Y.suppType]; exact fits_refV_object _ sen))
    (Takes.of_laid hk hord tyM (by rw [Y.msgType]; exact fits_refV_object _ ⟨msg, hmsg⟩)) Y.objLocals hskip htr [] hd6
    (by simp only [List.length_cons, hlen, List.length_nil]; omega) (by simp only [List.length_cons, hlen, List.length_nil]; omega)
  obtain ⟨hwalk, hrun, hended, hWU, hsame⟩ := X₂.athrowLeaves hexec (g := { g with stack := .ref a :: rest, pc := g.pc + 3 }) hg hlocked hentered hout (a := a) (rest := rest) rfl hd9 hlocks
  have hlt : a < ((W.setVm vm₁).setVm vm₂).heap.size := (Array.getElem?_eq_some_iff.mp hcell).1
  have hU := heapAt_setCell_self (s := (W.setVm vm₁).setVm vm₂) (plainBareV T.toThrowableT (freshCell P1.m.cls kX) a u0 sen msg) hlt
  refine ⟨_, st1 _ (fun acts => ?_), hrun, hended, hWU, hsame.weaken (fun y hy hy2 => ?_) (Nat.le_refl _) (Nat.le_refl _), _, hU, rfl, hf1⟩
  · rw [doInvoke_state]
    exact st2 _ hwalk
  · rcases List.mem_append.mp hy with h1 | h1
    · exact h1
    · have hb : y.base = a := by
        simp only [List.mem_cons, List.not_mem_nil, or_false] at h1
        rcases h1 with rfl | rfl | rfl | rfl | rfl <;> rfl
      rw [hb] at hy2
      exact absurd hy2 (Nat.not_lt.mpr hnew)
end AXT2
