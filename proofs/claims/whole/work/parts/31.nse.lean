/-! A throw of NoSuchElementException: its constructor calls its super's by the pool row 13, where the kit's rows for throws want 7. The library's laws on the chain, on the constructor of Throwable and on athrow serve as they stand. -/
def nseB : ByteArray := ⟨#[0x2a, 0x2b, 0xb7, 0x00, 0x0d, 0xb1]⟩
theorem nseB_0 : decode nseB 0 = .ok (.aload_n 0, 1) := by decide +kernel
theorem nseB_1 : decode nseB 1 = .ok (.aload_n 1, 1) := by decide +kernel
theorem nseB_2 : decode nseB 2 = .ok (.invokespecial 13, 3) := by decide +kernel
theorem nseB_5 : decode nseB 5 = .ok (.return_, 1) := by decide +kernel
def xRTE : String := "java/lang/RuntimeException"
def nseR (own : String) (ic : Nat) : List Cond := [.methodLink own ic (Bundle.initS xNSE), .instantiable xNSE 6, .castable xNSE xNSE, .selects xNSE Bundle.tFill0 Bundle.tFill0, .selects xNSE Bundle.tFill Bundle.tFill,
   .lays xNSE Bundle.tN "cause" "Ljava/lang/Throwable;", .lays xNSE Bundle.tN "stackTrace" Bundle.steD, .lays xNSE Bundle.tN "suppressedExceptions" Bundle.listD, .lays xNSE Bundle.tN "detailMessage" "Ljava/lang/String;",
   .isRef (.static Bundle.tN "UNASSIGNED_STACK" Bundle.steD), .isRef (.static Bundle.tN "SUPPRESSED_SENTINEL" Bundle.listD),
   .fieldLink Bundle.tN 198 Bundle.tN "backtrace" "Ljava/lang/Object;", .lays Bundle.tN Bundle.tN "backtrace" "Ljava/lang/Object;", .lays xNSE Bundle.tN "backtrace" "Ljava/lang/Object;"]
def nseC : List Cond := Bundle.passSAtoms xNSE xRTE 13 nseB ++ Bundle.chainSAtoms xRTE ["java/lang/Exception"]
def nseAt (own : String) (ic : Nat) : List Cond := Bundle.throwableAtoms ++ (Bundle.throwableSAtoms ++ (nseC ++ nseR own ic))
section NSE
variable {p : Program} {l : Launch} {e : Env} {R : Room} {s : State} {m : MethodId} {args : Array Value} {below : List Frame} {meth : Method} {c : Code} {T0 : State} {locs : List Loc} {cells slots : Nat}
set_option maxHeartbeats 2000000 in
theorem nse_ctor (X : Stand p l e R s m args below meth c T0 locs cells slots) (hexec : p.tables.exec = Jvm.exec) (htr : e.platform.stackTraces = false) {own : String} {ic : Nat} (hown : s.vm.findClass own = some m.cls) (h : ∀ a ∈ nseAt own ic, a.before args s = true) (hlocs : ∀ x ∈ locs, ∀ cell, s.heap[x.base]? = some cell → cell.vm.isStatics = false)
    {a : Addr} {cX : ClassId} {kX : Class} (hfX : s.vm.findClass xNSE = some cX) (hkX : s.vm.classes[cX]? = some kX) (hcell : T0.heap[a]? = some (freshCell cX kX)) (hnew : s.heap.size ≤ a) {msg : Value} (hmsg : msg.isRef = true)
    {g : JFrame} (hg : g.method = m) (hsize : g.locals.size = c.maxLocals) (hlocked : g.locked = none) (hentered : g.entered = []) {rest : List Value} (hstack : g.stack = msg :: .ref a :: .ref a :: rest)
    (d6 : decode c.code g.pc = .ok (.invokespecial ic, 3)) (d9 : decode c.code (g.pc + 3) = .ok (.athrow, 1)) (hout : ∀ x ∈ c.exceptionTable.toList, covers x (g.pc + 3) = false) (hRf : 5 < R.frames) (hRl : 2 * g.monitorRoom + ((Value.ref a :: rest).map fun v => v.category).sum + 81 ≤ R.locals) (hlocks : meth.locks = false) :
    ∃ U : State, Steps p.tables e below (T0.setTop g) U ∧ U.status = .running ∧ Ended U below (.threw a) ∧ s.WarmedH U.vm ∧ s.sameButNew ({ U with vm := s.vm } : State) locs cells slots ∧ ∃ ce, U.heap[a]? = some ce ∧ ce.vm = .none ∧ s.vm.findClass xNSE = some ce.cls := by
  have howns : e.platform.frameOwnsMonitors = true := by rw [X.admits.platform]
  have hfin : e.platform.finalization = false := by rw [X.admits.platform]
  have hpl : e.platform.magicAccessors = ({} : Platform).magicAccessors := by rw [X.admits.platform]
  have hA : ∀ x ∈ Bundle.throwableAtoms, x.before args s = true := fun x hx => h x (List.mem_append_left _ hx)
  have hB : ∀ x ∈ Bundle.throwableSAtoms, x.before args s = true := fun x hx => h x (List.mem_append_right _ (List.mem_append_left _ hx))
  have hC : ∀ x ∈ nseC, x.before args s = true := fun x hx => h x (List.mem_append_right _ (List.mem_append_right _ (List.mem_append_left _ hx)))
  have hR : ∀ x ∈ nseR own ic, x.before args s = true := fun x hx => h x (List.mem_append_right _ (List.mem_append_right _ (List.mem_append_right _ hx)))
  have hP : ∀ x ∈ Bundle.passSAtoms xNSE xRTE 13 nseB, x.before args s = true := fun x hx => hC x (List.mem_append_left _ hx)
  have rr : ∀ x, x ∈ nseR own ic → x.holds args s none s [] = true := fun x hx => hR x hx
  obtain ⟨T, Z0, L, -, Y⟩ := ThrowableC.of_atoms (args := args) howns hfin hpl hA
  obtain ⟨Z, MM, LZ, LM, hnZ⟩ := Init0T.ofS_atoms (args := args) hpl L Y hB
  obtain ⟨P1, L1, hP1m, hsup1⟩ := PassC.ofS_atoms (args := args) (s := s) hpl (X := xNSE) (Y := xRTE) (by decide +kernel) (by decide) nseB_0 nseB_1 nseB_2 nseB_5 hP
  obtain ⟨P2, Ps, hlen, L2, hL, hP2m, hlink2, hlink⟩ := Bundle.chainS (args := args) hpl hnZ ["java/lang/Exception"] xRTE (by decide +kernel) (by decide +kernel) (fun x hx => hC x (List.mem_append_right _ hx))
  have hfound : s.vm.findClass xNSE = some P1.m.cls := findClass_of_methodNamed hP1m
  cases Option.some.inj (hfX.symm.trans hfound)
  obtain ⟨c1, kX', hc1, hk, hord, -, -, hn6⟩ := Cond.instantiable_spec (rr (.instantiable xNSE 6) (by simp [nseR]))
  cases Option.some.inj (hc1.symm.trans hfound)
  cases Option.some.inj (hkX.symm.trans hk)
  have hsel0 : selectMethod e.platform s.vm P1.m.cls T.fill0 = .method T.fill0 := by
    obtain ⟨c2, r2, m2, q1, q2, q3, q4, -⟩ := Cond.selects_spec (rr (.selects xNSE Bundle.tFill0 Bundle.tFill0) (by simp [nseR]))
    cases Option.some.inj (q1.symm.trans hfound)
    cases Option.some.inj (q2.symm.trans (State.methodFound?_of_named Y.fill0 (by decide)))
    cases Option.some.inj (q3.symm.trans Y.fill0)
    rw [Launch.admits_selectMethod X.admits]; exact q4
  have hselF : selectMethod e.platform s.vm P1.m.cls T.fill = .method T.fill := by
    obtain ⟨c2, r2, m2, q1, q2, q3, q4, -⟩ := Cond.selects_spec (rr (.selects xNSE Bundle.tFill Bundle.tFill) (by simp [nseR]))
    cases Option.some.inj (q1.symm.trans hfound)
    cases Option.some.inj (q2.symm.trans (State.methodFound?_of_named Y.fill (by decide)))
    cases Option.some.inj (q3.symm.trans Y.fill)
    rw [Launch.admits_selectMethod X.admits]; exact q4
  obtain ⟨cellS0, hcS0, hiss⟩ := Y.statics
  obtain ⟨u0, hu0⟩ := Cond.staticRefV Y.unassigned L.unassignedStatic L.statics hcS0 hiss (rr (.isRef (.static Bundle.tN "UNASSIGNED_STACK" Bundle.steD)) (by simp [nseR]))
  obtain ⟨sen, hsen⟩ := Cond.staticRefV Y.sentinel L.sentinelStatic L.statics hcS0 hiss (rr (.isRef (.static Bundle.tN "SUPPRESSED_SENTINEL" Bundle.listD)) (by simp [nseR]))
  obtain ⟨ci198, i198, fB, hk198, hg198, ha198, hsB, -, hnB, htB, hffB⟩ := Cond.ownField (t := .object "java/lang/Object") Y.found L.cls (by decide +kernel) (rr (.fieldLink Bundle.tN 198 Bundle.tN "backtrace" "Ljava/lang/Object;") (by simp [nseR])) (rr (.lays Bundle.tN Bundle.tN "backtrace" "Ljava/lang/Object;") (by simp [nseR])) e.platform hpl
  obtain ⟨cellS, hcS', heS, -, hkeep⟩ := X.same.2.2.2.2.2 T.aS cellS0 hcS0
  have hcellS : T0.heap[T.aS]? = some cellS := hcS'
  have hout' : ∀ i, (⟨T.aS, i⟩ : Loc) ∉ locs := fun i hmem => by
    have := hlocs _ hmem cellS0 hcS0
    rw [hiss] at this; cases this
  have hknownS : cellS.vm ≠ .unknown := by
    rw [heS]; intro hu
    rw [show cellS0.vm = .unknown from hu] at hiss
    cases hiss
  have hneS : T.aS ≠ a := Nat.ne_of_lt (Nat.lt_of_lt_of_le (Array.getElem?_eq_some_iff.mp hcS0).1 hnew)
  obtain ⟨iM, hffM⟩ := Y.msg
  obtain ⟨tyC, dC, hdC, hdnC⟩ := Cond.laysAt hfound hk Y.cause (rr (.lays xNSE Bundle.tN "cause" "Ljava/lang/Throwable;") (by simp [nseR]))
  obtain ⟨tyS, dS, hdS, hdnS⟩ := Cond.laysAt hfound hk Y.stack (rr (.lays xNSE Bundle.tN "stackTrace" Bundle.steD) (by simp [nseR]))
  obtain ⟨tyP, dP, hdP, hdnP⟩ := Cond.laysAt hfound hk Y.supp (rr (.lays xNSE Bundle.tN "suppressedExceptions" Bundle.listD) (by simp [nseR]))
  obtain ⟨tyM, dM, hdM, hdnM⟩ := Cond.laysAt hfound hk hffM (rr (.lays xNSE Bundle.tN "detailMessage" "Ljava/lang/String;") (by simp [nseR]))
  obtain ⟨tyB, dB, hdB, hdnB⟩ := Cond.laysAt hfound hk hffB (rr (.lays xNSE Bundle.tN "backtrace" "Ljava/lang/Object;") (by simp [nseR]))
  have bC := Cond.laysApart hdB hdC hdnB hdnC (by rw [hnB, Y.causeName]; decide)
  have bS := Cond.laysApart hdB hdS hdnB hdnS (by rw [hnB, Y.stackName]; decide)
  have bP := Cond.laysApart hdB hdP hdnB hdnP (by rw [hnB, Y.suppName]; decide)
  have hskip : SkipFacts T e.platform s (fun u => u) u0 ((preparedCellV T.toThrowableT (freshCell P1.m.cls kX) a u0 sen).withEntry T0.cur) :=
    ⟨{ ci198 := ci198, i198 := i198, fBack := fB }, ⟨hk198, hg198, ha198, hsB⟩, by
      have := fresh_default (c := P1.m.cls) tyB
      rw [htB] at this
      simpa [preparedCellV, Cell.setSlot, Cell.withEntry, Array.getElem?_setIfInBounds, bC, bS, bP, bC.symm, bS.symm, bP.symm, defaultValue] using this, fun _ _ => rfl⟩
  obtain ⟨tm, methC, cdC, kC, vm₁, hnC, -, -, -, -, -, -, -, hW₁, st1⟩ := Steps.initColdS (tb := p.tables) (e := e) (below := below) (s := s) (U := T0) X.here hexec X.warmed hpl hown (t := Bundle.initS xNSE) rfl rfl (by decide)
    (rr (.methodLink own ic (Bundle.initS xNSE)) (by simp [nseR])) (hP (.instanceMethod (Bundle.initS xNSE)) (by simp [Bundle.passSAtoms])) (bytes := nseB) (maxL := 2) (hP (.code (Bundle.initS xNSE) nseB 2 none) (by simp [Bundle.passSAtoms]))
    (f := g) hg (a := a) (msg := msg) (rest := .ref a :: rest) hstack d6
  cases Option.some.inj (hnC.symm.trans hP1m)
  have X₁ := X.noted hW₁
  obtain ⟨vm₂, X₂, st2⟩ := X₁.ctorMessageOffV hexec (g := { g with stack := .ref a :: rest }) hg hsize T L Z LZ MM LM (P1 :: P2 :: Ps)
    (fun P hP => by
      rcases List.mem_cons.mp hP with rfl | hP
      · exact L1
      · rcases List.mem_cons.mp hP with rfl | hP
        · exact L2
        · exact hL P hP) ⟨Option.some.inj (hsup1.symm.trans hP2m), hlink2, hlink⟩ (u0 := u0) (sen := sen) (self := a) hmsg (cell := freshCell P1.m.cls kX) (cellS := cellS)
    hcell (fun _ => by simp) (by simp) rfl rfl hsel0 hselF hcellS hneS hknownS (by rw [hkeep _ (hout' _)]; exact hu0) (by rw [hkeep _ (hout' _)]; exact hsen)
    (Takes.of_laid hk hord tyC (by rw [Y.causeType]; rfl)) (Takes.of_laid hk hord tyS (by rw [Y.stackType]; exact fits_refV_array _ u0)) (Takes.of_laid hk hord tyP (by rw [Y.suppType]; exact fits_refV_object _ sen))
    (Takes.of_laid hk hord tyM (by rw [Y.msgType]; exact fits_refV_object _ ⟨msg, hmsg⟩)) Y.objLocals hskip htr [] d6
    (by simp only [List.length_cons, hlen, List.length_nil]; omega) (by simp only [List.length_cons, hlen, List.length_nil]; exact hRl)
  obtain ⟨hwalk, hrun, hended, hWU, hsame⟩ := X₂.athrowLeaves hexec (g := { g with stack := .ref a :: rest, pc := g.pc + 3 }) hg hlocked hentered hout (a := a) (rest := rest) rfl d9
  have hlt : a < ((T0.setVm vm₁).setVm vm₂).heap.size := (Array.getElem?_eq_some_iff.mp hcell).1
  have hU := heapAt_setCell_self (s := (T0.setVm vm₁).setVm vm₂) (plainBareV T.toThrowableT (freshCell P1.m.cls kX) a u0 sen msg) hlt
  refine ⟨_, st1 _ (fun acts => by rw [doInvoke_state]; exact st2 _ hwalk), hrun, hended, hWU, hsame.weaken (fun y hy hlt' => ?_) (Nat.le_refl _) (Nat.le_refl _), _, hU, rfl, hfound⟩
  rcases List.mem_append.mp hy with h1 | h1
  · exact h1
  · exfalso
    have hb : y.base = a := by
      simp only [List.mem_cons, List.not_mem_nil, or_false] at h1
      rcases h1 with rfl | rfl | rfl | rfl | rfl <;> rfl
    rw [hb] at hlt'
    exact Nat.not_lt.mpr hnew hlt'
end NSE
def nseT (own : String) (ic : Nat) : List Cond := (nseAt own ic).filter vx_no
def TN (own : String) (ik ic : Nat) : Prop := Cond.classLink own ik xNSE ∈ WS ∧ Cond.initialized xNSE ∈ WS ∧ (∀ w ∈ (nseT own ic).filter goodWord, w ∈ WS) ∧ (∀ w ∈ (nseT own ic).filter (fun w => !goodWord w), w ∈ thw xNSE) ∧ ∀ w ∈ Cond.classLink own ik xNSE :: Cond.initialized xNSE :: nseT own ic, vx_ot w = true
section NSR
variable {p : Program} {l : Launch} {e : Env} {R : Room} {s : State} {m : MethodId} {args : Array Value} {below : List Frame} {meth : Method} {c : Code} {H : Heap} {locs : List Loc} {cells slots : Nat} {Q : State → Prop}
variable {cc : ByteArray} {pc nL : Nat} {ls : Array Slot} {rest : List Value} {own : String} {w : Wd} {lay : Lay} {nc : Nat} {M : Mem}
set_option maxHeartbeats 2000000 in
/-- new, dup, a text, the constructor, athrow: by the step that loads the text -/
theorem nse_throw {A : Nat → Prop} {Qc : Array Value → State → Outcome → State → Prop} {XC : String → State → State → Prop} {free : Addr → Prop} (hexec : p.tables.exec = Jvm.exec) (hb : c.code = cc) (hl : l.stackTraces = false) {ik ic mc ms sa len : Nat} (hown : s.vm.findClass own = some m.cls) (hk : (Cond.classLink own ik xNSE).before args s = true) (hini : (Cond.initialized xNSE).before args s = true) (hat : ∀ w ∈ nseT own ic, w.before args s = true)
    (hgood : ∀ w ∈ Cond.classLink own ik xNSE :: Cond.initialized xNSE :: nseT own ic, vx_ot w = true) (hU : vx_Zq Bundle.tN "UNASSIGNED_STACK" Bundle.steD A s s.heap) (hN : vx_Zq Bundle.tN "SUPPRESSED_SENTINEL" Bundle.listD A s s.heap) (hS : va_S A s.heap H locs) (hsize : ls.size = c.maxLocals)
    (d0 : decode cc pc = .ok (.new ik, 3)) (d3 : decode cc (pc + 3) = .ok (.dup, 1)) (d6 : decode cc (pc + 4 + len) = .ok (.invokespecial ic, 3)) (d9 : decode cc (pc + 4 + len + 3) = .ok (.athrow, 1))
    (hld : ∀ (s' T1 : State) (R' : Room) (n1 n2 : Nat) (tg : State), s'.vm = s.vm → Stand p l e R' s' m args below meth c T1 [] n1 n2 → ∀ st : List Value, Steps p.tables e below (T1.setTop { method := m, pc := pc + 4 + len, locals := ls, stack := .ref sa :: st, locked := none }) tg → Steps p.tables e below (T1.setTop { method := m, pc := pc + 4, locals := ls, stack := st, locked := none }) tg)
    (hout : ∀ x ∈ c.exceptionTable.toList, False) (hRf : 5 < R.frames) (hRl : (rest.map fun v => v.category).sum + 82 ≤ R.locals) (hRc : cells + 1 ≤ R.cells) (hRs : slots + 6 ≤ R.slots) (hlocks : meth.locks = false)
    (hx : ∀ t : State, s.vm.Alike t.vm → H.size ≤ t.heap.size → (∀ q : Nat, q < H.size → t.heap[q]? = H[q]?) → XC xNSE s t) (hf : ∀ z ∈ locs, free z.base) (hc : cells + 1 ≤ mc) (hs : slots + 6 ≤ ms) :
    W p l e R s m args below meth c H locs cells slots (vx_MQ below Qc XC args s mc ms free) (F0 m pc ls rest) := by
  intro T hT X
  have htr : e.platform.stackTraces = false := (show e.platform.stackTraces = l.stackTraces by rw [X.admits.platform]).trans hl
  have Y := vx_rebase X (R' := { frames := R.frames, locals := R.locals, cells := 1, slots := 6 }) (Nat.le_refl _) (Nat.le_refl _) hRc hRs
  obtain ⟨s', hA⟩ : ∃ z, z = (T.setVm s.vm).setFrames (.invoking m args :: below) := ⟨_, rfl⟩
  rw [← hA] at Y
  have hvm : s'.vm = s.vm := by rw [hA]; rfl
  have hhp : s'.heap = H := by rw [hA]; exact hT
  have hW0 : s.WarmedH s'.vm := by rw [hvm]; exact State.WarmedH.refl s
  have hat' : ∀ w ∈ nseT own ic, w.before args s' = true := fun w hw => vx_ot_at hW0 hvm.symm (hgood w (List.mem_cons_of_mem _ (List.mem_cons_of_mem _ hw))) (hat w hw)
  have hk' : (Cond.classLink own ik xNSE).before args s' = true := vx_ot_at hW0 hvm.symm (hgood _ List.mem_cons_self) hk
  have hini' : (Cond.initialized xNSE).before args s' = true := vx_ot_at hW0 hvm.symm (hgood _ (List.mem_cons_of_mem _ List.mem_cons_self)) hini
  have hU' : vx_Zq Bundle.tN "UNASSIGNED_STACK" Bundle.steD A s' s'.heap := by rw [hhp]; exact vx_Zq.moved hW0.alike (hU.kept hS.2.1)
  have hN' : vx_Zq Bundle.tN "SUPPRESSED_SENTINEL" Bundle.listD A s' s'.heap := by rw [hhp]; exact vx_Zq.moved hW0.alike (hN.kept hS.2.1)
  have h : ∀ w ∈ nseAt own ic, w.before args s' = true := vx_own hat' (vx_isRefq hU'.1) (vx_isRefq hN'.1) hU'.2.word hN'.2.word
  have hown' : s'.vm.findClass own = some m.cls := by rw [hvm]; exact hown
  have hins : (Cond.instantiable xNSE 6).before args s' = true := h _ (by simp [nseAt, nseR])
  obtain ⟨vm₁, cX, kX, hfX, hkX, -, -, X₁, st1⟩ := Y.newCold hexec (own := own) (C := xNSE) (index := ik) (n := 6) hown' hk' hins hini' (g := F0 m pc ls rest) rfl (by rw [hb]; exact d0) (Nat.le_refl _) (Nat.le_refl _)
  generalize hT1 : (T.setVm vm₁).pushCell { cls := cX, slots := kX.instanceTypes.map defaultValue, vm := .none } = T1 at X₁ st1
  have hcat : (Value.ref T.heap.size).category = 1 := rfl
  have hcellA : T1.heap[T.heap.size]? = some (freshCell cX kX) := by rw [← hT1]; exact State.heap_pushCell_size _ _
  have d3' : decode c.code (pc + 3) = .ok (.dup, 1) := by rw [hb]; exact d3
  obtain ⟨U, hsteps, hrun, hend, hW, hsame, ce, hce, hcv, hcl0⟩ := nse_ctor X₁ hexec htr (own := own) (ic := ic) hown' h (fun x hx => nomatch hx) hfX hkX hcellA (by rw [hhp, hT]; exact Nat.le_refl _) (msg := .ref sa) rfl
    (g := { method := m, pc := pc + 4 + len, locals := ls, stack := .ref sa :: .ref T.heap.size :: .ref T.heap.size :: rest, locked := none }) rfl hsize rfl rfl (rest := rest) rfl
    (by rw [hb]; exact d6) (by rw [hb]; exact d9) (fun x hx => (hout x hx).elim) hRf (by simp only [List.map_cons, List.sum_cons, hcat]; show 2 * 0 + _ + 81 ≤ _; omega) hlocks
  obtain ⟨f1, f2⟩ := vx_frame hsame
  rw [hhp] at f1 f2
  have hWs : s.WarmedH U.vm := State.WarmedH.trans hW0 hW
  have hcl : s.vm.findClass xNSE = some ce.cls := by rw [hvm] at hcl0; exact hcl0
  have hall : s.sameButNew ({ U with vm := s.vm } : State) locs mc ms := by
    subst hA
    obtain ⟨e1, e2⟩ := hsame
    rw [State.setFrames_setFrames] at e1
    have h2 : (T.setVm s.vm).sameButNew ({ U with vm := s.vm } : State) [] (0 + 1) (0 + 6) := ⟨e1, e2⟩
    have h3 := X.same.trans h2
    rw [List.append_nil] at h3
    exact h3.mono hc hs
  refine ⟨U, ?_, .threw T.heap.size, hrun, hend, Or.inr ⟨T.heap.size, rfl, xNSE, ce, locs, hx U hWs.alike f1 (fun q hq => f2 q hq (fun z hz => nomatch hz)), hce, hcv, hcl, hWs, hall, hf⟩⟩
  refine st1 _ ?_
  show Steps p.tables e below (T1.setTop { method := m, pc := pc + 3, locals := ls, stack := .ref T.heap.size :: rest, locked := none }) _
  jvm_step X₁.here [X₁.here.top, hexec, d3', Value.category]
  exact hld s' T1 _ _ _ _ hvm X₁ _ hsteps
theorem gx_hatN {ik ic : Nat} (F : FX w p m c cc nL s args own) (t : TN own ik ic) (hw : ∀ w ∈ thw xNSE, va_Nw w s) : ∀ w ∈ nseT own ic, w.before args s = true := by
  refine vx_hat (B := thw xNSE) (fun w h => F.1.2.2.2.2 w (t.2.2.1 w h)) t.2.2.2.1 (fun w h => ?_)
  have h9 := hw w h
  simp only [thw, List.mem_cons, List.not_mem_nil, or_false] at h
  rcases h with rfl | rfl | rfl | rfl <;> exact va_Nw.use rfl h9
theorem gx_throwN (hl : l.stackTraces = false) (F : FX w p m c cc nL s args own) (hG : GI w lay nc s.heap M H locs) (hY : YT (gA w.2.2.1 nc s.heap.size) s s.heap) (hno : ∀ x ∈ c.exceptionTable.toList, False) (hlocks : meth.locks = false) {ik is ic mc ms : Nat} {text : String} {res : Rx} {Qc : Array Value → State → Outcome → State → Prop} (t : TN own ik ic) (hown : own = RX8) (hm : (is, text) ∈ msgs) (hf : some ((1 : Nat), (0 : Int32), M) = some res) (hls : ls.size = nL)
    (d0 : decode cc pc = .ok (.new ik, 3)) (d3 : decode cc (pc + 3) = .ok (.dup, 1)) (d4 : decode cc (pc + 4) = .ok (.ldc is, 2)) (d6 : decode cc (pc + 4 + 2) = .ok (.invokespecial ic, 3)) (d9 : decode cc (pc + 4 + 2 + 3) = .ok (.athrow, 1))
    (hRf : 5 < R.frames) (hRl : (rest.map fun v => v.category).sum + 82 ≤ R.locals) (hRc : cells + 1 ≤ R.cells) (hRs : slots + 6 ≤ R.slots) (hc : cells + 1 ≤ mc) (hs : slots + 6 ≤ ms) :
    W p l e R s m args below meth c H locs cells slots (vx_MQ below Qc (GXx w lay nc res s.heap.size) args s mc ms (gA w.2.2.1 nc s.heap.size)) (F0 m pc ls rest) := by
  obtain ⟨y1, y2, y3, y4, -⟩ := hY
  subst hown
  obtain ⟨sa, hsa⟩ := y4 _ hm
  refine nse_throw (len := 2) (sa := sa) F.1.1 F.1.2.1 hl F.1.2.2.2.1 (F.1.2.2.2.2 _ t.1) (F.1.2.2.2.2 _ t.2.1) (gx_hatN F t (fun w h => y3 w (by simp [h]))) t.2.2.2.2 y1 y2 hG.2.2 (hls.trans F.1.2.2.1.symm) d0 d3 d6 d9 (fun s' T1 R' n1 n2 tg hv X₁ st hst => ?_) hno hRf hRl hRc hRs hlocks (fun t hvm hz hq => gx_xt F hG hf (by decide) rfl hvm hz hq) hG.2.2.2.2 hc hs
  have hsa' : vk_R RX8 is text sa s' := hsa.same hv
  exact X₁.ldcString F.1.1 (own := RX8) (text := text) (index := is) (a := sa) (by rw [hv]; exact F.1.2.2.2.1) hsa'.1 hsa'.2 (g := { method := m, pc := pc + 4, locals := ls, stack := st, locked := none }) rfl (by rw [F.1.2.1]; exact d4) _ hst
theorem gx_throwNW (hl : l.stackTraces = false) (F : FX w p m c cc nL s args own) (hG : GI w lay nc s.heap M H locs) (hY : YT (gA w.2.2.1 nc s.heap.size) s s.heap) (hno : ∀ x ∈ c.exceptionTable.toList, False) (hlocks : meth.locks = false) {ik is ic mc ms : Nat} {text : String} {res : Rx} {Qc : Array Value → State → Outcome → State → Prop} (t : TN own ik ic) (hown : own = RX8) (hm : (is, text) ∈ msgs) (hf : some ((1 : Nat), (0 : Int32), M) = some res) (hls : ls.size = nL)
    (d0 : decode cc pc = .ok (.new ik, 3)) (d3 : decode cc (pc + 3) = .ok (.dup, 1)) (d4 : decode cc (pc + 4) = .ok (.ldc_w is, 3)) (d6 : decode cc (pc + 4 + 3) = .ok (.invokespecial ic, 3)) (d9 : decode cc (pc + 4 + 3 + 3) = .ok (.athrow, 1))
    (hRf : 5 < R.frames) (hRl : (rest.map fun v => v.category).sum + 82 ≤ R.locals) (hRc : cells + 1 ≤ R.cells) (hRs : slots + 6 ≤ R.slots) (hc : cells + 1 ≤ mc) (hs : slots + 6 ≤ ms) :
    W p l e R s m args below meth c H locs cells slots (vx_MQ below Qc (GXx w lay nc res s.heap.size) args s mc ms (gA w.2.2.1 nc s.heap.size)) (F0 m pc ls rest) := by
  obtain ⟨y1, y2, y3, y4, -⟩ := hY
  subst hown
  obtain ⟨sa, hsa⟩ := y4 _ hm
  refine nse_throw (len := 3) (sa := sa) F.1.1 F.1.2.1 hl F.1.2.2.2.1 (F.1.2.2.2.2 _ t.1) (F.1.2.2.2.2 _ t.2.1) (gx_hatN F t (fun w h => y3 w (by simp [h]))) t.2.2.2.2 y1 y2 hG.2.2 (hls.trans F.1.2.2.1.symm) d0 d3 d6 d9 (fun s' T1 R' n1 n2 tg hv X₁ st hst => ?_) hno hRf hRl hRc hRs hlocks (fun t hvm hz hq => gx_xt F hG hf (by decide) rfl hvm hz hq) hG.2.2.2.2 hc hs
  have hsa' : vk_R RX8 is text sa s' := hsa.same hv
  exact X₁.ldcStringW F.1.1 (own := RX8) (text := text) (index := is) (a := sa) (by rw [hv]; exact F.1.2.2.2.1) hsa'.1 hsa'.2 (g := { method := m, pc := pc + 4, locals := ls, stack := st, locked := none }) rfl (by rw [F.1.2.1]; exact d4) _ hst
end NSR
theorem tng_of {own : String} {ic : Nat} (h : ((nseT own ic).filter goodWord).all (fun w => decide (w ∈ lw_tbl)) = true) : ∀ w ∈ (nseT own ic).filter goodWord, w ∈ WS := fun w hw => List.mem_filter.mpr ⟨of_decide_eq_true (List.all_eq_true.mp h w hw), (List.mem_filter.mp hw).2⟩
theorem tnn_of {own : String} {ic : Nat} (h : ((nseT own ic).filter (fun w => !goodWord w)).all (fun w => decide (w ∈ thw xNSE)) = true) : ∀ w ∈ (nseT own ic).filter (fun w => !goodWord w), w ∈ thw xNSE := fun w hw => of_decide_eq_true (List.all_eq_true.mp h w hw)
theorem tno_of {own : String} {ik ic : Nat} (h : (Cond.classLink own ik xNSE :: Cond.initialized xNSE :: nseT own ic).all vx_ot = true) : ∀ w ∈ Cond.classLink own ik xNSE :: Cond.initialized xNSE :: nseT own ic, vx_ot w = true := fun w hw => List.all_eq_true.mp h w hw
theorem tn_gw : ((nseT RX8 174).filter goodWord).all (fun w => decide (w ∈ lw_tbl)) = true := by decide +kernel
theorem tn_X8 (h1 : Cond.classLink RX8 170 xNSE ∈ WS) (h2 : Cond.initialized xNSE ∈ WS) : TN RX8 170 174 := ⟨h1, h2, tng_of tn_gw, tnn_of (by decide +kernel), tno_of (by decide +kernel)⟩
