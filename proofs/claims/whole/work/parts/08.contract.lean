/-! Contracts: a method does what its function says. -/
def XOK (X : (Nat → Prop) → State → Heap → Prop) : Prop := ∀ (A B : Nat → Prop) (U U' : State) (H H' : Heap), (∀ q, B q → A q) → (U.WarmedH U'.vm ∨ U.vm = U'.vm) → (∀ a : Nat, a < H.size → ¬ A a → H'[a]? = H[a]?) → X A U H → X B U' H'
def Rm (d : Nat) : Room := { frames := d, cells := 0, slots := 0, locals := 64 * d }
def GPre (w : Wd) (lay : Lay) (nc : Nat) (X : (Nat → Prop) → State → Heap → Prop) (M : Mem) (sz : Nat) (U : State) : Prop := U.heap.size = sz ∧ va_P w.1 vwCl (gw w lay nc M) U.heap ∧ va_K w.1 vwCl (tysW w.2.1) U ∧ va_D (fun _ => True) (gw w lay nc M) ∧ X (gA w.2.2.1 nc sz) U U.heap
def GAft (w : Wd) (lay : Lay) (nc : Nat) (sz : Nat) (M : Mem) (t : State) : Prop := va_P w.1 vwCl (gw w lay nc M) t.heap ∧ va_K w.1 vwCl (tysW w.2.1) t ∧ va_D (gA w.2.2.1 nc sz) (gw w lay nc M)
def GQi (w : Wd) (lay : Lay) (nc : Nat) (res : Int32 × Mem) (sz : Nat) : Array Value → State → Outcome → State → Prop := va_Qi (fun (r2 : Int32) (M2 : Mem) => (r2, M2) = res) (GAft w lay nc sz) (gA w.2.2.1 nc sz)
def GQl (w : Wd) (lay : Lay) (nc : Nat) (res : Int64 × Mem) (sz : Nat) : Array Value → State → Outcome → State → Prop := va_Ql (fun (r2 : Int64) (M2 : Mem) => (r2, M2) = res) (GAft w lay nc sz) (gA w.2.2.1 nc sz)
def GQv (w : Wd) (lay : Lay) (nc : Nat) (res : Mem) (sz : Nat) : Array Value → State → Outcome → State → Prop := va_Qv (fun (M2 : Mem) => M2 = res) (GAft w lay nc sz) (gA w.2.2.1 nc sz)
def CG (l : Launch) (w : Wd) (lay : Lay) (nc : Nat) (X : (Nat → Prop) → State → Heap → Prop) (y : MethodName) (cc : ByteArray) (nL : Nat) (ret : Option FieldType) (d : Nat) (av : List Value) (M : Mem) (Qc : Nat → Array Value → State → Outcome → State → Prop) : Prop :=
  ∀ sz, Met l y (Cond.code y cc nL ret :: WS) (Rm d) (va_Pc av (GPre w lay nc X M sz)) (Qc sz) 0 0 (gA w.2.2.1 nc sz)
theorem cg_start {l : Launch} {w : Wd} {lay : Lay} {nc : Nat} {X : (Nat → Prop) → State → Heap → Prop} {y : MethodName} {cc : ByteArray} {nL : Nat} {ret : Option FieldType} {d : Nat} {av : List Value} {M : Mem} {Qc : Nat → Array Value → State → Outcome → State → Prop} (hy : plainName y.cls = true) (hlen : (lg_sl av).length ≤ nL)
    (body : ∀ (p : Program) (e : Env) (s : State) (m : MethodId) (args : Array Value) (below : List Frame) (meth : Method) (c : Code), FX w p m c cc nL s args y.cls → meth.sig.returnType = ret → meth.locks = false → X (gA w.2.2.1 nc s.heap.size) s s.heap → GI w lay nc s.heap M s.heap [] → ∀ ls : Array Slot, lv_has ls nL (lv_args 0 av) → W p l e (Rm d) s m args below meth c s.heap [] 0 0 (MQ below (Qc s.heap.size) args s 0 0 (gA w.2.2.1 nc s.heap.size)) (F0 m 0 ls [])) : CG l w lay nc X y cc nL ret d av M Qc := by
  intro sz
  refine Met.ofW (cc := cc) (maxL := nL) (ret := ret) hy rfl ?_
  intro p e s m args below meth c s₁ B hml hv
  obtain ⟨rfl, hsz, hP, hK, hD0, hX⟩ := hv
  have hts : ∀ w ∈ WS, w.before av.toArray s = true := fun w hw => atoms_spec (ws := Cond.code y cc nL ret :: WS) B.pre w (List.mem_cons_of_mem _ hw)
  subst hsz
  have hD : va_D (gA w.2.2.1 nc s.heap.size) (gw w lay nc M) := ⟨hD0.1, fun k q hk => by
    obtain ⟨h1, h2⟩ := gw_of hk
    rw [h2]
    exact Or.inl ⟨k, h1, rfl⟩⟩
  have hl := lv_entry av (n := nL) hlen
  rw [lg_entry_eq]
  exact body p e s m av.toArray below meth c ⟨⟨B.exec, B.bytes, hml, findClass_of_methodNamed B.named, hts⟩, hK⟩ B.returns B.notSynchronized hX ⟨hP, hD, va_S.rf⟩ _ hl
theorem met_ofWF {l : Launch} {y : MethodName} {ws ws' : List Cond} {rm : Room} {Pc : Array Value → State → Prop} {Qc : Array Value → State → Outcome → State → Prop} {mc ms : Nat} {free : Addr → Prop} {cc : ByteArray} {maxL : Nat} {ret : Option FieldType} (hy : plainFor y = true) (hw : ws = Cond.code y cc maxL ret :: ws')
    (body : ∀ p e s m args below meth c s₁, BodyLoose p l y (headSpec ws rm) cc maxL ret e s m args below meth c s₁ → c.maxLocals = maxL → Pc args s → W p l e (headSpec ws rm).room s m args below meth c s.heap [] 0 0 (MQ below Qc args s mc ms free) (entryFrame m args maxL)) : Met l y ws rm Pc Qc mc ms free := by
  refine MetFree.of_bodySF (code := cc) (maxLocals := maxL) (ret := ret) hy (fun args s m h hn => ?_) (fun p e s m args below meth c s₁ B hml hP _ => ?_)
  · obtain ⟨meth, c, h1, h2, h3, h4, h5, h6, -, -⟩ := Cond.code_spec hn (atoms_spec (ws := ws) h _ (by rw [hw]; exact List.mem_cons_self))
    exact ⟨meth, c, h1, h2, h3, h4, h5, h6⟩
  · obtain ⟨t, a1, o, b1, b2, b3⟩ := body p e s m args below meth c s₁ B hml hP s₁ (by rw [B.state]; rfl) (Stand.of_body B)
    exact ⟨t, o, a1, b1, b2, b3⟩
theorem cg_startF {l : Launch} {w : Wd} {lay : Lay} {nc : Nat} {X : (Nat → Prop) → State → Heap → Prop} {y : MethodName} {cc : ByteArray} {nL : Nat} {ret : Option FieldType} {d : Nat} {av : List Value} {M : Mem} {Qc : Nat → Array Value → State → Outcome → State → Prop} (hy : plainFor y = true) (hlen : (lg_sl av).length ≤ nL)
    (body : ∀ (p : Program) (e : Env) (s : State) (m : MethodId) (args : Array Value) (below : List Frame) (meth : Method) (c : Code), FX w p m c cc nL s args y.cls → meth.sig.returnType = ret → meth.locks = false → X (gA w.2.2.1 nc s.heap.size) s s.heap → GI w lay nc s.heap M s.heap [] → ∀ ls : Array Slot, lv_has ls nL (lv_args 0 av) → W p l e (Rm d) s m args below meth c s.heap [] 0 0 (MQ below (Qc s.heap.size) args s 0 0 (gA w.2.2.1 nc s.heap.size)) (F0 m 0 ls [])) : CG l w lay nc X y cc nL ret d av M Qc := by
  intro sz
  refine met_ofWF (cc := cc) (maxL := nL) (ret := ret) hy rfl ?_
  intro p e s m args below meth c s₁ B hml hv
  obtain ⟨rfl, hsz, hP, hK, hD0, hX⟩ := hv
  have hts : ∀ w ∈ WS, w.before av.toArray s = true := fun w hw => atoms_spec (ws := Cond.code y cc nL ret :: WS) B.pre w (List.mem_cons_of_mem _ hw)
  subst hsz
  have hD : va_D (gA w.2.2.1 nc s.heap.size) (gw w lay nc M) := ⟨hD0.1, fun k q hk => by
    obtain ⟨h1, h2⟩ := gw_of hk
    rw [h2]
    exact Or.inl ⟨k, h1, rfl⟩⟩
  have hl := lv_entry av (n := nL) hlen
  rw [lg_entry_eq]
  exact body p e s m av.toArray below meth c ⟨⟨B.exec, B.bytes, hml, findClass_of_methodNamed B.named, hts⟩, hK⟩ B.returns B.notSynchronized hX ⟨hP, hD, va_S.rf⟩ _ hl
section CR
variable {p : Program} {l : Launch} {e : Env} {R : Room} {s : State} {m : MethodId} {args : Array Value} {below : List Frame} {meth : Method} {c : Code} {H : Heap} {locs : List Loc} {cells slots : Nat} {Q : State → Prop}
variable {cc : ByteArray} {pc nL : Nat} {ls : Array Slot} {rest : List Value} {own : String} {w : Wd} {lay : Lay} {nc : Nat} {M : Mem} {X : (Nat → Prop) → State → Heap → Prop}
theorem cg_iret (F : FX w p m c cc nL s args own) (hr : meth.sig.returnType = some .int) (hlocks : meth.locks = false) {x : Int32} {res : Int32 × Mem} (hG : GI w lay nc s.heap M H locs) (hf : some (x, M) = some res) (hdg : decode cc pc = .ok (.ireturn, 1)) : W p l e R s m args below meth c H locs cells slots (MQ below (GQi w lay nc res s.heap.size) args s cells slots (gA w.2.2.1 nc s.heap.size)) (F0 m pc ls [.int x]) := by
  cases hf
  exact W.iret (v := x) F.1.1 F.1.2.1 hr (fun t ht hW => ⟨⟨x, M, rfl, rfl, by rw [ht]; exact hG.1, va_K.moved hW.alike F.2, hG.2.1⟩, hG.2.2.F ht⟩) hG.2.2.2.2 hdg hlocks
theorem cg_zret (F : FX w p m c cc nL s args own) (hr : meth.sig.returnType = some .boolean) (hlocks : meth.locks = false) {x : Int32} {res : Int32 × Mem} (hG : GI w lay nc s.heap M H locs) (hf : some (x, M) = some res) (hx : x = 0 ∨ x = 1) (hdg : decode cc pc = .ok (.ireturn, 1)) : W p l e R s m args below meth c H locs cells slots (MQ below (GQi w lay nc res s.heap.size) args s cells slots (gA w.2.2.1 nc s.heap.size)) (F0 m pc ls [.int x]) := by
  cases hf
  exact W.zret (v := x) (ty := .boolean) F.1.1 F.1.2.1 hr (by rcases hx with rfl | rfl <;> rfl) (fun t ht hW => ⟨⟨x, M, rfl, rfl, by rw [ht]; exact hG.1, va_K.moved hW.alike F.2, hG.2.1⟩, hG.2.2.F ht⟩) hG.2.2.2.2 hdg hlocks
theorem cg_lret (F : FX w p m c cc nL s args own) (hr : meth.sig.returnType = some .long) (hlocks : meth.locks = false) {x : Int64} {res : Int64 × Mem} (hG : GI w lay nc s.heap M H locs) (hf : some (x, M) = some res) (hdg : decode cc pc = .ok (.lreturn, 1)) : W p l e R s m args below meth c H locs cells slots (MQ below (GQl w lay nc res s.heap.size) args s cells slots (gA w.2.2.1 nc s.heap.size)) (F0 m pc ls [.long x]) := by
  cases hf
  exact W.lret (v := x) F.1.1 F.1.2.1 hr (fun t ht hW => ⟨⟨x, M, rfl, rfl, by rw [ht]; exact hG.1, va_K.moved hW.alike F.2, hG.2.1⟩, hG.2.2.F ht⟩) hG.2.2.2.2 hdg hlocks
theorem cg_vret (F : FX w p m c cc nL s args own) (hr : meth.sig.returnType = none) (hlocks : meth.locks = false) {res : Mem} (hG : GI w lay nc s.heap M H locs) (hf : some M = some res) (hdg : decode cc pc = .ok (.return_, 1)) : W p l e R s m args below meth c H locs cells slots (MQ below (GQv w lay nc res s.heap.size) args s cells slots (gA w.2.2.1 nc s.heap.size)) (F0 m pc ls []) := by
  cases hf
  exact W.vret F.1.1 F.1.2.1 hr (fun t ht hW => ⟨⟨M, rfl, rfl, by rw [ht]; exact hG.1, va_K.moved hW.alike F.2, hG.2.1⟩, hG.2.2.F ht⟩) hG.2.2.2.2 hdg hlocks
/-- what a call of an instance method, of a static one, rests on -/
def CV (own : String) (idx : Nat) (C : String) (y : MethodName) (cc : ByteArray) (nL : Nat) (ret : Option FieldType) (n : Nat) : Prop := GoodIn WS (wsV own idx C y (Cond.code y cc nL ret :: WS)) ∧ y.cls = C ∧ y.cls ≠ "java/lang/invoke/MethodHandle" ∧ y.cls ≠ "java/lang/invoke/VarHandle" ∧ (parseMethodDescriptor y.desc).map (fun d => d.parameters.length) = some n
def CS (own : String) (idx : Nat) (y : MethodName) (cc : ByteArray) (nL : Nat) (ret : Option FieldType) (n : Nat) : Prop := GoodIn WS (va_wsS own idx y (Cond.code y cc nL ret :: WS)) ∧ y.cls ≠ "java/lang/invoke/MethodHandle" ∧ y.cls ≠ "java/lang/invoke/VarHandle" ∧ (parseMethodDescriptor y.desc).map (fun d => d.parameters.length) = some n
def CSN (y : MethodName) (cc : ByteArray) (nL : Nat) (ret : Option FieldType) (n : Nat) : Prop := GoodIn WS (Cond.code y cc nL ret :: WS) ∧ Cond.initialized y.cls ∈ WS ∧ Cond.static y ∈ WS ∧ y.cls ≠ "java/lang/invoke/MethodHandle" ∧ y.cls ≠ "java/lang/invoke/VarHandle" ∧ (parseMethodDescriptor y.desc).map (fun d => d.parameters.length) = some n
theorem csn_of {y : MethodName} {cc : ByteArray} {nL : Nat} {ret : Option FieldType} {n : Nat} (h5 : Cond.code y cc nL ret ∈ WS) (h4 : Cond.initialized y.cls ∈ WS) (h2 : Cond.static y ∈ WS) (hd : y.cls ≠ "java/lang/invoke/MethodHandle" ∧ y.cls ≠ "java/lang/invoke/VarHandle" ∧ (parseMethodDescriptor y.desc).map (fun d => d.parameters.length) = some n) : CSN y cc nL ret n :=
  ⟨ws_GoodIn (fun w hw => (List.mem_cons.mp hw).elim (fun e => by rw [e]; exact h5) (fun h => h)), h4, h2, hd⟩
theorem gx_pre (hXk : XOK X) (F : FX w p m c cc nL s args own) (hX : X (gA w.2.2.1 nc s.heap.size) s s.heap) (hG : GI w lay nc s.heap M H locs) {U : State} (hU : U.heap = H) (hW : s.WarmedH U.vm) : GPre w lay nc X M H.size U :=
  ⟨by rw [hU], by rw [hU]; exact hG.1, va_K.moved hW.alike F.2, hG.2.1.weaken (fun _ _ _ _ => trivial), hXk _ _ s U s.heap U.heap (fun q hq => gA_mono hG.2.2.1 q hq) (Or.inl hW) (fun a h1 h2 => by rw [hU]; exact hG.2.2.2.1 a h1 h2) hX⟩
theorem gx_blind (hXk : XOK X) {av : List Value} {sz : Nat} : FrameBlind (va_Pc av (GPre w lay nc X M sz)) := by
  intro a U g mk h
  obtain ⟨h1, h2, h3, h4, h5, h6⟩ := h
  exact ⟨h1, h2, h3, va_K.moved (u := U) (U := U.calling g mk a) (Vm.Alike.refl U.vm) h4, h5, hXk _ _ U (U.calling g mk a) U.heap (U.calling g mk a).heap (fun _ h => h) (Or.inr rfl) (fun _ _ _ => rfl) h6⟩
theorem gx_aft {t : State} {H1 : Heap} {locs1 : List Loc} {M' : Mem} (ht : t.heap = H1) (hG : GI w lay nc s.heap M H locs) (h : GAft w lay nc H.size M' t) (hS : va_S (gA w.2.2.1 nc s.heap.size) s.heap H1 locs1) : GI w lay nc s.heap M' H1 locs1 := by
  obtain ⟨h1, -, h3⟩ := h
  rw [ht] at h1
  exact ⟨h1, h3.weaken (fun k q _ hq => gA_mono hG.2.2.1 _ hq), hS⟩
theorem gx_runV (hXk : XOK X) (F : FX w p m c cc nL s args own) (hX : X (gA w.2.2.1 nc s.heap.size) s s.heap) (hG : GI w lay nc s.heap M H locs) {y : MethodName} {cc' : ByteArray} {nL' idx n d : Nat} {ret' : Option FieldType} {C : String} {b : Addr} {As : List Value} {Qc : Nat → Array Value → State → Outcome → State → Prop} (hM : CG l w lay nc X y cc' nL' ret' d (.ref b :: As) M Qc) (cv : CV own idx C y cc' nL' ret' n) (hR : d + 1 ≤ R.frames ∧ 8 + (nL' + 11) + 64 * d ≤ R.locals) (hrc : ∃ cell : Cell, H[b]? = some cell ∧ cell.vm.isStatics = false ∧ s.vm.findClass C = some cell.cls) (hn : As.length = n) (hls : ls.size = nL) {st0 : List Value} (hst : st0 = As.reverse ++ .ref b :: rest) (hW : (rest.map fun v => v.category).sum ≤ 8) (hdg : decode cc pc = .ok (.invokevirtual idx, 3)) (hc : cells ≤ R.cells ∧ slots ≤ R.slots) :
    va_Run p l e R s m args below meth c H locs cells slots 0 0 (F0 m pc ls st0) rest (Qc H.size (Value.ref b :: As).toArray) (gA w.2.2.1 nc H.size) :=
  va_runV F.1 (hM H.size) (cwV n F.1.2.2.2.2 cv.1 rfl rfl rfl cv.2 hR) ⟨gx_blind hXk, hrc, fun U hU hW => ⟨rfl, gx_pre hXk F hX hG hU hW⟩⟩ rfl hn hls hst (lv_room hW) hdg hc
theorem gx_runS (hXk : XOK X) (F : FX w p m c cc nL s args own) (hX : X (gA w.2.2.1 nc s.heap.size) s s.heap) (hG : GI w lay nc s.heap M H locs) {y : MethodName} {cc' : ByteArray} {nL' idx n d : Nat} {ret' : Option FieldType} {As : List Value} {Qc : Nat → Array Value → State → Outcome → State → Prop} (hM : CG l w lay nc X y cc' nL' ret' d As M Qc) (cs : CS own idx y cc' nL' ret' n) (hR : d + 1 ≤ R.frames ∧ 8 + (nL' + 11) + 64 * d ≤ R.locals) (hn : As.length = n) (hls : ls.size = nL) {st0 : List Value} (hst : st0 = As.reverse ++ rest) (hW : (rest.map fun v => v.category).sum ≤ 8) (hdg : decode cc pc = .ok (.invokestatic idx, 3)) (hc : cells ≤ R.cells ∧ slots ≤ R.slots) :
    va_Run p l e R s m args below meth c H locs cells slots 0 0 (F0 m pc ls st0) rest (Qc H.size As.toArray) (gA w.2.2.1 nc H.size) := by
  have ok : ∀ w ∈ va_wsS own idx y (Cond.code y cc' nL' ret' :: WS), w.before args s = true := fun w h => F.1.2.2.2.2 w (cs.1 w h).1
  have hcb : CallB R s args own idx y cc' nL' ret' (Cond.code y cc' nL' ret' :: WS) (Rm d) 0 0 n := callB_of n F.1.2.2.2.2 (fun w h => cs.1 w (by unfold va_wsS; exact List.mem_append_right _ h)) rfl rfl rfl (ok _ (by simp [va_wsS])) (ok _ (by simp [va_wsS])) cs.2 hR
  exact va_runS F.1 (hM H.size) ⟨hcb, ok _ (by simp [va_wsS])⟩ ⟨gx_blind hXk, fun U hU hW => ⟨rfl, gx_pre hXk F hX hG hU hW⟩⟩ rfl hn hls hst (lv_room hW) hdg hc
theorem gx_runSN (hXk : XOK X) (F : FX w p m c cc nL s args own) (hX : X (gA w.2.2.1 nc s.heap.size) s s.heap) (hG : GI w lay nc s.heap M H locs) {y : MethodName} {cc' : ByteArray} {nL' idx n d : Nat} {ret' : Option FieldType} {As : List Value} {Qc : Nat → Array Value → State → Outcome → State → Prop} {host : String} (hM : CG l w lay nc X y cc' nL' ret' d As M Qc) (hN : va_Nw (.methodLinkNest own idx y host) s) (cs : CSN y cc' nL' ret' n) (hR : d + 1 ≤ R.frames ∧ 8 + (nL' + 11) + 64 * d ≤ R.locals) (hn : As.length = n) (hls : ls.size = nL) {st0 : List Value} (hst : st0 = As.reverse ++ rest) (hW : (rest.map fun v => v.category).sum ≤ 8) (hdg : decode cc pc = .ok (.invokestatic idx, 3)) (hc : cells ≤ R.cells ∧ slots ≤ R.slots) :
    va_Run p l e R s m args below meth c H locs cells slots 0 0 (F0 m pc ls st0) rest (Qc H.size As.toArray) (gA w.2.2.1 nc H.size) := by
  obtain ⟨hg, h1, h2, hd⟩ := cs
  exact va_runSN F.1 (hM H.size) ⟨va_cnB n F.1.2.2.2.2 hg rfl rfl rfl hN (F.1.2.2.2.2 _ h1) hd hR, F.1.2.2.2.2 _ h2, trivial⟩ ⟨gx_blind hXk, fun U hU hW => ⟨rfl, gx_pre hXk F hX hG hU hW⟩⟩ rfl hn hls hst (lv_room hW) hdg hc
theorem gx_calli (hG : GI w lay nc s.heap M H locs) {st0 : List Value} {a : Array Value} {res : Int32 × Mem} (hr : va_Run p l e R s m args below meth c H locs cells slots 0 0 (F0 m pc ls st0) rest (GQi w lay nc res H.size a) (gA w.2.2.1 nc H.size)) (kk : ∀ (H1 : Heap) (locs1 : List Loc), GI w lay nc s.heap res.2 H1 locs1 → W p l e R s m args below meth c H1 locs1 cells slots Q (F0 m (pc + 3) ls (.int res.1 :: rest))) : W p l e R s m args below meth c H locs cells slots Q (F0 m pc ls st0) := by
  refine va_calli hr hG.2.2 (fun q _ hq => gA_mono hG.2.2.1 q hq) (fun q hq => gA_mono hG.2.2.1 q hq) (fun r u t H1 locs1 ht hvm hp hB hz hk hS => ?_)
  cases hp
  exact kk H1 locs1 (gx_aft ht hG hB hS)
theorem gx_calll (hG : GI w lay nc s.heap M H locs) {st0 : List Value} {a : Array Value} {res : Int64 × Mem} (hr : va_Run p l e R s m args below meth c H locs cells slots 0 0 (F0 m pc ls st0) rest (GQl w lay nc res H.size a) (gA w.2.2.1 nc H.size)) (kk : ∀ (H1 : Heap) (locs1 : List Loc), GI w lay nc s.heap res.2 H1 locs1 → W p l e R s m args below meth c H1 locs1 cells slots Q (F0 m (pc + 3) ls (.long res.1 :: rest))) : W p l e R s m args below meth c H locs cells slots Q (F0 m pc ls st0) := by
  refine va_calll hr hG.2.2 (fun q _ hq => gA_mono hG.2.2.1 q hq) (fun q hq => gA_mono hG.2.2.1 q hq) (fun r u t H1 locs1 ht hvm hp hB hz hk hS => ?_)
  cases hp
  exact kk H1 locs1 (gx_aft ht hG hB hS)
theorem gx_callv (hG : GI w lay nc s.heap M H locs) {st0 : List Value} {a : Array Value} {res : Mem} (hr : va_Run p l e R s m args below meth c H locs cells slots 0 0 (F0 m pc ls st0) rest (GQv w lay nc res H.size a) (gA w.2.2.1 nc H.size)) (kk : ∀ (H1 : Heap) (locs1 : List Loc), GI w lay nc s.heap res H1 locs1 → W p l e R s m args below meth c H1 locs1 cells slots Q (F0 m (pc + 3) ls rest)) : W p l e R s m args below meth c H locs cells slots Q (F0 m pc ls st0) := by
  refine va_callv hr hG.2.2 (fun q _ hq => gA_mono hG.2.2.1 q hq) (fun q hq => gA_mono hG.2.2.1 q hq) (fun u t H1 locs1 ht hvm hp hB hz hk hS => ?_)
  cases hp
  exact kk H1 locs1 (gx_aft ht hG hB hS)
end CR
