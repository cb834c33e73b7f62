/-! Answers of other kinds: a char, a byte; a thing of the world; a word of the enum. -/
def GQt (w : Wd) (lay : Lay) (nc : Nat) (res : Nat × Mem) (sz : Nat) : Array Value → State → Outcome → State → Prop := va_Qr (fun (u : Nat × Mem) => u = res) (fun u a t => a = w.2.2.1 u.1 ∧ GAft w lay nc sz u.2 t) (gA w.2.2.1 nc sz)
def GQe (w : Wd) (lay : Lay) (nc : Nat) (res : Nat × Mem) (sz : Nat) : Array Value → State → Outcome → State → Prop := va_Qr (fun (u : Nat × Mem) => u = res) (fun u a t => a = w.2.2.2 u.1 ∧ GAft w lay nc sz u.2 t) (gA w.2.2.1 nc sz)
section CT
variable {p : Program} {l : Launch} {e : Env} {R : Room} {s : State} {m : MethodId} {args : Array Value} {below : List Frame} {meth : Method} {c : Code} {H : Heap} {locs : List Loc} {cells slots : Nat} {Q : State → Prop}
variable {cc : ByteArray} {pc nL : Nat} {ls : Array Slot} {rest : List Value} {own : String} {w : Wd} {lay : Lay} {nc : Nat} {M : Mem} {X : (Nat → Prop) → State → Heap → Prop}
theorem cg_tret (F : FX w p m c cc nL s args own) {ty : FieldType} (hr : meth.sig.returnType = some ty) (hlocks : meth.locks = false) {x : Int32} {res : Int32 × Mem} (hG : GI w lay nc s.heap M H locs) (hf : some (x, M) = some res) (hn : narrow ty (.int x) = .int x) (hdg : decode cc pc = .ok (.ireturn, 1)) : W p l e R s m args below meth c H locs cells slots (MQ below (GQi w lay nc res s.heap.size) args s cells slots (gA w.2.2.1 nc s.heap.size)) (F0 m pc ls [.int x]) := by
  cases hf
  exact W.zret (v := x) (ty := ty) F.1.1 F.1.2.1 hr hn (fun t ht hW => ⟨⟨x, M, rfl, rfl, by rw [ht]; exact hG.1, va_K.moved hW.alike F.2, hG.2.1⟩, hG.2.2.F ht⟩) hG.2.2.2.2 hdg hlocks
theorem cg_aretT (F : FX w p m c cc nL s args own) {C : String} (hr : meth.sig.returnType = some (.object C)) (hlocks : meth.locks = false) {i : Nat} {res : Nat × Mem} (hG : GI w lay nc s.heap M H locs) (hf : some (i, M) = some res) (hdg : decode cc pc = .ok (.areturn, 1)) : W p l e R s m args below meth c H locs cells slots (MQ below (GQt w lay nc res s.heap.size) args s cells slots (gA w.2.2.1 nc s.heap.size)) (F0 m pc ls [.ref (w.2.2.1 i)]) := by
  cases hf
  exact W.aret (v := .ref (w.2.2.1 i)) F.1.1 F.1.2.1 hr (Or.inl ⟨_, rfl⟩) (Or.inr ⟨_, rfl⟩) (fun t ht hW => ⟨⟨(i, M), _, rfl, rfl, rfl, by rw [ht]; exact hG.1, va_K.moved hW.alike F.2, hG.2.1⟩, hG.2.2.F ht⟩) hG.2.2.2.2 hdg (hlocks := hlocks)
theorem cg_aretE (F : FX w p m c cc nL s args own) {C : String} (hr : meth.sig.returnType = some (.object C)) (hlocks : meth.locks = false) {i : Nat} {res : Nat × Mem} (hG : GI w lay nc s.heap M H locs) (hf : some (i, M) = some res) (hdg : decode cc pc = .ok (.areturn, 1)) : W p l e R s m args below meth c H locs cells slots (MQ below (GQe w lay nc res s.heap.size) args s cells slots (gA w.2.2.1 nc s.heap.size)) (F0 m pc ls [.ref (w.2.2.2 i)]) := by
  cases hf
  exact W.aret (v := .ref (w.2.2.2 i)) F.1.1 F.1.2.1 hr (Or.inl ⟨_, rfl⟩) (Or.inr ⟨_, rfl⟩) (fun t ht hW => ⟨⟨(i, M), _, rfl, rfl, rfl, by rw [ht]; exact hG.1, va_K.moved hW.alike F.2, hG.2.1⟩, hG.2.2.F ht⟩) hG.2.2.2.2 hdg (hlocks := hlocks)
theorem gx_callt (hG : GI w lay nc s.heap M H locs) {st0 : List Value} {a : Array Value} {res : Nat × Mem} (hr : va_Run p l e R s m args below meth c H locs cells slots 0 0 (F0 m pc ls st0) rest (GQt w lay nc res H.size a) (gA w.2.2.1 nc H.size)) (kk : ∀ (H1 : Heap) (locs1 : List Loc), GI w lay nc s.heap res.2 H1 locs1 → W p l e R s m args below meth c H1 locs1 cells slots Q (F0 m (pc + 3) ls (.ref (w.2.2.1 res.1) :: rest))) : W p l e R s m args below meth c H locs cells slots Q (F0 m pc ls st0) := by
  refine va_callr hr hG.2.2 (fun q _ hq => gA_mono hG.2.2.1 q hq) (fun q hq => gA_mono hG.2.2.1 q hq) (fun u a t H1 locs1 ht hvm hp hB hz hk hS => ?_)
  cases hp
  obtain ⟨rfl, hB⟩ := hB
  exact kk H1 locs1 (gx_aft ht hG hB hS)
theorem gx_calle (hG : GI w lay nc s.heap M H locs) {st0 : List Value} {a : Array Value} {res : Nat × Mem} (hr : va_Run p l e R s m args below meth c H locs cells slots 0 0 (F0 m pc ls st0) rest (GQe w lay nc res H.size a) (gA w.2.2.1 nc H.size)) (kk : ∀ (H1 : Heap) (locs1 : List Loc), GI w lay nc s.heap res.2 H1 locs1 → W p l e R s m args below meth c H1 locs1 cells slots Q (F0 m (pc + 3) ls (.ref (w.2.2.2 res.1) :: rest))) : W p l e R s m args below meth c H locs cells slots Q (F0 m pc ls st0) := by
  refine va_callr hr hG.2.2 (fun q _ hq => gA_mono hG.2.2.1 q hq) (fun q hq => gA_mono hG.2.2.1 q hq) (fun u a t H1 locs1 ht hvm hp hB hz hk hS => ?_)
  cases hp
  obtain ⟨rfl, hB⟩ := hB
  exact kk H1 locs1 (gx_aft ht hG hB hS)
theorem gx_runU (hXk : XOK X) (F : FX w p m c cc nL s args own) (hX : X (gA w.2.2.1 nc s.heap.size) s s.heap) (hG : GI w lay nc s.heap M H locs) {x y : MethodName} {cc' : ByteArray} {nL' idx n d : Nat} {ret' : Option FieldType} {C owner : String} {b : Addr} {As : List Value} {Qc : Nat → Array Value → State → Outcome → State → Prop} (hM : CG l w lay nc X y cc' nL' ret' d (.ref b :: As) M Qc) (cv : GoodIn WS (va_wsU own idx C owner x y (Cond.code y cc' nL' ret' :: WS))) (hyx : y = ⟨owner, x.name, x.desc⟩) (hd : owner ≠ "java/lang/invoke/MethodHandle" ∧ owner ≠ "java/lang/invoke/VarHandle" ∧ (parseMethodDescriptor x.desc).map (fun d => d.parameters.length) = some n) (hR : d + 1 ≤ R.frames ∧ 8 + (nL' + 11) + 64 * d ≤ R.locals) (hrc : ∃ cell : Cell, H[b]? = some cell ∧ cell.vm.isStatics = false ∧ s.vm.findClass C = some cell.cls) (hn : As.length = n) (hls : ls.size = nL) {st0 : List Value} (hst : st0 = As.reverse ++ .ref b :: rest) (hW : (rest.map fun v => v.category).sum ≤ 8) (hdg : decode cc pc = .ok (.invokevirtual idx, 3)) (hc : cells ≤ R.cells ∧ slots ≤ R.slots) :
    va_Run p l e R s m args below meth c H locs cells slots 0 0 (F0 m pc ls st0) rest (Qc H.size (Value.ref b :: As).toArray) (gA w.2.2.1 nc H.size) :=
  va_runU F.1 (hM H.size) (va_cwU n F.1.2.2.2.2 cv rfl rfl rfl hyx hd hR) ⟨gx_blind hXk, hrc, fun U hU hW => ⟨rfl, gx_pre hXk F hX hG hU hW⟩⟩ rfl hn hls hst (lv_room hW) hdg hc
end CT
theorem ws_U {own C owner : String} {idx : Nat} {x y : MethodName} {cc : ByteArray} {nL : Nat} {ret : Option FieldType} (h1 : Cond.methodLink own idx x ∈ WS) (h2 : Cond.sameMethod x.cls owner x.name x.desc ∈ WS) (h3 : Cond.selects C x y ∈ WS) (h4 : Cond.instanceMethod y ∈ WS) (h5 : Cond.initialized y.cls ∈ WS) (h6 : Cond.code y cc nL ret ∈ WS) : GoodIn WS (va_wsU own idx C owner x y (Cond.code y cc nL ret :: WS)) := by
  refine ws_GoodIn (fun w hw => ?_)
  simp only [va_wsU, List.cons_append, List.nil_append, List.mem_cons] at hw
  rcases hw with rfl | rfl | rfl | rfl | rfl | rfl | h
  · exact h1
  · exact h2
  · exact h3
  · exact h4
  · exact h5
  · exact h6
  · exact h
