/-! The law's own methods: a call whose exceptions are caught. -/
theorem met_of_vx {l : Launch} {y : MethodName} {ws : List Cond} {rm : Room} {Pc : Array Value → State → Prop} {Qc : Array Value → State → Outcome → State → Prop} {mc ms : Nat} {free : Addr → Prop} (hM : vx_Met l y ws rm Pc Qc (fun _ _ _ => False) mc ms free) : Met l y ws rm Pc Qc mc ms free := by
  intro p e ha hc hk s m args below hf happ hP hK
  obtain ⟨k, o, h1, h2, h3, hQ⟩ := hM p e ha hc hk s m args below hf happ hP hK
  refine ⟨k, o, h1, h2, h3, ?_⟩
  rcases hQ with h | ⟨q, -, E, ce, L, hx, -⟩
  · exact h
  · exact hx.elim
def CGW (l : Launch) (w : Wd) (lay : Lay) (nc : Nat) (X : (Nat → Prop) → State → Heap → Prop) (y : MethodName) (cc : ByteArray) (nL : Nat) (ret : Option FieldType) (hh : List (Nat × Nat × Nat × Nat)) (d mc : Nat) (av : List Value) (M : Mem) (Qc : Nat → Array Value → State → Outcome → State → Prop) : Prop :=
  ∀ sz, Met l y (Cond.codeWith y cc nL ret hh :: WS) (RmX d mc) (va_Pc av (GPre w lay nc X M sz)) (Qc sz) mc (6 * mc) (gA w.2.2.1 nc sz)
theorem cw_start {l : Launch} {w : Wd} {lay : Lay} {nc : Nat} {X : (Nat → Prop) → State → Heap → Prop} {y : MethodName} {cc : ByteArray} {nL : Nat} {ret : Option FieldType} {hh : List (Nat × Nat × Nat × Nat)} {d mc : Nat} {av : List Value} {M : Mem} {Qc : Nat → Array Value → State → Outcome → State → Prop} (hy : plainName y.cls = true) (hlen : (lg_sl av).length ≤ nL)
    (body : ∀ (p : Program) (e : Env) (s : State) (m : MethodId) (args : Array Value) (below : List Frame) (meth : Method) (c : Code), FX w p m c cc nL s args y.cls → meth.sig.returnType = ret → meth.locks = false → c.exceptionTable.toList = tableOf hh → X (gA w.2.2.1 nc s.heap.size) s s.heap → GI w lay nc s.heap M s.heap [] → ∀ ls : Array Slot, lv_has ls nL (lv_args 0 av) → W p l e (RmX d mc) s m args below meth c s.heap [] 0 0 (vx_MQ below (Qc s.heap.size) (fun _ _ _ => False) args s mc (6 * mc) (gA w.2.2.1 nc s.heap.size)) (F0 m 0 ls [])) : CGW l w lay nc X y cc nL ret hh d mc av M Qc := by
  intro sz
  refine met_of_vx (vx_ofWH (cc := cc) (maxL := nL) (ret := ret) (hh := hh) hy rfl ?_)
  intro p e s m args below meth c s₁ B hml hv
  obtain ⟨rfl, hsz, hP, hK, hD0, hX⟩ := hv
  have hall := atoms_spec (ws := Cond.codeWith y cc nL ret hh :: WS) B.pre
  have hts : ∀ w ∈ WS, w.before av.toArray s = true := fun w hw => hall w (List.mem_cons_of_mem _ hw)
  subst hsz
  have hD : va_D (gA w.2.2.1 nc s.heap.size) (gw w lay nc M) := ⟨hD0.1, fun k q hk => by
    obtain ⟨h1, h2⟩ := gw_of hk
    rw [h2]
    exact Or.inl ⟨k, h1, rfl⟩⟩
  have hl := lv_entry av (n := nL) hlen
  rw [lg_entry_eq]
  exact body p e s m av.toArray below meth c ⟨⟨B.exec, B.bytes, hml, findClass_of_methodNamed B.named, hts⟩, hK⟩ B.returns B.notSynchronized (vx_table (x := y) B (hall _ List.mem_cons_self)) hX ⟨hP, hD, va_S.rf⟩ _ hl
section CWR
variable {p : Program} {l : Launch} {e : Env} {R : Room} {s : State} {m : MethodId} {args : Array Value} {below : List Frame} {meth : Method} {c : Code} {H : Heap} {locs : List Loc} {cells slots : Nat} {Q : State → Prop}
variable {cc : ByteArray} {pc nL : Nat} {ls : Array Slot} {rest : List Value} {own : String} {w : Wd} {lay : Lay} {nc : Nat} {M : Mem} {X : (Nat → Prop) → State → Heap → Prop}
theorem cw_iret (F : FX w p m c cc nL s args own) (hr : meth.sig.returnType = some .int) (hlocks : meth.locks = false) {x : Int32} {res : Int32 × Mem} {mc ms : Nat} (hG : GI w lay nc s.heap M H locs) (hf : some (x, M) = some res) (h1 : cells ≤ mc) (h2 : slots ≤ ms) (hdg : decode cc pc = .ok (.ireturn, 1)) : W p l e R s m args below meth c H locs cells slots (vx_MQ below (GQi w lay nc res s.heap.size) (fun _ _ _ => False) args s mc ms (gA w.2.2.1 nc s.heap.size)) (F0 m pc ls [.int x]) := by
  cases hf
  refine W.widen (k := mc) (n := ms) h1 h2 (vx_ret ?_)
  exact W.iret (v := x) F.1.1 F.1.2.1 hr (fun t ht hW => ⟨⟨x, M, rfl, rfl, by rw [ht]; exact hG.1, va_K.moved hW.alike F.2, hG.2.1⟩, hG.2.2.F ht⟩) hG.2.2.2.2 hdg hlocks
theorem gx_ycalli (hG : GI w lay nc s.heap M H locs) {st0 : List Value} {a : Array Value} {q : Rx} {mc' : Nat} (hr : vx_Run p l e R s m args below meth c H locs cells slots mc' (6 * mc') (F0 m pc ls st0) rest (GXi w lay nc q H.size a) (GXx w lay nc q H.size) (gA w.2.2.1 nc H.size))
    (kk : q.1 = 0 → ∀ (H1 : Heap) (locs1 : List Loc), GI w lay nc s.heap q.2.2 H1 locs1 → W p l e R s m args below meth c H1 locs1 (cells + mc') (slots + 6 * mc') Q (F0 m (pc + 3) ls (.int q.2.1 :: rest)))
    (kx : q.1 ≠ 0 → ∀ (ce : Cell) (q9 : Addr) (H1 : Heap) (locs1 : List Loc), GI w lay nc s.heap q.2.2 H1 locs1 → H1[q9]? = some ce → ce.vm = .none → s.vm.findClass (exn q.1) = some ce.cls → vx_W p l e R s m args below meth c H1 locs1 (cells + mc') (slots + 6 * mc') Q (F0 m pc ls rest) q9) : W p l e R s m args below meth c H locs cells slots Q (F0 m pc ls st0) := by
  refine vx_calli hr hG.2.2 (fun q _ hq => gA_mono hG.2.2.1 q hq) (fun q hq => gA_mono hG.2.2.1 q hq) (fun q _ hq => gA_mono hG.2.2.1 q hq) (fun E ce q9 u t H1 locs1 ht hvm hp hB hz hk hS hce hcv hcl => ?_) (fun r u t H1 locs1 ht hvm hp hB hz hk hS => ?_)
  · cases hp
    rw [hB.1.2] at hcl
    exact kx hB.1.1 ce q9 H1 locs1 (gx_aft ht hG hB.2 hS) hce hcv hcl
  · cases hp
    exact kk rfl H1 locs1 (gx_aft ht hG hB hS)
end CWR
