/-! What lies in the heap ahead of all calls: constants of the enum, their texts, tables; what a throw rests on. -/
theorem al_of {s U : State} (h : s.WarmedH U.vm ∨ s.vm = U.vm) : s.vm.Alike U.vm := h.elim (fun q => q.alike) (fun q => by rw [← q]; exact Vm.Alike.refl s.vm)
def wNm : List String := ["HUNG", "PLAN", "GROUND", "COST", "WARD", "STREET", "LEANS", "GIVES", "BELIEVES", "OR", "AND", "NOT", "LEAN", "HEIGHT", "DAY", "WIND", "WEIGHT", "MORTAR", "FAITH", "DOUBT", "FELL", "OTHER"]
def wVl : List Int32 := [-1, -1, -1, -1, -1, -1, -1, -1, -1, -1, -1, -1, 0, 1, 2, 3, 4, 5, 6, 7, 8, -1]
def wOr : List Int32 := [0, 1, 2, 3, 4, 5, 6, 7, 8, 9, 10, 11, 12, 13, 14, 15, 16, 17, 18, 19, 20, 21]
def wFs : List (String × String × String × List Int32) := [("CockTower$Word", "value", "I", wVl), ("java/lang/Enum", "ordinal", "I", wOr)]
def EnW (ad : Nat → Nat) (A : Nat → Prop) (U : State) (H : Heap) : Prop := va_En "CockTower$Word" "LCockTower$Word;" wNm wFs ad A U H
/-- the texts: of the words 0 to 21, and the signs (22) -/
def sTx : List String := ["hung", "plan", "ground", "cost", "ward", "street", "leans", "gives", "believes", "or", "and", "not", "lean", "height", "day", "wind", "weight", "mortar", "faith", "doubt", "fell", "", ";()+-*/<="]
def sByt : List (List Int32) := [[104, 117, 110, 103], [112, 108, 97, 110], [103, 114, 111, 117, 110, 100], [99, 111, 115, 116], [119, 97, 114, 100], [115, 116, 114, 101, 101, 116], [108, 101, 97, 110, 115], [103, 105, 118, 101, 115], [98, 101, 108, 105, 101, 118, 101, 115], [111, 114], [97, 110, 100], [110, 111, 116], [108, 101, 97, 110], [104, 101, 105, 103, 104, 116], [100, 97, 121], [119, 105, 110, 100], [119, 101, 105, 103, 104, 116], [109, 111, 114, 116, 97, 114], [102, 97, 105, 116, 104], [100, 111, 117, 98, 116], [102, 101, 108, 108], [], [59, 40, 41, 43, 45, 42, 47, 60, 61]]
def sLen : List Nat := [4, 4, 6, 4, 4, 6, 5, 5, 8, 2, 3, 3, 4, 6, 3, 4, 6, 6, 5, 5, 4, 0, 9]
def facL : List Int32 := [1, 1, 2, 6, 24]
def swL : List Int32 := [1, 2, 3, 4, 5, 6, 8, 9, 10, 0, 0, 0, 0, 0, 0, 7, 0, 0, 0, 0, 0, 0]
def xNSE : String := "java/util/NoSuchElementException"
def xIAE : String := "java/lang/IllegalArgumentException"
def exn (k : Nat) : String := if k = 1 then xNSE else xIAE
def thw (X : String) : List Cond := [.declares (Bundle.initS "java/lang/RuntimeException"), .declares (Bundle.initS "java/lang/Exception"), .declares (Bundle.initS Bundle.tN), .castable X X]
def xNm : List String := ["java/lang/RuntimeException", "java/lang/Exception"]
def msgs : List (Nat × String) := [(87, "the tape has not so many bytes"), (172, "what"), (175, "course"), (352, "ward"), (354, "not within 0 and the most"), (322, "days"), (327, "both are one")]
def YT (A : Nat → Prop) (U : State) (H : Heap) : Prop := vx_Zq Bundle.tN "UNASSIGNED_STACK" Bundle.steD A U H ∧ vx_Zq Bundle.tN "SUPPRESSED_SENTINEL" Bundle.listD A U H ∧ (∀ w ∈ thw xNSE ++ thw xIAE, va_Nw w U) ∧ (∀ q ∈ msgs, ∃ sa, vk_R RX8 q.1 q.2 sa U) ∧ va_Nc xIAE xNSE U
theorem yt_ok : XOK YT := by
  intro A B U U' H H' h1 h2 h3 h4
  obtain ⟨a1, a2, a3, a4, a5⟩ := h4
  refine ⟨((a1.moved (al_of h2)).kept h3).narrow h1, ((a2.moved (al_of h2)).kept h3).narrow h1, fun w hw => ?_, fun q hq => ?_, a5.moved (al_of h2)⟩
  · have h9 := a3 w hw
    simp only [thw, List.cons_append, List.nil_append, List.mem_cons, List.not_mem_nil, or_false] at hw
    rcases hw with rfl | rfl | rfl | rfl | rfl | rfl | rfl | rfl
    all_goals first
      | exact h2.elim (fun q => va_Nw.warmD q h9) (fun q => va_Nw.same rfl q h9)
      | exact h2.elim (fun q => va_Nw.warmC q h9) (fun q => va_Nw.same rfl q h9)
  · obtain ⟨sa, hs⟩ := a4 q hq
    exact ⟨sa, h2.elim (fun z => hs.warm z) (fun z => hs.same z.symm)⟩
def YS (w : Wd) (adK adV : Nat → Nat) (tA tF tS : Nat) (A : Nat → Prop) (U : State) (H : Heap) : Prop :=
  EnW w.2.2.2 A U H ∧ va_Ef 22 "CockTower$Word" "text" "Ljava/lang/String;" (fun i => .ref (adK i)) w.2.2.2 A U H ∧ vk_S 23 sLen sByt adK adV A U H ∧
  va_Z "CockTower$Word" "ALL" "[LCockTower$Word;" (.ref tA) A U H ∧ va_T (.object "CockTower$Word") tA 22 (fun j => .ref (w.2.2.2 j)) A U H ∧
  va_Z "CockTower" "FACTORIAL" "[I" (.ref tF) A U H ∧ va_T .int tF 5 (fun j => .int (facL.getD j 0)) A U H ∧
  va_Z "CockTower$1" "$SwitchMap$CockTower$Word" "[I" (.ref tS) A U H ∧ va_T .int tS 22 (fun j => .int (swL.getD j 0)) A U H ∧
  va_Z "java/lang/String" "COMPACT_STRINGS" "Z" (.int 1) A U H ∧ vk_R RX2 103 ";()+-*/<=" (adK 22) U ∧
  va_Zq "jdk/internal/util/Preconditions" "SIOOBE_FORMATTER" "Ljava/util/function/BiFunction;" A U H
/-- the addresses by number: 0 to 21 the words, 100 on the texts, 200 on their bytes, 300 ALL, 301 FACTORIAL, 302 the switch's map -/
def YC (w : Wd) (A : Nat → Prop) (U : State) (H : Heap) : Prop := YT A U H ∧ YS w (fun k => w.2.2.2 (100 + k)) (fun k => w.2.2.2 (200 + k)) (w.2.2.2 300) (w.2.2.2 301) (w.2.2.2 302) A U H
theorem yc_ok (w : Wd) : XOK (YC w) := by
  intro A B U U' H H' h1 h2 h3 h4
  obtain ⟨b1, a1, a2, a3, a4, a5, a6, a7, a8, a9, a10, a11, a12⟩ := h4
  have m := al_of h2
  exact ⟨yt_ok A B U U' H H' h1 h2 h3 b1, ((a1.moved m).kept h3).narrow h1, ((a2.moved m).kept h3).narrow h1, ((a3.moved m).kept h3).narrow h1, ((a4.moved m).kept h3).narrow h1, ((a5.moved m).kept h3).narrow h1, ((a6.moved m).kept h3).narrow h1, ((a7.moved m).kept h3).narrow h1, ((a8.moved m).kept h3).narrow h1, ((a9.moved m).kept h3).narrow h1, ((a10.moved m).kept h3).narrow h1, h2.elim (fun z => a11.warm z) (fun z => a11.same z.symm), ((a12.moved m).kept h3).narrow h1⟩
/-! Methods that throw: 0 and the answer, or which exception (1, 2). -/
def RmX (d mc : Nat) : Room := { frames := d, cells := mc, slots := 6 * mc, locals := 64 * d }
abbrev Rx : Type := Nat × Int32 × Mem
def GXi (w : Wd) (lay : Lay) (nc : Nat) (res : Rx) (sz : Nat) : Array Value → State → Outcome → State → Prop := va_Qi (fun (r2 : Int32) (M2 : Mem) => ((0 : Nat), r2, M2) = res) (GAft w lay nc sz) (gA w.2.2.1 nc sz)
def GXv (w : Wd) (lay : Lay) (nc : Nat) (res : Rx) (sz : Nat) : Array Value → State → Outcome → State → Prop := va_Qv (fun (M2 : Mem) => ((0 : Nat), (0 : Int32), M2) = res) (GAft w lay nc sz) (gA w.2.2.1 nc sz)
def GXx (w : Wd) (lay : Lay) (nc : Nat) (res : Rx) (sz : Nat) : String → State → State → Prop := vx_X (fun (u : Nat × Mem) => (u.1, (0 : Int32), u.2) = res) (fun E u t => (u.1 ≠ 0 ∧ E = exn u.1) ∧ GAft w lay nc sz u.2 t) (gA w.2.2.1 nc sz)
def CX (l : Launch) (w : Wd) (lay : Lay) (nc : Nat) (X : (Nat → Prop) → State → Heap → Prop) (y : MethodName) (cc : ByteArray) (nL : Nat) (ret : Option FieldType) (d mc : Nat) (av : List Value) (M : Mem) (Qc : Nat → Array Value → State → Outcome → State → Prop) (XC : Nat → String → State → State → Prop) : Prop :=
  ∀ sz, vx_Met l y (Cond.code y cc nL ret :: WS) (RmX d mc) (va_Pc av (GPre w lay nc X M sz)) (Qc sz) (XC sz) mc (6 * mc) (gA w.2.2.1 nc sz)
theorem cx_start {l : Launch} {w : Wd} {lay : Lay} {nc : Nat} {X : (Nat → Prop) → State → Heap → Prop} {y : MethodName} {cc : ByteArray} {nL : Nat} {ret : Option FieldType} {d mc : Nat} {av : List Value} {M : Mem} {Qc : Nat → Array Value → State → Outcome → State → Prop} {XC : Nat → String → State → State → Prop} (hy : plainName y.cls = true) (hlen : (lg_sl av).length ≤ nL)
    (body : ∀ (p : Program) (e : Env) (s : State) (m : MethodId) (args : Array Value) (below : List Frame) (meth : Method) (c : Code), FX w p m c cc nL s args y.cls → meth.sig.returnType = ret → meth.locks = false → (∀ x ∈ c.exceptionTable.toList, False) → X (gA w.2.2.1 nc s.heap.size) s s.heap → GI w lay nc s.heap M s.heap [] → ∀ ls : Array Slot, lv_has ls nL (lv_args 0 av) → W p l e (RmX d mc) s m args below meth c s.heap [] 0 0 (vx_MQ below (Qc s.heap.size) (XC s.heap.size) args s mc (6 * mc) (gA w.2.2.1 nc s.heap.size)) (F0 m 0 ls [])) : CX l w lay nc X y cc nL ret d mc av M Qc XC := by
  intro sz
  refine vx_ofW (cc := cc) (maxL := nL) (ret := ret) hy rfl ?_
  intro p e s m args below meth c s₁ B hml hno hv
  obtain ⟨rfl, hsz, hP, hK, hD0, hX⟩ := hv
  have hts : ∀ w ∈ WS, w.before av.toArray s = true := fun w hw => atoms_spec (ws := Cond.code y cc nL ret :: WS) B.pre w (List.mem_cons_of_mem _ hw)
  subst hsz
  have hD : va_D (gA w.2.2.1 nc s.heap.size) (gw w lay nc M) := ⟨hD0.1, fun k q hk => by
    obtain ⟨h1, h2⟩ := gw_of hk
    rw [h2]
    exact Or.inl ⟨k, h1, rfl⟩⟩
  have hl := lv_entry av (n := nL) hlen
  rw [lg_entry_eq]
  exact body p e s m av.toArray below meth c ⟨⟨B.exec, B.bytes, hml, findClass_of_methodNamed B.named, hts⟩, hK⟩ B.returns B.notSynchronized hno hX ⟨hP, hD, va_S.rf⟩ _ hl
/-- a throw's words -/
def TS (own : String) (ik ic : Nat) (cls : String) : Prop := Bundle.fit cls = true ∧ Cond.classLink own ik cls ∈ WS ∧ Cond.initialized cls ∈ WS ∧ (∀ w ∈ (vx_atS own ic cls xNm).filter goodWord, w ∈ WS) ∧ (∀ w ∈ (vx_atS own ic cls xNm).filter (fun w => !goodWord w), w ∈ thw cls) ∧ ∀ w ∈ Cond.classLink own ik cls :: Cond.initialized cls :: vx_atS own ic cls xNm, vx_ot w = true
section CXR
variable {p : Program} {l : Launch} {e : Env} {R : Room} {s : State} {m : MethodId} {args : Array Value} {below : List Frame} {meth : Method} {c : Code} {H : Heap} {locs : List Loc} {cells slots : Nat} {Q : State → Prop}
variable {cc : ByteArray} {pc nL : Nat} {ls : Array Slot} {rest : List Value} {own : String} {w : Wd} {lay : Lay} {nc : Nat} {M : Mem} {X : (Nat → Prop) → State → Heap → Prop}
theorem cx_iret (F : FX w p m c cc nL s args own) (hr : meth.sig.returnType = some .int) (hlocks : meth.locks = false) {x : Int32} {res : Rx} {mc ms : Nat} (hG : GI w lay nc s.heap M H locs) (hf : some ((0 : Nat), x, M) = some res) (h1 : cells ≤ mc) (h2 : slots ≤ ms) (hdg : decode cc pc = .ok (.ireturn, 1)) : W p l e R s m args below meth c H locs cells slots (vx_MQ below (GXi w lay nc res s.heap.size) (GXx w lay nc res s.heap.size) args s mc ms (gA w.2.2.1 nc s.heap.size)) (F0 m pc ls [.int x]) := by
  cases hf
  refine W.widen (k := mc) (n := ms) h1 h2 (vx_ret ?_)
  exact W.iret (v := x) F.1.1 F.1.2.1 hr (fun t ht hW => ⟨⟨x, M, rfl, rfl, by rw [ht]; exact hG.1, va_K.moved hW.alike F.2, hG.2.1⟩, hG.2.2.F ht⟩) hG.2.2.2.2 hdg hlocks
theorem cx_zret (F : FX w p m c cc nL s args own) (hr : meth.sig.returnType = some .boolean) (hlocks : meth.locks = false) {x : Int32} {res : Rx} {mc ms : Nat} (hG : GI w lay nc s.heap M H locs) (hf : some ((0 : Nat), x, M) = some res) (hx : x = 0 ∨ x = 1) (h1 : cells ≤ mc) (h2 : slots ≤ ms) (hdg : decode cc pc = .ok (.ireturn, 1)) : W p l e R s m args below meth c H locs cells slots (vx_MQ below (GXi w lay nc res s.heap.size) (GXx w lay nc res s.heap.size) args s mc ms (gA w.2.2.1 nc s.heap.size)) (F0 m pc ls [.int x]) := by
  cases hf
  refine W.widen (k := mc) (n := ms) h1 h2 (vx_ret ?_)
  exact W.zret (v := x) (ty := .boolean) F.1.1 F.1.2.1 hr (by rcases hx with rfl | rfl <;> rfl) (fun t ht hW => ⟨⟨x, M, rfl, rfl, by rw [ht]; exact hG.1, va_K.moved hW.alike F.2, hG.2.1⟩, hG.2.2.F ht⟩) hG.2.2.2.2 hdg hlocks
theorem cx_vret (F : FX w p m c cc nL s args own) (hr : meth.sig.returnType = none) (hlocks : meth.locks = false) {res : Rx} {mc ms : Nat} (hG : GI w lay nc s.heap M H locs) (hf : some ((0 : Nat), (0 : Int32), M) = some res) (h1 : cells ≤ mc) (h2 : slots ≤ ms) (hdg : decode cc pc = .ok (.return_, 1)) : W p l e R s m args below meth c H locs cells slots (vx_MQ below (GXv w lay nc res s.heap.size) (GXx w lay nc res s.heap.size) args s mc ms (gA w.2.2.1 nc s.heap.size)) (F0 m pc ls []) := by
  cases hf
  refine W.widen (k := mc) (n := ms) h1 h2 (vx_ret ?_)
  exact W.vret F.1.1 F.1.2.1 hr (fun t ht hW => ⟨⟨M, rfl, rfl, by rw [ht]; exact hG.1, va_K.moved hW.alike F.2, hG.2.1⟩, hG.2.2.F ht⟩) hG.2.2.2.2 hdg hlocks
/-- the world behind a throw -/
theorem gx_xt (F : FX w p m c cc nL s args own) (hG : GI w lay nc s.heap M H locs) {t : State} {k : Nat} {res : Rx} {E : String} (hf : some (k, (0 : Int32), M) = some res) (hk : k ≠ 0) (hE : E = exn k) (hvm : s.vm.Alike t.vm) (hz : H.size ≤ t.heap.size) (hq : ∀ q : Nat, q < H.size → t.heap[q]? = H[q]?) : GXx w lay nc res s.heap.size E s t := by
  refine ⟨(k, M), Option.some.inj hf, ⟨⟨hk, hE⟩, hG.1.kept (fun q0 q h => hq q.1 (hG.1 q0 q h).lt), va_K.moved hvm F.2, hG.2.1⟩, Nat.le_trans hG.2.2.1 hz, fun q h1 h2 => ?_⟩
  rw [hq q (Nat.lt_of_lt_of_le h1 hG.2.2.1)]
  exact hG.2.2.2.1 q h1 h2
theorem gx_hat {ik ic : Nat} {cls : String} (F : FX w p m c cc nL s args own) (t : TS own ik ic cls) (hw : ∀ w ∈ thw cls, va_Nw w s) : ∀ w ∈ vx_atS own ic cls xNm, w.before args s = true := by
  refine vx_hat (B := thw cls) (fun w h => F.1.2.2.2.2 w (t.2.2.2.1 w h)) t.2.2.2.2.1 (fun w h => ?_)
  have h9 := hw w h
  simp only [thw, List.mem_cons, List.not_mem_nil, or_false] at h
  rcases h with rfl | rfl | rfl | rfl <;> exact va_Nw.use rfl h9
theorem gx_throwS (hl : l.stackTraces = false) (F : FX w p m c cc nL s args own) (hG : GI w lay nc s.heap M H locs) (hY : YT (gA w.2.2.1 nc s.heap.size) s s.heap) (hno : ∀ x ∈ c.exceptionTable.toList, False) (hlocks : meth.locks = false) {ik is ic k mc ms : Nat} {cls text : String} {res : Rx} {Qc : Array Value → State → Outcome → State → Prop} (t : TS own ik ic cls) (hown : own = RX8) (hm : (is, text) ∈ msgs) (hcls : cls = xNSE ∨ cls = xIAE) (hE : cls = exn k) (hk : k ≠ 0) (hf : some (k, (0 : Int32), M) = some res) (hls : ls.size = nL)
    (d0 : decode cc pc = .ok (.new ik, 3)) (d3 : decode cc (pc + 3) = .ok (.dup, 1)) (d4 : decode cc (pc + 4) = .ok (.ldc is, 2)) (d6 : decode cc (pc + 6) = .ok (.invokespecial ic, 3)) (d9 : decode cc (pc + 9) = .ok (.athrow, 1))
    (hRf : 5 < R.frames) (hRl : (rest.map fun v => v.category).sum + 82 ≤ R.locals) (hRc : cells + 1 ≤ R.cells) (hRs : slots + 6 ≤ R.slots) (hc : cells + 1 ≤ mc) (hs : slots + 6 ≤ ms) :
    W p l e R s m args below meth c H locs cells slots (vx_MQ below Qc (GXx w lay nc res s.heap.size) args s mc ms (gA w.2.2.1 nc s.heap.size)) (F0 m pc ls rest) := by
  obtain ⟨y1, y2, y3, y4, -⟩ := hY
  subst hown
  obtain ⟨sa, hsa⟩ := y4 _ hm
  exact vx_throwS (names := xNm) F.1.1 F.1.2.1 hl F.1.2.2.2.1 t.1 (by decide +kernel) (F.1.2.2.2.2 _ t.2.1) (F.1.2.2.2.2 _ t.2.2.1) hsa (gx_hat F t (fun w h => y3 w (by rcases hcls with rfl | rfl <;> simp [h]))) t.2.2.2.2.2 y1 y2 hG.2.2 (hls.trans F.1.2.2.1.symm) d0 d3 d4 d6 d9 (fun x hx => (hno x hx).elim) hRf hRl hRc hRs hlocks (fun t hvm hz hq => gx_xt F hG hf hk hE hvm hz hq) hG.2.2.2.2 hc hs
theorem gx_throwSW (hl : l.stackTraces = false) (F : FX w p m c cc nL s args own) (hG : GI w lay nc s.heap M H locs) (hY : YT (gA w.2.2.1 nc s.heap.size) s s.heap) (hno : ∀ x ∈ c.exceptionTable.toList, False) (hlocks : meth.locks = false) {ik is ic k mc ms : Nat} {cls text : String} {res : Rx} {Qc : Array Value → State → Outcome → State → Prop} (t : TS own ik ic cls) (hown : own = RX8) (hm : (is, text) ∈ msgs) (hcls : cls = xNSE ∨ cls = xIAE) (hE : cls = exn k) (hk : k ≠ 0) (hf : some (k, (0 : Int32), M) = some res) (hls : ls.size = nL)
    (d0 : decode cc pc = .ok (.new ik, 3)) (d3 : decode cc (pc + 3) = .ok (.dup, 1)) (d4 : decode cc (pc + 4) = .ok (.ldc_w is, 3)) (d6 : decode cc (pc + 7) = .ok (.invokespecial ic, 3)) (d9 : decode cc (pc + 10) = .ok (.athrow, 1))
    (hRf : 5 < R.frames) (hRl : (rest.map fun v => v.category).sum + 82 ≤ R.locals) (hRc : cells + 1 ≤ R.cells) (hRs : slots + 6 ≤ R.slots) (hc : cells + 1 ≤ mc) (hs : slots + 6 ≤ ms) :
    W p l e R s m args below meth c H locs cells slots (vx_MQ below Qc (GXx w lay nc res s.heap.size) args s mc ms (gA w.2.2.1 nc s.heap.size)) (F0 m pc ls rest) := by
  obtain ⟨y1, y2, y3, y4, -⟩ := hY
  subst hown
  obtain ⟨sa, hsa⟩ := y4 _ hm
  exact vx_throwSW (names := xNm) F.1.1 F.1.2.1 hl F.1.2.2.2.1 t.1 (by decide +kernel) (F.1.2.2.2.2 _ t.2.1) (F.1.2.2.2.2 _ t.2.2.1) hsa (gx_hat F t (fun w h => y3 w (by rcases hcls with rfl | rfl <;> simp [h]))) t.2.2.2.2.2 y1 y2 hG.2.2 (hls.trans F.1.2.2.1.symm) d0 d3 d4 d6 d9 (fun x hx => (hno x hx).elim) hRf hRl hRc hRs hlocks (fun t hvm hz hq => gx_xt F hG hf hk hE hvm hz hq) hG.2.2.2.2 hc hs
/-- a call of a method that may throw, from one that lets it go by -/
theorem gx_xrunV (hXk : XOK X) (F : FX w p m c cc nL s args own) (hX : X (gA w.2.2.1 nc s.heap.size) s s.heap) (hG : GI w lay nc s.heap M H locs) {y : MethodName} {cc' : ByteArray} {nL' idx n d mc' : Nat} {ret' : Option FieldType} {C : String} {b : Addr} {As : List Value} {Qc : Nat → Array Value → State → Outcome → State → Prop} {XC : Nat → String → State → State → Prop} (hM : CX l w lay nc X y cc' nL' ret' d mc' (.ref b :: As) M Qc XC) (cv : CV own idx C y cc' nL' ret' n) (hR : d + 1 ≤ R.frames ∧ 8 + (nL' + 11) + 64 * d ≤ R.locals) (hrc : ∃ cell : Cell, H[b]? = some cell ∧ cell.vm.isStatics = false ∧ s.vm.findClass C = some cell.cls) (hn : As.length = n) (hls : ls.size = nL) {st0 : List Value} (hst : st0 = As.reverse ++ .ref b :: rest) (hW : (rest.map fun v => v.category).sum ≤ 8) (hdg : decode cc pc = .ok (.invokevirtual idx, 3)) (hc : cells + mc' ≤ R.cells ∧ slots + 6 * mc' ≤ R.slots) :
    vx_Run p l e R s m args below meth c H locs cells slots mc' (6 * mc') (F0 m pc ls st0) rest (Qc H.size (Value.ref b :: As).toArray) (XC H.size) (gA w.2.2.1 nc H.size) :=
  vx_runV F.1 (hM H.size) (cwV n F.1.2.2.2.2 cv.1 rfl rfl rfl cv.2 hR) ⟨gx_blind hXk, hrc, fun U hU hW => ⟨rfl, gx_pre hXk F hX hG hU hW⟩⟩ rfl hn hls hst (lv_room hW) hdg hc
theorem gx_xrunS (hXk : XOK X) (F : FX w p m c cc nL s args own) (hX : X (gA w.2.2.1 nc s.heap.size) s s.heap) (hG : GI w lay nc s.heap M H locs) {y : MethodName} {cc' : ByteArray} {nL' idx n d mc' : Nat} {ret' : Option FieldType} {As : List Value} {Qc : Nat → Array Value → State → Outcome → State → Prop} {XC : Nat → String → State → State → Prop} (hM : CX l w lay nc X y cc' nL' ret' d mc' As M Qc XC) (cs : CS own idx y cc' nL' ret' n) (hR : d + 1 ≤ R.frames ∧ 8 + (nL' + 11) + 64 * d ≤ R.locals) (hn : As.length = n) (hls : ls.size = nL) {st0 : List Value} (hst : st0 = As.reverse ++ rest) (hW : (rest.map fun v => v.category).sum ≤ 8) (hdg : decode cc pc = .ok (.invokestatic idx, 3)) (hc : cells + mc' ≤ R.cells ∧ slots + 6 * mc' ≤ R.slots) :
    vx_Run p l e R s m args below meth c H locs cells slots mc' (6 * mc') (F0 m pc ls st0) rest (Qc H.size As.toArray) (XC H.size) (gA w.2.2.1 nc H.size) := by
  have ok : ∀ w ∈ va_wsS own idx y (Cond.code y cc' nL' ret' :: WS), w.before args s = true := fun w h => F.1.2.2.2.2 w (cs.1 w h).1
  have hcb : CallB R s args own idx y cc' nL' ret' (Cond.code y cc' nL' ret' :: WS) (RmX d mc') mc' (6 * mc') n := callB_of n F.1.2.2.2.2 (fun w h => cs.1 w (by unfold va_wsS; exact List.mem_append_right _ h)) rfl rfl rfl (ok _ (by simp [va_wsS])) (ok _ (by simp [va_wsS])) cs.2 hR
  exact vx_runS F.1 (hM H.size) ⟨hcb, ok _ (by simp [va_wsS])⟩ ⟨gx_blind hXk, fun U hU hW => ⟨rfl, gx_pre hXk F hX hG hU hW⟩⟩ rfl hn hls hst (lv_room hW) hdg hc
theorem gx_xcallv (hno : ∀ x ∈ c.exceptionTable.toList, False) (hlocks : meth.locks = false) (F : FX w p m c cc nL s args own) (hG : GI w lay nc s.heap M H locs) {st0 : List Value} {a : Array Value} {q res : Rx} {mc' mc ms : Nat} {Qc : Array Value → State → Outcome → State → Prop} (hr : vx_Run p l e R s m args below meth c H locs cells slots mc' (6 * mc') (F0 m pc ls st0) rest (GXv w lay nc q H.size a) (GXx w lay nc q H.size) (gA w.2.2.1 nc H.size)) (h1 : cells + mc' ≤ mc) (h2 : slots + 6 * mc' ≤ ms)
    (hx : q.1 ≠ 0 → some (q.1, (0 : Int32), q.2.2) = some res)
    (kk : q.1 = 0 → ∀ (H1 : Heap) (locs1 : List Loc), GI w lay nc s.heap q.2.2 H1 locs1 → W p l e R s m args below meth c H1 locs1 (cells + mc') (slots + 6 * mc') (vx_MQ below Qc (GXx w lay nc res s.heap.size) args s mc ms (gA w.2.2.1 nc s.heap.size)) (F0 m (pc + 3) ls rest)) : W p l e R s m args below meth c H locs cells slots (vx_MQ below Qc (GXx w lay nc res s.heap.size) args s mc ms (gA w.2.2.1 nc s.heap.size)) (F0 m pc ls st0) := by
  refine vx_callv hr hG.2.2 (fun q _ hq => gA_mono hG.2.2.1 q hq) (fun q hq => gA_mono hG.2.2.1 q hq) (fun q _ hq => gA_mono hG.2.2.1 q hq) (fun E ce q9 u t H1 locs1 ht hvm hp hB hz hk hS hce hcv hcl => ?_) (fun u t H1 locs1 ht hvm hp hB hz hk hS => ?_)
  · cases hp
    have hG1 := gx_aft ht hG hB.2 hS
    exact vx_out (fun x hx => (hno x hx).elim) hlocks hce hcv hcl (fun t ht2 hvm2 => gx_xt F hG1 (hx hB.1.1) hB.1.1 hB.1.2 hvm2 (by rw [ht2]; exact Nat.le_refl _) (fun q _ => by rw [ht2])) hS.2.2 h1 h2
  · cases hp
    exact kk rfl H1 locs1 (gx_aft ht hG hB hS)
end CXR
