/-! Constructors: worlds as lists of cells. -/
def GL (w : Wd) (A : Nat → Prop) (H0 : Heap) (ws : va_W) (H : Heap) (locs : List Loc) : Prop := va_P w.1 vwCl ws H ∧ va_D A ws ∧ va_S A H0 H locs
def nestI : List (String × Nat × MethodName) := [(RX8, 15, yX4_init), (RX8, 28, yX1_init), (RX8, 35, yX3_init), (RX8, 58, yX2_init), (RX2, 17, yX4_init), (RX2, 24, yX6_init), (RX8, 65, yX6_init)]
def XI (w : Wd) : (Nat → Prop) → State → Heap → Prop := fun A U H => (∀ q ∈ nestI, va_Nw (.methodLinkNest q.1 q.2.1 q.2.2 RX8) U) ∧ EnW w.2.2.2 A U H
theorem xi_ok (w : Wd) : XOK (XI w) := fun A B U U' H H' h1 h2 h3 h4 => ⟨fun q hq => nw_move h2 (h4.1 q hq), ((h4.2.moved (al_of h2)).kept h3).narrow h1⟩
def RmK (d mc ms : Nat) : Room := { frames := d, cells := mc, slots := ms, locals := 64 * d }
def KPre (w : Wd) (X : (Nat → Prop) → State → Heap → Prop) (a : Nat) (e0 : va_E) (sz : Nat) (U : State) : Prop := U.heap.size = sz ∧ va_P w.1 vwCl [(a, e0)] U.heap ∧ va_K w.1 vwCl (tysW w.2.1) U ∧ va_D (fun _ => True) [(a, e0)] ∧ X (va_A [(a, e0)] sz) U U.heap
def KQ (w : Wd) (a : Nat) (e0 : va_E) (L : (Nat → Nat) → va_W) (sz : Nat) : Array Value → State → Outcome → State → Prop := va_Qv (fun (_ : Nat → Nat) => True) (fun q t => va_P w.1 vwCl (L q) t.heap ∧ va_K w.1 vwCl (tysW w.2.1) t ∧ va_D (va_A [(a, e0)] sz) (L q)) (va_A [(a, e0)] sz)
def KC (l : Launch) (w : Wd) (X : (Nat → Prop) → State → Heap → Prop) (y : MethodName) (cc : ByteArray) (d mc ms a : Nat) (e0 : va_E) (L : (Nat → Nat) → va_W) : Prop :=
  ∀ sz, Met l y (Cond.code y cc 1 none :: WS) (RmK d mc ms) (va_Pc [.ref a] (KPre w X a e0 sz)) (KQ w a e0 L sz) mc ms (va_A [(a, e0)] sz)
theorem kc_start {l : Launch} {w : Wd} {X : (Nat → Prop) → State → Heap → Prop} {y : MethodName} {cc : ByteArray} {d mc ms a : Nat} {e0 : va_E} {L : (Nat → Nat) → va_W} (hy : plainName y.cls = true)
    (body : ∀ (p : Program) (e : Env) (s : State) (m : MethodId) (args : Array Value) (below : List Frame) (meth : Method) (c : Code), FX w p m c cc 1 s args y.cls → meth.sig.returnType = none → meth.locks = false → meth.name = y.name → X (va_A [(a, e0)] s.heap.size) s s.heap → (∀ q, s.heap.size ≤ q → va_A [(a, e0)] s.heap.size q) → GL w (va_A [(a, e0)] s.heap.size) s.heap [(a, e0)] s.heap [] → ∀ ls : Array Slot, lv_has ls 1 [(0, .ref a)] → W p l e (RmK d mc ms) s m args below meth c s.heap [] 0 0 (MQ below (KQ w a e0 L s.heap.size) args s mc ms (va_A [(a, e0)] s.heap.size)) (F0 m 0 ls [])) : KC l w X y cc d mc ms a e0 L := by
  intro sz
  refine Met.ofW (cc := cc) (maxL := 1) (ret := none) hy rfl ?_
  intro p e s m args below meth c s₁ B hml hv
  obtain ⟨rfl, hsz, hP, hK, hD0, hX⟩ := hv
  have hts : ∀ w ∈ WS, w.before [Value.ref a].toArray s = true := fun w hw => atoms_spec (ws := Cond.code y cc 1 none :: WS) B.pre w (List.mem_cons_of_mem _ hw)
  subst hsz
  have hl := lv_entry [Value.ref a] (n := 1) (Nat.le_of_ble_eq_true rfl)
  rw [lg_entry_eq]
  exact body p e s m _ below meth c ⟨⟨B.exec, B.bytes, hml, findClass_of_methodNamed B.named, hts⟩, hK⟩ B.returns B.notSynchronized (name_of_methodNamed B.named B.method).1 hX (fun q h => Or.inr h) ⟨hP, hD0.self, va_S.rf⟩ _ hl
section KR
variable {p : Program} {l : Launch} {e : Env} {R : Room} {s : State} {m : MethodId} {args : Array Value} {below : List Frame} {meth : Method} {c : Code} {H : Heap} {locs : List Loc} {cells slots : Nat} {Q : State → Prop}
variable {cc : ByteArray} {pc nL : Nat} {ls : Array Slot} {rest : List Value} {own : String} {w : Wd} {A : Nat → Prop} {H0 : Heap} {ws : va_W} {X : (Nat → Prop) → State → Heap → Prop}
theorem k_obj (F : FX w p m c cc nL s args own) (hls : ls.size = nL) {idx : Nat} (m1 : Cond.methodLink own idx objectInit ∈ WS) (m2 : Cond.instanceMethod objectInit ∈ WS) (m3 : Cond.code objectInit ⟨#[0xb1]⟩ 1 none ∈ WS) {a : Nat} (hf : 1 ≤ R.frames) (hlo : (rest.map fun v => v.category).sum + 12 ≤ R.locals) (hdg : decode cc pc = .ok (.invokespecial idx, 3)) (kk : W p l e R s m args below meth c H locs cells slots Q (F0 m (pc + 3) ls rest)) : W p l e R s m args below meth c H locs cells slots Q (F0 m pc ls (.ref a :: rest)) :=
  W.objInit F.1.1 F.1.2.1 F.1.2.2.2.1 (F.1.2.2.2.2 _ m1) (F.1.2.2.2.2 _ m2) (F.1.2.2.2.2 _ m3) rfl (hls.trans F.1.2.2.1.symm) rfl hdg hf (by show 2 * 0 + _ + 12 ≤ _; omega) kk
theorem k_newa (F : FX w p m c cc nL s args own) (hG : GL w A H0 ws H locs) (hA : ∀ q, H0.size ≤ q → A q) {atype : ArrayType} (harr : Cond.arrayClass (newarray.typeOf atype) ∈ WS) (t0 : Nat) (ht : (tysW w.2.1)[t0]? = some (w.2.1 t0, newarray.typeOf atype)) (hRA : va_RA s (w.2.1 t0) (newarray.typeOf atype) → s.vm.findClass ("[" ++ (newarray.typeOf atype).toString) = some (w.2.1 t0)) {n : Int32} {N' : Nat} {a0 : vp_A} (ha : ∀ cA : ClassId, vp_cell cA a0 = arrV cA N' (fun _ => defaultValue (newarray.typeOf atype))) (hn : ¬ n < 0) (hN : n.toNatClampNeg = N') (hbytes : N' * componentBytes (newarray.typeOf atype) ≤ 536870912) (hcells : cells + 1 ≤ R.cells) (hslots : slots + N' ≤ R.slots) (hdg : decode cc pc = .ok (.newarray atype, 2))
    (kk : ∀ (q : Nat) (H1 : Heap), GL w A H0 (ws ++ [(q, .inl (w.2.1 t0, a0))]) H1 locs → W p l e R s m args below meth c H1 locs (cells + 1) (slots + N') Q (F0 m (pc + 2) ls (.ref q :: rest))) : W p l e R s m args below meth c H locs cells slots Q (F0 m pc ls (.int n :: rest)) := by
  obtain ⟨⟨hx, hb, -, hown, hts⟩, hK⟩ := F
  obtain ⟨hP, hD, hS⟩ := hG
  refine va_newaK hx hb (hts _ harr) rfl hdg rfl hn hN hbytes hcells hslots rfl fun H1 cA e1 z1 o1 hAr hNm => ?_
  have hcA : cA = w.2.1 t0 := Option.some.inj (hNm.symm.trans (hRA (hK.2 t0 _ ht).2))
  subst hcA
  have hk : ∀ (k : Nat) (x : Nat × va_E), ws[k]? = some x → H1[x.1]? = H[x.1]? := fun k x hx => o1 x.1 ((hP k x hx).lt)
  refine kk H.size H1 ⟨(hP.kept hk).app (fun k x hx => ?_), hD.push hP rfl (hA _ hS.1), ⟨Nat.le_trans hS.1 (by omega), fun x h1 h2 => (o1 x (Nat.lt_of_lt_of_le h1 hS.1)).trans (hS.2.1 x h1 h2), hS.2.2⟩⟩
  have hz : k < 1 := (List.getElem?_eq_some_iff.mp hx).1
  rw [show k = 0 by omega] at hx
  cases hx
  show H1[H.size]? = some (vp_cell _ _)
  rw [ha]
  exact e1
theorem k_put (F : FX w p m c cc nL s args own) (hG : GL w A H0 ws H locs) {a t k idx : Nat} {ty : FieldType} {fs : List Value} {v : Value} (q0 : Nat) (he : ws[q0]? = some (a, .inr (t, fs))) (L : LnkV own idx t k ty) (hn : narrow ty v = v) (hfit : fits ty v = true) (hl : k < fs.length) (hdg : decode cc pc = .ok (.putfield idx, 3))
    (kk : ∀ (H1 : Heap) (locs1 : List Loc), GL w A H0 (ws.set q0 (a, .inr (t, fs.set k v))) H1 locs1 → W p l e R s m args below meth c H1 locs1 cells slots Q (F0 m (pc + 3) ls rest)) : W p l e R s m args below meth c H locs cells slots Q (F0 m pc ls (v :: .ref a :: rest)) := by
  obtain ⟨⟨hx, hb, -, hown, hts⟩, hK⟩ := F
  obtain ⟨C, T, N, ty0, h1, h2, h3, h4, h5, h6, h7, h8⟩ := L
  obtain ⟨hP, hD, hS⟩ := hG
  exact va_put hx hb hts h4 ty0 h5 h6 hown hK hP hD hS q0 he h1 k h2 (hts _ h3) (fun _ h9 => h9) h8 (by rw [← h7]; exact h5 k h2) hn hfit hl hdg (fun H1 locs1 g1 g2 g3 => kk H1 locs1 ⟨g1, g2, g3⟩)
/-- a final field's words -/
def LnkF (own : String) (idx t k : Nat) (ty : FieldType) : Prop := ∃ (C : String) (T : u_T) (N : Nat) (ty0 : Nat → FieldType), vwCl[t]? = some (C, T, N) ∧ k < N ∧ Cond.fieldLink own idx (T k).1 (T k).2.1 (T k).2.2.1 ∈ WS ∧ (∀ w ∈ u_ws C T N, w ∈ WS) ∧ (∀ k, k < N → parseFieldDescriptor (T k).2.2.1 = some (ty0 k)) ∧ (∀ a, a < N → ∀ b, b < N → a ≠ b → (T a).2.1 ≠ (T b).2.1) ∧ ty0 k = ty ∧ (T k).2.2.2 = true ∧ (T k).1 = own
theorem k_putF (F : FX w p m c cc nL s args own) (hin : meth.name = "<init>") (hG : GL w A H0 ws H locs) {a t k idx : Nat} {ty : FieldType} {fs : List Value} {v : Value} (q0 : Nat) (he : ws[q0]? = some (a, .inr (t, fs))) (L : LnkF own idx t k ty) (hn : narrow ty v = v) (hfit : fits ty v = true) (hl : k < fs.length) (hdg : decode cc pc = .ok (.putfield idx, 3))
    (kk : ∀ (H1 : Heap) (locs1 : List Loc), GL w A H0 (ws.set q0 (a, .inr (t, fs.set k v))) H1 locs1 → W p l e R s m args below meth c H1 locs1 cells slots Q (F0 m (pc + 3) ls rest)) : W p l e R s m args below meth c H locs cells slots Q (F0 m pc ls (v :: .ref a :: rest)) := by
  obtain ⟨⟨hx, hb, -, hown, hts⟩, hK⟩ := F
  obtain ⟨C, T, N, ty0, h1, h2, h3, h4, h5, h6, h7, h8, h9⟩ := L
  obtain ⟨hP, hD, hS⟩ := hG
  exact va_putF hx hb hts h4 ty0 h5 h6 hown hK hP hD hS q0 he h1 k h2 (hts _ h3) (fun _ h9 => h9) h8 hin h9 (by rw [← h7]; exact h5 k h2) hn hfit hl hdg (fun H1 locs1 g1 g2 g3 => kk H1 locs1 ⟨g1, g2, g3⟩)
theorem k_iast (F : FX w p m c cc nL s args own) (hG : GL w A H0 ws H locs) {a n : Nat} {f : Nat → Int32} (q0 : Nat) (he : ws[q0]? = some (a, .inl (w.2.1 0, n, .inl f))) {x y : Int32} (hin : inb x n) (hdg : decode cc pc = .ok (.iastore, 1))
    (kk : ∀ (H1 : Heap) (locs1 : List Loc), GL w A H0 (ws.set q0 (a, .inl (w.2.1 0, n, .inl (upd f x.toNatClampNeg y)))) H1 locs1 → W p l e R s m args below meth c H1 locs1 cells slots Q (F0 m (pc + 1) ls rest)) : W p l e R s m args below meth c H locs cells slots Q (F0 m pc ls (.int y :: .int x :: .ref a :: rest)) := by
  obtain ⟨⟨hx, hb, -, hown, hts⟩, hK⟩ := F
  obtain ⟨hP, hD, hS⟩ := hG
  exact va_iast hx hb hK hP hD hS q0 0 he rfl hin hdg (fun H1 locs1 g1 g2 g3 => kk H1 locs1 ⟨g1, g2, g3⟩)
/-- a class that is made: its words -/
def LnkN (own : String) (idx t : Nat) (fs : List Value) : Prop := ∃ (C : String) (T : u_T) (N : Nat) (ty0 : Nat → FieldType), vwCl[t]? = some (C, T, N) ∧ (∀ w ∈ u_ws C T N, w ∈ WS) ∧ (∀ k, k < N → parseFieldDescriptor (T k).2.2.1 = some (ty0 k)) ∧ Cond.classLink own idx C ∈ WS ∧ Cond.instantiable C N ∈ WS ∧ Cond.initialized C ∈ WS ∧ (∀ j, j < N → defaultValue (ty0 j) = vp_V fs j) ∧ N = fs.length
theorem k_new (F : FX w p m c cc nL s args own) (hG : GL w A H0 ws H locs) (hA : ∀ q, H0.size ≤ q → A q) {idx t : Nat} {fs : List Value} (L : LnkN own idx t fs) (hcells : cells + 1 ≤ R.cells) (hslots : slots + fs.length ≤ R.slots) (hdg : decode cc pc = .ok (.new idx, 3))
    (kk : ∀ (q : Nat) (H1 : Heap), GL w A H0 (ws ++ [(q, .inr (t, fs))]) H1 locs → W p l e R s m args below meth c H1 locs (cells + 1) (slots + fs.length) Q (F0 m (pc + 3) ls (.ref q :: rest))) : W p l e R s m args below meth c H locs cells slots Q (F0 m pc ls rest) := by
  obtain ⟨⟨hx, hb, -, hown, hts⟩, hK⟩ := F
  obtain ⟨C, T, N, ty0, h1, h2, h3, h4, h5, h6, h7, h8⟩ := L
  obtain ⟨hP, hD, hS⟩ := hG
  rw [← h8] at hslots kk
  exact va_new hx hb hts h2 ty0 h3 hown (hts _ h4) (hts _ h5) (hts _ h6) hK hP hD hS hA h1 h7 hcells hslots hdg (fun q H1 g1 g2 g3 => kk q H1 ⟨g1, g2, g3⟩)
theorem k_join {b : Nat} {e0 : va_E} {W1 : va_W} {H1 : Heap} {locs1 : List Loc} (hG : GL w A H0 (ws ++ [(b, e0)]) H locs) (hk : ∀ q : Nat, q < H.size → ¬ va_A [(b, e0)] H.size q → H1[q]? = H[q]?) (hP1 : va_P w.1 vwCl W1 H1) (hD1 : va_D (va_A [(b, e0)] H.size) W1) (hF : ∀ q, va_A [(b, e0)] H.size q → A q) (hS : va_S A H0 H1 locs1) : GL w A H0 (ws ++ W1) H1 locs1 := by
  obtain ⟨hP, hD, -⟩ := hG
  have hb : (ws ++ [(b, e0)])[ws.length]? = some (b, e0) := by simp
  have hw : ∀ (k : Nat) (q : Nat × va_E), ws[k]? = some q → (ws ++ [(b, e0)])[k]? = some q := fun k q h => by
    rw [List.getElem?_append_left (List.getElem?_eq_some_iff.mp h).1]; exact h
  have hn : ∀ (k : Nat) (q : Nat × va_E), ws[k]? = some q → q.1 < H.size ∧ ¬ va_A [(b, e0)] H.size q.1 := fun k q h => by
    have hl := (hP k q (hw k q h)).lt
    refine ⟨hl, fun z => ?_⟩
    rcases z with ⟨j, e1, hj⟩ | z
    · have hj0 : j < 1 := (List.getElem?_eq_some_iff.mp hj).1
      rw [show j = 0 by omega] at hj
      cases hj
      have := hD.1 k ws.length q _ (hw k q h) hb rfl
      have h2 := (List.getElem?_eq_some_iff.mp h).1
      omega
    · omega
  refine ⟨(va_P.kept (fun k q h => hP k q (hw k q h)) (fun k q h => hk q.1 (hn k q h).1 (hn k q h).2)).app hP1, va_D.app ⟨fun i j x y hi hj => hD.1 i j x y (hw i x hi) (hw j y hj), fun k q h => hD.2 k q (hw k q h)⟩ (hD1.weaken (fun k q h hq => hF _ hq)) (fun i j x y hi hj hxy => ?_), hS⟩
  have h1 := hD1.2 j y hj
  rw [← hxy] at h1
  exact (hn i x hi).2 h1
theorem k_free {b : Nat} {e0 : va_E} (hG : GL w A H0 (ws ++ [(b, e0)]) H locs) (hA : ∀ q, H0.size ≤ q → A q) : ∀ q, va_A [(b, e0)] H.size q → A q := by
  intro q hq
  rcases hq with ⟨j, e1, hj⟩ | hq
  · have hj0 : j < 1 := (List.getElem?_eq_some_iff.mp hj).1
    rw [show j = 0 by omega] at hj
    cases hj
    exact hG.2.1.2 ws.length (b, e0) (by simp)
  · exact hA q (Nat.le_trans hG.2.2.1 hq)
theorem k_pre (hXk : XOK X) (F : FX w p m c cc nL s args own) {b : Nat} {e0 : va_E} (hA : ∀ q, H0.size ≤ q → A q) (hX : X A s H0) (hG : GL w A H0 (ws ++ [(b, e0)]) H locs) {U : State} (hU : U.heap = H) (hW : s.WarmedH U.vm) : KPre w X b e0 H.size U := by
  have hb : (ws ++ [(b, e0)])[ws.length]? = some (b, e0) := by simp
  have one : ∀ (k : Nat) (q : Nat × va_E), [(b, e0)][k]? = some q → q = (b, e0) := fun k q h => by
    have hj0 : k < 1 := (List.getElem?_eq_some_iff.mp h).1
    rw [show k = 0 by omega] at h
    cases h
    rfl
  refine ⟨by rw [hU], fun k q h => ?_, va_K.moved hW.alike F.2, ⟨fun i j x y hi hj _ => ?_, fun _ _ _ => trivial⟩, hXk A _ s U H0 U.heap (k_free hG hA) (Or.inl hW) (fun a h1 h2 => by rw [hU]; exact hG.2.2.2.1 a h1 h2) hX⟩
  · rw [one k q h, hU]
    exact hG.1 ws.length _ hb
  · have h1 : i < 1 := (List.getElem?_eq_some_iff.mp hi).1
    have h2 : j < 1 := (List.getElem?_eq_some_iff.mp hj).1
    omega
theorem k_blind (hXk : XOK X) {av : List Value} {b : Nat} {e0 : va_E} {sz : Nat} : FrameBlind (va_Pc av (KPre w X b e0 sz)) := by
  intro a U g mk h
  obtain ⟨h1, h2, h3, h4, h5, h6⟩ := h
  exact ⟨h1, h2, h3, va_K.moved (u := U) (U := U.calling g mk a) (Vm.Alike.refl U.vm) h4, h5, hXk _ _ U (U.calling g mk a) U.heap (U.calling g mk a).heap (fun _ h => h) (Or.inr rfl) (fun _ _ _ => rfl) h6⟩
theorem k_call {b : Nat} {e0 : va_E} (hG : GL w A H0 (ws ++ [(b, e0)]) H locs) (hA : ∀ q, H0.size ≤ q → A q) {st0 : List Value} {a : Array Value} {L : (Nat → Nat) → va_W} {mc ms : Nat} (hr : va_Run p l e R s m args below meth c H locs cells slots mc ms (F0 m pc ls st0) rest (KQ w b e0 L H.size a) (va_A [(b, e0)] H.size)) (kk : ∀ (q : Nat → Nat) (H1 : Heap) (locs1 : List Loc), GL w A H0 (ws ++ L q) H1 locs1 → W p l e R s m args below meth c H1 locs1 (cells + mc) (slots + ms) Q (F0 m (pc + 3) ls rest)) : W p l e R s m args below meth c H locs cells slots Q (F0 m pc ls st0) := by
  refine va_callv hr hG.2.2 (fun q _ hq => k_free hG hA q hq) (k_free hG hA) (fun u t H1 locs1 ht hvm hp hB hz hk hS => ?_)
  obtain ⟨h1, -, h3⟩ := hB
  rw [ht] at h1
  exact kk u H1 locs1 (k_join hG hk h1 h3 (k_free hG hA) hS)
theorem k_runN (hXk : XOK X) (F : FX w p m c cc nL s args own) (hA : ∀ q, H0.size ≤ q → A q) (hX : X A s H0) {b : Nat} {e0 : va_E} (hG : GL w A H0 (ws ++ [(b, e0)]) H locs) {y : MethodName} {cc' : ByteArray} {idx d mc ms : Nat} {L : (Nat → Nat) → va_W} (hM : KC l w X y cc' d mc ms b e0 L) (hN : va_Nw (.methodLinkNest own idx y RX8) s) (h5 : Cond.code y cc' 1 none ∈ WS) (h4 : Cond.initialized y.cls ∈ WS) (h2 : Cond.instanceMethod y ∈ WS) (hd : y.cls ≠ "java/lang/invoke/MethodHandle" ∧ y.cls ≠ "java/lang/invoke/VarHandle" ∧ (parseMethodDescriptor y.desc).map (fun d => d.parameters.length) = some 0) (hy : y.name = "<init>") (hR : d + 1 ≤ R.frames ∧ 8 + (1 + 11) + 64 * d ≤ R.locals) (hls : ls.size = nL) (hW : (rest.map fun v => v.category).sum ≤ 8) (hdg : decode cc pc = .ok (.invokespecial idx, 3)) (hc : cells + mc ≤ R.cells ∧ slots + ms ≤ R.slots) :
    va_Run p l e R s m args below meth c H locs cells slots mc ms (F0 m pc ls (.ref b :: rest)) rest (KQ w b e0 L H.size [Value.ref b].toArray) (va_A [(b, e0)] H.size) :=
  va_runIN (As := []) F.1 (hM H.size) ⟨va_cnB 0 F.1.2.2.2.2 (ws_GoodIn (fun w hw => (List.mem_cons.mp hw).elim (fun e => by rw [e]; exact h5) (fun h => h))) rfl rfl rfl hN (F.1.2.2.2.2 _ h4) hd hR, hy, F.1.2.2.2.2 _ h2⟩ ⟨k_blind hXk, fun U hU hW => ⟨rfl, k_pre hXk F hA hX hG hU hW⟩⟩ rfl rfl hls rfl (lv_room hW) hdg hc
theorem k_runI (hXk : XOK X) (F : FX w p m c cc nL s args own) (hA : ∀ q, H0.size ≤ q → A q) (hX : X A s H0) {b : Nat} {e0 : va_E} (hG : GL w A H0 (ws ++ [(b, e0)]) H locs) {y : MethodName} {cc' : ByteArray} {idx d mc ms : Nat} {L : (Nat → Nat) → va_W} (hM : KC l w X y cc' d mc ms b e0 L) (h1 : Cond.methodLink own idx y ∈ WS) (h5 : Cond.code y cc' 1 none ∈ WS) (h4 : Cond.initialized y.cls ∈ WS) (h2 : Cond.instanceMethod y ∈ WS) (hd : y.cls ≠ "java/lang/invoke/MethodHandle" ∧ y.cls ≠ "java/lang/invoke/VarHandle" ∧ (parseMethodDescriptor y.desc).map (fun d => d.parameters.length) = some 0) (hy : y.name = "<init>") (hR : d + 1 ≤ R.frames ∧ 8 + (1 + 11) + 64 * d ≤ R.locals) (hls : ls.size = nL) (hW : (rest.map fun v => v.category).sum ≤ 8) (hdg : decode cc pc = .ok (.invokespecial idx, 3)) (hc : cells + mc ≤ R.cells ∧ slots + ms ≤ R.slots) :
    va_Run p l e R s m args below meth c H locs cells slots mc ms (F0 m pc ls (.ref b :: rest)) rest (KQ w b e0 L H.size [Value.ref b].toArray) (va_A [(b, e0)] H.size) :=
  va_runI (As := []) F.1 (hM H.size) (cwI 0 F.1.2.2.2.2 (ws_GoodIn (fun w hw => (List.mem_cons.mp hw).elim (fun e => by rw [e]; exact h5) (fun h => h))) rfl rfl rfl (F.1.2.2.2.2 _ h4) (F.1.2.2.2.2 _ h1) (F.1.2.2.2.2 _ h2) hy hd hR) ⟨k_blind hXk, fun U hU hW => ⟨rfl, k_pre hXk F hA hX hG hU hW⟩⟩ rfl rfl hls rfl (lv_room hW) hdg hc
theorem k_ret (F : FX w p m c cc nL s args own) (hr : meth.sig.returnType = none) (hlocks : meth.locks = false) {a mc ms : Nat} {e0 : va_E} {L : (Nat → Nat) → va_W} (q : Nat → Nat) (hG : GL w (va_A [(a, e0)] s.heap.size) s.heap (L q) H locs) (h1 : cells ≤ mc) (h2 : slots ≤ ms) (hdg : decode cc pc = .ok (.return_, 1)) : W p l e R s m args below meth c H locs cells slots (MQ below (KQ w a e0 L s.heap.size) args s mc ms (va_A [(a, e0)] s.heap.size)) (F0 m pc ls []) := by
  refine W.widen (k := mc) (n := ms) h1 h2 ?_
  exact W.vret F.1.1 F.1.2.1 hr (fun t ht hW => ⟨⟨q, rfl, trivial, by rw [ht]; exact hG.1, va_K.moved hW.alike F.2, hG.2.1⟩, hG.2.2.F ht⟩) hG.2.2.2.2 hdg hlocks
end KR
