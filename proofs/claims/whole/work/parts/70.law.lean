/-! The law: both worlds side by side. -/
def wM (w : Wd) (ρ2 : Nat → Nat) : Wd := (w.1, w.2.1, ρ2, w.2.2.2)
def A0 (s : State) : Nat → Prop := fun q => s.heap.size ≤ q
def LD (ρ1 ρ2 : Nat → Nat) (A : Nat → Prop) : Prop := (∀ i j, i < 61 → j < 61 → ρ1 i = ρ1 j → i = j) ∧ (∀ i j, i < 24 → j < 24 → ρ2 i = ρ2 j → i = j) ∧ (∀ i j, i < 61 → j < 24 → ρ1 i ≠ ρ2 j) ∧ (∀ i, i < 61 → A (ρ1 i)) ∧ ∀ j, j < 24 → A (ρ2 j)
def LG (w : Wd) (ρ2 : Nat → Nat) (s : State) (M M2 : Mem) (H : Heap) (locs : List Loc) : Prop := va_P w.1 vwCl (gw w layC 61 M) H ∧ va_P w.1 vwCl (gw (wM w ρ2) layM 24 M2) H ∧ va_S (A0 s) s.heap H locs
def X0 : (Nat → Prop) → State → Heap → Prop := fun _ _ _ => True
theorem x0_ok : XOK X0 := fun _ _ _ _ _ _ _ _ _ _ => trivial
theorem gw_D {w : Wd} {lay : Lay} {nc : Nat} {M : Mem} {A : Nat → Prop} (h1 : ∀ i j, i < nc → j < nc → w.2.2.1 i = w.2.2.1 j → i = j) (h2 : ∀ i, i < nc → A (w.2.2.1 i)) : va_D A (gw w lay nc M) := by
  refine ⟨fun i j p q hi hj hpq => ?_, fun k q hk => ?_⟩
  · obtain ⟨a1, a2⟩ := gw_of hi
    obtain ⟨b1, b2⟩ := gw_of hj
    rw [a2, b2] at hpq
    exact h1 i j a1 b1 hpq
  · obtain ⟨a1, a2⟩ := gw_of hk
    rw [a2]
    exact h2 k a1
theorem gw_lt {w : Wd} {lay : Lay} {nc : Nat} {M : Mem} {H : Heap} (hP : va_P w.1 vwCl (gw w lay nc M) H) {i : Nat} (hi : i < nc) : w.2.2.1 i < H.size := (hP i _ (gw_at hi)).lt
section LR
variable {p : Program} {l : Launch} {e : Env} {R : Room} {s : State} {m : MethodId} {args : Array Value} {below : List Frame} {meth : Method} {c : Code} {H : Heap} {locs : List Loc} {cells slots : Nat} {Q : State → Prop}
variable {cc : ByteArray} {pc nL : Nat} {ls : Array Slot} {rest : List Value} {own : String} {w : Wd} {ρ2 : Nat → Nat} {M M2 : Mem}
theorem lC_in (hL : LD w.2.2.1 ρ2 (A0 s)) (hG : LG w ρ2 s M M2 H locs) (q : Nat) (hq : gA w.2.2.1 61 H.size q) : A0 s q := hq.elim (fun ⟨k, h1, h2⟩ => h2 ▸ hL.2.2.2.1 k h1) (fun h => Nat.le_trans hG.2.2.1 h)
theorem lM_in (hL : LD w.2.2.1 ρ2 (A0 s)) (hG : LG w ρ2 s M M2 H locs) (q : Nat) (hq : gA ρ2 24 H.size q) : A0 s q := hq.elim (fun ⟨k, h1, h2⟩ => h2 ▸ hL.2.2.2.2 k h1) (fun h => Nat.le_trans hG.2.2.1 h)
theorem lC_pre (F : FX w p m c cc nL s args own) (hL : LD w.2.2.1 ρ2 (A0 s)) (hX : XN (YC w) (A0 s) s s.heap) (hG : LG w ρ2 s M M2 H locs) {U : State} (hU : U.heap = H) (hW : s.WarmedH U.vm) : GPre w layC 61 (XN (YC w)) M H.size U :=
  ⟨by rw [hU], by rw [hU]; exact hG.1, va_K.moved hW.alike F.2, gw_D hL.1 (fun _ _ => trivial), xn_ok (yc_ok w) _ _ s U s.heap U.heap (lC_in hL hG) (Or.inl hW) (fun a h1 h2 => by rw [hU]; exact hG.2.2.2.1 a h1 h2) hX⟩
theorem lM_pre (F : FX w p m c cc nL s args own) (hL : LD w.2.2.1 ρ2 (A0 s)) (hG : LG w ρ2 s M M2 H locs) {U : State} (hU : U.heap = H) (hW : s.WarmedH U.vm) : GPre (wM w ρ2) layM 24 X0 M2 H.size U :=
  ⟨by rw [hU], by rw [hU]; exact hG.2.1, va_K.moved hW.alike F.2, gw_D (w := wM w ρ2) hL.2.1 (fun _ _ => trivial), trivial⟩
theorem lC_aft (hL : LD w.2.2.1 ρ2 (A0 s)) (hG : LG w ρ2 s M M2 H locs) {M' : Mem} {t : State} {H1 : Heap} {locs1 : List Loc} (ht : t.heap = H1) (hB : GAft w layC 61 H.size M' t) (hk : ∀ q : Nat, q < H.size → ¬ gA w.2.2.1 61 H.size q → H1[q]? = H[q]?) (hS : va_S (A0 s) s.heap H1 locs1) : LG w ρ2 s M' M2 H1 locs1 := by
  obtain ⟨h1, -, -⟩ := hB
  rw [ht] at h1
  refine ⟨h1, hG.2.1.kept (fun k q hq => ?_), hS⟩
  obtain ⟨a1, a2⟩ := gw_of hq
  have hlt := (hG.2.1 k q hq).lt
  refine hk _ hlt (fun z => ?_)
  rcases z with ⟨i, h1, h2⟩ | z
  · rw [a2] at h2
    exact hL.2.2.1 i k h1 a1 h2.symm
  · omega
theorem lM_aft (hL : LD w.2.2.1 ρ2 (A0 s)) (hG : LG w ρ2 s M M2 H locs) {M' : Mem} {t : State} {H1 : Heap} {locs1 : List Loc} (ht : t.heap = H1) (hB : GAft (wM w ρ2) layM 24 H.size M' t) (hk : ∀ q : Nat, q < H.size → ¬ gA ρ2 24 H.size q → H1[q]? = H[q]?) (hS : va_S (A0 s) s.heap H1 locs1) : LG w ρ2 s M M' H1 locs1 := by
  obtain ⟨h1, -, -⟩ := hB
  rw [ht] at h1
  refine ⟨hG.1.kept (fun k q hq => ?_), h1, hS⟩
  obtain ⟨a1, a2⟩ := gw_of hq
  have hlt := (hG.1 k q hq).lt
  refine hk _ hlt (fun z => ?_)
  rcases z with ⟨i, h1, h2⟩ | z
  · rw [a2] at h2
    exact hL.2.2.1 k i a1 h1 h2
  · omega
theorem lC_calli (hL : LD w.2.2.1 ρ2 (A0 s)) (hG : LG w ρ2 s M M2 H locs) {st0 : List Value} {a : Array Value} {res : Int32 × Mem} {mc ms : Nat} (hr : va_Run p l e R s m args below meth c H locs cells slots mc ms (F0 m pc ls st0) rest (GQi w layC 61 res H.size a) (gA w.2.2.1 61 H.size)) (kk : ∀ (H1 : Heap) (locs1 : List Loc), LG w ρ2 s res.2 M2 H1 locs1 → W p l e R s m args below meth c H1 locs1 (cells + mc) (slots + ms) Q (F0 m (pc + 3) ls (.int res.1 :: rest))) : W p l e R s m args below meth c H locs cells slots Q (F0 m pc ls st0) := by
  refine va_calli hr hG.2.2 (fun q _ hq => lC_in hL hG q hq) (lC_in hL hG) (fun r u t H1 locs1 ht hvm hp hB hz hk hS => ?_)
  cases hp
  exact kk H1 locs1 (lC_aft hL hG ht hB hk hS)
theorem lC_callv (hL : LD w.2.2.1 ρ2 (A0 s)) (hG : LG w ρ2 s M M2 H locs) {st0 : List Value} {a : Array Value} {res : Mem} {mc ms : Nat} (hr : va_Run p l e R s m args below meth c H locs cells slots mc ms (F0 m pc ls st0) rest (GQv w layC 61 res H.size a) (gA w.2.2.1 61 H.size)) (kk : ∀ (H1 : Heap) (locs1 : List Loc), LG w ρ2 s res M2 H1 locs1 → W p l e R s m args below meth c H1 locs1 (cells + mc) (slots + ms) Q (F0 m (pc + 3) ls rest)) : W p l e R s m args below meth c H locs cells slots Q (F0 m pc ls st0) := by
  refine va_callv hr hG.2.2 (fun q _ hq => lC_in hL hG q hq) (lC_in hL hG) (fun u t H1 locs1 ht hvm hp hB hz hk hS => ?_)
  cases hp
  exact kk H1 locs1 (lC_aft hL hG ht hB hk hS)
theorem lM_calli (hL : LD w.2.2.1 ρ2 (A0 s)) (hG : LG w ρ2 s M M2 H locs) {st0 : List Value} {a : Array Value} {res : Int32 × Mem} {mc ms : Nat} (hr : va_Run p l e R s m args below meth c H locs cells slots mc ms (F0 m pc ls st0) rest (GQi (wM w ρ2) layM 24 res H.size a) (gA ρ2 24 H.size)) (kk : ∀ (H1 : Heap) (locs1 : List Loc), LG w ρ2 s M res.2 H1 locs1 → W p l e R s m args below meth c H1 locs1 (cells + mc) (slots + ms) Q (F0 m (pc + 3) ls (.int res.1 :: rest))) : W p l e R s m args below meth c H locs cells slots Q (F0 m pc ls st0) := by
  refine va_calli hr hG.2.2 (fun q _ hq => lM_in hL hG q hq) (lM_in hL hG) (fun r u t H1 locs1 ht hvm hp hB hz hk hS => ?_)
  cases hp
  exact kk H1 locs1 (lM_aft hL hG ht hB hk hS)
theorem lM_callv (hL : LD w.2.2.1 ρ2 (A0 s)) (hG : LG w ρ2 s M M2 H locs) {st0 : List Value} {a : Array Value} {res : Mem} {mc ms : Nat} (hr : va_Run p l e R s m args below meth c H locs cells slots mc ms (F0 m pc ls st0) rest (GQv (wM w ρ2) layM 24 res H.size a) (gA ρ2 24 H.size)) (kk : ∀ (H1 : Heap) (locs1 : List Loc), LG w ρ2 s M res H1 locs1 → W p l e R s m args below meth c H1 locs1 (cells + mc) (slots + ms) Q (F0 m (pc + 3) ls rest)) : W p l e R s m args below meth c H locs cells slots Q (F0 m pc ls st0) := by
  refine va_callv hr hG.2.2 (fun q _ hq => lM_in hL hG q hq) (lM_in hL hG) (fun u t H1 locs1 ht hvm hp hB hz hk hS => ?_)
  cases hp
  exact kk H1 locs1 (lM_aft hL hG ht hB hk hS)
theorem lC_runV (F : FX w p m c cc nL s args own) (hL : LD w.2.2.1 ρ2 (A0 s)) (hX : XN (YC w) (A0 s) s s.heap) (hG : LG w ρ2 s M M2 H locs) {y : MethodName} {cc' : ByteArray} {nL' idx n d : Nat} {ret' : Option FieldType} {As : List Value} {Qc : Nat → Array Value → State → Outcome → State → Prop} (hM : CG l w layC 61 (XN (YC w)) y cc' nL' ret' d (.ref (w.2.2.1 0) :: As) M Qc) (cv : CV own idx RX8 y cc' nL' ret' n) (hR : d + 1 ≤ R.frames ∧ 8 + (nL' + 11) + 64 * d ≤ R.locals) (hn : As.length = n) (hls : ls.size = nL) {st0 : List Value} (hst : st0 = As.reverse ++ .ref (w.2.2.1 0) :: rest) (hW : (rest.map fun v => v.category).sum ≤ 8) (hdg : decode cc pc = .ok (.invokevirtual idx, 3)) (hc : cells ≤ R.cells ∧ slots ≤ R.slots) :
    va_Run p l e R s m args below meth c H locs cells slots 0 0 (F0 m pc ls st0) rest (Qc H.size (Value.ref (w.2.2.1 0) :: As).toArray) (gA w.2.2.1 61 H.size) :=
  va_runV F.1 (hM H.size) (cwV n F.1.2.2.2.2 cv.1 rfl rfl rfl cv.2 hR) ⟨gx_blind (xn_ok (yc_ok w)), va_recv (ci := 5) F.2 hG.1 rfl (by rw [gw_at (by decide : 0 < 61), cel_o ct_0.2 (by decide)]), fun U hU hW => ⟨rfl, lC_pre F hL hX hG hU hW⟩⟩ rfl hn hls hst (lv_room hW) hdg hc
theorem lM_runV (F : FX w p m c cc nL s args own) (hL : LD w.2.2.1 ρ2 (A0 s)) (hG : LG w ρ2 s M M2 H locs) {y : MethodName} {cc' : ByteArray} {nL' idx n d : Nat} {ret' : Option FieldType} {As : List Value} {Qc : Nat → Array Value → State → Outcome → State → Prop} (hM : CG l (wM w ρ2) layM 24 X0 y cc' nL' ret' d (.ref (ρ2 0) :: As) M2 Qc) (cv : CV own idx RX9 y cc' nL' ret' n) (hR : d + 1 ≤ R.frames ∧ 8 + (nL' + 11) + 64 * d ≤ R.locals) (hn : As.length = n) (hls : ls.size = nL) {st0 : List Value} (hst : st0 = As.reverse ++ .ref (ρ2 0) :: rest) (hW : (rest.map fun v => v.category).sum ≤ 8) (hdg : decode cc pc = .ok (.invokevirtual idx, 3)) (hc : cells ≤ R.cells ∧ slots ≤ R.slots) :
    va_Run p l e R s m args below meth c H locs cells slots 0 0 (F0 m pc ls st0) rest (Qc H.size (Value.ref (ρ2 0) :: As).toArray) (gA ρ2 24 H.size) :=
  va_runV F.1 (hM H.size) (cwV n F.1.2.2.2.2 cv.1 rfl rfl rfl cv.2 hR) ⟨gx_blind x0_ok, va_recv (ci := 6) F.2 hG.2.1 rfl (by rw [gw_at (by decide : 0 < 24), cel_o mo_0.2 (by decide)]; rfl), fun U hU hW => ⟨rfl, lM_pre F hL hG hU hW⟩⟩ rfl hn hls hst (lv_room hW) hdg hc
/-- a wrapper's words -/
def CSW (own : String) (idx : Nat) (y : MethodName) (cc : ByteArray) (nL : Nat) (ret : Option FieldType) (hh : List (Nat × Nat × Nat × Nat)) (n : Nat) : Prop := GoodIn WS (va_wsS own idx y (Cond.codeWith y cc nL ret hh :: WS)) ∧ y.cls ≠ "java/lang/invoke/MethodHandle" ∧ y.cls ≠ "java/lang/invoke/VarHandle" ∧ (parseMethodDescriptor y.desc).map (fun d => d.parameters.length) = some n
theorem lC_runSW (F : FX w p m c cc nL s args own) (hL : LD w.2.2.1 ρ2 (A0 s)) (hX : XN (YC w) (A0 s) s s.heap) (hG : LG w ρ2 s M M2 H locs) {y : MethodName} {cc' : ByteArray} {nL' idx n d mc : Nat} {ret' : Option FieldType} {hh : List (Nat × Nat × Nat × Nat)} {As : List Value} {Qc : Nat → Array Value → State → Outcome → State → Prop} (hM : CGW l w layC 61 (XN (YC w)) y cc' nL' ret' hh d mc As M Qc) (cv : CSW own idx y cc' nL' ret' hh n) (hR : d + 1 ≤ R.frames ∧ 8 + (nL' + 11) + 64 * d ≤ R.locals) (hn : As.length = n) (hls : ls.size = nL) {st0 : List Value} (hst : st0 = As.reverse ++ rest) (hW : (rest.map fun v => v.category).sum ≤ 8) (hdg : decode cc pc = .ok (.invokestatic idx, 3)) (hc : cells + mc ≤ R.cells ∧ slots + 6 * mc ≤ R.slots) :
    va_Run p l e R s m args below meth c H locs cells slots mc (6 * mc) (F0 m pc ls st0) rest (Qc H.size As.toArray) (gA w.2.2.1 61 H.size) :=
  vx_runSW F.1 (hM H.size) (vx_cwSW n F.1.2.2.2.2 cv.1 rfl rfl rfl cv.2 hR) ⟨gx_blind (xn_ok (yc_ok w)), fun U hU hW => ⟨rfl, lC_pre F hL hX hG hU hW⟩⟩ rfl hn hls hst (lv_room hW) hdg hc
theorem l_out (F : FX w p m c cc nL s args own) (hG : LG w ρ2 s M M2 H locs) (hdg : decode cc pc = .ok (.laload, 1)) (kk : W p l e R s m args below meth c H locs cells slots Q (F0 m (pc + 1) ls (.long (gj M 60 0) :: rest))) : W p l e R s m args below meth c H locs cells slots Q (F0 m pc ls (.int 0 :: .ref (w.2.2.1 60) :: rest)) :=
  va_lald (f := M.2 60) F.1.1 F.1.2.1 F.2 hG.1 60 1 (by rw [gw_at oC_60.1, cel_j oC_60.2]) rfl (show inb 0 1 by decide) hdg kk
end LR
theorem ws_SW {own : String} {idx : Nat} {y : MethodName} {cc : ByteArray} {nL : Nat} {ret : Option FieldType} {hh : List (Nat × Nat × Nat × Nat)} (h1 : Cond.methodLink own idx y ∈ WS) (h2 : Cond.static y ∈ WS) (h4 : Cond.initialized y.cls ∈ WS) (h5 : Cond.codeWith y cc nL ret hh ∈ WS) : GoodIn WS (va_wsS own idx y (Cond.codeWith y cc nL ret hh :: WS)) := by
  refine ws_GoodIn (fun w hw => ?_)
  simp only [va_wsS, List.cons_append, List.nil_append, List.mem_cons] at hw
  rcases hw with rfl | rfl | rfl | rfl | h
  · exact h1
  · exact h2
  · exact h4
  · exact h5
  · exact h
