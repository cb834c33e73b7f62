/-! A method's own world: all things of it, by number. -/
def gA (ρ : Nat → Nat) (nc sz : Nat) : Nat → Prop := fun q => (∃ k, k < nc ∧ q = ρ k) ∨ sz ≤ q
theorem gA_mono {ρ : Nat → Nat} {nc a b : Nat} (h : a ≤ b) (q : Nat) (hq : gA ρ nc b q) : gA ρ nc a q := hq.elim Or.inl (fun z => Or.inr (Nat.le_trans h z))
def tysW (cy : Nat → ClassId) : List (ClassId × FieldType) := [(cy 0, .int), (cy 1, .long), (cy 2, .byte), (cy 3, .boolean)]
def GI (w : Wd) (lay : Lay) (nc : Nat) (H0 : Heap) (M : Mem) (H : Heap) (locs : List Loc) : Prop := va_P w.1 vwCl (gw w lay nc M) H ∧ va_D (gA w.2.2.1 nc H0.size) (gw w lay nc M) ∧ va_S (gA w.2.2.1 nc H0.size) H0 H locs
def FX (w : Wd) (p : Program) (m : MethodId) (c : Code) (cc : ByteArray) (nL : Nat) (s : State) (args : Array Value) (own : String) : Prop := CallFix p m c cc nL s args WS own ∧ va_K w.1 vwCl (tysW w.2.1) s
/-- a field's words: own's pool row idx is field k, of type ty, of class number t -/
def Lnk (own : String) (idx t k : Nat) (ty : FieldType) : Prop := ∃ (C : String) (T : u_T) (N : Nat) (ty0 : Nat → FieldType), vwCl[t]? = some (C, T, N) ∧ k < N ∧ Cond.fieldLink own idx (T k).1 (T k).2.1 (T k).2.2.1 ∈ WS ∧ (∀ w ∈ u_ws C T N, w ∈ WS) ∧ (∀ k, k < N → parseFieldDescriptor (T k).2.2.1 = some (ty0 k)) ∧ (∀ a, a < N → ∀ b, b < N → a ≠ b → (T a).2.1 ≠ (T b).2.1) ∧ ty0 k = ty
/-- .. that isn't final -/
def LnkV (own : String) (idx t k : Nat) (ty : FieldType) : Prop := ∃ (C : String) (T : u_T) (N : Nat) (ty0 : Nat → FieldType), vwCl[t]? = some (C, T, N) ∧ k < N ∧ Cond.fieldLink own idx (T k).1 (T k).2.1 (T k).2.2.1 ∈ WS ∧ (∀ w ∈ u_ws C T N, w ∈ WS) ∧ (∀ k, k < N → parseFieldDescriptor (T k).2.2.1 = some (ty0 k)) ∧ (∀ a, a < N → ∀ b, b < N → a ≠ b → (T a).2.1 ≠ (T b).2.1) ∧ ty0 k = ty ∧ (T k).2.2.2 = false
theorem LnkV.L {own : String} {idx t k : Nat} {ty : FieldType} (h : LnkV own idx t k ty) : Lnk own idx t k ty := by
  obtain ⟨C, T, N, ty0, h1, h2, h3, h4, h5, h6, h7, -⟩ := h
  exact ⟨C, T, N, ty0, h1, h2, h3, h4, h5, h6, h7⟩
section GR
variable {p : Program} {l : Launch} {e : Env} {R : Room} {s : State} {m : MethodId} {args : Array Value} {below : List Frame} {meth : Method} {c : Code} {H : Heap} {locs : List Loc} {cells slots : Nat} {Q : State → Prop}
variable {cc : ByteArray} {pc nL : Nat} {ls : Array Slot} {rest : List Value} {own : String} {w : Wd} {lay : Lay} {nc : Nat} {H0 : Heap} {M : Mem}
theorem g_get (F : FX w p m c cc nL s args own) (hG : GI w lay nc H0 M H locs) {i t n k idx : Nat} {f : Nat → Nat} {ty : FieldType} (ho : isO lay nc i t n f) (ht : t < 20) (hk : k < n) (L : Lnk own idx t k ty) {v : Value} (hv : fvv w.2.2.1 w.2.2.2 M i k (f k) = v) (hdg : decode cc pc = .ok (.getfield idx, 3))
    (kk : W p l e R s m args below meth c H locs cells slots Q (F0 m (pc + 3) ls (v :: rest))) : W p l e R s m args below meth c H locs cells slots Q (F0 m pc ls (.ref (w.2.2.1 i) :: rest)) := by
  obtain ⟨⟨hx, hb, -, hown, hts⟩, hK⟩ := F
  obtain ⟨C, T, N, ty0, h1, h2, h3, h4, -⟩ := L
  subst hv
  exact va_get hx hb hts h4 hown hK hG.1 i (by rw [gw_at ho.1, cel_o ho.2 ht]) h1 k h2 (hts _ h3) (fun _ h9 => h9) (fs_get hk) hdg kk
theorem g_getI (F : FX w p m c cc nL s args own) (hG : GI w lay nc H0 M H locs) {i t n k idx : Nat} {f : Nat → Nat} {ty : FieldType} (ho : isO lay nc i t n f) (ht : t < 20) (hk : k < n) (L : Lnk own idx t k ty) (hv : f k = 0) (hdg : decode cc pc = .ok (.getfield idx, 3))
    (kk : W p l e R s m args below meth c H locs cells slots Q (F0 m (pc + 3) ls (.int (gi M i k) :: rest))) : W p l e R s m args below meth c H locs cells slots Q (F0 m pc ls (.ref (w.2.2.1 i) :: rest)) := g_get F hG ho ht hk L (by rw [hv]; rfl) hdg kk
theorem g_getJ (F : FX w p m c cc nL s args own) (hG : GI w lay nc H0 M H locs) {i t n k idx : Nat} {f : Nat → Nat} {ty : FieldType} (ho : isO lay nc i t n f) (ht : t < 20) (hk : k < n) (L : Lnk own idx t k ty) (hv : f k = 1) (hdg : decode cc pc = .ok (.getfield idx, 3))
    (kk : W p l e R s m args below meth c H locs cells slots Q (F0 m (pc + 3) ls (.long (gj M i k) :: rest))) : W p l e R s m args below meth c H locs cells slots Q (F0 m pc ls (.ref (w.2.2.1 i) :: rest)) := g_get F hG ho ht hk L (by rw [hv]; rfl) hdg kk
theorem g_getR (F : FX w p m c cc nL s args own) (hG : GI w lay nc H0 M H locs) {i t n k idx : Nat} {f : Nat → Nat} {ty : FieldType} (j : Nat) (ho : isO lay nc i t n f) (ht : t < 20) (hk : k < n) (L : Lnk own idx t k ty) (hv : f k = j + 4) (hdg : decode cc pc = .ok (.getfield idx, 3))
    (kk : W p l e R s m args below meth c H locs cells slots Q (F0 m (pc + 3) ls (.ref (w.2.2.1 j) :: rest))) : W p l e R s m args below meth c H locs cells slots Q (F0 m pc ls (.ref (w.2.2.1 i) :: rest)) := g_get F hG ho ht hk L (by rw [hv]; rfl) hdg kk
theorem g_getM (F : FX w p m c cc nL s args own) (hG : GI w lay nc H0 M H locs) {i t n k idx : Nat} {f : Nat → Nat} {ty : FieldType} (ho : isO lay nc i t n f) (ht : t < 20) (hk : k < n) (L : Lnk own idx t k ty) (hv : f k = 2) (hdg : decode cc pc = .ok (.getfield idx, 3))
    (kk : W p l e R s m args below meth c H locs cells slots Q (F0 m (pc + 3) ls (.ref (w.2.2.1 (gi M i k).toNatClampNeg) :: rest))) : W p l e R s m args below meth c H locs cells slots Q (F0 m pc ls (.ref (w.2.2.1 i) :: rest)) := g_get F hG ho ht hk L (by rw [hv]; rfl) hdg kk
theorem g_getE (F : FX w p m c cc nL s args own) (hG : GI w lay nc H0 M H locs) {i t n k idx : Nat} {f : Nat → Nat} {ty : FieldType} (ho : isO lay nc i t n f) (ht : t < 20) (hk : k < n) (L : Lnk own idx t k ty) (hv : f k = 3) (hdg : decode cc pc = .ok (.getfield idx, 3))
    (kk : W p l e R s m args below meth c H locs cells slots Q (F0 m (pc + 3) ls (.ref (w.2.2.2 (gi M i k).toNatClampNeg) :: rest))) : W p l e R s m args below meth c H locs cells slots Q (F0 m pc ls (.ref (w.2.2.1 i) :: rest)) := g_get F hG ho ht hk L (by rw [hv]; rfl) hdg kk
theorem g_put (F : FX w p m c cc nL s args own) (hG : GI w lay nc H0 M H locs) {i t n k idx : Nat} {f : Nat → Nat} {ty : FieldType} (ho : isO lay nc i t n f) (ht : t < 20) (hk : k < n) (L : LnkV own idx t k ty) {v : Value} {M' : Mem} (hM : ((List.range n).map (fun q => fvv w.2.2.1 w.2.2.2 M i q (f q))).set k v = (List.range n).map (fun q => fvv w.2.2.1 w.2.2.2 M' i q (f q))) (hne : ∀ j, j ≠ i → cel w lay M' j = cel w lay M j) (hn : narrow ty v = v) (hfit : fits ty v = true) (hdg : decode cc pc = .ok (.putfield idx, 3))
    (kk : ∀ (H1 : Heap) (locs1 : List Loc), GI w lay nc H0 M' H1 locs1 → W p l e R s m args below meth c H1 locs1 cells slots Q (F0 m (pc + 3) ls rest)) : W p l e R s m args below meth c H locs cells slots Q (F0 m pc ls (v :: .ref (w.2.2.1 i) :: rest)) := by
  obtain ⟨⟨hx, hb, -, hown, hts⟩, hK⟩ := F
  obtain ⟨C, T, N, ty0, h1, h2, h3, h4, h5, h6, h7, h8⟩ := L
  obtain ⟨hP, hD, hS⟩ := hG
  refine va_put hx hb hts h4 ty0 h5 h6 hown hK hP hD hS i (by rw [gw_at ho.1, cel_o ho.2 ht]) h1 k h2 (hts _ h3) (fun _ h9 => h9) h8 (by rw [← h7]; exact h5 k h2) hn hfit (by simp; exact hk) hdg (fun H1 locs1 g1 g2 g3 => kk H1 locs1 ?_)
  rw [hM, ← cel_o (w := w) (M := M') ho.2 ht, gw_set ho.1 hne] at g1 g2
  exact ⟨g1, g2, g3⟩
theorem g_putI (F : FX w p m c cc nL s args own) (hG : GI w lay nc H0 M H locs) {i t n k idx : Nat} {f : Nat → Nat} {ty : FieldType} {x : Int32} (ho : isO lay nc i t n f) (ht : t < 20) (hk : k < n) (L : LnkV own idx t k ty) (hv : f k = 0) (hn : narrow ty (.int x) = .int x) (hfit : fits ty (.int x) = true) (hdg : decode cc pc = .ok (.putfield idx, 3))
    (kk : ∀ (H1 : Heap) (locs1 : List Loc), GI w lay nc H0 (si M i k x) H1 locs1 → W p l e R s m args below meth c H1 locs1 cells slots Q (F0 m (pc + 3) ls rest)) : W p l e R s m args below meth c H locs cells slots Q (F0 m pc ls (.int x :: .ref (w.2.2.1 i) :: rest)) :=
  g_put F hG ho ht hk L (fs_si hk (by rw [hv]; simp [fvv, gi_si])) (fun j h => cel_si_ne h) hn hfit hdg kk
theorem g_putJ (F : FX w p m c cc nL s args own) (hG : GI w lay nc H0 M H locs) {i t n k idx : Nat} {f : Nat → Nat} {x : Int64} (ho : isO lay nc i t n f) (ht : t < 20) (hk : k < n) (L : LnkV own idx t k .long) (hv : f k = 1) (hdg : decode cc pc = .ok (.putfield idx, 3))
    (kk : ∀ (H1 : Heap) (locs1 : List Loc), GI w lay nc H0 (sj M i k x) H1 locs1 → W p l e R s m args below meth c H1 locs1 cells slots Q (F0 m (pc + 3) ls rest)) : W p l e R s m args below meth c H locs cells slots Q (F0 m pc ls (.long x :: .ref (w.2.2.1 i) :: rest)) :=
  g_put F hG ho ht hk L (fs_sj hk (by rw [hv]; simp [fvv, gj_sj])) (fun j h => cel_sj_ne h) rfl rfl hdg kk
theorem g_putM (F : FX w p m c cc nL s args own) (hG : GI w lay nc H0 M H locs) {i t n k idx j : Nat} {f : Nat → Nat} {C : String} (ho : isO lay nc i t n f) (ht : t < 20) (hk : k < n) (L : LnkV own idx t k (.object C)) (hv : f k = 2) (hj : j < 2 ^ 31) (hdg : decode cc pc = .ok (.putfield idx, 3))
    (kk : ∀ (H1 : Heap) (locs1 : List Loc), GI w lay nc H0 (si M i k (nI j)) H1 locs1 → W p l e R s m args below meth c H1 locs1 cells slots Q (F0 m (pc + 3) ls rest)) : W p l e R s m args below meth c H locs cells slots Q (F0 m pc ls (.ref (w.2.2.1 j) :: .ref (w.2.2.1 i) :: rest)) :=
  g_put F hG ho ht hk L (fs_si hk (by rw [hv]; simp [fvv, gi_si, nI_clamp hj])) (fun j h => cel_si_ne h) rfl rfl hdg kk
theorem g_putE (F : FX w p m c cc nL s args own) (hG : GI w lay nc H0 M H locs) {i t n k idx j : Nat} {f : Nat → Nat} {C : String} (ho : isO lay nc i t n f) (ht : t < 20) (hk : k < n) (L : LnkV own idx t k (.object C)) (hv : f k = 3) (hj : j < 2 ^ 31) (hdg : decode cc pc = .ok (.putfield idx, 3))
    (kk : ∀ (H1 : Heap) (locs1 : List Loc), GI w lay nc H0 (si M i k (nI j)) H1 locs1 → W p l e R s m args below meth c H1 locs1 cells slots Q (F0 m (pc + 3) ls rest)) : W p l e R s m args below meth c H locs cells slots Q (F0 m pc ls (.ref (w.2.2.2 j) :: .ref (w.2.2.1 i) :: rest)) :=
  g_put F hG ho ht hk L (fs_si hk (by rw [hv]; simp [fvv, gi_si, nI_clamp hj])) (fun j h => cel_si_ne h) rfl rfl hdg kk
theorem g_iald (F : FX w p m c cc nL s args own) (hG : GI w lay nc H0 M H locs) {i n : Nat} {f : Nat → Nat} (ho : isO lay nc i 20 n f) {x : Int32} (hin : inb x n) (hdg : decode cc pc = .ok (.iaload, 1))
    (kk : W p l e R s m args below meth c H locs cells slots Q (F0 m (pc + 1) ls (.int (gi M i x.toNatClampNeg) :: rest))) : W p l e R s m args below meth c H locs cells slots Q (F0 m pc ls (.int x :: .ref (w.2.2.1 i) :: rest)) := by
  obtain ⟨⟨hx, hb, -, hown, hts⟩, hK⟩ := F
  exact va_iald (f := M.1 i) hx hb hK hG.1 i 0 (by rw [gw_at ho.1, cel_i ho.2]) rfl hin hdg kk
theorem g_bald (F : FX w p m c cc nL s args own) (hG : GI w lay nc H0 M H locs) {i n : Nat} {f : Nat → Nat} (ho : isO lay nc i 22 n f) {x : Int32} (hin : inb x n) (hdg : decode cc pc = .ok (.baload, 1))
    (kk : W p l e R s m args below meth c H locs cells slots Q (F0 m (pc + 1) ls (.int (gi M i x.toNatClampNeg) :: rest))) : W p l e R s m args below meth c H locs cells slots Q (F0 m pc ls (.int x :: .ref (w.2.2.1 i) :: rest)) := by
  obtain ⟨⟨hx, hb, -, hown, hts⟩, hK⟩ := F
  exact va_bald (f := M.1 i) hx hb hK hG.1 i 2 (by rw [gw_at ho.1, cel_b ho.2]) rfl hin hdg kk
theorem g_zald (F : FX w p m c cc nL s args own) (hG : GI w lay nc H0 M H locs) {i n : Nat} {f : Nat → Nat} (ho : isO lay nc i 23 n f) {x : Int32} (hin : inb x n) (hdg : decode cc pc = .ok (.baload, 1))
    (kk : W p l e R s m args below meth c H locs cells slots Q (F0 m (pc + 1) ls (.int (gi M i x.toNatClampNeg) :: rest))) : W p l e R s m args below meth c H locs cells slots Q (F0 m pc ls (.int x :: .ref (w.2.2.1 i) :: rest)) := by
  obtain ⟨⟨hx, hb, -, hown, hts⟩, hK⟩ := F
  exact va_zald (f := M.1 i) hx hb hK hG.1 i 3 (by rw [gw_at ho.1, cel_z ho.2]) rfl hin hdg kk
theorem g_lald (F : FX w p m c cc nL s args own) (hG : GI w lay nc H0 M H locs) {i n : Nat} {f : Nat → Nat} (ho : isO lay nc i 21 n f) {x : Int32} (hin : inb x n) (hdg : decode cc pc = .ok (.laload, 1))
    (kk : W p l e R s m args below meth c H locs cells slots Q (F0 m (pc + 1) ls (.long (gj M i x.toNatClampNeg) :: rest))) : W p l e R s m args below meth c H locs cells slots Q (F0 m pc ls (.int x :: .ref (w.2.2.1 i) :: rest)) := by
  obtain ⟨⟨hx, hb, -, hown, hts⟩, hK⟩ := F
  exact va_lald (f := M.2 i) hx hb hK hG.1 i 1 (by rw [gw_at ho.1, cel_j ho.2]) rfl hin hdg kk
theorem gi_row (M : Mem) (i k : Nat) (x : Int32) : (si M i k x).1 i = upd (M.1 i) k x := by simp [si, va_up]
theorem gj_row (M : Mem) (i k : Nat) (x : Int64) : (sj M i k x).2 i = vp_updL (M.2 i) k x := by simp [sj, va_up]
theorem g_iast (F : FX w p m c cc nL s args own) (hG : GI w lay nc H0 M H locs) {i n : Nat} {f : Nat → Nat} (ho : isO lay nc i 20 n f) {x y : Int32} (hin : inb x n) (hdg : decode cc pc = .ok (.iastore, 1))
    (kk : ∀ (H1 : Heap) (locs1 : List Loc), GI w lay nc H0 (si M i x.toNatClampNeg y) H1 locs1 → W p l e R s m args below meth c H1 locs1 cells slots Q (F0 m (pc + 1) ls rest)) : W p l e R s m args below meth c H locs cells slots Q (F0 m pc ls (.int y :: .int x :: .ref (w.2.2.1 i) :: rest)) := by
  obtain ⟨⟨hx, hb, -, hown, hts⟩, hK⟩ := F
  obtain ⟨hP, hD, hS⟩ := hG
  refine va_iast hx hb hK hP hD hS i 0 (by rw [gw_at ho.1, cel_i ho.2]) rfl hin hdg (fun H1 locs1 g1 g2 g3 => kk H1 locs1 ?_)
  rw [← gi_row M i, ← cel_i (w := w) (M := si M i x.toNatClampNeg y) ho.2, gw_set ho.1 (fun j h => cel_si_ne h)] at g1 g2
  exact ⟨g1, g2, g3⟩
theorem g_bast (F : FX w p m c cc nL s args own) (hG : GI w lay nc H0 M H locs) {i n : Nat} {f : Nat → Nat} (ho : isO lay nc i 22 n f) {x y z : Int32} (hin : inb x n) (hz : vp_nar .byte y = z) (hdg : decode cc pc = .ok (.bastore, 1))
    (kk : ∀ (H1 : Heap) (locs1 : List Loc), GI w lay nc H0 (si M i x.toNatClampNeg z) H1 locs1 → W p l e R s m args below meth c H1 locs1 cells slots Q (F0 m (pc + 1) ls rest)) : W p l e R s m args below meth c H locs cells slots Q (F0 m pc ls (.int y :: .int x :: .ref (w.2.2.1 i) :: rest)) := by
  obtain ⟨⟨hx, hb, -, hown, hts⟩, hK⟩ := F
  obtain ⟨hP, hD, hS⟩ := hG
  refine va_bast hx hb hK hP hD hS i 2 (by rw [gw_at ho.1, cel_b ho.2]) rfl hin hdg (fun H1 locs1 g1 g2 g3 => kk H1 locs1 ?_)
  rw [hz, ← gi_row M i, ← cel_b (w := w) (M := si M i x.toNatClampNeg z) ho.2, gw_set ho.1 (fun j h => cel_si_ne h)] at g1 g2
  exact ⟨g1, g2, g3⟩
theorem g_zast (F : FX w p m c cc nL s args own) (hG : GI w lay nc H0 M H locs) {i n : Nat} {f : Nat → Nat} (ho : isO lay nc i 23 n f) {x y z : Int32} (hin : inb x n) (hz : vp_nar .boolean y = z) (hdg : decode cc pc = .ok (.bastore, 1))
    (kk : ∀ (H1 : Heap) (locs1 : List Loc), GI w lay nc H0 (si M i x.toNatClampNeg z) H1 locs1 → W p l e R s m args below meth c H1 locs1 cells slots Q (F0 m (pc + 1) ls rest)) : W p l e R s m args below meth c H locs cells slots Q (F0 m pc ls (.int y :: .int x :: .ref (w.2.2.1 i) :: rest)) := by
  obtain ⟨⟨hx, hb, -, hown, hts⟩, hK⟩ := F
  obtain ⟨hP, hD, hS⟩ := hG
  refine va_zast hx hb hK hP hD hS i 3 (by rw [gw_at ho.1, cel_z ho.2]) rfl hin hdg (fun H1 locs1 g1 g2 g3 => kk H1 locs1 ?_)
  rw [hz, ← gi_row M i, ← cel_z (w := w) (M := si M i x.toNatClampNeg z) ho.2, gw_set ho.1 (fun j h => cel_si_ne h)] at g1 g2
  exact ⟨g1, g2, g3⟩
theorem g_last (F : FX w p m c cc nL s args own) (hG : GI w lay nc H0 M H locs) {i n : Nat} {f : Nat → Nat} (ho : isO lay nc i 21 n f) {x : Int32} {y : Int64} (hin : inb x n) (hdg : decode cc pc = .ok (.lastore, 1))
    (kk : ∀ (H1 : Heap) (locs1 : List Loc), GI w lay nc H0 (sj M i x.toNatClampNeg y) H1 locs1 → W p l e R s m args below meth c H1 locs1 cells slots Q (F0 m (pc + 1) ls rest)) : W p l e R s m args below meth c H locs cells slots Q (F0 m pc ls (.long y :: .int x :: .ref (w.2.2.1 i) :: rest)) := by
  obtain ⟨⟨hx, hb, -, hown, hts⟩, hK⟩ := F
  obtain ⟨hP, hD, hS⟩ := hG
  refine va_last hx hb hK hP hD hS i 1 (by rw [gw_at ho.1, cel_j ho.2]) rfl hin hdg (fun H1 locs1 g1 g2 g3 => kk H1 locs1 ?_)
  rw [← gj_row M i, ← cel_j (w := w) (M := sj M i x.toNatClampNeg y) ho.2, gw_set ho.1 (fun j h => cel_sj_ne h)] at g1 g2
  exact ⟨g1, g2, g3⟩
theorem g_alen (F : FX w p m c cc nL s args own) (hG : GI w lay nc H0 M H locs) {i n : Nat} {f : Nat → Nat} (ho : isO lay nc i 20 n f) {v : Int32} (hv : Int32.ofNat n = v) (hdg : decode cc pc = .ok (.arraylength, 1))
    (kk : W p l e R s m args below meth c H locs cells slots Q (F0 m (pc + 1) ls (.int v :: rest))) : W p l e R s m args below meth c H locs cells slots Q (F0 m pc ls (.ref (w.2.2.1 i) :: rest)) := by
  obtain ⟨⟨hx, hb, -, hown, hts⟩, hK⟩ := F
  exact va_alen hx hb hK hG.1 i 0 (by rw [gw_at ho.1, cel_i ho.2]) rfl hv hdg kk
theorem g_recv (F : FX w p m c cc nL s args own) (hG : GI w lay nc H0 M H locs) {i t n : Nat} {f : Nat → Nat} (ho : isO lay nc i t n f) (ht : t < 20) {C : String} {T : u_T} {N : Nat} (hc : vwCl[t]? = some (C, T, N)) : ∃ cell : Cell, H[w.2.2.1 i]? = some cell ∧ cell.vm.isStatics = false ∧ s.vm.findClass C = some cell.cls :=
  va_recv F.2 hG.1 hc (by rw [gw_at ho.1, cel_o ho.2 ht])
end GR
