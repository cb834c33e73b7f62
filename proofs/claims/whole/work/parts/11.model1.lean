def j_X9_deeper_61 (n : Nat) (t0 : Int32) (M : Mem) : Option (Mem) := bd (f_X9_wrong n  t0 M) (fun q1 => some q1)
def j_X9_deeper_56 (n : Nat) (M : Mem) : Option (Mem) := j_X9_deeper_61 n  (2 : Int32) M
def f_X9_deeper (n : Nat) (M : Mem) : Option (Mem) := if (6 : Int32) ≤ (gi M 0 36) then (if (gi M 0 17) = (2 : Int32) then (j_X9_deeper_56 n  M) else (if (gi M 0 17) = (1 : Int32) then (j_X9_deeper_56 n  M) else (bd (f_X9_isSign n  (40 : Int32) M) (fun q5 => if q5.1 = 0 then (j_X9_deeper_61 n  (1 : Int32) q5.2) else (j_X9_deeper_56 n  q5.2))))) else (ck (inb (gi (si M 0 36 ((gi M 0 36) + (1 : Int32))) 0 36) 9) (some (si (si M 0 36 ((gi M 0 36) + (1 : Int32))) 11 (gi (si M 0 36 ((gi M 0 36) + (1 : Int32))) 0 36).toNatClampNeg (0 : Int32))))
set_option maxHeartbeats 4000000 in
set_option maxRecDepth 100000 in
theorem c_X9_deeper (l : Launch) (w : Wd) {X : (Nat → Prop) → State → Heap → Prop} (hXk : XOK X) (n : Nat) (M : Mem) (res : Mem) (hf : f_X9_deeper n   M = some res) : CG l w layM 24 X yX9_deeper cX9_deeper 1 none 1 [.ref (w.2.2.1 0)] M (GQv w layM 24 res) := by
  refine cg_start (by decide +kernel) (Nat.le_of_ble_eq_true rfl) ?_
  intro p e s m args below meth c F hr hlk hX hG ls hl
  have F : FX w p m c cX9_deeper 1 s args RX9 := F
  have hx := F.1.1
  have hb := F.1.2.1
  have hl : lv_has ls 1 [(0, .ref (w.2.2.1 0))] := hl
  have hJ61 : ∀ (t0 : Int32) (M : Mem) (H : Heap) (locs : List Loc) (ls : Array Slot), j_X9_deeper_61 n  t0 M = some res → GI w layM 24 s.heap M H locs → lv_has ls 1 [] → W p l e (Rm 1) s m args below meth c H locs 0 0 (MQ below (GQv w layM 24 res s.heap.size) args s 0 0 (gA w.2.2.1 24 s.heap.size)) (F0 m 61 ls [.int t0, .ref (w.2.2.1 0)]) := by
    intro t0 M H locs ls hf hG hl
    unfold j_X9_deeper_61 at hf
    replace hf := bd_some hf
    obtain ⟨q1, eq1, hf⟩ := hf
    refine gx_callv hG (gx_runV hXk F hX hG (c_X9_wrong l w hXk n  t0 _ _ eq1) cv_X9_168 ⟨Nat.le_of_ble_eq_true rfl, Nat.le_of_ble_eq_true rfl⟩ (g_recv F hG mo_0 (by decide) rfl) rfl hl.1 rfl (Nat.le_of_ble_eq_true rfl) dX9_deeper_61 ⟨Nat.le_refl _, Nat.le_refl _⟩) (fun H locs hG => ?_)
    exact cg_vret F hr hlk hG hf dX9_deeper_64
  have hJ56 : ∀ (M : Mem) (H : Heap) (locs : List Loc) (ls : Array Slot), j_X9_deeper_56 n   M = some res → GI w layM 24 s.heap M H locs → lv_has ls 1 [] → W p l e (Rm 1) s m args below meth c H locs 0 0 (MQ below (GQv w layM 24 res s.heap.size) args s 0 0 (gA w.2.2.1 24 s.heap.size)) (F0 m 56 ls [.ref (w.2.2.1 0)]) := by
    intro  M H locs ls hf hG hl
    unfold j_X9_deeper_56 at hf
    refine lv_iconst (v := 2) hx hb dX9_deeper_56 (by decide) ?_
    refine lv_goto (tgt := 61) hx hb dX9_deeper_57 (by decide) ?_
    exact hJ61 _ _ _ _ ls hf hG (lv_sub hl [] rfl)
  unfold f_X9_deeper at hf
  refine lv_aload_n hx hb dX9_deeper_0 rfl (lv_at hl 0 rfl) ?_
  refine g_getI F hG mo_0 (by decide) (by decide) lk_X9_199 rfl dX9_deeper_1 ?_
  refine lv_bipush (v := 6) hx hb dX9_deeper_4 (by decide) ?_
  refine lv_icmp_ge (tgt := 30) hx hb dX9_deeper_6 (by decide) (fun c2 => ?_) (fun c2 => ?_)
  · replace hf := if_t c2 hf
    refine lv_aload_n hx hb dX9_deeper_30 rfl (lv_at hl 0 rfl) ?_
    refine lv_aload_n hx hb dX9_deeper_31 rfl (lv_at hl 0 rfl) ?_
    refine g_getI F hG mo_0 (by decide) (by decide) lk_X9_135 rfl dX9_deeper_32 ?_
    refine lv_iconst (v := 2) hx hb dX9_deeper_35 (by decide) ?_
    refine lv_icmp_eq (tgt := 56) hx hb dX9_deeper_36 (by decide) (fun c3 => ?_) (fun c3 => ?_)
    · replace hf := if_t c3 hf
      exact hJ56  _ _ _ ls hf hG (lv_sub hl [] rfl)
    · replace hf := if_f c3 hf
      refine lv_aload_n hx hb dX9_deeper_39 rfl (lv_at hl 0 rfl) ?_
      refine g_getI F hG mo_0 (by decide) (by decide) lk_X9_135 rfl dX9_deeper_40 ?_
      refine lv_iconst (v := 1) hx hb dX9_deeper_43 (by decide) ?_
      refine lv_icmp_eq (tgt := 56) hx hb dX9_deeper_44 (by decide) (fun c4 => ?_) (fun c4 => ?_)
      · replace hf := if_t c4 hf
        exact hJ56  _ _ _ ls hf hG (lv_sub hl [] rfl)
      · replace hf := if_f c4 hf
        refine lv_aload_n hx hb dX9_deeper_47 rfl (lv_at hl 0 rfl) ?_
        refine lv_bipush (v := 40) hx hb dX9_deeper_48 (by decide) ?_
        replace hf := bd_some hf
        obtain ⟨q5, eq5, hf⟩ := hf
        refine gx_calli hG (gx_runV hXk F hX hG (c_X9_isSign l w hXk n  (40 : Int32) _ _ eq5) cv_X9_202 ⟨Nat.le_of_ble_eq_true rfl, Nat.le_of_ble_eq_true rfl⟩ (g_recv F hG mo_0 (by decide) rfl) rfl hl.1 rfl (Nat.le_of_ble_eq_true rfl) dX9_deeper_50 ⟨Nat.le_refl _, Nat.le_refl _⟩) (fun H locs hG => ?_)
        refine lv_if_eq (tgt := 60) hx hb dX9_deeper_53 (by decide) (fun c6 => ?_) (fun c6 => ?_)
        · replace hf := if_t c6 hf
          refine lv_iconst (v := 1) hx hb dX9_deeper_60 (by decide) ?_
          exact hJ61 _ _ _ _ ls hf hG (lv_sub hl [] rfl)
        · replace hf := if_f c6 hf
          exact hJ56  _ _ _ ls hf hG (lv_sub hl [] rfl)
  · replace hf := if_f c2 hf
    refine lv_aload_n hx hb dX9_deeper_9 rfl (lv_at hl 0 rfl) ?_
    refine lv_dup hx hb dX9_deeper_10 rfl ?_
    refine g_getI F hG mo_0 (by decide) (by decide) lk_X9_199 rfl dX9_deeper_11 ?_
    refine lv_iconst (v := 1) hx hb dX9_deeper_14 (by decide) ?_
    refine lv_iadd hx hb dX9_deeper_15 ?_
    refine g_putI F hG mo_0 (by decide) (by decide) lkv_X9_199 rfl rfl rfl dX9_deeper_16 (fun H locs hG => ?_)
    refine lv_aload_n hx hb dX9_deeper_19 rfl (lv_at hl 0 rfl) ?_
    refine g_getR F hG 11 mo_0 (by decide) (by decide) lk_X9_59 rfl dX9_deeper_20 ?_
    refine lv_aload_n hx hb dX9_deeper_23 rfl (lv_at hl 0 rfl) ?_
    refine g_getI F hG mo_0 (by decide) (by decide) lk_X9_199 rfl dX9_deeper_24 ?_
    refine lv_iconst (v := 0) hx hb dX9_deeper_27 (by decide) ?_
    replace hf := ck_some hf
    obtain ⟨k7, hf⟩ := hf
    refine g_zast F hG oM_11 k7 rfl dX9_deeper_28 (fun H locs hG => ?_)
    exact cg_vret F hr hlk hG hf dX9_deeper_29

def j_X9_operand_120 (n : Nat) (M : Mem) : Option (Mem) := bd (f_X9_part n   M) (fun q1 => some q1)
def j_X9_operand_117 (n : Nat) (x2 : Int32) (x3 : Int32) (M : Mem) : Option ((Int32 × Int32 × Mem) ⊕ (Mem)) := some (.inl (x2, x3, M))
def j_X9_operand_96 (n : Nat) (t0 : Int32) (x2 : Int32) (M : Mem) : Option ((Int32 × Int32 × Mem) ⊕ (Mem)) := if t0 = 0 then (j_X9_operand_117 n  x2 t0 M) else (bd (f_X9_waitsFor n  (14 : Int32) M) (fun q3 => bd (f_X9_goes n   q3) (fun q4 => bd (f_X9_deeper n   q4) (fun q5 => j_X9_operand_117 n  (1 : Int32) t0 q5))))
def j_X9_operand_95 (n : Nat) (x2 : Int32) (M : Mem) : Option ((Int32 × Int32 × Mem) ⊕ (Mem)) := j_X9_operand_96 n  (0 : Int32) x2 M
def j_X9_operand_75 (n : Nat) (x2 : Int32) (M : Mem) : Option ((Int32 × Int32 × Mem) ⊕ (Mem)) := bd (f_X9_isGood n   M) (fun q6 => if q6.1 = 0 then (j_X9_operand_95 n  x2 q6.2) else (bd (f_X9_isSign n  (40 : Int32) q6.2) (fun q8 => if q8.1 = 0 then (j_X9_operand_95 n  x2 q8.2) else (j_X9_operand_96 n  (1 : Int32) x2 q8.2))))
def j_X9_operand_50 (n : Nat) (x2 : Int32) (x4 : Int32) (M : Mem) : Option ((Int32 × Mem) ⊕ ((Int32 × Int32 × Mem) ⊕ (Mem))) := bd (f_X9_isGood n   M) (fun q10 => if q10.1 = 0 then (some (.inl ((x4 + (1 : Int32)), q10.2))) else (bd (f_X9_waitsFor n  (3 : Int32) q10.2) (fun q12 => bd (f_X9_goes n   q12) (fun q13 => some (.inl ((x4 + (1 : Int32)), q13))))))
def b_X9_operand_18 (n : Nat) (x2 : Int32) (q : (Int32 × Mem)) : Option ((Int32 × Mem) ⊕ ((Int32 × Int32 × Mem) ⊕ (Mem))) := match q with
  | (x4, M) => bd (f_X9_isGood n   M) (fun q14 => if q14.1 = 0 then (mr (j_X9_operand_75 n  x2 q14.2)) else (if x2 = 0 then (mr (j_X9_operand_75 n  x2 q14.2)) else (bd (f_X9_knownWord n   q14.2) (fun q17 => if q17.1 = (20 : Int32) then (if x4 = (6 : Int32) then (bd (f_X9_wrong n  (2 : Int32) q17.2) (fun q20 => j_X9_operand_50 n  x2 x4 q20)) else (j_X9_operand_50 n  x2 x4 q17.2)) else (mr (j_X9_operand_75 n  x2 q17.2))))))
def b_X9_operand_4 (n : Nat) (q : (Int32 × Int32 × Mem)) : Option ((Int32 × Int32 × Mem) ⊕ (Mem)) := match q with
  | (x2, x3, M) => if x3 = 0 then (mr (j_X9_operand_120 n  M)) else (bd (f_X9_isGood n   M) (fun q22 => if q22.1 = 0 then (mr (j_X9_operand_120 n  q22.2)) else (gl (b_X9_operand_18 n  x2) n ((0 : Int32), q22.2))))
def f_X9_operand (n : Nat) (x1 : Int32) (M : Mem) : Option (Mem) := gl (b_X9_operand_4 n ) n (x1, (1 : Int32), M)
set_option maxHeartbeats 4000000 in
set_option maxRecDepth 100000 in
theorem c_X9_operand (l : Launch) (w : Wd) {X : (Nat → Prop) → State → Heap → Prop} (hXk : XOK X) (n : Nat) (x1 : Int32) (M : Mem) (res : Mem) (hf : f_X9_operand n  x1 M = some res) : CG l w layM 24 X yX9_operand cX9_operand 5 none 4 [.ref (w.2.2.1 0), .int x1] M (GQv w layM 24 res) := by
  refine cg_start (by decide +kernel) (Nat.le_of_ble_eq_true rfl) ?_
  intro p e s m args below meth c F hr hlk hX hG ls hl
  have F : FX w p m c cX9_operand 5 s args RX9 := F
  have hx := F.1.1
  have hb := F.1.2.1
  have hl : lv_has ls 5 [(0, .ref (w.2.2.1 0)), (1, .int x1)] := hl
  have hJ120 : ∀ (M : Mem) (H : Heap) (locs : List Loc) (ls : Array Slot), j_X9_operand_120 n   M = some res → GI w layM 24 s.heap M H locs → lv_has ls 5 [(0, .ref (w.2.2.1 0))] → W p l e (Rm 4) s m args below meth c H locs 0 0 (MQ below (GQv w layM 24 res s.heap.size) args s 0 0 (gA w.2.2.1 24 s.heap.size)) (F0 m 120 ls []) := by
    intro  M H locs ls hf hG hl
    unfold j_X9_operand_120 at hf
    refine lv_aload_n hx hb dX9_operand_120 rfl (lv_at hl 0 rfl) ?_
    replace hf := bd_some hf
    obtain ⟨q1, eq1, hf⟩ := hf
    refine gx_callv hG (gx_runV hXk F hX hG (c_X9_part l w hXk n   _ _ eq1) cv_X9_211 ⟨Nat.le_of_ble_eq_true rfl, Nat.le_of_ble_eq_true rfl⟩ (g_recv F hG mo_0 (by decide) rfl) rfl hl.1 rfl (Nat.le_of_ble_eq_true rfl) dX9_operand_121 ⟨Nat.le_refl _, Nat.le_refl _⟩) (fun H locs hG => ?_)
    exact cg_vret F hr hlk hG hf dX9_operand_124
  have hJ4 : ∀ (x2 : Int32) (x3 : Int32) (M : Mem) (H : Heap) (locs : List Loc) (ls : Array Slot), gl (b_X9_operand_4 n  ) n (x2, x3, M) = some res → GI w layM 24 s.heap M H locs → lv_has ls 5 [(0, .ref (w.2.2.1 0)), (2, .int x2), (3, .int x3)] → W p l e (Rm 4) s m args below meth c H locs 0 0 (MQ below (GQv w layM 24 res s.heap.size) args s 0 0 (gA w.2.2.1 24 s.heap.size)) (F0 m 4 ls []) := by
    intro x2 x3 M H locs ls hf hG hl
    refine gl_run (P := fun (q : (Int32 × Int32 × Mem)) => ∀ (H : Heap) (locs : List Loc) (ls : Array Slot), GI w layM 24 s.heap q.2.2 H locs → lv_has ls 5 [(0, .ref (w.2.2.1 0)), (2, .int q.1), (3, .int q.2.1)] → W p l e (Rm 4) s m args below meth c H locs 0 0 (MQ below (GQv w layM 24 res s.heap.size) args s 0 0 (gA w.2.2.1 24 s.heap.size)) (F0 m 4 ls [])) ?_ n (x2, x3, M) hf H locs ls hG hl
    clear hf hG hl ls locs H M x2 x3
    rintro ⟨x2, x3, M⟩ rr4 hf hI4 hE4 H locs ls hG hl
    try dsimp only at hG hl ⊢
    have hJ117 : ∀ (x2 : Int32) (x3 : Int32) (M : Mem) (H : Heap) (locs : List Loc) (ls : Array Slot), j_X9_operand_117 n  x2 x3 M = some rr4 → GI w layM 24 s.heap M H locs → lv_has ls 5 [(0, .ref (w.2.2.1 0)), (2, .int x2), (3, .int x3)] → W p l e (Rm 4) s m args below meth c H locs 0 0 (MQ below (GQv w layM 24 res s.heap.size) args s 0 0 (gA w.2.2.1 24 s.heap.size)) (F0 m 117 ls []) := by
      intro x2 x3 M H locs ls hf hG hl
      unfold j_X9_operand_117 at hf
      refine lv_goto (tgt := 4) hx hb dX9_operand_117 (by decide) ?_
      exact hI4 _ (Option.some.inj hf).symm _ _ ls hG (lv_sub hl [0, 1, 2] rfl)
    have hJ96 : ∀ (t0 : Int32) (x2 : Int32) (M : Mem) (H : Heap) (locs : List Loc) (ls : Array Slot), j_X9_operand_96 n  t0 x2 M = some rr4 → GI w layM 24 s.heap M H locs → lv_has ls 5 [(0, .ref (w.2.2.1 0)), (2, .int x2)] → W p l e (Rm 4) s m args below meth c H locs 0 0 (MQ below (GQv w layM 24 res s.heap.size) args s 0 0 (gA w.2.2.1 24 s.heap.size)) (F0 m 96 ls [.int t0]) := by
      intro t0 x2 M H locs ls hf hG hl
      unfold j_X9_operand_96 at hf
      refine lv_istore_n (lv' := [(3, .int t0), (0, .ref (w.2.2.1 0)), (2, .int x2)]) hx hb dX9_operand_96 rfl hl (by decide) rfl (fun ls hl => ?_)
      refine lv_iload_n hx hb dX9_operand_97 rfl (lv_at hl 0 rfl) ?_
      refine lv_if_eq (tgt := 117) hx hb dX9_operand_98 (by decide) (fun c2 => ?_) (fun c2 => ?_)
      · replace hf := if_t c2 hf
        exact hJ117 _ _ _ _ _ ls hf hG (lv_sub hl [1, 2, 0] rfl)
      · replace hf := if_f c2 hf
        refine lv_aload_n hx hb dX9_operand_101 rfl (lv_at hl 1 rfl) ?_
        refine lv_bipush (v := 14) hx hb dX9_operand_102 (by decide) ?_
        replace hf := bd_some hf
        obtain ⟨q3, eq3, hf⟩ := hf
        refine gx_callv hG (gx_runV hXk F hX hG (c_X9_waitsFor l w hXk n  (14 : Int32) _ _ eq3) cv_X9_205 ⟨Nat.le_of_ble_eq_true rfl, Nat.le_of_ble_eq_true rfl⟩ (g_recv F hG mo_0 (by decide) rfl) rfl hl.1 rfl (Nat.le_of_ble_eq_true rfl) dX9_operand_104 ⟨Nat.le_refl _, Nat.le_refl _⟩) (fun H locs hG => ?_)
        refine lv_aload_n hx hb dX9_operand_107 rfl (lv_at hl 1 rfl) ?_
        replace hf := bd_some hf
        obtain ⟨q4, eq4, hf⟩ := hf
        refine gx_callv hG (gx_runV hXk F hX hG (c_X9_goes l w hXk n   _ _ eq4) cv_X9_165 ⟨Nat.le_of_ble_eq_true rfl, Nat.le_of_ble_eq_true rfl⟩ (g_recv F hG mo_0 (by decide) rfl) rfl hl.1 rfl (Nat.le_of_ble_eq_true rfl) dX9_operand_108 ⟨Nat.le_refl _, Nat.le_refl _⟩) (fun H locs hG => ?_)
        refine lv_aload_n hx hb dX9_operand_111 rfl (lv_at hl 1 rfl) ?_
        replace hf := bd_some hf
        obtain ⟨q5, eq5, hf⟩ := hf
        refine gx_callv hG (gx_runV hXk F hX hG (c_X9_deeper l w hXk n   _ _ eq5) cv_X9_208 ⟨Nat.le_of_ble_eq_true rfl, Nat.le_of_ble_eq_true rfl⟩ (g_recv F hG mo_0 (by decide) rfl) rfl hl.1 rfl (Nat.le_of_ble_eq_true rfl) dX9_operand_112 ⟨Nat.le_refl _, Nat.le_refl _⟩) (fun H locs hG => ?_)
        refine lv_iconst (v := 1) hx hb dX9_operand_115 (by decide) ?_
        refine lv_istore_n (lv' := [(2, .int (1 : Int32)), (3, .int t0), (0, .ref (w.2.2.1 0))]) hx hb dX9_operand_116 rfl hl (by decide) rfl (fun ls hl => ?_)
        exact hJ117 _ _ _ _ _ ls hf hG (lv_sub hl [2, 0, 1] rfl)
    have hJ95 : ∀ (x2 : Int32) (M : Mem) (H : Heap) (locs : List Loc) (ls : Array Slot), j_X9_operand_95 n  x2 M = some rr4 → GI w layM 24 s.heap M H locs → lv_has ls 5 [(0, .ref (w.2.2.1 0)), (2, .int x2)] → W p l e (Rm 4) s m args below meth c H locs 0 0 (MQ below (GQv w layM 24 res s.heap.size) args s 0 0 (gA w.2.2.1 24 s.heap.size)) (F0 m 95 ls []) := by
      intro x2 M H locs ls hf hG hl
      unfold j_X9_operand_95 at hf
      refine lv_iconst (v := 0) hx hb dX9_operand_95 (by decide) ?_
      exact hJ96 _ _ _ _ _ ls hf hG (lv_sub hl [0, 1] rfl)
    have hJ75 : ∀ (x2 : Int32) (M : Mem) (H : Heap) (locs : List Loc) (ls : Array Slot), j_X9_operand_75 n  x2 M = some rr4 → GI w layM 24 s.heap M H locs → lv_has ls 5 [(0, .ref (w.2.2.1 0)), (2, .int x2)] → W p l e (Rm 4) s m args below meth c H locs 0 0 (MQ below (GQv w layM 24 res s.heap.size) args s 0 0 (gA w.2.2.1 24 s.heap.size)) (F0 m 75 ls []) := by
      intro x2 M H locs ls hf hG hl
      unfold j_X9_operand_75 at hf
      refine lv_aload_n hx hb dX9_operand_75 rfl (lv_at hl 0 rfl) ?_
      replace hf := bd_some hf
      obtain ⟨q6, eq6, hf⟩ := hf
      refine gx_calli hG (gx_runV hXk F hX hG (c_X9_isGood l w hXk n   _ _ eq6) cv_X9_161 ⟨Nat.le_of_ble_eq_true rfl, Nat.le_of_ble_eq_true rfl⟩ (g_recv F hG mo_0 (by decide) rfl) rfl hl.1 rfl (Nat.le_of_ble_eq_true rfl) dX9_operand_76 ⟨Nat.le_refl _, Nat.le_refl _⟩) (fun H locs hG => ?_)
      refine lv_if_eq (tgt := 95) hx hb dX9_operand_79 (by decide) (fun c7 => ?_) (fun c7 => ?_)
      · replace hf := if_t c7 hf
        exact hJ95 _ _ _ _ ls hf hG (lv_sub hl [0, 1] rfl)
      · replace hf := if_f c7 hf
        refine lv_aload_n hx hb dX9_operand_82 rfl (lv_at hl 0 rfl) ?_
        refine lv_bipush (v := 40) hx hb dX9_operand_83 (by decide) ?_
        replace hf := bd_some hf
        obtain ⟨q8, eq8, hf⟩ := hf
        refine gx_calli hG (gx_runV hXk F hX hG (c_X9_isSign l w hXk n  (40 : Int32) _ _ eq8) cv_X9_202 ⟨Nat.le_of_ble_eq_true rfl, Nat.le_of_ble_eq_true rfl⟩ (g_recv F hG mo_0 (by decide) rfl) rfl hl.1 rfl (Nat.le_of_ble_eq_true rfl) dX9_operand_85 ⟨Nat.le_refl _, Nat.le_refl _⟩) (fun H locs hG => ?_)
        refine lv_if_eq (tgt := 95) hx hb dX9_operand_88 (by decide) (fun c9 => ?_) (fun c9 => ?_)
        · replace hf := if_t c9 hf
          exact hJ95 _ _ _ _ ls hf hG (lv_sub hl [0, 1] rfl)
        · replace hf := if_f c9 hf
          refine lv_iconst (v := 1) hx hb dX9_operand_91 (by decide) ?_
          refine lv_goto (tgt := 96) hx hb dX9_operand_92 (by decide) ?_
          exact hJ96 _ _ _ _ _ ls hf hG (lv_sub hl [0, 1] rfl)
    have hJ18 : ∀ (x2 : Int32) (x4 : Int32) (M : Mem) (H : Heap) (locs : List Loc) (ls : Array Slot), gl (b_X9_operand_18 n  x2) n (x4, M) = some rr4 → GI w layM 24 s.heap M H locs → lv_has ls 5 [(0, .ref (w.2.2.1 0)), (2, .int x2), (4, .int x4)] → W p l e (Rm 4) s m args below meth c H locs 0 0 (MQ below (GQv w layM 24 res s.heap.size) args s 0 0 (gA w.2.2.1 24 s.heap.size)) (F0 m 18 ls []) := by
      intro x2 x4 M H locs ls hf hG hl
      refine gl_run (P := fun (q : (Int32 × Mem)) => ∀ (H : Heap) (locs : List Loc) (ls : Array Slot), GI w layM 24 s.heap q.2 H locs → lv_has ls 5 [(0, .ref (w.2.2.1 0)), (2, .int x2), (4, .int q.1)] → W p l e (Rm 4) s m args below meth c H locs 0 0 (MQ below (GQv w layM 24 res s.heap.size) args s 0 0 (gA w.2.2.1 24 s.heap.size)) (F0 m 18 ls [])) ?_ n (x4, M) hf H locs ls hG hl
      clear hf hG hl ls locs H M x4
      rintro ⟨x4, M⟩ rr18 hf hI18 hE18 H locs ls hG hl
      try dsimp only at hG hl ⊢
      have hJ50 : ∀ (x4 : Int32) (M : Mem) (H : Heap) (locs : List Loc) (ls : Array Slot), j_X9_operand_50 n  x2 x4 M = some rr18 → GI w layM 24 s.heap M H locs → lv_has ls 5 [(0, .ref (w.2.2.1 0)), (2, .int x2), (4, .int x4)] → W p l e (Rm 4) s m args below meth c H locs 0 0 (MQ below (GQv w layM 24 res s.heap.size) args s 0 0 (gA w.2.2.1 24 s.heap.size)) (F0 m 50 ls []) := by
        intro x4 M H locs ls hf hG hl
        unfold j_X9_operand_50 at hf
        refine lv_iinc (v := (x4 + (1 : Int32))) (lv' := [(4, .int (x4 + (1 : Int32))), (0, .ref (w.2.2.1 0)), (2, .int x2)]) hx hb dX9_operand_50 hl (k := 2) rfl rfl (by decide) rfl (fun ls hl => ?_)
        refine lv_aload_n hx hb dX9_operand_53 rfl (lv_at hl 1 rfl) ?_
        replace hf := bd_some hf
        obtain ⟨q10, eq10, hf⟩ := hf
        refine gx_calli hG (gx_runV hXk F hX hG (c_X9_isGood l w hXk n   _ _ eq10) cv_X9_161 ⟨Nat.le_of_ble_eq_true rfl, Nat.le_of_ble_eq_true rfl⟩ (g_recv F hG mo_0 (by decide) rfl) rfl hl.1 rfl (Nat.le_of_ble_eq_true rfl) dX9_operand_54 ⟨Nat.le_refl _, Nat.le_refl _⟩) (fun H locs hG => ?_)
        refine lv_if_ne (tgt := 63) hx hb dX9_operand_57 (by decide) (fun c11 => ?_) (fun c11 => ?_)
        · replace hf := if_f c11 hf
          refine lv_aload_n hx hb dX9_operand_63 rfl (lv_at hl 1 rfl) ?_
          refine lv_iconst (v := 3) hx hb dX9_operand_64 (by decide) ?_
          replace hf := bd_some hf
          obtain ⟨q12, eq12, hf⟩ := hf
          refine gx_callv hG (gx_runV hXk F hX hG (c_X9_waitsFor l w hXk n  (3 : Int32) _ _ eq12) cv_X9_205 ⟨Nat.le_of_ble_eq_true rfl, Nat.le_of_ble_eq_true rfl⟩ (g_recv F hG mo_0 (by decide) rfl) rfl hl.1 rfl (Nat.le_of_ble_eq_true rfl) dX9_operand_65 ⟨Nat.le_refl _, Nat.le_refl _⟩) (fun H locs hG => ?_)
          refine lv_aload_n hx hb dX9_operand_68 rfl (lv_at hl 1 rfl) ?_
          replace hf := bd_some hf
          obtain ⟨q13, eq13, hf⟩ := hf
          refine gx_callv hG (gx_runV hXk F hX hG (c_X9_goes l w hXk n   _ _ eq13) cv_X9_165 ⟨Nat.le_of_ble_eq_true rfl, Nat.le_of_ble_eq_true rfl⟩ (g_recv F hG mo_0 (by decide) rfl) rfl hl.1 rfl (Nat.le_of_ble_eq_true rfl) dX9_operand_69 ⟨Nat.le_refl _, Nat.le_refl _⟩) (fun H locs hG => ?_)
          refine lv_goto (tgt := 18) hx hb dX9_operand_72 (by decide) ?_
          exact hI18 _ (Option.some.inj hf).symm _ _ ls hG (lv_sub hl [1, 2, 0] rfl)
        · replace hf := if_t c11 hf
          refine lv_goto (tgt := 18) hx hb dX9_operand_60 (by decide) ?_
          exact hI18 _ (Option.some.inj hf).symm _ _ ls hG (lv_sub hl [1, 2, 0] rfl)
      dsimp only [b_X9_operand_18] at hf
      refine lv_aload_n hx hb dX9_operand_18 rfl (lv_at hl 0 rfl) ?_
      replace hf := bd_some hf
      obtain ⟨q14, eq14, hf⟩ := hf
      refine gx_calli hG (gx_runV hXk F hX hG (c_X9_isGood l w hXk n   _ _ eq14) cv_X9_161 ⟨Nat.le_of_ble_eq_true rfl, Nat.le_of_ble_eq_true rfl⟩ (g_recv F hG mo_0 (by decide) rfl) rfl hl.1 rfl (Nat.le_of_ble_eq_true rfl) dX9_operand_19 ⟨Nat.le_refl _, Nat.le_refl _⟩) (fun H locs hG => ?_)
      refine lv_if_eq (tgt := 75) hx hb dX9_operand_22 (by decide) (fun c15 => ?_) (fun c15 => ?_)
      · replace hf := if_t c15 hf
        replace hf := mr_some hf
        obtain ⟨z18, hf, hz⟩ := hf
        rw [hE18 _ hz] at hf
        exact hJ75 _ _ _ _ ls hf hG (lv_sub hl [0, 1] rfl)
      · replace hf := if_f c15 hf
        refine lv_iload_n hx hb dX9_operand_25 rfl (lv_at hl 1 rfl) ?_
        refine lv_if_eq (tgt := 75) hx hb dX9_operand_26 (by decide) (fun c16 => ?_) (fun c16 => ?_)
        · replace hf := if_t c16 hf
          replace hf := mr_some hf
          obtain ⟨z18, hf, hz⟩ := hf
          rw [hE18 _ hz] at hf
          exact hJ75 _ _ _ _ ls hf hG (lv_sub hl [0, 1] rfl)
        · replace hf := if_f c16 hf
          refine lv_aload_n hx hb dX9_operand_29 rfl (lv_at hl 0 rfl) ?_
          replace hf := bd_some hf
          obtain ⟨q17, eq17, hf⟩ := hf
          refine gx_calli hG (gx_runV hXk F hX hG (c_X9_knownWord l w hXk n   _ _ eq17) cv_X9_189 ⟨Nat.le_of_ble_eq_true rfl, Nat.le_of_ble_eq_true rfl⟩ (g_recv F hG mo_0 (by decide) rfl) rfl hl.1 rfl (Nat.le_of_ble_eq_true rfl) dX9_operand_30 ⟨Nat.le_refl _, Nat.le_refl _⟩) (fun H locs hG => ?_)
          refine lv_bipush (v := 20) hx hb dX9_operand_33 (by decide) ?_
          refine lv_icmp_ne (tgt := 75) hx hb dX9_operand_35 (by decide) (fun c18 => ?_) (fun c18 => ?_)
          · replace hf := if_f c18 hf
            replace hf := mr_some hf
            obtain ⟨z18, hf, hz⟩ := hf
            rw [hE18 _ hz] at hf
            exact hJ75 _ _ _ _ ls hf hG (lv_sub hl [0, 1] rfl)
          · replace hf := if_t c18 hf
            refine lv_iload hx hb dX9_operand_38 (lv_at hl 2 rfl) ?_
            refine lv_bipush (v := 6) hx hb dX9_operand_40 (by decide) ?_
            refine lv_icmp_ne (tgt := 50) hx hb dX9_operand_42 (by decide) (fun c19 => ?_) (fun c19 => ?_)
            · replace hf := if_f c19 hf
              exact hJ50 _ _ _ _ ls hf hG (lv_sub hl [0, 1, 2] rfl)
            · replace hf := if_t c19 hf
              refine lv_aload_n hx hb dX9_operand_45 rfl (lv_at hl 0 rfl) ?_
              refine lv_iconst (v := 2) hx hb dX9_operand_46 (by decide) ?_
              replace hf := bd_some hf
              obtain ⟨q20, eq20, hf⟩ := hf
              refine gx_callv hG (gx_runV hXk F hX hG (c_X9_wrong l w hXk n  (2 : Int32) _ _ eq20) cv_X9_168 ⟨Nat.le_of_ble_eq_true rfl, Nat.le_of_ble_eq_true rfl⟩ (g_recv F hG mo_0 (by decide) rfl) rfl hl.1 rfl (Nat.le_of_ble_eq_true rfl) dX9_operand_47 ⟨Nat.le_refl _, Nat.le_refl _⟩) (fun H locs hG => ?_)
              exact hJ50 _ _ _ _ ls hf hG (lv_sub hl [0, 1, 2] rfl)
    dsimp only [b_X9_operand_4] at hf
    refine lv_iload_n hx hb dX9_operand_4 rfl (lv_at hl 2 rfl) ?_
    refine lv_if_eq (tgt := 120) hx hb dX9_operand_5 (by decide) (fun c21 => ?_) (fun c21 => ?_)
    · replace hf := if_t c21 hf
      replace hf := mr_some hf
      obtain ⟨z4, hf, hz⟩ := hf
      rw [hE4 _ hz] at hf
      exact hJ120  _ _ _ ls hf hG (lv_sub hl [0] rfl)
    · replace hf := if_f c21 hf
      refine lv_aload_n hx hb dX9_operand_8 rfl (lv_at hl 0 rfl) ?_
      replace hf := bd_some hf
      obtain ⟨q22, eq22, hf⟩ := hf
      refine gx_calli hG (gx_runV hXk F hX hG (c_X9_isGood l w hXk n   _ _ eq22) cv_X9_161 ⟨Nat.le_of_ble_eq_true rfl, Nat.le_of_ble_eq_true rfl⟩ (g_recv F hG mo_0 (by decide) rfl) rfl hl.1 rfl (Nat.le_of_ble_eq_true rfl) dX9_operand_9 ⟨Nat.le_refl _, Nat.le_refl _⟩) (fun H locs hG => ?_)
      refine lv_if_eq (tgt := 120) hx hb dX9_operand_12 (by decide) (fun c23 => ?_) (fun c23 => ?_)
      · replace hf := if_t c23 hf
        replace hf := mr_some hf
        obtain ⟨z4, hf, hz⟩ := hf
        rw [hE4 _ hz] at hf
        exact hJ120  _ _ _ ls hf hG (lv_sub hl [0] rfl)
      · replace hf := if_f c23 hf
        refine lv_iconst (v := 0) hx hb dX9_operand_15 (by decide) ?_
        refine lv_istore (lv' := [(4, .int (0 : Int32)), (0, .ref (w.2.2.1 0)), (2, .int x2), (3, .int x3)]) hx hb dX9_operand_16 hl (by decide) rfl (fun ls hl => ?_)
        exact hJ18 _ _ _ _ _ ls hf hG (lv_sub hl [1, 2, 0] rfl)
  unfold f_X9_operand at hf
  refine lv_iload_n hx hb dX9_operand_0 rfl (lv_at hl 1 rfl) ?_
  refine lv_istore_n (lv' := [(2, .int x1), (0, .ref (w.2.2.1 0)), (1, .int x1)]) hx hb dX9_operand_1 rfl hl (by decide) rfl (fun ls hl => ?_)
  refine lv_iconst (v := 1) hx hb dX9_operand_2 (by decide) ?_
  refine lv_istore_n (lv' := [(3, .int (1 : Int32)), (2, .int x1), (0, .ref (w.2.2.1 0)), (1, .int x1)]) hx hb dX9_operand_3 rfl hl (by decide) rfl (fun ls hl => ?_)
  exact hJ4 _ _ _ _ _ ls hf hG (lv_sub hl [2, 1, 0] rfl)

def j_X9_isOpened_29 (n : Nat) (x1 : Int32) (M : Mem) : Option (Int32 × Mem) := if x1 < 0 then (some ((0 : Int32), M)) else (some ((1 : Int32), M))
def b_X9_isOpened_7 (n : Nat) (q : (Int32 × Mem)) : Option ((Int32 × Mem) ⊕ (Int32 × Mem)) := match q with
  | (x1, M) => if x1 < 0 then (mr (j_X9_isOpened_29 n  x1 M)) else (ck (inb x1 950) (bd (f_X9_isOpen n  (gi M 10 x1.toNatClampNeg) M) (fun q4 => if q4.1 = 0 then (some (.inl ((x1 + (-1 : Int32)), q4.2))) else (mr (j_X9_isOpened_29 n  x1 q4.2)))))
def f_X9_isOpened (n : Nat) (M : Mem) : Option (Int32 × Mem) := gl (b_X9_isOpened_7 n ) n (((gi M 0 35) - (1 : Int32)), M)
set_option maxHeartbeats 4000000 in
set_option maxRecDepth 100000 in
theorem c_X9_isOpened (l : Launch) (w : Wd) {X : (Nat → Prop) → State → Heap → Prop} (hXk : XOK X) (n : Nat) (M : Mem) (res : Int32 × Mem) (hf : f_X9_isOpened n   M = some res) : CG l w layM 24 X yX9_isOpened cX9_isOpened 2 (some .boolean) 1 [.ref (w.2.2.1 0)] M (GQi w layM 24 res) := by
  refine cg_start (by decide +kernel) (Nat.le_of_ble_eq_true rfl) ?_
  intro p e s m args below meth c F hr hlk hX hG ls hl
  have F : FX w p m c cX9_isOpened 2 s args RX9 := F
  have hx := F.1.1
  have hb := F.1.2.1
  have hl : lv_has ls 2 [(0, .ref (w.2.2.1 0))] := hl
  have hJ29 : ∀ (x1 : Int32) (M : Mem) (H : Heap) (locs : List Loc) (ls : Array Slot), j_X9_isOpened_29 n  x1 M = some res → GI w layM 24 s.heap M H locs → lv_has ls 2 [(1, .int x1)] → W p l e (Rm 1) s m args below meth c H locs 0 0 (MQ below (GQi w layM 24 res s.heap.size) args s 0 0 (gA w.2.2.1 24 s.heap.size)) (F0 m 29 ls []) := by
    intro x1 M H locs ls hf hG hl
    unfold j_X9_isOpened_29 at hf
    refine lv_iload_n hx hb dX9_isOpened_29 rfl (lv_at hl 0 rfl) ?_
    refine lv_if_lt (tgt := 37) hx hb dX9_isOpened_30 (by decide) (fun c1 => ?_) (fun c1 => ?_)
    · replace hf := if_t c1 hf
      refine lv_iconst (v := 0) hx hb dX9_isOpened_37 (by decide) ?_
      exact cg_zret F hr hlk hG hf (Or.inl rfl) dX9_isOpened_38
    · replace hf := if_f c1 hf
      refine lv_iconst (v := 1) hx hb dX9_isOpened_33 (by decide) ?_
      refine lv_goto (tgt := 38) hx hb dX9_isOpened_34 (by decide) ?_
      exact cg_zret F hr hlk hG hf (Or.inr rfl) dX9_isOpened_38
  have hJ7 : ∀ (x1 : Int32) (M : Mem) (H : Heap) (locs : List Loc) (ls : Array Slot), gl (b_X9_isOpened_7 n  ) n (x1, M) = some res → GI w layM 24 s.heap M H locs → lv_has ls 2 [(0, .ref (w.2.2.1 0)), (1, .int x1)] → W p l e (Rm 1) s m args below meth c H locs 0 0 (MQ below (GQi w layM 24 res s.heap.size) args s 0 0 (gA w.2.2.1 24 s.heap.size)) (F0 m 7 ls []) := by
    intro x1 M H locs ls hf hG hl
    refine gl_run (P := fun (q : (Int32 × Mem)) => ∀ (H : Heap) (locs : List Loc) (ls : Array Slot), GI w layM 24 s.heap q.2 H locs → lv_has ls 2 [(0, .ref (w.2.2.1 0)), (1, .int q.1)] → W p l e (Rm 1) s m args below meth c H locs 0 0 (MQ below (GQi w layM 24 res s.heap.size) args s 0 0 (gA w.2.2.1 24 s.heap.size)) (F0 m 7 ls [])) ?_ n (x1, M) hf H locs ls hG hl
    clear hf hG hl ls locs H M x1
    rintro ⟨x1, M⟩ rr7 hf hI7 hE7 H locs ls hG hl
    try dsimp only at hG hl ⊢
    dsimp only [b_X9_isOpened_7] at hf
    refine lv_iload_n hx hb dX9_isOpened_7 rfl (lv_at hl 1 rfl) ?_
    refine lv_if_lt (tgt := 29) hx hb dX9_isOpened_8 (by decide) (fun c2 => ?_) (fun c2 => ?_)
    · replace hf := if_t c2 hf
      replace hf := mr_some hf
      obtain ⟨z7, hf, hz⟩ := hf
      rw [hE7 _ hz] at hf
      exact hJ29 _ _ _ _ ls hf hG (lv_sub hl [1] rfl)
    · replace hf := if_f c2 hf
      refine lv_aload_n hx hb dX9_isOpened_11 rfl (lv_at hl 0 rfl) ?_
      refine g_getR F hG 10 mo_0 (by decide) (by decide) lk_X9_56 rfl dX9_isOpened_12 ?_
      refine lv_iload_n hx hb dX9_isOpened_15 rfl (lv_at hl 1 rfl) ?_
      replace hf := ck_some hf
      obtain ⟨k3, hf⟩ := hf
      refine g_iald F hG oM_10 k3 dX9_isOpened_16 ?_
      replace hf := bd_some hf
      obtain ⟨q4, eq4, hf⟩ := hf
      refine gx_calli hG (gx_runS hXk F hX hG (c_X9_isOpen l w hXk n  (gi M 10 x1.toNatClampNeg) _ _ eq4) cs_X9_180 ⟨Nat.le_of_ble_eq_true rfl, Nat.le_of_ble_eq_true rfl⟩ rfl hl.1 rfl (Nat.le_of_ble_eq_true rfl) dX9_isOpened_17 ⟨Nat.le_refl _, Nat.le_refl _⟩) (fun H locs hG => ?_)
      refine lv_if_ne (tgt := 29) hx hb dX9_isOpened_20 (by decide) (fun c5 => ?_) (fun c5 => ?_)
      · replace hf := if_f c5 hf
        replace hf := mr_some hf
        obtain ⟨z7, hf, hz⟩ := hf
        rw [hE7 _ hz] at hf
        exact hJ29 _ _ _ _ ls hf hG (lv_sub hl [1] rfl)
      · replace hf := if_t c5 hf
        refine lv_iinc (v := (x1 + (-1 : Int32))) (lv' := [(1, .int (x1 + (-1 : Int32))), (0, .ref (w.2.2.1 0))]) hx hb dX9_isOpened_23 hl (k := 1) rfl rfl (by decide) rfl (fun ls hl => ?_)
        refine lv_goto (tgt := 7) hx hb dX9_isOpened_26 (by decide) ?_
        exact hI7 _ (Option.some.inj hf).symm _ _ ls hG (lv_sub hl [1, 0] rfl)
  unfold f_X9_isOpened at hf
  refine lv_aload_n hx hb dX9_isOpened_0 rfl (lv_at hl 0 rfl) ?_
  refine g_getI F hG mo_0 (by decide) (by decide) lk_X9_177 rfl dX9_isOpened_1 ?_
  refine lv_iconst (v := 1) hx hb dX9_isOpened_4 (by decide) ?_
  refine lv_isub hx hb dX9_isOpened_5 ?_
  refine lv_istore_n (lv' := [(1, .int ((gi M 0 35) - (1 : Int32))), (0, .ref (w.2.2.1 0))]) hx hb dX9_isOpened_6 rfl hl (by decide) rfl (fun ls hl => ?_)
  exact hJ7 _ _ _ _ ls hf hG (lv_sub hl [1, 0] rfl)

def f_X9_closes (n : Nat) (M : Mem) : Option (Mem) := bd (f_X9_drops n  (0 : Int32) M) (fun q1 => bd (f_X9_goes n   (si (si q1 0 35 ((gi q1 0 35) - (1 : Int32))) 0 36 ((gi (si q1 0 35 ((gi q1 0 35) - (1 : Int32))) 0 36) - (1 : Int32)))) (fun q2 => some q2))
set_option maxHeartbeats 4000000 in
set_option maxRecDepth 100000 in
theorem c_X9_closes (l : Launch) (w : Wd) {X : (Nat → Prop) → State → Heap → Prop} (hXk : XOK X) (n : Nat) (M : Mem) (res : Mem) (hf : f_X9_closes n   M = some res) : CG l w layM 24 X yX9_closes cX9_closes 1 none 2 [.ref (w.2.2.1 0)] M (GQv w layM 24 res) := by
  refine cg_start (by decide +kernel) (Nat.le_of_ble_eq_true rfl) ?_
  intro p e s m args below meth c F hr hlk hX hG ls hl
  have F : FX w p m c cX9_closes 1 s args RX9 := F
  have hx := F.1.1
  have hb := F.1.2.1
  have hl : lv_has ls 1 [(0, .ref (w.2.2.1 0))] := hl
  unfold f_X9_closes at hf
  refine lv_aload_n hx hb dX9_closes_0 rfl (lv_at hl 0 rfl) ?_
  refine lv_iconst (v := 0) hx hb dX9_closes_1 (by decide) ?_
  replace hf := bd_some hf
  obtain ⟨q1, eq1, hf⟩ := hf
  refine gx_callv hG (gx_runV hXk F hX hG (c_X9_drops l w hXk n  (0 : Int32) _ _ eq1) cv_X9_214 ⟨Nat.le_of_ble_eq_true rfl, Nat.le_of_ble_eq_true rfl⟩ (g_recv F hG mo_0 (by decide) rfl) rfl hl.1 rfl (Nat.le_of_ble_eq_true rfl) dX9_closes_2 ⟨Nat.le_refl _, Nat.le_refl _⟩) (fun H locs hG => ?_)
  refine lv_aload_n hx hb dX9_closes_5 rfl (lv_at hl 0 rfl) ?_
  refine lv_dup hx hb dX9_closes_6 rfl ?_
  refine g_getI F hG mo_0 (by decide) (by decide) lk_X9_177 rfl dX9_closes_7 ?_
  refine lv_iconst (v := 1) hx hb dX9_closes_10 (by decide) ?_
  refine lv_isub hx hb dX9_closes_11 ?_
  refine g_putI F hG mo_0 (by decide) (by decide) lkv_X9_177 rfl rfl rfl dX9_closes_12 (fun H locs hG => ?_)
  refine lv_aload_n hx hb dX9_closes_15 rfl (lv_at hl 0 rfl) ?_
  refine lv_dup hx hb dX9_closes_16 rfl ?_
  refine g_getI F hG mo_0 (by decide) (by decide) lk_X9_199 rfl dX9_closes_17 ?_
  refine lv_iconst (v := 1) hx hb dX9_closes_20 (by decide) ?_
  refine lv_isub hx hb dX9_closes_21 ?_
  refine g_putI F hG mo_0 (by decide) (by decide) lkv_X9_199 rfl rfl rfl dX9_closes_22 (fun H locs hG => ?_)
  refine lv_aload_n hx hb dX9_closes_25 rfl (lv_at hl 0 rfl) ?_
  replace hf := bd_some hf
  obtain ⟨q2, eq2, hf⟩ := hf
  refine gx_callv hG (gx_runV hXk F hX hG (c_X9_goes l w hXk n   _ _ eq2) cv_X9_165 ⟨Nat.le_of_ble_eq_true rfl, Nat.le_of_ble_eq_true rfl⟩ (g_recv F hG mo_0 (by decide) rfl) rfl hl.1 rfl (Nat.le_of_ble_eq_true rfl) dX9_closes_26 ⟨Nat.le_refl _, Nat.le_refl _⟩) (fun H locs hG => ?_)
  exact cg_vret F hr hlk hG hf dX9_closes_29

def j_X9_expression_360 (n : Nat) (M : Mem) : Option (Mem) := bd (f_X9_drops n  (0 : Int32) M) (fun q1 => bd (f_X9_puts n  (0 : Int32) q1) (fun q2 => some q2))
def j_X9_expression_340 (n : Nat) (M : Mem) : Option (Mem) := bd (f_X9_isGood n   M) (fun q3 => if q3.1 = 0 then (j_X9_expression_360 n  q3.2) else (if (gi q3.2 0 36) ≤ (1 : Int32) then (j_X9_expression_360 n  q3.2) else (bd (f_X9_wrong n  (1 : Int32) q3.2) (fun q6 => j_X9_expression_360 n  q6))))
def j_X9_expression_337 (n : Nat) (x3 : Int32) (M : Mem) : Option ((Int32 × Mem) ⊕ (Mem)) := some (.inl (x3, M))
def j_X9_expression_99 (n : Nat) (t0 : Int32) (x3 : Int32) (M : Mem) : Option ((Int32 × Mem) ⊕ (Mem)) := bd (f_X9_waitsFor n  t0 M) (fun q7 => ck (inb (gi q7 0 36) 9) (bd (f_X9_goes n   (si q7 11 (gi q7 0 36).toNatClampNeg (0 : Int32))) (fun q9 => bd (f_X9_operand n  (1 : Int32) q9) (fun q10 => j_X9_expression_337 n  x3 q10))))
def j_X9_expression_83 (n : Nat) (t0 : Int32) (x3 : Int32) (x4 : Int32) (M : Mem) : Option ((Int32 × Mem) ⊕ (Mem)) := bd (f_X9_drops n  t0 M) (fun q11 => if x4 = (18 : Int32) then (j_X9_expression_99 n  (4 : Int32) x3 q11) else (j_X9_expression_99 n  (5 : Int32) x3 q11))
def j_X9_expression_70 (n : Nat) (x3 : Int32) (x4 : Int32) (M : Mem) : Option ((Int32 × Mem) ⊕ (Mem)) := if x4 = (18 : Int32) then (j_X9_expression_83 n  (2 : Int32) x3 x4 M) else (j_X9_expression_83 n  (1 : Int32) x3 x4 M)
def j_X9_expression_176 (n : Nat) (t0 : Int32) (x3 : Int32) (M : Mem) : Option ((Int32 × Mem) ⊕ (Mem)) := bd (f_X9_waitsFor n  t0 M) (fun q14 => ck (inb (gi q14 0 36) 9) (bd (f_X9_goes n   (si q14 11 (gi q14 0 36).toNatClampNeg (1 : Int32))) (fun q16 => bd (f_X9_operand n  (0 : Int32) q16) (fun q17 => j_X9_expression_337 n  x3 q17))))
def j_X9_expression_241 (n : Nat) (t0 : Int32) (x3 : Int32) (M : Mem) : Option ((Int32 × Mem) ⊕ (Mem)) := bd (f_X9_waitsFor n  t0 M) (fun q18 => bd (f_X9_goes n   q18) (fun q19 => bd (f_X9_operand n  (0 : Int32) q19) (fun q20 => j_X9_expression_337 n  x3 q20)))
def j_X9_expression_219 (n : Nat) (x3 : Int32) (M : Mem) : Option ((Int32 × Mem) ⊕ (Mem)) := bd (f_X9_drops n  (5 : Int32) M) (fun q21 => bd (f_X9_isSign n  (43 : Int32) q21) (fun q22 => if q22.1 = 0 then (j_X9_expression_241 n  (9 : Int32) x3 q22.2) else (j_X9_expression_241 n  (8 : Int32) x3 q22.2)))
def j_X9_expression_297 (n : Nat) (t0 : Int32) (x3 : Int32) (M : Mem) : Option ((Int32 × Mem) ⊕ (Mem)) := bd (f_X9_waitsFor n  t0 M) (fun q24 => bd (f_X9_goes n   q24) (fun q25 => bd (f_X9_operand n  (0 : Int32) q25) (fun q26 => j_X9_expression_337 n  x3 q26)))
def j_X9_expression_274 (n : Nat) (x3 : Int32) (M : Mem) : Option ((Int32 × Mem) ⊕ (Mem)) := bd (f_X9_drops n  (6 : Int32) M) (fun q27 => bd (f_X9_isSign n  (42 : Int32) q27) (fun q28 => if q28.1 = 0 then (j_X9_expression_297 n  (11 : Int32) x3 q28.2) else (j_X9_expression_297 n  (10 : Int32) x3 q28.2)))
def j_X9_expression_335 (n : Nat) (M : Mem) : Option ((Int32 × Mem) ⊕ (Mem)) := j_X9_expression_337 n  (0 : Int32) M
def j_X9_expression_201 (n : Nat) (x3 : Int32) (M : Mem) : Option ((Int32 × Mem) ⊕ (Mem)) := bd (f_X9_isSign n  (43 : Int32) M) (fun q30 => if q30.1 = 0 then (bd (f_X9_isSign n  (45 : Int32) q30.2) (fun q32 => if q32.1 = 0 then (bd (f_X9_isSign n  (42 : Int32) q32.2) (fun q34 => if q34.1 = 0 then (bd (f_X9_isSign n  (47 : Int32) q34.2) (fun q36 => if q36.1 = 0 then (bd (f_X9_isSign n  (41 : Int32) q36.2) (fun q38 => if q38.1 = 0 then (j_X9_expression_335 n  q38.2) else (bd (f_X9_isOpened n   q38.2) (fun q40 => if q40.1 = 0 then (j_X9_expression_335 n  q40.2) else (bd (f_X9_closes n   q40.2) (fun q42 => j_X9_expression_337 n  x3 q42)))))) else (j_X9_expression_274 n  x3 q36.2))) else (j_X9_expression_274 n  x3 q34.2))) else (j_X9_expression_219 n  x3 q32.2))) else (j_X9_expression_219 n  x3 q30.2))
def j_X9_expression_142 (n : Nat) (x3 : Int32) (M : Mem) : Option ((Int32 × Mem) ⊕ (Mem)) := ck (inb (gi M 0 36) 9) (if (gi M 11 (gi M 0 36).toNatClampNeg) = 0 then (bd (f_X9_drops n  (4 : Int32) M) (fun q45 => bd (f_X9_isSign n  (60 : Int32) q45) (fun q46 => if q46.1 = 0 then (j_X9_expression_176 n  (7 : Int32) x3 q46.2) else (j_X9_expression_176 n  (6 : Int32) x3 q46.2)))) else (j_X9_expression_201 n  x3 M))
def b_X9_expression_39 (n : Nat) (q : (Int32 × Mem)) : Option ((Int32 × Mem) ⊕ (Mem)) := match q with
  | (x3, M) => if x3 = 0 then (mr (j_X9_expression_340 n  M)) else (bd (f_X9_isGood n   M) (fun q49 => if q49.1 = 0 then (mr (j_X9_expression_340 n  q49.2)) else (bd (f_X9_knownWord n   q49.2) (fun q51 => if q51.1 = (18 : Int32) then (j_X9_expression_70 n  x3 q51.1 q51.2) else (if q51.1 = (19 : Int32) then (j_X9_expression_70 n  x3 q51.1 q51.2) else (bd (f_X9_isSign n  (60 : Int32) q51.2) (fun q54 => if q54.1 = 0 then (bd (f_X9_isSign n  (61 : Int32) q54.2) (fun q56 => if q56.1 = 0 then (j_X9_expression_201 n  x3 q56.2) else (j_X9_expression_142 n  x3 q56.2))) else (j_X9_expression_142 n  x3 q54.2))))))))
def f_X9_expression (n : Nat) (x1 : Int32) (x2 : Int32) (M : Mem) : Option (Mem) := bd (f_X9_isGood n   M) (fun q58 => if q58.1 = 0 then (some q58.2) else (bd (f_X9_deeper n   (si (si (si (si q58.2 0 33 x1) 0 34 x2) 0 35 (0 : Int32)) 0 36 (0 : Int32))) (fun q60 => bd (f_X9_operand n  (1 : Int32) q60) (fun q61 => gl (b_X9_expression_39 n ) n ((1 : Int32), q61)))))
set_option maxHeartbeats 4000000 in
set_option maxRecDepth 100000 in
theorem c_X9_expression (l : Launch) (w : Wd) {X : (Nat → Prop) → State → Heap → Prop} (hXk : XOK X) (n : Nat) (x1 : Int32) (x2 : Int32) (M : Mem) (res : Mem) (hf : f_X9_expression n  x1 x2 M = some res) : CG l w layM 24 X yX9_expression cX9_expression 5 none 5 [.ref (w.2.2.1 0), .int x1, .int x2] M (GQv w layM 24 res) := by
  refine cg_start (by decide +kernel) (Nat.le_of_ble_eq_true rfl) ?_
  intro p e s m args below meth c F hr hlk hX hG ls hl
  have F : FX w p m c cX9_expression 5 s args RX9 := F
  have hx := F.1.1
  have hb := F.1.2.1
  have hl : lv_has ls 5 [(0, .ref (w.2.2.1 0)), (1, .int x1), (2, .int x2)] := hl
  have hJ360 : ∀ (M : Mem) (H : Heap) (locs : List Loc) (ls : Array Slot), j_X9_expression_360 n   M = some res → GI w layM 24 s.heap M H locs → lv_has ls 5 [(0, .ref (w.2.2.1 0))] → W p l e (Rm 5) s m args below meth c H locs 0 0 (MQ below (GQv w layM 24 res s.heap.size) args s 0 0 (gA w.2.2.1 24 s.heap.size)) (F0 m 360 ls []) := by
    intro  M H locs ls hf hG hl
    unfold j_X9_expression_360 at hf
    refine lv_aload_n hx hb dX9_expression_360 rfl (lv_at hl 0 rfl) ?_
    refine lv_iconst (v := 0) hx hb dX9_expression_361 (by decide) ?_
    replace hf := bd_some hf
    obtain ⟨q1, eq1, hf⟩ := hf
    refine gx_callv hG (gx_runV hXk F hX hG (c_X9_drops l w hXk n  (0 : Int32) _ _ eq1) cv_X9_214 ⟨Nat.le_of_ble_eq_true rfl, Nat.le_of_ble_eq_true rfl⟩ (g_recv F hG mo_0 (by decide) rfl) rfl hl.1 rfl (Nat.le_of_ble_eq_true rfl) dX9_expression_362 ⟨Nat.le_refl _, Nat.le_refl _⟩) (fun H locs hG => ?_)
    refine lv_aload_n hx hb dX9_expression_365 rfl (lv_at hl 0 rfl) ?_
    refine lv_iconst (v := 0) hx hb dX9_expression_366 (by decide) ?_
    replace hf := bd_some hf
    obtain ⟨q2, eq2, hf⟩ := hf
    refine gx_callv hG (gx_runV hXk F hX hG (c_X9_puts l w hXk n  (0 : Int32) _ _ eq2) cv_X9_186 ⟨Nat.le_of_ble_eq_true rfl, Nat.le_of_ble_eq_true rfl⟩ (g_recv F hG mo_0 (by decide) rfl) rfl hl.1 rfl (Nat.le_of_ble_eq_true rfl) dX9_expression_367 ⟨Nat.le_refl _, Nat.le_refl _⟩) (fun H locs hG => ?_)
    exact cg_vret F hr hlk hG hf dX9_expression_370
  have hJ340 : ∀ (M : Mem) (H : Heap) (locs : List Loc) (ls : Array Slot), j_X9_expression_340 n   M = some res → GI w layM 24 s.heap M H locs → lv_has ls 5 [(0, .ref (w.2.2.1 0))] → W p l e (Rm 5) s m args below meth c H locs 0 0 (MQ below (GQv w layM 24 res s.heap.size) args s 0 0 (gA w.2.2.1 24 s.heap.size)) (F0 m 340 ls []) := by
    intro  M H locs ls hf hG hl
    unfold j_X9_expression_340 at hf
    refine lv_aload_n hx hb dX9_expression_340 rfl (lv_at hl 0 rfl) ?_
    replace hf := bd_some hf
    obtain ⟨q3, eq3, hf⟩ := hf
    refine gx_calli hG (gx_runV hXk F hX hG (c_X9_isGood l w hXk n   _ _ eq3) cv_X9_161 ⟨Nat.le_of_ble_eq_true rfl, Nat.le_of_ble_eq_true rfl⟩ (g_recv F hG mo_0 (by decide) rfl) rfl hl.1 rfl (Nat.le_of_ble_eq_true rfl) dX9_expression_341 ⟨Nat.le_refl _, Nat.le_refl _⟩) (fun H locs hG => ?_)
    refine lv_if_eq (tgt := 360) hx hb dX9_expression_344 (by decide) (fun c4 => ?_) (fun c4 => ?_)
    · replace hf := if_t c4 hf
      exact hJ360  _ _ _ ls hf hG (lv_sub hl [0] rfl)
    · replace hf := if_f c4 hf
      refine lv_aload_n hx hb dX9_expression_347 rfl (lv_at hl 0 rfl) ?_
      refine g_getI F hG mo_0 (by decide) (by decide) lk_X9_199 rfl dX9_expression_348 ?_
      refine lv_iconst (v := 1) hx hb dX9_expression_351 (by decide) ?_
      refine lv_icmp_le (tgt := 360) hx hb dX9_expression_352 (by decide) (fun c5 => ?_) (fun c5 => ?_)
      · replace hf := if_t c5 hf
        exact hJ360  _ _ _ ls hf hG (lv_sub hl [0] rfl)
      · replace hf := if_f c5 hf
        refine lv_aload_n hx hb dX9_expression_355 rfl (lv_at hl 0 rfl) ?_
        refine lv_iconst (v := 1) hx hb dX9_expression_356 (by decide) ?_
        replace hf := bd_some hf
        obtain ⟨q6, eq6, hf⟩ := hf
        refine gx_callv hG (gx_runV hXk F hX hG (c_X9_wrong l w hXk n  (1 : Int32) _ _ eq6) cv_X9_168 ⟨Nat.le_of_ble_eq_true rfl, Nat.le_of_ble_eq_true rfl⟩ (g_recv F hG mo_0 (by decide) rfl) rfl hl.1 rfl (Nat.le_of_ble_eq_true rfl) dX9_expression_357 ⟨Nat.le_refl _, Nat.le_refl _⟩) (fun H locs hG => ?_)
        exact hJ360  _ _ _ ls hf hG (lv_sub hl [0] rfl)
  have hJ39 : ∀ (x3 : Int32) (M : Mem) (H : Heap) (locs : List Loc) (ls : Array Slot), gl (b_X9_expression_39 n  ) n (x3, M) = some res → GI w layM 24 s.heap M H locs → lv_has ls 5 [(0, .ref (w.2.2.1 0)), (3, .int x3)] → W p l e (Rm 5) s m args below meth c H locs 0 0 (MQ below (GQv w layM 24 res s.heap.size) args s 0 0 (gA w.2.2.1 24 s.heap.size)) (F0 m 39 ls []) := by
    intro x3 M H locs ls hf hG hl
    refine gl_run (P := fun (q : (Int32 × Mem)) => ∀ (H : Heap) (locs : List Loc) (ls : Array Slot), GI w layM 24 s.heap q.2 H locs → lv_has ls 5 [(0, .ref (w.2.2.1 0)), (3, .int q.1)] → W p l e (Rm 5) s m args below meth c H locs 0 0 (MQ below (GQv w layM 24 res s.heap.size) args s 0 0 (gA w.2.2.1 24 s.heap.size)) (F0 m 39 ls [])) ?_ n (x3, M) hf H locs ls hG hl
    clear hf hG hl ls locs H M x3
    rintro ⟨x3, M⟩ rr39 hf hI39 hE39 H locs ls hG hl
    try dsimp only at hG hl ⊢
    have hJ337 : ∀ (x3 : Int32) (M : Mem) (H : Heap) (locs : List Loc) (ls : Array Slot), j_X9_expression_337 n  x3 M = some rr39 → GI w layM 24 s.heap M H locs → lv_has ls 5 [(0, .ref (w.2.2.1 0)), (3, .int x3)] → W p l e (Rm 5) s m args below meth c H locs 0 0 (MQ below (GQv w layM 24 res s.heap.size) args s 0 0 (gA w.2.2.1 24 s.heap.size)) (F0 m 337 ls []) := by
      intro x3 M H locs ls hf hG hl
      unfold j_X9_expression_337 at hf
      refine lv_goto (tgt := 39) hx hb dX9_expression_337 (by decide) ?_
      exact hI39 _ (Option.some.inj hf).symm _ _ ls hG (lv_sub hl [0, 1] rfl)
    have hJ99 : ∀ (t0 : Int32) (x3 : Int32) (M : Mem) (H : Heap) (locs : List Loc) (ls : Array Slot), j_X9_expression_99 n  t0 x3 M = some rr39 → GI w layM 24 s.heap M H locs → lv_has ls 5 [(0, .ref (w.2.2.1 0)), (3, .int x3)] → W p l e (Rm 5) s m args below meth c H locs 0 0 (MQ below (GQv w layM 24 res s.heap.size) args s 0 0 (gA w.2.2.1 24 s.heap.size)) (F0 m 99 ls [.int t0, .ref (w.2.2.1 0)]) := by
      intro t0 x3 M H locs ls hf hG hl
      unfold j_X9_expression_99 at hf
      replace hf := bd_some hf
      obtain ⟨q7, eq7, hf⟩ := hf
      refine gx_callv hG (gx_runV hXk F hX hG (c_X9_waitsFor l w hXk n  t0 _ _ eq7) cv_X9_205 ⟨Nat.le_of_ble_eq_true rfl, Nat.le_of_ble_eq_true rfl⟩ (g_recv F hG mo_0 (by decide) rfl) rfl hl.1 rfl (Nat.le_of_ble_eq_true rfl) dX9_expression_99 ⟨Nat.le_refl _, Nat.le_refl _⟩) (fun H locs hG => ?_)
      refine lv_aload_n hx hb dX9_expression_102 rfl (lv_at hl 0 rfl) ?_
      refine g_getR F hG 11 mo_0 (by decide) (by decide) lk_X9_59 rfl dX9_expression_103 ?_
      refine lv_aload_n hx hb dX9_expression_106 rfl (lv_at hl 0 rfl) ?_
      refine g_getI F hG mo_0 (by decide) (by decide) lk_X9_199 rfl dX9_expression_107 ?_
      refine lv_iconst (v := 0) hx hb dX9_expression_110 (by decide) ?_
      replace hf := ck_some hf
      obtain ⟨k8, hf⟩ := hf
      refine g_zast F hG oM_11 k8 rfl dX9_expression_111 (fun H locs hG => ?_)
      refine lv_aload_n hx hb dX9_expression_112 rfl (lv_at hl 0 rfl) ?_
      replace hf := bd_some hf
      obtain ⟨q9, eq9, hf⟩ := hf
      refine gx_callv hG (gx_runV hXk F hX hG (c_X9_goes l w hXk n   _ _ eq9) cv_X9_165 ⟨Nat.le_of_ble_eq_true rfl, Nat.le_of_ble_eq_true rfl⟩ (g_recv F hG mo_0 (by decide) rfl) rfl hl.1 rfl (Nat.le_of_ble_eq_true rfl) dX9_expression_113 ⟨Nat.le_refl _, Nat.le_refl _⟩) (fun H locs hG => ?_)
      refine lv_aload_n hx hb dX9_expression_116 rfl (lv_at hl 0 rfl) ?_
      refine lv_iconst (v := 1) hx hb dX9_expression_117 (by decide) ?_
      replace hf := bd_some hf
      obtain ⟨q10, eq10, hf⟩ := hf
      refine gx_callv hG (gx_runV hXk F hX hG (c_X9_operand l w hXk n  (1 : Int32) _ _ eq10) cv_X9_217 ⟨Nat.le_of_ble_eq_true rfl, Nat.le_of_ble_eq_true rfl⟩ (g_recv F hG mo_0 (by decide) rfl) rfl hl.1 rfl (Nat.le_of_ble_eq_true rfl) dX9_expression_118 ⟨Nat.le_refl _, Nat.le_refl _⟩) (fun H locs hG => ?_)
      refine lv_goto (tgt := 337) hx hb dX9_expression_121 (by decide) ?_
      exact hJ337 _ _ _ _ ls hf hG (lv_sub hl [0, 1] rfl)
    have hJ83 : ∀ (t0 : Int32) (x3 : Int32) (x4 : Int32) (M : Mem) (H : Heap) (locs : List Loc) (ls : Array Slot), j_X9_expression_83 n  t0 x3 x4 M = some rr39 → GI w layM 24 s.heap M H locs → lv_has ls 5 [(0, .ref (w.2.2.1 0)), (3, .int x3), (4, .int x4)] → W p l e (Rm 5) s m args below meth c H locs 0 0 (MQ below (GQv w layM 24 res s.heap.size) args s 0 0 (gA w.2.2.1 24 s.heap.size)) (F0 m 83 ls [.int t0, .ref (w.2.2.1 0)]) := by
      intro t0 x3 x4 M H locs ls hf hG hl
      unfold j_X9_expression_83 at hf
      replace hf := bd_some hf
      obtain ⟨q11, eq11, hf⟩ := hf
      refine gx_callv hG (gx_runV hXk F hX hG (c_X9_drops l w hXk n  t0 _ _ eq11) cv_X9_214 ⟨Nat.le_of_ble_eq_true rfl, Nat.le_of_ble_eq_true rfl⟩ (g_recv F hG mo_0 (by decide) rfl) rfl hl.1 rfl (Nat.le_of_ble_eq_true rfl) dX9_expression_83 ⟨Nat.le_refl _, Nat.le_refl _⟩) (fun H locs hG => ?_)
      refine lv_aload_n hx hb dX9_expression_86 rfl (lv_at hl 0 rfl) ?_
      refine lv_iload hx hb dX9_expression_87 (lv_at hl 2 rfl) ?_
      refine lv_bipush (v := 18) hx hb dX9_expression_89 (by decide) ?_
      refine lv_icmp_ne (tgt := 98) hx hb dX9_expression_91 (by decide) (fun c12 => ?_) (fun c12 => ?_)
      · replace hf := if_f c12 hf
        refine lv_iconst (v := 5) hx hb dX9_expression_98 (by decide) ?_
        exact hJ99 _ _ _ _ _ ls hf hG (lv_sub hl [0, 1] rfl)
      · replace hf := if_t c12 hf
        refine lv_iconst (v := 4) hx hb dX9_expression_94 (by decide) ?_
        refine lv_goto (tgt := 99) hx hb dX9_expression_95 (by decide) ?_
        exact hJ99 _ _ _ _ _ ls hf hG (lv_sub hl [0, 1] rfl)
    have hJ70 : ∀ (x3 : Int32) (x4 : Int32) (M : Mem) (H : Heap) (locs : List Loc) (ls : Array Slot), j_X9_expression_70 n  x3 x4 M = some rr39 → GI w layM 24 s.heap M H locs → lv_has ls 5 [(0, .ref (w.2.2.1 0)), (3, .int x3), (4, .int x4)] → W p l e (Rm 5) s m args below meth c H locs 0 0 (MQ below (GQv w layM 24 res s.heap.size) args s 0 0 (gA w.2.2.1 24 s.heap.size)) (F0 m 70 ls []) := by
      intro x3 x4 M H locs ls hf hG hl
      unfold j_X9_expression_70 at hf
      refine lv_aload_n hx hb dX9_expression_70 rfl (lv_at hl 0 rfl) ?_
      refine lv_iload hx hb dX9_expression_71 (lv_at hl 2 rfl) ?_
      refine lv_bipush (v := 18) hx hb dX9_expression_73 (by decide) ?_
      refine lv_icmp_ne (tgt := 82) hx hb dX9_expression_75 (by decide) (fun c13 => ?_) (fun c13 => ?_)
      · replace hf := if_f c13 hf
        refine lv_iconst (v := 1) hx hb dX9_expression_82 (by decide) ?_
        exact hJ83 _ _ _ _ _ _ ls hf hG (lv_sub hl [0, 1, 2] rfl)
      · replace hf := if_t c13 hf
        refine lv_iconst (v := 2) hx hb dX9_expression_78 (by decide) ?_
        refine lv_goto (tgt := 83) hx hb dX9_expression_79 (by decide) ?_
        exact hJ83 _ _ _ _ _ _ ls hf hG (lv_sub hl [0, 1, 2] rfl)
    have hJ176 : ∀ (t0 : Int32) (x3 : Int32) (M : Mem) (H : Heap) (locs : List Loc) (ls : Array Slot), j_X9_expression_176 n  t0 x3 M = some rr39 → GI w layM 24 s.heap M H locs → lv_has ls 5 [(0, .ref (w.2.2.1 0)), (3, .int x3)] → W p l e (Rm 5) s m args below meth c H locs 0 0 (MQ below (GQv w layM 24 res s.heap.size) args s 0 0 (gA w.2.2.1 24 s.heap.size)) (F0 m 176 ls [.int t0, .ref (w.2.2.1 0)]) := by
      intro t0 x3 M H locs ls hf hG hl
      unfold j_X9_expression_176 at hf
      replace hf := bd_some hf
      obtain ⟨q14, eq14, hf⟩ := hf
      refine gx_callv hG (gx_runV hXk F hX hG (c_X9_waitsFor l w hXk n  t0 _ _ eq14) cv_X9_205 ⟨Nat.le_of_ble_eq_true rfl, Nat.le_of_ble_eq_true rfl⟩ (g_recv F hG mo_0 (by decide) rfl) rfl hl.1 rfl (Nat.le_of_ble_eq_true rfl) dX9_expression_176 ⟨Nat.le_refl _, Nat.le_refl _⟩) (fun H locs hG => ?_)
      refine lv_aload_n hx hb dX9_expression_179 rfl (lv_at hl 0 rfl) ?_
      refine g_getR F hG 11 mo_0 (by decide) (by decide) lk_X9_59 rfl dX9_expression_180 ?_
      refine lv_aload_n hx hb dX9_expression_183 rfl (lv_at hl 0 rfl) ?_
      refine g_getI F hG mo_0 (by decide) (by decide) lk_X9_199 rfl dX9_expression_184 ?_
      refine lv_iconst (v := 1) hx hb dX9_expression_187 (by decide) ?_
      replace hf := ck_some hf
      obtain ⟨k15, hf⟩ := hf
      refine g_zast F hG oM_11 k15 rfl dX9_expression_188 (fun H locs hG => ?_)
      refine lv_aload_n hx hb dX9_expression_189 rfl (lv_at hl 0 rfl) ?_
      replace hf := bd_some hf
      obtain ⟨q16, eq16, hf⟩ := hf
      refine gx_callv hG (gx_runV hXk F hX hG (c_X9_goes l w hXk n   _ _ eq16) cv_X9_165 ⟨Nat.le_of_ble_eq_true rfl, Nat.le_of_ble_eq_true rfl⟩ (g_recv F hG mo_0 (by decide) rfl) rfl hl.1 rfl (Nat.le_of_ble_eq_true rfl) dX9_expression_190 ⟨Nat.le_refl _, Nat.le_refl _⟩) (fun H locs hG => ?_)
      refine lv_aload_n hx hb dX9_expression_193 rfl (lv_at hl 0 rfl) ?_
      refine lv_iconst (v := 0) hx hb dX9_expression_194 (by decide) ?_
      replace hf := bd_some hf
      obtain ⟨q17, eq17, hf⟩ := hf
      refine gx_callv hG (gx_runV hXk F hX hG (c_X9_operand l w hXk n  (0 : Int32) _ _ eq17) cv_X9_217 ⟨Nat.le_of_ble_eq_true rfl, Nat.le_of_ble_eq_true rfl⟩ (g_recv F hG mo_0 (by decide) rfl) rfl hl.1 rfl (Nat.le_of_ble_eq_true rfl) dX9_expression_195 ⟨Nat.le_refl _, Nat.le_refl _⟩) (fun H locs hG => ?_)
      refine lv_goto (tgt := 337) hx hb dX9_expression_198 (by decide) ?_
      exact hJ337 _ _ _ _ ls hf hG (lv_sub hl [0, 1] rfl)
    have hJ241 : ∀ (t0 : Int32) (x3 : Int32) (M : Mem) (H : Heap) (locs : List Loc) (ls : Array Slot), j_X9_expression_241 n  t0 x3 M = some rr39 → GI w layM 24 s.heap M H locs → lv_has ls 5 [(0, .ref (w.2.2.1 0)), (3, .int x3)] → W p l e (Rm 5) s m args below meth c H locs 0 0 (MQ below (GQv w layM 24 res s.heap.size) args s 0 0 (gA w.2.2.1 24 s.heap.size)) (F0 m 241 ls [.int t0, .ref (w.2.2.1 0)]) := by
      intro t0 x3 M H locs ls hf hG hl
      unfold j_X9_expression_241 at hf
      replace hf := bd_some hf
      obtain ⟨q18, eq18, hf⟩ := hf
      refine gx_callv hG (gx_runV hXk F hX hG (c_X9_waitsFor l w hXk n  t0 _ _ eq18) cv_X9_205 ⟨Nat.le_of_ble_eq_true rfl, Nat.le_of_ble_eq_true rfl⟩ (g_recv F hG mo_0 (by decide) rfl) rfl hl.1 rfl (Nat.le_of_ble_eq_true rfl) dX9_expression_241 ⟨Nat.le_refl _, Nat.le_refl _⟩) (fun H locs hG => ?_)
      refine lv_aload_n hx hb dX9_expression_244 rfl (lv_at hl 0 rfl) ?_
      replace hf := bd_some hf
      obtain ⟨q19, eq19, hf⟩ := hf
      refine gx_callv hG (gx_runV hXk F hX hG (c_X9_goes l w hXk n   _ _ eq19) cv_X9_165 ⟨Nat.le_of_ble_eq_true rfl, Nat.le_of_ble_eq_true rfl⟩ (g_recv F hG mo_0 (by decide) rfl) rfl hl.1 rfl (Nat.le_of_ble_eq_true rfl) dX9_expression_245 ⟨Nat.le_refl _, Nat.le_refl _⟩) (fun H locs hG => ?_)
      refine lv_aload_n hx hb dX9_expression_248 rfl (lv_at hl 0 rfl) ?_
      refine lv_iconst (v := 0) hx hb dX9_expression_249 (by decide) ?_
      replace hf := bd_some hf
      obtain ⟨q20, eq20, hf⟩ := hf
      refine gx_callv hG (gx_runV hXk F hX hG (c_X9_operand l w hXk n  (0 : Int32) _ _ eq20) cv_X9_217 ⟨Nat.le_of_ble_eq_true rfl, Nat.le_of_ble_eq_true rfl⟩ (g_recv F hG mo_0 (by decide) rfl) rfl hl.1 rfl (Nat.le_of_ble_eq_true rfl) dX9_expression_250 ⟨Nat.le_refl _, Nat.le_refl _⟩) (fun H locs hG => ?_)
      refine lv_goto (tgt := 337) hx hb dX9_expression_253 (by decide) ?_
      exact hJ337 _ _ _ _ ls hf hG (lv_sub hl [0, 1] rfl)
    have hJ219 : ∀ (x3 : Int32) (M : Mem) (H : Heap) (locs : List Loc) (ls : Array Slot), j_X9_expression_219 n  x3 M = some rr39 → GI w layM 24 s.heap M H locs → lv_has ls 5 [(0, .ref (w.2.2.1 0)), (3, .int x3)] → W p l e (Rm 5) s m args below meth c H locs 0 0 (MQ below (GQv w layM 24 res s.heap.size) args s 0 0 (gA w.2.2.1 24 s.heap.size)) (F0 m 219 ls []) := by
      intro x3 M H locs ls hf hG hl
      unfold j_X9_expression_219 at hf
      refine lv_aload_n hx hb dX9_expression_219 rfl (lv_at hl 0 rfl) ?_
      refine lv_iconst (v := 5) hx hb dX9_expression_220 (by decide) ?_
      replace hf := bd_some hf
      obtain ⟨q21, eq21, hf⟩ := hf
      refine gx_callv hG (gx_runV hXk F hX hG (c_X9_drops l w hXk n  (5 : Int32) _ _ eq21) cv_X9_214 ⟨Nat.le_of_ble_eq_true rfl, Nat.le_of_ble_eq_true rfl⟩ (g_recv F hG mo_0 (by decide) rfl) rfl hl.1 rfl (Nat.le_of_ble_eq_true rfl) dX9_expression_221 ⟨Nat.le_refl _, Nat.le_refl _⟩) (fun H locs hG => ?_)
      refine lv_aload_n hx hb dX9_expression_224 rfl (lv_at hl 0 rfl) ?_
      refine lv_aload_n hx hb dX9_expression_225 rfl (lv_at hl 0 rfl) ?_
      refine lv_bipush (v := 43) hx hb dX9_expression_226 (by decide) ?_
      replace hf := bd_some hf
      obtain ⟨q22, eq22, hf⟩ := hf
      refine gx_calli hG (gx_runV hXk F hX hG (c_X9_isSign l w hXk n  (43 : Int32) _ _ eq22) cv_X9_202 ⟨Nat.le_of_ble_eq_true rfl, Nat.le_of_ble_eq_true rfl⟩ (g_recv F hG mo_0 (by decide) rfl) rfl hl.1 rfl (Nat.le_of_ble_eq_true rfl) dX9_expression_228 ⟨Nat.le_refl _, Nat.le_refl _⟩) (fun H locs hG => ?_)
      refine lv_if_eq (tgt := 239) hx hb dX9_expression_231 (by decide) (fun c23 => ?_) (fun c23 => ?_)
      · replace hf := if_t c23 hf
        refine lv_bipush (v := 9) hx hb dX9_expression_239 (by decide) ?_
        exact hJ241 _ _ _ _ _ ls hf hG (lv_sub hl [0, 1] rfl)
      · replace hf := if_f c23 hf
        refine lv_bipush (v := 8) hx hb dX9_expression_234 (by decide) ?_
        refine lv_goto (tgt := 241) hx hb dX9_expression_236 (by decide) ?_
        exact hJ241 _ _ _ _ _ ls hf hG (lv_sub hl [0, 1] rfl)
    have hJ297 : ∀ (t0 : Int32) (x3 : Int32) (M : Mem) (H : Heap) (locs : List Loc) (ls : Array Slot), j_X9_expression_297 n  t0 x3 M = some rr39 → GI w layM 24 s.heap M H locs → lv_has ls 5 [(0, .ref (w.2.2.1 0)), (3, .int x3)] → W p l e (Rm 5) s m args below meth c H locs 0 0 (MQ below (GQv w layM 24 res s.heap.size) args s 0 0 (gA w.2.2.1 24 s.heap.size)) (F0 m 297 ls [.int t0, .ref (w.2.2.1 0)]) := by
      intro t0 x3 M H locs ls hf hG hl
      unfold j_X9_expression_297 at hf
      replace hf := bd_some hf
      obtain ⟨q24, eq24, hf⟩ := hf
      refine gx_callv hG (gx_runV hXk F hX hG (c_X9_waitsFor l w hXk n  t0 _ _ eq24) cv_X9_205 ⟨Nat.le_of_ble_eq_true rfl, Nat.le_of_ble_eq_true rfl⟩ (g_recv F hG mo_0 (by decide) rfl) rfl hl.1 rfl (Nat.le_of_ble_eq_true rfl) dX9_expression_297 ⟨Nat.le_refl _, Nat.le_refl _⟩) (fun H locs hG => ?_)
      refine lv_aload_n hx hb dX9_expression_300 rfl (lv_at hl 0 rfl) ?_
      replace hf := bd_some hf
      obtain ⟨q25, eq25, hf⟩ := hf
      refine gx_callv hG (gx_runV hXk F hX hG (c_X9_goes l w hXk n   _ _ eq25) cv_X9_165 ⟨Nat.le_of_ble_eq_true rfl, Nat.le_of_ble_eq_true rfl⟩ (g_recv F hG mo_0 (by decide) rfl) rfl hl.1 rfl (Nat.le_of_ble_eq_true rfl) dX9_expression_301 ⟨Nat.le_refl _, Nat.le_refl _⟩) (fun H locs hG => ?_)
      refine lv_aload_n hx hb dX9_expression_304 rfl (lv_at hl 0 rfl) ?_
      refine lv_iconst (v := 0) hx hb dX9_expression_305 (by decide) ?_
      replace hf := bd_some hf
      obtain ⟨q26, eq26, hf⟩ := hf
      refine gx_callv hG (gx_runV hXk F hX hG (c_X9_operand l w hXk n  (0 : Int32) _ _ eq26) cv_X9_217 ⟨Nat.le_of_ble_eq_true rfl, Nat.le_of_ble_eq_true rfl⟩ (g_recv F hG mo_0 (by decide) rfl) rfl hl.1 rfl (Nat.le_of_ble_eq_true rfl) dX9_expression_306 ⟨Nat.le_refl _, Nat.le_refl _⟩) (fun H locs hG => ?_)
      refine lv_goto (tgt := 337) hx hb dX9_expression_309 (by decide) ?_
      exact hJ337 _ _ _ _ ls hf hG (lv_sub hl [0, 1] rfl)
    have hJ274 : ∀ (x3 : Int32) (M : Mem) (H : Heap) (locs : List Loc) (ls : Array Slot), j_X9_expression_274 n  x3 M = some rr39 → GI w layM 24 s.heap M H locs → lv_has ls 5 [(0, .ref (w.2.2.1 0)), (3, .int x3)] → W p l e (Rm 5) s m args below meth c H locs 0 0 (MQ below (GQv w layM 24 res s.heap.size) args s 0 0 (gA w.2.2.1 24 s.heap.size)) (F0 m 274 ls []) := by
      intro x3 M H locs ls hf hG hl
      unfold j_X9_expression_274 at hf
      refine lv_aload_n hx hb dX9_expression_274 rfl (lv_at hl 0 rfl) ?_
      refine lv_bipush (v := 6) hx hb dX9_expression_275 (by decide) ?_
      replace hf := bd_some hf
      obtain ⟨q27, eq27, hf⟩ := hf
      refine gx_callv hG (gx_runV hXk F hX hG (c_X9_drops l w hXk n  (6 : Int32) _ _ eq27) cv_X9_214 ⟨Nat.le_of_ble_eq_true rfl, Nat.le_of_ble_eq_true rfl⟩ (g_recv F hG mo_0 (by decide) rfl) rfl hl.1 rfl (Nat.le_of_ble_eq_true rfl) dX9_expression_277 ⟨Nat.le_refl _, Nat.le_refl _⟩) (fun H locs hG => ?_)
      refine lv_aload_n hx hb dX9_expression_280 rfl (lv_at hl 0 rfl) ?_
      refine lv_aload_n hx hb dX9_expression_281 rfl (lv_at hl 0 rfl) ?_
      refine lv_bipush (v := 42) hx hb dX9_expression_282 (by decide) ?_
      replace hf := bd_some hf
      obtain ⟨q28, eq28, hf⟩ := hf
      refine gx_calli hG (gx_runV hXk F hX hG (c_X9_isSign l w hXk n  (42 : Int32) _ _ eq28) cv_X9_202 ⟨Nat.le_of_ble_eq_true rfl, Nat.le_of_ble_eq_true rfl⟩ (g_recv F hG mo_0 (by decide) rfl) rfl hl.1 rfl (Nat.le_of_ble_eq_true rfl) dX9_expression_284 ⟨Nat.le_refl _, Nat.le_refl _⟩) (fun H locs hG => ?_)
      refine lv_if_eq (tgt := 295) hx hb dX9_expression_287 (by decide) (fun c29 => ?_) (fun c29 => ?_)
      · replace hf := if_t c29 hf
        refine lv_bipush (v := 11) hx hb dX9_expression_295 (by decide) ?_
        exact hJ297 _ _ _ _ _ ls hf hG (lv_sub hl [0, 1] rfl)
      · replace hf := if_f c29 hf
        refine lv_bipush (v := 10) hx hb dX9_expression_290 (by decide) ?_
        refine lv_goto (tgt := 297) hx hb dX9_expression_292 (by decide) ?_
        exact hJ297 _ _ _ _ _ ls hf hG (lv_sub hl [0, 1] rfl)
    have hJ335 : ∀ (M : Mem) (H : Heap) (locs : List Loc) (ls : Array Slot), j_X9_expression_335 n   M = some rr39 → GI w layM 24 s.heap M H locs → lv_has ls 5 [(0, .ref (w.2.2.1 0))] → W p l e (Rm 5) s m args below meth c H locs 0 0 (MQ below (GQv w layM 24 res s.heap.size) args s 0 0 (gA w.2.2.1 24 s.heap.size)) (F0 m 335 ls []) := by
      intro  M H locs ls hf hG hl
      unfold j_X9_expression_335 at hf
      refine lv_iconst (v := 0) hx hb dX9_expression_335 (by decide) ?_
      refine lv_istore_n (lv' := [(3, .int (0 : Int32)), (0, .ref (w.2.2.1 0))]) hx hb dX9_expression_336 rfl hl (by decide) rfl (fun ls hl => ?_)
      exact hJ337 _ _ _ _ ls hf hG (lv_sub hl [1, 0] rfl)
    have hJ201 : ∀ (x3 : Int32) (M : Mem) (H : Heap) (locs : List Loc) (ls : Array Slot), j_X9_expression_201 n  x3 M = some rr39 → GI w layM 24 s.heap M H locs → lv_has ls 5 [(0, .ref (w.2.2.1 0)), (3, .int x3)] → W p l e (Rm 5) s m args below meth c H locs 0 0 (MQ below (GQv w layM 24 res s.heap.size) args s 0 0 (gA w.2.2.1 24 s.heap.size)) (F0 m 201 ls []) := by
      intro x3 M H locs ls hf hG hl
      unfold j_X9_expression_201 at hf
      refine lv_aload_n hx hb dX9_expression_201 rfl (lv_at hl 0 rfl) ?_
      refine lv_bipush (v := 43) hx hb dX9_expression_202 (by decide) ?_
      replace hf := bd_some hf
      obtain ⟨q30, eq30, hf⟩ := hf
      refine gx_calli hG (gx_runV hXk F hX hG (c_X9_isSign l w hXk n  (43 : Int32) _ _ eq30) cv_X9_202 ⟨Nat.le_of_ble_eq_true rfl, Nat.le_of_ble_eq_true rfl⟩ (g_recv F hG mo_0 (by decide) rfl) rfl hl.1 rfl (Nat.le_of_ble_eq_true rfl) dX9_expression_204 ⟨Nat.le_refl _, Nat.le_refl _⟩) (fun H locs hG => ?_)
      refine lv_if_ne (tgt := 219) hx hb dX9_expression_207 (by decide) (fun c31 => ?_) (fun c31 => ?_)
      · replace hf := if_f c31 hf
        exact hJ219 _ _ _ _ ls hf hG (lv_sub hl [0, 1] rfl)
      · replace hf := if_t c31 hf
        refine lv_aload_n hx hb dX9_expression_210 rfl (lv_at hl 0 rfl) ?_
        refine lv_bipush (v := 45) hx hb dX9_expression_211 (by decide) ?_
        replace hf := bd_some hf
        obtain ⟨q32, eq32, hf⟩ := hf
        refine gx_calli hG (gx_runV hXk F hX hG (c_X9_isSign l w hXk n  (45 : Int32) _ _ eq32) cv_X9_202 ⟨Nat.le_of_ble_eq_true rfl, Nat.le_of_ble_eq_true rfl⟩ (g_recv F hG mo_0 (by decide) rfl) rfl hl.1 rfl (Nat.le_of_ble_eq_true rfl) dX9_expression_213 ⟨Nat.le_refl _, Nat.le_refl _⟩) (fun H locs hG => ?_)
        refine lv_if_eq (tgt := 256) hx hb dX9_expression_216 (by decide) (fun c33 => ?_) (fun c33 => ?_)
        · replace hf := if_t c33 hf
          refine lv_aload_n hx hb dX9_expression_256 rfl (lv_at hl 0 rfl) ?_
          refine lv_bipush (v := 42) hx hb dX9_expression_257 (by decide) ?_
          replace hf := bd_some hf
          obtain ⟨q34, eq34, hf⟩ := hf
          refine gx_calli hG (gx_runV hXk F hX hG (c_X9_isSign l w hXk n  (42 : Int32) _ _ eq34) cv_X9_202 ⟨Nat.le_of_ble_eq_true rfl, Nat.le_of_ble_eq_true rfl⟩ (g_recv F hG mo_0 (by decide) rfl) rfl hl.1 rfl (Nat.le_of_ble_eq_true rfl) dX9_expression_259 ⟨Nat.le_refl _, Nat.le_refl _⟩) (fun H locs hG => ?_)
          refine lv_if_ne (tgt := 274) hx hb dX9_expression_262 (by decide) (fun c35 => ?_) (fun c35 => ?_)
          · replace hf := if_f c35 hf
            exact hJ274 _ _ _ _ ls hf hG (lv_sub hl [0, 1] rfl)
          · replace hf := if_t c35 hf
            refine lv_aload_n hx hb dX9_expression_265 rfl (lv_at hl 0 rfl) ?_
            refine lv_bipush (v := 47) hx hb dX9_expression_266 (by decide) ?_
            replace hf := bd_some hf
            obtain ⟨q36, eq36, hf⟩ := hf
            refine gx_calli hG (gx_runV hXk F hX hG (c_X9_isSign l w hXk n  (47 : Int32) _ _ eq36) cv_X9_202 ⟨Nat.le_of_ble_eq_true rfl, Nat.le_of_ble_eq_true rfl⟩ (g_recv F hG mo_0 (by decide) rfl) rfl hl.1 rfl (Nat.le_of_ble_eq_true rfl) dX9_expression_268 ⟨Nat.le_refl _, Nat.le_refl _⟩) (fun H locs hG => ?_)
            refine lv_if_eq (tgt := 312) hx hb dX9_expression_271 (by decide) (fun c37 => ?_) (fun c37 => ?_)
            · replace hf := if_t c37 hf
              refine lv_aload_n hx hb dX9_expression_312 rfl (lv_at hl 0 rfl) ?_
              refine lv_bipush (v := 41) hx hb dX9_expression_313 (by decide) ?_
              replace hf := bd_some hf
              obtain ⟨q38, eq38, hf⟩ := hf
              refine gx_calli hG (gx_runV hXk F hX hG (c_X9_isSign l w hXk n  (41 : Int32) _ _ eq38) cv_X9_202 ⟨Nat.le_of_ble_eq_true rfl, Nat.le_of_ble_eq_true rfl⟩ (g_recv F hG mo_0 (by decide) rfl) rfl hl.1 rfl (Nat.le_of_ble_eq_true rfl) dX9_expression_315 ⟨Nat.le_refl _, Nat.le_refl _⟩) (fun H locs hG => ?_)
              refine lv_if_eq (tgt := 335) hx hb dX9_expression_318 (by decide) (fun c39 => ?_) (fun c39 => ?_)
              · replace hf := if_t c39 hf
                exact hJ335  _ _ _ ls hf hG (lv_sub hl [0] rfl)
              · replace hf := if_f c39 hf
                refine lv_aload_n hx hb dX9_expression_321 rfl (lv_at hl 0 rfl) ?_
                replace hf := bd_some hf
                obtain ⟨q40, eq40, hf⟩ := hf
                refine gx_calli hG (gx_runV hXk F hX hG (c_X9_isOpened l w hXk n   _ _ eq40) cv_X9_221 ⟨Nat.le_of_ble_eq_true rfl, Nat.le_of_ble_eq_true rfl⟩ (g_recv F hG mo_0 (by decide) rfl) rfl hl.1 rfl (Nat.le_of_ble_eq_true rfl) dX9_expression_322 ⟨Nat.le_refl _, Nat.le_refl _⟩) (fun H locs hG => ?_)
                refine lv_if_eq (tgt := 335) hx hb dX9_expression_325 (by decide) (fun c41 => ?_) (fun c41 => ?_)
                · replace hf := if_t c41 hf
                  exact hJ335  _ _ _ ls hf hG (lv_sub hl [0] rfl)
                · replace hf := if_f c41 hf
                  refine lv_aload_n hx hb dX9_expression_328 rfl (lv_at hl 0 rfl) ?_
                  replace hf := bd_some hf
                  obtain ⟨q42, eq42, hf⟩ := hf
                  refine gx_callv hG (gx_runV hXk F hX hG (c_X9_closes l w hXk n   _ _ eq42) cv_X9_224 ⟨Nat.le_of_ble_eq_true rfl, Nat.le_of_ble_eq_true rfl⟩ (g_recv F hG mo_0 (by decide) rfl) rfl hl.1 rfl (Nat.le_of_ble_eq_true rfl) dX9_expression_329 ⟨Nat.le_refl _, Nat.le_refl _⟩) (fun H locs hG => ?_)
                  refine lv_goto (tgt := 337) hx hb dX9_expression_332 (by decide) ?_
                  exact hJ337 _ _ _ _ ls hf hG (lv_sub hl [0, 1] rfl)
            · replace hf := if_f c37 hf
              exact hJ274 _ _ _ _ ls hf hG (lv_sub hl [0, 1] rfl)
        · replace hf := if_f c33 hf
          exact hJ219 _ _ _ _ ls hf hG (lv_sub hl [0, 1] rfl)
    have hJ142 : ∀ (x3 : Int32) (M : Mem) (H : Heap) (locs : List Loc) (ls : Array Slot), j_X9_expression_142 n  x3 M = some rr39 → GI w layM 24 s.heap M H locs → lv_has ls 5 [(0, .ref (w.2.2.1 0)), (3, .int x3)] → W p l e (Rm 5) s m args below meth c H locs 0 0 (MQ below (GQv w layM 24 res s.heap.size) args s 0 0 (gA w.2.2.1 24 s.heap.size)) (F0 m 142 ls []) := by
      intro x3 M H locs ls hf hG hl
      unfold j_X9_expression_142 at hf
      refine lv_aload_n hx hb dX9_expression_142 rfl (lv_at hl 0 rfl) ?_
      refine g_getR F hG 11 mo_0 (by decide) (by decide) lk_X9_59 rfl dX9_expression_143 ?_
      refine lv_aload_n hx hb dX9_expression_146 rfl (lv_at hl 0 rfl) ?_
      refine g_getI F hG mo_0 (by decide) (by decide) lk_X9_199 rfl dX9_expression_147 ?_
      replace hf := ck_some hf
      obtain ⟨k43, hf⟩ := hf
      refine g_zald F hG oM_11 k43 dX9_expression_150 ?_
      refine lv_if_ne (tgt := 201) hx hb dX9_expression_151 (by decide) (fun c44 => ?_) (fun c44 => ?_)
      · replace hf := if_f c44 hf
        exact hJ201 _ _ _ _ ls hf hG (lv_sub hl [0, 1] rfl)
      · replace hf := if_t c44 hf
        refine lv_aload_n hx hb dX9_expression_154 rfl (lv_at hl 0 rfl) ?_
        refine lv_iconst (v := 4) hx hb dX9_expression_155 (by decide) ?_
        replace hf := bd_some hf
        obtain ⟨q45, eq45, hf⟩ := hf
        refine gx_callv hG (gx_runV hXk F hX hG (c_X9_drops l w hXk n  (4 : Int32) _ _ eq45) cv_X9_214 ⟨Nat.le_of_ble_eq_true rfl, Nat.le_of_ble_eq_true rfl⟩ (g_recv F hG mo_0 (by decide) rfl) rfl hl.1 rfl (Nat.le_of_ble_eq_true rfl) dX9_expression_156 ⟨Nat.le_refl _, Nat.le_refl _⟩) (fun H locs hG => ?_)
        refine lv_aload_n hx hb dX9_expression_159 rfl (lv_at hl 0 rfl) ?_
        refine lv_aload_n hx hb dX9_expression_160 rfl (lv_at hl 0 rfl) ?_
        refine lv_bipush (v := 60) hx hb dX9_expression_161 (by decide) ?_
        replace hf := bd_some hf
        obtain ⟨q46, eq46, hf⟩ := hf
        refine gx_calli hG (gx_runV hXk F hX hG (c_X9_isSign l w hXk n  (60 : Int32) _ _ eq46) cv_X9_202 ⟨Nat.le_of_ble_eq_true rfl, Nat.le_of_ble_eq_true rfl⟩ (g_recv F hG mo_0 (by decide) rfl) rfl hl.1 rfl (Nat.le_of_ble_eq_true rfl) dX9_expression_163 ⟨Nat.le_refl _, Nat.le_refl _⟩) (fun H locs hG => ?_)
        refine lv_if_eq (tgt := 174) hx hb dX9_expression_166 (by decide) (fun c47 => ?_) (fun c47 => ?_)
        · replace hf := if_t c47 hf
          refine lv_bipush (v := 7) hx hb dX9_expression_174 (by decide) ?_
          exact hJ176 _ _ _ _ _ ls hf hG (lv_sub hl [0, 1] rfl)
        · replace hf := if_f c47 hf
          refine lv_bipush (v := 6) hx hb dX9_expression_169 (by decide) ?_
          refine lv_goto (tgt := 176) hx hb dX9_expression_171 (by decide) ?_
          exact hJ176 _ _ _ _ _ ls hf hG (lv_sub hl [0, 1] rfl)
    dsimp only [b_X9_expression_39] at hf
    refine lv_iload_n hx hb dX9_expression_39 rfl (lv_at hl 1 rfl) ?_
    refine lv_if_eq (tgt := 340) hx hb dX9_expression_40 (by decide) (fun c48 => ?_) (fun c48 => ?_)
    · replace hf := if_t c48 hf
      replace hf := mr_some hf
      obtain ⟨z39, hf, hz⟩ := hf
      rw [hE39 _ hz] at hf
      exact hJ340  _ _ _ ls hf hG (lv_sub hl [0] rfl)
    · replace hf := if_f c48 hf
      refine lv_aload_n hx hb dX9_expression_43 rfl (lv_at hl 0 rfl) ?_
      replace hf := bd_some hf
      obtain ⟨q49, eq49, hf⟩ := hf
      refine gx_calli hG (gx_runV hXk F hX hG (c_X9_isGood l w hXk n   _ _ eq49) cv_X9_161 ⟨Nat.le_of_ble_eq_true rfl, Nat.le_of_ble_eq_true rfl⟩ (g_recv F hG mo_0 (by decide) rfl) rfl hl.1 rfl (Nat.le_of_ble_eq_true rfl) dX9_expression_44 ⟨Nat.le_refl _, Nat.le_refl _⟩) (fun H locs hG => ?_)
      refine lv_if_eq (tgt := 340) hx hb dX9_expression_47 (by decide) (fun c50 => ?_) (fun c50 => ?_)
      · replace hf := if_t c50 hf
        replace hf := mr_some hf
        obtain ⟨z39, hf, hz⟩ := hf
        rw [hE39 _ hz] at hf
        exact hJ340  _ _ _ ls hf hG (lv_sub hl [0] rfl)
      · replace hf := if_f c50 hf
        refine lv_aload_n hx hb dX9_expression_50 rfl (lv_at hl 0 rfl) ?_
        replace hf := bd_some hf
        obtain ⟨q51, eq51, hf⟩ := hf
        refine gx_calli hG (gx_runV hXk F hX hG (c_X9_knownWord l w hXk n   _ _ eq51) cv_X9_189 ⟨Nat.le_of_ble_eq_true rfl, Nat.le_of_ble_eq_true rfl⟩ (g_recv F hG mo_0 (by decide) rfl) rfl hl.1 rfl (Nat.le_of_ble_eq_true rfl) dX9_expression_51 ⟨Nat.le_refl _, Nat.le_refl _⟩) (fun H locs hG => ?_)
        refine lv_istore (lv' := [(4, .int q51.1), (0, .ref (w.2.2.1 0)), (3, .int x3)]) hx hb dX9_expression_54 hl (by decide) rfl (fun ls hl => ?_)
        refine lv_iload hx hb dX9_expression_56 (lv_at hl 0 rfl) ?_
        refine lv_bipush (v := 18) hx hb dX9_expression_58 (by decide) ?_
        refine lv_icmp_eq (tgt := 70) hx hb dX9_expression_60 (by decide) (fun c52 => ?_) (fun c52 => ?_)
        · replace hf := if_t c52 hf
          exact hJ70 _ _ _ _ _ ls hf hG (lv_sub hl [1, 2, 0] rfl)
        · replace hf := if_f c52 hf
          refine lv_iload hx hb dX9_expression_63 (lv_at hl 0 rfl) ?_
          refine lv_bipush (v := 19) hx hb dX9_expression_65 (by decide) ?_
          refine lv_icmp_ne (tgt := 124) hx hb dX9_expression_67 (by decide) (fun c53 => ?_) (fun c53 => ?_)
          · replace hf := if_f c53 hf
            refine lv_aload_n hx hb dX9_expression_124 rfl (lv_at hl 1 rfl) ?_
            refine lv_bipush (v := 60) hx hb dX9_expression_125 (by decide) ?_
            replace hf := bd_some hf
            obtain ⟨q54, eq54, hf⟩ := hf
            refine gx_calli hG (gx_runV hXk F hX hG (c_X9_isSign l w hXk n  (60 : Int32) _ _ eq54) cv_X9_202 ⟨Nat.le_of_ble_eq_true rfl, Nat.le_of_ble_eq_true rfl⟩ (g_recv F hG mo_0 (by decide) rfl) rfl hl.1 rfl (Nat.le_of_ble_eq_true rfl) dX9_expression_127 ⟨Nat.le_refl _, Nat.le_refl _⟩) (fun H locs hG => ?_)
            refine lv_if_ne (tgt := 142) hx hb dX9_expression_130 (by decide) (fun c55 => ?_) (fun c55 => ?_)
            · replace hf := if_f c55 hf
              exact hJ142 _ _ _ _ ls hf hG (lv_sub hl [1, 2] rfl)
            · replace hf := if_t c55 hf
              refine lv_aload_n hx hb dX9_expression_133 rfl (lv_at hl 1 rfl) ?_
              refine lv_bipush (v := 61) hx hb dX9_expression_134 (by decide) ?_
              replace hf := bd_some hf
              obtain ⟨q56, eq56, hf⟩ := hf
              refine gx_calli hG (gx_runV hXk F hX hG (c_X9_isSign l w hXk n  (61 : Int32) _ _ eq56) cv_X9_202 ⟨Nat.le_of_ble_eq_true rfl, Nat.le_of_ble_eq_true rfl⟩ (g_recv F hG mo_0 (by decide) rfl) rfl hl.1 rfl (Nat.le_of_ble_eq_true rfl) dX9_expression_136 ⟨Nat.le_refl _, Nat.le_refl _⟩) (fun H locs hG => ?_)
              refine lv_if_eq (tgt := 201) hx hb dX9_expression_139 (by decide) (fun c57 => ?_) (fun c57 => ?_)
              · replace hf := if_t c57 hf
                exact hJ201 _ _ _ _ ls hf hG (lv_sub hl [1, 2] rfl)
              · replace hf := if_f c57 hf
                exact hJ142 _ _ _ _ ls hf hG (lv_sub hl [1, 2] rfl)
          · replace hf := if_t c53 hf
            exact hJ70 _ _ _ _ _ ls hf hG (lv_sub hl [1, 2, 0] rfl)
  unfold f_X9_expression at hf
  refine lv_aload_n hx hb dX9_expression_0 rfl (lv_at hl 0 rfl) ?_
  replace hf := bd_some hf
  obtain ⟨q58, eq58, hf⟩ := hf
  refine gx_calli hG (gx_runV hXk F hX hG (c_X9_isGood l w hXk n   _ _ eq58) cv_X9_161 ⟨Nat.le_of_ble_eq_true rfl, Nat.le_of_ble_eq_true rfl⟩ (g_recv F hG mo_0 (by decide) rfl) rfl hl.1 rfl (Nat.le_of_ble_eq_true rfl) dX9_expression_1 ⟨Nat.le_refl _, Nat.le_refl _⟩) (fun H locs hG => ?_)
  refine lv_if_ne (tgt := 8) hx hb dX9_expression_4 (by decide) (fun c59 => ?_) (fun c59 => ?_)
  · replace hf := if_f c59 hf
    refine lv_aload_n hx hb dX9_expression_8 rfl (lv_at hl 0 rfl) ?_
    refine lv_iload_n hx hb dX9_expression_9 rfl (lv_at hl 1 rfl) ?_
    refine g_putI F hG mo_0 (by decide) (by decide) lkv_X9_193 rfl rfl rfl dX9_expression_10 (fun H locs hG => ?_)
    refine lv_aload_n hx hb dX9_expression_13 rfl (lv_at hl 0 rfl) ?_
    refine lv_iload_n hx hb dX9_expression_14 rfl (lv_at hl 2 rfl) ?_
    refine g_putI F hG mo_0 (by decide) (by decide) lkv_X9_196 rfl rfl rfl dX9_expression_15 (fun H locs hG => ?_)
    refine lv_aload_n hx hb dX9_expression_18 rfl (lv_at hl 0 rfl) ?_
    refine lv_iconst (v := 0) hx hb dX9_expression_19 (by decide) ?_
    refine g_putI F hG mo_0 (by decide) (by decide) lkv_X9_177 rfl rfl rfl dX9_expression_20 (fun H locs hG => ?_)
    refine lv_aload_n hx hb dX9_expression_23 rfl (lv_at hl 0 rfl) ?_
    refine lv_iconst (v := 0) hx hb dX9_expression_24 (by decide) ?_
    refine g_putI F hG mo_0 (by decide) (by decide) lkv_X9_199 rfl rfl rfl dX9_expression_25 (fun H locs hG => ?_)
    refine lv_aload_n hx hb dX9_expression_28 rfl (lv_at hl 0 rfl) ?_
    replace hf := bd_some hf
    obtain ⟨q60, eq60, hf⟩ := hf
    refine gx_callv hG (gx_runV hXk F hX hG (c_X9_deeper l w hXk n   _ _ eq60) cv_X9_208 ⟨Nat.le_of_ble_eq_true rfl, Nat.le_of_ble_eq_true rfl⟩ (g_recv F hG mo_0 (by decide) rfl) rfl hl.1 rfl (Nat.le_of_ble_eq_true rfl) dX9_expression_29 ⟨Nat.le_refl _, Nat.le_refl _⟩) (fun H locs hG => ?_)
    refine lv_aload_n hx hb dX9_expression_32 rfl (lv_at hl 0 rfl) ?_
    refine lv_iconst (v := 1) hx hb dX9_expression_33 (by decide) ?_
    replace hf := bd_some hf
    obtain ⟨q61, eq61, hf⟩ := hf
    refine gx_callv hG (gx_runV hXk F hX hG (c_X9_operand l w hXk n  (1 : Int32) _ _ eq61) cv_X9_217 ⟨Nat.le_of_ble_eq_true rfl, Nat.le_of_ble_eq_true rfl⟩ (g_recv F hG mo_0 (by decide) rfl) rfl hl.1 rfl (Nat.le_of_ble_eq_true rfl) dX9_expression_34 ⟨Nat.le_refl _, Nat.le_refl _⟩) (fun H locs hG => ?_)
    refine lv_iconst (v := 1) hx hb dX9_expression_37 (by decide) ?_
    refine lv_istore_n (lv' := [(3, .int (1 : Int32)), (0, .ref (w.2.2.1 0)), (1, .int x1), (2, .int x2)]) hx hb dX9_expression_38 rfl hl (by decide) rfl (fun ls hl => ?_)
    exact hJ39 _ _ _ _ ls hf hG (lv_sub hl [1, 0] rfl)
  · replace hf := if_t c59 hf
    exact cg_vret F hr hlk hG hf dX9_expression_7

def j_X9_begins_18 (n : Nat) (M : Mem) : Option (Int32 × Mem) := bd (f_X9_isGood n   M) (fun q1 => if q1.1 = 0 then (some ((0 : Int32), q1.2)) else (bd (f_X9_goes n   q1.2) (fun q3 => some ((1 : Int32), q3))))
def j_X9_begins_9 (n : Nat) (x2 : Int32) (M : Mem) : Option (Int32 × Mem) := if x2 = 0 then (j_X9_begins_18 n  M) else (bd (f_X9_wrong n  (5 : Int32) M) (fun q5 => j_X9_begins_18 n  q5))
def f_X9_begins (n : Nat) (x1 : Int32) (x2 : Int32) (M : Mem) : Option (Int32 × Mem) := if x1 = 0 then (j_X9_begins_9 n  x2 M) else (bd (f_X9_wrong n  (2 : Int32) M) (fun q7 => j_X9_begins_9 n  x2 q7))
set_option maxHeartbeats 4000000 in
set_option maxRecDepth 100000 in
theorem c_X9_begins (l : Launch) (w : Wd) {X : (Nat → Prop) → State → Heap → Prop} (hXk : XOK X) (n : Nat) (x1 : Int32) (x2 : Int32) (M : Mem) (res : Int32 × Mem) (hf : f_X9_begins n  x1 x2 M = some res) : CG l w layM 24 X yX9_begins cX9_begins 3 (some .boolean) 2 [.ref (w.2.2.1 0), .int x1, .int x2] M (GQi w layM 24 res) := by
  refine cg_start (by decide +kernel) (Nat.le_of_ble_eq_true rfl) ?_
  intro p e s m args below meth c F hr hlk hX hG ls hl
  have F : FX w p m c cX9_begins 3 s args RX9 := F
  have hx := F.1.1
  have hb := F.1.2.1
  have hl : lv_has ls 3 [(0, .ref (w.2.2.1 0)), (1, .int x1), (2, .int x2)] := hl
  have hJ18 : ∀ (M : Mem) (H : Heap) (locs : List Loc) (ls : Array Slot), j_X9_begins_18 n   M = some res → GI w layM 24 s.heap M H locs → lv_has ls 3 [(0, .ref (w.2.2.1 0))] → W p l e (Rm 2) s m args below meth c H locs 0 0 (MQ below (GQi w layM 24 res s.heap.size) args s 0 0 (gA w.2.2.1 24 s.heap.size)) (F0 m 18 ls []) := by
    intro  M H locs ls hf hG hl
    unfold j_X9_begins_18 at hf
    refine lv_aload_n hx hb dX9_begins_18 rfl (lv_at hl 0 rfl) ?_
    replace hf := bd_some hf
    obtain ⟨q1, eq1, hf⟩ := hf
    refine gx_calli hG (gx_runV hXk F hX hG (c_X9_isGood l w hXk n   _ _ eq1) cv_X9_161 ⟨Nat.le_of_ble_eq_true rfl, Nat.le_of_ble_eq_true rfl⟩ (g_recv F hG mo_0 (by decide) rfl) rfl hl.1 rfl (Nat.le_of_ble_eq_true rfl) dX9_begins_19 ⟨Nat.le_refl _, Nat.le_refl _⟩) (fun H locs hG => ?_)
    refine lv_if_ne (tgt := 27) hx hb dX9_begins_22 (by decide) (fun c2 => ?_) (fun c2 => ?_)
    · replace hf := if_f c2 hf
      refine lv_aload_n hx hb dX9_begins_27 rfl (lv_at hl 0 rfl) ?_
      replace hf := bd_some hf
      obtain ⟨q3, eq3, hf⟩ := hf
      refine gx_callv hG (gx_runV hXk F hX hG (c_X9_goes l w hXk n   _ _ eq3) cv_X9_165 ⟨Nat.le_of_ble_eq_true rfl, Nat.le_of_ble_eq_true rfl⟩ (g_recv F hG mo_0 (by decide) rfl) rfl hl.1 rfl (Nat.le_of_ble_eq_true rfl) dX9_begins_28 ⟨Nat.le_refl _, Nat.le_refl _⟩) (fun H locs hG => ?_)
      refine lv_iconst (v := 1) hx hb dX9_begins_31 (by decide) ?_
      exact cg_zret F hr hlk hG hf (Or.inr rfl) dX9_begins_32
    · replace hf := if_t c2 hf
      refine lv_iconst (v := 0) hx hb dX9_begins_25 (by decide) ?_
      exact cg_zret F hr hlk hG hf (Or.inl rfl) dX9_begins_26
  have hJ9 : ∀ (x2 : Int32) (M : Mem) (H : Heap) (locs : List Loc) (ls : Array Slot), j_X9_begins_9 n  x2 M = some res → GI w layM 24 s.heap M H locs → lv_has ls 3 [(0, .ref (w.2.2.1 0)), (2, .int x2)] → W p l e (Rm 2) s m args below meth c H locs 0 0 (MQ below (GQi w layM 24 res s.heap.size) args s 0 0 (gA w.2.2.1 24 s.heap.size)) (F0 m 9 ls []) := by
    intro x2 M H locs ls hf hG hl
    unfold j_X9_begins_9 at hf
    refine lv_iload_n hx hb dX9_begins_9 rfl (lv_at hl 1 rfl) ?_
    refine lv_if_eq (tgt := 18) hx hb dX9_begins_10 (by decide) (fun c4 => ?_) (fun c4 => ?_)
    · replace hf := if_t c4 hf
      exact hJ18  _ _ _ ls hf hG (lv_sub hl [0] rfl)
    · replace hf := if_f c4 hf
      refine lv_aload_n hx hb dX9_begins_13 rfl (lv_at hl 0 rfl) ?_
      refine lv_iconst (v := 5) hx hb dX9_begins_14 (by decide) ?_
      replace hf := bd_some hf
      obtain ⟨q5, eq5, hf⟩ := hf
      refine gx_callv hG (gx_runV hXk F hX hG (c_X9_wrong l w hXk n  (5 : Int32) _ _ eq5) cv_X9_168 ⟨Nat.le_of_ble_eq_true rfl, Nat.le_of_ble_eq_true rfl⟩ (g_recv F hG mo_0 (by decide) rfl) rfl hl.1 rfl (Nat.le_of_ble_eq_true rfl) dX9_begins_15 ⟨Nat.le_refl _, Nat.le_refl _⟩) (fun H locs hG => ?_)
      exact hJ18  _ _ _ ls hf hG (lv_sub hl [0] rfl)
  unfold f_X9_begins at hf
  refine lv_iload_n hx hb dX9_begins_0 rfl (lv_at hl 1 rfl) ?_
  refine lv_if_eq (tgt := 9) hx hb dX9_begins_1 (by decide) (fun c6 => ?_) (fun c6 => ?_)
  · replace hf := if_t c6 hf
    exact hJ9 _ _ _ _ ls hf hG (lv_sub hl [0, 2] rfl)
  · replace hf := if_f c6 hf
    refine lv_aload_n hx hb dX9_begins_4 rfl (lv_at hl 0 rfl) ?_
    refine lv_iconst (v := 2) hx hb dX9_begins_5 (by decide) ?_
    replace hf := bd_some hf
    obtain ⟨q7, eq7, hf⟩ := hf
    refine gx_callv hG (gx_runV hXk F hX hG (c_X9_wrong l w hXk n  (2 : Int32) _ _ eq7) cv_X9_168 ⟨Nat.le_of_ble_eq_true rfl, Nat.le_of_ble_eq_true rfl⟩ (g_recv F hG mo_0 (by decide) rfl) rfl hl.1 rfl (Nat.le_of_ble_eq_true rfl) dX9_begins_6 ⟨Nat.le_refl _, Nat.le_refl _⟩) (fun H locs hG => ?_)
    exact hJ9 _ _ _ _ ls hf hG (lv_sub hl [0, 2] rfl)

def j_X9_readsWinds_89 (n : Nat) (t0 : Int32) (M : Mem) : Option ((Int32 × Mem) ⊕ (Mem)) := some (.inl (t0, M))
def j_X9_readsWinds_40 (n : Nat) (M : Mem) : Option ((Int32 × Mem) ⊕ (Mem)) := bd (f_X9_number n  (0 : Int32) (9 : Int32) M) (fun q1 => bd (f_X9_isGood n   q1.2) (fun q2 => if q2.1 = 0 then (mr (some q2.2)) else (ck (inb (gi q2.2 0 26) 8) (if (gi (si (si q2.2 5 (gi q2.2 0 26).toNatClampNeg q1.1) 0 26 ((gi (si q2.2 5 (gi q2.2 0 26).toNatClampNeg q1.1) 0 26) + (1 : Int32))) 0 17) = (2 : Int32) then (j_X9_readsWinds_89 n  (1 : Int32) (si (si q2.2 5 (gi q2.2 0 26).toNatClampNeg q1.1) 0 26 ((gi (si q2.2 5 (gi q2.2 0 26).toNatClampNeg q1.1) 0 26) + (1 : Int32)))) else (j_X9_readsWinds_89 n  (0 : Int32) (si (si q2.2 5 (gi q2.2 0 26).toNatClampNeg q1.1) 0 26 ((gi (si q2.2 5 (gi q2.2 0 26).toNatClampNeg q1.1) 0 26) + (1 : Int32))))))))
def b_X9_readsWinds_7 (n : Nat) (q : (Int32 × Mem)) : Option ((Int32 × Mem) ⊕ (Mem)) := match q with
  | (x1, M) => if x1 = 0 then (mr (some M)) else (bd (f_X9_isGood n   M) (fun q7 => if q7.1 = 0 then (mr (some q7.2)) else (if (gi q7.2 0 26) = (8 : Int32) then (if (gi q7.2 0 17) = (2 : Int32) then (bd (f_X9_wrong n  (2 : Int32) q7.2) (fun q11 => j_X9_readsWinds_40 n  q11)) else (j_X9_readsWinds_40 n  q7.2)) else (j_X9_readsWinds_40 n  q7.2))))
def f_X9_readsWinds (n : Nat) (M : Mem) : Option (Mem) := gl (b_X9_readsWinds_7 n ) n ((1 : Int32), si M 0 26 (0 : Int32))
set_option maxHeartbeats 4000000 in
set_option maxRecDepth 100000 in
theorem c_X9_readsWinds (l : Launch) (w : Wd) {X : (Nat → Prop) → State → Heap → Prop} (hXk : XOK X) (n : Nat) (M : Mem) (res : Mem) (hf : f_X9_readsWinds n   M = some res) : CG l w layM 24 X yX9_readsWinds cX9_readsWinds 3 none 3 [.ref (w.2.2.1 0)] M (GQv w layM 24 res) := by
  refine cg_start (by decide +kernel) (Nat.le_of_ble_eq_true rfl) ?_
  intro p e s m args below meth c F hr hlk hX hG ls hl
  have F : FX w p m c cX9_readsWinds 3 s args RX9 := F
  have hx := F.1.1
  have hb := F.1.2.1
  have hl : lv_has ls 3 [(0, .ref (w.2.2.1 0))] := hl
  have hJ7 : ∀ (x1 : Int32) (M : Mem) (H : Heap) (locs : List Loc) (ls : Array Slot), gl (b_X9_readsWinds_7 n  ) n (x1, M) = some res → GI w layM 24 s.heap M H locs → lv_has ls 3 [(0, .ref (w.2.2.1 0)), (1, .int x1)] → W p l e (Rm 3) s m args below meth c H locs 0 0 (MQ below (GQv w layM 24 res s.heap.size) args s 0 0 (gA w.2.2.1 24 s.heap.size)) (F0 m 7 ls []) := by
    intro x1 M H locs ls hf hG hl
    refine gl_run (P := fun (q : (Int32 × Mem)) => ∀ (H : Heap) (locs : List Loc) (ls : Array Slot), GI w layM 24 s.heap q.2 H locs → lv_has ls 3 [(0, .ref (w.2.2.1 0)), (1, .int q.1)] → W p l e (Rm 3) s m args below meth c H locs 0 0 (MQ below (GQv w layM 24 res s.heap.size) args s 0 0 (gA w.2.2.1 24 s.heap.size)) (F0 m 7 ls [])) ?_ n (x1, M) hf H locs ls hG hl
    clear hf hG hl ls locs H M x1
    rintro ⟨x1, M⟩ rr7 hf hI7 hE7 H locs ls hG hl
    try dsimp only at hG hl ⊢
    have hJ89 : ∀ (t0 : Int32) (M : Mem) (H : Heap) (locs : List Loc) (ls : Array Slot), j_X9_readsWinds_89 n  t0 M = some rr7 → GI w layM 24 s.heap M H locs → lv_has ls 3 [(0, .ref (w.2.2.1 0))] → W p l e (Rm 3) s m args below meth c H locs 0 0 (MQ below (GQv w layM 24 res s.heap.size) args s 0 0 (gA w.2.2.1 24 s.heap.size)) (F0 m 89 ls [.int t0]) := by
      intro t0 M H locs ls hf hG hl
      unfold j_X9_readsWinds_89 at hf
      refine lv_istore_n (lv' := [(1, .int t0), (0, .ref (w.2.2.1 0))]) hx hb dX9_readsWinds_89 rfl hl (by decide) rfl (fun ls hl => ?_)
      refine lv_goto (tgt := 7) hx hb dX9_readsWinds_90 (by decide) ?_
      exact hI7 _ (Option.some.inj hf).symm _ _ ls hG (lv_sub hl [1, 0] rfl)
    have hJ40 : ∀ (M : Mem) (H : Heap) (locs : List Loc) (ls : Array Slot), j_X9_readsWinds_40 n   M = some rr7 → GI w layM 24 s.heap M H locs → lv_has ls 3 [(0, .ref (w.2.2.1 0))] → W p l e (Rm 3) s m args below meth c H locs 0 0 (MQ below (GQv w layM 24 res s.heap.size) args s 0 0 (gA w.2.2.1 24 s.heap.size)) (F0 m 40 ls []) := by
      intro  M H locs ls hf hG hl
      unfold j_X9_readsWinds_40 at hf
      refine lv_aload_n hx hb dX9_readsWinds_40 rfl (lv_at hl 0 rfl) ?_
      refine lv_iconst (v := 0) hx hb dX9_readsWinds_41 (by decide) ?_
      refine lv_bipush (v := 9) hx hb dX9_readsWinds_42 (by decide) ?_
      replace hf := bd_some hf
      obtain ⟨q1, eq1, hf⟩ := hf
      refine gx_calli hG (gx_runV hXk F hX hG (c_X9_number l w hXk n  (0 : Int32) (9 : Int32) _ _ eq1) cv_X9_230 ⟨Nat.le_of_ble_eq_true rfl, Nat.le_of_ble_eq_true rfl⟩ (g_recv F hG mo_0 (by decide) rfl) rfl hl.1 rfl (Nat.le_of_ble_eq_true rfl) dX9_readsWinds_44 ⟨Nat.le_refl _, Nat.le_refl _⟩) (fun H locs hG => ?_)
      refine lv_istore_n (lv' := [(2, .int q1.1), (0, .ref (w.2.2.1 0))]) hx hb dX9_readsWinds_47 rfl hl (by decide) rfl (fun ls hl => ?_)
      refine lv_aload_n hx hb dX9_readsWinds_48 rfl (lv_at hl 1 rfl) ?_
      replace hf := bd_some hf
      obtain ⟨q2, eq2, hf⟩ := hf
      refine gx_calli hG (gx_runV hXk F hX hG (c_X9_isGood l w hXk n   _ _ eq2) cv_X9_161 ⟨Nat.le_of_ble_eq_true rfl, Nat.le_of_ble_eq_true rfl⟩ (g_recv F hG mo_0 (by decide) rfl) rfl hl.1 rfl (Nat.le_of_ble_eq_true rfl) dX9_readsWinds_49 ⟨Nat.le_refl _, Nat.le_refl _⟩) (fun H locs hG => ?_)
      refine lv_if_ne (tgt := 56) hx hb dX9_readsWinds_52 (by decide) (fun c3 => ?_) (fun c3 => ?_)
      · replace hf := if_f c3 hf
        refine lv_aload_n hx hb dX9_readsWinds_56 rfl (lv_at hl 1 rfl) ?_
        refine g_getR F hG 5 mo_0 (by decide) (by decide) lk_X9_41 rfl dX9_readsWinds_57 ?_
        refine lv_aload_n hx hb dX9_readsWinds_60 rfl (lv_at hl 1 rfl) ?_
        refine g_getI F hG mo_0 (by decide) (by decide) lk_X9_227 rfl dX9_readsWinds_61 ?_
        refine lv_iload_n hx hb dX9_readsWinds_64 rfl (lv_at hl 0 rfl) ?_
        replace hf := ck_some hf
        obtain ⟨k4, hf⟩ := hf
        refine g_iast F hG oM_5 k4 dX9_readsWinds_65 (fun H locs hG => ?_)
        refine lv_aload_n hx hb dX9_readsWinds_66 rfl (lv_at hl 1 rfl) ?_
        refine lv_dup hx hb dX9_readsWinds_67 rfl ?_
        refine g_getI F hG mo_0 (by decide) (by decide) lk_X9_227 rfl dX9_readsWinds_68 ?_
        refine lv_iconst (v := 1) hx hb dX9_readsWinds_71 (by decide) ?_
        refine lv_iadd hx hb dX9_readsWinds_72 ?_
        refine g_putI F hG mo_0 (by decide) (by decide) lkv_X9_227 rfl rfl rfl dX9_readsWinds_73 (fun H locs hG => ?_)
        refine lv_aload_n hx hb dX9_readsWinds_76 rfl (lv_at hl 1 rfl) ?_
        refine g_getI F hG mo_0 (by decide) (by decide) lk_X9_135 rfl dX9_readsWinds_77 ?_
        refine lv_iconst (v := 2) hx hb dX9_readsWinds_80 (by decide) ?_
        refine lv_icmp_ne (tgt := 88) hx hb dX9_readsWinds_81 (by decide) (fun c5 => ?_) (fun c5 => ?_)
        · replace hf := if_f c5 hf
          refine lv_iconst (v := 0) hx hb dX9_readsWinds_88 (by decide) ?_
          exact hJ89 _ _ _ _ ls hf hG (lv_sub hl [1] rfl)
        · replace hf := if_t c5 hf
          refine lv_iconst (v := 1) hx hb dX9_readsWinds_84 (by decide) ?_
          refine lv_goto (tgt := 89) hx hb dX9_readsWinds_85 (by decide) ?_
          exact hJ89 _ _ _ _ ls hf hG (lv_sub hl [1] rfl)
      · replace hf := if_t c3 hf
        replace hf := mr_some hf
        obtain ⟨z7, hf, hz⟩ := hf
        rw [hE7 _ hz] at hf
        exact cg_vret F hr hlk hG hf dX9_readsWinds_55
    dsimp only [b_X9_readsWinds_7] at hf
    refine lv_iload_n hx hb dX9_readsWinds_7 rfl (lv_at hl 1 rfl) ?_
    refine lv_if_eq (tgt := 93) hx hb dX9_readsWinds_8 (by decide) (fun c6 => ?_) (fun c6 => ?_)
    · replace hf := if_t c6 hf
      replace hf := mr_some hf
      obtain ⟨z7, hf, hz⟩ := hf
      rw [hE7 _ hz] at hf
      exact cg_vret F hr hlk hG hf dX9_readsWinds_93
    · replace hf := if_f c6 hf
      refine lv_aload_n hx hb dX9_readsWinds_11 rfl (lv_at hl 0 rfl) ?_
      replace hf := bd_some hf
      obtain ⟨q7, eq7, hf⟩ := hf
      refine gx_calli hG (gx_runV hXk F hX hG (c_X9_isGood l w hXk n   _ _ eq7) cv_X9_161 ⟨Nat.le_of_ble_eq_true rfl, Nat.le_of_ble_eq_true rfl⟩ (g_recv F hG mo_0 (by decide) rfl) rfl hl.1 rfl (Nat.le_of_ble_eq_true rfl) dX9_readsWinds_12 ⟨Nat.le_refl _, Nat.le_refl _⟩) (fun H locs hG => ?_)
      refine lv_if_eq (tgt := 93) hx hb dX9_readsWinds_15 (by decide) (fun c8 => ?_) (fun c8 => ?_)
      · replace hf := if_t c8 hf
        replace hf := mr_some hf
        obtain ⟨z7, hf, hz⟩ := hf
        rw [hE7 _ hz] at hf
        exact cg_vret F hr hlk hG hf dX9_readsWinds_93
      · replace hf := if_f c8 hf
        refine lv_aload_n hx hb dX9_readsWinds_18 rfl (lv_at hl 0 rfl) ?_
        refine g_getI F hG mo_0 (by decide) (by decide) lk_X9_227 rfl dX9_readsWinds_19 ?_
        refine lv_bipush (v := 8) hx hb dX9_readsWinds_22 (by decide) ?_
        refine lv_icmp_ne (tgt := 40) hx hb dX9_readsWinds_24 (by decide) (fun c9 => ?_) (fun c9 => ?_)
        · replace hf := if_f c9 hf
          exact hJ40  _ _ _ ls hf hG (lv_sub hl [0] rfl)
        · replace hf := if_t c9 hf
          refine lv_aload_n hx hb dX9_readsWinds_27 rfl (lv_at hl 0 rfl) ?_
          refine g_getI F hG mo_0 (by decide) (by decide) lk_X9_135 rfl dX9_readsWinds_28 ?_
          refine lv_iconst (v := 2) hx hb dX9_readsWinds_31 (by decide) ?_
          refine lv_icmp_ne (tgt := 40) hx hb dX9_readsWinds_32 (by decide) (fun c10 => ?_) (fun c10 => ?_)
          · replace hf := if_f c10 hf
            exact hJ40  _ _ _ ls hf hG (lv_sub hl [0] rfl)
          · replace hf := if_t c10 hf
            refine lv_aload_n hx hb dX9_readsWinds_35 rfl (lv_at hl 0 rfl) ?_
            refine lv_iconst (v := 2) hx hb dX9_readsWinds_36 (by decide) ?_
            replace hf := bd_some hf
            obtain ⟨q11, eq11, hf⟩ := hf
            refine gx_callv hG (gx_runV hXk F hX hG (c_X9_wrong l w hXk n  (2 : Int32) _ _ eq11) cv_X9_168 ⟨Nat.le_of_ble_eq_true rfl, Nat.le_of_ble_eq_true rfl⟩ (g_recv F hG mo_0 (by decide) rfl) rfl hl.1 rfl (Nat.le_of_ble_eq_true rfl) dX9_readsWinds_37 ⟨Nat.le_refl _, Nat.le_refl _⟩) (fun H locs hG => ?_)
            exact hJ40  _ _ _ ls hf hG (lv_sub hl [0] rfl)
  unfold f_X9_readsWinds at hf
  refine lv_iconst (v := 1) hx hb dX9_readsWinds_0 (by decide) ?_
  refine lv_istore_n (lv' := [(1, .int (1 : Int32)), (0, .ref (w.2.2.1 0))]) hx hb dX9_readsWinds_1 rfl hl (by decide) rfl (fun ls hl => ?_)
  refine lv_aload_n hx hb dX9_readsWinds_2 rfl (lv_at hl 1 rfl) ?_
  refine lv_iconst (v := 0) hx hb dX9_readsWinds_3 (by decide) ?_
  refine g_putI F hG mo_0 (by decide) (by decide) lkv_X9_227 rfl rfl rfl dX9_readsWinds_4 (fun H locs hG => ?_)
  exact hJ7 _ _ _ _ ls hf hG (lv_sub hl [1, 0] rfl)

def j_X9_readsStreet_57 (n : Nat) (x1 : Int32) (x2 : Int32) (M : Mem) : Option (Mem) := bd (f_X9_isGood n   M) (fun q1 => if q1.1 = 0 then (some q1.2) else (ck (inb ((46 : Int32) + x1) 54) (ck (inb ((46 : Int32) + x1) 54) (ck (inb ((46 : Int32) + x2) 54) (ck (inb ((46 : Int32) + x2) 54) (bd (f_X9_goes n   (si (si q1.2 6 ((46 : Int32) + x1).toNatClampNeg ((gi q1.2 6 ((46 : Int32) + x1).toNatClampNeg) ||| ((1 : Int32) <<< (x2 &&& 31)))) 6 ((46 : Int32) + x2).toNatClampNeg ((gi (si q1.2 6 ((46 : Int32) + x1).toNatClampNeg ((gi q1.2 6 ((46 : Int32) + x1).toNatClampNeg) ||| ((1 : Int32) <<< (x2 &&& 31)))) 6 ((46 : Int32) + x2).toNatClampNeg) ||| ((1 : Int32) <<< (x1 &&& 31))))) (fun q7 => some q7)))))))
def j_X9_readsStreet_52 (n : Nat) (x1 : Int32) (x2 : Int32) (M : Mem) : Option (Mem) := bd (f_X9_wrong n  (4 : Int32) M) (fun q8 => j_X9_readsStreet_57 n  x1 x2 q8)
def f_X9_readsStreet (n : Nat) (M : Mem) : Option (Mem) := bd (f_X9_isWardHere n   M) (fun q9 => if q9.1 = 0 then (some q9.2) else (bd (f_X9_goes n   q9.2) (fun q11 => bd (f_X9_isWardHere n   q11) (fun q12 => if q12.1 = 0 then (some q12.2) else (if (gi q9.2 0 20) = (gi q12.2 0 20) then (j_X9_readsStreet_52 n  (gi q9.2 0 20) (gi q12.2 0 20) q12.2) else (ck (inb ((46 : Int32) + (gi q9.2 0 20)) 54) (if (((gi q12.2 6 ((46 : Int32) + (gi q9.2 0 20)).toNatClampNeg) >>> ((gi q12.2 0 20) &&& 31)) &&& (1 : Int32)) = (1 : Int32) then (j_X9_readsStreet_52 n  (gi q9.2 0 20) (gi q12.2 0 20) q12.2) else (j_X9_readsStreet_57 n  (gi q9.2 0 20) (gi q12.2 0 20) q12.2))))))))
set_option maxHeartbeats 4000000 in
set_option maxRecDepth 100000 in
theorem c_X9_readsStreet (l : Launch) (w : Wd) {X : (Nat → Prop) → State → Heap → Prop} (hXk : XOK X) (n : Nat) (M : Mem) (res : Mem) (hf : f_X9_readsStreet n   M = some res) : CG l w layM 24 X yX9_readsStreet cX9_readsStreet 3 none 2 [.ref (w.2.2.1 0)] M (GQv w layM 24 res) := by
  refine cg_start (by decide +kernel) (Nat.le_of_ble_eq_true rfl) ?_
  intro p e s m args below meth c F hr hlk hX hG ls hl
  have F : FX w p m c cX9_readsStreet 3 s args RX9 := F
  have hx := F.1.1
  have hb := F.1.2.1
  have hl : lv_has ls 3 [(0, .ref (w.2.2.1 0))] := hl
  have hJ57 : ∀ (x1 : Int32) (x2 : Int32) (M : Mem) (H : Heap) (locs : List Loc) (ls : Array Slot), j_X9_readsStreet_57 n  x1 x2 M = some res → GI w layM 24 s.heap M H locs → lv_has ls 3 [(0, .ref (w.2.2.1 0)), (1, .int x1), (2, .int x2)] → W p l e (Rm 2) s m args below meth c H locs 0 0 (MQ below (GQv w layM 24 res s.heap.size) args s 0 0 (gA w.2.2.1 24 s.heap.size)) (F0 m 57 ls []) := by
    intro x1 x2 M H locs ls hf hG hl
    unfold j_X9_readsStreet_57 at hf
    refine lv_aload_n hx hb dX9_readsStreet_57 rfl (lv_at hl 0 rfl) ?_
    replace hf := bd_some hf
    obtain ⟨q1, eq1, hf⟩ := hf
    refine gx_calli hG (gx_runV hXk F hX hG (c_X9_isGood l w hXk n   _ _ eq1) cv_X9_161 ⟨Nat.le_of_ble_eq_true rfl, Nat.le_of_ble_eq_true rfl⟩ (g_recv F hG mo_0 (by decide) rfl) rfl hl.1 rfl (Nat.le_of_ble_eq_true rfl) dX9_readsStreet_58 ⟨Nat.le_refl _, Nat.le_refl _⟩) (fun H locs hG => ?_)
    refine lv_if_ne (tgt := 65) hx hb dX9_readsStreet_61 (by decide) (fun c2 => ?_) (fun c2 => ?_)
    · replace hf := if_f c2 hf
      refine lv_aload_n hx hb dX9_readsStreet_65 rfl (lv_at hl 0 rfl) ?_
      refine g_getR F hG 6 mo_0 (by decide) (by decide) lk_X9_44 rfl dX9_readsStreet_66 ?_
      refine lv_bipush (v := 46) hx hb dX9_readsStreet_69 (by decide) ?_
      refine lv_iload_n hx hb dX9_readsStreet_71 rfl (lv_at hl 1 rfl) ?_
      refine lv_iadd hx hb dX9_readsStreet_72 ?_
      refine lv_dup2_11 hx hb dX9_readsStreet_73 rfl rfl ?_
      replace hf := ck_some hf
      obtain ⟨k3, hf⟩ := hf
      refine g_iald F hG oM_6 k3 dX9_readsStreet_74 ?_
      refine lv_iconst (v := 1) hx hb dX9_readsStreet_75 (by decide) ?_
      refine lv_iload_n hx hb dX9_readsStreet_76 rfl (lv_at hl 2 rfl) ?_
      refine lv_ishl hx hb dX9_readsStreet_77 ?_
      refine lv_ior hx hb dX9_readsStreet_78 ?_
      replace hf := ck_some hf
      obtain ⟨k4, hf⟩ := hf
      refine g_iast F hG oM_6 k4 dX9_readsStreet_79 (fun H locs hG => ?_)
      refine lv_aload_n hx hb dX9_readsStreet_80 rfl (lv_at hl 0 rfl) ?_
      refine g_getR F hG 6 mo_0 (by decide) (by decide) lk_X9_44 rfl dX9_readsStreet_81 ?_
      refine lv_bipush (v := 46) hx hb dX9_readsStreet_84 (by decide) ?_
      refine lv_iload_n hx hb dX9_readsStreet_86 rfl (lv_at hl 2 rfl) ?_
      refine lv_iadd hx hb dX9_readsStreet_87 ?_
      refine lv_dup2_11 hx hb dX9_readsStreet_88 rfl rfl ?_
      replace hf := ck_some hf
      obtain ⟨k5, hf⟩ := hf
      refine g_iald F hG oM_6 k5 dX9_readsStreet_89 ?_
      refine lv_iconst (v := 1) hx hb dX9_readsStreet_90 (by decide) ?_
      refine lv_iload_n hx hb dX9_readsStreet_91 rfl (lv_at hl 1 rfl) ?_
      refine lv_ishl hx hb dX9_readsStreet_92 ?_
      refine lv_ior hx hb dX9_readsStreet_93 ?_
      replace hf := ck_some hf
      obtain ⟨k6, hf⟩ := hf
      refine g_iast F hG oM_6 k6 dX9_readsStreet_94 (fun H locs hG => ?_)
      refine lv_aload_n hx hb dX9_readsStreet_95 rfl (lv_at hl 0 rfl) ?_
      replace hf := bd_some hf
      obtain ⟨q7, eq7, hf⟩ := hf
      refine gx_callv hG (gx_runV hXk F hX hG (c_X9_goes l w hXk n   _ _ eq7) cv_X9_165 ⟨Nat.le_of_ble_eq_true rfl, Nat.le_of_ble_eq_true rfl⟩ (g_recv F hG mo_0 (by decide) rfl) rfl hl.1 rfl (Nat.le_of_ble_eq_true rfl) dX9_readsStreet_96 ⟨Nat.le_refl _, Nat.le_refl _⟩) (fun H locs hG => ?_)
      exact cg_vret F hr hlk hG hf dX9_readsStreet_99
    · replace hf := if_t c2 hf
      exact cg_vret F hr hlk hG hf dX9_readsStreet_64
  have hJ52 : ∀ (x1 : Int32) (x2 : Int32) (M : Mem) (H : Heap) (locs : List Loc) (ls : Array Slot), j_X9_readsStreet_52 n  x1 x2 M = some res → GI w layM 24 s.heap M H locs → lv_has ls 3 [(0, .ref (w.2.2.1 0)), (1, .int x1), (2, .int x2)] → W p l e (Rm 2) s m args below meth c H locs 0 0 (MQ below (GQv w layM 24 res s.heap.size) args s 0 0 (gA w.2.2.1 24 s.heap.size)) (F0 m 52 ls []) := by
    intro x1 x2 M H locs ls hf hG hl
    unfold j_X9_readsStreet_52 at hf
    refine lv_aload_n hx hb dX9_readsStreet_52 rfl (lv_at hl 0 rfl) ?_
    refine lv_iconst (v := 4) hx hb dX9_readsStreet_53 (by decide) ?_
    replace hf := bd_some hf
    obtain ⟨q8, eq8, hf⟩ := hf
    refine gx_callv hG (gx_runV hXk F hX hG (c_X9_wrong l w hXk n  (4 : Int32) _ _ eq8) cv_X9_168 ⟨Nat.le_of_ble_eq_true rfl, Nat.le_of_ble_eq_true rfl⟩ (g_recv F hG mo_0 (by decide) rfl) rfl hl.1 rfl (Nat.le_of_ble_eq_true rfl) dX9_readsStreet_54 ⟨Nat.le_refl _, Nat.le_refl _⟩) (fun H locs hG => ?_)
    exact hJ57 _ _ _ _ _ ls hf hG (lv_sub hl [0, 1, 2] rfl)
  unfold f_X9_readsStreet at hf
  refine lv_aload_n hx hb dX9_readsStreet_0 rfl (lv_at hl 0 rfl) ?_
  replace hf := bd_some hf
  obtain ⟨q9, eq9, hf⟩ := hf
  refine gx_calli hG (gx_runV hXk F hX hG (c_X9_isWardHere l w hXk n   _ _ eq9) cv_X9_234 ⟨Nat.le_of_ble_eq_true rfl, Nat.le_of_ble_eq_true rfl⟩ (g_recv F hG mo_0 (by decide) rfl) rfl hl.1 rfl (Nat.le_of_ble_eq_true rfl) dX9_readsStreet_1 ⟨Nat.le_refl _, Nat.le_refl _⟩) (fun H locs hG => ?_)
  refine lv_if_ne (tgt := 8) hx hb dX9_readsStreet_4 (by decide) (fun c10 => ?_) (fun c10 => ?_)
  · replace hf := if_f c10 hf
    refine lv_aload_n hx hb dX9_readsStreet_8 rfl (lv_at hl 0 rfl) ?_
    refine g_getI F hG mo_0 (by decide) (by decide) lk_X9_129 rfl dX9_readsStreet_9 ?_
    refine lv_istore_n (lv' := [(1, .int (gi q9.2 0 20)), (0, .ref (w.2.2.1 0))]) hx hb dX9_readsStreet_12 rfl hl (by decide) rfl (fun ls hl => ?_)
    refine lv_aload_n hx hb dX9_readsStreet_13 rfl (lv_at hl 1 rfl) ?_
    replace hf := bd_some hf
    obtain ⟨q11, eq11, hf⟩ := hf
    refine gx_callv hG (gx_runV hXk F hX hG (c_X9_goes l w hXk n   _ _ eq11) cv_X9_165 ⟨Nat.le_of_ble_eq_true rfl, Nat.le_of_ble_eq_true rfl⟩ (g_recv F hG mo_0 (by decide) rfl) rfl hl.1 rfl (Nat.le_of_ble_eq_true rfl) dX9_readsStreet_14 ⟨Nat.le_refl _, Nat.le_refl _⟩) (fun H locs hG => ?_)
    refine lv_aload_n hx hb dX9_readsStreet_17 rfl (lv_at hl 1 rfl) ?_
    replace hf := bd_some hf
    obtain ⟨q12, eq12, hf⟩ := hf
    refine gx_calli hG (gx_runV hXk F hX hG (c_X9_isWardHere l w hXk n   _ _ eq12) cv_X9_234 ⟨Nat.le_of_ble_eq_true rfl, Nat.le_of_ble_eq_true rfl⟩ (g_recv F hG mo_0 (by decide) rfl) rfl hl.1 rfl (Nat.le_of_ble_eq_true rfl) dX9_readsStreet_18 ⟨Nat.le_refl _, Nat.le_refl _⟩) (fun H locs hG => ?_)
    refine lv_if_ne (tgt := 25) hx hb dX9_readsStreet_21 (by decide) (fun c13 => ?_) (fun c13 => ?_)
    · replace hf := if_f c13 hf
      refine lv_aload_n hx hb dX9_readsStreet_25 rfl (lv_at hl 1 rfl) ?_
      refine g_getI F hG mo_0 (by decide) (by decide) lk_X9_129 rfl dX9_readsStreet_26 ?_
      refine lv_istore_n (lv' := [(2, .int (gi q12.2 0 20)), (1, .int (gi q9.2 0 20)), (0, .ref (w.2.2.1 0))]) hx hb dX9_readsStreet_29 rfl hl (by decide) rfl (fun ls hl => ?_)
      refine lv_iload_n hx hb dX9_readsStreet_30 rfl (lv_at hl 1 rfl) ?_
      refine lv_iload_n hx hb dX9_readsStreet_31 rfl (lv_at hl 0 rfl) ?_
      refine lv_icmp_eq (tgt := 52) hx hb dX9_readsStreet_32 (by decide) (fun c14 => ?_) (fun c14 => ?_)
      · replace hf := if_t c14 hf
        exact hJ52 _ _ _ _ _ ls hf hG (lv_sub hl [2, 1, 0] rfl)
      · replace hf := if_f c14 hf
        refine lv_aload_n hx hb dX9_readsStreet_35 rfl (lv_at hl 2 rfl) ?_
        refine g_getR F hG 6 mo_0 (by decide) (by decide) lk_X9_44 rfl dX9_readsStreet_36 ?_
        refine lv_bipush (v := 46) hx hb dX9_readsStreet_39 (by decide) ?_
        refine lv_iload_n hx hb dX9_readsStreet_41 rfl (lv_at hl 1 rfl) ?_
        refine lv_iadd hx hb dX9_readsStreet_42 ?_
        replace hf := ck_some hf
        obtain ⟨k15, hf⟩ := hf
        refine g_iald F hG oM_6 k15 dX9_readsStreet_43 ?_
        refine lv_iload_n hx hb dX9_readsStreet_44 rfl (lv_at hl 0 rfl) ?_
        refine lv_ishr hx hb dX9_readsStreet_45 ?_
        refine lv_iconst (v := 1) hx hb dX9_readsStreet_46 (by decide) ?_
        refine lv_iand hx hb dX9_readsStreet_47 ?_
        refine lv_iconst (v := 1) hx hb dX9_readsStreet_48 (by decide) ?_
        refine lv_icmp_ne (tgt := 57) hx hb dX9_readsStreet_49 (by decide) (fun c16 => ?_) (fun c16 => ?_)
        · replace hf := if_f c16 hf
          exact hJ57 _ _ _ _ _ ls hf hG (lv_sub hl [2, 1, 0] rfl)
        · replace hf := if_t c16 hf
          exact hJ52 _ _ _ _ _ ls hf hG (lv_sub hl [2, 1, 0] rfl)
    · replace hf := if_t c13 hf
      exact cg_vret F hr hlk hG hf dX9_readsStreet_24
  · replace hf := if_t c10 hf
    exact cg_vret F hr hlk hG hf dX9_readsStreet_7

def f_X9_readsHung (n : Nat) (M : Mem) : Option (Mem) := bd (f_X9_number n  (1 : Int32) (9 : Int32) M) (fun q1 => ck (inb ((6 : Int32) + (gi M 0 27)) 54) (bd (f_X9_number n  (0 : Int32) (9 : Int32) (si q1.2 6 ((6 : Int32) + (gi M 0 27)).toNatClampNeg q1.1)) (fun q3 => ck (inb ((22 : Int32) + (gi (si q1.2 6 ((6 : Int32) + (gi M 0 27)).toNatClampNeg q1.1) 0 27)) 54) (some (si (si q3.2 6 ((22 : Int32) + (gi (si q1.2 6 ((6 : Int32) + (gi M 0 27)).toNatClampNeg q1.1) 0 27)).toNatClampNeg q3.1) 0 27 ((gi (si q3.2 6 ((22 : Int32) + (gi (si q1.2 6 ((6 : Int32) + (gi M 0 27)).toNatClampNeg q1.1) 0 27)).toNatClampNeg q3.1) 0 27) + (1 : Int32)))))))
set_option maxHeartbeats 4000000 in
set_option maxRecDepth 100000 in
theorem c_X9_readsHung (l : Launch) (w : Wd) {X : (Nat → Prop) → State → Heap → Prop} (hXk : XOK X) (n : Nat) (M : Mem) (res : Mem) (hf : f_X9_readsHung n   M = some res) : CG l w layM 24 X yX9_readsHung cX9_readsHung 1 none 3 [.ref (w.2.2.1 0)] M (GQv w layM 24 res) := by
  refine cg_start (by decide +kernel) (Nat.le_of_ble_eq_true rfl) ?_
  intro p e s m args below meth c F hr hlk hX hG ls hl
  have F : FX w p m c cX9_readsHung 1 s args RX9 := F
  have hx := F.1.1
  have hb := F.1.2.1
  have hl : lv_has ls 1 [(0, .ref (w.2.2.1 0))] := hl
  unfold f_X9_readsHung at hf
  refine lv_aload_n hx hb dX9_readsHung_0 rfl (lv_at hl 0 rfl) ?_
  refine g_getR F hG 6 mo_0 (by decide) (by decide) lk_X9_44 rfl dX9_readsHung_1 ?_
  refine lv_bipush (v := 6) hx hb dX9_readsHung_4 (by decide) ?_
  refine lv_aload_n hx hb dX9_readsHung_6 rfl (lv_at hl 0 rfl) ?_
  refine g_getI F hG mo_0 (by decide) (by decide) lk_X9_237 rfl dX9_readsHung_7 ?_
  refine lv_iadd hx hb dX9_readsHung_10 ?_
  refine lv_aload_n hx hb dX9_readsHung_11 rfl (lv_at hl 0 rfl) ?_
  refine lv_iconst (v := 1) hx hb dX9_readsHung_12 (by decide) ?_
  refine lv_bipush (v := 9) hx hb dX9_readsHung_13 (by decide) ?_
  replace hf := bd_some hf
  obtain ⟨q1, eq1, hf⟩ := hf
  refine gx_calli hG (gx_runV hXk F hX hG (c_X9_number l w hXk n  (1 : Int32) (9 : Int32) _ _ eq1) cv_X9_230 ⟨Nat.le_of_ble_eq_true rfl, Nat.le_of_ble_eq_true rfl⟩ (g_recv F hG mo_0 (by decide) rfl) rfl hl.1 rfl (Nat.le_of_ble_eq_true rfl) dX9_readsHung_15 ⟨Nat.le_refl _, Nat.le_refl _⟩) (fun H locs hG => ?_)
  replace hf := ck_some hf
  obtain ⟨k2, hf⟩ := hf
  refine g_iast F hG oM_6 k2 dX9_readsHung_18 (fun H locs hG => ?_)
  refine lv_aload_n hx hb dX9_readsHung_19 rfl (lv_at hl 0 rfl) ?_
  refine g_getR F hG 6 mo_0 (by decide) (by decide) lk_X9_44 rfl dX9_readsHung_20 ?_
  refine lv_bipush (v := 22) hx hb dX9_readsHung_23 (by decide) ?_
  refine lv_aload_n hx hb dX9_readsHung_25 rfl (lv_at hl 0 rfl) ?_
  refine g_getI F hG mo_0 (by decide) (by decide) lk_X9_237 rfl dX9_readsHung_26 ?_
  refine lv_iadd hx hb dX9_readsHung_29 ?_
  refine lv_aload_n hx hb dX9_readsHung_30 rfl (lv_at hl 0 rfl) ?_
  refine lv_iconst (v := 0) hx hb dX9_readsHung_31 (by decide) ?_
  refine lv_bipush (v := 9) hx hb dX9_readsHung_32 (by decide) ?_
  replace hf := bd_some hf
  obtain ⟨q3, eq3, hf⟩ := hf
  refine gx_calli hG (gx_runV hXk F hX hG (c_X9_number l w hXk n  (0 : Int32) (9 : Int32) _ _ eq3) cv_X9_230 ⟨Nat.le_of_ble_eq_true rfl, Nat.le_of_ble_eq_true rfl⟩ (g_recv F hG mo_0 (by decide) rfl) rfl hl.1 rfl (Nat.le_of_ble_eq_true rfl) dX9_readsHung_34 ⟨Nat.le_refl _, Nat.le_refl _⟩) (fun H locs hG => ?_)
  replace hf := ck_some hf
  obtain ⟨k4, hf⟩ := hf
  refine g_iast F hG oM_6 k4 dX9_readsHung_37 (fun H locs hG => ?_)
  refine lv_aload_n hx hb dX9_readsHung_38 rfl (lv_at hl 0 rfl) ?_
  refine lv_dup hx hb dX9_readsHung_39 rfl ?_
  refine g_getI F hG mo_0 (by decide) (by decide) lk_X9_237 rfl dX9_readsHung_40 ?_
  refine lv_iconst (v := 1) hx hb dX9_readsHung_43 (by decide) ?_
  refine lv_iadd hx hb dX9_readsHung_44 ?_
  refine g_putI F hG mo_0 (by decide) (by decide) lkv_X9_237 rfl rfl rfl dX9_readsHung_45 (fun H locs hG => ?_)
  exact cg_vret F hr hlk hG hf dX9_readsHung_48

def f_X9_readsPlan (n : Nat) (M : Mem) : Option (Mem) := bd (f_X9_number n  (1 : Int32) (9 : Int32) M) (fun q1 => ck (inb (gi M 0 28) 16) (bd (f_X9_number n  (0 : Int32) (9 : Int32) (si q1.2 7 (gi M 0 28).toNatClampNeg q1.1)) (fun q3 => ck (inb (gi (si q1.2 7 (gi M 0 28).toNatClampNeg q1.1) 0 28) 16) (some (si (si q3.2 8 (gi (si q1.2 7 (gi M 0 28).toNatClampNeg q1.1) 0 28).toNatClampNeg q3.1) 0 28 ((gi (si q3.2 8 (gi (si q1.2 7 (gi M 0 28).toNatClampNeg q1.1) 0 28).toNatClampNeg q3.1) 0 28) + (1 : Int32)))))))
set_option maxHeartbeats 4000000 in
set_option maxRecDepth 100000 in
theorem c_X9_readsPlan (l : Launch) (w : Wd) {X : (Nat → Prop) → State → Heap → Prop} (hXk : XOK X) (n : Nat) (M : Mem) (res : Mem) (hf : f_X9_readsPlan n   M = some res) : CG l w layM 24 X yX9_readsPlan cX9_readsPlan 1 none 3 [.ref (w.2.2.1 0)] M (GQv w layM 24 res) := by
  refine cg_start (by decide +kernel) (Nat.le_of_ble_eq_true rfl) ?_
  intro p e s m args below meth c F hr hlk hX hG ls hl
  have F : FX w p m c cX9_readsPlan 1 s args RX9 := F
  have hx := F.1.1
  have hb := F.1.2.1
  have hl : lv_has ls 1 [(0, .ref (w.2.2.1 0))] := hl
  unfold f_X9_readsPlan at hf
  refine lv_aload_n hx hb dX9_readsPlan_0 rfl (lv_at hl 0 rfl) ?_
  refine g_getR F hG 7 mo_0 (by decide) (by decide) lk_X9_47 rfl dX9_readsPlan_1 ?_
  refine lv_aload_n hx hb dX9_readsPlan_4 rfl (lv_at hl 0 rfl) ?_
  refine g_getI F hG mo_0 (by decide) (by decide) lk_X9_240 rfl dX9_readsPlan_5 ?_
  refine lv_aload_n hx hb dX9_readsPlan_8 rfl (lv_at hl 0 rfl) ?_
  refine lv_iconst (v := 1) hx hb dX9_readsPlan_9 (by decide) ?_
  refine lv_bipush (v := 9) hx hb dX9_readsPlan_10 (by decide) ?_
  replace hf := bd_some hf
  obtain ⟨q1, eq1, hf⟩ := hf
  refine gx_calli hG (gx_runV hXk F hX hG (c_X9_number l w hXk n  (1 : Int32) (9 : Int32) _ _ eq1) cv_X9_230 ⟨Nat.le_of_ble_eq_true rfl, Nat.le_of_ble_eq_true rfl⟩ (g_recv F hG mo_0 (by decide) rfl) rfl hl.1 rfl (Nat.le_of_ble_eq_true rfl) dX9_readsPlan_12 ⟨Nat.le_refl _, Nat.le_refl _⟩) (fun H locs hG => ?_)
  replace hf := ck_some hf
  obtain ⟨k2, hf⟩ := hf
  refine g_iast F hG oM_7 k2 dX9_readsPlan_15 (fun H locs hG => ?_)
  refine lv_aload_n hx hb dX9_readsPlan_16 rfl (lv_at hl 0 rfl) ?_
  refine g_getR F hG 8 mo_0 (by decide) (by decide) lk_X9_50 rfl dX9_readsPlan_17 ?_
  refine lv_aload_n hx hb dX9_readsPlan_20 rfl (lv_at hl 0 rfl) ?_
  refine g_getI F hG mo_0 (by decide) (by decide) lk_X9_240 rfl dX9_readsPlan_21 ?_
  refine lv_aload_n hx hb dX9_readsPlan_24 rfl (lv_at hl 0 rfl) ?_
  refine lv_iconst (v := 0) hx hb dX9_readsPlan_25 (by decide) ?_
  refine lv_bipush (v := 9) hx hb dX9_readsPlan_26 (by decide) ?_
  replace hf := bd_some hf
  obtain ⟨q3, eq3, hf⟩ := hf
  refine gx_calli hG (gx_runV hXk F hX hG (c_X9_number l w hXk n  (0 : Int32) (9 : Int32) _ _ eq3) cv_X9_230 ⟨Nat.le_of_ble_eq_true rfl, Nat.le_of_ble_eq_true rfl⟩ (g_recv F hG mo_0 (by decide) rfl) rfl hl.1 rfl (Nat.le_of_ble_eq_true rfl) dX9_readsPlan_28 ⟨Nat.le_refl _, Nat.le_refl _⟩) (fun H locs hG => ?_)
  replace hf := ck_some hf
  obtain ⟨k4, hf⟩ := hf
  refine g_iast F hG oM_8 k4 dX9_readsPlan_31 (fun H locs hG => ?_)
  refine lv_aload_n hx hb dX9_readsPlan_32 rfl (lv_at hl 0 rfl) ?_
  refine lv_dup hx hb dX9_readsPlan_33 rfl ?_
  refine g_getI F hG mo_0 (by decide) (by decide) lk_X9_240 rfl dX9_readsPlan_34 ?_
  refine lv_iconst (v := 1) hx hb dX9_readsPlan_37 (by decide) ?_
  refine lv_iadd hx hb dX9_readsPlan_38 ?_
  refine g_putI F hG mo_0 (by decide) (by decide) lkv_X9_240 rfl rfl rfl dX9_readsPlan_39 (fun H locs hG => ?_)
  exact cg_vret F hr hlk hG hf dX9_readsPlan_42

def f_X9_readsWard (n : Nat) (M : Mem) : Option (Mem) := bd (f_X9_number n  (0 : Int32) (99 : Int32) M) (fun q1 => ck (inb ((38 : Int32) + (gi M 0 23)) 54) (bd (f_X9_isGood n   (si q1.2 6 ((38 : Int32) + (gi M 0 23)).toNatClampNeg q1.1)) (fun q3 => if q3.1 = 0 then (some q3.2) else (some (si q3.2 0 23 ((gi q3.2 0 23) + (1 : Int32)))))))
set_option maxHeartbeats 4000000 in
set_option maxRecDepth 100000 in
theorem c_X9_readsWard (l : Launch) (w : Wd) {X : (Nat → Prop) → State → Heap → Prop} (hXk : XOK X) (n : Nat) (M : Mem) (res : Mem) (hf : f_X9_readsWard n   M = some res) : CG l w layM 24 X yX9_readsWard cX9_readsWard 1 none 3 [.ref (w.2.2.1 0)] M (GQv w layM 24 res) := by
  refine cg_start (by decide +kernel) (Nat.le_of_ble_eq_true rfl) ?_
  intro p e s m args below meth c F hr hlk hX hG ls hl
  have F : FX w p m c cX9_readsWard 1 s args RX9 := F
  have hx := F.1.1
  have hb := F.1.2.1
  have hl : lv_has ls 1 [(0, .ref (w.2.2.1 0))] := hl
  unfold f_X9_readsWard at hf
  refine lv_aload_n hx hb dX9_readsWard_0 rfl (lv_at hl 0 rfl) ?_
  refine g_getR F hG 6 mo_0 (by decide) (by decide) lk_X9_44 rfl dX9_readsWard_1 ?_
  refine lv_bipush (v := 38) hx hb dX9_readsWard_4 (by decide) ?_
  refine lv_aload_n hx hb dX9_readsWard_6 rfl (lv_at hl 0 rfl) ?_
  refine g_getI F hG mo_0 (by decide) (by decide) lk_X9_171 rfl dX9_readsWard_7 ?_
  refine lv_iadd hx hb dX9_readsWard_10 ?_
  refine lv_aload_n hx hb dX9_readsWard_11 rfl (lv_at hl 0 rfl) ?_
  refine lv_iconst (v := 0) hx hb dX9_readsWard_12 (by decide) ?_
  refine lv_bipush (v := 99) hx hb dX9_readsWard_13 (by decide) ?_
  replace hf := bd_some hf
  obtain ⟨q1, eq1, hf⟩ := hf
  refine gx_calli hG (gx_runV hXk F hX hG (c_X9_number l w hXk n  (0 : Int32) (99 : Int32) _ _ eq1) cv_X9_230 ⟨Nat.le_of_ble_eq_true rfl, Nat.le_of_ble_eq_true rfl⟩ (g_recv F hG mo_0 (by decide) rfl) rfl hl.1 rfl (Nat.le_of_ble_eq_true rfl) dX9_readsWard_15 ⟨Nat.le_refl _, Nat.le_refl _⟩) (fun H locs hG => ?_)
  replace hf := ck_some hf
  obtain ⟨k2, hf⟩ := hf
  refine g_iast F hG oM_6 k2 dX9_readsWard_18 (fun H locs hG => ?_)
  refine lv_aload_n hx hb dX9_readsWard_19 rfl (lv_at hl 0 rfl) ?_
  replace hf := bd_some hf
  obtain ⟨q3, eq3, hf⟩ := hf
  refine gx_calli hG (gx_runV hXk F hX hG (c_X9_isGood l w hXk n   _ _ eq3) cv_X9_161 ⟨Nat.le_of_ble_eq_true rfl, Nat.le_of_ble_eq_true rfl⟩ (g_recv F hG mo_0 (by decide) rfl) rfl hl.1 rfl (Nat.le_of_ble_eq_true rfl) dX9_readsWard_20 ⟨Nat.le_refl _, Nat.le_refl _⟩) (fun H locs hG => ?_)
  refine lv_if_eq (tgt := 36) hx hb dX9_readsWard_23 (by decide) (fun c4 => ?_) (fun c4 => ?_)
  · replace hf := if_t c4 hf
    exact cg_vret F hr hlk hG hf dX9_readsWard_36
  · replace hf := if_f c4 hf
    refine lv_aload_n hx hb dX9_readsWard_26 rfl (lv_at hl 0 rfl) ?_
    refine lv_dup hx hb dX9_readsWard_27 rfl ?_
    refine g_getI F hG mo_0 (by decide) (by decide) lk_X9_171 rfl dX9_readsWard_28 ?_
    refine lv_iconst (v := 1) hx hb dX9_readsWard_31 (by decide) ?_
    refine lv_iadd hx hb dX9_readsWard_32 ?_
    refine g_putI F hG mo_0 (by decide) (by decide) lkv_X9_171 rfl rfl rfl dX9_readsWard_33 (fun H locs hG => ?_)
    exact cg_vret F hr hlk hG hf dX9_readsWard_36

def j_X9_line_378 (n : Nat) (M : Mem) : Option (Mem) := bd (f_X9_isSign n  (59 : Int32) M) (fun q1 => bd (f_X9_need n  q1.1 q1.2) (fun q2 => some q2))
def j_X9_line_90 (n : Nat) (t0 : Int32) (t1 : Int32) (M : Mem) : Option (Mem) := bd (f_X9_begins n  t1 t0 M) (fun q3 => if q3.1 = 0 then (j_X9_line_378 n  q3.2) else (bd (f_X9_number n  (2 : Int32) (16 : Int32) q3.2) (fun q5 => j_X9_line_378 n  (si q5.2 0 24 q5.1))))
def j_X9_line_131 (n : Nat) (t0 : Int32) (t1 : Int32) (M : Mem) : Option (Mem) := bd (f_X9_begins n  t1 t0 M) (fun q6 => if q6.1 = 0 then (j_X9_line_378 n  q6.2) else (bd (f_X9_number n  (1 : Int32) (99 : Int32) q6.2) (fun q8 => j_X9_line_378 n  (si q8.2 0 25 q8.1))))
def j_X9_line_172 (n : Nat) (t0 : Int32) (M : Mem) : Option (Mem) := bd (f_X9_begins n  t0 (0 : Int32) M) (fun q9 => if q9.1 = 0 then (j_X9_line_378 n  q9.2) else (bd (f_X9_readsWard n   q9.2) (fun q11 => j_X9_line_378 n  q11)))
def j_X9_line_226 (n : Nat) (t0 : Int32) (t1 : Int32) (M : Mem) : Option (Mem) := bd (f_X9_begins n  t1 t0 M) (fun q12 => if q12.1 = 0 then (j_X9_line_378 n  q12.2) else (bd (f_X9_readsWinds n   q12.2) (fun q14 => j_X9_line_378 n  q14)))
def j_X9_line_260 (n : Nat) (t0 : Int32) (t1 : Int32) (M : Mem) : Option (Mem) := bd (f_X9_begins n  t1 t0 M) (fun q15 => if q15.1 = 0 then (j_X9_line_378 n  q15.2) else (bd (f_X9_expression n  (0 : Int32) (5 : Int32) (si q15.2 0 29 (gi q15.2 0 32))) (fun q17 => j_X9_line_378 n  q17)))
def j_X9_line_304 (n : Nat) (t0 : Int32) (t1 : Int32) (M : Mem) : Option (Mem) := bd (f_X9_begins n  t1 t0 M) (fun q18 => if q18.1 = 0 then (j_X9_line_378 n  q18.2) else (bd (f_X9_expression n  (3 : Int32) (8 : Int32) (si q18.2 0 30 (gi q18.2 0 32))) (fun q20 => j_X9_line_378 n  q20)))
def j_X9_line_349 (n : Nat) (t0 : Int32) (t1 : Int32) (M : Mem) : Option (Mem) := bd (f_X9_begins n  t1 t0 M) (fun q21 => if q21.1 = 0 then (j_X9_line_378 n  q21.2) else (bd (f_X9_expression n  (3 : Int32) (8 : Int32) (si q21.2 0 31 (gi q21.2 0 32))) (fun q23 => j_X9_line_378 n  q23)))
def j_X9_line_24 (n : Nat) (t0 : Int32) (x1 : Int32) (M : Mem) : Option (Mem) := if x1 = (9 : Int32) then (bd (f_X9_begins n  t0 (0 : Int32) M) (fun q25 => if q25.1 = 0 then (j_X9_line_378 n  q25.2) else (bd (f_X9_readsHung n   q25.2) (fun q27 => j_X9_line_378 n  q27)))) else (if x1 = (10 : Int32) then (bd (f_X9_begins n  t0 (0 : Int32) M) (fun q29 => if q29.1 = 0 then (j_X9_line_378 n  q29.2) else (bd (f_X9_readsPlan n   q29.2) (fun q31 => j_X9_line_378 n  q31)))) else (if x1 = (11 : Int32) then (if (gi M 0 24) = (-1 : Int32) then (j_X9_line_90 n  (0 : Int32) (0 : Int32) M) else (j_X9_line_90 n  (1 : Int32) (0 : Int32) M)) else (if x1 = (12 : Int32) then (if (gi M 0 25) = (-1 : Int32) then (j_X9_line_131 n  (0 : Int32) (0 : Int32) M) else (j_X9_line_131 n  (1 : Int32) (0 : Int32) M)) else (if x1 = (13 : Int32) then (if (gi M 0 23) = (8 : Int32) then (j_X9_line_172 n  (1 : Int32) M) else (j_X9_line_172 n  (0 : Int32) M)) else (if x1 = (14 : Int32) then (bd (f_X9_begins n  (0 : Int32) (0 : Int32) M) (fun q39 => if q39.1 = 0 then (j_X9_line_378 n  q39.2) else (bd (f_X9_readsStreet n   q39.2) (fun q41 => j_X9_line_378 n  q41)))) else (if x1 = 0 then (if (gi M 0 26) ≤ 0 then (j_X9_line_226 n  (0 : Int32) (0 : Int32) M) else (j_X9_line_226 n  (1 : Int32) (0 : Int32) M)) else (if x1 = (15 : Int32) then (if (gi M 0 29) = (-1 : Int32) then (j_X9_line_260 n  (0 : Int32) (0 : Int32) M) else (j_X9_line_260 n  (1 : Int32) (0 : Int32) M)) else (if x1 = (16 : Int32) then (if (gi M 0 30) = (-1 : Int32) then (j_X9_line_304 n  (0 : Int32) (0 : Int32) M) else (j_X9_line_304 n  (1 : Int32) (0 : Int32) M)) else (if x1 = (17 : Int32) then (if (gi M 0 31) = (-1 : Int32) then (j_X9_line_349 n  (0 : Int32) (0 : Int32) M) else (j_X9_line_349 n  (1 : Int32) (0 : Int32) M)) else (bd (f_X9_wrong n  (1 : Int32) M) (fun q50 => j_X9_line_378 n  q50)))))))))))
def f_X9_line (n : Nat) (M : Mem) : Option (Mem) := bd (f_X9_knownWord n   M) (fun q51 => if ((gi q51.2 0 27) + (gi q51.2 0 28)) = (16 : Int32) then (j_X9_line_24 n  (1 : Int32) q51.1 q51.2) else (j_X9_line_24 n  (0 : Int32) q51.1 q51.2))
set_option maxHeartbeats 4000000 in
set_option maxRecDepth 100000 in
theorem c_X9_line (l : Launch) (w : Wd) {X : (Nat → Prop) → State → Heap → Prop} (hXk : XOK X) (n : Nat) (M : Mem) (res : Mem) (hf : f_X9_line n   M = some res) : CG l w layM 24 X yX9_line cX9_line 3 none 6 [.ref (w.2.2.1 0)] M (GQv w layM 24 res) := by
  refine cg_start (by decide +kernel) (Nat.le_of_ble_eq_true rfl) ?_
  intro p e s m args below meth c F hr hlk hX hG ls hl
  have F : FX w p m c cX9_line 3 s args RX9 := F
  have hx := F.1.1
  have hb := F.1.2.1
  have hl : lv_has ls 3 [(0, .ref (w.2.2.1 0))] := hl
  have hJ378 : ∀ (M : Mem) (H : Heap) (locs : List Loc) (ls : Array Slot), j_X9_line_378 n   M = some res → GI w layM 24 s.heap M H locs → lv_has ls 3 [(0, .ref (w.2.2.1 0))] → W p l e (Rm 6) s m args below meth c H locs 0 0 (MQ below (GQv w layM 24 res s.heap.size) args s 0 0 (gA w.2.2.1 24 s.heap.size)) (F0 m 378 ls []) := by
    intro  M H locs ls hf hG hl
    unfold j_X9_line_378 at hf
    refine lv_aload_n hx hb dX9_line_378 rfl (lv_at hl 0 rfl) ?_
    refine lv_aload_n hx hb dX9_line_379 rfl (lv_at hl 0 rfl) ?_
    refine lv_bipush (v := 59) hx hb dX9_line_380 (by decide) ?_
    replace hf := bd_some hf
    obtain ⟨q1, eq1, hf⟩ := hf
    refine gx_calli hG (gx_runV hXk F hX hG (c_X9_isSign l w hXk n  (59 : Int32) _ _ eq1) cv_X9_202 ⟨Nat.le_of_ble_eq_true rfl, Nat.le_of_ble_eq_true rfl⟩ (g_recv F hG mo_0 (by decide) rfl) rfl hl.1 rfl (Nat.le_of_ble_eq_true rfl) dX9_line_382 ⟨Nat.le_refl _, Nat.le_refl _⟩) (fun H locs hG => ?_)
    replace hf := bd_some hf
    obtain ⟨q2, eq2, hf⟩ := hf
    refine gx_callv hG (gx_runV hXk F hX hG (c_X9_need l w hXk n  q1.1 _ _ eq2) cv_X9_281 ⟨Nat.le_of_ble_eq_true rfl, Nat.le_of_ble_eq_true rfl⟩ (g_recv F hG mo_0 (by decide) rfl) rfl hl.1 rfl (Nat.le_of_ble_eq_true rfl) dX9_line_385 ⟨Nat.le_refl _, Nat.le_refl _⟩) (fun H locs hG => ?_)
    exact cg_vret F hr hlk hG hf dX9_line_388
  have hJ90 : ∀ (t0 : Int32) (t1 : Int32) (M : Mem) (H : Heap) (locs : List Loc) (ls : Array Slot), j_X9_line_90 n  t0 t1 M = some res → GI w layM 24 s.heap M H locs → lv_has ls 3 [(0, .ref (w.2.2.1 0))] → W p l e (Rm 6) s m args below meth c H locs 0 0 (MQ below (GQv w layM 24 res s.heap.size) args s 0 0 (gA w.2.2.1 24 s.heap.size)) (F0 m 90 ls [.int t0, .int t1, .ref (w.2.2.1 0)]) := by
    intro t0 t1 M H locs ls hf hG hl
    unfold j_X9_line_90 at hf
    replace hf := bd_some hf
    obtain ⟨q3, eq3, hf⟩ := hf
    refine gx_calli hG (gx_runV hXk F hX hG (c_X9_begins l w hXk n  t1 t0 _ _ eq3) cv_X9_243 ⟨Nat.le_of_ble_eq_true rfl, Nat.le_of_ble_eq_true rfl⟩ (g_recv F hG mo_0 (by decide) rfl) rfl hl.1 rfl (Nat.le_of_ble_eq_true rfl) dX9_line_90 ⟨Nat.le_refl _, Nat.le_refl _⟩) (fun H locs hG => ?_)
    refine lv_if_eq (tgt := 378) hx hb dX9_line_93 (by decide) (fun c4 => ?_) (fun c4 => ?_)
    · replace hf := if_t c4 hf
      exact hJ378  _ _ _ ls hf hG (lv_sub hl [0] rfl)
    · replace hf := if_f c4 hf
      refine lv_aload_n hx hb dX9_line_96 rfl (lv_at hl 0 rfl) ?_
      refine lv_aload_n hx hb dX9_line_97 rfl (lv_at hl 0 rfl) ?_
      refine lv_iconst (v := 2) hx hb dX9_line_98 (by decide) ?_
      refine lv_bipush (v := 16) hx hb dX9_line_99 (by decide) ?_
      replace hf := bd_some hf
      obtain ⟨q5, eq5, hf⟩ := hf
      refine gx_calli hG (gx_runV hXk F hX hG (c_X9_number l w hXk n  (2 : Int32) (16 : Int32) _ _ eq5) cv_X9_230 ⟨Nat.le_of_ble_eq_true rfl, Nat.le_of_ble_eq_true rfl⟩ (g_recv F hG mo_0 (by decide) rfl) rfl hl.1 rfl (Nat.le_of_ble_eq_true rfl) dX9_line_101 ⟨Nat.le_refl _, Nat.le_refl _⟩) (fun H locs hG => ?_)
      refine g_putI F hG mo_0 (by decide) (by decide) lkv_X9_253 rfl rfl rfl dX9_line_104 (fun H locs hG => ?_)
      refine lv_goto (tgt := 378) hx hb dX9_line_107 (by decide) ?_
      exact hJ378  _ _ _ ls hf hG (lv_sub hl [0] rfl)
  have hJ131 : ∀ (t0 : Int32) (t1 : Int32) (M : Mem) (H : Heap) (locs : List Loc) (ls : Array Slot), j_X9_line_131 n  t0 t1 M = some res → GI w layM 24 s.heap M H locs → lv_has ls 3 [(0, .ref (w.2.2.1 0))] → W p l e (Rm 6) s m args below meth c H locs 0 0 (MQ below (GQv w layM 24 res s.heap.size) args s 0 0 (gA w.2.2.1 24 s.heap.size)) (F0 m 131 ls [.int t0, .int t1, .ref (w.2.2.1 0)]) := by
    intro t0 t1 M H locs ls hf hG hl
    unfold j_X9_line_131 at hf
    replace hf := bd_some hf
    obtain ⟨q6, eq6, hf⟩ := hf
    refine gx_calli hG (gx_runV hXk F hX hG (c_X9_begins l w hXk n  t1 t0 _ _ eq6) cv_X9_243 ⟨Nat.le_of_ble_eq_true rfl, Nat.le_of_ble_eq_true rfl⟩ (g_recv F hG mo_0 (by decide) rfl) rfl hl.1 rfl (Nat.le_of_ble_eq_true rfl) dX9_line_131 ⟨Nat.le_refl _, Nat.le_refl _⟩) (fun H locs hG => ?_)
    refine lv_if_eq (tgt := 378) hx hb dX9_line_134 (by decide) (fun c7 => ?_) (fun c7 => ?_)
    · replace hf := if_t c7 hf
      exact hJ378  _ _ _ ls hf hG (lv_sub hl [0] rfl)
    · replace hf := if_f c7 hf
      refine lv_aload_n hx hb dX9_line_137 rfl (lv_at hl 0 rfl) ?_
      refine lv_aload_n hx hb dX9_line_138 rfl (lv_at hl 0 rfl) ?_
      refine lv_iconst (v := 1) hx hb dX9_line_139 (by decide) ?_
      refine lv_bipush (v := 99) hx hb dX9_line_140 (by decide) ?_
      replace hf := bd_some hf
      obtain ⟨q8, eq8, hf⟩ := hf
      refine gx_calli hG (gx_runV hXk F hX hG (c_X9_number l w hXk n  (1 : Int32) (99 : Int32) _ _ eq8) cv_X9_230 ⟨Nat.le_of_ble_eq_true rfl, Nat.le_of_ble_eq_true rfl⟩ (g_recv F hG mo_0 (by decide) rfl) rfl hl.1 rfl (Nat.le_of_ble_eq_true rfl) dX9_line_142 ⟨Nat.le_refl _, Nat.le_refl _⟩) (fun H locs hG => ?_)
      refine g_putI F hG mo_0 (by decide) (by decide) lkv_X9_256 rfl rfl rfl dX9_line_145 (fun H locs hG => ?_)
      refine lv_goto (tgt := 378) hx hb dX9_line_148 (by decide) ?_
      exact hJ378  _ _ _ ls hf hG (lv_sub hl [0] rfl)
  have hJ172 : ∀ (t0 : Int32) (M : Mem) (H : Heap) (locs : List Loc) (ls : Array Slot), j_X9_line_172 n  t0 M = some res → GI w layM 24 s.heap M H locs → lv_has ls 3 [(0, .ref (w.2.2.1 0))] → W p l e (Rm 6) s m args below meth c H locs 0 0 (MQ below (GQv w layM 24 res s.heap.size) args s 0 0 (gA w.2.2.1 24 s.heap.size)) (F0 m 172 ls [.int t0, .ref (w.2.2.1 0)]) := by
    intro t0 M H locs ls hf hG hl
    unfold j_X9_line_172 at hf
    refine lv_iconst (v := 0) hx hb dX9_line_172 (by decide) ?_
    replace hf := bd_some hf
    obtain ⟨q9, eq9, hf⟩ := hf
    refine gx_calli hG (gx_runV hXk F hX hG (c_X9_begins l w hXk n  t0 (0 : Int32) _ _ eq9) cv_X9_243 ⟨Nat.le_of_ble_eq_true rfl, Nat.le_of_ble_eq_true rfl⟩ (g_recv F hG mo_0 (by decide) rfl) rfl hl.1 rfl (Nat.le_of_ble_eq_true rfl) dX9_line_173 ⟨Nat.le_refl _, Nat.le_refl _⟩) (fun H locs hG => ?_)
    refine lv_if_eq (tgt := 378) hx hb dX9_line_176 (by decide) (fun c10 => ?_) (fun c10 => ?_)
    · replace hf := if_t c10 hf
      exact hJ378  _ _ _ ls hf hG (lv_sub hl [0] rfl)
    · replace hf := if_f c10 hf
      refine lv_aload_n hx hb dX9_line_179 rfl (lv_at hl 0 rfl) ?_
      replace hf := bd_some hf
      obtain ⟨q11, eq11, hf⟩ := hf
      refine gx_callv hG (gx_runV hXk F hX hG (c_X9_readsWard l w hXk n   _ _ eq11) cv_X9_259 ⟨Nat.le_of_ble_eq_true rfl, Nat.le_of_ble_eq_true rfl⟩ (g_recv F hG mo_0 (by decide) rfl) rfl hl.1 rfl (Nat.le_of_ble_eq_true rfl) dX9_line_180 ⟨Nat.le_refl _, Nat.le_refl _⟩) (fun H locs hG => ?_)
      refine lv_goto (tgt := 378) hx hb dX9_line_183 (by decide) ?_
      exact hJ378  _ _ _ ls hf hG (lv_sub hl [0] rfl)
  have hJ226 : ∀ (t0 : Int32) (t1 : Int32) (M : Mem) (H : Heap) (locs : List Loc) (ls : Array Slot), j_X9_line_226 n  t0 t1 M = some res → GI w layM 24 s.heap M H locs → lv_has ls 3 [(0, .ref (w.2.2.1 0))] → W p l e (Rm 6) s m args below meth c H locs 0 0 (MQ below (GQv w layM 24 res s.heap.size) args s 0 0 (gA w.2.2.1 24 s.heap.size)) (F0 m 226 ls [.int t0, .int t1, .ref (w.2.2.1 0)]) := by
    intro t0 t1 M H locs ls hf hG hl
    unfold j_X9_line_226 at hf
    replace hf := bd_some hf
    obtain ⟨q12, eq12, hf⟩ := hf
    refine gx_calli hG (gx_runV hXk F hX hG (c_X9_begins l w hXk n  t1 t0 _ _ eq12) cv_X9_243 ⟨Nat.le_of_ble_eq_true rfl, Nat.le_of_ble_eq_true rfl⟩ (g_recv F hG mo_0 (by decide) rfl) rfl hl.1 rfl (Nat.le_of_ble_eq_true rfl) dX9_line_226 ⟨Nat.le_refl _, Nat.le_refl _⟩) (fun H locs hG => ?_)
    refine lv_if_eq (tgt := 378) hx hb dX9_line_229 (by decide) (fun c13 => ?_) (fun c13 => ?_)
    · replace hf := if_t c13 hf
      exact hJ378  _ _ _ ls hf hG (lv_sub hl [0] rfl)
    · replace hf := if_f c13 hf
      refine lv_aload_n hx hb dX9_line_232 rfl (lv_at hl 0 rfl) ?_
      replace hf := bd_some hf
      obtain ⟨q14, eq14, hf⟩ := hf
      refine gx_callv hG (gx_runV hXk F hX hG (c_X9_readsWinds l w hXk n   _ _ eq14) cv_X9_265 ⟨Nat.le_of_ble_eq_true rfl, Nat.le_of_ble_eq_true rfl⟩ (g_recv F hG mo_0 (by decide) rfl) rfl hl.1 rfl (Nat.le_of_ble_eq_true rfl) dX9_line_233 ⟨Nat.le_refl _, Nat.le_refl _⟩) (fun H locs hG => ?_)
      refine lv_goto (tgt := 378) hx hb dX9_line_236 (by decide) ?_
      exact hJ378  _ _ _ ls hf hG (lv_sub hl [0] rfl)
  have hJ260 : ∀ (t0 : Int32) (t1 : Int32) (M : Mem) (H : Heap) (locs : List Loc) (ls : Array Slot), j_X9_line_260 n  t0 t1 M = some res → GI w layM 24 s.heap M H locs → lv_has ls 3 [(0, .ref (w.2.2.1 0))] → W p l e (Rm 6) s m args below meth c H locs 0 0 (MQ below (GQv w layM 24 res s.heap.size) args s 0 0 (gA w.2.2.1 24 s.heap.size)) (F0 m 260 ls [.int t0, .int t1, .ref (w.2.2.1 0)]) := by
    intro t0 t1 M H locs ls hf hG hl
    unfold j_X9_line_260 at hf
    replace hf := bd_some hf
    obtain ⟨q15, eq15, hf⟩ := hf
    refine gx_calli hG (gx_runV hXk F hX hG (c_X9_begins l w hXk n  t1 t0 _ _ eq15) cv_X9_243 ⟨Nat.le_of_ble_eq_true rfl, Nat.le_of_ble_eq_true rfl⟩ (g_recv F hG mo_0 (by decide) rfl) rfl hl.1 rfl (Nat.le_of_ble_eq_true rfl) dX9_line_260 ⟨Nat.le_refl _, Nat.le_refl _⟩) (fun H locs hG => ?_)
    refine lv_if_eq (tgt := 378) hx hb dX9_line_263 (by decide) (fun c16 => ?_) (fun c16 => ?_)
    · replace hf := if_t c16 hf
      exact hJ378  _ _ _ ls hf hG (lv_sub hl [0] rfl)
    · replace hf := if_f c16 hf
      refine lv_aload_n hx hb dX9_line_266 rfl (lv_at hl 0 rfl) ?_
      refine lv_aload_n hx hb dX9_line_267 rfl (lv_at hl 0 rfl) ?_
      refine g_getI F hG mo_0 (by decide) (by decide) lk_X9_174 rfl dX9_line_268 ?_
      refine g_putI F hG mo_0 (by decide) (by decide) lkv_X9_268 rfl rfl rfl dX9_line_271 (fun H locs hG => ?_)
      refine lv_aload_n hx hb dX9_line_274 rfl (lv_at hl 0 rfl) ?_
      refine lv_iconst (v := 0) hx hb dX9_line_275 (by decide) ?_
      refine lv_iconst (v := 5) hx hb dX9_line_276 (by decide) ?_
      replace hf := bd_some hf
      obtain ⟨q17, eq17, hf⟩ := hf
      refine gx_callv hG (gx_runV hXk F hX hG (c_X9_expression l w hXk n  (0 : Int32) (5 : Int32) _ _ eq17) cv_X9_271 ⟨Nat.le_of_ble_eq_true rfl, Nat.le_of_ble_eq_true rfl⟩ (g_recv F hG mo_0 (by decide) rfl) rfl hl.1 rfl (Nat.le_of_ble_eq_true rfl) dX9_line_277 ⟨Nat.le_refl _, Nat.le_refl _⟩) (fun H locs hG => ?_)
      refine lv_goto (tgt := 378) hx hb dX9_line_280 (by decide) ?_
      exact hJ378  _ _ _ ls hf hG (lv_sub hl [0] rfl)
  have hJ304 : ∀ (t0 : Int32) (t1 : Int32) (M : Mem) (H : Heap) (locs : List Loc) (ls : Array Slot), j_X9_line_304 n  t0 t1 M = some res → GI w layM 24 s.heap M H locs → lv_has ls 3 [(0, .ref (w.2.2.1 0))] → W p l e (Rm 6) s m args below meth c H locs 0 0 (MQ below (GQv w layM 24 res s.heap.size) args s 0 0 (gA w.2.2.1 24 s.heap.size)) (F0 m 304 ls [.int t0, .int t1, .ref (w.2.2.1 0)]) := by
    intro t0 t1 M H locs ls hf hG hl
    unfold j_X9_line_304 at hf
    replace hf := bd_some hf
    obtain ⟨q18, eq18, hf⟩ := hf
    refine gx_calli hG (gx_runV hXk F hX hG (c_X9_begins l w hXk n  t1 t0 _ _ eq18) cv_X9_243 ⟨Nat.le_of_ble_eq_true rfl, Nat.le_of_ble_eq_true rfl⟩ (g_recv F hG mo_0 (by decide) rfl) rfl hl.1 rfl (Nat.le_of_ble_eq_true rfl) dX9_line_304 ⟨Nat.le_refl _, Nat.le_refl _⟩) (fun H locs hG => ?_)
    refine lv_if_eq (tgt := 378) hx hb dX9_line_307 (by decide) (fun c19 => ?_) (fun c19 => ?_)
    · replace hf := if_t c19 hf
      exact hJ378  _ _ _ ls hf hG (lv_sub hl [0] rfl)
    · replace hf := if_f c19 hf
      refine lv_aload_n hx hb dX9_line_310 rfl (lv_at hl 0 rfl) ?_
      refine lv_aload_n hx hb dX9_line_311 rfl (lv_at hl 0 rfl) ?_
      refine g_getI F hG mo_0 (by decide) (by decide) lk_X9_174 rfl dX9_line_312 ?_
      refine g_putI F hG mo_0 (by decide) (by decide) lkv_X9_275 rfl rfl rfl dX9_line_315 (fun H locs hG => ?_)
      refine lv_aload_n hx hb dX9_line_318 rfl (lv_at hl 0 rfl) ?_
      refine lv_iconst (v := 3) hx hb dX9_line_319 (by decide) ?_
      refine lv_bipush (v := 8) hx hb dX9_line_320 (by decide) ?_
      replace hf := bd_some hf
      obtain ⟨q20, eq20, hf⟩ := hf
      refine gx_callv hG (gx_runV hXk F hX hG (c_X9_expression l w hXk n  (3 : Int32) (8 : Int32) _ _ eq20) cv_X9_271 ⟨Nat.le_of_ble_eq_true rfl, Nat.le_of_ble_eq_true rfl⟩ (g_recv F hG mo_0 (by decide) rfl) rfl hl.1 rfl (Nat.le_of_ble_eq_true rfl) dX9_line_322 ⟨Nat.le_refl _, Nat.le_refl _⟩) (fun H locs hG => ?_)
      refine lv_goto (tgt := 378) hx hb dX9_line_325 (by decide) ?_
      exact hJ378  _ _ _ ls hf hG (lv_sub hl [0] rfl)
  have hJ349 : ∀ (t0 : Int32) (t1 : Int32) (M : Mem) (H : Heap) (locs : List Loc) (ls : Array Slot), j_X9_line_349 n  t0 t1 M = some res → GI w layM 24 s.heap M H locs → lv_has ls 3 [(0, .ref (w.2.2.1 0))] → W p l e (Rm 6) s m args below meth c H locs 0 0 (MQ below (GQv w layM 24 res s.heap.size) args s 0 0 (gA w.2.2.1 24 s.heap.size)) (F0 m 349 ls [.int t0, .int t1, .ref (w.2.2.1 0)]) := by
    intro t0 t1 M H locs ls hf hG hl
    unfold j_X9_line_349 at hf
    replace hf := bd_some hf
    obtain ⟨q21, eq21, hf⟩ := hf
    refine gx_calli hG (gx_runV hXk F hX hG (c_X9_begins l w hXk n  t1 t0 _ _ eq21) cv_X9_243 ⟨Nat.le_of_ble_eq_true rfl, Nat.le_of_ble_eq_true rfl⟩ (g_recv F hG mo_0 (by decide) rfl) rfl hl.1 rfl (Nat.le_of_ble_eq_true rfl) dX9_line_349 ⟨Nat.le_refl _, Nat.le_refl _⟩) (fun H locs hG => ?_)
    refine lv_if_eq (tgt := 378) hx hb dX9_line_352 (by decide) (fun c22 => ?_) (fun c22 => ?_)
    · replace hf := if_t c22 hf
      exact hJ378  _ _ _ ls hf hG (lv_sub hl [0] rfl)
    · replace hf := if_f c22 hf
      refine lv_aload_n hx hb dX9_line_355 rfl (lv_at hl 0 rfl) ?_
      refine lv_aload_n hx hb dX9_line_356 rfl (lv_at hl 0 rfl) ?_
      refine g_getI F hG mo_0 (by decide) (by decide) lk_X9_174 rfl dX9_line_357 ?_
      refine g_putI F hG mo_0 (by decide) (by decide) lkv_X9_278 rfl rfl rfl dX9_line_360 (fun H locs hG => ?_)
      refine lv_aload_n hx hb dX9_line_363 rfl (lv_at hl 0 rfl) ?_
      refine lv_iconst (v := 3) hx hb dX9_line_364 (by decide) ?_
      refine lv_bipush (v := 8) hx hb dX9_line_365 (by decide) ?_
      replace hf := bd_some hf
      obtain ⟨q23, eq23, hf⟩ := hf
      refine gx_callv hG (gx_runV hXk F hX hG (c_X9_expression l w hXk n  (3 : Int32) (8 : Int32) _ _ eq23) cv_X9_271 ⟨Nat.le_of_ble_eq_true rfl, Nat.le_of_ble_eq_true rfl⟩ (g_recv F hG mo_0 (by decide) rfl) rfl hl.1 rfl (Nat.le_of_ble_eq_true rfl) dX9_line_367 ⟨Nat.le_refl _, Nat.le_refl _⟩) (fun H locs hG => ?_)
      refine lv_goto (tgt := 378) hx hb dX9_line_370 (by decide) ?_
      exact hJ378  _ _ _ ls hf hG (lv_sub hl [0] rfl)
  have hJ24 : ∀ (t0 : Int32) (x1 : Int32) (M : Mem) (H : Heap) (locs : List Loc) (ls : Array Slot), j_X9_line_24 n  t0 x1 M = some res → GI w layM 24 s.heap M H locs → lv_has ls 3 [(0, .ref (w.2.2.1 0)), (1, .int x1)] → W p l e (Rm 6) s m args below meth c H locs 0 0 (MQ below (GQv w layM 24 res s.heap.size) args s 0 0 (gA w.2.2.1 24 s.heap.size)) (F0 m 24 ls [.int t0]) := by
    intro t0 x1 M H locs ls hf hG hl
    unfold j_X9_line_24 at hf
    refine lv_istore_n (lv' := [(2, .int t0), (0, .ref (w.2.2.1 0)), (1, .int x1)]) hx hb dX9_line_24 rfl hl (by decide) rfl (fun ls hl => ?_)
    refine lv_iload_n hx hb dX9_line_25 rfl (lv_at hl 2 rfl) ?_
    refine lv_bipush (v := 9) hx hb dX9_line_26 (by decide) ?_
    refine lv_icmp_ne (tgt := 47) hx hb dX9_line_28 (by decide) (fun c24 => ?_) (fun c24 => ?_)
    · replace hf := if_f c24 hf
      refine lv_iload_n hx hb dX9_line_47 rfl (lv_at hl 2 rfl) ?_
      refine lv_bipush (v := 10) hx hb dX9_line_48 (by decide) ?_
      refine lv_icmp_ne (tgt := 69) hx hb dX9_line_50 (by decide) (fun c28 => ?_) (fun c28 => ?_)
      · replace hf := if_f c28 hf
        refine lv_iload_n hx hb dX9_line_69 rfl (lv_at hl 2 rfl) ?_
        refine lv_bipush (v := 11) hx hb dX9_line_70 (by decide) ?_
        refine lv_icmp_ne (tgt := 110) hx hb dX9_line_72 (by decide) (fun c32 => ?_) (fun c32 => ?_)
        · replace hf := if_f c32 hf
          refine lv_iload_n hx hb dX9_line_110 rfl (lv_at hl 2 rfl) ?_
          refine lv_bipush (v := 12) hx hb dX9_line_111 (by decide) ?_
          refine lv_icmp_ne (tgt := 151) hx hb dX9_line_113 (by decide) (fun c34 => ?_) (fun c34 => ?_)
          · replace hf := if_f c34 hf
            refine lv_iload_n hx hb dX9_line_151 rfl (lv_at hl 2 rfl) ?_
            refine lv_bipush (v := 13) hx hb dX9_line_152 (by decide) ?_
            refine lv_icmp_ne (tgt := 186) hx hb dX9_line_154 (by decide) (fun c36 => ?_) (fun c36 => ?_)
            · replace hf := if_f c36 hf
              refine lv_iload_n hx hb dX9_line_186 rfl (lv_at hl 2 rfl) ?_
              refine lv_bipush (v := 14) hx hb dX9_line_187 (by decide) ?_
              refine lv_icmp_ne (tgt := 208) hx hb dX9_line_189 (by decide) (fun c38 => ?_) (fun c38 => ?_)
              · replace hf := if_f c38 hf
                refine lv_iload_n hx hb dX9_line_208 rfl (lv_at hl 2 rfl) ?_
                refine lv_if_ne (tgt := 239) hx hb dX9_line_209 (by decide) (fun c42 => ?_) (fun c42 => ?_)
                · replace hf := if_f c42 hf
                  refine lv_iload_n hx hb dX9_line_239 rfl (lv_at hl 2 rfl) ?_
                  refine lv_bipush (v := 15) hx hb dX9_line_240 (by decide) ?_
                  refine lv_icmp_ne (tgt := 283) hx hb dX9_line_242 (by decide) (fun c44 => ?_) (fun c44 => ?_)
                  · replace hf := if_f c44 hf
                    refine lv_iload_n hx hb dX9_line_283 rfl (lv_at hl 2 rfl) ?_
                    refine lv_bipush (v := 16) hx hb dX9_line_284 (by decide) ?_
                    refine lv_icmp_ne (tgt := 328) hx hb dX9_line_286 (by decide) (fun c46 => ?_) (fun c46 => ?_)
                    · replace hf := if_f c46 hf
                      refine lv_iload_n hx hb dX9_line_328 rfl (lv_at hl 2 rfl) ?_
                      refine lv_bipush (v := 17) hx hb dX9_line_329 (by decide) ?_
                      refine lv_icmp_ne (tgt := 373) hx hb dX9_line_331 (by decide) (fun c48 => ?_) (fun c48 => ?_)
                      · replace hf := if_f c48 hf
                        refine lv_aload_n hx hb dX9_line_373 rfl (lv_at hl 1 rfl) ?_
                        refine lv_iconst (v := 1) hx hb dX9_line_374 (by decide) ?_
                        replace hf := bd_some hf
                        obtain ⟨q50, eq50, hf⟩ := hf
                        refine gx_callv hG (gx_runV hXk F hX hG (c_X9_wrong l w hXk n  (1 : Int32) _ _ eq50) cv_X9_168 ⟨Nat.le_of_ble_eq_true rfl, Nat.le_of_ble_eq_true rfl⟩ (g_recv F hG mo_0 (by decide) rfl) rfl hl.1 rfl (Nat.le_of_ble_eq_true rfl) dX9_line_375 ⟨Nat.le_refl _, Nat.le_refl _⟩) (fun H locs hG => ?_)
                        exact hJ378  _ _ _ ls hf hG (lv_sub hl [1] rfl)
                      · replace hf := if_t c48 hf
                        refine lv_aload_n hx hb dX9_line_334 rfl (lv_at hl 1 rfl) ?_
                        refine lv_iconst (v := 0) hx hb dX9_line_335 (by decide) ?_
                        refine lv_aload_n hx hb dX9_line_336 rfl (lv_at hl 1 rfl) ?_
                        refine g_getI F hG mo_0 (by decide) (by decide) lk_X9_278 rfl dX9_line_337 ?_
                        refine lv_iconst (v := -1) hx hb dX9_line_340 (by decide) ?_
                        refine lv_icmp_eq (tgt := 348) hx hb dX9_line_341 (by decide) (fun c49 => ?_) (fun c49 => ?_)
                        · replace hf := if_t c49 hf
                          refine lv_iconst (v := 0) hx hb dX9_line_348 (by decide) ?_
                          exact hJ349 _ _ _ _ _ ls hf hG (lv_sub hl [1] rfl)
                        · replace hf := if_f c49 hf
                          refine lv_iconst (v := 1) hx hb dX9_line_344 (by decide) ?_
                          refine lv_goto (tgt := 349) hx hb dX9_line_345 (by decide) ?_
                          exact hJ349 _ _ _ _ _ ls hf hG (lv_sub hl [1] rfl)
                    · replace hf := if_t c46 hf
                      refine lv_aload_n hx hb dX9_line_289 rfl (lv_at hl 1 rfl) ?_
                      refine lv_iconst (v := 0) hx hb dX9_line_290 (by decide) ?_
                      refine lv_aload_n hx hb dX9_line_291 rfl (lv_at hl 1 rfl) ?_
                      refine g_getI F hG mo_0 (by decide) (by decide) lk_X9_275 rfl dX9_line_292 ?_
                      refine lv_iconst (v := -1) hx hb dX9_line_295 (by decide) ?_
                      refine lv_icmp_eq (tgt := 303) hx hb dX9_line_296 (by decide) (fun c47 => ?_) (fun c47 => ?_)
                      · replace hf := if_t c47 hf
                        refine lv_iconst (v := 0) hx hb dX9_line_303 (by decide) ?_
                        exact hJ304 _ _ _ _ _ ls hf hG (lv_sub hl [1] rfl)
                      · replace hf := if_f c47 hf
                        refine lv_iconst (v := 1) hx hb dX9_line_299 (by decide) ?_
                        refine lv_goto (tgt := 304) hx hb dX9_line_300 (by decide) ?_
                        exact hJ304 _ _ _ _ _ ls hf hG (lv_sub hl [1] rfl)
                  · replace hf := if_t c44 hf
                    refine lv_aload_n hx hb dX9_line_245 rfl (lv_at hl 1 rfl) ?_
                    refine lv_iconst (v := 0) hx hb dX9_line_246 (by decide) ?_
                    refine lv_aload_n hx hb dX9_line_247 rfl (lv_at hl 1 rfl) ?_
                    refine g_getI F hG mo_0 (by decide) (by decide) lk_X9_268 rfl dX9_line_248 ?_
                    refine lv_iconst (v := -1) hx hb dX9_line_251 (by decide) ?_
                    refine lv_icmp_eq (tgt := 259) hx hb dX9_line_252 (by decide) (fun c45 => ?_) (fun c45 => ?_)
                    · replace hf := if_t c45 hf
                      refine lv_iconst (v := 0) hx hb dX9_line_259 (by decide) ?_
                      exact hJ260 _ _ _ _ _ ls hf hG (lv_sub hl [1] rfl)
                    · replace hf := if_f c45 hf
                      refine lv_iconst (v := 1) hx hb dX9_line_255 (by decide) ?_
                      refine lv_goto (tgt := 260) hx hb dX9_line_256 (by decide) ?_
                      exact hJ260 _ _ _ _ _ ls hf hG (lv_sub hl [1] rfl)
                · replace hf := if_t c42 hf
                  refine lv_aload_n hx hb dX9_line_212 rfl (lv_at hl 1 rfl) ?_
                  refine lv_iconst (v := 0) hx hb dX9_line_213 (by decide) ?_
                  refine lv_aload_n hx hb dX9_line_214 rfl (lv_at hl 1 rfl) ?_
                  refine g_getI F hG mo_0 (by decide) (by decide) lk_X9_227 rfl dX9_line_215 ?_
                  refine lv_if_le (tgt := 225) hx hb dX9_line_218 (by decide) (fun c43 => ?_) (fun c43 => ?_)
                  · replace hf := if_t c43 hf
                    refine lv_iconst (v := 0) hx hb dX9_line_225 (by decide) ?_
                    exact hJ226 _ _ _ _ _ ls hf hG (lv_sub hl [1] rfl)
                  · replace hf := if_f c43 hf
                    refine lv_iconst (v := 1) hx hb dX9_line_221 (by decide) ?_
                    refine lv_goto (tgt := 226) hx hb dX9_line_222 (by decide) ?_
                    exact hJ226 _ _ _ _ _ ls hf hG (lv_sub hl [1] rfl)
              · replace hf := if_t c38 hf
                refine lv_aload_n hx hb dX9_line_192 rfl (lv_at hl 1 rfl) ?_
                refine lv_iconst (v := 0) hx hb dX9_line_193 (by decide) ?_
                refine lv_iconst (v := 0) hx hb dX9_line_194 (by decide) ?_
                replace hf := bd_some hf
                obtain ⟨q39, eq39, hf⟩ := hf
                refine gx_calli hG (gx_runV hXk F hX hG (c_X9_begins l w hXk n  (0 : Int32) (0 : Int32) _ _ eq39) cv_X9_243 ⟨Nat.le_of_ble_eq_true rfl, Nat.le_of_ble_eq_true rfl⟩ (g_recv F hG mo_0 (by decide) rfl) rfl hl.1 rfl (Nat.le_of_ble_eq_true rfl) dX9_line_195 ⟨Nat.le_refl _, Nat.le_refl _⟩) (fun H locs hG => ?_)
                refine lv_if_eq (tgt := 378) hx hb dX9_line_198 (by decide) (fun c40 => ?_) (fun c40 => ?_)
                · replace hf := if_t c40 hf
                  exact hJ378  _ _ _ ls hf hG (lv_sub hl [1] rfl)
                · replace hf := if_f c40 hf
                  refine lv_aload_n hx hb dX9_line_201 rfl (lv_at hl 1 rfl) ?_
                  replace hf := bd_some hf
                  obtain ⟨q41, eq41, hf⟩ := hf
                  refine gx_callv hG (gx_runV hXk F hX hG (c_X9_readsStreet l w hXk n   _ _ eq41) cv_X9_262 ⟨Nat.le_of_ble_eq_true rfl, Nat.le_of_ble_eq_true rfl⟩ (g_recv F hG mo_0 (by decide) rfl) rfl hl.1 rfl (Nat.le_of_ble_eq_true rfl) dX9_line_202 ⟨Nat.le_refl _, Nat.le_refl _⟩) (fun H locs hG => ?_)
                  refine lv_goto (tgt := 378) hx hb dX9_line_205 (by decide) ?_
                  exact hJ378  _ _ _ ls hf hG (lv_sub hl [1] rfl)
            · replace hf := if_t c36 hf
              refine lv_aload_n hx hb dX9_line_157 rfl (lv_at hl 1 rfl) ?_
              refine lv_aload_n hx hb dX9_line_158 rfl (lv_at hl 1 rfl) ?_
              refine g_getI F hG mo_0 (by decide) (by decide) lk_X9_171 rfl dX9_line_159 ?_
              refine lv_bipush (v := 8) hx hb dX9_line_162 (by decide) ?_
              refine lv_icmp_ne (tgt := 171) hx hb dX9_line_164 (by decide) (fun c37 => ?_) (fun c37 => ?_)
              · replace hf := if_f c37 hf
                refine lv_iconst (v := 0) hx hb dX9_line_171 (by decide) ?_
                exact hJ172 _ _ _ _ ls hf hG (lv_sub hl [1] rfl)
              · replace hf := if_t c37 hf
                refine lv_iconst (v := 1) hx hb dX9_line_167 (by decide) ?_
                refine lv_goto (tgt := 172) hx hb dX9_line_168 (by decide) ?_
                exact hJ172 _ _ _ _ ls hf hG (lv_sub hl [1] rfl)
          · replace hf := if_t c34 hf
            refine lv_aload_n hx hb dX9_line_116 rfl (lv_at hl 1 rfl) ?_
            refine lv_iconst (v := 0) hx hb dX9_line_117 (by decide) ?_
            refine lv_aload_n hx hb dX9_line_118 rfl (lv_at hl 1 rfl) ?_
            refine g_getI F hG mo_0 (by decide) (by decide) lk_X9_256 rfl dX9_line_119 ?_
            refine lv_iconst (v := -1) hx hb dX9_line_122 (by decide) ?_
            refine lv_icmp_eq (tgt := 130) hx hb dX9_line_123 (by decide) (fun c35 => ?_) (fun c35 => ?_)
            · replace hf := if_t c35 hf
              refine lv_iconst (v := 0) hx hb dX9_line_130 (by decide) ?_
              exact hJ131 _ _ _ _ _ ls hf hG (lv_sub hl [1] rfl)
            · replace hf := if_f c35 hf
              refine lv_iconst (v := 1) hx hb dX9_line_126 (by decide) ?_
              refine lv_goto (tgt := 131) hx hb dX9_line_127 (by decide) ?_
              exact hJ131 _ _ _ _ _ ls hf hG (lv_sub hl [1] rfl)
        · replace hf := if_t c32 hf
          refine lv_aload_n hx hb dX9_line_75 rfl (lv_at hl 1 rfl) ?_
          refine lv_iconst (v := 0) hx hb dX9_line_76 (by decide) ?_
          refine lv_aload_n hx hb dX9_line_77 rfl (lv_at hl 1 rfl) ?_
          refine g_getI F hG mo_0 (by decide) (by decide) lk_X9_253 rfl dX9_line_78 ?_
          refine lv_iconst (v := -1) hx hb dX9_line_81 (by decide) ?_
          refine lv_icmp_eq (tgt := 89) hx hb dX9_line_82 (by decide) (fun c33 => ?_) (fun c33 => ?_)
          · replace hf := if_t c33 hf
            refine lv_iconst (v := 0) hx hb dX9_line_89 (by decide) ?_
            exact hJ90 _ _ _ _ _ ls hf hG (lv_sub hl [1] rfl)
          · replace hf := if_f c33 hf
            refine lv_iconst (v := 1) hx hb dX9_line_85 (by decide) ?_
            refine lv_goto (tgt := 90) hx hb dX9_line_86 (by decide) ?_
            exact hJ90 _ _ _ _ _ ls hf hG (lv_sub hl [1] rfl)
      · replace hf := if_t c28 hf
        refine lv_aload_n hx hb dX9_line_53 rfl (lv_at hl 1 rfl) ?_
        refine lv_iload_n hx hb dX9_line_54 rfl (lv_at hl 0 rfl) ?_
        refine lv_iconst (v := 0) hx hb dX9_line_55 (by decide) ?_
        replace hf := bd_some hf
        obtain ⟨q29, eq29, hf⟩ := hf
        refine gx_calli hG (gx_runV hXk F hX hG (c_X9_begins l w hXk n  t0 (0 : Int32) _ _ eq29) cv_X9_243 ⟨Nat.le_of_ble_eq_true rfl, Nat.le_of_ble_eq_true rfl⟩ (g_recv F hG mo_0 (by decide) rfl) rfl hl.1 rfl (Nat.le_of_ble_eq_true rfl) dX9_line_56 ⟨Nat.le_refl _, Nat.le_refl _⟩) (fun H locs hG => ?_)
        refine lv_if_eq (tgt := 378) hx hb dX9_line_59 (by decide) (fun c30 => ?_) (fun c30 => ?_)
        · replace hf := if_t c30 hf
          exact hJ378  _ _ _ ls hf hG (lv_sub hl [1] rfl)
        · replace hf := if_f c30 hf
          refine lv_aload_n hx hb dX9_line_62 rfl (lv_at hl 1 rfl) ?_
          replace hf := bd_some hf
          obtain ⟨q31, eq31, hf⟩ := hf
          refine gx_callv hG (gx_runV hXk F hX hG (c_X9_readsPlan l w hXk n   _ _ eq31) cv_X9_250 ⟨Nat.le_of_ble_eq_true rfl, Nat.le_of_ble_eq_true rfl⟩ (g_recv F hG mo_0 (by decide) rfl) rfl hl.1 rfl (Nat.le_of_ble_eq_true rfl) dX9_line_63 ⟨Nat.le_refl _, Nat.le_refl _⟩) (fun H locs hG => ?_)
          refine lv_goto (tgt := 378) hx hb dX9_line_66 (by decide) ?_
          exact hJ378  _ _ _ ls hf hG (lv_sub hl [1] rfl)
    · replace hf := if_t c24 hf
      refine lv_aload_n hx hb dX9_line_31 rfl (lv_at hl 1 rfl) ?_
      refine lv_iload_n hx hb dX9_line_32 rfl (lv_at hl 0 rfl) ?_
      refine lv_iconst (v := 0) hx hb dX9_line_33 (by decide) ?_
      replace hf := bd_some hf
      obtain ⟨q25, eq25, hf⟩ := hf
      refine gx_calli hG (gx_runV hXk F hX hG (c_X9_begins l w hXk n  t0 (0 : Int32) _ _ eq25) cv_X9_243 ⟨Nat.le_of_ble_eq_true rfl, Nat.le_of_ble_eq_true rfl⟩ (g_recv F hG mo_0 (by decide) rfl) rfl hl.1 rfl (Nat.le_of_ble_eq_true rfl) dX9_line_34 ⟨Nat.le_refl _, Nat.le_refl _⟩) (fun H locs hG => ?_)
      refine lv_if_eq (tgt := 378) hx hb dX9_line_37 (by decide) (fun c26 => ?_) (fun c26 => ?_)
      · replace hf := if_t c26 hf
        exact hJ378  _ _ _ ls hf hG (lv_sub hl [1] rfl)
      · replace hf := if_f c26 hf
        refine lv_aload_n hx hb dX9_line_40 rfl (lv_at hl 1 rfl) ?_
        replace hf := bd_some hf
        obtain ⟨q27, eq27, hf⟩ := hf
        refine gx_callv hG (gx_runV hXk F hX hG (c_X9_readsHung l w hXk n   _ _ eq27) cv_X9_247 ⟨Nat.le_of_ble_eq_true rfl, Nat.le_of_ble_eq_true rfl⟩ (g_recv F hG mo_0 (by decide) rfl) rfl hl.1 rfl (Nat.le_of_ble_eq_true rfl) dX9_line_41 ⟨Nat.le_refl _, Nat.le_refl _⟩) (fun H locs hG => ?_)
        refine lv_goto (tgt := 378) hx hb dX9_line_44 (by decide) ?_
        exact hJ378  _ _ _ ls hf hG (lv_sub hl [1] rfl)
  unfold f_X9_line at hf
  refine lv_aload_n hx hb dX9_line_0 rfl (lv_at hl 0 rfl) ?_
  replace hf := bd_some hf
  obtain ⟨q51, eq51, hf⟩ := hf
  refine gx_calli hG (gx_runV hXk F hX hG (c_X9_knownWord l w hXk n   _ _ eq51) cv_X9_189 ⟨Nat.le_of_ble_eq_true rfl, Nat.le_of_ble_eq_true rfl⟩ (g_recv F hG mo_0 (by decide) rfl) rfl hl.1 rfl (Nat.le_of_ble_eq_true rfl) dX9_line_1 ⟨Nat.le_refl _, Nat.le_refl _⟩) (fun H locs hG => ?_)
  refine lv_istore_n (lv' := [(1, .int q51.1), (0, .ref (w.2.2.1 0))]) hx hb dX9_line_4 rfl hl (by decide) rfl (fun ls hl => ?_)
  refine lv_aload_n hx hb dX9_line_5 rfl (lv_at hl 1 rfl) ?_
  refine g_getI F hG mo_0 (by decide) (by decide) lk_X9_237 rfl dX9_line_6 ?_
  refine lv_aload_n hx hb dX9_line_9 rfl (lv_at hl 1 rfl) ?_
  refine g_getI F hG mo_0 (by decide) (by decide) lk_X9_240 rfl dX9_line_10 ?_
  refine lv_iadd hx hb dX9_line_13 ?_
  refine lv_bipush (v := 16) hx hb dX9_line_14 (by decide) ?_
  refine lv_icmp_ne (tgt := 23) hx hb dX9_line_16 (by decide) (fun c52 => ?_) (fun c52 => ?_)
  · replace hf := if_f c52 hf
    refine lv_iconst (v := 0) hx hb dX9_line_23 (by decide) ?_
    exact hJ24 _ _ _ _ _ ls hf hG (lv_sub hl [1, 0] rfl)
  · replace hf := if_t c52 hf
    refine lv_iconst (v := 1) hx hb dX9_line_19 (by decide) ?_
    refine lv_goto (tgt := 24) hx hb dX9_line_20 (by decide) ?_
    exact hJ24 _ _ _ _ _ ls hf hG (lv_sub hl [1, 0] rfl)

def j_X9_town_363 (n : Nat) (M : Mem) : Option (Int32 × Mem) := some ((0 : Int32), si (si (si (si (si M 12 (3 : Int32).toNatClampNeg (gi M 0 27)) 12 (4 : Int32).toNatClampNeg ((gi (si M 12 (3 : Int32).toNatClampNeg (gi M 0 27)) 0 27) + (gi (si M 12 (3 : Int32).toNatClampNeg (gi M 0 27)) 0 28))) 0 46 (0 : Int32)) 0 54 (0 : Int32)) 0 59 (0 : Int32))
def b_X9_town_309 (n : Nat) (q : (Int32 × Mem)) : Option ((Int32 × Mem) ⊕ (Int32 × Mem)) := match q with
  | (x2, M) => if (gi M 0 28) ≤ x2 then (mr (j_X9_town_363 n  M)) else (ck (inb x2 16) (ck (inb (((6 : Int32) + (gi M 0 27)) + x2) 108) (ck (inb x2 16) (ck (inb (((22 : Int32) + (gi (si M 12 (((6 : Int32) + (gi M 0 27)) + x2).toNatClampNeg (gi M 7 x2.toNatClampNeg)) 0 27)) + x2) 108) (some (.inl ((x2 + (1 : Int32)), si (si M 12 (((6 : Int32) + (gi M 0 27)) + x2).toNatClampNeg (gi M 7 x2.toNatClampNeg)) 12 (((22 : Int32) + (gi (si M 12 (((6 : Int32) + (gi M 0 27)) + x2).toNatClampNeg (gi M 7 x2.toNatClampNeg)) 0 27)) + x2).toNatClampNeg (gi (si M 12 (((6 : Int32) + (gi M 0 27)) + x2).toNatClampNeg (gi M 7 x2.toNatClampNeg)) 8 x2.toNatClampNeg))))))))
def j_X9_town_307 (n : Nat) (M : Mem) : Option (Int32 × Mem) := gl (b_X9_town_309 n ) n ((0 : Int32), M)
def b_X9_town_283 (n : Nat) (q : (Int32 × Mem)) : Option ((Int32 × Mem) ⊕ (Int32 × Mem)) := match q with
  | (x2, M) => if (54 : Int32) ≤ x2 then (mr (j_X9_town_307 n  M)) else (ck (inb x2 54) (ck (inb x2 108) (some (.inl ((x2 + (1 : Int32)), si M 12 x2.toNatClampNeg (gi M 6 x2.toNatClampNeg))))))
def j_X9_town_222 (n : Nat) (t0 : Int32) (M : Mem) : Option (Int32 × Mem) := bd (f_X9_copies n 8 5 8 1  (si (si (si (si (si M 0 3 t0) 0 4 (gi (si M 0 3 t0) 0 26)) 0 5 (gi (si (si M 0 3 t0) 0 4 (gi (si M 0 3 t0) 0 26)) 0 29)) 0 6 (gi (si (si (si M 0 3 t0) 0 4 (gi (si M 0 3 t0) 0 26)) 0 5 (gi (si (si M 0 3 t0) 0 4 (gi (si M 0 3 t0) 0 26)) 0 29)) 0 30)) 0 7 (gi (si (si (si (si M 0 3 t0) 0 4 (gi (si M 0 3 t0) 0 26)) 0 5 (gi (si (si M 0 3 t0) 0 4 (gi (si M 0 3 t0) 0 26)) 0 29)) 0 6 (gi (si (si (si M 0 3 t0) 0 4 (gi (si M 0 3 t0) 0 26)) 0 5 (gi (si (si M 0 3 t0) 0 4 (gi (si M 0 3 t0) 0 26)) 0 29)) 0 30)) 0 31))) (fun q9 => bd (f_X9_copies n 1400 9 1400 2  q9) (fun q10 => gl (b_X9_town_283 n ) n ((0 : Int32), q10)))
def j_X9_town_201 (n : Nat) (t0 : Int32) (M : Mem) : Option (Int32 × Mem) := if (gi (si M 0 2 t0) 0 25) = (-1 : Int32) then (j_X9_town_222 n  (10 : Int32) (si M 0 2 t0)) else (j_X9_town_222 n  (gi (si M 0 2 t0) 0 25) (si M 0 2 t0))
def j_X9_town_153 (n : Nat) (M : Mem) : Option (Int32 × Mem) := bd (f_X9_isGood n   M) (fun q12 => if q12.1 = 0 then (some ((gi (si q12.2 4 (0 : Int32).toNatClampNeg ((gi q12.2 4 (0 : Int32).toNatClampNeg) + (1 : Int32))) 0 12), si q12.2 4 (0 : Int32).toNatClampNeg ((gi q12.2 4 (0 : Int32).toNatClampNeg) + (1 : Int32)))) else (if (gi (si q12.2 0 1 (gi q12.2 0 23)) 0 24) = (-1 : Int32) then (j_X9_town_201 n  (9 : Int32) (si q12.2 0 1 (gi q12.2 0 23))) else (j_X9_town_201 n  (gi (si q12.2 0 1 (gi q12.2 0 23)) 0 24) (si q12.2 0 1 (gi q12.2 0 23)))))
def b_X9_town_132 (n : Nat) (q : (Mem)) : Option ((Mem) ⊕ (Int32 × Mem)) := match q with
  | (M) => bd (f_X9_isGood n   M) (fun q15 => if q15.1 = 0 then (mr (j_X9_town_153 n  q15.2)) else (if (gi q15.2 0 17) = 0 then (mr (j_X9_town_153 n  q15.2)) else (bd (f_X9_line n   q15.2) (fun q18 => some (.inl (q18))))))
def j_X9_town_123 (n : Nat) (M : Mem) : Option (Int32 × Mem) := bd (f_X9_goes n   (si M 0 32 (0 : Int32))) (fun q19 => gl (b_X9_town_132 n ) n (q19))
def b_X9_town_104 (n : Nat) (q : (Int32 × Mem)) : Option ((Int32 × Mem) ⊕ (Int32 × Mem)) := match q with
  | (x2, M) => if (54 : Int32) ≤ x2 then (mr (j_X9_town_123 n  M)) else (ck (inb x2 54) (some (.inl ((x2 + (1 : Int32)), si M 6 x2.toNatClampNeg (0 : Int32)))))
def j_X9_town_23 (n : Nat) (t0 : Int32) (x1 : Int32) (M : Mem) : Option (Int32 × Mem) := bd (f_X9_right n  t0 (1 : Int32) M) (fun q22 => if q22.1 = 0 then (some ((0 : Int32), q22.2)) else (gl (b_X9_town_104 n ) n ((0 : Int32), si (si (si (si (si (si (si (si (si (si (si (si (si (si q22.2 0 11 (0 : Int32)) 0 13 (-1 : Int32)) 0 12 (0 : Int32)) 0 15 x1) 0 16 (0 : Int32)) 0 23 (0 : Int32)) 0 24 (-1 : Int32)) 0 25 (-1 : Int32)) 0 26 (0 : Int32)) 0 27 (0 : Int32)) 0 28 (0 : Int32)) 0 29 (-1 : Int32)) 0 30 (-1 : Int32)) 0 31 (-1 : Int32))))
def j_X9_town_22 (n : Nat) (x1 : Int32) (M : Mem) : Option (Int32 × Mem) := j_X9_town_23 n  (0 : Int32) x1 M
def f_X9_town (n : Nat) (x1 : Int32) (M : Mem) : Option (Int32 × Mem) := if x1 < 0 then (j_X9_town_22 n  x1 (si M 0 0 (0 : Int32))) else (if (gi (si M 0 0 (0 : Int32)) 0 11) < x1 then (j_X9_town_22 n  x1 (si M 0 0 (0 : Int32))) else (j_X9_town_23 n  (1 : Int32) x1 (si M 0 0 (0 : Int32))))
set_option maxHeartbeats 4000000 in
set_option maxRecDepth 100000 in
theorem c_X9_town (l : Launch) (w : Wd) {X : (Nat → Prop) → State → Heap → Prop} (hXk : XOK X) (n : Nat) (x1 : Int32) (M : Mem) (res : Int32 × Mem) (hf : f_X9_town n  x1 M = some res) : CG l w layM 24 X yX9_town cX9_town 3 (some .int) 7 [.ref (w.2.2.1 0), .int x1] M (GQi w layM 24 res) := by
  refine cg_start (by decide +kernel) (Nat.le_of_ble_eq_true rfl) ?_
  intro p e s m args below meth c F hr hlk hX hG ls hl
  have F : FX w p m c cX9_town 3 s args RX9 := F
  have hx := F.1.1
  have hb := F.1.2.1
  have hl : lv_has ls 3 [(0, .ref (w.2.2.1 0)), (1, .int x1)] := hl
  have hJ363 : ∀ (M : Mem) (H : Heap) (locs : List Loc) (ls : Array Slot), j_X9_town_363 n   M = some res → GI w layM 24 s.heap M H locs → lv_has ls 3 [(0, .ref (w.2.2.1 0))] → W p l e (Rm 7) s m args below meth c H locs 0 0 (MQ below (GQi w layM 24 res s.heap.size) args s 0 0 (gA w.2.2.1 24 s.heap.size)) (F0 m 363 ls []) := by
    intro  M H locs ls hf hG hl
    unfold j_X9_town_363 at hf
    refine lv_aload_n hx hb dX9_town_363 rfl (lv_at hl 0 rfl) ?_
    refine g_getR F hG 12 mo_0 (by decide) (by decide) lk_X9_63 rfl dX9_town_364 ?_
    refine lv_iconst (v := 3) hx hb dX9_town_367 (by decide) ?_
    refine lv_aload_n hx hb dX9_town_368 rfl (lv_at hl 0 rfl) ?_
    refine g_getI F hG mo_0 (by decide) (by decide) lk_X9_237 rfl dX9_town_369 ?_
    refine g_iast F hG oM_12 (by decide) dX9_town_372 (fun H locs hG => ?_)
    refine lv_aload_n hx hb dX9_town_373 rfl (lv_at hl 0 rfl) ?_
    refine g_getR F hG 12 mo_0 (by decide) (by decide) lk_X9_63 rfl dX9_town_374 ?_
    refine lv_iconst (v := 4) hx hb dX9_town_377 (by decide) ?_
    refine lv_aload_n hx hb dX9_town_378 rfl (lv_at hl 0 rfl) ?_
    refine g_getI F hG mo_0 (by decide) (by decide) lk_X9_237 rfl dX9_town_379 ?_
    refine lv_aload_n hx hb dX9_town_382 rfl (lv_at hl 0 rfl) ?_
    refine g_getI F hG mo_0 (by decide) (by decide) lk_X9_240 rfl dX9_town_383 ?_
    refine lv_iadd hx hb dX9_town_386 ?_
    refine g_iast F hG oM_12 (by decide) dX9_town_387 (fun H locs hG => ?_)
    refine lv_aload_n hx hb dX9_town_388 rfl (lv_at hl 0 rfl) ?_
    refine lv_iconst (v := 0) hx hb dX9_town_389 (by decide) ?_
    refine g_putI F hG mo_0 (by decide) (by decide) lkv_X9_301 rfl rfl rfl dX9_town_390 (fun H locs hG => ?_)
    refine lv_aload_n hx hb dX9_town_393 rfl (lv_at hl 0 rfl) ?_
    refine lv_iconst (v := 0) hx hb dX9_town_394 (by decide) ?_
    refine g_putI F hG mo_0 (by decide) (by decide) lkv_X9_304 rfl rfl rfl dX9_town_395 (fun H locs hG => ?_)
    refine lv_aload_n hx hb dX9_town_398 rfl (lv_at hl 0 rfl) ?_
    refine lv_iconst (v := 0) hx hb dX9_town_399 (by decide) ?_
    refine g_putI F hG mo_0 (by decide) (by decide) lkv_X9_307 rfl rfl rfl dX9_town_400 (fun H locs hG => ?_)
    refine lv_iconst (v := 0) hx hb dX9_town_403 (by decide) ?_
    exact cg_iret F hr hlk hG hf dX9_town_404
  have hJ309 : ∀ (x2 : Int32) (M : Mem) (H : Heap) (locs : List Loc) (ls : Array Slot), gl (b_X9_town_309 n  ) n (x2, M) = some res → GI w layM 24 s.heap M H locs → lv_has ls 3 [(0, .ref (w.2.2.1 0)), (2, .int x2)] → W p l e (Rm 7) s m args below meth c H locs 0 0 (MQ below (GQi w layM 24 res s.heap.size) args s 0 0 (gA w.2.2.1 24 s.heap.size)) (F0 m 309 ls []) := by
    intro x2 M H locs ls hf hG hl
    refine gl_run (P := fun (q : (Int32 × Mem)) => ∀ (H : Heap) (locs : List Loc) (ls : Array Slot), GI w layM 24 s.heap q.2 H locs → lv_has ls 3 [(0, .ref (w.2.2.1 0)), (2, .int q.1)] → W p l e (Rm 7) s m args below meth c H locs 0 0 (MQ below (GQi w layM 24 res s.heap.size) args s 0 0 (gA w.2.2.1 24 s.heap.size)) (F0 m 309 ls [])) ?_ n (x2, M) hf H locs ls hG hl
    clear hf hG hl ls locs H M x2
    rintro ⟨x2, M⟩ rr309 hf hI309 hE309 H locs ls hG hl
    try dsimp only at hG hl ⊢
    dsimp only [b_X9_town_309] at hf
    refine lv_iload_n hx hb dX9_town_309 rfl (lv_at hl 1 rfl) ?_
    refine lv_aload_n hx hb dX9_town_310 rfl (lv_at hl 0 rfl) ?_
    refine g_getI F hG mo_0 (by decide) (by decide) lk_X9_240 rfl dX9_town_311 ?_
    refine lv_icmp_ge (tgt := 363) hx hb dX9_town_314 (by decide) (fun c1 => ?_) (fun c1 => ?_)
    · replace hf := if_t c1 hf
      replace hf := mr_some hf
      obtain ⟨z309, hf, hz⟩ := hf
      rw [hE309 _ hz] at hf
      exact hJ363  _ _ _ ls hf hG (lv_sub hl [0] rfl)
    · replace hf := if_f c1 hf
      refine lv_aload_n hx hb dX9_town_317 rfl (lv_at hl 0 rfl) ?_
      refine g_getR F hG 12 mo_0 (by decide) (by decide) lk_X9_63 rfl dX9_town_318 ?_
      refine lv_bipush (v := 6) hx hb dX9_town_321 (by decide) ?_
      refine lv_aload_n hx hb dX9_town_323 rfl (lv_at hl 0 rfl) ?_
      refine g_getI F hG mo_0 (by decide) (by decide) lk_X9_237 rfl dX9_town_324 ?_
      refine lv_iadd hx hb dX9_town_327 ?_
      refine lv_iload_n hx hb dX9_town_328 rfl (lv_at hl 1 rfl) ?_
      refine lv_iadd hx hb dX9_town_329 ?_
      refine lv_aload_n hx hb dX9_town_330 rfl (lv_at hl 0 rfl) ?_
      refine g_getR F hG 7 mo_0 (by decide) (by decide) lk_X9_47 rfl dX9_town_331 ?_
      refine lv_iload_n hx hb dX9_town_334 rfl (lv_at hl 1 rfl) ?_
      replace hf := ck_some hf
      obtain ⟨k2, hf⟩ := hf
      refine g_iald F hG oM_7 k2 dX9_town_335 ?_
      replace hf := ck_some hf
      obtain ⟨k3, hf⟩ := hf
      refine g_iast F hG oM_12 k3 dX9_town_336 (fun H locs hG => ?_)
      refine lv_aload_n hx hb dX9_town_337 rfl (lv_at hl 0 rfl) ?_
      refine g_getR F hG 12 mo_0 (by decide) (by decide) lk_X9_63 rfl dX9_town_338 ?_
      refine lv_bipush (v := 22) hx hb dX9_town_341 (by decide) ?_
      refine lv_aload_n hx hb dX9_town_343 rfl (lv_at hl 0 rfl) ?_
      refine g_getI F hG mo_0 (by decide) (by decide) lk_X9_237 rfl dX9_town_344 ?_
      refine lv_iadd hx hb dX9_town_347 ?_
      refine lv_iload_n hx hb dX9_town_348 rfl (lv_at hl 1 rfl) ?_
      refine lv_iadd hx hb dX9_town_349 ?_
      refine lv_aload_n hx hb dX9_town_350 rfl (lv_at hl 0 rfl) ?_
      refine g_getR F hG 8 mo_0 (by decide) (by decide) lk_X9_50 rfl dX9_town_351 ?_
      refine lv_iload_n hx hb dX9_town_354 rfl (lv_at hl 1 rfl) ?_
      replace hf := ck_some hf
      obtain ⟨k4, hf⟩ := hf
      refine g_iald F hG oM_8 k4 dX9_town_355 ?_
      replace hf := ck_some hf
      obtain ⟨k5, hf⟩ := hf
      refine g_iast F hG oM_12 k5 dX9_town_356 (fun H locs hG => ?_)
      refine lv_iinc (v := (x2 + (1 : Int32))) (lv' := [(2, .int (x2 + (1 : Int32))), (0, .ref (w.2.2.1 0))]) hx hb dX9_town_357 hl (k := 1) rfl rfl (by decide) rfl (fun ls hl => ?_)
      refine lv_goto (tgt := 309) hx hb dX9_town_360 (by decide) ?_
      exact hI309 _ (Option.some.inj hf).symm _ _ ls hG (lv_sub hl [1, 0] rfl)
  have hJ307 : ∀ (M : Mem) (H : Heap) (locs : List Loc) (ls : Array Slot), j_X9_town_307 n   M = some res → GI w layM 24 s.heap M H locs → lv_has ls 3 [(0, .ref (w.2.2.1 0))] → W p l e (Rm 7) s m args below meth c H locs 0 0 (MQ below (GQi w layM 24 res s.heap.size) args s 0 0 (gA w.2.2.1 24 s.heap.size)) (F0 m 307 ls []) := by
    intro  M H locs ls hf hG hl
    unfold j_X9_town_307 at hf
    refine lv_iconst (v := 0) hx hb dX9_town_307 (by decide) ?_
    refine lv_istore_n (lv' := [(2, .int (0 : Int32)), (0, .ref (w.2.2.1 0))]) hx hb dX9_town_308 rfl hl (by decide) rfl (fun ls hl => ?_)
    exact hJ309 _ _ _ _ ls hf hG (lv_sub hl [1, 0] rfl)
  have hJ283 : ∀ (x2 : Int32) (M : Mem) (H : Heap) (locs : List Loc) (ls : Array Slot), gl (b_X9_town_283 n  ) n (x2, M) = some res → GI w layM 24 s.heap M H locs → lv_has ls 3 [(0, .ref (w.2.2.1 0)), (2, .int x2)] → W p l e (Rm 7) s m args below meth c H locs 0 0 (MQ below (GQi w layM 24 res s.heap.size) args s 0 0 (gA w.2.2.1 24 s.heap.size)) (F0 m 283 ls []) := by
    intro x2 M H locs ls hf hG hl
    refine gl_run (P := fun (q : (Int32 × Mem)) => ∀ (H : Heap) (locs : List Loc) (ls : Array Slot), GI w layM 24 s.heap q.2 H locs → lv_has ls 3 [(0, .ref (w.2.2.1 0)), (2, .int q.1)] → W p l e (Rm 7) s m args below meth c H locs 0 0 (MQ below (GQi w layM 24 res s.heap.size) args s 0 0 (gA w.2.2.1 24 s.heap.size)) (F0 m 283 ls [])) ?_ n (x2, M) hf H locs ls hG hl
    clear hf hG hl ls locs H M x2
    rintro ⟨x2, M⟩ rr283 hf hI283 hE283 H locs ls hG hl
    try dsimp only at hG hl ⊢
    dsimp only [b_X9_town_283] at hf
    refine lv_iload_n hx hb dX9_town_283 rfl (lv_at hl 1 rfl) ?_
    refine lv_bipush (v := 54) hx hb dX9_town_284 (by decide) ?_
    refine lv_icmp_ge (tgt := 307) hx hb dX9_town_286 (by decide) (fun c6 => ?_) (fun c6 => ?_)
    · replace hf := if_t c6 hf
      replace hf := mr_some hf
      obtain ⟨z283, hf, hz⟩ := hf
      rw [hE283 _ hz] at hf
      exact hJ307  _ _ _ ls hf hG (lv_sub hl [0] rfl)
    · replace hf := if_f c6 hf
      refine lv_aload_n hx hb dX9_town_289 rfl (lv_at hl 0 rfl) ?_
      refine g_getR F hG 12 mo_0 (by decide) (by decide) lk_X9_63 rfl dX9_town_290 ?_
      refine lv_iload_n hx hb dX9_town_293 rfl (lv_at hl 1 rfl) ?_
      refine lv_aload_n hx hb dX9_town_294 rfl (lv_at hl 0 rfl) ?_
      refine g_getR F hG 6 mo_0 (by decide) (by decide) lk_X9_44 rfl dX9_town_295 ?_
      refine lv_iload_n hx hb dX9_town_298 rfl (lv_at hl 1 rfl) ?_
      replace hf := ck_some hf
      obtain ⟨k7, hf⟩ := hf
      refine g_iald F hG oM_6 k7 dX9_town_299 ?_
      replace hf := ck_some hf
      obtain ⟨k8, hf⟩ := hf
      refine g_iast F hG oM_12 k8 dX9_town_300 (fun H locs hG => ?_)
      refine lv_iinc (v := (x2 + (1 : Int32))) (lv' := [(2, .int (x2 + (1 : Int32))), (0, .ref (w.2.2.1 0))]) hx hb dX9_town_301 hl (k := 1) rfl rfl (by decide) rfl (fun ls hl => ?_)
      refine lv_goto (tgt := 283) hx hb dX9_town_304 (by decide) ?_
      exact hI283 _ (Option.some.inj hf).symm _ _ ls hG (lv_sub hl [1, 0] rfl)
  have hJ222 : ∀ (t0 : Int32) (M : Mem) (H : Heap) (locs : List Loc) (ls : Array Slot), j_X9_town_222 n  t0 M = some res → GI w layM 24 s.heap M H locs → lv_has ls 3 [(0, .ref (w.2.2.1 0))] → W p l e (Rm 7) s m args below meth c H locs 0 0 (MQ below (GQi w layM 24 res s.heap.size) args s 0 0 (gA w.2.2.1 24 s.heap.size)) (F0 m 222 ls [.int t0, .ref (w.2.2.1 0)]) := by
    intro t0 M H locs ls hf hG hl
    unfold j_X9_town_222 at hf
    refine g_putI F hG mo_0 (by decide) (by decide) lkv_X9_13 rfl rfl rfl dX9_town_222 (fun H locs hG => ?_)
    refine lv_aload_n hx hb dX9_town_225 rfl (lv_at hl 0 rfl) ?_
    refine lv_aload_n hx hb dX9_town_226 rfl (lv_at hl 0 rfl) ?_
    refine g_getI F hG mo_0 (by decide) (by decide) lk_X9_227 rfl dX9_town_227 ?_
    refine g_putI F hG mo_0 (by decide) (by decide) lkv_X9_294 rfl rfl rfl dX9_town_230 (fun H locs hG => ?_)
    refine lv_aload_n hx hb dX9_town_233 rfl (lv_at hl 0 rfl) ?_
    refine lv_aload_n hx hb dX9_town_234 rfl (lv_at hl 0 rfl) ?_
    refine g_getI F hG mo_0 (by decide) (by decide) lk_X9_268 rfl dX9_town_235 ?_
    refine g_putI F hG mo_0 (by decide) (by decide) lkv_X9_16 rfl rfl rfl dX9_town_238 (fun H locs hG => ?_)
    refine lv_aload_n hx hb dX9_town_241 rfl (lv_at hl 0 rfl) ?_
    refine lv_aload_n hx hb dX9_town_242 rfl (lv_at hl 0 rfl) ?_
    refine g_getI F hG mo_0 (by decide) (by decide) lk_X9_275 rfl dX9_town_243 ?_
    refine g_putI F hG mo_0 (by decide) (by decide) lkv_X9_19 rfl rfl rfl dX9_town_246 (fun H locs hG => ?_)
    refine lv_aload_n hx hb dX9_town_249 rfl (lv_at hl 0 rfl) ?_
    refine lv_aload_n hx hb dX9_town_250 rfl (lv_at hl 0 rfl) ?_
    refine g_getI F hG mo_0 (by decide) (by decide) lk_X9_278 rfl dX9_town_251 ?_
    refine g_putI F hG mo_0 (by decide) (by decide) lkv_X9_22 rfl rfl rfl dX9_town_254 (fun H locs hG => ?_)
    refine lv_aload_n hx hb dX9_town_257 rfl (lv_at hl 0 rfl) ?_
    refine lv_aload_n hx hb dX9_town_258 rfl (lv_at hl 0 rfl) ?_
    refine g_getR F hG 5 mo_0 (by decide) (by decide) lk_X9_41 rfl dX9_town_259 ?_
    refine lv_aload_n hx hb dX9_town_262 rfl (lv_at hl 0 rfl) ?_
    refine g_getR F hG 1 mo_0 (by decide) (by decide) lk_X9_25 rfl dX9_town_263 ?_
    replace hf := bd_some hf
    obtain ⟨q9, eq9, hf⟩ := hf
    refine gx_callv hG (gx_runV hXk F hX hG (c_X9_copies l w hXk n 8 5 oM_5 8 1 oM_1  _ _ eq9) cv_X9_297 ⟨Nat.le_of_ble_eq_true rfl, Nat.le_of_ble_eq_true rfl⟩ (g_recv F hG mo_0 (by decide) rfl) rfl hl.1 rfl (Nat.le_of_ble_eq_true rfl) dX9_town_266 ⟨Nat.le_refl _, Nat.le_refl _⟩) (fun H locs hG => ?_)
    refine lv_aload_n hx hb dX9_town_269 rfl (lv_at hl 0 rfl) ?_
    refine lv_aload_n hx hb dX9_town_270 rfl (lv_at hl 0 rfl) ?_
    refine g_getR F hG 9 mo_0 (by decide) (by decide) lk_X9_53 rfl dX9_town_271 ?_
    refine lv_aload_n hx hb dX9_town_274 rfl (lv_at hl 0 rfl) ?_
    refine g_getR F hG 2 mo_0 (by decide) (by decide) lk_X9_29 rfl dX9_town_275 ?_
    replace hf := bd_some hf
    obtain ⟨q10, eq10, hf⟩ := hf
    refine gx_callv hG (gx_runV hXk F hX hG (c_X9_copies l w hXk n 1400 9 oM_9 1400 2 oM_2  _ _ eq10) cv_X9_297 ⟨Nat.le_of_ble_eq_true rfl, Nat.le_of_ble_eq_true rfl⟩ (g_recv F hG mo_0 (by decide) rfl) rfl hl.1 rfl (Nat.le_of_ble_eq_true rfl) dX9_town_278 ⟨Nat.le_refl _, Nat.le_refl _⟩) (fun H locs hG => ?_)
    refine lv_iconst (v := 0) hx hb dX9_town_281 (by decide) ?_
    refine lv_istore_n (lv' := [(2, .int (0 : Int32)), (0, .ref (w.2.2.1 0))]) hx hb dX9_town_282 rfl hl (by decide) rfl (fun ls hl => ?_)
    exact hJ283 _ _ _ _ ls hf hG (lv_sub hl [1, 0] rfl)
  have hJ201 : ∀ (t0 : Int32) (M : Mem) (H : Heap) (locs : List Loc) (ls : Array Slot), j_X9_town_201 n  t0 M = some res → GI w layM 24 s.heap M H locs → lv_has ls 3 [(0, .ref (w.2.2.1 0))] → W p l e (Rm 7) s m args below meth c H locs 0 0 (MQ below (GQi w layM 24 res s.heap.size) args s 0 0 (gA w.2.2.1 24 s.heap.size)) (F0 m 201 ls [.int t0, .ref (w.2.2.1 0)]) := by
    intro t0 M H locs ls hf hG hl
    unfold j_X9_town_201 at hf
    refine g_putI F hG mo_0 (by decide) (by decide) lkv_X9_7 rfl rfl rfl dX9_town_201 (fun H locs hG => ?_)
    refine lv_aload_n hx hb dX9_town_204 rfl (lv_at hl 0 rfl) ?_
    refine lv_aload_n hx hb dX9_town_205 rfl (lv_at hl 0 rfl) ?_
    refine g_getI F hG mo_0 (by decide) (by decide) lk_X9_256 rfl dX9_town_206 ?_
    refine lv_iconst (v := -1) hx hb dX9_town_209 (by decide) ?_
    refine lv_icmp_ne (tgt := 218) hx hb dX9_town_210 (by decide) (fun c11 => ?_) (fun c11 => ?_)
    · replace hf := if_f c11 hf
      refine lv_aload_n hx hb dX9_town_218 rfl (lv_at hl 0 rfl) ?_
      refine g_getI F hG mo_0 (by decide) (by decide) lk_X9_256 rfl dX9_town_219 ?_
      exact hJ222 _ _ _ _ ls hf hG (lv_sub hl [0] rfl)
    · replace hf := if_t c11 hf
      refine lv_bipush (v := 10) hx hb dX9_town_213 (by decide) ?_
      refine lv_goto (tgt := 222) hx hb dX9_town_215 (by decide) ?_
      exact hJ222 _ _ _ _ ls hf hG (lv_sub hl [0] rfl)
  have hJ153 : ∀ (M : Mem) (H : Heap) (locs : List Loc) (ls : Array Slot), j_X9_town_153 n   M = some res → GI w layM 24 s.heap M H locs → lv_has ls 3 [(0, .ref (w.2.2.1 0))] → W p l e (Rm 7) s m args below meth c H locs 0 0 (MQ below (GQi w layM 24 res s.heap.size) args s 0 0 (gA w.2.2.1 24 s.heap.size)) (F0 m 153 ls []) := by
    intro  M H locs ls hf hG hl
    unfold j_X9_town_153 at hf
    refine lv_aload_n hx hb dX9_town_153 rfl (lv_at hl 0 rfl) ?_
    replace hf := bd_some hf
    obtain ⟨q12, eq12, hf⟩ := hf
    refine gx_calli hG (gx_runV hXk F hX hG (c_X9_isGood l w hXk n   _ _ eq12) cv_X9_161 ⟨Nat.le_of_ble_eq_true rfl, Nat.le_of_ble_eq_true rfl⟩ (g_recv F hG mo_0 (by decide) rfl) rfl hl.1 rfl (Nat.le_of_ble_eq_true rfl) dX9_town_154 ⟨Nat.le_refl _, Nat.le_refl _⟩) (fun H locs hG => ?_)
    refine lv_if_ne (tgt := 175) hx hb dX9_town_157 (by decide) (fun c13 => ?_) (fun c13 => ?_)
    · replace hf := if_f c13 hf
      refine lv_aload_n hx hb dX9_town_175 rfl (lv_at hl 0 rfl) ?_
      refine lv_aload_n hx hb dX9_town_176 rfl (lv_at hl 0 rfl) ?_
      refine g_getI F hG mo_0 (by decide) (by decide) lk_X9_171 rfl dX9_town_177 ?_
      refine g_putI F hG mo_0 (by decide) (by decide) lkv_X9_291 rfl rfl rfl dX9_town_180 (fun H locs hG => ?_)
      refine lv_aload_n hx hb dX9_town_183 rfl (lv_at hl 0 rfl) ?_
      refine lv_aload_n hx hb dX9_town_184 rfl (lv_at hl 0 rfl) ?_
      refine g_getI F hG mo_0 (by decide) (by decide) lk_X9_253 rfl dX9_town_185 ?_
      refine lv_iconst (v := -1) hx hb dX9_town_188 (by decide) ?_
      refine lv_icmp_ne (tgt := 197) hx hb dX9_town_189 (by decide) (fun c14 => ?_) (fun c14 => ?_)
      · replace hf := if_f c14 hf
        refine lv_aload_n hx hb dX9_town_197 rfl (lv_at hl 0 rfl) ?_
        refine g_getI F hG mo_0 (by decide) (by decide) lk_X9_253 rfl dX9_town_198 ?_
        exact hJ201 _ _ _ _ ls hf hG (lv_sub hl [0] rfl)
      · replace hf := if_t c14 hf
        refine lv_bipush (v := 9) hx hb dX9_town_192 (by decide) ?_
        refine lv_goto (tgt := 201) hx hb dX9_town_194 (by decide) ?_
        exact hJ201 _ _ _ _ ls hf hG (lv_sub hl [0] rfl)
    · replace hf := if_t c13 hf
      refine lv_aload_n hx hb dX9_town_160 rfl (lv_at hl 0 rfl) ?_
      refine g_getR F hG 4 mo_0 (by decide) (by decide) lk_X9_38 rfl dX9_town_161 ?_
      refine lv_iconst (v := 0) hx hb dX9_town_164 (by decide) ?_
      refine lv_dup2_11 hx hb dX9_town_165 rfl rfl ?_
      refine g_iald F hG oM_4 (by decide) dX9_town_166 ?_
      refine lv_iconst (v := 1) hx hb dX9_town_167 (by decide) ?_
      refine lv_iadd hx hb dX9_town_168 ?_
      refine g_iast F hG oM_4 (by decide) dX9_town_169 (fun H locs hG => ?_)
      refine lv_aload_n hx hb dX9_town_170 rfl (lv_at hl 0 rfl) ?_
      refine g_getI F hG mo_0 (by decide) (by decide) lk_X9_158 rfl dX9_town_171 ?_
      exact cg_iret F hr hlk hG hf dX9_town_174
  have hJ132 : ∀ (M : Mem) (H : Heap) (locs : List Loc) (ls : Array Slot), gl (b_X9_town_132 n  ) n (M) = some res → GI w layM 24 s.heap M H locs → lv_has ls 3 [(0, .ref (w.2.2.1 0))] → W p l e (Rm 7) s m args below meth c H locs 0 0 (MQ below (GQi w layM 24 res s.heap.size) args s 0 0 (gA w.2.2.1 24 s.heap.size)) (F0 m 132 ls []) := by
    intro  M H locs ls hf hG hl
    refine gl_run (P := fun (q : (Mem)) => ∀ (H : Heap) (locs : List Loc) (ls : Array Slot), GI w layM 24 s.heap q H locs → lv_has ls 3 [(0, .ref (w.2.2.1 0))] → W p l e (Rm 7) s m args below meth c H locs 0 0 (MQ below (GQi w layM 24 res s.heap.size) args s 0 0 (gA w.2.2.1 24 s.heap.size)) (F0 m 132 ls [])) ?_ n (M) hf H locs ls hG hl
    clear hf hG hl ls locs H M 
    rintro M rr132 hf hI132 hE132 H locs ls hG hl
    try dsimp only at hG hl ⊢
    dsimp only [b_X9_town_132] at hf
    refine lv_aload_n hx hb dX9_town_132 rfl (lv_at hl 0 rfl) ?_
    replace hf := bd_some hf
    obtain ⟨q15, eq15, hf⟩ := hf
    refine gx_calli hG (gx_runV hXk F hX hG (c_X9_isGood l w hXk n   _ _ eq15) cv_X9_161 ⟨Nat.le_of_ble_eq_true rfl, Nat.le_of_ble_eq_true rfl⟩ (g_recv F hG mo_0 (by decide) rfl) rfl hl.1 rfl (Nat.le_of_ble_eq_true rfl) dX9_town_133 ⟨Nat.le_refl _, Nat.le_refl _⟩) (fun H locs hG => ?_)
    refine lv_if_eq (tgt := 153) hx hb dX9_town_136 (by decide) (fun c16 => ?_) (fun c16 => ?_)
    · replace hf := if_t c16 hf
      replace hf := mr_some hf
      obtain ⟨z132, hf, hz⟩ := hf
      rw [hE132 _ hz] at hf
      exact hJ153  _ _ _ ls hf hG (lv_sub hl [0] rfl)
    · replace hf := if_f c16 hf
      refine lv_aload_n hx hb dX9_town_139 rfl (lv_at hl 0 rfl) ?_
      refine g_getI F hG mo_0 (by decide) (by decide) lk_X9_135 rfl dX9_town_140 ?_
      refine lv_if_eq (tgt := 153) hx hb dX9_town_143 (by decide) (fun c17 => ?_) (fun c17 => ?_)
      · replace hf := if_t c17 hf
        replace hf := mr_some hf
        obtain ⟨z132, hf, hz⟩ := hf
        rw [hE132 _ hz] at hf
        exact hJ153  _ _ _ ls hf hG (lv_sub hl [0] rfl)
      · replace hf := if_f c17 hf
        refine lv_aload_n hx hb dX9_town_146 rfl (lv_at hl 0 rfl) ?_
        replace hf := bd_some hf
        obtain ⟨q18, eq18, hf⟩ := hf
        refine gx_callv hG (gx_runV hXk F hX hG (c_X9_line l w hXk n   _ _ eq18) cv_X9_288 ⟨Nat.le_of_ble_eq_true rfl, Nat.le_of_ble_eq_true rfl⟩ (g_recv F hG mo_0 (by decide) rfl) rfl hl.1 rfl (Nat.le_of_ble_eq_true rfl) dX9_town_147 ⟨Nat.le_refl _, Nat.le_refl _⟩) (fun H locs hG => ?_)
        refine lv_goto (tgt := 132) hx hb dX9_town_150 (by decide) ?_
        exact hI132 _ (Option.some.inj hf).symm _ _ ls hG (lv_sub hl [0] rfl)
  have hJ123 : ∀ (M : Mem) (H : Heap) (locs : List Loc) (ls : Array Slot), j_X9_town_123 n   M = some res → GI w layM 24 s.heap M H locs → lv_has ls 3 [(0, .ref (w.2.2.1 0))] → W p l e (Rm 7) s m args below meth c H locs 0 0 (MQ below (GQi w layM 24 res s.heap.size) args s 0 0 (gA w.2.2.1 24 s.heap.size)) (F0 m 123 ls []) := by
    intro  M H locs ls hf hG hl
    unfold j_X9_town_123 at hf
    refine lv_aload_n hx hb dX9_town_123 rfl (lv_at hl 0 rfl) ?_
    refine lv_iconst (v := 0) hx hb dX9_town_124 (by decide) ?_
    refine g_putI F hG mo_0 (by decide) (by decide) lkv_X9_174 rfl rfl rfl dX9_town_125 (fun H locs hG => ?_)
    refine lv_aload_n hx hb dX9_town_128 rfl (lv_at hl 0 rfl) ?_
    replace hf := bd_some hf
    obtain ⟨q19, eq19, hf⟩ := hf
    refine gx_callv hG (gx_runV hXk F hX hG (c_X9_goes l w hXk n   _ _ eq19) cv_X9_165 ⟨Nat.le_of_ble_eq_true rfl, Nat.le_of_ble_eq_true rfl⟩ (g_recv F hG mo_0 (by decide) rfl) rfl hl.1 rfl (Nat.le_of_ble_eq_true rfl) dX9_town_129 ⟨Nat.le_refl _, Nat.le_refl _⟩) (fun H locs hG => ?_)
    exact hJ132  _ _ _ ls hf hG (lv_sub hl [0] rfl)
  have hJ104 : ∀ (x2 : Int32) (M : Mem) (H : Heap) (locs : List Loc) (ls : Array Slot), gl (b_X9_town_104 n  ) n (x2, M) = some res → GI w layM 24 s.heap M H locs → lv_has ls 3 [(0, .ref (w.2.2.1 0)), (2, .int x2)] → W p l e (Rm 7) s m args below meth c H locs 0 0 (MQ below (GQi w layM 24 res s.heap.size) args s 0 0 (gA w.2.2.1 24 s.heap.size)) (F0 m 104 ls []) := by
    intro x2 M H locs ls hf hG hl
    refine gl_run (P := fun (q : (Int32 × Mem)) => ∀ (H : Heap) (locs : List Loc) (ls : Array Slot), GI w layM 24 s.heap q.2 H locs → lv_has ls 3 [(0, .ref (w.2.2.1 0)), (2, .int q.1)] → W p l e (Rm 7) s m args below meth c H locs 0 0 (MQ below (GQi w layM 24 res s.heap.size) args s 0 0 (gA w.2.2.1 24 s.heap.size)) (F0 m 104 ls [])) ?_ n (x2, M) hf H locs ls hG hl
    clear hf hG hl ls locs H M x2
    rintro ⟨x2, M⟩ rr104 hf hI104 hE104 H locs ls hG hl
    try dsimp only at hG hl ⊢
    dsimp only [b_X9_town_104] at hf
    refine lv_iload_n hx hb dX9_town_104 rfl (lv_at hl 1 rfl) ?_
    refine lv_bipush (v := 54) hx hb dX9_town_105 (by decide) ?_
    refine lv_icmp_ge (tgt := 123) hx hb dX9_town_107 (by decide) (fun c20 => ?_) (fun c20 => ?_)
    · replace hf := if_t c20 hf
      replace hf := mr_some hf
      obtain ⟨z104, hf, hz⟩ := hf
      rw [hE104 _ hz] at hf
      exact hJ123  _ _ _ ls hf hG (lv_sub hl [0] rfl)
    · replace hf := if_f c20 hf
      refine lv_aload_n hx hb dX9_town_110 rfl (lv_at hl 0 rfl) ?_
      refine g_getR F hG 6 mo_0 (by decide) (by decide) lk_X9_44 rfl dX9_town_111 ?_
      refine lv_iload_n hx hb dX9_town_114 rfl (lv_at hl 1 rfl) ?_
      refine lv_iconst (v := 0) hx hb dX9_town_115 (by decide) ?_
      replace hf := ck_some hf
      obtain ⟨k21, hf⟩ := hf
      refine g_iast F hG oM_6 k21 dX9_town_116 (fun H locs hG => ?_)
      refine lv_iinc (v := (x2 + (1 : Int32))) (lv' := [(2, .int (x2 + (1 : Int32))), (0, .ref (w.2.2.1 0))]) hx hb dX9_town_117 hl (k := 1) rfl rfl (by decide) rfl (fun ls hl => ?_)
      refine lv_goto (tgt := 104) hx hb dX9_town_120 (by decide) ?_
      exact hI104 _ (Option.some.inj hf).symm _ _ ls hG (lv_sub hl [1, 0] rfl)
  have hJ23 : ∀ (t0 : Int32) (x1 : Int32) (M : Mem) (H : Heap) (locs : List Loc) (ls : Array Slot), j_X9_town_23 n  t0 x1 M = some res → GI w layM 24 s.heap M H locs → lv_has ls 3 [(0, .ref (w.2.2.1 0)), (1, .int x1)] → W p l e (Rm 7) s m args below meth c H locs 0 0 (MQ below (GQi w layM 24 res s.heap.size) args s 0 0 (gA w.2.2.1 24 s.heap.size)) (F0 m 23 ls [.int t0, .ref (w.2.2.1 0)]) := by
    intro t0 x1 M H locs ls hf hG hl
    unfold j_X9_town_23 at hf
    refine lv_iconst (v := 1) hx hb dX9_town_23 (by decide) ?_
    replace hf := bd_some hf
    obtain ⟨q22, eq22, hf⟩ := hf
    refine gx_calli hG (gx_runV hXk F hX hG (c_X9_right l w hXk n  t0 (1 : Int32) _ _ eq22) cv_X9_284 ⟨Nat.le_of_ble_eq_true rfl, Nat.le_of_ble_eq_true rfl⟩ (g_recv F hG mo_0 (by decide) rfl) rfl hl.1 rfl (Nat.le_of_ble_eq_true rfl) dX9_town_24 ⟨Nat.le_refl _, Nat.le_refl _⟩) (fun H locs hG => ?_)
    refine lv_if_ne (tgt := 32) hx hb dX9_town_27 (by decide) (fun c23 => ?_) (fun c23 => ?_)
    · replace hf := if_f c23 hf
      refine lv_aload_n hx hb dX9_town_32 rfl (lv_at hl 0 rfl) ?_
      refine lv_iconst (v := 0) hx hb dX9_town_33 (by decide) ?_
      refine g_putI F hG mo_0 (by decide) (by decide) lkv_X9_105 rfl rfl rfl dX9_town_34 (fun H locs hG => ?_)
      refine lv_aload_n hx hb dX9_town_37 rfl (lv_at hl 0 rfl) ?_
      refine lv_iconst (v := -1) hx hb dX9_town_38 (by decide) ?_
      refine g_putI F hG mo_0 (by decide) (by decide) lkv_X9_35 rfl rfl rfl dX9_town_39 (fun H locs hG => ?_)
      refine lv_aload_n hx hb dX9_town_42 rfl (lv_at hl 0 rfl) ?_
      refine lv_iconst (v := 0) hx hb dX9_town_43 (by decide) ?_
      refine g_putI F hG mo_0 (by decide) (by decide) lkv_X9_158 rfl rfl rfl dX9_town_44 (fun H locs hG => ?_)
      refine lv_aload_n hx hb dX9_town_47 rfl (lv_at hl 0 rfl) ?_
      refine lv_iload_n hx hb dX9_town_48 rfl (lv_at hl 1 rfl) ?_
      refine g_putI F hG mo_0 (by decide) (by decide) lkv_X9_112 rfl rfl rfl dX9_town_49 (fun H locs hG => ?_)
      refine lv_aload_n hx hb dX9_town_52 rfl (lv_at hl 0 rfl) ?_
      refine lv_iconst (v := 0) hx hb dX9_town_53 (by decide) ?_
      refine g_putI F hG mo_0 (by decide) (by decide) lkv_X9_115 rfl rfl rfl dX9_town_54 (fun H locs hG => ?_)
      refine lv_aload_n hx hb dX9_town_57 rfl (lv_at hl 0 rfl) ?_
      refine lv_iconst (v := 0) hx hb dX9_town_58 (by decide) ?_
      refine g_putI F hG mo_0 (by decide) (by decide) lkv_X9_171 rfl rfl rfl dX9_town_59 (fun H locs hG => ?_)
      refine lv_aload_n hx hb dX9_town_62 rfl (lv_at hl 0 rfl) ?_
      refine lv_iconst (v := -1) hx hb dX9_town_63 (by decide) ?_
      refine g_putI F hG mo_0 (by decide) (by decide) lkv_X9_253 rfl rfl rfl dX9_town_64 (fun H locs hG => ?_)
      refine lv_aload_n hx hb dX9_town_67 rfl (lv_at hl 0 rfl) ?_
      refine lv_iconst (v := -1) hx hb dX9_town_68 (by decide) ?_
      refine g_putI F hG mo_0 (by decide) (by decide) lkv_X9_256 rfl rfl rfl dX9_town_69 (fun H locs hG => ?_)
      refine lv_aload_n hx hb dX9_town_72 rfl (lv_at hl 0 rfl) ?_
      refine lv_iconst (v := 0) hx hb dX9_town_73 (by decide) ?_
      refine g_putI F hG mo_0 (by decide) (by decide) lkv_X9_227 rfl rfl rfl dX9_town_74 (fun H locs hG => ?_)
      refine lv_aload_n hx hb dX9_town_77 rfl (lv_at hl 0 rfl) ?_
      refine lv_iconst (v := 0) hx hb dX9_town_78 (by decide) ?_
      refine g_putI F hG mo_0 (by decide) (by decide) lkv_X9_237 rfl rfl rfl dX9_town_79 (fun H locs hG => ?_)
      refine lv_aload_n hx hb dX9_town_82 rfl (lv_at hl 0 rfl) ?_
      refine lv_iconst (v := 0) hx hb dX9_town_83 (by decide) ?_
      refine g_putI F hG mo_0 (by decide) (by decide) lkv_X9_240 rfl rfl rfl dX9_town_84 (fun H locs hG => ?_)
      refine lv_aload_n hx hb dX9_town_87 rfl (lv_at hl 0 rfl) ?_
      refine lv_iconst (v := -1) hx hb dX9_town_88 (by decide) ?_
      refine g_putI F hG mo_0 (by decide) (by decide) lkv_X9_268 rfl rfl rfl dX9_town_89 (fun H locs hG => ?_)
      refine lv_aload_n hx hb dX9_town_92 rfl (lv_at hl 0 rfl) ?_
      refine lv_iconst (v := -1) hx hb dX9_town_93 (by decide) ?_
      refine g_putI F hG mo_0 (by decide) (by decide) lkv_X9_275 rfl rfl rfl dX9_town_94 (fun H locs hG => ?_)
      refine lv_aload_n hx hb dX9_town_97 rfl (lv_at hl 0 rfl) ?_
      refine lv_iconst (v := -1) hx hb dX9_town_98 (by decide) ?_
      refine g_putI F hG mo_0 (by decide) (by decide) lkv_X9_278 rfl rfl rfl dX9_town_99 (fun H locs hG => ?_)
      refine lv_iconst (v := 0) hx hb dX9_town_102 (by decide) ?_
      refine lv_istore_n (lv' := [(2, .int (0 : Int32)), (0, .ref (w.2.2.1 0)), (1, .int x1)]) hx hb dX9_town_103 rfl hl (by decide) rfl (fun ls hl => ?_)
      exact hJ104 _ _ _ _ ls hf hG (lv_sub hl [1, 0] rfl)
    · replace hf := if_t c23 hf
      refine lv_iconst (v := 0) hx hb dX9_town_30 (by decide) ?_
      exact cg_iret F hr hlk hG hf dX9_town_31
  have hJ22 : ∀ (x1 : Int32) (M : Mem) (H : Heap) (locs : List Loc) (ls : Array Slot), j_X9_town_22 n  x1 M = some res → GI w layM 24 s.heap M H locs → lv_has ls 3 [(0, .ref (w.2.2.1 0)), (1, .int x1)] → W p l e (Rm 7) s m args below meth c H locs 0 0 (MQ below (GQi w layM 24 res s.heap.size) args s 0 0 (gA w.2.2.1 24 s.heap.size)) (F0 m 22 ls [.ref (w.2.2.1 0)]) := by
    intro x1 M H locs ls hf hG hl
    unfold j_X9_town_22 at hf
    refine lv_iconst (v := 0) hx hb dX9_town_22 (by decide) ?_
    exact hJ23 _ _ _ _ _ ls hf hG (lv_sub hl [0, 1] rfl)
  unfold f_X9_town at hf
  refine lv_aload_n hx hb dX9_town_0 rfl (lv_at hl 0 rfl) ?_
  refine lv_iconst (v := 0) hx hb dX9_town_1 (by decide) ?_
  refine g_putI F hG mo_0 (by decide) (by decide) lkv_X9_102 rfl rfl rfl dX9_town_2 (fun H locs hG => ?_)
  refine lv_aload_n hx hb dX9_town_5 rfl (lv_at hl 0 rfl) ?_
  refine lv_iload_n hx hb dX9_town_6 rfl (lv_at hl 1 rfl) ?_
  refine lv_if_lt (tgt := 22) hx hb dX9_town_7 (by decide) (fun c24 => ?_) (fun c24 => ?_)
  · replace hf := if_t c24 hf
    exact hJ22 _ _ _ _ ls hf hG (lv_sub hl [0, 1] rfl)
  · replace hf := if_f c24 hf
    refine lv_iload_n hx hb dX9_town_10 rfl (lv_at hl 1 rfl) ?_
    refine lv_aload_n hx hb dX9_town_11 rfl (lv_at hl 0 rfl) ?_
    refine g_getI F hG mo_0 (by decide) (by decide) lk_X9_105 rfl dX9_town_12 ?_
    refine lv_icmp_gt (tgt := 22) hx hb dX9_town_15 (by decide) (fun c25 => ?_) (fun c25 => ?_)
    · replace hf := if_t c25 hf
      exact hJ22 _ _ _ _ ls hf hG (lv_sub hl [0, 1] rfl)
    · replace hf := if_f c25 hf
      refine lv_iconst (v := 1) hx hb dX9_town_18 (by decide) ?_
      refine lv_goto (tgt := 23) hx hb dX9_town_19 (by decide) ?_
      exact hJ23 _ _ _ _ _ ls hf hG (lv_sub hl [0, 1] rfl)
