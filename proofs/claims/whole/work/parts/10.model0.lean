def f_X9_thrown (n : Nat) (M : Mem) : Option (Int32 × Mem) := some ((gi M 0 0), M)
set_option maxHeartbeats 4000000 in
set_option maxRecDepth 100000 in
theorem c_X9_thrown (l : Launch) (w : Wd) {X : (Nat → Prop) → State → Heap → Prop} (hXk : XOK X) (n : Nat) (M : Mem) (res : Int32 × Mem) (hf : f_X9_thrown n   M = some res) : CG l w layM 24 X yX9_thrown cX9_thrown 1 (some .int) 0 [.ref (w.2.2.1 0)] M (GQi w layM 24 res) := by
  refine cg_start (by decide +kernel) (Nat.le_of_ble_eq_true rfl) ?_
  intro p e s m args below meth c F hr hlk hX hG ls hl
  have F : FX w p m c cX9_thrown 1 s args RX9 := F
  have hx := F.1.1
  have hb := F.1.2.1
  have hl : lv_has ls 1 [(0, .ref (w.2.2.1 0))] := hl
  unfold f_X9_thrown at hf
  refine lv_aload_n hx hb dX9_thrown_0 rfl (lv_at hl 0 rfl) ?_
  refine g_getI F hG mo_0 (by decide) (by decide) lk_X9_102 rfl dX9_thrown_1 ?_
  exact cg_iret F hr hlk hG hf dX9_thrown_4

def j_X9_right_16 (n : Nat) (M : Mem) : Option (Int32 × Mem) := if (gi M 0 0) = 0 then (some ((1 : Int32), M)) else (some ((0 : Int32), M))
def f_X9_right (n : Nat) (x1 : Int32) (x2 : Int32) (M : Mem) : Option (Int32 × Mem) := if (gi M 0 0) = 0 then (if x1 = 0 then (j_X9_right_16 n  (si M 0 0 x2)) else (j_X9_right_16 n  M)) else (j_X9_right_16 n  M)
set_option maxHeartbeats 4000000 in
set_option maxRecDepth 100000 in
theorem c_X9_right (l : Launch) (w : Wd) {X : (Nat → Prop) → State → Heap → Prop} (hXk : XOK X) (n : Nat) (x1 : Int32) (x2 : Int32) (M : Mem) (res : Int32 × Mem) (hf : f_X9_right n  x1 x2 M = some res) : CG l w layM 24 X yX9_right cX9_right 3 (some .boolean) 0 [.ref (w.2.2.1 0), .int x1, .int x2] M (GQi w layM 24 res) := by
  refine cg_start (by decide +kernel) (Nat.le_of_ble_eq_true rfl) ?_
  intro p e s m args below meth c F hr hlk hX hG ls hl
  have F : FX w p m c cX9_right 3 s args RX9 := F
  have hx := F.1.1
  have hb := F.1.2.1
  have hl : lv_has ls 3 [(0, .ref (w.2.2.1 0)), (1, .int x1), (2, .int x2)] := hl
  have hJ16 : ∀ (M : Mem) (H : Heap) (locs : List Loc) (ls : Array Slot), j_X9_right_16 n   M = some res → GI w layM 24 s.heap M H locs → lv_has ls 3 [(0, .ref (w.2.2.1 0))] → W p l e (Rm 0) s m args below meth c H locs 0 0 (MQ below (GQi w layM 24 res s.heap.size) args s 0 0 (gA w.2.2.1 24 s.heap.size)) (F0 m 16 ls []) := by
    intro  M H locs ls hf hG hl
    unfold j_X9_right_16 at hf
    refine lv_aload_n hx hb dX9_right_16 rfl (lv_at hl 0 rfl) ?_
    refine g_getI F hG mo_0 (by decide) (by decide) lk_X9_102 rfl dX9_right_17 ?_
    refine lv_if_ne (tgt := 27) hx hb dX9_right_20 (by decide) (fun c1 => ?_) (fun c1 => ?_)
    · replace hf := if_f c1 hf
      refine lv_iconst (v := 0) hx hb dX9_right_27 (by decide) ?_
      exact cg_zret F hr hlk hG hf (Or.inl rfl) dX9_right_28
    · replace hf := if_t c1 hf
      refine lv_iconst (v := 1) hx hb dX9_right_23 (by decide) ?_
      refine lv_goto (tgt := 28) hx hb dX9_right_24 (by decide) ?_
      exact cg_zret F hr hlk hG hf (Or.inr rfl) dX9_right_28
  unfold f_X9_right at hf
  refine lv_aload_n hx hb dX9_right_0 rfl (lv_at hl 0 rfl) ?_
  refine g_getI F hG mo_0 (by decide) (by decide) lk_X9_102 rfl dX9_right_1 ?_
  refine lv_if_ne (tgt := 16) hx hb dX9_right_4 (by decide) (fun c2 => ?_) (fun c2 => ?_)
  · replace hf := if_f c2 hf
    exact hJ16  _ _ _ ls hf hG (lv_sub hl [0] rfl)
  · replace hf := if_t c2 hf
    refine lv_iload_n hx hb dX9_right_7 rfl (lv_at hl 1 rfl) ?_
    refine lv_if_ne (tgt := 16) hx hb dX9_right_8 (by decide) (fun c3 => ?_) (fun c3 => ?_)
    · replace hf := if_f c3 hf
      exact hJ16  _ _ _ ls hf hG (lv_sub hl [0] rfl)
    · replace hf := if_t c3 hf
      refine lv_aload_n hx hb dX9_right_11 rfl (lv_at hl 0 rfl) ?_
      refine lv_iload_n hx hb dX9_right_12 rfl (lv_at hl 2 rfl) ?_
      refine g_putI F hG mo_0 (by decide) (by decide) lkv_X9_102 rfl rfl rfl dX9_right_13 (fun H locs hG => ?_)
      exact hJ16  _ _ _ ls hf hG (lv_sub hl [0] rfl)

def f_X9_within (n : Nat) (x0 : Int32) (x1 : Int32) (x2 : Int32) (M : Mem) : Option (Int32 × Mem) := if x0 < x1 then (some ((0 : Int32), M)) else (if x2 < x0 then (some ((0 : Int32), M)) else (some ((1 : Int32), M)))
set_option maxHeartbeats 4000000 in
set_option maxRecDepth 100000 in
theorem c_X9_within (l : Launch) (w : Wd) {X : (Nat → Prop) → State → Heap → Prop} (hXk : XOK X) (n : Nat) (x0 : Int32) (x1 : Int32) (x2 : Int32) (M : Mem) (res : Int32 × Mem) (hf : f_X9_within n  x0 x1 x2 M = some res) : CG l w layM 24 X yX9_within cX9_within 3 (some .boolean) 0 [.int x0, .int x1, .int x2] M (GQi w layM 24 res) := by
  refine cg_start (by decide +kernel) (Nat.le_of_ble_eq_true rfl) ?_
  intro p e s m args below meth c F hr hlk hX hG ls hl
  have F : FX w p m c cX9_within 3 s args RX9 := F
  have hx := F.1.1
  have hb := F.1.2.1
  have hl : lv_has ls 3 [(0, .int x0), (1, .int x1), (2, .int x2)] := hl
  unfold f_X9_within at hf
  refine lv_iload_n hx hb dX9_within_0 rfl (lv_at hl 0 rfl) ?_
  refine lv_iload_n hx hb dX9_within_1 rfl (lv_at hl 1 rfl) ?_
  refine lv_icmp_lt (tgt := 14) hx hb dX9_within_2 (by decide) (fun c1 => ?_) (fun c1 => ?_)
  · replace hf := if_t c1 hf
    refine lv_iconst (v := 0) hx hb dX9_within_14 (by decide) ?_
    exact cg_zret F hr hlk hG hf (Or.inl rfl) dX9_within_15
  · replace hf := if_f c1 hf
    refine lv_iload_n hx hb dX9_within_5 rfl (lv_at hl 0 rfl) ?_
    refine lv_iload_n hx hb dX9_within_6 rfl (lv_at hl 2 rfl) ?_
    refine lv_icmp_gt (tgt := 14) hx hb dX9_within_7 (by decide) (fun c2 => ?_) (fun c2 => ?_)
    · replace hf := if_t c2 hf
      refine lv_iconst (v := 0) hx hb dX9_within_14 (by decide) ?_
      exact cg_zret F hr hlk hG hf (Or.inl rfl) dX9_within_15
    · replace hf := if_f c2 hf
      refine lv_iconst (v := 1) hx hb dX9_within_10 (by decide) ?_
      refine lv_goto (tgt := 15) hx hb dX9_within_11 (by decide) ?_
      exact cg_zret F hr hlk hG hf (Or.inr rfl) dX9_within_15

def f_X9_bounded (n : Nat) (x0 : Int32) (x1 : Int32) (x2 : Int32) (M : Mem) : Option (Int32 × Mem) := if x1 ≤ x0 then (if x0 ≤ x2 then (some (x0, M)) else (some (x2, M))) else (some (x1, M))
set_option maxHeartbeats 4000000 in
set_option maxRecDepth 100000 in
theorem c_X9_bounded (l : Launch) (w : Wd) {X : (Nat → Prop) → State → Heap → Prop} (hXk : XOK X) (n : Nat) (x0 : Int32) (x1 : Int32) (x2 : Int32) (M : Mem) (res : Int32 × Mem) (hf : f_X9_bounded n  x0 x1 x2 M = some res) : CG l w layM 24 X yX9_bounded cX9_bounded 3 (some .int) 0 [.int x0, .int x1, .int x2] M (GQi w layM 24 res) := by
  refine cg_start (by decide +kernel) (Nat.le_of_ble_eq_true rfl) ?_
  intro p e s m args below meth c F hr hlk hX hG ls hl
  have F : FX w p m c cX9_bounded 3 s args RX9 := F
  have hx := F.1.1
  have hb := F.1.2.1
  have hl : lv_has ls 3 [(0, .int x0), (1, .int x1), (2, .int x2)] := hl
  unfold f_X9_bounded at hf
  refine lv_iload_n hx hb dX9_bounded_0 rfl (lv_at hl 0 rfl) ?_
  refine lv_iload_n hx hb dX9_bounded_1 rfl (lv_at hl 1 rfl) ?_
  refine lv_icmp_ge (tgt := 9) hx hb dX9_bounded_2 (by decide) (fun c1 => ?_) (fun c1 => ?_)
  · replace hf := if_t c1 hf
    refine lv_iload_n hx hb dX9_bounded_9 rfl (lv_at hl 0 rfl) ?_
    refine lv_iload_n hx hb dX9_bounded_10 rfl (lv_at hl 2 rfl) ?_
    refine lv_icmp_le (tgt := 18) hx hb dX9_bounded_11 (by decide) (fun c2 => ?_) (fun c2 => ?_)
    · replace hf := if_t c2 hf
      refine lv_iload_n hx hb dX9_bounded_18 rfl (lv_at hl 0 rfl) ?_
      exact cg_iret F hr hlk hG hf dX9_bounded_19
    · replace hf := if_f c2 hf
      refine lv_iload_n hx hb dX9_bounded_14 rfl (lv_at hl 2 rfl) ?_
      refine lv_goto (tgt := 19) hx hb dX9_bounded_15 (by decide) ?_
      exact cg_iret F hr hlk hG hf dX9_bounded_19
  · replace hf := if_f c1 hf
    refine lv_iload_n hx hb dX9_bounded_5 rfl (lv_at hl 1 rfl) ?_
    refine lv_goto (tgt := 19) hx hb dX9_bounded_6 (by decide) ?_
    exact cg_iret F hr hlk hG hf dX9_bounded_19

def f_X9_differ (n : Nat) (x0 : Int32) (x1 : Int32) (M : Mem) : Option (Int32 × Mem) := if x1 ≤ x0 then (some ((x0 - x1), M)) else (some ((x1 - x0), M))
set_option maxHeartbeats 4000000 in
set_option maxRecDepth 100000 in
theorem c_X9_differ (l : Launch) (w : Wd) {X : (Nat → Prop) → State → Heap → Prop} (hXk : XOK X) (n : Nat) (x0 : Int32) (x1 : Int32) (M : Mem) (res : Int32 × Mem) (hf : f_X9_differ n  x0 x1 M = some res) : CG l w layM 24 X yX9_differ cX9_differ 2 (some .int) 0 [.int x0, .int x1] M (GQi w layM 24 res) := by
  refine cg_start (by decide +kernel) (Nat.le_of_ble_eq_true rfl) ?_
  intro p e s m args below meth c F hr hlk hX hG ls hl
  have F : FX w p m c cX9_differ 2 s args RX9 := F
  have hx := F.1.1
  have hb := F.1.2.1
  have hl : lv_has ls 2 [(0, .int x0), (1, .int x1)] := hl
  unfold f_X9_differ at hf
  refine lv_iload_n hx hb dX9_differ_0 rfl (lv_at hl 0 rfl) ?_
  refine lv_iload_n hx hb dX9_differ_1 rfl (lv_at hl 1 rfl) ?_
  refine lv_icmp_ge (tgt := 11) hx hb dX9_differ_2 (by decide) (fun c1 => ?_) (fun c1 => ?_)
  · replace hf := if_t c1 hf
    refine lv_iload_n hx hb dX9_differ_11 rfl (lv_at hl 0 rfl) ?_
    refine lv_iload_n hx hb dX9_differ_12 rfl (lv_at hl 1 rfl) ?_
    refine lv_isub hx hb dX9_differ_13 ?_
    exact cg_iret F hr hlk hG hf dX9_differ_14
  · replace hf := if_f c1 hf
    refine lv_iload_n hx hb dX9_differ_5 rfl (lv_at hl 1 rfl) ?_
    refine lv_iload_n hx hb dX9_differ_6 rfl (lv_at hl 0 rfl) ?_
    refine lv_isub hx hb dX9_differ_7 ?_
    refine lv_goto (tgt := 14) hx hb dX9_differ_8 (by decide) ?_
    exact cg_iret F hr hlk hG hf dX9_differ_14

def b_X9_copies_2 (n : Nat) (n1 : Nat) (r1 : Nat) (n2 : Nat) (r2 : Nat) (q : (Int32 × Mem)) : Option ((Int32 × Mem) ⊕ (Mem)) := match q with
  | (x3, M) => if (nI n1) ≤ x3 then (mr (some M)) else (ck (inb x3 n1) (ck (inb x3 n2) (some (.inl ((x3 + (1 : Int32)), si M r2 x3.toNatClampNeg (gi M r1 x3.toNatClampNeg))))))
def f_X9_copies (n : Nat) (n1 : Nat) (r1 : Nat) (n2 : Nat) (r2 : Nat) (M : Mem) : Option (Mem) := gl (b_X9_copies_2 n n1 r1 n2 r2) n ((0 : Int32), M)
set_option maxHeartbeats 4000000 in
set_option maxRecDepth 100000 in
theorem c_X9_copies (l : Launch) (w : Wd) {X : (Nat → Prop) → State → Heap → Prop} (hXk : XOK X) (n : Nat) (n1 : Nat) (r1 : Nat) (hr1 : isO layM 24 r1 20 n1 nof) (n2 : Nat) (r2 : Nat) (hr2 : isO layM 24 r2 20 n2 nof) (M : Mem) (res : Mem) (hf : f_X9_copies n n1 r1 n2 r2  M = some res) : CG l w layM 24 X yX9_copies cX9_copies 4 none 0 [.ref (w.2.2.1 0), .ref (w.2.2.1 r1), .ref (w.2.2.1 r2)] M (GQv w layM 24 res) := by
  refine cg_start (by decide +kernel) (Nat.le_of_ble_eq_true rfl) ?_
  intro p e s m args below meth c F hr hlk hX hG ls hl
  have F : FX w p m c cX9_copies 4 s args RX9 := F
  have hx := F.1.1
  have hb := F.1.2.1
  have hl : lv_has ls 4 [(0, .ref (w.2.2.1 0)), (1, .ref (w.2.2.1 r1)), (2, .ref (w.2.2.1 r2))] := hl
  have hJ2 : ∀ (x3 : Int32) (M : Mem) (H : Heap) (locs : List Loc) (ls : Array Slot), gl (b_X9_copies_2 n n1 r1 n2 r2 ) n (x3, M) = some res → GI w layM 24 s.heap M H locs → lv_has ls 4 [(1, .ref (w.2.2.1 r1)), (2, .ref (w.2.2.1 r2)), (3, .int x3)] → W p l e (Rm 0) s m args below meth c H locs 0 0 (MQ below (GQv w layM 24 res s.heap.size) args s 0 0 (gA w.2.2.1 24 s.heap.size)) (F0 m 2 ls []) := by
    intro x3 M H locs ls hf hG hl
    refine gl_run (P := fun (q : (Int32 × Mem)) => ∀ (H : Heap) (locs : List Loc) (ls : Array Slot), GI w layM 24 s.heap q.2 H locs → lv_has ls 4 [(1, .ref (w.2.2.1 r1)), (2, .ref (w.2.2.1 r2)), (3, .int q.1)] → W p l e (Rm 0) s m args below meth c H locs 0 0 (MQ below (GQv w layM 24 res s.heap.size) args s 0 0 (gA w.2.2.1 24 s.heap.size)) (F0 m 2 ls [])) ?_ n (x3, M) hf H locs ls hG hl
    clear hf hG hl ls locs H M x3
    rintro ⟨x3, M⟩ rr2 hf hI2 hE2 H locs ls hG hl
    try dsimp only at hG hl ⊢
    dsimp only [b_X9_copies_2] at hf
    refine lv_iload_n hx hb dX9_copies_2 rfl (lv_at hl 2 rfl) ?_
    refine lv_aload_n hx hb dX9_copies_3 rfl (lv_at hl 0 rfl) ?_
    refine g_alen (v := nI n1) F hG hr1 rfl dX9_copies_4 ?_
    refine lv_icmp_ge (tgt := 20) hx hb dX9_copies_5 (by decide) (fun c1 => ?_) (fun c1 => ?_)
    · replace hf := if_t c1 hf
      replace hf := mr_some hf
      obtain ⟨z2, hf, hz⟩ := hf
      rw [hE2 _ hz] at hf
      exact cg_vret F hr hlk hG hf dX9_copies_20
    · replace hf := if_f c1 hf
      refine lv_aload_n hx hb dX9_copies_8 rfl (lv_at hl 1 rfl) ?_
      refine lv_iload_n hx hb dX9_copies_9 rfl (lv_at hl 2 rfl) ?_
      refine lv_aload_n hx hb dX9_copies_10 rfl (lv_at hl 0 rfl) ?_
      refine lv_iload_n hx hb dX9_copies_11 rfl (lv_at hl 2 rfl) ?_
      replace hf := ck_some hf
      obtain ⟨k2, hf⟩ := hf
      refine g_iald F hG hr1 k2 dX9_copies_12 ?_
      replace hf := ck_some hf
      obtain ⟨k3, hf⟩ := hf
      refine g_iast F hG hr2 k3 dX9_copies_13 (fun H locs hG => ?_)
      refine lv_iinc (v := (x3 + (1 : Int32))) (lv' := [(3, .int (x3 + (1 : Int32))), (1, .ref (w.2.2.1 r1)), (2, .ref (w.2.2.1 r2))]) hx hb dX9_copies_14 hl (k := 2) rfl rfl (by decide) rfl (fun ls hl => ?_)
      refine lv_goto (tgt := 2) hx hb dX9_copies_17 (by decide) ?_
      exact hI2 _ (Option.some.inj hf).symm _ _ ls hG (lv_sub hl [1, 2, 0] rfl)
  unfold f_X9_copies at hf
  refine lv_iconst (v := 0) hx hb dX9_copies_0 (by decide) ?_
  refine lv_istore_n (lv' := [(3, .int (0 : Int32)), (0, .ref (w.2.2.1 0)), (1, .ref (w.2.2.1 r1)), (2, .ref (w.2.2.1 r2))]) hx hb dX9_copies_1 rfl hl (by decide) rfl (fun ls hl => ?_)
  exact hJ2 _ _ _ _ ls hf hG (lv_sub hl [2, 3, 0] rfl)

def b_X9_bits_4 (n : Nat) (x0 : Int32) (q : (Int32 × Int32 × Mem)) : Option ((Int32 × Int32 × Mem) ⊕ (Int32 × Mem)) := match q with
  | (x1, x2, M) => if (8 : Int32) ≤ x2 then (mr (some (x1, M))) else (some (.inl ((x1 + ((x0 >>> (x2 &&& 31)) &&& (1 : Int32))), (x2 + (1 : Int32)), M)))
def f_X9_bits (n : Nat) (x0 : Int32) (M : Mem) : Option (Int32 × Mem) := gl (b_X9_bits_4 n  x0) n ((0 : Int32), (0 : Int32), M)
set_option maxHeartbeats 4000000 in
set_option maxRecDepth 100000 in
theorem c_X9_bits (l : Launch) (w : Wd) {X : (Nat → Prop) → State → Heap → Prop} (hXk : XOK X) (n : Nat) (x0 : Int32) (M : Mem) (res : Int32 × Mem) (hf : f_X9_bits n  x0 M = some res) : CG l w layM 24 X yX9_bits cX9_bits 3 (some .int) 0 [.int x0] M (GQi w layM 24 res) := by
  refine cg_start (by decide +kernel) (Nat.le_of_ble_eq_true rfl) ?_
  intro p e s m args below meth c F hr hlk hX hG ls hl
  have F : FX w p m c cX9_bits 3 s args RX9 := F
  have hx := F.1.1
  have hb := F.1.2.1
  have hl : lv_has ls 3 [(0, .int x0)] := hl
  have hJ4 : ∀ (x0 : Int32) (x1 : Int32) (x2 : Int32) (M : Mem) (H : Heap) (locs : List Loc) (ls : Array Slot), gl (b_X9_bits_4 n  x0) n (x1, x2, M) = some res → GI w layM 24 s.heap M H locs → lv_has ls 3 [(0, .int x0), (1, .int x1), (2, .int x2)] → W p l e (Rm 0) s m args below meth c H locs 0 0 (MQ below (GQi w layM 24 res s.heap.size) args s 0 0 (gA w.2.2.1 24 s.heap.size)) (F0 m 4 ls []) := by
    intro x0 x1 x2 M H locs ls hf hG hl
    refine gl_run (P := fun (q : (Int32 × Int32 × Mem)) => ∀ (H : Heap) (locs : List Loc) (ls : Array Slot), GI w layM 24 s.heap q.2.2 H locs → lv_has ls 3 [(0, .int x0), (1, .int q.1), (2, .int q.2.1)] → W p l e (Rm 0) s m args below meth c H locs 0 0 (MQ below (GQi w layM 24 res s.heap.size) args s 0 0 (gA w.2.2.1 24 s.heap.size)) (F0 m 4 ls [])) ?_ n (x1, x2, M) hf H locs ls hG hl
    clear hf hG hl ls locs H M x1 x2
    rintro ⟨x1, x2, M⟩ rr4 hf hI4 hE4 H locs ls hG hl
    try dsimp only at hG hl ⊢
    dsimp only [b_X9_bits_4] at hf
    refine lv_iload_n hx hb dX9_bits_4 rfl (lv_at hl 2 rfl) ?_
    refine lv_bipush (v := 8) hx hb dX9_bits_5 (by decide) ?_
    refine lv_icmp_ge (tgt := 24) hx hb dX9_bits_7 (by decide) (fun c1 => ?_) (fun c1 => ?_)
    · replace hf := if_t c1 hf
      refine lv_iload_n hx hb dX9_bits_24 rfl (lv_at hl 1 rfl) ?_
      replace hf := mr_some hf
      obtain ⟨z4, hf, hz⟩ := hf
      rw [hE4 _ hz] at hf
      exact cg_iret F hr hlk hG hf dX9_bits_25
    · replace hf := if_f c1 hf
      refine lv_iload_n hx hb dX9_bits_10 rfl (lv_at hl 1 rfl) ?_
      refine lv_iload_n hx hb dX9_bits_11 rfl (lv_at hl 0 rfl) ?_
      refine lv_iload_n hx hb dX9_bits_12 rfl (lv_at hl 2 rfl) ?_
      refine lv_ishr hx hb dX9_bits_13 ?_
      refine lv_iconst (v := 1) hx hb dX9_bits_14 (by decide) ?_
      refine lv_iand hx hb dX9_bits_15 ?_
      refine lv_iadd hx hb dX9_bits_16 ?_
      refine lv_istore_n (lv' := [(1, .int (x1 + ((x0 >>> (x2 &&& 31)) &&& (1 : Int32)))), (0, .int x0), (2, .int x2)]) hx hb dX9_bits_17 rfl hl (by decide) rfl (fun ls hl => ?_)
      refine lv_iinc (v := (x2 + (1 : Int32))) (lv' := [(2, .int (x2 + (1 : Int32))), (1, .int (x1 + ((x0 >>> (x2 &&& 31)) &&& (1 : Int32)))), (0, .int x0)]) hx hb dX9_bits_18 hl (k := 2) rfl rfl (by decide) rfl (fun ls hl => ?_)
      refine lv_goto (tgt := 4) hx hb dX9_bits_21 (by decide) ?_
      exact hI4 _ (Option.some.inj hf).symm _ _ ls hG (lv_sub hl [2, 1, 0] rfl)
  unfold f_X9_bits at hf
  refine lv_iconst (v := 0) hx hb dX9_bits_0 (by decide) ?_
  refine lv_istore_n (lv' := [(1, .int (0 : Int32)), (0, .int x0)]) hx hb dX9_bits_1 rfl hl (by decide) rfl (fun ls hl => ?_)
  refine lv_iconst (v := 0) hx hb dX9_bits_2 (by decide) ?_
  refine lv_istore_n (lv' := [(2, .int (0 : Int32)), (1, .int (0 : Int32)), (0, .int x0)]) hx hb dX9_bits_3 rfl hl (by decide) rfl (fun ls hl => ?_)
  exact hJ4 _ _ _ _ _ _ ls hf hG (lv_sub hl [2, 1, 0] rfl)

def b_X9_lays_3 (n : Nat) (x1 : Int32) (q : (Int32 × Mem)) : Option ((Int32 × Mem) ⊕ (Mem)) := match q with
  | (x2, M) => if x2 < 0 then (mr (some M)) else (ck (inb (gi M 0 11) 700) (some (.inl ((x2 + (-8 : Int32)), si (si M 3 (gi M 0 11).toNatClampNeg ((x1 >>> (x2 &&& 31)) &&& (255 : Int32))) 0 11 ((gi (si M 3 (gi M 0 11).toNatClampNeg ((x1 >>> (x2 &&& 31)) &&& (255 : Int32))) 0 11) + (1 : Int32))))))
def f_X9_lays (n : Nat) (x1 : Int32) (M : Mem) : Option (Mem) := gl (b_X9_lays_3 n  x1) n ((24 : Int32), M)
set_option maxHeartbeats 4000000 in
set_option maxRecDepth 100000 in
theorem c_X9_lays (l : Launch) (w : Wd) {X : (Nat → Prop) → State → Heap → Prop} (hXk : XOK X) (n : Nat) (x1 : Int32) (M : Mem) (res : Mem) (hf : f_X9_lays n  x1 M = some res) : CG l w layM 24 X yX9_lays cX9_lays 3 none 0 [.ref (w.2.2.1 0), .int x1] M (GQv w layM 24 res) := by
  refine cg_start (by decide +kernel) (Nat.le_of_ble_eq_true rfl) ?_
  intro p e s m args below meth c F hr hlk hX hG ls hl
  have F : FX w p m c cX9_lays 3 s args RX9 := F
  have hx := F.1.1
  have hb := F.1.2.1
  have hl : lv_has ls 3 [(0, .ref (w.2.2.1 0)), (1, .int x1)] := hl
  have hJ3 : ∀ (x1 : Int32) (x2 : Int32) (M : Mem) (H : Heap) (locs : List Loc) (ls : Array Slot), gl (b_X9_lays_3 n  x1) n (x2, M) = some res → GI w layM 24 s.heap M H locs → lv_has ls 3 [(0, .ref (w.2.2.1 0)), (1, .int x1), (2, .int x2)] → W p l e (Rm 0) s m args below meth c H locs 0 0 (MQ below (GQv w layM 24 res s.heap.size) args s 0 0 (gA w.2.2.1 24 s.heap.size)) (F0 m 3 ls []) := by
    intro x1 x2 M H locs ls hf hG hl
    refine gl_run (P := fun (q : (Int32 × Mem)) => ∀ (H : Heap) (locs : List Loc) (ls : Array Slot), GI w layM 24 s.heap q.2 H locs → lv_has ls 3 [(0, .ref (w.2.2.1 0)), (1, .int x1), (2, .int q.1)] → W p l e (Rm 0) s m args below meth c H locs 0 0 (MQ below (GQv w layM 24 res s.heap.size) args s 0 0 (gA w.2.2.1 24 s.heap.size)) (F0 m 3 ls [])) ?_ n (x2, M) hf H locs ls hG hl
    clear hf hG hl ls locs H M x2
    rintro ⟨x2, M⟩ rr3 hf hI3 hE3 H locs ls hG hl
    try dsimp only at hG hl ⊢
    dsimp only [b_X9_lays_3] at hf
    refine lv_iload_n hx hb dX9_lays_3 rfl (lv_at hl 2 rfl) ?_
    refine lv_if_lt (tgt := 39) hx hb dX9_lays_4 (by decide) (fun c1 => ?_) (fun c1 => ?_)
    · replace hf := if_t c1 hf
      replace hf := mr_some hf
      obtain ⟨z3, hf, hz⟩ := hf
      rw [hE3 _ hz] at hf
      exact cg_vret F hr hlk hG hf dX9_lays_39
    · replace hf := if_f c1 hf
      refine lv_aload_n hx hb dX9_lays_7 rfl (lv_at hl 0 rfl) ?_
      refine g_getR F hG 3 mo_0 (by decide) (by decide) lk_X9_32 rfl dX9_lays_8 ?_
      refine lv_aload_n hx hb dX9_lays_11 rfl (lv_at hl 0 rfl) ?_
      refine g_getI F hG mo_0 (by decide) (by decide) lk_X9_105 rfl dX9_lays_12 ?_
      refine lv_iload_n hx hb dX9_lays_15 rfl (lv_at hl 1 rfl) ?_
      refine lv_iload_n hx hb dX9_lays_16 rfl (lv_at hl 2 rfl) ?_
      refine lv_ishr hx hb dX9_lays_17 ?_
      refine lv_sipush (v := 255) hx hb dX9_lays_18 (by decide) ?_
      refine lv_iand hx hb dX9_lays_21 ?_
      replace hf := ck_some hf
      obtain ⟨k2, hf⟩ := hf
      refine g_iast F hG oM_3 k2 dX9_lays_22 (fun H locs hG => ?_)
      refine lv_aload_n hx hb dX9_lays_23 rfl (lv_at hl 0 rfl) ?_
      refine lv_dup hx hb dX9_lays_24 rfl ?_
      refine g_getI F hG mo_0 (by decide) (by decide) lk_X9_105 rfl dX9_lays_25 ?_
      refine lv_iconst (v := 1) hx hb dX9_lays_28 (by decide) ?_
      refine lv_iadd hx hb dX9_lays_29 ?_
      refine g_putI F hG mo_0 (by decide) (by decide) lkv_X9_105 rfl rfl rfl dX9_lays_30 (fun H locs hG => ?_)
      refine lv_iinc (v := (x2 + (-8 : Int32))) (lv' := [(2, .int (x2 + (-8 : Int32))), (0, .ref (w.2.2.1 0)), (1, .int x1)]) hx hb dX9_lays_33 hl (k := 2) rfl rfl (by decide) rfl (fun ls hl => ?_)
      refine lv_goto (tgt := 3) hx hb dX9_lays_36 (by decide) ?_
      exact hI3 _ (Option.some.inj hf).symm _ _ ls hG (lv_sub hl [1, 2, 0] rfl)
  unfold f_X9_lays at hf
  refine lv_bipush (v := 24) hx hb dX9_lays_0 (by decide) ?_
  refine lv_istore_n (lv' := [(2, .int (24 : Int32)), (0, .ref (w.2.2.1 0)), (1, .int x1)]) hx hb dX9_lays_2 rfl hl (by decide) rfl (fun ls hl => ?_)
  exact hJ3 _ _ _ _ _ ls hf hG (lv_sub hl [1, 2, 0] rfl)

def f_X9_feed (n : Nat) (x1 : Int32) (x2 : Int32) (x3 : Int32) (x4 : Int32) (x5 : Int32) (M : Mem) : Option (Int32 × Mem) := if ((gi (si M 0 0 (0 : Int32)) 0 11) + (20 : Int32)) ≤ (700 : Int32) then (bd (f_X9_lays n  x1 (si M 0 0 (0 : Int32))) (fun q2 => bd (f_X9_lays n  x2 q2) (fun q3 => bd (f_X9_lays n  x3 q3) (fun q4 => bd (f_X9_lays n  x4 q4) (fun q5 => bd (f_X9_lays n  x5 q5) (fun q6 => some ((gi q6 0 11), q6))))))) else (some ((-1 : Int32), si M 0 0 (0 : Int32)))
set_option maxHeartbeats 4000000 in
set_option maxRecDepth 100000 in
theorem c_X9_feed (l : Launch) (w : Wd) {X : (Nat → Prop) → State → Heap → Prop} (hXk : XOK X) (n : Nat) (x1 : Int32) (x2 : Int32) (x3 : Int32) (x4 : Int32) (x5 : Int32) (M : Mem) (res : Int32 × Mem) (hf : f_X9_feed n  x1 x2 x3 x4 x5 M = some res) : CG l w layM 24 X yX9_feed cX9_feed 6 (some .int) 1 [.ref (w.2.2.1 0), .int x1, .int x2, .int x3, .int x4, .int x5] M (GQi w layM 24 res) := by
  refine cg_start (by decide +kernel) (Nat.le_of_ble_eq_true rfl) ?_
  intro p e s m args below meth c F hr hlk hX hG ls hl
  have F : FX w p m c cX9_feed 6 s args RX9 := F
  have hx := F.1.1
  have hb := F.1.2.1
  have hl : lv_has ls 6 [(0, .ref (w.2.2.1 0)), (1, .int x1), (2, .int x2), (3, .int x3), (4, .int x4), (5, .int x5)] := hl
  unfold f_X9_feed at hf
  refine lv_aload_n hx hb dX9_feed_0 rfl (lv_at hl 0 rfl) ?_
  refine lv_iconst (v := 0) hx hb dX9_feed_1 (by decide) ?_
  refine g_putI F hG mo_0 (by decide) (by decide) lkv_X9_102 rfl rfl rfl dX9_feed_2 (fun H locs hG => ?_)
  refine lv_aload_n hx hb dX9_feed_5 rfl (lv_at hl 0 rfl) ?_
  refine g_getI F hG mo_0 (by decide) (by decide) lk_X9_105 rfl dX9_feed_6 ?_
  refine lv_bipush (v := 20) hx hb dX9_feed_9 (by decide) ?_
  refine lv_iadd hx hb dX9_feed_11 ?_
  refine lv_sipush (v := 700) hx hb dX9_feed_12 (by decide) ?_
  refine lv_icmp_le (tgt := 20) hx hb dX9_feed_15 (by decide) (fun c1 => ?_) (fun c1 => ?_)
  · replace hf := if_t c1 hf
    refine lv_aload_n hx hb dX9_feed_20 rfl (lv_at hl 0 rfl) ?_
    refine lv_iload_n hx hb dX9_feed_21 rfl (lv_at hl 1 rfl) ?_
    replace hf := bd_some hf
    obtain ⟨q2, eq2, hf⟩ := hf
    refine gx_callv hG (gx_runV hXk F hX hG (c_X9_lays l w hXk n  x1 _ _ eq2) cv_X9_108 ⟨Nat.le_of_ble_eq_true rfl, Nat.le_of_ble_eq_true rfl⟩ (g_recv F hG mo_0 (by decide) rfl) rfl hl.1 rfl (Nat.le_of_ble_eq_true rfl) dX9_feed_22 ⟨Nat.le_refl _, Nat.le_refl _⟩) (fun H locs hG => ?_)
    refine lv_aload_n hx hb dX9_feed_25 rfl (lv_at hl 0 rfl) ?_
    refine lv_iload_n hx hb dX9_feed_26 rfl (lv_at hl 2 rfl) ?_
    replace hf := bd_some hf
    obtain ⟨q3, eq3, hf⟩ := hf
    refine gx_callv hG (gx_runV hXk F hX hG (c_X9_lays l w hXk n  x2 _ _ eq3) cv_X9_108 ⟨Nat.le_of_ble_eq_true rfl, Nat.le_of_ble_eq_true rfl⟩ (g_recv F hG mo_0 (by decide) rfl) rfl hl.1 rfl (Nat.le_of_ble_eq_true rfl) dX9_feed_27 ⟨Nat.le_refl _, Nat.le_refl _⟩) (fun H locs hG => ?_)
    refine lv_aload_n hx hb dX9_feed_30 rfl (lv_at hl 0 rfl) ?_
    refine lv_iload_n hx hb dX9_feed_31 rfl (lv_at hl 3 rfl) ?_
    replace hf := bd_some hf
    obtain ⟨q4, eq4, hf⟩ := hf
    refine gx_callv hG (gx_runV hXk F hX hG (c_X9_lays l w hXk n  x3 _ _ eq4) cv_X9_108 ⟨Nat.le_of_ble_eq_true rfl, Nat.le_of_ble_eq_true rfl⟩ (g_recv F hG mo_0 (by decide) rfl) rfl hl.1 rfl (Nat.le_of_ble_eq_true rfl) dX9_feed_32 ⟨Nat.le_refl _, Nat.le_refl _⟩) (fun H locs hG => ?_)
    refine lv_aload_n hx hb dX9_feed_35 rfl (lv_at hl 0 rfl) ?_
    refine lv_iload hx hb dX9_feed_36 (lv_at hl 4 rfl) ?_
    replace hf := bd_some hf
    obtain ⟨q5, eq5, hf⟩ := hf
    refine gx_callv hG (gx_runV hXk F hX hG (c_X9_lays l w hXk n  x4 _ _ eq5) cv_X9_108 ⟨Nat.le_of_ble_eq_true rfl, Nat.le_of_ble_eq_true rfl⟩ (g_recv F hG mo_0 (by decide) rfl) rfl hl.1 rfl (Nat.le_of_ble_eq_true rfl) dX9_feed_38 ⟨Nat.le_refl _, Nat.le_refl _⟩) (fun H locs hG => ?_)
    refine lv_aload_n hx hb dX9_feed_41 rfl (lv_at hl 0 rfl) ?_
    refine lv_iload hx hb dX9_feed_42 (lv_at hl 5 rfl) ?_
    replace hf := bd_some hf
    obtain ⟨q6, eq6, hf⟩ := hf
    refine gx_callv hG (gx_runV hXk F hX hG (c_X9_lays l w hXk n  x5 _ _ eq6) cv_X9_108 ⟨Nat.le_of_ble_eq_true rfl, Nat.le_of_ble_eq_true rfl⟩ (g_recv F hG mo_0 (by decide) rfl) rfl hl.1 rfl (Nat.le_of_ble_eq_true rfl) dX9_feed_44 ⟨Nat.le_refl _, Nat.le_refl _⟩) (fun H locs hG => ?_)
    refine lv_aload_n hx hb dX9_feed_47 rfl (lv_at hl 0 rfl) ?_
    refine g_getI F hG mo_0 (by decide) (by decide) lk_X9_105 rfl dX9_feed_48 ?_
    exact cg_iret F hr hlk hG hf dX9_feed_51
  · replace hf := if_f c1 hf
    refine lv_iconst (v := -1) hx hb dX9_feed_18 (by decide) ?_
    exact cg_iret F hr hlk hG hf dX9_feed_19

def f_X9_byteAt (n : Nat) (x1 : Int32) (M : Mem) : Option (Int32 × Mem) := if (gi M 0 15) ≤ x1 then (some ((0 : Int32), M)) else (ck (inb x1 700) (some ((gi M 3 x1.toNatClampNeg), M)))
set_option maxHeartbeats 4000000 in
set_option maxRecDepth 100000 in
theorem c_X9_byteAt (l : Launch) (w : Wd) {X : (Nat → Prop) → State → Heap → Prop} (hXk : XOK X) (n : Nat) (x1 : Int32) (M : Mem) (res : Int32 × Mem) (hf : f_X9_byteAt n  x1 M = some res) : CG l w layM 24 X yX9_byteAt cX9_byteAt 2 (some .int) 0 [.ref (w.2.2.1 0), .int x1] M (GQi w layM 24 res) := by
  refine cg_start (by decide +kernel) (Nat.le_of_ble_eq_true rfl) ?_
  intro p e s m args below meth c F hr hlk hX hG ls hl
  have F : FX w p m c cX9_byteAt 2 s args RX9 := F
  have hx := F.1.1
  have hb := F.1.2.1
  have hl : lv_has ls 2 [(0, .ref (w.2.2.1 0)), (1, .int x1)] := hl
  unfold f_X9_byteAt at hf
  refine lv_iload_n hx hb dX9_byteAt_0 rfl (lv_at hl 1 rfl) ?_
  refine lv_aload_n hx hb dX9_byteAt_1 rfl (lv_at hl 0 rfl) ?_
  refine g_getI F hG mo_0 (by decide) (by decide) lk_X9_112 rfl dX9_byteAt_2 ?_
  refine lv_icmp_ge (tgt := 17) hx hb dX9_byteAt_5 (by decide) (fun c1 => ?_) (fun c1 => ?_)
  · replace hf := if_t c1 hf
    refine lv_iconst (v := 0) hx hb dX9_byteAt_17 (by decide) ?_
    exact cg_iret F hr hlk hG hf dX9_byteAt_18
  · replace hf := if_f c1 hf
    refine lv_aload_n hx hb dX9_byteAt_8 rfl (lv_at hl 0 rfl) ?_
    refine g_getR F hG 3 mo_0 (by decide) (by decide) lk_X9_32 rfl dX9_byteAt_9 ?_
    refine lv_iload_n hx hb dX9_byteAt_12 rfl (lv_at hl 1 rfl) ?_
    replace hf := ck_some hf
    obtain ⟨k2, hf⟩ := hf
    refine g_iald F hG oM_3 k2 dX9_byteAt_13 ?_
    refine lv_goto (tgt := 18) hx hb dX9_byteAt_14 (by decide) ?_
    exact cg_iret F hr hlk hG hf dX9_byteAt_18

def f_X9_isLetter (n : Nat) (x0 : Int32) (M : Mem) : Option (Int32 × Mem) := if x0 < (97 : Int32) then (some ((0 : Int32), M)) else (if (122 : Int32) < x0 then (some ((0 : Int32), M)) else (some ((1 : Int32), M)))
set_option maxHeartbeats 4000000 in
set_option maxRecDepth 100000 in
theorem c_X9_isLetter (l : Launch) (w : Wd) {X : (Nat → Prop) → State → Heap → Prop} (hXk : XOK X) (n : Nat) (x0 : Int32) (M : Mem) (res : Int32 × Mem) (hf : f_X9_isLetter n  x0 M = some res) : CG l w layM 24 X yX9_isLetter cX9_isLetter 1 (some .boolean) 0 [.int x0] M (GQi w layM 24 res) := by
  refine cg_start (by decide +kernel) (Nat.le_of_ble_eq_true rfl) ?_
  intro p e s m args below meth c F hr hlk hX hG ls hl
  have F : FX w p m c cX9_isLetter 1 s args RX9 := F
  have hx := F.1.1
  have hb := F.1.2.1
  have hl : lv_has ls 1 [(0, .int x0)] := hl
  unfold f_X9_isLetter at hf
  refine lv_iload_n hx hb dX9_isLetter_0 rfl (lv_at hl 0 rfl) ?_
  refine lv_bipush (v := 97) hx hb dX9_isLetter_1 (by decide) ?_
  refine lv_icmp_lt (tgt := 16) hx hb dX9_isLetter_3 (by decide) (fun c1 => ?_) (fun c1 => ?_)
  · replace hf := if_t c1 hf
    refine lv_iconst (v := 0) hx hb dX9_isLetter_16 (by decide) ?_
    exact cg_zret F hr hlk hG hf (Or.inl rfl) dX9_isLetter_17
  · replace hf := if_f c1 hf
    refine lv_iload_n hx hb dX9_isLetter_6 rfl (lv_at hl 0 rfl) ?_
    refine lv_bipush (v := 122) hx hb dX9_isLetter_7 (by decide) ?_
    refine lv_icmp_gt (tgt := 16) hx hb dX9_isLetter_9 (by decide) (fun c2 => ?_) (fun c2 => ?_)
    · replace hf := if_t c2 hf
      refine lv_iconst (v := 0) hx hb dX9_isLetter_16 (by decide) ?_
      exact cg_zret F hr hlk hG hf (Or.inl rfl) dX9_isLetter_17
    · replace hf := if_f c2 hf
      refine lv_iconst (v := 1) hx hb dX9_isLetter_12 (by decide) ?_
      refine lv_goto (tgt := 17) hx hb dX9_isLetter_13 (by decide) ?_
      exact cg_zret F hr hlk hG hf (Or.inr rfl) dX9_isLetter_17

def f_X9_isDigit (n : Nat) (x0 : Int32) (M : Mem) : Option (Int32 × Mem) := if x0 < (48 : Int32) then (some ((0 : Int32), M)) else (if (57 : Int32) < x0 then (some ((0 : Int32), M)) else (some ((1 : Int32), M)))
set_option maxHeartbeats 4000000 in
set_option maxRecDepth 100000 in
theorem c_X9_isDigit (l : Launch) (w : Wd) {X : (Nat → Prop) → State → Heap → Prop} (hXk : XOK X) (n : Nat) (x0 : Int32) (M : Mem) (res : Int32 × Mem) (hf : f_X9_isDigit n  x0 M = some res) : CG l w layM 24 X yX9_isDigit cX9_isDigit 1 (some .boolean) 0 [.int x0] M (GQi w layM 24 res) := by
  refine cg_start (by decide +kernel) (Nat.le_of_ble_eq_true rfl) ?_
  intro p e s m args below meth c F hr hlk hX hG ls hl
  have F : FX w p m c cX9_isDigit 1 s args RX9 := F
  have hx := F.1.1
  have hb := F.1.2.1
  have hl : lv_has ls 1 [(0, .int x0)] := hl
  unfold f_X9_isDigit at hf
  refine lv_iload_n hx hb dX9_isDigit_0 rfl (lv_at hl 0 rfl) ?_
  refine lv_bipush (v := 48) hx hb dX9_isDigit_1 (by decide) ?_
  refine lv_icmp_lt (tgt := 16) hx hb dX9_isDigit_3 (by decide) (fun c1 => ?_) (fun c1 => ?_)
  · replace hf := if_t c1 hf
    refine lv_iconst (v := 0) hx hb dX9_isDigit_16 (by decide) ?_
    exact cg_zret F hr hlk hG hf (Or.inl rfl) dX9_isDigit_17
  · replace hf := if_f c1 hf
    refine lv_iload_n hx hb dX9_isDigit_6 rfl (lv_at hl 0 rfl) ?_
    refine lv_bipush (v := 57) hx hb dX9_isDigit_7 (by decide) ?_
    refine lv_icmp_gt (tgt := 16) hx hb dX9_isDigit_9 (by decide) (fun c2 => ?_) (fun c2 => ?_)
    · replace hf := if_t c2 hf
      refine lv_iconst (v := 0) hx hb dX9_isDigit_16 (by decide) ?_
      exact cg_zret F hr hlk hG hf (Or.inl rfl) dX9_isDigit_17
    · replace hf := if_f c2 hf
      refine lv_iconst (v := 1) hx hb dX9_isDigit_12 (by decide) ?_
      refine lv_goto (tgt := 17) hx hb dX9_isDigit_13 (by decide) ?_
      exact cg_zret F hr hlk hG hf (Or.inr rfl) dX9_isDigit_17

def j_X9_goes_331 (n : Nat) (M : Mem) : Option (Mem) := some (si M 0 19 ((gi M 0 16) - (gi M 0 18)))
def j_X9_goes_172 (n : Nat) (M : Mem) : Option (Mem) := j_X9_goes_331 n  (si M 0 17 (1 : Int32))
def j_X9_goes_159 (n : Nat) (M : Mem) : Option ((Mem) ⊕ (Mem)) := some (.inl (si M 0 16 ((gi M 0 16) + (1 : Int32))))
def b_X9_goes_108 (n : Nat) (q : (Mem)) : Option ((Mem) ⊕ (Mem)) := match q with
  | (M) => bd (f_X9_byteAt n  (gi M 0 16) M) (fun q1 => bd (f_X9_isLetter n  q1.1 q1.2) (fun q2 => if q2.1 = 0 then (mr (j_X9_goes_172 n  q2.2)) else (if (8 : Int32) ≤ ((gi q2.2 0 16) - (gi q2.2 0 18)) then (j_X9_goes_159 n  q2.2) else (bd (f_X9_byteAt n  (gi q2.2 0 16) q2.2) (fun q5 => j_X9_goes_159 n  (sj q5.2 0 22 (((gj q2.2 0 22) <<< ((5 : Int32).toInt64 &&& 63)) ||| ((q5.1 - (96 : Int32)).toInt64))))))))
def j_X9_goes_250 (n : Nat) (M : Mem) : Option (Mem) := j_X9_goes_331 n  (si M 0 17 (2 : Int32))
def j_X9_goes_237 (n : Nat) (M : Mem) : Option ((Mem) ⊕ (Mem)) := some (.inl (si M 0 16 ((gi M 0 16) + (1 : Int32))))
def b_X9_goes_187 (n : Nat) (q : (Mem)) : Option ((Mem) ⊕ (Mem)) := match q with
  | (M) => bd (f_X9_byteAt n  (gi M 0 16) M) (fun q6 => bd (f_X9_isDigit n  q6.1 q6.2) (fun q7 => if q7.1 = 0 then (mr (j_X9_goes_250 n  q7.2)) else (if (4 : Int32) ≤ ((gi q7.2 0 16) - (gi q7.2 0 18)) then (j_X9_goes_237 n  q7.2) else (bd (f_X9_byteAt n  (gi q7.2 0 16) q7.2) (fun q10 => j_X9_goes_237 n  (si q10.2 0 20 ((((10 : Int32) * (gi q7.2 0 20)) + q10.1) - (48 : Int32))))))))
def j_X9_goes_328 (n : Nat) (t0 : Int32) (M : Mem) : Option (Mem) := j_X9_goes_331 n  (si M 0 17 t0)
def j_X9_goes_323 (n : Nat) (M : Mem) : Option (Mem) := j_X9_goes_328 n  (3 : Int32) M
def j_X9_goes_50 (n : Nat) (M : Mem) : Option (Mem) := bd (f_X9_byteAt n  (gi (si (sj (si M 0 18 (gi M 0 16)) 0 22 (0 : Int64)) 0 20 (0 : Int32)) 0 16) (si (sj (si M 0 18 (gi M 0 16)) 0 22 (0 : Int64)) 0 20 (0 : Int32))) (fun q11 => if (gi (si q11.2 0 21 q11.1) 0 16) < (gi (si q11.2 0 21 q11.1) 0 15) then (bd (f_X9_isLetter n  q11.1 (si q11.2 0 21 q11.1)) (fun q13 => if q13.1 = 0 then (bd (f_X9_isDigit n  q11.1 q13.2) (fun q15 => if q15.1 = 0 then (if q11.1 = (59 : Int32) then (j_X9_goes_323 n  (si q15.2 0 16 ((gi q15.2 0 16) + (1 : Int32)))) else (if q11.1 = (40 : Int32) then (j_X9_goes_323 n  (si q15.2 0 16 ((gi q15.2 0 16) + (1 : Int32)))) else (if q11.1 = (41 : Int32) then (j_X9_goes_323 n  (si q15.2 0 16 ((gi q15.2 0 16) + (1 : Int32)))) else (if q11.1 = (43 : Int32) then (j_X9_goes_323 n  (si q15.2 0 16 ((gi q15.2 0 16) + (1 : Int32)))) else (if q11.1 = (45 : Int32) then (j_X9_goes_323 n  (si q15.2 0 16 ((gi q15.2 0 16) + (1 : Int32)))) else (if q11.1 = (42 : Int32) then (j_X9_goes_323 n  (si q15.2 0 16 ((gi q15.2 0 16) + (1 : Int32)))) else (if q11.1 = (47 : Int32) then (j_X9_goes_323 n  (si q15.2 0 16 ((gi q15.2 0 16) + (1 : Int32)))) else (if q11.1 = (60 : Int32) then (j_X9_goes_323 n  (si q15.2 0 16 ((gi q15.2 0 16) + (1 : Int32)))) else (if q11.1 = (61 : Int32) then (j_X9_goes_323 n  (si q15.2 0 16 ((gi q15.2 0 16) + (1 : Int32)))) else (j_X9_goes_328 n  (4 : Int32) (si q15.2 0 16 ((gi q15.2 0 16) + (1 : Int32))))))))))))) else (gl (b_X9_goes_187 n ) n (q15.2)))) else (gl (b_X9_goes_108 n ) n (q13.2)))) else (j_X9_goes_331 n  (si (si q11.2 0 21 q11.1) 0 17 (0 : Int32))))
def j_X9_goes_37 (n : Nat) (M : Mem) : Option ((Mem) ⊕ (Mem)) := some (.inl (si M 0 16 ((gi M 0 16) + (1 : Int32))))
def b_X9_goes_0 (n : Nat) (q : (Mem)) : Option ((Mem) ⊕ (Mem)) := match q with
  | (M) => if (gi M 0 15) ≤ (gi M 0 16) then (mr (j_X9_goes_50 n  M)) else (bd (f_X9_byteAt n  (gi M 0 16) M) (fun q27 => if q27.1 = (32 : Int32) then (j_X9_goes_37 n  q27.2) else (bd (f_X9_byteAt n  (gi q27.2 0 16) q27.2) (fun q29 => if q29.1 = (10 : Int32) then (j_X9_goes_37 n  q29.2) else (mr (j_X9_goes_50 n  q29.2))))))
def f_X9_goes (n : Nat) (M : Mem) : Option (Mem) := gl (b_X9_goes_0 n ) n (M)
set_option maxHeartbeats 4000000 in
set_option maxRecDepth 100000 in
theorem c_X9_goes (l : Launch) (w : Wd) {X : (Nat → Prop) → State → Heap → Prop} (hXk : XOK X) (n : Nat) (M : Mem) (res : Mem) (hf : f_X9_goes n   M = some res) : CG l w layM 24 X yX9_goes cX9_goes 2 none 1 [.ref (w.2.2.1 0)] M (GQv w layM 24 res) := by
  refine cg_start (by decide +kernel) (Nat.le_of_ble_eq_true rfl) ?_
  intro p e s m args below meth c F hr hlk hX hG ls hl
  have F : FX w p m c cX9_goes 2 s args RX9 := F
  have hx := F.1.1
  have hb := F.1.2.1
  have hl : lv_has ls 2 [(0, .ref (w.2.2.1 0))] := hl
  have hJ331 : ∀ (M : Mem) (H : Heap) (locs : List Loc) (ls : Array Slot), j_X9_goes_331 n   M = some res → GI w layM 24 s.heap M H locs → lv_has ls 2 [(0, .ref (w.2.2.1 0))] → W p l e (Rm 1) s m args below meth c H locs 0 0 (MQ below (GQv w layM 24 res s.heap.size) args s 0 0 (gA w.2.2.1 24 s.heap.size)) (F0 m 331 ls []) := by
    intro  M H locs ls hf hG hl
    unfold j_X9_goes_331 at hf
    refine lv_aload_n hx hb dX9_goes_331 rfl (lv_at hl 0 rfl) ?_
    refine lv_aload_n hx hb dX9_goes_332 rfl (lv_at hl 0 rfl) ?_
    refine g_getI F hG mo_0 (by decide) (by decide) lk_X9_115 rfl dX9_goes_333 ?_
    refine lv_aload_n hx hb dX9_goes_336 rfl (lv_at hl 0 rfl) ?_
    refine g_getI F hG mo_0 (by decide) (by decide) lk_X9_122 rfl dX9_goes_337 ?_
    refine lv_isub hx hb dX9_goes_340 ?_
    refine g_putI F hG mo_0 (by decide) (by decide) lkv_X9_145 rfl rfl rfl dX9_goes_341 (fun H locs hG => ?_)
    exact cg_vret F hr hlk hG hf dX9_goes_344
  have hJ172 : ∀ (M : Mem) (H : Heap) (locs : List Loc) (ls : Array Slot), j_X9_goes_172 n   M = some res → GI w layM 24 s.heap M H locs → lv_has ls 2 [(0, .ref (w.2.2.1 0))] → W p l e (Rm 1) s m args below meth c H locs 0 0 (MQ below (GQv w layM 24 res s.heap.size) args s 0 0 (gA w.2.2.1 24 s.heap.size)) (F0 m 172 ls []) := by
    intro  M H locs ls hf hG hl
    unfold j_X9_goes_172 at hf
    refine lv_aload_n hx hb dX9_goes_172 rfl (lv_at hl 0 rfl) ?_
    refine lv_iconst (v := 1) hx hb dX9_goes_173 (by decide) ?_
    refine g_putI F hG mo_0 (by decide) (by decide) lkv_X9_135 rfl rfl rfl dX9_goes_174 (fun H locs hG => ?_)
    refine lv_goto (tgt := 331) hx hb dX9_goes_177 (by decide) ?_
    exact hJ331  _ _ _ ls hf hG (lv_sub hl [0] rfl)
  have hJ108 : ∀ (M : Mem) (H : Heap) (locs : List Loc) (ls : Array Slot), gl (b_X9_goes_108 n  ) n (M) = some res → GI w layM 24 s.heap M H locs → lv_has ls 2 [(0, .ref (w.2.2.1 0))] → W p l e (Rm 1) s m args below meth c H locs 0 0 (MQ below (GQv w layM 24 res s.heap.size) args s 0 0 (gA w.2.2.1 24 s.heap.size)) (F0 m 108 ls []) := by
    intro  M H locs ls hf hG hl
    refine gl_run (P := fun (q : (Mem)) => ∀ (H : Heap) (locs : List Loc) (ls : Array Slot), GI w layM 24 s.heap q H locs → lv_has ls 2 [(0, .ref (w.2.2.1 0))] → W p l e (Rm 1) s m args below meth c H locs 0 0 (MQ below (GQv w layM 24 res s.heap.size) args s 0 0 (gA w.2.2.1 24 s.heap.size)) (F0 m 108 ls [])) ?_ n (M) hf H locs ls hG hl
    clear hf hG hl ls locs H M 
    rintro M rr108 hf hI108 hE108 H locs ls hG hl
    try dsimp only at hG hl ⊢
    have hJ159 : ∀ (M : Mem) (H : Heap) (locs : List Loc) (ls : Array Slot), j_X9_goes_159 n   M = some rr108 → GI w layM 24 s.heap M H locs → lv_has ls 2 [(0, .ref (w.2.2.1 0))] → W p l e (Rm 1) s m args below meth c H locs 0 0 (MQ below (GQv w layM 24 res s.heap.size) args s 0 0 (gA w.2.2.1 24 s.heap.size)) (F0 m 159 ls []) := by
      intro  M H locs ls hf hG hl
      unfold j_X9_goes_159 at hf
      refine lv_aload_n hx hb dX9_goes_159 rfl (lv_at hl 0 rfl) ?_
      refine lv_dup hx hb dX9_goes_160 rfl ?_
      refine g_getI F hG mo_0 (by decide) (by decide) lk_X9_115 rfl dX9_goes_161 ?_
      refine lv_iconst (v := 1) hx hb dX9_goes_164 (by decide) ?_
      refine lv_iadd hx hb dX9_goes_165 ?_
      refine g_putI F hG mo_0 (by decide) (by decide) lkv_X9_115 rfl rfl rfl dX9_goes_166 (fun H locs hG => ?_)
      refine lv_goto (tgt := 108) hx hb dX9_goes_169 (by decide) ?_
      exact hI108 _ (Option.some.inj hf).symm _ _ ls hG (lv_sub hl [0] rfl)
    dsimp only [b_X9_goes_108] at hf
    refine lv_aload_n hx hb dX9_goes_108 rfl (lv_at hl 0 rfl) ?_
    refine lv_aload_n hx hb dX9_goes_109 rfl (lv_at hl 0 rfl) ?_
    refine g_getI F hG mo_0 (by decide) (by decide) lk_X9_115 rfl dX9_goes_110 ?_
    replace hf := bd_some hf
    obtain ⟨q1, eq1, hf⟩ := hf
    refine gx_calli hG (gx_runV hXk F hX hG (c_X9_byteAt l w hXk n  (gi M 0 16) _ _ eq1) cv_X9_118 ⟨Nat.le_of_ble_eq_true rfl, Nat.le_of_ble_eq_true rfl⟩ (g_recv F hG mo_0 (by decide) rfl) rfl hl.1 rfl (Nat.le_of_ble_eq_true rfl) dX9_goes_113 ⟨Nat.le_refl _, Nat.le_refl _⟩) (fun H locs hG => ?_)
    replace hf := bd_some hf
    obtain ⟨q2, eq2, hf⟩ := hf
    refine gx_calli hG (gx_runS hXk F hX hG (c_X9_isLetter l w hXk n  q1.1 _ _ eq2) cs_X9_138 ⟨Nat.le_of_ble_eq_true rfl, Nat.le_of_ble_eq_true rfl⟩ rfl hl.1 rfl (Nat.le_of_ble_eq_true rfl) dX9_goes_116 ⟨Nat.le_refl _, Nat.le_refl _⟩) (fun H locs hG => ?_)
    refine lv_if_eq (tgt := 172) hx hb dX9_goes_119 (by decide) (fun c3 => ?_) (fun c3 => ?_)
    · replace hf := if_t c3 hf
      replace hf := mr_some hf
      obtain ⟨z108, hf, hz⟩ := hf
      rw [hE108 _ hz] at hf
      exact hJ172  _ _ _ ls hf hG (lv_sub hl [0] rfl)
    · replace hf := if_f c3 hf
      refine lv_aload_n hx hb dX9_goes_122 rfl (lv_at hl 0 rfl) ?_
      refine g_getI F hG mo_0 (by decide) (by decide) lk_X9_115 rfl dX9_goes_123 ?_
      refine lv_aload_n hx hb dX9_goes_126 rfl (lv_at hl 0 rfl) ?_
      refine g_getI F hG mo_0 (by decide) (by decide) lk_X9_122 rfl dX9_goes_127 ?_
      refine lv_isub hx hb dX9_goes_130 ?_
      refine lv_bipush (v := 8) hx hb dX9_goes_131 (by decide) ?_
      refine lv_icmp_ge (tgt := 159) hx hb dX9_goes_133 (by decide) (fun c4 => ?_) (fun c4 => ?_)
      · replace hf := if_t c4 hf
        exact hJ159  _ _ _ ls hf hG (lv_sub hl [0] rfl)
      · replace hf := if_f c4 hf
        refine lv_aload_n hx hb dX9_goes_136 rfl (lv_at hl 0 rfl) ?_
        refine lv_aload_n hx hb dX9_goes_137 rfl (lv_at hl 0 rfl) ?_
        refine g_getJ F hG mo_0 (by decide) (by decide) lk_X9_125 rfl dX9_goes_138 ?_
        refine lv_iconst (v := 5) hx hb dX9_goes_141 (by decide) ?_
        refine lv_lshl hx hb dX9_goes_142 rfl ?_
        refine lv_aload_n hx hb dX9_goes_143 rfl (lv_at hl 0 rfl) ?_
        refine lv_aload_n hx hb dX9_goes_144 rfl (lv_at hl 0 rfl) ?_
        refine g_getI F hG mo_0 (by decide) (by decide) lk_X9_115 rfl dX9_goes_145 ?_
        replace hf := bd_some hf
        obtain ⟨q5, eq5, hf⟩ := hf
        refine gx_calli hG (gx_runV hXk F hX hG (c_X9_byteAt l w hXk n  (gi q2.2 0 16) _ _ eq5) cv_X9_118 ⟨Nat.le_of_ble_eq_true rfl, Nat.le_of_ble_eq_true rfl⟩ (g_recv F hG mo_0 (by decide) rfl) rfl hl.1 rfl (Nat.le_of_ble_eq_true rfl) dX9_goes_148 ⟨Nat.le_refl _, Nat.le_refl _⟩) (fun H locs hG => ?_)
        refine lv_bipush (v := 96) hx hb dX9_goes_151 (by decide) ?_
        refine lv_isub hx hb dX9_goes_153 ?_
        refine lv_i2l hx hb dX9_goes_154 rfl ?_
        refine lv_lor hx hb dX9_goes_155 ?_
        refine g_putJ F hG mo_0 (by decide) (by decide) lkv_X9_125 rfl dX9_goes_156 (fun H locs hG => ?_)
        exact hJ159  _ _ _ ls hf hG (lv_sub hl [0] rfl)
  have hJ250 : ∀ (M : Mem) (H : Heap) (locs : List Loc) (ls : Array Slot), j_X9_goes_250 n   M = some res → GI w layM 24 s.heap M H locs → lv_has ls 2 [(0, .ref (w.2.2.1 0))] → W p l e (Rm 1) s m args below meth c H locs 0 0 (MQ below (GQv w layM 24 res s.heap.size) args s 0 0 (gA w.2.2.1 24 s.heap.size)) (F0 m 250 ls []) := by
    intro  M H locs ls hf hG hl
    unfold j_X9_goes_250 at hf
    refine lv_aload_n hx hb dX9_goes_250 rfl (lv_at hl 0 rfl) ?_
    refine lv_iconst (v := 2) hx hb dX9_goes_251 (by decide) ?_
    refine g_putI F hG mo_0 (by decide) (by decide) lkv_X9_135 rfl rfl rfl dX9_goes_252 (fun H locs hG => ?_)
    refine lv_goto (tgt := 331) hx hb dX9_goes_255 (by decide) ?_
    exact hJ331  _ _ _ ls hf hG (lv_sub hl [0] rfl)
  have hJ187 : ∀ (M : Mem) (H : Heap) (locs : List Loc) (ls : Array Slot), gl (b_X9_goes_187 n  ) n (M) = some res → GI w layM 24 s.heap M H locs → lv_has ls 2 [(0, .ref (w.2.2.1 0))] → W p l e (Rm 1) s m args below meth c H locs 0 0 (MQ below (GQv w layM 24 res s.heap.size) args s 0 0 (gA w.2.2.1 24 s.heap.size)) (F0 m 187 ls []) := by
    intro  M H locs ls hf hG hl
    refine gl_run (P := fun (q : (Mem)) => ∀ (H : Heap) (locs : List Loc) (ls : Array Slot), GI w layM 24 s.heap q H locs → lv_has ls 2 [(0, .ref (w.2.2.1 0))] → W p l e (Rm 1) s m args below meth c H locs 0 0 (MQ below (GQv w layM 24 res s.heap.size) args s 0 0 (gA w.2.2.1 24 s.heap.size)) (F0 m 187 ls [])) ?_ n (M) hf H locs ls hG hl
    clear hf hG hl ls locs H M 
    rintro M rr187 hf hI187 hE187 H locs ls hG hl
    try dsimp only at hG hl ⊢
    have hJ237 : ∀ (M : Mem) (H : Heap) (locs : List Loc) (ls : Array Slot), j_X9_goes_237 n   M = some rr187 → GI w layM 24 s.heap M H locs → lv_has ls 2 [(0, .ref (w.2.2.1 0))] → W p l e (Rm 1) s m args below meth c H locs 0 0 (MQ below (GQv w layM 24 res s.heap.size) args s 0 0 (gA w.2.2.1 24 s.heap.size)) (F0 m 237 ls []) := by
      intro  M H locs ls hf hG hl
      unfold j_X9_goes_237 at hf
      refine lv_aload_n hx hb dX9_goes_237 rfl (lv_at hl 0 rfl) ?_
      refine lv_dup hx hb dX9_goes_238 rfl ?_
      refine g_getI F hG mo_0 (by decide) (by decide) lk_X9_115 rfl dX9_goes_239 ?_
      refine lv_iconst (v := 1) hx hb dX9_goes_242 (by decide) ?_
      refine lv_iadd hx hb dX9_goes_243 ?_
      refine g_putI F hG mo_0 (by decide) (by decide) lkv_X9_115 rfl rfl rfl dX9_goes_244 (fun H locs hG => ?_)
      refine lv_goto (tgt := 187) hx hb dX9_goes_247 (by decide) ?_
      exact hI187 _ (Option.some.inj hf).symm _ _ ls hG (lv_sub hl [0] rfl)
    dsimp only [b_X9_goes_187] at hf
    refine lv_aload_n hx hb dX9_goes_187 rfl (lv_at hl 0 rfl) ?_
    refine lv_aload_n hx hb dX9_goes_188 rfl (lv_at hl 0 rfl) ?_
    refine g_getI F hG mo_0 (by decide) (by decide) lk_X9_115 rfl dX9_goes_189 ?_
    replace hf := bd_some hf
    obtain ⟨q6, eq6, hf⟩ := hf
    refine gx_calli hG (gx_runV hXk F hX hG (c_X9_byteAt l w hXk n  (gi M 0 16) _ _ eq6) cv_X9_118 ⟨Nat.le_of_ble_eq_true rfl, Nat.le_of_ble_eq_true rfl⟩ (g_recv F hG mo_0 (by decide) rfl) rfl hl.1 rfl (Nat.le_of_ble_eq_true rfl) dX9_goes_192 ⟨Nat.le_refl _, Nat.le_refl _⟩) (fun H locs hG => ?_)
    replace hf := bd_some hf
    obtain ⟨q7, eq7, hf⟩ := hf
    refine gx_calli hG (gx_runS hXk F hX hG (c_X9_isDigit l w hXk n  q6.1 _ _ eq7) cs_X9_142 ⟨Nat.le_of_ble_eq_true rfl, Nat.le_of_ble_eq_true rfl⟩ rfl hl.1 rfl (Nat.le_of_ble_eq_true rfl) dX9_goes_195 ⟨Nat.le_refl _, Nat.le_refl _⟩) (fun H locs hG => ?_)
    refine lv_if_eq (tgt := 250) hx hb dX9_goes_198 (by decide) (fun c8 => ?_) (fun c8 => ?_)
    · replace hf := if_t c8 hf
      replace hf := mr_some hf
      obtain ⟨z187, hf, hz⟩ := hf
      rw [hE187 _ hz] at hf
      exact hJ250  _ _ _ ls hf hG (lv_sub hl [0] rfl)
    · replace hf := if_f c8 hf
      refine lv_aload_n hx hb dX9_goes_201 rfl (lv_at hl 0 rfl) ?_
      refine g_getI F hG mo_0 (by decide) (by decide) lk_X9_115 rfl dX9_goes_202 ?_
      refine lv_aload_n hx hb dX9_goes_205 rfl (lv_at hl 0 rfl) ?_
      refine g_getI F hG mo_0 (by decide) (by decide) lk_X9_122 rfl dX9_goes_206 ?_
      refine lv_isub hx hb dX9_goes_209 ?_
      refine lv_iconst (v := 4) hx hb dX9_goes_210 (by decide) ?_
      refine lv_icmp_ge (tgt := 237) hx hb dX9_goes_211 (by decide) (fun c9 => ?_) (fun c9 => ?_)
      · replace hf := if_t c9 hf
        exact hJ237  _ _ _ ls hf hG (lv_sub hl [0] rfl)
      · replace hf := if_f c9 hf
        refine lv_aload_n hx hb dX9_goes_214 rfl (lv_at hl 0 rfl) ?_
        refine lv_bipush (v := 10) hx hb dX9_goes_215 (by decide) ?_
        refine lv_aload_n hx hb dX9_goes_217 rfl (lv_at hl 0 rfl) ?_
        refine g_getI F hG mo_0 (by decide) (by decide) lk_X9_129 rfl dX9_goes_218 ?_
        refine lv_imul hx hb dX9_goes_221 ?_
        refine lv_aload_n hx hb dX9_goes_222 rfl (lv_at hl 0 rfl) ?_
        refine lv_aload_n hx hb dX9_goes_223 rfl (lv_at hl 0 rfl) ?_
        refine g_getI F hG mo_0 (by decide) (by decide) lk_X9_115 rfl dX9_goes_224 ?_
        replace hf := bd_some hf
        obtain ⟨q10, eq10, hf⟩ := hf
        refine gx_calli hG (gx_runV hXk F hX hG (c_X9_byteAt l w hXk n  (gi q7.2 0 16) _ _ eq10) cv_X9_118 ⟨Nat.le_of_ble_eq_true rfl, Nat.le_of_ble_eq_true rfl⟩ (g_recv F hG mo_0 (by decide) rfl) rfl hl.1 rfl (Nat.le_of_ble_eq_true rfl) dX9_goes_227 ⟨Nat.le_refl _, Nat.le_refl _⟩) (fun H locs hG => ?_)
        refine lv_iadd hx hb dX9_goes_230 ?_
        refine lv_bipush (v := 48) hx hb dX9_goes_231 (by decide) ?_
        refine lv_isub hx hb dX9_goes_233 ?_
        refine g_putI F hG mo_0 (by decide) (by decide) lkv_X9_129 rfl rfl rfl dX9_goes_234 (fun H locs hG => ?_)
        exact hJ237  _ _ _ ls hf hG (lv_sub hl [0] rfl)
  have hJ328 : ∀ (t0 : Int32) (M : Mem) (H : Heap) (locs : List Loc) (ls : Array Slot), j_X9_goes_328 n  t0 M = some res → GI w layM 24 s.heap M H locs → lv_has ls 2 [(0, .ref (w.2.2.1 0))] → W p l e (Rm 1) s m args below meth c H locs 0 0 (MQ below (GQv w layM 24 res s.heap.size) args s 0 0 (gA w.2.2.1 24 s.heap.size)) (F0 m 328 ls [.int t0, .ref (w.2.2.1 0)]) := by
    intro t0 M H locs ls hf hG hl
    unfold j_X9_goes_328 at hf
    refine g_putI F hG mo_0 (by decide) (by decide) lkv_X9_135 rfl rfl rfl dX9_goes_328 (fun H locs hG => ?_)
    exact hJ331  _ _ _ ls hf hG (lv_sub hl [0] rfl)
  have hJ323 : ∀ (M : Mem) (H : Heap) (locs : List Loc) (ls : Array Slot), j_X9_goes_323 n   M = some res → GI w layM 24 s.heap M H locs → lv_has ls 2 [(0, .ref (w.2.2.1 0))] → W p l e (Rm 1) s m args below meth c H locs 0 0 (MQ below (GQv w layM 24 res s.heap.size) args s 0 0 (gA w.2.2.1 24 s.heap.size)) (F0 m 323 ls [.ref (w.2.2.1 0)]) := by
    intro  M H locs ls hf hG hl
    unfold j_X9_goes_323 at hf
    refine lv_iconst (v := 3) hx hb dX9_goes_323 (by decide) ?_
    refine lv_goto (tgt := 328) hx hb dX9_goes_324 (by decide) ?_
    exact hJ328 _ _ _ _ ls hf hG (lv_sub hl [0] rfl)
  have hJ50 : ∀ (M : Mem) (H : Heap) (locs : List Loc) (ls : Array Slot), j_X9_goes_50 n   M = some res → GI w layM 24 s.heap M H locs → lv_has ls 2 [(0, .ref (w.2.2.1 0))] → W p l e (Rm 1) s m args below meth c H locs 0 0 (MQ below (GQv w layM 24 res s.heap.size) args s 0 0 (gA w.2.2.1 24 s.heap.size)) (F0 m 50 ls []) := by
    intro  M H locs ls hf hG hl
    unfold j_X9_goes_50 at hf
    refine lv_aload_n hx hb dX9_goes_50 rfl (lv_at hl 0 rfl) ?_
    refine lv_aload_n hx hb dX9_goes_51 rfl (lv_at hl 0 rfl) ?_
    refine g_getI F hG mo_0 (by decide) (by decide) lk_X9_115 rfl dX9_goes_52 ?_
    refine g_putI F hG mo_0 (by decide) (by decide) lkv_X9_122 rfl rfl rfl dX9_goes_55 (fun H locs hG => ?_)
    refine lv_aload_n hx hb dX9_goes_58 rfl (lv_at hl 0 rfl) ?_
    refine lv_lconst (v := 0) hx hb dX9_goes_59 (by decide) ?_
    refine g_putJ F hG mo_0 (by decide) (by decide) lkv_X9_125 rfl dX9_goes_60 (fun H locs hG => ?_)
    refine lv_aload_n hx hb dX9_goes_63 rfl (lv_at hl 0 rfl) ?_
    refine lv_iconst (v := 0) hx hb dX9_goes_64 (by decide) ?_
    refine g_putI F hG mo_0 (by decide) (by decide) lkv_X9_129 rfl rfl rfl dX9_goes_65 (fun H locs hG => ?_)
    refine lv_aload_n hx hb dX9_goes_68 rfl (lv_at hl 0 rfl) ?_
    refine lv_aload_n hx hb dX9_goes_69 rfl (lv_at hl 0 rfl) ?_
    refine g_getI F hG mo_0 (by decide) (by decide) lk_X9_115 rfl dX9_goes_70 ?_
    replace hf := bd_some hf
    obtain ⟨q11, eq11, hf⟩ := hf
    refine gx_calli hG (gx_runV hXk F hX hG (c_X9_byteAt l w hXk n  (gi (si (sj (si M 0 18 (gi M 0 16)) 0 22 (0 : Int64)) 0 20 (0 : Int32)) 0 16) _ _ eq11) cv_X9_118 ⟨Nat.le_of_ble_eq_true rfl, Nat.le_of_ble_eq_true rfl⟩ (g_recv F hG mo_0 (by decide) rfl) rfl hl.1 rfl (Nat.le_of_ble_eq_true rfl) dX9_goes_73 ⟨Nat.le_refl _, Nat.le_refl _⟩) (fun H locs hG => ?_)
    refine lv_istore_n (lv' := [(1, .int q11.1), (0, .ref (w.2.2.1 0))]) hx hb dX9_goes_76 rfl hl (by decide) rfl (fun ls hl => ?_)
    refine lv_aload_n hx hb dX9_goes_77 rfl (lv_at hl 1 rfl) ?_
    refine lv_iload_n hx hb dX9_goes_78 rfl (lv_at hl 0 rfl) ?_
    refine g_putI F hG mo_0 (by decide) (by decide) lkv_X9_132 rfl rfl rfl dX9_goes_79 (fun H locs hG => ?_)
    refine lv_aload_n hx hb dX9_goes_82 rfl (lv_at hl 1 rfl) ?_
    refine g_getI F hG mo_0 (by decide) (by decide) lk_X9_115 rfl dX9_goes_83 ?_
    refine lv_aload_n hx hb dX9_goes_86 rfl (lv_at hl 1 rfl) ?_
    refine g_getI F hG mo_0 (by decide) (by decide) lk_X9_112 rfl dX9_goes_87 ?_
    refine lv_icmp_lt (tgt := 101) hx hb dX9_goes_90 (by decide) (fun c12 => ?_) (fun c12 => ?_)
    · replace hf := if_t c12 hf
      refine lv_iload_n hx hb dX9_goes_101 rfl (lv_at hl 0 rfl) ?_
      replace hf := bd_some hf
      obtain ⟨q13, eq13, hf⟩ := hf
      refine gx_calli hG (gx_runS hXk F hX hG (c_X9_isLetter l w hXk n  q11.1 _ _ eq13) cs_X9_138 ⟨Nat.le_of_ble_eq_true rfl, Nat.le_of_ble_eq_true rfl⟩ rfl hl.1 rfl (Nat.le_of_ble_eq_true rfl) dX9_goes_102 ⟨Nat.le_refl _, Nat.le_refl _⟩) (fun H locs hG => ?_)
      refine lv_if_eq (tgt := 180) hx hb dX9_goes_105 (by decide) (fun c14 => ?_) (fun c14 => ?_)
      · replace hf := if_t c14 hf
        refine lv_iload_n hx hb dX9_goes_180 rfl (lv_at hl 0 rfl) ?_
        replace hf := bd_some hf
        obtain ⟨q15, eq15, hf⟩ := hf
        refine gx_calli hG (gx_runS hXk F hX hG (c_X9_isDigit l w hXk n  q11.1 _ _ eq15) cs_X9_142 ⟨Nat.le_of_ble_eq_true rfl, Nat.le_of_ble_eq_true rfl⟩ rfl hl.1 rfl (Nat.le_of_ble_eq_true rfl) dX9_goes_181 ⟨Nat.le_refl _, Nat.le_refl _⟩) (fun H locs hG => ?_)
        refine lv_if_eq (tgt := 258) hx hb dX9_goes_184 (by decide) (fun c16 => ?_) (fun c16 => ?_)
        · replace hf := if_t c16 hf
          refine lv_aload_n hx hb dX9_goes_258 rfl (lv_at hl 1 rfl) ?_
          refine lv_dup hx hb dX9_goes_259 rfl ?_
          refine g_getI F hG mo_0 (by decide) (by decide) lk_X9_115 rfl dX9_goes_260 ?_
          refine lv_iconst (v := 1) hx hb dX9_goes_263 (by decide) ?_
          refine lv_iadd hx hb dX9_goes_264 ?_
          refine g_putI F hG mo_0 (by decide) (by decide) lkv_X9_115 rfl rfl rfl dX9_goes_265 (fun H locs hG => ?_)
          refine lv_aload_n hx hb dX9_goes_268 rfl (lv_at hl 1 rfl) ?_
          refine lv_iload_n hx hb dX9_goes_269 rfl (lv_at hl 0 rfl) ?_
          refine lv_bipush (v := 59) hx hb dX9_goes_270 (by decide) ?_
          refine lv_icmp_eq (tgt := 323) hx hb dX9_goes_272 (by decide) (fun c17 => ?_) (fun c17 => ?_)
          · replace hf := if_t c17 hf
            exact hJ323  _ _ _ ls hf hG (lv_sub hl [1] rfl)
          · replace hf := if_f c17 hf
            refine lv_iload_n hx hb dX9_goes_275 rfl (lv_at hl 0 rfl) ?_
            refine lv_bipush (v := 40) hx hb dX9_goes_276 (by decide) ?_
            refine lv_icmp_eq (tgt := 323) hx hb dX9_goes_278 (by decide) (fun c18 => ?_) (fun c18 => ?_)
            · replace hf := if_t c18 hf
              exact hJ323  _ _ _ ls hf hG (lv_sub hl [1] rfl)
            · replace hf := if_f c18 hf
              refine lv_iload_n hx hb dX9_goes_281 rfl (lv_at hl 0 rfl) ?_
              refine lv_bipush (v := 41) hx hb dX9_goes_282 (by decide) ?_
              refine lv_icmp_eq (tgt := 323) hx hb dX9_goes_284 (by decide) (fun c19 => ?_) (fun c19 => ?_)
              · replace hf := if_t c19 hf
                exact hJ323  _ _ _ ls hf hG (lv_sub hl [1] rfl)
              · replace hf := if_f c19 hf
                refine lv_iload_n hx hb dX9_goes_287 rfl (lv_at hl 0 rfl) ?_
                refine lv_bipush (v := 43) hx hb dX9_goes_288 (by decide) ?_
                refine lv_icmp_eq (tgt := 323) hx hb dX9_goes_290 (by decide) (fun c20 => ?_) (fun c20 => ?_)
                · replace hf := if_t c20 hf
                  exact hJ323  _ _ _ ls hf hG (lv_sub hl [1] rfl)
                · replace hf := if_f c20 hf
                  refine lv_iload_n hx hb dX9_goes_293 rfl (lv_at hl 0 rfl) ?_
                  refine lv_bipush (v := 45) hx hb dX9_goes_294 (by decide) ?_
                  refine lv_icmp_eq (tgt := 323) hx hb dX9_goes_296 (by decide) (fun c21 => ?_) (fun c21 => ?_)
                  · replace hf := if_t c21 hf
                    exact hJ323  _ _ _ ls hf hG (lv_sub hl [1] rfl)
                  · replace hf := if_f c21 hf
                    refine lv_iload_n hx hb dX9_goes_299 rfl (lv_at hl 0 rfl) ?_
                    refine lv_bipush (v := 42) hx hb dX9_goes_300 (by decide) ?_
                    refine lv_icmp_eq (tgt := 323) hx hb dX9_goes_302 (by decide) (fun c22 => ?_) (fun c22 => ?_)
                    · replace hf := if_t c22 hf
                      exact hJ323  _ _ _ ls hf hG (lv_sub hl [1] rfl)
                    · replace hf := if_f c22 hf
                      refine lv_iload_n hx hb dX9_goes_305 rfl (lv_at hl 0 rfl) ?_
                      refine lv_bipush (v := 47) hx hb dX9_goes_306 (by decide) ?_
                      refine lv_icmp_eq (tgt := 323) hx hb dX9_goes_308 (by decide) (fun c23 => ?_) (fun c23 => ?_)
                      · replace hf := if_t c23 hf
                        exact hJ323  _ _ _ ls hf hG (lv_sub hl [1] rfl)
                      · replace hf := if_f c23 hf
                        refine lv_iload_n hx hb dX9_goes_311 rfl (lv_at hl 0 rfl) ?_
                        refine lv_bipush (v := 60) hx hb dX9_goes_312 (by decide) ?_
                        refine lv_icmp_eq (tgt := 323) hx hb dX9_goes_314 (by decide) (fun c24 => ?_) (fun c24 => ?_)
                        · replace hf := if_t c24 hf
                          exact hJ323  _ _ _ ls hf hG (lv_sub hl [1] rfl)
                        · replace hf := if_f c24 hf
                          refine lv_iload_n hx hb dX9_goes_317 rfl (lv_at hl 0 rfl) ?_
                          refine lv_bipush (v := 61) hx hb dX9_goes_318 (by decide) ?_
                          refine lv_icmp_ne (tgt := 327) hx hb dX9_goes_320 (by decide) (fun c25 => ?_) (fun c25 => ?_)
                          · replace hf := if_f c25 hf
                            refine lv_iconst (v := 4) hx hb dX9_goes_327 (by decide) ?_
                            exact hJ328 _ _ _ _ ls hf hG (lv_sub hl [1] rfl)
                          · replace hf := if_t c25 hf
                            exact hJ323  _ _ _ ls hf hG (lv_sub hl [1] rfl)
        · replace hf := if_f c16 hf
          exact hJ187  _ _ _ ls hf hG (lv_sub hl [1] rfl)
      · replace hf := if_f c14 hf
        exact hJ108  _ _ _ ls hf hG (lv_sub hl [1] rfl)
    · replace hf := if_f c12 hf
      refine lv_aload_n hx hb dX9_goes_93 rfl (lv_at hl 1 rfl) ?_
      refine lv_iconst (v := 0) hx hb dX9_goes_94 (by decide) ?_
      refine g_putI F hG mo_0 (by decide) (by decide) lkv_X9_135 rfl rfl rfl dX9_goes_95 (fun H locs hG => ?_)
      refine lv_goto (tgt := 331) hx hb dX9_goes_98 (by decide) ?_
      exact hJ331  _ _ _ ls hf hG (lv_sub hl [1] rfl)
  have hJ0 : ∀ (M : Mem) (H : Heap) (locs : List Loc) (ls : Array Slot), gl (b_X9_goes_0 n  ) n (M) = some res → GI w layM 24 s.heap M H locs → lv_has ls 2 [(0, .ref (w.2.2.1 0))] → W p l e (Rm 1) s m args below meth c H locs 0 0 (MQ below (GQv w layM 24 res s.heap.size) args s 0 0 (gA w.2.2.1 24 s.heap.size)) (F0 m 0 ls []) := by
    intro  M H locs ls hf hG hl
    refine gl_run (P := fun (q : (Mem)) => ∀ (H : Heap) (locs : List Loc) (ls : Array Slot), GI w layM 24 s.heap q H locs → lv_has ls 2 [(0, .ref (w.2.2.1 0))] → W p l e (Rm 1) s m args below meth c H locs 0 0 (MQ below (GQv w layM 24 res s.heap.size) args s 0 0 (gA w.2.2.1 24 s.heap.size)) (F0 m 0 ls [])) ?_ n (M) hf H locs ls hG hl
    clear hf hG hl ls locs H M 
    rintro M rr0 hf hI0 hE0 H locs ls hG hl
    try dsimp only at hG hl ⊢
    have hJ37 : ∀ (M : Mem) (H : Heap) (locs : List Loc) (ls : Array Slot), j_X9_goes_37 n   M = some rr0 → GI w layM 24 s.heap M H locs → lv_has ls 2 [(0, .ref (w.2.2.1 0))] → W p l e (Rm 1) s m args below meth c H locs 0 0 (MQ below (GQv w layM 24 res s.heap.size) args s 0 0 (gA w.2.2.1 24 s.heap.size)) (F0 m 37 ls []) := by
      intro  M H locs ls hf hG hl
      unfold j_X9_goes_37 at hf
      refine lv_aload_n hx hb dX9_goes_37 rfl (lv_at hl 0 rfl) ?_
      refine lv_dup hx hb dX9_goes_38 rfl ?_
      refine g_getI F hG mo_0 (by decide) (by decide) lk_X9_115 rfl dX9_goes_39 ?_
      refine lv_iconst (v := 1) hx hb dX9_goes_42 (by decide) ?_
      refine lv_iadd hx hb dX9_goes_43 ?_
      refine g_putI F hG mo_0 (by decide) (by decide) lkv_X9_115 rfl rfl rfl dX9_goes_44 (fun H locs hG => ?_)
      refine lv_goto (tgt := 0) hx hb dX9_goes_47 (by decide) ?_
      exact hI0 _ (Option.some.inj hf).symm _ _ ls hG (lv_sub hl [0] rfl)
    dsimp only [b_X9_goes_0] at hf
    refine lv_aload_n hx hb dX9_goes_0 rfl (lv_at hl 0 rfl) ?_
    refine g_getI F hG mo_0 (by decide) (by decide) lk_X9_115 rfl dX9_goes_1 ?_
    refine lv_aload_n hx hb dX9_goes_4 rfl (lv_at hl 0 rfl) ?_
    refine g_getI F hG mo_0 (by decide) (by decide) lk_X9_112 rfl dX9_goes_5 ?_
    refine lv_icmp_ge (tgt := 50) hx hb dX9_goes_8 (by decide) (fun c26 => ?_) (fun c26 => ?_)
    · replace hf := if_t c26 hf
      replace hf := mr_some hf
      obtain ⟨z0, hf, hz⟩ := hf
      rw [hE0 _ hz] at hf
      exact hJ50  _ _ _ ls hf hG (lv_sub hl [0] rfl)
    · replace hf := if_f c26 hf
      refine lv_aload_n hx hb dX9_goes_11 rfl (lv_at hl 0 rfl) ?_
      refine lv_aload_n hx hb dX9_goes_12 rfl (lv_at hl 0 rfl) ?_
      refine g_getI F hG mo_0 (by decide) (by decide) lk_X9_115 rfl dX9_goes_13 ?_
      replace hf := bd_some hf
      obtain ⟨q27, eq27, hf⟩ := hf
      refine gx_calli hG (gx_runV hXk F hX hG (c_X9_byteAt l w hXk n  (gi M 0 16) _ _ eq27) cv_X9_118 ⟨Nat.le_of_ble_eq_true rfl, Nat.le_of_ble_eq_true rfl⟩ (g_recv F hG mo_0 (by decide) rfl) rfl hl.1 rfl (Nat.le_of_ble_eq_true rfl) dX9_goes_16 ⟨Nat.le_refl _, Nat.le_refl _⟩) (fun H locs hG => ?_)
      refine lv_bipush (v := 32) hx hb dX9_goes_19 (by decide) ?_
      refine lv_icmp_eq (tgt := 37) hx hb dX9_goes_21 (by decide) (fun c28 => ?_) (fun c28 => ?_)
      · replace hf := if_t c28 hf
        exact hJ37  _ _ _ ls hf hG (lv_sub hl [0] rfl)
      · replace hf := if_f c28 hf
        refine lv_aload_n hx hb dX9_goes_24 rfl (lv_at hl 0 rfl) ?_
        refine lv_aload_n hx hb dX9_goes_25 rfl (lv_at hl 0 rfl) ?_
        refine g_getI F hG mo_0 (by decide) (by decide) lk_X9_115 rfl dX9_goes_26 ?_
        replace hf := bd_some hf
        obtain ⟨q29, eq29, hf⟩ := hf
        refine gx_calli hG (gx_runV hXk F hX hG (c_X9_byteAt l w hXk n  (gi q27.2 0 16) _ _ eq29) cv_X9_118 ⟨Nat.le_of_ble_eq_true rfl, Nat.le_of_ble_eq_true rfl⟩ (g_recv F hG mo_0 (by decide) rfl) rfl hl.1 rfl (Nat.le_of_ble_eq_true rfl) dX9_goes_29 ⟨Nat.le_refl _, Nat.le_refl _⟩) (fun H locs hG => ?_)
        refine lv_bipush (v := 10) hx hb dX9_goes_32 (by decide) ?_
        refine lv_icmp_ne (tgt := 50) hx hb dX9_goes_34 (by decide) (fun c30 => ?_) (fun c30 => ?_)
        · replace hf := if_f c30 hf
          replace hf := mr_some hf
          obtain ⟨z0, hf, hz⟩ := hf
          rw [hE0 _ hz] at hf
          exact hJ50  _ _ _ ls hf hG (lv_sub hl [0] rfl)
        · replace hf := if_t c30 hf
          exact hJ37  _ _ _ ls hf hG (lv_sub hl [0] rfl)
  unfold f_X9_goes at hf
  exact hJ0  _ _ _ ls hf hG (lv_sub hl [0] rfl)

def j_X9_spelled_102 (n : Nat) (x7 : Int32) (x8 : Int64) (M : Mem) : Option (Int64 × Mem) := if x7 = 0 then (some (x8, M)) else (some (((x8 <<< ((5 : Int32).toInt64 &&& 63)) ||| ((x7 - (96 : Int32)).toInt64)), M))
def j_X9_spelled_84 (n : Nat) (x6 : Int32) (x7 : Int32) (x8 : Int64) (M : Mem) : Option (Int64 × Mem) := if x6 = 0 then (j_X9_spelled_102 n  x7 x8 M) else (j_X9_spelled_102 n  x7 ((x8 <<< ((5 : Int32).toInt64 &&& 63)) ||| ((x6 - (96 : Int32)).toInt64)) M)
def j_X9_spelled_66 (n : Nat) (x5 : Int32) (x6 : Int32) (x7 : Int32) (x8 : Int64) (M : Mem) : Option (Int64 × Mem) := if x5 = 0 then (j_X9_spelled_84 n  x6 x7 x8 M) else (j_X9_spelled_84 n  x6 x7 ((x8 <<< ((5 : Int32).toInt64 &&& 63)) ||| ((x5 - (96 : Int32)).toInt64)) M)
def j_X9_spelled_48 (n : Nat) (x4 : Int32) (x5 : Int32) (x6 : Int32) (x7 : Int32) (x8 : Int64) (M : Mem) : Option (Int64 × Mem) := if x4 = 0 then (j_X9_spelled_66 n  x5 x6 x7 x8 M) else (j_X9_spelled_66 n  x5 x6 x7 ((x8 <<< ((5 : Int32).toInt64 &&& 63)) ||| ((x4 - (96 : Int32)).toInt64)) M)
def j_X9_spelled_32 (n : Nat) (x3 : Int32) (x4 : Int32) (x5 : Int32) (x6 : Int32) (x7 : Int32) (x8 : Int64) (M : Mem) : Option (Int64 × Mem) := if x3 = 0 then (j_X9_spelled_48 n  x4 x5 x6 x7 x8 M) else (j_X9_spelled_48 n  x4 x5 x6 x7 ((x8 <<< ((5 : Int32).toInt64 &&& 63)) ||| ((x3 - (96 : Int32)).toInt64)) M)
def f_X9_spelled (n : Nat) (x0 : Int32) (x1 : Int32) (x2 : Int32) (x3 : Int32) (x4 : Int32) (x5 : Int32) (x6 : Int32) (x7 : Int32) (M : Mem) : Option (Int64 × Mem) := if x2 = 0 then (j_X9_spelled_32 n  x3 x4 x5 x6 x7 (((x0.toInt64 - (96 : Int64)) <<< ((5 : Int32).toInt64 &&& 63)) ||| ((x1 - (96 : Int32)).toInt64)) M) else (j_X9_spelled_32 n  x3 x4 x5 x6 x7 (((((x0.toInt64 - (96 : Int64)) <<< ((5 : Int32).toInt64 &&& 63)) ||| ((x1 - (96 : Int32)).toInt64)) <<< ((5 : Int32).toInt64 &&& 63)) ||| ((x2 - (96 : Int32)).toInt64)) M)
set_option maxHeartbeats 4000000 in
set_option maxRecDepth 100000 in
theorem c_X9_spelled (l : Launch) (w : Wd) {X : (Nat → Prop) → State → Heap → Prop} (hXk : XOK X) (n : Nat) (x0 : Int32) (x1 : Int32) (x2 : Int32) (x3 : Int32) (x4 : Int32) (x5 : Int32) (x6 : Int32) (x7 : Int32) (M : Mem) (res : Int64 × Mem) (hf : f_X9_spelled n  x0 x1 x2 x3 x4 x5 x6 x7 M = some res) : CG l w layM 24 X yX9_spelled cX9_spelled 10 (some .long) 0 [.int x0, .int x1, .int x2, .int x3, .int x4, .int x5, .int x6, .int x7] M (GQl w layM 24 res) := by
  refine cg_start (by decide +kernel) (Nat.le_of_ble_eq_true rfl) ?_
  intro p e s m args below meth c F hr hlk hX hG ls hl
  have F : FX w p m c cX9_spelled 10 s args RX9 := F
  have hx := F.1.1
  have hb := F.1.2.1
  have hl : lv_has ls 10 [(0, .int x0), (1, .int x1), (2, .int x2), (3, .int x3), (4, .int x4), (5, .int x5), (6, .int x6), (7, .int x7)] := hl
  have hJ102 : ∀ (x7 : Int32) (x8 : Int64) (M : Mem) (H : Heap) (locs : List Loc) (ls : Array Slot), j_X9_spelled_102 n  x7 x8 M = some res → GI w layM 24 s.heap M H locs → lv_has ls 10 [(7, .int x7), (8, .long x8)] → W p l e (Rm 0) s m args below meth c H locs 0 0 (MQ below (GQl w layM 24 res s.heap.size) args s 0 0 (gA w.2.2.1 24 s.heap.size)) (F0 m 102 ls []) := by
    intro x7 x8 M H locs ls hf hG hl
    unfold j_X9_spelled_102 at hf
    refine lv_iload hx hb dX9_spelled_102 (lv_at hl 0 rfl) ?_
    refine lv_if_eq (tgt := 120) hx hb dX9_spelled_104 (by decide) (fun c1 => ?_) (fun c1 => ?_)
    · replace hf := if_t c1 hf
      refine lv_lload hx hb dX9_spelled_120 (lv_at hl 1 rfl) ?_
      exact cg_lret F hr hlk hG hf dX9_spelled_122
    · replace hf := if_f c1 hf
      refine lv_lload hx hb dX9_spelled_107 (lv_at hl 1 rfl) ?_
      refine lv_iconst (v := 5) hx hb dX9_spelled_109 (by decide) ?_
      refine lv_lshl hx hb dX9_spelled_110 rfl ?_
      refine lv_iload hx hb dX9_spelled_111 (lv_at hl 0 rfl) ?_
      refine lv_bipush (v := 96) hx hb dX9_spelled_113 (by decide) ?_
      refine lv_isub hx hb dX9_spelled_115 ?_
      refine lv_i2l hx hb dX9_spelled_116 rfl ?_
      refine lv_lor hx hb dX9_spelled_117 ?_
      refine lv_lstore (lv' := [(8, .long ((x8 <<< ((5 : Int32).toInt64 &&& 63)) ||| ((x7 - (96 : Int32)).toInt64))), (7, .int x7)]) hx hb dX9_spelled_118 hl (by decide) rfl (fun ls hl => ?_)
      refine lv_lload hx hb dX9_spelled_120 (lv_at hl 0 rfl) ?_
      exact cg_lret F hr hlk hG hf dX9_spelled_122
  have hJ84 : ∀ (x6 : Int32) (x7 : Int32) (x8 : Int64) (M : Mem) (H : Heap) (locs : List Loc) (ls : Array Slot), j_X9_spelled_84 n  x6 x7 x8 M = some res → GI w layM 24 s.heap M H locs → lv_has ls 10 [(6, .int x6), (7, .int x7), (8, .long x8)] → W p l e (Rm 0) s m args below meth c H locs 0 0 (MQ below (GQl w layM 24 res s.heap.size) args s 0 0 (gA w.2.2.1 24 s.heap.size)) (F0 m 84 ls []) := by
    intro x6 x7 x8 M H locs ls hf hG hl
    unfold j_X9_spelled_84 at hf
    refine lv_iload hx hb dX9_spelled_84 (lv_at hl 0 rfl) ?_
    refine lv_if_eq (tgt := 102) hx hb dX9_spelled_86 (by decide) (fun c2 => ?_) (fun c2 => ?_)
    · replace hf := if_t c2 hf
      exact hJ102 _ _ _ _ _ ls hf hG (lv_sub hl [1, 2] rfl)
    · replace hf := if_f c2 hf
      refine lv_lload hx hb dX9_spelled_89 (lv_at hl 2 rfl) ?_
      refine lv_iconst (v := 5) hx hb dX9_spelled_91 (by decide) ?_
      refine lv_lshl hx hb dX9_spelled_92 rfl ?_
      refine lv_iload hx hb dX9_spelled_93 (lv_at hl 0 rfl) ?_
      refine lv_bipush (v := 96) hx hb dX9_spelled_95 (by decide) ?_
      refine lv_isub hx hb dX9_spelled_97 ?_
      refine lv_i2l hx hb dX9_spelled_98 rfl ?_
      refine lv_lor hx hb dX9_spelled_99 ?_
      refine lv_lstore (lv' := [(8, .long ((x8 <<< ((5 : Int32).toInt64 &&& 63)) ||| ((x6 - (96 : Int32)).toInt64))), (6, .int x6), (7, .int x7)]) hx hb dX9_spelled_100 hl (by decide) rfl (fun ls hl => ?_)
      exact hJ102 _ _ _ _ _ ls hf hG (lv_sub hl [2, 0] rfl)
  have hJ66 : ∀ (x5 : Int32) (x6 : Int32) (x7 : Int32) (x8 : Int64) (M : Mem) (H : Heap) (locs : List Loc) (ls : Array Slot), j_X9_spelled_66 n  x5 x6 x7 x8 M = some res → GI w layM 24 s.heap M H locs → lv_has ls 10 [(5, .int x5), (6, .int x6), (7, .int x7), (8, .long x8)] → W p l e (Rm 0) s m args below meth c H locs 0 0 (MQ below (GQl w layM 24 res s.heap.size) args s 0 0 (gA w.2.2.1 24 s.heap.size)) (F0 m 66 ls []) := by
    intro x5 x6 x7 x8 M H locs ls hf hG hl
    unfold j_X9_spelled_66 at hf
    refine lv_iload hx hb dX9_spelled_66 (lv_at hl 0 rfl) ?_
    refine lv_if_eq (tgt := 84) hx hb dX9_spelled_68 (by decide) (fun c3 => ?_) (fun c3 => ?_)
    · replace hf := if_t c3 hf
      exact hJ84 _ _ _ _ _ _ ls hf hG (lv_sub hl [1, 2, 3] rfl)
    · replace hf := if_f c3 hf
      refine lv_lload hx hb dX9_spelled_71 (lv_at hl 3 rfl) ?_
      refine lv_iconst (v := 5) hx hb dX9_spelled_73 (by decide) ?_
      refine lv_lshl hx hb dX9_spelled_74 rfl ?_
      refine lv_iload hx hb dX9_spelled_75 (lv_at hl 0 rfl) ?_
      refine lv_bipush (v := 96) hx hb dX9_spelled_77 (by decide) ?_
      refine lv_isub hx hb dX9_spelled_79 ?_
      refine lv_i2l hx hb dX9_spelled_80 rfl ?_
      refine lv_lor hx hb dX9_spelled_81 ?_
      refine lv_lstore (lv' := [(8, .long ((x8 <<< ((5 : Int32).toInt64 &&& 63)) ||| ((x5 - (96 : Int32)).toInt64))), (5, .int x5), (6, .int x6), (7, .int x7)]) hx hb dX9_spelled_82 hl (by decide) rfl (fun ls hl => ?_)
      exact hJ84 _ _ _ _ _ _ ls hf hG (lv_sub hl [2, 3, 0] rfl)
  have hJ48 : ∀ (x4 : Int32) (x5 : Int32) (x6 : Int32) (x7 : Int32) (x8 : Int64) (M : Mem) (H : Heap) (locs : List Loc) (ls : Array Slot), j_X9_spelled_48 n  x4 x5 x6 x7 x8 M = some res → GI w layM 24 s.heap M H locs → lv_has ls 10 [(4, .int x4), (5, .int x5), (6, .int x6), (7, .int x7), (8, .long x8)] → W p l e (Rm 0) s m args below meth c H locs 0 0 (MQ below (GQl w layM 24 res s.heap.size) args s 0 0 (gA w.2.2.1 24 s.heap.size)) (F0 m 48 ls []) := by
    intro x4 x5 x6 x7 x8 M H locs ls hf hG hl
    unfold j_X9_spelled_48 at hf
    refine lv_iload hx hb dX9_spelled_48 (lv_at hl 0 rfl) ?_
    refine lv_if_eq (tgt := 66) hx hb dX9_spelled_50 (by decide) (fun c4 => ?_) (fun c4 => ?_)
    · replace hf := if_t c4 hf
      exact hJ66 _ _ _ _ _ _ _ ls hf hG (lv_sub hl [1, 2, 3, 4] rfl)
    · replace hf := if_f c4 hf
      refine lv_lload hx hb dX9_spelled_53 (lv_at hl 4 rfl) ?_
      refine lv_iconst (v := 5) hx hb dX9_spelled_55 (by decide) ?_
      refine lv_lshl hx hb dX9_spelled_56 rfl ?_
      refine lv_iload hx hb dX9_spelled_57 (lv_at hl 0 rfl) ?_
      refine lv_bipush (v := 96) hx hb dX9_spelled_59 (by decide) ?_
      refine lv_isub hx hb dX9_spelled_61 ?_
      refine lv_i2l hx hb dX9_spelled_62 rfl ?_
      refine lv_lor hx hb dX9_spelled_63 ?_
      refine lv_lstore (lv' := [(8, .long ((x8 <<< ((5 : Int32).toInt64 &&& 63)) ||| ((x4 - (96 : Int32)).toInt64))), (4, .int x4), (5, .int x5), (6, .int x6), (7, .int x7)]) hx hb dX9_spelled_64 hl (by decide) rfl (fun ls hl => ?_)
      exact hJ66 _ _ _ _ _ _ _ ls hf hG (lv_sub hl [2, 3, 4, 0] rfl)
  have hJ32 : ∀ (x3 : Int32) (x4 : Int32) (x5 : Int32) (x6 : Int32) (x7 : Int32) (x8 : Int64) (M : Mem) (H : Heap) (locs : List Loc) (ls : Array Slot), j_X9_spelled_32 n  x3 x4 x5 x6 x7 x8 M = some res → GI w layM 24 s.heap M H locs → lv_has ls 10 [(3, .int x3), (4, .int x4), (5, .int x5), (6, .int x6), (7, .int x7), (8, .long x8)] → W p l e (Rm 0) s m args below meth c H locs 0 0 (MQ below (GQl w layM 24 res s.heap.size) args s 0 0 (gA w.2.2.1 24 s.heap.size)) (F0 m 32 ls []) := by
    intro x3 x4 x5 x6 x7 x8 M H locs ls hf hG hl
    unfold j_X9_spelled_32 at hf
    refine lv_iload_n hx hb dX9_spelled_32 rfl (lv_at hl 0 rfl) ?_
    refine lv_if_eq (tgt := 48) hx hb dX9_spelled_33 (by decide) (fun c5 => ?_) (fun c5 => ?_)
    · replace hf := if_t c5 hf
      exact hJ48 _ _ _ _ _ _ _ _ ls hf hG (lv_sub hl [1, 2, 3, 4, 5] rfl)
    · replace hf := if_f c5 hf
      refine lv_lload hx hb dX9_spelled_36 (lv_at hl 5 rfl) ?_
      refine lv_iconst (v := 5) hx hb dX9_spelled_38 (by decide) ?_
      refine lv_lshl hx hb dX9_spelled_39 rfl ?_
      refine lv_iload_n hx hb dX9_spelled_40 rfl (lv_at hl 0 rfl) ?_
      refine lv_bipush (v := 96) hx hb dX9_spelled_41 (by decide) ?_
      refine lv_isub hx hb dX9_spelled_43 ?_
      refine lv_i2l hx hb dX9_spelled_44 rfl ?_
      refine lv_lor hx hb dX9_spelled_45 ?_
      refine lv_lstore (lv' := [(8, .long ((x8 <<< ((5 : Int32).toInt64 &&& 63)) ||| ((x3 - (96 : Int32)).toInt64))), (3, .int x3), (4, .int x4), (5, .int x5), (6, .int x6), (7, .int x7)]) hx hb dX9_spelled_46 hl (by decide) rfl (fun ls hl => ?_)
      exact hJ48 _ _ _ _ _ _ _ _ ls hf hG (lv_sub hl [2, 3, 4, 5, 0] rfl)
  unfold f_X9_spelled at hf
  refine lv_iload_n hx hb dX9_spelled_0 rfl (lv_at hl 0 rfl) ?_
  refine lv_i2l hx hb dX9_spelled_1 rfl ?_
  refine lv_ldc2 hx hb F.1.2.2.2.1 (F.1.2.2.2.2 _ m_1550) dX9_spelled_2 ?_
  refine lv_lsub hx hb dX9_spelled_5 ?_
  refine lv_iconst (v := 5) hx hb dX9_spelled_6 (by decide) ?_
  refine lv_lshl hx hb dX9_spelled_7 rfl ?_
  refine lv_iload_n hx hb dX9_spelled_8 rfl (lv_at hl 1 rfl) ?_
  refine lv_bipush (v := 96) hx hb dX9_spelled_9 (by decide) ?_
  refine lv_isub hx hb dX9_spelled_11 ?_
  refine lv_i2l hx hb dX9_spelled_12 rfl ?_
  refine lv_lor hx hb dX9_spelled_13 ?_
  refine lv_lstore (lv' := [(8, .long (((x0.toInt64 - (96 : Int64)) <<< ((5 : Int32).toInt64 &&& 63)) ||| ((x1 - (96 : Int32)).toInt64))), (0, .int x0), (1, .int x1), (2, .int x2), (3, .int x3), (4, .int x4), (5, .int x5), (6, .int x6), (7, .int x7)]) hx hb dX9_spelled_14 hl (by decide) rfl (fun ls hl => ?_)
  refine lv_iload_n hx hb dX9_spelled_16 rfl (lv_at hl 3 rfl) ?_
  refine lv_if_eq (tgt := 32) hx hb dX9_spelled_17 (by decide) (fun c6 => ?_) (fun c6 => ?_)
  · replace hf := if_t c6 hf
    exact hJ32 _ _ _ _ _ _ _ _ _ ls hf hG (lv_sub hl [4, 5, 6, 7, 8, 0] rfl)
  · replace hf := if_f c6 hf
    refine lv_lload hx hb dX9_spelled_20 (lv_at hl 0 rfl) ?_
    refine lv_iconst (v := 5) hx hb dX9_spelled_22 (by decide) ?_
    refine lv_lshl hx hb dX9_spelled_23 rfl ?_
    refine lv_iload_n hx hb dX9_spelled_24 rfl (lv_at hl 3 rfl) ?_
    refine lv_bipush (v := 96) hx hb dX9_spelled_25 (by decide) ?_
    refine lv_isub hx hb dX9_spelled_27 ?_
    refine lv_i2l hx hb dX9_spelled_28 rfl ?_
    refine lv_lor hx hb dX9_spelled_29 ?_
    refine lv_lstore (lv' := [(8, .long (((((x0.toInt64 - (96 : Int64)) <<< ((5 : Int32).toInt64 &&& 63)) ||| ((x1 - (96 : Int32)).toInt64)) <<< ((5 : Int32).toInt64 &&& 63)) ||| ((x2 - (96 : Int32)).toInt64))), (0, .int x0), (1, .int x1), (2, .int x2), (3, .int x3), (4, .int x4), (5, .int x5), (6, .int x6), (7, .int x7)]) hx hb dX9_spelled_30 hl (by decide) rfl (fun ls hl => ?_)
    exact hJ32 _ _ _ _ _ _ _ _ _ ls hf hG (lv_sub hl [4, 5, 6, 7, 8, 0] rfl)

def f_X9_letters (n : Nat) (x0 : Int32) (M : Mem) : Option (Int64 × Mem) := if x0 = (0 : Int32) then (bd (f_X9_spelled n  (119 : Int32) (105 : Int32) (110 : Int32) (100 : Int32) (0 : Int32) (0 : Int32) (0 : Int32) (0 : Int32) M) (fun q2 => some (q2.1, q2.2))) else (if x0 = (1 : Int32) then (bd (f_X9_spelled n  (119 : Int32) (101 : Int32) (105 : Int32) (103 : Int32) (104 : Int32) (116 : Int32) (0 : Int32) (0 : Int32) M) (fun q4 => some (q4.1, q4.2))) else (if x0 = (2 : Int32) then (bd (f_X9_spelled n  (109 : Int32) (111 : Int32) (114 : Int32) (116 : Int32) (97 : Int32) (114 : Int32) (0 : Int32) (0 : Int32) M) (fun q6 => some (q6.1, q6.2))) else (if x0 = (3 : Int32) then (bd (f_X9_spelled n  (108 : Int32) (101 : Int32) (97 : Int32) (110 : Int32) (0 : Int32) (0 : Int32) (0 : Int32) (0 : Int32) M) (fun q8 => some (q8.1, q8.2))) else (if x0 = (4 : Int32) then (bd (f_X9_spelled n  (104 : Int32) (101 : Int32) (105 : Int32) (103 : Int32) (104 : Int32) (116 : Int32) (0 : Int32) (0 : Int32) M) (fun q10 => some (q10.1, q10.2))) else (if x0 = (5 : Int32) then (bd (f_X9_spelled n  (100 : Int32) (97 : Int32) (121 : Int32) (0 : Int32) (0 : Int32) (0 : Int32) (0 : Int32) (0 : Int32) M) (fun q12 => some (q12.1, q12.2))) else (if x0 = (6 : Int32) then (bd (f_X9_spelled n  (102 : Int32) (97 : Int32) (105 : Int32) (116 : Int32) (104 : Int32) (0 : Int32) (0 : Int32) (0 : Int32) M) (fun q14 => some (q14.1, q14.2))) else (if x0 = (7 : Int32) then (bd (f_X9_spelled n  (100 : Int32) (111 : Int32) (117 : Int32) (98 : Int32) (116 : Int32) (0 : Int32) (0 : Int32) (0 : Int32) M) (fun q16 => some (q16.1, q16.2))) else (if x0 = (8 : Int32) then (bd (f_X9_spelled n  (102 : Int32) (101 : Int32) (108 : Int32) (108 : Int32) (0 : Int32) (0 : Int32) (0 : Int32) (0 : Int32) M) (fun q18 => some (q18.1, q18.2))) else (if x0 = (9 : Int32) then (bd (f_X9_spelled n  (104 : Int32) (117 : Int32) (110 : Int32) (103 : Int32) (0 : Int32) (0 : Int32) (0 : Int32) (0 : Int32) M) (fun q20 => some (q20.1, q20.2))) else (if x0 = (10 : Int32) then (bd (f_X9_spelled n  (112 : Int32) (108 : Int32) (97 : Int32) (110 : Int32) (0 : Int32) (0 : Int32) (0 : Int32) (0 : Int32) M) (fun q22 => some (q22.1, q22.2))) else (if x0 = (11 : Int32) then (bd (f_X9_spelled n  (103 : Int32) (114 : Int32) (111 : Int32) (117 : Int32) (110 : Int32) (100 : Int32) (0 : Int32) (0 : Int32) M) (fun q24 => some (q24.1, q24.2))) else (if x0 = (12 : Int32) then (bd (f_X9_spelled n  (99 : Int32) (111 : Int32) (115 : Int32) (116 : Int32) (0 : Int32) (0 : Int32) (0 : Int32) (0 : Int32) M) (fun q26 => some (q26.1, q26.2))) else (if x0 = (13 : Int32) then (bd (f_X9_spelled n  (119 : Int32) (97 : Int32) (114 : Int32) (100 : Int32) (0 : Int32) (0 : Int32) (0 : Int32) (0 : Int32) M) (fun q28 => some (q28.1, q28.2))) else (if x0 = (14 : Int32) then (bd (f_X9_spelled n  (115 : Int32) (116 : Int32) (114 : Int32) (101 : Int32) (101 : Int32) (116 : Int32) (0 : Int32) (0 : Int32) M) (fun q30 => some (q30.1, q30.2))) else (if x0 = (15 : Int32) then (bd (f_X9_spelled n  (108 : Int32) (101 : Int32) (97 : Int32) (110 : Int32) (115 : Int32) (0 : Int32) (0 : Int32) (0 : Int32) M) (fun q32 => some (q32.1, q32.2))) else (if x0 = (16 : Int32) then (bd (f_X9_spelled n  (103 : Int32) (105 : Int32) (118 : Int32) (101 : Int32) (115 : Int32) (0 : Int32) (0 : Int32) (0 : Int32) M) (fun q34 => some (q34.1, q34.2))) else (if x0 = (17 : Int32) then (bd (f_X9_spelled n  (98 : Int32) (101 : Int32) (108 : Int32) (105 : Int32) (101 : Int32) (118 : Int32) (101 : Int32) (115 : Int32) M) (fun q36 => some (q36.1, q36.2))) else (if x0 = (18 : Int32) then (bd (f_X9_spelled n  (97 : Int32) (110 : Int32) (100 : Int32) (0 : Int32) (0 : Int32) (0 : Int32) (0 : Int32) (0 : Int32) M) (fun q38 => some (q38.1, q38.2))) else (if x0 = (19 : Int32) then (bd (f_X9_spelled n  (111 : Int32) (114 : Int32) (0 : Int32) (0 : Int32) (0 : Int32) (0 : Int32) (0 : Int32) (0 : Int32) M) (fun q40 => some (q40.1, q40.2))) else (bd (f_X9_spelled n  (110 : Int32) (111 : Int32) (116 : Int32) (0 : Int32) (0 : Int32) (0 : Int32) (0 : Int32) (0 : Int32) M) (fun q41 => some (q41.1, q41.2))))))))))))))))))))))
set_option maxHeartbeats 4000000 in
set_option maxRecDepth 100000 in
theorem c_X9_letters (l : Launch) (w : Wd) {X : (Nat → Prop) → State → Heap → Prop} (hXk : XOK X) (n : Nat) (x0 : Int32) (M : Mem) (res : Int64 × Mem) (hf : f_X9_letters n  x0 M = some res) : CG l w layM 24 X yX9_letters cX9_letters 1 (some .long) 1 [.int x0] M (GQl w layM 24 res) := by
  refine cg_start (by decide +kernel) (Nat.le_of_ble_eq_true rfl) ?_
  intro p e s m args below meth c F hr hlk hX hG ls hl
  have F : FX w p m c cX9_letters 1 s args RX9 := F
  have hx := F.1.1
  have hb := F.1.2.1
  have hl : lv_has ls 1 [(0, .int x0)] := hl
  unfold f_X9_letters at hf
  refine lv_iload_n hx hb dX9_letters_0 rfl (lv_at hl 0 rfl) ?_
  by_cases c1 : x0 = (0 : Int32)
  · replace hf := if_t c1 hf
    refine lv_tableIn (off := 95) (tgt := 96) hx hb dX9_letters_1 (by rw [c1]; decide) (by rw [c1]; decide) (by rw [c1]; rfl) (by decide) ?_
    refine lv_bipush (v := 119) hx hb dX9_letters_96 (by decide) ?_
    refine lv_bipush (v := 105) hx hb dX9_letters_98 (by decide) ?_
    refine lv_bipush (v := 110) hx hb dX9_letters_100 (by decide) ?_
    refine lv_bipush (v := 100) hx hb dX9_letters_102 (by decide) ?_
    refine lv_iconst (v := 0) hx hb dX9_letters_104 (by decide) ?_
    refine lv_iconst (v := 0) hx hb dX9_letters_105 (by decide) ?_
    refine lv_iconst (v := 0) hx hb dX9_letters_106 (by decide) ?_
    refine lv_iconst (v := 0) hx hb dX9_letters_107 (by decide) ?_
    replace hf := bd_some hf
    obtain ⟨q2, eq2, hf⟩ := hf
    refine gx_calll hG (gx_runS hXk F hX hG (c_X9_spelled l w hXk n  (119 : Int32) (105 : Int32) (110 : Int32) (100 : Int32) (0 : Int32) (0 : Int32) (0 : Int32) (0 : Int32) _ _ eq2) cs_X9_150 ⟨Nat.le_of_ble_eq_true rfl, Nat.le_of_ble_eq_true rfl⟩ rfl hl.1 rfl (Nat.le_of_ble_eq_true rfl) dX9_letters_108 ⟨Nat.le_refl _, Nat.le_refl _⟩) (fun H locs hG => ?_)
    exact cg_lret F hr hlk hG hf dX9_letters_111
  replace hf := if_f c1 hf
  by_cases c3 : x0 = (1 : Int32)
  · replace hf := if_t c3 hf
    refine lv_tableIn (off := 111) (tgt := 112) hx hb dX9_letters_1 (by rw [c3]; decide) (by rw [c3]; decide) (by rw [c3]; rfl) (by decide) ?_
    refine lv_bipush (v := 119) hx hb dX9_letters_112 (by decide) ?_
    refine lv_bipush (v := 101) hx hb dX9_letters_114 (by decide) ?_
    refine lv_bipush (v := 105) hx hb dX9_letters_116 (by decide) ?_
    refine lv_bipush (v := 103) hx hb dX9_letters_118 (by decide) ?_
    refine lv_bipush (v := 104) hx hb dX9_letters_120 (by decide) ?_
    refine lv_bipush (v := 116) hx hb dX9_letters_122 (by decide) ?_
    refine lv_iconst (v := 0) hx hb dX9_letters_124 (by decide) ?_
    refine lv_iconst (v := 0) hx hb dX9_letters_125 (by decide) ?_
    replace hf := bd_some hf
    obtain ⟨q4, eq4, hf⟩ := hf
    refine gx_calll hG (gx_runS hXk F hX hG (c_X9_spelled l w hXk n  (119 : Int32) (101 : Int32) (105 : Int32) (103 : Int32) (104 : Int32) (116 : Int32) (0 : Int32) (0 : Int32) _ _ eq4) cs_X9_150 ⟨Nat.le_of_ble_eq_true rfl, Nat.le_of_ble_eq_true rfl⟩ rfl hl.1 rfl (Nat.le_of_ble_eq_true rfl) dX9_letters_126 ⟨Nat.le_refl _, Nat.le_refl _⟩) (fun H locs hG => ?_)
    exact cg_lret F hr hlk hG hf dX9_letters_129
  replace hf := if_f c3 hf
  by_cases c5 : x0 = (2 : Int32)
  · replace hf := if_t c5 hf
    refine lv_tableIn (off := 129) (tgt := 130) hx hb dX9_letters_1 (by rw [c5]; decide) (by rw [c5]; decide) (by rw [c5]; rfl) (by decide) ?_
    refine lv_bipush (v := 109) hx hb dX9_letters_130 (by decide) ?_
    refine lv_bipush (v := 111) hx hb dX9_letters_132 (by decide) ?_
    refine lv_bipush (v := 114) hx hb dX9_letters_134 (by decide) ?_
    refine lv_bipush (v := 116) hx hb dX9_letters_136 (by decide) ?_
    refine lv_bipush (v := 97) hx hb dX9_letters_138 (by decide) ?_
    refine lv_bipush (v := 114) hx hb dX9_letters_140 (by decide) ?_
    refine lv_iconst (v := 0) hx hb dX9_letters_142 (by decide) ?_
    refine lv_iconst (v := 0) hx hb dX9_letters_143 (by decide) ?_
    replace hf := bd_some hf
    obtain ⟨q6, eq6, hf⟩ := hf
    refine gx_calll hG (gx_runS hXk F hX hG (c_X9_spelled l w hXk n  (109 : Int32) (111 : Int32) (114 : Int32) (116 : Int32) (97 : Int32) (114 : Int32) (0 : Int32) (0 : Int32) _ _ eq6) cs_X9_150 ⟨Nat.le_of_ble_eq_true rfl, Nat.le_of_ble_eq_true rfl⟩ rfl hl.1 rfl (Nat.le_of_ble_eq_true rfl) dX9_letters_144 ⟨Nat.le_refl _, Nat.le_refl _⟩) (fun H locs hG => ?_)
    exact cg_lret F hr hlk hG hf dX9_letters_147
  replace hf := if_f c5 hf
  by_cases c7 : x0 = (3 : Int32)
  · replace hf := if_t c7 hf
    refine lv_tableIn (off := 147) (tgt := 148) hx hb dX9_letters_1 (by rw [c7]; decide) (by rw [c7]; decide) (by rw [c7]; rfl) (by decide) ?_
    refine lv_bipush (v := 108) hx hb dX9_letters_148 (by decide) ?_
    refine lv_bipush (v := 101) hx hb dX9_letters_150 (by decide) ?_
    refine lv_bipush (v := 97) hx hb dX9_letters_152 (by decide) ?_
    refine lv_bipush (v := 110) hx hb dX9_letters_154 (by decide) ?_
    refine lv_iconst (v := 0) hx hb dX9_letters_156 (by decide) ?_
    refine lv_iconst (v := 0) hx hb dX9_letters_157 (by decide) ?_
    refine lv_iconst (v := 0) hx hb dX9_letters_158 (by decide) ?_
    refine lv_iconst (v := 0) hx hb dX9_letters_159 (by decide) ?_
    replace hf := bd_some hf
    obtain ⟨q8, eq8, hf⟩ := hf
    refine gx_calll hG (gx_runS hXk F hX hG (c_X9_spelled l w hXk n  (108 : Int32) (101 : Int32) (97 : Int32) (110 : Int32) (0 : Int32) (0 : Int32) (0 : Int32) (0 : Int32) _ _ eq8) cs_X9_150 ⟨Nat.le_of_ble_eq_true rfl, Nat.le_of_ble_eq_true rfl⟩ rfl hl.1 rfl (Nat.le_of_ble_eq_true rfl) dX9_letters_160 ⟨Nat.le_refl _, Nat.le_refl _⟩) (fun H locs hG => ?_)
    exact cg_lret F hr hlk hG hf dX9_letters_163
  replace hf := if_f c7 hf
  by_cases c9 : x0 = (4 : Int32)
  · replace hf := if_t c9 hf
    refine lv_tableIn (off := 163) (tgt := 164) hx hb dX9_letters_1 (by rw [c9]; decide) (by rw [c9]; decide) (by rw [c9]; rfl) (by decide) ?_
    refine lv_bipush (v := 104) hx hb dX9_letters_164 (by decide) ?_
    refine lv_bipush (v := 101) hx hb dX9_letters_166 (by decide) ?_
    refine lv_bipush (v := 105) hx hb dX9_letters_168 (by decide) ?_
    refine lv_bipush (v := 103) hx hb dX9_letters_170 (by decide) ?_
    refine lv_bipush (v := 104) hx hb dX9_letters_172 (by decide) ?_
    refine lv_bipush (v := 116) hx hb dX9_letters_174 (by decide) ?_
    refine lv_iconst (v := 0) hx hb dX9_letters_176 (by decide) ?_
    refine lv_iconst (v := 0) hx hb dX9_letters_177 (by decide) ?_
    replace hf := bd_some hf
    obtain ⟨q10, eq10, hf⟩ := hf
    refine gx_calll hG (gx_runS hXk F hX hG (c_X9_spelled l w hXk n  (104 : Int32) (101 : Int32) (105 : Int32) (103 : Int32) (104 : Int32) (116 : Int32) (0 : Int32) (0 : Int32) _ _ eq10) cs_X9_150 ⟨Nat.le_of_ble_eq_true rfl, Nat.le_of_ble_eq_true rfl⟩ rfl hl.1 rfl (Nat.le_of_ble_eq_true rfl) dX9_letters_178 ⟨Nat.le_refl _, Nat.le_refl _⟩) (fun H locs hG => ?_)
    exact cg_lret F hr hlk hG hf dX9_letters_181
  replace hf := if_f c9 hf
  by_cases c11 : x0 = (5 : Int32)
  · replace hf := if_t c11 hf
    refine lv_tableIn (off := 181) (tgt := 182) hx hb dX9_letters_1 (by rw [c11]; decide) (by rw [c11]; decide) (by rw [c11]; rfl) (by decide) ?_
    refine lv_bipush (v := 100) hx hb dX9_letters_182 (by decide) ?_
    refine lv_bipush (v := 97) hx hb dX9_letters_184 (by decide) ?_
    refine lv_bipush (v := 121) hx hb dX9_letters_186 (by decide) ?_
    refine lv_iconst (v := 0) hx hb dX9_letters_188 (by decide) ?_
    refine lv_iconst (v := 0) hx hb dX9_letters_189 (by decide) ?_
    refine lv_iconst (v := 0) hx hb dX9_letters_190 (by decide) ?_
    refine lv_iconst (v := 0) hx hb dX9_letters_191 (by decide) ?_
    refine lv_iconst (v := 0) hx hb dX9_letters_192 (by decide) ?_
    replace hf := bd_some hf
    obtain ⟨q12, eq12, hf⟩ := hf
    refine gx_calll hG (gx_runS hXk F hX hG (c_X9_spelled l w hXk n  (100 : Int32) (97 : Int32) (121 : Int32) (0 : Int32) (0 : Int32) (0 : Int32) (0 : Int32) (0 : Int32) _ _ eq12) cs_X9_150 ⟨Nat.le_of_ble_eq_true rfl, Nat.le_of_ble_eq_true rfl⟩ rfl hl.1 rfl (Nat.le_of_ble_eq_true rfl) dX9_letters_193 ⟨Nat.le_refl _, Nat.le_refl _⟩) (fun H locs hG => ?_)
    exact cg_lret F hr hlk hG hf dX9_letters_196
  replace hf := if_f c11 hf
  by_cases c13 : x0 = (6 : Int32)
  · replace hf := if_t c13 hf
    refine lv_tableIn (off := 196) (tgt := 197) hx hb dX9_letters_1 (by rw [c13]; decide) (by rw [c13]; decide) (by rw [c13]; rfl) (by decide) ?_
    refine lv_bipush (v := 102) hx hb dX9_letters_197 (by decide) ?_
    refine lv_bipush (v := 97) hx hb dX9_letters_199 (by decide) ?_
    refine lv_bipush (v := 105) hx hb dX9_letters_201 (by decide) ?_
    refine lv_bipush (v := 116) hx hb dX9_letters_203 (by decide) ?_
    refine lv_bipush (v := 104) hx hb dX9_letters_205 (by decide) ?_
    refine lv_iconst (v := 0) hx hb dX9_letters_207 (by decide) ?_
    refine lv_iconst (v := 0) hx hb dX9_letters_208 (by decide) ?_
    refine lv_iconst (v := 0) hx hb dX9_letters_209 (by decide) ?_
    replace hf := bd_some hf
    obtain ⟨q14, eq14, hf⟩ := hf
    refine gx_calll hG (gx_runS hXk F hX hG (c_X9_spelled l w hXk n  (102 : Int32) (97 : Int32) (105 : Int32) (116 : Int32) (104 : Int32) (0 : Int32) (0 : Int32) (0 : Int32) _ _ eq14) cs_X9_150 ⟨Nat.le_of_ble_eq_true rfl, Nat.le_of_ble_eq_true rfl⟩ rfl hl.1 rfl (Nat.le_of_ble_eq_true rfl) dX9_letters_210 ⟨Nat.le_refl _, Nat.le_refl _⟩) (fun H locs hG => ?_)
    exact cg_lret F hr hlk hG hf dX9_letters_213
  replace hf := if_f c13 hf
  by_cases c15 : x0 = (7 : Int32)
  · replace hf := if_t c15 hf
    refine lv_tableIn (off := 213) (tgt := 214) hx hb dX9_letters_1 (by rw [c15]; decide) (by rw [c15]; decide) (by rw [c15]; rfl) (by decide) ?_
    refine lv_bipush (v := 100) hx hb dX9_letters_214 (by decide) ?_
    refine lv_bipush (v := 111) hx hb dX9_letters_216 (by decide) ?_
    refine lv_bipush (v := 117) hx hb dX9_letters_218 (by decide) ?_
    refine lv_bipush (v := 98) hx hb dX9_letters_220 (by decide) ?_
    refine lv_bipush (v := 116) hx hb dX9_letters_222 (by decide) ?_
    refine lv_iconst (v := 0) hx hb dX9_letters_224 (by decide) ?_
    refine lv_iconst (v := 0) hx hb dX9_letters_225 (by decide) ?_
    refine lv_iconst (v := 0) hx hb dX9_letters_226 (by decide) ?_
    replace hf := bd_some hf
    obtain ⟨q16, eq16, hf⟩ := hf
    refine gx_calll hG (gx_runS hXk F hX hG (c_X9_spelled l w hXk n  (100 : Int32) (111 : Int32) (117 : Int32) (98 : Int32) (116 : Int32) (0 : Int32) (0 : Int32) (0 : Int32) _ _ eq16) cs_X9_150 ⟨Nat.le_of_ble_eq_true rfl, Nat.le_of_ble_eq_true rfl⟩ rfl hl.1 rfl (Nat.le_of_ble_eq_true rfl) dX9_letters_227 ⟨Nat.le_refl _, Nat.le_refl _⟩) (fun H locs hG => ?_)
    exact cg_lret F hr hlk hG hf dX9_letters_230
  replace hf := if_f c15 hf
  by_cases c17 : x0 = (8 : Int32)
  · replace hf := if_t c17 hf
    refine lv_tableIn (off := 230) (tgt := 231) hx hb dX9_letters_1 (by rw [c17]; decide) (by rw [c17]; decide) (by rw [c17]; rfl) (by decide) ?_
    refine lv_bipush (v := 102) hx hb dX9_letters_231 (by decide) ?_
    refine lv_bipush (v := 101) hx hb dX9_letters_233 (by decide) ?_
    refine lv_bipush (v := 108) hx hb dX9_letters_235 (by decide) ?_
    refine lv_bipush (v := 108) hx hb dX9_letters_237 (by decide) ?_
    refine lv_iconst (v := 0) hx hb dX9_letters_239 (by decide) ?_
    refine lv_iconst (v := 0) hx hb dX9_letters_240 (by decide) ?_
    refine lv_iconst (v := 0) hx hb dX9_letters_241 (by decide) ?_
    refine lv_iconst (v := 0) hx hb dX9_letters_242 (by decide) ?_
    replace hf := bd_some hf
    obtain ⟨q18, eq18, hf⟩ := hf
    refine gx_calll hG (gx_runS hXk F hX hG (c_X9_spelled l w hXk n  (102 : Int32) (101 : Int32) (108 : Int32) (108 : Int32) (0 : Int32) (0 : Int32) (0 : Int32) (0 : Int32) _ _ eq18) cs_X9_150 ⟨Nat.le_of_ble_eq_true rfl, Nat.le_of_ble_eq_true rfl⟩ rfl hl.1 rfl (Nat.le_of_ble_eq_true rfl) dX9_letters_243 ⟨Nat.le_refl _, Nat.le_refl _⟩) (fun H locs hG => ?_)
    exact cg_lret F hr hlk hG hf dX9_letters_246
  replace hf := if_f c17 hf
  by_cases c19 : x0 = (9 : Int32)
  · replace hf := if_t c19 hf
    refine lv_tableIn (off := 246) (tgt := 247) hx hb dX9_letters_1 (by rw [c19]; decide) (by rw [c19]; decide) (by rw [c19]; rfl) (by decide) ?_
    refine lv_bipush (v := 104) hx hb dX9_letters_247 (by decide) ?_
    refine lv_bipush (v := 117) hx hb dX9_letters_249 (by decide) ?_
    refine lv_bipush (v := 110) hx hb dX9_letters_251 (by decide) ?_
    refine lv_bipush (v := 103) hx hb dX9_letters_253 (by decide) ?_
    refine lv_iconst (v := 0) hx hb dX9_letters_255 (by decide) ?_
    refine lv_iconst (v := 0) hx hb dX9_letters_256 (by decide) ?_
    refine lv_iconst (v := 0) hx hb dX9_letters_257 (by decide) ?_
    refine lv_iconst (v := 0) hx hb dX9_letters_258 (by decide) ?_
    replace hf := bd_some hf
    obtain ⟨q20, eq20, hf⟩ := hf
    refine gx_calll hG (gx_runS hXk F hX hG (c_X9_spelled l w hXk n  (104 : Int32) (117 : Int32) (110 : Int32) (103 : Int32) (0 : Int32) (0 : Int32) (0 : Int32) (0 : Int32) _ _ eq20) cs_X9_150 ⟨Nat.le_of_ble_eq_true rfl, Nat.le_of_ble_eq_true rfl⟩ rfl hl.1 rfl (Nat.le_of_ble_eq_true rfl) dX9_letters_259 ⟨Nat.le_refl _, Nat.le_refl _⟩) (fun H locs hG => ?_)
    exact cg_lret F hr hlk hG hf dX9_letters_262
  replace hf := if_f c19 hf
  by_cases c21 : x0 = (10 : Int32)
  · replace hf := if_t c21 hf
    refine lv_tableIn (off := 262) (tgt := 263) hx hb dX9_letters_1 (by rw [c21]; decide) (by rw [c21]; decide) (by rw [c21]; rfl) (by decide) ?_
    refine lv_bipush (v := 112) hx hb dX9_letters_263 (by decide) ?_
    refine lv_bipush (v := 108) hx hb dX9_letters_265 (by decide) ?_
    refine lv_bipush (v := 97) hx hb dX9_letters_267 (by decide) ?_
    refine lv_bipush (v := 110) hx hb dX9_letters_269 (by decide) ?_
    refine lv_iconst (v := 0) hx hb dX9_letters_271 (by decide) ?_
    refine lv_iconst (v := 0) hx hb dX9_letters_272 (by decide) ?_
    refine lv_iconst (v := 0) hx hb dX9_letters_273 (by decide) ?_
    refine lv_iconst (v := 0) hx hb dX9_letters_274 (by decide) ?_
    replace hf := bd_some hf
    obtain ⟨q22, eq22, hf⟩ := hf
    refine gx_calll hG (gx_runS hXk F hX hG (c_X9_spelled l w hXk n  (112 : Int32) (108 : Int32) (97 : Int32) (110 : Int32) (0 : Int32) (0 : Int32) (0 : Int32) (0 : Int32) _ _ eq22) cs_X9_150 ⟨Nat.le_of_ble_eq_true rfl, Nat.le_of_ble_eq_true rfl⟩ rfl hl.1 rfl (Nat.le_of_ble_eq_true rfl) dX9_letters_275 ⟨Nat.le_refl _, Nat.le_refl _⟩) (fun H locs hG => ?_)
    exact cg_lret F hr hlk hG hf dX9_letters_278
  replace hf := if_f c21 hf
  by_cases c23 : x0 = (11 : Int32)
  · replace hf := if_t c23 hf
    refine lv_tableIn (off := 278) (tgt := 279) hx hb dX9_letters_1 (by rw [c23]; decide) (by rw [c23]; decide) (by rw [c23]; rfl) (by decide) ?_
    refine lv_bipush (v := 103) hx hb dX9_letters_279 (by decide) ?_
    refine lv_bipush (v := 114) hx hb dX9_letters_281 (by decide) ?_
    refine lv_bipush (v := 111) hx hb dX9_letters_283 (by decide) ?_
    refine lv_bipush (v := 117) hx hb dX9_letters_285 (by decide) ?_
    refine lv_bipush (v := 110) hx hb dX9_letters_287 (by decide) ?_
    refine lv_bipush (v := 100) hx hb dX9_letters_289 (by decide) ?_
    refine lv_iconst (v := 0) hx hb dX9_letters_291 (by decide) ?_
    refine lv_iconst (v := 0) hx hb dX9_letters_292 (by decide) ?_
    replace hf := bd_some hf
    obtain ⟨q24, eq24, hf⟩ := hf
    refine gx_calll hG (gx_runS hXk F hX hG (c_X9_spelled l w hXk n  (103 : Int32) (114 : Int32) (111 : Int32) (117 : Int32) (110 : Int32) (100 : Int32) (0 : Int32) (0 : Int32) _ _ eq24) cs_X9_150 ⟨Nat.le_of_ble_eq_true rfl, Nat.le_of_ble_eq_true rfl⟩ rfl hl.1 rfl (Nat.le_of_ble_eq_true rfl) dX9_letters_293 ⟨Nat.le_refl _, Nat.le_refl _⟩) (fun H locs hG => ?_)
    exact cg_lret F hr hlk hG hf dX9_letters_296
  replace hf := if_f c23 hf
  by_cases c25 : x0 = (12 : Int32)
  · replace hf := if_t c25 hf
    refine lv_tableIn (off := 296) (tgt := 297) hx hb dX9_letters_1 (by rw [c25]; decide) (by rw [c25]; decide) (by rw [c25]; rfl) (by decide) ?_
    refine lv_bipush (v := 99) hx hb dX9_letters_297 (by decide) ?_
    refine lv_bipush (v := 111) hx hb dX9_letters_299 (by decide) ?_
    refine lv_bipush (v := 115) hx hb dX9_letters_301 (by decide) ?_
    refine lv_bipush (v := 116) hx hb dX9_letters_303 (by decide) ?_
    refine lv_iconst (v := 0) hx hb dX9_letters_305 (by decide) ?_
    refine lv_iconst (v := 0) hx hb dX9_letters_306 (by decide) ?_
    refine lv_iconst (v := 0) hx hb dX9_letters_307 (by decide) ?_
    refine lv_iconst (v := 0) hx hb dX9_letters_308 (by decide) ?_
    replace hf := bd_some hf
    obtain ⟨q26, eq26, hf⟩ := hf
    refine gx_calll hG (gx_runS hXk F hX hG (c_X9_spelled l w hXk n  (99 : Int32) (111 : Int32) (115 : Int32) (116 : Int32) (0 : Int32) (0 : Int32) (0 : Int32) (0 : Int32) _ _ eq26) cs_X9_150 ⟨Nat.le_of_ble_eq_true rfl, Nat.le_of_ble_eq_true rfl⟩ rfl hl.1 rfl (Nat.le_of_ble_eq_true rfl) dX9_letters_309 ⟨Nat.le_refl _, Nat.le_refl _⟩) (fun H locs hG => ?_)
    exact cg_lret F hr hlk hG hf dX9_letters_312
  replace hf := if_f c25 hf
  by_cases c27 : x0 = (13 : Int32)
  · replace hf := if_t c27 hf
    refine lv_tableIn (off := 312) (tgt := 313) hx hb dX9_letters_1 (by rw [c27]; decide) (by rw [c27]; decide) (by rw [c27]; rfl) (by decide) ?_
    refine lv_bipush (v := 119) hx hb dX9_letters_313 (by decide) ?_
    refine lv_bipush (v := 97) hx hb dX9_letters_315 (by decide) ?_
    refine lv_bipush (v := 114) hx hb dX9_letters_317 (by decide) ?_
    refine lv_bipush (v := 100) hx hb dX9_letters_319 (by decide) ?_
    refine lv_iconst (v := 0) hx hb dX9_letters_321 (by decide) ?_
    refine lv_iconst (v := 0) hx hb dX9_letters_322 (by decide) ?_
    refine lv_iconst (v := 0) hx hb dX9_letters_323 (by decide) ?_
    refine lv_iconst (v := 0) hx hb dX9_letters_324 (by decide) ?_
    replace hf := bd_some hf
    obtain ⟨q28, eq28, hf⟩ := hf
    refine gx_calll hG (gx_runS hXk F hX hG (c_X9_spelled l w hXk n  (119 : Int32) (97 : Int32) (114 : Int32) (100 : Int32) (0 : Int32) (0 : Int32) (0 : Int32) (0 : Int32) _ _ eq28) cs_X9_150 ⟨Nat.le_of_ble_eq_true rfl, Nat.le_of_ble_eq_true rfl⟩ rfl hl.1 rfl (Nat.le_of_ble_eq_true rfl) dX9_letters_325 ⟨Nat.le_refl _, Nat.le_refl _⟩) (fun H locs hG => ?_)
    exact cg_lret F hr hlk hG hf dX9_letters_328
  replace hf := if_f c27 hf
  by_cases c29 : x0 = (14 : Int32)
  · replace hf := if_t c29 hf
    refine lv_tableIn (off := 328) (tgt := 329) hx hb dX9_letters_1 (by rw [c29]; decide) (by rw [c29]; decide) (by rw [c29]; rfl) (by decide) ?_
    refine lv_bipush (v := 115) hx hb dX9_letters_329 (by decide) ?_
    refine lv_bipush (v := 116) hx hb dX9_letters_331 (by decide) ?_
    refine lv_bipush (v := 114) hx hb dX9_letters_333 (by decide) ?_
    refine lv_bipush (v := 101) hx hb dX9_letters_335 (by decide) ?_
    refine lv_bipush (v := 101) hx hb dX9_letters_337 (by decide) ?_
    refine lv_bipush (v := 116) hx hb dX9_letters_339 (by decide) ?_
    refine lv_iconst (v := 0) hx hb dX9_letters_341 (by decide) ?_
    refine lv_iconst (v := 0) hx hb dX9_letters_342 (by decide) ?_
    replace hf := bd_some hf
    obtain ⟨q30, eq30, hf⟩ := hf
    refine gx_calll hG (gx_runS hXk F hX hG (c_X9_spelled l w hXk n  (115 : Int32) (116 : Int32) (114 : Int32) (101 : Int32) (101 : Int32) (116 : Int32) (0 : Int32) (0 : Int32) _ _ eq30) cs_X9_150 ⟨Nat.le_of_ble_eq_true rfl, Nat.le_of_ble_eq_true rfl⟩ rfl hl.1 rfl (Nat.le_of_ble_eq_true rfl) dX9_letters_343 ⟨Nat.le_refl _, Nat.le_refl _⟩) (fun H locs hG => ?_)
    exact cg_lret F hr hlk hG hf dX9_letters_346
  replace hf := if_f c29 hf
  by_cases c31 : x0 = (15 : Int32)
  · replace hf := if_t c31 hf
    refine lv_tableIn (off := 346) (tgt := 347) hx hb dX9_letters_1 (by rw [c31]; decide) (by rw [c31]; decide) (by rw [c31]; rfl) (by decide) ?_
    refine lv_bipush (v := 108) hx hb dX9_letters_347 (by decide) ?_
    refine lv_bipush (v := 101) hx hb dX9_letters_349 (by decide) ?_
    refine lv_bipush (v := 97) hx hb dX9_letters_351 (by decide) ?_
    refine lv_bipush (v := 110) hx hb dX9_letters_353 (by decide) ?_
    refine lv_bipush (v := 115) hx hb dX9_letters_355 (by decide) ?_
    refine lv_iconst (v := 0) hx hb dX9_letters_357 (by decide) ?_
    refine lv_iconst (v := 0) hx hb dX9_letters_358 (by decide) ?_
    refine lv_iconst (v := 0) hx hb dX9_letters_359 (by decide) ?_
    replace hf := bd_some hf
    obtain ⟨q32, eq32, hf⟩ := hf
    refine gx_calll hG (gx_runS hXk F hX hG (c_X9_spelled l w hXk n  (108 : Int32) (101 : Int32) (97 : Int32) (110 : Int32) (115 : Int32) (0 : Int32) (0 : Int32) (0 : Int32) _ _ eq32) cs_X9_150 ⟨Nat.le_of_ble_eq_true rfl, Nat.le_of_ble_eq_true rfl⟩ rfl hl.1 rfl (Nat.le_of_ble_eq_true rfl) dX9_letters_360 ⟨Nat.le_refl _, Nat.le_refl _⟩) (fun H locs hG => ?_)
    exact cg_lret F hr hlk hG hf dX9_letters_363
  replace hf := if_f c31 hf
  by_cases c33 : x0 = (16 : Int32)
  · replace hf := if_t c33 hf
    refine lv_tableIn (off := 363) (tgt := 364) hx hb dX9_letters_1 (by rw [c33]; decide) (by rw [c33]; decide) (by rw [c33]; rfl) (by decide) ?_
    refine lv_bipush (v := 103) hx hb dX9_letters_364 (by decide) ?_
    refine lv_bipush (v := 105) hx hb dX9_letters_366 (by decide) ?_
    refine lv_bipush (v := 118) hx hb dX9_letters_368 (by decide) ?_
    refine lv_bipush (v := 101) hx hb dX9_letters_370 (by decide) ?_
    refine lv_bipush (v := 115) hx hb dX9_letters_372 (by decide) ?_
    refine lv_iconst (v := 0) hx hb dX9_letters_374 (by decide) ?_
    refine lv_iconst (v := 0) hx hb dX9_letters_375 (by decide) ?_
    refine lv_iconst (v := 0) hx hb dX9_letters_376 (by decide) ?_
    replace hf := bd_some hf
    obtain ⟨q34, eq34, hf⟩ := hf
    refine gx_calll hG (gx_runS hXk F hX hG (c_X9_spelled l w hXk n  (103 : Int32) (105 : Int32) (118 : Int32) (101 : Int32) (115 : Int32) (0 : Int32) (0 : Int32) (0 : Int32) _ _ eq34) cs_X9_150 ⟨Nat.le_of_ble_eq_true rfl, Nat.le_of_ble_eq_true rfl⟩ rfl hl.1 rfl (Nat.le_of_ble_eq_true rfl) dX9_letters_377 ⟨Nat.le_refl _, Nat.le_refl _⟩) (fun H locs hG => ?_)
    exact cg_lret F hr hlk hG hf dX9_letters_380
  replace hf := if_f c33 hf
  by_cases c35 : x0 = (17 : Int32)
  · replace hf := if_t c35 hf
    refine lv_tableIn (off := 380) (tgt := 381) hx hb dX9_letters_1 (by rw [c35]; decide) (by rw [c35]; decide) (by rw [c35]; rfl) (by decide) ?_
    refine lv_bipush (v := 98) hx hb dX9_letters_381 (by decide) ?_
    refine lv_bipush (v := 101) hx hb dX9_letters_383 (by decide) ?_
    refine lv_bipush (v := 108) hx hb dX9_letters_385 (by decide) ?_
    refine lv_bipush (v := 105) hx hb dX9_letters_387 (by decide) ?_
    refine lv_bipush (v := 101) hx hb dX9_letters_389 (by decide) ?_
    refine lv_bipush (v := 118) hx hb dX9_letters_391 (by decide) ?_
    refine lv_bipush (v := 101) hx hb dX9_letters_393 (by decide) ?_
    refine lv_bipush (v := 115) hx hb dX9_letters_395 (by decide) ?_
    replace hf := bd_some hf
    obtain ⟨q36, eq36, hf⟩ := hf
    refine gx_calll hG (gx_runS hXk F hX hG (c_X9_spelled l w hXk n  (98 : Int32) (101 : Int32) (108 : Int32) (105 : Int32) (101 : Int32) (118 : Int32) (101 : Int32) (115 : Int32) _ _ eq36) cs_X9_150 ⟨Nat.le_of_ble_eq_true rfl, Nat.le_of_ble_eq_true rfl⟩ rfl hl.1 rfl (Nat.le_of_ble_eq_true rfl) dX9_letters_397 ⟨Nat.le_refl _, Nat.le_refl _⟩) (fun H locs hG => ?_)
    exact cg_lret F hr hlk hG hf dX9_letters_400
  replace hf := if_f c35 hf
  by_cases c37 : x0 = (18 : Int32)
  · replace hf := if_t c37 hf
    refine lv_tableIn (off := 400) (tgt := 401) hx hb dX9_letters_1 (by rw [c37]; decide) (by rw [c37]; decide) (by rw [c37]; rfl) (by decide) ?_
    refine lv_bipush (v := 97) hx hb dX9_letters_401 (by decide) ?_
    refine lv_bipush (v := 110) hx hb dX9_letters_403 (by decide) ?_
    refine lv_bipush (v := 100) hx hb dX9_letters_405 (by decide) ?_
    refine lv_iconst (v := 0) hx hb dX9_letters_407 (by decide) ?_
    refine lv_iconst (v := 0) hx hb dX9_letters_408 (by decide) ?_
    refine lv_iconst (v := 0) hx hb dX9_letters_409 (by decide) ?_
    refine lv_iconst (v := 0) hx hb dX9_letters_410 (by decide) ?_
    refine lv_iconst (v := 0) hx hb dX9_letters_411 (by decide) ?_
    replace hf := bd_some hf
    obtain ⟨q38, eq38, hf⟩ := hf
    refine gx_calll hG (gx_runS hXk F hX hG (c_X9_spelled l w hXk n  (97 : Int32) (110 : Int32) (100 : Int32) (0 : Int32) (0 : Int32) (0 : Int32) (0 : Int32) (0 : Int32) _ _ eq38) cs_X9_150 ⟨Nat.le_of_ble_eq_true rfl, Nat.le_of_ble_eq_true rfl⟩ rfl hl.1 rfl (Nat.le_of_ble_eq_true rfl) dX9_letters_412 ⟨Nat.le_refl _, Nat.le_refl _⟩) (fun H locs hG => ?_)
    exact cg_lret F hr hlk hG hf dX9_letters_415
  replace hf := if_f c37 hf
  by_cases c39 : x0 = (19 : Int32)
  · replace hf := if_t c39 hf
    refine lv_tableIn (off := 415) (tgt := 416) hx hb dX9_letters_1 (by rw [c39]; decide) (by rw [c39]; decide) (by rw [c39]; rfl) (by decide) ?_
    refine lv_bipush (v := 111) hx hb dX9_letters_416 (by decide) ?_
    refine lv_bipush (v := 114) hx hb dX9_letters_418 (by decide) ?_
    refine lv_iconst (v := 0) hx hb dX9_letters_420 (by decide) ?_
    refine lv_iconst (v := 0) hx hb dX9_letters_421 (by decide) ?_
    refine lv_iconst (v := 0) hx hb dX9_letters_422 (by decide) ?_
    refine lv_iconst (v := 0) hx hb dX9_letters_423 (by decide) ?_
    refine lv_iconst (v := 0) hx hb dX9_letters_424 (by decide) ?_
    refine lv_iconst (v := 0) hx hb dX9_letters_425 (by decide) ?_
    replace hf := bd_some hf
    obtain ⟨q40, eq40, hf⟩ := hf
    refine gx_calll hG (gx_runS hXk F hX hG (c_X9_spelled l w hXk n  (111 : Int32) (114 : Int32) (0 : Int32) (0 : Int32) (0 : Int32) (0 : Int32) (0 : Int32) (0 : Int32) _ _ eq40) cs_X9_150 ⟨Nat.le_of_ble_eq_true rfl, Nat.le_of_ble_eq_true rfl⟩ rfl hl.1 rfl (Nat.le_of_ble_eq_true rfl) dX9_letters_426 ⟨Nat.le_refl _, Nat.le_refl _⟩) (fun H locs hG => ?_)
    exact cg_lret F hr hlk hG hf dX9_letters_429
  replace hf := if_f c39 hf
  refine lv_tableOut (tgt := 430) hx hb dX9_letters_1 (sw_out (0) (19) 20 (by decide) (fun k hk => match k, hk with | 0, _ => c1 | 1, _ => c3 | 2, _ => c5 | 3, _ => c7 | 4, _ => c9 | 5, _ => c11 | 6, _ => c13 | 7, _ => c15 | 8, _ => c17 | 9, _ => c19 | 10, _ => c21 | 11, _ => c23 | 12, _ => c25 | 13, _ => c27 | 14, _ => c29 | 15, _ => c31 | 16, _ => c33 | 17, _ => c35 | 18, _ => c37 | 19, _ => c39 | k + 20, h => absurd h (by omega))) (by decide) ?_
  refine lv_bipush (v := 110) hx hb dX9_letters_430 (by decide) ?_
  refine lv_bipush (v := 111) hx hb dX9_letters_432 (by decide) ?_
  refine lv_bipush (v := 116) hx hb dX9_letters_434 (by decide) ?_
  refine lv_iconst (v := 0) hx hb dX9_letters_436 (by decide) ?_
  refine lv_iconst (v := 0) hx hb dX9_letters_437 (by decide) ?_
  refine lv_iconst (v := 0) hx hb dX9_letters_438 (by decide) ?_
  refine lv_iconst (v := 0) hx hb dX9_letters_439 (by decide) ?_
  refine lv_iconst (v := 0) hx hb dX9_letters_440 (by decide) ?_
  replace hf := bd_some hf
  obtain ⟨q41, eq41, hf⟩ := hf
  refine gx_calll hG (gx_runS hXk F hX hG (c_X9_spelled l w hXk n  (110 : Int32) (111 : Int32) (116 : Int32) (0 : Int32) (0 : Int32) (0 : Int32) (0 : Int32) (0 : Int32) _ _ eq41) cs_X9_150 ⟨Nat.le_of_ble_eq_true rfl, Nat.le_of_ble_eq_true rfl⟩ rfl hl.1 rfl (Nat.le_of_ble_eq_true rfl) dX9_letters_441 ⟨Nat.le_refl _, Nat.le_refl _⟩) (fun H locs hG => ?_)
  exact cg_lret F hr hlk hG hf dX9_letters_444

def b_X9_knownWord_21 (n : Nat) (q : (Int32 × Mem)) : Option ((Int32 × Mem) ⊕ (Int32 × Mem)) := match q with
  | (x1, M) => if (21 : Int32) ≤ x1 then (mr (some ((-1 : Int32), M))) else (bd (f_X9_letters n  x1 M) (fun q2 => if (lg_cmp q2.1 (gj q2.2 0 22)) = 0 then (mr (some (x1, q2.2))) else (some (.inl ((x1 + (1 : Int32)), q2.2)))))
def f_X9_knownWord (n : Nat) (M : Mem) : Option (Int32 × Mem) := if (gi M 0 17) = (1 : Int32) then (if (gi M 0 19) ≤ (8 : Int32) then (gl (b_X9_knownWord_21 n ) n ((0 : Int32), M)) else (some ((-1 : Int32), M))) else (some ((-1 : Int32), M))
set_option maxHeartbeats 4000000 in
set_option maxRecDepth 100000 in
theorem c_X9_knownWord (l : Launch) (w : Wd) {X : (Nat → Prop) → State → Heap → Prop} (hXk : XOK X) (n : Nat) (M : Mem) (res : Int32 × Mem) (hf : f_X9_knownWord n   M = some res) : CG l w layM 24 X yX9_knownWord cX9_knownWord 2 (some .int) 2 [.ref (w.2.2.1 0)] M (GQi w layM 24 res) := by
  refine cg_start (by decide +kernel) (Nat.le_of_ble_eq_true rfl) ?_
  intro p e s m args below meth c F hr hlk hX hG ls hl
  have F : FX w p m c cX9_knownWord 2 s args RX9 := F
  have hx := F.1.1
  have hb := F.1.2.1
  have hl : lv_has ls 2 [(0, .ref (w.2.2.1 0))] := hl
  have hJ21 : ∀ (x1 : Int32) (M : Mem) (H : Heap) (locs : List Loc) (ls : Array Slot), gl (b_X9_knownWord_21 n  ) n (x1, M) = some res → GI w layM 24 s.heap M H locs → lv_has ls 2 [(0, .ref (w.2.2.1 0)), (1, .int x1)] → W p l e (Rm 2) s m args below meth c H locs 0 0 (MQ below (GQi w layM 24 res s.heap.size) args s 0 0 (gA w.2.2.1 24 s.heap.size)) (F0 m 21 ls []) := by
    intro x1 M H locs ls hf hG hl
    refine gl_run (P := fun (q : (Int32 × Mem)) => ∀ (H : Heap) (locs : List Loc) (ls : Array Slot), GI w layM 24 s.heap q.2 H locs → lv_has ls 2 [(0, .ref (w.2.2.1 0)), (1, .int q.1)] → W p l e (Rm 2) s m args below meth c H locs 0 0 (MQ below (GQi w layM 24 res s.heap.size) args s 0 0 (gA w.2.2.1 24 s.heap.size)) (F0 m 21 ls [])) ?_ n (x1, M) hf H locs ls hG hl
    clear hf hG hl ls locs H M x1
    rintro ⟨x1, M⟩ rr21 hf hI21 hE21 H locs ls hG hl
    try dsimp only at hG hl ⊢
    dsimp only [b_X9_knownWord_21] at hf
    refine lv_iload_n hx hb dX9_knownWord_21 rfl (lv_at hl 1 rfl) ?_
    refine lv_bipush (v := 21) hx hb dX9_knownWord_22 (by decide) ?_
    refine lv_icmp_ge (tgt := 47) hx hb dX9_knownWord_24 (by decide) (fun c1 => ?_) (fun c1 => ?_)
    · replace hf := if_t c1 hf
      refine lv_iconst (v := -1) hx hb dX9_knownWord_47 (by decide) ?_
      replace hf := mr_some hf
      obtain ⟨z21, hf, hz⟩ := hf
      rw [hE21 _ hz] at hf
      exact cg_iret F hr hlk hG hf dX9_knownWord_48
    · replace hf := if_f c1 hf
      refine lv_iload_n hx hb dX9_knownWord_27 rfl (lv_at hl 1 rfl) ?_
      replace hf := bd_some hf
      obtain ⟨q2, eq2, hf⟩ := hf
      refine gx_calll hG (gx_runS hXk F hX hG (c_X9_letters l w hXk n  x1 _ _ eq2) cs_X9_154 ⟨Nat.le_of_ble_eq_true rfl, Nat.le_of_ble_eq_true rfl⟩ rfl hl.1 rfl (Nat.le_of_ble_eq_true rfl) dX9_knownWord_28 ⟨Nat.le_refl _, Nat.le_refl _⟩) (fun H locs hG => ?_)
      refine lv_aload_n hx hb dX9_knownWord_31 rfl (lv_at hl 0 rfl) ?_
      refine g_getJ F hG mo_0 (by decide) (by decide) lk_X9_125 rfl dX9_knownWord_32 ?_
      refine W.lcmp hx hb dX9_knownWord_35 ?_
      refine lv_if_ne (tgt := 41) hx hb dX9_knownWord_36 (by decide) (fun c3 => ?_) (fun c3 => ?_)
      · replace hf := if_f c3 hf
        refine lv_iinc (v := (x1 + (1 : Int32))) (lv' := [(1, .int (x1 + (1 : Int32))), (0, .ref (w.2.2.1 0))]) hx hb dX9_knownWord_41 hl (k := 1) rfl rfl (by decide) rfl (fun ls hl => ?_)
        refine lv_goto (tgt := 21) hx hb dX9_knownWord_44 (by decide) ?_
        exact hI21 _ (Option.some.inj hf).symm _ _ ls hG (lv_sub hl [1, 0] rfl)
      · replace hf := if_t c3 hf
        refine lv_iload_n hx hb dX9_knownWord_39 rfl (lv_at hl 1 rfl) ?_
        replace hf := mr_some hf
        obtain ⟨z21, hf, hz⟩ := hf
        rw [hE21 _ hz] at hf
        exact cg_iret F hr hlk hG hf dX9_knownWord_40
  unfold f_X9_knownWord at hf
  refine lv_aload_n hx hb dX9_knownWord_0 rfl (lv_at hl 0 rfl) ?_
  refine g_getI F hG mo_0 (by decide) (by decide) lk_X9_135 rfl dX9_knownWord_1 ?_
  refine lv_iconst (v := 1) hx hb dX9_knownWord_4 (by decide) ?_
  refine lv_icmp_ne (tgt := 17) hx hb dX9_knownWord_5 (by decide) (fun c4 => ?_) (fun c4 => ?_)
  · replace hf := if_f c4 hf
    refine lv_iconst (v := -1) hx hb dX9_knownWord_17 (by decide) ?_
    exact cg_iret F hr hlk hG hf dX9_knownWord_18
  · replace hf := if_t c4 hf
    refine lv_aload_n hx hb dX9_knownWord_8 rfl (lv_at hl 0 rfl) ?_
    refine g_getI F hG mo_0 (by decide) (by decide) lk_X9_145 rfl dX9_knownWord_9 ?_
    refine lv_bipush (v := 8) hx hb dX9_knownWord_12 (by decide) ?_
    refine lv_icmp_le (tgt := 19) hx hb dX9_knownWord_14 (by decide) (fun c5 => ?_) (fun c5 => ?_)
    · replace hf := if_t c5 hf
      refine lv_iconst (v := 0) hx hb dX9_knownWord_19 (by decide) ?_
      refine lv_istore_n (lv' := [(1, .int (0 : Int32)), (0, .ref (w.2.2.1 0))]) hx hb dX9_knownWord_20 rfl hl (by decide) rfl (fun ls hl => ?_)
      exact hJ21 _ _ _ _ ls hf hG (lv_sub hl [1, 0] rfl)
    · replace hf := if_f c5 hf
      refine lv_iconst (v := -1) hx hb dX9_knownWord_17 (by decide) ?_
      exact cg_iret F hr hlk hG hf dX9_knownWord_18

def f_X9_wrong (n : Nat) (x1 : Int32) (M : Mem) : Option (Mem) := if (gi M 0 12) = 0 then (some (si (si M 0 12 x1) 0 13 (gi (si M 0 12 x1) 0 18))) else (some M)
set_option maxHeartbeats 4000000 in
set_option maxRecDepth 100000 in
theorem c_X9_wrong (l : Launch) (w : Wd) {X : (Nat → Prop) → State → Heap → Prop} (hXk : XOK X) (n : Nat) (x1 : Int32) (M : Mem) (res : Mem) (hf : f_X9_wrong n  x1 M = some res) : CG l w layM 24 X yX9_wrong cX9_wrong 2 none 0 [.ref (w.2.2.1 0), .int x1] M (GQv w layM 24 res) := by
  refine cg_start (by decide +kernel) (Nat.le_of_ble_eq_true rfl) ?_
  intro p e s m args below meth c F hr hlk hX hG ls hl
  have F : FX w p m c cX9_wrong 2 s args RX9 := F
  have hx := F.1.1
  have hb := F.1.2.1
  have hl : lv_has ls 2 [(0, .ref (w.2.2.1 0)), (1, .int x1)] := hl
  unfold f_X9_wrong at hf
  refine lv_aload_n hx hb dX9_wrong_0 rfl (lv_at hl 0 rfl) ?_
  refine g_getI F hG mo_0 (by decide) (by decide) lk_X9_158 rfl dX9_wrong_1 ?_
  refine lv_if_eq (tgt := 8) hx hb dX9_wrong_4 (by decide) (fun c1 => ?_) (fun c1 => ?_)
  · replace hf := if_t c1 hf
    refine lv_aload_n hx hb dX9_wrong_8 rfl (lv_at hl 0 rfl) ?_
    refine lv_iload_n hx hb dX9_wrong_9 rfl (lv_at hl 1 rfl) ?_
    refine g_putI F hG mo_0 (by decide) (by decide) lkv_X9_158 rfl rfl rfl dX9_wrong_10 (fun H locs hG => ?_)
    refine lv_aload_n hx hb dX9_wrong_13 rfl (lv_at hl 0 rfl) ?_
    refine lv_aload_n hx hb dX9_wrong_14 rfl (lv_at hl 0 rfl) ?_
    refine g_getI F hG mo_0 (by decide) (by decide) lk_X9_122 rfl dX9_wrong_15 ?_
    refine g_putI F hG mo_0 (by decide) (by decide) lkv_X9_35 rfl rfl rfl dX9_wrong_18 (fun H locs hG => ?_)
    exact cg_vret F hr hlk hG hf dX9_wrong_21
  · replace hf := if_f c1 hf
    exact cg_vret F hr hlk hG hf dX9_wrong_7

def f_X9_isGood (n : Nat) (M : Mem) : Option (Int32 × Mem) := if (gi M 0 12) = 0 then (some ((1 : Int32), M)) else (some ((0 : Int32), M))
set_option maxHeartbeats 4000000 in
set_option maxRecDepth 100000 in
theorem c_X9_isGood (l : Launch) (w : Wd) {X : (Nat → Prop) → State → Heap → Prop} (hXk : XOK X) (n : Nat) (M : Mem) (res : Int32 × Mem) (hf : f_X9_isGood n   M = some res) : CG l w layM 24 X yX9_isGood cX9_isGood 1 (some .boolean) 0 [.ref (w.2.2.1 0)] M (GQi w layM 24 res) := by
  refine cg_start (by decide +kernel) (Nat.le_of_ble_eq_true rfl) ?_
  intro p e s m args below meth c F hr hlk hX hG ls hl
  have F : FX w p m c cX9_isGood 1 s args RX9 := F
  have hx := F.1.1
  have hb := F.1.2.1
  have hl : lv_has ls 1 [(0, .ref (w.2.2.1 0))] := hl
  unfold f_X9_isGood at hf
  refine lv_aload_n hx hb dX9_isGood_0 rfl (lv_at hl 0 rfl) ?_
  refine g_getI F hG mo_0 (by decide) (by decide) lk_X9_158 rfl dX9_isGood_1 ?_
  refine lv_if_ne (tgt := 11) hx hb dX9_isGood_4 (by decide) (fun c1 => ?_) (fun c1 => ?_)
  · replace hf := if_f c1 hf
    refine lv_iconst (v := 0) hx hb dX9_isGood_11 (by decide) ?_
    exact cg_zret F hr hlk hG hf (Or.inl rfl) dX9_isGood_12
  · replace hf := if_t c1 hf
    refine lv_iconst (v := 1) hx hb dX9_isGood_7 (by decide) ?_
    refine lv_goto (tgt := 12) hx hb dX9_isGood_8 (by decide) ?_
    exact cg_zret F hr hlk hG hf (Or.inr rfl) dX9_isGood_12

def f_X9_isSign (n : Nat) (x1 : Int32) (M : Mem) : Option (Int32 × Mem) := if (gi M 0 17) = (3 : Int32) then (if (gi M 0 21) = x1 then (some ((1 : Int32), M)) else (some ((0 : Int32), M))) else (some ((0 : Int32), M))
set_option maxHeartbeats 4000000 in
set_option maxRecDepth 100000 in
theorem c_X9_isSign (l : Launch) (w : Wd) {X : (Nat → Prop) → State → Heap → Prop} (hXk : XOK X) (n : Nat) (x1 : Int32) (M : Mem) (res : Int32 × Mem) (hf : f_X9_isSign n  x1 M = some res) : CG l w layM 24 X yX9_isSign cX9_isSign 2 (some .boolean) 0 [.ref (w.2.2.1 0), .int x1] M (GQi w layM 24 res) := by
  refine cg_start (by decide +kernel) (Nat.le_of_ble_eq_true rfl) ?_
  intro p e s m args below meth c F hr hlk hX hG ls hl
  have F : FX w p m c cX9_isSign 2 s args RX9 := F
  have hx := F.1.1
  have hb := F.1.2.1
  have hl : lv_has ls 2 [(0, .ref (w.2.2.1 0)), (1, .int x1)] := hl
  unfold f_X9_isSign at hf
  refine lv_aload_n hx hb dX9_isSign_0 rfl (lv_at hl 0 rfl) ?_
  refine g_getI F hG mo_0 (by decide) (by decide) lk_X9_135 rfl dX9_isSign_1 ?_
  refine lv_iconst (v := 3) hx hb dX9_isSign_4 (by decide) ?_
  refine lv_icmp_ne (tgt := 20) hx hb dX9_isSign_5 (by decide) (fun c1 => ?_) (fun c1 => ?_)
  · replace hf := if_f c1 hf
    refine lv_iconst (v := 0) hx hb dX9_isSign_20 (by decide) ?_
    exact cg_zret F hr hlk hG hf (Or.inl rfl) dX9_isSign_21
  · replace hf := if_t c1 hf
    refine lv_aload_n hx hb dX9_isSign_8 rfl (lv_at hl 0 rfl) ?_
    refine g_getI F hG mo_0 (by decide) (by decide) lk_X9_132 rfl dX9_isSign_9 ?_
    refine lv_iload_n hx hb dX9_isSign_12 rfl (lv_at hl 1 rfl) ?_
    refine lv_icmp_ne (tgt := 20) hx hb dX9_isSign_13 (by decide) (fun c2 => ?_) (fun c2 => ?_)
    · replace hf := if_f c2 hf
      refine lv_iconst (v := 0) hx hb dX9_isSign_20 (by decide) ?_
      exact cg_zret F hr hlk hG hf (Or.inl rfl) dX9_isSign_21
    · replace hf := if_t c2 hf
      refine lv_iconst (v := 1) hx hb dX9_isSign_16 (by decide) ?_
      refine lv_goto (tgt := 21) hx hb dX9_isSign_17 (by decide) ?_
      exact cg_zret F hr hlk hG hf (Or.inr rfl) dX9_isSign_21

def f_X9_need (n : Nat) (x1 : Int32) (M : Mem) : Option (Mem) := bd (f_X9_isGood n   M) (fun q1 => if q1.1 = 0 then (some q1.2) else (if x1 = 0 then (bd (f_X9_wrong n  (1 : Int32) q1.2) (fun q4 => some q4)) else (bd (f_X9_goes n   q1.2) (fun q5 => some q5))))
set_option maxHeartbeats 4000000 in
set_option maxRecDepth 100000 in
theorem c_X9_need (l : Launch) (w : Wd) {X : (Nat → Prop) → State → Heap → Prop} (hXk : XOK X) (n : Nat) (x1 : Int32) (M : Mem) (res : Mem) (hf : f_X9_need n  x1 M = some res) : CG l w layM 24 X yX9_need cX9_need 2 none 2 [.ref (w.2.2.1 0), .int x1] M (GQv w layM 24 res) := by
  refine cg_start (by decide +kernel) (Nat.le_of_ble_eq_true rfl) ?_
  intro p e s m args below meth c F hr hlk hX hG ls hl
  have F : FX w p m c cX9_need 2 s args RX9 := F
  have hx := F.1.1
  have hb := F.1.2.1
  have hl : lv_has ls 2 [(0, .ref (w.2.2.1 0)), (1, .int x1)] := hl
  unfold f_X9_need at hf
  refine lv_aload_n hx hb dX9_need_0 rfl (lv_at hl 0 rfl) ?_
  replace hf := bd_some hf
  obtain ⟨q1, eq1, hf⟩ := hf
  refine gx_calli hG (gx_runV hXk F hX hG (c_X9_isGood l w hXk n   _ _ eq1) cv_X9_161 ⟨Nat.le_of_ble_eq_true rfl, Nat.le_of_ble_eq_true rfl⟩ (g_recv F hG mo_0 (by decide) rfl) rfl hl.1 rfl (Nat.le_of_ble_eq_true rfl) dX9_need_1 ⟨Nat.le_refl _, Nat.le_refl _⟩) (fun H locs hG => ?_)
  refine lv_if_ne (tgt := 8) hx hb dX9_need_4 (by decide) (fun c2 => ?_) (fun c2 => ?_)
  · replace hf := if_f c2 hf
    refine lv_iload_n hx hb dX9_need_8 rfl (lv_at hl 1 rfl) ?_
    refine lv_if_eq (tgt := 19) hx hb dX9_need_9 (by decide) (fun c3 => ?_) (fun c3 => ?_)
    · replace hf := if_t c3 hf
      refine lv_aload_n hx hb dX9_need_19 rfl (lv_at hl 0 rfl) ?_
      refine lv_iconst (v := 1) hx hb dX9_need_20 (by decide) ?_
      replace hf := bd_some hf
      obtain ⟨q4, eq4, hf⟩ := hf
      refine gx_callv hG (gx_runV hXk F hX hG (c_X9_wrong l w hXk n  (1 : Int32) _ _ eq4) cv_X9_168 ⟨Nat.le_of_ble_eq_true rfl, Nat.le_of_ble_eq_true rfl⟩ (g_recv F hG mo_0 (by decide) rfl) rfl hl.1 rfl (Nat.le_of_ble_eq_true rfl) dX9_need_21 ⟨Nat.le_refl _, Nat.le_refl _⟩) (fun H locs hG => ?_)
      exact cg_vret F hr hlk hG hf dX9_need_24
    · replace hf := if_f c3 hf
      refine lv_aload_n hx hb dX9_need_12 rfl (lv_at hl 0 rfl) ?_
      replace hf := bd_some hf
      obtain ⟨q5, eq5, hf⟩ := hf
      refine gx_callv hG (gx_runV hXk F hX hG (c_X9_goes l w hXk n   _ _ eq5) cv_X9_165 ⟨Nat.le_of_ble_eq_true rfl, Nat.le_of_ble_eq_true rfl⟩ (g_recv F hG mo_0 (by decide) rfl) rfl hl.1 rfl (Nat.le_of_ble_eq_true rfl) dX9_need_13 ⟨Nat.le_refl _, Nat.le_refl _⟩) (fun H locs hG => ?_)
      refine lv_goto (tgt := 24) hx hb dX9_need_16 (by decide) ?_
      exact cg_vret F hr hlk hG hf dX9_need_24
  · replace hf := if_t c2 hf
    exact cg_vret F hr hlk hG hf dX9_need_7

def j_X9_number_54 (n : Nat) (M : Mem) : Option (Int32 × Mem) := bd (f_X9_isGood n   M) (fun q1 => if q1.1 = 0 then (some ((gi M 0 20), q1.2)) else (bd (f_X9_goes n   q1.2) (fun q3 => some ((gi M 0 20), q3))))
def j_X9_number_49 (n : Nat) (M : Mem) : Option (Int32 × Mem) := bd (f_X9_wrong n  (2 : Int32) M) (fun q4 => j_X9_number_54 n  q4)
def f_X9_number (n : Nat) (x1 : Int32) (x2 : Int32) (M : Mem) : Option (Int32 × Mem) := bd (f_X9_isGood n   M) (fun q5 => if q5.1 = 0 then (some ((0 : Int32), q5.2)) else (if (gi q5.2 0 17) = (2 : Int32) then (if (4 : Int32) < (gi q5.2 0 19) then (j_X9_number_49 n  q5.2) else (if (gi q5.2 0 20) < x1 then (j_X9_number_49 n  q5.2) else (if (gi q5.2 0 20) ≤ x2 then (j_X9_number_54 n  q5.2) else (j_X9_number_49 n  q5.2)))) else (bd (f_X9_wrong n  (1 : Int32) q5.2) (fun q11 => j_X9_number_54 n  q11))))
set_option maxHeartbeats 4000000 in
set_option maxRecDepth 100000 in
theorem c_X9_number (l : Launch) (w : Wd) {X : (Nat → Prop) → State → Heap → Prop} (hXk : XOK X) (n : Nat) (x1 : Int32) (x2 : Int32) (M : Mem) (res : Int32 × Mem) (hf : f_X9_number n  x1 x2 M = some res) : CG l w layM 24 X yX9_number cX9_number 4 (some .int) 2 [.ref (w.2.2.1 0), .int x1, .int x2] M (GQi w layM 24 res) := by
  refine cg_start (by decide +kernel) (Nat.le_of_ble_eq_true rfl) ?_
  intro p e s m args below meth c F hr hlk hX hG ls hl
  have F : FX w p m c cX9_number 4 s args RX9 := F
  have hx := F.1.1
  have hb := F.1.2.1
  have hl : lv_has ls 4 [(0, .ref (w.2.2.1 0)), (1, .int x1), (2, .int x2)] := hl
  have hJ54 : ∀ (M : Mem) (H : Heap) (locs : List Loc) (ls : Array Slot), j_X9_number_54 n   M = some res → GI w layM 24 s.heap M H locs → lv_has ls 4 [(0, .ref (w.2.2.1 0))] → W p l e (Rm 2) s m args below meth c H locs 0 0 (MQ below (GQi w layM 24 res s.heap.size) args s 0 0 (gA w.2.2.1 24 s.heap.size)) (F0 m 54 ls []) := by
    intro  M H locs ls hf hG hl
    unfold j_X9_number_54 at hf
    refine lv_aload_n hx hb dX9_number_54 rfl (lv_at hl 0 rfl) ?_
    refine g_getI F hG mo_0 (by decide) (by decide) lk_X9_129 rfl dX9_number_55 ?_
    refine lv_istore_n (lv' := [(3, .int (gi M 0 20)), (0, .ref (w.2.2.1 0))]) hx hb dX9_number_58 rfl hl (by decide) rfl (fun ls hl => ?_)
    refine lv_aload_n hx hb dX9_number_59 rfl (lv_at hl 1 rfl) ?_
    replace hf := bd_some hf
    obtain ⟨q1, eq1, hf⟩ := hf
    refine gx_calli hG (gx_runV hXk F hX hG (c_X9_isGood l w hXk n   _ _ eq1) cv_X9_161 ⟨Nat.le_of_ble_eq_true rfl, Nat.le_of_ble_eq_true rfl⟩ (g_recv F hG mo_0 (by decide) rfl) rfl hl.1 rfl (Nat.le_of_ble_eq_true rfl) dX9_number_60 ⟨Nat.le_refl _, Nat.le_refl _⟩) (fun H locs hG => ?_)
    refine lv_if_eq (tgt := 70) hx hb dX9_number_63 (by decide) (fun c2 => ?_) (fun c2 => ?_)
    · replace hf := if_t c2 hf
      refine lv_iload_n hx hb dX9_number_70 rfl (lv_at hl 0 rfl) ?_
      exact cg_iret F hr hlk hG hf dX9_number_71
    · replace hf := if_f c2 hf
      refine lv_aload_n hx hb dX9_number_66 rfl (lv_at hl 1 rfl) ?_
      replace hf := bd_some hf
      obtain ⟨q3, eq3, hf⟩ := hf
      refine gx_callv hG (gx_runV hXk F hX hG (c_X9_goes l w hXk n   _ _ eq3) cv_X9_165 ⟨Nat.le_of_ble_eq_true rfl, Nat.le_of_ble_eq_true rfl⟩ (g_recv F hG mo_0 (by decide) rfl) rfl hl.1 rfl (Nat.le_of_ble_eq_true rfl) dX9_number_67 ⟨Nat.le_refl _, Nat.le_refl _⟩) (fun H locs hG => ?_)
      refine lv_iload_n hx hb dX9_number_70 rfl (lv_at hl 0 rfl) ?_
      exact cg_iret F hr hlk hG hf dX9_number_71
  have hJ49 : ∀ (M : Mem) (H : Heap) (locs : List Loc) (ls : Array Slot), j_X9_number_49 n   M = some res → GI w layM 24 s.heap M H locs → lv_has ls 4 [(0, .ref (w.2.2.1 0))] → W p l e (Rm 2) s m args below meth c H locs 0 0 (MQ below (GQi w layM 24 res s.heap.size) args s 0 0 (gA w.2.2.1 24 s.heap.size)) (F0 m 49 ls []) := by
    intro  M H locs ls hf hG hl
    unfold j_X9_number_49 at hf
    refine lv_aload_n hx hb dX9_number_49 rfl (lv_at hl 0 rfl) ?_
    refine lv_iconst (v := 2) hx hb dX9_number_50 (by decide) ?_
    replace hf := bd_some hf
    obtain ⟨q4, eq4, hf⟩ := hf
    refine gx_callv hG (gx_runV hXk F hX hG (c_X9_wrong l w hXk n  (2 : Int32) _ _ eq4) cv_X9_168 ⟨Nat.le_of_ble_eq_true rfl, Nat.le_of_ble_eq_true rfl⟩ (g_recv F hG mo_0 (by decide) rfl) rfl hl.1 rfl (Nat.le_of_ble_eq_true rfl) dX9_number_51 ⟨Nat.le_refl _, Nat.le_refl _⟩) (fun H locs hG => ?_)
    exact hJ54  _ _ _ ls hf hG (lv_sub hl [0] rfl)
  unfold f_X9_number at hf
  refine lv_aload_n hx hb dX9_number_0 rfl (lv_at hl 0 rfl) ?_
  replace hf := bd_some hf
  obtain ⟨q5, eq5, hf⟩ := hf
  refine gx_calli hG (gx_runV hXk F hX hG (c_X9_isGood l w hXk n   _ _ eq5) cv_X9_161 ⟨Nat.le_of_ble_eq_true rfl, Nat.le_of_ble_eq_true rfl⟩ (g_recv F hG mo_0 (by decide) rfl) rfl hl.1 rfl (Nat.le_of_ble_eq_true rfl) dX9_number_1 ⟨Nat.le_refl _, Nat.le_refl _⟩) (fun H locs hG => ?_)
  refine lv_if_ne (tgt := 9) hx hb dX9_number_4 (by decide) (fun c6 => ?_) (fun c6 => ?_)
  · replace hf := if_f c6 hf
    refine lv_aload_n hx hb dX9_number_9 rfl (lv_at hl 0 rfl) ?_
    refine g_getI F hG mo_0 (by decide) (by decide) lk_X9_135 rfl dX9_number_10 ?_
    refine lv_iconst (v := 2) hx hb dX9_number_13 (by decide) ?_
    refine lv_icmp_eq (tgt := 25) hx hb dX9_number_14 (by decide) (fun c7 => ?_) (fun c7 => ?_)
    · replace hf := if_t c7 hf
      refine lv_aload_n hx hb dX9_number_25 rfl (lv_at hl 0 rfl) ?_
      refine g_getI F hG mo_0 (by decide) (by decide) lk_X9_145 rfl dX9_number_26 ?_
      refine lv_iconst (v := 4) hx hb dX9_number_29 (by decide) ?_
      refine lv_icmp_gt (tgt := 49) hx hb dX9_number_30 (by decide) (fun c8 => ?_) (fun c8 => ?_)
      · replace hf := if_t c8 hf
        exact hJ49  _ _ _ ls hf hG (lv_sub hl [0] rfl)
      · replace hf := if_f c8 hf
        refine lv_aload_n hx hb dX9_number_33 rfl (lv_at hl 0 rfl) ?_
        refine g_getI F hG mo_0 (by decide) (by decide) lk_X9_129 rfl dX9_number_34 ?_
        refine lv_iload_n hx hb dX9_number_37 rfl (lv_at hl 1 rfl) ?_
        refine lv_icmp_lt (tgt := 49) hx hb dX9_number_38 (by decide) (fun c9 => ?_) (fun c9 => ?_)
        · replace hf := if_t c9 hf
          exact hJ49  _ _ _ ls hf hG (lv_sub hl [0] rfl)
        · replace hf := if_f c9 hf
          refine lv_aload_n hx hb dX9_number_41 rfl (lv_at hl 0 rfl) ?_
          refine g_getI F hG mo_0 (by decide) (by decide) lk_X9_129 rfl dX9_number_42 ?_
          refine lv_iload_n hx hb dX9_number_45 rfl (lv_at hl 2 rfl) ?_
          refine lv_icmp_le (tgt := 54) hx hb dX9_number_46 (by decide) (fun c10 => ?_) (fun c10 => ?_)
          · replace hf := if_t c10 hf
            exact hJ54  _ _ _ ls hf hG (lv_sub hl [0] rfl)
          · replace hf := if_f c10 hf
            exact hJ49  _ _ _ ls hf hG (lv_sub hl [0] rfl)
    · replace hf := if_f c7 hf
      refine lv_aload_n hx hb dX9_number_17 rfl (lv_at hl 0 rfl) ?_
      refine lv_iconst (v := 1) hx hb dX9_number_18 (by decide) ?_
      replace hf := bd_some hf
      obtain ⟨q11, eq11, hf⟩ := hf
      refine gx_callv hG (gx_runV hXk F hX hG (c_X9_wrong l w hXk n  (1 : Int32) _ _ eq11) cv_X9_168 ⟨Nat.le_of_ble_eq_true rfl, Nat.le_of_ble_eq_true rfl⟩ (g_recv F hG mo_0 (by decide) rfl) rfl hl.1 rfl (Nat.le_of_ble_eq_true rfl) dX9_number_19 ⟨Nat.le_refl _, Nat.le_refl _⟩) (fun H locs hG => ?_)
      refine lv_goto (tgt := 54) hx hb dX9_number_22 (by decide) ?_
      exact hJ54  _ _ _ ls hf hG (lv_sub hl [0] rfl)
  · replace hf := if_t c6 hf
    refine lv_iconst (v := 0) hx hb dX9_number_7 (by decide) ?_
    exact cg_iret F hr hlk hG hf dX9_number_8

def j_X9_isWardHere_57 (n : Nat) (M : Mem) : Option (Int32 × Mem) := bd (f_X9_isGood n   M) (fun q1 => ck (q1.1 = 0 ∨ q1.1 = 1) (some (q1.1, q1.2)))
def f_X9_isWardHere (n : Nat) (M : Mem) : Option (Int32 × Mem) := bd (f_X9_isGood n   M) (fun q3 => if q3.1 = 0 then (some ((0 : Int32), q3.2)) else (if (gi q3.2 0 17) = (2 : Int32) then (if (gi q3.2 0 19) ≤ (4 : Int32) then (if (gi q3.2 0 20) < (gi q3.2 0 23) then (j_X9_isWardHere_57 n  q3.2) else (bd (f_X9_wrong n  (3 : Int32) q3.2) (fun q8 => j_X9_isWardHere_57 n  q8))) else (bd (f_X9_wrong n  (2 : Int32) q3.2) (fun q9 => j_X9_isWardHere_57 n  q9))) else (bd (f_X9_wrong n  (1 : Int32) q3.2) (fun q10 => j_X9_isWardHere_57 n  q10))))
set_option maxHeartbeats 4000000 in
set_option maxRecDepth 100000 in
theorem c_X9_isWardHere (l : Launch) (w : Wd) {X : (Nat → Prop) → State → Heap → Prop} (hXk : XOK X) (n : Nat) (M : Mem) (res : Int32 × Mem) (hf : f_X9_isWardHere n   M = some res) : CG l w layM 24 X yX9_isWardHere cX9_isWardHere 1 (some .boolean) 1 [.ref (w.2.2.1 0)] M (GQi w layM 24 res) := by
  refine cg_start (by decide +kernel) (Nat.le_of_ble_eq_true rfl) ?_
  intro p e s m args below meth c F hr hlk hX hG ls hl
  have F : FX w p m c cX9_isWardHere 1 s args RX9 := F
  have hx := F.1.1
  have hb := F.1.2.1
  have hl : lv_has ls 1 [(0, .ref (w.2.2.1 0))] := hl
  have hJ57 : ∀ (M : Mem) (H : Heap) (locs : List Loc) (ls : Array Slot), j_X9_isWardHere_57 n   M = some res → GI w layM 24 s.heap M H locs → lv_has ls 1 [(0, .ref (w.2.2.1 0))] → W p l e (Rm 1) s m args below meth c H locs 0 0 (MQ below (GQi w layM 24 res s.heap.size) args s 0 0 (gA w.2.2.1 24 s.heap.size)) (F0 m 57 ls []) := by
    intro  M H locs ls hf hG hl
    unfold j_X9_isWardHere_57 at hf
    refine lv_aload_n hx hb dX9_isWardHere_57 rfl (lv_at hl 0 rfl) ?_
    replace hf := bd_some hf
    obtain ⟨q1, eq1, hf⟩ := hf
    refine gx_calli hG (gx_runV hXk F hX hG (c_X9_isGood l w hXk n   _ _ eq1) cv_X9_161 ⟨Nat.le_of_ble_eq_true rfl, Nat.le_of_ble_eq_true rfl⟩ (g_recv F hG mo_0 (by decide) rfl) rfl hl.1 rfl (Nat.le_of_ble_eq_true rfl) dX9_isWardHere_58 ⟨Nat.le_refl _, Nat.le_refl _⟩) (fun H locs hG => ?_)
    replace hf := ck_some hf
    obtain ⟨k2, hf⟩ := hf
    exact cg_zret F hr hlk hG hf k2 dX9_isWardHere_61
  unfold f_X9_isWardHere at hf
  refine lv_aload_n hx hb dX9_isWardHere_0 rfl (lv_at hl 0 rfl) ?_
  replace hf := bd_some hf
  obtain ⟨q3, eq3, hf⟩ := hf
  refine gx_calli hG (gx_runV hXk F hX hG (c_X9_isGood l w hXk n   _ _ eq3) cv_X9_161 ⟨Nat.le_of_ble_eq_true rfl, Nat.le_of_ble_eq_true rfl⟩ (g_recv F hG mo_0 (by decide) rfl) rfl hl.1 rfl (Nat.le_of_ble_eq_true rfl) dX9_isWardHere_1 ⟨Nat.le_refl _, Nat.le_refl _⟩) (fun H locs hG => ?_)
  refine lv_if_ne (tgt := 9) hx hb dX9_isWardHere_4 (by decide) (fun c4 => ?_) (fun c4 => ?_)
  · replace hf := if_f c4 hf
    refine lv_aload_n hx hb dX9_isWardHere_9 rfl (lv_at hl 0 rfl) ?_
    refine g_getI F hG mo_0 (by decide) (by decide) lk_X9_135 rfl dX9_isWardHere_10 ?_
    refine lv_iconst (v := 2) hx hb dX9_isWardHere_13 (by decide) ?_
    refine lv_icmp_eq (tgt := 25) hx hb dX9_isWardHere_14 (by decide) (fun c5 => ?_) (fun c5 => ?_)
    · replace hf := if_t c5 hf
      refine lv_aload_n hx hb dX9_isWardHere_25 rfl (lv_at hl 0 rfl) ?_
      refine g_getI F hG mo_0 (by decide) (by decide) lk_X9_145 rfl dX9_isWardHere_26 ?_
      refine lv_iconst (v := 4) hx hb dX9_isWardHere_29 (by decide) ?_
      refine lv_icmp_le (tgt := 41) hx hb dX9_isWardHere_30 (by decide) (fun c6 => ?_) (fun c6 => ?_)
      · replace hf := if_t c6 hf
        refine lv_aload_n hx hb dX9_isWardHere_41 rfl (lv_at hl 0 rfl) ?_
        refine g_getI F hG mo_0 (by decide) (by decide) lk_X9_129 rfl dX9_isWardHere_42 ?_
        refine lv_aload_n hx hb dX9_isWardHere_45 rfl (lv_at hl 0 rfl) ?_
        refine g_getI F hG mo_0 (by decide) (by decide) lk_X9_171 rfl dX9_isWardHere_46 ?_
        refine lv_icmp_lt (tgt := 57) hx hb dX9_isWardHere_49 (by decide) (fun c7 => ?_) (fun c7 => ?_)
        · replace hf := if_t c7 hf
          exact hJ57  _ _ _ ls hf hG (lv_sub hl [0] rfl)
        · replace hf := if_f c7 hf
          refine lv_aload_n hx hb dX9_isWardHere_52 rfl (lv_at hl 0 rfl) ?_
          refine lv_iconst (v := 3) hx hb dX9_isWardHere_53 (by decide) ?_
          replace hf := bd_some hf
          obtain ⟨q8, eq8, hf⟩ := hf
          refine gx_callv hG (gx_runV hXk F hX hG (c_X9_wrong l w hXk n  (3 : Int32) _ _ eq8) cv_X9_168 ⟨Nat.le_of_ble_eq_true rfl, Nat.le_of_ble_eq_true rfl⟩ (g_recv F hG mo_0 (by decide) rfl) rfl hl.1 rfl (Nat.le_of_ble_eq_true rfl) dX9_isWardHere_54 ⟨Nat.le_refl _, Nat.le_refl _⟩) (fun H locs hG => ?_)
          exact hJ57  _ _ _ ls hf hG (lv_sub hl [0] rfl)
      · replace hf := if_f c6 hf
        refine lv_aload_n hx hb dX9_isWardHere_33 rfl (lv_at hl 0 rfl) ?_
        refine lv_iconst (v := 2) hx hb dX9_isWardHere_34 (by decide) ?_
        replace hf := bd_some hf
        obtain ⟨q9, eq9, hf⟩ := hf
        refine gx_callv hG (gx_runV hXk F hX hG (c_X9_wrong l w hXk n  (2 : Int32) _ _ eq9) cv_X9_168 ⟨Nat.le_of_ble_eq_true rfl, Nat.le_of_ble_eq_true rfl⟩ (g_recv F hG mo_0 (by decide) rfl) rfl hl.1 rfl (Nat.le_of_ble_eq_true rfl) dX9_isWardHere_35 ⟨Nat.le_refl _, Nat.le_refl _⟩) (fun H locs hG => ?_)
        refine lv_goto (tgt := 57) hx hb dX9_isWardHere_38 (by decide) ?_
        exact hJ57  _ _ _ ls hf hG (lv_sub hl [0] rfl)
    · replace hf := if_f c5 hf
      refine lv_aload_n hx hb dX9_isWardHere_17 rfl (lv_at hl 0 rfl) ?_
      refine lv_iconst (v := 1) hx hb dX9_isWardHere_18 (by decide) ?_
      replace hf := bd_some hf
      obtain ⟨q10, eq10, hf⟩ := hf
      refine gx_callv hG (gx_runV hXk F hX hG (c_X9_wrong l w hXk n  (1 : Int32) _ _ eq10) cv_X9_168 ⟨Nat.le_of_ble_eq_true rfl, Nat.le_of_ble_eq_true rfl⟩ (g_recv F hG mo_0 (by decide) rfl) rfl hl.1 rfl (Nat.le_of_ble_eq_true rfl) dX9_isWardHere_19 ⟨Nat.le_refl _, Nat.le_refl _⟩) (fun H locs hG => ?_)
      refine lv_goto (tgt := 57) hx hb dX9_isWardHere_22 (by decide) ?_
      exact hJ57  _ _ _ ls hf hG (lv_sub hl [0] rfl)
  · replace hf := if_t c4 hf
    refine lv_iconst (v := 0) hx hb dX9_isWardHere_7 (by decide) ?_
    exact cg_zret F hr hlk hG hf (Or.inl rfl) dX9_isWardHere_8

def f_X9_puts (n : Nat) (x1 : Int32) (M : Mem) : Option (Mem) := ck (inb (gi M 0 32) 1400) (some (si (si M 9 (gi M 0 32).toNatClampNeg x1) 0 32 ((gi (si M 9 (gi M 0 32).toNatClampNeg x1) 0 32) + (1 : Int32))))
set_option maxHeartbeats 4000000 in
set_option maxRecDepth 100000 in
theorem c_X9_puts (l : Launch) (w : Wd) {X : (Nat → Prop) → State → Heap → Prop} (hXk : XOK X) (n : Nat) (x1 : Int32) (M : Mem) (res : Mem) (hf : f_X9_puts n  x1 M = some res) : CG l w layM 24 X yX9_puts cX9_puts 2 none 0 [.ref (w.2.2.1 0), .int x1] M (GQv w layM 24 res) := by
  refine cg_start (by decide +kernel) (Nat.le_of_ble_eq_true rfl) ?_
  intro p e s m args below meth c F hr hlk hX hG ls hl
  have F : FX w p m c cX9_puts 2 s args RX9 := F
  have hx := F.1.1
  have hb := F.1.2.1
  have hl : lv_has ls 2 [(0, .ref (w.2.2.1 0)), (1, .int x1)] := hl
  unfold f_X9_puts at hf
  refine lv_aload_n hx hb dX9_puts_0 rfl (lv_at hl 0 rfl) ?_
  refine g_getR F hG 9 mo_0 (by decide) (by decide) lk_X9_53 rfl dX9_puts_1 ?_
  refine lv_aload_n hx hb dX9_puts_4 rfl (lv_at hl 0 rfl) ?_
  refine g_getI F hG mo_0 (by decide) (by decide) lk_X9_174 rfl dX9_puts_5 ?_
  refine lv_iload_n hx hb dX9_puts_8 rfl (lv_at hl 1 rfl) ?_
  replace hf := ck_some hf
  obtain ⟨k1, hf⟩ := hf
  refine g_iast F hG oM_9 k1 dX9_puts_9 (fun H locs hG => ?_)
  refine lv_aload_n hx hb dX9_puts_10 rfl (lv_at hl 0 rfl) ?_
  refine lv_dup hx hb dX9_puts_11 rfl ?_
  refine g_getI F hG mo_0 (by decide) (by decide) lk_X9_174 rfl dX9_puts_12 ?_
  refine lv_iconst (v := 1) hx hb dX9_puts_15 (by decide) ?_
  refine lv_iadd hx hb dX9_puts_16 ?_
  refine g_putI F hG mo_0 (by decide) (by decide) lkv_X9_174 rfl rfl rfl dX9_puts_17 (fun H locs hG => ?_)
  exact cg_vret F hr hlk hG hf dX9_puts_20

def f_X9_isOpen (n : Nat) (x0 : Int32) (M : Mem) : Option (Int32 × Mem) := if x0 < (14 : Int32) then (some ((0 : Int32), M)) else (some ((1 : Int32), M))
set_option maxHeartbeats 4000000 in
set_option maxRecDepth 100000 in
theorem c_X9_isOpen (l : Launch) (w : Wd) {X : (Nat → Prop) → State → Heap → Prop} (hXk : XOK X) (n : Nat) (x0 : Int32) (M : Mem) (res : Int32 × Mem) (hf : f_X9_isOpen n  x0 M = some res) : CG l w layM 24 X yX9_isOpen cX9_isOpen 1 (some .boolean) 0 [.int x0] M (GQi w layM 24 res) := by
  refine cg_start (by decide +kernel) (Nat.le_of_ble_eq_true rfl) ?_
  intro p e s m args below meth c F hr hlk hX hG ls hl
  have F : FX w p m c cX9_isOpen 1 s args RX9 := F
  have hx := F.1.1
  have hb := F.1.2.1
  have hl : lv_has ls 1 [(0, .int x0)] := hl
  unfold f_X9_isOpen at hf
  refine lv_iload_n hx hb dX9_isOpen_0 rfl (lv_at hl 0 rfl) ?_
  refine lv_bipush (v := 14) hx hb dX9_isOpen_1 (by decide) ?_
  refine lv_icmp_lt (tgt := 10) hx hb dX9_isOpen_3 (by decide) (fun c1 => ?_) (fun c1 => ?_)
  · replace hf := if_t c1 hf
    refine lv_iconst (v := 0) hx hb dX9_isOpen_10 (by decide) ?_
    exact cg_zret F hr hlk hG hf (Or.inl rfl) dX9_isOpen_11
  · replace hf := if_f c1 hf
    refine lv_iconst (v := 1) hx hb dX9_isOpen_6 (by decide) ?_
    refine lv_goto (tgt := 11) hx hb dX9_isOpen_7 (by decide) ?_
    exact cg_zret F hr hlk hG hf (Or.inr rfl) dX9_isOpen_11

def f_X9_strength (n : Nat) (x0 : Int32) (M : Mem) : Option (Int32 × Mem) := if x0 = (5 : Int32) then (some ((1 : Int32), M)) else (if x0 = (4 : Int32) then (some ((2 : Int32), M)) else (if x0 = (3 : Int32) then (some ((3 : Int32), M)) else (if x0 = (6 : Int32) then (some ((4 : Int32), M)) else (if x0 = (7 : Int32) then (some ((4 : Int32), M)) else (if x0 = (8 : Int32) then (some ((5 : Int32), M)) else (if x0 = (9 : Int32) then (some ((5 : Int32), M)) else (some ((6 : Int32), M))))))))
set_option maxHeartbeats 4000000 in
set_option maxRecDepth 100000 in
theorem c_X9_strength (l : Launch) (w : Wd) {X : (Nat → Prop) → State → Heap → Prop} (hXk : XOK X) (n : Nat) (x0 : Int32) (M : Mem) (res : Int32 × Mem) (hf : f_X9_strength n  x0 M = some res) : CG l w layM 24 X yX9_strength cX9_strength 1 (some .int) 0 [.int x0] M (GQi w layM 24 res) := by
  refine cg_start (by decide +kernel) (Nat.le_of_ble_eq_true rfl) ?_
  intro p e s m args below meth c F hr hlk hX hG ls hl
  have F : FX w p m c cX9_strength 1 s args RX9 := F
  have hx := F.1.1
  have hb := F.1.2.1
  have hl : lv_has ls 1 [(0, .int x0)] := hl
  unfold f_X9_strength at hf
  refine lv_iload_n hx hb dX9_strength_0 rfl (lv_at hl 0 rfl) ?_
  refine lv_iconst (v := 5) hx hb dX9_strength_1 (by decide) ?_
  refine lv_icmp_ne (tgt := 9) hx hb dX9_strength_2 (by decide) (fun c1 => ?_) (fun c1 => ?_)
  · replace hf := if_f c1 hf
    refine lv_iload_n hx hb dX9_strength_9 rfl (lv_at hl 0 rfl) ?_
    refine lv_iconst (v := 4) hx hb dX9_strength_10 (by decide) ?_
    refine lv_icmp_ne (tgt := 18) hx hb dX9_strength_11 (by decide) (fun c2 => ?_) (fun c2 => ?_)
    · replace hf := if_f c2 hf
      refine lv_iload_n hx hb dX9_strength_18 rfl (lv_at hl 0 rfl) ?_
      refine lv_iconst (v := 3) hx hb dX9_strength_19 (by decide) ?_
      refine lv_icmp_ne (tgt := 27) hx hb dX9_strength_20 (by decide) (fun c3 => ?_) (fun c3 => ?_)
      · replace hf := if_f c3 hf
        refine lv_iload_n hx hb dX9_strength_27 rfl (lv_at hl 0 rfl) ?_
        refine lv_bipush (v := 6) hx hb dX9_strength_28 (by decide) ?_
        refine lv_icmp_eq (tgt := 39) hx hb dX9_strength_30 (by decide) (fun c4 => ?_) (fun c4 => ?_)
        · replace hf := if_t c4 hf
          refine lv_iconst (v := 4) hx hb dX9_strength_39 (by decide) ?_
          refine lv_goto (tgt := 61) hx hb dX9_strength_40 (by decide) ?_
          exact cg_iret F hr hlk hG hf dX9_strength_61
        · replace hf := if_f c4 hf
          refine lv_iload_n hx hb dX9_strength_33 rfl (lv_at hl 0 rfl) ?_
          refine lv_bipush (v := 7) hx hb dX9_strength_34 (by decide) ?_
          refine lv_icmp_ne (tgt := 43) hx hb dX9_strength_36 (by decide) (fun c5 => ?_) (fun c5 => ?_)
          · replace hf := if_f c5 hf
            refine lv_iload_n hx hb dX9_strength_43 rfl (lv_at hl 0 rfl) ?_
            refine lv_bipush (v := 8) hx hb dX9_strength_44 (by decide) ?_
            refine lv_icmp_eq (tgt := 55) hx hb dX9_strength_46 (by decide) (fun c6 => ?_) (fun c6 => ?_)
            · replace hf := if_t c6 hf
              refine lv_iconst (v := 5) hx hb dX9_strength_55 (by decide) ?_
              refine lv_goto (tgt := 61) hx hb dX9_strength_56 (by decide) ?_
              exact cg_iret F hr hlk hG hf dX9_strength_61
            · replace hf := if_f c6 hf
              refine lv_iload_n hx hb dX9_strength_49 rfl (lv_at hl 0 rfl) ?_
              refine lv_bipush (v := 9) hx hb dX9_strength_50 (by decide) ?_
              refine lv_icmp_ne (tgt := 59) hx hb dX9_strength_52 (by decide) (fun c7 => ?_) (fun c7 => ?_)
              · replace hf := if_f c7 hf
                refine lv_bipush (v := 6) hx hb dX9_strength_59 (by decide) ?_
                exact cg_iret F hr hlk hG hf dX9_strength_61
              · replace hf := if_t c7 hf
                refine lv_iconst (v := 5) hx hb dX9_strength_55 (by decide) ?_
                refine lv_goto (tgt := 61) hx hb dX9_strength_56 (by decide) ?_
                exact cg_iret F hr hlk hG hf dX9_strength_61
          · replace hf := if_t c5 hf
            refine lv_iconst (v := 4) hx hb dX9_strength_39 (by decide) ?_
            refine lv_goto (tgt := 61) hx hb dX9_strength_40 (by decide) ?_
            exact cg_iret F hr hlk hG hf dX9_strength_61
      · replace hf := if_t c3 hf
        refine lv_iconst (v := 3) hx hb dX9_strength_23 (by decide) ?_
        refine lv_goto (tgt := 61) hx hb dX9_strength_24 (by decide) ?_
        exact cg_iret F hr hlk hG hf dX9_strength_61
    · replace hf := if_t c2 hf
      refine lv_iconst (v := 2) hx hb dX9_strength_14 (by decide) ?_
      refine lv_goto (tgt := 61) hx hb dX9_strength_15 (by decide) ?_
      exact cg_iret F hr hlk hG hf dX9_strength_61
  · replace hf := if_t c1 hf
    refine lv_iconst (v := 1) hx hb dX9_strength_5 (by decide) ?_
    refine lv_goto (tgt := 61) hx hb dX9_strength_6 (by decide) ?_
    exact cg_iret F hr hlk hG hf dX9_strength_61

def b_X9_drops_0 (n : Nat) (x1 : Int32) (q : (Mem)) : Option ((Mem) ⊕ (Mem)) := match q with
  | (M) => if (gi M 0 35) ≤ 0 then (mr (some M)) else (ck (inb ((gi M 0 35) - (1 : Int32)) 950) (bd (f_X9_isOpen n  (gi M 10 ((gi M 0 35) - (1 : Int32)).toNatClampNeg) M) (fun q3 => if q3.1 = 0 then (ck (inb ((gi q3.2 0 35) - (1 : Int32)) 950) (bd (f_X9_strength n  (gi q3.2 10 ((gi q3.2 0 35) - (1 : Int32)).toNatClampNeg) q3.2) (fun q6 => if q6.1 < x1 then (mr (some q6.2)) else (ck (inb (gi (si q6.2 0 35 ((gi q6.2 0 35) - (1 : Int32))) 0 35) 950) (bd (f_X9_puts n  (gi (si q6.2 0 35 ((gi q6.2 0 35) - (1 : Int32))) 10 (gi (si q6.2 0 35 ((gi q6.2 0 35) - (1 : Int32))) 0 35).toNatClampNeg) (si q6.2 0 35 ((gi q6.2 0 35) - (1 : Int32)))) (fun q9 => some (.inl (q9)))))))) else (mr (some q3.2)))))
def f_X9_drops (n : Nat) (x1 : Int32) (M : Mem) : Option (Mem) := gl (b_X9_drops_0 n  x1) n (M)
set_option maxHeartbeats 4000000 in
set_option maxRecDepth 100000 in
theorem c_X9_drops (l : Launch) (w : Wd) {X : (Nat → Prop) → State → Heap → Prop} (hXk : XOK X) (n : Nat) (x1 : Int32) (M : Mem) (res : Mem) (hf : f_X9_drops n  x1 M = some res) : CG l w layM 24 X yX9_drops cX9_drops 2 none 1 [.ref (w.2.2.1 0), .int x1] M (GQv w layM 24 res) := by
  refine cg_start (by decide +kernel) (Nat.le_of_ble_eq_true rfl) ?_
  intro p e s m args below meth c F hr hlk hX hG ls hl
  have F : FX w p m c cX9_drops 2 s args RX9 := F
  have hx := F.1.1
  have hb := F.1.2.1
  have hl : lv_has ls 2 [(0, .ref (w.2.2.1 0)), (1, .int x1)] := hl
  have hJ0 : ∀ (x1 : Int32) (M : Mem) (H : Heap) (locs : List Loc) (ls : Array Slot), gl (b_X9_drops_0 n  x1) n (M) = some res → GI w layM 24 s.heap M H locs → lv_has ls 2 [(0, .ref (w.2.2.1 0)), (1, .int x1)] → W p l e (Rm 1) s m args below meth c H locs 0 0 (MQ below (GQv w layM 24 res s.heap.size) args s 0 0 (gA w.2.2.1 24 s.heap.size)) (F0 m 0 ls []) := by
    intro x1 M H locs ls hf hG hl
    refine gl_run (P := fun (q : (Mem)) => ∀ (H : Heap) (locs : List Loc) (ls : Array Slot), GI w layM 24 s.heap q H locs → lv_has ls 2 [(0, .ref (w.2.2.1 0)), (1, .int x1)] → W p l e (Rm 1) s m args below meth c H locs 0 0 (MQ below (GQv w layM 24 res s.heap.size) args s 0 0 (gA w.2.2.1 24 s.heap.size)) (F0 m 0 ls [])) ?_ n (M) hf H locs ls hG hl
    clear hf hG hl ls locs H M 
    rintro M rr0 hf hI0 hE0 H locs ls hG hl
    try dsimp only at hG hl ⊢
    dsimp only [b_X9_drops_0] at hf
    refine lv_aload_n hx hb dX9_drops_0 rfl (lv_at hl 0 rfl) ?_
    refine g_getI F hG mo_0 (by decide) (by decide) lk_X9_177 rfl dX9_drops_1 ?_
    refine lv_if_le (tgt := 68) hx hb dX9_drops_4 (by decide) (fun c1 => ?_) (fun c1 => ?_)
    · replace hf := if_t c1 hf
      replace hf := mr_some hf
      obtain ⟨z0, hf, hz⟩ := hf
      rw [hE0 _ hz] at hf
      exact cg_vret F hr hlk hG hf dX9_drops_68
    · replace hf := if_f c1 hf
      refine lv_aload_n hx hb dX9_drops_7 rfl (lv_at hl 0 rfl) ?_
      refine g_getR F hG 10 mo_0 (by decide) (by decide) lk_X9_56 rfl dX9_drops_8 ?_
      refine lv_aload_n hx hb dX9_drops_11 rfl (lv_at hl 0 rfl) ?_
      refine g_getI F hG mo_0 (by decide) (by decide) lk_X9_177 rfl dX9_drops_12 ?_
      refine lv_iconst (v := 1) hx hb dX9_drops_15 (by decide) ?_
      refine lv_isub hx hb dX9_drops_16 ?_
      replace hf := ck_some hf
      obtain ⟨k2, hf⟩ := hf
      refine g_iald F hG oM_10 k2 dX9_drops_17 ?_
      replace hf := bd_some hf
      obtain ⟨q3, eq3, hf⟩ := hf
      refine gx_calli hG (gx_runS hXk F hX hG (c_X9_isOpen l w hXk n  (gi M 10 ((gi M 0 35) - (1 : Int32)).toNatClampNeg) _ _ eq3) cs_X9_180 ⟨Nat.le_of_ble_eq_true rfl, Nat.le_of_ble_eq_true rfl⟩ rfl hl.1 rfl (Nat.le_of_ble_eq_true rfl) dX9_drops_18 ⟨Nat.le_refl _, Nat.le_refl _⟩) (fun H locs hG => ?_)
      refine lv_if_ne (tgt := 68) hx hb dX9_drops_21 (by decide) (fun c4 => ?_) (fun c4 => ?_)
      · replace hf := if_f c4 hf
        replace hf := mr_some hf
        obtain ⟨z0, hf, hz⟩ := hf
        rw [hE0 _ hz] at hf
        exact cg_vret F hr hlk hG hf dX9_drops_68
      · replace hf := if_t c4 hf
        refine lv_aload_n hx hb dX9_drops_24 rfl (lv_at hl 0 rfl) ?_
        refine g_getR F hG 10 mo_0 (by decide) (by decide) lk_X9_56 rfl dX9_drops_25 ?_
        refine lv_aload_n hx hb dX9_drops_28 rfl (lv_at hl 0 rfl) ?_
        refine g_getI F hG mo_0 (by decide) (by decide) lk_X9_177 rfl dX9_drops_29 ?_
        refine lv_iconst (v := 1) hx hb dX9_drops_32 (by decide) ?_
        refine lv_isub hx hb dX9_drops_33 ?_
        replace hf := ck_some hf
        obtain ⟨k5, hf⟩ := hf
        refine g_iald F hG oM_10 k5 dX9_drops_34 ?_
        replace hf := bd_some hf
        obtain ⟨q6, eq6, hf⟩ := hf
        refine gx_calli hG (gx_runS hXk F hX hG (c_X9_strength l w hXk n  (gi q3.2 10 ((gi q3.2 0 35) - (1 : Int32)).toNatClampNeg) _ _ eq6) cs_X9_183 ⟨Nat.le_of_ble_eq_true rfl, Nat.le_of_ble_eq_true rfl⟩ rfl hl.1 rfl (Nat.le_of_ble_eq_true rfl) dX9_drops_35 ⟨Nat.le_refl _, Nat.le_refl _⟩) (fun H locs hG => ?_)
        refine lv_iload_n hx hb dX9_drops_38 rfl (lv_at hl 1 rfl) ?_
        refine lv_icmp_lt (tgt := 68) hx hb dX9_drops_39 (by decide) (fun c7 => ?_) (fun c7 => ?_)
        · replace hf := if_t c7 hf
          replace hf := mr_some hf
          obtain ⟨z0, hf, hz⟩ := hf
          rw [hE0 _ hz] at hf
          exact cg_vret F hr hlk hG hf dX9_drops_68
        · replace hf := if_f c7 hf
          refine lv_aload_n hx hb dX9_drops_42 rfl (lv_at hl 0 rfl) ?_
          refine lv_dup hx hb dX9_drops_43 rfl ?_
          refine g_getI F hG mo_0 (by decide) (by decide) lk_X9_177 rfl dX9_drops_44 ?_
          refine lv_iconst (v := 1) hx hb dX9_drops_47 (by decide) ?_
          refine lv_isub hx hb dX9_drops_48 ?_
          refine g_putI F hG mo_0 (by decide) (by decide) lkv_X9_177 rfl rfl rfl dX9_drops_49 (fun H locs hG => ?_)
          refine lv_aload_n hx hb dX9_drops_52 rfl (lv_at hl 0 rfl) ?_
          refine lv_aload_n hx hb dX9_drops_53 rfl (lv_at hl 0 rfl) ?_
          refine g_getR F hG 10 mo_0 (by decide) (by decide) lk_X9_56 rfl dX9_drops_54 ?_
          refine lv_aload_n hx hb dX9_drops_57 rfl (lv_at hl 0 rfl) ?_
          refine g_getI F hG mo_0 (by decide) (by decide) lk_X9_177 rfl dX9_drops_58 ?_
          replace hf := ck_some hf
          obtain ⟨k8, hf⟩ := hf
          refine g_iald F hG oM_10 k8 dX9_drops_61 ?_
          replace hf := bd_some hf
          obtain ⟨q9, eq9, hf⟩ := hf
          refine gx_callv hG (gx_runV hXk F hX hG (c_X9_puts l w hXk n  (gi (si q6.2 0 35 ((gi q6.2 0 35) - (1 : Int32))) 10 (gi (si q6.2 0 35 ((gi q6.2 0 35) - (1 : Int32))) 0 35).toNatClampNeg) _ _ eq9) cv_X9_186 ⟨Nat.le_of_ble_eq_true rfl, Nat.le_of_ble_eq_true rfl⟩ (g_recv F hG mo_0 (by decide) rfl) rfl hl.1 rfl (Nat.le_of_ble_eq_true rfl) dX9_drops_62 ⟨Nat.le_refl _, Nat.le_refl _⟩) (fun H locs hG => ?_)
          refine lv_goto (tgt := 0) hx hb dX9_drops_65 (by decide) ?_
          exact hI0 _ (Option.some.inj hf).symm _ _ ls hG (lv_sub hl [0, 1] rfl)
  unfold f_X9_drops at hf
  exact hJ0 _ _ _ _ ls hf hG (lv_sub hl [0, 1] rfl)

def f_X9_waitsFor (n : Nat) (x1 : Int32) (M : Mem) : Option (Mem) := ck (inb (gi M 0 35) 950) (some (si (si M 10 (gi M 0 35).toNatClampNeg x1) 0 35 ((gi (si M 10 (gi M 0 35).toNatClampNeg x1) 0 35) + (1 : Int32))))
set_option maxHeartbeats 4000000 in
set_option maxRecDepth 100000 in
theorem c_X9_waitsFor (l : Launch) (w : Wd) {X : (Nat → Prop) → State → Heap → Prop} (hXk : XOK X) (n : Nat) (x1 : Int32) (M : Mem) (res : Mem) (hf : f_X9_waitsFor n  x1 M = some res) : CG l w layM 24 X yX9_waitsFor cX9_waitsFor 2 none 0 [.ref (w.2.2.1 0), .int x1] M (GQv w layM 24 res) := by
  refine cg_start (by decide +kernel) (Nat.le_of_ble_eq_true rfl) ?_
  intro p e s m args below meth c F hr hlk hX hG ls hl
  have F : FX w p m c cX9_waitsFor 2 s args RX9 := F
  have hx := F.1.1
  have hb := F.1.2.1
  have hl : lv_has ls 2 [(0, .ref (w.2.2.1 0)), (1, .int x1)] := hl
  unfold f_X9_waitsFor at hf
  refine lv_aload_n hx hb dX9_waitsFor_0 rfl (lv_at hl 0 rfl) ?_
  refine g_getR F hG 10 mo_0 (by decide) (by decide) lk_X9_56 rfl dX9_waitsFor_1 ?_
  refine lv_aload_n hx hb dX9_waitsFor_4 rfl (lv_at hl 0 rfl) ?_
  refine g_getI F hG mo_0 (by decide) (by decide) lk_X9_177 rfl dX9_waitsFor_5 ?_
  refine lv_iload_n hx hb dX9_waitsFor_8 rfl (lv_at hl 1 rfl) ?_
  replace hf := ck_some hf
  obtain ⟨k1, hf⟩ := hf
  refine g_iast F hG oM_10 k1 dX9_waitsFor_9 (fun H locs hG => ?_)
  refine lv_aload_n hx hb dX9_waitsFor_10 rfl (lv_at hl 0 rfl) ?_
  refine lv_dup hx hb dX9_waitsFor_11 rfl ?_
  refine g_getI F hG mo_0 (by decide) (by decide) lk_X9_177 rfl dX9_waitsFor_12 ?_
  refine lv_iconst (v := 1) hx hb dX9_waitsFor_15 (by decide) ?_
  refine lv_iadd hx hb dX9_waitsFor_16 ?_
  refine g_putI F hG mo_0 (by decide) (by decide) lkv_X9_177 rfl rfl rfl dX9_waitsFor_17 (fun H locs hG => ?_)
  exact cg_vret F hr hlk hG hf dX9_waitsFor_20

def j_X9_part_97 (n : Nat) (M : Mem) : Option (Mem) := bd (f_X9_isGood n   M) (fun q1 => if q1.1 = 0 then (some q1.2) else (bd (f_X9_goes n   q1.2) (fun q3 => some q3)))
def j_X9_part_29 (n : Nat) (M : Mem) : Option (Mem) := bd (f_X9_puts n  (1 : Int32) M) (fun q4 => bd (f_X9_puts n  (gi q4 0 20) q4) (fun q5 => j_X9_part_97 n  q5))
def j_X9_part_79 (n : Nat) (x1 : Int32) (M : Mem) : Option (Mem) := bd (f_X9_puts n  (2 : Int32) M) (fun q6 => bd (f_X9_puts n  x1 q6) (fun q7 => j_X9_part_97 n  q7))
def j_X9_part_74 (n : Nat) (x1 : Int32) (M : Mem) : Option (Mem) := bd (f_X9_wrong n  (3 : Int32) M) (fun q8 => j_X9_part_79 n  x1 q8)
def f_X9_part (n : Nat) (M : Mem) : Option (Mem) := bd (f_X9_isGood n   M) (fun q9 => if q9.1 = 0 then (some q9.2) else (if (gi q9.2 0 17) = (2 : Int32) then (if (gi q9.2 0 19) ≤ (4 : Int32) then (j_X9_part_29 n  q9.2) else (bd (f_X9_wrong n  (2 : Int32) q9.2) (fun q13 => j_X9_part_29 n  q13))) else (if (gi q9.2 0 17) = (1 : Int32) then (bd (f_X9_knownWord n   q9.2) (fun q15 => if q15.1 < (gi q15.2 0 33) then (j_X9_part_74 n  q15.1 q15.2) else (if q15.1 ≤ (gi q15.2 0 34) then (j_X9_part_79 n  q15.1 q15.2) else (j_X9_part_74 n  q15.1 q15.2)))) else (bd (f_X9_wrong n  (1 : Int32) q9.2) (fun q18 => j_X9_part_97 n  q18)))))
set_option maxHeartbeats 4000000 in
set_option maxRecDepth 100000 in
theorem c_X9_part (l : Launch) (w : Wd) {X : (Nat → Prop) → State → Heap → Prop} (hXk : XOK X) (n : Nat) (M : Mem) (res : Mem) (hf : f_X9_part n   M = some res) : CG l w layM 24 X yX9_part cX9_part 2 none 3 [.ref (w.2.2.1 0)] M (GQv w layM 24 res) := by
  refine cg_start (by decide +kernel) (Nat.le_of_ble_eq_true rfl) ?_
  intro p e s m args below meth c F hr hlk hX hG ls hl
  have F : FX w p m c cX9_part 2 s args RX9 := F
  have hx := F.1.1
  have hb := F.1.2.1
  have hl : lv_has ls 2 [(0, .ref (w.2.2.1 0))] := hl
  have hJ97 : ∀ (M : Mem) (H : Heap) (locs : List Loc) (ls : Array Slot), j_X9_part_97 n   M = some res → GI w layM 24 s.heap M H locs → lv_has ls 2 [(0, .ref (w.2.2.1 0))] → W p l e (Rm 3) s m args below meth c H locs 0 0 (MQ below (GQv w layM 24 res s.heap.size) args s 0 0 (gA w.2.2.1 24 s.heap.size)) (F0 m 97 ls []) := by
    intro  M H locs ls hf hG hl
    unfold j_X9_part_97 at hf
    refine lv_aload_n hx hb dX9_part_97 rfl (lv_at hl 0 rfl) ?_
    replace hf := bd_some hf
    obtain ⟨q1, eq1, hf⟩ := hf
    refine gx_calli hG (gx_runV hXk F hX hG (c_X9_isGood l w hXk n   _ _ eq1) cv_X9_161 ⟨Nat.le_of_ble_eq_true rfl, Nat.le_of_ble_eq_true rfl⟩ (g_recv F hG mo_0 (by decide) rfl) rfl hl.1 rfl (Nat.le_of_ble_eq_true rfl) dX9_part_98 ⟨Nat.le_refl _, Nat.le_refl _⟩) (fun H locs hG => ?_)
    refine lv_if_eq (tgt := 108) hx hb dX9_part_101 (by decide) (fun c2 => ?_) (fun c2 => ?_)
    · replace hf := if_t c2 hf
      exact cg_vret F hr hlk hG hf dX9_part_108
    · replace hf := if_f c2 hf
      refine lv_aload_n hx hb dX9_part_104 rfl (lv_at hl 0 rfl) ?_
      replace hf := bd_some hf
      obtain ⟨q3, eq3, hf⟩ := hf
      refine gx_callv hG (gx_runV hXk F hX hG (c_X9_goes l w hXk n   _ _ eq3) cv_X9_165 ⟨Nat.le_of_ble_eq_true rfl, Nat.le_of_ble_eq_true rfl⟩ (g_recv F hG mo_0 (by decide) rfl) rfl hl.1 rfl (Nat.le_of_ble_eq_true rfl) dX9_part_105 ⟨Nat.le_refl _, Nat.le_refl _⟩) (fun H locs hG => ?_)
      exact cg_vret F hr hlk hG hf dX9_part_108
  have hJ29 : ∀ (M : Mem) (H : Heap) (locs : List Loc) (ls : Array Slot), j_X9_part_29 n   M = some res → GI w layM 24 s.heap M H locs → lv_has ls 2 [(0, .ref (w.2.2.1 0))] → W p l e (Rm 3) s m args below meth c H locs 0 0 (MQ below (GQv w layM 24 res s.heap.size) args s 0 0 (gA w.2.2.1 24 s.heap.size)) (F0 m 29 ls []) := by
    intro  M H locs ls hf hG hl
    unfold j_X9_part_29 at hf
    refine lv_aload_n hx hb dX9_part_29 rfl (lv_at hl 0 rfl) ?_
    refine lv_iconst (v := 1) hx hb dX9_part_30 (by decide) ?_
    replace hf := bd_some hf
    obtain ⟨q4, eq4, hf⟩ := hf
    refine gx_callv hG (gx_runV hXk F hX hG (c_X9_puts l w hXk n  (1 : Int32) _ _ eq4) cv_X9_186 ⟨Nat.le_of_ble_eq_true rfl, Nat.le_of_ble_eq_true rfl⟩ (g_recv F hG mo_0 (by decide) rfl) rfl hl.1 rfl (Nat.le_of_ble_eq_true rfl) dX9_part_31 ⟨Nat.le_refl _, Nat.le_refl _⟩) (fun H locs hG => ?_)
    refine lv_aload_n hx hb dX9_part_34 rfl (lv_at hl 0 rfl) ?_
    refine lv_aload_n hx hb dX9_part_35 rfl (lv_at hl 0 rfl) ?_
    refine g_getI F hG mo_0 (by decide) (by decide) lk_X9_129 rfl dX9_part_36 ?_
    replace hf := bd_some hf
    obtain ⟨q5, eq5, hf⟩ := hf
    refine gx_callv hG (gx_runV hXk F hX hG (c_X9_puts l w hXk n  (gi q4 0 20) _ _ eq5) cv_X9_186 ⟨Nat.le_of_ble_eq_true rfl, Nat.le_of_ble_eq_true rfl⟩ (g_recv F hG mo_0 (by decide) rfl) rfl hl.1 rfl (Nat.le_of_ble_eq_true rfl) dX9_part_39 ⟨Nat.le_refl _, Nat.le_refl _⟩) (fun H locs hG => ?_)
    refine lv_goto (tgt := 97) hx hb dX9_part_42 (by decide) ?_
    exact hJ97  _ _ _ ls hf hG (lv_sub hl [0] rfl)
  have hJ79 : ∀ (x1 : Int32) (M : Mem) (H : Heap) (locs : List Loc) (ls : Array Slot), j_X9_part_79 n  x1 M = some res → GI w layM 24 s.heap M H locs → lv_has ls 2 [(0, .ref (w.2.2.1 0)), (1, .int x1)] → W p l e (Rm 3) s m args below meth c H locs 0 0 (MQ below (GQv w layM 24 res s.heap.size) args s 0 0 (gA w.2.2.1 24 s.heap.size)) (F0 m 79 ls []) := by
    intro x1 M H locs ls hf hG hl
    unfold j_X9_part_79 at hf
    refine lv_aload_n hx hb dX9_part_79 rfl (lv_at hl 0 rfl) ?_
    refine lv_iconst (v := 2) hx hb dX9_part_80 (by decide) ?_
    replace hf := bd_some hf
    obtain ⟨q6, eq6, hf⟩ := hf
    refine gx_callv hG (gx_runV hXk F hX hG (c_X9_puts l w hXk n  (2 : Int32) _ _ eq6) cv_X9_186 ⟨Nat.le_of_ble_eq_true rfl, Nat.le_of_ble_eq_true rfl⟩ (g_recv F hG mo_0 (by decide) rfl) rfl hl.1 rfl (Nat.le_of_ble_eq_true rfl) dX9_part_81 ⟨Nat.le_refl _, Nat.le_refl _⟩) (fun H locs hG => ?_)
    refine lv_aload_n hx hb dX9_part_84 rfl (lv_at hl 0 rfl) ?_
    refine lv_iload_n hx hb dX9_part_85 rfl (lv_at hl 1 rfl) ?_
    replace hf := bd_some hf
    obtain ⟨q7, eq7, hf⟩ := hf
    refine gx_callv hG (gx_runV hXk F hX hG (c_X9_puts l w hXk n  x1 _ _ eq7) cv_X9_186 ⟨Nat.le_of_ble_eq_true rfl, Nat.le_of_ble_eq_true rfl⟩ (g_recv F hG mo_0 (by decide) rfl) rfl hl.1 rfl (Nat.le_of_ble_eq_true rfl) dX9_part_86 ⟨Nat.le_refl _, Nat.le_refl _⟩) (fun H locs hG => ?_)
    refine lv_goto (tgt := 97) hx hb dX9_part_89 (by decide) ?_
    exact hJ97  _ _ _ ls hf hG (lv_sub hl [0] rfl)
  have hJ74 : ∀ (x1 : Int32) (M : Mem) (H : Heap) (locs : List Loc) (ls : Array Slot), j_X9_part_74 n  x1 M = some res → GI w layM 24 s.heap M H locs → lv_has ls 2 [(0, .ref (w.2.2.1 0)), (1, .int x1)] → W p l e (Rm 3) s m args below meth c H locs 0 0 (MQ below (GQv w layM 24 res s.heap.size) args s 0 0 (gA w.2.2.1 24 s.heap.size)) (F0 m 74 ls []) := by
    intro x1 M H locs ls hf hG hl
    unfold j_X9_part_74 at hf
    refine lv_aload_n hx hb dX9_part_74 rfl (lv_at hl 0 rfl) ?_
    refine lv_iconst (v := 3) hx hb dX9_part_75 (by decide) ?_
    replace hf := bd_some hf
    obtain ⟨q8, eq8, hf⟩ := hf
    refine gx_callv hG (gx_runV hXk F hX hG (c_X9_wrong l w hXk n  (3 : Int32) _ _ eq8) cv_X9_168 ⟨Nat.le_of_ble_eq_true rfl, Nat.le_of_ble_eq_true rfl⟩ (g_recv F hG mo_0 (by decide) rfl) rfl hl.1 rfl (Nat.le_of_ble_eq_true rfl) dX9_part_76 ⟨Nat.le_refl _, Nat.le_refl _⟩) (fun H locs hG => ?_)
    exact hJ79 _ _ _ _ ls hf hG (lv_sub hl [0, 1] rfl)
  unfold f_X9_part at hf
  refine lv_aload_n hx hb dX9_part_0 rfl (lv_at hl 0 rfl) ?_
  replace hf := bd_some hf
  obtain ⟨q9, eq9, hf⟩ := hf
  refine gx_calli hG (gx_runV hXk F hX hG (c_X9_isGood l w hXk n   _ _ eq9) cv_X9_161 ⟨Nat.le_of_ble_eq_true rfl, Nat.le_of_ble_eq_true rfl⟩ (g_recv F hG mo_0 (by decide) rfl) rfl hl.1 rfl (Nat.le_of_ble_eq_true rfl) dX9_part_1 ⟨Nat.le_refl _, Nat.le_refl _⟩) (fun H locs hG => ?_)
  refine lv_if_ne (tgt := 8) hx hb dX9_part_4 (by decide) (fun c10 => ?_) (fun c10 => ?_)
  · replace hf := if_f c10 hf
    refine lv_aload_n hx hb dX9_part_8 rfl (lv_at hl 0 rfl) ?_
    refine g_getI F hG mo_0 (by decide) (by decide) lk_X9_135 rfl dX9_part_9 ?_
    refine lv_iconst (v := 2) hx hb dX9_part_12 (by decide) ?_
    refine lv_icmp_ne (tgt := 45) hx hb dX9_part_13 (by decide) (fun c11 => ?_) (fun c11 => ?_)
    · replace hf := if_f c11 hf
      refine lv_aload_n hx hb dX9_part_45 rfl (lv_at hl 0 rfl) ?_
      refine g_getI F hG mo_0 (by decide) (by decide) lk_X9_135 rfl dX9_part_46 ?_
      refine lv_iconst (v := 1) hx hb dX9_part_49 (by decide) ?_
      refine lv_icmp_ne (tgt := 92) hx hb dX9_part_50 (by decide) (fun c14 => ?_) (fun c14 => ?_)
      · replace hf := if_f c14 hf
        refine lv_aload_n hx hb dX9_part_92 rfl (lv_at hl 0 rfl) ?_
        refine lv_iconst (v := 1) hx hb dX9_part_93 (by decide) ?_
        replace hf := bd_some hf
        obtain ⟨q18, eq18, hf⟩ := hf
        refine gx_callv hG (gx_runV hXk F hX hG (c_X9_wrong l w hXk n  (1 : Int32) _ _ eq18) cv_X9_168 ⟨Nat.le_of_ble_eq_true rfl, Nat.le_of_ble_eq_true rfl⟩ (g_recv F hG mo_0 (by decide) rfl) rfl hl.1 rfl (Nat.le_of_ble_eq_true rfl) dX9_part_94 ⟨Nat.le_refl _, Nat.le_refl _⟩) (fun H locs hG => ?_)
        exact hJ97  _ _ _ ls hf hG (lv_sub hl [0] rfl)
      · replace hf := if_t c14 hf
        refine lv_aload_n hx hb dX9_part_53 rfl (lv_at hl 0 rfl) ?_
        replace hf := bd_some hf
        obtain ⟨q15, eq15, hf⟩ := hf
        refine gx_calli hG (gx_runV hXk F hX hG (c_X9_knownWord l w hXk n   _ _ eq15) cv_X9_189 ⟨Nat.le_of_ble_eq_true rfl, Nat.le_of_ble_eq_true rfl⟩ (g_recv F hG mo_0 (by decide) rfl) rfl hl.1 rfl (Nat.le_of_ble_eq_true rfl) dX9_part_54 ⟨Nat.le_refl _, Nat.le_refl _⟩) (fun H locs hG => ?_)
        refine lv_istore_n (lv' := [(1, .int q15.1), (0, .ref (w.2.2.1 0))]) hx hb dX9_part_57 rfl hl (by decide) rfl (fun ls hl => ?_)
        refine lv_iload_n hx hb dX9_part_58 rfl (lv_at hl 0 rfl) ?_
        refine lv_aload_n hx hb dX9_part_59 rfl (lv_at hl 1 rfl) ?_
        refine g_getI F hG mo_0 (by decide) (by decide) lk_X9_193 rfl dX9_part_60 ?_
        refine lv_icmp_lt (tgt := 74) hx hb dX9_part_63 (by decide) (fun c16 => ?_) (fun c16 => ?_)
        · replace hf := if_t c16 hf
          exact hJ74 _ _ _ _ ls hf hG (lv_sub hl [1, 0] rfl)
        · replace hf := if_f c16 hf
          refine lv_iload_n hx hb dX9_part_66 rfl (lv_at hl 0 rfl) ?_
          refine lv_aload_n hx hb dX9_part_67 rfl (lv_at hl 1 rfl) ?_
          refine g_getI F hG mo_0 (by decide) (by decide) lk_X9_196 rfl dX9_part_68 ?_
          refine lv_icmp_le (tgt := 79) hx hb dX9_part_71 (by decide) (fun c17 => ?_) (fun c17 => ?_)
          · replace hf := if_t c17 hf
            exact hJ79 _ _ _ _ ls hf hG (lv_sub hl [1, 0] rfl)
          · replace hf := if_f c17 hf
            exact hJ74 _ _ _ _ ls hf hG (lv_sub hl [1, 0] rfl)
    · replace hf := if_t c11 hf
      refine lv_aload_n hx hb dX9_part_16 rfl (lv_at hl 0 rfl) ?_
      refine g_getI F hG mo_0 (by decide) (by decide) lk_X9_145 rfl dX9_part_17 ?_
      refine lv_iconst (v := 4) hx hb dX9_part_20 (by decide) ?_
      refine lv_icmp_le (tgt := 29) hx hb dX9_part_21 (by decide) (fun c12 => ?_) (fun c12 => ?_)
      · replace hf := if_t c12 hf
        exact hJ29  _ _ _ ls hf hG (lv_sub hl [0] rfl)
      · replace hf := if_f c12 hf
        refine lv_aload_n hx hb dX9_part_24 rfl (lv_at hl 0 rfl) ?_
        refine lv_iconst (v := 2) hx hb dX9_part_25 (by decide) ?_
        replace hf := bd_some hf
        obtain ⟨q13, eq13, hf⟩ := hf
        refine gx_callv hG (gx_runV hXk F hX hG (c_X9_wrong l w hXk n  (2 : Int32) _ _ eq13) cv_X9_168 ⟨Nat.le_of_ble_eq_true rfl, Nat.le_of_ble_eq_true rfl⟩ (g_recv F hG mo_0 (by decide) rfl) rfl hl.1 rfl (Nat.le_of_ble_eq_true rfl) dX9_part_26 ⟨Nat.le_refl _, Nat.le_refl _⟩) (fun H locs hG => ?_)
        exact hJ29  _ _ _ ls hf hG (lv_sub hl [0] rfl)
  · replace hf := if_t c10 hf
    exact cg_vret F hr hlk hG hf dX9_part_7
