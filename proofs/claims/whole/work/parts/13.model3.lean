def j_X9_hanging_66 (n : Nat) (x2 : Int32) (x3 : Int32) (x4 : Int32) (M : Mem) : Option ((Int32 × Int32 × Mem) ⊕ (Int32 × Mem)) := some (.inl (x3, x4, M))
def j_X9_hanging_58 (n : Nat) (t0 : Int32) (t1 : Int32) (x2 : Int32) (x4 : Int32) (x5 : Int32) (M : Mem) : Option ((Int32 × Int32 × Mem) ⊕ ((Int32 × Int32 × Mem) ⊕ (Int32 × Mem))) := some (.inl ((t1 ||| t0), (x5 + (1 : Int32)), M))
def b_X9_hanging_19 (n : Nat) (x2 : Int32) (x4 : Int32) (q : (Int32 × Int32 × Mem)) : Option ((Int32 × Int32 × Mem) ⊕ ((Int32 × Int32 × Mem) ⊕ (Int32 × Mem))) := match q with
  | (x3, x5, M) => if (gi M 0 1) ≤ x5 then (mr (j_X9_hanging_66 n  x2 x3 x4 M)) else (if ((x4 >>> (x5 &&& 31)) &&& (1 : Int32)) = (1 : Int32) then (ck (inb ((46 : Int32) + x5) 108) (j_X9_hanging_58 n  ((gi M 12 ((46 : Int32) + x5).toNatClampNeg) &&& (x2 ^^^ (-1 : Int32))) x3 x2 x4 x5 M)) else (j_X9_hanging_58 n  (0 : Int32) x3 x2 x4 x5 M))
def b_X9_hanging_7 (n : Nat) (x2 : Int32) (q : (Int32 × Int32 × Mem)) : Option ((Int32 × Int32 × Mem) ⊕ (Int32 × Mem)) := match q with
  | (x3, x4, M) => if x4 = x3 then (mr (some (x3, M))) else (gl (b_X9_hanging_19 n  x2 x3) n (x3, (0 : Int32), M))
def f_X9_hanging (n : Nat) (x1 : Int32) (x2 : Int32) (M : Mem) : Option (Int32 × Mem) := gl (b_X9_hanging_7 n  x2) n (((1 : Int32) <<< (x1 &&& 31)), (0 : Int32), M)
set_option maxHeartbeats 4000000 in
set_option maxRecDepth 100000 in
theorem c_X9_hanging (l : Launch) (w : Wd) {X : (Nat → Prop) → State → Heap → Prop} (hXk : XOK X) (n : Nat) (x1 : Int32) (x2 : Int32) (M : Mem) (res : Int32 × Mem) (hf : f_X9_hanging n  x1 x2 M = some res) : CG l w layM 24 X yX9_hanging cX9_hanging 6 (some .int) 0 [.ref (w.2.2.1 0), .int x1, .int x2] M (GQi w layM 24 res) := by
  refine cg_start (by decide +kernel) (Nat.le_of_ble_eq_true rfl) ?_
  intro p e s m args below meth c F hr hlk hX hG ls hl
  have F : FX w p m c cX9_hanging 6 s args RX9 := F
  have hx := F.1.1
  have hb := F.1.2.1
  have hl : lv_has ls 6 [(0, .ref (w.2.2.1 0)), (1, .int x1), (2, .int x2)] := hl
  have hJ7 : ∀ (x2 : Int32) (x3 : Int32) (x4 : Int32) (M : Mem) (H : Heap) (locs : List Loc) (ls : Array Slot), gl (b_X9_hanging_7 n  x2) n (x3, x4, M) = some res → GI w layM 24 s.heap M H locs → lv_has ls 6 [(0, .ref (w.2.2.1 0)), (2, .int x2), (3, .int x3), (4, .int x4)] → W p l e (Rm 0) s m args below meth c H locs 0 0 (MQ below (GQi w layM 24 res s.heap.size) args s 0 0 (gA w.2.2.1 24 s.heap.size)) (F0 m 7 ls []) := by
    intro x2 x3 x4 M H locs ls hf hG hl
    refine gl_run (P := fun (q : (Int32 × Int32 × Mem)) => ∀ (H : Heap) (locs : List Loc) (ls : Array Slot), GI w layM 24 s.heap q.2.2 H locs → lv_has ls 6 [(0, .ref (w.2.2.1 0)), (2, .int x2), (3, .int q.1), (4, .int q.2.1)] → W p l e (Rm 0) s m args below meth c H locs 0 0 (MQ below (GQi w layM 24 res s.heap.size) args s 0 0 (gA w.2.2.1 24 s.heap.size)) (F0 m 7 ls [])) ?_ n (x3, x4, M) hf H locs ls hG hl
    clear hf hG hl ls locs H M x3 x4
    rintro ⟨x3, x4, M⟩ rr7 hf hI7 hE7 H locs ls hG hl
    try dsimp only at hG hl ⊢
    have hJ66 : ∀ (x3 : Int32) (x4 : Int32) (M : Mem) (H : Heap) (locs : List Loc) (ls : Array Slot), j_X9_hanging_66 n  x2 x3 x4 M = some rr7 → GI w layM 24 s.heap M H locs → lv_has ls 6 [(0, .ref (w.2.2.1 0)), (2, .int x2), (3, .int x3), (4, .int x4)] → W p l e (Rm 0) s m args below meth c H locs 0 0 (MQ below (GQi w layM 24 res s.heap.size) args s 0 0 (gA w.2.2.1 24 s.heap.size)) (F0 m 66 ls []) := by
      intro x3 x4 M H locs ls hf hG hl
      unfold j_X9_hanging_66 at hf
      refine lv_goto (tgt := 7) hx hb dX9_hanging_66 (by decide) ?_
      exact hI7 _ (Option.some.inj hf).symm _ _ ls hG (lv_sub hl [0, 1, 2, 3] rfl)
    have hJ19 : ∀ (x3 : Int32) (x4 : Int32) (x5 : Int32) (M : Mem) (H : Heap) (locs : List Loc) (ls : Array Slot), gl (b_X9_hanging_19 n  x2 x4) n (x3, x5, M) = some rr7 → GI w layM 24 s.heap M H locs → lv_has ls 6 [(0, .ref (w.2.2.1 0)), (2, .int x2), (3, .int x3), (4, .int x4), (5, .int x5)] → W p l e (Rm 0) s m args below meth c H locs 0 0 (MQ below (GQi w layM 24 res s.heap.size) args s 0 0 (gA w.2.2.1 24 s.heap.size)) (F0 m 19 ls []) := by
      intro x3 x4 x5 M H locs ls hf hG hl
      refine gl_run (P := fun (q : (Int32 × Int32 × Mem)) => ∀ (H : Heap) (locs : List Loc) (ls : Array Slot), GI w layM 24 s.heap q.2.2 H locs → lv_has ls 6 [(0, .ref (w.2.2.1 0)), (2, .int x2), (3, .int q.1), (4, .int x4), (5, .int q.2.1)] → W p l e (Rm 0) s m args below meth c H locs 0 0 (MQ below (GQi w layM 24 res s.heap.size) args s 0 0 (gA w.2.2.1 24 s.heap.size)) (F0 m 19 ls [])) ?_ n (x3, x5, M) hf H locs ls hG hl
      clear hf hG hl ls locs H M x3 x5
      rintro ⟨x3, x5, M⟩ rr19 hf hI19 hE19 H locs ls hG hl
      try dsimp only at hG hl ⊢
      have hJ58 : ∀ (t0 : Int32) (t1 : Int32) (x5 : Int32) (M : Mem) (H : Heap) (locs : List Loc) (ls : Array Slot), j_X9_hanging_58 n  t0 t1 x2 x4 x5 M = some rr19 → GI w layM 24 s.heap M H locs → lv_has ls 6 [(0, .ref (w.2.2.1 0)), (2, .int x2), (4, .int x4), (5, .int x5)] → W p l e (Rm 0) s m args below meth c H locs 0 0 (MQ below (GQi w layM 24 res s.heap.size) args s 0 0 (gA w.2.2.1 24 s.heap.size)) (F0 m 58 ls [.int t0, .int t1]) := by
        intro t0 t1 x5 M H locs ls hf hG hl
        unfold j_X9_hanging_58 at hf
        refine lv_ior hx hb dX9_hanging_58 ?_
        refine lv_istore_n (lv' := [(3, .int (t1 ||| t0)), (0, .ref (w.2.2.1 0)), (2, .int x2), (4, .int x4), (5, .int x5)]) hx hb dX9_hanging_59 rfl hl (by decide) rfl (fun ls hl => ?_)
        refine lv_iinc (v := (x5 + (1 : Int32))) (lv' := [(5, .int (x5 + (1 : Int32))), (3, .int (t1 ||| t0)), (0, .ref (w.2.2.1 0)), (2, .int x2), (4, .int x4)]) hx hb dX9_hanging_60 hl (k := 4) rfl rfl (by decide) rfl (fun ls hl => ?_)
        refine lv_goto (tgt := 19) hx hb dX9_hanging_63 (by decide) ?_
        exact hI19 _ (Option.some.inj hf).symm _ _ ls hG (lv_sub hl [2, 3, 1, 4, 0] rfl)
      dsimp only [b_X9_hanging_19] at hf
      refine lv_iload hx hb dX9_hanging_19 (lv_at hl 4 rfl) ?_
      refine lv_aload_n hx hb dX9_hanging_21 rfl (lv_at hl 0 rfl) ?_
      refine g_getI F hG mo_0 (by decide) (by decide) lk_X9_291 rfl dX9_hanging_22 ?_
      refine lv_icmp_ge (tgt := 66) hx hb dX9_hanging_25 (by decide) (fun c1 => ?_) (fun c1 => ?_)
      · replace hf := if_t c1 hf
        replace hf := mr_some hf
        obtain ⟨z19, hf, hz⟩ := hf
        rw [hE19 _ hz] at hf
        exact hJ66 _ _ _ _ _ ls hf hG (lv_sub hl [0, 1, 2, 3] rfl)
      · replace hf := if_f c1 hf
        refine lv_iload_n hx hb dX9_hanging_28 rfl (lv_at hl 2 rfl) ?_
        refine lv_iload hx hb dX9_hanging_29 (lv_at hl 3 rfl) ?_
        refine lv_iload hx hb dX9_hanging_31 (lv_at hl 4 rfl) ?_
        refine lv_ishr hx hb dX9_hanging_33 ?_
        refine lv_iconst (v := 1) hx hb dX9_hanging_34 (by decide) ?_
        refine lv_iand hx hb dX9_hanging_35 ?_
        refine lv_iconst (v := 1) hx hb dX9_hanging_36 (by decide) ?_
        refine lv_icmp_ne (tgt := 57) hx hb dX9_hanging_37 (by decide) (fun c2 => ?_) (fun c2 => ?_)
        · replace hf := if_f c2 hf
          refine lv_iconst (v := 0) hx hb dX9_hanging_57 (by decide) ?_
          exact hJ58 _ _ _ _ _ _ ls hf hG (lv_sub hl [0, 1, 3, 4] rfl)
        · replace hf := if_t c2 hf
          refine lv_aload_n hx hb dX9_hanging_40 rfl (lv_at hl 0 rfl) ?_
          refine g_getR F hG 12 mo_0 (by decide) (by decide) lk_X9_63 rfl dX9_hanging_41 ?_
          refine lv_bipush (v := 46) hx hb dX9_hanging_44 (by decide) ?_
          refine lv_iload hx hb dX9_hanging_46 (lv_at hl 4 rfl) ?_
          refine lv_iadd hx hb dX9_hanging_48 ?_
          replace hf := ck_some hf
          obtain ⟨k3, hf⟩ := hf
          refine g_iald F hG oM_12 k3 dX9_hanging_49 ?_
          refine lv_iload_n hx hb dX9_hanging_50 rfl (lv_at hl 1 rfl) ?_
          refine lv_iconst (v := -1) hx hb dX9_hanging_51 (by decide) ?_
          refine lv_ixor hx hb dX9_hanging_52 ?_
          refine lv_iand hx hb dX9_hanging_53 ?_
          refine lv_goto (tgt := 58) hx hb dX9_hanging_54 (by decide) ?_
          exact hJ58 _ _ _ _ _ _ ls hf hG (lv_sub hl [0, 1, 3, 4] rfl)
    dsimp only [b_X9_hanging_7] at hf
    refine lv_iload hx hb dX9_hanging_7 (lv_at hl 3 rfl) ?_
    refine lv_iload_n hx hb dX9_hanging_9 rfl (lv_at hl 2 rfl) ?_
    refine lv_icmp_eq (tgt := 69) hx hb dX9_hanging_10 (by decide) (fun c4 => ?_) (fun c4 => ?_)
    · replace hf := if_t c4 hf
      refine lv_iload_n hx hb dX9_hanging_69 rfl (lv_at hl 2 rfl) ?_
      replace hf := mr_some hf
      obtain ⟨z7, hf, hz⟩ := hf
      rw [hE7 _ hz] at hf
      exact cg_iret F hr hlk hG hf dX9_hanging_70
    · replace hf := if_f c4 hf
      refine lv_iload_n hx hb dX9_hanging_13 rfl (lv_at hl 2 rfl) ?_
      refine lv_istore (lv' := [(4, .int x3), (0, .ref (w.2.2.1 0)), (2, .int x2), (3, .int x3)]) hx hb dX9_hanging_14 hl (by decide) rfl (fun ls hl => ?_)
      refine lv_iconst (v := 0) hx hb dX9_hanging_16 (by decide) ?_
      refine lv_istore (lv' := [(5, .int (0 : Int32)), (4, .int x3), (0, .ref (w.2.2.1 0)), (2, .int x2), (3, .int x3)]) hx hb dX9_hanging_17 hl (by decide) rfl (fun ls hl => ?_)
      exact hJ19 _ _ _ _ _ _ ls hf hG (lv_sub hl [2, 3, 4, 1, 0] rfl)
  unfold f_X9_hanging at hf
  refine lv_iconst (v := 1) hx hb dX9_hanging_0 (by decide) ?_
  refine lv_iload_n hx hb dX9_hanging_1 rfl (lv_at hl 1 rfl) ?_
  refine lv_ishl hx hb dX9_hanging_2 ?_
  refine lv_istore_n (lv' := [(3, .int ((1 : Int32) <<< (x1 &&& 31))), (0, .ref (w.2.2.1 0)), (1, .int x1), (2, .int x2)]) hx hb dX9_hanging_3 rfl hl (by decide) rfl (fun ls hl => ?_)
  refine lv_iconst (v := 0) hx hb dX9_hanging_4 (by decide) ?_
  refine lv_istore (lv' := [(4, .int (0 : Int32)), (3, .int ((1 : Int32) <<< (x1 &&& 31))), (0, .ref (w.2.2.1 0)), (1, .int x1), (2, .int x2)]) hx hb dX9_hanging_5 hl (by decide) rfl (fun ls hl => ?_)
  exact hJ7 _ _ _ _ _ _ ls hf hG (lv_sub hl [2, 4, 1, 0] rfl)

def j_X9_parts_33 (n : Nat) (t0 : Int32) (t1 : Int32) (x2 : Int32) (M : Mem) : Option ((Int32 × Int32 × Mem) ⊕ (Int32 × Mem)) := some (.inl ((t1 + t0), (x2 + (1 : Int32)), M))
def b_X9_parts_4 (n : Nat) (q : (Int32 × Int32 × Mem)) : Option ((Int32 × Int32 × Mem) ⊕ (Int32 × Mem)) := match q with
  | (x1, x2, M) => if (gi M 0 1) ≤ x2 then (mr (some (x1, M))) else (bd (f_X9_hanging n  x2 (0 : Int32) M) (fun q2 => if (q2.1 &&& (((1 : Int32) <<< (x2 &&& 31)) - (1 : Int32))) = 0 then (j_X9_parts_33 n  (1 : Int32) x1 x2 q2.2) else (j_X9_parts_33 n  (0 : Int32) x1 x2 q2.2)))
def f_X9_parts (n : Nat) (M : Mem) : Option (Int32 × Mem) := gl (b_X9_parts_4 n ) n ((0 : Int32), (0 : Int32), M)
set_option maxHeartbeats 4000000 in
set_option maxRecDepth 100000 in
theorem c_X9_parts (l : Launch) (w : Wd) {X : (Nat → Prop) → State → Heap → Prop} (hXk : XOK X) (n : Nat) (M : Mem) (res : Int32 × Mem) (hf : f_X9_parts n   M = some res) : CG l w layM 24 X yX9_parts cX9_parts 3 (some .int) 1 [.ref (w.2.2.1 0)] M (GQi w layM 24 res) := by
  refine cg_start (by decide +kernel) (Nat.le_of_ble_eq_true rfl) ?_
  intro p e s m args below meth c F hr hlk hX hG ls hl
  have F : FX w p m c cX9_parts 3 s args RX9 := F
  have hx := F.1.1
  have hb := F.1.2.1
  have hl : lv_has ls 3 [(0, .ref (w.2.2.1 0))] := hl
  have hJ4 : ∀ (x1 : Int32) (x2 : Int32) (M : Mem) (H : Heap) (locs : List Loc) (ls : Array Slot), gl (b_X9_parts_4 n  ) n (x1, x2, M) = some res → GI w layM 24 s.heap M H locs → lv_has ls 3 [(0, .ref (w.2.2.1 0)), (1, .int x1), (2, .int x2)] → W p l e (Rm 1) s m args below meth c H locs 0 0 (MQ below (GQi w layM 24 res s.heap.size) args s 0 0 (gA w.2.2.1 24 s.heap.size)) (F0 m 4 ls []) := by
    intro x1 x2 M H locs ls hf hG hl
    refine gl_run (P := fun (q : (Int32 × Int32 × Mem)) => ∀ (H : Heap) (locs : List Loc) (ls : Array Slot), GI w layM 24 s.heap q.2.2 H locs → lv_has ls 3 [(0, .ref (w.2.2.1 0)), (1, .int q.1), (2, .int q.2.1)] → W p l e (Rm 1) s m args below meth c H locs 0 0 (MQ below (GQi w layM 24 res s.heap.size) args s 0 0 (gA w.2.2.1 24 s.heap.size)) (F0 m 4 ls [])) ?_ n (x1, x2, M) hf H locs ls hG hl
    clear hf hG hl ls locs H M x1 x2
    rintro ⟨x1, x2, M⟩ rr4 hf hI4 hE4 H locs ls hG hl
    try dsimp only at hG hl ⊢
    have hJ33 : ∀ (t0 : Int32) (t1 : Int32) (x2 : Int32) (M : Mem) (H : Heap) (locs : List Loc) (ls : Array Slot), j_X9_parts_33 n  t0 t1 x2 M = some rr4 → GI w layM 24 s.heap M H locs → lv_has ls 3 [(0, .ref (w.2.2.1 0)), (2, .int x2)] → W p l e (Rm 1) s m args below meth c H locs 0 0 (MQ below (GQi w layM 24 res s.heap.size) args s 0 0 (gA w.2.2.1 24 s.heap.size)) (F0 m 33 ls [.int t0, .int t1]) := by
      intro t0 t1 x2 M H locs ls hf hG hl
      unfold j_X9_parts_33 at hf
      refine lv_iadd hx hb dX9_parts_33 ?_
      refine lv_istore_n (lv' := [(1, .int (t1 + t0)), (0, .ref (w.2.2.1 0)), (2, .int x2)]) hx hb dX9_parts_34 rfl hl (by decide) rfl (fun ls hl => ?_)
      refine lv_iinc (v := (x2 + (1 : Int32))) (lv' := [(2, .int (x2 + (1 : Int32))), (1, .int (t1 + t0)), (0, .ref (w.2.2.1 0))]) hx hb dX9_parts_35 hl (k := 2) rfl rfl (by decide) rfl (fun ls hl => ?_)
      refine lv_goto (tgt := 4) hx hb dX9_parts_38 (by decide) ?_
      exact hI4 _ (Option.some.inj hf).symm _ _ ls hG (lv_sub hl [2, 1, 0] rfl)
    dsimp only [b_X9_parts_4] at hf
    refine lv_iload_n hx hb dX9_parts_4 rfl (lv_at hl 2 rfl) ?_
    refine lv_aload_n hx hb dX9_parts_5 rfl (lv_at hl 0 rfl) ?_
    refine g_getI F hG mo_0 (by decide) (by decide) lk_X9_291 rfl dX9_parts_6 ?_
    refine lv_icmp_ge (tgt := 41) hx hb dX9_parts_9 (by decide) (fun c1 => ?_) (fun c1 => ?_)
    · replace hf := if_t c1 hf
      refine lv_iload_n hx hb dX9_parts_41 rfl (lv_at hl 1 rfl) ?_
      replace hf := mr_some hf
      obtain ⟨z4, hf, hz⟩ := hf
      rw [hE4 _ hz] at hf
      exact cg_iret F hr hlk hG hf dX9_parts_42
    · replace hf := if_f c1 hf
      refine lv_iload_n hx hb dX9_parts_12 rfl (lv_at hl 1 rfl) ?_
      refine lv_aload_n hx hb dX9_parts_13 rfl (lv_at hl 0 rfl) ?_
      refine lv_iload_n hx hb dX9_parts_14 rfl (lv_at hl 2 rfl) ?_
      refine lv_iconst (v := 0) hx hb dX9_parts_15 (by decide) ?_
      replace hf := bd_some hf
      obtain ⟨q2, eq2, hf⟩ := hf
      refine gx_calli hG (gx_runV hXk F hX hG (c_X9_hanging l w hXk n  x2 (0 : Int32) _ _ eq2) cv_X9_373 ⟨Nat.le_of_ble_eq_true rfl, Nat.le_of_ble_eq_true rfl⟩ (g_recv F hG mo_0 (by decide) rfl) rfl hl.1 rfl (Nat.le_of_ble_eq_true rfl) dX9_parts_16 ⟨Nat.le_refl _, Nat.le_refl _⟩) (fun H locs hG => ?_)
      refine lv_iconst (v := 1) hx hb dX9_parts_19 (by decide) ?_
      refine lv_iload_n hx hb dX9_parts_20 rfl (lv_at hl 2 rfl) ?_
      refine lv_ishl hx hb dX9_parts_21 ?_
      refine lv_iconst (v := 1) hx hb dX9_parts_22 (by decide) ?_
      refine lv_isub hx hb dX9_parts_23 ?_
      refine lv_iand hx hb dX9_parts_24 ?_
      refine lv_if_ne (tgt := 32) hx hb dX9_parts_25 (by decide) (fun c3 => ?_) (fun c3 => ?_)
      · replace hf := if_f c3 hf
        refine lv_iconst (v := 0) hx hb dX9_parts_32 (by decide) ?_
        exact hJ33 _ _ _ _ _ _ ls hf hG (lv_sub hl [0, 2] rfl)
      · replace hf := if_t c3 hf
        refine lv_iconst (v := 1) hx hb dX9_parts_28 (by decide) ?_
        refine lv_goto (tgt := 33) hx hb dX9_parts_29 (by decide) ?_
        exact hJ33 _ _ _ _ _ _ ls hf hG (lv_sub hl [0, 2] rfl)
  unfold f_X9_parts at hf
  refine lv_iconst (v := 0) hx hb dX9_parts_0 (by decide) ?_
  refine lv_istore_n (lv' := [(1, .int (0 : Int32)), (0, .ref (w.2.2.1 0))]) hx hb dX9_parts_1 rfl hl (by decide) rfl (fun ls hl => ?_)
  refine lv_iconst (v := 0) hx hb dX9_parts_2 (by decide) ?_
  refine lv_istore_n (lv' := [(2, .int (0 : Int32)), (1, .int (0 : Int32)), (0, .ref (w.2.2.1 0))]) hx hb dX9_parts_3 rfl hl (by decide) rfl (fun ls hl => ?_)
  exact hJ4 _ _ _ _ _ ls hf hG (lv_sub hl [2, 1, 0] rfl)

def j_X9_even_112 (n : Nat) (x1 : Int32) (x3 : Int32) (x4 : Int32) (M : Mem) : Option (Int32 × Mem) := if x1 = 0 then (if x4 = (9999 : Int32) then (some ((0 : Int32), M)) else (some (x4, M))) else (some (x3, M))
def j_X9_even_106 (n : Nat) (x1 : Int32) (x2 : Int32) (x3 : Int32) (x4 : Int32) (x5 : Int32) (M : Mem) : Option ((Int32 × Int32 × Int32 × Mem) ⊕ (Int32 × Mem)) := some (.inl (x3, x4, (x5 + (2 : Int32)), M))
def j_X9_even_77 (n : Nat) (x1 : Int32) (x2 : Int32) (x3 : Int32) (x4 : Int32) (x5 : Int32) (x6 : Int32) (M : Mem) : Option ((Int32 × Int32 × Int32 × Mem) ⊕ (Int32 × Mem)) := bd (f_X9_differ n  ((2 : Int32) * x6) x2 M) (fun q3 => if q3.1 < x4 then (bd (f_X9_differ n  ((2 : Int32) * x6) x2 q3.2) (fun q5 => j_X9_even_106 n  x1 x2 x5 q5.1 x5 q5.2)) else (j_X9_even_106 n  x1 x2 x3 x4 x5 q3.2))
def b_X9_even_39 (n : Nat) (x1 : Int32) (x2 : Int32) (x3 : Int32) (x4 : Int32) (x5 : Int32) (q : (Int32 × Int32 × Mem)) : Option ((Int32 × Int32 × Mem) ⊕ ((Int32 × Int32 × Int32 × Mem) ⊕ (Int32 × Mem))) := match q with
  | (x6, x7, M) => if (gi M 0 1) ≤ x7 then (mr (j_X9_even_77 n  x1 x2 x3 x4 x5 x6 M)) else (ck (inb ((38 : Int32) + x7) 108) (some (.inl ((x6 + (((x5 >>> (x7 &&& 31)) &&& (1 : Int32)) * (gi M 12 ((38 : Int32) + x7).toNatClampNeg))), (x7 + (1 : Int32)), M))))
def b_X9_even_22 (n : Nat) (x1 : Int32) (x2 : Int32) (q : (Int32 × Int32 × Int32 × Mem)) : Option ((Int32 × Int32 × Int32 × Mem) ⊕ (Int32 × Mem)) := match q with
  | (x3, x4, x5, M) => if ((1 : Int32) <<< ((gi M 0 1) &&& 31)) ≤ x5 then (mr (j_X9_even_112 n  x1 x3 x4 M)) else (gl (b_X9_even_39 n  x1 x2 x3 x4 x5) n ((0 : Int32), (0 : Int32), M))
def f_X9_even (n : Nat) (x1 : Int32) (M : Mem) : Option (Int32 × Mem) := bd (f_X9_sumOf n  (0 : Int32) (38 : Int32) (gi M 0 1) M) (fun q9 => gl (b_X9_even_22 n  x1 q9.1) n ((0 : Int32), (9999 : Int32), (1 : Int32), q9.2))
set_option maxHeartbeats 4000000 in
set_option maxRecDepth 100000 in
theorem c_X9_even (l : Launch) (w : Wd) {X : (Nat → Prop) → State → Heap → Prop} (hXk : XOK X) (n : Nat) (x1 : Int32) (M : Mem) (res : Int32 × Mem) (hf : f_X9_even n  x1 M = some res) : CG l w layM 24 X yX9_even cX9_even 8 (some .int) 1 [.ref (w.2.2.1 0), .int x1] M (GQi w layM 24 res) := by
  refine cg_start (by decide +kernel) (Nat.le_of_ble_eq_true rfl) ?_
  intro p e s m args below meth c F hr hlk hX hG ls hl
  have F : FX w p m c cX9_even 8 s args RX9 := F
  have hx := F.1.1
  have hb := F.1.2.1
  have hl : lv_has ls 8 [(0, .ref (w.2.2.1 0)), (1, .int x1)] := hl
  have hJ112 : ∀ (x1 : Int32) (x3 : Int32) (x4 : Int32) (M : Mem) (H : Heap) (locs : List Loc) (ls : Array Slot), j_X9_even_112 n  x1 x3 x4 M = some res → GI w layM 24 s.heap M H locs → lv_has ls 8 [(1, .int x1), (3, .int x3), (4, .int x4)] → W p l e (Rm 1) s m args below meth c H locs 0 0 (MQ below (GQi w layM 24 res s.heap.size) args s 0 0 (gA w.2.2.1 24 s.heap.size)) (F0 m 112 ls []) := by
    intro x1 x3 x4 M H locs ls hf hG hl
    unfold j_X9_even_112 at hf
    refine lv_iload_n hx hb dX9_even_112 rfl (lv_at hl 0 rfl) ?_
    refine lv_if_eq (tgt := 120) hx hb dX9_even_113 (by decide) (fun c1 => ?_) (fun c1 => ?_)
    · replace hf := if_t c1 hf
      refine lv_iload hx hb dX9_even_120 (lv_at hl 2 rfl) ?_
      refine lv_sipush (v := 9999) hx hb dX9_even_122 (by decide) ?_
      refine lv_icmp_ne (tgt := 132) hx hb dX9_even_125 (by decide) (fun c2 => ?_) (fun c2 => ?_)
      · replace hf := if_f c2 hf
        refine lv_iload hx hb dX9_even_132 (lv_at hl 2 rfl) ?_
        exact cg_iret F hr hlk hG hf dX9_even_134
      · replace hf := if_t c2 hf
        refine lv_iconst (v := 0) hx hb dX9_even_128 (by decide) ?_
        refine lv_goto (tgt := 134) hx hb dX9_even_129 (by decide) ?_
        exact cg_iret F hr hlk hG hf dX9_even_134
    · replace hf := if_f c1 hf
      refine lv_iload_n hx hb dX9_even_116 rfl (lv_at hl 1 rfl) ?_
      refine lv_goto (tgt := 134) hx hb dX9_even_117 (by decide) ?_
      exact cg_iret F hr hlk hG hf dX9_even_134
  have hJ22 : ∀ (x1 : Int32) (x2 : Int32) (x3 : Int32) (x4 : Int32) (x5 : Int32) (M : Mem) (H : Heap) (locs : List Loc) (ls : Array Slot), gl (b_X9_even_22 n  x1 x2) n (x3, x4, x5, M) = some res → GI w layM 24 s.heap M H locs → lv_has ls 8 [(0, .ref (w.2.2.1 0)), (1, .int x1), (2, .int x2), (3, .int x3), (4, .int x4), (5, .int x5)] → W p l e (Rm 1) s m args below meth c H locs 0 0 (MQ below (GQi w layM 24 res s.heap.size) args s 0 0 (gA w.2.2.1 24 s.heap.size)) (F0 m 22 ls []) := by
    intro x1 x2 x3 x4 x5 M H locs ls hf hG hl
    refine gl_run (P := fun (q : (Int32 × Int32 × Int32 × Mem)) => ∀ (H : Heap) (locs : List Loc) (ls : Array Slot), GI w layM 24 s.heap q.2.2.2 H locs → lv_has ls 8 [(0, .ref (w.2.2.1 0)), (1, .int x1), (2, .int x2), (3, .int q.1), (4, .int q.2.1), (5, .int q.2.2.1)] → W p l e (Rm 1) s m args below meth c H locs 0 0 (MQ below (GQi w layM 24 res s.heap.size) args s 0 0 (gA w.2.2.1 24 s.heap.size)) (F0 m 22 ls [])) ?_ n (x3, x4, x5, M) hf H locs ls hG hl
    clear hf hG hl ls locs H M x3 x4 x5
    rintro ⟨x3, x4, x5, M⟩ rr22 hf hI22 hE22 H locs ls hG hl
    try dsimp only at hG hl ⊢
    have hJ106 : ∀ (x3 : Int32) (x4 : Int32) (x5 : Int32) (M : Mem) (H : Heap) (locs : List Loc) (ls : Array Slot), j_X9_even_106 n  x1 x2 x3 x4 x5 M = some rr22 → GI w layM 24 s.heap M H locs → lv_has ls 8 [(0, .ref (w.2.2.1 0)), (1, .int x1), (2, .int x2), (3, .int x3), (4, .int x4), (5, .int x5)] → W p l e (Rm 1) s m args below meth c H locs 0 0 (MQ below (GQi w layM 24 res s.heap.size) args s 0 0 (gA w.2.2.1 24 s.heap.size)) (F0 m 106 ls []) := by
      intro x3 x4 x5 M H locs ls hf hG hl
      unfold j_X9_even_106 at hf
      refine lv_iinc (v := (x5 + (2 : Int32))) (lv' := [(5, .int (x5 + (2 : Int32))), (0, .ref (w.2.2.1 0)), (1, .int x1), (2, .int x2), (3, .int x3), (4, .int x4)]) hx hb dX9_even_106 hl (k := 5) rfl rfl (by decide) rfl (fun ls hl => ?_)
      refine lv_goto (tgt := 22) hx hb dX9_even_109 (by decide) ?_
      exact hI22 _ (Option.some.inj hf).symm _ _ ls hG (lv_sub hl [1, 2, 3, 4, 5, 0] rfl)
    have hJ77 : ∀ (x3 : Int32) (x4 : Int32) (x5 : Int32) (x6 : Int32) (M : Mem) (H : Heap) (locs : List Loc) (ls : Array Slot), j_X9_even_77 n  x1 x2 x3 x4 x5 x6 M = some rr22 → GI w layM 24 s.heap M H locs → lv_has ls 8 [(0, .ref (w.2.2.1 0)), (1, .int x1), (2, .int x2), (3, .int x3), (4, .int x4), (5, .int x5), (6, .int x6)] → W p l e (Rm 1) s m args below meth c H locs 0 0 (MQ below (GQi w layM 24 res s.heap.size) args s 0 0 (gA w.2.2.1 24 s.heap.size)) (F0 m 77 ls []) := by
      intro x3 x4 x5 x6 M H locs ls hf hG hl
      unfold j_X9_even_77 at hf
      refine lv_iconst (v := 2) hx hb dX9_even_77 (by decide) ?_
      refine lv_iload hx hb dX9_even_78 (lv_at hl 6 rfl) ?_
      refine lv_imul hx hb dX9_even_80 ?_
      refine lv_iload_n hx hb dX9_even_81 rfl (lv_at hl 2 rfl) ?_
      replace hf := bd_some hf
      obtain ⟨q3, eq3, hf⟩ := hf
      refine gx_calli hG (gx_runS hXk F hX hG (c_X9_differ l w hXk n  ((2 : Int32) * x6) x2 _ _ eq3) cs_X9_376 ⟨Nat.le_of_ble_eq_true rfl, Nat.le_of_ble_eq_true rfl⟩ rfl hl.1 rfl (Nat.le_of_ble_eq_true rfl) dX9_even_82 ⟨Nat.le_refl _, Nat.le_refl _⟩) (fun H locs hG => ?_)
      refine lv_iload hx hb dX9_even_85 (lv_at hl 4 rfl) ?_
      refine lv_icmp_lt (tgt := 93) hx hb dX9_even_87 (by decide) (fun c4 => ?_) (fun c4 => ?_)
      · replace hf := if_t c4 hf
        refine lv_iload hx hb dX9_even_93 (lv_at hl 5 rfl) ?_
        refine lv_istore_n (lv' := [(3, .int x5), (0, .ref (w.2.2.1 0)), (1, .int x1), (2, .int x2), (4, .int x4), (5, .int x5), (6, .int x6)]) hx hb dX9_even_95 rfl hl (by decide) rfl (fun ls hl => ?_)
        refine lv_iconst (v := 2) hx hb dX9_even_96 (by decide) ?_
        refine lv_iload hx hb dX9_even_97 (lv_at hl 6 rfl) ?_
        refine lv_imul hx hb dX9_even_99 ?_
        refine lv_iload_n hx hb dX9_even_100 rfl (lv_at hl 3 rfl) ?_
        replace hf := bd_some hf
        obtain ⟨q5, eq5, hf⟩ := hf
        refine gx_calli hG (gx_runS hXk F hX hG (c_X9_differ l w hXk n  ((2 : Int32) * x6) x2 _ _ eq5) cs_X9_376 ⟨Nat.le_of_ble_eq_true rfl, Nat.le_of_ble_eq_true rfl⟩ rfl hl.1 rfl (Nat.le_of_ble_eq_true rfl) dX9_even_101 ⟨Nat.le_refl _, Nat.le_refl _⟩) (fun H locs hG => ?_)
        refine lv_istore (lv' := [(4, .int q5.1), (3, .int x5), (0, .ref (w.2.2.1 0)), (1, .int x1), (2, .int x2), (5, .int x5), (6, .int x6)]) hx hb dX9_even_104 hl (by decide) rfl (fun ls hl => ?_)
        exact hJ106 _ _ _ _ _ _ ls hf hG (lv_sub hl [2, 3, 4, 1, 0, 5] rfl)
      · replace hf := if_f c4 hf
        refine lv_goto (tgt := 106) hx hb dX9_even_90 (by decide) ?_
        exact hJ106 _ _ _ _ _ _ ls hf hG (lv_sub hl [0, 1, 2, 3, 4, 5] rfl)
    have hJ39 : ∀ (x3 : Int32) (x4 : Int32) (x5 : Int32) (x6 : Int32) (x7 : Int32) (M : Mem) (H : Heap) (locs : List Loc) (ls : Array Slot), gl (b_X9_even_39 n  x1 x2 x3 x4 x5) n (x6, x7, M) = some rr22 → GI w layM 24 s.heap M H locs → lv_has ls 8 [(0, .ref (w.2.2.1 0)), (1, .int x1), (2, .int x2), (3, .int x3), (4, .int x4), (5, .int x5), (6, .int x6), (7, .int x7)] → W p l e (Rm 1) s m args below meth c H locs 0 0 (MQ below (GQi w layM 24 res s.heap.size) args s 0 0 (gA w.2.2.1 24 s.heap.size)) (F0 m 39 ls []) := by
      intro x3 x4 x5 x6 x7 M H locs ls hf hG hl
      refine gl_run (P := fun (q : (Int32 × Int32 × Mem)) => ∀ (H : Heap) (locs : List Loc) (ls : Array Slot), GI w layM 24 s.heap q.2.2 H locs → lv_has ls 8 [(0, .ref (w.2.2.1 0)), (1, .int x1), (2, .int x2), (3, .int x3), (4, .int x4), (5, .int x5), (6, .int q.1), (7, .int q.2.1)] → W p l e (Rm 1) s m args below meth c H locs 0 0 (MQ below (GQi w layM 24 res s.heap.size) args s 0 0 (gA w.2.2.1 24 s.heap.size)) (F0 m 39 ls [])) ?_ n (x6, x7, M) hf H locs ls hG hl
      clear hf hG hl ls locs H M x6 x7
      rintro ⟨x6, x7, M⟩ rr39 hf hI39 hE39 H locs ls hG hl
      try dsimp only at hG hl ⊢
      dsimp only [b_X9_even_39] at hf
      refine lv_iload hx hb dX9_even_39 (lv_at hl 7 rfl) ?_
      refine lv_aload_n hx hb dX9_even_41 rfl (lv_at hl 0 rfl) ?_
      refine g_getI F hG mo_0 (by decide) (by decide) lk_X9_291 rfl dX9_even_42 ?_
      refine lv_icmp_ge (tgt := 77) hx hb dX9_even_45 (by decide) (fun c6 => ?_) (fun c6 => ?_)
      · replace hf := if_t c6 hf
        replace hf := mr_some hf
        obtain ⟨z39, hf, hz⟩ := hf
        rw [hE39 _ hz] at hf
        exact hJ77 _ _ _ _ _ _ _ ls hf hG (lv_sub hl [0, 1, 2, 3, 4, 5, 6] rfl)
      · replace hf := if_f c6 hf
        refine lv_iload hx hb dX9_even_48 (lv_at hl 6 rfl) ?_
        refine lv_iload hx hb dX9_even_50 (lv_at hl 5 rfl) ?_
        refine lv_iload hx hb dX9_even_52 (lv_at hl 7 rfl) ?_
        refine lv_ishr hx hb dX9_even_54 ?_
        refine lv_iconst (v := 1) hx hb dX9_even_55 (by decide) ?_
        refine lv_iand hx hb dX9_even_56 ?_
        refine lv_aload_n hx hb dX9_even_57 rfl (lv_at hl 0 rfl) ?_
        refine g_getR F hG 12 mo_0 (by decide) (by decide) lk_X9_63 rfl dX9_even_58 ?_
        refine lv_bipush (v := 38) hx hb dX9_even_61 (by decide) ?_
        refine lv_iload hx hb dX9_even_63 (lv_at hl 7 rfl) ?_
        refine lv_iadd hx hb dX9_even_65 ?_
        replace hf := ck_some hf
        obtain ⟨k7, hf⟩ := hf
        refine g_iald F hG oM_12 k7 dX9_even_66 ?_
        refine lv_imul hx hb dX9_even_67 ?_
        refine lv_iadd hx hb dX9_even_68 ?_
        refine lv_istore (lv' := [(6, .int (x6 + (((x5 >>> (x7 &&& 31)) &&& (1 : Int32)) * (gi M 12 ((38 : Int32) + x7).toNatClampNeg)))), (0, .ref (w.2.2.1 0)), (1, .int x1), (2, .int x2), (3, .int x3), (4, .int x4), (5, .int x5), (7, .int x7)]) hx hb dX9_even_69 hl (by decide) rfl (fun ls hl => ?_)
        refine lv_iinc (v := (x7 + (1 : Int32))) (lv' := [(7, .int (x7 + (1 : Int32))), (6, .int (x6 + (((x5 >>> (x7 &&& 31)) &&& (1 : Int32)) * (gi M 12 ((38 : Int32) + x7).toNatClampNeg)))), (0, .ref (w.2.2.1 0)), (1, .int x1), (2, .int x2), (3, .int x3), (4, .int x4), (5, .int x5)]) hx hb dX9_even_71 hl (k := 7) rfl rfl (by decide) rfl (fun ls hl => ?_)
        refine lv_goto (tgt := 39) hx hb dX9_even_74 (by decide) ?_
        exact hI39 _ (Option.some.inj hf).symm _ _ ls hG (lv_sub hl [2, 3, 4, 5, 6, 7, 1, 0] rfl)
    dsimp only [b_X9_even_22] at hf
    refine lv_iload hx hb dX9_even_22 (lv_at hl 5 rfl) ?_
    refine lv_iconst (v := 1) hx hb dX9_even_24 (by decide) ?_
    refine lv_aload_n hx hb dX9_even_25 rfl (lv_at hl 0 rfl) ?_
    refine g_getI F hG mo_0 (by decide) (by decide) lk_X9_291 rfl dX9_even_26 ?_
    refine lv_ishl hx hb dX9_even_29 ?_
    refine lv_icmp_ge (tgt := 112) hx hb dX9_even_30 (by decide) (fun c8 => ?_) (fun c8 => ?_)
    · replace hf := if_t c8 hf
      replace hf := mr_some hf
      obtain ⟨z22, hf, hz⟩ := hf
      rw [hE22 _ hz] at hf
      exact hJ112 _ _ _ _ _ _ ls hf hG (lv_sub hl [1, 3, 4] rfl)
    · replace hf := if_f c8 hf
      refine lv_iconst (v := 0) hx hb dX9_even_33 (by decide) ?_
      refine lv_istore (lv' := [(6, .int (0 : Int32)), (0, .ref (w.2.2.1 0)), (1, .int x1), (2, .int x2), (3, .int x3), (4, .int x4), (5, .int x5)]) hx hb dX9_even_34 hl (by decide) rfl (fun ls hl => ?_)
      refine lv_iconst (v := 0) hx hb dX9_even_36 (by decide) ?_
      refine lv_istore (lv' := [(7, .int (0 : Int32)), (6, .int (0 : Int32)), (0, .ref (w.2.2.1 0)), (1, .int x1), (2, .int x2), (3, .int x3), (4, .int x4), (5, .int x5)]) hx hb dX9_even_37 hl (by decide) rfl (fun ls hl => ?_)
      exact hJ39 _ _ _ _ _ _ _ _ ls hf hG (lv_sub hl [2, 3, 4, 5, 6, 7, 1, 0] rfl)
  unfold f_X9_even at hf
  refine lv_aload_n hx hb dX9_even_0 rfl (lv_at hl 0 rfl) ?_
  refine lv_iconst (v := 0) hx hb dX9_even_1 (by decide) ?_
  refine lv_bipush (v := 38) hx hb dX9_even_2 (by decide) ?_
  refine lv_aload_n hx hb dX9_even_4 rfl (lv_at hl 0 rfl) ?_
  refine g_getI F hG mo_0 (by decide) (by decide) lk_X9_291 rfl dX9_even_5 ?_
  replace hf := bd_some hf
  obtain ⟨q9, eq9, hf⟩ := hf
  refine gx_calli hG (gx_runV hXk F hX hG (c_X9_sumOf l w hXk n  (0 : Int32) (38 : Int32) (gi M 0 1) _ _ eq9) cv_X9_318 ⟨Nat.le_of_ble_eq_true rfl, Nat.le_of_ble_eq_true rfl⟩ (g_recv F hG mo_0 (by decide) rfl) rfl hl.1 rfl (Nat.le_of_ble_eq_true rfl) dX9_even_8 ⟨Nat.le_refl _, Nat.le_refl _⟩) (fun H locs hG => ?_)
  refine lv_istore_n (lv' := [(2, .int q9.1), (0, .ref (w.2.2.1 0)), (1, .int x1)]) hx hb dX9_even_11 rfl hl (by decide) rfl (fun ls hl => ?_)
  refine lv_iconst (v := 0) hx hb dX9_even_12 (by decide) ?_
  refine lv_istore_n (lv' := [(3, .int (0 : Int32)), (2, .int q9.1), (0, .ref (w.2.2.1 0)), (1, .int x1)]) hx hb dX9_even_13 rfl hl (by decide) rfl (fun ls hl => ?_)
  refine lv_sipush (v := 9999) hx hb dX9_even_14 (by decide) ?_
  refine lv_istore (lv' := [(4, .int (9999 : Int32)), (3, .int (0 : Int32)), (2, .int q9.1), (0, .ref (w.2.2.1 0)), (1, .int x1)]) hx hb dX9_even_17 hl (by decide) rfl (fun ls hl => ?_)
  refine lv_iconst (v := 1) hx hb dX9_even_19 (by decide) ?_
  refine lv_istore (lv' := [(5, .int (1 : Int32)), (4, .int (9999 : Int32)), (3, .int (0 : Int32)), (2, .int q9.1), (0, .ref (w.2.2.1 0)), (1, .int x1)]) hx hb dX9_even_20 hl (by decide) rfl (fun ls hl => ?_)
  exact hJ22 _ _ _ _ _ _ _ _ ls hf hG (lv_sub hl [4, 5, 3, 2, 1, 0] rfl)

def j_X9_bears_62 (n : Nat) (x1 : Int32) (x2 : Int32) (M : Mem) : Option ((Int32 × Int32 × Mem) ⊕ (Int32 × Mem)) := some (.inl (x1, (x2 + (1 : Int32)), M))
def b_X9_bears_8 (n : Nat) (q : (Int32 × Int32 × Mem)) : Option ((Int32 × Int32 × Mem) ⊕ (Int32 × Mem)) := match q with
  | (x1, x2, M) => if (gi M 12 (58 : Int32).toNatClampNeg) ≤ (gi M 12 (57 : Int32).toNatClampNeg) then (mr (some (x1, M))) else (bd (f_X9_weightOf n  (54 : Int32) (si M 12 (57 : Int32).toNatClampNeg ((gi M 12 (57 : Int32).toNatClampNeg) + (1 : Int32)))) (fun q2 => bd (f_X9_strengthOf n  (54 : Int32) q2.2) (fun q3 => if q3.1 < (q2.1 + ((gi q2.2 12 (2 : Int32).toNatClampNeg) / (5 : Int32))) then (j_X9_bears_62 n  x1 x2 q3.2) else (j_X9_bears_62 n  x2 x2 q3.2))))
def f_X9_bears (n : Nat) (M : Mem) : Option (Int32 × Mem) := bd (f_X9_tries n   M) (fun q5 => gl (b_X9_bears_8 n ) n ((0 : Int32), (1 : Int32), q5))
set_option maxHeartbeats 4000000 in
set_option maxRecDepth 100000 in
theorem c_X9_bears (l : Launch) (w : Wd) {X : (Nat → Prop) → State → Heap → Prop} (hXk : XOK X) (n : Nat) (M : Mem) (res : Int32 × Mem) (hf : f_X9_bears n   M = some res) : CG l w layM 24 X yX9_bears cX9_bears 3 (some .int) 3 [.ref (w.2.2.1 0)] M (GQi w layM 24 res) := by
  refine cg_start (by decide +kernel) (Nat.le_of_ble_eq_true rfl) ?_
  intro p e s m args below meth c F hr hlk hX hG ls hl
  have F : FX w p m c cX9_bears 3 s args RX9 := F
  have hx := F.1.1
  have hb := F.1.2.1
  have hl : lv_has ls 3 [(0, .ref (w.2.2.1 0))] := hl
  have hJ8 : ∀ (x1 : Int32) (x2 : Int32) (M : Mem) (H : Heap) (locs : List Loc) (ls : Array Slot), gl (b_X9_bears_8 n  ) n (x1, x2, M) = some res → GI w layM 24 s.heap M H locs → lv_has ls 3 [(0, .ref (w.2.2.1 0)), (1, .int x1), (2, .int x2)] → W p l e (Rm 3) s m args below meth c H locs 0 0 (MQ below (GQi w layM 24 res s.heap.size) args s 0 0 (gA w.2.2.1 24 s.heap.size)) (F0 m 8 ls []) := by
    intro x1 x2 M H locs ls hf hG hl
    refine gl_run (P := fun (q : (Int32 × Int32 × Mem)) => ∀ (H : Heap) (locs : List Loc) (ls : Array Slot), GI w layM 24 s.heap q.2.2 H locs → lv_has ls 3 [(0, .ref (w.2.2.1 0)), (1, .int q.1), (2, .int q.2.1)] → W p l e (Rm 3) s m args below meth c H locs 0 0 (MQ below (GQi w layM 24 res s.heap.size) args s 0 0 (gA w.2.2.1 24 s.heap.size)) (F0 m 8 ls [])) ?_ n (x1, x2, M) hf H locs ls hG hl
    clear hf hG hl ls locs H M x1 x2
    rintro ⟨x1, x2, M⟩ rr8 hf hI8 hE8 H locs ls hG hl
    try dsimp only at hG hl ⊢
    have hJ62 : ∀ (x1 : Int32) (x2 : Int32) (M : Mem) (H : Heap) (locs : List Loc) (ls : Array Slot), j_X9_bears_62 n  x1 x2 M = some rr8 → GI w layM 24 s.heap M H locs → lv_has ls 3 [(0, .ref (w.2.2.1 0)), (1, .int x1), (2, .int x2)] → W p l e (Rm 3) s m args below meth c H locs 0 0 (MQ below (GQi w layM 24 res s.heap.size) args s 0 0 (gA w.2.2.1 24 s.heap.size)) (F0 m 62 ls []) := by
      intro x1 x2 M H locs ls hf hG hl
      unfold j_X9_bears_62 at hf
      refine lv_iinc (v := (x2 + (1 : Int32))) (lv' := [(2, .int (x2 + (1 : Int32))), (0, .ref (w.2.2.1 0)), (1, .int x1)]) hx hb dX9_bears_62 hl (k := 2) rfl rfl (by decide) rfl (fun ls hl => ?_)
      refine lv_goto (tgt := 8) hx hb dX9_bears_65 (by decide) ?_
      exact hI8 _ (Option.some.inj hf).symm _ _ ls hG (lv_sub hl [1, 2, 0] rfl)
    dsimp only [b_X9_bears_8] at hf
    refine lv_aload_n hx hb dX9_bears_8 rfl (lv_at hl 0 rfl) ?_
    refine g_getR F hG 12 mo_0 (by decide) (by decide) lk_X9_63 rfl dX9_bears_9 ?_
    refine lv_bipush (v := 57) hx hb dX9_bears_12 (by decide) ?_
    refine g_iald F hG oM_12 (by decide) dX9_bears_14 ?_
    refine lv_aload_n hx hb dX9_bears_15 rfl (lv_at hl 0 rfl) ?_
    refine g_getR F hG 12 mo_0 (by decide) (by decide) lk_X9_63 rfl dX9_bears_16 ?_
    refine lv_bipush (v := 58) hx hb dX9_bears_19 (by decide) ?_
    refine g_iald F hG oM_12 (by decide) dX9_bears_21 ?_
    refine lv_icmp_ge (tgt := 68) hx hb dX9_bears_22 (by decide) (fun c1 => ?_) (fun c1 => ?_)
    · replace hf := if_t c1 hf
      refine lv_iload_n hx hb dX9_bears_68 rfl (lv_at hl 1 rfl) ?_
      replace hf := mr_some hf
      obtain ⟨z8, hf, hz⟩ := hf
      rw [hE8 _ hz] at hf
      exact cg_iret F hr hlk hG hf dX9_bears_69
    · replace hf := if_f c1 hf
      refine lv_aload_n hx hb dX9_bears_25 rfl (lv_at hl 0 rfl) ?_
      refine g_getR F hG 12 mo_0 (by decide) (by decide) lk_X9_63 rfl dX9_bears_26 ?_
      refine lv_bipush (v := 57) hx hb dX9_bears_29 (by decide) ?_
      refine lv_dup2_11 hx hb dX9_bears_31 rfl rfl ?_
      refine g_iald F hG oM_12 (by decide) dX9_bears_32 ?_
      refine lv_iconst (v := 1) hx hb dX9_bears_33 (by decide) ?_
      refine lv_iadd hx hb dX9_bears_34 ?_
      refine g_iast F hG oM_12 (by decide) dX9_bears_35 (fun H locs hG => ?_)
      refine lv_aload_n hx hb dX9_bears_36 rfl (lv_at hl 0 rfl) ?_
      refine lv_bipush (v := 54) hx hb dX9_bears_37 (by decide) ?_
      replace hf := bd_some hf
      obtain ⟨q2, eq2, hf⟩ := hf
      refine gx_calli hG (gx_runV hXk F hX hG (c_X9_weightOf l w hXk n  (54 : Int32) _ _ eq2) cv_X9_327 ⟨Nat.le_of_ble_eq_true rfl, Nat.le_of_ble_eq_true rfl⟩ (g_recv F hG mo_0 (by decide) rfl) rfl hl.1 rfl (Nat.le_of_ble_eq_true rfl) dX9_bears_39 ⟨Nat.le_refl _, Nat.le_refl _⟩) (fun H locs hG => ?_)
      refine lv_aload_n hx hb dX9_bears_42 rfl (lv_at hl 0 rfl) ?_
      refine g_getR F hG 12 mo_0 (by decide) (by decide) lk_X9_63 rfl dX9_bears_43 ?_
      refine lv_iconst (v := 2) hx hb dX9_bears_46 (by decide) ?_
      refine g_iald F hG oM_12 (by decide) dX9_bears_47 ?_
      refine lv_iconst (v := 5) hx hb dX9_bears_48 (by decide) ?_
      refine lv_idiv hx hb dX9_bears_49 (by decide) ?_
      refine lv_iadd hx hb dX9_bears_50 ?_
      refine lv_aload_n hx hb dX9_bears_51 rfl (lv_at hl 0 rfl) ?_
      refine lv_bipush (v := 54) hx hb dX9_bears_52 (by decide) ?_
      replace hf := bd_some hf
      obtain ⟨q3, eq3, hf⟩ := hf
      refine gx_calli hG (gx_runV hXk F hX hG (c_X9_strengthOf l w hXk n  (54 : Int32) _ _ eq3) cv_X9_355 ⟨Nat.le_of_ble_eq_true rfl, Nat.le_of_ble_eq_true rfl⟩ (g_recv F hG mo_0 (by decide) rfl) rfl hl.1 rfl (Nat.le_of_ble_eq_true rfl) dX9_bears_54 ⟨Nat.le_refl _, Nat.le_refl _⟩) (fun H locs hG => ?_)
      refine lv_icmp_gt (tgt := 62) hx hb dX9_bears_57 (by decide) (fun c4 => ?_) (fun c4 => ?_)
      · replace hf := if_t c4 hf
        exact hJ62 _ _ _ _ _ ls hf hG (lv_sub hl [0, 1, 2] rfl)
      · replace hf := if_f c4 hf
        refine lv_iload_n hx hb dX9_bears_60 rfl (lv_at hl 2 rfl) ?_
        refine lv_istore_n (lv' := [(1, .int x2), (0, .ref (w.2.2.1 0)), (2, .int x2)]) hx hb dX9_bears_61 rfl hl (by decide) rfl (fun ls hl => ?_)
        exact hJ62 _ _ _ _ _ ls hf hG (lv_sub hl [1, 0, 2] rfl)
  unfold f_X9_bears at hf
  refine lv_iconst (v := 0) hx hb dX9_bears_0 (by decide) ?_
  refine lv_istore_n (lv' := [(1, .int (0 : Int32)), (0, .ref (w.2.2.1 0))]) hx hb dX9_bears_1 rfl hl (by decide) rfl (fun ls hl => ?_)
  refine lv_aload_n hx hb dX9_bears_2 rfl (lv_at hl 1 rfl) ?_
  replace hf := bd_some hf
  obtain ⟨q5, eq5, hf⟩ := hf
  refine gx_callv hG (gx_runV hXk F hX hG (c_X9_tries l w hXk n   _ _ eq5) cv_X9_367 ⟨Nat.le_of_ble_eq_true rfl, Nat.le_of_ble_eq_true rfl⟩ (g_recv F hG mo_0 (by decide) rfl) rfl hl.1 rfl (Nat.le_of_ble_eq_true rfl) dX9_bears_3 ⟨Nat.le_refl _, Nat.le_refl _⟩) (fun H locs hG => ?_)
  refine lv_iconst (v := 1) hx hb dX9_bears_6 (by decide) ?_
  refine lv_istore_n (lv' := [(2, .int (1 : Int32)), (1, .int (0 : Int32)), (0, .ref (w.2.2.1 0))]) hx hb dX9_bears_7 rfl hl (by decide) rfl (fun ls hl => ?_)
  exact hJ8 _ _ _ _ _ ls hf hG (lv_sub hl [2, 1, 0] rfl)

def f_X9_count (n : Nat) (x1 : Int32) (M : Mem) : Option (Int32 × Mem) := bd (f_X9_within n  x1 (0 : Int32) (21 : Int32) (si M 0 0 (0 : Int32))) (fun q1 => bd (f_X9_right n  q1.1 (1 : Int32) q1.2) (fun q2 => if q2.1 = 0 then (some ((0 : Int32), q2.2)) else (if x1 = (0 : Int32) then (some ((gi q2.2 12 (3 : Int32).toNatClampNeg), q2.2)) else (if x1 = (1 : Int32) then (some (((gi q2.2 12 (4 : Int32).toNatClampNeg) - (gi q2.2 12 (3 : Int32).toNatClampNeg)), q2.2)) else (if x1 = (2 : Int32) then (some ((gi q2.2 0 1), q2.2)) else (if x1 = (3 : Int32) then (some ((gi q2.2 12 (0 : Int32).toNatClampNeg), q2.2)) else (if x1 = (4 : Int32) then (some ((gi q2.2 12 (1 : Int32).toNatClampNeg), q2.2)) else (if x1 = (5 : Int32) then (some ((gi q2.2 12 (2 : Int32).toNatClampNeg), q2.2)) else (if x1 = (6 : Int32) then (bd (f_X9_weightOf n  (0 : Int32) q2.2) (fun q11 => some (q11.1, q11.2))) else (if x1 = (7 : Int32) then (bd (f_X9_strengthOf n  (0 : Int32) q2.2) (fun q13 => some (q13.1, q13.2))) else (if x1 = (8 : Int32) then (bd (f_X9_strengthOf n  (0 : Int32) q2.2) (fun q15 => bd (f_X9_weightOf n  (0 : Int32) q15.2) (fun q16 => some (((q15.1 - q16.1) - ((gi q16.2 12 (2 : Int32).toNatClampNeg) / (5 : Int32))), q16.2)))) else (if x1 = (9 : Int32) then (bd (f_X9_bears n   q2.2) (fun q18 => some (q18.1, q18.2))) else (if x1 = (10 : Int32) then (bd (f_X9_isDone n  (0 : Int32) q2.2) (fun q20 => if q20.1 = 0 then (some ((0 : Int32), q20.2)) else (some ((1 : Int32), q20.2)))) else (if x1 = (11 : Int32) then (some ((gi q2.2 12 (5 : Int32).toNatClampNeg), q2.2)) else (if x1 = (12 : Int32) then (bd (f_X9_parts n   q2.2) (fun q24 => some (q24.1, q24.2))) else (if x1 = (13 : Int32) then (bd (f_X9_even n  (0 : Int32) q2.2) (fun q26 => some (q26.1, q26.2))) else (if x1 = (14 : Int32) then (bd (f_X9_even n  (1 : Int32) q2.2) (fun q28 => some (q28.1, q28.2))) else (if x1 = (15 : Int32) then (bd (f_X9_doubters n  (0 : Int32) q2.2) (fun q30 => some (q30.1, q30.2))) else (if x1 = (16 : Int32) then (some ((gi q2.2 0 46), q2.2)) else (if x1 = (17 : Int32) then (some ((gi q2.2 0 54), q2.2)) else (if x1 = (18 : Int32) then (some ((gi q2.2 0 11), q2.2)) else (ck (inb (x1 - (19 : Int32)) 3) (some ((gi q2.2 4 (x1 - (19 : Int32)).toNatClampNeg), q2.2))))))))))))))))))))))))
set_option maxHeartbeats 4000000 in
set_option maxRecDepth 100000 in
theorem c_X9_count (l : Launch) (w : Wd) {X : (Nat → Prop) → State → Heap → Prop} (hXk : XOK X) (n : Nat) (x1 : Int32) (M : Mem) (res : Int32 × Mem) (hf : f_X9_count n  x1 M = some res) : CG l w layM 24 X yX9_count cX9_count 2 (some .int) 4 [.ref (w.2.2.1 0), .int x1] M (GQi w layM 24 res) := by
  refine cg_start (by decide +kernel) (Nat.le_of_ble_eq_true rfl) ?_
  intro p e s m args below meth c F hr hlk hX hG ls hl
  have F : FX w p m c cX9_count 2 s args RX9 := F
  have hx := F.1.1
  have hb := F.1.2.1
  have hl : lv_has ls 2 [(0, .ref (w.2.2.1 0)), (1, .int x1)] := hl
  unfold f_X9_count at hf
  refine lv_aload_n hx hb dX9_count_0 rfl (lv_at hl 0 rfl) ?_
  refine lv_iconst (v := 0) hx hb dX9_count_1 (by decide) ?_
  refine g_putI F hG mo_0 (by decide) (by decide) lkv_X9_102 rfl rfl rfl dX9_count_2 (fun H locs hG => ?_)
  refine lv_aload_n hx hb dX9_count_5 rfl (lv_at hl 0 rfl) ?_
  refine lv_iload_n hx hb dX9_count_6 rfl (lv_at hl 1 rfl) ?_
  refine lv_iconst (v := 0) hx hb dX9_count_7 (by decide) ?_
  refine lv_bipush (v := 21) hx hb dX9_count_8 (by decide) ?_
  replace hf := bd_some hf
  obtain ⟨q1, eq1, hf⟩ := hf
  refine gx_calli hG (gx_runS hXk F hX hG (c_X9_within l w hXk n  x1 (0 : Int32) (21 : Int32) _ _ eq1) cs_X9_379 ⟨Nat.le_of_ble_eq_true rfl, Nat.le_of_ble_eq_true rfl⟩ rfl hl.1 rfl (Nat.le_of_ble_eq_true rfl) dX9_count_10 ⟨Nat.le_refl _, Nat.le_refl _⟩) (fun H locs hG => ?_)
  refine lv_iconst (v := 1) hx hb dX9_count_13 (by decide) ?_
  replace hf := bd_some hf
  obtain ⟨q2, eq2, hf⟩ := hf
  refine gx_calli hG (gx_runV hXk F hX hG (c_X9_right l w hXk n  q1.1 (1 : Int32) _ _ eq2) cv_X9_284 ⟨Nat.le_of_ble_eq_true rfl, Nat.le_of_ble_eq_true rfl⟩ (g_recv F hG mo_0 (by decide) rfl) rfl hl.1 rfl (Nat.le_of_ble_eq_true rfl) dX9_count_14 ⟨Nat.le_refl _, Nat.le_refl _⟩) (fun H locs hG => ?_)
  refine lv_if_ne (tgt := 22) hx hb dX9_count_17 (by decide) (fun c3 => ?_) (fun c3 => ?_)
  · replace hf := if_f c3 hf
    refine lv_iload_n hx hb dX9_count_22 rfl (lv_at hl 1 rfl) ?_
    by_cases c4 : x1 = (0 : Int32)
    · replace hf := if_t c4 hf
      refine lv_tableIn (off := 89) (tgt := 112) hx hb dX9_count_23 (by rw [c4]; decide) (by rw [c4]; decide) (by rw [c4]; rfl) (by decide) ?_
      refine lv_aload_n hx hb dX9_count_112 rfl (lv_at hl 0 rfl) ?_
      refine g_getR F hG 12 mo_0 (by decide) (by decide) lk_X9_63 rfl dX9_count_113 ?_
      refine lv_iconst (v := 3) hx hb dX9_count_116 (by decide) ?_
      refine g_iald F hG oM_12 (by decide) dX9_count_117 ?_
      exact cg_iret F hr hlk hG hf dX9_count_118
    replace hf := if_f c4 hf
    by_cases c5 : x1 = (1 : Int32)
    · replace hf := if_t c5 hf
      refine lv_tableIn (off := 96) (tgt := 119) hx hb dX9_count_23 (by rw [c5]; decide) (by rw [c5]; decide) (by rw [c5]; rfl) (by decide) ?_
      refine lv_aload_n hx hb dX9_count_119 rfl (lv_at hl 0 rfl) ?_
      refine g_getR F hG 12 mo_0 (by decide) (by decide) lk_X9_63 rfl dX9_count_120 ?_
      refine lv_iconst (v := 4) hx hb dX9_count_123 (by decide) ?_
      refine g_iald F hG oM_12 (by decide) dX9_count_124 ?_
      refine lv_aload_n hx hb dX9_count_125 rfl (lv_at hl 0 rfl) ?_
      refine g_getR F hG 12 mo_0 (by decide) (by decide) lk_X9_63 rfl dX9_count_126 ?_
      refine lv_iconst (v := 3) hx hb dX9_count_129 (by decide) ?_
      refine g_iald F hG oM_12 (by decide) dX9_count_130 ?_
      refine lv_isub hx hb dX9_count_131 ?_
      exact cg_iret F hr hlk hG hf dX9_count_132
    replace hf := if_f c5 hf
    by_cases c6 : x1 = (2 : Int32)
    · replace hf := if_t c6 hf
      refine lv_tableIn (off := 110) (tgt := 133) hx hb dX9_count_23 (by rw [c6]; decide) (by rw [c6]; decide) (by rw [c6]; rfl) (by decide) ?_
      refine lv_aload_n hx hb dX9_count_133 rfl (lv_at hl 0 rfl) ?_
      refine g_getI F hG mo_0 (by decide) (by decide) lk_X9_291 rfl dX9_count_134 ?_
      exact cg_iret F hr hlk hG hf dX9_count_137
    replace hf := if_f c6 hf
    by_cases c7 : x1 = (3 : Int32)
    · replace hf := if_t c7 hf
      refine lv_tableIn (off := 115) (tgt := 138) hx hb dX9_count_23 (by rw [c7]; decide) (by rw [c7]; decide) (by rw [c7]; rfl) (by decide) ?_
      refine lv_aload_n hx hb dX9_count_138 rfl (lv_at hl 0 rfl) ?_
      refine g_getR F hG 12 mo_0 (by decide) (by decide) lk_X9_63 rfl dX9_count_139 ?_
      refine lv_iconst (v := 0) hx hb dX9_count_142 (by decide) ?_
      refine g_iald F hG oM_12 (by decide) dX9_count_143 ?_
      exact cg_iret F hr hlk hG hf dX9_count_144
    replace hf := if_f c7 hf
    by_cases c8 : x1 = (4 : Int32)
    · replace hf := if_t c8 hf
      refine lv_tableIn (off := 122) (tgt := 145) hx hb dX9_count_23 (by rw [c8]; decide) (by rw [c8]; decide) (by rw [c8]; rfl) (by decide) ?_
      refine lv_aload_n hx hb dX9_count_145 rfl (lv_at hl 0 rfl) ?_
      refine g_getR F hG 12 mo_0 (by decide) (by decide) lk_X9_63 rfl dX9_count_146 ?_
      refine lv_iconst (v := 1) hx hb dX9_count_149 (by decide) ?_
      refine g_iald F hG oM_12 (by decide) dX9_count_150 ?_
      exact cg_iret F hr hlk hG hf dX9_count_151
    replace hf := if_f c8 hf
    by_cases c9 : x1 = (5 : Int32)
    · replace hf := if_t c9 hf
      refine lv_tableIn (off := 129) (tgt := 152) hx hb dX9_count_23 (by rw [c9]; decide) (by rw [c9]; decide) (by rw [c9]; rfl) (by decide) ?_
      refine lv_aload_n hx hb dX9_count_152 rfl (lv_at hl 0 rfl) ?_
      refine g_getR F hG 12 mo_0 (by decide) (by decide) lk_X9_63 rfl dX9_count_153 ?_
      refine lv_iconst (v := 2) hx hb dX9_count_156 (by decide) ?_
      refine g_iald F hG oM_12 (by decide) dX9_count_157 ?_
      exact cg_iret F hr hlk hG hf dX9_count_158
    replace hf := if_f c9 hf
    by_cases c10 : x1 = (6 : Int32)
    · replace hf := if_t c10 hf
      refine lv_tableIn (off := 136) (tgt := 159) hx hb dX9_count_23 (by rw [c10]; decide) (by rw [c10]; decide) (by rw [c10]; rfl) (by decide) ?_
      refine lv_aload_n hx hb dX9_count_159 rfl (lv_at hl 0 rfl) ?_
      refine lv_iconst (v := 0) hx hb dX9_count_160 (by decide) ?_
      replace hf := bd_some hf
      obtain ⟨q11, eq11, hf⟩ := hf
      refine gx_calli hG (gx_runV hXk F hX hG (c_X9_weightOf l w hXk n  (0 : Int32) _ _ eq11) cv_X9_327 ⟨Nat.le_of_ble_eq_true rfl, Nat.le_of_ble_eq_true rfl⟩ (g_recv F hG mo_0 (by decide) rfl) rfl hl.1 rfl (Nat.le_of_ble_eq_true rfl) dX9_count_161 ⟨Nat.le_refl _, Nat.le_refl _⟩) (fun H locs hG => ?_)
      exact cg_iret F hr hlk hG hf dX9_count_164
    replace hf := if_f c10 hf
    by_cases c12 : x1 = (7 : Int32)
    · replace hf := if_t c12 hf
      refine lv_tableIn (off := 142) (tgt := 165) hx hb dX9_count_23 (by rw [c12]; decide) (by rw [c12]; decide) (by rw [c12]; rfl) (by decide) ?_
      refine lv_aload_n hx hb dX9_count_165 rfl (lv_at hl 0 rfl) ?_
      refine lv_iconst (v := 0) hx hb dX9_count_166 (by decide) ?_
      replace hf := bd_some hf
      obtain ⟨q13, eq13, hf⟩ := hf
      refine gx_calli hG (gx_runV hXk F hX hG (c_X9_strengthOf l w hXk n  (0 : Int32) _ _ eq13) cv_X9_355 ⟨Nat.le_of_ble_eq_true rfl, Nat.le_of_ble_eq_true rfl⟩ (g_recv F hG mo_0 (by decide) rfl) rfl hl.1 rfl (Nat.le_of_ble_eq_true rfl) dX9_count_167 ⟨Nat.le_refl _, Nat.le_refl _⟩) (fun H locs hG => ?_)
      exact cg_iret F hr hlk hG hf dX9_count_170
    replace hf := if_f c12 hf
    by_cases c14 : x1 = (8 : Int32)
    · replace hf := if_t c14 hf
      refine lv_tableIn (off := 148) (tgt := 171) hx hb dX9_count_23 (by rw [c14]; decide) (by rw [c14]; decide) (by rw [c14]; rfl) (by decide) ?_
      refine lv_aload_n hx hb dX9_count_171 rfl (lv_at hl 0 rfl) ?_
      refine lv_iconst (v := 0) hx hb dX9_count_172 (by decide) ?_
      replace hf := bd_some hf
      obtain ⟨q15, eq15, hf⟩ := hf
      refine gx_calli hG (gx_runV hXk F hX hG (c_X9_strengthOf l w hXk n  (0 : Int32) _ _ eq15) cv_X9_355 ⟨Nat.le_of_ble_eq_true rfl, Nat.le_of_ble_eq_true rfl⟩ (g_recv F hG mo_0 (by decide) rfl) rfl hl.1 rfl (Nat.le_of_ble_eq_true rfl) dX9_count_173 ⟨Nat.le_refl _, Nat.le_refl _⟩) (fun H locs hG => ?_)
      refine lv_aload_n hx hb dX9_count_176 rfl (lv_at hl 0 rfl) ?_
      refine lv_iconst (v := 0) hx hb dX9_count_177 (by decide) ?_
      replace hf := bd_some hf
      obtain ⟨q16, eq16, hf⟩ := hf
      refine gx_calli hG (gx_runV hXk F hX hG (c_X9_weightOf l w hXk n  (0 : Int32) _ _ eq16) cv_X9_327 ⟨Nat.le_of_ble_eq_true rfl, Nat.le_of_ble_eq_true rfl⟩ (g_recv F hG mo_0 (by decide) rfl) rfl hl.1 rfl (Nat.le_of_ble_eq_true rfl) dX9_count_178 ⟨Nat.le_refl _, Nat.le_refl _⟩) (fun H locs hG => ?_)
      refine lv_isub hx hb dX9_count_181 ?_
      refine lv_aload_n hx hb dX9_count_182 rfl (lv_at hl 0 rfl) ?_
      refine g_getR F hG 12 mo_0 (by decide) (by decide) lk_X9_63 rfl dX9_count_183 ?_
      refine lv_iconst (v := 2) hx hb dX9_count_186 (by decide) ?_
      refine g_iald F hG oM_12 (by decide) dX9_count_187 ?_
      refine lv_iconst (v := 5) hx hb dX9_count_188 (by decide) ?_
      refine lv_idiv hx hb dX9_count_189 (by decide) ?_
      refine lv_isub hx hb dX9_count_190 ?_
      exact cg_iret F hr hlk hG hf dX9_count_191
    replace hf := if_f c14 hf
    by_cases c17 : x1 = (9 : Int32)
    · replace hf := if_t c17 hf
      refine lv_tableIn (off := 169) (tgt := 192) hx hb dX9_count_23 (by rw [c17]; decide) (by rw [c17]; decide) (by rw [c17]; rfl) (by decide) ?_
      refine lv_aload_n hx hb dX9_count_192 rfl (lv_at hl 0 rfl) ?_
      replace hf := bd_some hf
      obtain ⟨q18, eq18, hf⟩ := hf
      refine gx_calli hG (gx_runV hXk F hX hG (c_X9_bears l w hXk n   _ _ eq18) cv_X9_383 ⟨Nat.le_of_ble_eq_true rfl, Nat.le_of_ble_eq_true rfl⟩ (g_recv F hG mo_0 (by decide) rfl) rfl hl.1 rfl (Nat.le_of_ble_eq_true rfl) dX9_count_193 ⟨Nat.le_refl _, Nat.le_refl _⟩) (fun H locs hG => ?_)
      exact cg_iret F hr hlk hG hf dX9_count_196
    replace hf := if_f c17 hf
    by_cases c19 : x1 = (10 : Int32)
    · replace hf := if_t c19 hf
      refine lv_tableIn (off := 174) (tgt := 197) hx hb dX9_count_23 (by rw [c19]; decide) (by rw [c19]; decide) (by rw [c19]; rfl) (by decide) ?_
      refine lv_aload_n hx hb dX9_count_197 rfl (lv_at hl 0 rfl) ?_
      refine lv_iconst (v := 0) hx hb dX9_count_198 (by decide) ?_
      replace hf := bd_some hf
      obtain ⟨q20, eq20, hf⟩ := hf
      refine gx_calli hG (gx_runV hXk F hX hG (c_X9_isDone l w hXk n  (0 : Int32) _ _ eq20) cv_X9_352 ⟨Nat.le_of_ble_eq_true rfl, Nat.le_of_ble_eq_true rfl⟩ (g_recv F hG mo_0 (by decide) rfl) rfl hl.1 rfl (Nat.le_of_ble_eq_true rfl) dX9_count_199 ⟨Nat.le_refl _, Nat.le_refl _⟩) (fun H locs hG => ?_)
      refine lv_if_eq (tgt := 209) hx hb dX9_count_202 (by decide) (fun c21 => ?_) (fun c21 => ?_)
      · replace hf := if_t c21 hf
        refine lv_iconst (v := 0) hx hb dX9_count_209 (by decide) ?_
        exact cg_iret F hr hlk hG hf dX9_count_210
      · replace hf := if_f c21 hf
        refine lv_iconst (v := 1) hx hb dX9_count_205 (by decide) ?_
        refine lv_goto (tgt := 210) hx hb dX9_count_206 (by decide) ?_
        exact cg_iret F hr hlk hG hf dX9_count_210
    replace hf := if_f c19 hf
    by_cases c22 : x1 = (11 : Int32)
    · replace hf := if_t c22 hf
      refine lv_tableIn (off := 188) (tgt := 211) hx hb dX9_count_23 (by rw [c22]; decide) (by rw [c22]; decide) (by rw [c22]; rfl) (by decide) ?_
      refine lv_aload_n hx hb dX9_count_211 rfl (lv_at hl 0 rfl) ?_
      refine g_getR F hG 12 mo_0 (by decide) (by decide) lk_X9_63 rfl dX9_count_212 ?_
      refine lv_iconst (v := 5) hx hb dX9_count_215 (by decide) ?_
      refine g_iald F hG oM_12 (by decide) dX9_count_216 ?_
      exact cg_iret F hr hlk hG hf dX9_count_217
    replace hf := if_f c22 hf
    by_cases c23 : x1 = (12 : Int32)
    · replace hf := if_t c23 hf
      refine lv_tableIn (off := 195) (tgt := 218) hx hb dX9_count_23 (by rw [c23]; decide) (by rw [c23]; decide) (by rw [c23]; rfl) (by decide) ?_
      refine lv_aload_n hx hb dX9_count_218 rfl (lv_at hl 0 rfl) ?_
      replace hf := bd_some hf
      obtain ⟨q24, eq24, hf⟩ := hf
      refine gx_calli hG (gx_runV hXk F hX hG (c_X9_parts l w hXk n   _ _ eq24) cv_X9_386 ⟨Nat.le_of_ble_eq_true rfl, Nat.le_of_ble_eq_true rfl⟩ (g_recv F hG mo_0 (by decide) rfl) rfl hl.1 rfl (Nat.le_of_ble_eq_true rfl) dX9_count_219 ⟨Nat.le_refl _, Nat.le_refl _⟩) (fun H locs hG => ?_)
      exact cg_iret F hr hlk hG hf dX9_count_222
    replace hf := if_f c23 hf
    by_cases c25 : x1 = (13 : Int32)
    · replace hf := if_t c25 hf
      refine lv_tableIn (off := 200) (tgt := 223) hx hb dX9_count_23 (by rw [c25]; decide) (by rw [c25]; decide) (by rw [c25]; rfl) (by decide) ?_
      refine lv_aload_n hx hb dX9_count_223 rfl (lv_at hl 0 rfl) ?_
      refine lv_iconst (v := 0) hx hb dX9_count_224 (by decide) ?_
      replace hf := bd_some hf
      obtain ⟨q26, eq26, hf⟩ := hf
      refine gx_calli hG (gx_runV hXk F hX hG (c_X9_even l w hXk n  (0 : Int32) _ _ eq26) cv_X9_389 ⟨Nat.le_of_ble_eq_true rfl, Nat.le_of_ble_eq_true rfl⟩ (g_recv F hG mo_0 (by decide) rfl) rfl hl.1 rfl (Nat.le_of_ble_eq_true rfl) dX9_count_225 ⟨Nat.le_refl _, Nat.le_refl _⟩) (fun H locs hG => ?_)
      exact cg_iret F hr hlk hG hf dX9_count_228
    replace hf := if_f c25 hf
    by_cases c27 : x1 = (14 : Int32)
    · replace hf := if_t c27 hf
      refine lv_tableIn (off := 206) (tgt := 229) hx hb dX9_count_23 (by rw [c27]; decide) (by rw [c27]; decide) (by rw [c27]; rfl) (by decide) ?_
      refine lv_aload_n hx hb dX9_count_229 rfl (lv_at hl 0 rfl) ?_
      refine lv_iconst (v := 1) hx hb dX9_count_230 (by decide) ?_
      replace hf := bd_some hf
      obtain ⟨q28, eq28, hf⟩ := hf
      refine gx_calli hG (gx_runV hXk F hX hG (c_X9_even l w hXk n  (1 : Int32) _ _ eq28) cv_X9_389 ⟨Nat.le_of_ble_eq_true rfl, Nat.le_of_ble_eq_true rfl⟩ (g_recv F hG mo_0 (by decide) rfl) rfl hl.1 rfl (Nat.le_of_ble_eq_true rfl) dX9_count_231 ⟨Nat.le_refl _, Nat.le_refl _⟩) (fun H locs hG => ?_)
      exact cg_iret F hr hlk hG hf dX9_count_234
    replace hf := if_f c27 hf
    by_cases c29 : x1 = (15 : Int32)
    · replace hf := if_t c29 hf
      refine lv_tableIn (off := 212) (tgt := 235) hx hb dX9_count_23 (by rw [c29]; decide) (by rw [c29]; decide) (by rw [c29]; rfl) (by decide) ?_
      refine lv_aload_n hx hb dX9_count_235 rfl (lv_at hl 0 rfl) ?_
      refine lv_iconst (v := 0) hx hb dX9_count_236 (by decide) ?_
      replace hf := bd_some hf
      obtain ⟨q30, eq30, hf⟩ := hf
      refine gx_calli hG (gx_runV hXk F hX hG (c_X9_doubters l w hXk n  (0 : Int32) _ _ eq30) cv_X9_393 ⟨Nat.le_of_ble_eq_true rfl, Nat.le_of_ble_eq_true rfl⟩ (g_recv F hG mo_0 (by decide) rfl) rfl hl.1 rfl (Nat.le_of_ble_eq_true rfl) dX9_count_237 ⟨Nat.le_refl _, Nat.le_refl _⟩) (fun H locs hG => ?_)
      exact cg_iret F hr hlk hG hf dX9_count_240
    replace hf := if_f c29 hf
    by_cases c31 : x1 = (16 : Int32)
    · replace hf := if_t c31 hf
      refine lv_tableIn (off := 218) (tgt := 241) hx hb dX9_count_23 (by rw [c31]; decide) (by rw [c31]; decide) (by rw [c31]; rfl) (by decide) ?_
      refine lv_aload_n hx hb dX9_count_241 rfl (lv_at hl 0 rfl) ?_
      refine g_getI F hG mo_0 (by decide) (by decide) lk_X9_301 rfl dX9_count_242 ?_
      exact cg_iret F hr hlk hG hf dX9_count_245
    replace hf := if_f c31 hf
    by_cases c32 : x1 = (17 : Int32)
    · replace hf := if_t c32 hf
      refine lv_tableIn (off := 223) (tgt := 246) hx hb dX9_count_23 (by rw [c32]; decide) (by rw [c32]; decide) (by rw [c32]; rfl) (by decide) ?_
      refine lv_aload_n hx hb dX9_count_246 rfl (lv_at hl 0 rfl) ?_
      refine g_getI F hG mo_0 (by decide) (by decide) lk_X9_304 rfl dX9_count_247 ?_
      exact cg_iret F hr hlk hG hf dX9_count_250
    replace hf := if_f c32 hf
    by_cases c33 : x1 = (18 : Int32)
    · replace hf := if_t c33 hf
      refine lv_tableIn (off := 228) (tgt := 251) hx hb dX9_count_23 (by rw [c33]; decide) (by rw [c33]; decide) (by rw [c33]; rfl) (by decide) ?_
      refine lv_aload_n hx hb dX9_count_251 rfl (lv_at hl 0 rfl) ?_
      refine g_getI F hG mo_0 (by decide) (by decide) lk_X9_105 rfl dX9_count_252 ?_
      exact cg_iret F hr hlk hG hf dX9_count_255
    replace hf := if_f c33 hf
    refine lv_tableOut (tgt := 256) hx hb dX9_count_23 (sw_out (0) (18) 19 (by decide) (fun k hk => match k, hk with | 0, _ => c4 | 1, _ => c5 | 2, _ => c6 | 3, _ => c7 | 4, _ => c8 | 5, _ => c9 | 6, _ => c10 | 7, _ => c12 | 8, _ => c14 | 9, _ => c17 | 10, _ => c19 | 11, _ => c22 | 12, _ => c23 | 13, _ => c25 | 14, _ => c27 | 15, _ => c29 | 16, _ => c31 | 17, _ => c32 | 18, _ => c33 | k + 19, h => absurd h (by omega))) (by decide) ?_
    refine lv_aload_n hx hb dX9_count_256 rfl (lv_at hl 0 rfl) ?_
    refine g_getR F hG 4 mo_0 (by decide) (by decide) lk_X9_38 rfl dX9_count_257 ?_
    refine lv_iload_n hx hb dX9_count_260 rfl (lv_at hl 1 rfl) ?_
    refine lv_bipush (v := 19) hx hb dX9_count_261 (by decide) ?_
    refine lv_isub hx hb dX9_count_263 ?_
    replace hf := ck_some hf
    obtain ⟨k34, hf⟩ := hf
    refine g_iald F hG oM_4 k34 dX9_count_264 ?_
    exact cg_iret F hr hlk hG hf dX9_count_265
  · replace hf := if_t c3 hf
    refine lv_iconst (v := 0) hx hb dX9_count_20 (by decide) ?_
    exact cg_iret F hr hlk hG hf dX9_count_21

def j_X9_isWard_18 (n : Nat) (t0 : Int32) (M : Mem) : Option (Int32 × Mem) := bd (f_X9_right n  t0 (1 : Int32) M) (fun q1 => ck (q1.1 = 0 ∨ q1.1 = 1) (some (q1.1, q1.2)))
def j_X9_isWard_17 (n : Nat) (M : Mem) : Option (Int32 × Mem) := j_X9_isWard_18 n  (0 : Int32) M
def f_X9_isWard (n : Nat) (x1 : Int32) (M : Mem) : Option (Int32 × Mem) := if x1 < 0 then (j_X9_isWard_17 n  M) else (if (gi M 0 1) ≤ x1 then (j_X9_isWard_17 n  M) else (j_X9_isWard_18 n  (1 : Int32) M))
set_option maxHeartbeats 4000000 in
set_option maxRecDepth 100000 in
theorem c_X9_isWard (l : Launch) (w : Wd) {X : (Nat → Prop) → State → Heap → Prop} (hXk : XOK X) (n : Nat) (x1 : Int32) (M : Mem) (res : Int32 × Mem) (hf : f_X9_isWard n  x1 M = some res) : CG l w layM 24 X yX9_isWard cX9_isWard 2 (some .boolean) 1 [.ref (w.2.2.1 0), .int x1] M (GQi w layM 24 res) := by
  refine cg_start (by decide +kernel) (Nat.le_of_ble_eq_true rfl) ?_
  intro p e s m args below meth c F hr hlk hX hG ls hl
  have F : FX w p m c cX9_isWard 2 s args RX9 := F
  have hx := F.1.1
  have hb := F.1.2.1
  have hl : lv_has ls 2 [(0, .ref (w.2.2.1 0)), (1, .int x1)] := hl
  have hJ18 : ∀ (t0 : Int32) (M : Mem) (H : Heap) (locs : List Loc) (ls : Array Slot), j_X9_isWard_18 n  t0 M = some res → GI w layM 24 s.heap M H locs → lv_has ls 2 [] → W p l e (Rm 1) s m args below meth c H locs 0 0 (MQ below (GQi w layM 24 res s.heap.size) args s 0 0 (gA w.2.2.1 24 s.heap.size)) (F0 m 18 ls [.int t0, .ref (w.2.2.1 0)]) := by
    intro t0 M H locs ls hf hG hl
    unfold j_X9_isWard_18 at hf
    refine lv_iconst (v := 1) hx hb dX9_isWard_18 (by decide) ?_
    replace hf := bd_some hf
    obtain ⟨q1, eq1, hf⟩ := hf
    refine gx_calli hG (gx_runV hXk F hX hG (c_X9_right l w hXk n  t0 (1 : Int32) _ _ eq1) cv_X9_284 ⟨Nat.le_of_ble_eq_true rfl, Nat.le_of_ble_eq_true rfl⟩ (g_recv F hG mo_0 (by decide) rfl) rfl hl.1 rfl (Nat.le_of_ble_eq_true rfl) dX9_isWard_19 ⟨Nat.le_refl _, Nat.le_refl _⟩) (fun H locs hG => ?_)
    replace hf := ck_some hf
    obtain ⟨k2, hf⟩ := hf
    exact cg_zret F hr hlk hG hf k2 dX9_isWard_22
  have hJ17 : ∀ (M : Mem) (H : Heap) (locs : List Loc) (ls : Array Slot), j_X9_isWard_17 n   M = some res → GI w layM 24 s.heap M H locs → lv_has ls 2 [] → W p l e (Rm 1) s m args below meth c H locs 0 0 (MQ below (GQi w layM 24 res s.heap.size) args s 0 0 (gA w.2.2.1 24 s.heap.size)) (F0 m 17 ls [.ref (w.2.2.1 0)]) := by
    intro  M H locs ls hf hG hl
    unfold j_X9_isWard_17 at hf
    refine lv_iconst (v := 0) hx hb dX9_isWard_17 (by decide) ?_
    exact hJ18 _ _ _ _ ls hf hG (lv_sub hl [] rfl)
  unfold f_X9_isWard at hf
  refine lv_aload_n hx hb dX9_isWard_0 rfl (lv_at hl 0 rfl) ?_
  refine lv_iload_n hx hb dX9_isWard_1 rfl (lv_at hl 1 rfl) ?_
  refine lv_if_lt (tgt := 17) hx hb dX9_isWard_2 (by decide) (fun c3 => ?_) (fun c3 => ?_)
  · replace hf := if_t c3 hf
    exact hJ17  _ _ _ ls hf hG (lv_sub hl [] rfl)
  · replace hf := if_f c3 hf
    refine lv_iload_n hx hb dX9_isWard_5 rfl (lv_at hl 1 rfl) ?_
    refine lv_aload_n hx hb dX9_isWard_6 rfl (lv_at hl 0 rfl) ?_
    refine g_getI F hG mo_0 (by decide) (by decide) lk_X9_291 rfl dX9_isWard_7 ?_
    refine lv_icmp_ge (tgt := 17) hx hb dX9_isWard_10 (by decide) (fun c4 => ?_) (fun c4 => ?_)
    · replace hf := if_t c4 hf
      exact hJ17  _ _ _ ls hf hG (lv_sub hl [] rfl)
    · replace hf := if_f c4 hf
      refine lv_iconst (v := 1) hx hb dX9_isWard_13 (by decide) ?_
      refine lv_goto (tgt := 18) hx hb dX9_isWard_14 (by decide) ?_
      exact hJ18 _ _ _ _ ls hf hG (lv_sub hl [] rfl)

def f_X9_isWhat (n : Nat) (x1 : Int32) (x2 : Int32) (M : Mem) : Option (Int32 × Mem) := bd (f_X9_within n  x1 (0 : Int32) x2 M) (fun q1 => bd (f_X9_right n  q1.1 (1 : Int32) q1.2) (fun q2 => ck (q2.1 = 0 ∨ q2.1 = 1) (some (q2.1, q2.2))))
set_option maxHeartbeats 4000000 in
set_option maxRecDepth 100000 in
theorem c_X9_isWhat (l : Launch) (w : Wd) {X : (Nat → Prop) → State → Heap → Prop} (hXk : XOK X) (n : Nat) (x1 : Int32) (x2 : Int32) (M : Mem) (res : Int32 × Mem) (hf : f_X9_isWhat n  x1 x2 M = some res) : CG l w layM 24 X yX9_isWhat cX9_isWhat 3 (some .boolean) 1 [.ref (w.2.2.1 0), .int x1, .int x2] M (GQi w layM 24 res) := by
  refine cg_start (by decide +kernel) (Nat.le_of_ble_eq_true rfl) ?_
  intro p e s m args below meth c F hr hlk hX hG ls hl
  have F : FX w p m c cX9_isWhat 3 s args RX9 := F
  have hx := F.1.1
  have hb := F.1.2.1
  have hl : lv_has ls 3 [(0, .ref (w.2.2.1 0)), (1, .int x1), (2, .int x2)] := hl
  unfold f_X9_isWhat at hf
  refine lv_aload_n hx hb dX9_isWhat_0 rfl (lv_at hl 0 rfl) ?_
  refine lv_iload_n hx hb dX9_isWhat_1 rfl (lv_at hl 1 rfl) ?_
  refine lv_iconst (v := 0) hx hb dX9_isWhat_2 (by decide) ?_
  refine lv_iload_n hx hb dX9_isWhat_3 rfl (lv_at hl 2 rfl) ?_
  replace hf := bd_some hf
  obtain ⟨q1, eq1, hf⟩ := hf
  refine gx_calli hG (gx_runS hXk F hX hG (c_X9_within l w hXk n  x1 (0 : Int32) x2 _ _ eq1) cs_X9_379 ⟨Nat.le_of_ble_eq_true rfl, Nat.le_of_ble_eq_true rfl⟩ rfl hl.1 rfl (Nat.le_of_ble_eq_true rfl) dX9_isWhat_4 ⟨Nat.le_refl _, Nat.le_refl _⟩) (fun H locs hG => ?_)
  refine lv_iconst (v := 1) hx hb dX9_isWhat_7 (by decide) ?_
  replace hf := bd_some hf
  obtain ⟨q2, eq2, hf⟩ := hf
  refine gx_calli hG (gx_runV hXk F hX hG (c_X9_right l w hXk n  q1.1 (1 : Int32) _ _ eq2) cv_X9_284 ⟨Nat.le_of_ble_eq_true rfl, Nat.le_of_ble_eq_true rfl⟩ (g_recv F hG mo_0 (by decide) rfl) rfl hl.1 rfl (Nat.le_of_ble_eq_true rfl) dX9_isWhat_8 ⟨Nat.le_refl _, Nat.le_refl _⟩) (fun H locs hG => ?_)
  replace hf := ck_some hf
  obtain ⟨k3, hf⟩ := hf
  exact cg_zret F hr hlk hG hf k3 dX9_isWhat_11

def f_X9_isSoon (n : Nat) (x1 : Int32) (x2 : Int32) (x3 : Int32) (M : Mem) : Option (Int32 × Mem) := bd (f_X9_within n  x1 x2 (60 : Int32) M) (fun q1 => bd (f_X9_right n  q1.1 x3 q1.2) (fun q2 => ck (q2.1 = 0 ∨ q2.1 = 1) (some (q2.1, q2.2))))
set_option maxHeartbeats 4000000 in
set_option maxRecDepth 100000 in
theorem c_X9_isSoon (l : Launch) (w : Wd) {X : (Nat → Prop) → State → Heap → Prop} (hXk : XOK X) (n : Nat) (x1 : Int32) (x2 : Int32) (x3 : Int32) (M : Mem) (res : Int32 × Mem) (hf : f_X9_isSoon n  x1 x2 x3 M = some res) : CG l w layM 24 X yX9_isSoon cX9_isSoon 4 (some .boolean) 1 [.ref (w.2.2.1 0), .int x1, .int x2, .int x3] M (GQi w layM 24 res) := by
  refine cg_start (by decide +kernel) (Nat.le_of_ble_eq_true rfl) ?_
  intro p e s m args below meth c F hr hlk hX hG ls hl
  have F : FX w p m c cX9_isSoon 4 s args RX9 := F
  have hx := F.1.1
  have hb := F.1.2.1
  have hl : lv_has ls 4 [(0, .ref (w.2.2.1 0)), (1, .int x1), (2, .int x2), (3, .int x3)] := hl
  unfold f_X9_isSoon at hf
  refine lv_aload_n hx hb dX9_isSoon_0 rfl (lv_at hl 0 rfl) ?_
  refine lv_iload_n hx hb dX9_isSoon_1 rfl (lv_at hl 1 rfl) ?_
  refine lv_iload_n hx hb dX9_isSoon_2 rfl (lv_at hl 2 rfl) ?_
  refine lv_bipush (v := 60) hx hb dX9_isSoon_3 (by decide) ?_
  replace hf := bd_some hf
  obtain ⟨q1, eq1, hf⟩ := hf
  refine gx_calli hG (gx_runS hXk F hX hG (c_X9_within l w hXk n  x1 x2 (60 : Int32) _ _ eq1) cs_X9_379 ⟨Nat.le_of_ble_eq_true rfl, Nat.le_of_ble_eq_true rfl⟩ rfl hl.1 rfl (Nat.le_of_ble_eq_true rfl) dX9_isSoon_5 ⟨Nat.le_refl _, Nat.le_refl _⟩) (fun H locs hG => ?_)
  refine lv_iload_n hx hb dX9_isSoon_8 rfl (lv_at hl 3 rfl) ?_
  replace hf := bd_some hf
  obtain ⟨q2, eq2, hf⟩ := hf
  refine gx_calli hG (gx_runV hXk F hX hG (c_X9_right l w hXk n  q1.1 x3 _ _ eq2) cv_X9_284 ⟨Nat.le_of_ble_eq_true rfl, Nat.le_of_ble_eq_true rfl⟩ (g_recv F hG mo_0 (by decide) rfl) rfl hl.1 rfl (Nat.le_of_ble_eq_true rfl) dX9_isSoon_9 ⟨Nat.le_refl _, Nat.le_refl _⟩) (fun H locs hG => ?_)
  replace hf := ck_some hf
  obtain ⟨k3, hf⟩ := hf
  exact cg_zret F hr hlk hG hf k3 dX9_isSoon_12

def j_X9_course_25 (n : Nat) (t0 : Int32) (x1 : Int32) (x2 : Int32) (M : Mem) : Option (Int32 × Mem) := bd (f_X9_right n  t0 (1 : Int32) M) (fun q1 => if q1.1 = 0 then (some ((0 : Int32), q1.2)) else (bd (f_X9_isWhat n  x2 (2 : Int32) q1.2) (fun q3 => if q3.1 = 0 then (some ((0 : Int32), q3.2)) else (if x2 = 0 then (ck (inb ((6 : Int32) + x1) 108) (some ((gi q3.2 12 ((6 : Int32) + x1).toNatClampNeg), q3.2))) else (if x2 = (1 : Int32) then (ck (inb ((22 : Int32) + x1) 108) (some ((gi q3.2 12 ((22 : Int32) + x1).toNatClampNeg), q3.2))) else (if (gi q3.2 12 (3 : Int32).toNatClampNeg) ≤ x1 then (some ((0 : Int32), q3.2)) else (some ((1 : Int32), q3.2))))))))
def j_X9_course_24 (n : Nat) (x1 : Int32) (x2 : Int32) (M : Mem) : Option (Int32 × Mem) := j_X9_course_25 n  (0 : Int32) x1 x2 M
def f_X9_course (n : Nat) (x1 : Int32) (x2 : Int32) (M : Mem) : Option (Int32 × Mem) := if x1 < 0 then (j_X9_course_24 n  x1 x2 (si M 0 0 (0 : Int32))) else (if (gi (si M 0 0 (0 : Int32)) 12 (4 : Int32).toNatClampNeg) ≤ x1 then (j_X9_course_24 n  x1 x2 (si M 0 0 (0 : Int32))) else (j_X9_course_25 n  (1 : Int32) x1 x2 (si M 0 0 (0 : Int32))))
set_option maxHeartbeats 4000000 in
set_option maxRecDepth 100000 in
theorem c_X9_course (l : Launch) (w : Wd) {X : (Nat → Prop) → State → Heap → Prop} (hXk : XOK X) (n : Nat) (x1 : Int32) (x2 : Int32) (M : Mem) (res : Int32 × Mem) (hf : f_X9_course n  x1 x2 M = some res) : CG l w layM 24 X yX9_course cX9_course 3 (some .int) 2 [.ref (w.2.2.1 0), .int x1, .int x2] M (GQi w layM 24 res) := by
  refine cg_start (by decide +kernel) (Nat.le_of_ble_eq_true rfl) ?_
  intro p e s m args below meth c F hr hlk hX hG ls hl
  have F : FX w p m c cX9_course 3 s args RX9 := F
  have hx := F.1.1
  have hb := F.1.2.1
  have hl : lv_has ls 3 [(0, .ref (w.2.2.1 0)), (1, .int x1), (2, .int x2)] := hl
  have hJ25 : ∀ (t0 : Int32) (x1 : Int32) (x2 : Int32) (M : Mem) (H : Heap) (locs : List Loc) (ls : Array Slot), j_X9_course_25 n  t0 x1 x2 M = some res → GI w layM 24 s.heap M H locs → lv_has ls 3 [(0, .ref (w.2.2.1 0)), (1, .int x1), (2, .int x2)] → W p l e (Rm 2) s m args below meth c H locs 0 0 (MQ below (GQi w layM 24 res s.heap.size) args s 0 0 (gA w.2.2.1 24 s.heap.size)) (F0 m 25 ls [.int t0, .ref (w.2.2.1 0)]) := by
    intro t0 x1 x2 M H locs ls hf hG hl
    unfold j_X9_course_25 at hf
    refine lv_iconst (v := 1) hx hb dX9_course_25 (by decide) ?_
    replace hf := bd_some hf
    obtain ⟨q1, eq1, hf⟩ := hf
    refine gx_calli hG (gx_runV hXk F hX hG (c_X9_right l w hXk n  t0 (1 : Int32) _ _ eq1) cv_X9_284 ⟨Nat.le_of_ble_eq_true rfl, Nat.le_of_ble_eq_true rfl⟩ (g_recv F hG mo_0 (by decide) rfl) rfl hl.1 rfl (Nat.le_of_ble_eq_true rfl) dX9_course_26 ⟨Nat.le_refl _, Nat.le_refl _⟩) (fun H locs hG => ?_)
    refine lv_if_eq (tgt := 41) hx hb dX9_course_29 (by decide) (fun c2 => ?_) (fun c2 => ?_)
    · replace hf := if_t c2 hf
      refine lv_iconst (v := 0) hx hb dX9_course_41 (by decide) ?_
      exact cg_iret F hr hlk hG hf dX9_course_42
    · replace hf := if_f c2 hf
      refine lv_aload_n hx hb dX9_course_32 rfl (lv_at hl 0 rfl) ?_
      refine lv_iload_n hx hb dX9_course_33 rfl (lv_at hl 2 rfl) ?_
      refine lv_iconst (v := 2) hx hb dX9_course_34 (by decide) ?_
      replace hf := bd_some hf
      obtain ⟨q3, eq3, hf⟩ := hf
      refine gx_calli hG (gx_runV hXk F hX hG (c_X9_isWhat l w hXk n  x2 (2 : Int32) _ _ eq3) cv_X9_396 ⟨Nat.le_of_ble_eq_true rfl, Nat.le_of_ble_eq_true rfl⟩ (g_recv F hG mo_0 (by decide) rfl) rfl hl.1 rfl (Nat.le_of_ble_eq_true rfl) dX9_course_35 ⟨Nat.le_refl _, Nat.le_refl _⟩) (fun H locs hG => ?_)
      refine lv_if_ne (tgt := 43) hx hb dX9_course_38 (by decide) (fun c4 => ?_) (fun c4 => ?_)
      · replace hf := if_f c4 hf
        refine lv_iload_n hx hb dX9_course_43 rfl (lv_at hl 2 rfl) ?_
        refine lv_if_ne (tgt := 59) hx hb dX9_course_44 (by decide) (fun c5 => ?_) (fun c5 => ?_)
        · replace hf := if_f c5 hf
          refine lv_iload_n hx hb dX9_course_59 rfl (lv_at hl 2 rfl) ?_
          refine lv_iconst (v := 1) hx hb dX9_course_60 (by decide) ?_
          refine lv_icmp_ne (tgt := 76) hx hb dX9_course_61 (by decide) (fun c7 => ?_) (fun c7 => ?_)
          · replace hf := if_f c7 hf
            refine lv_iload_n hx hb dX9_course_76 rfl (lv_at hl 1 rfl) ?_
            refine lv_aload_n hx hb dX9_course_77 rfl (lv_at hl 0 rfl) ?_
            refine g_getR F hG 12 mo_0 (by decide) (by decide) lk_X9_63 rfl dX9_course_78 ?_
            refine lv_iconst (v := 3) hx hb dX9_course_81 (by decide) ?_
            refine g_iald F hG oM_12 (by decide) dX9_course_82 ?_
            refine lv_icmp_ge (tgt := 90) hx hb dX9_course_83 (by decide) (fun c9 => ?_) (fun c9 => ?_)
            · replace hf := if_t c9 hf
              refine lv_iconst (v := 0) hx hb dX9_course_90 (by decide) ?_
              exact cg_iret F hr hlk hG hf dX9_course_91
            · replace hf := if_f c9 hf
              refine lv_iconst (v := 1) hx hb dX9_course_86 (by decide) ?_
              refine lv_goto (tgt := 91) hx hb dX9_course_87 (by decide) ?_
              exact cg_iret F hr hlk hG hf dX9_course_91
          · replace hf := if_t c7 hf
            refine lv_aload_n hx hb dX9_course_64 rfl (lv_at hl 0 rfl) ?_
            refine g_getR F hG 12 mo_0 (by decide) (by decide) lk_X9_63 rfl dX9_course_65 ?_
            refine lv_bipush (v := 22) hx hb dX9_course_68 (by decide) ?_
            refine lv_iload_n hx hb dX9_course_70 rfl (lv_at hl 1 rfl) ?_
            refine lv_iadd hx hb dX9_course_71 ?_
            replace hf := ck_some hf
            obtain ⟨k8, hf⟩ := hf
            refine g_iald F hG oM_12 k8 dX9_course_72 ?_
            refine lv_goto (tgt := 91) hx hb dX9_course_73 (by decide) ?_
            exact cg_iret F hr hlk hG hf dX9_course_91
        · replace hf := if_t c5 hf
          refine lv_aload_n hx hb dX9_course_47 rfl (lv_at hl 0 rfl) ?_
          refine g_getR F hG 12 mo_0 (by decide) (by decide) lk_X9_63 rfl dX9_course_48 ?_
          refine lv_bipush (v := 6) hx hb dX9_course_51 (by decide) ?_
          refine lv_iload_n hx hb dX9_course_53 rfl (lv_at hl 1 rfl) ?_
          refine lv_iadd hx hb dX9_course_54 ?_
          replace hf := ck_some hf
          obtain ⟨k6, hf⟩ := hf
          refine g_iald F hG oM_12 k6 dX9_course_55 ?_
          refine lv_goto (tgt := 91) hx hb dX9_course_56 (by decide) ?_
          exact cg_iret F hr hlk hG hf dX9_course_91
      · replace hf := if_t c4 hf
        refine lv_iconst (v := 0) hx hb dX9_course_41 (by decide) ?_
        exact cg_iret F hr hlk hG hf dX9_course_42
  have hJ24 : ∀ (x1 : Int32) (x2 : Int32) (M : Mem) (H : Heap) (locs : List Loc) (ls : Array Slot), j_X9_course_24 n  x1 x2 M = some res → GI w layM 24 s.heap M H locs → lv_has ls 3 [(0, .ref (w.2.2.1 0)), (1, .int x1), (2, .int x2)] → W p l e (Rm 2) s m args below meth c H locs 0 0 (MQ below (GQi w layM 24 res s.heap.size) args s 0 0 (gA w.2.2.1 24 s.heap.size)) (F0 m 24 ls [.ref (w.2.2.1 0)]) := by
    intro x1 x2 M H locs ls hf hG hl
    unfold j_X9_course_24 at hf
    refine lv_iconst (v := 0) hx hb dX9_course_24 (by decide) ?_
    exact hJ25 _ _ _ _ _ _ ls hf hG (lv_sub hl [0, 1, 2] rfl)
  unfold f_X9_course at hf
  refine lv_aload_n hx hb dX9_course_0 rfl (lv_at hl 0 rfl) ?_
  refine lv_iconst (v := 0) hx hb dX9_course_1 (by decide) ?_
  refine g_putI F hG mo_0 (by decide) (by decide) lkv_X9_102 rfl rfl rfl dX9_course_2 (fun H locs hG => ?_)
  refine lv_aload_n hx hb dX9_course_5 rfl (lv_at hl 0 rfl) ?_
  refine lv_iload_n hx hb dX9_course_6 rfl (lv_at hl 1 rfl) ?_
  refine lv_if_lt (tgt := 24) hx hb dX9_course_7 (by decide) (fun c10 => ?_) (fun c10 => ?_)
  · replace hf := if_t c10 hf
    exact hJ24 _ _ _ _ _ ls hf hG (lv_sub hl [0, 1, 2] rfl)
  · replace hf := if_f c10 hf
    refine lv_iload_n hx hb dX9_course_10 rfl (lv_at hl 1 rfl) ?_
    refine lv_aload_n hx hb dX9_course_11 rfl (lv_at hl 0 rfl) ?_
    refine g_getR F hG 12 mo_0 (by decide) (by decide) lk_X9_63 rfl dX9_course_12 ?_
    refine lv_iconst (v := 4) hx hb dX9_course_15 (by decide) ?_
    refine g_iald F hG oM_12 (by decide) dX9_course_16 ?_
    refine lv_icmp_ge (tgt := 24) hx hb dX9_course_17 (by decide) (fun c11 => ?_) (fun c11 => ?_)
    · replace hf := if_t c11 hf
      exact hJ24 _ _ _ _ _ ls hf hG (lv_sub hl [0, 1, 2] rfl)
    · replace hf := if_f c11 hf
      refine lv_iconst (v := 1) hx hb dX9_course_20 (by decide) ?_
      refine lv_goto (tgt := 25) hx hb dX9_course_21 (by decide) ?_
      exact hJ25 _ _ _ _ _ _ ls hf hG (lv_sub hl [0, 1, 2] rfl)

def f_X9_ward (n : Nat) (x1 : Int32) (x2 : Int32) (M : Mem) : Option (Int32 × Mem) := bd (f_X9_isWard n  x1 (si M 0 0 (0 : Int32))) (fun q1 => if q1.1 = 0 then (some ((0 : Int32), q1.2)) else (bd (f_X9_isWhat n  x2 (3 : Int32) q1.2) (fun q3 => if q3.1 = 0 then (some ((0 : Int32), q3.2)) else (if x2 = 0 then (ck (inb ((38 : Int32) + x1) 108) (some ((gi q3.2 12 ((38 : Int32) + x1).toNatClampNeg), q3.2))) else (if x2 = (1 : Int32) then (ck (inb ((46 : Int32) + x1) 108) (some ((gi q3.2 12 ((46 : Int32) + x1).toNatClampNeg), q3.2))) else (if x2 = (2 : Int32) then (bd (f_X9_doubtOf n  (0 : Int32) x1 q3.2) (fun q10 => some (q10.1, q10.2))) else (bd (f_X9_givesBy n  (0 : Int32) x1 q3.2) (fun q11 => some (q11.1, q11.2)))))))))
set_option maxHeartbeats 4000000 in
set_option maxRecDepth 100000 in
theorem c_X9_ward (l : Launch) (w : Wd) {X : (Nat → Prop) → State → Heap → Prop} (hXk : XOK X) (n : Nat) (x1 : Int32) (x2 : Int32) (M : Mem) (res : Int32 × Mem) (hf : f_X9_ward n  x1 x2 M = some res) : CG l w layM 24 X yX9_ward cX9_ward 3 (some .int) 3 [.ref (w.2.2.1 0), .int x1, .int x2] M (GQi w layM 24 res) := by
  refine cg_start (by decide +kernel) (Nat.le_of_ble_eq_true rfl) ?_
  intro p e s m args below meth c F hr hlk hX hG ls hl
  have F : FX w p m c cX9_ward 3 s args RX9 := F
  have hx := F.1.1
  have hb := F.1.2.1
  have hl : lv_has ls 3 [(0, .ref (w.2.2.1 0)), (1, .int x1), (2, .int x2)] := hl
  unfold f_X9_ward at hf
  refine lv_aload_n hx hb dX9_ward_0 rfl (lv_at hl 0 rfl) ?_
  refine lv_iconst (v := 0) hx hb dX9_ward_1 (by decide) ?_
  refine g_putI F hG mo_0 (by decide) (by decide) lkv_X9_102 rfl rfl rfl dX9_ward_2 (fun H locs hG => ?_)
  refine lv_aload_n hx hb dX9_ward_5 rfl (lv_at hl 0 rfl) ?_
  refine lv_iload_n hx hb dX9_ward_6 rfl (lv_at hl 1 rfl) ?_
  replace hf := bd_some hf
  obtain ⟨q1, eq1, hf⟩ := hf
  refine gx_calli hG (gx_runV hXk F hX hG (c_X9_isWard l w hXk n  x1 _ _ eq1) cv_X9_400 ⟨Nat.le_of_ble_eq_true rfl, Nat.le_of_ble_eq_true rfl⟩ (g_recv F hG mo_0 (by decide) rfl) rfl hl.1 rfl (Nat.le_of_ble_eq_true rfl) dX9_ward_7 ⟨Nat.le_refl _, Nat.le_refl _⟩) (fun H locs hG => ?_)
  refine lv_if_eq (tgt := 22) hx hb dX9_ward_10 (by decide) (fun c2 => ?_) (fun c2 => ?_)
  · replace hf := if_t c2 hf
    refine lv_iconst (v := 0) hx hb dX9_ward_22 (by decide) ?_
    exact cg_iret F hr hlk hG hf dX9_ward_23
  · replace hf := if_f c2 hf
    refine lv_aload_n hx hb dX9_ward_13 rfl (lv_at hl 0 rfl) ?_
    refine lv_iload_n hx hb dX9_ward_14 rfl (lv_at hl 2 rfl) ?_
    refine lv_iconst (v := 3) hx hb dX9_ward_15 (by decide) ?_
    replace hf := bd_some hf
    obtain ⟨q3, eq3, hf⟩ := hf
    refine gx_calli hG (gx_runV hXk F hX hG (c_X9_isWhat l w hXk n  x2 (3 : Int32) _ _ eq3) cv_X9_396 ⟨Nat.le_of_ble_eq_true rfl, Nat.le_of_ble_eq_true rfl⟩ (g_recv F hG mo_0 (by decide) rfl) rfl hl.1 rfl (Nat.le_of_ble_eq_true rfl) dX9_ward_16 ⟨Nat.le_refl _, Nat.le_refl _⟩) (fun H locs hG => ?_)
    refine lv_if_ne (tgt := 24) hx hb dX9_ward_19 (by decide) (fun c4 => ?_) (fun c4 => ?_)
    · replace hf := if_f c4 hf
      refine lv_iload_n hx hb dX9_ward_24 rfl (lv_at hl 2 rfl) ?_
      refine lv_if_ne (tgt := 40) hx hb dX9_ward_25 (by decide) (fun c5 => ?_) (fun c5 => ?_)
      · replace hf := if_f c5 hf
        refine lv_iload_n hx hb dX9_ward_40 rfl (lv_at hl 2 rfl) ?_
        refine lv_iconst (v := 1) hx hb dX9_ward_41 (by decide) ?_
        refine lv_icmp_ne (tgt := 57) hx hb dX9_ward_42 (by decide) (fun c7 => ?_) (fun c7 => ?_)
        · replace hf := if_f c7 hf
          refine lv_iload_n hx hb dX9_ward_57 rfl (lv_at hl 2 rfl) ?_
          refine lv_iconst (v := 2) hx hb dX9_ward_58 (by decide) ?_
          refine lv_icmp_ne (tgt := 71) hx hb dX9_ward_59 (by decide) (fun c9 => ?_) (fun c9 => ?_)
          · replace hf := if_f c9 hf
            refine lv_aload_n hx hb dX9_ward_71 rfl (lv_at hl 0 rfl) ?_
            refine lv_iconst (v := 0) hx hb dX9_ward_72 (by decide) ?_
            refine lv_iload_n hx hb dX9_ward_73 rfl (lv_at hl 1 rfl) ?_
            replace hf := bd_some hf
            obtain ⟨q11, eq11, hf⟩ := hf
            refine gx_calli hG (gx_runV hXk F hX hG (c_X9_givesBy l w hXk n  (0 : Int32) x1 _ _ eq11) cv_X9_349 ⟨Nat.le_of_ble_eq_true rfl, Nat.le_of_ble_eq_true rfl⟩ (g_recv F hG mo_0 (by decide) rfl) rfl hl.1 rfl (Nat.le_of_ble_eq_true rfl) dX9_ward_74 ⟨Nat.le_refl _, Nat.le_refl _⟩) (fun H locs hG => ?_)
            exact cg_iret F hr hlk hG hf dX9_ward_77
          · replace hf := if_t c9 hf
            refine lv_aload_n hx hb dX9_ward_62 rfl (lv_at hl 0 rfl) ?_
            refine lv_iconst (v := 0) hx hb dX9_ward_63 (by decide) ?_
            refine lv_iload_n hx hb dX9_ward_64 rfl (lv_at hl 1 rfl) ?_
            replace hf := bd_some hf
            obtain ⟨q10, eq10, hf⟩ := hf
            refine gx_calli hG (gx_runV hXk F hX hG (c_X9_doubtOf l w hXk n  (0 : Int32) x1 _ _ eq10) cv_X9_333 ⟨Nat.le_of_ble_eq_true rfl, Nat.le_of_ble_eq_true rfl⟩ (g_recv F hG mo_0 (by decide) rfl) rfl hl.1 rfl (Nat.le_of_ble_eq_true rfl) dX9_ward_65 ⟨Nat.le_refl _, Nat.le_refl _⟩) (fun H locs hG => ?_)
            refine lv_goto (tgt := 77) hx hb dX9_ward_68 (by decide) ?_
            exact cg_iret F hr hlk hG hf dX9_ward_77
        · replace hf := if_t c7 hf
          refine lv_aload_n hx hb dX9_ward_45 rfl (lv_at hl 0 rfl) ?_
          refine g_getR F hG 12 mo_0 (by decide) (by decide) lk_X9_63 rfl dX9_ward_46 ?_
          refine lv_bipush (v := 46) hx hb dX9_ward_49 (by decide) ?_
          refine lv_iload_n hx hb dX9_ward_51 rfl (lv_at hl 1 rfl) ?_
          refine lv_iadd hx hb dX9_ward_52 ?_
          replace hf := ck_some hf
          obtain ⟨k8, hf⟩ := hf
          refine g_iald F hG oM_12 k8 dX9_ward_53 ?_
          refine lv_goto (tgt := 77) hx hb dX9_ward_54 (by decide) ?_
          exact cg_iret F hr hlk hG hf dX9_ward_77
      · replace hf := if_t c5 hf
        refine lv_aload_n hx hb dX9_ward_28 rfl (lv_at hl 0 rfl) ?_
        refine g_getR F hG 12 mo_0 (by decide) (by decide) lk_X9_63 rfl dX9_ward_29 ?_
        refine lv_bipush (v := 38) hx hb dX9_ward_32 (by decide) ?_
        refine lv_iload_n hx hb dX9_ward_34 rfl (lv_at hl 1 rfl) ?_
        refine lv_iadd hx hb dX9_ward_35 ?_
        replace hf := ck_some hf
        obtain ⟨k6, hf⟩ := hf
        refine g_iald F hG oM_12 k6 dX9_ward_36 ?_
        refine lv_goto (tgt := 77) hx hb dX9_ward_37 (by decide) ?_
        exact cg_iret F hr hlk hG hf dX9_ward_77
    · replace hf := if_t c4 hf
      refine lv_iconst (v := 0) hx hb dX9_ward_22 (by decide) ?_
      exact cg_iret F hr hlk hG hf dX9_ward_23

def j_X9_days_29 (n : Nat) (M : Mem) : Option (Int32 × Mem) := bd (f_X9_refuses n  (1 : Int32) M) (fun q1 => some (q1.1, q1.2))
def b_X9_days_41 (n : Nat) (x1 : Int32) (q : (Int32 × Mem)) : Option ((Int32 × Mem) ⊕ (Int32 × Mem)) := match q with
  | (x2, M) => if x1 ≤ x2 then (mr (some ((gi M 12 (0 : Int32).toNatClampNeg), M))) else (bd (f_X9_dayGoes n  (0 : Int32) M) (fun q3 => some (.inl ((x2 + (1 : Int32)), q3))))
def f_X9_days (n : Nat) (x1 : Int32) (M : Mem) : Option (Int32 × Mem) := bd (f_X9_within n  x1 (1 : Int32) (20 : Int32) (si M 0 0 (0 : Int32))) (fun q4 => if q4.1 = 0 then (j_X9_days_29 n  q4.2) else (if ((gi q4.2 12 (0 : Int32).toNatClampNeg) + x1) ≤ (9999 : Int32) then (bd (f_X9_keeps n   q4.2) (fun q7 => gl (b_X9_days_41 n  x1) n ((0 : Int32), q7))) else (j_X9_days_29 n  q4.2)))
set_option maxHeartbeats 4000000 in
set_option maxRecDepth 100000 in
theorem c_X9_days (l : Launch) (w : Wd) {X : (Nat → Prop) → State → Heap → Prop} (hXk : XOK X) (n : Nat) (x1 : Int32) (M : Mem) (res : Int32 × Mem) (hf : f_X9_days n  x1 M = some res) : CG l w layM 24 X yX9_days cX9_days 3 (some .int) 4 [.ref (w.2.2.1 0), .int x1] M (GQi w layM 24 res) := by
  refine cg_start (by decide +kernel) (Nat.le_of_ble_eq_true rfl) ?_
  intro p e s m args below meth c F hr hlk hX hG ls hl
  have F : FX w p m c cX9_days 3 s args RX9 := F
  have hx := F.1.1
  have hb := F.1.2.1
  have hl : lv_has ls 3 [(0, .ref (w.2.2.1 0)), (1, .int x1)] := hl
  have hJ29 : ∀ (M : Mem) (H : Heap) (locs : List Loc) (ls : Array Slot), j_X9_days_29 n   M = some res → GI w layM 24 s.heap M H locs → lv_has ls 3 [(0, .ref (w.2.2.1 0))] → W p l e (Rm 4) s m args below meth c H locs 0 0 (MQ below (GQi w layM 24 res s.heap.size) args s 0 0 (gA w.2.2.1 24 s.heap.size)) (F0 m 29 ls []) := by
    intro  M H locs ls hf hG hl
    unfold j_X9_days_29 at hf
    refine lv_aload_n hx hb dX9_days_29 rfl (lv_at hl 0 rfl) ?_
    refine lv_iconst (v := 1) hx hb dX9_days_30 (by decide) ?_
    replace hf := bd_some hf
    obtain ⟨q1, eq1, hf⟩ := hf
    refine gx_calli hG (gx_runV hXk F hX hG (c_X9_refuses l w hXk n  (1 : Int32) _ _ eq1) cv_X9_403 ⟨Nat.le_of_ble_eq_true rfl, Nat.le_of_ble_eq_true rfl⟩ (g_recv F hG mo_0 (by decide) rfl) rfl hl.1 rfl (Nat.le_of_ble_eq_true rfl) dX9_days_31 ⟨Nat.le_refl _, Nat.le_refl _⟩) (fun H locs hG => ?_)
    exact cg_iret F hr hlk hG hf dX9_days_34
  have hJ41 : ∀ (x1 : Int32) (x2 : Int32) (M : Mem) (H : Heap) (locs : List Loc) (ls : Array Slot), gl (b_X9_days_41 n  x1) n (x2, M) = some res → GI w layM 24 s.heap M H locs → lv_has ls 3 [(0, .ref (w.2.2.1 0)), (1, .int x1), (2, .int x2)] → W p l e (Rm 4) s m args below meth c H locs 0 0 (MQ below (GQi w layM 24 res s.heap.size) args s 0 0 (gA w.2.2.1 24 s.heap.size)) (F0 m 41 ls []) := by
    intro x1 x2 M H locs ls hf hG hl
    refine gl_run (P := fun (q : (Int32 × Mem)) => ∀ (H : Heap) (locs : List Loc) (ls : Array Slot), GI w layM 24 s.heap q.2 H locs → lv_has ls 3 [(0, .ref (w.2.2.1 0)), (1, .int x1), (2, .int q.1)] → W p l e (Rm 4) s m args below meth c H locs 0 0 (MQ below (GQi w layM 24 res s.heap.size) args s 0 0 (gA w.2.2.1 24 s.heap.size)) (F0 m 41 ls [])) ?_ n (x2, M) hf H locs ls hG hl
    clear hf hG hl ls locs H M x2
    rintro ⟨x2, M⟩ rr41 hf hI41 hE41 H locs ls hG hl
    try dsimp only at hG hl ⊢
    dsimp only [b_X9_days_41] at hf
    refine lv_iload_n hx hb dX9_days_41 rfl (lv_at hl 2 rfl) ?_
    refine lv_iload_n hx hb dX9_days_42 rfl (lv_at hl 1 rfl) ?_
    refine lv_icmp_ge (tgt := 57) hx hb dX9_days_43 (by decide) (fun c2 => ?_) (fun c2 => ?_)
    · replace hf := if_t c2 hf
      refine lv_aload_n hx hb dX9_days_57 rfl (lv_at hl 0 rfl) ?_
      refine g_getR F hG 12 mo_0 (by decide) (by decide) lk_X9_63 rfl dX9_days_58 ?_
      refine lv_iconst (v := 0) hx hb dX9_days_61 (by decide) ?_
      refine g_iald F hG oM_12 (by decide) dX9_days_62 ?_
      replace hf := mr_some hf
      obtain ⟨z41, hf, hz⟩ := hf
      rw [hE41 _ hz] at hf
      exact cg_iret F hr hlk hG hf dX9_days_63
    · replace hf := if_f c2 hf
      refine lv_aload_n hx hb dX9_days_46 rfl (lv_at hl 0 rfl) ?_
      refine lv_iconst (v := 0) hx hb dX9_days_47 (by decide) ?_
      replace hf := bd_some hf
      obtain ⟨q3, eq3, hf⟩ := hf
      refine gx_callv hG (gx_runV hXk F hX hG (c_X9_dayGoes l w hXk n  (0 : Int32) _ _ eq3) cv_X9_364 ⟨Nat.le_of_ble_eq_true rfl, Nat.le_of_ble_eq_true rfl⟩ (g_recv F hG mo_0 (by decide) rfl) rfl hl.1 rfl (Nat.le_of_ble_eq_true rfl) dX9_days_48 ⟨Nat.le_refl _, Nat.le_refl _⟩) (fun H locs hG => ?_)
      refine lv_iinc (v := (x2 + (1 : Int32))) (lv' := [(2, .int (x2 + (1 : Int32))), (0, .ref (w.2.2.1 0)), (1, .int x1)]) hx hb dX9_days_51 hl (k := 2) rfl rfl (by decide) rfl (fun ls hl => ?_)
      refine lv_goto (tgt := 41) hx hb dX9_days_54 (by decide) ?_
      exact hI41 _ (Option.some.inj hf).symm _ _ ls hG (lv_sub hl [1, 2, 0] rfl)
  unfold f_X9_days at hf
  refine lv_aload_n hx hb dX9_days_0 rfl (lv_at hl 0 rfl) ?_
  refine lv_iconst (v := 0) hx hb dX9_days_1 (by decide) ?_
  refine g_putI F hG mo_0 (by decide) (by decide) lkv_X9_102 rfl rfl rfl dX9_days_2 (fun H locs hG => ?_)
  refine lv_iload_n hx hb dX9_days_5 rfl (lv_at hl 1 rfl) ?_
  refine lv_iconst (v := 1) hx hb dX9_days_6 (by decide) ?_
  refine lv_bipush (v := 20) hx hb dX9_days_7 (by decide) ?_
  replace hf := bd_some hf
  obtain ⟨q4, eq4, hf⟩ := hf
  refine gx_calli hG (gx_runS hXk F hX hG (c_X9_within l w hXk n  x1 (1 : Int32) (20 : Int32) _ _ eq4) cs_X9_379 ⟨Nat.le_of_ble_eq_true rfl, Nat.le_of_ble_eq_true rfl⟩ rfl hl.1 rfl (Nat.le_of_ble_eq_true rfl) dX9_days_9 ⟨Nat.le_refl _, Nat.le_refl _⟩) (fun H locs hG => ?_)
  refine lv_if_eq (tgt := 29) hx hb dX9_days_12 (by decide) (fun c5 => ?_) (fun c5 => ?_)
  · replace hf := if_t c5 hf
    exact hJ29  _ _ _ ls hf hG (lv_sub hl [0] rfl)
  · replace hf := if_f c5 hf
    refine lv_aload_n hx hb dX9_days_15 rfl (lv_at hl 0 rfl) ?_
    refine g_getR F hG 12 mo_0 (by decide) (by decide) lk_X9_63 rfl dX9_days_16 ?_
    refine lv_iconst (v := 0) hx hb dX9_days_19 (by decide) ?_
    refine g_iald F hG oM_12 (by decide) dX9_days_20 ?_
    refine lv_iload_n hx hb dX9_days_21 rfl (lv_at hl 1 rfl) ?_
    refine lv_iadd hx hb dX9_days_22 ?_
    refine lv_sipush (v := 9999) hx hb dX9_days_23 (by decide) ?_
    refine lv_icmp_le (tgt := 35) hx hb dX9_days_26 (by decide) (fun c6 => ?_) (fun c6 => ?_)
    · replace hf := if_t c6 hf
      refine lv_aload_n hx hb dX9_days_35 rfl (lv_at hl 0 rfl) ?_
      replace hf := bd_some hf
      obtain ⟨q7, eq7, hf⟩ := hf
      refine gx_callv hG (gx_runV hXk F hX hG (c_X9_keeps l w hXk n   _ _ eq7) cv_X9_406 ⟨Nat.le_of_ble_eq_true rfl, Nat.le_of_ble_eq_true rfl⟩ (g_recv F hG mo_0 (by decide) rfl) rfl hl.1 rfl (Nat.le_of_ble_eq_true rfl) dX9_days_36 ⟨Nat.le_refl _, Nat.le_refl _⟩) (fun H locs hG => ?_)
      refine lv_iconst (v := 0) hx hb dX9_days_39 (by decide) ?_
      refine lv_istore_n (lv' := [(2, .int (0 : Int32)), (0, .ref (w.2.2.1 0)), (1, .int x1)]) hx hb dX9_days_40 rfl hl (by decide) rfl (fun ls hl => ?_)
      exact hJ41 _ _ _ _ _ ls hf hG (lv_sub hl [1, 2, 0] rfl)
    · replace hf := if_f c6 hf
      exact hJ29  _ _ _ ls hf hG (lv_sub hl [0] rfl)

def f_X9_give (n : Nat) (x1 : Int32) (M : Mem) : Option (Int32 × Mem) := bd (f_X9_within n  x1 (1 : Int32) (99 : Int32) (si M 0 0 (0 : Int32))) (fun q1 => if q1.1 = 0 then (bd (f_X9_refuses n  (1 : Int32) q1.2) (fun q3 => some (q3.1, q3.2))) else (bd (f_X9_keeps n   q1.2) (fun q4 => bd (f_X9_bounded n  ((gi q4 12 (1 : Int32).toNatClampNeg) + x1) (0 : Int32) (999 : Int32) q4) (fun q5 => some ((gi (si q5.2 12 (1 : Int32).toNatClampNeg q5.1) 12 (1 : Int32).toNatClampNeg), si q5.2 12 (1 : Int32).toNatClampNeg q5.1)))))
set_option maxHeartbeats 4000000 in
set_option maxRecDepth 100000 in
theorem c_X9_give (l : Launch) (w : Wd) {X : (Nat → Prop) → State → Heap → Prop} (hXk : XOK X) (n : Nat) (x1 : Int32) (M : Mem) (res : Int32 × Mem) (hf : f_X9_give n  x1 M = some res) : CG l w layM 24 X yX9_give cX9_give 2 (some .int) 1 [.ref (w.2.2.1 0), .int x1] M (GQi w layM 24 res) := by
  refine cg_start (by decide +kernel) (Nat.le_of_ble_eq_true rfl) ?_
  intro p e s m args below meth c F hr hlk hX hG ls hl
  have F : FX w p m c cX9_give 2 s args RX9 := F
  have hx := F.1.1
  have hb := F.1.2.1
  have hl : lv_has ls 2 [(0, .ref (w.2.2.1 0)), (1, .int x1)] := hl
  unfold f_X9_give at hf
  refine lv_aload_n hx hb dX9_give_0 rfl (lv_at hl 0 rfl) ?_
  refine lv_iconst (v := 0) hx hb dX9_give_1 (by decide) ?_
  refine g_putI F hG mo_0 (by decide) (by decide) lkv_X9_102 rfl rfl rfl dX9_give_2 (fun H locs hG => ?_)
  refine lv_iload_n hx hb dX9_give_5 rfl (lv_at hl 1 rfl) ?_
  refine lv_iconst (v := 1) hx hb dX9_give_6 (by decide) ?_
  refine lv_bipush (v := 99) hx hb dX9_give_7 (by decide) ?_
  replace hf := bd_some hf
  obtain ⟨q1, eq1, hf⟩ := hf
  refine gx_calli hG (gx_runS hXk F hX hG (c_X9_within l w hXk n  x1 (1 : Int32) (99 : Int32) _ _ eq1) cs_X9_379 ⟨Nat.le_of_ble_eq_true rfl, Nat.le_of_ble_eq_true rfl⟩ rfl hl.1 rfl (Nat.le_of_ble_eq_true rfl) dX9_give_9 ⟨Nat.le_refl _, Nat.le_refl _⟩) (fun H locs hG => ?_)
  refine lv_if_ne (tgt := 21) hx hb dX9_give_12 (by decide) (fun c2 => ?_) (fun c2 => ?_)
  · replace hf := if_f c2 hf
    refine lv_aload_n hx hb dX9_give_21 rfl (lv_at hl 0 rfl) ?_
    replace hf := bd_some hf
    obtain ⟨q4, eq4, hf⟩ := hf
    refine gx_callv hG (gx_runV hXk F hX hG (c_X9_keeps l w hXk n   _ _ eq4) cv_X9_406 ⟨Nat.le_of_ble_eq_true rfl, Nat.le_of_ble_eq_true rfl⟩ (g_recv F hG mo_0 (by decide) rfl) rfl hl.1 rfl (Nat.le_of_ble_eq_true rfl) dX9_give_22 ⟨Nat.le_refl _, Nat.le_refl _⟩) (fun H locs hG => ?_)
    refine lv_aload_n hx hb dX9_give_25 rfl (lv_at hl 0 rfl) ?_
    refine g_getR F hG 12 mo_0 (by decide) (by decide) lk_X9_63 rfl dX9_give_26 ?_
    refine lv_iconst (v := 1) hx hb dX9_give_29 (by decide) ?_
    refine lv_aload_n hx hb dX9_give_30 rfl (lv_at hl 0 rfl) ?_
    refine g_getR F hG 12 mo_0 (by decide) (by decide) lk_X9_63 rfl dX9_give_31 ?_
    refine lv_iconst (v := 1) hx hb dX9_give_34 (by decide) ?_
    refine g_iald F hG oM_12 (by decide) dX9_give_35 ?_
    refine lv_iload_n hx hb dX9_give_36 rfl (lv_at hl 1 rfl) ?_
    refine lv_iadd hx hb dX9_give_37 ?_
    refine lv_iconst (v := 0) hx hb dX9_give_38 (by decide) ?_
    refine lv_sipush (v := 999) hx hb dX9_give_39 (by decide) ?_
    replace hf := bd_some hf
    obtain ⟨q5, eq5, hf⟩ := hf
    refine gx_calli hG (gx_runS hXk F hX hG (c_X9_bounded l w hXk n  ((gi q4 12 (1 : Int32).toNatClampNeg) + x1) (0 : Int32) (999 : Int32) _ _ eq5) cs_X9_340 ⟨Nat.le_of_ble_eq_true rfl, Nat.le_of_ble_eq_true rfl⟩ rfl hl.1 rfl (Nat.le_of_ble_eq_true rfl) dX9_give_42 ⟨Nat.le_refl _, Nat.le_refl _⟩) (fun H locs hG => ?_)
    refine g_iast F hG oM_12 (by decide) dX9_give_45 (fun H locs hG => ?_)
    refine lv_aload_n hx hb dX9_give_46 rfl (lv_at hl 0 rfl) ?_
    refine g_getR F hG 12 mo_0 (by decide) (by decide) lk_X9_63 rfl dX9_give_47 ?_
    refine lv_iconst (v := 1) hx hb dX9_give_50 (by decide) ?_
    refine g_iald F hG oM_12 (by decide) dX9_give_51 ?_
    exact cg_iret F hr hlk hG hf dX9_give_52
  · replace hf := if_t c2 hf
    refine lv_aload_n hx hb dX9_give_15 rfl (lv_at hl 0 rfl) ?_
    refine lv_iconst (v := 1) hx hb dX9_give_16 (by decide) ?_
    replace hf := bd_some hf
    obtain ⟨q3, eq3, hf⟩ := hf
    refine gx_calli hG (gx_runV hXk F hX hG (c_X9_refuses l w hXk n  (1 : Int32) _ _ eq3) cv_X9_403 ⟨Nat.le_of_ble_eq_true rfl, Nat.le_of_ble_eq_true rfl⟩ (g_recv F hG mo_0 (by decide) rfl) rfl hl.1 rfl (Nat.le_of_ble_eq_true rfl) dX9_give_17 ⟨Nat.le_refl _, Nat.le_refl _⟩) (fun H locs hG => ?_)
    exact cg_iret F hr hlk hG hf dX9_give_20

def f_X9_preaches (n : Nat) (x1 : Int32) (x2 : Int32) (M : Mem) : Option (Mem) := ck (inb ((x1 + (38 : Int32)) + x2) 108) (bd (f_X9_bounded n  ((gi M 12 ((x1 + (38 : Int32)) + x2).toNatClampNeg) + (10 : Int32)) (0 : Int32) (99 : Int32) M) (fun q2 => ck (inb ((x1 + (38 : Int32)) + x2) 108) (some (si q2.2 12 ((x1 + (38 : Int32)) + x2).toNatClampNeg q2.1))))
set_option maxHeartbeats 4000000 in
set_option maxRecDepth 100000 in
theorem c_X9_preaches (l : Launch) (w : Wd) {X : (Nat → Prop) → State → Heap → Prop} (hXk : XOK X) (n : Nat) (x1 : Int32) (x2 : Int32) (M : Mem) (res : Mem) (hf : f_X9_preaches n  x1 x2 M = some res) : CG l w layM 24 X yX9_preaches cX9_preaches 3 none 1 [.ref (w.2.2.1 0), .int x1, .int x2] M (GQv w layM 24 res) := by
  refine cg_start (by decide +kernel) (Nat.le_of_ble_eq_true rfl) ?_
  intro p e s m args below meth c F hr hlk hX hG ls hl
  have F : FX w p m c cX9_preaches 3 s args RX9 := F
  have hx := F.1.1
  have hb := F.1.2.1
  have hl : lv_has ls 3 [(0, .ref (w.2.2.1 0)), (1, .int x1), (2, .int x2)] := hl
  unfold f_X9_preaches at hf
  refine lv_aload_n hx hb dX9_preaches_0 rfl (lv_at hl 0 rfl) ?_
  refine g_getR F hG 12 mo_0 (by decide) (by decide) lk_X9_63 rfl dX9_preaches_1 ?_
  refine lv_iload_n hx hb dX9_preaches_4 rfl (lv_at hl 1 rfl) ?_
  refine lv_bipush (v := 38) hx hb dX9_preaches_5 (by decide) ?_
  refine lv_iadd hx hb dX9_preaches_7 ?_
  refine lv_iload_n hx hb dX9_preaches_8 rfl (lv_at hl 2 rfl) ?_
  refine lv_iadd hx hb dX9_preaches_9 ?_
  refine lv_aload_n hx hb dX9_preaches_10 rfl (lv_at hl 0 rfl) ?_
  refine g_getR F hG 12 mo_0 (by decide) (by decide) lk_X9_63 rfl dX9_preaches_11 ?_
  refine lv_iload_n hx hb dX9_preaches_14 rfl (lv_at hl 1 rfl) ?_
  refine lv_bipush (v := 38) hx hb dX9_preaches_15 (by decide) ?_
  refine lv_iadd hx hb dX9_preaches_17 ?_
  refine lv_iload_n hx hb dX9_preaches_18 rfl (lv_at hl 2 rfl) ?_
  refine lv_iadd hx hb dX9_preaches_19 ?_
  replace hf := ck_some hf
  obtain ⟨k1, hf⟩ := hf
  refine g_iald F hG oM_12 k1 dX9_preaches_20 ?_
  refine lv_bipush (v := 10) hx hb dX9_preaches_21 (by decide) ?_
  refine lv_iadd hx hb dX9_preaches_23 ?_
  refine lv_iconst (v := 0) hx hb dX9_preaches_24 (by decide) ?_
  refine lv_bipush (v := 99) hx hb dX9_preaches_25 (by decide) ?_
  replace hf := bd_some hf
  obtain ⟨q2, eq2, hf⟩ := hf
  refine gx_calli hG (gx_runS hXk F hX hG (c_X9_bounded l w hXk n  ((gi M 12 ((x1 + (38 : Int32)) + x2).toNatClampNeg) + (10 : Int32)) (0 : Int32) (99 : Int32) _ _ eq2) cs_X9_340 ⟨Nat.le_of_ble_eq_true rfl, Nat.le_of_ble_eq_true rfl⟩ rfl hl.1 rfl (Nat.le_of_ble_eq_true rfl) dX9_preaches_27 ⟨Nat.le_refl _, Nat.le_refl _⟩) (fun H locs hG => ?_)
  replace hf := ck_some hf
  obtain ⟨k3, hf⟩ := hf
  refine g_iast F hG oM_12 k3 dX9_preaches_30 (fun H locs hG => ?_)
  exact cg_vret F hr hlk hG hf dX9_preaches_31

def f_X9_preach (n : Nat) (x1 : Int32) (M : Mem) : Option (Int32 × Mem) := bd (f_X9_isWard n  x1 (si M 0 0 (0 : Int32))) (fun q1 => if q1.1 = 0 then (some ((0 : Int32), q1.2)) else (ck (inb ((38 : Int32) + x1) 108) (if (gi q1.2 12 ((38 : Int32) + x1).toNatClampNeg) = (99 : Int32) then (bd (f_X9_refuses n  (1 : Int32) q1.2) (fun q5 => some (q5.1, q5.2))) else (bd (f_X9_keeps n   q1.2) (fun q6 => bd (f_X9_preaches n  (0 : Int32) x1 q6) (fun q7 => ck (inb ((38 : Int32) + x1) 108) (some ((gi q7 12 ((38 : Int32) + x1).toNatClampNeg), q7))))))))
set_option maxHeartbeats 4000000 in
set_option maxRecDepth 100000 in
theorem c_X9_preach (l : Launch) (w : Wd) {X : (Nat → Prop) → State → Heap → Prop} (hXk : XOK X) (n : Nat) (x1 : Int32) (M : Mem) (res : Int32 × Mem) (hf : f_X9_preach n  x1 M = some res) : CG l w layM 24 X yX9_preach cX9_preach 2 (some .int) 2 [.ref (w.2.2.1 0), .int x1] M (GQi w layM 24 res) := by
  refine cg_start (by decide +kernel) (Nat.le_of_ble_eq_true rfl) ?_
  intro p e s m args below meth c F hr hlk hX hG ls hl
  have F : FX w p m c cX9_preach 2 s args RX9 := F
  have hx := F.1.1
  have hb := F.1.2.1
  have hl : lv_has ls 2 [(0, .ref (w.2.2.1 0)), (1, .int x1)] := hl
  unfold f_X9_preach at hf
  refine lv_aload_n hx hb dX9_preach_0 rfl (lv_at hl 0 rfl) ?_
  refine lv_iconst (v := 0) hx hb dX9_preach_1 (by decide) ?_
  refine g_putI F hG mo_0 (by decide) (by decide) lkv_X9_102 rfl rfl rfl dX9_preach_2 (fun H locs hG => ?_)
  refine lv_aload_n hx hb dX9_preach_5 rfl (lv_at hl 0 rfl) ?_
  refine lv_iload_n hx hb dX9_preach_6 rfl (lv_at hl 1 rfl) ?_
  replace hf := bd_some hf
  obtain ⟨q1, eq1, hf⟩ := hf
  refine gx_calli hG (gx_runV hXk F hX hG (c_X9_isWard l w hXk n  x1 _ _ eq1) cv_X9_400 ⟨Nat.le_of_ble_eq_true rfl, Nat.le_of_ble_eq_true rfl⟩ (g_recv F hG mo_0 (by decide) rfl) rfl hl.1 rfl (Nat.le_of_ble_eq_true rfl) dX9_preach_7 ⟨Nat.le_refl _, Nat.le_refl _⟩) (fun H locs hG => ?_)
  refine lv_if_ne (tgt := 15) hx hb dX9_preach_10 (by decide) (fun c2 => ?_) (fun c2 => ?_)
  · replace hf := if_f c2 hf
    refine lv_aload_n hx hb dX9_preach_15 rfl (lv_at hl 0 rfl) ?_
    refine g_getR F hG 12 mo_0 (by decide) (by decide) lk_X9_63 rfl dX9_preach_16 ?_
    refine lv_bipush (v := 38) hx hb dX9_preach_19 (by decide) ?_
    refine lv_iload_n hx hb dX9_preach_21 rfl (lv_at hl 1 rfl) ?_
    refine lv_iadd hx hb dX9_preach_22 ?_
    replace hf := ck_some hf
    obtain ⟨k3, hf⟩ := hf
    refine g_iald F hG oM_12 k3 dX9_preach_23 ?_
    refine lv_bipush (v := 99) hx hb dX9_preach_24 (by decide) ?_
    refine lv_icmp_ne (tgt := 35) hx hb dX9_preach_26 (by decide) (fun c4 => ?_) (fun c4 => ?_)
    · replace hf := if_f c4 hf
      refine lv_aload_n hx hb dX9_preach_35 rfl (lv_at hl 0 rfl) ?_
      replace hf := bd_some hf
      obtain ⟨q6, eq6, hf⟩ := hf
      refine gx_callv hG (gx_runV hXk F hX hG (c_X9_keeps l w hXk n   _ _ eq6) cv_X9_406 ⟨Nat.le_of_ble_eq_true rfl, Nat.le_of_ble_eq_true rfl⟩ (g_recv F hG mo_0 (by decide) rfl) rfl hl.1 rfl (Nat.le_of_ble_eq_true rfl) dX9_preach_36 ⟨Nat.le_refl _, Nat.le_refl _⟩) (fun H locs hG => ?_)
      refine lv_aload_n hx hb dX9_preach_39 rfl (lv_at hl 0 rfl) ?_
      refine lv_iconst (v := 0) hx hb dX9_preach_40 (by decide) ?_
      refine lv_iload_n hx hb dX9_preach_41 rfl (lv_at hl 1 rfl) ?_
      replace hf := bd_some hf
      obtain ⟨q7, eq7, hf⟩ := hf
      refine gx_callv hG (gx_runV hXk F hX hG (c_X9_preaches l w hXk n  (0 : Int32) x1 _ _ eq7) cv_X9_409 ⟨Nat.le_of_ble_eq_true rfl, Nat.le_of_ble_eq_true rfl⟩ (g_recv F hG mo_0 (by decide) rfl) rfl hl.1 rfl (Nat.le_of_ble_eq_true rfl) dX9_preach_42 ⟨Nat.le_refl _, Nat.le_refl _⟩) (fun H locs hG => ?_)
      refine lv_aload_n hx hb dX9_preach_45 rfl (lv_at hl 0 rfl) ?_
      refine g_getR F hG 12 mo_0 (by decide) (by decide) lk_X9_63 rfl dX9_preach_46 ?_
      refine lv_bipush (v := 38) hx hb dX9_preach_49 (by decide) ?_
      refine lv_iload_n hx hb dX9_preach_51 rfl (lv_at hl 1 rfl) ?_
      refine lv_iadd hx hb dX9_preach_52 ?_
      replace hf := ck_some hf
      obtain ⟨k8, hf⟩ := hf
      refine g_iald F hG oM_12 k8 dX9_preach_53 ?_
      exact cg_iret F hr hlk hG hf dX9_preach_54
    · replace hf := if_t c4 hf
      refine lv_aload_n hx hb dX9_preach_29 rfl (lv_at hl 0 rfl) ?_
      refine lv_iconst (v := 1) hx hb dX9_preach_30 (by decide) ?_
      replace hf := bd_some hf
      obtain ⟨q5, eq5, hf⟩ := hf
      refine gx_calli hG (gx_runV hXk F hX hG (c_X9_refuses l w hXk n  (1 : Int32) _ _ eq5) cv_X9_403 ⟨Nat.le_of_ble_eq_true rfl, Nat.le_of_ble_eq_true rfl⟩ (g_recv F hG mo_0 (by decide) rfl) rfl hl.1 rfl (Nat.le_of_ble_eq_true rfl) dX9_preach_31 ⟨Nat.le_refl _, Nat.le_refl _⟩) (fun H locs hG => ?_)
      exact cg_iret F hr hlk hG hf dX9_preach_34
  · replace hf := if_t c2 hf
    refine lv_iconst (v := 0) hx hb dX9_preach_13 (by decide) ?_
    exact cg_iret F hr hlk hG hf dX9_preach_14

def j_X9_mortar_25 (n : Nat) (t0 : Int32) (x1 : Int32) (M : Mem) : Option (Int32 × Mem) := bd (f_X9_right n  t0 (1 : Int32) M) (fun q1 => if q1.1 = 0 then (some ((0 : Int32), q1.2)) else (ck (inb ((22 : Int32) + x1) 108) (if (gi q1.2 12 ((22 : Int32) + x1).toNatClampNeg) = (9 : Int32) then (bd (f_X9_refuses n  (1 : Int32) q1.2) (fun q5 => some (q5.1, q5.2))) else (bd (f_X9_keeps n   q1.2) (fun q6 => ck (inb ((22 : Int32) + x1) 108) (ck (inb ((22 : Int32) + x1) 108) (ck (inb ((22 : Int32) + x1) 108) (some ((gi (si q6 12 ((22 : Int32) + x1).toNatClampNeg ((gi q6 12 ((22 : Int32) + x1).toNatClampNeg) + (1 : Int32))) 12 ((22 : Int32) + x1).toNatClampNeg), si q6 12 ((22 : Int32) + x1).toNatClampNeg ((gi q6 12 ((22 : Int32) + x1).toNatClampNeg) + (1 : Int32)))))))))))
def j_X9_mortar_24 (n : Nat) (x1 : Int32) (M : Mem) : Option (Int32 × Mem) := j_X9_mortar_25 n  (0 : Int32) x1 M
def f_X9_mortar (n : Nat) (x1 : Int32) (M : Mem) : Option (Int32 × Mem) := if x1 < 0 then (j_X9_mortar_24 n  x1 (si M 0 0 (0 : Int32))) else (if (gi (si M 0 0 (0 : Int32)) 12 (3 : Int32).toNatClampNeg) ≤ x1 then (j_X9_mortar_24 n  x1 (si M 0 0 (0 : Int32))) else (j_X9_mortar_25 n  (1 : Int32) x1 (si M 0 0 (0 : Int32))))
set_option maxHeartbeats 4000000 in
set_option maxRecDepth 100000 in
theorem c_X9_mortar (l : Launch) (w : Wd) {X : (Nat → Prop) → State → Heap → Prop} (hXk : XOK X) (n : Nat) (x1 : Int32) (M : Mem) (res : Int32 × Mem) (hf : f_X9_mortar n  x1 M = some res) : CG l w layM 24 X yX9_mortar cX9_mortar 2 (some .int) 1 [.ref (w.2.2.1 0), .int x1] M (GQi w layM 24 res) := by
  refine cg_start (by decide +kernel) (Nat.le_of_ble_eq_true rfl) ?_
  intro p e s m args below meth c F hr hlk hX hG ls hl
  have F : FX w p m c cX9_mortar 2 s args RX9 := F
  have hx := F.1.1
  have hb := F.1.2.1
  have hl : lv_has ls 2 [(0, .ref (w.2.2.1 0)), (1, .int x1)] := hl
  have hJ25 : ∀ (t0 : Int32) (x1 : Int32) (M : Mem) (H : Heap) (locs : List Loc) (ls : Array Slot), j_X9_mortar_25 n  t0 x1 M = some res → GI w layM 24 s.heap M H locs → lv_has ls 2 [(0, .ref (w.2.2.1 0)), (1, .int x1)] → W p l e (Rm 1) s m args below meth c H locs 0 0 (MQ below (GQi w layM 24 res s.heap.size) args s 0 0 (gA w.2.2.1 24 s.heap.size)) (F0 m 25 ls [.int t0, .ref (w.2.2.1 0)]) := by
    intro t0 x1 M H locs ls hf hG hl
    unfold j_X9_mortar_25 at hf
    refine lv_iconst (v := 1) hx hb dX9_mortar_25 (by decide) ?_
    replace hf := bd_some hf
    obtain ⟨q1, eq1, hf⟩ := hf
    refine gx_calli hG (gx_runV hXk F hX hG (c_X9_right l w hXk n  t0 (1 : Int32) _ _ eq1) cv_X9_284 ⟨Nat.le_of_ble_eq_true rfl, Nat.le_of_ble_eq_true rfl⟩ (g_recv F hG mo_0 (by decide) rfl) rfl hl.1 rfl (Nat.le_of_ble_eq_true rfl) dX9_mortar_26 ⟨Nat.le_refl _, Nat.le_refl _⟩) (fun H locs hG => ?_)
    refine lv_if_ne (tgt := 34) hx hb dX9_mortar_29 (by decide) (fun c2 => ?_) (fun c2 => ?_)
    · replace hf := if_f c2 hf
      refine lv_aload_n hx hb dX9_mortar_34 rfl (lv_at hl 0 rfl) ?_
      refine g_getR F hG 12 mo_0 (by decide) (by decide) lk_X9_63 rfl dX9_mortar_35 ?_
      refine lv_bipush (v := 22) hx hb dX9_mortar_38 (by decide) ?_
      refine lv_iload_n hx hb dX9_mortar_40 rfl (lv_at hl 1 rfl) ?_
      refine lv_iadd hx hb dX9_mortar_41 ?_
      replace hf := ck_some hf
      obtain ⟨k3, hf⟩ := hf
      refine g_iald F hG oM_12 k3 dX9_mortar_42 ?_
      refine lv_bipush (v := 9) hx hb dX9_mortar_43 (by decide) ?_
      refine lv_icmp_ne (tgt := 54) hx hb dX9_mortar_45 (by decide) (fun c4 => ?_) (fun c4 => ?_)
      · replace hf := if_f c4 hf
        refine lv_aload_n hx hb dX9_mortar_54 rfl (lv_at hl 0 rfl) ?_
        replace hf := bd_some hf
        obtain ⟨q6, eq6, hf⟩ := hf
        refine gx_callv hG (gx_runV hXk F hX hG (c_X9_keeps l w hXk n   _ _ eq6) cv_X9_406 ⟨Nat.le_of_ble_eq_true rfl, Nat.le_of_ble_eq_true rfl⟩ (g_recv F hG mo_0 (by decide) rfl) rfl hl.1 rfl (Nat.le_of_ble_eq_true rfl) dX9_mortar_55 ⟨Nat.le_refl _, Nat.le_refl _⟩) (fun H locs hG => ?_)
        refine lv_aload_n hx hb dX9_mortar_58 rfl (lv_at hl 0 rfl) ?_
        refine g_getR F hG 12 mo_0 (by decide) (by decide) lk_X9_63 rfl dX9_mortar_59 ?_
        refine lv_bipush (v := 22) hx hb dX9_mortar_62 (by decide) ?_
        refine lv_iload_n hx hb dX9_mortar_64 rfl (lv_at hl 1 rfl) ?_
        refine lv_iadd hx hb dX9_mortar_65 ?_
        refine lv_dup2_11 hx hb dX9_mortar_66 rfl rfl ?_
        replace hf := ck_some hf
        obtain ⟨k7, hf⟩ := hf
        refine g_iald F hG oM_12 k7 dX9_mortar_67 ?_
        refine lv_iconst (v := 1) hx hb dX9_mortar_68 (by decide) ?_
        refine lv_iadd hx hb dX9_mortar_69 ?_
        replace hf := ck_some hf
        obtain ⟨k8, hf⟩ := hf
        refine g_iast F hG oM_12 k8 dX9_mortar_70 (fun H locs hG => ?_)
        refine lv_aload_n hx hb dX9_mortar_71 rfl (lv_at hl 0 rfl) ?_
        refine g_getR F hG 12 mo_0 (by decide) (by decide) lk_X9_63 rfl dX9_mortar_72 ?_
        refine lv_bipush (v := 22) hx hb dX9_mortar_75 (by decide) ?_
        refine lv_iload_n hx hb dX9_mortar_77 rfl (lv_at hl 1 rfl) ?_
        refine lv_iadd hx hb dX9_mortar_78 ?_
        replace hf := ck_some hf
        obtain ⟨k9, hf⟩ := hf
        refine g_iald F hG oM_12 k9 dX9_mortar_79 ?_
        exact cg_iret F hr hlk hG hf dX9_mortar_80
      · replace hf := if_t c4 hf
        refine lv_aload_n hx hb dX9_mortar_48 rfl (lv_at hl 0 rfl) ?_
        refine lv_iconst (v := 1) hx hb dX9_mortar_49 (by decide) ?_
        replace hf := bd_some hf
        obtain ⟨q5, eq5, hf⟩ := hf
        refine gx_calli hG (gx_runV hXk F hX hG (c_X9_refuses l w hXk n  (1 : Int32) _ _ eq5) cv_X9_403 ⟨Nat.le_of_ble_eq_true rfl, Nat.le_of_ble_eq_true rfl⟩ (g_recv F hG mo_0 (by decide) rfl) rfl hl.1 rfl (Nat.le_of_ble_eq_true rfl) dX9_mortar_50 ⟨Nat.le_refl _, Nat.le_refl _⟩) (fun H locs hG => ?_)
        exact cg_iret F hr hlk hG hf dX9_mortar_53
    · replace hf := if_t c2 hf
      refine lv_iconst (v := 0) hx hb dX9_mortar_32 (by decide) ?_
      exact cg_iret F hr hlk hG hf dX9_mortar_33
  have hJ24 : ∀ (x1 : Int32) (M : Mem) (H : Heap) (locs : List Loc) (ls : Array Slot), j_X9_mortar_24 n  x1 M = some res → GI w layM 24 s.heap M H locs → lv_has ls 2 [(0, .ref (w.2.2.1 0)), (1, .int x1)] → W p l e (Rm 1) s m args below meth c H locs 0 0 (MQ below (GQi w layM 24 res s.heap.size) args s 0 0 (gA w.2.2.1 24 s.heap.size)) (F0 m 24 ls [.ref (w.2.2.1 0)]) := by
    intro x1 M H locs ls hf hG hl
    unfold j_X9_mortar_24 at hf
    refine lv_iconst (v := 0) hx hb dX9_mortar_24 (by decide) ?_
    exact hJ25 _ _ _ _ _ ls hf hG (lv_sub hl [0, 1] rfl)
  unfold f_X9_mortar at hf
  refine lv_aload_n hx hb dX9_mortar_0 rfl (lv_at hl 0 rfl) ?_
  refine lv_iconst (v := 0) hx hb dX9_mortar_1 (by decide) ?_
  refine g_putI F hG mo_0 (by decide) (by decide) lkv_X9_102 rfl rfl rfl dX9_mortar_2 (fun H locs hG => ?_)
  refine lv_aload_n hx hb dX9_mortar_5 rfl (lv_at hl 0 rfl) ?_
  refine lv_iload_n hx hb dX9_mortar_6 rfl (lv_at hl 1 rfl) ?_
  refine lv_if_lt (tgt := 24) hx hb dX9_mortar_7 (by decide) (fun c10 => ?_) (fun c10 => ?_)
  · replace hf := if_t c10 hf
    exact hJ24 _ _ _ _ ls hf hG (lv_sub hl [0, 1] rfl)
  · replace hf := if_f c10 hf
    refine lv_iload_n hx hb dX9_mortar_10 rfl (lv_at hl 1 rfl) ?_
    refine lv_aload_n hx hb dX9_mortar_11 rfl (lv_at hl 0 rfl) ?_
    refine g_getR F hG 12 mo_0 (by decide) (by decide) lk_X9_63 rfl dX9_mortar_12 ?_
    refine lv_iconst (v := 3) hx hb dX9_mortar_15 (by decide) ?_
    refine g_iald F hG oM_12 (by decide) dX9_mortar_16 ?_
    refine lv_icmp_ge (tgt := 24) hx hb dX9_mortar_17 (by decide) (fun c11 => ?_) (fun c11 => ?_)
    · replace hf := if_t c11 hf
      exact hJ24 _ _ _ _ ls hf hG (lv_sub hl [0, 1] rfl)
    · replace hf := if_f c11 hf
      refine lv_iconst (v := 1) hx hb dX9_mortar_20 (by decide) ?_
      refine lv_goto (tgt := 25) hx hb dX9_mortar_21 (by decide) ?_
      exact hJ25 _ _ _ _ _ ls hf hG (lv_sub hl [0, 1] rfl)

def f_X9_prop (n : Nat) (M : Mem) : Option (Int32 × Mem) := if (gi (si M 0 0 (0 : Int32)) 12 (2 : Int32).toNatClampNeg) = 0 then (bd (f_X9_refuses n  (1 : Int32) (si M 0 0 (0 : Int32))) (fun q2 => some (q2.1, q2.2))) else (bd (f_X9_keeps n   (si M 0 0 (0 : Int32))) (fun q3 => some ((gi (si M 0 0 (0 : Int32)) 12 (2 : Int32).toNatClampNeg), si q3 12 (2 : Int32).toNatClampNeg (0 : Int32))))
set_option maxHeartbeats 4000000 in
set_option maxRecDepth 100000 in
theorem c_X9_prop (l : Launch) (w : Wd) {X : (Nat → Prop) → State → Heap → Prop} (hXk : XOK X) (n : Nat) (M : Mem) (res : Int32 × Mem) (hf : f_X9_prop n   M = some res) : CG l w layM 24 X yX9_prop cX9_prop 2 (some .int) 1 [.ref (w.2.2.1 0)] M (GQi w layM 24 res) := by
  refine cg_start (by decide +kernel) (Nat.le_of_ble_eq_true rfl) ?_
  intro p e s m args below meth c F hr hlk hX hG ls hl
  have F : FX w p m c cX9_prop 2 s args RX9 := F
  have hx := F.1.1
  have hb := F.1.2.1
  have hl : lv_has ls 2 [(0, .ref (w.2.2.1 0))] := hl
  unfold f_X9_prop at hf
  refine lv_aload_n hx hb dX9_prop_0 rfl (lv_at hl 0 rfl) ?_
  refine lv_iconst (v := 0) hx hb dX9_prop_1 (by decide) ?_
  refine g_putI F hG mo_0 (by decide) (by decide) lkv_X9_102 rfl rfl rfl dX9_prop_2 (fun H locs hG => ?_)
  refine lv_aload_n hx hb dX9_prop_5 rfl (lv_at hl 0 rfl) ?_
  refine g_getR F hG 12 mo_0 (by decide) (by decide) lk_X9_63 rfl dX9_prop_6 ?_
  refine lv_iconst (v := 2) hx hb dX9_prop_9 (by decide) ?_
  refine g_iald F hG oM_12 (by decide) dX9_prop_10 ?_
  refine lv_istore_n (lv' := [(1, .int (gi (si M 0 0 (0 : Int32)) 12 (2 : Int32).toNatClampNeg)), (0, .ref (w.2.2.1 0))]) hx hb dX9_prop_11 rfl hl (by decide) rfl (fun ls hl => ?_)
  refine lv_iload_n hx hb dX9_prop_12 rfl (lv_at hl 0 rfl) ?_
  refine lv_if_ne (tgt := 22) hx hb dX9_prop_13 (by decide) (fun c1 => ?_) (fun c1 => ?_)
  · replace hf := if_f c1 hf
    refine lv_aload_n hx hb dX9_prop_22 rfl (lv_at hl 1 rfl) ?_
    replace hf := bd_some hf
    obtain ⟨q3, eq3, hf⟩ := hf
    refine gx_callv hG (gx_runV hXk F hX hG (c_X9_keeps l w hXk n   _ _ eq3) cv_X9_406 ⟨Nat.le_of_ble_eq_true rfl, Nat.le_of_ble_eq_true rfl⟩ (g_recv F hG mo_0 (by decide) rfl) rfl hl.1 rfl (Nat.le_of_ble_eq_true rfl) dX9_prop_23 ⟨Nat.le_refl _, Nat.le_refl _⟩) (fun H locs hG => ?_)
    refine lv_aload_n hx hb dX9_prop_26 rfl (lv_at hl 1 rfl) ?_
    refine g_getR F hG 12 mo_0 (by decide) (by decide) lk_X9_63 rfl dX9_prop_27 ?_
    refine lv_iconst (v := 2) hx hb dX9_prop_30 (by decide) ?_
    refine lv_iconst (v := 0) hx hb dX9_prop_31 (by decide) ?_
    refine g_iast F hG oM_12 (by decide) dX9_prop_32 (fun H locs hG => ?_)
    refine lv_iload_n hx hb dX9_prop_33 rfl (lv_at hl 0 rfl) ?_
    exact cg_iret F hr hlk hG hf dX9_prop_34
  · replace hf := if_t c1 hf
    refine lv_aload_n hx hb dX9_prop_16 rfl (lv_at hl 1 rfl) ?_
    refine lv_iconst (v := 1) hx hb dX9_prop_17 (by decide) ?_
    replace hf := bd_some hf
    obtain ⟨q2, eq2, hf⟩ := hf
    refine gx_calli hG (gx_runV hXk F hX hG (c_X9_refuses l w hXk n  (1 : Int32) _ _ eq2) cv_X9_403 ⟨Nat.le_of_ble_eq_true rfl, Nat.le_of_ble_eq_true rfl⟩ (g_recv F hG mo_0 (by decide) rfl) rfl hl.1 rfl (Nat.le_of_ble_eq_true rfl) dX9_prop_18 ⟨Nat.le_refl _, Nat.le_refl _⟩) (fun H locs hG => ?_)
    exact cg_iret F hr hlk hG hf dX9_prop_21

def j_X9_street_54 (n : Nat) (M : Mem) : Option (Int32 × Mem) := bd (f_X9_refuses n  (1 : Int32) M) (fun q1 => if q1.1 ≤ 0 then (some ((0 : Int32), q1.2)) else (some ((1 : Int32), q1.2)))
def j_X9_street_97 (n : Nat) (t0 : Int32) (t1 : Int32) (t2 : Int32) (x1 : Int32) (x2 : Int32) (x3 : Int32) (M : Mem) : Option (Int32 × Mem) := ck (inb t2 108) (ck (inb ((46 : Int32) + x2) 108) (if x3 = 0 then (ck (inb ((46 : Int32) + x2) 108) (some ((1 : Int32), si (si M 12 t2.toNatClampNeg (t1 + t0)) 12 ((46 : Int32) + x2).toNatClampNeg ((gi (si M 12 t2.toNatClampNeg (t1 + t0)) 12 ((46 : Int32) + x2).toNatClampNeg) + ((0 : Int32) - ((1 : Int32) <<< (x1 &&& 31))))))) else (ck (inb ((46 : Int32) + x2) 108) (some ((1 : Int32), si (si M 12 t2.toNatClampNeg (t1 + t0)) 12 ((46 : Int32) + x2).toNatClampNeg ((gi (si M 12 t2.toNatClampNeg (t1 + t0)) 12 ((46 : Int32) + x2).toNatClampNeg) + ((1 : Int32) <<< (x1 &&& 31))))))))
def j_X9_street_50 (n : Nat) (t0 : Int32) (x1 : Int32) (x2 : Int32) (x3 : Int32) (M : Mem) : Option (Int32 × Mem) := if t0 = x3 then (j_X9_street_54 n  M) else (bd (f_X9_keeps n   M) (fun q9 => ck (inb ((46 : Int32) + x1) 108) (if x3 = 0 then (j_X9_street_97 n  ((0 : Int32) - ((1 : Int32) <<< (x2 &&& 31))) (gi q9 12 ((46 : Int32) + x1).toNatClampNeg) ((46 : Int32) + x1) x1 x2 x3 q9) else (j_X9_street_97 n  ((1 : Int32) <<< (x2 &&& 31)) (gi q9 12 ((46 : Int32) + x1).toNatClampNeg) ((46 : Int32) + x1) x1 x2 x3 q9))))
def f_X9_street (n : Nat) (x1 : Int32) (x2 : Int32) (x3 : Int32) (M : Mem) : Option (Int32 × Mem) := bd (f_X9_isWard n  x1 (si M 0 0 (0 : Int32))) (fun q12 => if q12.1 = 0 then (some ((0 : Int32), q12.2)) else (bd (f_X9_isWard n  x2 q12.2) (fun q14 => if q14.1 = 0 then (some ((0 : Int32), q14.2)) else (if x1 = x2 then (j_X9_street_54 n  q14.2) else (ck (inb ((46 : Int32) + x1) 108) (if (((gi q14.2 12 ((46 : Int32) + x1).toNatClampNeg) >>> (x2 &&& 31)) &&& (1 : Int32)) = (1 : Int32) then (j_X9_street_50 n  (1 : Int32) x1 x2 x3 q14.2) else (j_X9_street_50 n  (0 : Int32) x1 x2 x3 q14.2)))))))
set_option maxHeartbeats 4000000 in
set_option maxRecDepth 100000 in
theorem c_X9_street (l : Launch) (w : Wd) {X : (Nat → Prop) → State → Heap → Prop} (hXk : XOK X) (n : Nat) (x1 : Int32) (x2 : Int32) (x3 : Int32) (M : Mem) (res : Int32 × Mem) (hf : f_X9_street n  x1 x2 x3 M = some res) : CG l w layM 24 X yX9_street cX9_street 4 (some .boolean) 2 [.ref (w.2.2.1 0), .int x1, .int x2, .int x3] M (GQi w layM 24 res) := by
  refine cg_start (by decide +kernel) (Nat.le_of_ble_eq_true rfl) ?_
  intro p e s m args below meth c F hr hlk hX hG ls hl
  have F : FX w p m c cX9_street 4 s args RX9 := F
  have hx := F.1.1
  have hb := F.1.2.1
  have hl : lv_has ls 4 [(0, .ref (w.2.2.1 0)), (1, .int x1), (2, .int x2), (3, .int x3)] := hl
  have hJ54 : ∀ (M : Mem) (H : Heap) (locs : List Loc) (ls : Array Slot), j_X9_street_54 n   M = some res → GI w layM 24 s.heap M H locs → lv_has ls 4 [(0, .ref (w.2.2.1 0))] → W p l e (Rm 2) s m args below meth c H locs 0 0 (MQ below (GQi w layM 24 res s.heap.size) args s 0 0 (gA w.2.2.1 24 s.heap.size)) (F0 m 54 ls []) := by
    intro  M H locs ls hf hG hl
    unfold j_X9_street_54 at hf
    refine lv_aload_n hx hb dX9_street_54 rfl (lv_at hl 0 rfl) ?_
    refine lv_iconst (v := 1) hx hb dX9_street_55 (by decide) ?_
    replace hf := bd_some hf
    obtain ⟨q1, eq1, hf⟩ := hf
    refine gx_calli hG (gx_runV hXk F hX hG (c_X9_refuses l w hXk n  (1 : Int32) _ _ eq1) cv_X9_403 ⟨Nat.le_of_ble_eq_true rfl, Nat.le_of_ble_eq_true rfl⟩ (g_recv F hG mo_0 (by decide) rfl) rfl hl.1 rfl (Nat.le_of_ble_eq_true rfl) dX9_street_56 ⟨Nat.le_refl _, Nat.le_refl _⟩) (fun H locs hG => ?_)
    refine lv_if_le (tgt := 66) hx hb dX9_street_59 (by decide) (fun c2 => ?_) (fun c2 => ?_)
    · replace hf := if_t c2 hf
      refine lv_iconst (v := 0) hx hb dX9_street_66 (by decide) ?_
      exact cg_zret F hr hlk hG hf (Or.inl rfl) dX9_street_67
    · replace hf := if_f c2 hf
      refine lv_iconst (v := 1) hx hb dX9_street_62 (by decide) ?_
      refine lv_goto (tgt := 67) hx hb dX9_street_63 (by decide) ?_
      exact cg_zret F hr hlk hG hf (Or.inr rfl) dX9_street_67
  have hJ97 : ∀ (t0 : Int32) (t1 : Int32) (t2 : Int32) (x1 : Int32) (x2 : Int32) (x3 : Int32) (M : Mem) (H : Heap) (locs : List Loc) (ls : Array Slot), j_X9_street_97 n  t0 t1 t2 x1 x2 x3 M = some res → GI w layM 24 s.heap M H locs → lv_has ls 4 [(0, .ref (w.2.2.1 0)), (1, .int x1), (2, .int x2), (3, .int x3)] → W p l e (Rm 2) s m args below meth c H locs 0 0 (MQ below (GQi w layM 24 res s.heap.size) args s 0 0 (gA w.2.2.1 24 s.heap.size)) (F0 m 97 ls [.int t0, .int t1, .int t2, .ref (w.2.2.1 12)]) := by
    intro t0 t1 t2 x1 x2 x3 M H locs ls hf hG hl
    unfold j_X9_street_97 at hf
    refine lv_iadd hx hb dX9_street_97 ?_
    replace hf := ck_some hf
    obtain ⟨k3, hf⟩ := hf
    refine g_iast F hG oM_12 k3 dX9_street_98 (fun H locs hG => ?_)
    refine lv_aload_n hx hb dX9_street_99 rfl (lv_at hl 0 rfl) ?_
    refine g_getR F hG 12 mo_0 (by decide) (by decide) lk_X9_63 rfl dX9_street_100 ?_
    refine lv_bipush (v := 46) hx hb dX9_street_103 (by decide) ?_
    refine lv_iload_n hx hb dX9_street_105 rfl (lv_at hl 2 rfl) ?_
    refine lv_iadd hx hb dX9_street_106 ?_
    refine lv_dup2_11 hx hb dX9_street_107 rfl rfl ?_
    replace hf := ck_some hf
    obtain ⟨k4, hf⟩ := hf
    refine g_iald F hG oM_12 k4 dX9_street_108 ?_
    refine lv_iload_n hx hb dX9_street_109 rfl (lv_at hl 3 rfl) ?_
    refine lv_if_eq (tgt := 119) hx hb dX9_street_110 (by decide) (fun c5 => ?_) (fun c5 => ?_)
    · replace hf := if_t c5 hf
      refine lv_iconst (v := 0) hx hb dX9_street_119 (by decide) ?_
      refine lv_iconst (v := 1) hx hb dX9_street_120 (by decide) ?_
      refine lv_iload_n hx hb dX9_street_121 rfl (lv_at hl 1 rfl) ?_
      refine lv_ishl hx hb dX9_street_122 ?_
      refine lv_isub hx hb dX9_street_123 ?_
      refine lv_iadd hx hb dX9_street_124 ?_
      replace hf := ck_some hf
      obtain ⟨k6, hf⟩ := hf
      refine g_iast F hG oM_12 k6 dX9_street_125 (fun H locs hG => ?_)
      refine lv_iconst (v := 1) hx hb dX9_street_126 (by decide) ?_
      exact cg_zret F hr hlk hG hf (Or.inr rfl) dX9_street_127
    · replace hf := if_f c5 hf
      refine lv_iconst (v := 1) hx hb dX9_street_113 (by decide) ?_
      refine lv_iload_n hx hb dX9_street_114 rfl (lv_at hl 1 rfl) ?_
      refine lv_ishl hx hb dX9_street_115 ?_
      refine lv_goto (tgt := 124) hx hb dX9_street_116 (by decide) ?_
      refine lv_iadd hx hb dX9_street_124 ?_
      replace hf := ck_some hf
      obtain ⟨k7, hf⟩ := hf
      refine g_iast F hG oM_12 k7 dX9_street_125 (fun H locs hG => ?_)
      refine lv_iconst (v := 1) hx hb dX9_street_126 (by decide) ?_
      exact cg_zret F hr hlk hG hf (Or.inr rfl) dX9_street_127
  have hJ50 : ∀ (t0 : Int32) (x1 : Int32) (x2 : Int32) (x3 : Int32) (M : Mem) (H : Heap) (locs : List Loc) (ls : Array Slot), j_X9_street_50 n  t0 x1 x2 x3 M = some res → GI w layM 24 s.heap M H locs → lv_has ls 4 [(0, .ref (w.2.2.1 0)), (1, .int x1), (2, .int x2), (3, .int x3)] → W p l e (Rm 2) s m args below meth c H locs 0 0 (MQ below (GQi w layM 24 res s.heap.size) args s 0 0 (gA w.2.2.1 24 s.heap.size)) (F0 m 50 ls [.int t0]) := by
    intro t0 x1 x2 x3 M H locs ls hf hG hl
    unfold j_X9_street_50 at hf
    refine lv_iload_n hx hb dX9_street_50 rfl (lv_at hl 3 rfl) ?_
    refine lv_icmp_ne (tgt := 68) hx hb dX9_street_51 (by decide) (fun c8 => ?_) (fun c8 => ?_)
    · replace hf := if_f c8 hf
      refine lv_aload_n hx hb dX9_street_68 rfl (lv_at hl 0 rfl) ?_
      replace hf := bd_some hf
      obtain ⟨q9, eq9, hf⟩ := hf
      refine gx_callv hG (gx_runV hXk F hX hG (c_X9_keeps l w hXk n   _ _ eq9) cv_X9_406 ⟨Nat.le_of_ble_eq_true rfl, Nat.le_of_ble_eq_true rfl⟩ (g_recv F hG mo_0 (by decide) rfl) rfl hl.1 rfl (Nat.le_of_ble_eq_true rfl) dX9_street_69 ⟨Nat.le_refl _, Nat.le_refl _⟩) (fun H locs hG => ?_)
      refine lv_aload_n hx hb dX9_street_72 rfl (lv_at hl 0 rfl) ?_
      refine g_getR F hG 12 mo_0 (by decide) (by decide) lk_X9_63 rfl dX9_street_73 ?_
      refine lv_bipush (v := 46) hx hb dX9_street_76 (by decide) ?_
      refine lv_iload_n hx hb dX9_street_78 rfl (lv_at hl 1 rfl) ?_
      refine lv_iadd hx hb dX9_street_79 ?_
      refine lv_dup2_11 hx hb dX9_street_80 rfl rfl ?_
      replace hf := ck_some hf
      obtain ⟨k10, hf⟩ := hf
      refine g_iald F hG oM_12 k10 dX9_street_81 ?_
      refine lv_iload_n hx hb dX9_street_82 rfl (lv_at hl 3 rfl) ?_
      refine lv_if_eq (tgt := 92) hx hb dX9_street_83 (by decide) (fun c11 => ?_) (fun c11 => ?_)
      · replace hf := if_t c11 hf
        refine lv_iconst (v := 0) hx hb dX9_street_92 (by decide) ?_
        refine lv_iconst (v := 1) hx hb dX9_street_93 (by decide) ?_
        refine lv_iload_n hx hb dX9_street_94 rfl (lv_at hl 2 rfl) ?_
        refine lv_ishl hx hb dX9_street_95 ?_
        refine lv_isub hx hb dX9_street_96 ?_
        exact hJ97 _ _ _ _ _ _ _ _ _ ls hf hG (lv_sub hl [0, 1, 2, 3] rfl)
      · replace hf := if_f c11 hf
        refine lv_iconst (v := 1) hx hb dX9_street_86 (by decide) ?_
        refine lv_iload_n hx hb dX9_street_87 rfl (lv_at hl 2 rfl) ?_
        refine lv_ishl hx hb dX9_street_88 ?_
        refine lv_goto (tgt := 97) hx hb dX9_street_89 (by decide) ?_
        exact hJ97 _ _ _ _ _ _ _ _ _ ls hf hG (lv_sub hl [0, 1, 2, 3] rfl)
    · replace hf := if_t c8 hf
      exact hJ54  _ _ _ ls hf hG (lv_sub hl [0] rfl)
  unfold f_X9_street at hf
  refine lv_aload_n hx hb dX9_street_0 rfl (lv_at hl 0 rfl) ?_
  refine lv_iconst (v := 0) hx hb dX9_street_1 (by decide) ?_
  refine g_putI F hG mo_0 (by decide) (by decide) lkv_X9_102 rfl rfl rfl dX9_street_2 (fun H locs hG => ?_)
  refine lv_aload_n hx hb dX9_street_5 rfl (lv_at hl 0 rfl) ?_
  refine lv_iload_n hx hb dX9_street_6 rfl (lv_at hl 1 rfl) ?_
  replace hf := bd_some hf
  obtain ⟨q12, eq12, hf⟩ := hf
  refine gx_calli hG (gx_runV hXk F hX hG (c_X9_isWard l w hXk n  x1 _ _ eq12) cv_X9_400 ⟨Nat.le_of_ble_eq_true rfl, Nat.le_of_ble_eq_true rfl⟩ (g_recv F hG mo_0 (by decide) rfl) rfl hl.1 rfl (Nat.le_of_ble_eq_true rfl) dX9_street_7 ⟨Nat.le_refl _, Nat.le_refl _⟩) (fun H locs hG => ?_)
  refine lv_if_eq (tgt := 21) hx hb dX9_street_10 (by decide) (fun c13 => ?_) (fun c13 => ?_)
  · replace hf := if_t c13 hf
    refine lv_iconst (v := 0) hx hb dX9_street_21 (by decide) ?_
    exact cg_zret F hr hlk hG hf (Or.inl rfl) dX9_street_22
  · replace hf := if_f c13 hf
    refine lv_aload_n hx hb dX9_street_13 rfl (lv_at hl 0 rfl) ?_
    refine lv_iload_n hx hb dX9_street_14 rfl (lv_at hl 2 rfl) ?_
    replace hf := bd_some hf
    obtain ⟨q14, eq14, hf⟩ := hf
    refine gx_calli hG (gx_runV hXk F hX hG (c_X9_isWard l w hXk n  x2 _ _ eq14) cv_X9_400 ⟨Nat.le_of_ble_eq_true rfl, Nat.le_of_ble_eq_true rfl⟩ (g_recv F hG mo_0 (by decide) rfl) rfl hl.1 rfl (Nat.le_of_ble_eq_true rfl) dX9_street_15 ⟨Nat.le_refl _, Nat.le_refl _⟩) (fun H locs hG => ?_)
    refine lv_if_ne (tgt := 23) hx hb dX9_street_18 (by decide) (fun c15 => ?_) (fun c15 => ?_)
    · replace hf := if_f c15 hf
      refine lv_iload_n hx hb dX9_street_23 rfl (lv_at hl 1 rfl) ?_
      refine lv_iload_n hx hb dX9_street_24 rfl (lv_at hl 2 rfl) ?_
      refine lv_icmp_eq (tgt := 54) hx hb dX9_street_25 (by decide) (fun c16 => ?_) (fun c16 => ?_)
      · replace hf := if_t c16 hf
        exact hJ54  _ _ _ ls hf hG (lv_sub hl [0] rfl)
      · replace hf := if_f c16 hf
        refine lv_aload_n hx hb dX9_street_28 rfl (lv_at hl 0 rfl) ?_
        refine g_getR F hG 12 mo_0 (by decide) (by decide) lk_X9_63 rfl dX9_street_29 ?_
        refine lv_bipush (v := 46) hx hb dX9_street_32 (by decide) ?_
        refine lv_iload_n hx hb dX9_street_34 rfl (lv_at hl 1 rfl) ?_
        refine lv_iadd hx hb dX9_street_35 ?_
        replace hf := ck_some hf
        obtain ⟨k17, hf⟩ := hf
        refine g_iald F hG oM_12 k17 dX9_street_36 ?_
        refine lv_iload_n hx hb dX9_street_37 rfl (lv_at hl 2 rfl) ?_
        refine lv_ishr hx hb dX9_street_38 ?_
        refine lv_iconst (v := 1) hx hb dX9_street_39 (by decide) ?_
        refine lv_iand hx hb dX9_street_40 ?_
        refine lv_iconst (v := 1) hx hb dX9_street_41 (by decide) ?_
        refine lv_icmp_ne (tgt := 49) hx hb dX9_street_42 (by decide) (fun c18 => ?_) (fun c18 => ?_)
        · replace hf := if_f c18 hf
          refine lv_iconst (v := 0) hx hb dX9_street_49 (by decide) ?_
          exact hJ50 _ _ _ _ _ _ _ ls hf hG (lv_sub hl [0, 1, 2, 3] rfl)
        · replace hf := if_t c18 hf
          refine lv_iconst (v := 1) hx hb dX9_street_45 (by decide) ?_
          refine lv_goto (tgt := 50) hx hb dX9_street_46 (by decide) ?_
          exact hJ50 _ _ _ _ _ _ _ ls hf hG (lv_sub hl [0, 1, 2, 3] rfl)
    · replace hf := if_t c15 hf
      refine lv_iconst (v := 0) hx hb dX9_street_21 (by decide) ?_
      exact cg_zret F hr hlk hG hf (Or.inl rfl) dX9_street_22

def f_X9_then (n : Nat) (x1 : Int32) (x2 : Int32) (M : Mem) : Option (Int32 × Mem) := bd (f_X9_isWhat n  x2 (6 : Int32) (si M 0 0 (0 : Int32))) (fun q1 => if q1.1 = 0 then (some ((0 : Int32), q1.2)) else (bd (f_X9_isSoon n  x1 (0 : Int32) (2 : Int32) q1.2) (fun q3 => if q3.1 = 0 then (some ((0 : Int32), q3.2)) else (bd (f_X9_goesTo n  x1 q3.2) (fun q5 => if x2 = (0 : Int32) then (some ((gi q5 12 (57 : Int32).toNatClampNeg), q5)) else (if x2 = (1 : Int32) then (bd (f_X9_weightOf n  (54 : Int32) q5) (fun q8 => some (q8.1, q8.2))) else (if x2 = (2 : Int32) then (some ((gi q5 12 (56 : Int32).toNatClampNeg), q5)) else (if x2 = (3 : Int32) then (some ((gi q5 12 (55 : Int32).toNatClampNeg), q5)) else (if x2 = (4 : Int32) then (some (((gi q5 12 (58 : Int32).toNatClampNeg) - (gi q5 12 (57 : Int32).toNatClampNeg)), q5)) else (if x2 = (5 : Int32) then (some ((gi q5 0 48), q5)) else (if (gi q5 12 (57 : Int32).toNatClampNeg) = 0 then (some ((-1 : Int32), q5)) else (ck (inb (((60 : Int32) + (gi q5 12 (57 : Int32).toNatClampNeg)) - (1 : Int32)) 108) (some ((gi q5 12 (((60 : Int32) + (gi q5 12 (57 : Int32).toNatClampNeg)) - (1 : Int32)).toNatClampNeg), q5))))))))))))))
set_option maxHeartbeats 4000000 in
set_option maxRecDepth 100000 in
theorem c_X9_then (l : Launch) (w : Wd) {X : (Nat → Prop) → State → Heap → Prop} (hXk : XOK X) (n : Nat) (x1 : Int32) (x2 : Int32) (M : Mem) (res : Int32 × Mem) (hf : f_X9_then n  x1 x2 M = some res) : CG l w layM 24 X yX9_then cX9_then 4 (some .int) 6 [.ref (w.2.2.1 0), .int x1, .int x2] M (GQi w layM 24 res) := by
  refine cg_start (by decide +kernel) (Nat.le_of_ble_eq_true rfl) ?_
  intro p e s m args below meth c F hr hlk hX hG ls hl
  have F : FX w p m c cX9_then 4 s args RX9 := F
  have hx := F.1.1
  have hb := F.1.2.1
  have hl : lv_has ls 4 [(0, .ref (w.2.2.1 0)), (1, .int x1), (2, .int x2)] := hl
  unfold f_X9_then at hf
  refine lv_aload_n hx hb dX9_then_0 rfl (lv_at hl 0 rfl) ?_
  refine lv_iconst (v := 0) hx hb dX9_then_1 (by decide) ?_
  refine g_putI F hG mo_0 (by decide) (by decide) lkv_X9_102 rfl rfl rfl dX9_then_2 (fun H locs hG => ?_)
  refine lv_aload_n hx hb dX9_then_5 rfl (lv_at hl 0 rfl) ?_
  refine lv_iload_n hx hb dX9_then_6 rfl (lv_at hl 2 rfl) ?_
  refine lv_bipush (v := 6) hx hb dX9_then_7 (by decide) ?_
  replace hf := bd_some hf
  obtain ⟨q1, eq1, hf⟩ := hf
  refine gx_calli hG (gx_runV hXk F hX hG (c_X9_isWhat l w hXk n  x2 (6 : Int32) _ _ eq1) cv_X9_396 ⟨Nat.le_of_ble_eq_true rfl, Nat.le_of_ble_eq_true rfl⟩ (g_recv F hG mo_0 (by decide) rfl) rfl hl.1 rfl (Nat.le_of_ble_eq_true rfl) dX9_then_9 ⟨Nat.le_refl _, Nat.le_refl _⟩) (fun H locs hG => ?_)
  refine lv_if_eq (tgt := 25) hx hb dX9_then_12 (by decide) (fun c2 => ?_) (fun c2 => ?_)
  · replace hf := if_t c2 hf
    refine lv_iconst (v := 0) hx hb dX9_then_25 (by decide) ?_
    exact cg_iret F hr hlk hG hf dX9_then_26
  · replace hf := if_f c2 hf
    refine lv_aload_n hx hb dX9_then_15 rfl (lv_at hl 0 rfl) ?_
    refine lv_iload_n hx hb dX9_then_16 rfl (lv_at hl 1 rfl) ?_
    refine lv_iconst (v := 0) hx hb dX9_then_17 (by decide) ?_
    refine lv_iconst (v := 2) hx hb dX9_then_18 (by decide) ?_
    replace hf := bd_some hf
    obtain ⟨q3, eq3, hf⟩ := hf
    refine gx_calli hG (gx_runV hXk F hX hG (c_X9_isSoon l w hXk n  x1 (0 : Int32) (2 : Int32) _ _ eq3) cv_X9_412 ⟨Nat.le_of_ble_eq_true rfl, Nat.le_of_ble_eq_true rfl⟩ (g_recv F hG mo_0 (by decide) rfl) rfl hl.1 rfl (Nat.le_of_ble_eq_true rfl) dX9_then_19 ⟨Nat.le_refl _, Nat.le_refl _⟩) (fun H locs hG => ?_)
    refine lv_if_ne (tgt := 27) hx hb dX9_then_22 (by decide) (fun c4 => ?_) (fun c4 => ?_)
    · replace hf := if_f c4 hf
      refine lv_aload_n hx hb dX9_then_27 rfl (lv_at hl 0 rfl) ?_
      refine lv_iload_n hx hb dX9_then_28 rfl (lv_at hl 1 rfl) ?_
      replace hf := bd_some hf
      obtain ⟨q5, eq5, hf⟩ := hf
      refine gx_callv hG (gx_runV hXk F hX hG (c_X9_goesTo l w hXk n  x1 _ _ eq5) cv_X9_415 ⟨Nat.le_of_ble_eq_true rfl, Nat.le_of_ble_eq_true rfl⟩ (g_recv F hG mo_0 (by decide) rfl) rfl hl.1 rfl (Nat.le_of_ble_eq_true rfl) dX9_then_29 ⟨Nat.le_refl _, Nat.le_refl _⟩) (fun H locs hG => ?_)
      refine lv_aload_n hx hb dX9_then_32 rfl (lv_at hl 0 rfl) ?_
      refine g_getR F hG 12 mo_0 (by decide) (by decide) lk_X9_63 rfl dX9_then_33 ?_
      refine lv_bipush (v := 57) hx hb dX9_then_36 (by decide) ?_
      refine g_iald F hG oM_12 (by decide) dX9_then_38 ?_
      refine lv_istore_n (lv' := [(3, .int (gi q5 12 (57 : Int32).toNatClampNeg)), (0, .ref (w.2.2.1 0)), (1, .int x1), (2, .int x2)]) hx hb dX9_then_39 rfl hl (by decide) rfl (fun ls hl => ?_)
      refine lv_iload_n hx hb dX9_then_40 rfl (lv_at hl 3 rfl) ?_
      by_cases c6 : x2 = (0 : Int32)
      · replace hf := if_t c6 hf
        refine lv_tableIn (off := 39) (tgt := 80) hx hb dX9_then_41 (by rw [c6]; decide) (by rw [c6]; decide) (by rw [c6]; rfl) (by decide) ?_
        refine lv_iload_n hx hb dX9_then_80 rfl (lv_at hl 0 rfl) ?_
        exact cg_iret F hr hlk hG hf dX9_then_81
      replace hf := if_f c6 hf
      by_cases c7 : x2 = (1 : Int32)
      · replace hf := if_t c7 hf
        refine lv_tableIn (off := 41) (tgt := 82) hx hb dX9_then_41 (by rw [c7]; decide) (by rw [c7]; decide) (by rw [c7]; rfl) (by decide) ?_
        refine lv_aload_n hx hb dX9_then_82 rfl (lv_at hl 1 rfl) ?_
        refine lv_bipush (v := 54) hx hb dX9_then_83 (by decide) ?_
        replace hf := bd_some hf
        obtain ⟨q8, eq8, hf⟩ := hf
        refine gx_calli hG (gx_runV hXk F hX hG (c_X9_weightOf l w hXk n  (54 : Int32) _ _ eq8) cv_X9_327 ⟨Nat.le_of_ble_eq_true rfl, Nat.le_of_ble_eq_true rfl⟩ (g_recv F hG mo_0 (by decide) rfl) rfl hl.1 rfl (Nat.le_of_ble_eq_true rfl) dX9_then_85 ⟨Nat.le_refl _, Nat.le_refl _⟩) (fun H locs hG => ?_)
        exact cg_iret F hr hlk hG hf dX9_then_88
      replace hf := if_f c7 hf
      by_cases c9 : x2 = (2 : Int32)
      · replace hf := if_t c9 hf
        refine lv_tableIn (off := 48) (tgt := 89) hx hb dX9_then_41 (by rw [c9]; decide) (by rw [c9]; decide) (by rw [c9]; rfl) (by decide) ?_
        refine lv_aload_n hx hb dX9_then_89 rfl (lv_at hl 1 rfl) ?_
        refine g_getR F hG 12 mo_0 (by decide) (by decide) lk_X9_63 rfl dX9_then_90 ?_
        refine lv_bipush (v := 56) hx hb dX9_then_93 (by decide) ?_
        refine g_iald F hG oM_12 (by decide) dX9_then_95 ?_
        exact cg_iret F hr hlk hG hf dX9_then_96
      replace hf := if_f c9 hf
      by_cases c10 : x2 = (3 : Int32)
      · replace hf := if_t c10 hf
        refine lv_tableIn (off := 56) (tgt := 97) hx hb dX9_then_41 (by rw [c10]; decide) (by rw [c10]; decide) (by rw [c10]; rfl) (by decide) ?_
        refine lv_aload_n hx hb dX9_then_97 rfl (lv_at hl 1 rfl) ?_
        refine g_getR F hG 12 mo_0 (by decide) (by decide) lk_X9_63 rfl dX9_then_98 ?_
        refine lv_bipush (v := 55) hx hb dX9_then_101 (by decide) ?_
        refine g_iald F hG oM_12 (by decide) dX9_then_103 ?_
        exact cg_iret F hr hlk hG hf dX9_then_104
      replace hf := if_f c10 hf
      by_cases c11 : x2 = (4 : Int32)
      · replace hf := if_t c11 hf
        refine lv_tableIn (off := 64) (tgt := 105) hx hb dX9_then_41 (by rw [c11]; decide) (by rw [c11]; decide) (by rw [c11]; rfl) (by decide) ?_
        refine lv_aload_n hx hb dX9_then_105 rfl (lv_at hl 1 rfl) ?_
        refine g_getR F hG 12 mo_0 (by decide) (by decide) lk_X9_63 rfl dX9_then_106 ?_
        refine lv_bipush (v := 58) hx hb dX9_then_109 (by decide) ?_
        refine g_iald F hG oM_12 (by decide) dX9_then_111 ?_
        refine lv_iload_n hx hb dX9_then_112 rfl (lv_at hl 0 rfl) ?_
        refine lv_isub hx hb dX9_then_113 ?_
        exact cg_iret F hr hlk hG hf dX9_then_114
      replace hf := if_f c11 hf
      by_cases c12 : x2 = (5 : Int32)
      · replace hf := if_t c12 hf
        refine lv_tableIn (off := 74) (tgt := 115) hx hb dX9_then_41 (by rw [c12]; decide) (by rw [c12]; decide) (by rw [c12]; rfl) (by decide) ?_
        refine lv_aload_n hx hb dX9_then_115 rfl (lv_at hl 1 rfl) ?_
        refine g_getI F hG mo_0 (by decide) (by decide) lk_X9_311 rfl dX9_then_116 ?_
        exact cg_iret F hr hlk hG hf dX9_then_119
      replace hf := if_f c12 hf
      refine lv_tableOut (tgt := 120) hx hb dX9_then_41 (sw_out (0) (5) 6 (by decide) (fun k hk => match k, hk with | 0, _ => c6 | 1, _ => c7 | 2, _ => c9 | 3, _ => c10 | 4, _ => c11 | 5, _ => c12 | k + 6, h => absurd h (by omega))) (by decide) ?_
      refine lv_iload_n hx hb dX9_then_120 rfl (lv_at hl 0 rfl) ?_
      refine lv_if_ne (tgt := 128) hx hb dX9_then_121 (by decide) (fun c13 => ?_) (fun c13 => ?_)
      · replace hf := if_f c13 hf
        refine lv_aload_n hx hb dX9_then_128 rfl (lv_at hl 1 rfl) ?_
        refine g_getR F hG 12 mo_0 (by decide) (by decide) lk_X9_63 rfl dX9_then_129 ?_
        refine lv_bipush (v := 60) hx hb dX9_then_132 (by decide) ?_
        refine lv_iload_n hx hb dX9_then_134 rfl (lv_at hl 0 rfl) ?_
        refine lv_iadd hx hb dX9_then_135 ?_
        refine lv_iconst (v := 1) hx hb dX9_then_136 (by decide) ?_
        refine lv_isub hx hb dX9_then_137 ?_
        replace hf := ck_some hf
        obtain ⟨k14, hf⟩ := hf
        refine g_iald F hG oM_12 k14 dX9_then_138 ?_
        exact cg_iret F hr hlk hG hf dX9_then_139
      · replace hf := if_t c13 hf
        refine lv_iconst (v := -1) hx hb dX9_then_124 (by decide) ?_
        refine lv_goto (tgt := 139) hx hb dX9_then_125 (by decide) ?_
        exact cg_iret F hr hlk hG hf dX9_then_139
    · replace hf := if_t c4 hf
      refine lv_iconst (v := 0) hx hb dX9_then_25 (by decide) ?_
      exact cg_iret F hr hlk hG hf dX9_then_26

def f_X9_wardThen (n : Nat) (x1 : Int32) (x2 : Int32) (x3 : Int32) (M : Mem) : Option (Int32 × Mem) := bd (f_X9_isWard n  x1 (si M 0 0 (0 : Int32))) (fun q1 => if q1.1 = 0 then (some ((0 : Int32), q1.2)) else (bd (f_X9_isWhat n  x3 (1 : Int32) q1.2) (fun q3 => if q3.1 = 0 then (some ((0 : Int32), q3.2)) else (bd (f_X9_isSoon n  x2 (0 : Int32) (2 : Int32) q3.2) (fun q5 => if q5.1 = 0 then (some ((0 : Int32), q5.2)) else (bd (f_X9_goesTo n  x2 q5.2) (fun q7 => if x3 = 0 then (ck (inb ((92 : Int32) + x1) 108) (some ((gi q7 12 ((92 : Int32) + x1).toNatClampNeg), q7))) else (ck (inb x1 8) (some ((gi q7 14 x1.toNatClampNeg), q7))))))))))
set_option maxHeartbeats 4000000 in
set_option maxRecDepth 100000 in
theorem c_X9_wardThen (l : Launch) (w : Wd) {X : (Nat → Prop) → State → Heap → Prop} (hXk : XOK X) (n : Nat) (x1 : Int32) (x2 : Int32) (x3 : Int32) (M : Mem) (res : Int32 × Mem) (hf : f_X9_wardThen n  x1 x2 x3 M = some res) : CG l w layM 24 X yX9_wardThen cX9_wardThen 4 (some .int) 6 [.ref (w.2.2.1 0), .int x1, .int x2, .int x3] M (GQi w layM 24 res) := by
  refine cg_start (by decide +kernel) (Nat.le_of_ble_eq_true rfl) ?_
  intro p e s m args below meth c F hr hlk hX hG ls hl
  have F : FX w p m c cX9_wardThen 4 s args RX9 := F
  have hx := F.1.1
  have hb := F.1.2.1
  have hl : lv_has ls 4 [(0, .ref (w.2.2.1 0)), (1, .int x1), (2, .int x2), (3, .int x3)] := hl
  unfold f_X9_wardThen at hf
  refine lv_aload_n hx hb dX9_wardThen_0 rfl (lv_at hl 0 rfl) ?_
  refine lv_iconst (v := 0) hx hb dX9_wardThen_1 (by decide) ?_
  refine g_putI F hG mo_0 (by decide) (by decide) lkv_X9_102 rfl rfl rfl dX9_wardThen_2 (fun H locs hG => ?_)
  refine lv_aload_n hx hb dX9_wardThen_5 rfl (lv_at hl 0 rfl) ?_
  refine lv_iload_n hx hb dX9_wardThen_6 rfl (lv_at hl 1 rfl) ?_
  replace hf := bd_some hf
  obtain ⟨q1, eq1, hf⟩ := hf
  refine gx_calli hG (gx_runV hXk F hX hG (c_X9_isWard l w hXk n  x1 _ _ eq1) cv_X9_400 ⟨Nat.le_of_ble_eq_true rfl, Nat.le_of_ble_eq_true rfl⟩ (g_recv F hG mo_0 (by decide) rfl) rfl hl.1 rfl (Nat.le_of_ble_eq_true rfl) dX9_wardThen_7 ⟨Nat.le_refl _, Nat.le_refl _⟩) (fun H locs hG => ?_)
  refine lv_if_eq (tgt := 32) hx hb dX9_wardThen_10 (by decide) (fun c2 => ?_) (fun c2 => ?_)
  · replace hf := if_t c2 hf
    refine lv_iconst (v := 0) hx hb dX9_wardThen_32 (by decide) ?_
    exact cg_iret F hr hlk hG hf dX9_wardThen_33
  · replace hf := if_f c2 hf
    refine lv_aload_n hx hb dX9_wardThen_13 rfl (lv_at hl 0 rfl) ?_
    refine lv_iload_n hx hb dX9_wardThen_14 rfl (lv_at hl 3 rfl) ?_
    refine lv_iconst (v := 1) hx hb dX9_wardThen_15 (by decide) ?_
    replace hf := bd_some hf
    obtain ⟨q3, eq3, hf⟩ := hf
    refine gx_calli hG (gx_runV hXk F hX hG (c_X9_isWhat l w hXk n  x3 (1 : Int32) _ _ eq3) cv_X9_396 ⟨Nat.le_of_ble_eq_true rfl, Nat.le_of_ble_eq_true rfl⟩ (g_recv F hG mo_0 (by decide) rfl) rfl hl.1 rfl (Nat.le_of_ble_eq_true rfl) dX9_wardThen_16 ⟨Nat.le_refl _, Nat.le_refl _⟩) (fun H locs hG => ?_)
    refine lv_if_eq (tgt := 32) hx hb dX9_wardThen_19 (by decide) (fun c4 => ?_) (fun c4 => ?_)
    · replace hf := if_t c4 hf
      refine lv_iconst (v := 0) hx hb dX9_wardThen_32 (by decide) ?_
      exact cg_iret F hr hlk hG hf dX9_wardThen_33
    · replace hf := if_f c4 hf
      refine lv_aload_n hx hb dX9_wardThen_22 rfl (lv_at hl 0 rfl) ?_
      refine lv_iload_n hx hb dX9_wardThen_23 rfl (lv_at hl 2 rfl) ?_
      refine lv_iconst (v := 0) hx hb dX9_wardThen_24 (by decide) ?_
      refine lv_iconst (v := 2) hx hb dX9_wardThen_25 (by decide) ?_
      replace hf := bd_some hf
      obtain ⟨q5, eq5, hf⟩ := hf
      refine gx_calli hG (gx_runV hXk F hX hG (c_X9_isSoon l w hXk n  x2 (0 : Int32) (2 : Int32) _ _ eq5) cv_X9_412 ⟨Nat.le_of_ble_eq_true rfl, Nat.le_of_ble_eq_true rfl⟩ (g_recv F hG mo_0 (by decide) rfl) rfl hl.1 rfl (Nat.le_of_ble_eq_true rfl) dX9_wardThen_26 ⟨Nat.le_refl _, Nat.le_refl _⟩) (fun H locs hG => ?_)
      refine lv_if_ne (tgt := 34) hx hb dX9_wardThen_29 (by decide) (fun c6 => ?_) (fun c6 => ?_)
      · replace hf := if_f c6 hf
        refine lv_aload_n hx hb dX9_wardThen_34 rfl (lv_at hl 0 rfl) ?_
        refine lv_iload_n hx hb dX9_wardThen_35 rfl (lv_at hl 2 rfl) ?_
        replace hf := bd_some hf
        obtain ⟨q7, eq7, hf⟩ := hf
        refine gx_callv hG (gx_runV hXk F hX hG (c_X9_goesTo l w hXk n  x2 _ _ eq7) cv_X9_415 ⟨Nat.le_of_ble_eq_true rfl, Nat.le_of_ble_eq_true rfl⟩ (g_recv F hG mo_0 (by decide) rfl) rfl hl.1 rfl (Nat.le_of_ble_eq_true rfl) dX9_wardThen_36 ⟨Nat.le_refl _, Nat.le_refl _⟩) (fun H locs hG => ?_)
        refine lv_iload_n hx hb dX9_wardThen_39 rfl (lv_at hl 3 rfl) ?_
        refine lv_if_ne (tgt := 55) hx hb dX9_wardThen_40 (by decide) (fun c8 => ?_) (fun c8 => ?_)
        · replace hf := if_f c8 hf
          refine lv_aload_n hx hb dX9_wardThen_55 rfl (lv_at hl 0 rfl) ?_
          refine g_getR F hG 14 mo_0 (by decide) (by decide) lk_X9_69 rfl dX9_wardThen_56 ?_
          refine lv_iload_n hx hb dX9_wardThen_59 rfl (lv_at hl 1 rfl) ?_
          replace hf := ck_some hf
          obtain ⟨k10, hf⟩ := hf
          refine g_iald F hG oM_14 k10 dX9_wardThen_60 ?_
          exact cg_iret F hr hlk hG hf dX9_wardThen_61
        · replace hf := if_t c8 hf
          refine lv_aload_n hx hb dX9_wardThen_43 rfl (lv_at hl 0 rfl) ?_
          refine g_getR F hG 12 mo_0 (by decide) (by decide) lk_X9_63 rfl dX9_wardThen_44 ?_
          refine lv_bipush (v := 92) hx hb dX9_wardThen_47 (by decide) ?_
          refine lv_iload_n hx hb dX9_wardThen_49 rfl (lv_at hl 1 rfl) ?_
          refine lv_iadd hx hb dX9_wardThen_50 ?_
          replace hf := ck_some hf
          obtain ⟨k9, hf⟩ := hf
          refine g_iald F hG oM_12 k9 dX9_wardThen_51 ?_
          refine lv_goto (tgt := 61) hx hb dX9_wardThen_52 (by decide) ?_
          exact cg_iret F hr hlk hG hf dX9_wardThen_61
      · replace hf := if_t c6 hf
        refine lv_iconst (v := 0) hx hb dX9_wardThen_32 (by decide) ?_
        exact cg_iret F hr hlk hG hf dX9_wardThen_33

def j_X9_share_60 (n : Nat) (x1 : Int32) (x3 : Int32) (M : Mem) : Option (Int32 × Mem) := if x3 = 0 then (some ((0 : Int32), M)) else (ck (inb x1 8) (ck (¬ x3 = 0) (some ((((100 : Int32) * (gi M 14 x1.toNatClampNeg)) / x3), M))))
def b_X9_share_35 (n : Nat) (x1 : Int32) (q : (Int32 × Int32 × Mem)) : Option ((Int32 × Int32 × Mem) ⊕ (Int32 × Mem)) := match q with
  | (x3, x4, M) => if (gi M 0 1) ≤ x4 then (mr (j_X9_share_60 n  x1 x3 M)) else (ck (inb x4 8) (some (.inl ((x3 + (gi M 14 x4.toNatClampNeg)), (x4 + (1 : Int32)), M))))
def f_X9_share (n : Nat) (x1 : Int32) (x2 : Int32) (M : Mem) : Option (Int32 × Mem) := bd (f_X9_isWard n  x1 (si M 0 0 (0 : Int32))) (fun q6 => if q6.1 = 0 then (some ((0 : Int32), q6.2)) else (bd (f_X9_isSoon n  x2 (0 : Int32) (2 : Int32) q6.2) (fun q8 => if q8.1 = 0 then (some ((0 : Int32), q8.2)) else (bd (f_X9_goesTo n  x2 q8.2) (fun q10 => gl (b_X9_share_35 n  x1) n ((0 : Int32), (0 : Int32), q10))))))
set_option maxHeartbeats 4000000 in
set_option maxRecDepth 100000 in
theorem c_X9_share (l : Launch) (w : Wd) {X : (Nat → Prop) → State → Heap → Prop} (hXk : XOK X) (n : Nat) (x1 : Int32) (x2 : Int32) (M : Mem) (res : Int32 × Mem) (hf : f_X9_share n  x1 x2 M = some res) : CG l w layM 24 X yX9_share cX9_share 5 (some .int) 6 [.ref (w.2.2.1 0), .int x1, .int x2] M (GQi w layM 24 res) := by
  refine cg_start (by decide +kernel) (Nat.le_of_ble_eq_true rfl) ?_
  intro p e s m args below meth c F hr hlk hX hG ls hl
  have F : FX w p m c cX9_share 5 s args RX9 := F
  have hx := F.1.1
  have hb := F.1.2.1
  have hl : lv_has ls 5 [(0, .ref (w.2.2.1 0)), (1, .int x1), (2, .int x2)] := hl
  have hJ60 : ∀ (x1 : Int32) (x3 : Int32) (M : Mem) (H : Heap) (locs : List Loc) (ls : Array Slot), j_X9_share_60 n  x1 x3 M = some res → GI w layM 24 s.heap M H locs → lv_has ls 5 [(0, .ref (w.2.2.1 0)), (1, .int x1), (3, .int x3)] → W p l e (Rm 6) s m args below meth c H locs 0 0 (MQ below (GQi w layM 24 res s.heap.size) args s 0 0 (gA w.2.2.1 24 s.heap.size)) (F0 m 60 ls []) := by
    intro x1 x3 M H locs ls hf hG hl
    unfold j_X9_share_60 at hf
    refine lv_iload_n hx hb dX9_share_60 rfl (lv_at hl 2 rfl) ?_
    refine lv_if_ne (tgt := 68) hx hb dX9_share_61 (by decide) (fun c1 => ?_) (fun c1 => ?_)
    · replace hf := if_f c1 hf
      refine lv_bipush (v := 100) hx hb dX9_share_68 (by decide) ?_
      refine lv_aload_n hx hb dX9_share_70 rfl (lv_at hl 0 rfl) ?_
      refine g_getR F hG 14 mo_0 (by decide) (by decide) lk_X9_69 rfl dX9_share_71 ?_
      refine lv_iload_n hx hb dX9_share_74 rfl (lv_at hl 1 rfl) ?_
      replace hf := ck_some hf
      obtain ⟨k2, hf⟩ := hf
      refine g_iald F hG oM_14 k2 dX9_share_75 ?_
      refine lv_imul hx hb dX9_share_76 ?_
      refine lv_iload_n hx hb dX9_share_77 rfl (lv_at hl 2 rfl) ?_
      replace hf := ck_some hf
      obtain ⟨k3, hf⟩ := hf
      refine lv_idiv hx hb dX9_share_78 k3 ?_
      exact cg_iret F hr hlk hG hf dX9_share_79
    · replace hf := if_t c1 hf
      refine lv_iconst (v := 0) hx hb dX9_share_64 (by decide) ?_
      refine lv_goto (tgt := 79) hx hb dX9_share_65 (by decide) ?_
      exact cg_iret F hr hlk hG hf dX9_share_79
  have hJ35 : ∀ (x1 : Int32) (x3 : Int32) (x4 : Int32) (M : Mem) (H : Heap) (locs : List Loc) (ls : Array Slot), gl (b_X9_share_35 n  x1) n (x3, x4, M) = some res → GI w layM 24 s.heap M H locs → lv_has ls 5 [(0, .ref (w.2.2.1 0)), (1, .int x1), (3, .int x3), (4, .int x4)] → W p l e (Rm 6) s m args below meth c H locs 0 0 (MQ below (GQi w layM 24 res s.heap.size) args s 0 0 (gA w.2.2.1 24 s.heap.size)) (F0 m 35 ls []) := by
    intro x1 x3 x4 M H locs ls hf hG hl
    refine gl_run (P := fun (q : (Int32 × Int32 × Mem)) => ∀ (H : Heap) (locs : List Loc) (ls : Array Slot), GI w layM 24 s.heap q.2.2 H locs → lv_has ls 5 [(0, .ref (w.2.2.1 0)), (1, .int x1), (3, .int q.1), (4, .int q.2.1)] → W p l e (Rm 6) s m args below meth c H locs 0 0 (MQ below (GQi w layM 24 res s.heap.size) args s 0 0 (gA w.2.2.1 24 s.heap.size)) (F0 m 35 ls [])) ?_ n (x3, x4, M) hf H locs ls hG hl
    clear hf hG hl ls locs H M x3 x4
    rintro ⟨x3, x4, M⟩ rr35 hf hI35 hE35 H locs ls hG hl
    try dsimp only at hG hl ⊢
    dsimp only [b_X9_share_35] at hf
    refine lv_iload hx hb dX9_share_35 (lv_at hl 3 rfl) ?_
    refine lv_aload_n hx hb dX9_share_37 rfl (lv_at hl 0 rfl) ?_
    refine g_getI F hG mo_0 (by decide) (by decide) lk_X9_291 rfl dX9_share_38 ?_
    refine lv_icmp_ge (tgt := 60) hx hb dX9_share_41 (by decide) (fun c4 => ?_) (fun c4 => ?_)
    · replace hf := if_t c4 hf
      replace hf := mr_some hf
      obtain ⟨z35, hf, hz⟩ := hf
      rw [hE35 _ hz] at hf
      exact hJ60 _ _ _ _ _ ls hf hG (lv_sub hl [0, 1, 2] rfl)
    · replace hf := if_f c4 hf
      refine lv_iload_n hx hb dX9_share_44 rfl (lv_at hl 2 rfl) ?_
      refine lv_aload_n hx hb dX9_share_45 rfl (lv_at hl 0 rfl) ?_
      refine g_getR F hG 14 mo_0 (by decide) (by decide) lk_X9_69 rfl dX9_share_46 ?_
      refine lv_iload hx hb dX9_share_49 (lv_at hl 3 rfl) ?_
      replace hf := ck_some hf
      obtain ⟨k5, hf⟩ := hf
      refine g_iald F hG oM_14 k5 dX9_share_51 ?_
      refine lv_iadd hx hb dX9_share_52 ?_
      refine lv_istore_n (lv' := [(3, .int (x3 + (gi M 14 x4.toNatClampNeg))), (0, .ref (w.2.2.1 0)), (1, .int x1), (4, .int x4)]) hx hb dX9_share_53 rfl hl (by decide) rfl (fun ls hl => ?_)
      refine lv_iinc (v := (x4 + (1 : Int32))) (lv' := [(4, .int (x4 + (1 : Int32))), (3, .int (x3 + (gi M 14 x4.toNatClampNeg))), (0, .ref (w.2.2.1 0)), (1, .int x1)]) hx hb dX9_share_54 hl (k := 3) rfl rfl (by decide) rfl (fun ls hl => ?_)
      refine lv_goto (tgt := 35) hx hb dX9_share_57 (by decide) ?_
      exact hI35 _ (Option.some.inj hf).symm _ _ ls hG (lv_sub hl [2, 3, 1, 0] rfl)
  unfold f_X9_share at hf
  refine lv_aload_n hx hb dX9_share_0 rfl (lv_at hl 0 rfl) ?_
  refine lv_iconst (v := 0) hx hb dX9_share_1 (by decide) ?_
  refine g_putI F hG mo_0 (by decide) (by decide) lkv_X9_102 rfl rfl rfl dX9_share_2 (fun H locs hG => ?_)
  refine lv_aload_n hx hb dX9_share_5 rfl (lv_at hl 0 rfl) ?_
  refine lv_iload_n hx hb dX9_share_6 rfl (lv_at hl 1 rfl) ?_
  replace hf := bd_some hf
  obtain ⟨q6, eq6, hf⟩ := hf
  refine gx_calli hG (gx_runV hXk F hX hG (c_X9_isWard l w hXk n  x1 _ _ eq6) cv_X9_400 ⟨Nat.le_of_ble_eq_true rfl, Nat.le_of_ble_eq_true rfl⟩ (g_recv F hG mo_0 (by decide) rfl) rfl hl.1 rfl (Nat.le_of_ble_eq_true rfl) dX9_share_7 ⟨Nat.le_refl _, Nat.le_refl _⟩) (fun H locs hG => ?_)
  refine lv_if_eq (tgt := 23) hx hb dX9_share_10 (by decide) (fun c7 => ?_) (fun c7 => ?_)
  · replace hf := if_t c7 hf
    refine lv_iconst (v := 0) hx hb dX9_share_23 (by decide) ?_
    exact cg_iret F hr hlk hG hf dX9_share_24
  · replace hf := if_f c7 hf
    refine lv_aload_n hx hb dX9_share_13 rfl (lv_at hl 0 rfl) ?_
    refine lv_iload_n hx hb dX9_share_14 rfl (lv_at hl 2 rfl) ?_
    refine lv_iconst (v := 0) hx hb dX9_share_15 (by decide) ?_
    refine lv_iconst (v := 2) hx hb dX9_share_16 (by decide) ?_
    replace hf := bd_some hf
    obtain ⟨q8, eq8, hf⟩ := hf
    refine gx_calli hG (gx_runV hXk F hX hG (c_X9_isSoon l w hXk n  x2 (0 : Int32) (2 : Int32) _ _ eq8) cv_X9_412 ⟨Nat.le_of_ble_eq_true rfl, Nat.le_of_ble_eq_true rfl⟩ (g_recv F hG mo_0 (by decide) rfl) rfl hl.1 rfl (Nat.le_of_ble_eq_true rfl) dX9_share_17 ⟨Nat.le_refl _, Nat.le_refl _⟩) (fun H locs hG => ?_)
    refine lv_if_ne (tgt := 25) hx hb dX9_share_20 (by decide) (fun c9 => ?_) (fun c9 => ?_)
    · replace hf := if_f c9 hf
      refine lv_aload_n hx hb dX9_share_25 rfl (lv_at hl 0 rfl) ?_
      refine lv_iload_n hx hb dX9_share_26 rfl (lv_at hl 2 rfl) ?_
      replace hf := bd_some hf
      obtain ⟨q10, eq10, hf⟩ := hf
      refine gx_callv hG (gx_runV hXk F hX hG (c_X9_goesTo l w hXk n  x2 _ _ eq10) cv_X9_415 ⟨Nat.le_of_ble_eq_true rfl, Nat.le_of_ble_eq_true rfl⟩ (g_recv F hG mo_0 (by decide) rfl) rfl hl.1 rfl (Nat.le_of_ble_eq_true rfl) dX9_share_27 ⟨Nat.le_refl _, Nat.le_refl _⟩) (fun H locs hG => ?_)
      refine lv_iconst (v := 0) hx hb dX9_share_30 (by decide) ?_
      refine lv_istore_n (lv' := [(3, .int (0 : Int32)), (0, .ref (w.2.2.1 0)), (1, .int x1), (2, .int x2)]) hx hb dX9_share_31 rfl hl (by decide) rfl (fun ls hl => ?_)
      refine lv_iconst (v := 0) hx hb dX9_share_32 (by decide) ?_
      refine lv_istore (lv' := [(4, .int (0 : Int32)), (3, .int (0 : Int32)), (0, .ref (w.2.2.1 0)), (1, .int x1), (2, .int x2)]) hx hb dX9_share_33 hl (by decide) rfl (fun ls hl => ?_)
      exact hJ35 _ _ _ _ _ _ ls hf hG (lv_sub hl [2, 3, 1, 0] rfl)
    · replace hf := if_t c9 hf
      refine lv_iconst (v := 0) hx hb dX9_share_23 (by decide) ?_
      exact cg_iret F hr hlk hG hf dX9_share_24

def b_X9_reaches_28 (n : Nat) (x1 : Int32) (q : (Int32 × Mem)) : Option ((Int32 × Mem) ⊕ (Int32 × Mem)) := match q with
  | (x2, M) => if (60 : Int32) < x2 then (mr (some ((-1 : Int32), M))) else (if (gi M 12 (57 : Int32).toNatClampNeg) < x1 then (bd (f_X9_dayGoes n  (54 : Int32) M) (fun q3 => some (.inl ((x2 + (1 : Int32)), q3)))) else (mr (some (x2, M))))
def f_X9_reaches (n : Nat) (x1 : Int32) (M : Mem) : Option (Int32 × Mem) := bd (f_X9_within n  x1 (0 : Int32) (16 : Int32) (si M 0 0 (0 : Int32))) (fun q4 => bd (f_X9_right n  q4.1 (1 : Int32) q4.2) (fun q5 => if q5.1 = 0 then (some ((0 : Int32), q5.2)) else (bd (f_X9_tries n   q5.2) (fun q7 => gl (b_X9_reaches_28 n  x1) n ((0 : Int32), q7)))))
set_option maxHeartbeats 4000000 in
set_option maxRecDepth 100000 in
theorem c_X9_reaches (l : Launch) (w : Wd) {X : (Nat → Prop) → State → Heap → Prop} (hXk : XOK X) (n : Nat) (x1 : Int32) (M : Mem) (res : Int32 × Mem) (hf : f_X9_reaches n  x1 M = some res) : CG l w layM 24 X yX9_reaches cX9_reaches 3 (some .int) 4 [.ref (w.2.2.1 0), .int x1] M (GQi w layM 24 res) := by
  refine cg_start (by decide +kernel) (Nat.le_of_ble_eq_true rfl) ?_
  intro p e s m args below meth c F hr hlk hX hG ls hl
  have F : FX w p m c cX9_reaches 3 s args RX9 := F
  have hx := F.1.1
  have hb := F.1.2.1
  have hl : lv_has ls 3 [(0, .ref (w.2.2.1 0)), (1, .int x1)] := hl
  have hJ28 : ∀ (x1 : Int32) (x2 : Int32) (M : Mem) (H : Heap) (locs : List Loc) (ls : Array Slot), gl (b_X9_reaches_28 n  x1) n (x2, M) = some res → GI w layM 24 s.heap M H locs → lv_has ls 3 [(0, .ref (w.2.2.1 0)), (1, .int x1), (2, .int x2)] → W p l e (Rm 4) s m args below meth c H locs 0 0 (MQ below (GQi w layM 24 res s.heap.size) args s 0 0 (gA w.2.2.1 24 s.heap.size)) (F0 m 28 ls []) := by
    intro x1 x2 M H locs ls hf hG hl
    refine gl_run (P := fun (q : (Int32 × Mem)) => ∀ (H : Heap) (locs : List Loc) (ls : Array Slot), GI w layM 24 s.heap q.2 H locs → lv_has ls 3 [(0, .ref (w.2.2.1 0)), (1, .int x1), (2, .int q.1)] → W p l e (Rm 4) s m args below meth c H locs 0 0 (MQ below (GQi w layM 24 res s.heap.size) args s 0 0 (gA w.2.2.1 24 s.heap.size)) (F0 m 28 ls [])) ?_ n (x2, M) hf H locs ls hG hl
    clear hf hG hl ls locs H M x2
    rintro ⟨x2, M⟩ rr28 hf hI28 hE28 H locs ls hG hl
    try dsimp only at hG hl ⊢
    dsimp only [b_X9_reaches_28] at hf
    refine lv_iload_n hx hb dX9_reaches_28 rfl (lv_at hl 2 rfl) ?_
    refine lv_bipush (v := 60) hx hb dX9_reaches_29 (by decide) ?_
    refine lv_icmp_gt (tgt := 59) hx hb dX9_reaches_31 (by decide) (fun c1 => ?_) (fun c1 => ?_)
    · replace hf := if_t c1 hf
      refine lv_iconst (v := -1) hx hb dX9_reaches_59 (by decide) ?_
      replace hf := mr_some hf
      obtain ⟨z28, hf, hz⟩ := hf
      rw [hE28 _ hz] at hf
      exact cg_iret F hr hlk hG hf dX9_reaches_60
    · replace hf := if_f c1 hf
      refine lv_aload_n hx hb dX9_reaches_34 rfl (lv_at hl 0 rfl) ?_
      refine g_getR F hG 12 mo_0 (by decide) (by decide) lk_X9_63 rfl dX9_reaches_35 ?_
      refine lv_bipush (v := 57) hx hb dX9_reaches_38 (by decide) ?_
      refine g_iald F hG oM_12 (by decide) dX9_reaches_40 ?_
      refine lv_iload_n hx hb dX9_reaches_41 rfl (lv_at hl 1 rfl) ?_
      refine lv_icmp_lt (tgt := 47) hx hb dX9_reaches_42 (by decide) (fun c2 => ?_) (fun c2 => ?_)
      · replace hf := if_t c2 hf
        refine lv_aload_n hx hb dX9_reaches_47 rfl (lv_at hl 0 rfl) ?_
        refine lv_bipush (v := 54) hx hb dX9_reaches_48 (by decide) ?_
        replace hf := bd_some hf
        obtain ⟨q3, eq3, hf⟩ := hf
        refine gx_callv hG (gx_runV hXk F hX hG (c_X9_dayGoes l w hXk n  (54 : Int32) _ _ eq3) cv_X9_364 ⟨Nat.le_of_ble_eq_true rfl, Nat.le_of_ble_eq_true rfl⟩ (g_recv F hG mo_0 (by decide) rfl) rfl hl.1 rfl (Nat.le_of_ble_eq_true rfl) dX9_reaches_50 ⟨Nat.le_refl _, Nat.le_refl _⟩) (fun H locs hG => ?_)
        refine lv_iinc (v := (x2 + (1 : Int32))) (lv' := [(2, .int (x2 + (1 : Int32))), (0, .ref (w.2.2.1 0)), (1, .int x1)]) hx hb dX9_reaches_53 hl (k := 2) rfl rfl (by decide) rfl (fun ls hl => ?_)
        refine lv_goto (tgt := 28) hx hb dX9_reaches_56 (by decide) ?_
        exact hI28 _ (Option.some.inj hf).symm _ _ ls hG (lv_sub hl [1, 2, 0] rfl)
      · replace hf := if_f c2 hf
        refine lv_iload_n hx hb dX9_reaches_45 rfl (lv_at hl 2 rfl) ?_
        replace hf := mr_some hf
        obtain ⟨z28, hf, hz⟩ := hf
        rw [hE28 _ hz] at hf
        exact cg_iret F hr hlk hG hf dX9_reaches_46
  unfold f_X9_reaches at hf
  refine lv_aload_n hx hb dX9_reaches_0 rfl (lv_at hl 0 rfl) ?_
  refine lv_iconst (v := 0) hx hb dX9_reaches_1 (by decide) ?_
  refine g_putI F hG mo_0 (by decide) (by decide) lkv_X9_102 rfl rfl rfl dX9_reaches_2 (fun H locs hG => ?_)
  refine lv_aload_n hx hb dX9_reaches_5 rfl (lv_at hl 0 rfl) ?_
  refine lv_iload_n hx hb dX9_reaches_6 rfl (lv_at hl 1 rfl) ?_
  refine lv_iconst (v := 0) hx hb dX9_reaches_7 (by decide) ?_
  refine lv_bipush (v := 16) hx hb dX9_reaches_8 (by decide) ?_
  replace hf := bd_some hf
  obtain ⟨q4, eq4, hf⟩ := hf
  refine gx_calli hG (gx_runS hXk F hX hG (c_X9_within l w hXk n  x1 (0 : Int32) (16 : Int32) _ _ eq4) cs_X9_379 ⟨Nat.le_of_ble_eq_true rfl, Nat.le_of_ble_eq_true rfl⟩ rfl hl.1 rfl (Nat.le_of_ble_eq_true rfl) dX9_reaches_10 ⟨Nat.le_refl _, Nat.le_refl _⟩) (fun H locs hG => ?_)
  refine lv_iconst (v := 1) hx hb dX9_reaches_13 (by decide) ?_
  replace hf := bd_some hf
  obtain ⟨q5, eq5, hf⟩ := hf
  refine gx_calli hG (gx_runV hXk F hX hG (c_X9_right l w hXk n  q4.1 (1 : Int32) _ _ eq5) cv_X9_284 ⟨Nat.le_of_ble_eq_true rfl, Nat.le_of_ble_eq_true rfl⟩ (g_recv F hG mo_0 (by decide) rfl) rfl hl.1 rfl (Nat.le_of_ble_eq_true rfl) dX9_reaches_14 ⟨Nat.le_refl _, Nat.le_refl _⟩) (fun H locs hG => ?_)
  refine lv_if_ne (tgt := 22) hx hb dX9_reaches_17 (by decide) (fun c6 => ?_) (fun c6 => ?_)
  · replace hf := if_f c6 hf
    refine lv_aload_n hx hb dX9_reaches_22 rfl (lv_at hl 0 rfl) ?_
    replace hf := bd_some hf
    obtain ⟨q7, eq7, hf⟩ := hf
    refine gx_callv hG (gx_runV hXk F hX hG (c_X9_tries l w hXk n   _ _ eq7) cv_X9_367 ⟨Nat.le_of_ble_eq_true rfl, Nat.le_of_ble_eq_true rfl⟩ (g_recv F hG mo_0 (by decide) rfl) rfl hl.1 rfl (Nat.le_of_ble_eq_true rfl) dX9_reaches_23 ⟨Nat.le_refl _, Nat.le_refl _⟩) (fun H locs hG => ?_)
    refine lv_iconst (v := 0) hx hb dX9_reaches_26 (by decide) ?_
    refine lv_istore_n (lv' := [(2, .int (0 : Int32)), (0, .ref (w.2.2.1 0)), (1, .int x1)]) hx hb dX9_reaches_27 rfl hl (by decide) rfl (fun ls hl => ?_)
    exact hJ28 _ _ _ _ _ ls hf hG (lv_sub hl [1, 2, 0] rfl)
  · replace hf := if_t c6 hf
    refine lv_iconst (v := 0) hx hb dX9_reaches_20 (by decide) ?_
    exact cg_iret F hr hlk hG hf dX9_reaches_21
