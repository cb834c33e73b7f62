def f_X9_fault (n : Nat) (M : Mem) : Option (Int32 × Mem) := some ((gi (si M 0 0 (0 : Int32)) 0 13), si M 0 0 (0 : Int32))
set_option maxHeartbeats 4000000 in
set_option maxRecDepth 100000 in
theorem c_X9_fault (l : Launch) (w : Wd) {X : (Nat → Prop) → State → Heap → Prop} (hXk : XOK X) (n : Nat) (M : Mem) (res : Int32 × Mem) (hf : f_X9_fault n   M = some res) : CG l w layM 24 X yX9_fault cX9_fault 1 (some .int) 0 [.ref (w.2.2.1 0)] M (GQi w layM 24 res) := by
  refine cg_start (by decide +kernel) (Nat.le_of_ble_eq_true rfl) ?_
  intro p e s m args below meth c F hr hlk hX hG ls hl
  have F : FX w p m c cX9_fault 1 s args RX9 := F
  have hx := F.1.1
  have hb := F.1.2.1
  have hl : lv_has ls 1 [(0, .ref (w.2.2.1 0))] := hl
  unfold f_X9_fault at hf
  refine lv_aload_n hx hb dX9_fault_0 rfl (lv_at hl 0 rfl) ?_
  refine lv_iconst (v := 0) hx hb dX9_fault_1 (by decide) ?_
  refine g_putI F hG mo_0 (by decide) (by decide) lkv_X9_102 rfl rfl rfl dX9_fault_2 (fun H locs hG => ?_)
  refine lv_aload_n hx hb dX9_fault_5 rfl (lv_at hl 0 rfl) ?_
  refine g_getI F hG mo_0 (by decide) (by decide) lk_X9_35 rfl dX9_fault_6 ?_
  exact cg_iret F hr hlk hG hf dX9_fault_9

def b_X9_keeps_52 (n : Nat) (q : (Int32 × Mem)) : Option ((Int32 × Mem) ⊕ (Mem)) := match q with
  | (x1, M) => if (54 : Int32) ≤ x1 then (mr (some (si M 0 46 ((gi M 0 46) + (1 : Int32))))) else (ck (inb x1 108) (ck (inb (((54 : Int32) * (gi M 0 46)) + x1) 2160) (some (.inl ((x1 + (1 : Int32)), si M 13 (((54 : Int32) * (gi M 0 46)) + x1).toNatClampNeg (gi M 12 x1.toNatClampNeg))))))
def j_X9_keeps_50 (n : Nat) (M : Mem) : Option (Mem) := gl (b_X9_keeps_52 n ) n ((0 : Int32), M)
def j_X9_keeps_40 (n : Nat) (M : Mem) : Option (Mem) := j_X9_keeps_50 n  (si M 0 46 ((gi M 0 46) - (1 : Int32)))
def b_X9_keeps_12 (n : Nat) (q : (Int32 × Mem)) : Option ((Int32 × Mem) ⊕ (Mem)) := match q with
  | (x1, M) => if (2160 : Int32) ≤ x1 then (mr (j_X9_keeps_40 n  M)) else (ck (inb x1 2160) (ck (inb (x1 - (54 : Int32)) 2160) (some (.inl ((x1 + (1 : Int32)), si M 13 (x1 - (54 : Int32)).toNatClampNeg (gi M 13 x1.toNatClampNeg))))))
def f_X9_keeps (n : Nat) (M : Mem) : Option (Mem) := if (gi M 0 46) = (40 : Int32) then (gl (b_X9_keeps_12 n ) n ((54 : Int32), M)) else (j_X9_keeps_50 n  M)
set_option maxHeartbeats 4000000 in
set_option maxRecDepth 100000 in
theorem c_X9_keeps (l : Launch) (w : Wd) {X : (Nat → Prop) → State → Heap → Prop} (hXk : XOK X) (n : Nat) (M : Mem) (res : Mem) (hf : f_X9_keeps n   M = some res) : CG l w layM 24 X yX9_keeps cX9_keeps 2 none 0 [.ref (w.2.2.1 0)] M (GQv w layM 24 res) := by
  refine cg_start (by decide +kernel) (Nat.le_of_ble_eq_true rfl) ?_
  intro p e s m args below meth c F hr hlk hX hG ls hl
  have F : FX w p m c cX9_keeps 2 s args RX9 := F
  have hx := F.1.1
  have hb := F.1.2.1
  have hl : lv_has ls 2 [(0, .ref (w.2.2.1 0))] := hl
  have hJ52 : ∀ (x1 : Int32) (M : Mem) (H : Heap) (locs : List Loc) (ls : Array Slot), gl (b_X9_keeps_52 n  ) n (x1, M) = some res → GI w layM 24 s.heap M H locs → lv_has ls 2 [(0, .ref (w.2.2.1 0)), (1, .int x1)] → W p l e (Rm 0) s m args below meth c H locs 0 0 (MQ below (GQv w layM 24 res s.heap.size) args s 0 0 (gA w.2.2.1 24 s.heap.size)) (F0 m 52 ls []) := by
    intro x1 M H locs ls hf hG hl
    refine gl_run (P := fun (q : (Int32 × Mem)) => ∀ (H : Heap) (locs : List Loc) (ls : Array Slot), GI w layM 24 s.heap q.2 H locs → lv_has ls 2 [(0, .ref (w.2.2.1 0)), (1, .int q.1)] → W p l e (Rm 0) s m args below meth c H locs 0 0 (MQ below (GQv w layM 24 res s.heap.size) args s 0 0 (gA w.2.2.1 24 s.heap.size)) (F0 m 52 ls [])) ?_ n (x1, M) hf H locs ls hG hl
    clear hf hG hl ls locs H M x1
    rintro ⟨x1, M⟩ rr52 hf hI52 hE52 H locs ls hG hl
    try dsimp only at hG hl ⊢
    dsimp only [b_X9_keeps_52] at hf
    refine lv_iload_n hx hb dX9_keeps_52 rfl (lv_at hl 1 rfl) ?_
    refine lv_bipush (v := 54) hx hb dX9_keeps_53 (by decide) ?_
    refine lv_icmp_ge (tgt := 84) hx hb dX9_keeps_55 (by decide) (fun c1 => ?_) (fun c1 => ?_)
    · replace hf := if_t c1 hf
      refine lv_aload_n hx hb dX9_keeps_84 rfl (lv_at hl 0 rfl) ?_
      refine lv_dup hx hb dX9_keeps_85 rfl ?_
      refine g_getI F hG mo_0 (by decide) (by decide) lk_X9_301 rfl dX9_keeps_86 ?_
      refine lv_iconst (v := 1) hx hb dX9_keeps_89 (by decide) ?_
      refine lv_iadd hx hb dX9_keeps_90 ?_
      refine g_putI F hG mo_0 (by decide) (by decide) lkv_X9_301 rfl rfl rfl dX9_keeps_91 (fun H locs hG => ?_)
      replace hf := mr_some hf
      obtain ⟨z52, hf, hz⟩ := hf
      rw [hE52 _ hz] at hf
      exact cg_vret F hr hlk hG hf dX9_keeps_94
    · replace hf := if_f c1 hf
      refine lv_aload_n hx hb dX9_keeps_58 rfl (lv_at hl 0 rfl) ?_
      refine g_getR F hG 13 mo_0 (by decide) (by decide) lk_X9_66 rfl dX9_keeps_59 ?_
      refine lv_bipush (v := 54) hx hb dX9_keeps_62 (by decide) ?_
      refine lv_aload_n hx hb dX9_keeps_64 rfl (lv_at hl 0 rfl) ?_
      refine g_getI F hG mo_0 (by decide) (by decide) lk_X9_301 rfl dX9_keeps_65 ?_
      refine lv_imul hx hb dX9_keeps_68 ?_
      refine lv_iload_n hx hb dX9_keeps_69 rfl (lv_at hl 1 rfl) ?_
      refine lv_iadd hx hb dX9_keeps_70 ?_
      refine lv_aload_n hx hb dX9_keeps_71 rfl (lv_at hl 0 rfl) ?_
      refine g_getR F hG 12 mo_0 (by decide) (by decide) lk_X9_63 rfl dX9_keeps_72 ?_
      refine lv_iload_n hx hb dX9_keeps_75 rfl (lv_at hl 1 rfl) ?_
      replace hf := ck_some hf
      obtain ⟨k2, hf⟩ := hf
      refine g_iald F hG oM_12 k2 dX9_keeps_76 ?_
      replace hf := ck_some hf
      obtain ⟨k3, hf⟩ := hf
      refine g_iast F hG oM_13 k3 dX9_keeps_77 (fun H locs hG => ?_)
      refine lv_iinc (v := (x1 + (1 : Int32))) (lv' := [(1, .int (x1 + (1 : Int32))), (0, .ref (w.2.2.1 0))]) hx hb dX9_keeps_78 hl (k := 1) rfl rfl (by decide) rfl (fun ls hl => ?_)
      refine lv_goto (tgt := 52) hx hb dX9_keeps_81 (by decide) ?_
      exact hI52 _ (Option.some.inj hf).symm _ _ ls hG (lv_sub hl [1, 0] rfl)
  have hJ50 : ∀ (M : Mem) (H : Heap) (locs : List Loc) (ls : Array Slot), j_X9_keeps_50 n   M = some res → GI w layM 24 s.heap M H locs → lv_has ls 2 [(0, .ref (w.2.2.1 0))] → W p l e (Rm 0) s m args below meth c H locs 0 0 (MQ below (GQv w layM 24 res s.heap.size) args s 0 0 (gA w.2.2.1 24 s.heap.size)) (F0 m 50 ls []) := by
    intro  M H locs ls hf hG hl
    unfold j_X9_keeps_50 at hf
    refine lv_iconst (v := 0) hx hb dX9_keeps_50 (by decide) ?_
    refine lv_istore_n (lv' := [(1, .int (0 : Int32)), (0, .ref (w.2.2.1 0))]) hx hb dX9_keeps_51 rfl hl (by decide) rfl (fun ls hl => ?_)
    exact hJ52 _ _ _ _ ls hf hG (lv_sub hl [1, 0] rfl)
  have hJ40 : ∀ (M : Mem) (H : Heap) (locs : List Loc) (ls : Array Slot), j_X9_keeps_40 n   M = some res → GI w layM 24 s.heap M H locs → lv_has ls 2 [(0, .ref (w.2.2.1 0))] → W p l e (Rm 0) s m args below meth c H locs 0 0 (MQ below (GQv w layM 24 res s.heap.size) args s 0 0 (gA w.2.2.1 24 s.heap.size)) (F0 m 40 ls []) := by
    intro  M H locs ls hf hG hl
    unfold j_X9_keeps_40 at hf
    refine lv_aload_n hx hb dX9_keeps_40 rfl (lv_at hl 0 rfl) ?_
    refine lv_dup hx hb dX9_keeps_41 rfl ?_
    refine g_getI F hG mo_0 (by decide) (by decide) lk_X9_301 rfl dX9_keeps_42 ?_
    refine lv_iconst (v := 1) hx hb dX9_keeps_45 (by decide) ?_
    refine lv_isub hx hb dX9_keeps_46 ?_
    refine g_putI F hG mo_0 (by decide) (by decide) lkv_X9_301 rfl rfl rfl dX9_keeps_47 (fun H locs hG => ?_)
    exact hJ50  _ _ _ ls hf hG (lv_sub hl [0] rfl)
  have hJ12 : ∀ (x1 : Int32) (M : Mem) (H : Heap) (locs : List Loc) (ls : Array Slot), gl (b_X9_keeps_12 n  ) n (x1, M) = some res → GI w layM 24 s.heap M H locs → lv_has ls 2 [(0, .ref (w.2.2.1 0)), (1, .int x1)] → W p l e (Rm 0) s m args below meth c H locs 0 0 (MQ below (GQv w layM 24 res s.heap.size) args s 0 0 (gA w.2.2.1 24 s.heap.size)) (F0 m 12 ls []) := by
    intro x1 M H locs ls hf hG hl
    refine gl_run (P := fun (q : (Int32 × Mem)) => ∀ (H : Heap) (locs : List Loc) (ls : Array Slot), GI w layM 24 s.heap q.2 H locs → lv_has ls 2 [(0, .ref (w.2.2.1 0)), (1, .int q.1)] → W p l e (Rm 0) s m args below meth c H locs 0 0 (MQ below (GQv w layM 24 res s.heap.size) args s 0 0 (gA w.2.2.1 24 s.heap.size)) (F0 m 12 ls [])) ?_ n (x1, M) hf H locs ls hG hl
    clear hf hG hl ls locs H M x1
    rintro ⟨x1, M⟩ rr12 hf hI12 hE12 H locs ls hG hl
    try dsimp only at hG hl ⊢
    dsimp only [b_X9_keeps_12] at hf
    refine lv_iload_n hx hb dX9_keeps_12 rfl (lv_at hl 1 rfl) ?_
    refine lv_sipush (v := 2160) hx hb dX9_keeps_13 (by decide) ?_
    refine lv_icmp_ge (tgt := 40) hx hb dX9_keeps_16 (by decide) (fun c4 => ?_) (fun c4 => ?_)
    · replace hf := if_t c4 hf
      replace hf := mr_some hf
      obtain ⟨z12, hf, hz⟩ := hf
      rw [hE12 _ hz] at hf
      exact hJ40  _ _ _ ls hf hG (lv_sub hl [0] rfl)
    · replace hf := if_f c4 hf
      refine lv_aload_n hx hb dX9_keeps_19 rfl (lv_at hl 0 rfl) ?_
      refine g_getR F hG 13 mo_0 (by decide) (by decide) lk_X9_66 rfl dX9_keeps_20 ?_
      refine lv_iload_n hx hb dX9_keeps_23 rfl (lv_at hl 1 rfl) ?_
      refine lv_bipush (v := 54) hx hb dX9_keeps_24 (by decide) ?_
      refine lv_isub hx hb dX9_keeps_26 ?_
      refine lv_aload_n hx hb dX9_keeps_27 rfl (lv_at hl 0 rfl) ?_
      refine g_getR F hG 13 mo_0 (by decide) (by decide) lk_X9_66 rfl dX9_keeps_28 ?_
      refine lv_iload_n hx hb dX9_keeps_31 rfl (lv_at hl 1 rfl) ?_
      replace hf := ck_some hf
      obtain ⟨k5, hf⟩ := hf
      refine g_iald F hG oM_13 k5 dX9_keeps_32 ?_
      replace hf := ck_some hf
      obtain ⟨k6, hf⟩ := hf
      refine g_iast F hG oM_13 k6 dX9_keeps_33 (fun H locs hG => ?_)
      refine lv_iinc (v := (x1 + (1 : Int32))) (lv' := [(1, .int (x1 + (1 : Int32))), (0, .ref (w.2.2.1 0))]) hx hb dX9_keeps_34 hl (k := 1) rfl rfl (by decide) rfl (fun ls hl => ?_)
      refine lv_goto (tgt := 12) hx hb dX9_keeps_37 (by decide) ?_
      exact hI12 _ (Option.some.inj hf).symm _ _ ls hG (lv_sub hl [1, 0] rfl)
  unfold f_X9_keeps at hf
  refine lv_aload_n hx hb dX9_keeps_0 rfl (lv_at hl 0 rfl) ?_
  refine g_getI F hG mo_0 (by decide) (by decide) lk_X9_301 rfl dX9_keeps_1 ?_
  refine lv_bipush (v := 40) hx hb dX9_keeps_4 (by decide) ?_
  refine lv_icmp_ne (tgt := 50) hx hb dX9_keeps_6 (by decide) (fun c7 => ?_) (fun c7 => ?_)
  · replace hf := if_f c7 hf
    exact hJ50  _ _ _ ls hf hG (lv_sub hl [0] rfl)
  · replace hf := if_t c7 hf
    refine lv_bipush (v := 54) hx hb dX9_keeps_9 (by decide) ?_
    refine lv_istore_n (lv' := [(1, .int (54 : Int32)), (0, .ref (w.2.2.1 0))]) hx hb dX9_keeps_11 rfl hl (by decide) rfl (fun ls hl => ?_)
    exact hJ12 _ _ _ _ ls hf hG (lv_sub hl [1, 0] rfl)

def f_X9_refuses (n : Nat) (x1 : Int32) (M : Mem) : Option (Int32 × Mem) := ck (inb x1 3) (ck (inb x1 3) (some ((-1 : Int32), si M 4 x1.toNatClampNeg ((gi M 4 x1.toNatClampNeg) + (1 : Int32)))))
set_option maxHeartbeats 4000000 in
set_option maxRecDepth 100000 in
theorem c_X9_refuses (l : Launch) (w : Wd) {X : (Nat → Prop) → State → Heap → Prop} (hXk : XOK X) (n : Nat) (x1 : Int32) (M : Mem) (res : Int32 × Mem) (hf : f_X9_refuses n  x1 M = some res) : CG l w layM 24 X yX9_refuses cX9_refuses 2 (some .int) 0 [.ref (w.2.2.1 0), .int x1] M (GQi w layM 24 res) := by
  refine cg_start (by decide +kernel) (Nat.le_of_ble_eq_true rfl) ?_
  intro p e s m args below meth c F hr hlk hX hG ls hl
  have F : FX w p m c cX9_refuses 2 s args RX9 := F
  have hx := F.1.1
  have hb := F.1.2.1
  have hl : lv_has ls 2 [(0, .ref (w.2.2.1 0)), (1, .int x1)] := hl
  unfold f_X9_refuses at hf
  refine lv_aload_n hx hb dX9_refuses_0 rfl (lv_at hl 0 rfl) ?_
  refine g_getR F hG 4 mo_0 (by decide) (by decide) lk_X9_38 rfl dX9_refuses_1 ?_
  refine lv_iload_n hx hb dX9_refuses_4 rfl (lv_at hl 1 rfl) ?_
  refine lv_dup2_11 hx hb dX9_refuses_5 rfl rfl ?_
  replace hf := ck_some hf
  obtain ⟨k1, hf⟩ := hf
  refine g_iald F hG oM_4 k1 dX9_refuses_6 ?_
  refine lv_iconst (v := 1) hx hb dX9_refuses_7 (by decide) ?_
  refine lv_iadd hx hb dX9_refuses_8 ?_
  replace hf := ck_some hf
  obtain ⟨k2, hf⟩ := hf
  refine g_iast F hG oM_4 k2 dX9_refuses_9 (fun H locs hG => ?_)
  refine lv_iconst (v := -1) hx hb dX9_refuses_10 (by decide) ?_
  exact cg_iret F hr hlk hG hf dX9_refuses_11

def b_X9_undo_26 (n : Nat) (q : (Int32 × Mem)) : Option ((Int32 × Mem) ⊕ (Int32 × Mem)) := match q with
  | (x1, M) => if (54 : Int32) ≤ x1 then (mr (some ((gi M 0 46), M))) else (ck (inb (((54 : Int32) * (gi M 0 46)) + x1) 2160) (ck (inb x1 108) (some (.inl ((x1 + (1 : Int32)), si M 12 x1.toNatClampNeg (gi M 13 (((54 : Int32) * (gi M 0 46)) + x1).toNatClampNeg))))))
def f_X9_undo (n : Nat) (M : Mem) : Option (Int32 × Mem) := if (gi (si M 0 0 (0 : Int32)) 0 46) = 0 then (some ((-1 : Int32), si M 0 0 (0 : Int32))) else (gl (b_X9_undo_26 n ) n ((0 : Int32), si (si M 0 0 (0 : Int32)) 0 46 ((gi (si M 0 0 (0 : Int32)) 0 46) - (1 : Int32))))
set_option maxHeartbeats 4000000 in
set_option maxRecDepth 100000 in
theorem c_X9_undo (l : Launch) (w : Wd) {X : (Nat → Prop) → State → Heap → Prop} (hXk : XOK X) (n : Nat) (M : Mem) (res : Int32 × Mem) (hf : f_X9_undo n   M = some res) : CG l w layM 24 X yX9_undo cX9_undo 2 (some .int) 0 [.ref (w.2.2.1 0)] M (GQi w layM 24 res) := by
  refine cg_start (by decide +kernel) (Nat.le_of_ble_eq_true rfl) ?_
  intro p e s m args below meth c F hr hlk hX hG ls hl
  have F : FX w p m c cX9_undo 2 s args RX9 := F
  have hx := F.1.1
  have hb := F.1.2.1
  have hl : lv_has ls 2 [(0, .ref (w.2.2.1 0))] := hl
  have hJ26 : ∀ (x1 : Int32) (M : Mem) (H : Heap) (locs : List Loc) (ls : Array Slot), gl (b_X9_undo_26 n  ) n (x1, M) = some res → GI w layM 24 s.heap M H locs → lv_has ls 2 [(0, .ref (w.2.2.1 0)), (1, .int x1)] → W p l e (Rm 0) s m args below meth c H locs 0 0 (MQ below (GQi w layM 24 res s.heap.size) args s 0 0 (gA w.2.2.1 24 s.heap.size)) (F0 m 26 ls []) := by
    intro x1 M H locs ls hf hG hl
    refine gl_run (P := fun (q : (Int32 × Mem)) => ∀ (H : Heap) (locs : List Loc) (ls : Array Slot), GI w layM 24 s.heap q.2 H locs → lv_has ls 2 [(0, .ref (w.2.2.1 0)), (1, .int q.1)] → W p l e (Rm 0) s m args below meth c H locs 0 0 (MQ below (GQi w layM 24 res s.heap.size) args s 0 0 (gA w.2.2.1 24 s.heap.size)) (F0 m 26 ls [])) ?_ n (x1, M) hf H locs ls hG hl
    clear hf hG hl ls locs H M x1
    rintro ⟨x1, M⟩ rr26 hf hI26 hE26 H locs ls hG hl
    try dsimp only at hG hl ⊢
    dsimp only [b_X9_undo_26] at hf
    refine lv_iload_n hx hb dX9_undo_26 rfl (lv_at hl 1 rfl) ?_
    refine lv_bipush (v := 54) hx hb dX9_undo_27 (by decide) ?_
    refine lv_icmp_ge (tgt := 58) hx hb dX9_undo_29 (by decide) (fun c1 => ?_) (fun c1 => ?_)
    · replace hf := if_t c1 hf
      refine lv_aload_n hx hb dX9_undo_58 rfl (lv_at hl 0 rfl) ?_
      refine g_getI F hG mo_0 (by decide) (by decide) lk_X9_301 rfl dX9_undo_59 ?_
      replace hf := mr_some hf
      obtain ⟨z26, hf, hz⟩ := hf
      rw [hE26 _ hz] at hf
      exact cg_iret F hr hlk hG hf dX9_undo_62
    · replace hf := if_f c1 hf
      refine lv_aload_n hx hb dX9_undo_32 rfl (lv_at hl 0 rfl) ?_
      refine g_getR F hG 12 mo_0 (by decide) (by decide) lk_X9_63 rfl dX9_undo_33 ?_
      refine lv_iload_n hx hb dX9_undo_36 rfl (lv_at hl 1 rfl) ?_
      refine lv_aload_n hx hb dX9_undo_37 rfl (lv_at hl 0 rfl) ?_
      refine g_getR F hG 13 mo_0 (by decide) (by decide) lk_X9_66 rfl dX9_undo_38 ?_
      refine lv_bipush (v := 54) hx hb dX9_undo_41 (by decide) ?_
      refine lv_aload_n hx hb dX9_undo_43 rfl (lv_at hl 0 rfl) ?_
      refine g_getI F hG mo_0 (by decide) (by decide) lk_X9_301 rfl dX9_undo_44 ?_
      refine lv_imul hx hb dX9_undo_47 ?_
      refine lv_iload_n hx hb dX9_undo_48 rfl (lv_at hl 1 rfl) ?_
      refine lv_iadd hx hb dX9_undo_49 ?_
      replace hf := ck_some hf
      obtain ⟨k2, hf⟩ := hf
      refine g_iald F hG oM_13 k2 dX9_undo_50 ?_
      replace hf := ck_some hf
      obtain ⟨k3, hf⟩ := hf
      refine g_iast F hG oM_12 k3 dX9_undo_51 (fun H locs hG => ?_)
      refine lv_iinc (v := (x1 + (1 : Int32))) (lv' := [(1, .int (x1 + (1 : Int32))), (0, .ref (w.2.2.1 0))]) hx hb dX9_undo_52 hl (k := 1) rfl rfl (by decide) rfl (fun ls hl => ?_)
      refine lv_goto (tgt := 26) hx hb dX9_undo_55 (by decide) ?_
      exact hI26 _ (Option.some.inj hf).symm _ _ ls hG (lv_sub hl [1, 0] rfl)
  unfold f_X9_undo at hf
  refine lv_aload_n hx hb dX9_undo_0 rfl (lv_at hl 0 rfl) ?_
  refine lv_iconst (v := 0) hx hb dX9_undo_1 (by decide) ?_
  refine g_putI F hG mo_0 (by decide) (by decide) lkv_X9_102 rfl rfl rfl dX9_undo_2 (fun H locs hG => ?_)
  refine lv_aload_n hx hb dX9_undo_5 rfl (lv_at hl 0 rfl) ?_
  refine g_getI F hG mo_0 (by decide) (by decide) lk_X9_301 rfl dX9_undo_6 ?_
  refine lv_if_ne (tgt := 14) hx hb dX9_undo_9 (by decide) (fun c4 => ?_) (fun c4 => ?_)
  · replace hf := if_f c4 hf
    refine lv_aload_n hx hb dX9_undo_14 rfl (lv_at hl 0 rfl) ?_
    refine lv_dup hx hb dX9_undo_15 rfl ?_
    refine g_getI F hG mo_0 (by decide) (by decide) lk_X9_301 rfl dX9_undo_16 ?_
    refine lv_iconst (v := 1) hx hb dX9_undo_19 (by decide) ?_
    refine lv_isub hx hb dX9_undo_20 ?_
    refine g_putI F hG mo_0 (by decide) (by decide) lkv_X9_301 rfl rfl rfl dX9_undo_21 (fun H locs hG => ?_)
    refine lv_iconst (v := 0) hx hb dX9_undo_24 (by decide) ?_
    refine lv_istore_n (lv' := [(1, .int (0 : Int32)), (0, .ref (w.2.2.1 0))]) hx hb dX9_undo_25 rfl hl (by decide) rfl (fun ls hl => ?_)
    exact hJ26 _ _ _ _ ls hf hG (lv_sub hl [1, 0] rfl)
  · replace hf := if_t c4 hf
    refine lv_iconst (v := -1) hx hb dX9_undo_12 (by decide) ?_
    exact cg_iret F hr hlk hG hf dX9_undo_13

def b_X9_tries_31 (n : Nat) (q : (Int32 × Mem)) : Option ((Int32 × Mem) ⊕ (Mem)) := match q with
  | (x1, M) => if (8 : Int32) ≤ x1 then (mr (some (si M 0 48 (0 : Int32)))) else (ck (inb x1 8) (some (.inl ((x1 + (1 : Int32)), si M 14 x1.toNatClampNeg (0 : Int32)))))
def j_X9_tries_29 (n : Nat) (M : Mem) : Option (Mem) := gl (b_X9_tries_31 n ) n ((0 : Int32), M)
def b_X9_tries_2 (n : Nat) (q : (Int32 × Mem)) : Option ((Int32 × Mem) ⊕ (Mem)) := match q with
  | (x1, M) => if (54 : Int32) ≤ x1 then (mr (j_X9_tries_29 n  M)) else (ck (inb x1 108) (ck (inb ((54 : Int32) + x1) 108) (some (.inl ((x1 + (1 : Int32)), si M 12 ((54 : Int32) + x1).toNatClampNeg (gi M 12 x1.toNatClampNeg))))))
def f_X9_tries (n : Nat) (M : Mem) : Option (Mem) := gl (b_X9_tries_2 n ) n ((0 : Int32), M)
set_option maxHeartbeats 4000000 in
set_option maxRecDepth 100000 in
theorem c_X9_tries (l : Launch) (w : Wd) {X : (Nat → Prop) → State → Heap → Prop} (hXk : XOK X) (n : Nat) (M : Mem) (res : Mem) (hf : f_X9_tries n   M = some res) : CG l w layM 24 X yX9_tries cX9_tries 2 none 0 [.ref (w.2.2.1 0)] M (GQv w layM 24 res) := by
  refine cg_start (by decide +kernel) (Nat.le_of_ble_eq_true rfl) ?_
  intro p e s m args below meth c F hr hlk hX hG ls hl
  have F : FX w p m c cX9_tries 2 s args RX9 := F
  have hx := F.1.1
  have hb := F.1.2.1
  have hl : lv_has ls 2 [(0, .ref (w.2.2.1 0))] := hl
  have hJ31 : ∀ (x1 : Int32) (M : Mem) (H : Heap) (locs : List Loc) (ls : Array Slot), gl (b_X9_tries_31 n  ) n (x1, M) = some res → GI w layM 24 s.heap M H locs → lv_has ls 2 [(0, .ref (w.2.2.1 0)), (1, .int x1)] → W p l e (Rm 0) s m args below meth c H locs 0 0 (MQ below (GQv w layM 24 res s.heap.size) args s 0 0 (gA w.2.2.1 24 s.heap.size)) (F0 m 31 ls []) := by
    intro x1 M H locs ls hf hG hl
    refine gl_run (P := fun (q : (Int32 × Mem)) => ∀ (H : Heap) (locs : List Loc) (ls : Array Slot), GI w layM 24 s.heap q.2 H locs → lv_has ls 2 [(0, .ref (w.2.2.1 0)), (1, .int q.1)] → W p l e (Rm 0) s m args below meth c H locs 0 0 (MQ below (GQv w layM 24 res s.heap.size) args s 0 0 (gA w.2.2.1 24 s.heap.size)) (F0 m 31 ls [])) ?_ n (x1, M) hf H locs ls hG hl
    clear hf hG hl ls locs H M x1
    rintro ⟨x1, M⟩ rr31 hf hI31 hE31 H locs ls hG hl
    try dsimp only at hG hl ⊢
    dsimp only [b_X9_tries_31] at hf
    refine lv_iload_n hx hb dX9_tries_31 rfl (lv_at hl 1 rfl) ?_
    refine lv_bipush (v := 8) hx hb dX9_tries_32 (by decide) ?_
    refine lv_icmp_ge (tgt := 50) hx hb dX9_tries_34 (by decide) (fun c1 => ?_) (fun c1 => ?_)
    · replace hf := if_t c1 hf
      refine lv_aload_n hx hb dX9_tries_50 rfl (lv_at hl 0 rfl) ?_
      refine lv_iconst (v := 0) hx hb dX9_tries_51 (by decide) ?_
      refine g_putI F hG mo_0 (by decide) (by decide) lkv_X9_311 rfl rfl rfl dX9_tries_52 (fun H locs hG => ?_)
      replace hf := mr_some hf
      obtain ⟨z31, hf, hz⟩ := hf
      rw [hE31 _ hz] at hf
      exact cg_vret F hr hlk hG hf dX9_tries_55
    · replace hf := if_f c1 hf
      refine lv_aload_n hx hb dX9_tries_37 rfl (lv_at hl 0 rfl) ?_
      refine g_getR F hG 14 mo_0 (by decide) (by decide) lk_X9_69 rfl dX9_tries_38 ?_
      refine lv_iload_n hx hb dX9_tries_41 rfl (lv_at hl 1 rfl) ?_
      refine lv_iconst (v := 0) hx hb dX9_tries_42 (by decide) ?_
      replace hf := ck_some hf
      obtain ⟨k2, hf⟩ := hf
      refine g_iast F hG oM_14 k2 dX9_tries_43 (fun H locs hG => ?_)
      refine lv_iinc (v := (x1 + (1 : Int32))) (lv' := [(1, .int (x1 + (1 : Int32))), (0, .ref (w.2.2.1 0))]) hx hb dX9_tries_44 hl (k := 1) rfl rfl (by decide) rfl (fun ls hl => ?_)
      refine lv_goto (tgt := 31) hx hb dX9_tries_47 (by decide) ?_
      exact hI31 _ (Option.some.inj hf).symm _ _ ls hG (lv_sub hl [1, 0] rfl)
  have hJ29 : ∀ (M : Mem) (H : Heap) (locs : List Loc) (ls : Array Slot), j_X9_tries_29 n   M = some res → GI w layM 24 s.heap M H locs → lv_has ls 2 [(0, .ref (w.2.2.1 0))] → W p l e (Rm 0) s m args below meth c H locs 0 0 (MQ below (GQv w layM 24 res s.heap.size) args s 0 0 (gA w.2.2.1 24 s.heap.size)) (F0 m 29 ls []) := by
    intro  M H locs ls hf hG hl
    unfold j_X9_tries_29 at hf
    refine lv_iconst (v := 0) hx hb dX9_tries_29 (by decide) ?_
    refine lv_istore_n (lv' := [(1, .int (0 : Int32)), (0, .ref (w.2.2.1 0))]) hx hb dX9_tries_30 rfl hl (by decide) rfl (fun ls hl => ?_)
    exact hJ31 _ _ _ _ ls hf hG (lv_sub hl [1, 0] rfl)
  have hJ2 : ∀ (x1 : Int32) (M : Mem) (H : Heap) (locs : List Loc) (ls : Array Slot), gl (b_X9_tries_2 n  ) n (x1, M) = some res → GI w layM 24 s.heap M H locs → lv_has ls 2 [(0, .ref (w.2.2.1 0)), (1, .int x1)] → W p l e (Rm 0) s m args below meth c H locs 0 0 (MQ below (GQv w layM 24 res s.heap.size) args s 0 0 (gA w.2.2.1 24 s.heap.size)) (F0 m 2 ls []) := by
    intro x1 M H locs ls hf hG hl
    refine gl_run (P := fun (q : (Int32 × Mem)) => ∀ (H : Heap) (locs : List Loc) (ls : Array Slot), GI w layM 24 s.heap q.2 H locs → lv_has ls 2 [(0, .ref (w.2.2.1 0)), (1, .int q.1)] → W p l e (Rm 0) s m args below meth c H locs 0 0 (MQ below (GQv w layM 24 res s.heap.size) args s 0 0 (gA w.2.2.1 24 s.heap.size)) (F0 m 2 ls [])) ?_ n (x1, M) hf H locs ls hG hl
    clear hf hG hl ls locs H M x1
    rintro ⟨x1, M⟩ rr2 hf hI2 hE2 H locs ls hG hl
    try dsimp only at hG hl ⊢
    dsimp only [b_X9_tries_2] at hf
    refine lv_iload_n hx hb dX9_tries_2 rfl (lv_at hl 1 rfl) ?_
    refine lv_bipush (v := 54) hx hb dX9_tries_3 (by decide) ?_
    refine lv_icmp_ge (tgt := 29) hx hb dX9_tries_5 (by decide) (fun c3 => ?_) (fun c3 => ?_)
    · replace hf := if_t c3 hf
      replace hf := mr_some hf
      obtain ⟨z2, hf, hz⟩ := hf
      rw [hE2 _ hz] at hf
      exact hJ29  _ _ _ ls hf hG (lv_sub hl [0] rfl)
    · replace hf := if_f c3 hf
      refine lv_aload_n hx hb dX9_tries_8 rfl (lv_at hl 0 rfl) ?_
      refine g_getR F hG 12 mo_0 (by decide) (by decide) lk_X9_63 rfl dX9_tries_9 ?_
      refine lv_bipush (v := 54) hx hb dX9_tries_12 (by decide) ?_
      refine lv_iload_n hx hb dX9_tries_14 rfl (lv_at hl 1 rfl) ?_
      refine lv_iadd hx hb dX9_tries_15 ?_
      refine lv_aload_n hx hb dX9_tries_16 rfl (lv_at hl 0 rfl) ?_
      refine g_getR F hG 12 mo_0 (by decide) (by decide) lk_X9_63 rfl dX9_tries_17 ?_
      refine lv_iload_n hx hb dX9_tries_20 rfl (lv_at hl 1 rfl) ?_
      replace hf := ck_some hf
      obtain ⟨k4, hf⟩ := hf
      refine g_iald F hG oM_12 k4 dX9_tries_21 ?_
      replace hf := ck_some hf
      obtain ⟨k5, hf⟩ := hf
      refine g_iast F hG oM_12 k5 dX9_tries_22 (fun H locs hG => ?_)
      refine lv_iinc (v := (x1 + (1 : Int32))) (lv' := [(1, .int (x1 + (1 : Int32))), (0, .ref (w.2.2.1 0))]) hx hb dX9_tries_23 hl (k := 1) rfl rfl (by decide) rfl (fun ls hl => ?_)
      refine lv_goto (tgt := 2) hx hb dX9_tries_26 (by decide) ?_
      exact hI2 _ (Option.some.inj hf).symm _ _ ls hG (lv_sub hl [1, 0] rfl)
  unfold f_X9_tries at hf
  refine lv_iconst (v := 0) hx hb dX9_tries_0 (by decide) ?_
  refine lv_istore_n (lv' := [(1, .int (0 : Int32)), (0, .ref (w.2.2.1 0))]) hx hb dX9_tries_1 rfl hl (by decide) rfl (fun ls hl => ?_)
  exact hJ2 _ _ _ _ ls hf hG (lv_sub hl [1, 0] rfl)

def f_X9_works (n : Nat) (x0 : Int32) (x1 : Int32) (x2 : Int32) (M : Mem) : Option (Int32 × Mem) := if x0 = (4 : Int32) then (if x1 = 0 then (some ((0 : Int32), M)) else (if x2 = 0 then (some ((0 : Int32), M)) else (some ((1 : Int32), M)))) else (if x0 = (5 : Int32) then (if x1 = 0 then (if x2 = 0 then (some ((0 : Int32), M)) else (some ((1 : Int32), M))) else (some ((1 : Int32), M))) else (if x0 = (6 : Int32) then (if x2 ≤ x1 then (some ((0 : Int32), M)) else (some ((1 : Int32), M))) else (if x0 = (7 : Int32) then (if x1 = x2 then (some ((1 : Int32), M)) else (some ((0 : Int32), M))) else (if x0 = (8 : Int32) then (some ((x1 + x2), M)) else (if x0 = (9 : Int32) then (some ((x1 - x2), M)) else (if x0 = (10 : Int32) then (some ((x1 * x2), M)) else (if x2 = 0 then (some ((0 : Int32), M)) else (ck (¬ x2 = 0) (some ((x1 / x2), M))))))))))
set_option maxHeartbeats 4000000 in
set_option maxRecDepth 100000 in
theorem c_X9_works (l : Launch) (w : Wd) {X : (Nat → Prop) → State → Heap → Prop} (hXk : XOK X) (n : Nat) (x0 : Int32) (x1 : Int32) (x2 : Int32) (M : Mem) (res : Int32 × Mem) (hf : f_X9_works n  x0 x1 x2 M = some res) : CG l w layM 24 X yX9_works cX9_works 3 (some .int) 0 [.int x0, .int x1, .int x2] M (GQi w layM 24 res) := by
  refine cg_start (by decide +kernel) (Nat.le_of_ble_eq_true rfl) ?_
  intro p e s m args below meth c F hr hlk hX hG ls hl
  have F : FX w p m c cX9_works 3 s args RX9 := F
  have hx := F.1.1
  have hb := F.1.2.1
  have hl : lv_has ls 3 [(0, .int x0), (1, .int x1), (2, .int x2)] := hl
  unfold f_X9_works at hf
  refine lv_iload_n hx hb dX9_works_0 rfl (lv_at hl 0 rfl) ?_
  by_cases c1 : x0 = (4 : Int32)
  · replace hf := if_t c1 hf
    refine lv_tableIn (off := 43) (tgt := 44) hx hb dX9_works_1 (by rw [c1]; decide) (by rw [c1]; decide) (by rw [c1]; rfl) (by decide) ?_
    refine lv_iload_n hx hb dX9_works_44 rfl (lv_at hl 1 rfl) ?_
    refine lv_if_eq (tgt := 56) hx hb dX9_works_45 (by decide) (fun c2 => ?_) (fun c2 => ?_)
    · replace hf := if_t c2 hf
      refine lv_iconst (v := 0) hx hb dX9_works_56 (by decide) ?_
      exact cg_iret F hr hlk hG hf dX9_works_57
    · replace hf := if_f c2 hf
      refine lv_iload_n hx hb dX9_works_48 rfl (lv_at hl 2 rfl) ?_
      refine lv_if_eq (tgt := 56) hx hb dX9_works_49 (by decide) (fun c3 => ?_) (fun c3 => ?_)
      · replace hf := if_t c3 hf
        refine lv_iconst (v := 0) hx hb dX9_works_56 (by decide) ?_
        exact cg_iret F hr hlk hG hf dX9_works_57
      · replace hf := if_f c3 hf
        refine lv_iconst (v := 1) hx hb dX9_works_52 (by decide) ?_
        refine lv_goto (tgt := 57) hx hb dX9_works_53 (by decide) ?_
        exact cg_iret F hr hlk hG hf dX9_works_57
  replace hf := if_f c1 hf
  by_cases c4 : x0 = (5 : Int32)
  · replace hf := if_t c4 hf
    refine lv_tableIn (off := 57) (tgt := 58) hx hb dX9_works_1 (by rw [c4]; decide) (by rw [c4]; decide) (by rw [c4]; rfl) (by decide) ?_
    refine lv_iload_n hx hb dX9_works_58 rfl (lv_at hl 1 rfl) ?_
    refine lv_if_ne (tgt := 66) hx hb dX9_works_59 (by decide) (fun c5 => ?_) (fun c5 => ?_)
    · replace hf := if_f c5 hf
      refine lv_iconst (v := 1) hx hb dX9_works_66 (by decide) ?_
      refine lv_goto (tgt := 71) hx hb dX9_works_67 (by decide) ?_
      exact cg_iret F hr hlk hG hf dX9_works_71
    · replace hf := if_t c5 hf
      refine lv_iload_n hx hb dX9_works_62 rfl (lv_at hl 2 rfl) ?_
      refine lv_if_eq (tgt := 70) hx hb dX9_works_63 (by decide) (fun c6 => ?_) (fun c6 => ?_)
      · replace hf := if_t c6 hf
        refine lv_iconst (v := 0) hx hb dX9_works_70 (by decide) ?_
        exact cg_iret F hr hlk hG hf dX9_works_71
      · replace hf := if_f c6 hf
        refine lv_iconst (v := 1) hx hb dX9_works_66 (by decide) ?_
        refine lv_goto (tgt := 71) hx hb dX9_works_67 (by decide) ?_
        exact cg_iret F hr hlk hG hf dX9_works_71
  replace hf := if_f c4 hf
  by_cases c7 : x0 = (6 : Int32)
  · replace hf := if_t c7 hf
    refine lv_tableIn (off := 71) (tgt := 72) hx hb dX9_works_1 (by rw [c7]; decide) (by rw [c7]; decide) (by rw [c7]; rfl) (by decide) ?_
    refine lv_iload_n hx hb dX9_works_72 rfl (lv_at hl 1 rfl) ?_
    refine lv_iload_n hx hb dX9_works_73 rfl (lv_at hl 2 rfl) ?_
    refine lv_icmp_ge (tgt := 81) hx hb dX9_works_74 (by decide) (fun c8 => ?_) (fun c8 => ?_)
    · replace hf := if_t c8 hf
      refine lv_iconst (v := 0) hx hb dX9_works_81 (by decide) ?_
      exact cg_iret F hr hlk hG hf dX9_works_82
    · replace hf := if_f c8 hf
      refine lv_iconst (v := 1) hx hb dX9_works_77 (by decide) ?_
      refine lv_goto (tgt := 82) hx hb dX9_works_78 (by decide) ?_
      exact cg_iret F hr hlk hG hf dX9_works_82
  replace hf := if_f c7 hf
  by_cases c9 : x0 = (7 : Int32)
  · replace hf := if_t c9 hf
    refine lv_tableIn (off := 82) (tgt := 83) hx hb dX9_works_1 (by rw [c9]; decide) (by rw [c9]; decide) (by rw [c9]; rfl) (by decide) ?_
    refine lv_iload_n hx hb dX9_works_83 rfl (lv_at hl 1 rfl) ?_
    refine lv_iload_n hx hb dX9_works_84 rfl (lv_at hl 2 rfl) ?_
    refine lv_icmp_ne (tgt := 92) hx hb dX9_works_85 (by decide) (fun c10 => ?_) (fun c10 => ?_)
    · replace hf := if_f c10 hf
      refine lv_iconst (v := 0) hx hb dX9_works_92 (by decide) ?_
      exact cg_iret F hr hlk hG hf dX9_works_93
    · replace hf := if_t c10 hf
      refine lv_iconst (v := 1) hx hb dX9_works_88 (by decide) ?_
      refine lv_goto (tgt := 93) hx hb dX9_works_89 (by decide) ?_
      exact cg_iret F hr hlk hG hf dX9_works_93
  replace hf := if_f c9 hf
  by_cases c11 : x0 = (8 : Int32)
  · replace hf := if_t c11 hf
    refine lv_tableIn (off := 93) (tgt := 94) hx hb dX9_works_1 (by rw [c11]; decide) (by rw [c11]; decide) (by rw [c11]; rfl) (by decide) ?_
    refine lv_iload_n hx hb dX9_works_94 rfl (lv_at hl 1 rfl) ?_
    refine lv_iload_n hx hb dX9_works_95 rfl (lv_at hl 2 rfl) ?_
    refine lv_iadd hx hb dX9_works_96 ?_
    exact cg_iret F hr hlk hG hf dX9_works_97
  replace hf := if_f c11 hf
  by_cases c12 : x0 = (9 : Int32)
  · replace hf := if_t c12 hf
    refine lv_tableIn (off := 97) (tgt := 98) hx hb dX9_works_1 (by rw [c12]; decide) (by rw [c12]; decide) (by rw [c12]; rfl) (by decide) ?_
    refine lv_iload_n hx hb dX9_works_98 rfl (lv_at hl 1 rfl) ?_
    refine lv_iload_n hx hb dX9_works_99 rfl (lv_at hl 2 rfl) ?_
    refine lv_isub hx hb dX9_works_100 ?_
    exact cg_iret F hr hlk hG hf dX9_works_101
  replace hf := if_f c12 hf
  by_cases c13 : x0 = (10 : Int32)
  · replace hf := if_t c13 hf
    refine lv_tableIn (off := 101) (tgt := 102) hx hb dX9_works_1 (by rw [c13]; decide) (by rw [c13]; decide) (by rw [c13]; rfl) (by decide) ?_
    refine lv_iload_n hx hb dX9_works_102 rfl (lv_at hl 1 rfl) ?_
    refine lv_iload_n hx hb dX9_works_103 rfl (lv_at hl 2 rfl) ?_
    refine lv_imul hx hb dX9_works_104 ?_
    exact cg_iret F hr hlk hG hf dX9_works_105
  replace hf := if_f c13 hf
  refine lv_tableOut (tgt := 106) hx hb dX9_works_1 (sw_out (4) (10) 7 (by decide) (fun k hk => match k, hk with | 0, _ => c1 | 1, _ => c4 | 2, _ => c7 | 3, _ => c9 | 4, _ => c11 | 5, _ => c12 | 6, _ => c13 | k + 7, h => absurd h (by omega))) (by decide) ?_
  refine lv_iload_n hx hb dX9_works_106 rfl (lv_at hl 2 rfl) ?_
  refine lv_if_ne (tgt := 114) hx hb dX9_works_107 (by decide) (fun c14 => ?_) (fun c14 => ?_)
  · replace hf := if_f c14 hf
    refine lv_iload_n hx hb dX9_works_114 rfl (lv_at hl 1 rfl) ?_
    refine lv_iload_n hx hb dX9_works_115 rfl (lv_at hl 2 rfl) ?_
    replace hf := ck_some hf
    obtain ⟨k15, hf⟩ := hf
    refine lv_idiv hx hb dX9_works_116 k15 ?_
    exact cg_iret F hr hlk hG hf dX9_works_117
  · replace hf := if_t c14 hf
    refine lv_iconst (v := 0) hx hb dX9_works_110 (by decide) ?_
    refine lv_goto (tgt := 117) hx hb dX9_works_111 (by decide) ?_
    exact cg_iret F hr hlk hG hf dX9_works_117

def j_X9_reckons_140 (n : Nat) (x2 : Int32) (x3 : Int32) (M : Mem) : Option ((Int32 × Int32 × Mem) ⊕ (Int32 × Mem)) := some (.inl (x2, x3, M))
def j_X9_reckons_67 (n : Nat) (t0 : Int32) (t1 : Int32) (x2 : Int32) (x3 : Int32) (M : Mem) : Option ((Int32 × Int32 × Mem) ⊕ (Int32 × Mem)) := ck (inb t1 950) (j_X9_reckons_140 n  (x2 + (1 : Int32)) (x3 + (1 : Int32)) (si M 16 t1.toNatClampNeg t0))
def j_X9_reckons_36 (n : Nat) (x2 : Int32) (x3 : Int32) (x4 : Int32) (M : Mem) : Option ((Int32 × Int32 × Mem) ⊕ (Int32 × Mem)) := if x4 = (1 : Int32) then (ck (inb x3 1400) (j_X9_reckons_67 n  (gi M 2 x3.toNatClampNeg) x2 x2 x3 M)) else (ck (inb x3 1400) (ck (inb (gi M 2 x3.toNatClampNeg) 9) (j_X9_reckons_67 n  (gi M 15 (gi M 2 x3.toNatClampNeg).toNatClampNeg) x2 x2 x3 M)))
def j_X9_reckons_106 (n : Nat) (t0 : Int32) (t1 : Int32) (x2 : Int32) (x3 : Int32) (M : Mem) : Option ((Int32 × Int32 × Mem) ⊕ (Int32 × Mem)) := ck (inb t1 950) (j_X9_reckons_140 n  x2 x3 (si M 16 t1.toNatClampNeg t0))
def b_X9_reckons_4 (n : Nat) (q : (Int32 × Int32 × Mem)) : Option ((Int32 × Int32 × Mem) ⊕ (Int32 × Mem)) := match q with
  | (x2, x3, M) => ck (inb x3 1400) (if (gi M 2 x3.toNatClampNeg) = 0 then (mr (some ((gi M 16 (0 : Int32).toNatClampNeg), M))) else (ck (inb x3 1400) (if (gi M 2 x3.toNatClampNeg) = (1 : Int32) then (j_X9_reckons_36 n  x2 (x3 + (1 : Int32)) (gi M 2 x3.toNatClampNeg) M) else (if (gi M 2 x3.toNatClampNeg) = (2 : Int32) then (j_X9_reckons_36 n  x2 (x3 + (1 : Int32)) (gi M 2 x3.toNatClampNeg) M) else (if (gi M 2 x3.toNatClampNeg) = (3 : Int32) then (ck (inb (x2 - (1 : Int32)) 950) (if (gi M 16 (x2 - (1 : Int32)).toNatClampNeg) = 0 then (j_X9_reckons_106 n  (1 : Int32) (x2 - (1 : Int32)) x2 (x3 + (1 : Int32)) M) else (j_X9_reckons_106 n  (0 : Int32) (x2 - (1 : Int32)) x2 (x3 + (1 : Int32)) M))) else (ck (inb ((x2 + (-1 : Int32)) - (1 : Int32)) 950) (ck (inb (x2 + (-1 : Int32)) 950) (bd (f_X9_works n  (gi M 2 x3.toNatClampNeg) (gi M 16 ((x2 + (-1 : Int32)) - (1 : Int32)).toNatClampNeg) (gi M 16 (x2 + (-1 : Int32)).toNatClampNeg) M) (fun q17 => ck (inb ((x2 + (-1 : Int32)) - (1 : Int32)) 950) (j_X9_reckons_140 n  (x2 + (-1 : Int32)) (x3 + (1 : Int32)) (si q17.2 16 ((x2 + (-1 : Int32)) - (1 : Int32)).toNatClampNeg q17.1)))))))))))
def f_X9_reckons (n : Nat) (x1 : Int32) (M : Mem) : Option (Int32 × Mem) := gl (b_X9_reckons_4 n ) n ((0 : Int32), x1, M)
set_option maxHeartbeats 4000000 in
set_option maxRecDepth 100000 in
theorem c_X9_reckons (l : Launch) (w : Wd) {X : (Nat → Prop) → State → Heap → Prop} (hXk : XOK X) (n : Nat) (x1 : Int32) (M : Mem) (res : Int32 × Mem) (hf : f_X9_reckons n  x1 M = some res) : CG l w layM 24 X yX9_reckons cX9_reckons 5 (some .int) 1 [.ref (w.2.2.1 0), .int x1] M (GQi w layM 24 res) := by
  refine cg_start (by decide +kernel) (Nat.le_of_ble_eq_true rfl) ?_
  intro p e s m args below meth c F hr hlk hX hG ls hl
  have F : FX w p m c cX9_reckons 5 s args RX9 := F
  have hx := F.1.1
  have hb := F.1.2.1
  have hl : lv_has ls 5 [(0, .ref (w.2.2.1 0)), (1, .int x1)] := hl
  have hJ4 : ∀ (x2 : Int32) (x3 : Int32) (M : Mem) (H : Heap) (locs : List Loc) (ls : Array Slot), gl (b_X9_reckons_4 n  ) n (x2, x3, M) = some res → GI w layM 24 s.heap M H locs → lv_has ls 5 [(0, .ref (w.2.2.1 0)), (2, .int x2), (3, .int x3)] → W p l e (Rm 1) s m args below meth c H locs 0 0 (MQ below (GQi w layM 24 res s.heap.size) args s 0 0 (gA w.2.2.1 24 s.heap.size)) (F0 m 4 ls []) := by
    intro x2 x3 M H locs ls hf hG hl
    refine gl_run (P := fun (q : (Int32 × Int32 × Mem)) => ∀ (H : Heap) (locs : List Loc) (ls : Array Slot), GI w layM 24 s.heap q.2.2 H locs → lv_has ls 5 [(0, .ref (w.2.2.1 0)), (2, .int q.1), (3, .int q.2.1)] → W p l e (Rm 1) s m args below meth c H locs 0 0 (MQ below (GQi w layM 24 res s.heap.size) args s 0 0 (gA w.2.2.1 24 s.heap.size)) (F0 m 4 ls [])) ?_ n (x2, x3, M) hf H locs ls hG hl
    clear hf hG hl ls locs H M x2 x3
    rintro ⟨x2, x3, M⟩ rr4 hf hI4 hE4 H locs ls hG hl
    try dsimp only at hG hl ⊢
    have hJ140 : ∀ (x2 : Int32) (x3 : Int32) (M : Mem) (H : Heap) (locs : List Loc) (ls : Array Slot), j_X9_reckons_140 n  x2 x3 M = some rr4 → GI w layM 24 s.heap M H locs → lv_has ls 5 [(0, .ref (w.2.2.1 0)), (2, .int x2), (3, .int x3)] → W p l e (Rm 1) s m args below meth c H locs 0 0 (MQ below (GQi w layM 24 res s.heap.size) args s 0 0 (gA w.2.2.1 24 s.heap.size)) (F0 m 140 ls []) := by
      intro x2 x3 M H locs ls hf hG hl
      unfold j_X9_reckons_140 at hf
      refine lv_goto (tgt := 4) hx hb dX9_reckons_140 (by decide) ?_
      exact hI4 _ (Option.some.inj hf).symm _ _ ls hG (lv_sub hl [0, 1, 2] rfl)
    have hJ67 : ∀ (t0 : Int32) (t1 : Int32) (x2 : Int32) (x3 : Int32) (M : Mem) (H : Heap) (locs : List Loc) (ls : Array Slot), j_X9_reckons_67 n  t0 t1 x2 x3 M = some rr4 → GI w layM 24 s.heap M H locs → lv_has ls 5 [(0, .ref (w.2.2.1 0)), (2, .int x2), (3, .int x3)] → W p l e (Rm 1) s m args below meth c H locs 0 0 (MQ below (GQi w layM 24 res s.heap.size) args s 0 0 (gA w.2.2.1 24 s.heap.size)) (F0 m 67 ls [.int t0, .int t1, .ref (w.2.2.1 16)]) := by
      intro t0 t1 x2 x3 M H locs ls hf hG hl
      unfold j_X9_reckons_67 at hf
      replace hf := ck_some hf
      obtain ⟨k1, hf⟩ := hf
      refine g_iast F hG oM_16 k1 dX9_reckons_67 (fun H locs hG => ?_)
      refine lv_iinc (v := (x3 + (1 : Int32))) (lv' := [(3, .int (x3 + (1 : Int32))), (0, .ref (w.2.2.1 0)), (2, .int x2)]) hx hb dX9_reckons_68 hl (k := 2) rfl rfl (by decide) rfl (fun ls hl => ?_)
      refine lv_iinc (v := (x2 + (1 : Int32))) (lv' := [(2, .int (x2 + (1 : Int32))), (3, .int (x3 + (1 : Int32))), (0, .ref (w.2.2.1 0))]) hx hb dX9_reckons_71 hl (k := 2) rfl rfl (by decide) rfl (fun ls hl => ?_)
      refine lv_goto (tgt := 140) hx hb dX9_reckons_74 (by decide) ?_
      exact hJ140 _ _ _ _ _ ls hf hG (lv_sub hl [2, 0, 1] rfl)
    have hJ36 : ∀ (x2 : Int32) (x3 : Int32) (x4 : Int32) (M : Mem) (H : Heap) (locs : List Loc) (ls : Array Slot), j_X9_reckons_36 n  x2 x3 x4 M = some rr4 → GI w layM 24 s.heap M H locs → lv_has ls 5 [(0, .ref (w.2.2.1 0)), (2, .int x2), (3, .int x3), (4, .int x4)] → W p l e (Rm 1) s m args below meth c H locs 0 0 (MQ below (GQi w layM 24 res s.heap.size) args s 0 0 (gA w.2.2.1 24 s.heap.size)) (F0 m 36 ls []) := by
      intro x2 x3 x4 M H locs ls hf hG hl
      unfold j_X9_reckons_36 at hf
      refine lv_aload_n hx hb dX9_reckons_36 rfl (lv_at hl 0 rfl) ?_
      refine g_getR F hG 16 mo_0 (by decide) (by decide) lk_X9_75 rfl dX9_reckons_37 ?_
      refine lv_iload_n hx hb dX9_reckons_40 rfl (lv_at hl 1 rfl) ?_
      refine lv_iload hx hb dX9_reckons_41 (lv_at hl 3 rfl) ?_
      refine lv_iconst (v := 1) hx hb dX9_reckons_43 (by decide) ?_
      refine lv_icmp_ne (tgt := 56) hx hb dX9_reckons_44 (by decide) (fun c2 => ?_) (fun c2 => ?_)
      · replace hf := if_f c2 hf
        refine lv_aload_n hx hb dX9_reckons_56 rfl (lv_at hl 0 rfl) ?_
        refine g_getR F hG 15 mo_0 (by decide) (by decide) lk_X9_72 rfl dX9_reckons_57 ?_
        refine lv_aload_n hx hb dX9_reckons_60 rfl (lv_at hl 0 rfl) ?_
        refine g_getR F hG 2 mo_0 (by decide) (by decide) lk_X9_29 rfl dX9_reckons_61 ?_
        refine lv_iload_n hx hb dX9_reckons_64 rfl (lv_at hl 2 rfl) ?_
        replace hf := ck_some hf
        obtain ⟨k4, hf⟩ := hf
        refine g_iald F hG oM_2 k4 dX9_reckons_65 ?_
        replace hf := ck_some hf
        obtain ⟨k5, hf⟩ := hf
        refine g_iald F hG oM_15 k5 dX9_reckons_66 ?_
        exact hJ67 _ _ _ _ _ _ _ ls hf hG (lv_sub hl [0, 1, 2] rfl)
      · replace hf := if_t c2 hf
        refine lv_aload_n hx hb dX9_reckons_47 rfl (lv_at hl 0 rfl) ?_
        refine g_getR F hG 2 mo_0 (by decide) (by decide) lk_X9_29 rfl dX9_reckons_48 ?_
        refine lv_iload_n hx hb dX9_reckons_51 rfl (lv_at hl 2 rfl) ?_
        replace hf := ck_some hf
        obtain ⟨k3, hf⟩ := hf
        refine g_iald F hG oM_2 k3 dX9_reckons_52 ?_
        refine lv_goto (tgt := 67) hx hb dX9_reckons_53 (by decide) ?_
        exact hJ67 _ _ _ _ _ _ _ ls hf hG (lv_sub hl [0, 1, 2] rfl)
    have hJ106 : ∀ (t0 : Int32) (t1 : Int32) (x2 : Int32) (x3 : Int32) (M : Mem) (H : Heap) (locs : List Loc) (ls : Array Slot), j_X9_reckons_106 n  t0 t1 x2 x3 M = some rr4 → GI w layM 24 s.heap M H locs → lv_has ls 5 [(0, .ref (w.2.2.1 0)), (2, .int x2), (3, .int x3)] → W p l e (Rm 1) s m args below meth c H locs 0 0 (MQ below (GQi w layM 24 res s.heap.size) args s 0 0 (gA w.2.2.1 24 s.heap.size)) (F0 m 106 ls [.int t0, .int t1, .ref (w.2.2.1 16)]) := by
      intro t0 t1 x2 x3 M H locs ls hf hG hl
      unfold j_X9_reckons_106 at hf
      replace hf := ck_some hf
      obtain ⟨k6, hf⟩ := hf
      refine g_iast F hG oM_16 k6 dX9_reckons_106 (fun H locs hG => ?_)
      refine lv_goto (tgt := 140) hx hb dX9_reckons_107 (by decide) ?_
      exact hJ140 _ _ _ _ _ ls hf hG (lv_sub hl [0, 1, 2] rfl)
    dsimp only [b_X9_reckons_4] at hf
    refine lv_aload_n hx hb dX9_reckons_4 rfl (lv_at hl 0 rfl) ?_
    refine g_getR F hG 2 mo_0 (by decide) (by decide) lk_X9_29 rfl dX9_reckons_5 ?_
    refine lv_iload_n hx hb dX9_reckons_8 rfl (lv_at hl 2 rfl) ?_
    replace hf := ck_some hf
    obtain ⟨k7, hf⟩ := hf
    refine g_iald F hG oM_2 k7 dX9_reckons_9 ?_
    refine lv_if_eq (tgt := 143) hx hb dX9_reckons_10 (by decide) (fun c8 => ?_) (fun c8 => ?_)
    · replace hf := if_t c8 hf
      refine lv_aload_n hx hb dX9_reckons_143 rfl (lv_at hl 0 rfl) ?_
      refine g_getR F hG 16 mo_0 (by decide) (by decide) lk_X9_75 rfl dX9_reckons_144 ?_
      refine lv_iconst (v := 0) hx hb dX9_reckons_147 (by decide) ?_
      refine g_iald F hG oM_16 (by decide) dX9_reckons_148 ?_
      replace hf := mr_some hf
      obtain ⟨z4, hf, hz⟩ := hf
      rw [hE4 _ hz] at hf
      exact cg_iret F hr hlk hG hf dX9_reckons_149
    · replace hf := if_f c8 hf
      refine lv_aload_n hx hb dX9_reckons_13 rfl (lv_at hl 0 rfl) ?_
      refine g_getR F hG 2 mo_0 (by decide) (by decide) lk_X9_29 rfl dX9_reckons_14 ?_
      refine lv_iload_n hx hb dX9_reckons_17 rfl (lv_at hl 2 rfl) ?_
      replace hf := ck_some hf
      obtain ⟨k9, hf⟩ := hf
      refine g_iald F hG oM_2 k9 dX9_reckons_18 ?_
      refine lv_istore (lv' := [(4, .int (gi M 2 x3.toNatClampNeg)), (0, .ref (w.2.2.1 0)), (2, .int x2), (3, .int x3)]) hx hb dX9_reckons_19 hl (by decide) rfl (fun ls hl => ?_)
      refine lv_iinc (v := (x3 + (1 : Int32))) (lv' := [(3, .int (x3 + (1 : Int32))), (4, .int (gi M 2 x3.toNatClampNeg)), (0, .ref (w.2.2.1 0)), (2, .int x2)]) hx hb dX9_reckons_21 hl (k := 3) rfl rfl (by decide) rfl (fun ls hl => ?_)
      refine lv_iload hx hb dX9_reckons_24 (lv_at hl 1 rfl) ?_
      refine lv_iconst (v := 1) hx hb dX9_reckons_26 (by decide) ?_
      refine lv_icmp_eq (tgt := 36) hx hb dX9_reckons_27 (by decide) (fun c10 => ?_) (fun c10 => ?_)
      · replace hf := if_t c10 hf
        exact hJ36 _ _ _ _ _ _ ls hf hG (lv_sub hl [2, 3, 0, 1] rfl)
      · replace hf := if_f c10 hf
        refine lv_iload hx hb dX9_reckons_30 (lv_at hl 1 rfl) ?_
        refine lv_iconst (v := 2) hx hb dX9_reckons_32 (by decide) ?_
        refine lv_icmp_ne (tgt := 77) hx hb dX9_reckons_33 (by decide) (fun c11 => ?_) (fun c11 => ?_)
        · replace hf := if_f c11 hf
          refine lv_iload hx hb dX9_reckons_77 (lv_at hl 1 rfl) ?_
          refine lv_iconst (v := 3) hx hb dX9_reckons_79 (by decide) ?_
          refine lv_icmp_ne (tgt := 110) hx hb dX9_reckons_80 (by decide) (fun c12 => ?_) (fun c12 => ?_)
          · replace hf := if_f c12 hf
            refine lv_iinc (v := (x2 + (-1 : Int32))) (lv' := [(2, .int (x2 + (-1 : Int32))), (3, .int (x3 + (1 : Int32))), (4, .int (gi M 2 x3.toNatClampNeg)), (0, .ref (w.2.2.1 0))]) hx hb dX9_reckons_110 hl (k := 3) rfl rfl (by decide) rfl (fun ls hl => ?_)
            refine lv_aload_n hx hb dX9_reckons_113 rfl (lv_at hl 3 rfl) ?_
            refine g_getR F hG 16 mo_0 (by decide) (by decide) lk_X9_75 rfl dX9_reckons_114 ?_
            refine lv_iload_n hx hb dX9_reckons_117 rfl (lv_at hl 0 rfl) ?_
            refine lv_iconst (v := 1) hx hb dX9_reckons_118 (by decide) ?_
            refine lv_isub hx hb dX9_reckons_119 ?_
            refine lv_iload hx hb dX9_reckons_120 (lv_at hl 2 rfl) ?_
            refine lv_aload_n hx hb dX9_reckons_122 rfl (lv_at hl 3 rfl) ?_
            refine g_getR F hG 16 mo_0 (by decide) (by decide) lk_X9_75 rfl dX9_reckons_123 ?_
            refine lv_iload_n hx hb dX9_reckons_126 rfl (lv_at hl 0 rfl) ?_
            refine lv_iconst (v := 1) hx hb dX9_reckons_127 (by decide) ?_
            refine lv_isub hx hb dX9_reckons_128 ?_
            replace hf := ck_some hf
            obtain ⟨k15, hf⟩ := hf
            refine g_iald F hG oM_16 k15 dX9_reckons_129 ?_
            refine lv_aload_n hx hb dX9_reckons_130 rfl (lv_at hl 3 rfl) ?_
            refine g_getR F hG 16 mo_0 (by decide) (by decide) lk_X9_75 rfl dX9_reckons_131 ?_
            refine lv_iload_n hx hb dX9_reckons_134 rfl (lv_at hl 0 rfl) ?_
            replace hf := ck_some hf
            obtain ⟨k16, hf⟩ := hf
            refine g_iald F hG oM_16 k16 dX9_reckons_135 ?_
            replace hf := bd_some hf
            obtain ⟨q17, eq17, hf⟩ := hf
            refine gx_calli hG (gx_runS hXk F hX hG (c_X9_works l w hXk n  (gi M 2 x3.toNatClampNeg) (gi M 16 ((x2 + (-1 : Int32)) - (1 : Int32)).toNatClampNeg) (gi M 16 (x2 + (-1 : Int32)).toNatClampNeg) _ _ eq17) cs_X9_314 ⟨Nat.le_of_ble_eq_true rfl, Nat.le_of_ble_eq_true rfl⟩ rfl hl.1 rfl (Nat.le_of_ble_eq_true rfl) dX9_reckons_136 ⟨Nat.le_refl _, Nat.le_refl _⟩) (fun H locs hG => ?_)
            replace hf := ck_some hf
            obtain ⟨k18, hf⟩ := hf
            refine g_iast F hG oM_16 k18 dX9_reckons_139 (fun H locs hG => ?_)
            exact hJ140 _ _ _ _ _ ls hf hG (lv_sub hl [3, 0, 1] rfl)
          · replace hf := if_t c12 hf
            refine lv_aload_n hx hb dX9_reckons_83 rfl (lv_at hl 2 rfl) ?_
            refine g_getR F hG 16 mo_0 (by decide) (by decide) lk_X9_75 rfl dX9_reckons_84 ?_
            refine lv_iload_n hx hb dX9_reckons_87 rfl (lv_at hl 3 rfl) ?_
            refine lv_iconst (v := 1) hx hb dX9_reckons_88 (by decide) ?_
            refine lv_isub hx hb dX9_reckons_89 ?_
            refine lv_aload_n hx hb dX9_reckons_90 rfl (lv_at hl 2 rfl) ?_
            refine g_getR F hG 16 mo_0 (by decide) (by decide) lk_X9_75 rfl dX9_reckons_91 ?_
            refine lv_iload_n hx hb dX9_reckons_94 rfl (lv_at hl 3 rfl) ?_
            refine lv_iconst (v := 1) hx hb dX9_reckons_95 (by decide) ?_
            refine lv_isub hx hb dX9_reckons_96 ?_
            replace hf := ck_some hf
            obtain ⟨k13, hf⟩ := hf
            refine g_iald F hG oM_16 k13 dX9_reckons_97 ?_
            refine lv_if_ne (tgt := 105) hx hb dX9_reckons_98 (by decide) (fun c14 => ?_) (fun c14 => ?_)
            · replace hf := if_f c14 hf
              refine lv_iconst (v := 0) hx hb dX9_reckons_105 (by decide) ?_
              exact hJ106 _ _ _ _ _ _ _ ls hf hG (lv_sub hl [2, 3, 0] rfl)
            · replace hf := if_t c14 hf
              refine lv_iconst (v := 1) hx hb dX9_reckons_101 (by decide) ?_
              refine lv_goto (tgt := 106) hx hb dX9_reckons_102 (by decide) ?_
              exact hJ106 _ _ _ _ _ _ _ ls hf hG (lv_sub hl [2, 3, 0] rfl)
        · replace hf := if_t c11 hf
          exact hJ36 _ _ _ _ _ _ ls hf hG (lv_sub hl [2, 3, 0, 1] rfl)
  unfold f_X9_reckons at hf
  refine lv_iconst (v := 0) hx hb dX9_reckons_0 (by decide) ?_
  refine lv_istore_n (lv' := [(2, .int (0 : Int32)), (0, .ref (w.2.2.1 0)), (1, .int x1)]) hx hb dX9_reckons_1 rfl hl (by decide) rfl (fun ls hl => ?_)
  refine lv_iload_n hx hb dX9_reckons_2 rfl (lv_at hl 2 rfl) ?_
  refine lv_istore_n (lv' := [(3, .int x1), (2, .int (0 : Int32)), (0, .ref (w.2.2.1 0)), (1, .int x1)]) hx hb dX9_reckons_3 rfl hl (by decide) rfl (fun ls hl => ?_)
  exact hJ4 _ _ _ _ _ ls hf hG (lv_sub hl [2, 1, 0] rfl)

def b_X9_sumOf_6 (n : Nat) (x1 : Int32) (x2 : Int32) (x3 : Int32) (q : (Int32 × Int32 × Mem)) : Option ((Int32 × Int32 × Mem) ⊕ (Int32 × Mem)) := match q with
  | (x4, x5, M) => if x3 ≤ x5 then (mr (some (x4, M))) else (ck (inb ((x1 + x2) + x5) 108) (some (.inl ((x4 + (gi M 12 ((x1 + x2) + x5).toNatClampNeg)), (x5 + (1 : Int32)), M))))
def f_X9_sumOf (n : Nat) (x1 : Int32) (x2 : Int32) (x3 : Int32) (M : Mem) : Option (Int32 × Mem) := gl (b_X9_sumOf_6 n  x1 x2 x3) n ((0 : Int32), (0 : Int32), M)
set_option maxHeartbeats 4000000 in
set_option maxRecDepth 100000 in
theorem c_X9_sumOf (l : Launch) (w : Wd) {X : (Nat → Prop) → State → Heap → Prop} (hXk : XOK X) (n : Nat) (x1 : Int32) (x2 : Int32) (x3 : Int32) (M : Mem) (res : Int32 × Mem) (hf : f_X9_sumOf n  x1 x2 x3 M = some res) : CG l w layM 24 X yX9_sumOf cX9_sumOf 6 (some .int) 0 [.ref (w.2.2.1 0), .int x1, .int x2, .int x3] M (GQi w layM 24 res) := by
  refine cg_start (by decide +kernel) (Nat.le_of_ble_eq_true rfl) ?_
  intro p e s m args below meth c F hr hlk hX hG ls hl
  have F : FX w p m c cX9_sumOf 6 s args RX9 := F
  have hx := F.1.1
  have hb := F.1.2.1
  have hl : lv_has ls 6 [(0, .ref (w.2.2.1 0)), (1, .int x1), (2, .int x2), (3, .int x3)] := hl
  have hJ6 : ∀ (x1 : Int32) (x2 : Int32) (x3 : Int32) (x4 : Int32) (x5 : Int32) (M : Mem) (H : Heap) (locs : List Loc) (ls : Array Slot), gl (b_X9_sumOf_6 n  x1 x2 x3) n (x4, x5, M) = some res → GI w layM 24 s.heap M H locs → lv_has ls 6 [(0, .ref (w.2.2.1 0)), (1, .int x1), (2, .int x2), (3, .int x3), (4, .int x4), (5, .int x5)] → W p l e (Rm 0) s m args below meth c H locs 0 0 (MQ below (GQi w layM 24 res s.heap.size) args s 0 0 (gA w.2.2.1 24 s.heap.size)) (F0 m 6 ls []) := by
    intro x1 x2 x3 x4 x5 M H locs ls hf hG hl
    refine gl_run (P := fun (q : (Int32 × Int32 × Mem)) => ∀ (H : Heap) (locs : List Loc) (ls : Array Slot), GI w layM 24 s.heap q.2.2 H locs → lv_has ls 6 [(0, .ref (w.2.2.1 0)), (1, .int x1), (2, .int x2), (3, .int x3), (4, .int q.1), (5, .int q.2.1)] → W p l e (Rm 0) s m args below meth c H locs 0 0 (MQ below (GQi w layM 24 res s.heap.size) args s 0 0 (gA w.2.2.1 24 s.heap.size)) (F0 m 6 ls [])) ?_ n (x4, x5, M) hf H locs ls hG hl
    clear hf hG hl ls locs H M x4 x5
    rintro ⟨x4, x5, M⟩ rr6 hf hI6 hE6 H locs ls hG hl
    try dsimp only at hG hl ⊢
    dsimp only [b_X9_sumOf_6] at hf
    refine lv_iload hx hb dX9_sumOf_6 (lv_at hl 5 rfl) ?_
    refine lv_iload_n hx hb dX9_sumOf_8 rfl (lv_at hl 3 rfl) ?_
    refine lv_icmp_ge (tgt := 34) hx hb dX9_sumOf_9 (by decide) (fun c1 => ?_) (fun c1 => ?_)
    · replace hf := if_t c1 hf
      refine lv_iload hx hb dX9_sumOf_34 (lv_at hl 4 rfl) ?_
      replace hf := mr_some hf
      obtain ⟨z6, hf, hz⟩ := hf
      rw [hE6 _ hz] at hf
      exact cg_iret F hr hlk hG hf dX9_sumOf_36
    · replace hf := if_f c1 hf
      refine lv_iload hx hb dX9_sumOf_12 (lv_at hl 4 rfl) ?_
      refine lv_aload_n hx hb dX9_sumOf_14 rfl (lv_at hl 0 rfl) ?_
      refine g_getR F hG 12 mo_0 (by decide) (by decide) lk_X9_63 rfl dX9_sumOf_15 ?_
      refine lv_iload_n hx hb dX9_sumOf_18 rfl (lv_at hl 1 rfl) ?_
      refine lv_iload_n hx hb dX9_sumOf_19 rfl (lv_at hl 2 rfl) ?_
      refine lv_iadd hx hb dX9_sumOf_20 ?_
      refine lv_iload hx hb dX9_sumOf_21 (lv_at hl 5 rfl) ?_
      refine lv_iadd hx hb dX9_sumOf_23 ?_
      replace hf := ck_some hf
      obtain ⟨k2, hf⟩ := hf
      refine g_iald F hG oM_12 k2 dX9_sumOf_24 ?_
      refine lv_iadd hx hb dX9_sumOf_25 ?_
      refine lv_istore (lv' := [(4, .int (x4 + (gi M 12 ((x1 + x2) + x5).toNatClampNeg))), (0, .ref (w.2.2.1 0)), (1, .int x1), (2, .int x2), (3, .int x3), (5, .int x5)]) hx hb dX9_sumOf_26 hl (by decide) rfl (fun ls hl => ?_)
      refine lv_iinc (v := (x5 + (1 : Int32))) (lv' := [(5, .int (x5 + (1 : Int32))), (4, .int (x4 + (gi M 12 ((x1 + x2) + x5).toNatClampNeg))), (0, .ref (w.2.2.1 0)), (1, .int x1), (2, .int x2), (3, .int x3)]) hx hb dX9_sumOf_28 hl (k := 5) rfl rfl (by decide) rfl (fun ls hl => ?_)
      refine lv_goto (tgt := 6) hx hb dX9_sumOf_31 (by decide) ?_
      exact hI6 _ (Option.some.inj hf).symm _ _ ls hG (lv_sub hl [2, 3, 4, 5, 1, 0] rfl)
  unfold f_X9_sumOf at hf
  refine lv_iconst (v := 0) hx hb dX9_sumOf_0 (by decide) ?_
  refine lv_istore (lv' := [(4, .int (0 : Int32)), (0, .ref (w.2.2.1 0)), (1, .int x1), (2, .int x2), (3, .int x3)]) hx hb dX9_sumOf_1 hl (by decide) rfl (fun ls hl => ?_)
  refine lv_iconst (v := 0) hx hb dX9_sumOf_3 (by decide) ?_
  refine lv_istore (lv' := [(5, .int (0 : Int32)), (4, .int (0 : Int32)), (0, .ref (w.2.2.1 0)), (1, .int x1), (2, .int x2), (3, .int x3)]) hx hb dX9_sumOf_4 hl (by decide) rfl (fun ls hl => ?_)
  exact hJ6 _ _ _ _ _ _ _ _ ls hf hG (lv_sub hl [2, 3, 4, 5, 1, 0] rfl)

def f_X9_weightOf (n : Nat) (x1 : Int32) (M : Mem) : Option (Int32 × Mem) := ck (inb (x1 + (3 : Int32)) 108) (bd (f_X9_sumOf n  x1 (6 : Int32) (gi M 12 (x1 + (3 : Int32)).toNatClampNeg) M) (fun q2 => some (q2.1, q2.2)))
set_option maxHeartbeats 4000000 in
set_option maxRecDepth 100000 in
theorem c_X9_weightOf (l : Launch) (w : Wd) {X : (Nat → Prop) → State → Heap → Prop} (hXk : XOK X) (n : Nat) (x1 : Int32) (M : Mem) (res : Int32 × Mem) (hf : f_X9_weightOf n  x1 M = some res) : CG l w layM 24 X yX9_weightOf cX9_weightOf 2 (some .int) 1 [.ref (w.2.2.1 0), .int x1] M (GQi w layM 24 res) := by
  refine cg_start (by decide +kernel) (Nat.le_of_ble_eq_true rfl) ?_
  intro p e s m args below meth c F hr hlk hX hG ls hl
  have F : FX w p m c cX9_weightOf 2 s args RX9 := F
  have hx := F.1.1
  have hb := F.1.2.1
  have hl : lv_has ls 2 [(0, .ref (w.2.2.1 0)), (1, .int x1)] := hl
  unfold f_X9_weightOf at hf
  refine lv_aload_n hx hb dX9_weightOf_0 rfl (lv_at hl 0 rfl) ?_
  refine lv_iload_n hx hb dX9_weightOf_1 rfl (lv_at hl 1 rfl) ?_
  refine lv_bipush (v := 6) hx hb dX9_weightOf_2 (by decide) ?_
  refine lv_aload_n hx hb dX9_weightOf_4 rfl (lv_at hl 0 rfl) ?_
  refine g_getR F hG 12 mo_0 (by decide) (by decide) lk_X9_63 rfl dX9_weightOf_5 ?_
  refine lv_iload_n hx hb dX9_weightOf_8 rfl (lv_at hl 1 rfl) ?_
  refine lv_iconst (v := 3) hx hb dX9_weightOf_9 (by decide) ?_
  refine lv_iadd hx hb dX9_weightOf_10 ?_
  replace hf := ck_some hf
  obtain ⟨k1, hf⟩ := hf
  refine g_iald F hG oM_12 k1 dX9_weightOf_11 ?_
  replace hf := bd_some hf
  obtain ⟨q2, eq2, hf⟩ := hf
  refine gx_calli hG (gx_runV hXk F hX hG (c_X9_sumOf l w hXk n  x1 (6 : Int32) (gi M 12 (x1 + (3 : Int32)).toNatClampNeg) _ _ eq2) cv_X9_318 ⟨Nat.le_of_ble_eq_true rfl, Nat.le_of_ble_eq_true rfl⟩ (g_recv F hG mo_0 (by decide) rfl) rfl hl.1 rfl (Nat.le_of_ble_eq_true rfl) dX9_weightOf_12 ⟨Nat.le_refl _, Nat.le_refl _⟩) (fun H locs hG => ?_)
  exact cg_iret F hr hlk hG hf dX9_weightOf_15

def f_X9_mortarOf (n : Nat) (x1 : Int32) (M : Mem) : Option (Int32 × Mem) := ck (inb (x1 + (3 : Int32)) 108) (bd (f_X9_sumOf n  x1 (22 : Int32) (gi M 12 (x1 + (3 : Int32)).toNatClampNeg) M) (fun q2 => some (q2.1, q2.2)))
set_option maxHeartbeats 4000000 in
set_option maxRecDepth 100000 in
theorem c_X9_mortarOf (l : Launch) (w : Wd) {X : (Nat → Prop) → State → Heap → Prop} (hXk : XOK X) (n : Nat) (x1 : Int32) (M : Mem) (res : Int32 × Mem) (hf : f_X9_mortarOf n  x1 M = some res) : CG l w layM 24 X yX9_mortarOf cX9_mortarOf 2 (some .int) 1 [.ref (w.2.2.1 0), .int x1] M (GQi w layM 24 res) := by
  refine cg_start (by decide +kernel) (Nat.le_of_ble_eq_true rfl) ?_
  intro p e s m args below meth c F hr hlk hX hG ls hl
  have F : FX w p m c cX9_mortarOf 2 s args RX9 := F
  have hx := F.1.1
  have hb := F.1.2.1
  have hl : lv_has ls 2 [(0, .ref (w.2.2.1 0)), (1, .int x1)] := hl
  unfold f_X9_mortarOf at hf
  refine lv_aload_n hx hb dX9_mortarOf_0 rfl (lv_at hl 0 rfl) ?_
  refine lv_iload_n hx hb dX9_mortarOf_1 rfl (lv_at hl 1 rfl) ?_
  refine lv_bipush (v := 22) hx hb dX9_mortarOf_2 (by decide) ?_
  refine lv_aload_n hx hb dX9_mortarOf_4 rfl (lv_at hl 0 rfl) ?_
  refine g_getR F hG 12 mo_0 (by decide) (by decide) lk_X9_63 rfl dX9_mortarOf_5 ?_
  refine lv_iload_n hx hb dX9_mortarOf_8 rfl (lv_at hl 1 rfl) ?_
  refine lv_iconst (v := 3) hx hb dX9_mortarOf_9 (by decide) ?_
  refine lv_iadd hx hb dX9_mortarOf_10 ?_
  replace hf := ck_some hf
  obtain ⟨k1, hf⟩ := hf
  refine g_iald F hG oM_12 k1 dX9_mortarOf_11 ?_
  replace hf := bd_some hf
  obtain ⟨q2, eq2, hf⟩ := hf
  refine gx_calli hG (gx_runV hXk F hX hG (c_X9_sumOf l w hXk n  x1 (22 : Int32) (gi M 12 (x1 + (3 : Int32)).toNatClampNeg) _ _ eq2) cv_X9_318 ⟨Nat.le_of_ble_eq_true rfl, Nat.le_of_ble_eq_true rfl⟩ (g_recv F hG mo_0 (by decide) rfl) rfl hl.1 rfl (Nat.le_of_ble_eq_true rfl) dX9_mortarOf_12 ⟨Nat.le_refl _, Nat.le_refl _⟩) (fun H locs hG => ?_)
  exact cg_iret F hr hlk hG hf dX9_mortarOf_15

def f_X9_strengthOf (n : Nat) (x1 : Int32) (M : Mem) : Option (Int32 × Mem) := bd (f_X9_sumOf n  x1 (38 : Int32) (gi M 0 1) M) (fun q1 => bd (f_X9_mortarOf n  x1 q1.2) (fun q2 => some (((q1.1 / (10 : Int32)) + q2.1), q2.2)))
set_option maxHeartbeats 4000000 in
set_option maxRecDepth 100000 in
theorem c_X9_strengthOf (l : Launch) (w : Wd) {X : (Nat → Prop) → State → Heap → Prop} (hXk : XOK X) (n : Nat) (x1 : Int32) (M : Mem) (res : Int32 × Mem) (hf : f_X9_strengthOf n  x1 M = some res) : CG l w layM 24 X yX9_strengthOf cX9_strengthOf 2 (some .int) 2 [.ref (w.2.2.1 0), .int x1] M (GQi w layM 24 res) := by
  refine cg_start (by decide +kernel) (Nat.le_of_ble_eq_true rfl) ?_
  intro p e s m args below meth c F hr hlk hX hG ls hl
  have F : FX w p m c cX9_strengthOf 2 s args RX9 := F
  have hx := F.1.1
  have hb := F.1.2.1
  have hl : lv_has ls 2 [(0, .ref (w.2.2.1 0)), (1, .int x1)] := hl
  unfold f_X9_strengthOf at hf
  refine lv_aload_n hx hb dX9_strengthOf_0 rfl (lv_at hl 0 rfl) ?_
  refine lv_iload_n hx hb dX9_strengthOf_1 rfl (lv_at hl 1 rfl) ?_
  refine lv_bipush (v := 38) hx hb dX9_strengthOf_2 (by decide) ?_
  refine lv_aload_n hx hb dX9_strengthOf_4 rfl (lv_at hl 0 rfl) ?_
  refine g_getI F hG mo_0 (by decide) (by decide) lk_X9_291 rfl dX9_strengthOf_5 ?_
  replace hf := bd_some hf
  obtain ⟨q1, eq1, hf⟩ := hf
  refine gx_calli hG (gx_runV hXk F hX hG (c_X9_sumOf l w hXk n  x1 (38 : Int32) (gi M 0 1) _ _ eq1) cv_X9_318 ⟨Nat.le_of_ble_eq_true rfl, Nat.le_of_ble_eq_true rfl⟩ (g_recv F hG mo_0 (by decide) rfl) rfl hl.1 rfl (Nat.le_of_ble_eq_true rfl) dX9_strengthOf_8 ⟨Nat.le_refl _, Nat.le_refl _⟩) (fun H locs hG => ?_)
  refine lv_bipush (v := 10) hx hb dX9_strengthOf_11 (by decide) ?_
  refine lv_idiv hx hb dX9_strengthOf_13 (by decide) ?_
  refine lv_aload_n hx hb dX9_strengthOf_14 rfl (lv_at hl 0 rfl) ?_
  refine lv_iload_n hx hb dX9_strengthOf_15 rfl (lv_at hl 1 rfl) ?_
  replace hf := bd_some hf
  obtain ⟨q2, eq2, hf⟩ := hf
  refine gx_calli hG (gx_runV hXk F hX hG (c_X9_mortarOf l w hXk n  x1 _ _ eq2) cv_X9_321 ⟨Nat.le_of_ble_eq_true rfl, Nat.le_of_ble_eq_true rfl⟩ (g_recv F hG mo_0 (by decide) rfl) rfl hl.1 rfl (Nat.le_of_ble_eq_true rfl) dX9_strengthOf_16 ⟨Nat.le_refl _, Nat.le_refl _⟩) (fun H locs hG => ?_)
  refine lv_iadd hx hb dX9_strengthOf_19 ?_
  exact cg_iret F hr hlk hG hf dX9_strengthOf_20

def f_X9_isDone (n : Nat) (x1 : Int32) (M : Mem) : Option (Int32 × Mem) := ck (inb (x1 + (3 : Int32)) 108) (if (gi M 12 (x1 + (3 : Int32)).toNatClampNeg) < (gi M 0 2) then (some ((0 : Int32), M)) else (some ((1 : Int32), M)))
set_option maxHeartbeats 4000000 in
set_option maxRecDepth 100000 in
theorem c_X9_isDone (l : Launch) (w : Wd) {X : (Nat → Prop) → State → Heap → Prop} (hXk : XOK X) (n : Nat) (x1 : Int32) (M : Mem) (res : Int32 × Mem) (hf : f_X9_isDone n  x1 M = some res) : CG l w layM 24 X yX9_isDone cX9_isDone 2 (some .boolean) 0 [.ref (w.2.2.1 0), .int x1] M (GQi w layM 24 res) := by
  refine cg_start (by decide +kernel) (Nat.le_of_ble_eq_true rfl) ?_
  intro p e s m args below meth c F hr hlk hX hG ls hl
  have F : FX w p m c cX9_isDone 2 s args RX9 := F
  have hx := F.1.1
  have hb := F.1.2.1
  have hl : lv_has ls 2 [(0, .ref (w.2.2.1 0)), (1, .int x1)] := hl
  unfold f_X9_isDone at hf
  refine lv_aload_n hx hb dX9_isDone_0 rfl (lv_at hl 0 rfl) ?_
  refine g_getR F hG 12 mo_0 (by decide) (by decide) lk_X9_63 rfl dX9_isDone_1 ?_
  refine lv_iload_n hx hb dX9_isDone_4 rfl (lv_at hl 1 rfl) ?_
  refine lv_iconst (v := 3) hx hb dX9_isDone_5 (by decide) ?_
  refine lv_iadd hx hb dX9_isDone_6 ?_
  replace hf := ck_some hf
  obtain ⟨k1, hf⟩ := hf
  refine g_iald F hG oM_12 k1 dX9_isDone_7 ?_
  refine lv_aload_n hx hb dX9_isDone_8 rfl (lv_at hl 0 rfl) ?_
  refine g_getI F hG mo_0 (by decide) (by decide) lk_X9_7 rfl dX9_isDone_9 ?_
  refine lv_icmp_lt (tgt := 19) hx hb dX9_isDone_12 (by decide) (fun c2 => ?_) (fun c2 => ?_)
  · replace hf := if_t c2 hf
    refine lv_iconst (v := 0) hx hb dX9_isDone_19 (by decide) ?_
    exact cg_zret F hr hlk hG hf (Or.inl rfl) dX9_isDone_20
  · replace hf := if_f c2 hf
    refine lv_iconst (v := 1) hx hb dX9_isDone_15 (by decide) ?_
    refine lv_goto (tgt := 20) hx hb dX9_isDone_16 (by decide) ?_
    exact cg_zret F hr hlk hG hf (Or.inr rfl) dX9_isDone_20

def j_X9_doubtOf_57 (n : Nat) (t0 : Int32) (t1 : Int32) (x1 : Int32) (x2 : Int32) (x4 : Int32) (M : Mem) : Option ((Int32 × Int32 × Mem) ⊕ (Int32 × Mem)) := some (.inl ((t1 + t0), (x4 + (1 : Int32)), M))
def j_X9_doubtOf_56 (n : Nat) (t0 : Int32) (x1 : Int32) (x2 : Int32) (x4 : Int32) (M : Mem) : Option ((Int32 × Int32 × Mem) ⊕ (Int32 × Mem)) := j_X9_doubtOf_57 n  (0 : Int32) t0 x1 x2 x4 M
def b_X9_doubtOf_5 (n : Nat) (x1 : Int32) (x2 : Int32) (q : (Int32 × Int32 × Mem)) : Option ((Int32 × Int32 × Mem) ⊕ (Int32 × Mem)) := match q with
  | (x3, x4, M) => if (gi M 0 1) ≤ x4 then (mr (some (x3, M))) else (ck (inb ((x1 + (46 : Int32)) + x2) 108) (if (((gi M 12 ((x1 + (46 : Int32)) + x2).toNatClampNeg) >>> (x4 &&& 31)) &&& (1 : Int32)) = (1 : Int32) then (ck (inb ((x1 + (38 : Int32)) + x4) 108) (if (10 : Int32) ≤ (gi M 12 ((x1 + (38 : Int32)) + x4).toNatClampNeg) then (j_X9_doubtOf_56 n  x3 x1 x2 x4 M) else (j_X9_doubtOf_57 n  (1 : Int32) x3 x1 x2 x4 M))) else (j_X9_doubtOf_56 n  x3 x1 x2 x4 M)))
def f_X9_doubtOf (n : Nat) (x1 : Int32) (x2 : Int32) (M : Mem) : Option (Int32 × Mem) := gl (b_X9_doubtOf_5 n  x1 x2) n ((0 : Int32), (0 : Int32), M)
set_option maxHeartbeats 4000000 in
set_option maxRecDepth 100000 in
theorem c_X9_doubtOf (l : Launch) (w : Wd) {X : (Nat → Prop) → State → Heap → Prop} (hXk : XOK X) (n : Nat) (x1 : Int32) (x2 : Int32) (M : Mem) (res : Int32 × Mem) (hf : f_X9_doubtOf n  x1 x2 M = some res) : CG l w layM 24 X yX9_doubtOf cX9_doubtOf 5 (some .int) 0 [.ref (w.2.2.1 0), .int x1, .int x2] M (GQi w layM 24 res) := by
  refine cg_start (by decide +kernel) (Nat.le_of_ble_eq_true rfl) ?_
  intro p e s m args below meth c F hr hlk hX hG ls hl
  have F : FX w p m c cX9_doubtOf 5 s args RX9 := F
  have hx := F.1.1
  have hb := F.1.2.1
  have hl : lv_has ls 5 [(0, .ref (w.2.2.1 0)), (1, .int x1), (2, .int x2)] := hl
  have hJ5 : ∀ (x1 : Int32) (x2 : Int32) (x3 : Int32) (x4 : Int32) (M : Mem) (H : Heap) (locs : List Loc) (ls : Array Slot), gl (b_X9_doubtOf_5 n  x1 x2) n (x3, x4, M) = some res → GI w layM 24 s.heap M H locs → lv_has ls 5 [(0, .ref (w.2.2.1 0)), (1, .int x1), (2, .int x2), (3, .int x3), (4, .int x4)] → W p l e (Rm 0) s m args below meth c H locs 0 0 (MQ below (GQi w layM 24 res s.heap.size) args s 0 0 (gA w.2.2.1 24 s.heap.size)) (F0 m 5 ls []) := by
    intro x1 x2 x3 x4 M H locs ls hf hG hl
    refine gl_run (P := fun (q : (Int32 × Int32 × Mem)) => ∀ (H : Heap) (locs : List Loc) (ls : Array Slot), GI w layM 24 s.heap q.2.2 H locs → lv_has ls 5 [(0, .ref (w.2.2.1 0)), (1, .int x1), (2, .int x2), (3, .int q.1), (4, .int q.2.1)] → W p l e (Rm 0) s m args below meth c H locs 0 0 (MQ below (GQi w layM 24 res s.heap.size) args s 0 0 (gA w.2.2.1 24 s.heap.size)) (F0 m 5 ls [])) ?_ n (x3, x4, M) hf H locs ls hG hl
    clear hf hG hl ls locs H M x3 x4
    rintro ⟨x3, x4, M⟩ rr5 hf hI5 hE5 H locs ls hG hl
    try dsimp only at hG hl ⊢
    have hJ57 : ∀ (t0 : Int32) (t1 : Int32) (x4 : Int32) (M : Mem) (H : Heap) (locs : List Loc) (ls : Array Slot), j_X9_doubtOf_57 n  t0 t1 x1 x2 x4 M = some rr5 → GI w layM 24 s.heap M H locs → lv_has ls 5 [(0, .ref (w.2.2.1 0)), (1, .int x1), (2, .int x2), (4, .int x4)] → W p l e (Rm 0) s m args below meth c H locs 0 0 (MQ below (GQi w layM 24 res s.heap.size) args s 0 0 (gA w.2.2.1 24 s.heap.size)) (F0 m 57 ls [.int t0, .int t1]) := by
      intro t0 t1 x4 M H locs ls hf hG hl
      unfold j_X9_doubtOf_57 at hf
      refine lv_iadd hx hb dX9_doubtOf_57 ?_
      refine lv_istore_n (lv' := [(3, .int (t1 + t0)), (0, .ref (w.2.2.1 0)), (1, .int x1), (2, .int x2), (4, .int x4)]) hx hb dX9_doubtOf_58 rfl hl (by decide) rfl (fun ls hl => ?_)
      refine lv_iinc (v := (x4 + (1 : Int32))) (lv' := [(4, .int (x4 + (1 : Int32))), (3, .int (t1 + t0)), (0, .ref (w.2.2.1 0)), (1, .int x1), (2, .int x2)]) hx hb dX9_doubtOf_59 hl (k := 4) rfl rfl (by decide) rfl (fun ls hl => ?_)
      refine lv_goto (tgt := 5) hx hb dX9_doubtOf_62 (by decide) ?_
      exact hI5 _ (Option.some.inj hf).symm _ _ ls hG (lv_sub hl [2, 3, 4, 1, 0] rfl)
    have hJ56 : ∀ (t0 : Int32) (x4 : Int32) (M : Mem) (H : Heap) (locs : List Loc) (ls : Array Slot), j_X9_doubtOf_56 n  t0 x1 x2 x4 M = some rr5 → GI w layM 24 s.heap M H locs → lv_has ls 5 [(0, .ref (w.2.2.1 0)), (1, .int x1), (2, .int x2), (4, .int x4)] → W p l e (Rm 0) s m args below meth c H locs 0 0 (MQ below (GQi w layM 24 res s.heap.size) args s 0 0 (gA w.2.2.1 24 s.heap.size)) (F0 m 56 ls [.int t0]) := by
      intro t0 x4 M H locs ls hf hG hl
      unfold j_X9_doubtOf_56 at hf
      refine lv_iconst (v := 0) hx hb dX9_doubtOf_56 (by decide) ?_
      exact hJ57 _ _ _ _ _ _ ls hf hG (lv_sub hl [0, 1, 2, 3] rfl)
    dsimp only [b_X9_doubtOf_5] at hf
    refine lv_iload hx hb dX9_doubtOf_5 (lv_at hl 4 rfl) ?_
    refine lv_aload_n hx hb dX9_doubtOf_7 rfl (lv_at hl 0 rfl) ?_
    refine g_getI F hG mo_0 (by decide) (by decide) lk_X9_291 rfl dX9_doubtOf_8 ?_
    refine lv_icmp_ge (tgt := 65) hx hb dX9_doubtOf_11 (by decide) (fun c1 => ?_) (fun c1 => ?_)
    · replace hf := if_t c1 hf
      refine lv_iload_n hx hb dX9_doubtOf_65 rfl (lv_at hl 3 rfl) ?_
      replace hf := mr_some hf
      obtain ⟨z5, hf, hz⟩ := hf
      rw [hE5 _ hz] at hf
      exact cg_iret F hr hlk hG hf dX9_doubtOf_66
    · replace hf := if_f c1 hf
      refine lv_iload_n hx hb dX9_doubtOf_14 rfl (lv_at hl 3 rfl) ?_
      refine lv_aload_n hx hb dX9_doubtOf_15 rfl (lv_at hl 0 rfl) ?_
      refine g_getR F hG 12 mo_0 (by decide) (by decide) lk_X9_63 rfl dX9_doubtOf_16 ?_
      refine lv_iload_n hx hb dX9_doubtOf_19 rfl (lv_at hl 1 rfl) ?_
      refine lv_bipush (v := 46) hx hb dX9_doubtOf_20 (by decide) ?_
      refine lv_iadd hx hb dX9_doubtOf_22 ?_
      refine lv_iload_n hx hb dX9_doubtOf_23 rfl (lv_at hl 2 rfl) ?_
      refine lv_iadd hx hb dX9_doubtOf_24 ?_
      replace hf := ck_some hf
      obtain ⟨k2, hf⟩ := hf
      refine g_iald F hG oM_12 k2 dX9_doubtOf_25 ?_
      refine lv_iload hx hb dX9_doubtOf_26 (lv_at hl 4 rfl) ?_
      refine lv_ishr hx hb dX9_doubtOf_28 ?_
      refine lv_iconst (v := 1) hx hb dX9_doubtOf_29 (by decide) ?_
      refine lv_iand hx hb dX9_doubtOf_30 ?_
      refine lv_iconst (v := 1) hx hb dX9_doubtOf_31 (by decide) ?_
      refine lv_icmp_ne (tgt := 56) hx hb dX9_doubtOf_32 (by decide) (fun c3 => ?_) (fun c3 => ?_)
      · replace hf := if_f c3 hf
        exact hJ56 _ _ _ _ _ ls hf hG (lv_sub hl [0, 1, 2, 4] rfl)
      · replace hf := if_t c3 hf
        refine lv_aload_n hx hb dX9_doubtOf_35 rfl (lv_at hl 0 rfl) ?_
        refine g_getR F hG 12 mo_0 (by decide) (by decide) lk_X9_63 rfl dX9_doubtOf_36 ?_
        refine lv_iload_n hx hb dX9_doubtOf_39 rfl (lv_at hl 1 rfl) ?_
        refine lv_bipush (v := 38) hx hb dX9_doubtOf_40 (by decide) ?_
        refine lv_iadd hx hb dX9_doubtOf_42 ?_
        refine lv_iload hx hb dX9_doubtOf_43 (lv_at hl 4 rfl) ?_
        refine lv_iadd hx hb dX9_doubtOf_45 ?_
        replace hf := ck_some hf
        obtain ⟨k4, hf⟩ := hf
        refine g_iald F hG oM_12 k4 dX9_doubtOf_46 ?_
        refine lv_bipush (v := 10) hx hb dX9_doubtOf_47 (by decide) ?_
        refine lv_icmp_ge (tgt := 56) hx hb dX9_doubtOf_49 (by decide) (fun c5 => ?_) (fun c5 => ?_)
        · replace hf := if_t c5 hf
          exact hJ56 _ _ _ _ _ ls hf hG (lv_sub hl [0, 1, 2, 4] rfl)
        · replace hf := if_f c5 hf
          refine lv_iconst (v := 1) hx hb dX9_doubtOf_52 (by decide) ?_
          refine lv_goto (tgt := 57) hx hb dX9_doubtOf_53 (by decide) ?_
          exact hJ57 _ _ _ _ _ _ ls hf hG (lv_sub hl [0, 1, 2, 4] rfl)
  unfold f_X9_doubtOf at hf
  refine lv_iconst (v := 0) hx hb dX9_doubtOf_0 (by decide) ?_
  refine lv_istore_n (lv' := [(3, .int (0 : Int32)), (0, .ref (w.2.2.1 0)), (1, .int x1), (2, .int x2)]) hx hb dX9_doubtOf_1 rfl hl (by decide) rfl (fun ls hl => ?_)
  refine lv_iconst (v := 0) hx hb dX9_doubtOf_2 (by decide) ?_
  refine lv_istore (lv' := [(4, .int (0 : Int32)), (3, .int (0 : Int32)), (0, .ref (w.2.2.1 0)), (1, .int x1), (2, .int x2)]) hx hb dX9_doubtOf_3 hl (by decide) rfl (fun ls hl => ?_)
  exact hJ5 _ _ _ _ _ _ _ ls hf hG (lv_sub hl [2, 3, 4, 1, 0] rfl)

def f_X9_tells (n : Nat) (x1 : Int32) (M : Mem) : Option (Mem) := ck (inb (x1 + (2 : Int32)) 108) (ck (inb (x1 + (3 : Int32)) 108) (ck (inb (x1 + (0 : Int32)) 108) (some (si (si (si M 15 (3 : Int32).toNatClampNeg (gi M 12 (x1 + (2 : Int32)).toNatClampNeg)) 15 (4 : Int32).toNatClampNeg (gi (si M 15 (3 : Int32).toNatClampNeg (gi M 12 (x1 + (2 : Int32)).toNatClampNeg)) 12 (x1 + (3 : Int32)).toNatClampNeg)) 15 (5 : Int32).toNatClampNeg (gi (si (si M 15 (3 : Int32).toNatClampNeg (gi M 12 (x1 + (2 : Int32)).toNatClampNeg)) 15 (4 : Int32).toNatClampNeg (gi (si M 15 (3 : Int32).toNatClampNeg (gi M 12 (x1 + (2 : Int32)).toNatClampNeg)) 12 (x1 + (3 : Int32)).toNatClampNeg)) 12 (x1 + (0 : Int32)).toNatClampNeg)))))
set_option maxHeartbeats 4000000 in
set_option maxRecDepth 100000 in
theorem c_X9_tells (l : Launch) (w : Wd) {X : (Nat → Prop) → State → Heap → Prop} (hXk : XOK X) (n : Nat) (x1 : Int32) (M : Mem) (res : Mem) (hf : f_X9_tells n  x1 M = some res) : CG l w layM 24 X yX9_tells cX9_tells 2 none 0 [.ref (w.2.2.1 0), .int x1] M (GQv w layM 24 res) := by
  refine cg_start (by decide +kernel) (Nat.le_of_ble_eq_true rfl) ?_
  intro p e s m args below meth c F hr hlk hX hG ls hl
  have F : FX w p m c cX9_tells 2 s args RX9 := F
  have hx := F.1.1
  have hb := F.1.2.1
  have hl : lv_has ls 2 [(0, .ref (w.2.2.1 0)), (1, .int x1)] := hl
  unfold f_X9_tells at hf
  refine lv_aload_n hx hb dX9_tells_0 rfl (lv_at hl 0 rfl) ?_
  refine g_getR F hG 15 mo_0 (by decide) (by decide) lk_X9_72 rfl dX9_tells_1 ?_
  refine lv_iconst (v := 3) hx hb dX9_tells_4 (by decide) ?_
  refine lv_aload_n hx hb dX9_tells_5 rfl (lv_at hl 0 rfl) ?_
  refine g_getR F hG 12 mo_0 (by decide) (by decide) lk_X9_63 rfl dX9_tells_6 ?_
  refine lv_iload_n hx hb dX9_tells_9 rfl (lv_at hl 1 rfl) ?_
  refine lv_iconst (v := 2) hx hb dX9_tells_10 (by decide) ?_
  refine lv_iadd hx hb dX9_tells_11 ?_
  replace hf := ck_some hf
  obtain ⟨k1, hf⟩ := hf
  refine g_iald F hG oM_12 k1 dX9_tells_12 ?_
  refine g_iast F hG oM_15 (by decide) dX9_tells_13 (fun H locs hG => ?_)
  refine lv_aload_n hx hb dX9_tells_14 rfl (lv_at hl 0 rfl) ?_
  refine g_getR F hG 15 mo_0 (by decide) (by decide) lk_X9_72 rfl dX9_tells_15 ?_
  refine lv_iconst (v := 4) hx hb dX9_tells_18 (by decide) ?_
  refine lv_aload_n hx hb dX9_tells_19 rfl (lv_at hl 0 rfl) ?_
  refine g_getR F hG 12 mo_0 (by decide) (by decide) lk_X9_63 rfl dX9_tells_20 ?_
  refine lv_iload_n hx hb dX9_tells_23 rfl (lv_at hl 1 rfl) ?_
  refine lv_iconst (v := 3) hx hb dX9_tells_24 (by decide) ?_
  refine lv_iadd hx hb dX9_tells_25 ?_
  replace hf := ck_some hf
  obtain ⟨k2, hf⟩ := hf
  refine g_iald F hG oM_12 k2 dX9_tells_26 ?_
  refine g_iast F hG oM_15 (by decide) dX9_tells_27 (fun H locs hG => ?_)
  refine lv_aload_n hx hb dX9_tells_28 rfl (lv_at hl 0 rfl) ?_
  refine g_getR F hG 15 mo_0 (by decide) (by decide) lk_X9_72 rfl dX9_tells_29 ?_
  refine lv_iconst (v := 5) hx hb dX9_tells_32 (by decide) ?_
  refine lv_aload_n hx hb dX9_tells_33 rfl (lv_at hl 0 rfl) ?_
  refine g_getR F hG 12 mo_0 (by decide) (by decide) lk_X9_63 rfl dX9_tells_34 ?_
  refine lv_iload_n hx hb dX9_tells_37 rfl (lv_at hl 1 rfl) ?_
  refine lv_iconst (v := 0) hx hb dX9_tells_38 (by decide) ?_
  refine lv_iadd hx hb dX9_tells_39 ?_
  replace hf := ck_some hf
  obtain ⟨k3, hf⟩ := hf
  refine g_iald F hG oM_12 k3 dX9_tells_40 ?_
  refine g_iast F hG oM_15 (by decide) dX9_tells_41 (fun H locs hG => ?_)
  exact cg_vret F hr hlk hG hf dX9_tells_42

def j_X9_leansBy_44 (n : Nat) (t0 : Int32) (x1 : Int32) (M : Mem) : Option (Int32 × Mem) := if (gi M 0 5) = (-1 : Int32) then (bd (f_X9_mortarOf n  x1 M) (fun q2 => some ((t0 - (q2.1 / (4 : Int32))), q2.2))) else (bd (f_X9_tells n  x1 M) (fun q3 => bd (f_X9_weightOf n  x1 (si q3 15 (0 : Int32).toNatClampNeg t0)) (fun q4 => bd (f_X9_mortarOf n  x1 (si q4.2 15 (1 : Int32).toNatClampNeg q4.1)) (fun q5 => bd (f_X9_reckons n  (gi (si q5.2 15 (2 : Int32).toNatClampNeg q5.1) 0 5) (si q5.2 15 (2 : Int32).toNatClampNeg q5.1)) (fun q6 => some (q6.1, q6.2))))))
def f_X9_leansBy (n : Nat) (x1 : Int32) (M : Mem) : Option (Int32 × Mem) := if (gi M 0 52) = (-1 : Int32) then (if (gi M 0 4) = 0 then (j_X9_leansBy_44 n  (2 : Int32) x1 M) else (ck (inb (x1 + (0 : Int32)) 108) (ck (¬ (gi M 0 4) = 0) (ck (inb ((gi M 12 (x1 + (0 : Int32)).toNatClampNeg) - (gi M 12 (x1 + (0 : Int32)).toNatClampNeg) / (gi M 0 4) * (gi M 0 4)) 8) (j_X9_leansBy_44 n  (gi M 1 ((gi M 12 (x1 + (0 : Int32)).toNatClampNeg) - (gi M 12 (x1 + (0 : Int32)).toNatClampNeg) / (gi M 0 4) * (gi M 0 4)).toNatClampNeg) x1 M))))) else (j_X9_leansBy_44 n  (gi M 0 52) x1 M)
set_option maxHeartbeats 4000000 in
set_option maxRecDepth 100000 in
theorem c_X9_leansBy (l : Launch) (w : Wd) {X : (Nat → Prop) → State → Heap → Prop} (hXk : XOK X) (n : Nat) (x1 : Int32) (M : Mem) (res : Int32 × Mem) (hf : f_X9_leansBy n  x1 M = some res) : CG l w layM 24 X yX9_leansBy cX9_leansBy 3 (some .int) 2 [.ref (w.2.2.1 0), .int x1] M (GQi w layM 24 res) := by
  refine cg_start (by decide +kernel) (Nat.le_of_ble_eq_true rfl) ?_
  intro p e s m args below meth c F hr hlk hX hG ls hl
  have F : FX w p m c cX9_leansBy 3 s args RX9 := F
  have hx := F.1.1
  have hb := F.1.2.1
  have hl : lv_has ls 3 [(0, .ref (w.2.2.1 0)), (1, .int x1)] := hl
  have hJ44 : ∀ (t0 : Int32) (x1 : Int32) (M : Mem) (H : Heap) (locs : List Loc) (ls : Array Slot), j_X9_leansBy_44 n  t0 x1 M = some res → GI w layM 24 s.heap M H locs → lv_has ls 3 [(0, .ref (w.2.2.1 0)), (1, .int x1)] → W p l e (Rm 2) s m args below meth c H locs 0 0 (MQ below (GQi w layM 24 res s.heap.size) args s 0 0 (gA w.2.2.1 24 s.heap.size)) (F0 m 44 ls [.int t0]) := by
    intro t0 x1 M H locs ls hf hG hl
    unfold j_X9_leansBy_44 at hf
    refine lv_istore_n (lv' := [(2, .int t0), (0, .ref (w.2.2.1 0)), (1, .int x1)]) hx hb dX9_leansBy_44 rfl hl (by decide) rfl (fun ls hl => ?_)
    refine lv_aload_n hx hb dX9_leansBy_45 rfl (lv_at hl 1 rfl) ?_
    refine g_getI F hG mo_0 (by decide) (by decide) lk_X9_16 rfl dX9_leansBy_46 ?_
    refine lv_iconst (v := -1) hx hb dX9_leansBy_49 (by decide) ?_
    refine lv_icmp_ne (tgt := 63) hx hb dX9_leansBy_50 (by decide) (fun c1 => ?_) (fun c1 => ?_)
    · replace hf := if_f c1 hf
      refine lv_aload_n hx hb dX9_leansBy_63 rfl (lv_at hl 1 rfl) ?_
      refine lv_iload_n hx hb dX9_leansBy_64 rfl (lv_at hl 2 rfl) ?_
      replace hf := bd_some hf
      obtain ⟨q3, eq3, hf⟩ := hf
      refine gx_callv hG (gx_runV hXk F hX hG (c_X9_tells l w hXk n  x1 _ _ eq3) cv_X9_324 ⟨Nat.le_of_ble_eq_true rfl, Nat.le_of_ble_eq_true rfl⟩ (g_recv F hG mo_0 (by decide) rfl) rfl hl.1 rfl (Nat.le_of_ble_eq_true rfl) dX9_leansBy_65 ⟨Nat.le_refl _, Nat.le_refl _⟩) (fun H locs hG => ?_)
      refine lv_aload_n hx hb dX9_leansBy_68 rfl (lv_at hl 1 rfl) ?_
      refine g_getR F hG 15 mo_0 (by decide) (by decide) lk_X9_72 rfl dX9_leansBy_69 ?_
      refine lv_iconst (v := 0) hx hb dX9_leansBy_72 (by decide) ?_
      refine lv_iload_n hx hb dX9_leansBy_73 rfl (lv_at hl 0 rfl) ?_
      refine g_iast F hG oM_15 (by decide) dX9_leansBy_74 (fun H locs hG => ?_)
      refine lv_aload_n hx hb dX9_leansBy_75 rfl (lv_at hl 1 rfl) ?_
      refine g_getR F hG 15 mo_0 (by decide) (by decide) lk_X9_72 rfl dX9_leansBy_76 ?_
      refine lv_iconst (v := 1) hx hb dX9_leansBy_79 (by decide) ?_
      refine lv_aload_n hx hb dX9_leansBy_80 rfl (lv_at hl 1 rfl) ?_
      refine lv_iload_n hx hb dX9_leansBy_81 rfl (lv_at hl 2 rfl) ?_
      replace hf := bd_some hf
      obtain ⟨q4, eq4, hf⟩ := hf
      refine gx_calli hG (gx_runV hXk F hX hG (c_X9_weightOf l w hXk n  x1 _ _ eq4) cv_X9_327 ⟨Nat.le_of_ble_eq_true rfl, Nat.le_of_ble_eq_true rfl⟩ (g_recv F hG mo_0 (by decide) rfl) rfl hl.1 rfl (Nat.le_of_ble_eq_true rfl) dX9_leansBy_82 ⟨Nat.le_refl _, Nat.le_refl _⟩) (fun H locs hG => ?_)
      refine g_iast F hG oM_15 (by decide) dX9_leansBy_85 (fun H locs hG => ?_)
      refine lv_aload_n hx hb dX9_leansBy_86 rfl (lv_at hl 1 rfl) ?_
      refine g_getR F hG 15 mo_0 (by decide) (by decide) lk_X9_72 rfl dX9_leansBy_87 ?_
      refine lv_iconst (v := 2) hx hb dX9_leansBy_90 (by decide) ?_
      refine lv_aload_n hx hb dX9_leansBy_91 rfl (lv_at hl 1 rfl) ?_
      refine lv_iload_n hx hb dX9_leansBy_92 rfl (lv_at hl 2 rfl) ?_
      replace hf := bd_some hf
      obtain ⟨q5, eq5, hf⟩ := hf
      refine gx_calli hG (gx_runV hXk F hX hG (c_X9_mortarOf l w hXk n  x1 _ _ eq5) cv_X9_321 ⟨Nat.le_of_ble_eq_true rfl, Nat.le_of_ble_eq_true rfl⟩ (g_recv F hG mo_0 (by decide) rfl) rfl hl.1 rfl (Nat.le_of_ble_eq_true rfl) dX9_leansBy_93 ⟨Nat.le_refl _, Nat.le_refl _⟩) (fun H locs hG => ?_)
      refine g_iast F hG oM_15 (by decide) dX9_leansBy_96 (fun H locs hG => ?_)
      refine lv_aload_n hx hb dX9_leansBy_97 rfl (lv_at hl 1 rfl) ?_
      refine lv_aload_n hx hb dX9_leansBy_98 rfl (lv_at hl 1 rfl) ?_
      refine g_getI F hG mo_0 (by decide) (by decide) lk_X9_16 rfl dX9_leansBy_99 ?_
      replace hf := bd_some hf
      obtain ⟨q6, eq6, hf⟩ := hf
      refine gx_calli hG (gx_runV hXk F hX hG (c_X9_reckons l w hXk n  (gi (si q5.2 15 (2 : Int32).toNatClampNeg q5.1) 0 5) _ _ eq6) cv_X9_330 ⟨Nat.le_of_ble_eq_true rfl, Nat.le_of_ble_eq_true rfl⟩ (g_recv F hG mo_0 (by decide) rfl) rfl hl.1 rfl (Nat.le_of_ble_eq_true rfl) dX9_leansBy_102 ⟨Nat.le_refl _, Nat.le_refl _⟩) (fun H locs hG => ?_)
      exact cg_iret F hr hlk hG hf dX9_leansBy_105
    · replace hf := if_t c1 hf
      refine lv_iload_n hx hb dX9_leansBy_53 rfl (lv_at hl 0 rfl) ?_
      refine lv_aload_n hx hb dX9_leansBy_54 rfl (lv_at hl 1 rfl) ?_
      refine lv_iload_n hx hb dX9_leansBy_55 rfl (lv_at hl 2 rfl) ?_
      replace hf := bd_some hf
      obtain ⟨q2, eq2, hf⟩ := hf
      refine gx_calli hG (gx_runV hXk F hX hG (c_X9_mortarOf l w hXk n  x1 _ _ eq2) cv_X9_321 ⟨Nat.le_of_ble_eq_true rfl, Nat.le_of_ble_eq_true rfl⟩ (g_recv F hG mo_0 (by decide) rfl) rfl hl.1 rfl (Nat.le_of_ble_eq_true rfl) dX9_leansBy_56 ⟨Nat.le_refl _, Nat.le_refl _⟩) (fun H locs hG => ?_)
      refine lv_iconst (v := 4) hx hb dX9_leansBy_59 (by decide) ?_
      refine lv_idiv hx hb dX9_leansBy_60 (by decide) ?_
      refine lv_isub hx hb dX9_leansBy_61 ?_
      exact cg_iret F hr hlk hG hf dX9_leansBy_62
  unfold f_X9_leansBy at hf
  refine lv_aload_n hx hb dX9_leansBy_0 rfl (lv_at hl 0 rfl) ?_
  refine g_getI F hG mo_0 (by decide) (by decide) lk_X9_78 rfl dX9_leansBy_1 ?_
  refine lv_iconst (v := -1) hx hb dX9_leansBy_4 (by decide) ?_
  refine lv_icmp_eq (tgt := 15) hx hb dX9_leansBy_5 (by decide) (fun c7 => ?_) (fun c7 => ?_)
  · replace hf := if_t c7 hf
    refine lv_aload_n hx hb dX9_leansBy_15 rfl (lv_at hl 0 rfl) ?_
    refine g_getI F hG mo_0 (by decide) (by decide) lk_X9_294 rfl dX9_leansBy_16 ?_
    refine lv_if_ne (tgt := 26) hx hb dX9_leansBy_19 (by decide) (fun c8 => ?_) (fun c8 => ?_)
    · replace hf := if_f c8 hf
      refine lv_aload_n hx hb dX9_leansBy_26 rfl (lv_at hl 0 rfl) ?_
      refine g_getR F hG 1 mo_0 (by decide) (by decide) lk_X9_25 rfl dX9_leansBy_27 ?_
      refine lv_aload_n hx hb dX9_leansBy_30 rfl (lv_at hl 0 rfl) ?_
      refine g_getR F hG 12 mo_0 (by decide) (by decide) lk_X9_63 rfl dX9_leansBy_31 ?_
      refine lv_iload_n hx hb dX9_leansBy_34 rfl (lv_at hl 1 rfl) ?_
      refine lv_iconst (v := 0) hx hb dX9_leansBy_35 (by decide) ?_
      refine lv_iadd hx hb dX9_leansBy_36 ?_
      replace hf := ck_some hf
      obtain ⟨k9, hf⟩ := hf
      refine g_iald F hG oM_12 k9 dX9_leansBy_37 ?_
      refine lv_aload_n hx hb dX9_leansBy_38 rfl (lv_at hl 0 rfl) ?_
      refine g_getI F hG mo_0 (by decide) (by decide) lk_X9_294 rfl dX9_leansBy_39 ?_
      replace hf := ck_some hf
      obtain ⟨k10, hf⟩ := hf
      refine lv_irem hx hb dX9_leansBy_42 k10 ?_
      replace hf := ck_some hf
      obtain ⟨k11, hf⟩ := hf
      refine g_iald F hG oM_1 k11 dX9_leansBy_43 ?_
      exact hJ44 _ _ _ _ _ ls hf hG (lv_sub hl [0, 1] rfl)
    · replace hf := if_t c8 hf
      refine lv_iconst (v := 2) hx hb dX9_leansBy_22 (by decide) ?_
      refine lv_goto (tgt := 44) hx hb dX9_leansBy_23 (by decide) ?_
      exact hJ44 _ _ _ _ _ ls hf hG (lv_sub hl [0, 1] rfl)
  · replace hf := if_f c7 hf
    refine lv_aload_n hx hb dX9_leansBy_8 rfl (lv_at hl 0 rfl) ?_
    refine g_getI F hG mo_0 (by decide) (by decide) lk_X9_78 rfl dX9_leansBy_9 ?_
    refine lv_goto (tgt := 44) hx hb dX9_leansBy_12 (by decide) ?_
    exact hJ44 _ _ _ _ _ ls hf hG (lv_sub hl [0, 1] rfl)

def f_X9_tellsWard (n : Nat) (x1 : Int32) (x2 : Int32) (x3 : Int32) (M : Mem) : Option (Mem) := bd (f_X9_tells n  x1 M) (fun q1 => ck (inb ((x1 + (38 : Int32)) + x2) 108) (bd (f_X9_doubtOf n  x1 x2 (si q1 15 (6 : Int32).toNatClampNeg (gi q1 12 ((x1 + (38 : Int32)) + x2).toNatClampNeg))) (fun q3 => some (si (si q3.2 15 (7 : Int32).toNatClampNeg q3.1) 15 (8 : Int32).toNatClampNeg x3))))
set_option maxHeartbeats 4000000 in
set_option maxRecDepth 100000 in
theorem c_X9_tellsWard (l : Launch) (w : Wd) {X : (Nat → Prop) → State → Heap → Prop} (hXk : XOK X) (n : Nat) (x1 : Int32) (x2 : Int32) (x3 : Int32) (M : Mem) (res : Mem) (hf : f_X9_tellsWard n  x1 x2 x3 M = some res) : CG l w layM 24 X yX9_tellsWard cX9_tellsWard 4 none 1 [.ref (w.2.2.1 0), .int x1, .int x2, .int x3] M (GQv w layM 24 res) := by
  refine cg_start (by decide +kernel) (Nat.le_of_ble_eq_true rfl) ?_
  intro p e s m args below meth c F hr hlk hX hG ls hl
  have F : FX w p m c cX9_tellsWard 4 s args RX9 := F
  have hx := F.1.1
  have hb := F.1.2.1
  have hl : lv_has ls 4 [(0, .ref (w.2.2.1 0)), (1, .int x1), (2, .int x2), (3, .int x3)] := hl
  unfold f_X9_tellsWard at hf
  refine lv_aload_n hx hb dX9_tellsWard_0 rfl (lv_at hl 0 rfl) ?_
  refine lv_iload_n hx hb dX9_tellsWard_1 rfl (lv_at hl 1 rfl) ?_
  replace hf := bd_some hf
  obtain ⟨q1, eq1, hf⟩ := hf
  refine gx_callv hG (gx_runV hXk F hX hG (c_X9_tells l w hXk n  x1 _ _ eq1) cv_X9_324 ⟨Nat.le_of_ble_eq_true rfl, Nat.le_of_ble_eq_true rfl⟩ (g_recv F hG mo_0 (by decide) rfl) rfl hl.1 rfl (Nat.le_of_ble_eq_true rfl) dX9_tellsWard_2 ⟨Nat.le_refl _, Nat.le_refl _⟩) (fun H locs hG => ?_)
  refine lv_aload_n hx hb dX9_tellsWard_5 rfl (lv_at hl 0 rfl) ?_
  refine g_getR F hG 15 mo_0 (by decide) (by decide) lk_X9_72 rfl dX9_tellsWard_6 ?_
  refine lv_bipush (v := 6) hx hb dX9_tellsWard_9 (by decide) ?_
  refine lv_aload_n hx hb dX9_tellsWard_11 rfl (lv_at hl 0 rfl) ?_
  refine g_getR F hG 12 mo_0 (by decide) (by decide) lk_X9_63 rfl dX9_tellsWard_12 ?_
  refine lv_iload_n hx hb dX9_tellsWard_15 rfl (lv_at hl 1 rfl) ?_
  refine lv_bipush (v := 38) hx hb dX9_tellsWard_16 (by decide) ?_
  refine lv_iadd hx hb dX9_tellsWard_18 ?_
  refine lv_iload_n hx hb dX9_tellsWard_19 rfl (lv_at hl 2 rfl) ?_
  refine lv_iadd hx hb dX9_tellsWard_20 ?_
  replace hf := ck_some hf
  obtain ⟨k2, hf⟩ := hf
  refine g_iald F hG oM_12 k2 dX9_tellsWard_21 ?_
  refine g_iast F hG oM_15 (by decide) dX9_tellsWard_22 (fun H locs hG => ?_)
  refine lv_aload_n hx hb dX9_tellsWard_23 rfl (lv_at hl 0 rfl) ?_
  refine g_getR F hG 15 mo_0 (by decide) (by decide) lk_X9_72 rfl dX9_tellsWard_24 ?_
  refine lv_bipush (v := 7) hx hb dX9_tellsWard_27 (by decide) ?_
  refine lv_aload_n hx hb dX9_tellsWard_29 rfl (lv_at hl 0 rfl) ?_
  refine lv_iload_n hx hb dX9_tellsWard_30 rfl (lv_at hl 1 rfl) ?_
  refine lv_iload_n hx hb dX9_tellsWard_31 rfl (lv_at hl 2 rfl) ?_
  replace hf := bd_some hf
  obtain ⟨q3, eq3, hf⟩ := hf
  refine gx_calli hG (gx_runV hXk F hX hG (c_X9_doubtOf l w hXk n  x1 x2 _ _ eq3) cv_X9_333 ⟨Nat.le_of_ble_eq_true rfl, Nat.le_of_ble_eq_true rfl⟩ (g_recv F hG mo_0 (by decide) rfl) rfl hl.1 rfl (Nat.le_of_ble_eq_true rfl) dX9_tellsWard_32 ⟨Nat.le_refl _, Nat.le_refl _⟩) (fun H locs hG => ?_)
  refine g_iast F hG oM_15 (by decide) dX9_tellsWard_35 (fun H locs hG => ?_)
  refine lv_aload_n hx hb dX9_tellsWard_36 rfl (lv_at hl 0 rfl) ?_
  refine g_getR F hG 15 mo_0 (by decide) (by decide) lk_X9_72 rfl dX9_tellsWard_37 ?_
  refine lv_bipush (v := 8) hx hb dX9_tellsWard_40 (by decide) ?_
  refine lv_iload_n hx hb dX9_tellsWard_42 rfl (lv_at hl 3 rfl) ?_
  refine g_iast F hG oM_15 (by decide) dX9_tellsWard_43 (fun H locs hG => ?_)
  exact cg_vret F hr hlk hG hf dX9_tellsWard_44

def f_X9_givesBy (n : Nat) (x1 : Int32) (x2 : Int32) (M : Mem) : Option (Int32 × Mem) := if (gi M 0 6) = (-1 : Int32) then (ck (inb ((x1 + (38 : Int32)) + x2) 108) (some (((gi M 12 ((x1 + (38 : Int32)) + x2).toNatClampNeg) / (20 : Int32)), M))) else (ck (inb (x1 + (5 : Int32)) 108) (bd (f_X9_tellsWard n  x1 x2 (gi M 12 (x1 + (5 : Int32)).toNatClampNeg) M) (fun q4 => bd (f_X9_reckons n  (gi q4 0 6) q4) (fun q5 => bd (f_X9_bounded n  q5.1 (0 : Int32) (20 : Int32) q5.2) (fun q6 => some (q6.1, q6.2))))))
set_option maxHeartbeats 4000000 in
set_option maxRecDepth 100000 in
theorem c_X9_givesBy (l : Launch) (w : Wd) {X : (Nat → Prop) → State → Heap → Prop} (hXk : XOK X) (n : Nat) (x1 : Int32) (x2 : Int32) (M : Mem) (res : Int32 × Mem) (hf : f_X9_givesBy n  x1 x2 M = some res) : CG l w layM 24 X yX9_givesBy cX9_givesBy 3 (some .int) 2 [.ref (w.2.2.1 0), .int x1, .int x2] M (GQi w layM 24 res) := by
  refine cg_start (by decide +kernel) (Nat.le_of_ble_eq_true rfl) ?_
  intro p e s m args below meth c F hr hlk hX hG ls hl
  have F : FX w p m c cX9_givesBy 3 s args RX9 := F
  have hx := F.1.1
  have hb := F.1.2.1
  have hl : lv_has ls 3 [(0, .ref (w.2.2.1 0)), (1, .int x1), (2, .int x2)] := hl
  unfold f_X9_givesBy at hf
  refine lv_aload_n hx hb dX9_givesBy_0 rfl (lv_at hl 0 rfl) ?_
  refine g_getI F hG mo_0 (by decide) (by decide) lk_X9_19 rfl dX9_givesBy_1 ?_
  refine lv_iconst (v := -1) hx hb dX9_givesBy_4 (by decide) ?_
  refine lv_icmp_ne (tgt := 23) hx hb dX9_givesBy_5 (by decide) (fun c1 => ?_) (fun c1 => ?_)
  · replace hf := if_f c1 hf
    refine lv_aload_n hx hb dX9_givesBy_23 rfl (lv_at hl 0 rfl) ?_
    refine lv_iload_n hx hb dX9_givesBy_24 rfl (lv_at hl 1 rfl) ?_
    refine lv_iload_n hx hb dX9_givesBy_25 rfl (lv_at hl 2 rfl) ?_
    refine lv_aload_n hx hb dX9_givesBy_26 rfl (lv_at hl 0 rfl) ?_
    refine g_getR F hG 12 mo_0 (by decide) (by decide) lk_X9_63 rfl dX9_givesBy_27 ?_
    refine lv_iload_n hx hb dX9_givesBy_30 rfl (lv_at hl 1 rfl) ?_
    refine lv_iconst (v := 5) hx hb dX9_givesBy_31 (by decide) ?_
    refine lv_iadd hx hb dX9_givesBy_32 ?_
    replace hf := ck_some hf
    obtain ⟨k3, hf⟩ := hf
    refine g_iald F hG oM_12 k3 dX9_givesBy_33 ?_
    replace hf := bd_some hf
    obtain ⟨q4, eq4, hf⟩ := hf
    refine gx_callv hG (gx_runV hXk F hX hG (c_X9_tellsWard l w hXk n  x1 x2 (gi M 12 (x1 + (5 : Int32)).toNatClampNeg) _ _ eq4) cv_X9_336 ⟨Nat.le_of_ble_eq_true rfl, Nat.le_of_ble_eq_true rfl⟩ (g_recv F hG mo_0 (by decide) rfl) rfl hl.1 rfl (Nat.le_of_ble_eq_true rfl) dX9_givesBy_34 ⟨Nat.le_refl _, Nat.le_refl _⟩) (fun H locs hG => ?_)
    refine lv_aload_n hx hb dX9_givesBy_37 rfl (lv_at hl 0 rfl) ?_
    refine lv_aload_n hx hb dX9_givesBy_38 rfl (lv_at hl 0 rfl) ?_
    refine g_getI F hG mo_0 (by decide) (by decide) lk_X9_19 rfl dX9_givesBy_39 ?_
    replace hf := bd_some hf
    obtain ⟨q5, eq5, hf⟩ := hf
    refine gx_calli hG (gx_runV hXk F hX hG (c_X9_reckons l w hXk n  (gi q4 0 6) _ _ eq5) cv_X9_330 ⟨Nat.le_of_ble_eq_true rfl, Nat.le_of_ble_eq_true rfl⟩ (g_recv F hG mo_0 (by decide) rfl) rfl hl.1 rfl (Nat.le_of_ble_eq_true rfl) dX9_givesBy_42 ⟨Nat.le_refl _, Nat.le_refl _⟩) (fun H locs hG => ?_)
    refine lv_iconst (v := 0) hx hb dX9_givesBy_45 (by decide) ?_
    refine lv_bipush (v := 20) hx hb dX9_givesBy_46 (by decide) ?_
    replace hf := bd_some hf
    obtain ⟨q6, eq6, hf⟩ := hf
    refine gx_calli hG (gx_runS hXk F hX hG (c_X9_bounded l w hXk n  q5.1 (0 : Int32) (20 : Int32) _ _ eq6) cs_X9_340 ⟨Nat.le_of_ble_eq_true rfl, Nat.le_of_ble_eq_true rfl⟩ rfl hl.1 rfl (Nat.le_of_ble_eq_true rfl) dX9_givesBy_48 ⟨Nat.le_refl _, Nat.le_refl _⟩) (fun H locs hG => ?_)
    exact cg_iret F hr hlk hG hf dX9_givesBy_51
  · replace hf := if_t c1 hf
    refine lv_aload_n hx hb dX9_givesBy_8 rfl (lv_at hl 0 rfl) ?_
    refine g_getR F hG 12 mo_0 (by decide) (by decide) lk_X9_63 rfl dX9_givesBy_9 ?_
    refine lv_iload_n hx hb dX9_givesBy_12 rfl (lv_at hl 1 rfl) ?_
    refine lv_bipush (v := 38) hx hb dX9_givesBy_13 (by decide) ?_
    refine lv_iadd hx hb dX9_givesBy_15 ?_
    refine lv_iload_n hx hb dX9_givesBy_16 rfl (lv_at hl 2 rfl) ?_
    refine lv_iadd hx hb dX9_givesBy_17 ?_
    replace hf := ck_some hf
    obtain ⟨k2, hf⟩ := hf
    refine g_iald F hG oM_12 k2 dX9_givesBy_18 ?_
    refine lv_bipush (v := 20) hx hb dX9_givesBy_19 (by decide) ?_
    refine lv_idiv hx hb dX9_givesBy_21 (by decide) ?_
    exact cg_iret F hr hlk hG hf dX9_givesBy_22

def f_X9_believesBy (n : Nat) (x1 : Int32) (x2 : Int32) (x3 : Int32) (M : Mem) : Option (Int32 × Mem) := if (gi M 0 7) = (-1 : Int32) then (bd (f_X9_doubtOf n  x1 x2 M) (fun q2 => some ((((1 : Int32) - q2.1) - ((3 : Int32) * x3)), q2.2))) else (bd (f_X9_tellsWard n  x1 x2 x3 M) (fun q3 => bd (f_X9_reckons n  (gi q3 0 7) q3) (fun q4 => some (q4.1, q4.2))))
set_option maxHeartbeats 4000000 in
set_option maxRecDepth 100000 in
theorem c_X9_believesBy (l : Launch) (w : Wd) {X : (Nat → Prop) → State → Heap → Prop} (hXk : XOK X) (n : Nat) (x1 : Int32) (x2 : Int32) (x3 : Int32) (M : Mem) (res : Int32 × Mem) (hf : f_X9_believesBy n  x1 x2 x3 M = some res) : CG l w layM 24 X yX9_believesBy cX9_believesBy 4 (some .int) 2 [.ref (w.2.2.1 0), .int x1, .int x2, .int x3] M (GQi w layM 24 res) := by
  refine cg_start (by decide +kernel) (Nat.le_of_ble_eq_true rfl) ?_
  intro p e s m args below meth c F hr hlk hX hG ls hl
  have F : FX w p m c cX9_believesBy 4 s args RX9 := F
  have hx := F.1.1
  have hb := F.1.2.1
  have hl : lv_has ls 4 [(0, .ref (w.2.2.1 0)), (1, .int x1), (2, .int x2), (3, .int x3)] := hl
  unfold f_X9_believesBy at hf
  refine lv_aload_n hx hb dX9_believesBy_0 rfl (lv_at hl 0 rfl) ?_
  refine g_getI F hG mo_0 (by decide) (by decide) lk_X9_22 rfl dX9_believesBy_1 ?_
  refine lv_iconst (v := -1) hx hb dX9_believesBy_4 (by decide) ?_
  refine lv_icmp_ne (tgt := 21) hx hb dX9_believesBy_5 (by decide) (fun c1 => ?_) (fun c1 => ?_)
  · replace hf := if_f c1 hf
    refine lv_aload_n hx hb dX9_believesBy_21 rfl (lv_at hl 0 rfl) ?_
    refine lv_iload_n hx hb dX9_believesBy_22 rfl (lv_at hl 1 rfl) ?_
    refine lv_iload_n hx hb dX9_believesBy_23 rfl (lv_at hl 2 rfl) ?_
    refine lv_iload_n hx hb dX9_believesBy_24 rfl (lv_at hl 3 rfl) ?_
    replace hf := bd_some hf
    obtain ⟨q3, eq3, hf⟩ := hf
    refine gx_callv hG (gx_runV hXk F hX hG (c_X9_tellsWard l w hXk n  x1 x2 x3 _ _ eq3) cv_X9_336 ⟨Nat.le_of_ble_eq_true rfl, Nat.le_of_ble_eq_true rfl⟩ (g_recv F hG mo_0 (by decide) rfl) rfl hl.1 rfl (Nat.le_of_ble_eq_true rfl) dX9_believesBy_25 ⟨Nat.le_refl _, Nat.le_refl _⟩) (fun H locs hG => ?_)
    refine lv_aload_n hx hb dX9_believesBy_28 rfl (lv_at hl 0 rfl) ?_
    refine lv_aload_n hx hb dX9_believesBy_29 rfl (lv_at hl 0 rfl) ?_
    refine g_getI F hG mo_0 (by decide) (by decide) lk_X9_22 rfl dX9_believesBy_30 ?_
    replace hf := bd_some hf
    obtain ⟨q4, eq4, hf⟩ := hf
    refine gx_calli hG (gx_runV hXk F hX hG (c_X9_reckons l w hXk n  (gi q3 0 7) _ _ eq4) cv_X9_330 ⟨Nat.le_of_ble_eq_true rfl, Nat.le_of_ble_eq_true rfl⟩ (g_recv F hG mo_0 (by decide) rfl) rfl hl.1 rfl (Nat.le_of_ble_eq_true rfl) dX9_believesBy_33 ⟨Nat.le_refl _, Nat.le_refl _⟩) (fun H locs hG => ?_)
    exact cg_iret F hr hlk hG hf dX9_believesBy_36
  · replace hf := if_t c1 hf
    refine lv_iconst (v := 1) hx hb dX9_believesBy_8 (by decide) ?_
    refine lv_aload_n hx hb dX9_believesBy_9 rfl (lv_at hl 0 rfl) ?_
    refine lv_iload_n hx hb dX9_believesBy_10 rfl (lv_at hl 1 rfl) ?_
    refine lv_iload_n hx hb dX9_believesBy_11 rfl (lv_at hl 2 rfl) ?_
    replace hf := bd_some hf
    obtain ⟨q2, eq2, hf⟩ := hf
    refine gx_calli hG (gx_runV hXk F hX hG (c_X9_doubtOf l w hXk n  x1 x2 _ _ eq2) cv_X9_333 ⟨Nat.le_of_ble_eq_true rfl, Nat.le_of_ble_eq_true rfl⟩ (g_recv F hG mo_0 (by decide) rfl) rfl hl.1 rfl (Nat.le_of_ble_eq_true rfl) dX9_believesBy_12 ⟨Nat.le_refl _, Nat.le_refl _⟩) (fun H locs hG => ?_)
    refine lv_isub hx hb dX9_believesBy_15 ?_
    refine lv_iconst (v := 3) hx hb dX9_believesBy_16 (by decide) ?_
    refine lv_iload_n hx hb dX9_believesBy_17 rfl (lv_at hl 3 rfl) ?_
    refine lv_imul hx hb dX9_believesBy_18 ?_
    refine lv_isub hx hb dX9_believesBy_19 ?_
    exact cg_iret F hr hlk hG hf dX9_believesBy_20

def j_X9_lowestFalls_81 (n : Nat) (x1 : Int32) (M : Mem) : Option (Mem) := ck (inb (x1 + (3 : Int32)) 108) (ck (inb (x1 + (3 : Int32)) 108) (ck (inb (x1 + (4 : Int32)) 108) (ck (inb (x1 + (4 : Int32)) 108) (some (si (si M 12 (x1 + (3 : Int32)).toNatClampNeg ((gi M 12 (x1 + (3 : Int32)).toNatClampNeg) - (1 : Int32))) 12 (x1 + (4 : Int32)).toNatClampNeg ((gi (si M 12 (x1 + (3 : Int32)).toNatClampNeg ((gi M 12 (x1 + (3 : Int32)).toNatClampNeg) - (1 : Int32))) 12 (x1 + (4 : Int32)).toNatClampNeg) - (1 : Int32)))))))
def b_X9_lowestFalls_13 (n : Nat) (x1 : Int32) (q : (Int32 × Mem)) : Option ((Int32 × Mem) ⊕ (Mem)) := match q with
  | (x3, M) => ck (inb (x1 + (4 : Int32)) 108) (if (gi M 12 (x1 + (4 : Int32)).toNatClampNeg) ≤ (x3 + (1 : Int32)) then (mr (j_X9_lowestFalls_81 n  x1 M)) else (ck (inb (((x1 + (6 : Int32)) + x3) + (1 : Int32)) 108) (ck (inb ((x1 + (6 : Int32)) + x3) 108) (ck (inb (((x1 + (22 : Int32)) + x3) + (1 : Int32)) 108) (ck (inb ((x1 + (22 : Int32)) + x3) 108) (some (.inl ((x3 + (1 : Int32)), si (si M 12 ((x1 + (6 : Int32)) + x3).toNatClampNeg (gi M 12 (((x1 + (6 : Int32)) + x3) + (1 : Int32)).toNatClampNeg)) 12 ((x1 + (22 : Int32)) + x3).toNatClampNeg (gi (si M 12 ((x1 + (6 : Int32)) + x3).toNatClampNeg (gi M 12 (((x1 + (6 : Int32)) + x3) + (1 : Int32)).toNatClampNeg)) 12 (((x1 + (22 : Int32)) + x3) + (1 : Int32)).toNatClampNeg)))))))))
def f_X9_lowestFalls (n : Nat) (x1 : Int32) (M : Mem) : Option (Mem) := ck (inb (x1 + (3 : Int32)) 108) (gl (b_X9_lowestFalls_13 n  x1) n (((gi M 12 (x1 + (3 : Int32)).toNatClampNeg) - (1 : Int32)), M))
set_option maxHeartbeats 4000000 in
set_option maxRecDepth 100000 in
theorem c_X9_lowestFalls (l : Launch) (w : Wd) {X : (Nat → Prop) → State → Heap → Prop} (hXk : XOK X) (n : Nat) (x1 : Int32) (M : Mem) (res : Mem) (hf : f_X9_lowestFalls n  x1 M = some res) : CG l w layM 24 X yX9_lowestFalls cX9_lowestFalls 4 none 0 [.ref (w.2.2.1 0), .int x1] M (GQv w layM 24 res) := by
  refine cg_start (by decide +kernel) (Nat.le_of_ble_eq_true rfl) ?_
  intro p e s m args below meth c F hr hlk hX hG ls hl
  have F : FX w p m c cX9_lowestFalls 4 s args RX9 := F
  have hx := F.1.1
  have hb := F.1.2.1
  have hl : lv_has ls 4 [(0, .ref (w.2.2.1 0)), (1, .int x1)] := hl
  have hJ81 : ∀ (x1 : Int32) (M : Mem) (H : Heap) (locs : List Loc) (ls : Array Slot), j_X9_lowestFalls_81 n  x1 M = some res → GI w layM 24 s.heap M H locs → lv_has ls 4 [(0, .ref (w.2.2.1 0)), (1, .int x1)] → W p l e (Rm 0) s m args below meth c H locs 0 0 (MQ below (GQv w layM 24 res s.heap.size) args s 0 0 (gA w.2.2.1 24 s.heap.size)) (F0 m 81 ls []) := by
    intro x1 M H locs ls hf hG hl
    unfold j_X9_lowestFalls_81 at hf
    refine lv_aload_n hx hb dX9_lowestFalls_81 rfl (lv_at hl 0 rfl) ?_
    refine g_getR F hG 12 mo_0 (by decide) (by decide) lk_X9_63 rfl dX9_lowestFalls_82 ?_
    refine lv_iload_n hx hb dX9_lowestFalls_85 rfl (lv_at hl 1 rfl) ?_
    refine lv_iconst (v := 3) hx hb dX9_lowestFalls_86 (by decide) ?_
    refine lv_iadd hx hb dX9_lowestFalls_87 ?_
    refine lv_dup2_11 hx hb dX9_lowestFalls_88 rfl rfl ?_
    replace hf := ck_some hf
    obtain ⟨k1, hf⟩ := hf
    refine g_iald F hG oM_12 k1 dX9_lowestFalls_89 ?_
    refine lv_iconst (v := 1) hx hb dX9_lowestFalls_90 (by decide) ?_
    refine lv_isub hx hb dX9_lowestFalls_91 ?_
    replace hf := ck_some hf
    obtain ⟨k2, hf⟩ := hf
    refine g_iast F hG oM_12 k2 dX9_lowestFalls_92 (fun H locs hG => ?_)
    refine lv_aload_n hx hb dX9_lowestFalls_93 rfl (lv_at hl 0 rfl) ?_
    refine g_getR F hG 12 mo_0 (by decide) (by decide) lk_X9_63 rfl dX9_lowestFalls_94 ?_
    refine lv_iload_n hx hb dX9_lowestFalls_97 rfl (lv_at hl 1 rfl) ?_
    refine lv_iconst (v := 4) hx hb dX9_lowestFalls_98 (by decide) ?_
    refine lv_iadd hx hb dX9_lowestFalls_99 ?_
    refine lv_dup2_11 hx hb dX9_lowestFalls_100 rfl rfl ?_
    replace hf := ck_some hf
    obtain ⟨k3, hf⟩ := hf
    refine g_iald F hG oM_12 k3 dX9_lowestFalls_101 ?_
    refine lv_iconst (v := 1) hx hb dX9_lowestFalls_102 (by decide) ?_
    refine lv_isub hx hb dX9_lowestFalls_103 ?_
    replace hf := ck_some hf
    obtain ⟨k4, hf⟩ := hf
    refine g_iast F hG oM_12 k4 dX9_lowestFalls_104 (fun H locs hG => ?_)
    exact cg_vret F hr hlk hG hf dX9_lowestFalls_105
  have hJ13 : ∀ (x1 : Int32) (x3 : Int32) (M : Mem) (H : Heap) (locs : List Loc) (ls : Array Slot), gl (b_X9_lowestFalls_13 n  x1) n (x3, M) = some res → GI w layM 24 s.heap M H locs → lv_has ls 4 [(0, .ref (w.2.2.1 0)), (1, .int x1), (3, .int x3)] → W p l e (Rm 0) s m args below meth c H locs 0 0 (MQ below (GQv w layM 24 res s.heap.size) args s 0 0 (gA w.2.2.1 24 s.heap.size)) (F0 m 13 ls []) := by
    intro x1 x3 M H locs ls hf hG hl
    refine gl_run (P := fun (q : (Int32 × Mem)) => ∀ (H : Heap) (locs : List Loc) (ls : Array Slot), GI w layM 24 s.heap q.2 H locs → lv_has ls 4 [(0, .ref (w.2.2.1 0)), (1, .int x1), (3, .int q.1)] → W p l e (Rm 0) s m args below meth c H locs 0 0 (MQ below (GQv w layM 24 res s.heap.size) args s 0 0 (gA w.2.2.1 24 s.heap.size)) (F0 m 13 ls [])) ?_ n (x3, M) hf H locs ls hG hl
    clear hf hG hl ls locs H M x3
    rintro ⟨x3, M⟩ rr13 hf hI13 hE13 H locs ls hG hl
    try dsimp only at hG hl ⊢
    dsimp only [b_X9_lowestFalls_13] at hf
    refine lv_iload_n hx hb dX9_lowestFalls_13 rfl (lv_at hl 2 rfl) ?_
    refine lv_iconst (v := 1) hx hb dX9_lowestFalls_14 (by decide) ?_
    refine lv_iadd hx hb dX9_lowestFalls_15 ?_
    refine lv_aload_n hx hb dX9_lowestFalls_16 rfl (lv_at hl 0 rfl) ?_
    refine g_getR F hG 12 mo_0 (by decide) (by decide) lk_X9_63 rfl dX9_lowestFalls_17 ?_
    refine lv_iload_n hx hb dX9_lowestFalls_20 rfl (lv_at hl 1 rfl) ?_
    refine lv_iconst (v := 4) hx hb dX9_lowestFalls_21 (by decide) ?_
    refine lv_iadd hx hb dX9_lowestFalls_22 ?_
    replace hf := ck_some hf
    obtain ⟨k5, hf⟩ := hf
    refine g_iald F hG oM_12 k5 dX9_lowestFalls_23 ?_
    refine lv_icmp_ge (tgt := 81) hx hb dX9_lowestFalls_24 (by decide) (fun c6 => ?_) (fun c6 => ?_)
    · replace hf := if_t c6 hf
      replace hf := mr_some hf
      obtain ⟨z13, hf, hz⟩ := hf
      rw [hE13 _ hz] at hf
      exact hJ81 _ _ _ _ ls hf hG (lv_sub hl [0, 1] rfl)
    · replace hf := if_f c6 hf
      refine lv_aload_n hx hb dX9_lowestFalls_27 rfl (lv_at hl 0 rfl) ?_
      refine g_getR F hG 12 mo_0 (by decide) (by decide) lk_X9_63 rfl dX9_lowestFalls_28 ?_
      refine lv_iload_n hx hb dX9_lowestFalls_31 rfl (lv_at hl 1 rfl) ?_
      refine lv_bipush (v := 6) hx hb dX9_lowestFalls_32 (by decide) ?_
      refine lv_iadd hx hb dX9_lowestFalls_34 ?_
      refine lv_iload_n hx hb dX9_lowestFalls_35 rfl (lv_at hl 2 rfl) ?_
      refine lv_iadd hx hb dX9_lowestFalls_36 ?_
      refine lv_aload_n hx hb dX9_lowestFalls_37 rfl (lv_at hl 0 rfl) ?_
      refine g_getR F hG 12 mo_0 (by decide) (by decide) lk_X9_63 rfl dX9_lowestFalls_38 ?_
      refine lv_iload_n hx hb dX9_lowestFalls_41 rfl (lv_at hl 1 rfl) ?_
      refine lv_bipush (v := 6) hx hb dX9_lowestFalls_42 (by decide) ?_
      refine lv_iadd hx hb dX9_lowestFalls_44 ?_
      refine lv_iload_n hx hb dX9_lowestFalls_45 rfl (lv_at hl 2 rfl) ?_
      refine lv_iadd hx hb dX9_lowestFalls_46 ?_
      refine lv_iconst (v := 1) hx hb dX9_lowestFalls_47 (by decide) ?_
      refine lv_iadd hx hb dX9_lowestFalls_48 ?_
      replace hf := ck_some hf
      obtain ⟨k7, hf⟩ := hf
      refine g_iald F hG oM_12 k7 dX9_lowestFalls_49 ?_
      replace hf := ck_some hf
      obtain ⟨k8, hf⟩ := hf
      refine g_iast F hG oM_12 k8 dX9_lowestFalls_50 (fun H locs hG => ?_)
      refine lv_aload_n hx hb dX9_lowestFalls_51 rfl (lv_at hl 0 rfl) ?_
      refine g_getR F hG 12 mo_0 (by decide) (by decide) lk_X9_63 rfl dX9_lowestFalls_52 ?_
      refine lv_iload_n hx hb dX9_lowestFalls_55 rfl (lv_at hl 1 rfl) ?_
      refine lv_bipush (v := 22) hx hb dX9_lowestFalls_56 (by decide) ?_
      refine lv_iadd hx hb dX9_lowestFalls_58 ?_
      refine lv_iload_n hx hb dX9_lowestFalls_59 rfl (lv_at hl 2 rfl) ?_
      refine lv_iadd hx hb dX9_lowestFalls_60 ?_
      refine lv_aload_n hx hb dX9_lowestFalls_61 rfl (lv_at hl 0 rfl) ?_
      refine g_getR F hG 12 mo_0 (by decide) (by decide) lk_X9_63 rfl dX9_lowestFalls_62 ?_
      refine lv_iload_n hx hb dX9_lowestFalls_65 rfl (lv_at hl 1 rfl) ?_
      refine lv_bipush (v := 22) hx hb dX9_lowestFalls_66 (by decide) ?_
      refine lv_iadd hx hb dX9_lowestFalls_68 ?_
      refine lv_iload_n hx hb dX9_lowestFalls_69 rfl (lv_at hl 2 rfl) ?_
      refine lv_iadd hx hb dX9_lowestFalls_70 ?_
      refine lv_iconst (v := 1) hx hb dX9_lowestFalls_71 (by decide) ?_
      refine lv_iadd hx hb dX9_lowestFalls_72 ?_
      replace hf := ck_some hf
      obtain ⟨k9, hf⟩ := hf
      refine g_iald F hG oM_12 k9 dX9_lowestFalls_73 ?_
      replace hf := ck_some hf
      obtain ⟨k10, hf⟩ := hf
      refine g_iast F hG oM_12 k10 dX9_lowestFalls_74 (fun H locs hG => ?_)
      refine lv_iinc (v := (x3 + (1 : Int32))) (lv' := [(3, .int (x3 + (1 : Int32))), (0, .ref (w.2.2.1 0)), (1, .int x1)]) hx hb dX9_lowestFalls_75 hl (k := 2) rfl rfl (by decide) rfl (fun ls hl => ?_)
      refine lv_goto (tgt := 13) hx hb dX9_lowestFalls_78 (by decide) ?_
      exact hI13 _ (Option.some.inj hf).symm _ _ ls hG (lv_sub hl [1, 2, 0] rfl)
  unfold f_X9_lowestFalls at hf
  refine lv_aload_n hx hb dX9_lowestFalls_0 rfl (lv_at hl 0 rfl) ?_
  refine g_getR F hG 12 mo_0 (by decide) (by decide) lk_X9_63 rfl dX9_lowestFalls_1 ?_
  refine lv_iload_n hx hb dX9_lowestFalls_4 rfl (lv_at hl 1 rfl) ?_
  refine lv_iconst (v := 3) hx hb dX9_lowestFalls_5 (by decide) ?_
  refine lv_iadd hx hb dX9_lowestFalls_6 ?_
  replace hf := ck_some hf
  obtain ⟨k11, hf⟩ := hf
  refine g_iald F hG oM_12 k11 dX9_lowestFalls_7 ?_
  refine lv_iconst (v := 1) hx hb dX9_lowestFalls_8 (by decide) ?_
  refine lv_isub hx hb dX9_lowestFalls_9 ?_
  refine lv_istore_n (lv' := [(2, .int ((gi M 12 (x1 + (3 : Int32)).toNatClampNeg) - (1 : Int32))), (0, .ref (w.2.2.1 0)), (1, .int x1)]) hx hb dX9_lowestFalls_10 rfl hl (by decide) rfl (fun ls hl => ?_)
  refine lv_iload_n hx hb dX9_lowestFalls_11 rfl (lv_at hl 0 rfl) ?_
  refine lv_istore_n (lv' := [(3, .int ((gi M 12 (x1 + (3 : Int32)).toNatClampNeg) - (1 : Int32))), (2, .int ((gi M 12 (x1 + (3 : Int32)).toNatClampNeg) - (1 : Int32))), (0, .ref (w.2.2.1 0)), (1, .int x1)]) hx hb dX9_lowestFalls_12 rfl hl (by decide) rfl (fun ls hl => ?_)
  exact hJ13 _ _ _ _ _ ls hf hG (lv_sub hl [2, 3, 0] rfl)

def j_X9_dayGoes_312 (n : Nat) (x1 : Int32) (x2 : Int32) (M : Mem) : Option (Mem) := ck (inb (x1 + (5 : Int32)) 108) (ck (inb (x1 + (0 : Int32)) 108) (ck (inb (x1 + (0 : Int32)) 108) (some (si (si (si M 12 (x1 + (5 : Int32)).toNatClampNeg x2) 0 48 ((gi (si M 12 (x1 + (5 : Int32)).toNatClampNeg x2) 0 48) + x2)) 12 (x1 + (0 : Int32)).toNatClampNeg ((gi (si (si M 12 (x1 + (5 : Int32)).toNatClampNeg x2) 0 48 ((gi (si M 12 (x1 + (5 : Int32)).toNatClampNeg x2) 0 48) + x2)) 12 (x1 + (0 : Int32)).toNatClampNeg) + (1 : Int32))))))
def b_X9_dayGoes_263 (n : Nat) (x1 : Int32) (x2 : Int32) (q : (Int32 × Mem)) : Option ((Int32 × Mem) ⊕ (Mem)) := match q with
  | (x3, M) => if (gi M 0 1) ≤ x3 then (mr (j_X9_dayGoes_312 n  x1 x2 M)) else (ck (inb ((x1 + (38 : Int32)) + x3) 108) (ck (inb x3 8) (bd (f_X9_bounded n  ((gi M 12 ((x1 + (38 : Int32)) + x3).toNatClampNeg) + (gi M 17 x3.toNatClampNeg)) (0 : Int32) (99 : Int32) M) (fun q7 => ck (inb ((x1 + (38 : Int32)) + x3) 108) (some (.inl ((x3 + (1 : Int32)), si q7.2 12 ((x1 + (38 : Int32)) + x3).toNatClampNeg q7.1)))))))
def j_X9_dayGoes_261 (n : Nat) (x1 : Int32) (x2 : Int32) (M : Mem) : Option (Mem) := gl (b_X9_dayGoes_263 n  x1 x2) n ((0 : Int32), M)
def b_X9_dayGoes_227 (n : Nat) (x1 : Int32) (x2 : Int32) (q : (Int32 × Mem)) : Option ((Int32 × Mem) ⊕ (Mem)) := match q with
  | (x3, M) => if (gi M 0 1) ≤ x3 then (mr (j_X9_dayGoes_261 n  x1 x2 M)) else (bd (f_X9_believesBy n  x1 x3 x2 M) (fun q10 => bd (f_X9_bounded n  q10.1 (-9 : Int32) (9 : Int32) q10.2) (fun q11 => ck (inb x3 8) (some (.inl ((x3 + (1 : Int32)), si q11.2 17 x3.toNatClampNeg q11.1))))))
def j_X9_dayGoes_225 (n : Nat) (x1 : Int32) (x2 : Int32) (M : Mem) : Option (Mem) := gl (b_X9_dayGoes_227 n  x1 x2) n ((0 : Int32), M)
def b_X9_dayGoes_171 (n : Nat) (x1 : Int32) (q : (Int32 × Mem)) : Option ((Int32 × Mem) ⊕ (Mem)) := match q with
  | (x2, M) => bd (f_X9_isDone n  x1 M) (fun q13 => if q13.1 = 0 then (ck (inb (x1 + (3 : Int32)) 108) (if (gi q13.2 12 (x1 + (3 : Int32)).toNatClampNeg) ≤ 0 then (mr (j_X9_dayGoes_225 n  x1 x2 q13.2)) else (bd (f_X9_weightOf n  x1 q13.2) (fun q17 => ck (inb (x1 + (2 : Int32)) 108) (bd (f_X9_strengthOf n  x1 q17.2) (fun q19 => if (q17.1 + ((gi q17.2 12 (x1 + (2 : Int32)).toNatClampNeg) / (5 : Int32))) ≤ q19.1 then (mr (j_X9_dayGoes_225 n  x1 x2 q19.2)) else (bd (f_X9_lowestFalls n  x1 q19.2) (fun q21 => some (.inl ((x2 + (1 : Int32)), q21)))))))))) else (mr (j_X9_dayGoes_225 n  x1 x2 q13.2)))
def j_X9_dayGoes_169 (n : Nat) (x1 : Int32) (M : Mem) : Option (Mem) := gl (b_X9_dayGoes_171 n  x1) n ((0 : Int32), M)
def j_X9_dayGoes_108 (n : Nat) (x1 : Int32) (M : Mem) : Option (Mem) := ck (inb (x1 + (1 : Int32)) 108) (if (gi M 12 (x1 + (1 : Int32)).toNatClampNeg) < (gi M 0 3) then (j_X9_dayGoes_169 n  x1 M) else (ck (inb (x1 + (3 : Int32)) 108) (ck (inb (x1 + (4 : Int32)) 108) (if (gi M 12 (x1 + (4 : Int32)).toNatClampNeg) ≤ (gi M 12 (x1 + (3 : Int32)).toNatClampNeg) then (j_X9_dayGoes_169 n  x1 M) else (ck (inb (x1 + (1 : Int32)) 108) (ck (inb (x1 + (1 : Int32)) 108) (ck (inb (x1 + (3 : Int32)) 108) (ck (inb (x1 + (3 : Int32)) 108) (j_X9_dayGoes_169 n  x1 (si (si M 12 (x1 + (1 : Int32)).toNatClampNeg ((gi M 12 (x1 + (1 : Int32)).toNatClampNeg) - (gi M 0 3))) 12 (x1 + (3 : Int32)).toNatClampNeg ((gi (si M 12 (x1 + (1 : Int32)).toNatClampNeg ((gi M 12 (x1 + (1 : Int32)).toNatClampNeg) - (gi M 0 3))) 12 (x1 + (3 : Int32)).toNatClampNeg) + (1 : Int32))))))))))))
def b_X9_dayGoes_42 (n : Nat) (x1 : Int32) (q : (Int32 × Mem)) : Option ((Int32 × Mem) ⊕ (Mem)) := match q with
  | (x2, M) => if (gi M 0 1) ≤ x2 then (mr (j_X9_dayGoes_108 n  x1 M)) else (bd (f_X9_givesBy n  x1 x2 M) (fun q32 => ck (inb x2 8) (ck (inb x2 8) (ck (inb (x1 + (1 : Int32)) 108) (bd (f_X9_bounded n  ((gi (si (si q32.2 14 x2.toNatClampNeg ((gi q32.2 14 x2.toNatClampNeg) + q32.1)) 0 49 ((gi (si q32.2 14 x2.toNatClampNeg ((gi q32.2 14 x2.toNatClampNeg) + q32.1)) 0 49) + q32.1)) 12 (x1 + (1 : Int32)).toNatClampNeg) + q32.1) (0 : Int32) (999 : Int32) (si (si q32.2 14 x2.toNatClampNeg ((gi q32.2 14 x2.toNatClampNeg) + q32.1)) 0 49 ((gi (si q32.2 14 x2.toNatClampNeg ((gi q32.2 14 x2.toNatClampNeg) + q32.1)) 0 49) + q32.1))) (fun q36 => ck (inb (x1 + (1 : Int32)) 108) (some (.inl ((x2 + (1 : Int32)), si q36.2 12 (x1 + (1 : Int32)).toNatClampNeg q36.1)))))))))
def f_X9_dayGoes (n : Nat) (x1 : Int32) (M : Mem) : Option (Mem) := ck (inb (x1 + (2 : Int32)) 108) (bd (f_X9_leansBy n  x1 M) (fun q39 => bd (f_X9_bounded n  q39.1 (-9 : Int32) (9 : Int32) q39.2) (fun q40 => bd (f_X9_bounded n  ((gi M 12 (x1 + (2 : Int32)).toNatClampNeg) + q40.1) (0 : Int32) (99 : Int32) q40.2) (fun q41 => ck (inb (x1 + (2 : Int32)) 108) (gl (b_X9_dayGoes_42 n  x1) n ((0 : Int32), si (si q41.2 12 (x1 + (2 : Int32)).toNatClampNeg q41.1) 0 49 (0 : Int32)))))))
set_option maxHeartbeats 4000000 in
set_option maxRecDepth 100000 in
theorem c_X9_dayGoes (l : Launch) (w : Wd) {X : (Nat → Prop) → State → Heap → Prop} (hXk : XOK X) (n : Nat) (x1 : Int32) (M : Mem) (res : Mem) (hf : f_X9_dayGoes n  x1 M = some res) : CG l w layM 24 X yX9_dayGoes cX9_dayGoes 4 none 3 [.ref (w.2.2.1 0), .int x1] M (GQv w layM 24 res) := by
  refine cg_start (by decide +kernel) (Nat.le_of_ble_eq_true rfl) ?_
  intro p e s m args below meth c F hr hlk hX hG ls hl
  have F : FX w p m c cX9_dayGoes 4 s args RX9 := F
  have hx := F.1.1
  have hb := F.1.2.1
  have hl : lv_has ls 4 [(0, .ref (w.2.2.1 0)), (1, .int x1)] := hl
  have hJ312 : ∀ (x1 : Int32) (x2 : Int32) (M : Mem) (H : Heap) (locs : List Loc) (ls : Array Slot), j_X9_dayGoes_312 n  x1 x2 M = some res → GI w layM 24 s.heap M H locs → lv_has ls 4 [(0, .ref (w.2.2.1 0)), (1, .int x1), (2, .int x2)] → W p l e (Rm 3) s m args below meth c H locs 0 0 (MQ below (GQv w layM 24 res s.heap.size) args s 0 0 (gA w.2.2.1 24 s.heap.size)) (F0 m 312 ls []) := by
    intro x1 x2 M H locs ls hf hG hl
    unfold j_X9_dayGoes_312 at hf
    refine lv_aload_n hx hb dX9_dayGoes_312 rfl (lv_at hl 0 rfl) ?_
    refine g_getR F hG 12 mo_0 (by decide) (by decide) lk_X9_63 rfl dX9_dayGoes_313 ?_
    refine lv_iload_n hx hb dX9_dayGoes_316 rfl (lv_at hl 1 rfl) ?_
    refine lv_iconst (v := 5) hx hb dX9_dayGoes_317 (by decide) ?_
    refine lv_iadd hx hb dX9_dayGoes_318 ?_
    refine lv_iload_n hx hb dX9_dayGoes_319 rfl (lv_at hl 2 rfl) ?_
    replace hf := ck_some hf
    obtain ⟨k1, hf⟩ := hf
    refine g_iast F hG oM_12 k1 dX9_dayGoes_320 (fun H locs hG => ?_)
    refine lv_aload_n hx hb dX9_dayGoes_321 rfl (lv_at hl 0 rfl) ?_
    refine lv_dup hx hb dX9_dayGoes_322 rfl ?_
    refine g_getI F hG mo_0 (by decide) (by decide) lk_X9_311 rfl dX9_dayGoes_323 ?_
    refine lv_iload_n hx hb dX9_dayGoes_326 rfl (lv_at hl 2 rfl) ?_
    refine lv_iadd hx hb dX9_dayGoes_327 ?_
    refine g_putI F hG mo_0 (by decide) (by decide) lkv_X9_311 rfl rfl rfl dX9_dayGoes_328 (fun H locs hG => ?_)
    refine lv_aload_n hx hb dX9_dayGoes_331 rfl (lv_at hl 0 rfl) ?_
    refine g_getR F hG 12 mo_0 (by decide) (by decide) lk_X9_63 rfl dX9_dayGoes_332 ?_
    refine lv_iload_n hx hb dX9_dayGoes_335 rfl (lv_at hl 1 rfl) ?_
    refine lv_iconst (v := 0) hx hb dX9_dayGoes_336 (by decide) ?_
    refine lv_iadd hx hb dX9_dayGoes_337 ?_
    refine lv_dup2_11 hx hb dX9_dayGoes_338 rfl rfl ?_
    replace hf := ck_some hf
    obtain ⟨k2, hf⟩ := hf
    refine g_iald F hG oM_12 k2 dX9_dayGoes_339 ?_
    refine lv_iconst (v := 1) hx hb dX9_dayGoes_340 (by decide) ?_
    refine lv_iadd hx hb dX9_dayGoes_341 ?_
    replace hf := ck_some hf
    obtain ⟨k3, hf⟩ := hf
    refine g_iast F hG oM_12 k3 dX9_dayGoes_342 (fun H locs hG => ?_)
    exact cg_vret F hr hlk hG hf dX9_dayGoes_343
  have hJ263 : ∀ (x1 : Int32) (x2 : Int32) (x3 : Int32) (M : Mem) (H : Heap) (locs : List Loc) (ls : Array Slot), gl (b_X9_dayGoes_263 n  x1 x2) n (x3, M) = some res → GI w layM 24 s.heap M H locs → lv_has ls 4 [(0, .ref (w.2.2.1 0)), (1, .int x1), (2, .int x2), (3, .int x3)] → W p l e (Rm 3) s m args below meth c H locs 0 0 (MQ below (GQv w layM 24 res s.heap.size) args s 0 0 (gA w.2.2.1 24 s.heap.size)) (F0 m 263 ls []) := by
    intro x1 x2 x3 M H locs ls hf hG hl
    refine gl_run (P := fun (q : (Int32 × Mem)) => ∀ (H : Heap) (locs : List Loc) (ls : Array Slot), GI w layM 24 s.heap q.2 H locs → lv_has ls 4 [(0, .ref (w.2.2.1 0)), (1, .int x1), (2, .int x2), (3, .int q.1)] → W p l e (Rm 3) s m args below meth c H locs 0 0 (MQ below (GQv w layM 24 res s.heap.size) args s 0 0 (gA w.2.2.1 24 s.heap.size)) (F0 m 263 ls [])) ?_ n (x3, M) hf H locs ls hG hl
    clear hf hG hl ls locs H M x3
    rintro ⟨x3, M⟩ rr263 hf hI263 hE263 H locs ls hG hl
    try dsimp only at hG hl ⊢
    dsimp only [b_X9_dayGoes_263] at hf
    refine lv_iload_n hx hb dX9_dayGoes_263 rfl (lv_at hl 3 rfl) ?_
    refine lv_aload_n hx hb dX9_dayGoes_264 rfl (lv_at hl 0 rfl) ?_
    refine g_getI F hG mo_0 (by decide) (by decide) lk_X9_291 rfl dX9_dayGoes_265 ?_
    refine lv_icmp_ge (tgt := 312) hx hb dX9_dayGoes_268 (by decide) (fun c4 => ?_) (fun c4 => ?_)
    · replace hf := if_t c4 hf
      replace hf := mr_some hf
      obtain ⟨z263, hf, hz⟩ := hf
      rw [hE263 _ hz] at hf
      exact hJ312 _ _ _ _ _ ls hf hG (lv_sub hl [0, 1, 2] rfl)
    · replace hf := if_f c4 hf
      refine lv_aload_n hx hb dX9_dayGoes_271 rfl (lv_at hl 0 rfl) ?_
      refine g_getR F hG 12 mo_0 (by decide) (by decide) lk_X9_63 rfl dX9_dayGoes_272 ?_
      refine lv_iload_n hx hb dX9_dayGoes_275 rfl (lv_at hl 1 rfl) ?_
      refine lv_bipush (v := 38) hx hb dX9_dayGoes_276 (by decide) ?_
      refine lv_iadd hx hb dX9_dayGoes_278 ?_
      refine lv_iload_n hx hb dX9_dayGoes_279 rfl (lv_at hl 3 rfl) ?_
      refine lv_iadd hx hb dX9_dayGoes_280 ?_
      refine lv_aload_n hx hb dX9_dayGoes_281 rfl (lv_at hl 0 rfl) ?_
      refine g_getR F hG 12 mo_0 (by decide) (by decide) lk_X9_63 rfl dX9_dayGoes_282 ?_
      refine lv_iload_n hx hb dX9_dayGoes_285 rfl (lv_at hl 1 rfl) ?_
      refine lv_bipush (v := 38) hx hb dX9_dayGoes_286 (by decide) ?_
      refine lv_iadd hx hb dX9_dayGoes_288 ?_
      refine lv_iload_n hx hb dX9_dayGoes_289 rfl (lv_at hl 3 rfl) ?_
      refine lv_iadd hx hb dX9_dayGoes_290 ?_
      replace hf := ck_some hf
      obtain ⟨k5, hf⟩ := hf
      refine g_iald F hG oM_12 k5 dX9_dayGoes_291 ?_
      refine lv_aload_n hx hb dX9_dayGoes_292 rfl (lv_at hl 0 rfl) ?_
      refine g_getR F hG 17 mo_0 (by decide) (by decide) lk_X9_81 rfl dX9_dayGoes_293 ?_
      refine lv_iload_n hx hb dX9_dayGoes_296 rfl (lv_at hl 3 rfl) ?_
      replace hf := ck_some hf
      obtain ⟨k6, hf⟩ := hf
      refine g_iald F hG oM_17 k6 dX9_dayGoes_297 ?_
      refine lv_iadd hx hb dX9_dayGoes_298 ?_
      refine lv_iconst (v := 0) hx hb dX9_dayGoes_299 (by decide) ?_
      refine lv_bipush (v := 99) hx hb dX9_dayGoes_300 (by decide) ?_
      replace hf := bd_some hf
      obtain ⟨q7, eq7, hf⟩ := hf
      refine gx_calli hG (gx_runS hXk F hX hG (c_X9_bounded l w hXk n  ((gi M 12 ((x1 + (38 : Int32)) + x3).toNatClampNeg) + (gi M 17 x3.toNatClampNeg)) (0 : Int32) (99 : Int32) _ _ eq7) cs_X9_340 ⟨Nat.le_of_ble_eq_true rfl, Nat.le_of_ble_eq_true rfl⟩ rfl hl.1 rfl (Nat.le_of_ble_eq_true rfl) dX9_dayGoes_302 ⟨Nat.le_refl _, Nat.le_refl _⟩) (fun H locs hG => ?_)
      replace hf := ck_some hf
      obtain ⟨k8, hf⟩ := hf
      refine g_iast F hG oM_12 k8 dX9_dayGoes_305 (fun H locs hG => ?_)
      refine lv_iinc (v := (x3 + (1 : Int32))) (lv' := [(3, .int (x3 + (1 : Int32))), (0, .ref (w.2.2.1 0)), (1, .int x1), (2, .int x2)]) hx hb dX9_dayGoes_306 hl (k := 3) rfl rfl (by decide) rfl (fun ls hl => ?_)
      refine lv_goto (tgt := 263) hx hb dX9_dayGoes_309 (by decide) ?_
      exact hI263 _ (Option.some.inj hf).symm _ _ ls hG (lv_sub hl [1, 2, 3, 0] rfl)
  have hJ261 : ∀ (x1 : Int32) (x2 : Int32) (M : Mem) (H : Heap) (locs : List Loc) (ls : Array Slot), j_X9_dayGoes_261 n  x1 x2 M = some res → GI w layM 24 s.heap M H locs → lv_has ls 4 [(0, .ref (w.2.2.1 0)), (1, .int x1), (2, .int x2)] → W p l e (Rm 3) s m args below meth c H locs 0 0 (MQ below (GQv w layM 24 res s.heap.size) args s 0 0 (gA w.2.2.1 24 s.heap.size)) (F0 m 261 ls []) := by
    intro x1 x2 M H locs ls hf hG hl
    unfold j_X9_dayGoes_261 at hf
    refine lv_iconst (v := 0) hx hb dX9_dayGoes_261 (by decide) ?_
    refine lv_istore_n (lv' := [(3, .int (0 : Int32)), (0, .ref (w.2.2.1 0)), (1, .int x1), (2, .int x2)]) hx hb dX9_dayGoes_262 rfl hl (by decide) rfl (fun ls hl => ?_)
    exact hJ263 _ _ _ _ _ _ ls hf hG (lv_sub hl [1, 2, 3, 0] rfl)
  have hJ227 : ∀ (x1 : Int32) (x2 : Int32) (x3 : Int32) (M : Mem) (H : Heap) (locs : List Loc) (ls : Array Slot), gl (b_X9_dayGoes_227 n  x1 x2) n (x3, M) = some res → GI w layM 24 s.heap M H locs → lv_has ls 4 [(0, .ref (w.2.2.1 0)), (1, .int x1), (2, .int x2), (3, .int x3)] → W p l e (Rm 3) s m args below meth c H locs 0 0 (MQ below (GQv w layM 24 res s.heap.size) args s 0 0 (gA w.2.2.1 24 s.heap.size)) (F0 m 227 ls []) := by
    intro x1 x2 x3 M H locs ls hf hG hl
    refine gl_run (P := fun (q : (Int32 × Mem)) => ∀ (H : Heap) (locs : List Loc) (ls : Array Slot), GI w layM 24 s.heap q.2 H locs → lv_has ls 4 [(0, .ref (w.2.2.1 0)), (1, .int x1), (2, .int x2), (3, .int q.1)] → W p l e (Rm 3) s m args below meth c H locs 0 0 (MQ below (GQv w layM 24 res s.heap.size) args s 0 0 (gA w.2.2.1 24 s.heap.size)) (F0 m 227 ls [])) ?_ n (x3, M) hf H locs ls hG hl
    clear hf hG hl ls locs H M x3
    rintro ⟨x3, M⟩ rr227 hf hI227 hE227 H locs ls hG hl
    try dsimp only at hG hl ⊢
    dsimp only [b_X9_dayGoes_227] at hf
    refine lv_iload_n hx hb dX9_dayGoes_227 rfl (lv_at hl 3 rfl) ?_
    refine lv_aload_n hx hb dX9_dayGoes_228 rfl (lv_at hl 0 rfl) ?_
    refine g_getI F hG mo_0 (by decide) (by decide) lk_X9_291 rfl dX9_dayGoes_229 ?_
    refine lv_icmp_ge (tgt := 261) hx hb dX9_dayGoes_232 (by decide) (fun c9 => ?_) (fun c9 => ?_)
    · replace hf := if_t c9 hf
      replace hf := mr_some hf
      obtain ⟨z227, hf, hz⟩ := hf
      rw [hE227 _ hz] at hf
      exact hJ261 _ _ _ _ _ ls hf hG (lv_sub hl [0, 1, 2] rfl)
    · replace hf := if_f c9 hf
      refine lv_aload_n hx hb dX9_dayGoes_235 rfl (lv_at hl 0 rfl) ?_
      refine g_getR F hG 17 mo_0 (by decide) (by decide) lk_X9_81 rfl dX9_dayGoes_236 ?_
      refine lv_iload_n hx hb dX9_dayGoes_239 rfl (lv_at hl 3 rfl) ?_
      refine lv_aload_n hx hb dX9_dayGoes_240 rfl (lv_at hl 0 rfl) ?_
      refine lv_iload_n hx hb dX9_dayGoes_241 rfl (lv_at hl 1 rfl) ?_
      refine lv_iload_n hx hb dX9_dayGoes_242 rfl (lv_at hl 3 rfl) ?_
      refine lv_iload_n hx hb dX9_dayGoes_243 rfl (lv_at hl 2 rfl) ?_
      replace hf := bd_some hf
      obtain ⟨q10, eq10, hf⟩ := hf
      refine gx_calli hG (gx_runV hXk F hX hG (c_X9_believesBy l w hXk n  x1 x3 x2 _ _ eq10) cv_X9_361 ⟨Nat.le_of_ble_eq_true rfl, Nat.le_of_ble_eq_true rfl⟩ (g_recv F hG mo_0 (by decide) rfl) rfl hl.1 rfl (Nat.le_of_ble_eq_true rfl) dX9_dayGoes_244 ⟨Nat.le_refl _, Nat.le_refl _⟩) (fun H locs hG => ?_)
      refine lv_bipush (v := -9) hx hb dX9_dayGoes_247 (by decide) ?_
      refine lv_bipush (v := 9) hx hb dX9_dayGoes_249 (by decide) ?_
      replace hf := bd_some hf
      obtain ⟨q11, eq11, hf⟩ := hf
      refine gx_calli hG (gx_runS hXk F hX hG (c_X9_bounded l w hXk n  q10.1 (-9 : Int32) (9 : Int32) _ _ eq11) cs_X9_340 ⟨Nat.le_of_ble_eq_true rfl, Nat.le_of_ble_eq_true rfl⟩ rfl hl.1 rfl (Nat.le_of_ble_eq_true rfl) dX9_dayGoes_251 ⟨Nat.le_refl _, Nat.le_refl _⟩) (fun H locs hG => ?_)
      replace hf := ck_some hf
      obtain ⟨k12, hf⟩ := hf
      refine g_iast F hG oM_17 k12 dX9_dayGoes_254 (fun H locs hG => ?_)
      refine lv_iinc (v := (x3 + (1 : Int32))) (lv' := [(3, .int (x3 + (1 : Int32))), (0, .ref (w.2.2.1 0)), (1, .int x1), (2, .int x2)]) hx hb dX9_dayGoes_255 hl (k := 3) rfl rfl (by decide) rfl (fun ls hl => ?_)
      refine lv_goto (tgt := 227) hx hb dX9_dayGoes_258 (by decide) ?_
      exact hI227 _ (Option.some.inj hf).symm _ _ ls hG (lv_sub hl [1, 2, 3, 0] rfl)
  have hJ225 : ∀ (x1 : Int32) (x2 : Int32) (M : Mem) (H : Heap) (locs : List Loc) (ls : Array Slot), j_X9_dayGoes_225 n  x1 x2 M = some res → GI w layM 24 s.heap M H locs → lv_has ls 4 [(0, .ref (w.2.2.1 0)), (1, .int x1), (2, .int x2)] → W p l e (Rm 3) s m args below meth c H locs 0 0 (MQ below (GQv w layM 24 res s.heap.size) args s 0 0 (gA w.2.2.1 24 s.heap.size)) (F0 m 225 ls []) := by
    intro x1 x2 M H locs ls hf hG hl
    unfold j_X9_dayGoes_225 at hf
    refine lv_iconst (v := 0) hx hb dX9_dayGoes_225 (by decide) ?_
    refine lv_istore_n (lv' := [(3, .int (0 : Int32)), (0, .ref (w.2.2.1 0)), (1, .int x1), (2, .int x2)]) hx hb dX9_dayGoes_226 rfl hl (by decide) rfl (fun ls hl => ?_)
    exact hJ227 _ _ _ _ _ _ ls hf hG (lv_sub hl [1, 2, 3, 0] rfl)
  have hJ171 : ∀ (x1 : Int32) (x2 : Int32) (M : Mem) (H : Heap) (locs : List Loc) (ls : Array Slot), gl (b_X9_dayGoes_171 n  x1) n (x2, M) = some res → GI w layM 24 s.heap M H locs → lv_has ls 4 [(0, .ref (w.2.2.1 0)), (1, .int x1), (2, .int x2)] → W p l e (Rm 3) s m args below meth c H locs 0 0 (MQ below (GQv w layM 24 res s.heap.size) args s 0 0 (gA w.2.2.1 24 s.heap.size)) (F0 m 171 ls []) := by
    intro x1 x2 M H locs ls hf hG hl
    refine gl_run (P := fun (q : (Int32 × Mem)) => ∀ (H : Heap) (locs : List Loc) (ls : Array Slot), GI w layM 24 s.heap q.2 H locs → lv_has ls 4 [(0, .ref (w.2.2.1 0)), (1, .int x1), (2, .int q.1)] → W p l e (Rm 3) s m args below meth c H locs 0 0 (MQ below (GQv w layM 24 res s.heap.size) args s 0 0 (gA w.2.2.1 24 s.heap.size)) (F0 m 171 ls [])) ?_ n (x2, M) hf H locs ls hG hl
    clear hf hG hl ls locs H M x2
    rintro ⟨x2, M⟩ rr171 hf hI171 hE171 H locs ls hG hl
    try dsimp only at hG hl ⊢
    dsimp only [b_X9_dayGoes_171] at hf
    refine lv_aload_n hx hb dX9_dayGoes_171 rfl (lv_at hl 0 rfl) ?_
    refine lv_iload_n hx hb dX9_dayGoes_172 rfl (lv_at hl 1 rfl) ?_
    replace hf := bd_some hf
    obtain ⟨q13, eq13, hf⟩ := hf
    refine gx_calli hG (gx_runV hXk F hX hG (c_X9_isDone l w hXk n  x1 _ _ eq13) cv_X9_352 ⟨Nat.le_of_ble_eq_true rfl, Nat.le_of_ble_eq_true rfl⟩ (g_recv F hG mo_0 (by decide) rfl) rfl hl.1 rfl (Nat.le_of_ble_eq_true rfl) dX9_dayGoes_173 ⟨Nat.le_refl _, Nat.le_refl _⟩) (fun H locs hG => ?_)
    refine lv_if_ne (tgt := 225) hx hb dX9_dayGoes_176 (by decide) (fun c14 => ?_) (fun c14 => ?_)
    · replace hf := if_f c14 hf
      replace hf := mr_some hf
      obtain ⟨z171, hf, hz⟩ := hf
      rw [hE171 _ hz] at hf
      exact hJ225 _ _ _ _ _ ls hf hG (lv_sub hl [0, 1, 2] rfl)
    · replace hf := if_t c14 hf
      refine lv_aload_n hx hb dX9_dayGoes_179 rfl (lv_at hl 0 rfl) ?_
      refine g_getR F hG 12 mo_0 (by decide) (by decide) lk_X9_63 rfl dX9_dayGoes_180 ?_
      refine lv_iload_n hx hb dX9_dayGoes_183 rfl (lv_at hl 1 rfl) ?_
      refine lv_iconst (v := 3) hx hb dX9_dayGoes_184 (by decide) ?_
      refine lv_iadd hx hb dX9_dayGoes_185 ?_
      replace hf := ck_some hf
      obtain ⟨k15, hf⟩ := hf
      refine g_iald F hG oM_12 k15 dX9_dayGoes_186 ?_
      refine lv_if_le (tgt := 225) hx hb dX9_dayGoes_187 (by decide) (fun c16 => ?_) (fun c16 => ?_)
      · replace hf := if_t c16 hf
        replace hf := mr_some hf
        obtain ⟨z171, hf, hz⟩ := hf
        rw [hE171 _ hz] at hf
        exact hJ225 _ _ _ _ _ ls hf hG (lv_sub hl [0, 1, 2] rfl)
      · replace hf := if_f c16 hf
        refine lv_aload_n hx hb dX9_dayGoes_190 rfl (lv_at hl 0 rfl) ?_
        refine lv_iload_n hx hb dX9_dayGoes_191 rfl (lv_at hl 1 rfl) ?_
        replace hf := bd_some hf
        obtain ⟨q17, eq17, hf⟩ := hf
        refine gx_calli hG (gx_runV hXk F hX hG (c_X9_weightOf l w hXk n  x1 _ _ eq17) cv_X9_327 ⟨Nat.le_of_ble_eq_true rfl, Nat.le_of_ble_eq_true rfl⟩ (g_recv F hG mo_0 (by decide) rfl) rfl hl.1 rfl (Nat.le_of_ble_eq_true rfl) dX9_dayGoes_192 ⟨Nat.le_refl _, Nat.le_refl _⟩) (fun H locs hG => ?_)
        refine lv_aload_n hx hb dX9_dayGoes_195 rfl (lv_at hl 0 rfl) ?_
        refine g_getR F hG 12 mo_0 (by decide) (by decide) lk_X9_63 rfl dX9_dayGoes_196 ?_
        refine lv_iload_n hx hb dX9_dayGoes_199 rfl (lv_at hl 1 rfl) ?_
        refine lv_iconst (v := 2) hx hb dX9_dayGoes_200 (by decide) ?_
        refine lv_iadd hx hb dX9_dayGoes_201 ?_
        replace hf := ck_some hf
        obtain ⟨k18, hf⟩ := hf
        refine g_iald F hG oM_12 k18 dX9_dayGoes_202 ?_
        refine lv_iconst (v := 5) hx hb dX9_dayGoes_203 (by decide) ?_
        refine lv_idiv hx hb dX9_dayGoes_204 (by decide) ?_
        refine lv_iadd hx hb dX9_dayGoes_205 ?_
        refine lv_aload_n hx hb dX9_dayGoes_206 rfl (lv_at hl 0 rfl) ?_
        refine lv_iload_n hx hb dX9_dayGoes_207 rfl (lv_at hl 1 rfl) ?_
        replace hf := bd_some hf
        obtain ⟨q19, eq19, hf⟩ := hf
        refine gx_calli hG (gx_runV hXk F hX hG (c_X9_strengthOf l w hXk n  x1 _ _ eq19) cv_X9_355 ⟨Nat.le_of_ble_eq_true rfl, Nat.le_of_ble_eq_true rfl⟩ (g_recv F hG mo_0 (by decide) rfl) rfl hl.1 rfl (Nat.le_of_ble_eq_true rfl) dX9_dayGoes_208 ⟨Nat.le_refl _, Nat.le_refl _⟩) (fun H locs hG => ?_)
        refine lv_icmp_le (tgt := 225) hx hb dX9_dayGoes_211 (by decide) (fun c20 => ?_) (fun c20 => ?_)
        · replace hf := if_t c20 hf
          replace hf := mr_some hf
          obtain ⟨z171, hf, hz⟩ := hf
          rw [hE171 _ hz] at hf
          exact hJ225 _ _ _ _ _ ls hf hG (lv_sub hl [0, 1, 2] rfl)
        · replace hf := if_f c20 hf
          refine lv_aload_n hx hb dX9_dayGoes_214 rfl (lv_at hl 0 rfl) ?_
          refine lv_iload_n hx hb dX9_dayGoes_215 rfl (lv_at hl 1 rfl) ?_
          replace hf := bd_some hf
          obtain ⟨q21, eq21, hf⟩ := hf
          refine gx_callv hG (gx_runV hXk F hX hG (c_X9_lowestFalls l w hXk n  x1 _ _ eq21) cv_X9_358 ⟨Nat.le_of_ble_eq_true rfl, Nat.le_of_ble_eq_true rfl⟩ (g_recv F hG mo_0 (by decide) rfl) rfl hl.1 rfl (Nat.le_of_ble_eq_true rfl) dX9_dayGoes_216 ⟨Nat.le_refl _, Nat.le_refl _⟩) (fun H locs hG => ?_)
          refine lv_iinc (v := (x2 + (1 : Int32))) (lv' := [(2, .int (x2 + (1 : Int32))), (0, .ref (w.2.2.1 0)), (1, .int x1)]) hx hb dX9_dayGoes_219 hl (k := 2) rfl rfl (by decide) rfl (fun ls hl => ?_)
          refine lv_goto (tgt := 171) hx hb dX9_dayGoes_222 (by decide) ?_
          exact hI171 _ (Option.some.inj hf).symm _ _ ls hG (lv_sub hl [1, 2, 0] rfl)
  have hJ169 : ∀ (x1 : Int32) (M : Mem) (H : Heap) (locs : List Loc) (ls : Array Slot), j_X9_dayGoes_169 n  x1 M = some res → GI w layM 24 s.heap M H locs → lv_has ls 4 [(0, .ref (w.2.2.1 0)), (1, .int x1)] → W p l e (Rm 3) s m args below meth c H locs 0 0 (MQ below (GQv w layM 24 res s.heap.size) args s 0 0 (gA w.2.2.1 24 s.heap.size)) (F0 m 169 ls []) := by
    intro x1 M H locs ls hf hG hl
    unfold j_X9_dayGoes_169 at hf
    refine lv_iconst (v := 0) hx hb dX9_dayGoes_169 (by decide) ?_
    refine lv_istore_n (lv' := [(2, .int (0 : Int32)), (0, .ref (w.2.2.1 0)), (1, .int x1)]) hx hb dX9_dayGoes_170 rfl hl (by decide) rfl (fun ls hl => ?_)
    exact hJ171 _ _ _ _ _ ls hf hG (lv_sub hl [1, 2, 0] rfl)
  have hJ108 : ∀ (x1 : Int32) (M : Mem) (H : Heap) (locs : List Loc) (ls : Array Slot), j_X9_dayGoes_108 n  x1 M = some res → GI w layM 24 s.heap M H locs → lv_has ls 4 [(0, .ref (w.2.2.1 0)), (1, .int x1)] → W p l e (Rm 3) s m args below meth c H locs 0 0 (MQ below (GQv w layM 24 res s.heap.size) args s 0 0 (gA w.2.2.1 24 s.heap.size)) (F0 m 108 ls []) := by
    intro x1 M H locs ls hf hG hl
    unfold j_X9_dayGoes_108 at hf
    refine lv_aload_n hx hb dX9_dayGoes_108 rfl (lv_at hl 0 rfl) ?_
    refine g_getR F hG 12 mo_0 (by decide) (by decide) lk_X9_63 rfl dX9_dayGoes_109 ?_
    refine lv_iload_n hx hb dX9_dayGoes_112 rfl (lv_at hl 1 rfl) ?_
    refine lv_iconst (v := 1) hx hb dX9_dayGoes_113 (by decide) ?_
    refine lv_iadd hx hb dX9_dayGoes_114 ?_
    replace hf := ck_some hf
    obtain ⟨k22, hf⟩ := hf
    refine g_iald F hG oM_12 k22 dX9_dayGoes_115 ?_
    refine lv_aload_n hx hb dX9_dayGoes_116 rfl (lv_at hl 0 rfl) ?_
    refine g_getI F hG mo_0 (by decide) (by decide) lk_X9_13 rfl dX9_dayGoes_117 ?_
    refine lv_icmp_lt (tgt := 169) hx hb dX9_dayGoes_120 (by decide) (fun c23 => ?_) (fun c23 => ?_)
    · replace hf := if_t c23 hf
      exact hJ169 _ _ _ _ ls hf hG (lv_sub hl [0, 1] rfl)
    · replace hf := if_f c23 hf
      refine lv_aload_n hx hb dX9_dayGoes_123 rfl (lv_at hl 0 rfl) ?_
      refine g_getR F hG 12 mo_0 (by decide) (by decide) lk_X9_63 rfl dX9_dayGoes_124 ?_
      refine lv_iload_n hx hb dX9_dayGoes_127 rfl (lv_at hl 1 rfl) ?_
      refine lv_iconst (v := 3) hx hb dX9_dayGoes_128 (by decide) ?_
      refine lv_iadd hx hb dX9_dayGoes_129 ?_
      replace hf := ck_some hf
      obtain ⟨k24, hf⟩ := hf
      refine g_iald F hG oM_12 k24 dX9_dayGoes_130 ?_
      refine lv_aload_n hx hb dX9_dayGoes_131 rfl (lv_at hl 0 rfl) ?_
      refine g_getR F hG 12 mo_0 (by decide) (by decide) lk_X9_63 rfl dX9_dayGoes_132 ?_
      refine lv_iload_n hx hb dX9_dayGoes_135 rfl (lv_at hl 1 rfl) ?_
      refine lv_iconst (v := 4) hx hb dX9_dayGoes_136 (by decide) ?_
      refine lv_iadd hx hb dX9_dayGoes_137 ?_
      replace hf := ck_some hf
      obtain ⟨k25, hf⟩ := hf
      refine g_iald F hG oM_12 k25 dX9_dayGoes_138 ?_
      refine lv_icmp_ge (tgt := 169) hx hb dX9_dayGoes_139 (by decide) (fun c26 => ?_) (fun c26 => ?_)
      · replace hf := if_t c26 hf
        exact hJ169 _ _ _ _ ls hf hG (lv_sub hl [0, 1] rfl)
      · replace hf := if_f c26 hf
        refine lv_aload_n hx hb dX9_dayGoes_142 rfl (lv_at hl 0 rfl) ?_
        refine g_getR F hG 12 mo_0 (by decide) (by decide) lk_X9_63 rfl dX9_dayGoes_143 ?_
        refine lv_iload_n hx hb dX9_dayGoes_146 rfl (lv_at hl 1 rfl) ?_
        refine lv_iconst (v := 1) hx hb dX9_dayGoes_147 (by decide) ?_
        refine lv_iadd hx hb dX9_dayGoes_148 ?_
        refine lv_dup2_11 hx hb dX9_dayGoes_149 rfl rfl ?_
        replace hf := ck_some hf
        obtain ⟨k27, hf⟩ := hf
        refine g_iald F hG oM_12 k27 dX9_dayGoes_150 ?_
        refine lv_aload_n hx hb dX9_dayGoes_151 rfl (lv_at hl 0 rfl) ?_
        refine g_getI F hG mo_0 (by decide) (by decide) lk_X9_13 rfl dX9_dayGoes_152 ?_
        refine lv_isub hx hb dX9_dayGoes_155 ?_
        replace hf := ck_some hf
        obtain ⟨k28, hf⟩ := hf
        refine g_iast F hG oM_12 k28 dX9_dayGoes_156 (fun H locs hG => ?_)
        refine lv_aload_n hx hb dX9_dayGoes_157 rfl (lv_at hl 0 rfl) ?_
        refine g_getR F hG 12 mo_0 (by decide) (by decide) lk_X9_63 rfl dX9_dayGoes_158 ?_
        refine lv_iload_n hx hb dX9_dayGoes_161 rfl (lv_at hl 1 rfl) ?_
        refine lv_iconst (v := 3) hx hb dX9_dayGoes_162 (by decide) ?_
        refine lv_iadd hx hb dX9_dayGoes_163 ?_
        refine lv_dup2_11 hx hb dX9_dayGoes_164 rfl rfl ?_
        replace hf := ck_some hf
        obtain ⟨k29, hf⟩ := hf
        refine g_iald F hG oM_12 k29 dX9_dayGoes_165 ?_
        refine lv_iconst (v := 1) hx hb dX9_dayGoes_166 (by decide) ?_
        refine lv_iadd hx hb dX9_dayGoes_167 ?_
        replace hf := ck_some hf
        obtain ⟨k30, hf⟩ := hf
        refine g_iast F hG oM_12 k30 dX9_dayGoes_168 (fun H locs hG => ?_)
        exact hJ169 _ _ _ _ ls hf hG (lv_sub hl [0, 1] rfl)
  have hJ42 : ∀ (x1 : Int32) (x2 : Int32) (M : Mem) (H : Heap) (locs : List Loc) (ls : Array Slot), gl (b_X9_dayGoes_42 n  x1) n (x2, M) = some res → GI w layM 24 s.heap M H locs → lv_has ls 4 [(0, .ref (w.2.2.1 0)), (1, .int x1), (2, .int x2)] → W p l e (Rm 3) s m args below meth c H locs 0 0 (MQ below (GQv w layM 24 res s.heap.size) args s 0 0 (gA w.2.2.1 24 s.heap.size)) (F0 m 42 ls []) := by
    intro x1 x2 M H locs ls hf hG hl
    refine gl_run (P := fun (q : (Int32 × Mem)) => ∀ (H : Heap) (locs : List Loc) (ls : Array Slot), GI w layM 24 s.heap q.2 H locs → lv_has ls 4 [(0, .ref (w.2.2.1 0)), (1, .int x1), (2, .int q.1)] → W p l e (Rm 3) s m args below meth c H locs 0 0 (MQ below (GQv w layM 24 res s.heap.size) args s 0 0 (gA w.2.2.1 24 s.heap.size)) (F0 m 42 ls [])) ?_ n (x2, M) hf H locs ls hG hl
    clear hf hG hl ls locs H M x2
    rintro ⟨x2, M⟩ rr42 hf hI42 hE42 H locs ls hG hl
    try dsimp only at hG hl ⊢
    dsimp only [b_X9_dayGoes_42] at hf
    refine lv_iload_n hx hb dX9_dayGoes_42 rfl (lv_at hl 2 rfl) ?_
    refine lv_aload_n hx hb dX9_dayGoes_43 rfl (lv_at hl 0 rfl) ?_
    refine g_getI F hG mo_0 (by decide) (by decide) lk_X9_291 rfl dX9_dayGoes_44 ?_
    refine lv_icmp_ge (tgt := 108) hx hb dX9_dayGoes_47 (by decide) (fun c31 => ?_) (fun c31 => ?_)
    · replace hf := if_t c31 hf
      replace hf := mr_some hf
      obtain ⟨z42, hf, hz⟩ := hf
      rw [hE42 _ hz] at hf
      exact hJ108 _ _ _ _ ls hf hG (lv_sub hl [0, 1] rfl)
    · replace hf := if_f c31 hf
      refine lv_aload_n hx hb dX9_dayGoes_50 rfl (lv_at hl 0 rfl) ?_
      refine lv_iload_n hx hb dX9_dayGoes_51 rfl (lv_at hl 1 rfl) ?_
      refine lv_iload_n hx hb dX9_dayGoes_52 rfl (lv_at hl 2 rfl) ?_
      replace hf := bd_some hf
      obtain ⟨q32, eq32, hf⟩ := hf
      refine gx_calli hG (gx_runV hXk F hX hG (c_X9_givesBy l w hXk n  x1 x2 _ _ eq32) cv_X9_349 ⟨Nat.le_of_ble_eq_true rfl, Nat.le_of_ble_eq_true rfl⟩ (g_recv F hG mo_0 (by decide) rfl) rfl hl.1 rfl (Nat.le_of_ble_eq_true rfl) dX9_dayGoes_53 ⟨Nat.le_refl _, Nat.le_refl _⟩) (fun H locs hG => ?_)
      refine lv_istore_n (lv' := [(3, .int q32.1), (0, .ref (w.2.2.1 0)), (1, .int x1), (2, .int x2)]) hx hb dX9_dayGoes_56 rfl hl (by decide) rfl (fun ls hl => ?_)
      refine lv_aload_n hx hb dX9_dayGoes_57 rfl (lv_at hl 1 rfl) ?_
      refine g_getR F hG 14 mo_0 (by decide) (by decide) lk_X9_69 rfl dX9_dayGoes_58 ?_
      refine lv_iload_n hx hb dX9_dayGoes_61 rfl (lv_at hl 3 rfl) ?_
      refine lv_dup2_11 hx hb dX9_dayGoes_62 rfl rfl ?_
      replace hf := ck_some hf
      obtain ⟨k33, hf⟩ := hf
      refine g_iald F hG oM_14 k33 dX9_dayGoes_63 ?_
      refine lv_iload_n hx hb dX9_dayGoes_64 rfl (lv_at hl 0 rfl) ?_
      refine lv_iadd hx hb dX9_dayGoes_65 ?_
      replace hf := ck_some hf
      obtain ⟨k34, hf⟩ := hf
      refine g_iast F hG oM_14 k34 dX9_dayGoes_66 (fun H locs hG => ?_)
      refine lv_aload_n hx hb dX9_dayGoes_67 rfl (lv_at hl 1 rfl) ?_
      refine lv_dup hx hb dX9_dayGoes_68 rfl ?_
      refine g_getI F hG mo_0 (by decide) (by decide) lk_X9_346 rfl dX9_dayGoes_69 ?_
      refine lv_iload_n hx hb dX9_dayGoes_72 rfl (lv_at hl 0 rfl) ?_
      refine lv_iadd hx hb dX9_dayGoes_73 ?_
      refine g_putI F hG mo_0 (by decide) (by decide) lkv_X9_346 rfl rfl rfl dX9_dayGoes_74 (fun H locs hG => ?_)
      refine lv_aload_n hx hb dX9_dayGoes_77 rfl (lv_at hl 1 rfl) ?_
      refine g_getR F hG 12 mo_0 (by decide) (by decide) lk_X9_63 rfl dX9_dayGoes_78 ?_
      refine lv_iload_n hx hb dX9_dayGoes_81 rfl (lv_at hl 2 rfl) ?_
      refine lv_iconst (v := 1) hx hb dX9_dayGoes_82 (by decide) ?_
      refine lv_iadd hx hb dX9_dayGoes_83 ?_
      refine lv_aload_n hx hb dX9_dayGoes_84 rfl (lv_at hl 1 rfl) ?_
      refine g_getR F hG 12 mo_0 (by decide) (by decide) lk_X9_63 rfl dX9_dayGoes_85 ?_
      refine lv_iload_n hx hb dX9_dayGoes_88 rfl (lv_at hl 2 rfl) ?_
      refine lv_iconst (v := 1) hx hb dX9_dayGoes_89 (by decide) ?_
      refine lv_iadd hx hb dX9_dayGoes_90 ?_
      replace hf := ck_some hf
      obtain ⟨k35, hf⟩ := hf
      refine g_iald F hG oM_12 k35 dX9_dayGoes_91 ?_
      refine lv_iload_n hx hb dX9_dayGoes_92 rfl (lv_at hl 0 rfl) ?_
      refine lv_iadd hx hb dX9_dayGoes_93 ?_
      refine lv_iconst (v := 0) hx hb dX9_dayGoes_94 (by decide) ?_
      refine lv_sipush (v := 999) hx hb dX9_dayGoes_95 (by decide) ?_
      replace hf := bd_some hf
      obtain ⟨q36, eq36, hf⟩ := hf
      refine gx_calli hG (gx_runS hXk F hX hG (c_X9_bounded l w hXk n  ((gi (si (si q32.2 14 x2.toNatClampNeg ((gi q32.2 14 x2.toNatClampNeg) + q32.1)) 0 49 ((gi (si q32.2 14 x2.toNatClampNeg ((gi q32.2 14 x2.toNatClampNeg) + q32.1)) 0 49) + q32.1)) 12 (x1 + (1 : Int32)).toNatClampNeg) + q32.1) (0 : Int32) (999 : Int32) _ _ eq36) cs_X9_340 ⟨Nat.le_of_ble_eq_true rfl, Nat.le_of_ble_eq_true rfl⟩ rfl hl.1 rfl (Nat.le_of_ble_eq_true rfl) dX9_dayGoes_98 ⟨Nat.le_refl _, Nat.le_refl _⟩) (fun H locs hG => ?_)
      replace hf := ck_some hf
      obtain ⟨k37, hf⟩ := hf
      refine g_iast F hG oM_12 k37 dX9_dayGoes_101 (fun H locs hG => ?_)
      refine lv_iinc (v := (x2 + (1 : Int32))) (lv' := [(2, .int (x2 + (1 : Int32))), (3, .int q32.1), (0, .ref (w.2.2.1 0)), (1, .int x1)]) hx hb dX9_dayGoes_102 hl (k := 3) rfl rfl (by decide) rfl (fun ls hl => ?_)
      refine lv_goto (tgt := 42) hx hb dX9_dayGoes_105 (by decide) ?_
      exact hI42 _ (Option.some.inj hf).symm _ _ ls hG (lv_sub hl [2, 3, 0] rfl)
  unfold f_X9_dayGoes at hf
  refine lv_aload_n hx hb dX9_dayGoes_0 rfl (lv_at hl 0 rfl) ?_
  refine g_getR F hG 12 mo_0 (by decide) (by decide) lk_X9_63 rfl dX9_dayGoes_1 ?_
  refine lv_iload_n hx hb dX9_dayGoes_4 rfl (lv_at hl 1 rfl) ?_
  refine lv_iconst (v := 2) hx hb dX9_dayGoes_5 (by decide) ?_
  refine lv_iadd hx hb dX9_dayGoes_6 ?_
  refine lv_aload_n hx hb dX9_dayGoes_7 rfl (lv_at hl 0 rfl) ?_
  refine g_getR F hG 12 mo_0 (by decide) (by decide) lk_X9_63 rfl dX9_dayGoes_8 ?_
  refine lv_iload_n hx hb dX9_dayGoes_11 rfl (lv_at hl 1 rfl) ?_
  refine lv_iconst (v := 2) hx hb dX9_dayGoes_12 (by decide) ?_
  refine lv_iadd hx hb dX9_dayGoes_13 ?_
  replace hf := ck_some hf
  obtain ⟨k38, hf⟩ := hf
  refine g_iald F hG oM_12 k38 dX9_dayGoes_14 ?_
  refine lv_aload_n hx hb dX9_dayGoes_15 rfl (lv_at hl 0 rfl) ?_
  refine lv_iload_n hx hb dX9_dayGoes_16 rfl (lv_at hl 1 rfl) ?_
  replace hf := bd_some hf
  obtain ⟨q39, eq39, hf⟩ := hf
  refine gx_calli hG (gx_runV hXk F hX hG (c_X9_leansBy l w hXk n  x1 _ _ eq39) cv_X9_343 ⟨Nat.le_of_ble_eq_true rfl, Nat.le_of_ble_eq_true rfl⟩ (g_recv F hG mo_0 (by decide) rfl) rfl hl.1 rfl (Nat.le_of_ble_eq_true rfl) dX9_dayGoes_17 ⟨Nat.le_refl _, Nat.le_refl _⟩) (fun H locs hG => ?_)
  refine lv_bipush (v := -9) hx hb dX9_dayGoes_20 (by decide) ?_
  refine lv_bipush (v := 9) hx hb dX9_dayGoes_22 (by decide) ?_
  replace hf := bd_some hf
  obtain ⟨q40, eq40, hf⟩ := hf
  refine gx_calli hG (gx_runS hXk F hX hG (c_X9_bounded l w hXk n  q39.1 (-9 : Int32) (9 : Int32) _ _ eq40) cs_X9_340 ⟨Nat.le_of_ble_eq_true rfl, Nat.le_of_ble_eq_true rfl⟩ rfl hl.1 rfl (Nat.le_of_ble_eq_true rfl) dX9_dayGoes_24 ⟨Nat.le_refl _, Nat.le_refl _⟩) (fun H locs hG => ?_)
  refine lv_iadd hx hb dX9_dayGoes_27 ?_
  refine lv_iconst (v := 0) hx hb dX9_dayGoes_28 (by decide) ?_
  refine lv_bipush (v := 99) hx hb dX9_dayGoes_29 (by decide) ?_
  replace hf := bd_some hf
  obtain ⟨q41, eq41, hf⟩ := hf
  refine gx_calli hG (gx_runS hXk F hX hG (c_X9_bounded l w hXk n  ((gi M 12 (x1 + (2 : Int32)).toNatClampNeg) + q40.1) (0 : Int32) (99 : Int32) _ _ eq41) cs_X9_340 ⟨Nat.le_of_ble_eq_true rfl, Nat.le_of_ble_eq_true rfl⟩ rfl hl.1 rfl (Nat.le_of_ble_eq_true rfl) dX9_dayGoes_31 ⟨Nat.le_refl _, Nat.le_refl _⟩) (fun H locs hG => ?_)
  replace hf := ck_some hf
  obtain ⟨k42, hf⟩ := hf
  refine g_iast F hG oM_12 k42 dX9_dayGoes_34 (fun H locs hG => ?_)
  refine lv_aload_n hx hb dX9_dayGoes_35 rfl (lv_at hl 0 rfl) ?_
  refine lv_iconst (v := 0) hx hb dX9_dayGoes_36 (by decide) ?_
  refine g_putI F hG mo_0 (by decide) (by decide) lkv_X9_346 rfl rfl rfl dX9_dayGoes_37 (fun H locs hG => ?_)
  refine lv_iconst (v := 0) hx hb dX9_dayGoes_40 (by decide) ?_
  refine lv_istore_n (lv' := [(2, .int (0 : Int32)), (0, .ref (w.2.2.1 0)), (1, .int x1)]) hx hb dX9_dayGoes_41 rfl hl (by decide) rfl (fun ls hl => ?_)
  exact hJ42 _ _ _ _ _ ls hf hG (lv_sub hl [1, 2, 0] rfl)

def b_X9_daysGo_2 (n : Nat) (x1 : Int32) (q : (Int32 × Mem)) : Option ((Int32 × Mem) ⊕ (Mem)) := match q with
  | (x2, M) => if x1 ≤ x2 then (mr (some M)) else (bd (f_X9_dayGoes n  (54 : Int32) M) (fun q2 => some (.inl ((x2 + (1 : Int32)), q2))))
def f_X9_daysGo (n : Nat) (x1 : Int32) (M : Mem) : Option (Mem) := gl (b_X9_daysGo_2 n  x1) n ((0 : Int32), M)
set_option maxHeartbeats 4000000 in
set_option maxRecDepth 100000 in
theorem c_X9_daysGo (l : Launch) (w : Wd) {X : (Nat → Prop) → State → Heap → Prop} (hXk : XOK X) (n : Nat) (x1 : Int32) (M : Mem) (res : Mem) (hf : f_X9_daysGo n  x1 M = some res) : CG l w layM 24 X yX9_daysGo cX9_daysGo 3 none 4 [.ref (w.2.2.1 0), .int x1] M (GQv w layM 24 res) := by
  refine cg_start (by decide +kernel) (Nat.le_of_ble_eq_true rfl) ?_
  intro p e s m args below meth c F hr hlk hX hG ls hl
  have F : FX w p m c cX9_daysGo 3 s args RX9 := F
  have hx := F.1.1
  have hb := F.1.2.1
  have hl : lv_has ls 3 [(0, .ref (w.2.2.1 0)), (1, .int x1)] := hl
  have hJ2 : ∀ (x1 : Int32) (x2 : Int32) (M : Mem) (H : Heap) (locs : List Loc) (ls : Array Slot), gl (b_X9_daysGo_2 n  x1) n (x2, M) = some res → GI w layM 24 s.heap M H locs → lv_has ls 3 [(0, .ref (w.2.2.1 0)), (1, .int x1), (2, .int x2)] → W p l e (Rm 4) s m args below meth c H locs 0 0 (MQ below (GQv w layM 24 res s.heap.size) args s 0 0 (gA w.2.2.1 24 s.heap.size)) (F0 m 2 ls []) := by
    intro x1 x2 M H locs ls hf hG hl
    refine gl_run (P := fun (q : (Int32 × Mem)) => ∀ (H : Heap) (locs : List Loc) (ls : Array Slot), GI w layM 24 s.heap q.2 H locs → lv_has ls 3 [(0, .ref (w.2.2.1 0)), (1, .int x1), (2, .int q.1)] → W p l e (Rm 4) s m args below meth c H locs 0 0 (MQ below (GQv w layM 24 res s.heap.size) args s 0 0 (gA w.2.2.1 24 s.heap.size)) (F0 m 2 ls [])) ?_ n (x2, M) hf H locs ls hG hl
    clear hf hG hl ls locs H M x2
    rintro ⟨x2, M⟩ rr2 hf hI2 hE2 H locs ls hG hl
    try dsimp only at hG hl ⊢
    dsimp only [b_X9_daysGo_2] at hf
    refine lv_iload_n hx hb dX9_daysGo_2 rfl (lv_at hl 2 rfl) ?_
    refine lv_iload_n hx hb dX9_daysGo_3 rfl (lv_at hl 1 rfl) ?_
    refine lv_icmp_ge (tgt := 19) hx hb dX9_daysGo_4 (by decide) (fun c1 => ?_) (fun c1 => ?_)
    · replace hf := if_t c1 hf
      replace hf := mr_some hf
      obtain ⟨z2, hf, hz⟩ := hf
      rw [hE2 _ hz] at hf
      exact cg_vret F hr hlk hG hf dX9_daysGo_19
    · replace hf := if_f c1 hf
      refine lv_aload_n hx hb dX9_daysGo_7 rfl (lv_at hl 0 rfl) ?_
      refine lv_bipush (v := 54) hx hb dX9_daysGo_8 (by decide) ?_
      replace hf := bd_some hf
      obtain ⟨q2, eq2, hf⟩ := hf
      refine gx_callv hG (gx_runV hXk F hX hG (c_X9_dayGoes l w hXk n  (54 : Int32) _ _ eq2) cv_X9_364 ⟨Nat.le_of_ble_eq_true rfl, Nat.le_of_ble_eq_true rfl⟩ (g_recv F hG mo_0 (by decide) rfl) rfl hl.1 rfl (Nat.le_of_ble_eq_true rfl) dX9_daysGo_10 ⟨Nat.le_refl _, Nat.le_refl _⟩) (fun H locs hG => ?_)
      refine lv_iinc (v := (x2 + (1 : Int32))) (lv' := [(2, .int (x2 + (1 : Int32))), (0, .ref (w.2.2.1 0)), (1, .int x1)]) hx hb dX9_daysGo_13 hl (k := 2) rfl rfl (by decide) rfl (fun ls hl => ?_)
      refine lv_goto (tgt := 2) hx hb dX9_daysGo_16 (by decide) ?_
      exact hI2 _ (Option.some.inj hf).symm _ _ ls hG (lv_sub hl [1, 2, 0] rfl)
  unfold f_X9_daysGo at hf
  refine lv_iconst (v := 0) hx hb dX9_daysGo_0 (by decide) ?_
  refine lv_istore_n (lv' := [(2, .int (0 : Int32)), (0, .ref (w.2.2.1 0)), (1, .int x1)]) hx hb dX9_daysGo_1 rfl hl (by decide) rfl (fun ls hl => ?_)
  exact hJ2 _ _ _ _ _ ls hf hG (lv_sub hl [1, 2, 0] rfl)

def f_X9_goesTo (n : Nat) (x1 : Int32) (M : Mem) : Option (Mem) := bd (f_X9_tries n   M) (fun q1 => bd (f_X9_daysGo n  x1 q1) (fun q2 => some q2))
set_option maxHeartbeats 4000000 in
set_option maxRecDepth 100000 in
theorem c_X9_goesTo (l : Launch) (w : Wd) {X : (Nat → Prop) → State → Heap → Prop} (hXk : XOK X) (n : Nat) (x1 : Int32) (M : Mem) (res : Mem) (hf : f_X9_goesTo n  x1 M = some res) : CG l w layM 24 X yX9_goesTo cX9_goesTo 2 none 5 [.ref (w.2.2.1 0), .int x1] M (GQv w layM 24 res) := by
  refine cg_start (by decide +kernel) (Nat.le_of_ble_eq_true rfl) ?_
  intro p e s m args below meth c F hr hlk hX hG ls hl
  have F : FX w p m c cX9_goesTo 2 s args RX9 := F
  have hx := F.1.1
  have hb := F.1.2.1
  have hl : lv_has ls 2 [(0, .ref (w.2.2.1 0)), (1, .int x1)] := hl
  unfold f_X9_goesTo at hf
  refine lv_aload_n hx hb dX9_goesTo_0 rfl (lv_at hl 0 rfl) ?_
  replace hf := bd_some hf
  obtain ⟨q1, eq1, hf⟩ := hf
  refine gx_callv hG (gx_runV hXk F hX hG (c_X9_tries l w hXk n   _ _ eq1) cv_X9_367 ⟨Nat.le_of_ble_eq_true rfl, Nat.le_of_ble_eq_true rfl⟩ (g_recv F hG mo_0 (by decide) rfl) rfl hl.1 rfl (Nat.le_of_ble_eq_true rfl) dX9_goesTo_1 ⟨Nat.le_refl _, Nat.le_refl _⟩) (fun H locs hG => ?_)
  refine lv_aload_n hx hb dX9_goesTo_4 rfl (lv_at hl 0 rfl) ?_
  refine lv_iload_n hx hb dX9_goesTo_5 rfl (lv_at hl 1 rfl) ?_
  replace hf := bd_some hf
  obtain ⟨q2, eq2, hf⟩ := hf
  refine gx_callv hG (gx_runV hXk F hX hG (c_X9_daysGo l w hXk n  x1 _ _ eq2) cv_X9_370 ⟨Nat.le_of_ble_eq_true rfl, Nat.le_of_ble_eq_true rfl⟩ (g_recv F hG mo_0 (by decide) rfl) rfl hl.1 rfl (Nat.le_of_ble_eq_true rfl) dX9_goesTo_6 ⟨Nat.le_refl _, Nat.le_refl _⟩) (fun H locs hG => ?_)
  exact cg_vret F hr hlk hG hf dX9_goesTo_9

def j_X9_doubters_36 (n : Nat) (t0 : Int32) (t1 : Int32) (x1 : Int32) (x3 : Int32) (M : Mem) : Option ((Int32 × Int32 × Mem) ⊕ (Int32 × Mem)) := some (.inl ((t1 ||| t0), (x3 + (1 : Int32)), M))
def b_X9_doubters_4 (n : Nat) (x1 : Int32) (q : (Int32 × Int32 × Mem)) : Option ((Int32 × Int32 × Mem) ⊕ (Int32 × Mem)) := match q with
  | (x2, x3, M) => if (gi M 0 1) ≤ x3 then (mr (some (x2, M))) else (ck (inb ((x1 + (38 : Int32)) + x3) 108) (if (10 : Int32) ≤ (gi M 12 ((x1 + (38 : Int32)) + x3).toNatClampNeg) then (j_X9_doubters_36 n  (0 : Int32) x2 x1 x3 M) else (j_X9_doubters_36 n  ((1 : Int32) <<< (x3 &&& 31)) x2 x1 x3 M)))
def f_X9_doubters (n : Nat) (x1 : Int32) (M : Mem) : Option (Int32 × Mem) := gl (b_X9_doubters_4 n  x1) n ((0 : Int32), (0 : Int32), M)
set_option maxHeartbeats 4000000 in
set_option maxRecDepth 100000 in
theorem c_X9_doubters (l : Launch) (w : Wd) {X : (Nat → Prop) → State → Heap → Prop} (hXk : XOK X) (n : Nat) (x1 : Int32) (M : Mem) (res : Int32 × Mem) (hf : f_X9_doubters n  x1 M = some res) : CG l w layM 24 X yX9_doubters cX9_doubters 4 (some .int) 0 [.ref (w.2.2.1 0), .int x1] M (GQi w layM 24 res) := by
  refine cg_start (by decide +kernel) (Nat.le_of_ble_eq_true rfl) ?_
  intro p e s m args below meth c F hr hlk hX hG ls hl
  have F : FX w p m c cX9_doubters 4 s args RX9 := F
  have hx := F.1.1
  have hb := F.1.2.1
  have hl : lv_has ls 4 [(0, .ref (w.2.2.1 0)), (1, .int x1)] := hl
  have hJ4 : ∀ (x1 : Int32) (x2 : Int32) (x3 : Int32) (M : Mem) (H : Heap) (locs : List Loc) (ls : Array Slot), gl (b_X9_doubters_4 n  x1) n (x2, x3, M) = some res → GI w layM 24 s.heap M H locs → lv_has ls 4 [(0, .ref (w.2.2.1 0)), (1, .int x1), (2, .int x2), (3, .int x3)] → W p l e (Rm 0) s m args below meth c H locs 0 0 (MQ below (GQi w layM 24 res s.heap.size) args s 0 0 (gA w.2.2.1 24 s.heap.size)) (F0 m 4 ls []) := by
    intro x1 x2 x3 M H locs ls hf hG hl
    refine gl_run (P := fun (q : (Int32 × Int32 × Mem)) => ∀ (H : Heap) (locs : List Loc) (ls : Array Slot), GI w layM 24 s.heap q.2.2 H locs → lv_has ls 4 [(0, .ref (w.2.2.1 0)), (1, .int x1), (2, .int q.1), (3, .int q.2.1)] → W p l e (Rm 0) s m args below meth c H locs 0 0 (MQ below (GQi w layM 24 res s.heap.size) args s 0 0 (gA w.2.2.1 24 s.heap.size)) (F0 m 4 ls [])) ?_ n (x2, x3, M) hf H locs ls hG hl
    clear hf hG hl ls locs H M x2 x3
    rintro ⟨x2, x3, M⟩ rr4 hf hI4 hE4 H locs ls hG hl
    try dsimp only at hG hl ⊢
    have hJ36 : ∀ (t0 : Int32) (t1 : Int32) (x3 : Int32) (M : Mem) (H : Heap) (locs : List Loc) (ls : Array Slot), j_X9_doubters_36 n  t0 t1 x1 x3 M = some rr4 → GI w layM 24 s.heap M H locs → lv_has ls 4 [(0, .ref (w.2.2.1 0)), (1, .int x1), (3, .int x3)] → W p l e (Rm 0) s m args below meth c H locs 0 0 (MQ below (GQi w layM 24 res s.heap.size) args s 0 0 (gA w.2.2.1 24 s.heap.size)) (F0 m 36 ls [.int t0, .int t1]) := by
      intro t0 t1 x3 M H locs ls hf hG hl
      unfold j_X9_doubters_36 at hf
      refine lv_ior hx hb dX9_doubters_36 ?_
      refine lv_istore_n (lv' := [(2, .int (t1 ||| t0)), (0, .ref (w.2.2.1 0)), (1, .int x1), (3, .int x3)]) hx hb dX9_doubters_37 rfl hl (by decide) rfl (fun ls hl => ?_)
      refine lv_iinc (v := (x3 + (1 : Int32))) (lv' := [(3, .int (x3 + (1 : Int32))), (2, .int (t1 ||| t0)), (0, .ref (w.2.2.1 0)), (1, .int x1)]) hx hb dX9_doubters_38 hl (k := 3) rfl rfl (by decide) rfl (fun ls hl => ?_)
      refine lv_goto (tgt := 4) hx hb dX9_doubters_41 (by decide) ?_
      exact hI4 _ (Option.some.inj hf).symm _ _ ls hG (lv_sub hl [2, 3, 1, 0] rfl)
    dsimp only [b_X9_doubters_4] at hf
    refine lv_iload_n hx hb dX9_doubters_4 rfl (lv_at hl 3 rfl) ?_
    refine lv_aload_n hx hb dX9_doubters_5 rfl (lv_at hl 0 rfl) ?_
    refine g_getI F hG mo_0 (by decide) (by decide) lk_X9_291 rfl dX9_doubters_6 ?_
    refine lv_icmp_ge (tgt := 44) hx hb dX9_doubters_9 (by decide) (fun c1 => ?_) (fun c1 => ?_)
    · replace hf := if_t c1 hf
      refine lv_iload_n hx hb dX9_doubters_44 rfl (lv_at hl 2 rfl) ?_
      replace hf := mr_some hf
      obtain ⟨z4, hf, hz⟩ := hf
      rw [hE4 _ hz] at hf
      exact cg_iret F hr hlk hG hf dX9_doubters_45
    · replace hf := if_f c1 hf
      refine lv_iload_n hx hb dX9_doubters_12 rfl (lv_at hl 2 rfl) ?_
      refine lv_aload_n hx hb dX9_doubters_13 rfl (lv_at hl 0 rfl) ?_
      refine g_getR F hG 12 mo_0 (by decide) (by decide) lk_X9_63 rfl dX9_doubters_14 ?_
      refine lv_iload_n hx hb dX9_doubters_17 rfl (lv_at hl 1 rfl) ?_
      refine lv_bipush (v := 38) hx hb dX9_doubters_18 (by decide) ?_
      refine lv_iadd hx hb dX9_doubters_20 ?_
      refine lv_iload_n hx hb dX9_doubters_21 rfl (lv_at hl 3 rfl) ?_
      refine lv_iadd hx hb dX9_doubters_22 ?_
      replace hf := ck_some hf
      obtain ⟨k2, hf⟩ := hf
      refine g_iald F hG oM_12 k2 dX9_doubters_23 ?_
      refine lv_bipush (v := 10) hx hb dX9_doubters_24 (by decide) ?_
      refine lv_icmp_ge (tgt := 35) hx hb dX9_doubters_26 (by decide) (fun c3 => ?_) (fun c3 => ?_)
      · replace hf := if_t c3 hf
        refine lv_iconst (v := 0) hx hb dX9_doubters_35 (by decide) ?_
        exact hJ36 _ _ _ _ _ _ ls hf hG (lv_sub hl [0, 1, 3] rfl)
      · replace hf := if_f c3 hf
        refine lv_iconst (v := 1) hx hb dX9_doubters_29 (by decide) ?_
        refine lv_iload_n hx hb dX9_doubters_30 rfl (lv_at hl 3 rfl) ?_
        refine lv_ishl hx hb dX9_doubters_31 ?_
        refine lv_goto (tgt := 36) hx hb dX9_doubters_32 (by decide) ?_
        exact hJ36 _ _ _ _ _ _ ls hf hG (lv_sub hl [0, 1, 3] rfl)
  unfold f_X9_doubters at hf
  refine lv_iconst (v := 0) hx hb dX9_doubters_0 (by decide) ?_
  refine lv_istore_n (lv' := [(2, .int (0 : Int32)), (0, .ref (w.2.2.1 0)), (1, .int x1)]) hx hb dX9_doubters_1 rfl hl (by decide) rfl (fun ls hl => ?_)
  refine lv_iconst (v := 0) hx hb dX9_doubters_2 (by decide) ?_
  refine lv_istore_n (lv' := [(3, .int (0 : Int32)), (2, .int (0 : Int32)), (0, .ref (w.2.2.1 0)), (1, .int x1)]) hx hb dX9_doubters_3 rfl hl (by decide) rfl (fun ls hl => ?_)
  exact hJ4 _ _ _ _ _ _ ls hf hG (lv_sub hl [2, 3, 1, 0] rfl)
