def b_X9_falls_11 (n : Nat) (q : (Int32 × Mem)) : Option ((Int32 × Mem) ⊕ (Int32 × Mem)) := match q with
  | (x1, M) => if (60 : Int32) < x1 then (mr (some ((-1 : Int32), M))) else (bd (f_X9_dayGoes n  (54 : Int32) M) (fun q2 => if (gi q2 0 48) ≤ 0 then (some (.inl ((x1 + (1 : Int32)), q2))) else (mr (some (x1, q2)))))
def f_X9_falls (n : Nat) (M : Mem) : Option (Int32 × Mem) := bd (f_X9_tries n   (si M 0 0 (0 : Int32))) (fun q4 => gl (b_X9_falls_11 n ) n ((1 : Int32), q4))
set_option maxHeartbeats 4000000 in
set_option maxRecDepth 100000 in
theorem c_X9_falls (l : Launch) (w : Wd) {X : (Nat → Prop) → State → Heap → Prop} (hXk : XOK X) (n : Nat) (M : Mem) (res : Int32 × Mem) (hf : f_X9_falls n   M = some res) : CG l w layM 24 X yX9_falls cX9_falls 2 (some .int) 4 [.ref (w.2.2.1 0)] M (GQi w layM 24 res) := by
  refine cg_start (by decide +kernel) (Nat.le_of_ble_eq_true rfl) ?_
  intro p e s m args below meth c F hr hlk hX hG ls hl
  have F : FX w p m c cX9_falls 2 s args RX9 := F
  have hx := F.1.1
  have hb := F.1.2.1
  have hl : lv_has ls 2 [(0, .ref (w.2.2.1 0))] := hl
  have hJ11 : ∀ (x1 : Int32) (M : Mem) (H : Heap) (locs : List Loc) (ls : Array Slot), gl (b_X9_falls_11 n  ) n (x1, M) = some res → GI w layM 24 s.heap M H locs → lv_has ls 2 [(0, .ref (w.2.2.1 0)), (1, .int x1)] → W p l e (Rm 4) s m args below meth c H locs 0 0 (MQ below (GQi w layM 24 res s.heap.size) args s 0 0 (gA w.2.2.1 24 s.heap.size)) (F0 m 11 ls []) := by
    intro x1 M H locs ls hf hG hl
    refine gl_run (P := fun (q : (Int32 × Mem)) => ∀ (H : Heap) (locs : List Loc) (ls : Array Slot), GI w layM 24 s.heap q.2 H locs → lv_has ls 2 [(0, .ref (w.2.2.1 0)), (1, .int q.1)] → W p l e (Rm 4) s m args below meth c H locs 0 0 (MQ below (GQi w layM 24 res s.heap.size) args s 0 0 (gA w.2.2.1 24 s.heap.size)) (F0 m 11 ls [])) ?_ n (x1, M) hf H locs ls hG hl
    clear hf hG hl ls locs H M x1
    rintro ⟨x1, M⟩ rr11 hf hI11 hE11 H locs ls hG hl
    try dsimp only at hG hl ⊢
    dsimp only [b_X9_falls_11] at hf
    refine lv_iload_n hx hb dX9_falls_11 rfl (lv_at hl 1 rfl) ?_
    refine lv_bipush (v := 60) hx hb dX9_falls_12 (by decide) ?_
    refine lv_icmp_gt (tgt := 38) hx hb dX9_falls_14 (by decide) (fun c1 => ?_) (fun c1 => ?_)
    · replace hf := if_t c1 hf
      refine lv_iconst (v := -1) hx hb dX9_falls_38 (by decide) ?_
      replace hf := mr_some hf
      obtain ⟨z11, hf, hz⟩ := hf
      rw [hE11 _ hz] at hf
      exact cg_iret F hr hlk hG hf dX9_falls_39
    · replace hf := if_f c1 hf
      refine lv_aload_n hx hb dX9_falls_17 rfl (lv_at hl 0 rfl) ?_
      refine lv_bipush (v := 54) hx hb dX9_falls_18 (by decide) ?_
      replace hf := bd_some hf
      obtain ⟨q2, eq2, hf⟩ := hf
      refine gx_callv hG (gx_runV hXk F hX hG (c_X9_dayGoes l w hXk n  (54 : Int32) _ _ eq2) cv_X9_364 ⟨Nat.le_of_ble_eq_true rfl, Nat.le_of_ble_eq_true rfl⟩ (g_recv F hG mo_0 (by decide) rfl) rfl hl.1 rfl (Nat.le_of_ble_eq_true rfl) dX9_falls_20 ⟨Nat.le_refl _, Nat.le_refl _⟩) (fun H locs hG => ?_)
      refine lv_aload_n hx hb dX9_falls_23 rfl (lv_at hl 0 rfl) ?_
      refine g_getI F hG mo_0 (by decide) (by decide) lk_X9_311 rfl dX9_falls_24 ?_
      refine lv_if_le (tgt := 32) hx hb dX9_falls_27 (by decide) (fun c3 => ?_) (fun c3 => ?_)
      · replace hf := if_t c3 hf
        refine lv_iinc (v := (x1 + (1 : Int32))) (lv' := [(1, .int (x1 + (1 : Int32))), (0, .ref (w.2.2.1 0))]) hx hb dX9_falls_32 hl (k := 1) rfl rfl (by decide) rfl (fun ls hl => ?_)
        refine lv_goto (tgt := 11) hx hb dX9_falls_35 (by decide) ?_
        exact hI11 _ (Option.some.inj hf).symm _ _ ls hG (lv_sub hl [1, 0] rfl)
      · replace hf := if_f c3 hf
        refine lv_iload_n hx hb dX9_falls_30 rfl (lv_at hl 1 rfl) ?_
        replace hf := mr_some hf
        obtain ⟨z11, hf, hz⟩ := hf
        rw [hE11 _ hz] at hf
        exact cg_iret F hr hlk hG hf dX9_falls_31
  unfold f_X9_falls at hf
  refine lv_aload_n hx hb dX9_falls_0 rfl (lv_at hl 0 rfl) ?_
  refine lv_iconst (v := 0) hx hb dX9_falls_1 (by decide) ?_
  refine g_putI F hG mo_0 (by decide) (by decide) lkv_X9_102 rfl rfl rfl dX9_falls_2 (fun H locs hG => ?_)
  refine lv_aload_n hx hb dX9_falls_5 rfl (lv_at hl 0 rfl) ?_
  replace hf := bd_some hf
  obtain ⟨q4, eq4, hf⟩ := hf
  refine gx_callv hG (gx_runV hXk F hX hG (c_X9_tries l w hXk n   _ _ eq4) cv_X9_367 ⟨Nat.le_of_ble_eq_true rfl, Nat.le_of_ble_eq_true rfl⟩ (g_recv F hG mo_0 (by decide) rfl) rfl hl.1 rfl (Nat.le_of_ble_eq_true rfl) dX9_falls_6 ⟨Nat.le_refl _, Nat.le_refl _⟩) (fun H locs hG => ?_)
  refine lv_iconst (v := 1) hx hb dX9_falls_9 (by decide) ?_
  refine lv_istore_n (lv' := [(1, .int (1 : Int32)), (0, .ref (w.2.2.1 0))]) hx hb dX9_falls_10 rfl hl (by decide) rfl (fun ls hl => ?_)
  exact hJ11 _ _ _ _ ls hf hG (lv_sub hl [1, 0] rfl)

def j_X9_later_81 (n : Nat) (x2 : Int32) (x3 : Int32) (M : Mem) : Option (Int32 × Mem) := if x2 = 0 then (bd (f_X9_doubters n  (54 : Int32) M) (fun q2 => some (q2.1, q2.2))) else (some (x3, M))
def j_X9_later_75 (n : Nat) (x2 : Int32) (x3 : Int32) (x4 : Int32) (M : Mem) : Option ((Int32 × Int32 × Mem) ⊕ (Int32 × Mem)) := some (.inl (x3, (x4 + (1 : Int32)), M))
def j_X9_later_72 (n : Nat) (x2 : Int32) (x4 : Int32) (M : Mem) : Option ((Int32 × Int32 × Mem) ⊕ (Int32 × Mem)) := j_X9_later_75 n  x2 x4 x4 M
def b_X9_later_36 (n : Nat) (x2 : Int32) (q : (Int32 × Int32 × Mem)) : Option ((Int32 × Int32 × Mem) ⊕ (Int32 × Mem)) := match q with
  | (x3, x4, M) => if (gi M 0 1) ≤ x4 then (mr (j_X9_later_81 n  x2 x3 M)) else (if x3 = (-1 : Int32) then (j_X9_later_72 n  x2 x4 M) else (ck (inb ((92 : Int32) + x4) 108) (ck (inb ((92 : Int32) + x3) 108) (if (gi M 12 ((92 : Int32) + x4).toNatClampNeg) ≤ (gi M 12 ((92 : Int32) + x3).toNatClampNeg) then (j_X9_later_75 n  x2 x3 x4 M) else (j_X9_later_72 n  x2 x4 M)))))
def f_X9_later (n : Nat) (x1 : Int32) (x2 : Int32) (M : Mem) : Option (Int32 × Mem) := bd (f_X9_isWhat n  x2 (1 : Int32) (si M 0 0 (0 : Int32))) (fun q8 => if q8.1 = 0 then (some ((0 : Int32), q8.2)) else (bd (f_X9_isSoon n  x1 (0 : Int32) (2 : Int32) q8.2) (fun q10 => if q10.1 = 0 then (some ((0 : Int32), q10.2)) else (bd (f_X9_goesTo n  x1 q10.2) (fun q12 => gl (b_X9_later_36 n  x2) n ((-1 : Int32), (0 : Int32), q12))))))
set_option maxHeartbeats 4000000 in
set_option maxRecDepth 100000 in
theorem c_X9_later (l : Launch) (w : Wd) {X : (Nat → Prop) → State → Heap → Prop} (hXk : XOK X) (n : Nat) (x1 : Int32) (x2 : Int32) (M : Mem) (res : Int32 × Mem) (hf : f_X9_later n  x1 x2 M = some res) : CG l w layM 24 X yX9_later cX9_later 5 (some .int) 6 [.ref (w.2.2.1 0), .int x1, .int x2] M (GQi w layM 24 res) := by
  refine cg_start (by decide +kernel) (Nat.le_of_ble_eq_true rfl) ?_
  intro p e s m args below meth c F hr hlk hX hG ls hl
  have F : FX w p m c cX9_later 5 s args RX9 := F
  have hx := F.1.1
  have hb := F.1.2.1
  have hl : lv_has ls 5 [(0, .ref (w.2.2.1 0)), (1, .int x1), (2, .int x2)] := hl
  have hJ81 : ∀ (x2 : Int32) (x3 : Int32) (M : Mem) (H : Heap) (locs : List Loc) (ls : Array Slot), j_X9_later_81 n  x2 x3 M = some res → GI w layM 24 s.heap M H locs → lv_has ls 5 [(0, .ref (w.2.2.1 0)), (2, .int x2), (3, .int x3)] → W p l e (Rm 6) s m args below meth c H locs 0 0 (MQ below (GQi w layM 24 res s.heap.size) args s 0 0 (gA w.2.2.1 24 s.heap.size)) (F0 m 81 ls []) := by
    intro x2 x3 M H locs ls hf hG hl
    unfold j_X9_later_81 at hf
    refine lv_iload_n hx hb dX9_later_81 rfl (lv_at hl 1 rfl) ?_
    refine lv_if_ne (tgt := 94) hx hb dX9_later_82 (by decide) (fun c1 => ?_) (fun c1 => ?_)
    · replace hf := if_f c1 hf
      refine lv_iload_n hx hb dX9_later_94 rfl (lv_at hl 2 rfl) ?_
      exact cg_iret F hr hlk hG hf dX9_later_95
    · replace hf := if_t c1 hf
      refine lv_aload_n hx hb dX9_later_85 rfl (lv_at hl 0 rfl) ?_
      refine lv_bipush (v := 54) hx hb dX9_later_86 (by decide) ?_
      replace hf := bd_some hf
      obtain ⟨q2, eq2, hf⟩ := hf
      refine gx_calli hG (gx_runV hXk F hX hG (c_X9_doubters l w hXk n  (54 : Int32) _ _ eq2) cv_X9_393 ⟨Nat.le_of_ble_eq_true rfl, Nat.le_of_ble_eq_true rfl⟩ (g_recv F hG mo_0 (by decide) rfl) rfl hl.1 rfl (Nat.le_of_ble_eq_true rfl) dX9_later_88 ⟨Nat.le_refl _, Nat.le_refl _⟩) (fun H locs hG => ?_)
      refine lv_goto (tgt := 95) hx hb dX9_later_91 (by decide) ?_
      exact cg_iret F hr hlk hG hf dX9_later_95
  have hJ36 : ∀ (x2 : Int32) (x3 : Int32) (x4 : Int32) (M : Mem) (H : Heap) (locs : List Loc) (ls : Array Slot), gl (b_X9_later_36 n  x2) n (x3, x4, M) = some res → GI w layM 24 s.heap M H locs → lv_has ls 5 [(0, .ref (w.2.2.1 0)), (2, .int x2), (3, .int x3), (4, .int x4)] → W p l e (Rm 6) s m args below meth c H locs 0 0 (MQ below (GQi w layM 24 res s.heap.size) args s 0 0 (gA w.2.2.1 24 s.heap.size)) (F0 m 36 ls []) := by
    intro x2 x3 x4 M H locs ls hf hG hl
    refine gl_run (P := fun (q : (Int32 × Int32 × Mem)) => ∀ (H : Heap) (locs : List Loc) (ls : Array Slot), GI w layM 24 s.heap q.2.2 H locs → lv_has ls 5 [(0, .ref (w.2.2.1 0)), (2, .int x2), (3, .int q.1), (4, .int q.2.1)] → W p l e (Rm 6) s m args below meth c H locs 0 0 (MQ below (GQi w layM 24 res s.heap.size) args s 0 0 (gA w.2.2.1 24 s.heap.size)) (F0 m 36 ls [])) ?_ n (x3, x4, M) hf H locs ls hG hl
    clear hf hG hl ls locs H M x3 x4
    rintro ⟨x3, x4, M⟩ rr36 hf hI36 hE36 H locs ls hG hl
    try dsimp only at hG hl ⊢
    have hJ75 : ∀ (x3 : Int32) (x4 : Int32) (M : Mem) (H : Heap) (locs : List Loc) (ls : Array Slot), j_X9_later_75 n  x2 x3 x4 M = some rr36 → GI w layM 24 s.heap M H locs → lv_has ls 5 [(0, .ref (w.2.2.1 0)), (2, .int x2), (3, .int x3), (4, .int x4)] → W p l e (Rm 6) s m args below meth c H locs 0 0 (MQ below (GQi w layM 24 res s.heap.size) args s 0 0 (gA w.2.2.1 24 s.heap.size)) (F0 m 75 ls []) := by
      intro x3 x4 M H locs ls hf hG hl
      unfold j_X9_later_75 at hf
      refine lv_iinc (v := (x4 + (1 : Int32))) (lv' := [(4, .int (x4 + (1 : Int32))), (0, .ref (w.2.2.1 0)), (2, .int x2), (3, .int x3)]) hx hb dX9_later_75 hl (k := 3) rfl rfl (by decide) rfl (fun ls hl => ?_)
      refine lv_goto (tgt := 36) hx hb dX9_later_78 (by decide) ?_
      exact hI36 _ (Option.some.inj hf).symm _ _ ls hG (lv_sub hl [1, 2, 3, 0] rfl)
    have hJ72 : ∀ (x4 : Int32) (M : Mem) (H : Heap) (locs : List Loc) (ls : Array Slot), j_X9_later_72 n  x2 x4 M = some rr36 → GI w layM 24 s.heap M H locs → lv_has ls 5 [(0, .ref (w.2.2.1 0)), (2, .int x2), (4, .int x4)] → W p l e (Rm 6) s m args below meth c H locs 0 0 (MQ below (GQi w layM 24 res s.heap.size) args s 0 0 (gA w.2.2.1 24 s.heap.size)) (F0 m 72 ls []) := by
      intro x4 M H locs ls hf hG hl
      unfold j_X9_later_72 at hf
      refine lv_iload hx hb dX9_later_72 (lv_at hl 2 rfl) ?_
      refine lv_istore_n (lv' := [(3, .int x4), (0, .ref (w.2.2.1 0)), (2, .int x2), (4, .int x4)]) hx hb dX9_later_74 rfl hl (by decide) rfl (fun ls hl => ?_)
      exact hJ75 _ _ _ _ _ ls hf hG (lv_sub hl [1, 2, 0, 3] rfl)
    dsimp only [b_X9_later_36] at hf
    refine lv_iload hx hb dX9_later_36 (lv_at hl 3 rfl) ?_
    refine lv_aload_n hx hb dX9_later_38 rfl (lv_at hl 0 rfl) ?_
    refine g_getI F hG mo_0 (by decide) (by decide) lk_X9_291 rfl dX9_later_39 ?_
    refine lv_icmp_ge (tgt := 81) hx hb dX9_later_42 (by decide) (fun c3 => ?_) (fun c3 => ?_)
    · replace hf := if_t c3 hf
      replace hf := mr_some hf
      obtain ⟨z36, hf, hz⟩ := hf
      rw [hE36 _ hz] at hf
      exact hJ81 _ _ _ _ _ ls hf hG (lv_sub hl [0, 1, 2] rfl)
    · replace hf := if_f c3 hf
      refine lv_iload_n hx hb dX9_later_45 rfl (lv_at hl 2 rfl) ?_
      refine lv_iconst (v := -1) hx hb dX9_later_46 (by decide) ?_
      refine lv_icmp_eq (tgt := 72) hx hb dX9_later_47 (by decide) (fun c4 => ?_) (fun c4 => ?_)
      · replace hf := if_t c4 hf
        exact hJ72 _ _ _ _ ls hf hG (lv_sub hl [0, 1, 3] rfl)
      · replace hf := if_f c4 hf
        refine lv_aload_n hx hb dX9_later_50 rfl (lv_at hl 0 rfl) ?_
        refine g_getR F hG 12 mo_0 (by decide) (by decide) lk_X9_63 rfl dX9_later_51 ?_
        refine lv_bipush (v := 92) hx hb dX9_later_54 (by decide) ?_
        refine lv_iload hx hb dX9_later_56 (lv_at hl 3 rfl) ?_
        refine lv_iadd hx hb dX9_later_58 ?_
        replace hf := ck_some hf
        obtain ⟨k5, hf⟩ := hf
        refine g_iald F hG oM_12 k5 dX9_later_59 ?_
        refine lv_aload_n hx hb dX9_later_60 rfl (lv_at hl 0 rfl) ?_
        refine g_getR F hG 12 mo_0 (by decide) (by decide) lk_X9_63 rfl dX9_later_61 ?_
        refine lv_bipush (v := 92) hx hb dX9_later_64 (by decide) ?_
        refine lv_iload_n hx hb dX9_later_66 rfl (lv_at hl 2 rfl) ?_
        refine lv_iadd hx hb dX9_later_67 ?_
        replace hf := ck_some hf
        obtain ⟨k6, hf⟩ := hf
        refine g_iald F hG oM_12 k6 dX9_later_68 ?_
        refine lv_icmp_le (tgt := 75) hx hb dX9_later_69 (by decide) (fun c7 => ?_) (fun c7 => ?_)
        · replace hf := if_t c7 hf
          exact hJ75 _ _ _ _ _ ls hf hG (lv_sub hl [0, 1, 2, 3] rfl)
        · replace hf := if_f c7 hf
          exact hJ72 _ _ _ _ ls hf hG (lv_sub hl [0, 1, 3] rfl)
  unfold f_X9_later at hf
  refine lv_aload_n hx hb dX9_later_0 rfl (lv_at hl 0 rfl) ?_
  refine lv_iconst (v := 0) hx hb dX9_later_1 (by decide) ?_
  refine g_putI F hG mo_0 (by decide) (by decide) lkv_X9_102 rfl rfl rfl dX9_later_2 (fun H locs hG => ?_)
  refine lv_aload_n hx hb dX9_later_5 rfl (lv_at hl 0 rfl) ?_
  refine lv_iload_n hx hb dX9_later_6 rfl (lv_at hl 2 rfl) ?_
  refine lv_iconst (v := 1) hx hb dX9_later_7 (by decide) ?_
  replace hf := bd_some hf
  obtain ⟨q8, eq8, hf⟩ := hf
  refine gx_calli hG (gx_runV hXk F hX hG (c_X9_isWhat l w hXk n  x2 (1 : Int32) _ _ eq8) cv_X9_396 ⟨Nat.le_of_ble_eq_true rfl, Nat.le_of_ble_eq_true rfl⟩ (g_recv F hG mo_0 (by decide) rfl) rfl hl.1 rfl (Nat.le_of_ble_eq_true rfl) dX9_later_8 ⟨Nat.le_refl _, Nat.le_refl _⟩) (fun H locs hG => ?_)
  refine lv_if_eq (tgt := 24) hx hb dX9_later_11 (by decide) (fun c9 => ?_) (fun c9 => ?_)
  · replace hf := if_t c9 hf
    refine lv_iconst (v := 0) hx hb dX9_later_24 (by decide) ?_
    exact cg_iret F hr hlk hG hf dX9_later_25
  · replace hf := if_f c9 hf
    refine lv_aload_n hx hb dX9_later_14 rfl (lv_at hl 0 rfl) ?_
    refine lv_iload_n hx hb dX9_later_15 rfl (lv_at hl 1 rfl) ?_
    refine lv_iconst (v := 0) hx hb dX9_later_16 (by decide) ?_
    refine lv_iconst (v := 2) hx hb dX9_later_17 (by decide) ?_
    replace hf := bd_some hf
    obtain ⟨q10, eq10, hf⟩ := hf
    refine gx_calli hG (gx_runV hXk F hX hG (c_X9_isSoon l w hXk n  x1 (0 : Int32) (2 : Int32) _ _ eq10) cv_X9_412 ⟨Nat.le_of_ble_eq_true rfl, Nat.le_of_ble_eq_true rfl⟩ (g_recv F hG mo_0 (by decide) rfl) rfl hl.1 rfl (Nat.le_of_ble_eq_true rfl) dX9_later_18 ⟨Nat.le_refl _, Nat.le_refl _⟩) (fun H locs hG => ?_)
    refine lv_if_ne (tgt := 26) hx hb dX9_later_21 (by decide) (fun c11 => ?_) (fun c11 => ?_)
    · replace hf := if_f c11 hf
      refine lv_aload_n hx hb dX9_later_26 rfl (lv_at hl 0 rfl) ?_
      refine lv_iload_n hx hb dX9_later_27 rfl (lv_at hl 1 rfl) ?_
      replace hf := bd_some hf
      obtain ⟨q12, eq12, hf⟩ := hf
      refine gx_callv hG (gx_runV hXk F hX hG (c_X9_goesTo l w hXk n  x1 _ _ eq12) cv_X9_415 ⟨Nat.le_of_ble_eq_true rfl, Nat.le_of_ble_eq_true rfl⟩ (g_recv F hG mo_0 (by decide) rfl) rfl hl.1 rfl (Nat.le_of_ble_eq_true rfl) dX9_later_28 ⟨Nat.le_refl _, Nat.le_refl _⟩) (fun H locs hG => ?_)
      refine lv_iconst (v := -1) hx hb dX9_later_31 (by decide) ?_
      refine lv_istore_n (lv' := [(3, .int (-1 : Int32)), (0, .ref (w.2.2.1 0)), (1, .int x1), (2, .int x2)]) hx hb dX9_later_32 rfl hl (by decide) rfl (fun ls hl => ?_)
      refine lv_iconst (v := 0) hx hb dX9_later_33 (by decide) ?_
      refine lv_istore (lv' := [(4, .int (0 : Int32)), (3, .int (-1 : Int32)), (0, .ref (w.2.2.1 0)), (1, .int x1), (2, .int x2)]) hx hb dX9_later_34 hl (by decide) rfl (fun ls hl => ?_)
      exact hJ36 _ _ _ _ _ _ ls hf hG (lv_sub hl [2, 4, 1, 0] rfl)
    · replace hf := if_t c11 hf
      refine lv_iconst (v := 0) hx hb dX9_later_24 (by decide) ?_
      exact cg_iret F hr hlk hG hf dX9_later_25

def j_X9_through_149 (n : Nat) (x2 : Int32) (x3 : Int32) (x4 : Int32) (x5 : Int32) (x7 : Int32) (M : Mem) : Option (Int32 × Mem) := if x2 = 0 then (some (x3, M)) else (if x2 = (1 : Int32) then (some (x4, M)) else (if x2 = (2 : Int32) then (some (x5, M)) else (some (x7, M))))
def j_X9_through_143 (n : Nat) (x1 : Int32) (x2 : Int32) (x3 : Int32) (x4 : Int32) (x5 : Int32) (x6 : Int32) (x7 : Int32) (x8 : Int32) (M : Mem) : Option ((Int32 × Int32 × Int32 × Int32 × Int32 × Int32 × Mem) ⊕ (Int32 × Mem)) := some (.inl (x3, x4, x5, x6, x7, (x8 + (1 : Int32)), M))
def j_X9_through_118 (n : Nat) (t0 : Int32) (t1 : Int32) (x1 : Int32) (x2 : Int32) (x3 : Int32) (x4 : Int32) (x5 : Int32) (x6 : Int32) (x8 : Int32) (M : Mem) : Option ((Int32 × Int32 × Int32 × Int32 × Int32 × Int32 × Mem) ⊕ (Int32 × Mem)) := if x6 < (gi M 0 49) then (j_X9_through_143 n  x1 x2 x3 x4 x8 (gi M 0 49) (t1 + t0) x8 M) else (j_X9_through_143 n  x1 x2 x3 x4 x5 x6 (t1 + t0) x8 M)
def j_X9_through_98 (n : Nat) (t0 : Int32) (t1 : Int32) (x1 : Int32) (x2 : Int32) (x3 : Int32) (x5 : Int32) (x6 : Int32) (x7 : Int32) (x8 : Int32) (M : Mem) : Option ((Int32 × Int32 × Int32 × Int32 × Int32 × Int32 × Mem) ⊕ (Int32 × Mem)) := if (gi M 12 (59 : Int32).toNatClampNeg) = 0 then (j_X9_through_118 n  (1 : Int32) x7 x1 x2 x3 (t1 + t0) x5 x6 x8 M) else (j_X9_through_118 n  (0 : Int32) x7 x1 x2 x3 (t1 + t0) x5 x6 x8 M)
def j_X9_through_81 (n : Nat) (t0 : Int32) (x1 : Int32) (x2 : Int32) (x4 : Int32) (x5 : Int32) (x6 : Int32) (x7 : Int32) (x8 : Int32) (M : Mem) : Option ((Int32 × Int32 × Int32 × Int32 × Int32 × Int32 × Mem) ⊕ (Int32 × Mem)) := bd (f_X9_isDone n  (54 : Int32) M) (fun q6 => if q6.1 = 0 then (j_X9_through_98 n  (0 : Int32) x4 x1 x2 t0 x5 x6 x7 x8 q6.2) else (j_X9_through_98 n  (1 : Int32) x4 x1 x2 t0 x5 x6 x7 x8 q6.2))
def b_X9_through_47 (n : Nat) (x1 : Int32) (x2 : Int32) (q : (Int32 × Int32 × Int32 × Int32 × Int32 × Int32 × Mem)) : Option ((Int32 × Int32 × Int32 × Int32 × Int32 × Int32 × Mem) ⊕ (Int32 × Mem)) := match q with
  | (x3, x4, x5, x6, x7, x8, M) => if x1 < x8 then (mr (j_X9_through_149 n  x2 x3 x4 x5 x7 M)) else (bd (f_X9_dayGoes n  (54 : Int32) M) (fun q9 => if (gi q9 12 (56 : Int32).toNatClampNeg) ≤ x3 then (j_X9_through_81 n  x3 x1 x2 x4 x5 x6 x7 x8 q9) else (j_X9_through_81 n  (gi q9 12 (56 : Int32).toNatClampNeg) x1 x2 x4 x5 x6 x7 x8 q9)))
def f_X9_through (n : Nat) (x1 : Int32) (x2 : Int32) (M : Mem) : Option (Int32 × Mem) := bd (f_X9_isWhat n  x2 (3 : Int32) (si M 0 0 (0 : Int32))) (fun q11 => if q11.1 = 0 then (some ((0 : Int32), q11.2)) else (bd (f_X9_isSoon n  x1 (1 : Int32) (2 : Int32) q11.2) (fun q13 => if q13.1 = 0 then (some ((0 : Int32), q13.2)) else (bd (f_X9_tries n   q13.2) (fun q15 => gl (b_X9_through_47 n  x1 x2) n ((0 : Int32), (0 : Int32), (0 : Int32), (-1 : Int32), (0 : Int32), (1 : Int32), q15))))))
set_option maxHeartbeats 4000000 in
set_option maxRecDepth 100000 in
theorem c_X9_through (l : Launch) (w : Wd) {X : (Nat → Prop) → State → Heap → Prop} (hXk : XOK X) (n : Nat) (x1 : Int32) (x2 : Int32) (M : Mem) (res : Int32 × Mem) (hf : f_X9_through n  x1 x2 M = some res) : CG l w layM 24 X yX9_through cX9_through 9 (some .int) 4 [.ref (w.2.2.1 0), .int x1, .int x2] M (GQi w layM 24 res) := by
  refine cg_start (by decide +kernel) (Nat.le_of_ble_eq_true rfl) ?_
  intro p e s m args below meth c F hr hlk hX hG ls hl
  have F : FX w p m c cX9_through 9 s args RX9 := F
  have hx := F.1.1
  have hb := F.1.2.1
  have hl : lv_has ls 9 [(0, .ref (w.2.2.1 0)), (1, .int x1), (2, .int x2)] := hl
  have hJ149 : ∀ (x2 : Int32) (x3 : Int32) (x4 : Int32) (x5 : Int32) (x7 : Int32) (M : Mem) (H : Heap) (locs : List Loc) (ls : Array Slot), j_X9_through_149 n  x2 x3 x4 x5 x7 M = some res → GI w layM 24 s.heap M H locs → lv_has ls 9 [(2, .int x2), (3, .int x3), (4, .int x4), (5, .int x5), (7, .int x7)] → W p l e (Rm 4) s m args below meth c H locs 0 0 (MQ below (GQi w layM 24 res s.heap.size) args s 0 0 (gA w.2.2.1 24 s.heap.size)) (F0 m 149 ls []) := by
    intro x2 x3 x4 x5 x7 M H locs ls hf hG hl
    unfold j_X9_through_149 at hf
    refine lv_iload_n hx hb dX9_through_149 rfl (lv_at hl 0 rfl) ?_
    refine lv_if_ne (tgt := 157) hx hb dX9_through_150 (by decide) (fun c1 => ?_) (fun c1 => ?_)
    · replace hf := if_f c1 hf
      refine lv_iload_n hx hb dX9_through_157 rfl (lv_at hl 0 rfl) ?_
      refine lv_iconst (v := 1) hx hb dX9_through_158 (by decide) ?_
      refine lv_icmp_ne (tgt := 167) hx hb dX9_through_159 (by decide) (fun c2 => ?_) (fun c2 => ?_)
      · replace hf := if_f c2 hf
        refine lv_iload_n hx hb dX9_through_167 rfl (lv_at hl 0 rfl) ?_
        refine lv_iconst (v := 2) hx hb dX9_through_168 (by decide) ?_
        refine lv_icmp_ne (tgt := 177) hx hb dX9_through_169 (by decide) (fun c3 => ?_) (fun c3 => ?_)
        · replace hf := if_f c3 hf
          refine lv_iload hx hb dX9_through_177 (lv_at hl 4 rfl) ?_
          exact cg_iret F hr hlk hG hf dX9_through_179
        · replace hf := if_t c3 hf
          refine lv_iload hx hb dX9_through_172 (lv_at hl 3 rfl) ?_
          refine lv_goto (tgt := 179) hx hb dX9_through_174 (by decide) ?_
          exact cg_iret F hr hlk hG hf dX9_through_179
      · replace hf := if_t c2 hf
        refine lv_iload hx hb dX9_through_162 (lv_at hl 2 rfl) ?_
        refine lv_goto (tgt := 179) hx hb dX9_through_164 (by decide) ?_
        exact cg_iret F hr hlk hG hf dX9_through_179
    · replace hf := if_t c1 hf
      refine lv_iload_n hx hb dX9_through_153 rfl (lv_at hl 1 rfl) ?_
      refine lv_goto (tgt := 179) hx hb dX9_through_154 (by decide) ?_
      exact cg_iret F hr hlk hG hf dX9_through_179
  have hJ47 : ∀ (x1 : Int32) (x2 : Int32) (x3 : Int32) (x4 : Int32) (x5 : Int32) (x6 : Int32) (x7 : Int32) (x8 : Int32) (M : Mem) (H : Heap) (locs : List Loc) (ls : Array Slot), gl (b_X9_through_47 n  x1 x2) n (x3, x4, x5, x6, x7, x8, M) = some res → GI w layM 24 s.heap M H locs → lv_has ls 9 [(0, .ref (w.2.2.1 0)), (1, .int x1), (2, .int x2), (3, .int x3), (4, .int x4), (5, .int x5), (6, .int x6), (7, .int x7), (8, .int x8)] → W p l e (Rm 4) s m args below meth c H locs 0 0 (MQ below (GQi w layM 24 res s.heap.size) args s 0 0 (gA w.2.2.1 24 s.heap.size)) (F0 m 47 ls []) := by
    intro x1 x2 x3 x4 x5 x6 x7 x8 M H locs ls hf hG hl
    refine gl_run (P := fun (q : (Int32 × Int32 × Int32 × Int32 × Int32 × Int32 × Mem)) => ∀ (H : Heap) (locs : List Loc) (ls : Array Slot), GI w layM 24 s.heap q.2.2.2.2.2.2 H locs → lv_has ls 9 [(0, .ref (w.2.2.1 0)), (1, .int x1), (2, .int x2), (3, .int q.1), (4, .int q.2.1), (5, .int q.2.2.1), (6, .int q.2.2.2.1), (7, .int q.2.2.2.2.1), (8, .int q.2.2.2.2.2.1)] → W p l e (Rm 4) s m args below meth c H locs 0 0 (MQ below (GQi w layM 24 res s.heap.size) args s 0 0 (gA w.2.2.1 24 s.heap.size)) (F0 m 47 ls [])) ?_ n (x3, x4, x5, x6, x7, x8, M) hf H locs ls hG hl
    clear hf hG hl ls locs H M x3 x4 x5 x6 x7 x8
    rintro ⟨x3, x4, x5, x6, x7, x8, M⟩ rr47 hf hI47 hE47 H locs ls hG hl
    try dsimp only at hG hl ⊢
    have hJ143 : ∀ (x3 : Int32) (x4 : Int32) (x5 : Int32) (x6 : Int32) (x7 : Int32) (x8 : Int32) (M : Mem) (H : Heap) (locs : List Loc) (ls : Array Slot), j_X9_through_143 n  x1 x2 x3 x4 x5 x6 x7 x8 M = some rr47 → GI w layM 24 s.heap M H locs → lv_has ls 9 [(0, .ref (w.2.2.1 0)), (1, .int x1), (2, .int x2), (3, .int x3), (4, .int x4), (5, .int x5), (6, .int x6), (7, .int x7), (8, .int x8)] → W p l e (Rm 4) s m args below meth c H locs 0 0 (MQ below (GQi w layM 24 res s.heap.size) args s 0 0 (gA w.2.2.1 24 s.heap.size)) (F0 m 143 ls []) := by
      intro x3 x4 x5 x6 x7 x8 M H locs ls hf hG hl
      unfold j_X9_through_143 at hf
      refine lv_iinc (v := (x8 + (1 : Int32))) (lv' := [(8, .int (x8 + (1 : Int32))), (0, .ref (w.2.2.1 0)), (1, .int x1), (2, .int x2), (3, .int x3), (4, .int x4), (5, .int x5), (6, .int x6), (7, .int x7)]) hx hb dX9_through_143 hl (k := 8) rfl rfl (by decide) rfl (fun ls hl => ?_)
      refine lv_goto (tgt := 47) hx hb dX9_through_146 (by decide) ?_
      exact hI47 _ (Option.some.inj hf).symm _ _ ls hG (lv_sub hl [1, 2, 3, 4, 5, 6, 7, 8, 0] rfl)
    have hJ118 : ∀ (t0 : Int32) (t1 : Int32) (x3 : Int32) (x4 : Int32) (x5 : Int32) (x6 : Int32) (x8 : Int32) (M : Mem) (H : Heap) (locs : List Loc) (ls : Array Slot), j_X9_through_118 n  t0 t1 x1 x2 x3 x4 x5 x6 x8 M = some rr47 → GI w layM 24 s.heap M H locs → lv_has ls 9 [(0, .ref (w.2.2.1 0)), (1, .int x1), (2, .int x2), (3, .int x3), (4, .int x4), (5, .int x5), (6, .int x6), (8, .int x8)] → W p l e (Rm 4) s m args below meth c H locs 0 0 (MQ below (GQi w layM 24 res s.heap.size) args s 0 0 (gA w.2.2.1 24 s.heap.size)) (F0 m 118 ls [.int t0, .int t1]) := by
      intro t0 t1 x3 x4 x5 x6 x8 M H locs ls hf hG hl
      unfold j_X9_through_118 at hf
      refine lv_iadd hx hb dX9_through_118 ?_
      refine lv_istore (lv' := [(7, .int (t1 + t0)), (0, .ref (w.2.2.1 0)), (1, .int x1), (2, .int x2), (3, .int x3), (4, .int x4), (5, .int x5), (6, .int x6), (8, .int x8)]) hx hb dX9_through_119 hl (by decide) rfl (fun ls hl => ?_)
      refine lv_aload_n hx hb dX9_through_121 rfl (lv_at hl 1 rfl) ?_
      refine g_getI F hG mo_0 (by decide) (by decide) lk_X9_346 rfl dX9_through_122 ?_
      refine lv_iload hx hb dX9_through_125 (lv_at hl 7 rfl) ?_
      refine lv_icmp_gt (tgt := 133) hx hb dX9_through_127 (by decide) (fun c4 => ?_) (fun c4 => ?_)
      · replace hf := if_t c4 hf
        refine lv_aload_n hx hb dX9_through_133 rfl (lv_at hl 1 rfl) ?_
        refine g_getI F hG mo_0 (by decide) (by decide) lk_X9_346 rfl dX9_through_134 ?_
        refine lv_istore (lv' := [(6, .int (gi M 0 49)), (7, .int (t1 + t0)), (0, .ref (w.2.2.1 0)), (1, .int x1), (2, .int x2), (3, .int x3), (4, .int x4), (5, .int x5), (8, .int x8)]) hx hb dX9_through_137 hl (by decide) rfl (fun ls hl => ?_)
        refine lv_iload hx hb dX9_through_139 (lv_at hl 8 rfl) ?_
        refine lv_istore (lv' := [(5, .int x8), (6, .int (gi M 0 49)), (7, .int (t1 + t0)), (0, .ref (w.2.2.1 0)), (1, .int x1), (2, .int x2), (3, .int x3), (4, .int x4), (8, .int x8)]) hx hb dX9_through_141 hl (by decide) rfl (fun ls hl => ?_)
        exact hJ143 _ _ _ _ _ _ _ _ _ ls hf hG (lv_sub hl [3, 4, 5, 6, 7, 0, 1, 2, 8] rfl)
      · replace hf := if_f c4 hf
        refine lv_goto (tgt := 143) hx hb dX9_through_130 (by decide) ?_
        exact hJ143 _ _ _ _ _ _ _ _ _ ls hf hG (lv_sub hl [1, 2, 3, 4, 5, 6, 7, 0, 8] rfl)
    have hJ98 : ∀ (t0 : Int32) (t1 : Int32) (x3 : Int32) (x5 : Int32) (x6 : Int32) (x7 : Int32) (x8 : Int32) (M : Mem) (H : Heap) (locs : List Loc) (ls : Array Slot), j_X9_through_98 n  t0 t1 x1 x2 x3 x5 x6 x7 x8 M = some rr47 → GI w layM 24 s.heap M H locs → lv_has ls 9 [(0, .ref (w.2.2.1 0)), (1, .int x1), (2, .int x2), (3, .int x3), (5, .int x5), (6, .int x6), (7, .int x7), (8, .int x8)] → W p l e (Rm 4) s m args below meth c H locs 0 0 (MQ below (GQi w layM 24 res s.heap.size) args s 0 0 (gA w.2.2.1 24 s.heap.size)) (F0 m 98 ls [.int t0, .int t1]) := by
      intro t0 t1 x3 x5 x6 x7 x8 M H locs ls hf hG hl
      unfold j_X9_through_98 at hf
      refine lv_iadd hx hb dX9_through_98 ?_
      refine lv_istore (lv' := [(4, .int (t1 + t0)), (0, .ref (w.2.2.1 0)), (1, .int x1), (2, .int x2), (3, .int x3), (5, .int x5), (6, .int x6), (7, .int x7), (8, .int x8)]) hx hb dX9_through_99 hl (by decide) rfl (fun ls hl => ?_)
      refine lv_iload hx hb dX9_through_101 (lv_at hl 7 rfl) ?_
      refine lv_aload_n hx hb dX9_through_103 rfl (lv_at hl 1 rfl) ?_
      refine g_getR F hG 12 mo_0 (by decide) (by decide) lk_X9_63 rfl dX9_through_104 ?_
      refine lv_bipush (v := 59) hx hb dX9_through_107 (by decide) ?_
      refine g_iald F hG oM_12 (by decide) dX9_through_109 ?_
      refine lv_if_ne (tgt := 117) hx hb dX9_through_110 (by decide) (fun c5 => ?_) (fun c5 => ?_)
      · replace hf := if_f c5 hf
        refine lv_iconst (v := 0) hx hb dX9_through_117 (by decide) ?_
        exact hJ118 _ _ _ _ _ _ _ _ _ _ ls hf hG (lv_sub hl [1, 2, 3, 4, 0, 5, 6, 8] rfl)
      · replace hf := if_t c5 hf
        refine lv_iconst (v := 1) hx hb dX9_through_113 (by decide) ?_
        refine lv_goto (tgt := 118) hx hb dX9_through_114 (by decide) ?_
        exact hJ118 _ _ _ _ _ _ _ _ _ _ ls hf hG (lv_sub hl [1, 2, 3, 4, 0, 5, 6, 8] rfl)
    have hJ81 : ∀ (t0 : Int32) (x4 : Int32) (x5 : Int32) (x6 : Int32) (x7 : Int32) (x8 : Int32) (M : Mem) (H : Heap) (locs : List Loc) (ls : Array Slot), j_X9_through_81 n  t0 x1 x2 x4 x5 x6 x7 x8 M = some rr47 → GI w layM 24 s.heap M H locs → lv_has ls 9 [(0, .ref (w.2.2.1 0)), (1, .int x1), (2, .int x2), (4, .int x4), (5, .int x5), (6, .int x6), (7, .int x7), (8, .int x8)] → W p l e (Rm 4) s m args below meth c H locs 0 0 (MQ below (GQi w layM 24 res s.heap.size) args s 0 0 (gA w.2.2.1 24 s.heap.size)) (F0 m 81 ls [.int t0]) := by
      intro t0 x4 x5 x6 x7 x8 M H locs ls hf hG hl
      unfold j_X9_through_81 at hf
      refine lv_istore_n (lv' := [(3, .int t0), (0, .ref (w.2.2.1 0)), (1, .int x1), (2, .int x2), (4, .int x4), (5, .int x5), (6, .int x6), (7, .int x7), (8, .int x8)]) hx hb dX9_through_81 rfl hl (by decide) rfl (fun ls hl => ?_)
      refine lv_iload hx hb dX9_through_82 (lv_at hl 4 rfl) ?_
      refine lv_aload_n hx hb dX9_through_84 rfl (lv_at hl 1 rfl) ?_
      refine lv_bipush (v := 54) hx hb dX9_through_85 (by decide) ?_
      replace hf := bd_some hf
      obtain ⟨q6, eq6, hf⟩ := hf
      refine gx_calli hG (gx_runV hXk F hX hG (c_X9_isDone l w hXk n  (54 : Int32) _ _ eq6) cv_X9_352 ⟨Nat.le_of_ble_eq_true rfl, Nat.le_of_ble_eq_true rfl⟩ (g_recv F hG mo_0 (by decide) rfl) rfl hl.1 rfl (Nat.le_of_ble_eq_true rfl) dX9_through_87 ⟨Nat.le_refl _, Nat.le_refl _⟩) (fun H locs hG => ?_)
      refine lv_if_eq (tgt := 97) hx hb dX9_through_90 (by decide) (fun c7 => ?_) (fun c7 => ?_)
      · replace hf := if_t c7 hf
        refine lv_iconst (v := 0) hx hb dX9_through_97 (by decide) ?_
        exact hJ98 _ _ _ _ _ _ _ _ _ _ ls hf hG (lv_sub hl [1, 2, 3, 0, 5, 6, 7, 8] rfl)
      · replace hf := if_f c7 hf
        refine lv_iconst (v := 1) hx hb dX9_through_93 (by decide) ?_
        refine lv_goto (tgt := 98) hx hb dX9_through_94 (by decide) ?_
        exact hJ98 _ _ _ _ _ _ _ _ _ _ ls hf hG (lv_sub hl [1, 2, 3, 0, 5, 6, 7, 8] rfl)
    dsimp only [b_X9_through_47] at hf
    refine lv_iload hx hb dX9_through_47 (lv_at hl 8 rfl) ?_
    refine lv_iload_n hx hb dX9_through_49 rfl (lv_at hl 1 rfl) ?_
    refine lv_icmp_gt (tgt := 149) hx hb dX9_through_50 (by decide) (fun c8 => ?_) (fun c8 => ?_)
    · replace hf := if_t c8 hf
      replace hf := mr_some hf
      obtain ⟨z47, hf, hz⟩ := hf
      rw [hE47 _ hz] at hf
      exact hJ149 _ _ _ _ _ _ _ _ ls hf hG (lv_sub hl [2, 3, 4, 5, 7] rfl)
    · replace hf := if_f c8 hf
      refine lv_aload_n hx hb dX9_through_53 rfl (lv_at hl 0 rfl) ?_
      refine lv_bipush (v := 54) hx hb dX9_through_54 (by decide) ?_
      replace hf := bd_some hf
      obtain ⟨q9, eq9, hf⟩ := hf
      refine gx_callv hG (gx_runV hXk F hX hG (c_X9_dayGoes l w hXk n  (54 : Int32) _ _ eq9) cv_X9_364 ⟨Nat.le_of_ble_eq_true rfl, Nat.le_of_ble_eq_true rfl⟩ (g_recv F hG mo_0 (by decide) rfl) rfl hl.1 rfl (Nat.le_of_ble_eq_true rfl) dX9_through_56 ⟨Nat.le_refl _, Nat.le_refl _⟩) (fun H locs hG => ?_)
      refine lv_aload_n hx hb dX9_through_59 rfl (lv_at hl 0 rfl) ?_
      refine g_getR F hG 12 mo_0 (by decide) (by decide) lk_X9_63 rfl dX9_through_60 ?_
      refine lv_bipush (v := 56) hx hb dX9_through_63 (by decide) ?_
      refine g_iald F hG oM_12 (by decide) dX9_through_65 ?_
      refine lv_iload_n hx hb dX9_through_66 rfl (lv_at hl 3 rfl) ?_
      refine lv_icmp_le (tgt := 80) hx hb dX9_through_67 (by decide) (fun c10 => ?_) (fun c10 => ?_)
      · replace hf := if_t c10 hf
        refine lv_iload_n hx hb dX9_through_80 rfl (lv_at hl 3 rfl) ?_
        exact hJ81 _ _ _ _ _ _ _ _ _ ls hf hG (lv_sub hl [0, 1, 2, 4, 5, 6, 7, 8] rfl)
      · replace hf := if_f c10 hf
        refine lv_aload_n hx hb dX9_through_70 rfl (lv_at hl 0 rfl) ?_
        refine g_getR F hG 12 mo_0 (by decide) (by decide) lk_X9_63 rfl dX9_through_71 ?_
        refine lv_bipush (v := 56) hx hb dX9_through_74 (by decide) ?_
        refine g_iald F hG oM_12 (by decide) dX9_through_76 ?_
        refine lv_goto (tgt := 81) hx hb dX9_through_77 (by decide) ?_
        exact hJ81 _ _ _ _ _ _ _ _ _ ls hf hG (lv_sub hl [0, 1, 2, 4, 5, 6, 7, 8] rfl)
  unfold f_X9_through at hf
  refine lv_aload_n hx hb dX9_through_0 rfl (lv_at hl 0 rfl) ?_
  refine lv_iconst (v := 0) hx hb dX9_through_1 (by decide) ?_
  refine g_putI F hG mo_0 (by decide) (by decide) lkv_X9_102 rfl rfl rfl dX9_through_2 (fun H locs hG => ?_)
  refine lv_aload_n hx hb dX9_through_5 rfl (lv_at hl 0 rfl) ?_
  refine lv_iload_n hx hb dX9_through_6 rfl (lv_at hl 2 rfl) ?_
  refine lv_iconst (v := 3) hx hb dX9_through_7 (by decide) ?_
  replace hf := bd_some hf
  obtain ⟨q11, eq11, hf⟩ := hf
  refine gx_calli hG (gx_runV hXk F hX hG (c_X9_isWhat l w hXk n  x2 (3 : Int32) _ _ eq11) cv_X9_396 ⟨Nat.le_of_ble_eq_true rfl, Nat.le_of_ble_eq_true rfl⟩ (g_recv F hG mo_0 (by decide) rfl) rfl hl.1 rfl (Nat.le_of_ble_eq_true rfl) dX9_through_8 ⟨Nat.le_refl _, Nat.le_refl _⟩) (fun H locs hG => ?_)
  refine lv_if_eq (tgt := 24) hx hb dX9_through_11 (by decide) (fun c12 => ?_) (fun c12 => ?_)
  · replace hf := if_t c12 hf
    refine lv_iconst (v := 0) hx hb dX9_through_24 (by decide) ?_
    exact cg_iret F hr hlk hG hf dX9_through_25
  · replace hf := if_f c12 hf
    refine lv_aload_n hx hb dX9_through_14 rfl (lv_at hl 0 rfl) ?_
    refine lv_iload_n hx hb dX9_through_15 rfl (lv_at hl 1 rfl) ?_
    refine lv_iconst (v := 1) hx hb dX9_through_16 (by decide) ?_
    refine lv_iconst (v := 2) hx hb dX9_through_17 (by decide) ?_
    replace hf := bd_some hf
    obtain ⟨q13, eq13, hf⟩ := hf
    refine gx_calli hG (gx_runV hXk F hX hG (c_X9_isSoon l w hXk n  x1 (1 : Int32) (2 : Int32) _ _ eq13) cv_X9_412 ⟨Nat.le_of_ble_eq_true rfl, Nat.le_of_ble_eq_true rfl⟩ (g_recv F hG mo_0 (by decide) rfl) rfl hl.1 rfl (Nat.le_of_ble_eq_true rfl) dX9_through_18 ⟨Nat.le_refl _, Nat.le_refl _⟩) (fun H locs hG => ?_)
    refine lv_if_ne (tgt := 26) hx hb dX9_through_21 (by decide) (fun c14 => ?_) (fun c14 => ?_)
    · replace hf := if_f c14 hf
      refine lv_iconst (v := 0) hx hb dX9_through_26 (by decide) ?_
      refine lv_istore_n (lv' := [(3, .int (0 : Int32)), (0, .ref (w.2.2.1 0)), (1, .int x1), (2, .int x2)]) hx hb dX9_through_27 rfl hl (by decide) rfl (fun ls hl => ?_)
      refine lv_iconst (v := 0) hx hb dX9_through_28 (by decide) ?_
      refine lv_istore (lv' := [(4, .int (0 : Int32)), (3, .int (0 : Int32)), (0, .ref (w.2.2.1 0)), (1, .int x1), (2, .int x2)]) hx hb dX9_through_29 hl (by decide) rfl (fun ls hl => ?_)
      refine lv_iconst (v := 0) hx hb dX9_through_31 (by decide) ?_
      refine lv_istore (lv' := [(5, .int (0 : Int32)), (4, .int (0 : Int32)), (3, .int (0 : Int32)), (0, .ref (w.2.2.1 0)), (1, .int x1), (2, .int x2)]) hx hb dX9_through_32 hl (by decide) rfl (fun ls hl => ?_)
      refine lv_iconst (v := -1) hx hb dX9_through_34 (by decide) ?_
      refine lv_istore (lv' := [(6, .int (-1 : Int32)), (5, .int (0 : Int32)), (4, .int (0 : Int32)), (3, .int (0 : Int32)), (0, .ref (w.2.2.1 0)), (1, .int x1), (2, .int x2)]) hx hb dX9_through_35 hl (by decide) rfl (fun ls hl => ?_)
      refine lv_iconst (v := 0) hx hb dX9_through_37 (by decide) ?_
      refine lv_istore (lv' := [(7, .int (0 : Int32)), (6, .int (-1 : Int32)), (5, .int (0 : Int32)), (4, .int (0 : Int32)), (3, .int (0 : Int32)), (0, .ref (w.2.2.1 0)), (1, .int x1), (2, .int x2)]) hx hb dX9_through_38 hl (by decide) rfl (fun ls hl => ?_)
      refine lv_aload_n hx hb dX9_through_40 rfl (lv_at hl 5 rfl) ?_
      replace hf := bd_some hf
      obtain ⟨q15, eq15, hf⟩ := hf
      refine gx_callv hG (gx_runV hXk F hX hG (c_X9_tries l w hXk n   _ _ eq15) cv_X9_367 ⟨Nat.le_of_ble_eq_true rfl, Nat.le_of_ble_eq_true rfl⟩ (g_recv F hG mo_0 (by decide) rfl) rfl hl.1 rfl (Nat.le_of_ble_eq_true rfl) dX9_through_41 ⟨Nat.le_refl _, Nat.le_refl _⟩) (fun H locs hG => ?_)
      refine lv_iconst (v := 1) hx hb dX9_through_44 (by decide) ?_
      refine lv_istore (lv' := [(8, .int (1 : Int32)), (7, .int (0 : Int32)), (6, .int (-1 : Int32)), (5, .int (0 : Int32)), (4, .int (0 : Int32)), (3, .int (0 : Int32)), (0, .ref (w.2.2.1 0)), (1, .int x1), (2, .int x2)]) hx hb dX9_through_45 hl (by decide) rfl (fun ls hl => ?_)
      exact hJ47 _ _ _ _ _ _ _ _ _ _ _ ls hf hG (lv_sub hl [6, 7, 8, 5, 4, 3, 2, 1, 0] rfl)
    · replace hf := if_t c14 hf
      refine lv_iconst (v := 0) hx hb dX9_through_24 (by decide) ?_
      exact cg_iret F hr hlk hG hf dX9_through_25

def j_X9_pious_66 (n : Nat) (t0 : Int32) (t1 : Int32) (x1 : Int32) (x2 : Int32) (x4 : Int32) (M : Mem) : Option ((Int32 × Int32 × Mem) ⊕ (Int32 × Mem)) := some (.inl ((t1 + t0), (x4 + (1 : Int32)), M))
def b_X9_pious_34 (n : Nat) (x1 : Int32) (x2 : Int32) (q : (Int32 × Int32 × Mem)) : Option ((Int32 × Int32 × Mem) ⊕ (Int32 × Mem)) := match q with
  | (x3, x4, M) => if x2 ≤ x4 then (mr (some (x3, M))) else (bd (f_X9_dayGoes n  (54 : Int32) M) (fun q2 => ck (inb ((92 : Int32) + x1) 108) (if (gi q2 12 ((92 : Int32) + x1).toNatClampNeg) < (50 : Int32) then (j_X9_pious_66 n  (0 : Int32) x3 x1 x2 x4 q2) else (j_X9_pious_66 n  (1 : Int32) x3 x1 x2 x4 q2))))
def f_X9_pious (n : Nat) (x1 : Int32) (x2 : Int32) (M : Mem) : Option (Int32 × Mem) := bd (f_X9_isWard n  x1 (si M 0 0 (0 : Int32))) (fun q5 => if q5.1 = 0 then (some ((0 : Int32), q5.2)) else (bd (f_X9_isSoon n  x2 (1 : Int32) (2 : Int32) q5.2) (fun q7 => if q7.1 = 0 then (some ((0 : Int32), q7.2)) else (bd (f_X9_tries n   q7.2) (fun q9 => gl (b_X9_pious_34 n  x1 x2) n ((0 : Int32), (0 : Int32), q9))))))
set_option maxHeartbeats 4000000 in
set_option maxRecDepth 100000 in
theorem c_X9_pious (l : Launch) (w : Wd) {X : (Nat → Prop) → State → Heap → Prop} (hXk : XOK X) (n : Nat) (x1 : Int32) (x2 : Int32) (M : Mem) (res : Int32 × Mem) (hf : f_X9_pious n  x1 x2 M = some res) : CG l w layM 24 X yX9_pious cX9_pious 5 (some .int) 4 [.ref (w.2.2.1 0), .int x1, .int x2] M (GQi w layM 24 res) := by
  refine cg_start (by decide +kernel) (Nat.le_of_ble_eq_true rfl) ?_
  intro p e s m args below meth c F hr hlk hX hG ls hl
  have F : FX w p m c cX9_pious 5 s args RX9 := F
  have hx := F.1.1
  have hb := F.1.2.1
  have hl : lv_has ls 5 [(0, .ref (w.2.2.1 0)), (1, .int x1), (2, .int x2)] := hl
  have hJ34 : ∀ (x1 : Int32) (x2 : Int32) (x3 : Int32) (x4 : Int32) (M : Mem) (H : Heap) (locs : List Loc) (ls : Array Slot), gl (b_X9_pious_34 n  x1 x2) n (x3, x4, M) = some res → GI w layM 24 s.heap M H locs → lv_has ls 5 [(0, .ref (w.2.2.1 0)), (1, .int x1), (2, .int x2), (3, .int x3), (4, .int x4)] → W p l e (Rm 4) s m args below meth c H locs 0 0 (MQ below (GQi w layM 24 res s.heap.size) args s 0 0 (gA w.2.2.1 24 s.heap.size)) (F0 m 34 ls []) := by
    intro x1 x2 x3 x4 M H locs ls hf hG hl
    refine gl_run (P := fun (q : (Int32 × Int32 × Mem)) => ∀ (H : Heap) (locs : List Loc) (ls : Array Slot), GI w layM 24 s.heap q.2.2 H locs → lv_has ls 5 [(0, .ref (w.2.2.1 0)), (1, .int x1), (2, .int x2), (3, .int q.1), (4, .int q.2.1)] → W p l e (Rm 4) s m args below meth c H locs 0 0 (MQ below (GQi w layM 24 res s.heap.size) args s 0 0 (gA w.2.2.1 24 s.heap.size)) (F0 m 34 ls [])) ?_ n (x3, x4, M) hf H locs ls hG hl
    clear hf hG hl ls locs H M x3 x4
    rintro ⟨x3, x4, M⟩ rr34 hf hI34 hE34 H locs ls hG hl
    try dsimp only at hG hl ⊢
    have hJ66 : ∀ (t0 : Int32) (t1 : Int32) (x4 : Int32) (M : Mem) (H : Heap) (locs : List Loc) (ls : Array Slot), j_X9_pious_66 n  t0 t1 x1 x2 x4 M = some rr34 → GI w layM 24 s.heap M H locs → lv_has ls 5 [(0, .ref (w.2.2.1 0)), (1, .int x1), (2, .int x2), (4, .int x4)] → W p l e (Rm 4) s m args below meth c H locs 0 0 (MQ below (GQi w layM 24 res s.heap.size) args s 0 0 (gA w.2.2.1 24 s.heap.size)) (F0 m 66 ls [.int t0, .int t1]) := by
      intro t0 t1 x4 M H locs ls hf hG hl
      unfold j_X9_pious_66 at hf
      refine lv_iadd hx hb dX9_pious_66 ?_
      refine lv_istore_n (lv' := [(3, .int (t1 + t0)), (0, .ref (w.2.2.1 0)), (1, .int x1), (2, .int x2), (4, .int x4)]) hx hb dX9_pious_67 rfl hl (by decide) rfl (fun ls hl => ?_)
      refine lv_iinc (v := (x4 + (1 : Int32))) (lv' := [(4, .int (x4 + (1 : Int32))), (3, .int (t1 + t0)), (0, .ref (w.2.2.1 0)), (1, .int x1), (2, .int x2)]) hx hb dX9_pious_68 hl (k := 4) rfl rfl (by decide) rfl (fun ls hl => ?_)
      refine lv_goto (tgt := 34) hx hb dX9_pious_71 (by decide) ?_
      exact hI34 _ (Option.some.inj hf).symm _ _ ls hG (lv_sub hl [2, 3, 4, 1, 0] rfl)
    dsimp only [b_X9_pious_34] at hf
    refine lv_iload hx hb dX9_pious_34 (lv_at hl 4 rfl) ?_
    refine lv_iload_n hx hb dX9_pious_36 rfl (lv_at hl 2 rfl) ?_
    refine lv_icmp_ge (tgt := 74) hx hb dX9_pious_37 (by decide) (fun c1 => ?_) (fun c1 => ?_)
    · replace hf := if_t c1 hf
      refine lv_iload_n hx hb dX9_pious_74 rfl (lv_at hl 3 rfl) ?_
      replace hf := mr_some hf
      obtain ⟨z34, hf, hz⟩ := hf
      rw [hE34 _ hz] at hf
      exact cg_iret F hr hlk hG hf dX9_pious_75
    · replace hf := if_f c1 hf
      refine lv_aload_n hx hb dX9_pious_40 rfl (lv_at hl 0 rfl) ?_
      refine lv_bipush (v := 54) hx hb dX9_pious_41 (by decide) ?_
      replace hf := bd_some hf
      obtain ⟨q2, eq2, hf⟩ := hf
      refine gx_callv hG (gx_runV hXk F hX hG (c_X9_dayGoes l w hXk n  (54 : Int32) _ _ eq2) cv_X9_364 ⟨Nat.le_of_ble_eq_true rfl, Nat.le_of_ble_eq_true rfl⟩ (g_recv F hG mo_0 (by decide) rfl) rfl hl.1 rfl (Nat.le_of_ble_eq_true rfl) dX9_pious_43 ⟨Nat.le_refl _, Nat.le_refl _⟩) (fun H locs hG => ?_)
      refine lv_iload_n hx hb dX9_pious_46 rfl (lv_at hl 3 rfl) ?_
      refine lv_aload_n hx hb dX9_pious_47 rfl (lv_at hl 0 rfl) ?_
      refine g_getR F hG 12 mo_0 (by decide) (by decide) lk_X9_63 rfl dX9_pious_48 ?_
      refine lv_bipush (v := 92) hx hb dX9_pious_51 (by decide) ?_
      refine lv_iload_n hx hb dX9_pious_53 rfl (lv_at hl 1 rfl) ?_
      refine lv_iadd hx hb dX9_pious_54 ?_
      replace hf := ck_some hf
      obtain ⟨k3, hf⟩ := hf
      refine g_iald F hG oM_12 k3 dX9_pious_55 ?_
      refine lv_bipush (v := 50) hx hb dX9_pious_56 (by decide) ?_
      refine lv_icmp_lt (tgt := 65) hx hb dX9_pious_58 (by decide) (fun c4 => ?_) (fun c4 => ?_)
      · replace hf := if_t c4 hf
        refine lv_iconst (v := 0) hx hb dX9_pious_65 (by decide) ?_
        exact hJ66 _ _ _ _ _ _ ls hf hG (lv_sub hl [0, 1, 2, 4] rfl)
      · replace hf := if_f c4 hf
        refine lv_iconst (v := 1) hx hb dX9_pious_61 (by decide) ?_
        refine lv_goto (tgt := 66) hx hb dX9_pious_62 (by decide) ?_
        exact hJ66 _ _ _ _ _ _ ls hf hG (lv_sub hl [0, 1, 2, 4] rfl)
  unfold f_X9_pious at hf
  refine lv_aload_n hx hb dX9_pious_0 rfl (lv_at hl 0 rfl) ?_
  refine lv_iconst (v := 0) hx hb dX9_pious_1 (by decide) ?_
  refine g_putI F hG mo_0 (by decide) (by decide) lkv_X9_102 rfl rfl rfl dX9_pious_2 (fun H locs hG => ?_)
  refine lv_aload_n hx hb dX9_pious_5 rfl (lv_at hl 0 rfl) ?_
  refine lv_iload_n hx hb dX9_pious_6 rfl (lv_at hl 1 rfl) ?_
  replace hf := bd_some hf
  obtain ⟨q5, eq5, hf⟩ := hf
  refine gx_calli hG (gx_runV hXk F hX hG (c_X9_isWard l w hXk n  x1 _ _ eq5) cv_X9_400 ⟨Nat.le_of_ble_eq_true rfl, Nat.le_of_ble_eq_true rfl⟩ (g_recv F hG mo_0 (by decide) rfl) rfl hl.1 rfl (Nat.le_of_ble_eq_true rfl) dX9_pious_7 ⟨Nat.le_refl _, Nat.le_refl _⟩) (fun H locs hG => ?_)
  refine lv_if_eq (tgt := 23) hx hb dX9_pious_10 (by decide) (fun c6 => ?_) (fun c6 => ?_)
  · replace hf := if_t c6 hf
    refine lv_iconst (v := 0) hx hb dX9_pious_23 (by decide) ?_
    exact cg_iret F hr hlk hG hf dX9_pious_24
  · replace hf := if_f c6 hf
    refine lv_aload_n hx hb dX9_pious_13 rfl (lv_at hl 0 rfl) ?_
    refine lv_iload_n hx hb dX9_pious_14 rfl (lv_at hl 2 rfl) ?_
    refine lv_iconst (v := 1) hx hb dX9_pious_15 (by decide) ?_
    refine lv_iconst (v := 2) hx hb dX9_pious_16 (by decide) ?_
    replace hf := bd_some hf
    obtain ⟨q7, eq7, hf⟩ := hf
    refine gx_calli hG (gx_runV hXk F hX hG (c_X9_isSoon l w hXk n  x2 (1 : Int32) (2 : Int32) _ _ eq7) cv_X9_412 ⟨Nat.le_of_ble_eq_true rfl, Nat.le_of_ble_eq_true rfl⟩ (g_recv F hG mo_0 (by decide) rfl) rfl hl.1 rfl (Nat.le_of_ble_eq_true rfl) dX9_pious_17 ⟨Nat.le_refl _, Nat.le_refl _⟩) (fun H locs hG => ?_)
    refine lv_if_ne (tgt := 25) hx hb dX9_pious_20 (by decide) (fun c8 => ?_) (fun c8 => ?_)
    · replace hf := if_f c8 hf
      refine lv_iconst (v := 0) hx hb dX9_pious_25 (by decide) ?_
      refine lv_istore_n (lv' := [(3, .int (0 : Int32)), (0, .ref (w.2.2.1 0)), (1, .int x1), (2, .int x2)]) hx hb dX9_pious_26 rfl hl (by decide) rfl (fun ls hl => ?_)
      refine lv_aload_n hx hb dX9_pious_27 rfl (lv_at hl 1 rfl) ?_
      replace hf := bd_some hf
      obtain ⟨q9, eq9, hf⟩ := hf
      refine gx_callv hG (gx_runV hXk F hX hG (c_X9_tries l w hXk n   _ _ eq9) cv_X9_367 ⟨Nat.le_of_ble_eq_true rfl, Nat.le_of_ble_eq_true rfl⟩ (g_recv F hG mo_0 (by decide) rfl) rfl hl.1 rfl (Nat.le_of_ble_eq_true rfl) dX9_pious_28 ⟨Nat.le_refl _, Nat.le_refl _⟩) (fun H locs hG => ?_)
      refine lv_iconst (v := 0) hx hb dX9_pious_31 (by decide) ?_
      refine lv_istore (lv' := [(4, .int (0 : Int32)), (3, .int (0 : Int32)), (0, .ref (w.2.2.1 0)), (1, .int x1), (2, .int x2)]) hx hb dX9_pious_32 hl (by decide) rfl (fun ls hl => ?_)
      exact hJ34 _ _ _ _ _ _ _ ls hf hG (lv_sub hl [2, 3, 4, 1, 0] rfl)
    · replace hf := if_t c8 hf
      refine lv_iconst (v := 0) hx hb dX9_pious_23 (by decide) ?_
      exact cg_iret F hr hlk hG hf dX9_pious_24

def j_X9_heaviest_65 (n : Nat) (x2 : Int32) (x3 : Int32) (M : Mem) : Option ((Int32 × Int32 × Mem) ⊕ (Int32 × Mem)) := some (.inl (x2, (x3 + (1 : Int32)), M))
def j_X9_heaviest_63 (n : Nat) (x3 : Int32) (M : Mem) : Option ((Int32 × Int32 × Mem) ⊕ (Int32 × Mem)) := j_X9_heaviest_65 n  x3 x3 M
def b_X9_heaviest_26 (n : Nat) (q : (Int32 × Int32 × Mem)) : Option ((Int32 × Int32 × Mem) ⊕ (Int32 × Mem)) := match q with
  | (x2, x3, M) => if (gi M 12 (57 : Int32).toNatClampNeg) ≤ x3 then (mr (some (x2, M))) else (if x2 = (-1 : Int32) then (j_X9_heaviest_63 n  x3 M) else (ck (inb ((60 : Int32) + x3) 108) (ck (inb ((60 : Int32) + x2) 108) (if (gi M 12 ((60 : Int32) + x3).toNatClampNeg) ≤ (gi M 12 ((60 : Int32) + x2).toNatClampNeg) then (j_X9_heaviest_65 n  x2 x3 M) else (j_X9_heaviest_63 n  x3 M)))))
def f_X9_heaviest (n : Nat) (x1 : Int32) (M : Mem) : Option (Int32 × Mem) := bd (f_X9_isSoon n  x1 (0 : Int32) (1 : Int32) (si M 0 0 (0 : Int32))) (fun q6 => if q6.1 = 0 then (some ((0 : Int32), q6.2)) else (bd (f_X9_goesTo n  x1 q6.2) (fun q8 => gl (b_X9_heaviest_26 n ) n ((-1 : Int32), (0 : Int32), q8))))
set_option maxHeartbeats 4000000 in
set_option maxRecDepth 100000 in
theorem c_X9_heaviest (l : Launch) (w : Wd) {X : (Nat → Prop) → State → Heap → Prop} (hXk : XOK X) (n : Nat) (x1 : Int32) (M : Mem) (res : Int32 × Mem) (hf : f_X9_heaviest n  x1 M = some res) : CG l w layM 24 X yX9_heaviest cX9_heaviest 4 (some .int) 6 [.ref (w.2.2.1 0), .int x1] M (GQi w layM 24 res) := by
  refine cg_start (by decide +kernel) (Nat.le_of_ble_eq_true rfl) ?_
  intro p e s m args below meth c F hr hlk hX hG ls hl
  have F : FX w p m c cX9_heaviest 4 s args RX9 := F
  have hx := F.1.1
  have hb := F.1.2.1
  have hl : lv_has ls 4 [(0, .ref (w.2.2.1 0)), (1, .int x1)] := hl
  have hJ26 : ∀ (x2 : Int32) (x3 : Int32) (M : Mem) (H : Heap) (locs : List Loc) (ls : Array Slot), gl (b_X9_heaviest_26 n  ) n (x2, x3, M) = some res → GI w layM 24 s.heap M H locs → lv_has ls 4 [(0, .ref (w.2.2.1 0)), (2, .int x2), (3, .int x3)] → W p l e (Rm 6) s m args below meth c H locs 0 0 (MQ below (GQi w layM 24 res s.heap.size) args s 0 0 (gA w.2.2.1 24 s.heap.size)) (F0 m 26 ls []) := by
    intro x2 x3 M H locs ls hf hG hl
    refine gl_run (P := fun (q : (Int32 × Int32 × Mem)) => ∀ (H : Heap) (locs : List Loc) (ls : Array Slot), GI w layM 24 s.heap q.2.2 H locs → lv_has ls 4 [(0, .ref (w.2.2.1 0)), (2, .int q.1), (3, .int q.2.1)] → W p l e (Rm 6) s m args below meth c H locs 0 0 (MQ below (GQi w layM 24 res s.heap.size) args s 0 0 (gA w.2.2.1 24 s.heap.size)) (F0 m 26 ls [])) ?_ n (x2, x3, M) hf H locs ls hG hl
    clear hf hG hl ls locs H M x2 x3
    rintro ⟨x2, x3, M⟩ rr26 hf hI26 hE26 H locs ls hG hl
    try dsimp only at hG hl ⊢
    have hJ65 : ∀ (x2 : Int32) (x3 : Int32) (M : Mem) (H : Heap) (locs : List Loc) (ls : Array Slot), j_X9_heaviest_65 n  x2 x3 M = some rr26 → GI w layM 24 s.heap M H locs → lv_has ls 4 [(0, .ref (w.2.2.1 0)), (2, .int x2), (3, .int x3)] → W p l e (Rm 6) s m args below meth c H locs 0 0 (MQ below (GQi w layM 24 res s.heap.size) args s 0 0 (gA w.2.2.1 24 s.heap.size)) (F0 m 65 ls []) := by
      intro x2 x3 M H locs ls hf hG hl
      unfold j_X9_heaviest_65 at hf
      refine lv_iinc (v := (x3 + (1 : Int32))) (lv' := [(3, .int (x3 + (1 : Int32))), (0, .ref (w.2.2.1 0)), (2, .int x2)]) hx hb dX9_heaviest_65 hl (k := 2) rfl rfl (by decide) rfl (fun ls hl => ?_)
      refine lv_goto (tgt := 26) hx hb dX9_heaviest_68 (by decide) ?_
      exact hI26 _ (Option.some.inj hf).symm _ _ ls hG (lv_sub hl [1, 2, 0] rfl)
    have hJ63 : ∀ (x3 : Int32) (M : Mem) (H : Heap) (locs : List Loc) (ls : Array Slot), j_X9_heaviest_63 n  x3 M = some rr26 → GI w layM 24 s.heap M H locs → lv_has ls 4 [(0, .ref (w.2.2.1 0)), (3, .int x3)] → W p l e (Rm 6) s m args below meth c H locs 0 0 (MQ below (GQi w layM 24 res s.heap.size) args s 0 0 (gA w.2.2.1 24 s.heap.size)) (F0 m 63 ls []) := by
      intro x3 M H locs ls hf hG hl
      unfold j_X9_heaviest_63 at hf
      refine lv_iload_n hx hb dX9_heaviest_63 rfl (lv_at hl 1 rfl) ?_
      refine lv_istore_n (lv' := [(2, .int x3), (0, .ref (w.2.2.1 0)), (3, .int x3)]) hx hb dX9_heaviest_64 rfl hl (by decide) rfl (fun ls hl => ?_)
      exact hJ65 _ _ _ _ _ ls hf hG (lv_sub hl [1, 0, 2] rfl)
    dsimp only [b_X9_heaviest_26] at hf
    refine lv_iload_n hx hb dX9_heaviest_26 rfl (lv_at hl 2 rfl) ?_
    refine lv_aload_n hx hb dX9_heaviest_27 rfl (lv_at hl 0 rfl) ?_
    refine g_getR F hG 12 mo_0 (by decide) (by decide) lk_X9_63 rfl dX9_heaviest_28 ?_
    refine lv_bipush (v := 57) hx hb dX9_heaviest_31 (by decide) ?_
    refine g_iald F hG oM_12 (by decide) dX9_heaviest_33 ?_
    refine lv_icmp_ge (tgt := 71) hx hb dX9_heaviest_34 (by decide) (fun c1 => ?_) (fun c1 => ?_)
    · replace hf := if_t c1 hf
      refine lv_iload_n hx hb dX9_heaviest_71 rfl (lv_at hl 1 rfl) ?_
      replace hf := mr_some hf
      obtain ⟨z26, hf, hz⟩ := hf
      rw [hE26 _ hz] at hf
      exact cg_iret F hr hlk hG hf dX9_heaviest_72
    · replace hf := if_f c1 hf
      refine lv_iload_n hx hb dX9_heaviest_37 rfl (lv_at hl 1 rfl) ?_
      refine lv_iconst (v := -1) hx hb dX9_heaviest_38 (by decide) ?_
      refine lv_icmp_eq (tgt := 63) hx hb dX9_heaviest_39 (by decide) (fun c2 => ?_) (fun c2 => ?_)
      · replace hf := if_t c2 hf
        exact hJ63 _ _ _ _ ls hf hG (lv_sub hl [0, 2] rfl)
      · replace hf := if_f c2 hf
        refine lv_aload_n hx hb dX9_heaviest_42 rfl (lv_at hl 0 rfl) ?_
        refine g_getR F hG 12 mo_0 (by decide) (by decide) lk_X9_63 rfl dX9_heaviest_43 ?_
        refine lv_bipush (v := 60) hx hb dX9_heaviest_46 (by decide) ?_
        refine lv_iload_n hx hb dX9_heaviest_48 rfl (lv_at hl 2 rfl) ?_
        refine lv_iadd hx hb dX9_heaviest_49 ?_
        replace hf := ck_some hf
        obtain ⟨k3, hf⟩ := hf
        refine g_iald F hG oM_12 k3 dX9_heaviest_50 ?_
        refine lv_aload_n hx hb dX9_heaviest_51 rfl (lv_at hl 0 rfl) ?_
        refine g_getR F hG 12 mo_0 (by decide) (by decide) lk_X9_63 rfl dX9_heaviest_52 ?_
        refine lv_bipush (v := 60) hx hb dX9_heaviest_55 (by decide) ?_
        refine lv_iload_n hx hb dX9_heaviest_57 rfl (lv_at hl 1 rfl) ?_
        refine lv_iadd hx hb dX9_heaviest_58 ?_
        replace hf := ck_some hf
        obtain ⟨k4, hf⟩ := hf
        refine g_iald F hG oM_12 k4 dX9_heaviest_59 ?_
        refine lv_icmp_le (tgt := 65) hx hb dX9_heaviest_60 (by decide) (fun c5 => ?_) (fun c5 => ?_)
        · replace hf := if_t c5 hf
          exact hJ65 _ _ _ _ _ ls hf hG (lv_sub hl [0, 1, 2] rfl)
        · replace hf := if_f c5 hf
          exact hJ63 _ _ _ _ ls hf hG (lv_sub hl [0, 2] rfl)
  unfold f_X9_heaviest at hf
  refine lv_aload_n hx hb dX9_heaviest_0 rfl (lv_at hl 0 rfl) ?_
  refine lv_iconst (v := 0) hx hb dX9_heaviest_1 (by decide) ?_
  refine g_putI F hG mo_0 (by decide) (by decide) lkv_X9_102 rfl rfl rfl dX9_heaviest_2 (fun H locs hG => ?_)
  refine lv_aload_n hx hb dX9_heaviest_5 rfl (lv_at hl 0 rfl) ?_
  refine lv_iload_n hx hb dX9_heaviest_6 rfl (lv_at hl 1 rfl) ?_
  refine lv_iconst (v := 0) hx hb dX9_heaviest_7 (by decide) ?_
  refine lv_iconst (v := 1) hx hb dX9_heaviest_8 (by decide) ?_
  replace hf := bd_some hf
  obtain ⟨q6, eq6, hf⟩ := hf
  refine gx_calli hG (gx_runV hXk F hX hG (c_X9_isSoon l w hXk n  x1 (0 : Int32) (1 : Int32) _ _ eq6) cv_X9_412 ⟨Nat.le_of_ble_eq_true rfl, Nat.le_of_ble_eq_true rfl⟩ (g_recv F hG mo_0 (by decide) rfl) rfl hl.1 rfl (Nat.le_of_ble_eq_true rfl) dX9_heaviest_9 ⟨Nat.le_refl _, Nat.le_refl _⟩) (fun H locs hG => ?_)
  refine lv_if_ne (tgt := 17) hx hb dX9_heaviest_12 (by decide) (fun c7 => ?_) (fun c7 => ?_)
  · replace hf := if_f c7 hf
    refine lv_aload_n hx hb dX9_heaviest_17 rfl (lv_at hl 0 rfl) ?_
    refine lv_iload_n hx hb dX9_heaviest_18 rfl (lv_at hl 1 rfl) ?_
    replace hf := bd_some hf
    obtain ⟨q8, eq8, hf⟩ := hf
    refine gx_callv hG (gx_runV hXk F hX hG (c_X9_goesTo l w hXk n  x1 _ _ eq8) cv_X9_415 ⟨Nat.le_of_ble_eq_true rfl, Nat.le_of_ble_eq_true rfl⟩ (g_recv F hG mo_0 (by decide) rfl) rfl hl.1 rfl (Nat.le_of_ble_eq_true rfl) dX9_heaviest_19 ⟨Nat.le_refl _, Nat.le_refl _⟩) (fun H locs hG => ?_)
    refine lv_iconst (v := -1) hx hb dX9_heaviest_22 (by decide) ?_
    refine lv_istore_n (lv' := [(2, .int (-1 : Int32)), (0, .ref (w.2.2.1 0)), (1, .int x1)]) hx hb dX9_heaviest_23 rfl hl (by decide) rfl (fun ls hl => ?_)
    refine lv_iconst (v := 0) hx hb dX9_heaviest_24 (by decide) ?_
    refine lv_istore_n (lv' := [(3, .int (0 : Int32)), (2, .int (-1 : Int32)), (0, .ref (w.2.2.1 0)), (1, .int x1)]) hx hb dX9_heaviest_25 rfl hl (by decide) rfl (fun ls hl => ?_)
    exact hJ26 _ _ _ _ _ ls hf hG (lv_sub hl [2, 1, 0] rfl)
  · replace hf := if_t c7 hf
    refine lv_iconst (v := 0) hx hb dX9_heaviest_15 (by decide) ?_
    exact cg_iret F hr hlk hG hf dX9_heaviest_16

def j_X9_far_100 (n : Nat) (x2 : Int32) (x3 : Int32) (x4 : Int32) (M : Mem) : Option ((Int32 × Int32 × Mem) ⊕ (Int32 × Mem)) := some (.inl (x3, (x4 + (1 : Int32)), M))
def j_X9_far_92 (n : Nat) (t0 : Int32) (t1 : Int32) (x2 : Int32) (x4 : Int32) (x5 : Int32) (x6 : Int32) (M : Mem) : Option ((Int32 × Int32 × Mem) ⊕ ((Int32 × Int32 × Mem) ⊕ (Int32 × Mem))) := some (.inl ((t1 ||| t0), (x6 + (1 : Int32)), M))
def b_X9_far_57 (n : Nat) (x2 : Int32) (x4 : Int32) (x5 : Int32) (q : (Int32 × Int32 × Mem)) : Option ((Int32 × Int32 × Mem) ⊕ ((Int32 × Int32 × Mem) ⊕ (Int32 × Mem))) := match q with
  | (x3, x6, M) => if (gi M 0 1) ≤ x6 then (mr (j_X9_far_100 n  x2 x3 x4 M)) else (if ((x5 >>> (x6 &&& 31)) &&& (1 : Int32)) = (1 : Int32) then (ck (inb ((46 : Int32) + x6) 108) (j_X9_far_92 n  (gi M 12 ((46 : Int32) + x6).toNatClampNeg) x3 x2 x4 x5 x6 M)) else (j_X9_far_92 n  (0 : Int32) x3 x2 x4 x5 x6 M))
def b_X9_far_30 (n : Nat) (x2 : Int32) (q : (Int32 × Int32 × Mem)) : Option ((Int32 × Int32 × Mem) ⊕ (Int32 × Mem)) := match q with
  | (x3, x4, M) => if (gi M 0 1) < x4 then (mr (some ((-1 : Int32), M))) else (if ((x3 >>> (x2 &&& 31)) &&& (1 : Int32)) = (1 : Int32) then (mr (some (x4, M))) else (gl (b_X9_far_57 n  x2 x4 x3) n (x3, (0 : Int32), M)))
def f_X9_far (n : Nat) (x1 : Int32) (x2 : Int32) (M : Mem) : Option (Int32 × Mem) := bd (f_X9_isWard n  x1 (si M 0 0 (0 : Int32))) (fun q6 => if q6.1 = 0 then (some ((0 : Int32), q6.2)) else (bd (f_X9_isWard n  x2 q6.2) (fun q8 => if q8.1 = 0 then (some ((0 : Int32), q8.2)) else (gl (b_X9_far_30 n  x2) n (((1 : Int32) <<< (x1 &&& 31)), (0 : Int32), q8.2)))))
set_option maxHeartbeats 4000000 in
set_option maxRecDepth 100000 in
theorem c_X9_far (l : Launch) (w : Wd) {X : (Nat → Prop) → State → Heap → Prop} (hXk : XOK X) (n : Nat) (x1 : Int32) (x2 : Int32) (M : Mem) (res : Int32 × Mem) (hf : f_X9_far n  x1 x2 M = some res) : CG l w layM 24 X yX9_far cX9_far 7 (some .int) 2 [.ref (w.2.2.1 0), .int x1, .int x2] M (GQi w layM 24 res) := by
  refine cg_start (by decide +kernel) (Nat.le_of_ble_eq_true rfl) ?_
  intro p e s m args below meth c F hr hlk hX hG ls hl
  have F : FX w p m c cX9_far 7 s args RX9 := F
  have hx := F.1.1
  have hb := F.1.2.1
  have hl : lv_has ls 7 [(0, .ref (w.2.2.1 0)), (1, .int x1), (2, .int x2)] := hl
  have hJ30 : ∀ (x2 : Int32) (x3 : Int32) (x4 : Int32) (M : Mem) (H : Heap) (locs : List Loc) (ls : Array Slot), gl (b_X9_far_30 n  x2) n (x3, x4, M) = some res → GI w layM 24 s.heap M H locs → lv_has ls 7 [(0, .ref (w.2.2.1 0)), (2, .int x2), (3, .int x3), (4, .int x4)] → W p l e (Rm 2) s m args below meth c H locs 0 0 (MQ below (GQi w layM 24 res s.heap.size) args s 0 0 (gA w.2.2.1 24 s.heap.size)) (F0 m 30 ls []) := by
    intro x2 x3 x4 M H locs ls hf hG hl
    refine gl_run (P := fun (q : (Int32 × Int32 × Mem)) => ∀ (H : Heap) (locs : List Loc) (ls : Array Slot), GI w layM 24 s.heap q.2.2 H locs → lv_has ls 7 [(0, .ref (w.2.2.1 0)), (2, .int x2), (3, .int q.1), (4, .int q.2.1)] → W p l e (Rm 2) s m args below meth c H locs 0 0 (MQ below (GQi w layM 24 res s.heap.size) args s 0 0 (gA w.2.2.1 24 s.heap.size)) (F0 m 30 ls [])) ?_ n (x3, x4, M) hf H locs ls hG hl
    clear hf hG hl ls locs H M x3 x4
    rintro ⟨x3, x4, M⟩ rr30 hf hI30 hE30 H locs ls hG hl
    try dsimp only at hG hl ⊢
    have hJ100 : ∀ (x3 : Int32) (x4 : Int32) (M : Mem) (H : Heap) (locs : List Loc) (ls : Array Slot), j_X9_far_100 n  x2 x3 x4 M = some rr30 → GI w layM 24 s.heap M H locs → lv_has ls 7 [(0, .ref (w.2.2.1 0)), (2, .int x2), (3, .int x3), (4, .int x4)] → W p l e (Rm 2) s m args below meth c H locs 0 0 (MQ below (GQi w layM 24 res s.heap.size) args s 0 0 (gA w.2.2.1 24 s.heap.size)) (F0 m 100 ls []) := by
      intro x3 x4 M H locs ls hf hG hl
      unfold j_X9_far_100 at hf
      refine lv_iinc (v := (x4 + (1 : Int32))) (lv' := [(4, .int (x4 + (1 : Int32))), (0, .ref (w.2.2.1 0)), (2, .int x2), (3, .int x3)]) hx hb dX9_far_100 hl (k := 3) rfl rfl (by decide) rfl (fun ls hl => ?_)
      refine lv_goto (tgt := 30) hx hb dX9_far_103 (by decide) ?_
      exact hI30 _ (Option.some.inj hf).symm _ _ ls hG (lv_sub hl [1, 2, 3, 0] rfl)
    have hJ57 : ∀ (x3 : Int32) (x4 : Int32) (x5 : Int32) (x6 : Int32) (M : Mem) (H : Heap) (locs : List Loc) (ls : Array Slot), gl (b_X9_far_57 n  x2 x4 x5) n (x3, x6, M) = some rr30 → GI w layM 24 s.heap M H locs → lv_has ls 7 [(0, .ref (w.2.2.1 0)), (2, .int x2), (3, .int x3), (4, .int x4), (5, .int x5), (6, .int x6)] → W p l e (Rm 2) s m args below meth c H locs 0 0 (MQ below (GQi w layM 24 res s.heap.size) args s 0 0 (gA w.2.2.1 24 s.heap.size)) (F0 m 57 ls []) := by
      intro x3 x4 x5 x6 M H locs ls hf hG hl
      refine gl_run (P := fun (q : (Int32 × Int32 × Mem)) => ∀ (H : Heap) (locs : List Loc) (ls : Array Slot), GI w layM 24 s.heap q.2.2 H locs → lv_has ls 7 [(0, .ref (w.2.2.1 0)), (2, .int x2), (3, .int q.1), (4, .int x4), (5, .int x5), (6, .int q.2.1)] → W p l e (Rm 2) s m args below meth c H locs 0 0 (MQ below (GQi w layM 24 res s.heap.size) args s 0 0 (gA w.2.2.1 24 s.heap.size)) (F0 m 57 ls [])) ?_ n (x3, x6, M) hf H locs ls hG hl
      clear hf hG hl ls locs H M x3 x6
      rintro ⟨x3, x6, M⟩ rr57 hf hI57 hE57 H locs ls hG hl
      try dsimp only at hG hl ⊢
      have hJ92 : ∀ (t0 : Int32) (t1 : Int32) (x6 : Int32) (M : Mem) (H : Heap) (locs : List Loc) (ls : Array Slot), j_X9_far_92 n  t0 t1 x2 x4 x5 x6 M = some rr57 → GI w layM 24 s.heap M H locs → lv_has ls 7 [(0, .ref (w.2.2.1 0)), (2, .int x2), (4, .int x4), (5, .int x5), (6, .int x6)] → W p l e (Rm 2) s m args below meth c H locs 0 0 (MQ below (GQi w layM 24 res s.heap.size) args s 0 0 (gA w.2.2.1 24 s.heap.size)) (F0 m 92 ls [.int t0, .int t1]) := by
        intro t0 t1 x6 M H locs ls hf hG hl
        unfold j_X9_far_92 at hf
        refine lv_ior hx hb dX9_far_92 ?_
        refine lv_istore_n (lv' := [(3, .int (t1 ||| t0)), (0, .ref (w.2.2.1 0)), (2, .int x2), (4, .int x4), (5, .int x5), (6, .int x6)]) hx hb dX9_far_93 rfl hl (by decide) rfl (fun ls hl => ?_)
        refine lv_iinc (v := (x6 + (1 : Int32))) (lv' := [(6, .int (x6 + (1 : Int32))), (3, .int (t1 ||| t0)), (0, .ref (w.2.2.1 0)), (2, .int x2), (4, .int x4), (5, .int x5)]) hx hb dX9_far_94 hl (k := 5) rfl rfl (by decide) rfl (fun ls hl => ?_)
        refine lv_goto (tgt := 57) hx hb dX9_far_97 (by decide) ?_
        exact hI57 _ (Option.some.inj hf).symm _ _ ls hG (lv_sub hl [2, 3, 1, 4, 5, 0] rfl)
      dsimp only [b_X9_far_57] at hf
      refine lv_iload hx hb dX9_far_57 (lv_at hl 5 rfl) ?_
      refine lv_aload_n hx hb dX9_far_59 rfl (lv_at hl 0 rfl) ?_
      refine g_getI F hG mo_0 (by decide) (by decide) lk_X9_291 rfl dX9_far_60 ?_
      refine lv_icmp_ge (tgt := 100) hx hb dX9_far_63 (by decide) (fun c1 => ?_) (fun c1 => ?_)
      · replace hf := if_t c1 hf
        replace hf := mr_some hf
        obtain ⟨z57, hf, hz⟩ := hf
        rw [hE57 _ hz] at hf
        exact hJ100 _ _ _ _ _ ls hf hG (lv_sub hl [0, 1, 2, 3] rfl)
      · replace hf := if_f c1 hf
        refine lv_iload_n hx hb dX9_far_66 rfl (lv_at hl 2 rfl) ?_
        refine lv_iload hx hb dX9_far_67 (lv_at hl 4 rfl) ?_
        refine lv_iload hx hb dX9_far_69 (lv_at hl 5 rfl) ?_
        refine lv_ishr hx hb dX9_far_71 ?_
        refine lv_iconst (v := 1) hx hb dX9_far_72 (by decide) ?_
        refine lv_iand hx hb dX9_far_73 ?_
        refine lv_iconst (v := 1) hx hb dX9_far_74 (by decide) ?_
        refine lv_icmp_ne (tgt := 91) hx hb dX9_far_75 (by decide) (fun c2 => ?_) (fun c2 => ?_)
        · replace hf := if_f c2 hf
          refine lv_iconst (v := 0) hx hb dX9_far_91 (by decide) ?_
          exact hJ92 _ _ _ _ _ _ ls hf hG (lv_sub hl [0, 1, 3, 4, 5] rfl)
        · replace hf := if_t c2 hf
          refine lv_aload_n hx hb dX9_far_78 rfl (lv_at hl 0 rfl) ?_
          refine g_getR F hG 12 mo_0 (by decide) (by decide) lk_X9_63 rfl dX9_far_79 ?_
          refine lv_bipush (v := 46) hx hb dX9_far_82 (by decide) ?_
          refine lv_iload hx hb dX9_far_84 (lv_at hl 5 rfl) ?_
          refine lv_iadd hx hb dX9_far_86 ?_
          replace hf := ck_some hf
          obtain ⟨k3, hf⟩ := hf
          refine g_iald F hG oM_12 k3 dX9_far_87 ?_
          refine lv_goto (tgt := 92) hx hb dX9_far_88 (by decide) ?_
          exact hJ92 _ _ _ _ _ _ ls hf hG (lv_sub hl [0, 1, 3, 4, 5] rfl)
    dsimp only [b_X9_far_30] at hf
    refine lv_iload hx hb dX9_far_30 (lv_at hl 3 rfl) ?_
    refine lv_aload_n hx hb dX9_far_32 rfl (lv_at hl 0 rfl) ?_
    refine g_getI F hG mo_0 (by decide) (by decide) lk_X9_291 rfl dX9_far_33 ?_
    refine lv_icmp_gt (tgt := 106) hx hb dX9_far_36 (by decide) (fun c4 => ?_) (fun c4 => ?_)
    · replace hf := if_t c4 hf
      refine lv_iconst (v := -1) hx hb dX9_far_106 (by decide) ?_
      replace hf := mr_some hf
      obtain ⟨z30, hf, hz⟩ := hf
      rw [hE30 _ hz] at hf
      exact cg_iret F hr hlk hG hf dX9_far_107
    · replace hf := if_f c4 hf
      refine lv_iload_n hx hb dX9_far_39 rfl (lv_at hl 2 rfl) ?_
      refine lv_iload_n hx hb dX9_far_40 rfl (lv_at hl 1 rfl) ?_
      refine lv_ishr hx hb dX9_far_41 ?_
      refine lv_iconst (v := 1) hx hb dX9_far_42 (by decide) ?_
      refine lv_iand hx hb dX9_far_43 ?_
      refine lv_iconst (v := 1) hx hb dX9_far_44 (by decide) ?_
      refine lv_icmp_ne (tgt := 51) hx hb dX9_far_45 (by decide) (fun c5 => ?_) (fun c5 => ?_)
      · replace hf := if_f c5 hf
        refine lv_iload_n hx hb dX9_far_51 rfl (lv_at hl 2 rfl) ?_
        refine lv_istore (lv' := [(5, .int x3), (0, .ref (w.2.2.1 0)), (2, .int x2), (3, .int x3), (4, .int x4)]) hx hb dX9_far_52 hl (by decide) rfl (fun ls hl => ?_)
        refine lv_iconst (v := 0) hx hb dX9_far_54 (by decide) ?_
        refine lv_istore (lv' := [(6, .int (0 : Int32)), (5, .int x3), (0, .ref (w.2.2.1 0)), (2, .int x2), (3, .int x3), (4, .int x4)]) hx hb dX9_far_55 hl (by decide) rfl (fun ls hl => ?_)
        exact hJ57 _ _ _ _ _ _ _ ls hf hG (lv_sub hl [2, 3, 4, 5, 1, 0] rfl)
      · replace hf := if_t c5 hf
        refine lv_iload hx hb dX9_far_48 (lv_at hl 3 rfl) ?_
        replace hf := mr_some hf
        obtain ⟨z30, hf, hz⟩ := hf
        rw [hE30 _ hz] at hf
        exact cg_iret F hr hlk hG hf dX9_far_50
  unfold f_X9_far at hf
  refine lv_aload_n hx hb dX9_far_0 rfl (lv_at hl 0 rfl) ?_
  refine lv_iconst (v := 0) hx hb dX9_far_1 (by decide) ?_
  refine g_putI F hG mo_0 (by decide) (by decide) lkv_X9_102 rfl rfl rfl dX9_far_2 (fun H locs hG => ?_)
  refine lv_aload_n hx hb dX9_far_5 rfl (lv_at hl 0 rfl) ?_
  refine lv_iload_n hx hb dX9_far_6 rfl (lv_at hl 1 rfl) ?_
  replace hf := bd_some hf
  obtain ⟨q6, eq6, hf⟩ := hf
  refine gx_calli hG (gx_runV hXk F hX hG (c_X9_isWard l w hXk n  x1 _ _ eq6) cv_X9_400 ⟨Nat.le_of_ble_eq_true rfl, Nat.le_of_ble_eq_true rfl⟩ (g_recv F hG mo_0 (by decide) rfl) rfl hl.1 rfl (Nat.le_of_ble_eq_true rfl) dX9_far_7 ⟨Nat.le_refl _, Nat.le_refl _⟩) (fun H locs hG => ?_)
  refine lv_if_eq (tgt := 21) hx hb dX9_far_10 (by decide) (fun c7 => ?_) (fun c7 => ?_)
  · replace hf := if_t c7 hf
    refine lv_iconst (v := 0) hx hb dX9_far_21 (by decide) ?_
    exact cg_iret F hr hlk hG hf dX9_far_22
  · replace hf := if_f c7 hf
    refine lv_aload_n hx hb dX9_far_13 rfl (lv_at hl 0 rfl) ?_
    refine lv_iload_n hx hb dX9_far_14 rfl (lv_at hl 2 rfl) ?_
    replace hf := bd_some hf
    obtain ⟨q8, eq8, hf⟩ := hf
    refine gx_calli hG (gx_runV hXk F hX hG (c_X9_isWard l w hXk n  x2 _ _ eq8) cv_X9_400 ⟨Nat.le_of_ble_eq_true rfl, Nat.le_of_ble_eq_true rfl⟩ (g_recv F hG mo_0 (by decide) rfl) rfl hl.1 rfl (Nat.le_of_ble_eq_true rfl) dX9_far_15 ⟨Nat.le_refl _, Nat.le_refl _⟩) (fun H locs hG => ?_)
    refine lv_if_ne (tgt := 23) hx hb dX9_far_18 (by decide) (fun c9 => ?_) (fun c9 => ?_)
    · replace hf := if_f c9 hf
      refine lv_iconst (v := 1) hx hb dX9_far_23 (by decide) ?_
      refine lv_iload_n hx hb dX9_far_24 rfl (lv_at hl 1 rfl) ?_
      refine lv_ishl hx hb dX9_far_25 ?_
      refine lv_istore_n (lv' := [(3, .int ((1 : Int32) <<< (x1 &&& 31))), (0, .ref (w.2.2.1 0)), (1, .int x1), (2, .int x2)]) hx hb dX9_far_26 rfl hl (by decide) rfl (fun ls hl => ?_)
      refine lv_iconst (v := 0) hx hb dX9_far_27 (by decide) ?_
      refine lv_istore (lv' := [(4, .int (0 : Int32)), (3, .int ((1 : Int32) <<< (x1 &&& 31))), (0, .ref (w.2.2.1 0)), (1, .int x1), (2, .int x2)]) hx hb dX9_far_28 hl (by decide) rfl (fun ls hl => ?_)
      exact hJ30 _ _ _ _ _ _ ls hf hG (lv_sub hl [2, 4, 1, 0] rfl)
    · replace hf := if_t c9 hf
      refine lv_iconst (v := 0) hx hb dX9_far_21 (by decide) ?_
      exact cg_iret F hr hlk hG hf dX9_far_22

def j_X9_apart_89 (n : Nat) (x1 : Int32) (x2 : Int32) (x3 : Int32) (x4 : Int32) (M : Mem) : Option ((Int32 × Int32 × Mem) ⊕ (Int32 × Mem)) := some (.inl (x3, (x4 + (1 : Int32)), M))
def j_X9_apart_72 (n : Nat) (x1 : Int32) (x2 : Int32) (x3 : Int32) (x4 : Int32) (M : Mem) : Option ((Int32 × Int32 × Mem) ⊕ (Int32 × Mem)) := bd (f_X9_hanging n  x1 x4 M) (fun q1 => if ((q1.1 >>> (x2 &&& 31)) &&& (1 : Int32)) = 0 then (j_X9_apart_89 n  x1 x2 x4 x4 q1.2) else (j_X9_apart_89 n  x1 x2 x3 x4 q1.2))
def b_X9_apart_28 (n : Nat) (x1 : Int32) (x2 : Int32) (q : (Int32 × Int32 × Mem)) : Option ((Int32 × Int32 × Mem) ⊕ (Int32 × Mem)) := match q with
  | (x3, x4, M) => if ((1 : Int32) <<< ((gi M 0 1) &&& 31)) ≤ x4 then (mr (some (x3, M))) else (if (x4 &&& (((1 : Int32) <<< (x1 &&& 31)) ||| ((1 : Int32) <<< (x2 &&& 31)))) = 0 then (if x3 = (-1 : Int32) then (j_X9_apart_72 n  x1 x2 x3 x4 M) else (bd (f_X9_bits n  x4 M) (fun q6 => bd (f_X9_bits n  x3 q6.2) (fun q7 => if q6.1 < q7.1 then (j_X9_apart_72 n  x1 x2 x3 x4 q7.2) else (j_X9_apart_89 n  x1 x2 x3 x4 q7.2))))) else (j_X9_apart_89 n  x1 x2 x3 x4 M))
def f_X9_apart (n : Nat) (x1 : Int32) (x2 : Int32) (M : Mem) : Option (Int32 × Mem) := bd (f_X9_isWard n  x1 (si M 0 0 (0 : Int32))) (fun q9 => if q9.1 = 0 then (some ((0 : Int32), q9.2)) else (bd (f_X9_isWard n  x2 q9.2) (fun q11 => if q11.1 = 0 then (some ((0 : Int32), q11.2)) else (gl (b_X9_apart_28 n  x1 x2) n ((-1 : Int32), (0 : Int32), q11.2)))))
set_option maxHeartbeats 4000000 in
set_option maxRecDepth 100000 in
theorem c_X9_apart (l : Launch) (w : Wd) {X : (Nat → Prop) → State → Heap → Prop} (hXk : XOK X) (n : Nat) (x1 : Int32) (x2 : Int32) (M : Mem) (res : Int32 × Mem) (hf : f_X9_apart n  x1 x2 M = some res) : CG l w layM 24 X yX9_apart cX9_apart 5 (some .int) 2 [.ref (w.2.2.1 0), .int x1, .int x2] M (GQi w layM 24 res) := by
  refine cg_start (by decide +kernel) (Nat.le_of_ble_eq_true rfl) ?_
  intro p e s m args below meth c F hr hlk hX hG ls hl
  have F : FX w p m c cX9_apart 5 s args RX9 := F
  have hx := F.1.1
  have hb := F.1.2.1
  have hl : lv_has ls 5 [(0, .ref (w.2.2.1 0)), (1, .int x1), (2, .int x2)] := hl
  have hJ28 : ∀ (x1 : Int32) (x2 : Int32) (x3 : Int32) (x4 : Int32) (M : Mem) (H : Heap) (locs : List Loc) (ls : Array Slot), gl (b_X9_apart_28 n  x1 x2) n (x3, x4, M) = some res → GI w layM 24 s.heap M H locs → lv_has ls 5 [(0, .ref (w.2.2.1 0)), (1, .int x1), (2, .int x2), (3, .int x3), (4, .int x4)] → W p l e (Rm 2) s m args below meth c H locs 0 0 (MQ below (GQi w layM 24 res s.heap.size) args s 0 0 (gA w.2.2.1 24 s.heap.size)) (F0 m 28 ls []) := by
    intro x1 x2 x3 x4 M H locs ls hf hG hl
    refine gl_run (P := fun (q : (Int32 × Int32 × Mem)) => ∀ (H : Heap) (locs : List Loc) (ls : Array Slot), GI w layM 24 s.heap q.2.2 H locs → lv_has ls 5 [(0, .ref (w.2.2.1 0)), (1, .int x1), (2, .int x2), (3, .int q.1), (4, .int q.2.1)] → W p l e (Rm 2) s m args below meth c H locs 0 0 (MQ below (GQi w layM 24 res s.heap.size) args s 0 0 (gA w.2.2.1 24 s.heap.size)) (F0 m 28 ls [])) ?_ n (x3, x4, M) hf H locs ls hG hl
    clear hf hG hl ls locs H M x3 x4
    rintro ⟨x3, x4, M⟩ rr28 hf hI28 hE28 H locs ls hG hl
    try dsimp only at hG hl ⊢
    have hJ89 : ∀ (x3 : Int32) (x4 : Int32) (M : Mem) (H : Heap) (locs : List Loc) (ls : Array Slot), j_X9_apart_89 n  x1 x2 x3 x4 M = some rr28 → GI w layM 24 s.heap M H locs → lv_has ls 5 [(0, .ref (w.2.2.1 0)), (1, .int x1), (2, .int x2), (3, .int x3), (4, .int x4)] → W p l e (Rm 2) s m args below meth c H locs 0 0 (MQ below (GQi w layM 24 res s.heap.size) args s 0 0 (gA w.2.2.1 24 s.heap.size)) (F0 m 89 ls []) := by
      intro x3 x4 M H locs ls hf hG hl
      unfold j_X9_apart_89 at hf
      refine lv_iinc (v := (x4 + (1 : Int32))) (lv' := [(4, .int (x4 + (1 : Int32))), (0, .ref (w.2.2.1 0)), (1, .int x1), (2, .int x2), (3, .int x3)]) hx hb dX9_apart_89 hl (k := 4) rfl rfl (by decide) rfl (fun ls hl => ?_)
      refine lv_goto (tgt := 28) hx hb dX9_apart_92 (by decide) ?_
      exact hI28 _ (Option.some.inj hf).symm _ _ ls hG (lv_sub hl [1, 2, 3, 4, 0] rfl)
    have hJ72 : ∀ (x3 : Int32) (x4 : Int32) (M : Mem) (H : Heap) (locs : List Loc) (ls : Array Slot), j_X9_apart_72 n  x1 x2 x3 x4 M = some rr28 → GI w layM 24 s.heap M H locs → lv_has ls 5 [(0, .ref (w.2.2.1 0)), (1, .int x1), (2, .int x2), (3, .int x3), (4, .int x4)] → W p l e (Rm 2) s m args below meth c H locs 0 0 (MQ below (GQi w layM 24 res s.heap.size) args s 0 0 (gA w.2.2.1 24 s.heap.size)) (F0 m 72 ls []) := by
      intro x3 x4 M H locs ls hf hG hl
      unfold j_X9_apart_72 at hf
      refine lv_aload_n hx hb dX9_apart_72 rfl (lv_at hl 0 rfl) ?_
      refine lv_iload_n hx hb dX9_apart_73 rfl (lv_at hl 1 rfl) ?_
      refine lv_iload hx hb dX9_apart_74 (lv_at hl 4 rfl) ?_
      replace hf := bd_some hf
      obtain ⟨q1, eq1, hf⟩ := hf
      refine gx_calli hG (gx_runV hXk F hX hG (c_X9_hanging l w hXk n  x1 x4 _ _ eq1) cv_X9_373 ⟨Nat.le_of_ble_eq_true rfl, Nat.le_of_ble_eq_true rfl⟩ (g_recv F hG mo_0 (by decide) rfl) rfl hl.1 rfl (Nat.le_of_ble_eq_true rfl) dX9_apart_76 ⟨Nat.le_refl _, Nat.le_refl _⟩) (fun H locs hG => ?_)
      refine lv_iload_n hx hb dX9_apart_79 rfl (lv_at hl 2 rfl) ?_
      refine lv_ishr hx hb dX9_apart_80 ?_
      refine lv_iconst (v := 1) hx hb dX9_apart_81 (by decide) ?_
      refine lv_iand hx hb dX9_apart_82 ?_
      refine lv_if_ne (tgt := 89) hx hb dX9_apart_83 (by decide) (fun c2 => ?_) (fun c2 => ?_)
      · replace hf := if_f c2 hf
        exact hJ89 _ _ _ _ _ ls hf hG (lv_sub hl [0, 1, 2, 3, 4] rfl)
      · replace hf := if_t c2 hf
        refine lv_iload hx hb dX9_apart_86 (lv_at hl 4 rfl) ?_
        refine lv_istore_n (lv' := [(3, .int x4), (0, .ref (w.2.2.1 0)), (1, .int x1), (2, .int x2), (4, .int x4)]) hx hb dX9_apart_88 rfl hl (by decide) rfl (fun ls hl => ?_)
        exact hJ89 _ _ _ _ _ ls hf hG (lv_sub hl [1, 2, 3, 0, 4] rfl)
    dsimp only [b_X9_apart_28] at hf
    refine lv_iload hx hb dX9_apart_28 (lv_at hl 4 rfl) ?_
    refine lv_iconst (v := 1) hx hb dX9_apart_30 (by decide) ?_
    refine lv_aload_n hx hb dX9_apart_31 rfl (lv_at hl 0 rfl) ?_
    refine g_getI F hG mo_0 (by decide) (by decide) lk_X9_291 rfl dX9_apart_32 ?_
    refine lv_ishl hx hb dX9_apart_35 ?_
    refine lv_icmp_ge (tgt := 95) hx hb dX9_apart_36 (by decide) (fun c3 => ?_) (fun c3 => ?_)
    · replace hf := if_t c3 hf
      refine lv_iload_n hx hb dX9_apart_95 rfl (lv_at hl 3 rfl) ?_
      replace hf := mr_some hf
      obtain ⟨z28, hf, hz⟩ := hf
      rw [hE28 _ hz] at hf
      exact cg_iret F hr hlk hG hf dX9_apart_96
    · replace hf := if_f c3 hf
      refine lv_iload hx hb dX9_apart_39 (lv_at hl 4 rfl) ?_
      refine lv_iconst (v := 1) hx hb dX9_apart_41 (by decide) ?_
      refine lv_iload_n hx hb dX9_apart_42 rfl (lv_at hl 1 rfl) ?_
      refine lv_ishl hx hb dX9_apart_43 ?_
      refine lv_iconst (v := 1) hx hb dX9_apart_44 (by decide) ?_
      refine lv_iload_n hx hb dX9_apart_45 rfl (lv_at hl 2 rfl) ?_
      refine lv_ishl hx hb dX9_apart_46 ?_
      refine lv_ior hx hb dX9_apart_47 ?_
      refine lv_iand hx hb dX9_apart_48 ?_
      refine lv_if_ne (tgt := 89) hx hb dX9_apart_49 (by decide) (fun c4 => ?_) (fun c4 => ?_)
      · replace hf := if_f c4 hf
        exact hJ89 _ _ _ _ _ ls hf hG (lv_sub hl [0, 1, 2, 3, 4] rfl)
      · replace hf := if_t c4 hf
        refine lv_iload_n hx hb dX9_apart_52 rfl (lv_at hl 3 rfl) ?_
        refine lv_iconst (v := -1) hx hb dX9_apart_53 (by decide) ?_
        refine lv_icmp_eq (tgt := 72) hx hb dX9_apart_54 (by decide) (fun c5 => ?_) (fun c5 => ?_)
        · replace hf := if_t c5 hf
          exact hJ72 _ _ _ _ _ ls hf hG (lv_sub hl [0, 1, 2, 3, 4] rfl)
        · replace hf := if_f c5 hf
          refine lv_iload hx hb dX9_apart_57 (lv_at hl 4 rfl) ?_
          replace hf := bd_some hf
          obtain ⟨q6, eq6, hf⟩ := hf
          refine gx_calli hG (gx_runS hXk F hX hG (c_X9_bits l w hXk n  x4 _ _ eq6) cs_X9_418 ⟨Nat.le_of_ble_eq_true rfl, Nat.le_of_ble_eq_true rfl⟩ rfl hl.1 rfl (Nat.le_of_ble_eq_true rfl) dX9_apart_59 ⟨Nat.le_refl _, Nat.le_refl _⟩) (fun H locs hG => ?_)
          refine lv_iload_n hx hb dX9_apart_62 rfl (lv_at hl 3 rfl) ?_
          replace hf := bd_some hf
          obtain ⟨q7, eq7, hf⟩ := hf
          refine gx_calli hG (gx_runS hXk F hX hG (c_X9_bits l w hXk n  x3 _ _ eq7) cs_X9_418 ⟨Nat.le_of_ble_eq_true rfl, Nat.le_of_ble_eq_true rfl⟩ rfl hl.1 rfl (Nat.le_of_ble_eq_true rfl) dX9_apart_63 ⟨Nat.le_refl _, Nat.le_refl _⟩) (fun H locs hG => ?_)
          refine lv_icmp_lt (tgt := 72) hx hb dX9_apart_66 (by decide) (fun c8 => ?_) (fun c8 => ?_)
          · replace hf := if_t c8 hf
            exact hJ72 _ _ _ _ _ ls hf hG (lv_sub hl [0, 1, 2, 3, 4] rfl)
          · replace hf := if_f c8 hf
            refine lv_goto (tgt := 89) hx hb dX9_apart_69 (by decide) ?_
            exact hJ89 _ _ _ _ _ ls hf hG (lv_sub hl [0, 1, 2, 3, 4] rfl)
  unfold f_X9_apart at hf
  refine lv_aload_n hx hb dX9_apart_0 rfl (lv_at hl 0 rfl) ?_
  refine lv_iconst (v := 0) hx hb dX9_apart_1 (by decide) ?_
  refine g_putI F hG mo_0 (by decide) (by decide) lkv_X9_102 rfl rfl rfl dX9_apart_2 (fun H locs hG => ?_)
  refine lv_aload_n hx hb dX9_apart_5 rfl (lv_at hl 0 rfl) ?_
  refine lv_iload_n hx hb dX9_apart_6 rfl (lv_at hl 1 rfl) ?_
  replace hf := bd_some hf
  obtain ⟨q9, eq9, hf⟩ := hf
  refine gx_calli hG (gx_runV hXk F hX hG (c_X9_isWard l w hXk n  x1 _ _ eq9) cv_X9_400 ⟨Nat.le_of_ble_eq_true rfl, Nat.le_of_ble_eq_true rfl⟩ (g_recv F hG mo_0 (by decide) rfl) rfl hl.1 rfl (Nat.le_of_ble_eq_true rfl) dX9_apart_7 ⟨Nat.le_refl _, Nat.le_refl _⟩) (fun H locs hG => ?_)
  refine lv_if_eq (tgt := 21) hx hb dX9_apart_10 (by decide) (fun c10 => ?_) (fun c10 => ?_)
  · replace hf := if_t c10 hf
    refine lv_iconst (v := 0) hx hb dX9_apart_21 (by decide) ?_
    exact cg_iret F hr hlk hG hf dX9_apart_22
  · replace hf := if_f c10 hf
    refine lv_aload_n hx hb dX9_apart_13 rfl (lv_at hl 0 rfl) ?_
    refine lv_iload_n hx hb dX9_apart_14 rfl (lv_at hl 2 rfl) ?_
    replace hf := bd_some hf
    obtain ⟨q11, eq11, hf⟩ := hf
    refine gx_calli hG (gx_runV hXk F hX hG (c_X9_isWard l w hXk n  x2 _ _ eq11) cv_X9_400 ⟨Nat.le_of_ble_eq_true rfl, Nat.le_of_ble_eq_true rfl⟩ (g_recv F hG mo_0 (by decide) rfl) rfl hl.1 rfl (Nat.le_of_ble_eq_true rfl) dX9_apart_15 ⟨Nat.le_refl _, Nat.le_refl _⟩) (fun H locs hG => ?_)
    refine lv_if_ne (tgt := 23) hx hb dX9_apart_18 (by decide) (fun c12 => ?_) (fun c12 => ?_)
    · replace hf := if_f c12 hf
      refine lv_iconst (v := -1) hx hb dX9_apart_23 (by decide) ?_
      refine lv_istore_n (lv' := [(3, .int (-1 : Int32)), (0, .ref (w.2.2.1 0)), (1, .int x1), (2, .int x2)]) hx hb dX9_apart_24 rfl hl (by decide) rfl (fun ls hl => ?_)
      refine lv_iconst (v := 0) hx hb dX9_apart_25 (by decide) ?_
      refine lv_istore (lv' := [(4, .int (0 : Int32)), (3, .int (-1 : Int32)), (0, .ref (w.2.2.1 0)), (1, .int x1), (2, .int x2)]) hx hb dX9_apart_26 hl (by decide) rfl (fun ls hl => ?_)
      exact hJ28 _ _ _ _ _ _ _ ls hf hG (lv_sub hl [2, 3, 4, 1, 0] rfl)
    · replace hf := if_t c12 hf
      refine lv_iconst (v := 0) hx hb dX9_apart_21 (by decide) ?_
      exact cg_iret F hr hlk hG hf dX9_apart_22

def j_X9_toPreach_104 (n : Nat) (x1 : Int32) (x2 : Int32) (x3 : Int32) (M : Mem) : Option ((Int32 × Int32 × Mem) ⊕ (Int32 × Mem)) := some (.inl (x2, (x3 + (1 : Int32)), M))
def j_X9_toPreach_90 (n : Nat) (x1 : Int32) (x2 : Int32) (x3 : Int32) (M : Mem) : Option ((Int32 × Int32 × Mem) ⊕ (Int32 × Mem)) := bd (f_X9_daysGo n  x1 M) (fun q1 => if (gi q1 0 48) = 0 then (j_X9_toPreach_104 n  x1 x3 x3 q1) else (j_X9_toPreach_104 n  x1 x2 x3 q1))
def j_X9_toPreach_84 (n : Nat) (x1 : Int32) (x2 : Int32) (x3 : Int32) (x4 : Int32) (M : Mem) : Option ((Int32 × Mem) ⊕ ((Int32 × Int32 × Mem) ⊕ (Int32 × Mem))) := some (.inl ((x4 + (1 : Int32)), M))
def b_X9_toPreach_57 (n : Nat) (x1 : Int32) (x2 : Int32) (x3 : Int32) (q : (Int32 × Mem)) : Option ((Int32 × Mem) ⊕ ((Int32 × Int32 × Mem) ⊕ (Int32 × Mem))) := match q with
  | (x4, M) => if (gi M 0 1) ≤ x4 then (mr (j_X9_toPreach_90 n  x1 x2 x3 M)) else (if ((x3 >>> (x4 &&& 31)) &&& (1 : Int32)) = (1 : Int32) then (bd (f_X9_preaches n  (54 : Int32) x4 M) (fun q5 => j_X9_toPreach_84 n  x1 x2 x3 x4 q5)) else (j_X9_toPreach_84 n  x1 x2 x3 x4 M))
def j_X9_toPreach_50 (n : Nat) (x1 : Int32) (x2 : Int32) (x3 : Int32) (M : Mem) : Option ((Int32 × Int32 × Mem) ⊕ (Int32 × Mem)) := bd (f_X9_tries n   M) (fun q6 => gl (b_X9_toPreach_57 n  x1 x2 x3) n ((0 : Int32), q6))
def b_X9_toPreach_21 (n : Nat) (x1 : Int32) (q : (Int32 × Int32 × Mem)) : Option ((Int32 × Int32 × Mem) ⊕ (Int32 × Mem)) := match q with
  | (x2, x3, M) => if ((1 : Int32) <<< ((gi M 0 1) &&& 31)) ≤ x3 then (mr (some (x2, M))) else (if x2 = (-1 : Int32) then (j_X9_toPreach_50 n  x1 x2 x3 M) else (bd (f_X9_bits n  x3 M) (fun q9 => bd (f_X9_bits n  x2 q9.2) (fun q10 => if q9.1 < q10.1 then (j_X9_toPreach_50 n  x1 x2 x3 q10.2) else (j_X9_toPreach_104 n  x1 x2 x3 q10.2)))))
def f_X9_toPreach (n : Nat) (x1 : Int32) (M : Mem) : Option (Int32 × Mem) := bd (f_X9_isSoon n  x1 (1 : Int32) (1 : Int32) (si M 0 0 (0 : Int32))) (fun q12 => if q12.1 = 0 then (some ((0 : Int32), q12.2)) else (gl (b_X9_toPreach_21 n  x1) n ((-1 : Int32), (0 : Int32), q12.2)))
set_option maxHeartbeats 4000000 in
set_option maxRecDepth 100000 in
theorem c_X9_toPreach (l : Launch) (w : Wd) {X : (Nat → Prop) → State → Heap → Prop} (hXk : XOK X) (n : Nat) (x1 : Int32) (M : Mem) (res : Int32 × Mem) (hf : f_X9_toPreach n  x1 M = some res) : CG l w layM 24 X yX9_toPreach cX9_toPreach 5 (some .int) 5 [.ref (w.2.2.1 0), .int x1] M (GQi w layM 24 res) := by
  refine cg_start (by decide +kernel) (Nat.le_of_ble_eq_true rfl) ?_
  intro p e s m args below meth c F hr hlk hX hG ls hl
  have F : FX w p m c cX9_toPreach 5 s args RX9 := F
  have hx := F.1.1
  have hb := F.1.2.1
  have hl : lv_has ls 5 [(0, .ref (w.2.2.1 0)), (1, .int x1)] := hl
  have hJ21 : ∀ (x1 : Int32) (x2 : Int32) (x3 : Int32) (M : Mem) (H : Heap) (locs : List Loc) (ls : Array Slot), gl (b_X9_toPreach_21 n  x1) n (x2, x3, M) = some res → GI w layM 24 s.heap M H locs → lv_has ls 5 [(0, .ref (w.2.2.1 0)), (1, .int x1), (2, .int x2), (3, .int x3)] → W p l e (Rm 5) s m args below meth c H locs 0 0 (MQ below (GQi w layM 24 res s.heap.size) args s 0 0 (gA w.2.2.1 24 s.heap.size)) (F0 m 21 ls []) := by
    intro x1 x2 x3 M H locs ls hf hG hl
    refine gl_run (P := fun (q : (Int32 × Int32 × Mem)) => ∀ (H : Heap) (locs : List Loc) (ls : Array Slot), GI w layM 24 s.heap q.2.2 H locs → lv_has ls 5 [(0, .ref (w.2.2.1 0)), (1, .int x1), (2, .int q.1), (3, .int q.2.1)] → W p l e (Rm 5) s m args below meth c H locs 0 0 (MQ below (GQi w layM 24 res s.heap.size) args s 0 0 (gA w.2.2.1 24 s.heap.size)) (F0 m 21 ls [])) ?_ n (x2, x3, M) hf H locs ls hG hl
    clear hf hG hl ls locs H M x2 x3
    rintro ⟨x2, x3, M⟩ rr21 hf hI21 hE21 H locs ls hG hl
    try dsimp only at hG hl ⊢
    have hJ104 : ∀ (x2 : Int32) (x3 : Int32) (M : Mem) (H : Heap) (locs : List Loc) (ls : Array Slot), j_X9_toPreach_104 n  x1 x2 x3 M = some rr21 → GI w layM 24 s.heap M H locs → lv_has ls 5 [(0, .ref (w.2.2.1 0)), (1, .int x1), (2, .int x2), (3, .int x3)] → W p l e (Rm 5) s m args below meth c H locs 0 0 (MQ below (GQi w layM 24 res s.heap.size) args s 0 0 (gA w.2.2.1 24 s.heap.size)) (F0 m 104 ls []) := by
      intro x2 x3 M H locs ls hf hG hl
      unfold j_X9_toPreach_104 at hf
      refine lv_iinc (v := (x3 + (1 : Int32))) (lv' := [(3, .int (x3 + (1 : Int32))), (0, .ref (w.2.2.1 0)), (1, .int x1), (2, .int x2)]) hx hb dX9_toPreach_104 hl (k := 3) rfl rfl (by decide) rfl (fun ls hl => ?_)
      refine lv_goto (tgt := 21) hx hb dX9_toPreach_107 (by decide) ?_
      exact hI21 _ (Option.some.inj hf).symm _ _ ls hG (lv_sub hl [1, 2, 3, 0] rfl)
    have hJ90 : ∀ (x2 : Int32) (x3 : Int32) (M : Mem) (H : Heap) (locs : List Loc) (ls : Array Slot), j_X9_toPreach_90 n  x1 x2 x3 M = some rr21 → GI w layM 24 s.heap M H locs → lv_has ls 5 [(0, .ref (w.2.2.1 0)), (1, .int x1), (2, .int x2), (3, .int x3)] → W p l e (Rm 5) s m args below meth c H locs 0 0 (MQ below (GQi w layM 24 res s.heap.size) args s 0 0 (gA w.2.2.1 24 s.heap.size)) (F0 m 90 ls []) := by
      intro x2 x3 M H locs ls hf hG hl
      unfold j_X9_toPreach_90 at hf
      refine lv_aload_n hx hb dX9_toPreach_90 rfl (lv_at hl 0 rfl) ?_
      refine lv_iload_n hx hb dX9_toPreach_91 rfl (lv_at hl 1 rfl) ?_
      replace hf := bd_some hf
      obtain ⟨q1, eq1, hf⟩ := hf
      refine gx_callv hG (gx_runV hXk F hX hG (c_X9_daysGo l w hXk n  x1 _ _ eq1) cv_X9_370 ⟨Nat.le_of_ble_eq_true rfl, Nat.le_of_ble_eq_true rfl⟩ (g_recv F hG mo_0 (by decide) rfl) rfl hl.1 rfl (Nat.le_of_ble_eq_true rfl) dX9_toPreach_92 ⟨Nat.le_refl _, Nat.le_refl _⟩) (fun H locs hG => ?_)
      refine lv_aload_n hx hb dX9_toPreach_95 rfl (lv_at hl 0 rfl) ?_
      refine g_getI F hG mo_0 (by decide) (by decide) lk_X9_311 rfl dX9_toPreach_96 ?_
      refine lv_if_ne (tgt := 104) hx hb dX9_toPreach_99 (by decide) (fun c2 => ?_) (fun c2 => ?_)
      · replace hf := if_f c2 hf
        exact hJ104 _ _ _ _ _ ls hf hG (lv_sub hl [0, 1, 2, 3] rfl)
      · replace hf := if_t c2 hf
        refine lv_iload_n hx hb dX9_toPreach_102 rfl (lv_at hl 3 rfl) ?_
        refine lv_istore_n (lv' := [(2, .int x3), (0, .ref (w.2.2.1 0)), (1, .int x1), (3, .int x3)]) hx hb dX9_toPreach_103 rfl hl (by decide) rfl (fun ls hl => ?_)
        exact hJ104 _ _ _ _ _ ls hf hG (lv_sub hl [1, 2, 0, 3] rfl)
    have hJ57 : ∀ (x2 : Int32) (x3 : Int32) (x4 : Int32) (M : Mem) (H : Heap) (locs : List Loc) (ls : Array Slot), gl (b_X9_toPreach_57 n  x1 x2 x3) n (x4, M) = some rr21 → GI w layM 24 s.heap M H locs → lv_has ls 5 [(0, .ref (w.2.2.1 0)), (1, .int x1), (2, .int x2), (3, .int x3), (4, .int x4)] → W p l e (Rm 5) s m args below meth c H locs 0 0 (MQ below (GQi w layM 24 res s.heap.size) args s 0 0 (gA w.2.2.1 24 s.heap.size)) (F0 m 57 ls []) := by
      intro x2 x3 x4 M H locs ls hf hG hl
      refine gl_run (P := fun (q : (Int32 × Mem)) => ∀ (H : Heap) (locs : List Loc) (ls : Array Slot), GI w layM 24 s.heap q.2 H locs → lv_has ls 5 [(0, .ref (w.2.2.1 0)), (1, .int x1), (2, .int x2), (3, .int x3), (4, .int q.1)] → W p l e (Rm 5) s m args below meth c H locs 0 0 (MQ below (GQi w layM 24 res s.heap.size) args s 0 0 (gA w.2.2.1 24 s.heap.size)) (F0 m 57 ls [])) ?_ n (x4, M) hf H locs ls hG hl
      clear hf hG hl ls locs H M x4
      rintro ⟨x4, M⟩ rr57 hf hI57 hE57 H locs ls hG hl
      try dsimp only at hG hl ⊢
      have hJ84 : ∀ (x4 : Int32) (M : Mem) (H : Heap) (locs : List Loc) (ls : Array Slot), j_X9_toPreach_84 n  x1 x2 x3 x4 M = some rr57 → GI w layM 24 s.heap M H locs → lv_has ls 5 [(0, .ref (w.2.2.1 0)), (1, .int x1), (2, .int x2), (3, .int x3), (4, .int x4)] → W p l e (Rm 5) s m args below meth c H locs 0 0 (MQ below (GQi w layM 24 res s.heap.size) args s 0 0 (gA w.2.2.1 24 s.heap.size)) (F0 m 84 ls []) := by
        intro x4 M H locs ls hf hG hl
        unfold j_X9_toPreach_84 at hf
        refine lv_iinc (v := (x4 + (1 : Int32))) (lv' := [(4, .int (x4 + (1 : Int32))), (0, .ref (w.2.2.1 0)), (1, .int x1), (2, .int x2), (3, .int x3)]) hx hb dX9_toPreach_84 hl (k := 4) rfl rfl (by decide) rfl (fun ls hl => ?_)
        refine lv_goto (tgt := 57) hx hb dX9_toPreach_87 (by decide) ?_
        exact hI57 _ (Option.some.inj hf).symm _ _ ls hG (lv_sub hl [1, 2, 3, 4, 0] rfl)
      dsimp only [b_X9_toPreach_57] at hf
      refine lv_iload hx hb dX9_toPreach_57 (lv_at hl 4 rfl) ?_
      refine lv_aload_n hx hb dX9_toPreach_59 rfl (lv_at hl 0 rfl) ?_
      refine g_getI F hG mo_0 (by decide) (by decide) lk_X9_291 rfl dX9_toPreach_60 ?_
      refine lv_icmp_ge (tgt := 90) hx hb dX9_toPreach_63 (by decide) (fun c3 => ?_) (fun c3 => ?_)
      · replace hf := if_t c3 hf
        replace hf := mr_some hf
        obtain ⟨z57, hf, hz⟩ := hf
        rw [hE57 _ hz] at hf
        exact hJ90 _ _ _ _ _ ls hf hG (lv_sub hl [0, 1, 2, 3] rfl)
      · replace hf := if_f c3 hf
        refine lv_iload_n hx hb dX9_toPreach_66 rfl (lv_at hl 3 rfl) ?_
        refine lv_iload hx hb dX9_toPreach_67 (lv_at hl 4 rfl) ?_
        refine lv_ishr hx hb dX9_toPreach_69 ?_
        refine lv_iconst (v := 1) hx hb dX9_toPreach_70 (by decide) ?_
        refine lv_iand hx hb dX9_toPreach_71 ?_
        refine lv_iconst (v := 1) hx hb dX9_toPreach_72 (by decide) ?_
        refine lv_icmp_ne (tgt := 84) hx hb dX9_toPreach_73 (by decide) (fun c4 => ?_) (fun c4 => ?_)
        · replace hf := if_f c4 hf
          exact hJ84 _ _ _ _ ls hf hG (lv_sub hl [0, 1, 2, 3, 4] rfl)
        · replace hf := if_t c4 hf
          refine lv_aload_n hx hb dX9_toPreach_76 rfl (lv_at hl 0 rfl) ?_
          refine lv_bipush (v := 54) hx hb dX9_toPreach_77 (by decide) ?_
          refine lv_iload hx hb dX9_toPreach_79 (lv_at hl 4 rfl) ?_
          replace hf := bd_some hf
          obtain ⟨q5, eq5, hf⟩ := hf
          refine gx_callv hG (gx_runV hXk F hX hG (c_X9_preaches l w hXk n  (54 : Int32) x4 _ _ eq5) cv_X9_409 ⟨Nat.le_of_ble_eq_true rfl, Nat.le_of_ble_eq_true rfl⟩ (g_recv F hG mo_0 (by decide) rfl) rfl hl.1 rfl (Nat.le_of_ble_eq_true rfl) dX9_toPreach_81 ⟨Nat.le_refl _, Nat.le_refl _⟩) (fun H locs hG => ?_)
          exact hJ84 _ _ _ _ ls hf hG (lv_sub hl [0, 1, 2, 3, 4] rfl)
    have hJ50 : ∀ (x2 : Int32) (x3 : Int32) (M : Mem) (H : Heap) (locs : List Loc) (ls : Array Slot), j_X9_toPreach_50 n  x1 x2 x3 M = some rr21 → GI w layM 24 s.heap M H locs → lv_has ls 5 [(0, .ref (w.2.2.1 0)), (1, .int x1), (2, .int x2), (3, .int x3)] → W p l e (Rm 5) s m args below meth c H locs 0 0 (MQ below (GQi w layM 24 res s.heap.size) args s 0 0 (gA w.2.2.1 24 s.heap.size)) (F0 m 50 ls []) := by
      intro x2 x3 M H locs ls hf hG hl
      unfold j_X9_toPreach_50 at hf
      refine lv_aload_n hx hb dX9_toPreach_50 rfl (lv_at hl 0 rfl) ?_
      replace hf := bd_some hf
      obtain ⟨q6, eq6, hf⟩ := hf
      refine gx_callv hG (gx_runV hXk F hX hG (c_X9_tries l w hXk n   _ _ eq6) cv_X9_367 ⟨Nat.le_of_ble_eq_true rfl, Nat.le_of_ble_eq_true rfl⟩ (g_recv F hG mo_0 (by decide) rfl) rfl hl.1 rfl (Nat.le_of_ble_eq_true rfl) dX9_toPreach_51 ⟨Nat.le_refl _, Nat.le_refl _⟩) (fun H locs hG => ?_)
      refine lv_iconst (v := 0) hx hb dX9_toPreach_54 (by decide) ?_
      refine lv_istore (lv' := [(4, .int (0 : Int32)), (0, .ref (w.2.2.1 0)), (1, .int x1), (2, .int x2), (3, .int x3)]) hx hb dX9_toPreach_55 hl (by decide) rfl (fun ls hl => ?_)
      exact hJ57 _ _ _ _ _ _ ls hf hG (lv_sub hl [1, 2, 3, 4, 0] rfl)
    dsimp only [b_X9_toPreach_21] at hf
    refine lv_iload_n hx hb dX9_toPreach_21 rfl (lv_at hl 3 rfl) ?_
    refine lv_iconst (v := 1) hx hb dX9_toPreach_22 (by decide) ?_
    refine lv_aload_n hx hb dX9_toPreach_23 rfl (lv_at hl 0 rfl) ?_
    refine g_getI F hG mo_0 (by decide) (by decide) lk_X9_291 rfl dX9_toPreach_24 ?_
    refine lv_ishl hx hb dX9_toPreach_27 ?_
    refine lv_icmp_ge (tgt := 110) hx hb dX9_toPreach_28 (by decide) (fun c7 => ?_) (fun c7 => ?_)
    · replace hf := if_t c7 hf
      refine lv_iload_n hx hb dX9_toPreach_110 rfl (lv_at hl 2 rfl) ?_
      replace hf := mr_some hf
      obtain ⟨z21, hf, hz⟩ := hf
      rw [hE21 _ hz] at hf
      exact cg_iret F hr hlk hG hf dX9_toPreach_111
    · replace hf := if_f c7 hf
      refine lv_iload_n hx hb dX9_toPreach_31 rfl (lv_at hl 2 rfl) ?_
      refine lv_iconst (v := -1) hx hb dX9_toPreach_32 (by decide) ?_
      refine lv_icmp_eq (tgt := 50) hx hb dX9_toPreach_33 (by decide) (fun c8 => ?_) (fun c8 => ?_)
      · replace hf := if_t c8 hf
        exact hJ50 _ _ _ _ _ ls hf hG (lv_sub hl [0, 1, 2, 3] rfl)
      · replace hf := if_f c8 hf
        refine lv_iload_n hx hb dX9_toPreach_36 rfl (lv_at hl 3 rfl) ?_
        replace hf := bd_some hf
        obtain ⟨q9, eq9, hf⟩ := hf
        refine gx_calli hG (gx_runS hXk F hX hG (c_X9_bits l w hXk n  x3 _ _ eq9) cs_X9_418 ⟨Nat.le_of_ble_eq_true rfl, Nat.le_of_ble_eq_true rfl⟩ rfl hl.1 rfl (Nat.le_of_ble_eq_true rfl) dX9_toPreach_37 ⟨Nat.le_refl _, Nat.le_refl _⟩) (fun H locs hG => ?_)
        refine lv_iload_n hx hb dX9_toPreach_40 rfl (lv_at hl 2 rfl) ?_
        replace hf := bd_some hf
        obtain ⟨q10, eq10, hf⟩ := hf
        refine gx_calli hG (gx_runS hXk F hX hG (c_X9_bits l w hXk n  x2 _ _ eq10) cs_X9_418 ⟨Nat.le_of_ble_eq_true rfl, Nat.le_of_ble_eq_true rfl⟩ rfl hl.1 rfl (Nat.le_of_ble_eq_true rfl) dX9_toPreach_41 ⟨Nat.le_refl _, Nat.le_refl _⟩) (fun H locs hG => ?_)
        refine lv_icmp_lt (tgt := 50) hx hb dX9_toPreach_44 (by decide) (fun c11 => ?_) (fun c11 => ?_)
        · replace hf := if_t c11 hf
          exact hJ50 _ _ _ _ _ ls hf hG (lv_sub hl [0, 1, 2, 3] rfl)
        · replace hf := if_f c11 hf
          refine lv_goto (tgt := 104) hx hb dX9_toPreach_47 (by decide) ?_
          exact hJ104 _ _ _ _ _ ls hf hG (lv_sub hl [0, 1, 2, 3] rfl)
  unfold f_X9_toPreach at hf
  refine lv_aload_n hx hb dX9_toPreach_0 rfl (lv_at hl 0 rfl) ?_
  refine lv_iconst (v := 0) hx hb dX9_toPreach_1 (by decide) ?_
  refine g_putI F hG mo_0 (by decide) (by decide) lkv_X9_102 rfl rfl rfl dX9_toPreach_2 (fun H locs hG => ?_)
  refine lv_aload_n hx hb dX9_toPreach_5 rfl (lv_at hl 0 rfl) ?_
  refine lv_iload_n hx hb dX9_toPreach_6 rfl (lv_at hl 1 rfl) ?_
  refine lv_iconst (v := 1) hx hb dX9_toPreach_7 (by decide) ?_
  refine lv_iconst (v := 1) hx hb dX9_toPreach_8 (by decide) ?_
  replace hf := bd_some hf
  obtain ⟨q12, eq12, hf⟩ := hf
  refine gx_calli hG (gx_runV hXk F hX hG (c_X9_isSoon l w hXk n  x1 (1 : Int32) (1 : Int32) _ _ eq12) cv_X9_412 ⟨Nat.le_of_ble_eq_true rfl, Nat.le_of_ble_eq_true rfl⟩ (g_recv F hG mo_0 (by decide) rfl) rfl hl.1 rfl (Nat.le_of_ble_eq_true rfl) dX9_toPreach_9 ⟨Nat.le_refl _, Nat.le_refl _⟩) (fun H locs hG => ?_)
  refine lv_if_ne (tgt := 17) hx hb dX9_toPreach_12 (by decide) (fun c13 => ?_) (fun c13 => ?_)
  · replace hf := if_f c13 hf
    refine lv_iconst (v := -1) hx hb dX9_toPreach_17 (by decide) ?_
    refine lv_istore_n (lv' := [(2, .int (-1 : Int32)), (0, .ref (w.2.2.1 0)), (1, .int x1)]) hx hb dX9_toPreach_18 rfl hl (by decide) rfl (fun ls hl => ?_)
    refine lv_iconst (v := 0) hx hb dX9_toPreach_19 (by decide) ?_
    refine lv_istore_n (lv' := [(3, .int (0 : Int32)), (2, .int (-1 : Int32)), (0, .ref (w.2.2.1 0)), (1, .int x1)]) hx hb dX9_toPreach_20 rfl hl (by decide) rfl (fun ls hl => ?_)
    exact hJ21 _ _ _ _ _ _ ls hf hG (lv_sub hl [2, 3, 1, 0] rfl)
  · replace hf := if_t c13 hf
    refine lv_iconst (v := 0) hx hb dX9_toPreach_15 (by decide) ?_
    exact cg_iret F hr hlk hG hf dX9_toPreach_16

def b_X9_isRow_14 (n : Nat) (x2 : Int32) (q : (Int32 × Int32 × Int32 × Mem)) : Option ((Int32 × Int32 × Int32 × Mem) ⊕ (Int32 × Mem)) := match q with
  | (x3, x4, x5, M) => if x5 < 0 then (mr (some ((1 : Int32), M))) else (if x2 ≤ (x4 - x4 / (10 : Int32) * (10 : Int32)) then (mr (some ((0 : Int32), M))) else (if ((x3 >>> ((x4 - x4 / (10 : Int32) * (10 : Int32)) &&& 31)) &&& (1 : Int32)) = (1 : Int32) then (mr (some ((0 : Int32), M))) else (ck (inb ((6 : Int32) + ((gi M 12 (3 : Int32).toNatClampNeg) + (x4 - x4 / (10 : Int32) * (10 : Int32)))) 108) (ck (inb (((60 : Int32) + (gi M 12 (3 : Int32).toNatClampNeg)) + x5) 108) (ck (inb ((22 : Int32) + ((gi M 12 (3 : Int32).toNatClampNeg) + (x4 - x4 / (10 : Int32) * (10 : Int32)))) 108) (ck (inb (((76 : Int32) + (gi (si M 12 (((60 : Int32) + (gi M 12 (3 : Int32).toNatClampNeg)) + x5).toNatClampNeg (gi M 12 ((6 : Int32) + ((gi M 12 (3 : Int32).toNatClampNeg) + (x4 - x4 / (10 : Int32) * (10 : Int32)))).toNatClampNeg)) 12 (3 : Int32).toNatClampNeg)) + x5) 108) (some (.inl ((x3 ||| ((1 : Int32) <<< ((x4 - x4 / (10 : Int32) * (10 : Int32)) &&& 31))), (x4 / (10 : Int32)), (x5 + (-1 : Int32)), si (si M 12 (((60 : Int32) + (gi M 12 (3 : Int32).toNatClampNeg)) + x5).toNatClampNeg (gi M 12 ((6 : Int32) + ((gi M 12 (3 : Int32).toNatClampNeg) + (x4 - x4 / (10 : Int32) * (10 : Int32)))).toNatClampNeg)) 12 (((76 : Int32) + (gi (si M 12 (((60 : Int32) + (gi M 12 (3 : Int32).toNatClampNeg)) + x5).toNatClampNeg (gi M 12 ((6 : Int32) + ((gi M 12 (3 : Int32).toNatClampNeg) + (x4 - x4 / (10 : Int32) * (10 : Int32)))).toNatClampNeg)) 12 (3 : Int32).toNatClampNeg)) + x5).toNatClampNeg (gi (si M 12 (((60 : Int32) + (gi M 12 (3 : Int32).toNatClampNeg)) + x5).toNatClampNeg (gi M 12 ((6 : Int32) + ((gi M 12 (3 : Int32).toNatClampNeg) + (x4 - x4 / (10 : Int32) * (10 : Int32)))).toNatClampNeg)) 12 ((22 : Int32) + ((gi M 12 (3 : Int32).toNatClampNeg) + (x4 - x4 / (10 : Int32) * (10 : Int32)))).toNatClampNeg))))))))))
def f_X9_isRow (n : Nat) (x1 : Int32) (x2 : Int32) (M : Mem) : Option (Int32 × Mem) := bd (f_X9_tries n   M) (fun q8 => gl (b_X9_isRow_14 n  x2) n ((0 : Int32), x1, (x2 - (1 : Int32)), q8))
set_option maxHeartbeats 4000000 in
set_option maxRecDepth 100000 in
theorem c_X9_isRow (l : Launch) (w : Wd) {X : (Nat → Prop) → State → Heap → Prop} (hXk : XOK X) (n : Nat) (x1 : Int32) (x2 : Int32) (M : Mem) (res : Int32 × Mem) (hf : f_X9_isRow n  x1 x2 M = some res) : CG l w layM 24 X yX9_isRow cX9_isRow 8 (some .boolean) 1 [.ref (w.2.2.1 0), .int x1, .int x2] M (GQi w layM 24 res) := by
  refine cg_start (by decide +kernel) (Nat.le_of_ble_eq_true rfl) ?_
  intro p e s m args below meth c F hr hlk hX hG ls hl
  have F : FX w p m c cX9_isRow 8 s args RX9 := F
  have hx := F.1.1
  have hb := F.1.2.1
  have hl : lv_has ls 8 [(0, .ref (w.2.2.1 0)), (1, .int x1), (2, .int x2)] := hl
  have hJ14 : ∀ (x2 : Int32) (x3 : Int32) (x4 : Int32) (x5 : Int32) (M : Mem) (H : Heap) (locs : List Loc) (ls : Array Slot), gl (b_X9_isRow_14 n  x2) n (x3, x4, x5, M) = some res → GI w layM 24 s.heap M H locs → lv_has ls 8 [(0, .ref (w.2.2.1 0)), (2, .int x2), (3, .int x3), (4, .int x4), (5, .int x5)] → W p l e (Rm 1) s m args below meth c H locs 0 0 (MQ below (GQi w layM 24 res s.heap.size) args s 0 0 (gA w.2.2.1 24 s.heap.size)) (F0 m 14 ls []) := by
    intro x2 x3 x4 x5 M H locs ls hf hG hl
    refine gl_run (P := fun (q : (Int32 × Int32 × Int32 × Mem)) => ∀ (H : Heap) (locs : List Loc) (ls : Array Slot), GI w layM 24 s.heap q.2.2.2 H locs → lv_has ls 8 [(0, .ref (w.2.2.1 0)), (2, .int x2), (3, .int q.1), (4, .int q.2.1), (5, .int q.2.2.1)] → W p l e (Rm 1) s m args below meth c H locs 0 0 (MQ below (GQi w layM 24 res s.heap.size) args s 0 0 (gA w.2.2.1 24 s.heap.size)) (F0 m 14 ls [])) ?_ n (x3, x4, x5, M) hf H locs ls hG hl
    clear hf hG hl ls locs H M x3 x4 x5
    rintro ⟨x3, x4, x5, M⟩ rr14 hf hI14 hE14 H locs ls hG hl
    try dsimp only at hG hl ⊢
    dsimp only [b_X9_isRow_14] at hf
    refine lv_iload hx hb dX9_isRow_14 (lv_at hl 4 rfl) ?_
    refine lv_if_lt (tgt := 129) hx hb dX9_isRow_16 (by decide) (fun c1 => ?_) (fun c1 => ?_)
    · replace hf := if_t c1 hf
      refine lv_iconst (v := 1) hx hb dX9_isRow_129 (by decide) ?_
      replace hf := mr_some hf
      obtain ⟨z14, hf, hz⟩ := hf
      rw [hE14 _ hz] at hf
      exact cg_zret F hr hlk hG hf (Or.inr rfl) dX9_isRow_130
    · replace hf := if_f c1 hf
      refine lv_iload hx hb dX9_isRow_19 (lv_at hl 3 rfl) ?_
      refine lv_bipush (v := 10) hx hb dX9_isRow_21 (by decide) ?_
      refine lv_irem hx hb dX9_isRow_23 (by decide) ?_
      refine lv_istore (lv' := [(6, .int (x4 - x4 / (10 : Int32) * (10 : Int32))), (0, .ref (w.2.2.1 0)), (2, .int x2), (3, .int x3), (4, .int x4), (5, .int x5)]) hx hb dX9_isRow_24 hl (by decide) rfl (fun ls hl => ?_)
      refine lv_iload hx hb dX9_isRow_26 (lv_at hl 4 rfl) ?_
      refine lv_bipush (v := 10) hx hb dX9_isRow_28 (by decide) ?_
      refine lv_idiv hx hb dX9_isRow_30 (by decide) ?_
      refine lv_istore (lv' := [(4, .int (x4 / (10 : Int32))), (6, .int (x4 - x4 / (10 : Int32) * (10 : Int32))), (0, .ref (w.2.2.1 0)), (2, .int x2), (3, .int x3), (5, .int x5)]) hx hb dX9_isRow_31 hl (by decide) rfl (fun ls hl => ?_)
      refine lv_iload hx hb dX9_isRow_33 (lv_at hl 1 rfl) ?_
      refine lv_iload_n hx hb dX9_isRow_35 rfl (lv_at hl 3 rfl) ?_
      refine lv_icmp_ge (tgt := 49) hx hb dX9_isRow_36 (by decide) (fun c2 => ?_) (fun c2 => ?_)
      · replace hf := if_t c2 hf
        refine lv_iconst (v := 0) hx hb dX9_isRow_49 (by decide) ?_
        replace hf := mr_some hf
        obtain ⟨z14, hf, hz⟩ := hf
        rw [hE14 _ hz] at hf
        exact cg_zret F hr hlk hG hf (Or.inl rfl) dX9_isRow_50
      · replace hf := if_f c2 hf
        refine lv_iload_n hx hb dX9_isRow_39 rfl (lv_at hl 4 rfl) ?_
        refine lv_iload hx hb dX9_isRow_40 (lv_at hl 1 rfl) ?_
        refine lv_ishr hx hb dX9_isRow_42 ?_
        refine lv_iconst (v := 1) hx hb dX9_isRow_43 (by decide) ?_
        refine lv_iand hx hb dX9_isRow_44 ?_
        refine lv_iconst (v := 1) hx hb dX9_isRow_45 (by decide) ?_
        refine lv_icmp_ne (tgt := 51) hx hb dX9_isRow_46 (by decide) (fun c3 => ?_) (fun c3 => ?_)
        · replace hf := if_f c3 hf
          refine lv_iload_n hx hb dX9_isRow_51 rfl (lv_at hl 4 rfl) ?_
          refine lv_iconst (v := 1) hx hb dX9_isRow_52 (by decide) ?_
          refine lv_iload hx hb dX9_isRow_53 (lv_at hl 1 rfl) ?_
          refine lv_ishl hx hb dX9_isRow_55 ?_
          refine lv_ior hx hb dX9_isRow_56 ?_
          refine lv_istore_n (lv' := [(3, .int (x3 ||| ((1 : Int32) <<< ((x4 - x4 / (10 : Int32) * (10 : Int32)) &&& 31)))), (4, .int (x4 / (10 : Int32))), (6, .int (x4 - x4 / (10 : Int32) * (10 : Int32))), (0, .ref (w.2.2.1 0)), (2, .int x2), (5, .int x5)]) hx hb dX9_isRow_57 rfl hl (by decide) rfl (fun ls hl => ?_)
          refine lv_aload_n hx hb dX9_isRow_58 rfl (lv_at hl 3 rfl) ?_
          refine g_getR F hG 12 mo_0 (by decide) (by decide) lk_X9_63 rfl dX9_isRow_59 ?_
          refine lv_iconst (v := 3) hx hb dX9_isRow_62 (by decide) ?_
          refine g_iald F hG oM_12 (by decide) dX9_isRow_63 ?_
          refine lv_iload hx hb dX9_isRow_64 (lv_at hl 2 rfl) ?_
          refine lv_iadd hx hb dX9_isRow_66 ?_
          refine lv_istore (lv' := [(7, .int ((gi M 12 (3 : Int32).toNatClampNeg) + (x4 - x4 / (10 : Int32) * (10 : Int32)))), (3, .int (x3 ||| ((1 : Int32) <<< ((x4 - x4 / (10 : Int32) * (10 : Int32)) &&& 31)))), (4, .int (x4 / (10 : Int32))), (6, .int (x4 - x4 / (10 : Int32) * (10 : Int32))), (0, .ref (w.2.2.1 0)), (2, .int x2), (5, .int x5)]) hx hb dX9_isRow_67 hl (by decide) rfl (fun ls hl => ?_)
          refine lv_aload_n hx hb dX9_isRow_69 rfl (lv_at hl 4 rfl) ?_
          refine g_getR F hG 12 mo_0 (by decide) (by decide) lk_X9_63 rfl dX9_isRow_70 ?_
          refine lv_bipush (v := 60) hx hb dX9_isRow_73 (by decide) ?_
          refine lv_aload_n hx hb dX9_isRow_75 rfl (lv_at hl 4 rfl) ?_
          refine g_getR F hG 12 mo_0 (by decide) (by decide) lk_X9_63 rfl dX9_isRow_76 ?_
          refine lv_iconst (v := 3) hx hb dX9_isRow_79 (by decide) ?_
          refine g_iald F hG oM_12 (by decide) dX9_isRow_80 ?_
          refine lv_iadd hx hb dX9_isRow_81 ?_
          refine lv_iload hx hb dX9_isRow_82 (lv_at hl 6 rfl) ?_
          refine lv_iadd hx hb dX9_isRow_84 ?_
          refine lv_aload_n hx hb dX9_isRow_85 rfl (lv_at hl 4 rfl) ?_
          refine g_getR F hG 12 mo_0 (by decide) (by decide) lk_X9_63 rfl dX9_isRow_86 ?_
          refine lv_bipush (v := 6) hx hb dX9_isRow_89 (by decide) ?_
          refine lv_iload hx hb dX9_isRow_91 (lv_at hl 0 rfl) ?_
          refine lv_iadd hx hb dX9_isRow_93 ?_
          replace hf := ck_some hf
          obtain ⟨k4, hf⟩ := hf
          refine g_iald F hG oM_12 k4 dX9_isRow_94 ?_
          replace hf := ck_some hf
          obtain ⟨k5, hf⟩ := hf
          refine g_iast F hG oM_12 k5 dX9_isRow_95 (fun H locs hG => ?_)
          refine lv_aload_n hx hb dX9_isRow_96 rfl (lv_at hl 4 rfl) ?_
          refine g_getR F hG 12 mo_0 (by decide) (by decide) lk_X9_63 rfl dX9_isRow_97 ?_
          refine lv_bipush (v := 76) hx hb dX9_isRow_100 (by decide) ?_
          refine lv_aload_n hx hb dX9_isRow_102 rfl (lv_at hl 4 rfl) ?_
          refine g_getR F hG 12 mo_0 (by decide) (by decide) lk_X9_63 rfl dX9_isRow_103 ?_
          refine lv_iconst (v := 3) hx hb dX9_isRow_106 (by decide) ?_
          refine g_iald F hG oM_12 (by decide) dX9_isRow_107 ?_
          refine lv_iadd hx hb dX9_isRow_108 ?_
          refine lv_iload hx hb dX9_isRow_109 (lv_at hl 6 rfl) ?_
          refine lv_iadd hx hb dX9_isRow_111 ?_
          refine lv_aload_n hx hb dX9_isRow_112 rfl (lv_at hl 4 rfl) ?_
          refine g_getR F hG 12 mo_0 (by decide) (by decide) lk_X9_63 rfl dX9_isRow_113 ?_
          refine lv_bipush (v := 22) hx hb dX9_isRow_116 (by decide) ?_
          refine lv_iload hx hb dX9_isRow_118 (lv_at hl 0 rfl) ?_
          refine lv_iadd hx hb dX9_isRow_120 ?_
          replace hf := ck_some hf
          obtain ⟨k6, hf⟩ := hf
          refine g_iald F hG oM_12 k6 dX9_isRow_121 ?_
          replace hf := ck_some hf
          obtain ⟨k7, hf⟩ := hf
          refine g_iast F hG oM_12 k7 dX9_isRow_122 (fun H locs hG => ?_)
          refine lv_iinc (v := (x5 + (-1 : Int32))) (lv' := [(5, .int (x5 + (-1 : Int32))), (7, .int ((gi M 12 (3 : Int32).toNatClampNeg) + (x4 - x4 / (10 : Int32) * (10 : Int32)))), (3, .int (x3 ||| ((1 : Int32) <<< ((x4 - x4 / (10 : Int32) * (10 : Int32)) &&& 31)))), (4, .int (x4 / (10 : Int32))), (6, .int (x4 - x4 / (10 : Int32) * (10 : Int32))), (0, .ref (w.2.2.1 0)), (2, .int x2)]) hx hb dX9_isRow_123 hl (k := 6) rfl rfl (by decide) rfl (fun ls hl => ?_)
          refine lv_goto (tgt := 14) hx hb dX9_isRow_126 (by decide) ?_
          exact hI14 _ (Option.some.inj hf).symm _ _ ls hG (lv_sub hl [5, 6, 2, 3, 0] rfl)
        · replace hf := if_t c3 hf
          refine lv_iconst (v := 0) hx hb dX9_isRow_49 (by decide) ?_
          replace hf := mr_some hf
          obtain ⟨z14, hf, hz⟩ := hf
          rw [hE14 _ hz] at hf
          exact cg_zret F hr hlk hG hf (Or.inl rfl) dX9_isRow_50
  unfold f_X9_isRow at hf
  refine lv_iconst (v := 0) hx hb dX9_isRow_0 (by decide) ?_
  refine lv_istore_n (lv' := [(3, .int (0 : Int32)), (0, .ref (w.2.2.1 0)), (1, .int x1), (2, .int x2)]) hx hb dX9_isRow_1 rfl hl (by decide) rfl (fun ls hl => ?_)
  refine lv_iload_n hx hb dX9_isRow_2 rfl (lv_at hl 2 rfl) ?_
  refine lv_istore (lv' := [(4, .int x1), (3, .int (0 : Int32)), (0, .ref (w.2.2.1 0)), (1, .int x1), (2, .int x2)]) hx hb dX9_isRow_3 hl (by decide) rfl (fun ls hl => ?_)
  refine lv_aload_n hx hb dX9_isRow_5 rfl (lv_at hl 2 rfl) ?_
  replace hf := bd_some hf
  obtain ⟨q8, eq8, hf⟩ := hf
  refine gx_callv hG (gx_runV hXk F hX hG (c_X9_tries l w hXk n   _ _ eq8) cv_X9_367 ⟨Nat.le_of_ble_eq_true rfl, Nat.le_of_ble_eq_true rfl⟩ (g_recv F hG mo_0 (by decide) rfl) rfl hl.1 rfl (Nat.le_of_ble_eq_true rfl) dX9_isRow_6 ⟨Nat.le_refl _, Nat.le_refl _⟩) (fun H locs hG => ?_)
  refine lv_iload_n hx hb dX9_isRow_9 rfl (lv_at hl 4 rfl) ?_
  refine lv_iconst (v := 1) hx hb dX9_isRow_10 (by decide) ?_
  refine lv_isub hx hb dX9_isRow_11 ?_
  refine lv_istore (lv' := [(5, .int (x2 - (1 : Int32))), (4, .int x1), (3, .int (0 : Int32)), (0, .ref (w.2.2.1 0)), (1, .int x1), (2, .int x2)]) hx hb dX9_isRow_12 hl (by decide) rfl (fun ls hl => ?_)
  exact hJ14 _ _ _ _ _ _ _ ls hf hG (lv_sub hl [3, 5, 2, 1, 0] rfl)

def j_X9_row_173 (n : Nat) (x2 : Int32) (x3 : Int32) (x4 : Int32) (x5 : Int32) (M : Mem) : Option (Int32 × Mem) := if x2 = 0 then (some (x4, M)) else (if x3 = 0 then (some ((-1 : Int32), M)) else (some (x5, M)))
def j_X9_row_167 (n : Nat) (x1 : Int32) (x2 : Int32) (x3 : Int32) (x4 : Int32) (x5 : Int32) (x6 : Int32) (x7 : Int32) (M : Mem) : Option ((Int32 × Int32 × Int32 × Mem) ⊕ (Int32 × Mem)) := some (.inl (x4, x5, (x7 + (1 : Int32)), M))
def b_X9_row_114 (n : Nat) (x1 : Int32) (x2 : Int32) (x3 : Int32) (x6 : Int32) (q : (Int32 × Int32 × Int32 × Mem)) : Option ((Int32 × Int32 × Int32 × Mem) ⊕ (Int32 × Mem)) := match q with
  | (x4, x5, x7, M) => if x6 ≤ x7 then (mr (j_X9_row_173 n  x2 x3 x4 x5 M)) else (bd (f_X9_isRow n  x7 x3 M) (fun q4 => if q4.1 = 0 then (j_X9_row_167 n  x1 x2 x3 x4 x5 x6 x7 q4.2) else (bd (f_X9_daysGo n  x1 q4.2) (fun q6 => if x4 < (gi q6 12 (57 : Int32).toNatClampNeg) then (j_X9_row_167 n  x1 x2 x3 (gi q6 12 (57 : Int32).toNatClampNeg) x7 x6 x7 q6) else (j_X9_row_167 n  x1 x2 x3 x4 x5 x6 x7 q6)))))
def j_X9_row_109 (n : Nat) (t0 : Int32) (x1 : Int32) (x2 : Int32) (x3 : Int32) (x4 : Int32) (x5 : Int32) (M : Mem) : Option (Int32 × Mem) := gl (b_X9_row_114 n  x1 x2 x3 t0) n (x4, x5, (0 : Int32), M)
def j_X9_row_60 (n : Nat) (t0 : Int32) (x1 : Int32) (x2 : Int32) (M : Mem) : Option (Int32 × Mem) := if t0 = 0 then (j_X9_row_109 n  (1 : Int32) x1 x2 t0 (-1 : Int32) (-1 : Int32) M) else (if t0 = (1 : Int32) then (j_X9_row_109 n  (10 : Int32) x1 x2 t0 (-1 : Int32) (-1 : Int32) M) else (if t0 = (2 : Int32) then (j_X9_row_109 n  (100 : Int32) x1 x2 t0 (-1 : Int32) (-1 : Int32) M) else (if t0 = (3 : Int32) then (j_X9_row_109 n  (1000 : Int32) x1 x2 t0 (-1 : Int32) (-1 : Int32) M) else (j_X9_row_109 n  (10000 : Int32) x1 x2 t0 (-1 : Int32) (-1 : Int32) M))))
def f_X9_row (n : Nat) (x1 : Int32) (x2 : Int32) (M : Mem) : Option (Int32 × Mem) := bd (f_X9_isWhat n  x2 (1 : Int32) (si M 0 0 (0 : Int32))) (fun q12 => if q12.1 = 0 then (some ((0 : Int32), q12.2)) else (bd (f_X9_isSoon n  x1 (1 : Int32) (2 : Int32) q12.2) (fun q14 => if q14.1 = 0 then (some ((0 : Int32), q14.2)) else (if (4 : Int32) ≤ ((gi q14.2 12 (4 : Int32).toNatClampNeg) - (gi q14.2 12 (3 : Int32).toNatClampNeg)) then (j_X9_row_60 n  (4 : Int32) x1 x2 q14.2) else (j_X9_row_60 n  ((gi q14.2 12 (4 : Int32).toNatClampNeg) - (gi q14.2 12 (3 : Int32).toNatClampNeg)) x1 x2 q14.2)))))
set_option maxHeartbeats 4000000 in
set_option maxRecDepth 100000 in
theorem c_X9_row (l : Launch) (w : Wd) {X : (Nat → Prop) → State → Heap → Prop} (hXk : XOK X) (n : Nat) (x1 : Int32) (x2 : Int32) (M : Mem) (res : Int32 × Mem) (hf : f_X9_row n  x1 x2 M = some res) : CG l w layM 24 X yX9_row cX9_row 8 (some .int) 5 [.ref (w.2.2.1 0), .int x1, .int x2] M (GQi w layM 24 res) := by
  refine cg_start (by decide +kernel) (Nat.le_of_ble_eq_true rfl) ?_
  intro p e s m args below meth c F hr hlk hX hG ls hl
  have F : FX w p m c cX9_row 8 s args RX9 := F
  have hx := F.1.1
  have hb := F.1.2.1
  have hl : lv_has ls 8 [(0, .ref (w.2.2.1 0)), (1, .int x1), (2, .int x2)] := hl
  have hJ173 : ∀ (x2 : Int32) (x3 : Int32) (x4 : Int32) (x5 : Int32) (M : Mem) (H : Heap) (locs : List Loc) (ls : Array Slot), j_X9_row_173 n  x2 x3 x4 x5 M = some res → GI w layM 24 s.heap M H locs → lv_has ls 8 [(2, .int x2), (3, .int x3), (4, .int x4), (5, .int x5)] → W p l e (Rm 5) s m args below meth c H locs 0 0 (MQ below (GQi w layM 24 res s.heap.size) args s 0 0 (gA w.2.2.1 24 s.heap.size)) (F0 m 173 ls []) := by
    intro x2 x3 x4 x5 M H locs ls hf hG hl
    unfold j_X9_row_173 at hf
    refine lv_iload_n hx hb dX9_row_173 rfl (lv_at hl 0 rfl) ?_
    refine lv_if_ne (tgt := 182) hx hb dX9_row_174 (by decide) (fun c1 => ?_) (fun c1 => ?_)
    · replace hf := if_f c1 hf
      refine lv_iload_n hx hb dX9_row_182 rfl (lv_at hl 1 rfl) ?_
      refine lv_if_ne (tgt := 190) hx hb dX9_row_183 (by decide) (fun c2 => ?_) (fun c2 => ?_)
      · replace hf := if_f c2 hf
        refine lv_iload hx hb dX9_row_190 (lv_at hl 3 rfl) ?_
        exact cg_iret F hr hlk hG hf dX9_row_192
      · replace hf := if_t c2 hf
        refine lv_iconst (v := -1) hx hb dX9_row_186 (by decide) ?_
        refine lv_goto (tgt := 192) hx hb dX9_row_187 (by decide) ?_
        exact cg_iret F hr hlk hG hf dX9_row_192
    · replace hf := if_t c1 hf
      refine lv_iload hx hb dX9_row_177 (lv_at hl 2 rfl) ?_
      refine lv_goto (tgt := 192) hx hb dX9_row_179 (by decide) ?_
      exact cg_iret F hr hlk hG hf dX9_row_192
  have hJ114 : ∀ (x1 : Int32) (x2 : Int32) (x3 : Int32) (x4 : Int32) (x5 : Int32) (x6 : Int32) (x7 : Int32) (M : Mem) (H : Heap) (locs : List Loc) (ls : Array Slot), gl (b_X9_row_114 n  x1 x2 x3 x6) n (x4, x5, x7, M) = some res → GI w layM 24 s.heap M H locs → lv_has ls 8 [(0, .ref (w.2.2.1 0)), (1, .int x1), (2, .int x2), (3, .int x3), (4, .int x4), (5, .int x5), (6, .int x6), (7, .int x7)] → W p l e (Rm 5) s m args below meth c H locs 0 0 (MQ below (GQi w layM 24 res s.heap.size) args s 0 0 (gA w.2.2.1 24 s.heap.size)) (F0 m 114 ls []) := by
    intro x1 x2 x3 x4 x5 x6 x7 M H locs ls hf hG hl
    refine gl_run (P := fun (q : (Int32 × Int32 × Int32 × Mem)) => ∀ (H : Heap) (locs : List Loc) (ls : Array Slot), GI w layM 24 s.heap q.2.2.2 H locs → lv_has ls 8 [(0, .ref (w.2.2.1 0)), (1, .int x1), (2, .int x2), (3, .int x3), (4, .int q.1), (5, .int q.2.1), (6, .int x6), (7, .int q.2.2.1)] → W p l e (Rm 5) s m args below meth c H locs 0 0 (MQ below (GQi w layM 24 res s.heap.size) args s 0 0 (gA w.2.2.1 24 s.heap.size)) (F0 m 114 ls [])) ?_ n (x4, x5, x7, M) hf H locs ls hG hl
    clear hf hG hl ls locs H M x4 x5 x7
    rintro ⟨x4, x5, x7, M⟩ rr114 hf hI114 hE114 H locs ls hG hl
    try dsimp only at hG hl ⊢
    have hJ167 : ∀ (x4 : Int32) (x5 : Int32) (x7 : Int32) (M : Mem) (H : Heap) (locs : List Loc) (ls : Array Slot), j_X9_row_167 n  x1 x2 x3 x4 x5 x6 x7 M = some rr114 → GI w layM 24 s.heap M H locs → lv_has ls 8 [(0, .ref (w.2.2.1 0)), (1, .int x1), (2, .int x2), (3, .int x3), (4, .int x4), (5, .int x5), (6, .int x6), (7, .int x7)] → W p l e (Rm 5) s m args below meth c H locs 0 0 (MQ below (GQi w layM 24 res s.heap.size) args s 0 0 (gA w.2.2.1 24 s.heap.size)) (F0 m 167 ls []) := by
      intro x4 x5 x7 M H locs ls hf hG hl
      unfold j_X9_row_167 at hf
      refine lv_iinc (v := (x7 + (1 : Int32))) (lv' := [(7, .int (x7 + (1 : Int32))), (0, .ref (w.2.2.1 0)), (1, .int x1), (2, .int x2), (3, .int x3), (4, .int x4), (5, .int x5), (6, .int x6)]) hx hb dX9_row_167 hl (k := 7) rfl rfl (by decide) rfl (fun ls hl => ?_)
      refine lv_goto (tgt := 114) hx hb dX9_row_170 (by decide) ?_
      exact hI114 _ (Option.some.inj hf).symm _ _ ls hG (lv_sub hl [1, 2, 3, 4, 5, 6, 7, 0] rfl)
    dsimp only [b_X9_row_114] at hf
    refine lv_iload hx hb dX9_row_114 (lv_at hl 7 rfl) ?_
    refine lv_iload hx hb dX9_row_116 (lv_at hl 6 rfl) ?_
    refine lv_icmp_ge (tgt := 173) hx hb dX9_row_118 (by decide) (fun c3 => ?_) (fun c3 => ?_)
    · replace hf := if_t c3 hf
      replace hf := mr_some hf
      obtain ⟨z114, hf, hz⟩ := hf
      rw [hE114 _ hz] at hf
      exact hJ173 _ _ _ _ _ _ _ ls hf hG (lv_sub hl [2, 3, 4, 5] rfl)
    · replace hf := if_f c3 hf
      refine lv_aload_n hx hb dX9_row_121 rfl (lv_at hl 0 rfl) ?_
      refine lv_iload hx hb dX9_row_122 (lv_at hl 7 rfl) ?_
      refine lv_iload_n hx hb dX9_row_124 rfl (lv_at hl 3 rfl) ?_
      replace hf := bd_some hf
      obtain ⟨q4, eq4, hf⟩ := hf
      refine gx_calli hG (gx_runV hXk F hX hG (c_X9_isRow l w hXk n  x7 x3 _ _ eq4) cv_X9_421 ⟨Nat.le_of_ble_eq_true rfl, Nat.le_of_ble_eq_true rfl⟩ (g_recv F hG mo_0 (by decide) rfl) rfl hl.1 rfl (Nat.le_of_ble_eq_true rfl) dX9_row_125 ⟨Nat.le_refl _, Nat.le_refl _⟩) (fun H locs hG => ?_)
      refine lv_if_ne (tgt := 134) hx hb dX9_row_128 (by decide) (fun c5 => ?_) (fun c5 => ?_)
      · replace hf := if_f c5 hf
        refine lv_aload_n hx hb dX9_row_134 rfl (lv_at hl 0 rfl) ?_
        refine lv_iload_n hx hb dX9_row_135 rfl (lv_at hl 1 rfl) ?_
        replace hf := bd_some hf
        obtain ⟨q6, eq6, hf⟩ := hf
        refine gx_callv hG (gx_runV hXk F hX hG (c_X9_daysGo l w hXk n  x1 _ _ eq6) cv_X9_370 ⟨Nat.le_of_ble_eq_true rfl, Nat.le_of_ble_eq_true rfl⟩ (g_recv F hG mo_0 (by decide) rfl) rfl hl.1 rfl (Nat.le_of_ble_eq_true rfl) dX9_row_136 ⟨Nat.le_refl _, Nat.le_refl _⟩) (fun H locs hG => ?_)
        refine lv_aload_n hx hb dX9_row_139 rfl (lv_at hl 0 rfl) ?_
        refine g_getR F hG 12 mo_0 (by decide) (by decide) lk_X9_63 rfl dX9_row_140 ?_
        refine lv_bipush (v := 57) hx hb dX9_row_143 (by decide) ?_
        refine g_iald F hG oM_12 (by decide) dX9_row_145 ?_
        refine lv_iload hx hb dX9_row_146 (lv_at hl 4 rfl) ?_
        refine lv_icmp_gt (tgt := 154) hx hb dX9_row_148 (by decide) (fun c7 => ?_) (fun c7 => ?_)
        · replace hf := if_t c7 hf
          refine lv_aload_n hx hb dX9_row_154 rfl (lv_at hl 0 rfl) ?_
          refine g_getR F hG 12 mo_0 (by decide) (by decide) lk_X9_63 rfl dX9_row_155 ?_
          refine lv_bipush (v := 57) hx hb dX9_row_158 (by decide) ?_
          refine g_iald F hG oM_12 (by decide) dX9_row_160 ?_
          refine lv_istore (lv' := [(4, .int (gi q6 12 (57 : Int32).toNatClampNeg)), (0, .ref (w.2.2.1 0)), (1, .int x1), (2, .int x2), (3, .int x3), (5, .int x5), (6, .int x6), (7, .int x7)]) hx hb dX9_row_161 hl (by decide) rfl (fun ls hl => ?_)
          refine lv_iload hx hb dX9_row_163 (lv_at hl 7 rfl) ?_
          refine lv_istore (lv' := [(5, .int x7), (4, .int (gi q6 12 (57 : Int32).toNatClampNeg)), (0, .ref (w.2.2.1 0)), (1, .int x1), (2, .int x2), (3, .int x3), (6, .int x6), (7, .int x7)]) hx hb dX9_row_165 hl (by decide) rfl (fun ls hl => ?_)
          exact hJ167 _ _ _ _ _ _ ls hf hG (lv_sub hl [2, 3, 4, 5, 1, 0, 6, 7] rfl)
        · replace hf := if_f c7 hf
          refine lv_goto (tgt := 167) hx hb dX9_row_151 (by decide) ?_
          exact hJ167 _ _ _ _ _ _ ls hf hG (lv_sub hl [0, 1, 2, 3, 4, 5, 6, 7] rfl)
      · replace hf := if_t c5 hf
        refine lv_goto (tgt := 167) hx hb dX9_row_131 (by decide) ?_
        exact hJ167 _ _ _ _ _ _ ls hf hG (lv_sub hl [0, 1, 2, 3, 4, 5, 6, 7] rfl)
  have hJ109 : ∀ (t0 : Int32) (x1 : Int32) (x2 : Int32) (x3 : Int32) (x4 : Int32) (x5 : Int32) (M : Mem) (H : Heap) (locs : List Loc) (ls : Array Slot), j_X9_row_109 n  t0 x1 x2 x3 x4 x5 M = some res → GI w layM 24 s.heap M H locs → lv_has ls 8 [(0, .ref (w.2.2.1 0)), (1, .int x1), (2, .int x2), (3, .int x3), (4, .int x4), (5, .int x5)] → W p l e (Rm 5) s m args below meth c H locs 0 0 (MQ below (GQi w layM 24 res s.heap.size) args s 0 0 (gA w.2.2.1 24 s.heap.size)) (F0 m 109 ls [.int t0]) := by
    intro t0 x1 x2 x3 x4 x5 M H locs ls hf hG hl
    unfold j_X9_row_109 at hf
    refine lv_istore (lv' := [(6, .int t0), (0, .ref (w.2.2.1 0)), (1, .int x1), (2, .int x2), (3, .int x3), (4, .int x4), (5, .int x5)]) hx hb dX9_row_109 hl (by decide) rfl (fun ls hl => ?_)
    refine lv_iconst (v := 0) hx hb dX9_row_111 (by decide) ?_
    refine lv_istore (lv' := [(7, .int (0 : Int32)), (6, .int t0), (0, .ref (w.2.2.1 0)), (1, .int x1), (2, .int x2), (3, .int x3), (4, .int x4), (5, .int x5)]) hx hb dX9_row_112 hl (by decide) rfl (fun ls hl => ?_)
    exact hJ114 _ _ _ _ _ _ _ _ _ _ ls hf hG (lv_sub hl [2, 3, 4, 5, 6, 7, 1, 0] rfl)
  have hJ60 : ∀ (t0 : Int32) (x1 : Int32) (x2 : Int32) (M : Mem) (H : Heap) (locs : List Loc) (ls : Array Slot), j_X9_row_60 n  t0 x1 x2 M = some res → GI w layM 24 s.heap M H locs → lv_has ls 8 [(0, .ref (w.2.2.1 0)), (1, .int x1), (2, .int x2)] → W p l e (Rm 5) s m args below meth c H locs 0 0 (MQ below (GQi w layM 24 res s.heap.size) args s 0 0 (gA w.2.2.1 24 s.heap.size)) (F0 m 60 ls [.int t0]) := by
    intro t0 x1 x2 M H locs ls hf hG hl
    unfold j_X9_row_60 at hf
    refine lv_istore_n (lv' := [(3, .int t0), (0, .ref (w.2.2.1 0)), (1, .int x1), (2, .int x2)]) hx hb dX9_row_60 rfl hl (by decide) rfl (fun ls hl => ?_)
    refine lv_iconst (v := -1) hx hb dX9_row_61 (by decide) ?_
    refine lv_istore (lv' := [(4, .int (-1 : Int32)), (3, .int t0), (0, .ref (w.2.2.1 0)), (1, .int x1), (2, .int x2)]) hx hb dX9_row_62 hl (by decide) rfl (fun ls hl => ?_)
    refine lv_iconst (v := -1) hx hb dX9_row_64 (by decide) ?_
    refine lv_istore (lv' := [(5, .int (-1 : Int32)), (4, .int (-1 : Int32)), (3, .int t0), (0, .ref (w.2.2.1 0)), (1, .int x1), (2, .int x2)]) hx hb dX9_row_65 hl (by decide) rfl (fun ls hl => ?_)
    refine lv_iload_n hx hb dX9_row_67 rfl (lv_at hl 2 rfl) ?_
    refine lv_if_ne (tgt := 75) hx hb dX9_row_68 (by decide) (fun c8 => ?_) (fun c8 => ?_)
    · replace hf := if_f c8 hf
      refine lv_iload_n hx hb dX9_row_75 rfl (lv_at hl 2 rfl) ?_
      refine lv_iconst (v := 1) hx hb dX9_row_76 (by decide) ?_
      refine lv_icmp_ne (tgt := 85) hx hb dX9_row_77 (by decide) (fun c9 => ?_) (fun c9 => ?_)
      · replace hf := if_f c9 hf
        refine lv_iload_n hx hb dX9_row_85 rfl (lv_at hl 2 rfl) ?_
        refine lv_iconst (v := 2) hx hb dX9_row_86 (by decide) ?_
        refine lv_icmp_ne (tgt := 95) hx hb dX9_row_87 (by decide) (fun c10 => ?_) (fun c10 => ?_)
        · replace hf := if_f c10 hf
          refine lv_iload_n hx hb dX9_row_95 rfl (lv_at hl 2 rfl) ?_
          refine lv_iconst (v := 3) hx hb dX9_row_96 (by decide) ?_
          refine lv_icmp_ne (tgt := 106) hx hb dX9_row_97 (by decide) (fun c11 => ?_) (fun c11 => ?_)
          · replace hf := if_f c11 hf
            refine lv_sipush (v := 10000) hx hb dX9_row_106 (by decide) ?_
            exact hJ109 _ _ _ _ _ _ _ _ _ ls hf hG (lv_sub hl [3, 4, 5, 2, 1, 0] rfl)
          · replace hf := if_t c11 hf
            refine lv_sipush (v := 1000) hx hb dX9_row_100 (by decide) ?_
            refine lv_goto (tgt := 109) hx hb dX9_row_103 (by decide) ?_
            exact hJ109 _ _ _ _ _ _ _ _ _ ls hf hG (lv_sub hl [3, 4, 5, 2, 1, 0] rfl)
        · replace hf := if_t c10 hf
          refine lv_bipush (v := 100) hx hb dX9_row_90 (by decide) ?_
          refine lv_goto (tgt := 109) hx hb dX9_row_92 (by decide) ?_
          exact hJ109 _ _ _ _ _ _ _ _ _ ls hf hG (lv_sub hl [3, 4, 5, 2, 1, 0] rfl)
      · replace hf := if_t c9 hf
        refine lv_bipush (v := 10) hx hb dX9_row_80 (by decide) ?_
        refine lv_goto (tgt := 109) hx hb dX9_row_82 (by decide) ?_
        exact hJ109 _ _ _ _ _ _ _ _ _ ls hf hG (lv_sub hl [3, 4, 5, 2, 1, 0] rfl)
    · replace hf := if_t c8 hf
      refine lv_iconst (v := 1) hx hb dX9_row_71 (by decide) ?_
      refine lv_goto (tgt := 109) hx hb dX9_row_72 (by decide) ?_
      exact hJ109 _ _ _ _ _ _ _ _ _ ls hf hG (lv_sub hl [3, 4, 5, 2, 1, 0] rfl)
  unfold f_X9_row at hf
  refine lv_aload_n hx hb dX9_row_0 rfl (lv_at hl 0 rfl) ?_
  refine lv_iconst (v := 0) hx hb dX9_row_1 (by decide) ?_
  refine g_putI F hG mo_0 (by decide) (by decide) lkv_X9_102 rfl rfl rfl dX9_row_2 (fun H locs hG => ?_)
  refine lv_aload_n hx hb dX9_row_5 rfl (lv_at hl 0 rfl) ?_
  refine lv_iload_n hx hb dX9_row_6 rfl (lv_at hl 2 rfl) ?_
  refine lv_iconst (v := 1) hx hb dX9_row_7 (by decide) ?_
  replace hf := bd_some hf
  obtain ⟨q12, eq12, hf⟩ := hf
  refine gx_calli hG (gx_runV hXk F hX hG (c_X9_isWhat l w hXk n  x2 (1 : Int32) _ _ eq12) cv_X9_396 ⟨Nat.le_of_ble_eq_true rfl, Nat.le_of_ble_eq_true rfl⟩ (g_recv F hG mo_0 (by decide) rfl) rfl hl.1 rfl (Nat.le_of_ble_eq_true rfl) dX9_row_8 ⟨Nat.le_refl _, Nat.le_refl _⟩) (fun H locs hG => ?_)
  refine lv_if_eq (tgt := 24) hx hb dX9_row_11 (by decide) (fun c13 => ?_) (fun c13 => ?_)
  · replace hf := if_t c13 hf
    refine lv_iconst (v := 0) hx hb dX9_row_24 (by decide) ?_
    exact cg_iret F hr hlk hG hf dX9_row_25
  · replace hf := if_f c13 hf
    refine lv_aload_n hx hb dX9_row_14 rfl (lv_at hl 0 rfl) ?_
    refine lv_iload_n hx hb dX9_row_15 rfl (lv_at hl 1 rfl) ?_
    refine lv_iconst (v := 1) hx hb dX9_row_16 (by decide) ?_
    refine lv_iconst (v := 2) hx hb dX9_row_17 (by decide) ?_
    replace hf := bd_some hf
    obtain ⟨q14, eq14, hf⟩ := hf
    refine gx_calli hG (gx_runV hXk F hX hG (c_X9_isSoon l w hXk n  x1 (1 : Int32) (2 : Int32) _ _ eq14) cv_X9_412 ⟨Nat.le_of_ble_eq_true rfl, Nat.le_of_ble_eq_true rfl⟩ (g_recv F hG mo_0 (by decide) rfl) rfl hl.1 rfl (Nat.le_of_ble_eq_true rfl) dX9_row_18 ⟨Nat.le_refl _, Nat.le_refl _⟩) (fun H locs hG => ?_)
    refine lv_if_ne (tgt := 26) hx hb dX9_row_21 (by decide) (fun c15 => ?_) (fun c15 => ?_)
    · replace hf := if_f c15 hf
      refine lv_aload_n hx hb dX9_row_26 rfl (lv_at hl 0 rfl) ?_
      refine g_getR F hG 12 mo_0 (by decide) (by decide) lk_X9_63 rfl dX9_row_27 ?_
      refine lv_iconst (v := 4) hx hb dX9_row_30 (by decide) ?_
      refine g_iald F hG oM_12 (by decide) dX9_row_31 ?_
      refine lv_aload_n hx hb dX9_row_32 rfl (lv_at hl 0 rfl) ?_
      refine g_getR F hG 12 mo_0 (by decide) (by decide) lk_X9_63 rfl dX9_row_33 ?_
      refine lv_iconst (v := 3) hx hb dX9_row_36 (by decide) ?_
      refine g_iald F hG oM_12 (by decide) dX9_row_37 ?_
      refine lv_isub hx hb dX9_row_38 ?_
      refine lv_iconst (v := 4) hx hb dX9_row_39 (by decide) ?_
      refine lv_icmp_ge (tgt := 59) hx hb dX9_row_40 (by decide) (fun c16 => ?_) (fun c16 => ?_)
      · replace hf := if_t c16 hf
        refine lv_iconst (v := 4) hx hb dX9_row_59 (by decide) ?_
        exact hJ60 _ _ _ _ _ _ ls hf hG (lv_sub hl [0, 1, 2] rfl)
      · replace hf := if_f c16 hf
        refine lv_aload_n hx hb dX9_row_43 rfl (lv_at hl 0 rfl) ?_
        refine g_getR F hG 12 mo_0 (by decide) (by decide) lk_X9_63 rfl dX9_row_44 ?_
        refine lv_iconst (v := 4) hx hb dX9_row_47 (by decide) ?_
        refine g_iald F hG oM_12 (by decide) dX9_row_48 ?_
        refine lv_aload_n hx hb dX9_row_49 rfl (lv_at hl 0 rfl) ?_
        refine g_getR F hG 12 mo_0 (by decide) (by decide) lk_X9_63 rfl dX9_row_50 ?_
        refine lv_iconst (v := 3) hx hb dX9_row_53 (by decide) ?_
        refine g_iald F hG oM_12 (by decide) dX9_row_54 ?_
        refine lv_isub hx hb dX9_row_55 ?_
        refine lv_goto (tgt := 60) hx hb dX9_row_56 (by decide) ?_
        exact hJ60 _ _ _ _ _ _ ls hf hG (lv_sub hl [0, 1, 2] rfl)
    · replace hf := if_t c15 hf
      refine lv_iconst (v := 0) hx hb dX9_row_24 (by decide) ?_
      exact cg_iret F hr hlk hG hf dX9_row_25

def j_X9_toMortar_112 (n : Nat) (x1 : Int32) (x2 : Int32) (x3 : Int32) (x4 : Int32) (M : Mem) : Option ((Int32 × Int32 × Int32 × Mem) ⊕ (Int32 × Mem)) := some (.inl (x2, x3, (x4 + (1 : Int32)), M))
def b_X9_toMortar_35 (n : Nat) (x1 : Int32) (q : (Int32 × Int32 × Int32 × Mem)) : Option ((Int32 × Int32 × Int32 × Mem) ⊕ (Int32 × Mem)) := match q with
  | (x2, x3, x4, M) => if (gi M 12 (3 : Int32).toNatClampNeg) ≤ x4 then (mr (some (x3, M))) else (ck (inb ((22 : Int32) + x4) 108) (if (gi M 12 ((22 : Int32) + x4).toNatClampNeg) = (9 : Int32) then (j_X9_toMortar_112 n  x1 x2 x3 x4 M) else (bd (f_X9_tries n   M) (fun q4 => ck (inb ((76 : Int32) + x4) 108) (ck (inb ((76 : Int32) + x4) 108) (bd (f_X9_daysGo n  x1 (si q4 12 ((76 : Int32) + x4).toNatClampNeg ((gi q4 12 ((76 : Int32) + x4).toNatClampNeg) + (1 : Int32)))) (fun q7 => if x2 < (gi q7 12 (57 : Int32).toNatClampNeg) then (j_X9_toMortar_112 n  x1 (gi q7 12 (57 : Int32).toNatClampNeg) x4 x4 q7) else (j_X9_toMortar_112 n  x1 x2 x3 x4 q7))))))))
def f_X9_toMortar (n : Nat) (x1 : Int32) (M : Mem) : Option (Int32 × Mem) := bd (f_X9_isSoon n  x1 (1 : Int32) (1 : Int32) (si M 0 0 (0 : Int32))) (fun q9 => if q9.1 = 0 then (some ((0 : Int32), q9.2)) else (bd (f_X9_goesTo n  x1 q9.2) (fun q11 => gl (b_X9_toMortar_35 n  x1) n ((gi q11 12 (57 : Int32).toNatClampNeg), (-1 : Int32), (0 : Int32), q11))))
set_option maxHeartbeats 4000000 in
set_option maxRecDepth 100000 in
theorem c_X9_toMortar (l : Launch) (w : Wd) {X : (Nat → Prop) → State → Heap → Prop} (hXk : XOK X) (n : Nat) (x1 : Int32) (M : Mem) (res : Int32 × Mem) (hf : f_X9_toMortar n  x1 M = some res) : CG l w layM 24 X yX9_toMortar cX9_toMortar 5 (some .int) 6 [.ref (w.2.2.1 0), .int x1] M (GQi w layM 24 res) := by
  refine cg_start (by decide +kernel) (Nat.le_of_ble_eq_true rfl) ?_
  intro p e s m args below meth c F hr hlk hX hG ls hl
  have F : FX w p m c cX9_toMortar 5 s args RX9 := F
  have hx := F.1.1
  have hb := F.1.2.1
  have hl : lv_has ls 5 [(0, .ref (w.2.2.1 0)), (1, .int x1)] := hl
  have hJ35 : ∀ (x1 : Int32) (x2 : Int32) (x3 : Int32) (x4 : Int32) (M : Mem) (H : Heap) (locs : List Loc) (ls : Array Slot), gl (b_X9_toMortar_35 n  x1) n (x2, x3, x4, M) = some res → GI w layM 24 s.heap M H locs → lv_has ls 5 [(0, .ref (w.2.2.1 0)), (1, .int x1), (2, .int x2), (3, .int x3), (4, .int x4)] → W p l e (Rm 6) s m args below meth c H locs 0 0 (MQ below (GQi w layM 24 res s.heap.size) args s 0 0 (gA w.2.2.1 24 s.heap.size)) (F0 m 35 ls []) := by
    intro x1 x2 x3 x4 M H locs ls hf hG hl
    refine gl_run (P := fun (q : (Int32 × Int32 × Int32 × Mem)) => ∀ (H : Heap) (locs : List Loc) (ls : Array Slot), GI w layM 24 s.heap q.2.2.2 H locs → lv_has ls 5 [(0, .ref (w.2.2.1 0)), (1, .int x1), (2, .int q.1), (3, .int q.2.1), (4, .int q.2.2.1)] → W p l e (Rm 6) s m args below meth c H locs 0 0 (MQ below (GQi w layM 24 res s.heap.size) args s 0 0 (gA w.2.2.1 24 s.heap.size)) (F0 m 35 ls [])) ?_ n (x2, x3, x4, M) hf H locs ls hG hl
    clear hf hG hl ls locs H M x2 x3 x4
    rintro ⟨x2, x3, x4, M⟩ rr35 hf hI35 hE35 H locs ls hG hl
    try dsimp only at hG hl ⊢
    have hJ112 : ∀ (x2 : Int32) (x3 : Int32) (x4 : Int32) (M : Mem) (H : Heap) (locs : List Loc) (ls : Array Slot), j_X9_toMortar_112 n  x1 x2 x3 x4 M = some rr35 → GI w layM 24 s.heap M H locs → lv_has ls 5 [(0, .ref (w.2.2.1 0)), (1, .int x1), (2, .int x2), (3, .int x3), (4, .int x4)] → W p l e (Rm 6) s m args below meth c H locs 0 0 (MQ below (GQi w layM 24 res s.heap.size) args s 0 0 (gA w.2.2.1 24 s.heap.size)) (F0 m 112 ls []) := by
      intro x2 x3 x4 M H locs ls hf hG hl
      unfold j_X9_toMortar_112 at hf
      refine lv_iinc (v := (x4 + (1 : Int32))) (lv' := [(4, .int (x4 + (1 : Int32))), (0, .ref (w.2.2.1 0)), (1, .int x1), (2, .int x2), (3, .int x3)]) hx hb dX9_toMortar_112 hl (k := 4) rfl rfl (by decide) rfl (fun ls hl => ?_)
      refine lv_goto (tgt := 35) hx hb dX9_toMortar_115 (by decide) ?_
      exact hI35 _ (Option.some.inj hf).symm _ _ ls hG (lv_sub hl [1, 2, 3, 4, 0] rfl)
    dsimp only [b_X9_toMortar_35] at hf
    refine lv_iload hx hb dX9_toMortar_35 (lv_at hl 4 rfl) ?_
    refine lv_aload_n hx hb dX9_toMortar_37 rfl (lv_at hl 0 rfl) ?_
    refine g_getR F hG 12 mo_0 (by decide) (by decide) lk_X9_63 rfl dX9_toMortar_38 ?_
    refine lv_iconst (v := 3) hx hb dX9_toMortar_41 (by decide) ?_
    refine g_iald F hG oM_12 (by decide) dX9_toMortar_42 ?_
    refine lv_icmp_ge (tgt := 118) hx hb dX9_toMortar_43 (by decide) (fun c1 => ?_) (fun c1 => ?_)
    · replace hf := if_t c1 hf
      refine lv_iload_n hx hb dX9_toMortar_118 rfl (lv_at hl 3 rfl) ?_
      replace hf := mr_some hf
      obtain ⟨z35, hf, hz⟩ := hf
      rw [hE35 _ hz] at hf
      exact cg_iret F hr hlk hG hf dX9_toMortar_119
    · replace hf := if_f c1 hf
      refine lv_aload_n hx hb dX9_toMortar_46 rfl (lv_at hl 0 rfl) ?_
      refine g_getR F hG 12 mo_0 (by decide) (by decide) lk_X9_63 rfl dX9_toMortar_47 ?_
      refine lv_bipush (v := 22) hx hb dX9_toMortar_50 (by decide) ?_
      refine lv_iload hx hb dX9_toMortar_52 (lv_at hl 4 rfl) ?_
      refine lv_iadd hx hb dX9_toMortar_54 ?_
      replace hf := ck_some hf
      obtain ⟨k2, hf⟩ := hf
      refine g_iald F hG oM_12 k2 dX9_toMortar_55 ?_
      refine lv_bipush (v := 9) hx hb dX9_toMortar_56 (by decide) ?_
      refine lv_icmp_ne (tgt := 64) hx hb dX9_toMortar_58 (by decide) (fun c3 => ?_) (fun c3 => ?_)
      · replace hf := if_f c3 hf
        refine lv_aload_n hx hb dX9_toMortar_64 rfl (lv_at hl 0 rfl) ?_
        replace hf := bd_some hf
        obtain ⟨q4, eq4, hf⟩ := hf
        refine gx_callv hG (gx_runV hXk F hX hG (c_X9_tries l w hXk n   _ _ eq4) cv_X9_367 ⟨Nat.le_of_ble_eq_true rfl, Nat.le_of_ble_eq_true rfl⟩ (g_recv F hG mo_0 (by decide) rfl) rfl hl.1 rfl (Nat.le_of_ble_eq_true rfl) dX9_toMortar_65 ⟨Nat.le_refl _, Nat.le_refl _⟩) (fun H locs hG => ?_)
        refine lv_aload_n hx hb dX9_toMortar_68 rfl (lv_at hl 0 rfl) ?_
        refine g_getR F hG 12 mo_0 (by decide) (by decide) lk_X9_63 rfl dX9_toMortar_69 ?_
        refine lv_bipush (v := 76) hx hb dX9_toMortar_72 (by decide) ?_
        refine lv_iload hx hb dX9_toMortar_74 (lv_at hl 4 rfl) ?_
        refine lv_iadd hx hb dX9_toMortar_76 ?_
        refine lv_dup2_11 hx hb dX9_toMortar_77 rfl rfl ?_
        replace hf := ck_some hf
        obtain ⟨k5, hf⟩ := hf
        refine g_iald F hG oM_12 k5 dX9_toMortar_78 ?_
        refine lv_iconst (v := 1) hx hb dX9_toMortar_79 (by decide) ?_
        refine lv_iadd hx hb dX9_toMortar_80 ?_
        replace hf := ck_some hf
        obtain ⟨k6, hf⟩ := hf
        refine g_iast F hG oM_12 k6 dX9_toMortar_81 (fun H locs hG => ?_)
        refine lv_aload_n hx hb dX9_toMortar_82 rfl (lv_at hl 0 rfl) ?_
        refine lv_iload_n hx hb dX9_toMortar_83 rfl (lv_at hl 1 rfl) ?_
        replace hf := bd_some hf
        obtain ⟨q7, eq7, hf⟩ := hf
        refine gx_callv hG (gx_runV hXk F hX hG (c_X9_daysGo l w hXk n  x1 _ _ eq7) cv_X9_370 ⟨Nat.le_of_ble_eq_true rfl, Nat.le_of_ble_eq_true rfl⟩ (g_recv F hG mo_0 (by decide) rfl) rfl hl.1 rfl (Nat.le_of_ble_eq_true rfl) dX9_toMortar_84 ⟨Nat.le_refl _, Nat.le_refl _⟩) (fun H locs hG => ?_)
        refine lv_aload_n hx hb dX9_toMortar_87 rfl (lv_at hl 0 rfl) ?_
        refine g_getR F hG 12 mo_0 (by decide) (by decide) lk_X9_63 rfl dX9_toMortar_88 ?_
        refine lv_bipush (v := 57) hx hb dX9_toMortar_91 (by decide) ?_
        refine g_iald F hG oM_12 (by decide) dX9_toMortar_93 ?_
        refine lv_iload_n hx hb dX9_toMortar_94 rfl (lv_at hl 2 rfl) ?_
        refine lv_icmp_gt (tgt := 101) hx hb dX9_toMortar_95 (by decide) (fun c8 => ?_) (fun c8 => ?_)
        · replace hf := if_t c8 hf
          refine lv_aload_n hx hb dX9_toMortar_101 rfl (lv_at hl 0 rfl) ?_
          refine g_getR F hG 12 mo_0 (by decide) (by decide) lk_X9_63 rfl dX9_toMortar_102 ?_
          refine lv_bipush (v := 57) hx hb dX9_toMortar_105 (by decide) ?_
          refine g_iald F hG oM_12 (by decide) dX9_toMortar_107 ?_
          refine lv_istore_n (lv' := [(2, .int (gi q7 12 (57 : Int32).toNatClampNeg)), (0, .ref (w.2.2.1 0)), (1, .int x1), (3, .int x3), (4, .int x4)]) hx hb dX9_toMortar_108 rfl hl (by decide) rfl (fun ls hl => ?_)
          refine lv_iload hx hb dX9_toMortar_109 (lv_at hl 4 rfl) ?_
          refine lv_istore_n (lv' := [(3, .int x4), (2, .int (gi q7 12 (57 : Int32).toNatClampNeg)), (0, .ref (w.2.2.1 0)), (1, .int x1), (4, .int x4)]) hx hb dX9_toMortar_111 rfl hl (by decide) rfl (fun ls hl => ?_)
          exact hJ112 _ _ _ _ _ _ ls hf hG (lv_sub hl [2, 3, 1, 0, 4] rfl)
        · replace hf := if_f c8 hf
          refine lv_goto (tgt := 112) hx hb dX9_toMortar_98 (by decide) ?_
          exact hJ112 _ _ _ _ _ _ ls hf hG (lv_sub hl [0, 1, 2, 3, 4] rfl)
      · replace hf := if_t c3 hf
        refine lv_goto (tgt := 112) hx hb dX9_toMortar_61 (by decide) ?_
        exact hJ112 _ _ _ _ _ _ ls hf hG (lv_sub hl [0, 1, 2, 3, 4] rfl)
  unfold f_X9_toMortar at hf
  refine lv_aload_n hx hb dX9_toMortar_0 rfl (lv_at hl 0 rfl) ?_
  refine lv_iconst (v := 0) hx hb dX9_toMortar_1 (by decide) ?_
  refine g_putI F hG mo_0 (by decide) (by decide) lkv_X9_102 rfl rfl rfl dX9_toMortar_2 (fun H locs hG => ?_)
  refine lv_aload_n hx hb dX9_toMortar_5 rfl (lv_at hl 0 rfl) ?_
  refine lv_iload_n hx hb dX9_toMortar_6 rfl (lv_at hl 1 rfl) ?_
  refine lv_iconst (v := 1) hx hb dX9_toMortar_7 (by decide) ?_
  refine lv_iconst (v := 1) hx hb dX9_toMortar_8 (by decide) ?_
  replace hf := bd_some hf
  obtain ⟨q9, eq9, hf⟩ := hf
  refine gx_calli hG (gx_runV hXk F hX hG (c_X9_isSoon l w hXk n  x1 (1 : Int32) (1 : Int32) _ _ eq9) cv_X9_412 ⟨Nat.le_of_ble_eq_true rfl, Nat.le_of_ble_eq_true rfl⟩ (g_recv F hG mo_0 (by decide) rfl) rfl hl.1 rfl (Nat.le_of_ble_eq_true rfl) dX9_toMortar_9 ⟨Nat.le_refl _, Nat.le_refl _⟩) (fun H locs hG => ?_)
  refine lv_if_ne (tgt := 17) hx hb dX9_toMortar_12 (by decide) (fun c10 => ?_) (fun c10 => ?_)
  · replace hf := if_f c10 hf
    refine lv_aload_n hx hb dX9_toMortar_17 rfl (lv_at hl 0 rfl) ?_
    refine lv_iload_n hx hb dX9_toMortar_18 rfl (lv_at hl 1 rfl) ?_
    replace hf := bd_some hf
    obtain ⟨q11, eq11, hf⟩ := hf
    refine gx_callv hG (gx_runV hXk F hX hG (c_X9_goesTo l w hXk n  x1 _ _ eq11) cv_X9_415 ⟨Nat.le_of_ble_eq_true rfl, Nat.le_of_ble_eq_true rfl⟩ (g_recv F hG mo_0 (by decide) rfl) rfl hl.1 rfl (Nat.le_of_ble_eq_true rfl) dX9_toMortar_19 ⟨Nat.le_refl _, Nat.le_refl _⟩) (fun H locs hG => ?_)
    refine lv_aload_n hx hb dX9_toMortar_22 rfl (lv_at hl 0 rfl) ?_
    refine g_getR F hG 12 mo_0 (by decide) (by decide) lk_X9_63 rfl dX9_toMortar_23 ?_
    refine lv_bipush (v := 57) hx hb dX9_toMortar_26 (by decide) ?_
    refine g_iald F hG oM_12 (by decide) dX9_toMortar_28 ?_
    refine lv_istore_n (lv' := [(2, .int (gi q11 12 (57 : Int32).toNatClampNeg)), (0, .ref (w.2.2.1 0)), (1, .int x1)]) hx hb dX9_toMortar_29 rfl hl (by decide) rfl (fun ls hl => ?_)
    refine lv_iconst (v := -1) hx hb dX9_toMortar_30 (by decide) ?_
    refine lv_istore_n (lv' := [(3, .int (-1 : Int32)), (2, .int (gi q11 12 (57 : Int32).toNatClampNeg)), (0, .ref (w.2.2.1 0)), (1, .int x1)]) hx hb dX9_toMortar_31 rfl hl (by decide) rfl (fun ls hl => ?_)
    refine lv_iconst (v := 0) hx hb dX9_toMortar_32 (by decide) ?_
    refine lv_istore (lv' := [(4, .int (0 : Int32)), (3, .int (-1 : Int32)), (2, .int (gi q11 12 (57 : Int32).toNatClampNeg)), (0, .ref (w.2.2.1 0)), (1, .int x1)]) hx hb dX9_toMortar_33 hl (by decide) rfl (fun ls hl => ?_)
    exact hJ35 _ _ _ _ _ _ _ ls hf hG (lv_sub hl [3, 4, 2, 1, 0] rfl)
  · replace hf := if_t c10 hf
    refine lv_iconst (v := 0) hx hb dX9_toMortar_15 (by decide) ?_
    exact cg_iret F hr hlk hG hf dX9_toMortar_16

def j_X9_toProp_94 (n : Nat) (x2 : Int32) (x3 : Int32) (x4 : Int32) (M : Mem) : Option (Int32 × Mem) := if x2 = 0 then (some (x4, M)) else (some (x3, M))
def j_X9_toProp_88 (n : Nat) (x1 : Int32) (x2 : Int32) (x3 : Int32) (x4 : Int32) (x5 : Int32) (M : Mem) : Option ((Int32 × Int32 × Int32 × Mem) ⊕ (Int32 × Mem)) := some (.inl (x3, x4, (x5 + (1 : Int32)), M))
def b_X9_toProp_34 (n : Nat) (x1 : Int32) (x2 : Int32) (q : (Int32 × Int32 × Int32 × Mem)) : Option ((Int32 × Int32 × Int32 × Mem) ⊕ (Int32 × Mem)) := match q with
  | (x3, x4, x5, M) => if x1 < x5 then (mr (j_X9_toProp_94 n  x2 x3 x4 M)) else (bd (f_X9_goesTo n  x5 M) (fun q3 => bd (f_X9_daysGo n  (x1 - x5) (si q3 12 (56 : Int32).toNatClampNeg (0 : Int32))) (fun q4 => if x3 < (gi q4 12 (57 : Int32).toNatClampNeg) then (j_X9_toProp_88 n  x1 x2 (gi q4 12 (57 : Int32).toNatClampNeg) x5 x5 q4) else (j_X9_toProp_88 n  x1 x2 x3 x4 x5 q4))))
def f_X9_toProp (n : Nat) (x1 : Int32) (x2 : Int32) (M : Mem) : Option (Int32 × Mem) := bd (f_X9_isWhat n  x2 (1 : Int32) (si M 0 0 (0 : Int32))) (fun q6 => if q6.1 = 0 then (some ((0 : Int32), q6.2)) else (bd (f_X9_isSoon n  x1 (1 : Int32) (2 : Int32) q6.2) (fun q8 => if q8.1 = 0 then (some ((0 : Int32), q8.2)) else (gl (b_X9_toProp_34 n  x1 x2) n ((-1 : Int32), (-1 : Int32), (0 : Int32), q8.2)))))
set_option maxHeartbeats 4000000 in
set_option maxRecDepth 100000 in
theorem c_X9_toProp (l : Launch) (w : Wd) {X : (Nat → Prop) → State → Heap → Prop} (hXk : XOK X) (n : Nat) (x1 : Int32) (x2 : Int32) (M : Mem) (res : Int32 × Mem) (hf : f_X9_toProp n  x1 x2 M = some res) : CG l w layM 24 X yX9_toProp cX9_toProp 6 (some .int) 6 [.ref (w.2.2.1 0), .int x1, .int x2] M (GQi w layM 24 res) := by
  refine cg_start (by decide +kernel) (Nat.le_of_ble_eq_true rfl) ?_
  intro p e s m args below meth c F hr hlk hX hG ls hl
  have F : FX w p m c cX9_toProp 6 s args RX9 := F
  have hx := F.1.1
  have hb := F.1.2.1
  have hl : lv_has ls 6 [(0, .ref (w.2.2.1 0)), (1, .int x1), (2, .int x2)] := hl
  have hJ94 : ∀ (x2 : Int32) (x3 : Int32) (x4 : Int32) (M : Mem) (H : Heap) (locs : List Loc) (ls : Array Slot), j_X9_toProp_94 n  x2 x3 x4 M = some res → GI w layM 24 s.heap M H locs → lv_has ls 6 [(2, .int x2), (3, .int x3), (4, .int x4)] → W p l e (Rm 6) s m args below meth c H locs 0 0 (MQ below (GQi w layM 24 res s.heap.size) args s 0 0 (gA w.2.2.1 24 s.heap.size)) (F0 m 94 ls []) := by
    intro x2 x3 x4 M H locs ls hf hG hl
    unfold j_X9_toProp_94 at hf
    refine lv_iload_n hx hb dX9_toProp_94 rfl (lv_at hl 0 rfl) ?_
    refine lv_if_ne (tgt := 103) hx hb dX9_toProp_95 (by decide) (fun c1 => ?_) (fun c1 => ?_)
    · replace hf := if_f c1 hf
      refine lv_iload_n hx hb dX9_toProp_103 rfl (lv_at hl 1 rfl) ?_
      exact cg_iret F hr hlk hG hf dX9_toProp_104
    · replace hf := if_t c1 hf
      refine lv_iload hx hb dX9_toProp_98 (lv_at hl 2 rfl) ?_
      refine lv_goto (tgt := 104) hx hb dX9_toProp_100 (by decide) ?_
      exact cg_iret F hr hlk hG hf dX9_toProp_104
  have hJ34 : ∀ (x1 : Int32) (x2 : Int32) (x3 : Int32) (x4 : Int32) (x5 : Int32) (M : Mem) (H : Heap) (locs : List Loc) (ls : Array Slot), gl (b_X9_toProp_34 n  x1 x2) n (x3, x4, x5, M) = some res → GI w layM 24 s.heap M H locs → lv_has ls 6 [(0, .ref (w.2.2.1 0)), (1, .int x1), (2, .int x2), (3, .int x3), (4, .int x4), (5, .int x5)] → W p l e (Rm 6) s m args below meth c H locs 0 0 (MQ below (GQi w layM 24 res s.heap.size) args s 0 0 (gA w.2.2.1 24 s.heap.size)) (F0 m 34 ls []) := by
    intro x1 x2 x3 x4 x5 M H locs ls hf hG hl
    refine gl_run (P := fun (q : (Int32 × Int32 × Int32 × Mem)) => ∀ (H : Heap) (locs : List Loc) (ls : Array Slot), GI w layM 24 s.heap q.2.2.2 H locs → lv_has ls 6 [(0, .ref (w.2.2.1 0)), (1, .int x1), (2, .int x2), (3, .int q.1), (4, .int q.2.1), (5, .int q.2.2.1)] → W p l e (Rm 6) s m args below meth c H locs 0 0 (MQ below (GQi w layM 24 res s.heap.size) args s 0 0 (gA w.2.2.1 24 s.heap.size)) (F0 m 34 ls [])) ?_ n (x3, x4, x5, M) hf H locs ls hG hl
    clear hf hG hl ls locs H M x3 x4 x5
    rintro ⟨x3, x4, x5, M⟩ rr34 hf hI34 hE34 H locs ls hG hl
    try dsimp only at hG hl ⊢
    have hJ88 : ∀ (x3 : Int32) (x4 : Int32) (x5 : Int32) (M : Mem) (H : Heap) (locs : List Loc) (ls : Array Slot), j_X9_toProp_88 n  x1 x2 x3 x4 x5 M = some rr34 → GI w layM 24 s.heap M H locs → lv_has ls 6 [(0, .ref (w.2.2.1 0)), (1, .int x1), (2, .int x2), (3, .int x3), (4, .int x4), (5, .int x5)] → W p l e (Rm 6) s m args below meth c H locs 0 0 (MQ below (GQi w layM 24 res s.heap.size) args s 0 0 (gA w.2.2.1 24 s.heap.size)) (F0 m 88 ls []) := by
      intro x3 x4 x5 M H locs ls hf hG hl
      unfold j_X9_toProp_88 at hf
      refine lv_iinc (v := (x5 + (1 : Int32))) (lv' := [(5, .int (x5 + (1 : Int32))), (0, .ref (w.2.2.1 0)), (1, .int x1), (2, .int x2), (3, .int x3), (4, .int x4)]) hx hb dX9_toProp_88 hl (k := 5) rfl rfl (by decide) rfl (fun ls hl => ?_)
      refine lv_goto (tgt := 34) hx hb dX9_toProp_91 (by decide) ?_
      exact hI34 _ (Option.some.inj hf).symm _ _ ls hG (lv_sub hl [1, 2, 3, 4, 5, 0] rfl)
    dsimp only [b_X9_toProp_34] at hf
    refine lv_iload hx hb dX9_toProp_34 (lv_at hl 5 rfl) ?_
    refine lv_iload_n hx hb dX9_toProp_36 rfl (lv_at hl 1 rfl) ?_
    refine lv_icmp_gt (tgt := 94) hx hb dX9_toProp_37 (by decide) (fun c2 => ?_) (fun c2 => ?_)
    · replace hf := if_t c2 hf
      replace hf := mr_some hf
      obtain ⟨z34, hf, hz⟩ := hf
      rw [hE34 _ hz] at hf
      exact hJ94 _ _ _ _ _ _ ls hf hG (lv_sub hl [2, 3, 4] rfl)
    · replace hf := if_f c2 hf
      refine lv_aload_n hx hb dX9_toProp_40 rfl (lv_at hl 0 rfl) ?_
      refine lv_iload hx hb dX9_toProp_41 (lv_at hl 5 rfl) ?_
      replace hf := bd_some hf
      obtain ⟨q3, eq3, hf⟩ := hf
      refine gx_callv hG (gx_runV hXk F hX hG (c_X9_goesTo l w hXk n  x5 _ _ eq3) cv_X9_415 ⟨Nat.le_of_ble_eq_true rfl, Nat.le_of_ble_eq_true rfl⟩ (g_recv F hG mo_0 (by decide) rfl) rfl hl.1 rfl (Nat.le_of_ble_eq_true rfl) dX9_toProp_43 ⟨Nat.le_refl _, Nat.le_refl _⟩) (fun H locs hG => ?_)
      refine lv_aload_n hx hb dX9_toProp_46 rfl (lv_at hl 0 rfl) ?_
      refine g_getR F hG 12 mo_0 (by decide) (by decide) lk_X9_63 rfl dX9_toProp_47 ?_
      refine lv_bipush (v := 56) hx hb dX9_toProp_50 (by decide) ?_
      refine lv_iconst (v := 0) hx hb dX9_toProp_52 (by decide) ?_
      refine g_iast F hG oM_12 (by decide) dX9_toProp_53 (fun H locs hG => ?_)
      refine lv_aload_n hx hb dX9_toProp_54 rfl (lv_at hl 0 rfl) ?_
      refine lv_iload_n hx hb dX9_toProp_55 rfl (lv_at hl 1 rfl) ?_
      refine lv_iload hx hb dX9_toProp_56 (lv_at hl 5 rfl) ?_
      refine lv_isub hx hb dX9_toProp_58 ?_
      replace hf := bd_some hf
      obtain ⟨q4, eq4, hf⟩ := hf
      refine gx_callv hG (gx_runV hXk F hX hG (c_X9_daysGo l w hXk n  (x1 - x5) _ _ eq4) cv_X9_370 ⟨Nat.le_of_ble_eq_true rfl, Nat.le_of_ble_eq_true rfl⟩ (g_recv F hG mo_0 (by decide) rfl) rfl hl.1 rfl (Nat.le_of_ble_eq_true rfl) dX9_toProp_59 ⟨Nat.le_refl _, Nat.le_refl _⟩) (fun H locs hG => ?_)
      refine lv_aload_n hx hb dX9_toProp_62 rfl (lv_at hl 0 rfl) ?_
      refine g_getR F hG 12 mo_0 (by decide) (by decide) lk_X9_63 rfl dX9_toProp_63 ?_
      refine lv_bipush (v := 57) hx hb dX9_toProp_66 (by decide) ?_
      refine g_iald F hG oM_12 (by decide) dX9_toProp_68 ?_
      refine lv_iload_n hx hb dX9_toProp_69 rfl (lv_at hl 3 rfl) ?_
      refine lv_icmp_gt (tgt := 76) hx hb dX9_toProp_70 (by decide) (fun c5 => ?_) (fun c5 => ?_)
      · replace hf := if_t c5 hf
        refine lv_aload_n hx hb dX9_toProp_76 rfl (lv_at hl 0 rfl) ?_
        refine g_getR F hG 12 mo_0 (by decide) (by decide) lk_X9_63 rfl dX9_toProp_77 ?_
        refine lv_bipush (v := 57) hx hb dX9_toProp_80 (by decide) ?_
        refine g_iald F hG oM_12 (by decide) dX9_toProp_82 ?_
        refine lv_istore_n (lv' := [(3, .int (gi q4 12 (57 : Int32).toNatClampNeg)), (0, .ref (w.2.2.1 0)), (1, .int x1), (2, .int x2), (4, .int x4), (5, .int x5)]) hx hb dX9_toProp_83 rfl hl (by decide) rfl (fun ls hl => ?_)
        refine lv_iload hx hb dX9_toProp_84 (lv_at hl 5 rfl) ?_
        refine lv_istore (lv' := [(4, .int x5), (3, .int (gi q4 12 (57 : Int32).toNatClampNeg)), (0, .ref (w.2.2.1 0)), (1, .int x1), (2, .int x2), (5, .int x5)]) hx hb dX9_toProp_86 hl (by decide) rfl (fun ls hl => ?_)
        exact hJ88 _ _ _ _ _ _ ls hf hG (lv_sub hl [2, 3, 4, 1, 0, 5] rfl)
      · replace hf := if_f c5 hf
        refine lv_goto (tgt := 88) hx hb dX9_toProp_73 (by decide) ?_
        exact hJ88 _ _ _ _ _ _ ls hf hG (lv_sub hl [0, 1, 2, 3, 4, 5] rfl)
  unfold f_X9_toProp at hf
  refine lv_aload_n hx hb dX9_toProp_0 rfl (lv_at hl 0 rfl) ?_
  refine lv_iconst (v := 0) hx hb dX9_toProp_1 (by decide) ?_
  refine g_putI F hG mo_0 (by decide) (by decide) lkv_X9_102 rfl rfl rfl dX9_toProp_2 (fun H locs hG => ?_)
  refine lv_aload_n hx hb dX9_toProp_5 rfl (lv_at hl 0 rfl) ?_
  refine lv_iload_n hx hb dX9_toProp_6 rfl (lv_at hl 2 rfl) ?_
  refine lv_iconst (v := 1) hx hb dX9_toProp_7 (by decide) ?_
  replace hf := bd_some hf
  obtain ⟨q6, eq6, hf⟩ := hf
  refine gx_calli hG (gx_runV hXk F hX hG (c_X9_isWhat l w hXk n  x2 (1 : Int32) _ _ eq6) cv_X9_396 ⟨Nat.le_of_ble_eq_true rfl, Nat.le_of_ble_eq_true rfl⟩ (g_recv F hG mo_0 (by decide) rfl) rfl hl.1 rfl (Nat.le_of_ble_eq_true rfl) dX9_toProp_8 ⟨Nat.le_refl _, Nat.le_refl _⟩) (fun H locs hG => ?_)
  refine lv_if_eq (tgt := 24) hx hb dX9_toProp_11 (by decide) (fun c7 => ?_) (fun c7 => ?_)
  · replace hf := if_t c7 hf
    refine lv_iconst (v := 0) hx hb dX9_toProp_24 (by decide) ?_
    exact cg_iret F hr hlk hG hf dX9_toProp_25
  · replace hf := if_f c7 hf
    refine lv_aload_n hx hb dX9_toProp_14 rfl (lv_at hl 0 rfl) ?_
    refine lv_iload_n hx hb dX9_toProp_15 rfl (lv_at hl 1 rfl) ?_
    refine lv_iconst (v := 1) hx hb dX9_toProp_16 (by decide) ?_
    refine lv_iconst (v := 2) hx hb dX9_toProp_17 (by decide) ?_
    replace hf := bd_some hf
    obtain ⟨q8, eq8, hf⟩ := hf
    refine gx_calli hG (gx_runV hXk F hX hG (c_X9_isSoon l w hXk n  x1 (1 : Int32) (2 : Int32) _ _ eq8) cv_X9_412 ⟨Nat.le_of_ble_eq_true rfl, Nat.le_of_ble_eq_true rfl⟩ (g_recv F hG mo_0 (by decide) rfl) rfl hl.1 rfl (Nat.le_of_ble_eq_true rfl) dX9_toProp_18 ⟨Nat.le_refl _, Nat.le_refl _⟩) (fun H locs hG => ?_)
    refine lv_if_ne (tgt := 26) hx hb dX9_toProp_21 (by decide) (fun c9 => ?_) (fun c9 => ?_)
    · replace hf := if_f c9 hf
      refine lv_iconst (v := -1) hx hb dX9_toProp_26 (by decide) ?_
      refine lv_istore_n (lv' := [(3, .int (-1 : Int32)), (0, .ref (w.2.2.1 0)), (1, .int x1), (2, .int x2)]) hx hb dX9_toProp_27 rfl hl (by decide) rfl (fun ls hl => ?_)
      refine lv_iconst (v := -1) hx hb dX9_toProp_28 (by decide) ?_
      refine lv_istore (lv' := [(4, .int (-1 : Int32)), (3, .int (-1 : Int32)), (0, .ref (w.2.2.1 0)), (1, .int x1), (2, .int x2)]) hx hb dX9_toProp_29 hl (by decide) rfl (fun ls hl => ?_)
      refine lv_iconst (v := 0) hx hb dX9_toProp_31 (by decide) ?_
      refine lv_istore (lv' := [(5, .int (0 : Int32)), (4, .int (-1 : Int32)), (3, .int (-1 : Int32)), (0, .ref (w.2.2.1 0)), (1, .int x1), (2, .int x2)]) hx hb dX9_toProp_32 hl (by decide) rfl (fun ls hl => ?_)
      exact hJ34 _ _ _ _ _ _ _ _ ls hf hG (lv_sub hl [3, 4, 5, 2, 1, 0] rfl)
    · replace hf := if_t c9 hf
      refine lv_iconst (v := 0) hx hb dX9_toProp_24 (by decide) ?_
      exact cg_iret F hr hlk hG hf dX9_toProp_25

def j_X9_see_34 (n : Nat) (M : Mem) : Option (Int32 × Mem) := bd (f_X9_refuses n  (2 : Int32) M) (fun q1 => some (q1.1, q1.2))
def f_X9_see (n : Nat) (x1 : Int32) (x2 : Int32) (M : Mem) : Option (Int32 × Mem) := if (gi (si M 0 0 (0 : Int32)) 0 54) = (8 : Int32) then (j_X9_see_34 n  (si M 0 0 (0 : Int32))) else (bd (f_X9_within n  x1 (0 : Int32) (20 : Int32) (si M 0 0 (0 : Int32))) (fun q3 => if q3.1 = 0 then (j_X9_see_34 n  q3.2) else (bd (f_X9_within n  x2 (0 : Int32) (99 : Int32) q3.2) (fun q5 => if q5.1 = 0 then (j_X9_see_34 n  q5.2) else (ck (inb ((2 : Int32) * (gi q5.2 0 54)) 16) (ck (inb (((2 : Int32) * (gi (si q5.2 18 ((2 : Int32) * (gi q5.2 0 54)).toNatClampNeg x1) 0 54)) + (1 : Int32)) 16) (some ((gi (si (si (si q5.2 18 ((2 : Int32) * (gi q5.2 0 54)).toNatClampNeg x1) 18 (((2 : Int32) * (gi (si q5.2 18 ((2 : Int32) * (gi q5.2 0 54)).toNatClampNeg x1) 0 54)) + (1 : Int32)).toNatClampNeg x2) 0 54 ((gi (si (si q5.2 18 ((2 : Int32) * (gi q5.2 0 54)).toNatClampNeg x1) 18 (((2 : Int32) * (gi (si q5.2 18 ((2 : Int32) * (gi q5.2 0 54)).toNatClampNeg x1) 0 54)) + (1 : Int32)).toNatClampNeg x2) 0 54) + (1 : Int32))) 0 54), si (si (si q5.2 18 ((2 : Int32) * (gi q5.2 0 54)).toNatClampNeg x1) 18 (((2 : Int32) * (gi (si q5.2 18 ((2 : Int32) * (gi q5.2 0 54)).toNatClampNeg x1) 0 54)) + (1 : Int32)).toNatClampNeg x2) 0 54 ((gi (si (si q5.2 18 ((2 : Int32) * (gi q5.2 0 54)).toNatClampNeg x1) 18 (((2 : Int32) * (gi (si q5.2 18 ((2 : Int32) * (gi q5.2 0 54)).toNatClampNeg x1) 0 54)) + (1 : Int32)).toNatClampNeg x2) 0 54) + (1 : Int32))))))))))
set_option maxHeartbeats 4000000 in
set_option maxRecDepth 100000 in
theorem c_X9_see (l : Launch) (w : Wd) {X : (Nat → Prop) → State → Heap → Prop} (hXk : XOK X) (n : Nat) (x1 : Int32) (x2 : Int32) (M : Mem) (res : Int32 × Mem) (hf : f_X9_see n  x1 x2 M = some res) : CG l w layM 24 X yX9_see cX9_see 3 (some .int) 1 [.ref (w.2.2.1 0), .int x1, .int x2] M (GQi w layM 24 res) := by
  refine cg_start (by decide +kernel) (Nat.le_of_ble_eq_true rfl) ?_
  intro p e s m args below meth c F hr hlk hX hG ls hl
  have F : FX w p m c cX9_see 3 s args RX9 := F
  have hx := F.1.1
  have hb := F.1.2.1
  have hl : lv_has ls 3 [(0, .ref (w.2.2.1 0)), (1, .int x1), (2, .int x2)] := hl
  have hJ34 : ∀ (M : Mem) (H : Heap) (locs : List Loc) (ls : Array Slot), j_X9_see_34 n   M = some res → GI w layM 24 s.heap M H locs → lv_has ls 3 [(0, .ref (w.2.2.1 0))] → W p l e (Rm 1) s m args below meth c H locs 0 0 (MQ below (GQi w layM 24 res s.heap.size) args s 0 0 (gA w.2.2.1 24 s.heap.size)) (F0 m 34 ls []) := by
    intro  M H locs ls hf hG hl
    unfold j_X9_see_34 at hf
    refine lv_aload_n hx hb dX9_see_34 rfl (lv_at hl 0 rfl) ?_
    refine lv_iconst (v := 2) hx hb dX9_see_35 (by decide) ?_
    replace hf := bd_some hf
    obtain ⟨q1, eq1, hf⟩ := hf
    refine gx_calli hG (gx_runV hXk F hX hG (c_X9_refuses l w hXk n  (2 : Int32) _ _ eq1) cv_X9_403 ⟨Nat.le_of_ble_eq_true rfl, Nat.le_of_ble_eq_true rfl⟩ (g_recv F hG mo_0 (by decide) rfl) rfl hl.1 rfl (Nat.le_of_ble_eq_true rfl) dX9_see_36 ⟨Nat.le_refl _, Nat.le_refl _⟩) (fun H locs hG => ?_)
    exact cg_iret F hr hlk hG hf dX9_see_39
  unfold f_X9_see at hf
  refine lv_aload_n hx hb dX9_see_0 rfl (lv_at hl 0 rfl) ?_
  refine lv_iconst (v := 0) hx hb dX9_see_1 (by decide) ?_
  refine g_putI F hG mo_0 (by decide) (by decide) lkv_X9_102 rfl rfl rfl dX9_see_2 (fun H locs hG => ?_)
  refine lv_aload_n hx hb dX9_see_5 rfl (lv_at hl 0 rfl) ?_
  refine g_getI F hG mo_0 (by decide) (by decide) lk_X9_304 rfl dX9_see_6 ?_
  refine lv_bipush (v := 8) hx hb dX9_see_9 (by decide) ?_
  refine lv_icmp_eq (tgt := 34) hx hb dX9_see_11 (by decide) (fun c2 => ?_) (fun c2 => ?_)
  · replace hf := if_t c2 hf
    exact hJ34  _ _ _ ls hf hG (lv_sub hl [0] rfl)
  · replace hf := if_f c2 hf
    refine lv_iload_n hx hb dX9_see_14 rfl (lv_at hl 1 rfl) ?_
    refine lv_iconst (v := 0) hx hb dX9_see_15 (by decide) ?_
    refine lv_bipush (v := 20) hx hb dX9_see_16 (by decide) ?_
    replace hf := bd_some hf
    obtain ⟨q3, eq3, hf⟩ := hf
    refine gx_calli hG (gx_runS hXk F hX hG (c_X9_within l w hXk n  x1 (0 : Int32) (20 : Int32) _ _ eq3) cs_X9_379 ⟨Nat.le_of_ble_eq_true rfl, Nat.le_of_ble_eq_true rfl⟩ rfl hl.1 rfl (Nat.le_of_ble_eq_true rfl) dX9_see_18 ⟨Nat.le_refl _, Nat.le_refl _⟩) (fun H locs hG => ?_)
    refine lv_if_eq (tgt := 34) hx hb dX9_see_21 (by decide) (fun c4 => ?_) (fun c4 => ?_)
    · replace hf := if_t c4 hf
      exact hJ34  _ _ _ ls hf hG (lv_sub hl [0] rfl)
    · replace hf := if_f c4 hf
      refine lv_iload_n hx hb dX9_see_24 rfl (lv_at hl 2 rfl) ?_
      refine lv_iconst (v := 0) hx hb dX9_see_25 (by decide) ?_
      refine lv_bipush (v := 99) hx hb dX9_see_26 (by decide) ?_
      replace hf := bd_some hf
      obtain ⟨q5, eq5, hf⟩ := hf
      refine gx_calli hG (gx_runS hXk F hX hG (c_X9_within l w hXk n  x2 (0 : Int32) (99 : Int32) _ _ eq5) cs_X9_379 ⟨Nat.le_of_ble_eq_true rfl, Nat.le_of_ble_eq_true rfl⟩ rfl hl.1 rfl (Nat.le_of_ble_eq_true rfl) dX9_see_28 ⟨Nat.le_refl _, Nat.le_refl _⟩) (fun H locs hG => ?_)
      refine lv_if_ne (tgt := 40) hx hb dX9_see_31 (by decide) (fun c6 => ?_) (fun c6 => ?_)
      · replace hf := if_f c6 hf
        refine lv_aload_n hx hb dX9_see_40 rfl (lv_at hl 0 rfl) ?_
        refine g_getR F hG 18 mo_0 (by decide) (by decide) lk_X9_84 rfl dX9_see_41 ?_
        refine lv_iconst (v := 2) hx hb dX9_see_44 (by decide) ?_
        refine lv_aload_n hx hb dX9_see_45 rfl (lv_at hl 0 rfl) ?_
        refine g_getI F hG mo_0 (by decide) (by decide) lk_X9_304 rfl dX9_see_46 ?_
        refine lv_imul hx hb dX9_see_49 ?_
        refine lv_iload_n hx hb dX9_see_50 rfl (lv_at hl 1 rfl) ?_
        replace hf := ck_some hf
        obtain ⟨k7, hf⟩ := hf
        refine g_iast F hG oM_18 k7 dX9_see_51 (fun H locs hG => ?_)
        refine lv_aload_n hx hb dX9_see_52 rfl (lv_at hl 0 rfl) ?_
        refine g_getR F hG 18 mo_0 (by decide) (by decide) lk_X9_84 rfl dX9_see_53 ?_
        refine lv_iconst (v := 2) hx hb dX9_see_56 (by decide) ?_
        refine lv_aload_n hx hb dX9_see_57 rfl (lv_at hl 0 rfl) ?_
        refine g_getI F hG mo_0 (by decide) (by decide) lk_X9_304 rfl dX9_see_58 ?_
        refine lv_imul hx hb dX9_see_61 ?_
        refine lv_iconst (v := 1) hx hb dX9_see_62 (by decide) ?_
        refine lv_iadd hx hb dX9_see_63 ?_
        refine lv_iload_n hx hb dX9_see_64 rfl (lv_at hl 2 rfl) ?_
        replace hf := ck_some hf
        obtain ⟨k8, hf⟩ := hf
        refine g_iast F hG oM_18 k8 dX9_see_65 (fun H locs hG => ?_)
        refine lv_aload_n hx hb dX9_see_66 rfl (lv_at hl 0 rfl) ?_
        refine lv_dup hx hb dX9_see_67 rfl ?_
        refine g_getI F hG mo_0 (by decide) (by decide) lk_X9_304 rfl dX9_see_68 ?_
        refine lv_iconst (v := 1) hx hb dX9_see_71 (by decide) ?_
        refine lv_iadd hx hb dX9_see_72 ?_
        refine g_putI F hG mo_0 (by decide) (by decide) lkv_X9_304 rfl rfl rfl dX9_see_73 (fun H locs hG => ?_)
        refine lv_aload_n hx hb dX9_see_76 rfl (lv_at hl 0 rfl) ?_
        refine g_getI F hG mo_0 (by decide) (by decide) lk_X9_304 rfl dX9_see_77 ?_
        exact cg_iret F hr hlk hG hf dX9_see_80
      · replace hf := if_t c6 hf
        exact hJ34  _ _ _ ls hf hG (lv_sub hl [0] rfl)

def f_X9_forget (n : Nat) (M : Mem) : Option (Mem) := some (si (si M 0 0 (0 : Int32)) 0 54 (0 : Int32))
set_option maxHeartbeats 4000000 in
set_option maxRecDepth 100000 in
theorem c_X9_forget (l : Launch) (w : Wd) {X : (Nat → Prop) → State → Heap → Prop} (hXk : XOK X) (n : Nat) (M : Mem) (res : Mem) (hf : f_X9_forget n   M = some res) : CG l w layM 24 X yX9_forget cX9_forget 1 none 0 [.ref (w.2.2.1 0)] M (GQv w layM 24 res) := by
  refine cg_start (by decide +kernel) (Nat.le_of_ble_eq_true rfl) ?_
  intro p e s m args below meth c F hr hlk hX hG ls hl
  have F : FX w p m c cX9_forget 1 s args RX9 := F
  have hx := F.1.1
  have hb := F.1.2.1
  have hl : lv_has ls 1 [(0, .ref (w.2.2.1 0))] := hl
  unfold f_X9_forget at hf
  refine lv_aload_n hx hb dX9_forget_0 rfl (lv_at hl 0 rfl) ?_
  refine lv_iconst (v := 0) hx hb dX9_forget_1 (by decide) ?_
  refine g_putI F hG mo_0 (by decide) (by decide) lkv_X9_102 rfl rfl rfl dX9_forget_2 (fun H locs hG => ?_)
  refine lv_aload_n hx hb dX9_forget_5 rfl (lv_at hl 0 rfl) ?_
  refine lv_iconst (v := 0) hx hb dX9_forget_6 (by decide) ?_
  refine g_putI F hG mo_0 (by decide) (by decide) lkv_X9_304 rfl rfl rfl dX9_forget_7 (fun H locs hG => ?_)
  exact cg_vret F hr hlk hG hf dX9_forget_10

def j_X9_isSeen_83 (n : Nat) (x1 : Int32) (M : Mem) : Option ((Int32 × Mem) ⊕ (Int32 × Mem)) := bd (f_X9_dayGoes n  (54 : Int32) M) (fun q1 => some (.inl ((x1 + (1 : Int32)), q1)))
def j_X9_isSeen_58 (n : Nat) (x1 : Int32) (M : Mem) : Option ((Int32 × Mem) ⊕ (Int32 × Mem)) := if x1 ≤ 0 then (j_X9_isSeen_83 n  x1 M) else (if (6 : Int32) ≤ x1 then (j_X9_isSeen_83 n  x1 M) else (ck (inb (x1 - (1 : Int32)) 5) (j_X9_isSeen_83 n  x1 (si M 19 (x1 - (1 : Int32)).toNatClampNeg (gi M 12 (56 : Int32).toNatClampNeg)))))
def j_X9_isSeen_52 (n : Nat) (x1 : Int32) (x2 : Int32) (M : Mem) : Option ((Int32 × Mem) ⊕ ((Int32 × Mem) ⊕ (Int32 × Mem))) := some (.inl ((x2 + (1 : Int32)), M))
def b_X9_isSeen_10 (n : Nat) (x1 : Int32) (q : (Int32 × Mem)) : Option ((Int32 × Mem) ⊕ ((Int32 × Mem) ⊕ (Int32 × Mem))) := match q with
  | (x2, M) => if (gi M 0 54) ≤ x2 then (mr (j_X9_isSeen_58 n  x1 M)) else (ck (inb ((2 : Int32) * x2) 16) (if (gi M 18 ((2 : Int32) * x2).toNatClampNeg) = x1 then (ck (inb (((2 : Int32) * x2) + (1 : Int32)) 16) (if (gi M 12 (56 : Int32).toNatClampNeg) = (gi M 18 (((2 : Int32) * x2) + (1 : Int32)).toNatClampNeg) then (j_X9_isSeen_52 n  x1 x2 M) else (mr (mr (some ((0 : Int32), M)))))) else (j_X9_isSeen_52 n  x1 x2 M)))
def b_X9_isSeen_2 (n : Nat) (q : (Int32 × Mem)) : Option ((Int32 × Mem) ⊕ (Int32 × Mem)) := match q with
  | (x1, M) => if (20 : Int32) < x1 then (mr (some ((1 : Int32), M))) else (gl (b_X9_isSeen_10 n  x1) n ((0 : Int32), M))
def f_X9_isSeen (n : Nat) (M : Mem) : Option (Int32 × Mem) := gl (b_X9_isSeen_2 n ) n ((0 : Int32), M)
set_option maxHeartbeats 4000000 in
set_option maxRecDepth 100000 in
theorem c_X9_isSeen (l : Launch) (w : Wd) {X : (Nat → Prop) → State → Heap → Prop} (hXk : XOK X) (n : Nat) (M : Mem) (res : Int32 × Mem) (hf : f_X9_isSeen n   M = some res) : CG l w layM 24 X yX9_isSeen cX9_isSeen 3 (some .boolean) 4 [.ref (w.2.2.1 0)] M (GQi w layM 24 res) := by
  refine cg_start (by decide +kernel) (Nat.le_of_ble_eq_true rfl) ?_
  intro p e s m args below meth c F hr hlk hX hG ls hl
  have F : FX w p m c cX9_isSeen 3 s args RX9 := F
  have hx := F.1.1
  have hb := F.1.2.1
  have hl : lv_has ls 3 [(0, .ref (w.2.2.1 0))] := hl
  have hJ2 : ∀ (x1 : Int32) (M : Mem) (H : Heap) (locs : List Loc) (ls : Array Slot), gl (b_X9_isSeen_2 n  ) n (x1, M) = some res → GI w layM 24 s.heap M H locs → lv_has ls 3 [(0, .ref (w.2.2.1 0)), (1, .int x1)] → W p l e (Rm 4) s m args below meth c H locs 0 0 (MQ below (GQi w layM 24 res s.heap.size) args s 0 0 (gA w.2.2.1 24 s.heap.size)) (F0 m 2 ls []) := by
    intro x1 M H locs ls hf hG hl
    refine gl_run (P := fun (q : (Int32 × Mem)) => ∀ (H : Heap) (locs : List Loc) (ls : Array Slot), GI w layM 24 s.heap q.2 H locs → lv_has ls 3 [(0, .ref (w.2.2.1 0)), (1, .int q.1)] → W p l e (Rm 4) s m args below meth c H locs 0 0 (MQ below (GQi w layM 24 res s.heap.size) args s 0 0 (gA w.2.2.1 24 s.heap.size)) (F0 m 2 ls [])) ?_ n (x1, M) hf H locs ls hG hl
    clear hf hG hl ls locs H M x1
    rintro ⟨x1, M⟩ rr2 hf hI2 hE2 H locs ls hG hl
    try dsimp only at hG hl ⊢
    have hJ83 : ∀ (x1 : Int32) (M : Mem) (H : Heap) (locs : List Loc) (ls : Array Slot), j_X9_isSeen_83 n  x1 M = some rr2 → GI w layM 24 s.heap M H locs → lv_has ls 3 [(0, .ref (w.2.2.1 0)), (1, .int x1)] → W p l e (Rm 4) s m args below meth c H locs 0 0 (MQ below (GQi w layM 24 res s.heap.size) args s 0 0 (gA w.2.2.1 24 s.heap.size)) (F0 m 83 ls []) := by
      intro x1 M H locs ls hf hG hl
      unfold j_X9_isSeen_83 at hf
      refine lv_aload_n hx hb dX9_isSeen_83 rfl (lv_at hl 0 rfl) ?_
      refine lv_bipush (v := 54) hx hb dX9_isSeen_84 (by decide) ?_
      replace hf := bd_some hf
      obtain ⟨q1, eq1, hf⟩ := hf
      refine gx_callv hG (gx_runV hXk F hX hG (c_X9_dayGoes l w hXk n  (54 : Int32) _ _ eq1) cv_X9_364 ⟨Nat.le_of_ble_eq_true rfl, Nat.le_of_ble_eq_true rfl⟩ (g_recv F hG mo_0 (by decide) rfl) rfl hl.1 rfl (Nat.le_of_ble_eq_true rfl) dX9_isSeen_86 ⟨Nat.le_refl _, Nat.le_refl _⟩) (fun H locs hG => ?_)
      refine lv_iinc (v := (x1 + (1 : Int32))) (lv' := [(1, .int (x1 + (1 : Int32))), (0, .ref (w.2.2.1 0))]) hx hb dX9_isSeen_89 hl (k := 1) rfl rfl (by decide) rfl (fun ls hl => ?_)
      refine lv_goto (tgt := 2) hx hb dX9_isSeen_92 (by decide) ?_
      exact hI2 _ (Option.some.inj hf).symm _ _ ls hG (lv_sub hl [1, 0] rfl)
    have hJ58 : ∀ (x1 : Int32) (M : Mem) (H : Heap) (locs : List Loc) (ls : Array Slot), j_X9_isSeen_58 n  x1 M = some rr2 → GI w layM 24 s.heap M H locs → lv_has ls 3 [(0, .ref (w.2.2.1 0)), (1, .int x1)] → W p l e (Rm 4) s m args below meth c H locs 0 0 (MQ below (GQi w layM 24 res s.heap.size) args s 0 0 (gA w.2.2.1 24 s.heap.size)) (F0 m 58 ls []) := by
      intro x1 M H locs ls hf hG hl
      unfold j_X9_isSeen_58 at hf
      refine lv_iload_n hx hb dX9_isSeen_58 rfl (lv_at hl 1 rfl) ?_
      refine lv_if_le (tgt := 83) hx hb dX9_isSeen_59 (by decide) (fun c2 => ?_) (fun c2 => ?_)
      · replace hf := if_t c2 hf
        exact hJ83 _ _ _ _ ls hf hG (lv_sub hl [0, 1] rfl)
      · replace hf := if_f c2 hf
        refine lv_iload_n hx hb dX9_isSeen_62 rfl (lv_at hl 1 rfl) ?_
        refine lv_bipush (v := 6) hx hb dX9_isSeen_63 (by decide) ?_
        refine lv_icmp_ge (tgt := 83) hx hb dX9_isSeen_65 (by decide) (fun c3 => ?_) (fun c3 => ?_)
        · replace hf := if_t c3 hf
          exact hJ83 _ _ _ _ ls hf hG (lv_sub hl [0, 1] rfl)
        · replace hf := if_f c3 hf
          refine lv_aload_n hx hb dX9_isSeen_68 rfl (lv_at hl 0 rfl) ?_
          refine g_getR F hG 19 mo_0 (by decide) (by decide) lk_X9_87 rfl dX9_isSeen_69 ?_
          refine lv_iload_n hx hb dX9_isSeen_72 rfl (lv_at hl 1 rfl) ?_
          refine lv_iconst (v := 1) hx hb dX9_isSeen_73 (by decide) ?_
          refine lv_isub hx hb dX9_isSeen_74 ?_
          refine lv_aload_n hx hb dX9_isSeen_75 rfl (lv_at hl 0 rfl) ?_
          refine g_getR F hG 12 mo_0 (by decide) (by decide) lk_X9_63 rfl dX9_isSeen_76 ?_
          refine lv_bipush (v := 56) hx hb dX9_isSeen_79 (by decide) ?_
          refine g_iald F hG oM_12 (by decide) dX9_isSeen_81 ?_
          replace hf := ck_some hf
          obtain ⟨k4, hf⟩ := hf
          refine g_iast F hG oM_19 k4 dX9_isSeen_82 (fun H locs hG => ?_)
          exact hJ83 _ _ _ _ ls hf hG (lv_sub hl [0, 1] rfl)
    have hJ10 : ∀ (x1 : Int32) (x2 : Int32) (M : Mem) (H : Heap) (locs : List Loc) (ls : Array Slot), gl (b_X9_isSeen_10 n  x1) n (x2, M) = some rr2 → GI w layM 24 s.heap M H locs → lv_has ls 3 [(0, .ref (w.2.2.1 0)), (1, .int x1), (2, .int x2)] → W p l e (Rm 4) s m args below meth c H locs 0 0 (MQ below (GQi w layM 24 res s.heap.size) args s 0 0 (gA w.2.2.1 24 s.heap.size)) (F0 m 10 ls []) := by
      intro x1 x2 M H locs ls hf hG hl
      refine gl_run (P := fun (q : (Int32 × Mem)) => ∀ (H : Heap) (locs : List Loc) (ls : Array Slot), GI w layM 24 s.heap q.2 H locs → lv_has ls 3 [(0, .ref (w.2.2.1 0)), (1, .int x1), (2, .int q.1)] → W p l e (Rm 4) s m args below meth c H locs 0 0 (MQ below (GQi w layM 24 res s.heap.size) args s 0 0 (gA w.2.2.1 24 s.heap.size)) (F0 m 10 ls [])) ?_ n (x2, M) hf H locs ls hG hl
      clear hf hG hl ls locs H M x2
      rintro ⟨x2, M⟩ rr10 hf hI10 hE10 H locs ls hG hl
      try dsimp only at hG hl ⊢
      have hJ52 : ∀ (x2 : Int32) (M : Mem) (H : Heap) (locs : List Loc) (ls : Array Slot), j_X9_isSeen_52 n  x1 x2 M = some rr10 → GI w layM 24 s.heap M H locs → lv_has ls 3 [(0, .ref (w.2.2.1 0)), (1, .int x1), (2, .int x2)] → W p l e (Rm 4) s m args below meth c H locs 0 0 (MQ below (GQi w layM 24 res s.heap.size) args s 0 0 (gA w.2.2.1 24 s.heap.size)) (F0 m 52 ls []) := by
        intro x2 M H locs ls hf hG hl
        unfold j_X9_isSeen_52 at hf
        refine lv_iinc (v := (x2 + (1 : Int32))) (lv' := [(2, .int (x2 + (1 : Int32))), (0, .ref (w.2.2.1 0)), (1, .int x1)]) hx hb dX9_isSeen_52 hl (k := 2) rfl rfl (by decide) rfl (fun ls hl => ?_)
        refine lv_goto (tgt := 10) hx hb dX9_isSeen_55 (by decide) ?_
        exact hI10 _ (Option.some.inj hf).symm _ _ ls hG (lv_sub hl [1, 2, 0] rfl)
      dsimp only [b_X9_isSeen_10] at hf
      refine lv_iload_n hx hb dX9_isSeen_10 rfl (lv_at hl 2 rfl) ?_
      refine lv_aload_n hx hb dX9_isSeen_11 rfl (lv_at hl 0 rfl) ?_
      refine g_getI F hG mo_0 (by decide) (by decide) lk_X9_304 rfl dX9_isSeen_12 ?_
      refine lv_icmp_ge (tgt := 58) hx hb dX9_isSeen_15 (by decide) (fun c5 => ?_) (fun c5 => ?_)
      · replace hf := if_t c5 hf
        replace hf := mr_some hf
        obtain ⟨z10, hf, hz⟩ := hf
        rw [hE10 _ hz] at hf
        exact hJ58 _ _ _ _ ls hf hG (lv_sub hl [0, 1] rfl)
      · replace hf := if_f c5 hf
        refine lv_aload_n hx hb dX9_isSeen_18 rfl (lv_at hl 0 rfl) ?_
        refine g_getR F hG 18 mo_0 (by decide) (by decide) lk_X9_84 rfl dX9_isSeen_19 ?_
        refine lv_iconst (v := 2) hx hb dX9_isSeen_22 (by decide) ?_
        refine lv_iload_n hx hb dX9_isSeen_23 rfl (lv_at hl 2 rfl) ?_
        refine lv_imul hx hb dX9_isSeen_24 ?_
        replace hf := ck_some hf
        obtain ⟨k6, hf⟩ := hf
        refine g_iald F hG oM_18 k6 dX9_isSeen_25 ?_
        refine lv_iload_n hx hb dX9_isSeen_26 rfl (lv_at hl 1 rfl) ?_
        refine lv_icmp_ne (tgt := 52) hx hb dX9_isSeen_27 (by decide) (fun c7 => ?_) (fun c7 => ?_)
        · replace hf := if_f c7 hf
          exact hJ52 _ _ _ _ ls hf hG (lv_sub hl [0, 1, 2] rfl)
        · replace hf := if_t c7 hf
          refine lv_aload_n hx hb dX9_isSeen_30 rfl (lv_at hl 0 rfl) ?_
          refine g_getR F hG 12 mo_0 (by decide) (by decide) lk_X9_63 rfl dX9_isSeen_31 ?_
          refine lv_bipush (v := 56) hx hb dX9_isSeen_34 (by decide) ?_
          refine g_iald F hG oM_12 (by decide) dX9_isSeen_36 ?_
          refine lv_aload_n hx hb dX9_isSeen_37 rfl (lv_at hl 0 rfl) ?_
          refine g_getR F hG 18 mo_0 (by decide) (by decide) lk_X9_84 rfl dX9_isSeen_38 ?_
          refine lv_iconst (v := 2) hx hb dX9_isSeen_41 (by decide) ?_
          refine lv_iload_n hx hb dX9_isSeen_42 rfl (lv_at hl 2 rfl) ?_
          refine lv_imul hx hb dX9_isSeen_43 ?_
          refine lv_iconst (v := 1) hx hb dX9_isSeen_44 (by decide) ?_
          refine lv_iadd hx hb dX9_isSeen_45 ?_
          replace hf := ck_some hf
          obtain ⟨k8, hf⟩ := hf
          refine g_iald F hG oM_18 k8 dX9_isSeen_46 ?_
          refine lv_icmp_eq (tgt := 52) hx hb dX9_isSeen_47 (by decide) (fun c9 => ?_) (fun c9 => ?_)
          · replace hf := if_t c9 hf
            exact hJ52 _ _ _ _ ls hf hG (lv_sub hl [0, 1, 2] rfl)
          · replace hf := if_f c9 hf
            refine lv_iconst (v := 0) hx hb dX9_isSeen_50 (by decide) ?_
            replace hf := mr_some hf
            obtain ⟨z10, hf, hz⟩ := hf
            rw [hE10 _ hz] at hf
            replace hf := mr_some hf
            obtain ⟨z2, hf, hz⟩ := hf
            rw [hE2 _ hz] at hf
            exact cg_zret F hr hlk hG hf (Or.inl rfl) dX9_isSeen_51
    dsimp only [b_X9_isSeen_2] at hf
    refine lv_iload_n hx hb dX9_isSeen_2 rfl (lv_at hl 1 rfl) ?_
    refine lv_bipush (v := 20) hx hb dX9_isSeen_3 (by decide) ?_
    refine lv_icmp_gt (tgt := 95) hx hb dX9_isSeen_5 (by decide) (fun c10 => ?_) (fun c10 => ?_)
    · replace hf := if_t c10 hf
      refine lv_iconst (v := 1) hx hb dX9_isSeen_95 (by decide) ?_
      replace hf := mr_some hf
      obtain ⟨z2, hf, hz⟩ := hf
      rw [hE2 _ hz] at hf
      exact cg_zret F hr hlk hG hf (Or.inr rfl) dX9_isSeen_96
    · replace hf := if_f c10 hf
      refine lv_iconst (v := 0) hx hb dX9_isSeen_8 (by decide) ?_
      refine lv_istore_n (lv' := [(2, .int (0 : Int32)), (0, .ref (w.2.2.1 0)), (1, .int x1)]) hx hb dX9_isSeen_9 rfl hl (by decide) rfl (fun ls hl => ?_)
      exact hJ10 _ _ _ _ _ ls hf hG (lv_sub hl [1, 2, 0] rfl)
  unfold f_X9_isSeen at hf
  refine lv_iconst (v := 0) hx hb dX9_isSeen_0 (by decide) ?_
  refine lv_istore_n (lv' := [(1, .int (0 : Int32)), (0, .ref (w.2.2.1 0))]) hx hb dX9_isSeen_1 rfl hl (by decide) rfl (fun ls hl => ?_)
  exact hJ2 _ _ _ _ ls hf hG (lv_sub hl [1, 0] rfl)

def f_X9_isGuess (n : Nat) (x1 : Int32) (M : Mem) : Option (Int32 × Mem) := if (x1 - x1 / (10 : Int32) * (10 : Int32)) = 0 then (some ((0 : Int32), M)) else (ck (inb ((6 : Int32) + (x1 / (10 : Int32))) 108) (if (gi M 12 ((6 : Int32) + (x1 / (10 : Int32))).toNatClampNeg) = (x1 - x1 / (10 : Int32) * (10 : Int32)) then (some ((0 : Int32), M)) else (bd (f_X9_tries n   M) (fun q4 => ck (inb ((60 : Int32) + (x1 / (10 : Int32))) 108) (bd (f_X9_isSeen n   (si q4 12 ((60 : Int32) + (x1 / (10 : Int32))).toNatClampNeg (x1 - x1 / (10 : Int32) * (10 : Int32)))) (fun q6 => ck (q6.1 = 0 ∨ q6.1 = 1) (some (q6.1, q6.2))))))))
set_option maxHeartbeats 4000000 in
set_option maxRecDepth 100000 in
theorem c_X9_isGuess (l : Launch) (w : Wd) {X : (Nat → Prop) → State → Heap → Prop} (hXk : XOK X) (n : Nat) (x1 : Int32) (M : Mem) (res : Int32 × Mem) (hf : f_X9_isGuess n  x1 M = some res) : CG l w layM 24 X yX9_isGuess cX9_isGuess 3 (some .boolean) 5 [.ref (w.2.2.1 0), .int x1] M (GQi w layM 24 res) := by
  refine cg_start (by decide +kernel) (Nat.le_of_ble_eq_true rfl) ?_
  intro p e s m args below meth c F hr hlk hX hG ls hl
  have F : FX w p m c cX9_isGuess 3 s args RX9 := F
  have hx := F.1.1
  have hb := F.1.2.1
  have hl : lv_has ls 3 [(0, .ref (w.2.2.1 0)), (1, .int x1)] := hl
  unfold f_X9_isGuess at hf
  refine lv_iload_n hx hb dX9_isGuess_0 rfl (lv_at hl 1 rfl) ?_
  refine lv_bipush (v := 10) hx hb dX9_isGuess_1 (by decide) ?_
  refine lv_idiv hx hb dX9_isGuess_3 (by decide) ?_
  refine lv_istore_n (lv' := [(2, .int (x1 / (10 : Int32))), (0, .ref (w.2.2.1 0)), (1, .int x1)]) hx hb dX9_isGuess_4 rfl hl (by decide) rfl (fun ls hl => ?_)
  refine lv_iload_n hx hb dX9_isGuess_5 rfl (lv_at hl 2 rfl) ?_
  refine lv_bipush (v := 10) hx hb dX9_isGuess_6 (by decide) ?_
  refine lv_irem hx hb dX9_isGuess_8 (by decide) ?_
  refine lv_if_eq (tgt := 28) hx hb dX9_isGuess_9 (by decide) (fun c1 => ?_) (fun c1 => ?_)
  · replace hf := if_t c1 hf
    refine lv_iconst (v := 0) hx hb dX9_isGuess_28 (by decide) ?_
    exact cg_zret F hr hlk hG hf (Or.inl rfl) dX9_isGuess_29
  · replace hf := if_f c1 hf
    refine lv_aload_n hx hb dX9_isGuess_12 rfl (lv_at hl 1 rfl) ?_
    refine g_getR F hG 12 mo_0 (by decide) (by decide) lk_X9_63 rfl dX9_isGuess_13 ?_
    refine lv_bipush (v := 6) hx hb dX9_isGuess_16 (by decide) ?_
    refine lv_iload_n hx hb dX9_isGuess_18 rfl (lv_at hl 0 rfl) ?_
    refine lv_iadd hx hb dX9_isGuess_19 ?_
    replace hf := ck_some hf
    obtain ⟨k2, hf⟩ := hf
    refine g_iald F hG oM_12 k2 dX9_isGuess_20 ?_
    refine lv_iload_n hx hb dX9_isGuess_21 rfl (lv_at hl 2 rfl) ?_
    refine lv_bipush (v := 10) hx hb dX9_isGuess_22 (by decide) ?_
    refine lv_irem hx hb dX9_isGuess_24 (by decide) ?_
    refine lv_icmp_ne (tgt := 30) hx hb dX9_isGuess_25 (by decide) (fun c3 => ?_) (fun c3 => ?_)
    · replace hf := if_f c3 hf
      refine lv_aload_n hx hb dX9_isGuess_30 rfl (lv_at hl 1 rfl) ?_
      replace hf := bd_some hf
      obtain ⟨q4, eq4, hf⟩ := hf
      refine gx_callv hG (gx_runV hXk F hX hG (c_X9_tries l w hXk n   _ _ eq4) cv_X9_367 ⟨Nat.le_of_ble_eq_true rfl, Nat.le_of_ble_eq_true rfl⟩ (g_recv F hG mo_0 (by decide) rfl) rfl hl.1 rfl (Nat.le_of_ble_eq_true rfl) dX9_isGuess_31 ⟨Nat.le_refl _, Nat.le_refl _⟩) (fun H locs hG => ?_)
      refine lv_aload_n hx hb dX9_isGuess_34 rfl (lv_at hl 1 rfl) ?_
      refine g_getR F hG 12 mo_0 (by decide) (by decide) lk_X9_63 rfl dX9_isGuess_35 ?_
      refine lv_bipush (v := 60) hx hb dX9_isGuess_38 (by decide) ?_
      refine lv_iload_n hx hb dX9_isGuess_40 rfl (lv_at hl 0 rfl) ?_
      refine lv_iadd hx hb dX9_isGuess_41 ?_
      refine lv_iload_n hx hb dX9_isGuess_42 rfl (lv_at hl 2 rfl) ?_
      refine lv_bipush (v := 10) hx hb dX9_isGuess_43 (by decide) ?_
      refine lv_irem hx hb dX9_isGuess_45 (by decide) ?_
      replace hf := ck_some hf
      obtain ⟨k5, hf⟩ := hf
      refine g_iast F hG oM_12 k5 dX9_isGuess_46 (fun H locs hG => ?_)
      refine lv_aload_n hx hb dX9_isGuess_47 rfl (lv_at hl 1 rfl) ?_
      replace hf := bd_some hf
      obtain ⟨q6, eq6, hf⟩ := hf
      refine gx_calli hG (gx_runV hXk F hX hG (c_X9_isSeen l w hXk n   _ _ eq6) cv_X9_424 ⟨Nat.le_of_ble_eq_true rfl, Nat.le_of_ble_eq_true rfl⟩ (g_recv F hG mo_0 (by decide) rfl) rfl hl.1 rfl (Nat.le_of_ble_eq_true rfl) dX9_isGuess_48 ⟨Nat.le_refl _, Nat.le_refl _⟩) (fun H locs hG => ?_)
      replace hf := ck_some hf
      obtain ⟨k7, hf⟩ := hf
      exact cg_zret F hr hlk hG hf k7 dX9_isGuess_51
    · replace hf := if_t c3 hf
      refine lv_iconst (v := 0) hx hb dX9_isGuess_28 (by decide) ?_
      exact cg_zret F hr hlk hG hf (Or.inl rfl) dX9_isGuess_29
