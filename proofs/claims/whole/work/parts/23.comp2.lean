def f_X6_write (n : Nat) (j : Nat) (x1 : Int32) (x2 : Int32) (M : Mem) : Option (Mem) := if (700 : Int32) ≤ (gi M j 6) then (some M) else (ck (inb (gi M j 6) 700) (ck (inb x1 3) (some (si (si (si M (j + 2) (gi M j 6).toNatClampNeg x2) j 6 ((gi (si M (j + 2) (gi M j 6).toNatClampNeg x2) j 6) + (1 : Int32))) (j + 4) x1.toNatClampNeg (gi (si (si M (j + 2) (gi M j 6).toNatClampNeg x2) j 6 ((gi (si M (j + 2) (gi M j 6).toNatClampNeg x2) j 6) + (1 : Int32))) j 6)))))
set_option maxHeartbeats 4000000 in
set_option maxRecDepth 100000 in
theorem c_X6_write (l : Launch) (w : Wd) {Y : (Nat → Prop) → State → Heap → Prop} (hYk : XOK Y) (n : Nat) (j : Nat) (hj : isTw j) (x1 : Int32) (x2 : Int32) (M : Mem) (res : Mem) (hf : f_X6_write n j x1 x2 M = some res) : CG l w layC 61 (XN Y) yX6_write cX6_write 3 none 0 [.ref (w.2.2.1 j), .int x1, .int x2] M (GQv w layC 61 res) := by
  refine cg_start (by decide +kernel) (Nat.le_of_ble_eq_true rfl) ?_
  intro p e s m args below meth c F hr hlk hX hG ls hl
  have F : FX w p m c cX6_write 3 s args RX6 := F
  have hx := F.1.1
  have hb := F.1.2.1
  have hl : lv_has ls 3 [(0, .ref (w.2.2.1 j)), (1, .int x1), (2, .int x2)] := hl
  unfold f_X6_write at hf
  refine lv_aload_n hx hb dX6_write_0 rfl (lv_at hl 0 rfl) ?_
  refine g_getI F hG hj.1 (by decide) (by decide) lk_X6_30 rfl dX6_write_1 ?_
  refine lv_sipush (v := 700) hx hb dX6_write_4 (by decide) ?_
  refine lv_icmp_ge (tgt := 40) hx hb dX6_write_7 (by decide) (fun c1 => ?_) (fun c1 => ?_)
  · replace hf := if_t c1 hf
    exact cg_vret F hr hlk hG hf dX6_write_40
  · replace hf := if_f c1 hf
    refine lv_aload_n hx hb dX6_write_10 rfl (lv_at hl 0 rfl) ?_
    refine g_getR F hG (j + 2) hj.1 (by decide) (by decide) lk_X6_15 rfl dX6_write_11 ?_
    refine lv_aload_n hx hb dX6_write_14 rfl (lv_at hl 0 rfl) ?_
    refine g_getI F hG hj.1 (by decide) (by decide) lk_X6_30 rfl dX6_write_15 ?_
    refine lv_iload_n hx hb dX6_write_18 rfl (lv_at hl 2 rfl) ?_
    replace hf := ck_some hf
    obtain ⟨k2, hf⟩ := hf
    refine g_iast F hG hj.2.2.1 k2 dX6_write_19 (fun H locs hG => ?_)
    refine lv_aload_n hx hb dX6_write_20 rfl (lv_at hl 0 rfl) ?_
    refine lv_dup hx hb dX6_write_21 rfl ?_
    refine g_getI F hG hj.1 (by decide) (by decide) lk_X6_30 rfl dX6_write_22 ?_
    refine lv_iconst (v := 1) hx hb dX6_write_25 (by decide) ?_
    refine lv_iadd hx hb dX6_write_26 ?_
    refine g_putI F hG hj.1 (by decide) (by decide) lkv_X6_30 rfl rfl rfl dX6_write_27 (fun H locs hG => ?_)
    refine lv_aload_n hx hb dX6_write_30 rfl (lv_at hl 0 rfl) ?_
    refine g_getR F hG (j + 4) hj.1 (by decide) (by decide) lk_X6_21 rfl dX6_write_31 ?_
    refine lv_iload_n hx hb dX6_write_34 rfl (lv_at hl 1 rfl) ?_
    refine lv_aload_n hx hb dX6_write_35 rfl (lv_at hl 0 rfl) ?_
    refine g_getI F hG hj.1 (by decide) (by decide) lk_X6_30 rfl dX6_write_36 ?_
    replace hf := ck_some hf
    obtain ⟨k3, hf⟩ := hf
    refine g_iast F hG hj.2.2.2.2.1 k3 dX6_write_39 (fun H locs hG => ?_)
    exact cg_vret F hr hlk hG hf dX6_write_40

def f_X6_addWind (n : Nat) (j : Nat) (x1 : Int32) (M : Mem) : Option (Mem) := if (8 : Int32) ≤ (gi M j 7) then (some M) else (ck (inb (gi M j 7) 8) (some (si (si M (j + 1) (gi M j 7).toNatClampNeg x1) j 7 ((gi (si M (j + 1) (gi M j 7).toNatClampNeg x1) j 7) + (1 : Int32)))))
set_option maxHeartbeats 4000000 in
set_option maxRecDepth 100000 in
theorem c_X6_addWind (l : Launch) (w : Wd) {Y : (Nat → Prop) → State → Heap → Prop} (hYk : XOK Y) (n : Nat) (j : Nat) (hj : isTw j) (x1 : Int32) (M : Mem) (res : Mem) (hf : f_X6_addWind n j x1 M = some res) : CG l w layC 61 (XN Y) yX6_addWind cX6_addWind 2 none 0 [.ref (w.2.2.1 j), .int x1] M (GQv w layC 61 res) := by
  refine cg_start (by decide +kernel) (Nat.le_of_ble_eq_true rfl) ?_
  intro p e s m args below meth c F hr hlk hX hG ls hl
  have F : FX w p m c cX6_addWind 2 s args RX6 := F
  have hx := F.1.1
  have hb := F.1.2.1
  have hl : lv_has ls 2 [(0, .ref (w.2.2.1 j)), (1, .int x1)] := hl
  unfold f_X6_addWind at hf
  refine lv_aload_n hx hb dX6_addWind_0 rfl (lv_at hl 0 rfl) ?_
  refine g_getI F hG hj.1 (by decide) (by decide) lk_X6_34 rfl dX6_addWind_1 ?_
  refine lv_bipush (v := 8) hx hb dX6_addWind_4 (by decide) ?_
  refine lv_icmp_ge (tgt := 29) hx hb dX6_addWind_6 (by decide) (fun c1 => ?_) (fun c1 => ?_)
  · replace hf := if_t c1 hf
    exact cg_vret F hr hlk hG hf dX6_addWind_29
  · replace hf := if_f c1 hf
    refine lv_aload_n hx hb dX6_addWind_9 rfl (lv_at hl 0 rfl) ?_
    refine g_getR F hG (j + 1) hj.1 (by decide) (by decide) lk_X6_9 rfl dX6_addWind_10 ?_
    refine lv_aload_n hx hb dX6_addWind_13 rfl (lv_at hl 0 rfl) ?_
    refine g_getI F hG hj.1 (by decide) (by decide) lk_X6_34 rfl dX6_addWind_14 ?_
    refine lv_iload_n hx hb dX6_addWind_17 rfl (lv_at hl 1 rfl) ?_
    replace hf := ck_some hf
    obtain ⟨k2, hf⟩ := hf
    refine g_iast F hG hj.2.1 k2 dX6_addWind_18 (fun H locs hG => ?_)
    refine lv_aload_n hx hb dX6_addWind_19 rfl (lv_at hl 0 rfl) ?_
    refine lv_dup hx hb dX6_addWind_20 rfl ?_
    refine g_getI F hG hj.1 (by decide) (by decide) lk_X6_34 rfl dX6_addWind_21 ?_
    refine lv_iconst (v := 1) hx hb dX6_addWind_24 (by decide) ?_
    refine lv_iadd hx hb dX6_addWind_25 ?_
    refine g_putI F hG hj.1 (by decide) (by decide) lkv_X6_34 rfl rfl rfl dX6_addWind_26 (fun H locs hG => ?_)
    exact cg_vret F hr hlk hG hf dX6_addWind_29

def f_X6_windOn (n : Nat) (j : Nat) (x1 : Int32) (M : Mem) : Option (Int32 × Mem) := if (gi M j 7) ≤ 0 then (some ((2 : Int32), M)) else (bd (f_J9_floorMod_7cf53 n  x1 (gi M j 7) M) (fun q2 => ck (inb q2.1 8) (some ((gi q2.2 (j + 1) q2.1.toNatClampNeg), q2.2))))
set_option maxHeartbeats 4000000 in
set_option maxRecDepth 100000 in
theorem c_X6_windOn (l : Launch) (w : Wd) {Y : (Nat → Prop) → State → Heap → Prop} (hYk : XOK Y) (n : Nat) (j : Nat) (hj : isTw j) (x1 : Int32) (M : Mem) (res : Int32 × Mem) (hf : f_X6_windOn n j x1 M = some res) : CG l w layC 61 (XN Y) yX6_windOn cX6_windOn 2 (some .int) 1 [.ref (w.2.2.1 j), .int x1] M (GQi w layC 61 res) := by
  refine cg_start (by decide +kernel) (Nat.le_of_ble_eq_true rfl) ?_
  intro p e s m args below meth c F hr hlk hX hG ls hl
  have F : FX w p m c cX6_windOn 2 s args RX6 := F
  have hx := F.1.1
  have hb := F.1.2.1
  have hl : lv_has ls 2 [(0, .ref (w.2.2.1 j)), (1, .int x1)] := hl
  unfold f_X6_windOn at hf
  refine lv_aload_n hx hb dX6_windOn_0 rfl (lv_at hl 0 rfl) ?_
  refine g_getI F hG hj.1 (by decide) (by decide) lk_X6_34 rfl dX6_windOn_1 ?_
  refine lv_if_le (tgt := 23) hx hb dX6_windOn_4 (by decide) (fun c1 => ?_) (fun c1 => ?_)
  · replace hf := if_t c1 hf
    refine lv_iconst (v := 2) hx hb dX6_windOn_23 (by decide) ?_
    exact cg_iret F hr hlk hG hf dX6_windOn_24
  · replace hf := if_f c1 hf
    refine lv_aload_n hx hb dX6_windOn_7 rfl (lv_at hl 0 rfl) ?_
    refine g_getR F hG (j + 1) hj.1 (by decide) (by decide) lk_X6_9 rfl dX6_windOn_8 ?_
    refine lv_iload_n hx hb dX6_windOn_11 rfl (lv_at hl 1 rfl) ?_
    refine lv_aload_n hx hb dX6_windOn_12 rfl (lv_at hl 0 rfl) ?_
    refine g_getI F hG hj.1 (by decide) (by decide) lk_X6_34 rfl dX6_windOn_13 ?_
    replace hf := bd_some hf
    obtain ⟨q2, eq2, hf⟩ := hf
    refine gx_calli hG (gx_runS (xn_ok hYk) F hX hG (c_J9_floorMod_7cf53 l w hYk n  x1 (gi M j 7) _ _ eq2) cs_X6_49 ⟨Nat.le_of_ble_eq_true rfl, Nat.le_of_ble_eq_true rfl⟩ rfl hl.1 rfl (Nat.le_of_ble_eq_true rfl) dX6_windOn_16 ⟨Nat.le_refl _, Nat.le_refl _⟩) (fun H locs hG => ?_)
    replace hf := ck_some hf
    obtain ⟨k3, hf⟩ := hf
    refine g_iald F hG hj.2.1 k3 dX6_windOn_19 ?_
    refine lv_goto (tgt := 24) hx hb dX6_windOn_20 (by decide) ?_
    exact cg_iret F hr hlk hG hf dX6_windOn_24
