def f_X8_restore (n : Nat) (M : Mem) : Option (Int32 × Mem) := if (gi M 0 14) = 0 then (some ((0 : Int32), M)) else (bd (f_X4_copy n 4 22  M) (fun q2 => bd (f_X1_copy n 34 36  q2) (fun q3 => bd (f_X3_copy n 38 41  q3) (fun q4 => some ((1 : Int32), q4)))))
set_option maxHeartbeats 4000000 in
set_option maxRecDepth 100000 in
theorem c_X8_restore (l : Launch) (w : Wd)  (n : Nat) (M : Mem) (res : Int32 × Mem) (hf : f_X8_restore n   M = some res) : CG l w layC 61 (XN (YC w)) yX8_restore cX8_restore 1 (some .boolean) 2 [.ref (w.2.2.1 0)] M (GQi w layC 61 res) := by
  refine cg_start (by decide +kernel) (Nat.le_of_ble_eq_true rfl) ?_
  intro p e s m args below meth c F hr hlk hX hG ls hl
  have F : FX w p m c cX8_restore 1 s args RX8 := F
  have hx := F.1.1
  have hb := F.1.2.1
  have hl : lv_has ls 1 [(0, .ref (w.2.2.1 0))] := hl
  unfold f_X8_restore at hf
  refine lv_aload_n hx hb dX8_restore_0 rfl (lv_at hl 0 rfl) ?_
  refine g_getI F hG ct_0 (by decide) (by decide) lk_X8_74 rfl dX8_restore_1 ?_
  refine lv_if_ne (tgt := 9) hx hb dX8_restore_4 (by decide) (fun c1 => ?_) (fun c1 => ?_)
  · replace hf := if_f c1 hf
    refine lv_aload_n hx hb dX8_restore_9 rfl (lv_at hl 0 rfl) ?_
    refine g_getR F hG 4 ct_0 (by decide) (by decide) lk_X8_16 rfl dX8_restore_10 ?_
    refine lv_aload_n hx hb dX8_restore_13 rfl (lv_at hl 0 rfl) ?_
    refine g_getR F hG 22 ct_0 (by decide) (by decide) lk_X8_40 rfl dX8_restore_14 ?_
    replace hf := bd_some hf
    obtain ⟨q2, eq2, hf⟩ := hf
    refine gx_callv hG (gx_runV (xn_ok (yc_ok w)) F hX hG (c_X4_copy l w (yc_ok w) n 4 st_4 22 st_22  _ _ eq2) cv_X8_106 ⟨Nat.le_of_ble_eq_true rfl, Nat.le_of_ble_eq_true rfl⟩ (g_recv F hG st_4.1 (by decide) rfl) rfl hl.1 rfl (Nat.le_of_ble_eq_true rfl) dX8_restore_17 ⟨Nat.le_refl _, Nat.le_refl _⟩) (fun H locs hG => ?_)
    refine lv_aload_n hx hb dX8_restore_20 rfl (lv_at hl 0 rfl) ?_
    refine g_getR F hG 34 ct_0 (by decide) (by decide) lk_X8_29 rfl dX8_restore_21 ?_
    refine lv_aload_n hx hb dX8_restore_24 rfl (lv_at hl 0 rfl) ?_
    refine g_getR F hG 36 ct_0 (by decide) (by decide) lk_X8_43 rfl dX8_restore_25 ?_
    replace hf := bd_some hf
    obtain ⟨q3, eq3, hf⟩ := hf
    refine gx_callv hG (gx_runV (xn_ok (yc_ok w)) F hX hG (c_X1_copy l w (yc_ok w) n 34 ac_34 36 ac_36  _ _ eq3) cv_X8_346 ⟨Nat.le_of_ble_eq_true rfl, Nat.le_of_ble_eq_true rfl⟩ (g_recv F hG ac_34.1 (by decide) rfl) rfl hl.1 rfl (Nat.le_of_ble_eq_true rfl) dX8_restore_28 ⟨Nat.le_refl _, Nat.le_refl _⟩) (fun H locs hG => ?_)
    refine lv_aload_n hx hb dX8_restore_31 rfl (lv_at hl 0 rfl) ?_
    refine g_getR F hG 38 ct_0 (by decide) (by decide) lk_X8_36 rfl dX8_restore_32 ?_
    refine lv_aload_n hx hb dX8_restore_35 rfl (lv_at hl 0 rfl) ?_
    refine g_getR F hG 41 ct_0 (by decide) (by decide) lk_X8_46 rfl dX8_restore_36 ?_
    replace hf := bd_some hf
    obtain ⟨q4, eq4, hf⟩ := hf
    refine gx_callv hG (gx_runV (xn_ok (yc_ok w)) F hX hG (c_X3_copy l w (yc_ok w) n 38 sn_38 41 sn_41  _ _ eq4) cv_X8_349 ⟨Nat.le_of_ble_eq_true rfl, Nat.le_of_ble_eq_true rfl⟩ (g_recv F hG sn_38.1 (by decide) rfl) rfl hl.1 rfl (Nat.le_of_ble_eq_true rfl) dX8_restore_39 ⟨Nat.le_refl _, Nat.le_refl _⟩) (fun H locs hG => ?_)
    refine lv_iconst (v := 1) hx hb dX8_restore_42 (by decide) ?_
    exact cg_zret F hr hlk hG hf (Or.inr rfl) dX8_restore_43
  · replace hf := if_t c1 hf
    refine lv_iconst (v := 0) hx hb dX8_restore_7 (by decide) ?_
    exact cg_zret F hr hlk hG hf (Or.inl rfl) dX8_restore_8
