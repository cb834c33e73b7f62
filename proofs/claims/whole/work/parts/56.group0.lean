def j_X2_readPart_114 (n : Nat) (rec : Int32 → Int32 → Mem → Option (Int32 × Mem)) (M : Mem) : Option (Int32 × Mem) := bd (f_X2_step n   M) (fun q1 => some ((1 : Int32), q1))
def f_X2_readPart (n : Nat) (rec : Int32 → Int32 → Mem → Option (Int32 × Mem)) (x1 : Int32) (x2 : Int32) (M : Mem) : Option (Int32 × Mem) := bd (f_X2_isSign n  (40 : Int32) M) (fun q2 => if q2.1 = 0 then (if (gi q2.2 44 7) = (1 : Int32) then (ck ((gi q2.2 44 10).toNatClampNeg < 22) (bd (f_X7_isValueOf n ((gi q2.2 44 10).toNatClampNeg) x1 q2.2) (fun q6 => if q6.1 = 0 then (bd (f_X2_fail n  (3 : Int32) q6.2) (fun q8 => ck (q8.1 = 0 ∨ q8.1 = 1) (some (q8.1, q8.2)))) else (ck (isTwB ((gi q6.2 44 2).toNatClampNeg)) (ck ((gi q6.2 44 10).toNatClampNeg < 22) (bd (f_X6_write n ((gi q6.2 44 2).toNatClampNeg) x1 ((-1 : Int32) - (wVl.getD ((gi q6.2 44 10).toNatClampNeg) 0)) q6.2) (fun q12 => j_X2_readPart_114 n rec q12))))))) else (bd (f_X2_isNumber n  (0 : Int32) (9999 : Int32) q2.2) (fun q13 => if q13.1 = 0 then (some ((0 : Int32), q13.2)) else (ck (isTwB ((gi q13.2 44 2).toNatClampNeg)) (bd (f_X6_write n ((gi q13.2 44 2).toNatClampNeg) x1 (gi q13.2 44 8) q13.2) (fun q16 => j_X2_readPart_114 n rec q16)))))) else (bd (f_X2_step n   q2.2) (fun q17 => bd (rec x1 (x2 + (1 : Int32)) q17) (fun q18 => if q18.1 = 0 then (some ((0 : Int32), q18.2)) else (bd (f_X2_isSign n  (41 : Int32) q18.2) (fun q20 => if q20.1 = 0 then (bd (f_X2_fail n  (1 : Int32) q20.2) (fun q22 => ck (q22.1 = 0 ∨ q22.1 = 1) (some (q22.1, q22.2)))) else (j_X2_readPart_114 n rec q20.2)))))))
set_option maxHeartbeats 4000000 in
set_option maxRecDepth 100000 in
theorem c_X2_readPart (l : Launch) (w : Wd)  (n : Nat) (rec : Int32 → Int32 → Mem → Option (Int32 × Mem)) (D : Nat) (hD : 20 ≤ D) (hrec : ∀ (x1 x2 : Int32) (M : Mem) (res : Int32 × Mem), rec x1 x2 M = some res → CG l w layC 61 (XN (YC w)) yX2_readExpr cX2_readExpr 5 (some .boolean) D [.ref (w.2.2.1 44), .int x1, .int x2] M (GQi w layC 61 res)) (x1 : Int32) (x2 : Int32) (M : Mem) (res : Int32 × Mem) (hf : f_X2_readPart n rec x1 x2 M = some res) : CG l w layC 61 (XN (YC w)) yX2_readPart cX2_readPart 3 (some .boolean) (D + 1) [.ref (w.2.2.1 44), .int x1, .int x2] M (GQi w layC 61 res) := by
  refine cg_start (by decide +kernel) (Nat.le_of_ble_eq_true rfl) ?_
  intro p e s m args below meth c F hr hlk hX hG ls hl
  have F : FX w p m c cX2_readPart 3 s args RX2 := F
  obtain ⟨y1, y2, y3, y4, y5, y6, y7, y8, y9, y10, y11, y12⟩ := hX.2.2.2
  have hx := F.1.1
  have hb := F.1.2.1
  have hl : lv_has ls 3 [(0, .ref (w.2.2.1 44)), (1, .int x1), (2, .int x2)] := hl
  have hJ114 : ∀ (M : Mem) (H : Heap) (locs : List Loc) (ls : Array Slot), j_X2_readPart_114 n rec  M = some res → GI w layC 61 s.heap M H locs → lv_has ls 3 [(0, .ref (w.2.2.1 44))] → W p l e (Rm (D + 1)) s m args below meth c H locs 0 0 (MQ below (GQi w layC 61 res s.heap.size) args s 0 0 (gA w.2.2.1 61 s.heap.size)) (F0 m 114 ls []) := by
    intro  M H locs ls hf hG hl
    unfold j_X2_readPart_114 at hf
    refine lv_aload_n hx hb dX2_readPart_114 rfl (lv_at hl 0 rfl) ?_
    replace hf := bd_some hf
    obtain ⟨q1, eq1, hf⟩ := hf
    refine gx_callv hG (gx_runV (xn_ok (yc_ok w)) F hX hG (c_X2_step l w  n   _ _ eq1) cv_X2_84 (rm_ok (by omega) (by decide)) (g_recv F hG rd_44 (by decide) rfl) rfl hl.1 rfl (Nat.le_of_ble_eq_true rfl) dX2_readPart_115 ⟨Nat.le_refl _, Nat.le_refl _⟩) (fun H locs hG => ?_)
    refine lv_iconst (v := 1) hx hb dX2_readPart_118 (by decide) ?_
    exact cg_zret F hr hlk hG hf (Or.inr rfl) dX2_readPart_119
  unfold f_X2_readPart at hf
  refine lv_aload_n hx hb dX2_readPart_0 rfl (lv_at hl 0 rfl) ?_
  refine lv_bipush (v := 40) hx hb dX2_readPart_1 (by decide) ?_
  replace hf := bd_some hf
  obtain ⟨q2, eq2, hf⟩ := hf
  refine gx_calli hG (gx_runV (xn_ok (yc_ok w)) F hX hG (c_X2_isSign l w  n  (40 : Int32) _ _ eq2) cv_X2_189 (rm_ok (by omega) (by decide)) (g_recv F hG rd_44 (by decide) rfl) rfl hl.1 rfl (Nat.le_of_ble_eq_true rfl) dX2_readPart_3 ⟨Nat.le_refl _, Nat.le_refl _⟩) (fun H locs hG => ?_)
  refine lv_if_eq (tgt := 41) hx hb dX2_readPart_6 (by decide) (fun c3 => ?_) (fun c3 => ?_)
  · replace hf := if_t c3 hf
    refine lv_aload_n hx hb dX2_readPart_41 rfl (lv_at hl 0 rfl) ?_
    refine g_getI F hG rd_44 (by decide) (by decide) lk_X2_42 rfl dX2_readPart_42 ?_
    refine lv_iconst (v := 1) hx hb dX2_readPart_45 (by decide) ?_
    refine lv_icmp_ne (tgt := 86) hx hb dX2_readPart_46 (by decide) (fun c4 => ?_) (fun c4 => ?_)
    · replace hf := if_f c4 hf
      refine lv_aload_n hx hb dX2_readPart_86 rfl (lv_at hl 0 rfl) ?_
      refine lv_iconst (v := 0) hx hb dX2_readPart_87 (by decide) ?_
      refine lv_sipush (v := 9999) hx hb dX2_readPart_88 (by decide) ?_
      replace hf := bd_some hf
      obtain ⟨q13, eq13, hf⟩ := hf
      refine gx_calli hG (gx_runV (xn_ok (yc_ok w)) F hX hG (c_X2_isNumber l w  n  (0 : Int32) (9999 : Int32) _ _ eq13) cv_X2_149 (rm_ok (by omega) (by decide)) (g_recv F hG rd_44 (by decide) rfl) rfl hl.1 rfl (Nat.le_of_ble_eq_true rfl) dX2_readPart_91 ⟨Nat.le_refl _, Nat.le_refl _⟩) (fun H locs hG => ?_)
      refine lv_if_eq (tgt := 112) hx hb dX2_readPart_94 (by decide) (fun c14 => ?_) (fun c14 => ?_)
      · replace hf := if_t c14 hf
        refine lv_iconst (v := 0) hx hb dX2_readPart_112 (by decide) ?_
        exact cg_zret F hr hlk hG hf (Or.inl rfl) dX2_readPart_113
      · replace hf := if_f c14 hf
        refine lv_aload_n hx hb dX2_readPart_97 rfl (lv_at hl 0 rfl) ?_
        replace hf := ck_some hf
        obtain ⟨k15, hf⟩ := hf
        refine g_getM F hG rd_44 (by decide) (by decide) lk_X2_25 rfl dX2_readPart_98 ?_
        refine lv_iload_n hx hb dX2_readPart_101 rfl (lv_at hl 1 rfl) ?_
        refine lv_aload_n hx hb dX2_readPart_102 rfl (lv_at hl 0 rfl) ?_
        refine g_getI F hG rd_44 (by decide) (by decide) lk_X2_45 rfl dX2_readPart_103 ?_
        replace hf := bd_some hf
        obtain ⟨q16, eq16, hf⟩ := hf
        refine gx_callv hG (gx_runV (xn_ok (yc_ok w)) F hX hG (c_X6_write l w (yc_ok w) n ((gi q13.2 44 2).toNatClampNeg) (tw_of k15) x1 (gi q13.2 44 8) _ _ eq16) cv_X2_212 (rm_ok (by omega) (by decide)) (g_recv F hG (tw_of k15).1 (by decide) rfl) rfl hl.1 rfl (Nat.le_of_ble_eq_true rfl) dX2_readPart_106 ⟨Nat.le_refl _, Nat.le_refl _⟩) (fun H locs hG => ?_)
        refine lv_goto (tgt := 114) hx hb dX2_readPart_109 (by decide) ?_
        exact hJ114  _ _ _ ls hf hG (lv_sub hl [0] rfl)
    · replace hf := if_t c4 hf
      refine lv_aload_n hx hb dX2_readPart_49 rfl (lv_at hl 0 rfl) ?_
      refine g_getE F hG rd_44 (by decide) (by decide) lk_X2_58 rfl dX2_readPart_50 ?_
      replace hf := ck_some hf
      obtain ⟨k5, hf⟩ := hf
      refine lv_iload_n hx hb dX2_readPart_53 rfl (lv_at hl 1 rfl) ?_
      replace hf := bd_some hf
      obtain ⟨q6, eq6, hf⟩ := hf
      refine gx_calli hG (gx_runV (xn_ok (yc_ok w)) F hX hG (c_X7_isValueOf l w  n ((gi q2.2 44 10).toNatClampNeg) k5 x1 _ _ eq6) cv_X2_236 (rm_ok (by omega) (by decide)) (va_recvE (i := ((gi q2.2 44 10).toNatClampNeg)) y1 k5 hG.2.2) rfl hl.1 rfl (Nat.le_of_ble_eq_true rfl) dX2_readPart_54 ⟨Nat.le_refl _, Nat.le_refl _⟩) (fun H locs hG => ?_)
      refine lv_if_ne (tgt := 66) hx hb dX2_readPart_57 (by decide) (fun c7 => ?_) (fun c7 => ?_)
      · replace hf := if_f c7 hf
        refine lv_aload_n hx hb dX2_readPart_66 rfl (lv_at hl 0 rfl) ?_
        replace hf := ck_some hf
        obtain ⟨k10, hf⟩ := hf
        refine g_getM F hG rd_44 (by decide) (by decide) lk_X2_25 rfl dX2_readPart_67 ?_
        refine lv_iload_n hx hb dX2_readPart_70 rfl (lv_at hl 1 rfl) ?_
        refine lv_iconst (v := -1) hx hb dX2_readPart_71 (by decide) ?_
        refine lv_aload_n hx hb dX2_readPart_72 rfl (lv_at hl 0 rfl) ?_
        refine g_getE F hG rd_44 (by decide) (by decide) lk_X2_58 rfl dX2_readPart_73 ?_
        replace hf := ck_some hf
        obtain ⟨k11, hf⟩ := hf
        refine va_getE (q := ("CockTower$Word", "value", "I", wVl)) hx hb y1 k11 hG.2.2 F.1.2.2.2.1 (by decide) (F.1.2.2.2.2 _ m_1955) (fun _ h9 => h9) dX2_readPart_76 ?_
        refine lv_isub hx hb dX2_readPart_79 ?_
        replace hf := bd_some hf
        obtain ⟨q12, eq12, hf⟩ := hf
        refine gx_callv hG (gx_runV (xn_ok (yc_ok w)) F hX hG (c_X6_write l w (yc_ok w) n ((gi q6.2 44 2).toNatClampNeg) (tw_of k10) x1 ((-1 : Int32) - (wVl.getD ((gi q6.2 44 10).toNatClampNeg) 0)) _ _ eq12) cv_X2_212 (rm_ok (by omega) (by decide)) (g_recv F hG (tw_of k10).1 (by decide) rfl) rfl hl.1 rfl (Nat.le_of_ble_eq_true rfl) dX2_readPart_80 ⟨Nat.le_refl _, Nat.le_refl _⟩) (fun H locs hG => ?_)
        refine lv_goto (tgt := 114) hx hb dX2_readPart_83 (by decide) ?_
        exact hJ114  _ _ _ ls hf hG (lv_sub hl [0] rfl)
      · replace hf := if_t c7 hf
        refine lv_aload_n hx hb dX2_readPart_60 rfl (lv_at hl 0 rfl) ?_
        refine lv_iconst (v := 3) hx hb dX2_readPart_61 (by decide) ?_
        replace hf := bd_some hf
        obtain ⟨q8, eq8, hf⟩ := hf
        refine gx_calli hG (gx_runV (xn_ok (yc_ok w)) F hX hG (c_X2_fail l w  n  (3 : Int32) _ _ eq8) cv_X2_111 (rm_ok (by omega) (by decide)) (g_recv F hG rd_44 (by decide) rfl) rfl hl.1 rfl (Nat.le_of_ble_eq_true rfl) dX2_readPart_62 ⟨Nat.le_refl _, Nat.le_refl _⟩) (fun H locs hG => ?_)
        replace hf := ck_some hf
        obtain ⟨k9, hf⟩ := hf
        exact cg_zret F hr hlk hG hf k9 dX2_readPart_65
  · replace hf := if_f c3 hf
    refine lv_aload_n hx hb dX2_readPart_9 rfl (lv_at hl 0 rfl) ?_
    replace hf := bd_some hf
    obtain ⟨q17, eq17, hf⟩ := hf
    refine gx_callv hG (gx_runV (xn_ok (yc_ok w)) F hX hG (c_X2_step l w  n   _ _ eq17) cv_X2_84 (rm_ok (by omega) (by decide)) (g_recv F hG rd_44 (by decide) rfl) rfl hl.1 rfl (Nat.le_of_ble_eq_true rfl) dX2_readPart_10 ⟨Nat.le_refl _, Nat.le_refl _⟩) (fun H locs hG => ?_)
    refine lv_aload_n hx hb dX2_readPart_13 rfl (lv_at hl 0 rfl) ?_
    refine lv_iload_n hx hb dX2_readPart_14 rfl (lv_at hl 1 rfl) ?_
    refine lv_iload_n hx hb dX2_readPart_15 rfl (lv_at hl 2 rfl) ?_
    refine lv_iconst (v := 1) hx hb dX2_readPart_16 (by decide) ?_
    refine lv_iadd hx hb dX2_readPart_17 ?_
    replace hf := bd_some hf
    obtain ⟨q18, eq18, hf⟩ := hf
    refine gx_calli hG (gx_runV (xn_ok (yc_ok w)) F hX hG (hrec _ _ _ _ eq18) cv_X2_199 (rm_ok (by omega) (by decide)) (g_recv F hG rd_44 (by decide) rfl) rfl hl.1 rfl (Nat.le_of_ble_eq_true rfl) dX2_readPart_18 ⟨Nat.le_refl _, Nat.le_refl _⟩) (fun H locs hG => ?_)
    refine lv_if_ne (tgt := 26) hx hb dX2_readPart_21 (by decide) (fun c19 => ?_) (fun c19 => ?_)
    · replace hf := if_f c19 hf
      refine lv_aload_n hx hb dX2_readPart_26 rfl (lv_at hl 0 rfl) ?_
      refine lv_bipush (v := 41) hx hb dX2_readPart_27 (by decide) ?_
      replace hf := bd_some hf
      obtain ⟨q20, eq20, hf⟩ := hf
      refine gx_calli hG (gx_runV (xn_ok (yc_ok w)) F hX hG (c_X2_isSign l w  n  (41 : Int32) _ _ eq20) cv_X2_189 (rm_ok (by omega) (by decide)) (g_recv F hG rd_44 (by decide) rfl) rfl hl.1 rfl (Nat.le_of_ble_eq_true rfl) dX2_readPart_29 ⟨Nat.le_refl _, Nat.le_refl _⟩) (fun H locs hG => ?_)
      refine lv_if_ne (tgt := 114) hx hb dX2_readPart_32 (by decide) (fun c21 => ?_) (fun c21 => ?_)
      · replace hf := if_f c21 hf
        exact hJ114  _ _ _ ls hf hG (lv_sub hl [0] rfl)
      · replace hf := if_t c21 hf
        refine lv_aload_n hx hb dX2_readPart_35 rfl (lv_at hl 0 rfl) ?_
        refine lv_iconst (v := 1) hx hb dX2_readPart_36 (by decide) ?_
        replace hf := bd_some hf
        obtain ⟨q22, eq22, hf⟩ := hf
        refine gx_calli hG (gx_runV (xn_ok (yc_ok w)) F hX hG (c_X2_fail l w  n  (1 : Int32) _ _ eq22) cv_X2_111 (rm_ok (by omega) (by decide)) (g_recv F hG rd_44 (by decide) rfl) rfl hl.1 rfl (Nat.le_of_ble_eq_true rfl) dX2_readPart_37 ⟨Nat.le_refl _, Nat.le_refl _⟩) (fun H locs hG => ?_)
        replace hf := ck_some hf
        obtain ⟨k23, hf⟩ := hf
        exact cg_zret F hr hlk hG hf k23 dX2_readPart_40
    · replace hf := if_t c19 hf
      refine lv_iconst (v := 0) hx hb dX2_readPart_24 (by decide) ?_
      exact cg_zret F hr hlk hG hf (Or.inl rfl) dX2_readPart_25

def j_X2_readProduct_56 (n : Nat) (rec : Int32 → Int32 → Mem → Option (Int32 × Mem)) (t0 : Int32) (x1 : Int32) (x2 : Int32) (x4 : Int32) (M : Mem) : Option ((Int32 × Int32 × Mem) ⊕ (Int32 × Mem)) := bd (f_X2_step n   M) (fun q1 => bd (f_X2_readPart n rec x1 x2 q1) (fun q2 => ck (isTwB ((gi q2.2 44 2).toNatClampNeg)) (bd (f_X6_write n ((gi q2.2 44 2).toNatClampNeg) x1 t0 q2.2) (fun q4 => some (.inl (q2.1, (x4 + (1 : Int32)), q4))))))
def j_X2_readProduct_40 (n : Nat) (rec : Int32 → Int32 → Mem → Option (Int32 × Mem)) (x1 : Int32) (x2 : Int32) (x4 : Int32) (M : Mem) : Option ((Int32 × Int32 × Mem) ⊕ (Int32 × Mem)) := if (gi M 44 9) = (42 : Int32) then (j_X2_readProduct_56 n rec (-17 : Int32) x1 x2 x4 M) else (j_X2_readProduct_56 n rec (-18 : Int32) x1 x2 x4 M)
def b_X2_readProduct_10 (n : Nat) (rec : Int32 → Int32 → Mem → Option (Int32 × Mem)) (x1 : Int32) (x2 : Int32) (q : (Int32 × Int32 × Mem)) : Option ((Int32 × Int32 × Mem) ⊕ (Int32 × Mem)) := match q with
  | (x3, x4, M) => if (700 : Int32) ≤ x4 then (ck (x3 = 0 ∨ x3 = 1) (mr (some (x3, M)))) else (if x3 = 0 then (ck (x3 = 0 ∨ x3 = 1) (mr (some (x3, M)))) else (bd (f_X2_isSign n  (42 : Int32) M) (fun q10 => if q10.1 = 0 then (bd (f_X2_isSign n  (47 : Int32) q10.2) (fun q12 => if q12.1 = 0 then (ck (x3 = 0 ∨ x3 = 1) (mr (some (x3, q12.2)))) else (j_X2_readProduct_40 n rec x1 x2 x4 q12.2))) else (j_X2_readProduct_40 n rec x1 x2 x4 q10.2))))
def f_X2_readProduct (n : Nat) (rec : Int32 → Int32 → Mem → Option (Int32 × Mem)) (x1 : Int32) (x2 : Int32) (M : Mem) : Option (Int32 × Mem) := bd (f_X2_readPart n rec x1 x2 M) (fun q15 => gl (b_X2_readProduct_10 n rec x1 x2) n (q15.1, (0 : Int32), q15.2))
set_option maxHeartbeats 4000000 in
set_option maxRecDepth 100000 in
theorem c_X2_readProduct (l : Launch) (w : Wd)  (n : Nat) (rec : Int32 → Int32 → Mem → Option (Int32 × Mem)) (D : Nat) (hD : 20 ≤ D) (hrec : ∀ (x1 x2 : Int32) (M : Mem) (res : Int32 × Mem), rec x1 x2 M = some res → CG l w layC 61 (XN (YC w)) yX2_readExpr cX2_readExpr 5 (some .boolean) D [.ref (w.2.2.1 44), .int x1, .int x2] M (GQi w layC 61 res)) (x1 : Int32) (x2 : Int32) (M : Mem) (res : Int32 × Mem) (hf : f_X2_readProduct n rec x1 x2 M = some res) : CG l w layC 61 (XN (YC w)) yX2_readProduct cX2_readProduct 6 (some .boolean) (D + 2) [.ref (w.2.2.1 44), .int x1, .int x2] M (GQi w layC 61 res) := by
  refine cg_start (by decide +kernel) (Nat.le_of_ble_eq_true rfl) ?_
  intro p e s m args below meth c F hr hlk hX hG ls hl
  have F : FX w p m c cX2_readProduct 6 s args RX2 := F
  have hx := F.1.1
  have hb := F.1.2.1
  have hl : lv_has ls 6 [(0, .ref (w.2.2.1 44)), (1, .int x1), (2, .int x2)] := hl
  have hJ10 : ∀ (x1 : Int32) (x2 : Int32) (x3 : Int32) (x4 : Int32) (M : Mem) (H : Heap) (locs : List Loc) (ls : Array Slot), gl (b_X2_readProduct_10 n rec x1 x2) n (x3, x4, M) = some res → GI w layC 61 s.heap M H locs → lv_has ls 6 [(0, .ref (w.2.2.1 44)), (1, .int x1), (2, .int x2), (3, .int x3), (4, .int x4)] → W p l e (Rm (D + 2)) s m args below meth c H locs 0 0 (MQ below (GQi w layC 61 res s.heap.size) args s 0 0 (gA w.2.2.1 61 s.heap.size)) (F0 m 10 ls []) := by
    intro x1 x2 x3 x4 M H locs ls hf hG hl
    refine gl_run (P := fun (q : (Int32 × Int32 × Mem)) => ∀ (H : Heap) (locs : List Loc) (ls : Array Slot), GI w layC 61 s.heap q.2.2 H locs → lv_has ls 6 [(0, .ref (w.2.2.1 44)), (1, .int x1), (2, .int x2), (3, .int q.1), (4, .int q.2.1)] → W p l e (Rm (D + 2)) s m args below meth c H locs 0 0 (MQ below (GQi w layC 61 res s.heap.size) args s 0 0 (gA w.2.2.1 61 s.heap.size)) (F0 m 10 ls [])) ?_ n (x3, x4, M) hf H locs ls hG hl
    clear hf hG hl ls locs H M x3 x4
    rintro ⟨x3, x4, M⟩ rr10 hf hI10 hE10 H locs ls hG hl
    try dsimp only at hG hl ⊢
    have hJ56 : ∀ (t0 : Int32) (x4 : Int32) (M : Mem) (H : Heap) (locs : List Loc) (ls : Array Slot), j_X2_readProduct_56 n rec t0 x1 x2 x4 M = some rr10 → GI w layC 61 s.heap M H locs → lv_has ls 6 [(0, .ref (w.2.2.1 44)), (1, .int x1), (2, .int x2), (4, .int x4)] → W p l e (Rm (D + 2)) s m args below meth c H locs 0 0 (MQ below (GQi w layC 61 res s.heap.size) args s 0 0 (gA w.2.2.1 61 s.heap.size)) (F0 m 56 ls [.int t0]) := by
      intro t0 x4 M H locs ls hf hG hl
      unfold j_X2_readProduct_56 at hf
      refine lv_istore (lv' := [(5, .int t0), (0, .ref (w.2.2.1 44)), (1, .int x1), (2, .int x2), (4, .int x4)]) hx hb dX2_readProduct_56 hl (by decide) rfl (fun ls hl => ?_)
      refine lv_aload_n hx hb dX2_readProduct_58 rfl (lv_at hl 1 rfl) ?_
      replace hf := bd_some hf
      obtain ⟨q1, eq1, hf⟩ := hf
      refine gx_callv hG (gx_runV (xn_ok (yc_ok w)) F hX hG (c_X2_step l w  n   _ _ eq1) cv_X2_84 (rm_ok (by omega) (by decide)) (g_recv F hG rd_44 (by decide) rfl) rfl hl.1 rfl (Nat.le_of_ble_eq_true rfl) dX2_readProduct_59 ⟨Nat.le_refl _, Nat.le_refl _⟩) (fun H locs hG => ?_)
      refine lv_aload_n hx hb dX2_readProduct_62 rfl (lv_at hl 1 rfl) ?_
      refine lv_iload_n hx hb dX2_readProduct_63 rfl (lv_at hl 2 rfl) ?_
      refine lv_iload_n hx hb dX2_readProduct_64 rfl (lv_at hl 3 rfl) ?_
      replace hf := bd_some hf
      obtain ⟨q2, eq2, hf⟩ := hf
      refine gx_calli hG (gx_runV (xn_ok (yc_ok w)) F hX hG (c_X2_readPart l w n rec D hD hrec x1 x2 _ _ eq2) cv_X2_233 (rm_ok (by omega) (by decide)) (g_recv F hG rd_44 (by decide) rfl) rfl hl.1 rfl (Nat.le_of_ble_eq_true rfl) dX2_readProduct_65 ⟨Nat.le_refl _, Nat.le_refl _⟩) (fun H locs hG => ?_)
      refine lv_istore_n (lv' := [(3, .int q2.1), (5, .int t0), (0, .ref (w.2.2.1 44)), (1, .int x1), (2, .int x2), (4, .int x4)]) hx hb dX2_readProduct_68 rfl hl (by decide) rfl (fun ls hl => ?_)
      refine lv_aload_n hx hb dX2_readProduct_69 rfl (lv_at hl 2 rfl) ?_
      replace hf := ck_some hf
      obtain ⟨k3, hf⟩ := hf
      refine g_getM F hG rd_44 (by decide) (by decide) lk_X2_25 rfl dX2_readProduct_70 ?_
      refine lv_iload_n hx hb dX2_readProduct_73 rfl (lv_at hl 3 rfl) ?_
      refine lv_iload hx hb dX2_readProduct_74 (lv_at hl 1 rfl) ?_
      replace hf := bd_some hf
      obtain ⟨q4, eq4, hf⟩ := hf
      refine gx_callv hG (gx_runV (xn_ok (yc_ok w)) F hX hG (c_X6_write l w (yc_ok w) n ((gi q2.2 44 2).toNatClampNeg) (tw_of k3) x1 t0 _ _ eq4) cv_X2_212 (rm_ok (by omega) (by decide)) (g_recv F hG (tw_of k3).1 (by decide) rfl) rfl hl.1 rfl (Nat.le_of_ble_eq_true rfl) dX2_readProduct_76 ⟨Nat.le_refl _, Nat.le_refl _⟩) (fun H locs hG => ?_)
      refine lv_iinc (v := (x4 + (1 : Int32))) (lv' := [(4, .int (x4 + (1 : Int32))), (3, .int q2.1), (5, .int t0), (0, .ref (w.2.2.1 44)), (1, .int x1), (2, .int x2)]) hx hb dX2_readProduct_79 hl (k := 5) rfl rfl (by decide) rfl (fun ls hl => ?_)
      refine lv_goto (tgt := 10) hx hb dX2_readProduct_82 (by decide) ?_
      exact hI10 _ (Option.some.inj hf).symm _ _ ls hG (lv_sub hl [3, 4, 5, 1, 0] rfl)
    have hJ40 : ∀ (x4 : Int32) (M : Mem) (H : Heap) (locs : List Loc) (ls : Array Slot), j_X2_readProduct_40 n rec x1 x2 x4 M = some rr10 → GI w layC 61 s.heap M H locs → lv_has ls 6 [(0, .ref (w.2.2.1 44)), (1, .int x1), (2, .int x2), (4, .int x4)] → W p l e (Rm (D + 2)) s m args below meth c H locs 0 0 (MQ below (GQi w layC 61 res s.heap.size) args s 0 0 (gA w.2.2.1 61 s.heap.size)) (F0 m 40 ls []) := by
      intro x4 M H locs ls hf hG hl
      unfold j_X2_readProduct_40 at hf
      refine lv_aload_n hx hb dX2_readProduct_40 rfl (lv_at hl 0 rfl) ?_
      refine g_getI F hG rd_44 (by decide) (by decide) lk_X2_48 rfl dX2_readProduct_41 ?_
      refine lv_bipush (v := 42) hx hb dX2_readProduct_44 (by decide) ?_
      refine lv_icmp_ne (tgt := 54) hx hb dX2_readProduct_46 (by decide) (fun c5 => ?_) (fun c5 => ?_)
      · replace hf := if_f c5 hf
        refine lv_bipush (v := -18) hx hb dX2_readProduct_54 (by decide) ?_
        exact hJ56 _ _ _ _ _ ls hf hG (lv_sub hl [0, 1, 2, 3] rfl)
      · replace hf := if_t c5 hf
        refine lv_bipush (v := -17) hx hb dX2_readProduct_49 (by decide) ?_
        refine lv_goto (tgt := 56) hx hb dX2_readProduct_51 (by decide) ?_
        exact hJ56 _ _ _ _ _ ls hf hG (lv_sub hl [0, 1, 2, 3] rfl)
    dsimp only [b_X2_readProduct_10] at hf
    refine lv_iload hx hb dX2_readProduct_10 (lv_at hl 4 rfl) ?_
    refine lv_sipush (v := 700) hx hb dX2_readProduct_12 (by decide) ?_
    refine lv_icmp_ge (tgt := 85) hx hb dX2_readProduct_15 (by decide) (fun c6 => ?_) (fun c6 => ?_)
    · replace hf := if_t c6 hf
      refine lv_iload_n hx hb dX2_readProduct_85 rfl (lv_at hl 3 rfl) ?_
      replace hf := ck_some hf
      obtain ⟨k7, hf⟩ := hf
      replace hf := mr_some hf
      obtain ⟨z10, hf, hz⟩ := hf
      rw [hE10 _ hz] at hf
      exact cg_zret F hr hlk hG hf k7 dX2_readProduct_86
    · replace hf := if_f c6 hf
      refine lv_iload_n hx hb dX2_readProduct_18 rfl (lv_at hl 3 rfl) ?_
      refine lv_if_eq (tgt := 85) hx hb dX2_readProduct_19 (by decide) (fun c8 => ?_) (fun c8 => ?_)
      · replace hf := if_t c8 hf
        refine lv_iload_n hx hb dX2_readProduct_85 rfl (lv_at hl 3 rfl) ?_
        replace hf := ck_some hf
        obtain ⟨k9, hf⟩ := hf
        replace hf := mr_some hf
        obtain ⟨z10, hf, hz⟩ := hf
        rw [hE10 _ hz] at hf
        exact cg_zret F hr hlk hG hf k9 dX2_readProduct_86
      · replace hf := if_f c8 hf
        refine lv_aload_n hx hb dX2_readProduct_22 rfl (lv_at hl 0 rfl) ?_
        refine lv_bipush (v := 42) hx hb dX2_readProduct_23 (by decide) ?_
        replace hf := bd_some hf
        obtain ⟨q10, eq10, hf⟩ := hf
        refine gx_calli hG (gx_runV (xn_ok (yc_ok w)) F hX hG (c_X2_isSign l w  n  (42 : Int32) _ _ eq10) cv_X2_189 (rm_ok (by omega) (by decide)) (g_recv F hG rd_44 (by decide) rfl) rfl hl.1 rfl (Nat.le_of_ble_eq_true rfl) dX2_readProduct_25 ⟨Nat.le_refl _, Nat.le_refl _⟩) (fun H locs hG => ?_)
        refine lv_if_ne (tgt := 40) hx hb dX2_readProduct_28 (by decide) (fun c11 => ?_) (fun c11 => ?_)
        · replace hf := if_f c11 hf
          exact hJ40 _ _ _ _ ls hf hG (lv_sub hl [0, 1, 2, 4] rfl)
        · replace hf := if_t c11 hf
          refine lv_aload_n hx hb dX2_readProduct_31 rfl (lv_at hl 0 rfl) ?_
          refine lv_bipush (v := 47) hx hb dX2_readProduct_32 (by decide) ?_
          replace hf := bd_some hf
          obtain ⟨q12, eq12, hf⟩ := hf
          refine gx_calli hG (gx_runV (xn_ok (yc_ok w)) F hX hG (c_X2_isSign l w  n  (47 : Int32) _ _ eq12) cv_X2_189 (rm_ok (by omega) (by decide)) (g_recv F hG rd_44 (by decide) rfl) rfl hl.1 rfl (Nat.le_of_ble_eq_true rfl) dX2_readProduct_34 ⟨Nat.le_refl _, Nat.le_refl _⟩) (fun H locs hG => ?_)
          refine lv_if_eq (tgt := 85) hx hb dX2_readProduct_37 (by decide) (fun c13 => ?_) (fun c13 => ?_)
          · replace hf := if_t c13 hf
            refine lv_iload_n hx hb dX2_readProduct_85 rfl (lv_at hl 3 rfl) ?_
            replace hf := ck_some hf
            obtain ⟨k14, hf⟩ := hf
            replace hf := mr_some hf
            obtain ⟨z10, hf, hz⟩ := hf
            rw [hE10 _ hz] at hf
            exact cg_zret F hr hlk hG hf k14 dX2_readProduct_86
          · replace hf := if_f c13 hf
            exact hJ40 _ _ _ _ ls hf hG (lv_sub hl [0, 1, 2, 4] rfl)
  unfold f_X2_readProduct at hf
  refine lv_aload_n hx hb dX2_readProduct_0 rfl (lv_at hl 0 rfl) ?_
  refine lv_iload_n hx hb dX2_readProduct_1 rfl (lv_at hl 1 rfl) ?_
  refine lv_iload_n hx hb dX2_readProduct_2 rfl (lv_at hl 2 rfl) ?_
  replace hf := bd_some hf
  obtain ⟨q15, eq15, hf⟩ := hf
  refine gx_calli hG (gx_runV (xn_ok (yc_ok w)) F hX hG (c_X2_readPart l w n rec D hD hrec x1 x2 _ _ eq15) cv_X2_233 (rm_ok (by omega) (by decide)) (g_recv F hG rd_44 (by decide) rfl) rfl hl.1 rfl (Nat.le_of_ble_eq_true rfl) dX2_readProduct_3 ⟨Nat.le_refl _, Nat.le_refl _⟩) (fun H locs hG => ?_)
  refine lv_istore_n (lv' := [(3, .int q15.1), (0, .ref (w.2.2.1 44)), (1, .int x1), (2, .int x2)]) hx hb dX2_readProduct_6 rfl hl (by decide) rfl (fun ls hl => ?_)
  refine lv_iconst (v := 0) hx hb dX2_readProduct_7 (by decide) ?_
  refine lv_istore (lv' := [(4, .int (0 : Int32)), (3, .int q15.1), (0, .ref (w.2.2.1 44)), (1, .int x1), (2, .int x2)]) hx hb dX2_readProduct_8 hl (by decide) rfl (fun ls hl => ?_)
  exact hJ10 _ _ _ _ _ _ _ ls hf hG (lv_sub hl [2, 3, 4, 1, 0] rfl)

def j_X2_readSum_56 (n : Nat) (rec : Int32 → Int32 → Mem → Option (Int32 × Mem)) (t0 : Int32) (x1 : Int32) (x2 : Int32) (x4 : Int32) (M : Mem) : Option ((Int32 × Int32 × Mem) ⊕ (Int32 × Mem)) := bd (f_X2_step n   M) (fun q1 => bd (f_X2_readProduct n rec x1 x2 q1) (fun q2 => ck (isTwB ((gi q2.2 44 2).toNatClampNeg)) (bd (f_X6_write n ((gi q2.2 44 2).toNatClampNeg) x1 t0 q2.2) (fun q4 => some (.inl (q2.1, (x4 + (1 : Int32)), q4))))))
def j_X2_readSum_40 (n : Nat) (rec : Int32 → Int32 → Mem → Option (Int32 × Mem)) (x1 : Int32) (x2 : Int32) (x4 : Int32) (M : Mem) : Option ((Int32 × Int32 × Mem) ⊕ (Int32 × Mem)) := if (gi M 44 9) = (43 : Int32) then (j_X2_readSum_56 n rec (-15 : Int32) x1 x2 x4 M) else (j_X2_readSum_56 n rec (-16 : Int32) x1 x2 x4 M)
def b_X2_readSum_10 (n : Nat) (rec : Int32 → Int32 → Mem → Option (Int32 × Mem)) (x1 : Int32) (x2 : Int32) (q : (Int32 × Int32 × Mem)) : Option ((Int32 × Int32 × Mem) ⊕ (Int32 × Mem)) := match q with
  | (x3, x4, M) => if (700 : Int32) ≤ x4 then (ck (x3 = 0 ∨ x3 = 1) (mr (some (x3, M)))) else (if x3 = 0 then (ck (x3 = 0 ∨ x3 = 1) (mr (some (x3, M)))) else (bd (f_X2_isSign n  (43 : Int32) M) (fun q10 => if q10.1 = 0 then (bd (f_X2_isSign n  (45 : Int32) q10.2) (fun q12 => if q12.1 = 0 then (ck (x3 = 0 ∨ x3 = 1) (mr (some (x3, q12.2)))) else (j_X2_readSum_40 n rec x1 x2 x4 q12.2))) else (j_X2_readSum_40 n rec x1 x2 x4 q10.2))))
def f_X2_readSum (n : Nat) (rec : Int32 → Int32 → Mem → Option (Int32 × Mem)) (x1 : Int32) (x2 : Int32) (M : Mem) : Option (Int32 × Mem) := bd (f_X2_readProduct n rec x1 x2 M) (fun q15 => gl (b_X2_readSum_10 n rec x1 x2) n (q15.1, (0 : Int32), q15.2))
set_option maxHeartbeats 4000000 in
set_option maxRecDepth 100000 in
theorem c_X2_readSum (l : Launch) (w : Wd)  (n : Nat) (rec : Int32 → Int32 → Mem → Option (Int32 × Mem)) (D : Nat) (hD : 20 ≤ D) (hrec : ∀ (x1 x2 : Int32) (M : Mem) (res : Int32 × Mem), rec x1 x2 M = some res → CG l w layC 61 (XN (YC w)) yX2_readExpr cX2_readExpr 5 (some .boolean) D [.ref (w.2.2.1 44), .int x1, .int x2] M (GQi w layC 61 res)) (x1 : Int32) (x2 : Int32) (M : Mem) (res : Int32 × Mem) (hf : f_X2_readSum n rec x1 x2 M = some res) : CG l w layC 61 (XN (YC w)) yX2_readSum cX2_readSum 6 (some .boolean) (D + 3) [.ref (w.2.2.1 44), .int x1, .int x2] M (GQi w layC 61 res) := by
  refine cg_start (by decide +kernel) (Nat.le_of_ble_eq_true rfl) ?_
  intro p e s m args below meth c F hr hlk hX hG ls hl
  have F : FX w p m c cX2_readSum 6 s args RX2 := F
  have hx := F.1.1
  have hb := F.1.2.1
  have hl : lv_has ls 6 [(0, .ref (w.2.2.1 44)), (1, .int x1), (2, .int x2)] := hl
  have hJ10 : ∀ (x1 : Int32) (x2 : Int32) (x3 : Int32) (x4 : Int32) (M : Mem) (H : Heap) (locs : List Loc) (ls : Array Slot), gl (b_X2_readSum_10 n rec x1 x2) n (x3, x4, M) = some res → GI w layC 61 s.heap M H locs → lv_has ls 6 [(0, .ref (w.2.2.1 44)), (1, .int x1), (2, .int x2), (3, .int x3), (4, .int x4)] → W p l e (Rm (D + 3)) s m args below meth c H locs 0 0 (MQ below (GQi w layC 61 res s.heap.size) args s 0 0 (gA w.2.2.1 61 s.heap.size)) (F0 m 10 ls []) := by
    intro x1 x2 x3 x4 M H locs ls hf hG hl
    refine gl_run (P := fun (q : (Int32 × Int32 × Mem)) => ∀ (H : Heap) (locs : List Loc) (ls : Array Slot), GI w layC 61 s.heap q.2.2 H locs → lv_has ls 6 [(0, .ref (w.2.2.1 44)), (1, .int x1), (2, .int x2), (3, .int q.1), (4, .int q.2.1)] → W p l e (Rm (D + 3)) s m args below meth c H locs 0 0 (MQ below (GQi w layC 61 res s.heap.size) args s 0 0 (gA w.2.2.1 61 s.heap.size)) (F0 m 10 ls [])) ?_ n (x3, x4, M) hf H locs ls hG hl
    clear hf hG hl ls locs H M x3 x4
    rintro ⟨x3, x4, M⟩ rr10 hf hI10 hE10 H locs ls hG hl
    try dsimp only at hG hl ⊢
    have hJ56 : ∀ (t0 : Int32) (x4 : Int32) (M : Mem) (H : Heap) (locs : List Loc) (ls : Array Slot), j_X2_readSum_56 n rec t0 x1 x2 x4 M = some rr10 → GI w layC 61 s.heap M H locs → lv_has ls 6 [(0, .ref (w.2.2.1 44)), (1, .int x1), (2, .int x2), (4, .int x4)] → W p l e (Rm (D + 3)) s m args below meth c H locs 0 0 (MQ below (GQi w layC 61 res s.heap.size) args s 0 0 (gA w.2.2.1 61 s.heap.size)) (F0 m 56 ls [.int t0]) := by
      intro t0 x4 M H locs ls hf hG hl
      unfold j_X2_readSum_56 at hf
      refine lv_istore (lv' := [(5, .int t0), (0, .ref (w.2.2.1 44)), (1, .int x1), (2, .int x2), (4, .int x4)]) hx hb dX2_readSum_56 hl (by decide) rfl (fun ls hl => ?_)
      refine lv_aload_n hx hb dX2_readSum_58 rfl (lv_at hl 1 rfl) ?_
      replace hf := bd_some hf
      obtain ⟨q1, eq1, hf⟩ := hf
      refine gx_callv hG (gx_runV (xn_ok (yc_ok w)) F hX hG (c_X2_step l w  n   _ _ eq1) cv_X2_84 (rm_ok (by omega) (by decide)) (g_recv F hG rd_44 (by decide) rfl) rfl hl.1 rfl (Nat.le_of_ble_eq_true rfl) dX2_readSum_59 ⟨Nat.le_refl _, Nat.le_refl _⟩) (fun H locs hG => ?_)
      refine lv_aload_n hx hb dX2_readSum_62 rfl (lv_at hl 1 rfl) ?_
      refine lv_iload_n hx hb dX2_readSum_63 rfl (lv_at hl 2 rfl) ?_
      refine lv_iload_n hx hb dX2_readSum_64 rfl (lv_at hl 3 rfl) ?_
      replace hf := bd_some hf
      obtain ⟨q2, eq2, hf⟩ := hf
      refine gx_calli hG (gx_runV (xn_ok (yc_ok w)) F hX hG (c_X2_readProduct l w n rec D hD hrec x1 x2 _ _ eq2) cv_X2_230 (rm_ok (by omega) (by decide)) (g_recv F hG rd_44 (by decide) rfl) rfl hl.1 rfl (Nat.le_of_ble_eq_true rfl) dX2_readSum_65 ⟨Nat.le_refl _, Nat.le_refl _⟩) (fun H locs hG => ?_)
      refine lv_istore_n (lv' := [(3, .int q2.1), (5, .int t0), (0, .ref (w.2.2.1 44)), (1, .int x1), (2, .int x2), (4, .int x4)]) hx hb dX2_readSum_68 rfl hl (by decide) rfl (fun ls hl => ?_)
      refine lv_aload_n hx hb dX2_readSum_69 rfl (lv_at hl 2 rfl) ?_
      replace hf := ck_some hf
      obtain ⟨k3, hf⟩ := hf
      refine g_getM F hG rd_44 (by decide) (by decide) lk_X2_25 rfl dX2_readSum_70 ?_
      refine lv_iload_n hx hb dX2_readSum_73 rfl (lv_at hl 3 rfl) ?_
      refine lv_iload hx hb dX2_readSum_74 (lv_at hl 1 rfl) ?_
      replace hf := bd_some hf
      obtain ⟨q4, eq4, hf⟩ := hf
      refine gx_callv hG (gx_runV (xn_ok (yc_ok w)) F hX hG (c_X6_write l w (yc_ok w) n ((gi q2.2 44 2).toNatClampNeg) (tw_of k3) x1 t0 _ _ eq4) cv_X2_212 (rm_ok (by omega) (by decide)) (g_recv F hG (tw_of k3).1 (by decide) rfl) rfl hl.1 rfl (Nat.le_of_ble_eq_true rfl) dX2_readSum_76 ⟨Nat.le_refl _, Nat.le_refl _⟩) (fun H locs hG => ?_)
      refine lv_iinc (v := (x4 + (1 : Int32))) (lv' := [(4, .int (x4 + (1 : Int32))), (3, .int q2.1), (5, .int t0), (0, .ref (w.2.2.1 44)), (1, .int x1), (2, .int x2)]) hx hb dX2_readSum_79 hl (k := 5) rfl rfl (by decide) rfl (fun ls hl => ?_)
      refine lv_goto (tgt := 10) hx hb dX2_readSum_82 (by decide) ?_
      exact hI10 _ (Option.some.inj hf).symm _ _ ls hG (lv_sub hl [3, 4, 5, 1, 0] rfl)
    have hJ40 : ∀ (x4 : Int32) (M : Mem) (H : Heap) (locs : List Loc) (ls : Array Slot), j_X2_readSum_40 n rec x1 x2 x4 M = some rr10 → GI w layC 61 s.heap M H locs → lv_has ls 6 [(0, .ref (w.2.2.1 44)), (1, .int x1), (2, .int x2), (4, .int x4)] → W p l e (Rm (D + 3)) s m args below meth c H locs 0 0 (MQ below (GQi w layC 61 res s.heap.size) args s 0 0 (gA w.2.2.1 61 s.heap.size)) (F0 m 40 ls []) := by
      intro x4 M H locs ls hf hG hl
      unfold j_X2_readSum_40 at hf
      refine lv_aload_n hx hb dX2_readSum_40 rfl (lv_at hl 0 rfl) ?_
      refine g_getI F hG rd_44 (by decide) (by decide) lk_X2_48 rfl dX2_readSum_41 ?_
      refine lv_bipush (v := 43) hx hb dX2_readSum_44 (by decide) ?_
      refine lv_icmp_ne (tgt := 54) hx hb dX2_readSum_46 (by decide) (fun c5 => ?_) (fun c5 => ?_)
      · replace hf := if_f c5 hf
        refine lv_bipush (v := -16) hx hb dX2_readSum_54 (by decide) ?_
        exact hJ56 _ _ _ _ _ ls hf hG (lv_sub hl [0, 1, 2, 3] rfl)
      · replace hf := if_t c5 hf
        refine lv_bipush (v := -15) hx hb dX2_readSum_49 (by decide) ?_
        refine lv_goto (tgt := 56) hx hb dX2_readSum_51 (by decide) ?_
        exact hJ56 _ _ _ _ _ ls hf hG (lv_sub hl [0, 1, 2, 3] rfl)
    dsimp only [b_X2_readSum_10] at hf
    refine lv_iload hx hb dX2_readSum_10 (lv_at hl 4 rfl) ?_
    refine lv_sipush (v := 700) hx hb dX2_readSum_12 (by decide) ?_
    refine lv_icmp_ge (tgt := 85) hx hb dX2_readSum_15 (by decide) (fun c6 => ?_) (fun c6 => ?_)
    · replace hf := if_t c6 hf
      refine lv_iload_n hx hb dX2_readSum_85 rfl (lv_at hl 3 rfl) ?_
      replace hf := ck_some hf
      obtain ⟨k7, hf⟩ := hf
      replace hf := mr_some hf
      obtain ⟨z10, hf, hz⟩ := hf
      rw [hE10 _ hz] at hf
      exact cg_zret F hr hlk hG hf k7 dX2_readSum_86
    · replace hf := if_f c6 hf
      refine lv_iload_n hx hb dX2_readSum_18 rfl (lv_at hl 3 rfl) ?_
      refine lv_if_eq (tgt := 85) hx hb dX2_readSum_19 (by decide) (fun c8 => ?_) (fun c8 => ?_)
      · replace hf := if_t c8 hf
        refine lv_iload_n hx hb dX2_readSum_85 rfl (lv_at hl 3 rfl) ?_
        replace hf := ck_some hf
        obtain ⟨k9, hf⟩ := hf
        replace hf := mr_some hf
        obtain ⟨z10, hf, hz⟩ := hf
        rw [hE10 _ hz] at hf
        exact cg_zret F hr hlk hG hf k9 dX2_readSum_86
      · replace hf := if_f c8 hf
        refine lv_aload_n hx hb dX2_readSum_22 rfl (lv_at hl 0 rfl) ?_
        refine lv_bipush (v := 43) hx hb dX2_readSum_23 (by decide) ?_
        replace hf := bd_some hf
        obtain ⟨q10, eq10, hf⟩ := hf
        refine gx_calli hG (gx_runV (xn_ok (yc_ok w)) F hX hG (c_X2_isSign l w  n  (43 : Int32) _ _ eq10) cv_X2_189 (rm_ok (by omega) (by decide)) (g_recv F hG rd_44 (by decide) rfl) rfl hl.1 rfl (Nat.le_of_ble_eq_true rfl) dX2_readSum_25 ⟨Nat.le_refl _, Nat.le_refl _⟩) (fun H locs hG => ?_)
        refine lv_if_ne (tgt := 40) hx hb dX2_readSum_28 (by decide) (fun c11 => ?_) (fun c11 => ?_)
        · replace hf := if_f c11 hf
          exact hJ40 _ _ _ _ ls hf hG (lv_sub hl [0, 1, 2, 4] rfl)
        · replace hf := if_t c11 hf
          refine lv_aload_n hx hb dX2_readSum_31 rfl (lv_at hl 0 rfl) ?_
          refine lv_bipush (v := 45) hx hb dX2_readSum_32 (by decide) ?_
          replace hf := bd_some hf
          obtain ⟨q12, eq12, hf⟩ := hf
          refine gx_calli hG (gx_runV (xn_ok (yc_ok w)) F hX hG (c_X2_isSign l w  n  (45 : Int32) _ _ eq12) cv_X2_189 (rm_ok (by omega) (by decide)) (g_recv F hG rd_44 (by decide) rfl) rfl hl.1 rfl (Nat.le_of_ble_eq_true rfl) dX2_readSum_34 ⟨Nat.le_refl _, Nat.le_refl _⟩) (fun H locs hG => ?_)
          refine lv_if_eq (tgt := 85) hx hb dX2_readSum_37 (by decide) (fun c13 => ?_) (fun c13 => ?_)
          · replace hf := if_t c13 hf
            refine lv_iload_n hx hb dX2_readSum_85 rfl (lv_at hl 3 rfl) ?_
            replace hf := ck_some hf
            obtain ⟨k14, hf⟩ := hf
            replace hf := mr_some hf
            obtain ⟨z10, hf, hz⟩ := hf
            rw [hE10 _ hz] at hf
            exact cg_zret F hr hlk hG hf k14 dX2_readSum_86
          · replace hf := if_f c13 hf
            exact hJ40 _ _ _ _ ls hf hG (lv_sub hl [0, 1, 2, 4] rfl)
  unfold f_X2_readSum at hf
  refine lv_aload_n hx hb dX2_readSum_0 rfl (lv_at hl 0 rfl) ?_
  refine lv_iload_n hx hb dX2_readSum_1 rfl (lv_at hl 1 rfl) ?_
  refine lv_iload_n hx hb dX2_readSum_2 rfl (lv_at hl 2 rfl) ?_
  replace hf := bd_some hf
  obtain ⟨q15, eq15, hf⟩ := hf
  refine gx_calli hG (gx_runV (xn_ok (yc_ok w)) F hX hG (c_X2_readProduct l w n rec D hD hrec x1 x2 _ _ eq15) cv_X2_230 (rm_ok (by omega) (by decide)) (g_recv F hG rd_44 (by decide) rfl) rfl hl.1 rfl (Nat.le_of_ble_eq_true rfl) dX2_readSum_3 ⟨Nat.le_refl _, Nat.le_refl _⟩) (fun H locs hG => ?_)
  refine lv_istore_n (lv' := [(3, .int q15.1), (0, .ref (w.2.2.1 44)), (1, .int x1), (2, .int x2)]) hx hb dX2_readSum_6 rfl hl (by decide) rfl (fun ls hl => ?_)
  refine lv_iconst (v := 0) hx hb dX2_readSum_7 (by decide) ?_
  refine lv_istore (lv' := [(4, .int (0 : Int32)), (3, .int q15.1), (0, .ref (w.2.2.1 44)), (1, .int x1), (2, .int x2)]) hx hb dX2_readSum_8 hl (by decide) rfl (fun ls hl => ?_)
  exact hJ10 _ _ _ _ _ _ _ ls hf hG (lv_sub hl [2, 3, 4, 1, 0] rfl)

def j_X2_readTest_47 (n : Nat) (rec : Int32 → Int32 → Mem → Option (Int32 × Mem)) (t0 : Int32) (x1 : Int32) (x2 : Int32) (M : Mem) : Option (Int32 × Mem) := bd (f_X2_step n   M) (fun q1 => bd (f_X2_readSum n rec x1 x2 q1) (fun q2 => ck (isTwB ((gi q2.2 44 2).toNatClampNeg)) (bd (f_X6_write n ((gi q2.2 44 2).toNatClampNeg) x1 t0 q2.2) (fun q4 => ck (q2.1 = 0 ∨ q2.1 = 1) (some (q2.1, q4))))))
def j_X2_readTest_31 (n : Nat) (rec : Int32 → Int32 → Mem → Option (Int32 × Mem)) (x1 : Int32) (x2 : Int32) (M : Mem) : Option (Int32 × Mem) := if (gi M 44 9) = (60 : Int32) then (j_X2_readTest_47 n rec (-13 : Int32) x1 x2 M) else (j_X2_readTest_47 n rec (-14 : Int32) x1 x2 M)
def f_X2_readTest (n : Nat) (rec : Int32 → Int32 → Mem → Option (Int32 × Mem)) (x1 : Int32) (x2 : Int32) (M : Mem) : Option (Int32 × Mem) := bd (f_X2_readSum n rec x1 x2 M) (fun q7 => if q7.1 = 0 then (some ((0 : Int32), q7.2)) else (bd (f_X2_isSign n  (60 : Int32) q7.2) (fun q9 => if q9.1 = 0 then (bd (f_X2_isSign n  (61 : Int32) q9.2) (fun q11 => if q11.1 = 0 then (some ((1 : Int32), q11.2)) else (j_X2_readTest_31 n rec x1 x2 q11.2))) else (j_X2_readTest_31 n rec x1 x2 q9.2))))
set_option maxHeartbeats 4000000 in
set_option maxRecDepth 100000 in
theorem c_X2_readTest (l : Launch) (w : Wd)  (n : Nat) (rec : Int32 → Int32 → Mem → Option (Int32 × Mem)) (D : Nat) (hD : 20 ≤ D) (hrec : ∀ (x1 x2 : Int32) (M : Mem) (res : Int32 × Mem), rec x1 x2 M = some res → CG l w layC 61 (XN (YC w)) yX2_readExpr cX2_readExpr 5 (some .boolean) D [.ref (w.2.2.1 44), .int x1, .int x2] M (GQi w layC 61 res)) (x1 : Int32) (x2 : Int32) (M : Mem) (res : Int32 × Mem) (hf : f_X2_readTest n rec x1 x2 M = some res) : CG l w layC 61 (XN (YC w)) yX2_readTest cX2_readTest 5 (some .boolean) (D + 4) [.ref (w.2.2.1 44), .int x1, .int x2] M (GQi w layC 61 res) := by
  refine cg_start (by decide +kernel) (Nat.le_of_ble_eq_true rfl) ?_
  intro p e s m args below meth c F hr hlk hX hG ls hl
  have F : FX w p m c cX2_readTest 5 s args RX2 := F
  have hx := F.1.1
  have hb := F.1.2.1
  have hl : lv_has ls 5 [(0, .ref (w.2.2.1 44)), (1, .int x1), (2, .int x2)] := hl
  have hJ47 : ∀ (t0 : Int32) (x1 : Int32) (x2 : Int32) (M : Mem) (H : Heap) (locs : List Loc) (ls : Array Slot), j_X2_readTest_47 n rec t0 x1 x2 M = some res → GI w layC 61 s.heap M H locs → lv_has ls 5 [(0, .ref (w.2.2.1 44)), (1, .int x1), (2, .int x2)] → W p l e (Rm (D + 4)) s m args below meth c H locs 0 0 (MQ below (GQi w layC 61 res s.heap.size) args s 0 0 (gA w.2.2.1 61 s.heap.size)) (F0 m 47 ls [.int t0]) := by
    intro t0 x1 x2 M H locs ls hf hG hl
    unfold j_X2_readTest_47 at hf
    refine lv_istore_n (lv' := [(3, .int t0), (0, .ref (w.2.2.1 44)), (1, .int x1), (2, .int x2)]) hx hb dX2_readTest_47 rfl hl (by decide) rfl (fun ls hl => ?_)
    refine lv_aload_n hx hb dX2_readTest_48 rfl (lv_at hl 1 rfl) ?_
    replace hf := bd_some hf
    obtain ⟨q1, eq1, hf⟩ := hf
    refine gx_callv hG (gx_runV (xn_ok (yc_ok w)) F hX hG (c_X2_step l w  n   _ _ eq1) cv_X2_84 (rm_ok (by omega) (by decide)) (g_recv F hG rd_44 (by decide) rfl) rfl hl.1 rfl (Nat.le_of_ble_eq_true rfl) dX2_readTest_49 ⟨Nat.le_refl _, Nat.le_refl _⟩) (fun H locs hG => ?_)
    refine lv_aload_n hx hb dX2_readTest_52 rfl (lv_at hl 1 rfl) ?_
    refine lv_iload_n hx hb dX2_readTest_53 rfl (lv_at hl 2 rfl) ?_
    refine lv_iload_n hx hb dX2_readTest_54 rfl (lv_at hl 3 rfl) ?_
    replace hf := bd_some hf
    obtain ⟨q2, eq2, hf⟩ := hf
    refine gx_calli hG (gx_runV (xn_ok (yc_ok w)) F hX hG (c_X2_readSum l w n rec D hD hrec x1 x2 _ _ eq2) cv_X2_227 (rm_ok (by omega) (by decide)) (g_recv F hG rd_44 (by decide) rfl) rfl hl.1 rfl (Nat.le_of_ble_eq_true rfl) dX2_readTest_55 ⟨Nat.le_refl _, Nat.le_refl _⟩) (fun H locs hG => ?_)
    refine lv_istore (lv' := [(4, .int q2.1), (3, .int t0), (0, .ref (w.2.2.1 44)), (1, .int x1), (2, .int x2)]) hx hb dX2_readTest_58 hl (by decide) rfl (fun ls hl => ?_)
    refine lv_aload_n hx hb dX2_readTest_60 rfl (lv_at hl 2 rfl) ?_
    replace hf := ck_some hf
    obtain ⟨k3, hf⟩ := hf
    refine g_getM F hG rd_44 (by decide) (by decide) lk_X2_25 rfl dX2_readTest_61 ?_
    refine lv_iload_n hx hb dX2_readTest_64 rfl (lv_at hl 3 rfl) ?_
    refine lv_iload_n hx hb dX2_readTest_65 rfl (lv_at hl 1 rfl) ?_
    replace hf := bd_some hf
    obtain ⟨q4, eq4, hf⟩ := hf
    refine gx_callv hG (gx_runV (xn_ok (yc_ok w)) F hX hG (c_X6_write l w (yc_ok w) n ((gi q2.2 44 2).toNatClampNeg) (tw_of k3) x1 t0 _ _ eq4) cv_X2_212 (rm_ok (by omega) (by decide)) (g_recv F hG (tw_of k3).1 (by decide) rfl) rfl hl.1 rfl (Nat.le_of_ble_eq_true rfl) dX2_readTest_66 ⟨Nat.le_refl _, Nat.le_refl _⟩) (fun H locs hG => ?_)
    refine lv_iload hx hb dX2_readTest_69 (lv_at hl 0 rfl) ?_
    replace hf := ck_some hf
    obtain ⟨k5, hf⟩ := hf
    exact cg_zret F hr hlk hG hf k5 dX2_readTest_71
  have hJ31 : ∀ (x1 : Int32) (x2 : Int32) (M : Mem) (H : Heap) (locs : List Loc) (ls : Array Slot), j_X2_readTest_31 n rec x1 x2 M = some res → GI w layC 61 s.heap M H locs → lv_has ls 5 [(0, .ref (w.2.2.1 44)), (1, .int x1), (2, .int x2)] → W p l e (Rm (D + 4)) s m args below meth c H locs 0 0 (MQ below (GQi w layC 61 res s.heap.size) args s 0 0 (gA w.2.2.1 61 s.heap.size)) (F0 m 31 ls []) := by
    intro x1 x2 M H locs ls hf hG hl
    unfold j_X2_readTest_31 at hf
    refine lv_aload_n hx hb dX2_readTest_31 rfl (lv_at hl 0 rfl) ?_
    refine g_getI F hG rd_44 (by decide) (by decide) lk_X2_48 rfl dX2_readTest_32 ?_
    refine lv_bipush (v := 60) hx hb dX2_readTest_35 (by decide) ?_
    refine lv_icmp_ne (tgt := 45) hx hb dX2_readTest_37 (by decide) (fun c6 => ?_) (fun c6 => ?_)
    · replace hf := if_f c6 hf
      refine lv_bipush (v := -14) hx hb dX2_readTest_45 (by decide) ?_
      exact hJ47 _ _ _ _ _ _ ls hf hG (lv_sub hl [0, 1, 2] rfl)
    · replace hf := if_t c6 hf
      refine lv_bipush (v := -13) hx hb dX2_readTest_40 (by decide) ?_
      refine lv_goto (tgt := 47) hx hb dX2_readTest_42 (by decide) ?_
      exact hJ47 _ _ _ _ _ _ ls hf hG (lv_sub hl [0, 1, 2] rfl)
  unfold f_X2_readTest at hf
  refine lv_aload_n hx hb dX2_readTest_0 rfl (lv_at hl 0 rfl) ?_
  refine lv_iload_n hx hb dX2_readTest_1 rfl (lv_at hl 1 rfl) ?_
  refine lv_iload_n hx hb dX2_readTest_2 rfl (lv_at hl 2 rfl) ?_
  replace hf := bd_some hf
  obtain ⟨q7, eq7, hf⟩ := hf
  refine gx_calli hG (gx_runV (xn_ok (yc_ok w)) F hX hG (c_X2_readSum l w n rec D hD hrec x1 x2 _ _ eq7) cv_X2_227 (rm_ok (by omega) (by decide)) (g_recv F hG rd_44 (by decide) rfl) rfl hl.1 rfl (Nat.le_of_ble_eq_true rfl) dX2_readTest_3 ⟨Nat.le_refl _, Nat.le_refl _⟩) (fun H locs hG => ?_)
  refine lv_if_ne (tgt := 11) hx hb dX2_readTest_6 (by decide) (fun c8 => ?_) (fun c8 => ?_)
  · replace hf := if_f c8 hf
    refine lv_aload_n hx hb dX2_readTest_11 rfl (lv_at hl 0 rfl) ?_
    refine lv_bipush (v := 60) hx hb dX2_readTest_12 (by decide) ?_
    replace hf := bd_some hf
    obtain ⟨q9, eq9, hf⟩ := hf
    refine gx_calli hG (gx_runV (xn_ok (yc_ok w)) F hX hG (c_X2_isSign l w  n  (60 : Int32) _ _ eq9) cv_X2_189 (rm_ok (by omega) (by decide)) (g_recv F hG rd_44 (by decide) rfl) rfl hl.1 rfl (Nat.le_of_ble_eq_true rfl) dX2_readTest_14 ⟨Nat.le_refl _, Nat.le_refl _⟩) (fun H locs hG => ?_)
    refine lv_if_ne (tgt := 31) hx hb dX2_readTest_17 (by decide) (fun c10 => ?_) (fun c10 => ?_)
    · replace hf := if_f c10 hf
      exact hJ31 _ _ _ _ _ ls hf hG (lv_sub hl [0, 1, 2] rfl)
    · replace hf := if_t c10 hf
      refine lv_aload_n hx hb dX2_readTest_20 rfl (lv_at hl 0 rfl) ?_
      refine lv_bipush (v := 61) hx hb dX2_readTest_21 (by decide) ?_
      replace hf := bd_some hf
      obtain ⟨q11, eq11, hf⟩ := hf
      refine gx_calli hG (gx_runV (xn_ok (yc_ok w)) F hX hG (c_X2_isSign l w  n  (61 : Int32) _ _ eq11) cv_X2_189 (rm_ok (by omega) (by decide)) (g_recv F hG rd_44 (by decide) rfl) rfl hl.1 rfl (Nat.le_of_ble_eq_true rfl) dX2_readTest_23 ⟨Nat.le_refl _, Nat.le_refl _⟩) (fun H locs hG => ?_)
      refine lv_if_ne (tgt := 31) hx hb dX2_readTest_26 (by decide) (fun c12 => ?_) (fun c12 => ?_)
      · replace hf := if_f c12 hf
        exact hJ31 _ _ _ _ _ ls hf hG (lv_sub hl [0, 1, 2] rfl)
      · replace hf := if_t c12 hf
        refine lv_iconst (v := 1) hx hb dX2_readTest_29 (by decide) ?_
        exact cg_zret F hr hlk hG hf (Or.inr rfl) dX2_readTest_30
  · replace hf := if_t c8 hf
    refine lv_iconst (v := 0) hx hb dX2_readTest_9 (by decide) ?_
    exact cg_zret F hr hlk hG hf (Or.inl rfl) dX2_readTest_10

def j_X2_readNot_27 (n : Nat) (rec : Int32 → Int32 → Mem → Option (Int32 × Mem)) (M : Mem) : Option (Int32 × Mem) := bd (f_X2_fail n  (2 : Int32) M) (fun q1 => ck (q1.1 = 0 ∨ q1.1 = 1) (some (q1.1, q1.2)))
def b_X2_readNot_51 (n : Nat) (rec : Int32 → Int32 → Mem → Option (Int32 × Mem)) (x1 : Int32) (x3 : Int32) (x4 : Int32) (q : (Int32 × Mem)) : Option ((Int32 × Mem) ⊕ (Int32 × Mem)) := match q with
  | (x5, M) => if x3 ≤ x5 then (ck (x4 = 0 ∨ x4 = 1) (mr (some (x4, M)))) else (ck (isTwB ((gi M 44 2).toNatClampNeg)) (bd (f_X6_write n ((gi M 44 2).toNatClampNeg) x1 (-10 : Int32) M) (fun q6 => some (.inl ((x5 + (1 : Int32)), q6)))))
def j_X2_readNot_40 (n : Nat) (rec : Int32 → Int32 → Mem → Option (Int32 × Mem)) (x1 : Int32) (x2 : Int32) (x3 : Int32) (M : Mem) : Option (Int32 × Mem) := bd (f_X2_readTest n rec x1 x2 M) (fun q7 => gl (b_X2_readNot_51 n rec x1 x3 q7.1) n ((0 : Int32), q7.2))
def b_X2_readNot_2 (n : Nat) (rec : Int32 → Int32 → Mem → Option (Int32 × Mem)) (x1 : Int32) (x2 : Int32) (q : (Int32 × Mem)) : Option ((Int32 × Mem) ⊕ (Int32 × Mem)) := match q with
  | (x3, M) => if (6 : Int32) < x3 then (mr (j_X2_readNot_40 n rec x1 x2 x3 M)) else (bd (f_X2_isWord n 11  M) (fun q9 => if q9.1 = 0 then (mr (j_X2_readNot_40 n rec x1 x2 x3 q9.2)) else (if (x3 + (1 : Int32)) ≤ (6 : Int32) then (bd (f_X2_step n   q9.2) (fun q12 => some (.inl ((x3 + (1 : Int32)), q12)))) else (mr (j_X2_readNot_27 n rec q9.2)))))
def f_X2_readNot (n : Nat) (rec : Int32 → Int32 → Mem → Option (Int32 × Mem)) (x1 : Int32) (x2 : Int32) (M : Mem) : Option (Int32 × Mem) := gl (b_X2_readNot_2 n rec x1 x2) n ((0 : Int32), M)
set_option maxHeartbeats 4000000 in
set_option maxRecDepth 100000 in
theorem c_X2_readNot (l : Launch) (w : Wd)  (n : Nat) (rec : Int32 → Int32 → Mem → Option (Int32 × Mem)) (D : Nat) (hD : 20 ≤ D) (hrec : ∀ (x1 x2 : Int32) (M : Mem) (res : Int32 × Mem), rec x1 x2 M = some res → CG l w layC 61 (XN (YC w)) yX2_readExpr cX2_readExpr 5 (some .boolean) D [.ref (w.2.2.1 44), .int x1, .int x2] M (GQi w layC 61 res)) (x1 : Int32) (x2 : Int32) (M : Mem) (res : Int32 × Mem) (hf : f_X2_readNot n rec x1 x2 M = some res) : CG l w layC 61 (XN (YC w)) yX2_readNot cX2_readNot 6 (some .boolean) (D + 5) [.ref (w.2.2.1 44), .int x1, .int x2] M (GQi w layC 61 res) := by
  refine cg_start (by decide +kernel) (Nat.le_of_ble_eq_true rfl) ?_
  intro p e s m args below meth c F hr hlk hX hG ls hl
  have F : FX w p m c cX2_readNot 6 s args RX2 := F
  obtain ⟨y1, y2, y3, y4, y5, y6, y7, y8, y9, y10, y11, y12⟩ := hX.2.2.2
  have hx := F.1.1
  have hb := F.1.2.1
  have hl : lv_has ls 6 [(0, .ref (w.2.2.1 44)), (1, .int x1), (2, .int x2)] := hl
  have hJ27 : ∀ (M : Mem) (H : Heap) (locs : List Loc) (ls : Array Slot), j_X2_readNot_27 n rec  M = some res → GI w layC 61 s.heap M H locs → lv_has ls 6 [(0, .ref (w.2.2.1 44))] → W p l e (Rm (D + 5)) s m args below meth c H locs 0 0 (MQ below (GQi w layC 61 res s.heap.size) args s 0 0 (gA w.2.2.1 61 s.heap.size)) (F0 m 27 ls []) := by
    intro  M H locs ls hf hG hl
    unfold j_X2_readNot_27 at hf
    refine lv_aload_n hx hb dX2_readNot_27 rfl (lv_at hl 0 rfl) ?_
    refine lv_iconst (v := 2) hx hb dX2_readNot_28 (by decide) ?_
    replace hf := bd_some hf
    obtain ⟨q1, eq1, hf⟩ := hf
    refine gx_calli hG (gx_runV (xn_ok (yc_ok w)) F hX hG (c_X2_fail l w  n  (2 : Int32) _ _ eq1) cv_X2_111 (rm_ok (by omega) (by decide)) (g_recv F hG rd_44 (by decide) rfl) rfl hl.1 rfl (Nat.le_of_ble_eq_true rfl) dX2_readNot_29 ⟨Nat.le_refl _, Nat.le_refl _⟩) (fun H locs hG => ?_)
    replace hf := ck_some hf
    obtain ⟨k2, hf⟩ := hf
    exact cg_zret F hr hlk hG hf k2 dX2_readNot_32
  have hJ51 : ∀ (x1 : Int32) (x3 : Int32) (x4 : Int32) (x5 : Int32) (M : Mem) (H : Heap) (locs : List Loc) (ls : Array Slot), gl (b_X2_readNot_51 n rec x1 x3 x4) n (x5, M) = some res → GI w layC 61 s.heap M H locs → lv_has ls 6 [(0, .ref (w.2.2.1 44)), (1, .int x1), (3, .int x3), (4, .int x4), (5, .int x5)] → W p l e (Rm (D + 5)) s m args below meth c H locs 0 0 (MQ below (GQi w layC 61 res s.heap.size) args s 0 0 (gA w.2.2.1 61 s.heap.size)) (F0 m 51 ls []) := by
    intro x1 x3 x4 x5 M H locs ls hf hG hl
    refine gl_run (P := fun (q : (Int32 × Mem)) => ∀ (H : Heap) (locs : List Loc) (ls : Array Slot), GI w layC 61 s.heap q.2 H locs → lv_has ls 6 [(0, .ref (w.2.2.1 44)), (1, .int x1), (3, .int x3), (4, .int x4), (5, .int q.1)] → W p l e (Rm (D + 5)) s m args below meth c H locs 0 0 (MQ below (GQi w layC 61 res s.heap.size) args s 0 0 (gA w.2.2.1 61 s.heap.size)) (F0 m 51 ls [])) ?_ n (x5, M) hf H locs ls hG hl
    clear hf hG hl ls locs H M x5
    rintro ⟨x5, M⟩ rr51 hf hI51 hE51 H locs ls hG hl
    try dsimp only at hG hl ⊢
    dsimp only [b_X2_readNot_51] at hf
    refine lv_iload hx hb dX2_readNot_51 (lv_at hl 4 rfl) ?_
    refine lv_iload_n hx hb dX2_readNot_53 rfl (lv_at hl 2 rfl) ?_
    refine lv_icmp_ge (tgt := 73) hx hb dX2_readNot_54 (by decide) (fun c3 => ?_) (fun c3 => ?_)
    · replace hf := if_t c3 hf
      refine lv_iload hx hb dX2_readNot_73 (lv_at hl 3 rfl) ?_
      replace hf := ck_some hf
      obtain ⟨k4, hf⟩ := hf
      replace hf := mr_some hf
      obtain ⟨z51, hf, hz⟩ := hf
      rw [hE51 _ hz] at hf
      exact cg_zret F hr hlk hG hf k4 dX2_readNot_75
    · replace hf := if_f c3 hf
      refine lv_aload_n hx hb dX2_readNot_57 rfl (lv_at hl 0 rfl) ?_
      replace hf := ck_some hf
      obtain ⟨k5, hf⟩ := hf
      refine g_getM F hG rd_44 (by decide) (by decide) lk_X2_25 rfl dX2_readNot_58 ?_
      refine lv_iload_n hx hb dX2_readNot_61 rfl (lv_at hl 1 rfl) ?_
      refine lv_bipush (v := -10) hx hb dX2_readNot_62 (by decide) ?_
      replace hf := bd_some hf
      obtain ⟨q6, eq6, hf⟩ := hf
      refine gx_callv hG (gx_runV (xn_ok (yc_ok w)) F hX hG (c_X6_write l w (yc_ok w) n ((gi M 44 2).toNatClampNeg) (tw_of k5) x1 (-10 : Int32) _ _ eq6) cv_X2_212 (rm_ok (by omega) (by decide)) (g_recv F hG (tw_of k5).1 (by decide) rfl) rfl hl.1 rfl (Nat.le_of_ble_eq_true rfl) dX2_readNot_64 ⟨Nat.le_refl _, Nat.le_refl _⟩) (fun H locs hG => ?_)
      refine lv_iinc (v := (x5 + (1 : Int32))) (lv' := [(5, .int (x5 + (1 : Int32))), (0, .ref (w.2.2.1 44)), (1, .int x1), (3, .int x3), (4, .int x4)]) hx hb dX2_readNot_67 hl (k := 4) rfl rfl (by decide) rfl (fun ls hl => ?_)
      refine lv_goto (tgt := 51) hx hb dX2_readNot_70 (by decide) ?_
      exact hI51 _ (Option.some.inj hf).symm _ _ ls hG (lv_sub hl [1, 2, 3, 4, 0] rfl)
  have hJ40 : ∀ (x1 : Int32) (x2 : Int32) (x3 : Int32) (M : Mem) (H : Heap) (locs : List Loc) (ls : Array Slot), j_X2_readNot_40 n rec x1 x2 x3 M = some res → GI w layC 61 s.heap M H locs → lv_has ls 6 [(0, .ref (w.2.2.1 44)), (1, .int x1), (2, .int x2), (3, .int x3)] → W p l e (Rm (D + 5)) s m args below meth c H locs 0 0 (MQ below (GQi w layC 61 res s.heap.size) args s 0 0 (gA w.2.2.1 61 s.heap.size)) (F0 m 40 ls []) := by
    intro x1 x2 x3 M H locs ls hf hG hl
    unfold j_X2_readNot_40 at hf
    refine lv_aload_n hx hb dX2_readNot_40 rfl (lv_at hl 0 rfl) ?_
    refine lv_iload_n hx hb dX2_readNot_41 rfl (lv_at hl 1 rfl) ?_
    refine lv_iload_n hx hb dX2_readNot_42 rfl (lv_at hl 2 rfl) ?_
    replace hf := bd_some hf
    obtain ⟨q7, eq7, hf⟩ := hf
    refine gx_calli hG (gx_runV (xn_ok (yc_ok w)) F hX hG (c_X2_readTest l w n rec D hD hrec x1 x2 _ _ eq7) cv_X2_224 (rm_ok (by omega) (by decide)) (g_recv F hG rd_44 (by decide) rfl) rfl hl.1 rfl (Nat.le_of_ble_eq_true rfl) dX2_readNot_43 ⟨Nat.le_refl _, Nat.le_refl _⟩) (fun H locs hG => ?_)
    refine lv_istore (lv' := [(4, .int q7.1), (0, .ref (w.2.2.1 44)), (1, .int x1), (2, .int x2), (3, .int x3)]) hx hb dX2_readNot_46 hl (by decide) rfl (fun ls hl => ?_)
    refine lv_iconst (v := 0) hx hb dX2_readNot_48 (by decide) ?_
    refine lv_istore (lv' := [(5, .int (0 : Int32)), (4, .int q7.1), (0, .ref (w.2.2.1 44)), (1, .int x1), (2, .int x2), (3, .int x3)]) hx hb dX2_readNot_49 hl (by decide) rfl (fun ls hl => ?_)
    exact hJ51 _ _ _ _ _ _ _ ls hf hG (lv_sub hl [2, 3, 5, 1, 0] rfl)
  have hJ2 : ∀ (x1 : Int32) (x2 : Int32) (x3 : Int32) (M : Mem) (H : Heap) (locs : List Loc) (ls : Array Slot), gl (b_X2_readNot_2 n rec x1 x2) n (x3, M) = some res → GI w layC 61 s.heap M H locs → lv_has ls 6 [(0, .ref (w.2.2.1 44)), (1, .int x1), (2, .int x2), (3, .int x3)] → W p l e (Rm (D + 5)) s m args below meth c H locs 0 0 (MQ below (GQi w layC 61 res s.heap.size) args s 0 0 (gA w.2.2.1 61 s.heap.size)) (F0 m 2 ls []) := by
    intro x1 x2 x3 M H locs ls hf hG hl
    refine gl_run (P := fun (q : (Int32 × Mem)) => ∀ (H : Heap) (locs : List Loc) (ls : Array Slot), GI w layC 61 s.heap q.2 H locs → lv_has ls 6 [(0, .ref (w.2.2.1 44)), (1, .int x1), (2, .int x2), (3, .int q.1)] → W p l e (Rm (D + 5)) s m args below meth c H locs 0 0 (MQ below (GQi w layC 61 res s.heap.size) args s 0 0 (gA w.2.2.1 61 s.heap.size)) (F0 m 2 ls [])) ?_ n (x3, M) hf H locs ls hG hl
    clear hf hG hl ls locs H M x3
    rintro ⟨x3, M⟩ rr2 hf hI2 hE2 H locs ls hG hl
    try dsimp only at hG hl ⊢
    dsimp only [b_X2_readNot_2] at hf
    refine lv_iload_n hx hb dX2_readNot_2 rfl (lv_at hl 3 rfl) ?_
    refine lv_bipush (v := 6) hx hb dX2_readNot_3 (by decide) ?_
    refine lv_icmp_gt (tgt := 40) hx hb dX2_readNot_5 (by decide) (fun c8 => ?_) (fun c8 => ?_)
    · replace hf := if_t c8 hf
      replace hf := mr_some hf
      obtain ⟨z2, hf, hz⟩ := hf
      rw [hE2 _ hz] at hf
      exact hJ40 _ _ _ _ _ _ ls hf hG (lv_sub hl [0, 1, 2, 3] rfl)
    · replace hf := if_f c8 hf
      refine lv_aload_n hx hb dX2_readNot_8 rfl (lv_at hl 0 rfl) ?_
      refine va_gets hx hb (y1.1 11 (by decide)).1 hG.2.2 F.1.2.2.2.1 (F.1.2.2.2.2 _ m_912) (fun _ h9 => h9) dX2_readNot_9 ?_
      replace hf := bd_some hf
      obtain ⟨q9, eq9, hf⟩ := hf
      refine gx_calli hG (gx_runV (xn_ok (yc_ok w)) F hX hG (c_X2_isWord l w  n 11 (by decide)  _ _ eq9) cv_X2_208 (rm_ok (by omega) (by decide)) (g_recv F hG rd_44 (by decide) rfl) rfl hl.1 rfl (Nat.le_of_ble_eq_true rfl) dX2_readNot_12 ⟨Nat.le_refl _, Nat.le_refl _⟩) (fun H locs hG => ?_)
      refine lv_if_eq (tgt := 40) hx hb dX2_readNot_15 (by decide) (fun c10 => ?_) (fun c10 => ?_)
      · replace hf := if_t c10 hf
        replace hf := mr_some hf
        obtain ⟨z2, hf, hz⟩ := hf
        rw [hE2 _ hz] at hf
        exact hJ40 _ _ _ _ _ _ ls hf hG (lv_sub hl [0, 1, 2, 3] rfl)
      · replace hf := if_f c10 hf
        refine lv_iinc (v := (x3 + (1 : Int32))) (lv' := [(3, .int (x3 + (1 : Int32))), (0, .ref (w.2.2.1 44)), (1, .int x1), (2, .int x2)]) hx hb dX2_readNot_18 hl (k := 3) rfl rfl (by decide) rfl (fun ls hl => ?_)
        refine lv_iload_n hx hb dX2_readNot_21 rfl (lv_at hl 0 rfl) ?_
        refine lv_bipush (v := 6) hx hb dX2_readNot_22 (by decide) ?_
        refine lv_icmp_le (tgt := 33) hx hb dX2_readNot_24 (by decide) (fun c11 => ?_) (fun c11 => ?_)
        · replace hf := if_t c11 hf
          refine lv_aload_n hx hb dX2_readNot_33 rfl (lv_at hl 1 rfl) ?_
          replace hf := bd_some hf
          obtain ⟨q12, eq12, hf⟩ := hf
          refine gx_callv hG (gx_runV (xn_ok (yc_ok w)) F hX hG (c_X2_step l w  n   _ _ eq12) cv_X2_84 (rm_ok (by omega) (by decide)) (g_recv F hG rd_44 (by decide) rfl) rfl hl.1 rfl (Nat.le_of_ble_eq_true rfl) dX2_readNot_34 ⟨Nat.le_refl _, Nat.le_refl _⟩) (fun H locs hG => ?_)
          refine lv_goto (tgt := 2) hx hb dX2_readNot_37 (by decide) ?_
          exact hI2 _ (Option.some.inj hf).symm _ _ ls hG (lv_sub hl [1, 2, 3, 0] rfl)
        · replace hf := if_f c11 hf
          replace hf := mr_some hf
          obtain ⟨z2, hf, hz⟩ := hf
          rw [hE2 _ hz] at hf
          exact hJ27  _ _ _ ls hf hG (lv_sub hl [1] rfl)
  unfold f_X2_readNot at hf
  refine lv_iconst (v := 0) hx hb dX2_readNot_0 (by decide) ?_
  refine lv_istore_n (lv' := [(3, .int (0 : Int32)), (0, .ref (w.2.2.1 44)), (1, .int x1), (2, .int x2)]) hx hb dX2_readNot_1 rfl hl (by decide) rfl (fun ls hl => ?_)
  exact hJ2 _ _ _ _ _ _ ls hf hG (lv_sub hl [1, 2, 3, 0] rfl)

def b_X2_readAnd_10 (n : Nat) (rec : Int32 → Int32 → Mem → Option (Int32 × Mem)) (x1 : Int32) (x2 : Int32) (q : (Int32 × Int32 × Mem)) : Option ((Int32 × Int32 × Mem) ⊕ (Int32 × Mem)) := match q with
  | (x3, x4, M) => if (700 : Int32) ≤ x4 then (ck (x3 = 0 ∨ x3 = 1) (mr (some (x3, M)))) else (if x3 = 0 then (ck (x3 = 0 ∨ x3 = 1) (mr (some (x3, M)))) else (bd (f_X2_isWord n 10  M) (fun q5 => if q5.1 = 0 then (ck (x3 = 0 ∨ x3 = 1) (mr (some (x3, q5.2)))) else (bd (f_X2_step n   q5.2) (fun q8 => bd (f_X2_readNot n rec x1 x2 q8) (fun q9 => ck (isTwB ((gi q9.2 44 2).toNatClampNeg)) (bd (f_X6_write n ((gi q9.2 44 2).toNatClampNeg) x1 (-12 : Int32) q9.2) (fun q11 => some (.inl (q9.1, (x4 + (1 : Int32)), q11))))))))))
def f_X2_readAnd (n : Nat) (rec : Int32 → Int32 → Mem → Option (Int32 × Mem)) (x1 : Int32) (x2 : Int32) (M : Mem) : Option (Int32 × Mem) := bd (f_X2_readNot n rec x1 x2 M) (fun q12 => gl (b_X2_readAnd_10 n rec x1 x2) n (q12.1, (0 : Int32), q12.2))
set_option maxHeartbeats 4000000 in
set_option maxRecDepth 100000 in
theorem c_X2_readAnd (l : Launch) (w : Wd)  (n : Nat) (rec : Int32 → Int32 → Mem → Option (Int32 × Mem)) (D : Nat) (hD : 20 ≤ D) (hrec : ∀ (x1 x2 : Int32) (M : Mem) (res : Int32 × Mem), rec x1 x2 M = some res → CG l w layC 61 (XN (YC w)) yX2_readExpr cX2_readExpr 5 (some .boolean) D [.ref (w.2.2.1 44), .int x1, .int x2] M (GQi w layC 61 res)) (x1 : Int32) (x2 : Int32) (M : Mem) (res : Int32 × Mem) (hf : f_X2_readAnd n rec x1 x2 M = some res) : CG l w layC 61 (XN (YC w)) yX2_readAnd cX2_readAnd 5 (some .boolean) (D + 6) [.ref (w.2.2.1 44), .int x1, .int x2] M (GQi w layC 61 res) := by
  refine cg_start (by decide +kernel) (Nat.le_of_ble_eq_true rfl) ?_
  intro p e s m args below meth c F hr hlk hX hG ls hl
  have F : FX w p m c cX2_readAnd 5 s args RX2 := F
  obtain ⟨y1, y2, y3, y4, y5, y6, y7, y8, y9, y10, y11, y12⟩ := hX.2.2.2
  have hx := F.1.1
  have hb := F.1.2.1
  have hl : lv_has ls 5 [(0, .ref (w.2.2.1 44)), (1, .int x1), (2, .int x2)] := hl
  have hJ10 : ∀ (x1 : Int32) (x2 : Int32) (x3 : Int32) (x4 : Int32) (M : Mem) (H : Heap) (locs : List Loc) (ls : Array Slot), gl (b_X2_readAnd_10 n rec x1 x2) n (x3, x4, M) = some res → GI w layC 61 s.heap M H locs → lv_has ls 5 [(0, .ref (w.2.2.1 44)), (1, .int x1), (2, .int x2), (3, .int x3), (4, .int x4)] → W p l e (Rm (D + 6)) s m args below meth c H locs 0 0 (MQ below (GQi w layC 61 res s.heap.size) args s 0 0 (gA w.2.2.1 61 s.heap.size)) (F0 m 10 ls []) := by
    intro x1 x2 x3 x4 M H locs ls hf hG hl
    refine gl_run (P := fun (q : (Int32 × Int32 × Mem)) => ∀ (H : Heap) (locs : List Loc) (ls : Array Slot), GI w layC 61 s.heap q.2.2 H locs → lv_has ls 5 [(0, .ref (w.2.2.1 44)), (1, .int x1), (2, .int x2), (3, .int q.1), (4, .int q.2.1)] → W p l e (Rm (D + 6)) s m args below meth c H locs 0 0 (MQ below (GQi w layC 61 res s.heap.size) args s 0 0 (gA w.2.2.1 61 s.heap.size)) (F0 m 10 ls [])) ?_ n (x3, x4, M) hf H locs ls hG hl
    clear hf hG hl ls locs H M x3 x4
    rintro ⟨x3, x4, M⟩ rr10 hf hI10 hE10 H locs ls hG hl
    try dsimp only at hG hl ⊢
    dsimp only [b_X2_readAnd_10] at hf
    refine lv_iload hx hb dX2_readAnd_10 (lv_at hl 4 rfl) ?_
    refine lv_sipush (v := 700) hx hb dX2_readAnd_12 (by decide) ?_
    refine lv_icmp_ge (tgt := 59) hx hb dX2_readAnd_15 (by decide) (fun c1 => ?_) (fun c1 => ?_)
    · replace hf := if_t c1 hf
      refine lv_iload_n hx hb dX2_readAnd_59 rfl (lv_at hl 3 rfl) ?_
      replace hf := ck_some hf
      obtain ⟨k2, hf⟩ := hf
      replace hf := mr_some hf
      obtain ⟨z10, hf, hz⟩ := hf
      rw [hE10 _ hz] at hf
      exact cg_zret F hr hlk hG hf k2 dX2_readAnd_60
    · replace hf := if_f c1 hf
      refine lv_iload_n hx hb dX2_readAnd_18 rfl (lv_at hl 3 rfl) ?_
      refine lv_if_eq (tgt := 59) hx hb dX2_readAnd_19 (by decide) (fun c3 => ?_) (fun c3 => ?_)
      · replace hf := if_t c3 hf
        refine lv_iload_n hx hb dX2_readAnd_59 rfl (lv_at hl 3 rfl) ?_
        replace hf := ck_some hf
        obtain ⟨k4, hf⟩ := hf
        replace hf := mr_some hf
        obtain ⟨z10, hf, hz⟩ := hf
        rw [hE10 _ hz] at hf
        exact cg_zret F hr hlk hG hf k4 dX2_readAnd_60
      · replace hf := if_f c3 hf
        refine lv_aload_n hx hb dX2_readAnd_22 rfl (lv_at hl 0 rfl) ?_
        refine va_gets hx hb (y1.1 10 (by decide)).1 hG.2.2 F.1.2.2.2.1 (F.1.2.2.2.2 _ m_942) (fun _ h9 => h9) dX2_readAnd_23 ?_
        replace hf := bd_some hf
        obtain ⟨q5, eq5, hf⟩ := hf
        refine gx_calli hG (gx_runV (xn_ok (yc_ok w)) F hX hG (c_X2_isWord l w  n 10 (by decide)  _ _ eq5) cv_X2_208 (rm_ok (by omega) (by decide)) (g_recv F hG rd_44 (by decide) rfl) rfl hl.1 rfl (Nat.le_of_ble_eq_true rfl) dX2_readAnd_26 ⟨Nat.le_refl _, Nat.le_refl _⟩) (fun H locs hG => ?_)
        refine lv_if_eq (tgt := 59) hx hb dX2_readAnd_29 (by decide) (fun c6 => ?_) (fun c6 => ?_)
        · replace hf := if_t c6 hf
          refine lv_iload_n hx hb dX2_readAnd_59 rfl (lv_at hl 3 rfl) ?_
          replace hf := ck_some hf
          obtain ⟨k7, hf⟩ := hf
          replace hf := mr_some hf
          obtain ⟨z10, hf, hz⟩ := hf
          rw [hE10 _ hz] at hf
          exact cg_zret F hr hlk hG hf k7 dX2_readAnd_60
        · replace hf := if_f c6 hf
          refine lv_aload_n hx hb dX2_readAnd_32 rfl (lv_at hl 0 rfl) ?_
          replace hf := bd_some hf
          obtain ⟨q8, eq8, hf⟩ := hf
          refine gx_callv hG (gx_runV (xn_ok (yc_ok w)) F hX hG (c_X2_step l w  n   _ _ eq8) cv_X2_84 (rm_ok (by omega) (by decide)) (g_recv F hG rd_44 (by decide) rfl) rfl hl.1 rfl (Nat.le_of_ble_eq_true rfl) dX2_readAnd_33 ⟨Nat.le_refl _, Nat.le_refl _⟩) (fun H locs hG => ?_)
          refine lv_aload_n hx hb dX2_readAnd_36 rfl (lv_at hl 0 rfl) ?_
          refine lv_iload_n hx hb dX2_readAnd_37 rfl (lv_at hl 1 rfl) ?_
          refine lv_iload_n hx hb dX2_readAnd_38 rfl (lv_at hl 2 rfl) ?_
          replace hf := bd_some hf
          obtain ⟨q9, eq9, hf⟩ := hf
          refine gx_calli hG (gx_runV (xn_ok (yc_ok w)) F hX hG (c_X2_readNot l w n rec D hD hrec x1 x2 _ _ eq9) cv_X2_215 (rm_ok (by omega) (by decide)) (g_recv F hG rd_44 (by decide) rfl) rfl hl.1 rfl (Nat.le_of_ble_eq_true rfl) dX2_readAnd_39 ⟨Nat.le_refl _, Nat.le_refl _⟩) (fun H locs hG => ?_)
          refine lv_istore_n (lv' := [(3, .int q9.1), (0, .ref (w.2.2.1 44)), (1, .int x1), (2, .int x2), (4, .int x4)]) hx hb dX2_readAnd_42 rfl hl (by decide) rfl (fun ls hl => ?_)
          refine lv_aload_n hx hb dX2_readAnd_43 rfl (lv_at hl 1 rfl) ?_
          replace hf := ck_some hf
          obtain ⟨k10, hf⟩ := hf
          refine g_getM F hG rd_44 (by decide) (by decide) lk_X2_25 rfl dX2_readAnd_44 ?_
          refine lv_iload_n hx hb dX2_readAnd_47 rfl (lv_at hl 2 rfl) ?_
          refine lv_bipush (v := -12) hx hb dX2_readAnd_48 (by decide) ?_
          replace hf := bd_some hf
          obtain ⟨q11, eq11, hf⟩ := hf
          refine gx_callv hG (gx_runV (xn_ok (yc_ok w)) F hX hG (c_X6_write l w (yc_ok w) n ((gi q9.2 44 2).toNatClampNeg) (tw_of k10) x1 (-12 : Int32) _ _ eq11) cv_X2_212 (rm_ok (by omega) (by decide)) (g_recv F hG (tw_of k10).1 (by decide) rfl) rfl hl.1 rfl (Nat.le_of_ble_eq_true rfl) dX2_readAnd_50 ⟨Nat.le_refl _, Nat.le_refl _⟩) (fun H locs hG => ?_)
          refine lv_iinc (v := (x4 + (1 : Int32))) (lv' := [(4, .int (x4 + (1 : Int32))), (3, .int q9.1), (0, .ref (w.2.2.1 44)), (1, .int x1), (2, .int x2)]) hx hb dX2_readAnd_53 hl (k := 4) rfl rfl (by decide) rfl (fun ls hl => ?_)
          refine lv_goto (tgt := 10) hx hb dX2_readAnd_56 (by decide) ?_
          exact hI10 _ (Option.some.inj hf).symm _ _ ls hG (lv_sub hl [2, 3, 4, 1, 0] rfl)
  unfold f_X2_readAnd at hf
  refine lv_aload_n hx hb dX2_readAnd_0 rfl (lv_at hl 0 rfl) ?_
  refine lv_iload_n hx hb dX2_readAnd_1 rfl (lv_at hl 1 rfl) ?_
  refine lv_iload_n hx hb dX2_readAnd_2 rfl (lv_at hl 2 rfl) ?_
  replace hf := bd_some hf
  obtain ⟨q12, eq12, hf⟩ := hf
  refine gx_calli hG (gx_runV (xn_ok (yc_ok w)) F hX hG (c_X2_readNot l w n rec D hD hrec x1 x2 _ _ eq12) cv_X2_215 (rm_ok (by omega) (by decide)) (g_recv F hG rd_44 (by decide) rfl) rfl hl.1 rfl (Nat.le_of_ble_eq_true rfl) dX2_readAnd_3 ⟨Nat.le_refl _, Nat.le_refl _⟩) (fun H locs hG => ?_)
  refine lv_istore_n (lv' := [(3, .int q12.1), (0, .ref (w.2.2.1 44)), (1, .int x1), (2, .int x2)]) hx hb dX2_readAnd_6 rfl hl (by decide) rfl (fun ls hl => ?_)
  refine lv_iconst (v := 0) hx hb dX2_readAnd_7 (by decide) ?_
  refine lv_istore (lv' := [(4, .int (0 : Int32)), (3, .int q12.1), (0, .ref (w.2.2.1 44)), (1, .int x1), (2, .int x2)]) hx hb dX2_readAnd_8 hl (by decide) rfl (fun ls hl => ?_)
  exact hJ10 _ _ _ _ _ _ _ ls hf hG (lv_sub hl [2, 3, 4, 1, 0] rfl)

def j_X2_readExpr_47 (n : Nat) (rec : Int32 → Int32 → Mem → Option (Int32 × Mem)) (t0 : Int32) (M : Mem) : Option (Int32 × Mem) := bd (f_X2_fail n  t0 M) (fun q1 => ck (q1.1 = 0 ∨ q1.1 = 1) (some (q1.1, q1.2)))
def j_X2_readExpr_36 (n : Nat) (rec : Int32 → Int32 → Mem → Option (Int32 × Mem)) (t0 : Int32) (M : Mem) : Option (Int32 × Mem) := if t0 = 0 then (j_X2_readExpr_47 n rec (1 : Int32) M) else (j_X2_readExpr_47 n rec (2 : Int32) M)
def j_X2_readExpr_31 (n : Nat) (rec : Int32 → Int32 → Mem → Option (Int32 × Mem)) (M : Mem) : Option (Int32 × Mem) := j_X2_readExpr_36 n rec (1 : Int32) M
def b_X2_readExpr_61 (n : Nat) (rec : Int32 → Int32 → Mem → Option (Int32 × Mem)) (x1 : Int32) (x2 : Int32) (q : (Int32 × Int32 × Mem)) : Option ((Int32 × Int32 × Mem) ⊕ (Int32 × Mem)) := match q with
  | (x3, x4, M) => if (700 : Int32) ≤ x4 then (ck (x3 = 0 ∨ x3 = 1) (mr (some (x3, M)))) else (if x3 = 0 then (ck (x3 = 0 ∨ x3 = 1) (mr (some (x3, M)))) else (bd (f_X2_isWord n 9  M) (fun q8 => if q8.1 = 0 then (ck (x3 = 0 ∨ x3 = 1) (mr (some (x3, q8.2)))) else (bd (f_X2_step n   q8.2) (fun q11 => bd (f_X2_readAnd n rec x1 x2 q11) (fun q12 => ck (isTwB ((gi q12.2 44 2).toNatClampNeg)) (bd (f_X6_write n ((gi q12.2 44 2).toNatClampNeg) x1 (-11 : Int32) q12.2) (fun q14 => some (.inl (q12.1, (x4 + (1 : Int32)), q14))))))))))
def f_X2_readExprB (n : Nat) (rec : Int32 → Int32 → Mem → Option (Int32 × Mem)) (x1 : Int32) (x2 : Int32) (M : Mem) : Option (Int32 × Mem) := if x2 < (6 : Int32) then (bd (f_X2_readAnd n rec x1 x2 M) (fun q16 => gl (b_X2_readExpr_61 n rec x1 x2) n (q16.1, (0 : Int32), q16.2))) else (if (gi M 44 7) = (2 : Int32) then (j_X2_readExpr_31 n rec M) else (if (gi M 44 7) = (1 : Int32) then (j_X2_readExpr_31 n rec M) else (bd (f_X2_isSign n  (40 : Int32) M) (fun q19 => if q19.1 = 0 then (j_X2_readExpr_36 n rec (0 : Int32) q19.2) else (j_X2_readExpr_31 n rec q19.2)))))
set_option maxHeartbeats 4000000 in
set_option maxRecDepth 100000 in
theorem c_X2_readExprB (l : Launch) (w : Wd)  (n : Nat) (rec : Int32 → Int32 → Mem → Option (Int32 × Mem)) (D : Nat) (hD : 20 ≤ D) (hrec : ∀ (x1 x2 : Int32) (M : Mem) (res : Int32 × Mem), rec x1 x2 M = some res → CG l w layC 61 (XN (YC w)) yX2_readExpr cX2_readExpr 5 (some .boolean) D [.ref (w.2.2.1 44), .int x1, .int x2] M (GQi w layC 61 res)) (x1 : Int32) (x2 : Int32) (M : Mem) (res : Int32 × Mem) (hf : f_X2_readExprB n rec x1 x2 M = some res) : CG l w layC 61 (XN (YC w)) yX2_readExpr cX2_readExpr 5 (some .boolean) (D + 7) [.ref (w.2.2.1 44), .int x1, .int x2] M (GQi w layC 61 res) := by
  refine cg_start (by decide +kernel) (Nat.le_of_ble_eq_true rfl) ?_
  intro p e s m args below meth c F hr hlk hX hG ls hl
  have F : FX w p m c cX2_readExpr 5 s args RX2 := F
  obtain ⟨y1, y2, y3, y4, y5, y6, y7, y8, y9, y10, y11, y12⟩ := hX.2.2.2
  have hx := F.1.1
  have hb := F.1.2.1
  have hl : lv_has ls 5 [(0, .ref (w.2.2.1 44)), (1, .int x1), (2, .int x2)] := hl
  have hJ47 : ∀ (t0 : Int32) (M : Mem) (H : Heap) (locs : List Loc) (ls : Array Slot), j_X2_readExpr_47 n rec t0 M = some res → GI w layC 61 s.heap M H locs → lv_has ls 5 [] → W p l e (Rm (D + 7)) s m args below meth c H locs 0 0 (MQ below (GQi w layC 61 res s.heap.size) args s 0 0 (gA w.2.2.1 61 s.heap.size)) (F0 m 47 ls [.int t0, .ref (w.2.2.1 44)]) := by
    intro t0 M H locs ls hf hG hl
    unfold j_X2_readExpr_47 at hf
    replace hf := bd_some hf
    obtain ⟨q1, eq1, hf⟩ := hf
    refine gx_calli hG (gx_runV (xn_ok (yc_ok w)) F hX hG (c_X2_fail l w  n  t0 _ _ eq1) cv_X2_111 (rm_ok (by omega) (by decide)) (g_recv F hG rd_44 (by decide) rfl) rfl hl.1 rfl (Nat.le_of_ble_eq_true rfl) dX2_readExpr_47 ⟨Nat.le_refl _, Nat.le_refl _⟩) (fun H locs hG => ?_)
    replace hf := ck_some hf
    obtain ⟨k2, hf⟩ := hf
    exact cg_zret F hr hlk hG hf k2 dX2_readExpr_50
  have hJ36 : ∀ (t0 : Int32) (M : Mem) (H : Heap) (locs : List Loc) (ls : Array Slot), j_X2_readExpr_36 n rec t0 M = some res → GI w layC 61 s.heap M H locs → lv_has ls 5 [(0, .ref (w.2.2.1 44))] → W p l e (Rm (D + 7)) s m args below meth c H locs 0 0 (MQ below (GQi w layC 61 res s.heap.size) args s 0 0 (gA w.2.2.1 61 s.heap.size)) (F0 m 36 ls [.int t0]) := by
    intro t0 M H locs ls hf hG hl
    unfold j_X2_readExpr_36 at hf
    refine lv_istore_n (lv' := [(3, .int t0), (0, .ref (w.2.2.1 44))]) hx hb dX2_readExpr_36 rfl hl (by decide) rfl (fun ls hl => ?_)
    refine lv_aload_n hx hb dX2_readExpr_37 rfl (lv_at hl 1 rfl) ?_
    refine lv_iload_n hx hb dX2_readExpr_38 rfl (lv_at hl 0 rfl) ?_
    refine lv_if_eq (tgt := 46) hx hb dX2_readExpr_39 (by decide) (fun c3 => ?_) (fun c3 => ?_)
    · replace hf := if_t c3 hf
      refine lv_iconst (v := 1) hx hb dX2_readExpr_46 (by decide) ?_
      exact hJ47 _ _ _ _ ls hf hG (lv_sub hl [] rfl)
    · replace hf := if_f c3 hf
      refine lv_iconst (v := 2) hx hb dX2_readExpr_42 (by decide) ?_
      refine lv_goto (tgt := 47) hx hb dX2_readExpr_43 (by decide) ?_
      exact hJ47 _ _ _ _ ls hf hG (lv_sub hl [] rfl)
  have hJ31 : ∀ (M : Mem) (H : Heap) (locs : List Loc) (ls : Array Slot), j_X2_readExpr_31 n rec  M = some res → GI w layC 61 s.heap M H locs → lv_has ls 5 [(0, .ref (w.2.2.1 44))] → W p l e (Rm (D + 7)) s m args below meth c H locs 0 0 (MQ below (GQi w layC 61 res s.heap.size) args s 0 0 (gA w.2.2.1 61 s.heap.size)) (F0 m 31 ls []) := by
    intro  M H locs ls hf hG hl
    unfold j_X2_readExpr_31 at hf
    refine lv_iconst (v := 1) hx hb dX2_readExpr_31 (by decide) ?_
    refine lv_goto (tgt := 36) hx hb dX2_readExpr_32 (by decide) ?_
    exact hJ36 _ _ _ _ ls hf hG (lv_sub hl [0] rfl)
  have hJ61 : ∀ (x1 : Int32) (x2 : Int32) (x3 : Int32) (x4 : Int32) (M : Mem) (H : Heap) (locs : List Loc) (ls : Array Slot), gl (b_X2_readExpr_61 n rec x1 x2) n (x3, x4, M) = some res → GI w layC 61 s.heap M H locs → lv_has ls 5 [(0, .ref (w.2.2.1 44)), (1, .int x1), (2, .int x2), (3, .int x3), (4, .int x4)] → W p l e (Rm (D + 7)) s m args below meth c H locs 0 0 (MQ below (GQi w layC 61 res s.heap.size) args s 0 0 (gA w.2.2.1 61 s.heap.size)) (F0 m 61 ls []) := by
    intro x1 x2 x3 x4 M H locs ls hf hG hl
    refine gl_run (P := fun (q : (Int32 × Int32 × Mem)) => ∀ (H : Heap) (locs : List Loc) (ls : Array Slot), GI w layC 61 s.heap q.2.2 H locs → lv_has ls 5 [(0, .ref (w.2.2.1 44)), (1, .int x1), (2, .int x2), (3, .int q.1), (4, .int q.2.1)] → W p l e (Rm (D + 7)) s m args below meth c H locs 0 0 (MQ below (GQi w layC 61 res s.heap.size) args s 0 0 (gA w.2.2.1 61 s.heap.size)) (F0 m 61 ls [])) ?_ n (x3, x4, M) hf H locs ls hG hl
    clear hf hG hl ls locs H M x3 x4
    rintro ⟨x3, x4, M⟩ rr61 hf hI61 hE61 H locs ls hG hl
    try dsimp only at hG hl ⊢
    dsimp only [b_X2_readExpr_61] at hf
    refine lv_iload hx hb dX2_readExpr_61 (lv_at hl 4 rfl) ?_
    refine lv_sipush (v := 700) hx hb dX2_readExpr_63 (by decide) ?_
    refine lv_icmp_ge (tgt := 110) hx hb dX2_readExpr_66 (by decide) (fun c4 => ?_) (fun c4 => ?_)
    · replace hf := if_t c4 hf
      refine lv_iload_n hx hb dX2_readExpr_110 rfl (lv_at hl 3 rfl) ?_
      replace hf := ck_some hf
      obtain ⟨k5, hf⟩ := hf
      replace hf := mr_some hf
      obtain ⟨z61, hf, hz⟩ := hf
      rw [hE61 _ hz] at hf
      exact cg_zret F hr hlk hG hf k5 dX2_readExpr_111
    · replace hf := if_f c4 hf
      refine lv_iload_n hx hb dX2_readExpr_69 rfl (lv_at hl 3 rfl) ?_
      refine lv_if_eq (tgt := 110) hx hb dX2_readExpr_70 (by decide) (fun c6 => ?_) (fun c6 => ?_)
      · replace hf := if_t c6 hf
        refine lv_iload_n hx hb dX2_readExpr_110 rfl (lv_at hl 3 rfl) ?_
        replace hf := ck_some hf
        obtain ⟨k7, hf⟩ := hf
        replace hf := mr_some hf
        obtain ⟨z61, hf, hz⟩ := hf
        rw [hE61 _ hz] at hf
        exact cg_zret F hr hlk hG hf k7 dX2_readExpr_111
      · replace hf := if_f c6 hf
        refine lv_aload_n hx hb dX2_readExpr_73 rfl (lv_at hl 0 rfl) ?_
        refine va_gets hx hb (y1.1 9 (by decide)).1 hG.2.2 F.1.2.2.2.1 (F.1.2.2.2.2 _ m_944) (fun _ h9 => h9) dX2_readExpr_74 ?_
        replace hf := bd_some hf
        obtain ⟨q8, eq8, hf⟩ := hf
        refine gx_calli hG (gx_runV (xn_ok (yc_ok w)) F hX hG (c_X2_isWord l w  n 9 (by decide)  _ _ eq8) cv_X2_208 (rm_ok (by omega) (by decide)) (g_recv F hG rd_44 (by decide) rfl) rfl hl.1 rfl (Nat.le_of_ble_eq_true rfl) dX2_readExpr_77 ⟨Nat.le_refl _, Nat.le_refl _⟩) (fun H locs hG => ?_)
        refine lv_if_eq (tgt := 110) hx hb dX2_readExpr_80 (by decide) (fun c9 => ?_) (fun c9 => ?_)
        · replace hf := if_t c9 hf
          refine lv_iload_n hx hb dX2_readExpr_110 rfl (lv_at hl 3 rfl) ?_
          replace hf := ck_some hf
          obtain ⟨k10, hf⟩ := hf
          replace hf := mr_some hf
          obtain ⟨z61, hf, hz⟩ := hf
          rw [hE61 _ hz] at hf
          exact cg_zret F hr hlk hG hf k10 dX2_readExpr_111
        · replace hf := if_f c9 hf
          refine lv_aload_n hx hb dX2_readExpr_83 rfl (lv_at hl 0 rfl) ?_
          replace hf := bd_some hf
          obtain ⟨q11, eq11, hf⟩ := hf
          refine gx_callv hG (gx_runV (xn_ok (yc_ok w)) F hX hG (c_X2_step l w  n   _ _ eq11) cv_X2_84 (rm_ok (by omega) (by decide)) (g_recv F hG rd_44 (by decide) rfl) rfl hl.1 rfl (Nat.le_of_ble_eq_true rfl) dX2_readExpr_84 ⟨Nat.le_refl _, Nat.le_refl _⟩) (fun H locs hG => ?_)
          refine lv_aload_n hx hb dX2_readExpr_87 rfl (lv_at hl 0 rfl) ?_
          refine lv_iload_n hx hb dX2_readExpr_88 rfl (lv_at hl 1 rfl) ?_
          refine lv_iload_n hx hb dX2_readExpr_89 rfl (lv_at hl 2 rfl) ?_
          replace hf := bd_some hf
          obtain ⟨q12, eq12, hf⟩ := hf
          refine gx_calli hG (gx_runV (xn_ok (yc_ok w)) F hX hG (c_X2_readAnd l w n rec D hD hrec x1 x2 _ _ eq12) cv_X2_202 (rm_ok (by omega) (by decide)) (g_recv F hG rd_44 (by decide) rfl) rfl hl.1 rfl (Nat.le_of_ble_eq_true rfl) dX2_readExpr_90 ⟨Nat.le_refl _, Nat.le_refl _⟩) (fun H locs hG => ?_)
          refine lv_istore_n (lv' := [(3, .int q12.1), (0, .ref (w.2.2.1 44)), (1, .int x1), (2, .int x2), (4, .int x4)]) hx hb dX2_readExpr_93 rfl hl (by decide) rfl (fun ls hl => ?_)
          refine lv_aload_n hx hb dX2_readExpr_94 rfl (lv_at hl 1 rfl) ?_
          replace hf := ck_some hf
          obtain ⟨k13, hf⟩ := hf
          refine g_getM F hG rd_44 (by decide) (by decide) lk_X2_25 rfl dX2_readExpr_95 ?_
          refine lv_iload_n hx hb dX2_readExpr_98 rfl (lv_at hl 2 rfl) ?_
          refine lv_bipush (v := -11) hx hb dX2_readExpr_99 (by decide) ?_
          replace hf := bd_some hf
          obtain ⟨q14, eq14, hf⟩ := hf
          refine gx_callv hG (gx_runV (xn_ok (yc_ok w)) F hX hG (c_X6_write l w (yc_ok w) n ((gi q12.2 44 2).toNatClampNeg) (tw_of k13) x1 (-11 : Int32) _ _ eq14) cv_X2_212 (rm_ok (by omega) (by decide)) (g_recv F hG (tw_of k13).1 (by decide) rfl) rfl hl.1 rfl (Nat.le_of_ble_eq_true rfl) dX2_readExpr_101 ⟨Nat.le_refl _, Nat.le_refl _⟩) (fun H locs hG => ?_)
          refine lv_iinc (v := (x4 + (1 : Int32))) (lv' := [(4, .int (x4 + (1 : Int32))), (3, .int q12.1), (0, .ref (w.2.2.1 44)), (1, .int x1), (2, .int x2)]) hx hb dX2_readExpr_104 hl (k := 4) rfl rfl (by decide) rfl (fun ls hl => ?_)
          refine lv_goto (tgt := 61) hx hb dX2_readExpr_107 (by decide) ?_
          exact hI61 _ (Option.some.inj hf).symm _ _ ls hG (lv_sub hl [2, 3, 4, 1, 0] rfl)
  unfold f_X2_readExprB at hf
  refine lv_iload_n hx hb dX2_readExpr_0 rfl (lv_at hl 2 rfl) ?_
  refine lv_bipush (v := 6) hx hb dX2_readExpr_1 (by decide) ?_
  refine lv_icmp_lt (tgt := 51) hx hb dX2_readExpr_3 (by decide) (fun c15 => ?_) (fun c15 => ?_)
  · replace hf := if_t c15 hf
    refine lv_aload_n hx hb dX2_readExpr_51 rfl (lv_at hl 0 rfl) ?_
    refine lv_iload_n hx hb dX2_readExpr_52 rfl (lv_at hl 1 rfl) ?_
    refine lv_iload_n hx hb dX2_readExpr_53 rfl (lv_at hl 2 rfl) ?_
    replace hf := bd_some hf
    obtain ⟨q16, eq16, hf⟩ := hf
    refine gx_calli hG (gx_runV (xn_ok (yc_ok w)) F hX hG (c_X2_readAnd l w n rec D hD hrec x1 x2 _ _ eq16) cv_X2_202 (rm_ok (by omega) (by decide)) (g_recv F hG rd_44 (by decide) rfl) rfl hl.1 rfl (Nat.le_of_ble_eq_true rfl) dX2_readExpr_54 ⟨Nat.le_refl _, Nat.le_refl _⟩) (fun H locs hG => ?_)
    refine lv_istore_n (lv' := [(3, .int q16.1), (0, .ref (w.2.2.1 44)), (1, .int x1), (2, .int x2)]) hx hb dX2_readExpr_57 rfl hl (by decide) rfl (fun ls hl => ?_)
    refine lv_iconst (v := 0) hx hb dX2_readExpr_58 (by decide) ?_
    refine lv_istore (lv' := [(4, .int (0 : Int32)), (3, .int q16.1), (0, .ref (w.2.2.1 44)), (1, .int x1), (2, .int x2)]) hx hb dX2_readExpr_59 hl (by decide) rfl (fun ls hl => ?_)
    exact hJ61 _ _ _ _ _ _ _ ls hf hG (lv_sub hl [2, 3, 4, 1, 0] rfl)
  · replace hf := if_f c15 hf
    refine lv_aload_n hx hb dX2_readExpr_6 rfl (lv_at hl 0 rfl) ?_
    refine g_getI F hG rd_44 (by decide) (by decide) lk_X2_42 rfl dX2_readExpr_7 ?_
    refine lv_iconst (v := 2) hx hb dX2_readExpr_10 (by decide) ?_
    refine lv_icmp_eq (tgt := 31) hx hb dX2_readExpr_11 (by decide) (fun c17 => ?_) (fun c17 => ?_)
    · replace hf := if_t c17 hf
      exact hJ31  _ _ _ ls hf hG (lv_sub hl [0] rfl)
    · replace hf := if_f c17 hf
      refine lv_aload_n hx hb dX2_readExpr_14 rfl (lv_at hl 0 rfl) ?_
      refine g_getI F hG rd_44 (by decide) (by decide) lk_X2_42 rfl dX2_readExpr_15 ?_
      refine lv_iconst (v := 1) hx hb dX2_readExpr_18 (by decide) ?_
      refine lv_icmp_eq (tgt := 31) hx hb dX2_readExpr_19 (by decide) (fun c18 => ?_) (fun c18 => ?_)
      · replace hf := if_t c18 hf
        exact hJ31  _ _ _ ls hf hG (lv_sub hl [0] rfl)
      · replace hf := if_f c18 hf
        refine lv_aload_n hx hb dX2_readExpr_22 rfl (lv_at hl 0 rfl) ?_
        refine lv_bipush (v := 40) hx hb dX2_readExpr_23 (by decide) ?_
        replace hf := bd_some hf
        obtain ⟨q19, eq19, hf⟩ := hf
        refine gx_calli hG (gx_runV (xn_ok (yc_ok w)) F hX hG (c_X2_isSign l w  n  (40 : Int32) _ _ eq19) cv_X2_189 (rm_ok (by omega) (by decide)) (g_recv F hG rd_44 (by decide) rfl) rfl hl.1 rfl (Nat.le_of_ble_eq_true rfl) dX2_readExpr_25 ⟨Nat.le_refl _, Nat.le_refl _⟩) (fun H locs hG => ?_)
        refine lv_if_eq (tgt := 35) hx hb dX2_readExpr_28 (by decide) (fun c20 => ?_) (fun c20 => ?_)
        · replace hf := if_t c20 hf
          refine lv_iconst (v := 0) hx hb dX2_readExpr_35 (by decide) ?_
          exact hJ36 _ _ _ _ ls hf hG (lv_sub hl [0] rfl)
        · replace hf := if_f c20 hf
          exact hJ31  _ _ _ ls hf hG (lv_sub hl [0] rfl)

def f_X2_readExpr8 (n : Nat) : Nat → Int32 → Int32 → Mem → Option (Int32 × Mem)
  | 0 => fun _ _ _ => none
  | k + 1 => fun x1 x2 M => f_X2_readExprB n (f_X2_readExpr8 n k) x1 x2 M
theorem c_X2_readExpr8 (l : Launch) (w : Wd) (n : Nat) : ∀ (k : Nat) (x1 x2 : Int32) (M : Mem) (res : Int32 × Mem), f_X2_readExpr8 n k x1 x2 M = some res → CG l w layC 61 (XN (YC w)) yX2_readExpr cX2_readExpr 5 (some .boolean) (20 + 7 * k) [.ref (w.2.2.1 44), .int x1, .int x2] M (GQi w layC 61 res) := by
  intro k
  induction k with
  | zero => intro x1 x2 M res hf; cases hf
  | succ k ih =>
    intro x1 x2 M res hf
    rw [show 20 + 7 * (k + 1) = 20 + 7 * k + 7 by omega]
    exact c_X2_readExprB l w n _ (20 + 7 * k) (by omega) ih x1 x2 M res hf
def f_X2_readExpr (n : Nat) (x1 : Int32) (x2 : Int32) (M : Mem) : Option (Int32 × Mem) := f_X2_readExpr8 n 8 x1 x2 M
theorem c_X2_readExpr (l : Launch) (w : Wd) (n : Nat) (x1 : Int32) (x2 : Int32) (M : Mem) (res : Int32 × Mem) (hf : f_X2_readExpr n x1 x2 M = some res) : CG l w layC 61 (XN (YC w)) yX2_readExpr cX2_readExpr 5 (some .boolean) 76 [.ref (w.2.2.1 44), .int x1, .int x2] M (GQi w layC 61 res) := c_X2_readExpr8 l w n 8 x1 x2 M res hf

def f_X2_readRule (n : Nat) (x1 : Int32) (M : Mem) : Option (Int32 × Mem) := ck (isTwB ((gi M 44 2).toNatClampNeg)) (bd (f_X6_hasRule n ((gi M 44 2).toNatClampNeg) x1 M) (fun q2 => if q2.1 = 0 then (ck (isTwB ((gi q2.2 44 2).toNatClampNeg)) (bd (f_X6_beginRule n ((gi q2.2 44 2).toNatClampNeg) x1 q2.2) (fun q5 => bd (f_X2_step n   q5) (fun q6 => bd (f_X2_readExpr n  x1 (0 : Int32) q6) (fun q7 => if q7.1 = 0 then (some ((0 : Int32), q7.2)) else (bd (f_X2_endLine n   q7.2) (fun q9 => if q9.1 = 0 then (some ((0 : Int32), q9.2)) else (some ((1 : Int32), q9.2))))))))) else (bd (f_X2_fail n  (5 : Int32) q2.2) (fun q11 => ck (q11.1 = 0 ∨ q11.1 = 1) (some (q11.1, q11.2))))))
set_option maxHeartbeats 4000000 in
set_option maxRecDepth 100000 in
theorem c_X2_readRule (l : Launch) (w : Wd)  (n : Nat) (x1 : Int32) (M : Mem) (res : Int32 × Mem) (hf : f_X2_readRule n  x1 M = some res) : CG l w layC 61 (XN (YC w)) yX2_readRule cX2_readRule 2 (some .boolean) 77 [.ref (w.2.2.1 44), .int x1] M (GQi w layC 61 res) := by
  refine cg_start (by decide +kernel) (Nat.le_of_ble_eq_true rfl) ?_
  intro p e s m args below meth c F hr hlk hX hG ls hl
  have F : FX w p m c cX2_readRule 2 s args RX2 := F
  have hx := F.1.1
  have hb := F.1.2.1
  have hl : lv_has ls 2 [(0, .ref (w.2.2.1 44)), (1, .int x1)] := hl
  unfold f_X2_readRule at hf
  refine lv_aload_n hx hb dX2_readRule_0 rfl (lv_at hl 0 rfl) ?_
  replace hf := ck_some hf
  obtain ⟨k1, hf⟩ := hf
  refine g_getM F hG rd_44 (by decide) (by decide) lk_X2_25 rfl dX2_readRule_1 ?_
  refine lv_iload_n hx hb dX2_readRule_4 rfl (lv_at hl 1 rfl) ?_
  replace hf := bd_some hf
  obtain ⟨q2, eq2, hf⟩ := hf
  refine gx_calli hG (gx_runV (xn_ok (yc_ok w)) F hX hG (c_X6_hasRule l w (yc_ok w) n ((gi M 44 2).toNatClampNeg) (tw_of k1) x1 _ _ eq2) cv_X2_193 ⟨Nat.le_of_ble_eq_true rfl, Nat.le_of_ble_eq_true rfl⟩ (g_recv F hG (tw_of k1).1 (by decide) rfl) rfl hl.1 rfl (Nat.le_of_ble_eq_true rfl) dX2_readRule_5 ⟨Nat.le_refl _, Nat.le_refl _⟩) (fun H locs hG => ?_)
  refine lv_if_eq (tgt := 17) hx hb dX2_readRule_8 (by decide) (fun c3 => ?_) (fun c3 => ?_)
  · replace hf := if_t c3 hf
    refine lv_aload_n hx hb dX2_readRule_17 rfl (lv_at hl 0 rfl) ?_
    replace hf := ck_some hf
    obtain ⟨k4, hf⟩ := hf
    refine g_getM F hG rd_44 (by decide) (by decide) lk_X2_25 rfl dX2_readRule_18 ?_
    refine lv_iload_n hx hb dX2_readRule_21 rfl (lv_at hl 1 rfl) ?_
    replace hf := bd_some hf
    obtain ⟨q5, eq5, hf⟩ := hf
    refine gx_callv hG (gx_runV (xn_ok (yc_ok w)) F hX hG (c_X6_beginRule l w (yc_ok w) n ((gi q2.2 44 2).toNatClampNeg) (tw_of k4) x1 _ _ eq5) cv_X2_196 ⟨Nat.le_of_ble_eq_true rfl, Nat.le_of_ble_eq_true rfl⟩ (g_recv F hG (tw_of k4).1 (by decide) rfl) rfl hl.1 rfl (Nat.le_of_ble_eq_true rfl) dX2_readRule_22 ⟨Nat.le_refl _, Nat.le_refl _⟩) (fun H locs hG => ?_)
    refine lv_aload_n hx hb dX2_readRule_25 rfl (lv_at hl 0 rfl) ?_
    replace hf := bd_some hf
    obtain ⟨q6, eq6, hf⟩ := hf
    refine gx_callv hG (gx_runV (xn_ok (yc_ok w)) F hX hG (c_X2_step l w  n   _ _ eq6) cv_X2_84 ⟨Nat.le_of_ble_eq_true rfl, Nat.le_of_ble_eq_true rfl⟩ (g_recv F hG rd_44 (by decide) rfl) rfl hl.1 rfl (Nat.le_of_ble_eq_true rfl) dX2_readRule_26 ⟨Nat.le_refl _, Nat.le_refl _⟩) (fun H locs hG => ?_)
    refine lv_aload_n hx hb dX2_readRule_29 rfl (lv_at hl 0 rfl) ?_
    refine lv_iload_n hx hb dX2_readRule_30 rfl (lv_at hl 1 rfl) ?_
    refine lv_iconst (v := 0) hx hb dX2_readRule_31 (by decide) ?_
    replace hf := bd_some hf
    obtain ⟨q7, eq7, hf⟩ := hf
    refine gx_calli hG (gx_runV (xn_ok (yc_ok w)) F hX hG (c_X2_readExpr l w  n  x1 (0 : Int32) _ _ eq7) cv_X2_199 ⟨Nat.le_of_ble_eq_true rfl, Nat.le_of_ble_eq_true rfl⟩ (g_recv F hG rd_44 (by decide) rfl) rfl hl.1 rfl (Nat.le_of_ble_eq_true rfl) dX2_readRule_32 ⟨Nat.le_refl _, Nat.le_refl _⟩) (fun H locs hG => ?_)
    refine lv_if_eq (tgt := 49) hx hb dX2_readRule_35 (by decide) (fun c8 => ?_) (fun c8 => ?_)
    · replace hf := if_t c8 hf
      refine lv_iconst (v := 0) hx hb dX2_readRule_49 (by decide) ?_
      exact cg_zret F hr hlk hG hf (Or.inl rfl) dX2_readRule_50
    · replace hf := if_f c8 hf
      refine lv_aload_n hx hb dX2_readRule_38 rfl (lv_at hl 0 rfl) ?_
      replace hf := bd_some hf
      obtain ⟨q9, eq9, hf⟩ := hf
      refine gx_calli hG (gx_runV (xn_ok (yc_ok w)) F hX hG (c_X2_endLine l w  n   _ _ eq9) cv_X2_157 ⟨Nat.le_of_ble_eq_true rfl, Nat.le_of_ble_eq_true rfl⟩ (g_recv F hG rd_44 (by decide) rfl) rfl hl.1 rfl (Nat.le_of_ble_eq_true rfl) dX2_readRule_39 ⟨Nat.le_refl _, Nat.le_refl _⟩) (fun H locs hG => ?_)
      refine lv_if_eq (tgt := 49) hx hb dX2_readRule_42 (by decide) (fun c10 => ?_) (fun c10 => ?_)
      · replace hf := if_t c10 hf
        refine lv_iconst (v := 0) hx hb dX2_readRule_49 (by decide) ?_
        exact cg_zret F hr hlk hG hf (Or.inl rfl) dX2_readRule_50
      · replace hf := if_f c10 hf
        refine lv_iconst (v := 1) hx hb dX2_readRule_45 (by decide) ?_
        refine lv_goto (tgt := 50) hx hb dX2_readRule_46 (by decide) ?_
        exact cg_zret F hr hlk hG hf (Or.inr rfl) dX2_readRule_50
  · replace hf := if_f c3 hf
    refine lv_aload_n hx hb dX2_readRule_11 rfl (lv_at hl 0 rfl) ?_
    refine lv_iconst (v := 5) hx hb dX2_readRule_12 (by decide) ?_
    replace hf := bd_some hf
    obtain ⟨q11, eq11, hf⟩ := hf
    refine gx_calli hG (gx_runV (xn_ok (yc_ok w)) F hX hG (c_X2_fail l w  n  (5 : Int32) _ _ eq11) cv_X2_111 ⟨Nat.le_of_ble_eq_true rfl, Nat.le_of_ble_eq_true rfl⟩ (g_recv F hG rd_44 (by decide) rfl) rfl hl.1 rfl (Nat.le_of_ble_eq_true rfl) dX2_readRule_13 ⟨Nat.le_refl _, Nat.le_refl _⟩) (fun H locs hG => ?_)
    replace hf := ck_some hf
    obtain ⟨k12, hf⟩ := hf
    exact cg_zret F hr hlk hG hf k12 dX2_readRule_16

def f_X2_readLine (n : Nat) (M : Mem) : Option (Int32 × Mem) := if (gi M 44 7) = (1 : Int32) then (ck ((gi M 44 10).toNatClampNeg < 22) (bd (f_Jx29ce0_ordinal_8abf5 n ((gi M 44 10).toNatClampNeg) M) (fun q3 => ck (inb q3.1 22) (if (swL.getD q3.1.toNatClampNeg 0) = (1 : Int32) then (bd (f_X2_readCourse n  (1 : Int32) q3.2) (fun q6 => ck (q6.1 = 0 ∨ q6.1 = 1) (some (q6.1, q6.2)))) else (if (swL.getD q3.1.toNatClampNeg 0) = (2 : Int32) then (bd (f_X2_readCourse n  (0 : Int32) q3.2) (fun q9 => ck (q9.1 = 0 ∨ q9.1 = 1) (some (q9.1, q9.2)))) else (if (swL.getD q3.1.toNatClampNeg 0) = (3 : Int32) then (bd (f_X2_readGround n   q3.2) (fun q12 => ck (q12.1 = 0 ∨ q12.1 = 1) (some (q12.1, q12.2)))) else (if (swL.getD q3.1.toNatClampNeg 0) = (4 : Int32) then (bd (f_X2_readCost n   q3.2) (fun q15 => ck (q15.1 = 0 ∨ q15.1 = 1) (some (q15.1, q15.2)))) else (if (swL.getD q3.1.toNatClampNeg 0) = (5 : Int32) then (bd (f_X2_readWard n   q3.2) (fun q18 => ck (q18.1 = 0 ∨ q18.1 = 1) (some (q18.1, q18.2)))) else (if (swL.getD q3.1.toNatClampNeg 0) = (6 : Int32) then (bd (f_X2_readStreet n   q3.2) (fun q21 => ck (q21.1 = 0 ∨ q21.1 = 1) (some (q21.1, q21.2)))) else (if (swL.getD q3.1.toNatClampNeg 0) = (7 : Int32) then (bd (f_X2_readWinds n   q3.2) (fun q24 => ck (q24.1 = 0 ∨ q24.1 = 1) (some (q24.1, q24.2)))) else (if (swL.getD q3.1.toNatClampNeg 0) = (8 : Int32) then (bd (f_X2_readRule n  (0 : Int32) q3.2) (fun q27 => ck (q27.1 = 0 ∨ q27.1 = 1) (some (q27.1, q27.2)))) else (if (swL.getD q3.1.toNatClampNeg 0) = (9 : Int32) then (bd (f_X2_readRule n  (1 : Int32) q3.2) (fun q30 => ck (q30.1 = 0 ∨ q30.1 = 1) (some (q30.1, q30.2)))) else (if (swL.getD q3.1.toNatClampNeg 0) = (10 : Int32) then (bd (f_X2_readRule n  (2 : Int32) q3.2) (fun q33 => ck (q33.1 = 0 ∨ q33.1 = 1) (some (q33.1, q33.2)))) else (bd (f_X2_fail n  (1 : Int32) q3.2) (fun q35 => ck (q35.1 = 0 ∨ q35.1 = 1) (some (q35.1, q35.2))))))))))))))))) else (bd (f_X2_fail n  (1 : Int32) M) (fun q37 => ck (q37.1 = 0 ∨ q37.1 = 1) (some (q37.1, q37.2))))
set_option maxHeartbeats 4000000 in
set_option maxRecDepth 100000 in
theorem c_X2_readLine (l : Launch) (w : Wd)  (n : Nat) (M : Mem) (res : Int32 × Mem) (hf : f_X2_readLine n   M = some res) : CG l w layC 61 (XN (YC w)) yX2_readLine cX2_readLine 1 (some .boolean) 78 [.ref (w.2.2.1 44)] M (GQi w layC 61 res) := by
  refine cg_start (by decide +kernel) (Nat.le_of_ble_eq_true rfl) ?_
  intro p e s m args below meth c F hr hlk hX hG ls hl
  have F : FX w p m c cX2_readLine 1 s args RX2 := F
  obtain ⟨y1, y2, y3, y4, y5, y6, y7, y8, y9, y10, y11, y12⟩ := hX.2.2.2
  have hx := F.1.1
  have hb := F.1.2.1
  have hl : lv_has ls 1 [(0, .ref (w.2.2.1 44))] := hl
  unfold f_X2_readLine at hf
  refine lv_aload_n hx hb dX2_readLine_0 rfl (lv_at hl 0 rfl) ?_
  refine g_getI F hG rd_44 (by decide) (by decide) lk_X2_42 rfl dX2_readLine_1 ?_
  refine lv_iconst (v := 1) hx hb dX2_readLine_4 (by decide) ?_
  refine lv_icmp_eq (tgt := 14) hx hb dX2_readLine_5 (by decide) (fun c1 => ?_) (fun c1 => ?_)
  · replace hf := if_t c1 hf
    refine va_gets hx hb y8 hG.2.2 F.1.2.2.2.1 (F.1.2.2.2.2 _ m_823) (fun _ h9 => h9) dX2_readLine_14 ?_
    refine lv_aload_n hx hb dX2_readLine_17 rfl (lv_at hl 0 rfl) ?_
    refine g_getE F hG rd_44 (by decide) (by decide) lk_X2_58 rfl dX2_readLine_18 ?_
    replace hf := ck_some hf
    obtain ⟨k2, hf⟩ := hf
    replace hf := bd_some hf
    obtain ⟨q3, eq3, hf⟩ := hf
    refine gx_calli hG (gx_runU (xn_ok (yc_ok w)) F hX hG (c_Jx29ce0_ordinal_8abf5 l w n ((gi M 44 10).toNatClampNeg) k2 _ _ eq3) cu_X2_121 rfl ⟨by decide +kernel, by decide +kernel, by decide +kernel⟩ ⟨Nat.le_of_ble_eq_true rfl, Nat.le_of_ble_eq_true rfl⟩ (va_recvE y1 k2 hG.2.2) rfl hl.1 rfl (Nat.le_of_ble_eq_true rfl) dX2_readLine_21 ⟨Nat.le_refl _, Nat.le_refl _⟩) (fun H locs hG => ?_)
    replace hf := ck_some hf
    obtain ⟨k4, hf⟩ := hf
    refine va_ti hx hb y9 hG.2.2 k4 rfl dX2_readLine_24 ?_
    by_cases c5 : (swL.getD q3.1.toNatClampNeg 0) = (1 : Int32)
    · replace hf := if_t c5 hf
      refine lv_tableIn (off := 55) (tgt := 80) hx hb dX2_readLine_25 (by rw [c5]; decide) (by rw [c5]; decide) (by rw [c5]; rfl) (by decide) ?_
      refine lv_aload_n hx hb dX2_readLine_80 rfl (lv_at hl 0 rfl) ?_
      refine lv_iconst (v := 1) hx hb dX2_readLine_81 (by decide) ?_
      replace hf := bd_some hf
      obtain ⟨q6, eq6, hf⟩ := hf
      refine gx_calli hG (gx_runV (xn_ok (yc_ok w)) F hX hG (c_X2_readCourse l w  n  (1 : Int32) _ _ eq6) cv_X2_124 ⟨Nat.le_of_ble_eq_true rfl, Nat.le_of_ble_eq_true rfl⟩ (g_recv F hG rd_44 (by decide) rfl) rfl hl.1 rfl (Nat.le_of_ble_eq_true rfl) dX2_readLine_82 ⟨Nat.le_refl _, Nat.le_refl _⟩) (fun H locs hG => ?_)
      replace hf := ck_some hf
      obtain ⟨k7, hf⟩ := hf
      exact cg_zret F hr hlk hG hf k7 dX2_readLine_85
    replace hf := if_f c5 hf
    by_cases c8 : (swL.getD q3.1.toNatClampNeg 0) = (2 : Int32)
    · replace hf := if_t c8 hf
      refine lv_tableIn (off := 61) (tgt := 86) hx hb dX2_readLine_25 (by rw [c8]; decide) (by rw [c8]; decide) (by rw [c8]; rfl) (by decide) ?_
      refine lv_aload_n hx hb dX2_readLine_86 rfl (lv_at hl 0 rfl) ?_
      refine lv_iconst (v := 0) hx hb dX2_readLine_87 (by decide) ?_
      replace hf := bd_some hf
      obtain ⟨q9, eq9, hf⟩ := hf
      refine gx_calli hG (gx_runV (xn_ok (yc_ok w)) F hX hG (c_X2_readCourse l w  n  (0 : Int32) _ _ eq9) cv_X2_124 ⟨Nat.le_of_ble_eq_true rfl, Nat.le_of_ble_eq_true rfl⟩ (g_recv F hG rd_44 (by decide) rfl) rfl hl.1 rfl (Nat.le_of_ble_eq_true rfl) dX2_readLine_88 ⟨Nat.le_refl _, Nat.le_refl _⟩) (fun H locs hG => ?_)
      replace hf := ck_some hf
      obtain ⟨k10, hf⟩ := hf
      exact cg_zret F hr hlk hG hf k10 dX2_readLine_91
    replace hf := if_f c8 hf
    by_cases c11 : (swL.getD q3.1.toNatClampNeg 0) = (3 : Int32)
    · replace hf := if_t c11 hf
      refine lv_tableIn (off := 67) (tgt := 92) hx hb dX2_readLine_25 (by rw [c11]; decide) (by rw [c11]; decide) (by rw [c11]; rfl) (by decide) ?_
      refine lv_aload_n hx hb dX2_readLine_92 rfl (lv_at hl 0 rfl) ?_
      replace hf := bd_some hf
      obtain ⟨q12, eq12, hf⟩ := hf
      refine gx_calli hG (gx_runV (xn_ok (yc_ok w)) F hX hG (c_X2_readGround l w  n   _ _ eq12) cv_X2_128 ⟨Nat.le_of_ble_eq_true rfl, Nat.le_of_ble_eq_true rfl⟩ (g_recv F hG rd_44 (by decide) rfl) rfl hl.1 rfl (Nat.le_of_ble_eq_true rfl) dX2_readLine_93 ⟨Nat.le_refl _, Nat.le_refl _⟩) (fun H locs hG => ?_)
      replace hf := ck_some hf
      obtain ⟨k13, hf⟩ := hf
      exact cg_zret F hr hlk hG hf k13 dX2_readLine_96
    replace hf := if_f c11 hf
    by_cases c14 : (swL.getD q3.1.toNatClampNeg 0) = (4 : Int32)
    · replace hf := if_t c14 hf
      refine lv_tableIn (off := 72) (tgt := 97) hx hb dX2_readLine_25 (by rw [c14]; decide) (by rw [c14]; decide) (by rw [c14]; rfl) (by decide) ?_
      refine lv_aload_n hx hb dX2_readLine_97 rfl (lv_at hl 0 rfl) ?_
      replace hf := bd_some hf
      obtain ⟨q15, eq15, hf⟩ := hf
      refine gx_calli hG (gx_runV (xn_ok (yc_ok w)) F hX hG (c_X2_readCost l w  n   _ _ eq15) cv_X2_131 ⟨Nat.le_of_ble_eq_true rfl, Nat.le_of_ble_eq_true rfl⟩ (g_recv F hG rd_44 (by decide) rfl) rfl hl.1 rfl (Nat.le_of_ble_eq_true rfl) dX2_readLine_98 ⟨Nat.le_refl _, Nat.le_refl _⟩) (fun H locs hG => ?_)
      replace hf := ck_some hf
      obtain ⟨k16, hf⟩ := hf
      exact cg_zret F hr hlk hG hf k16 dX2_readLine_101
    replace hf := if_f c14 hf
    by_cases c17 : (swL.getD q3.1.toNatClampNeg 0) = (5 : Int32)
    · replace hf := if_t c17 hf
      refine lv_tableIn (off := 77) (tgt := 102) hx hb dX2_readLine_25 (by rw [c17]; decide) (by rw [c17]; decide) (by rw [c17]; rfl) (by decide) ?_
      refine lv_aload_n hx hb dX2_readLine_102 rfl (lv_at hl 0 rfl) ?_
      replace hf := bd_some hf
      obtain ⟨q18, eq18, hf⟩ := hf
      refine gx_calli hG (gx_runV (xn_ok (yc_ok w)) F hX hG (c_X2_readWard l w  n   _ _ eq18) cv_X2_134 ⟨Nat.le_of_ble_eq_true rfl, Nat.le_of_ble_eq_true rfl⟩ (g_recv F hG rd_44 (by decide) rfl) rfl hl.1 rfl (Nat.le_of_ble_eq_true rfl) dX2_readLine_103 ⟨Nat.le_refl _, Nat.le_refl _⟩) (fun H locs hG => ?_)
      replace hf := ck_some hf
      obtain ⟨k19, hf⟩ := hf
      exact cg_zret F hr hlk hG hf k19 dX2_readLine_106
    replace hf := if_f c17 hf
    by_cases c20 : (swL.getD q3.1.toNatClampNeg 0) = (6 : Int32)
    · replace hf := if_t c20 hf
      refine lv_tableIn (off := 82) (tgt := 107) hx hb dX2_readLine_25 (by rw [c20]; decide) (by rw [c20]; decide) (by rw [c20]; rfl) (by decide) ?_
      refine lv_aload_n hx hb dX2_readLine_107 rfl (lv_at hl 0 rfl) ?_
      replace hf := bd_some hf
      obtain ⟨q21, eq21, hf⟩ := hf
      refine gx_calli hG (gx_runV (xn_ok (yc_ok w)) F hX hG (c_X2_readStreet l w  n   _ _ eq21) cv_X2_137 ⟨Nat.le_of_ble_eq_true rfl, Nat.le_of_ble_eq_true rfl⟩ (g_recv F hG rd_44 (by decide) rfl) rfl hl.1 rfl (Nat.le_of_ble_eq_true rfl) dX2_readLine_108 ⟨Nat.le_refl _, Nat.le_refl _⟩) (fun H locs hG => ?_)
      replace hf := ck_some hf
      obtain ⟨k22, hf⟩ := hf
      exact cg_zret F hr hlk hG hf k22 dX2_readLine_111
    replace hf := if_f c20 hf
    by_cases c23 : (swL.getD q3.1.toNatClampNeg 0) = (7 : Int32)
    · replace hf := if_t c23 hf
      refine lv_tableIn (off := 87) (tgt := 112) hx hb dX2_readLine_25 (by rw [c23]; decide) (by rw [c23]; decide) (by rw [c23]; rfl) (by decide) ?_
      refine lv_aload_n hx hb dX2_readLine_112 rfl (lv_at hl 0 rfl) ?_
      replace hf := bd_some hf
      obtain ⟨q24, eq24, hf⟩ := hf
      refine gx_calli hG (gx_runV (xn_ok (yc_ok w)) F hX hG (c_X2_readWinds l w  n   _ _ eq24) cv_X2_140 ⟨Nat.le_of_ble_eq_true rfl, Nat.le_of_ble_eq_true rfl⟩ (g_recv F hG rd_44 (by decide) rfl) rfl hl.1 rfl (Nat.le_of_ble_eq_true rfl) dX2_readLine_113 ⟨Nat.le_refl _, Nat.le_refl _⟩) (fun H locs hG => ?_)
      replace hf := ck_some hf
      obtain ⟨k25, hf⟩ := hf
      exact cg_zret F hr hlk hG hf k25 dX2_readLine_116
    replace hf := if_f c23 hf
    by_cases c26 : (swL.getD q3.1.toNatClampNeg 0) = (8 : Int32)
    · replace hf := if_t c26 hf
      refine lv_tableIn (off := 92) (tgt := 117) hx hb dX2_readLine_25 (by rw [c26]; decide) (by rw [c26]; decide) (by rw [c26]; rfl) (by decide) ?_
      refine lv_aload_n hx hb dX2_readLine_117 rfl (lv_at hl 0 rfl) ?_
      refine lv_iconst (v := 0) hx hb dX2_readLine_118 (by decide) ?_
      replace hf := bd_some hf
      obtain ⟨q27, eq27, hf⟩ := hf
      refine gx_calli hG (gx_runV (xn_ok (yc_ok w)) F hX hG (c_X2_readRule l w  n  (0 : Int32) _ _ eq27) cv_X2_143 ⟨Nat.le_of_ble_eq_true rfl, Nat.le_of_ble_eq_true rfl⟩ (g_recv F hG rd_44 (by decide) rfl) rfl hl.1 rfl (Nat.le_of_ble_eq_true rfl) dX2_readLine_119 ⟨Nat.le_refl _, Nat.le_refl _⟩) (fun H locs hG => ?_)
      replace hf := ck_some hf
      obtain ⟨k28, hf⟩ := hf
      exact cg_zret F hr hlk hG hf k28 dX2_readLine_122
    replace hf := if_f c26 hf
    by_cases c29 : (swL.getD q3.1.toNatClampNeg 0) = (9 : Int32)
    · replace hf := if_t c29 hf
      refine lv_tableIn (off := 98) (tgt := 123) hx hb dX2_readLine_25 (by rw [c29]; decide) (by rw [c29]; decide) (by rw [c29]; rfl) (by decide) ?_
      refine lv_aload_n hx hb dX2_readLine_123 rfl (lv_at hl 0 rfl) ?_
      refine lv_iconst (v := 1) hx hb dX2_readLine_124 (by decide) ?_
      replace hf := bd_some hf
      obtain ⟨q30, eq30, hf⟩ := hf
      refine gx_calli hG (gx_runV (xn_ok (yc_ok w)) F hX hG (c_X2_readRule l w  n  (1 : Int32) _ _ eq30) cv_X2_143 ⟨Nat.le_of_ble_eq_true rfl, Nat.le_of_ble_eq_true rfl⟩ (g_recv F hG rd_44 (by decide) rfl) rfl hl.1 rfl (Nat.le_of_ble_eq_true rfl) dX2_readLine_125 ⟨Nat.le_refl _, Nat.le_refl _⟩) (fun H locs hG => ?_)
      replace hf := ck_some hf
      obtain ⟨k31, hf⟩ := hf
      exact cg_zret F hr hlk hG hf k31 dX2_readLine_128
    replace hf := if_f c29 hf
    by_cases c32 : (swL.getD q3.1.toNatClampNeg 0) = (10 : Int32)
    · replace hf := if_t c32 hf
      refine lv_tableIn (off := 104) (tgt := 129) hx hb dX2_readLine_25 (by rw [c32]; decide) (by rw [c32]; decide) (by rw [c32]; rfl) (by decide) ?_
      refine lv_aload_n hx hb dX2_readLine_129 rfl (lv_at hl 0 rfl) ?_
      refine lv_iconst (v := 2) hx hb dX2_readLine_130 (by decide) ?_
      replace hf := bd_some hf
      obtain ⟨q33, eq33, hf⟩ := hf
      refine gx_calli hG (gx_runV (xn_ok (yc_ok w)) F hX hG (c_X2_readRule l w  n  (2 : Int32) _ _ eq33) cv_X2_143 ⟨Nat.le_of_ble_eq_true rfl, Nat.le_of_ble_eq_true rfl⟩ (g_recv F hG rd_44 (by decide) rfl) rfl hl.1 rfl (Nat.le_of_ble_eq_true rfl) dX2_readLine_131 ⟨Nat.le_refl _, Nat.le_refl _⟩) (fun H locs hG => ?_)
      replace hf := ck_some hf
      obtain ⟨k34, hf⟩ := hf
      exact cg_zret F hr hlk hG hf k34 dX2_readLine_134
    replace hf := if_f c32 hf
    refine lv_tableOut (tgt := 135) hx hb dX2_readLine_25 (sw_out (1) (10) 10 (by decide) (fun k hk => match k, hk with | 0, _ => c5 | 1, _ => c8 | 2, _ => c11 | 3, _ => c14 | 4, _ => c17 | 5, _ => c20 | 6, _ => c23 | 7, _ => c26 | 8, _ => c29 | 9, _ => c32 | k + 10, h => absurd h (by omega))) (by decide) ?_
    refine lv_aload_n hx hb dX2_readLine_135 rfl (lv_at hl 0 rfl) ?_
    refine lv_iconst (v := 1) hx hb dX2_readLine_136 (by decide) ?_
    replace hf := bd_some hf
    obtain ⟨q35, eq35, hf⟩ := hf
    refine gx_calli hG (gx_runV (xn_ok (yc_ok w)) F hX hG (c_X2_fail l w  n  (1 : Int32) _ _ eq35) cv_X2_111 ⟨Nat.le_of_ble_eq_true rfl, Nat.le_of_ble_eq_true rfl⟩ (g_recv F hG rd_44 (by decide) rfl) rfl hl.1 rfl (Nat.le_of_ble_eq_true rfl) dX2_readLine_137 ⟨Nat.le_refl _, Nat.le_refl _⟩) (fun H locs hG => ?_)
    replace hf := ck_some hf
    obtain ⟨k36, hf⟩ := hf
    exact cg_zret F hr hlk hG hf k36 dX2_readLine_140
  · replace hf := if_f c1 hf
    refine lv_aload_n hx hb dX2_readLine_8 rfl (lv_at hl 0 rfl) ?_
    refine lv_iconst (v := 1) hx hb dX2_readLine_9 (by decide) ?_
    replace hf := bd_some hf
    obtain ⟨q37, eq37, hf⟩ := hf
    refine gx_calli hG (gx_runV (xn_ok (yc_ok w)) F hX hG (c_X2_fail l w  n  (1 : Int32) _ _ eq37) cv_X2_111 ⟨Nat.le_of_ble_eq_true rfl, Nat.le_of_ble_eq_true rfl⟩ (g_recv F hG rd_44 (by decide) rfl) rfl hl.1 rfl (Nat.le_of_ble_eq_true rfl) dX2_readLine_10 ⟨Nat.le_refl _, Nat.le_refl _⟩) (fun H locs hG => ?_)
    replace hf := ck_some hf
    obtain ⟨k38, hf⟩ := hf
    exact cg_zret F hr hlk hG hf k38 dX2_readLine_13

def b_X2_read_64 (n : Nat) (q : (Int32 × Int32 × Mem)) : Option ((Int32 × Int32 × Mem) ⊕ (Int32 × Mem)) := match q with
  | (x2, x3, M) => if (700 : Int32) ≤ x3 then (mr (some ((gi M 44 11), M))) else (if x2 = 0 then (mr (some ((gi M 44 11), M))) else (if (gi M 44 7) = 0 then (mr (some ((gi M 44 11), M))) else (bd (f_X2_readLine n   M) (fun q4 => some (.inl (q4.1, (x3 + (1 : Int32)), q4.2))))))
def f_X2_read (n : Nat) (x1 : Int32) (M : Mem) : Option (Int32 × Mem) := ck (isTwB ((gi M 44 2).toNatClampNeg)) (bd (f_X6_clear n ((gi M 44 2).toNatClampNeg)  M) (fun q6 => bd (f_X4_clear n 28  q6) (fun q7 => bd (f_J9_min_7cf53 n  x1 (gi q7 44 3) q7) (fun q8 => bd (f_X2_step n   (si (si (si (si (si (si (si q8.2 44 4 q8.1) 44 3 (0 : Int32)) 44 6 (0 : Int32)) 44 11 (0 : Int32)) 44 12 (0 : Int32)) 44 13 (0 : Int32)) 44 14 (0 : Int32))) (fun q9 => gl (b_X2_read_64 n ) n ((1 : Int32), (0 : Int32), q9))))))
set_option maxHeartbeats 4000000 in
set_option maxRecDepth 100000 in
theorem c_X2_read (l : Launch) (w : Wd)  (n : Nat) (x1 : Int32) (M : Mem) (res : Int32 × Mem) (hf : f_X2_read n  x1 M = some res) : CG l w layC 61 (XN (YC w)) yX2_read cX2_read 4 (some .int) 79 [.ref (w.2.2.1 44), .int x1] M (GQi w layC 61 res) := by
  refine cg_start (by decide +kernel) (Nat.le_of_ble_eq_true rfl) ?_
  intro p e s m args below meth c F hr hlk hX hG ls hl
  have F : FX w p m c cX2_read 4 s args RX2 := F
  have hx := F.1.1
  have hb := F.1.2.1
  have hl : lv_has ls 4 [(0, .ref (w.2.2.1 44)), (1, .int x1)] := hl
  have hJ64 : ∀ (x2 : Int32) (x3 : Int32) (M : Mem) (H : Heap) (locs : List Loc) (ls : Array Slot), gl (b_X2_read_64 n  ) n (x2, x3, M) = some res → GI w layC 61 s.heap M H locs → lv_has ls 4 [(0, .ref (w.2.2.1 44)), (2, .int x2), (3, .int x3)] → W p l e (Rm 79) s m args below meth c H locs 0 0 (MQ below (GQi w layC 61 res s.heap.size) args s 0 0 (gA w.2.2.1 61 s.heap.size)) (F0 m 64 ls []) := by
    intro x2 x3 M H locs ls hf hG hl
    refine gl_run (P := fun (q : (Int32 × Int32 × Mem)) => ∀ (H : Heap) (locs : List Loc) (ls : Array Slot), GI w layC 61 s.heap q.2.2 H locs → lv_has ls 4 [(0, .ref (w.2.2.1 44)), (2, .int q.1), (3, .int q.2.1)] → W p l e (Rm 79) s m args below meth c H locs 0 0 (MQ below (GQi w layC 61 res s.heap.size) args s 0 0 (gA w.2.2.1 61 s.heap.size)) (F0 m 64 ls [])) ?_ n (x2, x3, M) hf H locs ls hG hl
    clear hf hG hl ls locs H M x2 x3
    rintro ⟨x2, x3, M⟩ rr64 hf hI64 hE64 H locs ls hG hl
    try dsimp only at hG hl ⊢
    dsimp only [b_X2_read_64] at hf
    refine lv_iload_n hx hb dX2_read_64 rfl (lv_at hl 2 rfl) ?_
    refine lv_sipush (v := 700) hx hb dX2_read_65 (by decide) ?_
    refine lv_icmp_ge (tgt := 93) hx hb dX2_read_68 (by decide) (fun c1 => ?_) (fun c1 => ?_)
    · replace hf := if_t c1 hf
      refine lv_aload_n hx hb dX2_read_93 rfl (lv_at hl 0 rfl) ?_
      refine g_getI F hG rd_44 (by decide) (by decide) lk_X2_61 rfl dX2_read_94 ?_
      replace hf := mr_some hf
      obtain ⟨z64, hf, hz⟩ := hf
      rw [hE64 _ hz] at hf
      exact cg_iret F hr hlk hG hf dX2_read_97
    · replace hf := if_f c1 hf
      refine lv_iload_n hx hb dX2_read_71 rfl (lv_at hl 1 rfl) ?_
      refine lv_if_eq (tgt := 93) hx hb dX2_read_72 (by decide) (fun c2 => ?_) (fun c2 => ?_)
      · replace hf := if_t c2 hf
        refine lv_aload_n hx hb dX2_read_93 rfl (lv_at hl 0 rfl) ?_
        refine g_getI F hG rd_44 (by decide) (by decide) lk_X2_61 rfl dX2_read_94 ?_
        replace hf := mr_some hf
        obtain ⟨z64, hf, hz⟩ := hf
        rw [hE64 _ hz] at hf
        exact cg_iret F hr hlk hG hf dX2_read_97
      · replace hf := if_f c2 hf
        refine lv_aload_n hx hb dX2_read_75 rfl (lv_at hl 0 rfl) ?_
        refine g_getI F hG rd_44 (by decide) (by decide) lk_X2_42 rfl dX2_read_76 ?_
        refine lv_if_eq (tgt := 93) hx hb dX2_read_79 (by decide) (fun c3 => ?_) (fun c3 => ?_)
        · replace hf := if_t c3 hf
          refine lv_aload_n hx hb dX2_read_93 rfl (lv_at hl 0 rfl) ?_
          refine g_getI F hG rd_44 (by decide) (by decide) lk_X2_61 rfl dX2_read_94 ?_
          replace hf := mr_some hf
          obtain ⟨z64, hf, hz⟩ := hf
          rw [hE64 _ hz] at hf
          exact cg_iret F hr hlk hG hf dX2_read_97
        · replace hf := if_f c3 hf
          refine lv_aload_n hx hb dX2_read_82 rfl (lv_at hl 0 rfl) ?_
          replace hf := bd_some hf
          obtain ⟨q4, eq4, hf⟩ := hf
          refine gx_calli hG (gx_runV (xn_ok (yc_ok w)) F hX hG (c_X2_readLine l w  n   _ _ eq4) cv_X2_87 ⟨Nat.le_of_ble_eq_true rfl, Nat.le_of_ble_eq_true rfl⟩ (g_recv F hG rd_44 (by decide) rfl) rfl hl.1 rfl (Nat.le_of_ble_eq_true rfl) dX2_read_83 ⟨Nat.le_refl _, Nat.le_refl _⟩) (fun H locs hG => ?_)
          refine lv_istore_n (lv' := [(2, .int q4.1), (0, .ref (w.2.2.1 44)), (3, .int x3)]) hx hb dX2_read_86 rfl hl (by decide) rfl (fun ls hl => ?_)
          refine lv_iinc (v := (x3 + (1 : Int32))) (lv' := [(3, .int (x3 + (1 : Int32))), (2, .int q4.1), (0, .ref (w.2.2.1 44))]) hx hb dX2_read_87 hl (k := 2) rfl rfl (by decide) rfl (fun ls hl => ?_)
          refine lv_goto (tgt := 64) hx hb dX2_read_90 (by decide) ?_
          exact hI64 _ (Option.some.inj hf).symm _ _ ls hG (lv_sub hl [2, 1, 0] rfl)
  unfold f_X2_read at hf
  refine lv_aload_n hx hb dX2_read_0 rfl (lv_at hl 0 rfl) ?_
  replace hf := ck_some hf
  obtain ⟨k5, hf⟩ := hf
  refine g_getM F hG rd_44 (by decide) (by decide) lk_X2_25 rfl dX2_read_1 ?_
  replace hf := bd_some hf
  obtain ⟨q6, eq6, hf⟩ := hf
  refine gx_callv hG (gx_runV (xn_ok (yc_ok w)) F hX hG (c_X6_clear l w (yc_ok w) n ((gi M 44 2).toNatClampNeg) (tw_of k5)  _ _ eq6) cv_X2_74 ⟨Nat.le_of_ble_eq_true rfl, Nat.le_of_ble_eq_true rfl⟩ (g_recv F hG (tw_of k5).1 (by decide) rfl) rfl hl.1 rfl (Nat.le_of_ble_eq_true rfl) dX2_read_4 ⟨Nat.le_refl _, Nat.le_refl _⟩) (fun H locs hG => ?_)
  refine lv_aload_n hx hb dX2_read_7 rfl (lv_at hl 0 rfl) ?_
  refine g_getR F hG 28 rd_44 (by decide) (by decide) lk_X2_18 rfl dX2_read_8 ?_
  replace hf := bd_some hf
  obtain ⟨q7, eq7, hf⟩ := hf
  refine gx_callv hG (gx_runV (xn_ok (yc_ok w)) F hX hG (c_X4_clear l w (yc_ok w) n 28 st_28  _ _ eq7) cv_X2_77 ⟨Nat.le_of_ble_eq_true rfl, Nat.le_of_ble_eq_true rfl⟩ (g_recv F hG st_28.1 (by decide) rfl) rfl hl.1 rfl (Nat.le_of_ble_eq_true rfl) dX2_read_11 ⟨Nat.le_refl _, Nat.le_refl _⟩) (fun H locs hG => ?_)
  refine lv_aload_n hx hb dX2_read_14 rfl (lv_at hl 0 rfl) ?_
  refine lv_iload_n hx hb dX2_read_15 rfl (lv_at hl 1 rfl) ?_
  refine lv_aload_n hx hb dX2_read_16 rfl (lv_at hl 0 rfl) ?_
  refine g_getI F hG rd_44 (by decide) (by decide) lk_X2_29 rfl dX2_read_17 ?_
  replace hf := bd_some hf
  obtain ⟨q8, eq8, hf⟩ := hf
  refine gx_calli hG (gx_runS (xn_ok (yc_ok w)) F hX hG (c_J9_min_7cf53 l w (yc_ok w) n  x1 (gi q7 44 3) _ _ eq8) cs_X2_78 ⟨Nat.le_of_ble_eq_true rfl, Nat.le_of_ble_eq_true rfl⟩ rfl hl.1 rfl (Nat.le_of_ble_eq_true rfl) dX2_read_20 ⟨Nat.le_refl _, Nat.le_refl _⟩) (fun H locs hG => ?_)
  refine g_putI F hG rd_44 (by decide) (by decide) lkv_X2_33 rfl rfl rfl dX2_read_23 (fun H locs hG => ?_)
  refine lv_aload_n hx hb dX2_read_26 rfl (lv_at hl 0 rfl) ?_
  refine lv_iconst (v := 0) hx hb dX2_read_27 (by decide) ?_
  refine g_putI F hG rd_44 (by decide) (by decide) lkv_X2_29 rfl rfl rfl dX2_read_28 (fun H locs hG => ?_)
  refine lv_aload_n hx hb dX2_read_31 rfl (lv_at hl 0 rfl) ?_
  refine lv_iconst (v := 0) hx hb dX2_read_32 (by decide) ?_
  refine g_putI F hG rd_44 (by decide) (by decide) lkv_X2_39 rfl rfl rfl dX2_read_33 (fun H locs hG => ?_)
  refine lv_aload_n hx hb dX2_read_36 rfl (lv_at hl 0 rfl) ?_
  refine lv_iconst (v := 0) hx hb dX2_read_37 (by decide) ?_
  refine g_putI F hG rd_44 (by decide) (by decide) lkv_X2_61 rfl rfl rfl dX2_read_38 (fun H locs hG => ?_)
  refine lv_aload_n hx hb dX2_read_41 rfl (lv_at hl 0 rfl) ?_
  refine lv_iconst (v := 0) hx hb dX2_read_42 (by decide) ?_
  refine g_putI F hG rd_44 (by decide) (by decide) lkv_X2_64 rfl rfl rfl dX2_read_43 (fun H locs hG => ?_)
  refine lv_aload_n hx hb dX2_read_46 rfl (lv_at hl 0 rfl) ?_
  refine lv_iconst (v := 0) hx hb dX2_read_47 (by decide) ?_
  refine g_putI F hG rd_44 (by decide) (by decide) lkv_X2_67 rfl rfl rfl dX2_read_48 (fun H locs hG => ?_)
  refine lv_aload_n hx hb dX2_read_51 rfl (lv_at hl 0 rfl) ?_
  refine lv_iconst (v := 0) hx hb dX2_read_52 (by decide) ?_
  refine g_putI F hG rd_44 (by decide) (by decide) lkv_X2_71 rfl rfl rfl dX2_read_53 (fun H locs hG => ?_)
  refine lv_aload_n hx hb dX2_read_56 rfl (lv_at hl 0 rfl) ?_
  replace hf := bd_some hf
  obtain ⟨q9, eq9, hf⟩ := hf
  refine gx_callv hG (gx_runV (xn_ok (yc_ok w)) F hX hG (c_X2_step l w  n   _ _ eq9) cv_X2_84 ⟨Nat.le_of_ble_eq_true rfl, Nat.le_of_ble_eq_true rfl⟩ (g_recv F hG rd_44 (by decide) rfl) rfl hl.1 rfl (Nat.le_of_ble_eq_true rfl) dX2_read_57 ⟨Nat.le_refl _, Nat.le_refl _⟩) (fun H locs hG => ?_)
  refine lv_iconst (v := 1) hx hb dX2_read_60 (by decide) ?_
  refine lv_istore_n (lv' := [(2, .int (1 : Int32)), (0, .ref (w.2.2.1 44)), (1, .int x1)]) hx hb dX2_read_61 rfl hl (by decide) rfl (fun ls hl => ?_)
  refine lv_iconst (v := 0) hx hb dX2_read_62 (by decide) ?_
  refine lv_istore_n (lv' := [(3, .int (0 : Int32)), (2, .int (1 : Int32)), (0, .ref (w.2.2.1 44)), (1, .int x1)]) hx hb dX2_read_63 rfl hl (by decide) rfl (fun ls hl => ?_)
  exact hJ64 _ _ _ _ _ ls hf hG (lv_sub hl [2, 1, 0] rfl)

def j_X8_town_15 (n : Nat) (M : Mem) : Option (Rx) := some ((2 : Nat), (0 : Int32), M)
def f_X8_town (n : Nat) (x1 : Int32) (M : Mem) : Option (Rx) := if x1 < 0 then (j_X8_town_15 n  M) else (if x1 ≤ (gi M 44 3) then (bd (f_X2_read n  x1 M) (fun q3 => if q3.1 = 0 then (ck (isTwB ((gi (si q3.2 0 13 (-1 : Int32)) 0 12).toNatClampNeg)) (bd (f_X2_swapTown n ((gi (si q3.2 0 13 (-1 : Int32)) 0 12).toNatClampNeg)  (si q3.2 0 13 (-1 : Int32))) (fun q6 => ck (isTwB q6.1) (bd (f_X4_copy n 4 28  (si q6.2 0 12 (nI q6.1))) (fun q8 => bd (f_X1_clear n 34  q8) (fun q9 => bd (f_X3_clear n 38  q9) (fun q10 => some ((0 : Nat), (0 : Int32), si q10 0 14 (0 : Int32))))))))) else (some ((0 : Nat), q3.1, si (si q3.2 0 13 (gi q3.2 44 12)) 1 (0 : Int32).toNatClampNeg ((gi (si q3.2 0 13 (gi q3.2 44 12)) 1 (0 : Int32).toNatClampNeg) + (1 : Int32)))))) else (j_X8_town_15 n  M))
set_option maxHeartbeats 4000000 in
set_option maxRecDepth 100000 in
theorem c_X8_town (l : Launch) (w : Wd) (hst : l.stackTraces = false) (n : Nat) (x1 : Int32) (M : Mem) (res : Rx) (hf : f_X8_town n  x1 M = some res) : CX l w layC 61 (XN (YC w)) yX8_town cX8_town 3 (some .int) 80 1 [.ref (w.2.2.1 0), .int x1] M (GXi w layC 61 res) (GXx w layC 61 res) := by
  refine cx_start (by decide +kernel) (Nat.le_of_ble_eq_true rfl) ?_
  intro p e s m args below meth c F hr hlk hno hX hG ls hl
  have F : FX w p m c cX8_town 3 s args RX8 := F
  obtain ⟨y1, y2, y3, y4, y5, y6, y7, y8, y9, y10, y11, y12⟩ := hX.2.2.2
  have hx := F.1.1
  have hb := F.1.2.1
  have hl : lv_has ls 3 [(0, .ref (w.2.2.1 0)), (1, .int x1)] := hl
  have hJ15 : ∀ (M : Mem) (H : Heap) (locs : List Loc) (ls : Array Slot), j_X8_town_15 n   M = some res → GI w layC 61 s.heap M H locs → lv_has ls 3 [] → W p l e (RmX 80 1) s m args below meth c H locs 0 0 (vx_MQ below (GXi w layC 61 res s.heap.size) (GXx w layC 61 res s.heap.size) args s 1 (6 * 1) (gA w.2.2.1 61 s.heap.size)) (F0 m 15 ls []) := by
    intro  M H locs ls hf hG hl
    unfold j_X8_town_15 at hf
    exact gx_throwS (k := 2) hst F hG hX.2.2.1 hno hlk ts_X8_85_89 rfl (text := "the tape has not so many bytes") (by decide) (Or.inr rfl) rfl (by decide) hf hl.1 dX8_town_15 dX8_town_18 dX8_town_19 dX8_town_21 dX8_town_24 (by decide) (by decide) (by decide) (by decide) (by decide) (by decide)
  unfold f_X8_town at hf
  refine lv_iload_n hx hb dX8_town_0 rfl (lv_at hl 1 rfl) ?_
  refine lv_if_lt (tgt := 15) hx hb dX8_town_1 (by decide) (fun c1 => ?_) (fun c1 => ?_)
  · replace hf := if_t c1 hf
    exact hJ15  _ _ _ ls hf hG (lv_sub hl [] rfl)
  · replace hf := if_f c1 hf
    refine lv_iload_n hx hb dX8_town_4 rfl (lv_at hl 1 rfl) ?_
    refine lv_aload_n hx hb dX8_town_5 rfl (lv_at hl 0 rfl) ?_
    refine g_getR F hG 44 ct_0 (by decide) (by decide) lk_X8_59 rfl dX8_town_6 ?_
    refine g_getI F hG rd_44 (by decide) (by decide) lk_X8_78 rfl dX8_town_9 ?_
    refine lv_icmp_le (tgt := 25) hx hb dX8_town_12 (by decide) (fun c2 => ?_) (fun c2 => ?_)
    · replace hf := if_t c2 hf
      refine lv_aload_n hx hb dX8_town_25 rfl (lv_at hl 0 rfl) ?_
      refine g_getR F hG 44 ct_0 (by decide) (by decide) lk_X8_59 rfl dX8_town_26 ?_
      refine lv_iload_n hx hb dX8_town_29 rfl (lv_at hl 1 rfl) ?_
      replace hf := bd_some hf
      obtain ⟨q3, eq3, hf⟩ := hf
      refine gx_calli hG (gx_runV (xn_ok (yc_ok w)) F hX hG (c_X2_read l w  n  x1 _ _ eq3) cv_X8_92 ⟨Nat.le_of_ble_eq_true rfl, Nat.le_of_ble_eq_true rfl⟩ (g_recv F hG rd_44 (by decide) rfl) rfl hl.1 rfl (Nat.le_of_ble_eq_true rfl) dX8_town_30 ⟨by decide, by decide⟩) (fun H locs hG => ?_)
      refine lv_istore_n (lv' := [(2, .int q3.1), (0, .ref (w.2.2.1 0)), (1, .int x1)]) hx hb dX8_town_33 rfl hl (by decide) rfl (fun ls hl => ?_)
      refine lv_iload_n hx hb dX8_town_34 rfl (lv_at hl 0 rfl) ?_
      refine lv_if_eq (tgt := 61) hx hb dX8_town_35 (by decide) (fun c4 => ?_) (fun c4 => ?_)
      · replace hf := if_t c4 hf
        refine lv_aload_n hx hb dX8_town_61 rfl (lv_at hl 1 rfl) ?_
        refine lv_iconst (v := -1) hx hb dX8_town_62 (by decide) ?_
        refine g_putI F hG ct_0 (by decide) (by decide) lkv_X8_70 rfl rfl rfl dX8_town_63 (fun H locs hG => ?_)
        refine lv_aload_n hx hb dX8_town_66 rfl (lv_at hl 1 rfl) ?_
        refine lv_aload_n hx hb dX8_town_67 rfl (lv_at hl 1 rfl) ?_
        refine g_getR F hG 44 ct_0 (by decide) (by decide) lk_X8_59 rfl dX8_town_68 ?_
        refine lv_aload_n hx hb dX8_town_71 rfl (lv_at hl 1 rfl) ?_
        replace hf := ck_some hf
        obtain ⟨k5, hf⟩ := hf
        refine g_getM F hG ct_0 (by decide) (by decide) lk_X8_66 rfl dX8_town_72 ?_
        replace hf := bd_some hf
        obtain ⟨q6, eq6, hf⟩ := hf
        replace hf := ck_some hf
        obtain ⟨k7, hf⟩ := hf
        refine gx_callt hG (gx_runV (xn_ok (yc_ok w)) F hX hG (c_X2_swapTown l w  n ((gi (si q3.2 0 13 (-1 : Int32)) 0 12).toNatClampNeg) (tw_of k5)  _ _ eq6) cv_X8_99 ⟨Nat.le_of_ble_eq_true rfl, Nat.le_of_ble_eq_true rfl⟩ (g_recv F hG rd_44 (by decide) rfl) rfl hl.1 rfl (Nat.le_of_ble_eq_true rfl) dX8_town_75 ⟨by decide, by decide⟩) (fun H locs hG => ?_)
        refine g_putM F hG ct_0 (by decide) (by decide) lkv_X8_66 rfl (tw_small (tw_of k7)) dX8_town_78 (fun H locs hG => ?_)
        refine lv_aload_n hx hb dX8_town_81 rfl (lv_at hl 1 rfl) ?_
        refine g_getR F hG 4 ct_0 (by decide) (by decide) lk_X8_16 rfl dX8_town_82 ?_
        refine lv_aload_n hx hb dX8_town_85 rfl (lv_at hl 1 rfl) ?_
        refine g_getR F hG 44 ct_0 (by decide) (by decide) lk_X8_59 rfl dX8_town_86 ?_
        refine g_getR F hG 28 rd_44 (by decide) (by decide) lk_X8_103 rfl dX8_town_89 ?_
        replace hf := bd_some hf
        obtain ⟨q8, eq8, hf⟩ := hf
        refine gx_callv hG (gx_runV (xn_ok (yc_ok w)) F hX hG (c_X4_copy l w (yc_ok w) n 4 st_4 28 st_28  _ _ eq8) cv_X8_106 ⟨Nat.le_of_ble_eq_true rfl, Nat.le_of_ble_eq_true rfl⟩ (g_recv F hG st_4.1 (by decide) rfl) rfl hl.1 rfl (Nat.le_of_ble_eq_true rfl) dX8_town_92 ⟨by decide, by decide⟩) (fun H locs hG => ?_)
        refine lv_aload_n hx hb dX8_town_95 rfl (lv_at hl 1 rfl) ?_
        refine g_getR F hG 34 ct_0 (by decide) (by decide) lk_X8_29 rfl dX8_town_96 ?_
        replace hf := bd_some hf
        obtain ⟨q9, eq9, hf⟩ := hf
        refine gx_callv hG (gx_runV (xn_ok (yc_ok w)) F hX hG (c_X1_clear l w (yc_ok w) n 34 ac_34  _ _ eq9) cv_X8_110 ⟨Nat.le_of_ble_eq_true rfl, Nat.le_of_ble_eq_true rfl⟩ (g_recv F hG ac_34.1 (by decide) rfl) rfl hl.1 rfl (Nat.le_of_ble_eq_true rfl) dX8_town_99 ⟨by decide, by decide⟩) (fun H locs hG => ?_)
        refine lv_aload_n hx hb dX8_town_102 rfl (lv_at hl 1 rfl) ?_
        refine g_getR F hG 38 ct_0 (by decide) (by decide) lk_X8_36 rfl dX8_town_103 ?_
        replace hf := bd_some hf
        obtain ⟨q10, eq10, hf⟩ := hf
        refine gx_callv hG (gx_runV (xn_ok (yc_ok w)) F hX hG (c_X3_clear l w (yc_ok w) n 38 sn_38  _ _ eq10) cv_X8_113 ⟨Nat.le_of_ble_eq_true rfl, Nat.le_of_ble_eq_true rfl⟩ (g_recv F hG sn_38.1 (by decide) rfl) rfl hl.1 rfl (Nat.le_of_ble_eq_true rfl) dX8_town_106 ⟨by decide, by decide⟩) (fun H locs hG => ?_)
        refine lv_aload_n hx hb dX8_town_109 rfl (lv_at hl 1 rfl) ?_
        refine lv_iconst (v := 0) hx hb dX8_town_110 (by decide) ?_
        refine g_putI F hG ct_0 (by decide) (by decide) lkv_X8_74 rfl rfl rfl dX8_town_111 (fun H locs hG => ?_)
        refine lv_iconst (v := 0) hx hb dX8_town_114 (by decide) ?_
        exact cx_iret F hr hlk hG hf (by decide) (by decide) dX8_town_115
      · replace hf := if_f c4 hf
        refine lv_aload_n hx hb dX8_town_38 rfl (lv_at hl 1 rfl) ?_
        refine lv_aload_n hx hb dX8_town_39 rfl (lv_at hl 1 rfl) ?_
        refine g_getR F hG 44 ct_0 (by decide) (by decide) lk_X8_59 rfl dX8_town_40 ?_
        refine g_getI F hG rd_44 (by decide) (by decide) lk_X8_96 rfl dX8_town_43 ?_
        refine g_putI F hG ct_0 (by decide) (by decide) lkv_X8_70 rfl rfl rfl dX8_town_46 (fun H locs hG => ?_)
        refine lv_aload_n hx hb dX8_town_49 rfl (lv_at hl 1 rfl) ?_
        refine g_getR F hG 1 ct_0 (by decide) (by decide) lk_X8_7 rfl dX8_town_50 ?_
        refine lv_iconst (v := 0) hx hb dX8_town_53 (by decide) ?_
        refine lv_dup2_11 hx hb dX8_town_54 rfl rfl ?_
        refine g_iald F hG oC_1 (by decide) dX8_town_55 ?_
        refine lv_iconst (v := 1) hx hb dX8_town_56 (by decide) ?_
        refine lv_iadd hx hb dX8_town_57 ?_
        refine g_iast F hG oC_1 (by decide) dX8_town_58 (fun H locs hG => ?_)
        refine lv_iload_n hx hb dX8_town_59 rfl (lv_at hl 0 rfl) ?_
        exact cx_iret F hr hlk hG hf (by decide) (by decide) dX8_town_60
    · replace hf := if_f c2 hf
      exact hJ15  _ _ _ ls hf hG (lv_sub hl [] rfl)
