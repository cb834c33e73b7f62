def j_X8_toPreach_64 (n : Nat) (x1 : Int32) (x2 : Int32) (x3 : Int32) (M : Mem) : Option ((Int32 × Mem) ⊕ (Rx)) := some (.inl ((x3 + (1 : Int32)), M))
def j_X8_toPreach_58 (n : Nat) (x1 : Int32) (x2 : Int32) (x3 : Int32) (x4 : Int32) (M : Mem) : Option ((Int32 × Mem) ⊕ ((Int32 × Mem) ⊕ (Rx))) := some (.inl ((x4 + (1 : Int32)), M))
def b_X8_toPreach_30 (n : Nat) (x1 : Int32) (x2 : Int32) (x3 : Int32) (q : (Int32 × Mem)) : Option ((Int32 × Mem) ⊕ ((Int32 × Mem) ⊕ (Rx))) := match q with
  | (x4, M) => if x2 ≤ x4 then (mr (j_X8_toPreach_64 n  x1 x2 x3 M)) else (bd (f_J6_bitCount_0f7a4 n  x4 M) (fun q2 => if q2.1 = x3 then (bd (f_X8_standsIfPreached n  x4 x1 q2.2) (fun q4 => if q4.1 = 0 then (j_X8_toPreach_58 n  x1 x2 x3 x4 q4.2) else (mr (mr (some ((0 : Nat), x4, q4.2)))))) else (j_X8_toPreach_58 n  x1 x2 x3 x4 q2.2)))
def b_X8_toPreach_16 (n : Nat) (x1 : Int32) (x2 : Int32) (q : (Int32 × Mem)) : Option ((Int32 × Mem) ⊕ (Rx)) := match q with
  | (x3, M) => if (gi M 4 7) < x3 then (mr (some ((0 : Nat), (-1 : Int32), M))) else (gl (b_X8_toPreach_30 n  x1 x2 x3) n ((0 : Int32), M))
def f_X8_toPreach (n : Nat) (x1 : Int32) (M : Mem) : Option (Rx) := bd (f_X8_requireFrom1 n x1 M) (fun q7 => if q7.1 = 0 then (gl (b_X8_toPreach_16 n  x1 ((1 : Int32) <<< ((gi q7.2.2 4 7) &&& 31))) n ((0 : Int32), q7.2.2)) else (some (q7.1, (0 : Int32), q7.2.2)))
set_option maxHeartbeats 4000000 in
set_option maxRecDepth 100000 in
theorem c_X8_toPreach (l : Launch) (w : Wd) (hst : l.stackTraces = false) (n : Nat) (x1 : Int32) (M : Mem) (res : Rx) (hf : f_X8_toPreach n  x1 M = some res) : CX l w layC 61 (XN (YC w)) yX8_toPreach cX8_toPreach 5 (some .int) 7 1 [.ref (w.2.2.1 0), .int x1] M (GXi w layC 61 res) (GXx w layC 61 res) := by
  refine cx_start (by decide +kernel) (Nat.le_of_ble_eq_true rfl) ?_
  intro p e s m args below meth c F hr hlk hno hX hG ls hl
  have F : FX w p m c cX8_toPreach 5 s args RX8 := F
  have hx := F.1.1
  have hb := F.1.2.1
  have hl : lv_has ls 5 [(0, .ref (w.2.2.1 0)), (1, .int x1)] := hl
  have hJ16 : ∀ (x1 : Int32) (x2 : Int32) (x3 : Int32) (M : Mem) (H : Heap) (locs : List Loc) (ls : Array Slot), gl (b_X8_toPreach_16 n  x1 x2) n (x3, M) = some res → GI w layC 61 s.heap M H locs → lv_has ls 5 [(0, .ref (w.2.2.1 0)), (1, .int x1), (2, .int x2), (3, .int x3)] → W p l e (RmX 7 1) s m args below meth c H locs 1 6 (vx_MQ below (GXi w layC 61 res s.heap.size) (GXx w layC 61 res s.heap.size) args s 1 (6 * 1) (gA w.2.2.1 61 s.heap.size)) (F0 m 16 ls []) := by
    intro x1 x2 x3 M H locs ls hf hG hl
    refine gl_run (P := fun (q : (Int32 × Mem)) => ∀ (H : Heap) (locs : List Loc) (ls : Array Slot), GI w layC 61 s.heap q.2 H locs → lv_has ls 5 [(0, .ref (w.2.2.1 0)), (1, .int x1), (2, .int x2), (3, .int q.1)] → W p l e (RmX 7 1) s m args below meth c H locs 1 6 (vx_MQ below (GXi w layC 61 res s.heap.size) (GXx w layC 61 res s.heap.size) args s 1 (6 * 1) (gA w.2.2.1 61 s.heap.size)) (F0 m 16 ls [])) ?_ n (x3, M) hf H locs ls hG hl
    clear hf hG hl ls locs H M x3
    rintro ⟨x3, M⟩ rr16 hf hI16 hE16 H locs ls hG hl
    try dsimp only at hG hl ⊢
    have hJ64 : ∀ (x3 : Int32) (M : Mem) (H : Heap) (locs : List Loc) (ls : Array Slot), j_X8_toPreach_64 n  x1 x2 x3 M = some rr16 → GI w layC 61 s.heap M H locs → lv_has ls 5 [(0, .ref (w.2.2.1 0)), (1, .int x1), (2, .int x2), (3, .int x3)] → W p l e (RmX 7 1) s m args below meth c H locs 1 6 (vx_MQ below (GXi w layC 61 res s.heap.size) (GXx w layC 61 res s.heap.size) args s 1 (6 * 1) (gA w.2.2.1 61 s.heap.size)) (F0 m 64 ls []) := by
      intro x3 M H locs ls hf hG hl
      unfold j_X8_toPreach_64 at hf
      refine lv_iinc (v := (x3 + (1 : Int32))) (lv' := [(3, .int (x3 + (1 : Int32))), (0, .ref (w.2.2.1 0)), (1, .int x1), (2, .int x2)]) hx hb dX8_toPreach_64 hl (k := 3) rfl rfl (by decide) rfl (fun ls hl => ?_)
      refine lv_goto (tgt := 16) hx hb dX8_toPreach_67 (by decide) ?_
      exact hI16 _ (Option.some.inj hf).symm _ _ ls hG (lv_sub hl [1, 2, 3, 0] rfl)
    have hJ30 : ∀ (x3 : Int32) (x4 : Int32) (M : Mem) (H : Heap) (locs : List Loc) (ls : Array Slot), gl (b_X8_toPreach_30 n  x1 x2 x3) n (x4, M) = some rr16 → GI w layC 61 s.heap M H locs → lv_has ls 5 [(0, .ref (w.2.2.1 0)), (1, .int x1), (2, .int x2), (3, .int x3), (4, .int x4)] → W p l e (RmX 7 1) s m args below meth c H locs 1 6 (vx_MQ below (GXi w layC 61 res s.heap.size) (GXx w layC 61 res s.heap.size) args s 1 (6 * 1) (gA w.2.2.1 61 s.heap.size)) (F0 m 30 ls []) := by
      intro x3 x4 M H locs ls hf hG hl
      refine gl_run (P := fun (q : (Int32 × Mem)) => ∀ (H : Heap) (locs : List Loc) (ls : Array Slot), GI w layC 61 s.heap q.2 H locs → lv_has ls 5 [(0, .ref (w.2.2.1 0)), (1, .int x1), (2, .int x2), (3, .int x3), (4, .int q.1)] → W p l e (RmX 7 1) s m args below meth c H locs 1 6 (vx_MQ below (GXi w layC 61 res s.heap.size) (GXx w layC 61 res s.heap.size) args s 1 (6 * 1) (gA w.2.2.1 61 s.heap.size)) (F0 m 30 ls [])) ?_ n (x4, M) hf H locs ls hG hl
      clear hf hG hl ls locs H M x4
      rintro ⟨x4, M⟩ rr30 hf hI30 hE30 H locs ls hG hl
      try dsimp only at hG hl ⊢
      have hJ58 : ∀ (x4 : Int32) (M : Mem) (H : Heap) (locs : List Loc) (ls : Array Slot), j_X8_toPreach_58 n  x1 x2 x3 x4 M = some rr30 → GI w layC 61 s.heap M H locs → lv_has ls 5 [(0, .ref (w.2.2.1 0)), (1, .int x1), (2, .int x2), (3, .int x3), (4, .int x4)] → W p l e (RmX 7 1) s m args below meth c H locs 1 6 (vx_MQ below (GXi w layC 61 res s.heap.size) (GXx w layC 61 res s.heap.size) args s 1 (6 * 1) (gA w.2.2.1 61 s.heap.size)) (F0 m 58 ls []) := by
        intro x4 M H locs ls hf hG hl
        unfold j_X8_toPreach_58 at hf
        refine lv_iinc (v := (x4 + (1 : Int32))) (lv' := [(4, .int (x4 + (1 : Int32))), (0, .ref (w.2.2.1 0)), (1, .int x1), (2, .int x2), (3, .int x3)]) hx hb dX8_toPreach_58 hl (k := 4) rfl rfl (by decide) rfl (fun ls hl => ?_)
        refine lv_goto (tgt := 30) hx hb dX8_toPreach_61 (by decide) ?_
        exact hI30 _ (Option.some.inj hf).symm _ _ ls hG (lv_sub hl [1, 2, 3, 4, 0] rfl)
      dsimp only [b_X8_toPreach_30] at hf
      refine lv_iload hx hb dX8_toPreach_30 (lv_at hl 4 rfl) ?_
      refine lv_iload_n hx hb dX8_toPreach_32 rfl (lv_at hl 2 rfl) ?_
      refine lv_icmp_ge (tgt := 64) hx hb dX8_toPreach_33 (by decide) (fun c1 => ?_) (fun c1 => ?_)
      · replace hf := if_t c1 hf
        replace hf := mr_some hf
        obtain ⟨z30, hf, hz⟩ := hf
        rw [hE30 _ hz] at hf
        exact hJ64 _ _ _ _ ls hf hG (lv_sub hl [0, 1, 2, 3] rfl)
      · replace hf := if_f c1 hf
        refine lv_iload hx hb dX8_toPreach_36 (lv_at hl 4 rfl) ?_
        replace hf := bd_some hf
        obtain ⟨q2, eq2, hf⟩ := hf
        refine gx_calli hG (gx_runS (xn_ok (yc_ok w)) F hX hG (c_J6_bitCount_0f7a4 l w (yc_ok w) n  x4 _ _ eq2) cs_X8_272 ⟨Nat.le_of_ble_eq_true rfl, Nat.le_of_ble_eq_true rfl⟩ rfl hl.1 rfl (Nat.le_of_ble_eq_true rfl) dX8_toPreach_38 ⟨by decide, by decide⟩) (fun H locs hG => ?_)
        refine lv_iload_n hx hb dX8_toPreach_41 rfl (lv_at hl 3 rfl) ?_
        refine lv_icmp_ne (tgt := 58) hx hb dX8_toPreach_42 (by decide) (fun c3 => ?_) (fun c3 => ?_)
        · replace hf := if_f c3 hf
          exact hJ58 _ _ _ _ ls hf hG (lv_sub hl [0, 1, 2, 3, 4] rfl)
        · replace hf := if_t c3 hf
          refine lv_aload_n hx hb dX8_toPreach_45 rfl (lv_at hl 0 rfl) ?_
          refine lv_iload hx hb dX8_toPreach_46 (lv_at hl 4 rfl) ?_
          refine lv_iload_n hx hb dX8_toPreach_48 rfl (lv_at hl 1 rfl) ?_
          replace hf := bd_some hf
          obtain ⟨q4, eq4, hf⟩ := hf
          refine gx_calli hG (gx_runV (xn_ok (yc_ok w)) F hX hG (c_X8_standsIfPreached l w  n  x4 x1 _ _ eq4) cv_X8_277 ⟨Nat.le_of_ble_eq_true rfl, Nat.le_of_ble_eq_true rfl⟩ (g_recv F hG ct_0 (by decide) rfl) rfl hl.1 rfl (Nat.le_of_ble_eq_true rfl) dX8_toPreach_49 ⟨by decide, by decide⟩) (fun H locs hG => ?_)
          refine lv_if_eq (tgt := 58) hx hb dX8_toPreach_52 (by decide) (fun c5 => ?_) (fun c5 => ?_)
          · replace hf := if_t c5 hf
            exact hJ58 _ _ _ _ ls hf hG (lv_sub hl [0, 1, 2, 3, 4] rfl)
          · replace hf := if_f c5 hf
            refine lv_iload hx hb dX8_toPreach_55 (lv_at hl 4 rfl) ?_
            replace hf := mr_some hf
            obtain ⟨z30, hf, hz⟩ := hf
            rw [hE30 _ hz] at hf
            replace hf := mr_some hf
            obtain ⟨z16, hf, hz⟩ := hf
            rw [hE16 _ hz] at hf
            exact cx_iret F hr hlk hG hf (by decide) (by decide) dX8_toPreach_57
    dsimp only [b_X8_toPreach_16] at hf
    refine lv_iload_n hx hb dX8_toPreach_16 rfl (lv_at hl 3 rfl) ?_
    refine lv_aload_n hx hb dX8_toPreach_17 rfl (lv_at hl 0 rfl) ?_
    refine g_getR F hG 4 ct_0 (by decide) (by decide) lk_X8_16 rfl dX8_toPreach_18 ?_
    refine g_getI F hG st_4.1 (by decide) (by decide) lk_X8_120 rfl dX8_toPreach_21 ?_
    refine lv_icmp_gt (tgt := 70) hx hb dX8_toPreach_24 (by decide) (fun c6 => ?_) (fun c6 => ?_)
    · replace hf := if_t c6 hf
      refine lv_iconst (v := -1) hx hb dX8_toPreach_70 (by decide) ?_
      replace hf := mr_some hf
      obtain ⟨z16, hf, hz⟩ := hf
      rw [hE16 _ hz] at hf
      exact cx_iret F hr hlk hG hf (by decide) (by decide) dX8_toPreach_71
    · replace hf := if_f c6 hf
      refine lv_iconst (v := 0) hx hb dX8_toPreach_27 (by decide) ?_
      refine lv_istore (lv' := [(4, .int (0 : Int32)), (0, .ref (w.2.2.1 0)), (1, .int x1), (2, .int x2), (3, .int x3)]) hx hb dX8_toPreach_28 hl (by decide) rfl (fun ls hl => ?_)
      exact hJ30 _ _ _ _ _ ls hf hG (lv_sub hl [1, 2, 3, 4, 0] rfl)
  unfold f_X8_toPreach at hf
  refine lv_iload_n hx hb dX8_toPreach_0 rfl (lv_at hl 1 rfl) ?_
  replace hf := bd_some hf
  obtain ⟨q7, eq7, hf⟩ := hf
  refine gx_xcallv hno hlk F hG (gx_xrunS (xn_ok (yc_ok w)) F hX hG (c_X8_requireFrom1 l w hst n x1 _ _ eq7) cs_X8_252 ⟨Nat.le_of_ble_eq_true rfl, Nat.le_of_ble_eq_true rfl⟩ rfl hl.1 rfl (Nat.le_of_ble_eq_true rfl) dX8_toPreach_1 ⟨by decide, by decide⟩) (by decide) (by decide) (fun hz => if_f hz hf) (fun hz H locs hG => ?_)
  replace hf := if_t hz hf
  refine W.widen (k := 1) (n := 6) (by decide) (by decide) ?_
  refine lv_iconst (v := 1) hx hb dX8_toPreach_4 (by decide) ?_
  refine lv_aload_n hx hb dX8_toPreach_5 rfl (lv_at hl 0 rfl) ?_
  refine g_getR F hG 4 ct_0 (by decide) (by decide) lk_X8_16 rfl dX8_toPreach_6 ?_
  refine g_getI F hG st_4.1 (by decide) (by decide) lk_X8_120 rfl dX8_toPreach_9 ?_
  refine lv_ishl hx hb dX8_toPreach_12 ?_
  refine lv_istore_n (lv' := [(2, .int ((1 : Int32) <<< ((gi q7.2.2 4 7) &&& 31))), (0, .ref (w.2.2.1 0)), (1, .int x1)]) hx hb dX8_toPreach_13 rfl hl (by decide) rfl (fun ls hl => ?_)
  refine lv_iconst (v := 0) hx hb dX8_toPreach_14 (by decide) ?_
  refine lv_istore_n (lv' := [(3, .int (0 : Int32)), (2, .int ((1 : Int32) <<< ((gi q7.2.2 4 7) &&& 31))), (0, .ref (w.2.2.1 0)), (1, .int x1)]) hx hb dX8_toPreach_15 rfl hl (by decide) rfl (fun ls hl => ?_)
  exact hJ16 _ _ _ _ _ _ ls hf hG (lv_sub hl [2, 3, 1, 0] rfl)

def j_X8_unusedPlace_26 (n : Nat) (x0 : Int32) (x2 : Int32) (x3 : Int32) (M : Mem) : Option ((Int32 × Int32 × Mem) ⊕ (Int32 × Mem)) := some (.inl (x2, (x3 + (1 : Int32)), M))
def b_X8_unusedPlace_4 (n : Nat) (x0 : Int32) (q : (Int32 × Int32 × Mem)) : Option ((Int32 × Int32 × Mem) ⊕ (Int32 × Mem)) := match q with
  | (x2, x3, M) => if (4 : Int32) ≤ x3 then (mr (some ((0 : Int32), M))) else (if ((x0 >>> (x3 &&& 31)) &&& (1 : Int32)) = 0 then (if x2 = 0 then (mr (some (x3, M))) else (j_X8_unusedPlace_26 n  x0 (x2 + (-1 : Int32)) x3 M)) else (j_X8_unusedPlace_26 n  x0 x2 x3 M))
def f_X8_unusedPlace (n : Nat) (x0 : Int32) (x1 : Int32) (M : Mem) : Option (Int32 × Mem) := gl (b_X8_unusedPlace_4 n  x0) n (x1, (0 : Int32), M)
set_option maxHeartbeats 4000000 in
set_option maxRecDepth 100000 in
theorem c_X8_unusedPlace (l : Launch) (w : Wd)  (n : Nat) (x0 : Int32) (x1 : Int32) (M : Mem) (res : Int32 × Mem) (hf : f_X8_unusedPlace n  x0 x1 M = some res) : CG l w layC 61 (XN (YC w)) yX8_unusedPlace cX8_unusedPlace 4 (some .int) 0 [.int x0, .int x1] M (GQi w layC 61 res) := by
  refine cg_start (by decide +kernel) (Nat.le_of_ble_eq_true rfl) ?_
  intro p e s m args below meth c F hr hlk hX hG ls hl
  have F : FX w p m c cX8_unusedPlace 4 s args RX8 := F
  have hx := F.1.1
  have hb := F.1.2.1
  have hl : lv_has ls 4 [(0, .int x0), (1, .int x1)] := hl
  have hJ4 : ∀ (x0 : Int32) (x2 : Int32) (x3 : Int32) (M : Mem) (H : Heap) (locs : List Loc) (ls : Array Slot), gl (b_X8_unusedPlace_4 n  x0) n (x2, x3, M) = some res → GI w layC 61 s.heap M H locs → lv_has ls 4 [(0, .int x0), (2, .int x2), (3, .int x3)] → W p l e (Rm 0) s m args below meth c H locs 0 0 (MQ below (GQi w layC 61 res s.heap.size) args s 0 0 (gA w.2.2.1 61 s.heap.size)) (F0 m 4 ls []) := by
    intro x0 x2 x3 M H locs ls hf hG hl
    refine gl_run (P := fun (q : (Int32 × Int32 × Mem)) => ∀ (H : Heap) (locs : List Loc) (ls : Array Slot), GI w layC 61 s.heap q.2.2 H locs → lv_has ls 4 [(0, .int x0), (2, .int q.1), (3, .int q.2.1)] → W p l e (Rm 0) s m args below meth c H locs 0 0 (MQ below (GQi w layC 61 res s.heap.size) args s 0 0 (gA w.2.2.1 61 s.heap.size)) (F0 m 4 ls [])) ?_ n (x2, x3, M) hf H locs ls hG hl
    clear hf hG hl ls locs H M x2 x3
    rintro ⟨x2, x3, M⟩ rr4 hf hI4 hE4 H locs ls hG hl
    try dsimp only at hG hl ⊢
    have hJ26 : ∀ (x2 : Int32) (x3 : Int32) (M : Mem) (H : Heap) (locs : List Loc) (ls : Array Slot), j_X8_unusedPlace_26 n  x0 x2 x3 M = some rr4 → GI w layC 61 s.heap M H locs → lv_has ls 4 [(0, .int x0), (2, .int x2), (3, .int x3)] → W p l e (Rm 0) s m args below meth c H locs 0 0 (MQ below (GQi w layC 61 res s.heap.size) args s 0 0 (gA w.2.2.1 61 s.heap.size)) (F0 m 26 ls []) := by
      intro x2 x3 M H locs ls hf hG hl
      unfold j_X8_unusedPlace_26 at hf
      refine lv_iinc (v := (x3 + (1 : Int32))) (lv' := [(3, .int (x3 + (1 : Int32))), (0, .int x0), (2, .int x2)]) hx hb dX8_unusedPlace_26 hl (k := 2) rfl rfl (by decide) rfl (fun ls hl => ?_)
      refine lv_goto (tgt := 4) hx hb dX8_unusedPlace_29 (by decide) ?_
      exact hI4 _ (Option.some.inj hf).symm _ _ ls hG (lv_sub hl [1, 2, 0] rfl)
    dsimp only [b_X8_unusedPlace_4] at hf
    refine lv_iload_n hx hb dX8_unusedPlace_4 rfl (lv_at hl 2 rfl) ?_
    refine lv_iconst (v := 4) hx hb dX8_unusedPlace_5 (by decide) ?_
    refine lv_icmp_ge (tgt := 32) hx hb dX8_unusedPlace_6 (by decide) (fun c1 => ?_) (fun c1 => ?_)
    · replace hf := if_t c1 hf
      refine lv_iconst (v := 0) hx hb dX8_unusedPlace_32 (by decide) ?_
      replace hf := mr_some hf
      obtain ⟨z4, hf, hz⟩ := hf
      rw [hE4 _ hz] at hf
      exact cg_iret F hr hlk hG hf dX8_unusedPlace_33
    · replace hf := if_f c1 hf
      refine lv_iload_n hx hb dX8_unusedPlace_9 rfl (lv_at hl 0 rfl) ?_
      refine lv_iload_n hx hb dX8_unusedPlace_10 rfl (lv_at hl 2 rfl) ?_
      refine lv_ishr hx hb dX8_unusedPlace_11 ?_
      refine lv_iconst (v := 1) hx hb dX8_unusedPlace_12 (by decide) ?_
      refine lv_iand hx hb dX8_unusedPlace_13 ?_
      refine lv_if_ne (tgt := 26) hx hb dX8_unusedPlace_14 (by decide) (fun c2 => ?_) (fun c2 => ?_)
      · replace hf := if_f c2 hf
        exact hJ26 _ _ _ _ _ ls hf hG (lv_sub hl [0, 1, 2] rfl)
      · replace hf := if_t c2 hf
        refine lv_iload_n hx hb dX8_unusedPlace_17 rfl (lv_at hl 1 rfl) ?_
        refine lv_if_ne (tgt := 23) hx hb dX8_unusedPlace_18 (by decide) (fun c3 => ?_) (fun c3 => ?_)
        · replace hf := if_f c3 hf
          refine lv_iinc (v := (x2 + (-1 : Int32))) (lv' := [(2, .int (x2 + (-1 : Int32))), (0, .int x0), (3, .int x3)]) hx hb dX8_unusedPlace_23 hl (k := 1) rfl rfl (by decide) rfl (fun ls hl => ?_)
          exact hJ26 _ _ _ _ _ ls hf hG (lv_sub hl [1, 0, 2] rfl)
        · replace hf := if_t c3 hf
          refine lv_iload_n hx hb dX8_unusedPlace_21 rfl (lv_at hl 2 rfl) ?_
          replace hf := mr_some hf
          obtain ⟨z4, hf, hz⟩ := hf
          rw [hE4 _ hz] at hf
          exact cg_iret F hr hlk hG hf dX8_unusedPlace_22
  unfold f_X8_unusedPlace at hf
  refine lv_iload_n hx hb dX8_unusedPlace_0 rfl (lv_at hl 1 rfl) ?_
  refine lv_istore_n (lv' := [(2, .int x1), (0, .int x0), (1, .int x1)]) hx hb dX8_unusedPlace_1 rfl hl (by decide) rfl (fun ls hl => ?_)
  refine lv_iconst (v := 0) hx hb dX8_unusedPlace_2 (by decide) ?_
  refine lv_istore_n (lv' := [(3, .int (0 : Int32)), (2, .int x1), (0, .int x0), (1, .int x1)]) hx hb dX8_unusedPlace_3 rfl hl (by decide) rfl (fun ls hl => ?_)
  exact hJ4 _ _ _ _ _ _ ls hf hG (lv_sub hl [2, 1, 0] rfl)

def b_X8_layRow_11 (n : Nat) (x2 : Int32) (q : (Int32 × Int32 × Int32 × Int32 × Mem)) : Option ((Int32 × Int32 × Int32 × Int32 × Mem) ⊕ (Int32 × Mem)) := match q with
  | (x3, x4, x5, x6, M) => if x2 ≤ x6 then (mr (some (x3, M))) else (ck (inb ((x2 - (1 : Int32)) - x6) 5) (ck (¬ (facL.getD ((x2 - (1 : Int32)) - x6).toNatClampNeg 0) = 0) (bd (f_X8_unusedPlace n  x4 (x5 / (facL.getD ((x2 - (1 : Int32)) - x6).toNatClampNeg 0)) M) (fun q4 => ck (¬ (facL.getD ((x2 - (1 : Int32)) - x6).toNatClampNeg 0) = 0) (ck (inb ((gi q4.2 4 6) + q4.1) 16) (ck (inb ((gi q4.2 10 6) + x6) 16) (ck (inb ((gi (si q4.2 11 ((gi q4.2 10 6) + x6).toNatClampNeg (gi q4.2 5 ((gi q4.2 4 6) + q4.1).toNatClampNeg)) 4 6) + q4.1) 16) (ck (inb ((gi (si q4.2 11 ((gi q4.2 10 6) + x6).toNatClampNeg (gi q4.2 5 ((gi q4.2 4 6) + q4.1).toNatClampNeg)) 10 6) + x6) 16) (some (.inl (((x3 * (10 : Int32)) + q4.1), (x4 ||| ((1 : Int32) <<< (q4.1 &&& 31))), (x5 - x5 / (facL.getD ((x2 - (1 : Int32)) - x6).toNatClampNeg 0) * (facL.getD ((x2 - (1 : Int32)) - x6).toNatClampNeg 0)), (x6 + (1 : Int32)), si (si q4.2 11 ((gi q4.2 10 6) + x6).toNatClampNeg (gi q4.2 5 ((gi q4.2 4 6) + q4.1).toNatClampNeg)) 12 ((gi (si q4.2 11 ((gi q4.2 10 6) + x6).toNatClampNeg (gi q4.2 5 ((gi q4.2 4 6) + q4.1).toNatClampNeg)) 10 6) + x6).toNatClampNeg (gi (si q4.2 11 ((gi q4.2 10 6) + x6).toNatClampNeg (gi q4.2 5 ((gi q4.2 4 6) + q4.1).toNatClampNeg)) 6 ((gi (si q4.2 11 ((gi q4.2 10 6) + x6).toNatClampNeg (gi q4.2 5 ((gi q4.2 4 6) + q4.1).toNatClampNeg)) 4 6) + q4.1).toNatClampNeg))))))))))))
def f_X8_layRow (n : Nat) (x1 : Int32) (x2 : Int32) (M : Mem) : Option (Int32 × Mem) := gl (b_X8_layRow_11 n  x2) n ((0 : Int32), (0 : Int32), x1, (0 : Int32), M)
set_option maxHeartbeats 4000000 in
set_option maxRecDepth 100000 in
theorem c_X8_layRow (l : Launch) (w : Wd)  (n : Nat) (x1 : Int32) (x2 : Int32) (M : Mem) (res : Int32 × Mem) (hf : f_X8_layRow n  x1 x2 M = some res) : CG l w layC 61 (XN (YC w)) yX8_layRow cX8_layRow 9 (some .int) 1 [.ref (w.2.2.1 0), .int x1, .int x2] M (GQi w layC 61 res) := by
  refine cg_start (by decide +kernel) (Nat.le_of_ble_eq_true rfl) ?_
  intro p e s m args below meth c F hr hlk hX hG ls hl
  have F : FX w p m c cX8_layRow 9 s args RX8 := F
  obtain ⟨y1, y2, y3, y4, y5, y6, y7, y8, y9, y10, y11, y12⟩ := hX.2.2.2
  have hx := F.1.1
  have hb := F.1.2.1
  have hl : lv_has ls 9 [(0, .ref (w.2.2.1 0)), (1, .int x1), (2, .int x2)] := hl
  have hJ11 : ∀ (x2 : Int32) (x3 : Int32) (x4 : Int32) (x5 : Int32) (x6 : Int32) (M : Mem) (H : Heap) (locs : List Loc) (ls : Array Slot), gl (b_X8_layRow_11 n  x2) n (x3, x4, x5, x6, M) = some res → GI w layC 61 s.heap M H locs → lv_has ls 9 [(0, .ref (w.2.2.1 0)), (2, .int x2), (3, .int x3), (4, .int x4), (5, .int x5), (6, .int x6)] → W p l e (Rm 1) s m args below meth c H locs 0 0 (MQ below (GQi w layC 61 res s.heap.size) args s 0 0 (gA w.2.2.1 61 s.heap.size)) (F0 m 11 ls []) := by
    intro x2 x3 x4 x5 x6 M H locs ls hf hG hl
    refine gl_run (P := fun (q : (Int32 × Int32 × Int32 × Int32 × Mem)) => ∀ (H : Heap) (locs : List Loc) (ls : Array Slot), GI w layC 61 s.heap q.2.2.2.2 H locs → lv_has ls 9 [(0, .ref (w.2.2.1 0)), (2, .int x2), (3, .int q.1), (4, .int q.2.1), (5, .int q.2.2.1), (6, .int q.2.2.2.1)] → W p l e (Rm 1) s m args below meth c H locs 0 0 (MQ below (GQi w layC 61 res s.heap.size) args s 0 0 (gA w.2.2.1 61 s.heap.size)) (F0 m 11 ls [])) ?_ n (x3, x4, x5, x6, M) hf H locs ls hG hl
    clear hf hG hl ls locs H M x3 x4 x5 x6
    rintro ⟨x3, x4, x5, x6, M⟩ rr11 hf hI11 hE11 H locs ls hG hl
    try dsimp only at hG hl ⊢
    dsimp only [b_X8_layRow_11] at hf
    refine lv_iload hx hb dX8_layRow_11 (lv_at hl 5 rfl) ?_
    refine lv_iload_n hx hb dX8_layRow_13 rfl (lv_at hl 1 rfl) ?_
    refine lv_icmp_ge (tgt := 143) hx hb dX8_layRow_14 (by decide) (fun c1 => ?_) (fun c1 => ?_)
    · replace hf := if_t c1 hf
      refine lv_iload_n hx hb dX8_layRow_143 rfl (lv_at hl 2 rfl) ?_
      replace hf := mr_some hf
      obtain ⟨z11, hf, hz⟩ := hf
      rw [hE11 _ hz] at hf
      exact cg_iret F hr hlk hG hf dX8_layRow_144
    · replace hf := if_f c1 hf
      refine va_gets hx hb y6 hG.2.2 F.1.2.2.2.1 (F.1.2.2.2.2 _ m_1160) (fun _ h9 => h9) dX8_layRow_17 ?_
      refine lv_iload_n hx hb dX8_layRow_20 rfl (lv_at hl 1 rfl) ?_
      refine lv_iconst (v := 1) hx hb dX8_layRow_21 (by decide) ?_
      refine lv_isub hx hb dX8_layRow_22 ?_
      refine lv_iload hx hb dX8_layRow_23 (lv_at hl 5 rfl) ?_
      refine lv_isub hx hb dX8_layRow_25 ?_
      replace hf := ck_some hf
      obtain ⟨k2, hf⟩ := hf
      refine va_ti hx hb y7 hG.2.2 k2 rfl dX8_layRow_26 ?_
      refine lv_istore (lv' := [(7, .int (facL.getD ((x2 - (1 : Int32)) - x6).toNatClampNeg 0)), (0, .ref (w.2.2.1 0)), (2, .int x2), (3, .int x3), (4, .int x4), (5, .int x5), (6, .int x6)]) hx hb dX8_layRow_27 hl (by decide) rfl (fun ls hl => ?_)
      refine lv_iload hx hb dX8_layRow_29 (lv_at hl 4 rfl) ?_
      refine lv_iload hx hb dX8_layRow_31 (lv_at hl 5 rfl) ?_
      refine lv_iload hx hb dX8_layRow_33 (lv_at hl 0 rfl) ?_
      replace hf := ck_some hf
      obtain ⟨k3, hf⟩ := hf
      refine lv_idiv hx hb dX8_layRow_35 k3 ?_
      replace hf := bd_some hf
      obtain ⟨q4, eq4, hf⟩ := hf
      refine gx_calli hG (gx_runS (xn_ok (yc_ok w)) F hX hG (c_X8_unusedPlace l w  n  x4 (x5 / (facL.getD ((x2 - (1 : Int32)) - x6).toNatClampNeg 0)) _ _ eq4) cs_X8_289 ⟨Nat.le_of_ble_eq_true rfl, Nat.le_of_ble_eq_true rfl⟩ rfl hl.1 rfl (Nat.le_of_ble_eq_true rfl) dX8_layRow_36 ⟨Nat.le_refl _, Nat.le_refl _⟩) (fun H locs hG => ?_)
      refine lv_istore (lv' := [(8, .int q4.1), (7, .int (facL.getD ((x2 - (1 : Int32)) - x6).toNatClampNeg 0)), (0, .ref (w.2.2.1 0)), (2, .int x2), (3, .int x3), (4, .int x4), (5, .int x5), (6, .int x6)]) hx hb dX8_layRow_39 hl (by decide) rfl (fun ls hl => ?_)
      refine lv_iload hx hb dX8_layRow_41 (lv_at hl 6 rfl) ?_
      refine lv_iload hx hb dX8_layRow_43 (lv_at hl 1 rfl) ?_
      replace hf := ck_some hf
      obtain ⟨k5, hf⟩ := hf
      refine lv_irem hx hb dX8_layRow_45 k5 ?_
      refine lv_istore (lv' := [(5, .int (x5 - x5 / (facL.getD ((x2 - (1 : Int32)) - x6).toNatClampNeg 0) * (facL.getD ((x2 - (1 : Int32)) - x6).toNatClampNeg 0))), (8, .int q4.1), (7, .int (facL.getD ((x2 - (1 : Int32)) - x6).toNatClampNeg 0)), (0, .ref (w.2.2.1 0)), (2, .int x2), (3, .int x3), (4, .int x4), (6, .int x6)]) hx hb dX8_layRow_46 hl (by decide) rfl (fun ls hl => ?_)
      refine lv_iload hx hb dX8_layRow_48 (lv_at hl 6 rfl) ?_
      refine lv_iconst (v := 1) hx hb dX8_layRow_50 (by decide) ?_
      refine lv_iload hx hb dX8_layRow_51 (lv_at hl 1 rfl) ?_
      refine lv_ishl hx hb dX8_layRow_53 ?_
      refine lv_ior hx hb dX8_layRow_54 ?_
      refine lv_istore (lv' := [(4, .int (x4 ||| ((1 : Int32) <<< (q4.1 &&& 31)))), (5, .int (x5 - x5 / (facL.getD ((x2 - (1 : Int32)) - x6).toNatClampNeg 0) * (facL.getD ((x2 - (1 : Int32)) - x6).toNatClampNeg 0))), (8, .int q4.1), (7, .int (facL.getD ((x2 - (1 : Int32)) - x6).toNatClampNeg 0)), (0, .ref (w.2.2.1 0)), (2, .int x2), (3, .int x3), (6, .int x6)]) hx hb dX8_layRow_55 hl (by decide) rfl (fun ls hl => ?_)
      refine lv_iload_n hx hb dX8_layRow_57 rfl (lv_at hl 6 rfl) ?_
      refine lv_bipush (v := 10) hx hb dX8_layRow_58 (by decide) ?_
      refine lv_imul hx hb dX8_layRow_60 ?_
      refine lv_iload hx hb dX8_layRow_61 (lv_at hl 2 rfl) ?_
      refine lv_iadd hx hb dX8_layRow_63 ?_
      refine lv_istore_n (lv' := [(3, .int ((x3 * (10 : Int32)) + q4.1)), (4, .int (x4 ||| ((1 : Int32) <<< (q4.1 &&& 31)))), (5, .int (x5 - x5 / (facL.getD ((x2 - (1 : Int32)) - x6).toNatClampNeg 0) * (facL.getD ((x2 - (1 : Int32)) - x6).toNatClampNeg 0))), (8, .int q4.1), (7, .int (facL.getD ((x2 - (1 : Int32)) - x6).toNatClampNeg 0)), (0, .ref (w.2.2.1 0)), (2, .int x2), (6, .int x6)]) hx hb dX8_layRow_64 rfl hl (by decide) rfl (fun ls hl => ?_)
      refine lv_aload_n hx hb dX8_layRow_65 rfl (lv_at hl 5 rfl) ?_
      refine g_getR F hG 10 ct_0 (by decide) (by decide) lk_X8_20 rfl dX8_layRow_66 ?_
      refine g_getR F hG 11 st_10.1 (by decide) (by decide) lk_X8_177 rfl dX8_layRow_69 ?_
      refine lv_aload_n hx hb dX8_layRow_72 rfl (lv_at hl 5 rfl) ?_
      refine g_getR F hG 10 ct_0 (by decide) (by decide) lk_X8_20 rfl dX8_layRow_73 ?_
      refine g_getI F hG st_10.1 (by decide) (by decide) lk_X8_114 rfl dX8_layRow_76 ?_
      refine lv_iload hx hb dX8_layRow_79 (lv_at hl 7 rfl) ?_
      refine lv_iadd hx hb dX8_layRow_81 ?_
      refine lv_aload_n hx hb dX8_layRow_82 rfl (lv_at hl 5 rfl) ?_
      refine g_getR F hG 4 ct_0 (by decide) (by decide) lk_X8_16 rfl dX8_layRow_83 ?_
      refine g_getR F hG 5 st_4.1 (by decide) (by decide) lk_X8_177 rfl dX8_layRow_86 ?_
      refine lv_aload_n hx hb dX8_layRow_89 rfl (lv_at hl 5 rfl) ?_
      refine g_getR F hG 4 ct_0 (by decide) (by decide) lk_X8_16 rfl dX8_layRow_90 ?_
      refine g_getI F hG st_4.1 (by decide) (by decide) lk_X8_114 rfl dX8_layRow_93 ?_
      refine lv_iload hx hb dX8_layRow_96 (lv_at hl 3 rfl) ?_
      refine lv_iadd hx hb dX8_layRow_98 ?_
      replace hf := ck_some hf
      obtain ⟨k6, hf⟩ := hf
      refine g_iald F hG st_4.2.1 k6 dX8_layRow_99 ?_
      replace hf := ck_some hf
      obtain ⟨k7, hf⟩ := hf
      refine g_iast F hG st_10.2.1 k7 dX8_layRow_100 (fun H locs hG => ?_)
      refine lv_aload_n hx hb dX8_layRow_101 rfl (lv_at hl 5 rfl) ?_
      refine g_getR F hG 10 ct_0 (by decide) (by decide) lk_X8_20 rfl dX8_layRow_102 ?_
      refine g_getR F hG 12 st_10.1 (by decide) (by decide) lk_X8_180 rfl dX8_layRow_105 ?_
      refine lv_aload_n hx hb dX8_layRow_108 rfl (lv_at hl 5 rfl) ?_
      refine g_getR F hG 10 ct_0 (by decide) (by decide) lk_X8_20 rfl dX8_layRow_109 ?_
      refine g_getI F hG st_10.1 (by decide) (by decide) lk_X8_114 rfl dX8_layRow_112 ?_
      refine lv_iload hx hb dX8_layRow_115 (lv_at hl 7 rfl) ?_
      refine lv_iadd hx hb dX8_layRow_117 ?_
      refine lv_aload_n hx hb dX8_layRow_118 rfl (lv_at hl 5 rfl) ?_
      refine g_getR F hG 4 ct_0 (by decide) (by decide) lk_X8_16 rfl dX8_layRow_119 ?_
      refine g_getR F hG 6 st_4.1 (by decide) (by decide) lk_X8_180 rfl dX8_layRow_122 ?_
      refine lv_aload_n hx hb dX8_layRow_125 rfl (lv_at hl 5 rfl) ?_
      refine g_getR F hG 4 ct_0 (by decide) (by decide) lk_X8_16 rfl dX8_layRow_126 ?_
      refine g_getI F hG st_4.1 (by decide) (by decide) lk_X8_114 rfl dX8_layRow_129 ?_
      refine lv_iload hx hb dX8_layRow_132 (lv_at hl 3 rfl) ?_
      refine lv_iadd hx hb dX8_layRow_134 ?_
      replace hf := ck_some hf
      obtain ⟨k8, hf⟩ := hf
      refine g_iald F hG st_4.2.2.1 k8 dX8_layRow_135 ?_
      replace hf := ck_some hf
      obtain ⟨k9, hf⟩ := hf
      refine g_iast F hG st_10.2.2.1 k9 dX8_layRow_136 (fun H locs hG => ?_)
      refine lv_iinc (v := (x6 + (1 : Int32))) (lv' := [(6, .int (x6 + (1 : Int32))), (3, .int ((x3 * (10 : Int32)) + q4.1)), (4, .int (x4 ||| ((1 : Int32) <<< (q4.1 &&& 31)))), (5, .int (x5 - x5 / (facL.getD ((x2 - (1 : Int32)) - x6).toNatClampNeg 0) * (facL.getD ((x2 - (1 : Int32)) - x6).toNatClampNeg 0))), (8, .int q4.1), (7, .int (facL.getD ((x2 - (1 : Int32)) - x6).toNatClampNeg 0)), (0, .ref (w.2.2.1 0)), (2, .int x2)]) hx hb dX8_layRow_137 hl (k := 7) rfl rfl (by decide) rfl (fun ls hl => ?_)
      refine lv_goto (tgt := 11) hx hb dX8_layRow_140 (by decide) ?_
      exact hI11 _ (Option.some.inj hf).symm _ _ ls hG (lv_sub hl [6, 7, 1, 2, 3, 0] rfl)
  unfold f_X8_layRow at hf
  refine lv_iconst (v := 0) hx hb dX8_layRow_0 (by decide) ?_
  refine lv_istore_n (lv' := [(3, .int (0 : Int32)), (0, .ref (w.2.2.1 0)), (1, .int x1), (2, .int x2)]) hx hb dX8_layRow_1 rfl hl (by decide) rfl (fun ls hl => ?_)
  refine lv_iconst (v := 0) hx hb dX8_layRow_2 (by decide) ?_
  refine lv_istore (lv' := [(4, .int (0 : Int32)), (3, .int (0 : Int32)), (0, .ref (w.2.2.1 0)), (1, .int x1), (2, .int x2)]) hx hb dX8_layRow_3 hl (by decide) rfl (fun ls hl => ?_)
  refine lv_iload_n hx hb dX8_layRow_5 rfl (lv_at hl 3 rfl) ?_
  refine lv_istore (lv' := [(5, .int x1), (4, .int (0 : Int32)), (3, .int (0 : Int32)), (0, .ref (w.2.2.1 0)), (1, .int x1), (2, .int x2)]) hx hb dX8_layRow_6 hl (by decide) rfl (fun ls hl => ?_)
  refine lv_iconst (v := 0) hx hb dX8_layRow_8 (by decide) ?_
  refine lv_istore (lv' := [(6, .int (0 : Int32)), (5, .int x1), (4, .int (0 : Int32)), (3, .int (0 : Int32)), (0, .ref (w.2.2.1 0)), (1, .int x1), (2, .int x2)]) hx hb dX8_layRow_9 hl (by decide) rfl (fun ls hl => ?_)
  exact hJ11 _ _ _ _ _ _ _ _ ls hf hG (lv_sub hl [4, 6, 3, 2, 1, 0] rfl)

def j_X8_row_98 (n : Nat) (x2 : Int32) (x3 : Int32) (x4 : Int32) (x5 : Int32) (M : Mem) : Option (Rx) := if x2 = 0 then (some ((0 : Nat), x4, M)) else (if x3 = 0 then (some ((0 : Nat), (-1 : Int32), M)) else (some ((0 : Nat), x5, M)))
def j_X8_row_92 (n : Nat) (x1 : Int32) (x2 : Int32) (x3 : Int32) (x4 : Int32) (x5 : Int32) (x6 : Int32) (M : Mem) : Option ((Int32 × Int32 × Int32 × Mem) ⊕ (Rx)) := some (.inl (x4, x5, (x6 + (1 : Int32)), M))
def b_X8_row_38 (n : Nat) (x1 : Int32) (x2 : Int32) (x3 : Int32) (q : (Int32 × Int32 × Int32 × Mem)) : Option ((Int32 × Int32 × Int32 × Mem) ⊕ (Rx)) := match q with
  | (x4, x5, x6, M) => ck (inb x3 5) (if (facL.getD x3.toNatClampNeg 0) ≤ x6 then (mr (j_X8_row_98 n  x2 x3 x4 x5 M)) else (bd (f_X8_startTrial n   M) (fun q5 => bd (f_X8_layRow n  x6 x3 q5) (fun q6 => bd (f_X8_go n  x1 q6.2) (fun q7 => if (gi q7.2 10 6) ≤ x4 then (j_X8_row_92 n  x1 x2 x3 x4 x5 x6 q7.2) else (j_X8_row_92 n  x1 x2 x3 (gi q7.2 10 6) q6.1 x6 q7.2))))))
def f_X8_row (n : Nat) (x1 : Int32) (x2 : Int32) (M : Mem) : Option (Rx) := bd (f_X8_requireWhat n x2 (1 : Int32) M) (fun q9 => if q9.1 = 0 then (bd (f_X8_requireFrom1 n x1 q9.2.2) (fun q10 => if q10.1 = 0 then (bd (f_J9_min_7cf53 n  (4 : Int32) ((gi q10.2.2 4 5) - (gi q10.2.2 4 6)) q10.2.2) (fun q11 => gl (b_X8_row_38 n  x1 x2 q11.1) n ((-1 : Int32), (-1 : Int32), (0 : Int32), q11.2))) else (some (q10.1, (0 : Int32), q10.2.2)))) else (some (q9.1, (0 : Int32), q9.2.2)))
set_option maxHeartbeats 4000000 in
set_option maxRecDepth 100000 in
theorem c_X8_row (l : Launch) (w : Wd) (hst : l.stackTraces = false) (n : Nat) (x1 : Int32) (x2 : Int32) (M : Mem) (res : Rx) (hf : f_X8_row n  x1 x2 M = some res) : CX l w layC 61 (XN (YC w)) yX8_row cX8_row 8 (some .int) 7 2 [.ref (w.2.2.1 0), .int x1, .int x2] M (GXi w layC 61 res) (GXx w layC 61 res) := by
  refine cx_start (by decide +kernel) (Nat.le_of_ble_eq_true rfl) ?_
  intro p e s m args below meth c F hr hlk hno hX hG ls hl
  have F : FX w p m c cX8_row 8 s args RX8 := F
  obtain ⟨y1, y2, y3, y4, y5, y6, y7, y8, y9, y10, y11, y12⟩ := hX.2.2.2
  have hx := F.1.1
  have hb := F.1.2.1
  have hl : lv_has ls 8 [(0, .ref (w.2.2.1 0)), (1, .int x1), (2, .int x2)] := hl
  have hJ98 : ∀ (x2 : Int32) (x3 : Int32) (x4 : Int32) (x5 : Int32) (M : Mem) (H : Heap) (locs : List Loc) (ls : Array Slot), j_X8_row_98 n  x2 x3 x4 x5 M = some res → GI w layC 61 s.heap M H locs → lv_has ls 8 [(2, .int x2), (3, .int x3), (4, .int x4), (5, .int x5)] → W p l e (RmX 7 2) s m args below meth c H locs 2 12 (vx_MQ below (GXi w layC 61 res s.heap.size) (GXx w layC 61 res s.heap.size) args s 2 (6 * 2) (gA w.2.2.1 61 s.heap.size)) (F0 m 98 ls []) := by
    intro x2 x3 x4 x5 M H locs ls hf hG hl
    unfold j_X8_row_98 at hf
    refine lv_iload_n hx hb dX8_row_98 rfl (lv_at hl 0 rfl) ?_
    refine lv_if_ne (tgt := 105) hx hb dX8_row_99 (by decide) (fun c1 => ?_) (fun c1 => ?_)
    · replace hf := if_f c1 hf
      refine lv_iload_n hx hb dX8_row_105 rfl (lv_at hl 1 rfl) ?_
      refine lv_if_ne (tgt := 113) hx hb dX8_row_106 (by decide) (fun c2 => ?_) (fun c2 => ?_)
      · replace hf := if_f c2 hf
        refine lv_iload hx hb dX8_row_113 (lv_at hl 3 rfl) ?_
        exact cx_iret F hr hlk hG hf (by decide) (by decide) dX8_row_115
      · replace hf := if_t c2 hf
        refine lv_iconst (v := -1) hx hb dX8_row_109 (by decide) ?_
        refine lv_goto (tgt := 115) hx hb dX8_row_110 (by decide) ?_
        exact cx_iret F hr hlk hG hf (by decide) (by decide) dX8_row_115
    · replace hf := if_t c1 hf
      refine lv_iload hx hb dX8_row_102 (lv_at hl 2 rfl) ?_
      exact cx_iret F hr hlk hG hf (by decide) (by decide) dX8_row_104
  have hJ38 : ∀ (x1 : Int32) (x2 : Int32) (x3 : Int32) (x4 : Int32) (x5 : Int32) (x6 : Int32) (M : Mem) (H : Heap) (locs : List Loc) (ls : Array Slot), gl (b_X8_row_38 n  x1 x2 x3) n (x4, x5, x6, M) = some res → GI w layC 61 s.heap M H locs → lv_has ls 8 [(0, .ref (w.2.2.1 0)), (1, .int x1), (2, .int x2), (3, .int x3), (4, .int x4), (5, .int x5), (6, .int x6)] → W p l e (RmX 7 2) s m args below meth c H locs 2 12 (vx_MQ below (GXi w layC 61 res s.heap.size) (GXx w layC 61 res s.heap.size) args s 2 (6 * 2) (gA w.2.2.1 61 s.heap.size)) (F0 m 38 ls []) := by
    intro x1 x2 x3 x4 x5 x6 M H locs ls hf hG hl
    refine gl_run (P := fun (q : (Int32 × Int32 × Int32 × Mem)) => ∀ (H : Heap) (locs : List Loc) (ls : Array Slot), GI w layC 61 s.heap q.2.2.2 H locs → lv_has ls 8 [(0, .ref (w.2.2.1 0)), (1, .int x1), (2, .int x2), (3, .int x3), (4, .int q.1), (5, .int q.2.1), (6, .int q.2.2.1)] → W p l e (RmX 7 2) s m args below meth c H locs 2 12 (vx_MQ below (GXi w layC 61 res s.heap.size) (GXx w layC 61 res s.heap.size) args s 2 (6 * 2) (gA w.2.2.1 61 s.heap.size)) (F0 m 38 ls [])) ?_ n (x4, x5, x6, M) hf H locs ls hG hl
    clear hf hG hl ls locs H M x4 x5 x6
    rintro ⟨x4, x5, x6, M⟩ rr38 hf hI38 hE38 H locs ls hG hl
    try dsimp only at hG hl ⊢
    have hJ92 : ∀ (x4 : Int32) (x5 : Int32) (x6 : Int32) (M : Mem) (H : Heap) (locs : List Loc) (ls : Array Slot), j_X8_row_92 n  x1 x2 x3 x4 x5 x6 M = some rr38 → GI w layC 61 s.heap M H locs → lv_has ls 8 [(0, .ref (w.2.2.1 0)), (1, .int x1), (2, .int x2), (3, .int x3), (4, .int x4), (5, .int x5), (6, .int x6)] → W p l e (RmX 7 2) s m args below meth c H locs 2 12 (vx_MQ below (GXi w layC 61 res s.heap.size) (GXx w layC 61 res s.heap.size) args s 2 (6 * 2) (gA w.2.2.1 61 s.heap.size)) (F0 m 92 ls []) := by
      intro x4 x5 x6 M H locs ls hf hG hl
      unfold j_X8_row_92 at hf
      refine lv_iinc (v := (x6 + (1 : Int32))) (lv' := [(6, .int (x6 + (1 : Int32))), (0, .ref (w.2.2.1 0)), (1, .int x1), (2, .int x2), (3, .int x3), (4, .int x4), (5, .int x5)]) hx hb dX8_row_92 hl (k := 6) rfl rfl (by decide) rfl (fun ls hl => ?_)
      refine lv_goto (tgt := 38) hx hb dX8_row_95 (by decide) ?_
      exact hI38 _ (Option.some.inj hf).symm _ _ ls hG (lv_sub hl [1, 2, 3, 4, 5, 6, 0] rfl)
    dsimp only [b_X8_row_38] at hf
    refine lv_iload hx hb dX8_row_38 (lv_at hl 6 rfl) ?_
    refine va_gets hx hb y6 hG.2.2 F.1.2.2.2.1 (F.1.2.2.2.2 _ m_1160) (fun _ h9 => h9) dX8_row_40 ?_
    refine lv_iload_n hx hb dX8_row_43 rfl (lv_at hl 3 rfl) ?_
    replace hf := ck_some hf
    obtain ⟨k3, hf⟩ := hf
    refine va_ti hx hb y7 hG.2.2 k3 rfl dX8_row_44 ?_
    refine lv_icmp_ge (tgt := 98) hx hb dX8_row_45 (by decide) (fun c4 => ?_) (fun c4 => ?_)
    · replace hf := if_t c4 hf
      replace hf := mr_some hf
      obtain ⟨z38, hf, hz⟩ := hf
      rw [hE38 _ hz] at hf
      exact hJ98 _ _ _ _ _ _ _ ls hf hG (lv_sub hl [2, 3, 4, 5] rfl)
    · replace hf := if_f c4 hf
      refine lv_aload_n hx hb dX8_row_48 rfl (lv_at hl 0 rfl) ?_
      replace hf := bd_some hf
      obtain ⟨q5, eq5, hf⟩ := hf
      refine gx_callv hG (gx_runV (xn_ok (yc_ok w)) F hX hG (c_X8_startTrial l w  n   _ _ eq5) cv_X8_237 ⟨Nat.le_of_ble_eq_true rfl, Nat.le_of_ble_eq_true rfl⟩ (g_recv F hG ct_0 (by decide) rfl) rfl hl.1 rfl (Nat.le_of_ble_eq_true rfl) dX8_row_49 ⟨by decide, by decide⟩) (fun H locs hG => ?_)
      refine lv_aload_n hx hb dX8_row_52 rfl (lv_at hl 0 rfl) ?_
      refine lv_iload hx hb dX8_row_53 (lv_at hl 6 rfl) ?_
      refine lv_iload_n hx hb dX8_row_55 rfl (lv_at hl 3 rfl) ?_
      replace hf := bd_some hf
      obtain ⟨q6, eq6, hf⟩ := hf
      refine gx_calli hG (gx_runV (xn_ok (yc_ok w)) F hX hG (c_X8_layRow l w  n  x6 x3 _ _ eq6) cv_X8_286 ⟨Nat.le_of_ble_eq_true rfl, Nat.le_of_ble_eq_true rfl⟩ (g_recv F hG ct_0 (by decide) rfl) rfl hl.1 rfl (Nat.le_of_ble_eq_true rfl) dX8_row_56 ⟨by decide, by decide⟩) (fun H locs hG => ?_)
      refine lv_istore (lv' := [(7, .int q6.1), (0, .ref (w.2.2.1 0)), (1, .int x1), (2, .int x2), (3, .int x3), (4, .int x4), (5, .int x5), (6, .int x6)]) hx hb dX8_row_59 hl (by decide) rfl (fun ls hl => ?_)
      refine lv_aload_n hx hb dX8_row_61 rfl (lv_at hl 1 rfl) ?_
      refine lv_iload_n hx hb dX8_row_62 rfl (lv_at hl 2 rfl) ?_
      replace hf := bd_some hf
      obtain ⟨q7, eq7, hf⟩ := hf
      refine gx_calli hG (gx_runV (xn_ok (yc_ok w)) F hX hG (c_X8_go l w  n  x1 _ _ eq7) cv_X8_240 ⟨Nat.le_of_ble_eq_true rfl, Nat.le_of_ble_eq_true rfl⟩ (g_recv F hG ct_0 (by decide) rfl) rfl hl.1 rfl (Nat.le_of_ble_eq_true rfl) dX8_row_63 ⟨by decide, by decide⟩) (fun H locs hG => ?_)
      refine lv_pop hx hb dX8_row_66 rfl ?_
      refine lv_aload_n hx hb dX8_row_67 rfl (lv_at hl 1 rfl) ?_
      refine g_getR F hG 10 ct_0 (by decide) (by decide) lk_X8_20 rfl dX8_row_68 ?_
      refine g_getI F hG st_10.1 (by decide) (by decide) lk_X8_114 rfl dX8_row_71 ?_
      refine lv_iload hx hb dX8_row_74 (lv_at hl 5 rfl) ?_
      refine lv_icmp_le (tgt := 92) hx hb dX8_row_76 (by decide) (fun c8 => ?_) (fun c8 => ?_)
      · replace hf := if_t c8 hf
        exact hJ92 _ _ _ _ _ _ ls hf hG (lv_sub hl [1, 2, 3, 4, 5, 6, 7] rfl)
      · replace hf := if_f c8 hf
        refine lv_aload_n hx hb dX8_row_79 rfl (lv_at hl 1 rfl) ?_
        refine g_getR F hG 10 ct_0 (by decide) (by decide) lk_X8_20 rfl dX8_row_80 ?_
        refine g_getI F hG st_10.1 (by decide) (by decide) lk_X8_114 rfl dX8_row_83 ?_
        refine lv_istore (lv' := [(4, .int (gi q7.2 10 6)), (7, .int q6.1), (0, .ref (w.2.2.1 0)), (1, .int x1), (2, .int x2), (3, .int x3), (5, .int x5), (6, .int x6)]) hx hb dX8_row_86 hl (by decide) rfl (fun ls hl => ?_)
        refine lv_iload hx hb dX8_row_88 (lv_at hl 1 rfl) ?_
        refine lv_istore (lv' := [(5, .int q6.1), (4, .int (gi q7.2 10 6)), (7, .int q6.1), (0, .ref (w.2.2.1 0)), (1, .int x1), (2, .int x2), (3, .int x3), (6, .int x6)]) hx hb dX8_row_90 hl (by decide) rfl (fun ls hl => ?_)
        exact hJ92 _ _ _ _ _ _ ls hf hG (lv_sub hl [3, 4, 5, 6, 1, 0, 7] rfl)
  unfold f_X8_row at hf
  refine lv_iload_n hx hb dX8_row_0 rfl (lv_at hl 2 rfl) ?_
  refine lv_iconst (v := 1) hx hb dX8_row_1 (by decide) ?_
  replace hf := bd_some hf
  obtain ⟨q9, eq9, hf⟩ := hf
  refine gx_xcallv hno hlk F hG (gx_xrunS (xn_ok (yc_ok w)) F hX hG (c_X8_requireWhat l w hst n x2 (1 : Int32) _ _ eq9) cs_X8_231 ⟨Nat.le_of_ble_eq_true rfl, Nat.le_of_ble_eq_true rfl⟩ rfl hl.1 rfl (Nat.le_of_ble_eq_true rfl) dX8_row_2 ⟨by decide, by decide⟩) (by decide) (by decide) (fun hz => if_f hz hf) (fun hz H locs hG => ?_)
  replace hf := if_t hz hf
  refine W.widen (k := 1) (n := 6) (by decide) (by decide) ?_
  refine lv_iload_n hx hb dX8_row_5 rfl (lv_at hl 1 rfl) ?_
  replace hf := bd_some hf
  obtain ⟨q10, eq10, hf⟩ := hf
  refine gx_xcallv hno hlk F hG (gx_xrunS (xn_ok (yc_ok w)) F hX hG (c_X8_requireFrom1 l w hst n x1 _ _ eq10) cs_X8_252 ⟨Nat.le_of_ble_eq_true rfl, Nat.le_of_ble_eq_true rfl⟩ rfl hl.1 rfl (Nat.le_of_ble_eq_true rfl) dX8_row_6 ⟨by decide, by decide⟩) (by decide) (by decide) (fun hz => if_f hz hf) (fun hz H locs hG => ?_)
  replace hf := if_t hz hf
  refine W.widen (k := 2) (n := 12) (by decide) (by decide) ?_
  refine lv_iconst (v := 4) hx hb dX8_row_9 (by decide) ?_
  refine lv_aload_n hx hb dX8_row_10 rfl (lv_at hl 0 rfl) ?_
  refine g_getR F hG 4 ct_0 (by decide) (by decide) lk_X8_16 rfl dX8_row_11 ?_
  refine g_getI F hG st_4.1 (by decide) (by decide) lk_X8_117 rfl dX8_row_14 ?_
  refine lv_aload_n hx hb dX8_row_17 rfl (lv_at hl 0 rfl) ?_
  refine g_getR F hG 4 ct_0 (by decide) (by decide) lk_X8_16 rfl dX8_row_18 ?_
  refine g_getI F hG st_4.1 (by decide) (by decide) lk_X8_114 rfl dX8_row_21 ?_
  refine lv_isub hx hb dX8_row_24 ?_
  replace hf := bd_some hf
  obtain ⟨q11, eq11, hf⟩ := hf
  refine gx_calli hG (gx_runS (xn_ok (yc_ok w)) F hX hG (c_J9_min_7cf53 l w (yc_ok w) n  (4 : Int32) ((gi q10.2.2 4 5) - (gi q10.2.2 4 6)) _ _ eq11) cs_X8_280 ⟨Nat.le_of_ble_eq_true rfl, Nat.le_of_ble_eq_true rfl⟩ rfl hl.1 rfl (Nat.le_of_ble_eq_true rfl) dX8_row_25 ⟨by decide, by decide⟩) (fun H locs hG => ?_)
  refine lv_istore_n (lv' := [(3, .int q11.1), (0, .ref (w.2.2.1 0)), (1, .int x1), (2, .int x2)]) hx hb dX8_row_28 rfl hl (by decide) rfl (fun ls hl => ?_)
  refine lv_iconst (v := -1) hx hb dX8_row_29 (by decide) ?_
  refine lv_istore (lv' := [(4, .int (-1 : Int32)), (3, .int q11.1), (0, .ref (w.2.2.1 0)), (1, .int x1), (2, .int x2)]) hx hb dX8_row_30 hl (by decide) rfl (fun ls hl => ?_)
  refine lv_iconst (v := -1) hx hb dX8_row_32 (by decide) ?_
  refine lv_istore (lv' := [(5, .int (-1 : Int32)), (4, .int (-1 : Int32)), (3, .int q11.1), (0, .ref (w.2.2.1 0)), (1, .int x1), (2, .int x2)]) hx hb dX8_row_33 hl (by decide) rfl (fun ls hl => ?_)
  refine lv_iconst (v := 0) hx hb dX8_row_35 (by decide) ?_
  refine lv_istore (lv' := [(6, .int (0 : Int32)), (5, .int (-1 : Int32)), (4, .int (-1 : Int32)), (3, .int q11.1), (0, .ref (w.2.2.1 0)), (1, .int x1), (2, .int x2)]) hx hb dX8_row_36 hl (by decide) rfl (fun ls hl => ?_)
  exact hJ38 _ _ _ _ _ _ _ _ _ ls hf hG (lv_sub hl [4, 5, 6, 3, 2, 1, 0] rfl)

def j_X8_toMortar_100 (n : Nat) (x1 : Int32) (x2 : Int32) (x3 : Int32) (x4 : Int32) (M : Mem) : Option ((Int32 × Int32 × Int32 × Mem) ⊕ (Rx)) := some (.inl (x2, x3, (x4 + (1 : Int32)), M))
def b_X8_toMortar_27 (n : Nat) (x1 : Int32) (q : (Int32 × Int32 × Int32 × Mem)) : Option ((Int32 × Int32 × Int32 × Mem) ⊕ (Rx)) := match q with
  | (x2, x3, x4, M) => if (gi M 4 6) ≤ x4 then (mr (some ((0 : Nat), x3, M))) else (ck (inb x4 16) (if (9 : Int32) ≤ (gi M 6 x4.toNatClampNeg) then (j_X8_toMortar_100 n  x1 x2 x3 x4 M) else (bd (f_X8_startTrial n   M) (fun q4 => ck (inb x4 16) (ck (inb x4 16) (bd (f_X8_go n  x1 (si q4 12 x4.toNatClampNeg ((gi q4 12 x4.toNatClampNeg) + (1 : Int32)))) (fun q7 => if (gi q7.2 10 6) ≤ x2 then (j_X8_toMortar_100 n  x1 x2 x3 x4 q7.2) else (j_X8_toMortar_100 n  x1 (gi q7.2 10 6) x4 x4 q7.2))))))))
def f_X8_toMortar (n : Nat) (x1 : Int32) (M : Mem) : Option (Rx) := bd (f_X8_requireFrom1 n x1 M) (fun q9 => if q9.1 = 0 then (bd (f_X8_startTrial n   q9.2.2) (fun q10 => bd (f_X8_go n  x1 q10) (fun q11 => gl (b_X8_toMortar_27 n  x1) n ((gi q11.2 10 6), (-1 : Int32), (0 : Int32), q11.2)))) else (some (q9.1, (0 : Int32), q9.2.2)))
set_option maxHeartbeats 4000000 in
set_option maxRecDepth 100000 in
theorem c_X8_toMortar (l : Launch) (w : Wd) (hst : l.stackTraces = false) (n : Nat) (x1 : Int32) (M : Mem) (res : Rx) (hf : f_X8_toMortar n  x1 M = some res) : CX l w layC 61 (XN (YC w)) yX8_toMortar cX8_toMortar 5 (some .int) 7 1 [.ref (w.2.2.1 0), .int x1] M (GXi w layC 61 res) (GXx w layC 61 res) := by
  refine cx_start (by decide +kernel) (Nat.le_of_ble_eq_true rfl) ?_
  intro p e s m args below meth c F hr hlk hno hX hG ls hl
  have F : FX w p m c cX8_toMortar 5 s args RX8 := F
  have hx := F.1.1
  have hb := F.1.2.1
  have hl : lv_has ls 5 [(0, .ref (w.2.2.1 0)), (1, .int x1)] := hl
  have hJ27 : ∀ (x1 : Int32) (x2 : Int32) (x3 : Int32) (x4 : Int32) (M : Mem) (H : Heap) (locs : List Loc) (ls : Array Slot), gl (b_X8_toMortar_27 n  x1) n (x2, x3, x4, M) = some res → GI w layC 61 s.heap M H locs → lv_has ls 5 [(0, .ref (w.2.2.1 0)), (1, .int x1), (2, .int x2), (3, .int x3), (4, .int x4)] → W p l e (RmX 7 1) s m args below meth c H locs 1 6 (vx_MQ below (GXi w layC 61 res s.heap.size) (GXx w layC 61 res s.heap.size) args s 1 (6 * 1) (gA w.2.2.1 61 s.heap.size)) (F0 m 27 ls []) := by
    intro x1 x2 x3 x4 M H locs ls hf hG hl
    refine gl_run (P := fun (q : (Int32 × Int32 × Int32 × Mem)) => ∀ (H : Heap) (locs : List Loc) (ls : Array Slot), GI w layC 61 s.heap q.2.2.2 H locs → lv_has ls 5 [(0, .ref (w.2.2.1 0)), (1, .int x1), (2, .int q.1), (3, .int q.2.1), (4, .int q.2.2.1)] → W p l e (RmX 7 1) s m args below meth c H locs 1 6 (vx_MQ below (GXi w layC 61 res s.heap.size) (GXx w layC 61 res s.heap.size) args s 1 (6 * 1) (gA w.2.2.1 61 s.heap.size)) (F0 m 27 ls [])) ?_ n (x2, x3, x4, M) hf H locs ls hG hl
    clear hf hG hl ls locs H M x2 x3 x4
    rintro ⟨x2, x3, x4, M⟩ rr27 hf hI27 hE27 H locs ls hG hl
    try dsimp only at hG hl ⊢
    have hJ100 : ∀ (x2 : Int32) (x3 : Int32) (x4 : Int32) (M : Mem) (H : Heap) (locs : List Loc) (ls : Array Slot), j_X8_toMortar_100 n  x1 x2 x3 x4 M = some rr27 → GI w layC 61 s.heap M H locs → lv_has ls 5 [(0, .ref (w.2.2.1 0)), (1, .int x1), (2, .int x2), (3, .int x3), (4, .int x4)] → W p l e (RmX 7 1) s m args below meth c H locs 1 6 (vx_MQ below (GXi w layC 61 res s.heap.size) (GXx w layC 61 res s.heap.size) args s 1 (6 * 1) (gA w.2.2.1 61 s.heap.size)) (F0 m 100 ls []) := by
      intro x2 x3 x4 M H locs ls hf hG hl
      unfold j_X8_toMortar_100 at hf
      refine lv_iinc (v := (x4 + (1 : Int32))) (lv' := [(4, .int (x4 + (1 : Int32))), (0, .ref (w.2.2.1 0)), (1, .int x1), (2, .int x2), (3, .int x3)]) hx hb dX8_toMortar_100 hl (k := 4) rfl rfl (by decide) rfl (fun ls hl => ?_)
      refine lv_goto (tgt := 27) hx hb dX8_toMortar_103 (by decide) ?_
      exact hI27 _ (Option.some.inj hf).symm _ _ ls hG (lv_sub hl [1, 2, 3, 4, 0] rfl)
    dsimp only [b_X8_toMortar_27] at hf
    refine lv_iload hx hb dX8_toMortar_27 (lv_at hl 4 rfl) ?_
    refine lv_aload_n hx hb dX8_toMortar_29 rfl (lv_at hl 0 rfl) ?_
    refine g_getR F hG 4 ct_0 (by decide) (by decide) lk_X8_16 rfl dX8_toMortar_30 ?_
    refine g_getI F hG st_4.1 (by decide) (by decide) lk_X8_114 rfl dX8_toMortar_33 ?_
    refine lv_icmp_ge (tgt := 106) hx hb dX8_toMortar_36 (by decide) (fun c1 => ?_) (fun c1 => ?_)
    · replace hf := if_t c1 hf
      refine lv_iload_n hx hb dX8_toMortar_106 rfl (lv_at hl 3 rfl) ?_
      replace hf := mr_some hf
      obtain ⟨z27, hf, hz⟩ := hf
      rw [hE27 _ hz] at hf
      exact cx_iret F hr hlk hG hf (by decide) (by decide) dX8_toMortar_107
    · replace hf := if_f c1 hf
      refine lv_aload_n hx hb dX8_toMortar_39 rfl (lv_at hl 0 rfl) ?_
      refine g_getR F hG 4 ct_0 (by decide) (by decide) lk_X8_16 rfl dX8_toMortar_40 ?_
      refine g_getR F hG 6 st_4.1 (by decide) (by decide) lk_X8_180 rfl dX8_toMortar_43 ?_
      refine lv_iload hx hb dX8_toMortar_46 (lv_at hl 4 rfl) ?_
      replace hf := ck_some hf
      obtain ⟨k2, hf⟩ := hf
      refine g_iald F hG st_4.2.2.1 k2 dX8_toMortar_48 ?_
      refine lv_bipush (v := 9) hx hb dX8_toMortar_49 (by decide) ?_
      refine lv_icmp_ge (tgt := 100) hx hb dX8_toMortar_51 (by decide) (fun c3 => ?_) (fun c3 => ?_)
      · replace hf := if_t c3 hf
        exact hJ100 _ _ _ _ _ _ ls hf hG (lv_sub hl [0, 1, 2, 3, 4] rfl)
      · replace hf := if_f c3 hf
        refine lv_aload_n hx hb dX8_toMortar_54 rfl (lv_at hl 0 rfl) ?_
        replace hf := bd_some hf
        obtain ⟨q4, eq4, hf⟩ := hf
        refine gx_callv hG (gx_runV (xn_ok (yc_ok w)) F hX hG (c_X8_startTrial l w  n   _ _ eq4) cv_X8_237 ⟨Nat.le_of_ble_eq_true rfl, Nat.le_of_ble_eq_true rfl⟩ (g_recv F hG ct_0 (by decide) rfl) rfl hl.1 rfl (Nat.le_of_ble_eq_true rfl) dX8_toMortar_55 ⟨by decide, by decide⟩) (fun H locs hG => ?_)
        refine lv_aload_n hx hb dX8_toMortar_58 rfl (lv_at hl 0 rfl) ?_
        refine g_getR F hG 10 ct_0 (by decide) (by decide) lk_X8_20 rfl dX8_toMortar_59 ?_
        refine g_getR F hG 12 st_10.1 (by decide) (by decide) lk_X8_180 rfl dX8_toMortar_62 ?_
        refine lv_iload hx hb dX8_toMortar_65 (lv_at hl 4 rfl) ?_
        refine lv_dup2_11 hx hb dX8_toMortar_67 rfl rfl ?_
        replace hf := ck_some hf
        obtain ⟨k5, hf⟩ := hf
        refine g_iald F hG st_10.2.2.1 k5 dX8_toMortar_68 ?_
        refine lv_iconst (v := 1) hx hb dX8_toMortar_69 (by decide) ?_
        refine lv_iadd hx hb dX8_toMortar_70 ?_
        replace hf := ck_some hf
        obtain ⟨k6, hf⟩ := hf
        refine g_iast F hG st_10.2.2.1 k6 dX8_toMortar_71 (fun H locs hG => ?_)
        refine lv_aload_n hx hb dX8_toMortar_72 rfl (lv_at hl 0 rfl) ?_
        refine lv_iload_n hx hb dX8_toMortar_73 rfl (lv_at hl 1 rfl) ?_
        replace hf := bd_some hf
        obtain ⟨q7, eq7, hf⟩ := hf
        refine gx_calli hG (gx_runV (xn_ok (yc_ok w)) F hX hG (c_X8_go l w  n  x1 _ _ eq7) cv_X8_240 ⟨Nat.le_of_ble_eq_true rfl, Nat.le_of_ble_eq_true rfl⟩ (g_recv F hG ct_0 (by decide) rfl) rfl hl.1 rfl (Nat.le_of_ble_eq_true rfl) dX8_toMortar_74 ⟨by decide, by decide⟩) (fun H locs hG => ?_)
        refine lv_pop hx hb dX8_toMortar_77 rfl ?_
        refine lv_aload_n hx hb dX8_toMortar_78 rfl (lv_at hl 0 rfl) ?_
        refine g_getR F hG 10 ct_0 (by decide) (by decide) lk_X8_20 rfl dX8_toMortar_79 ?_
        refine g_getI F hG st_10.1 (by decide) (by decide) lk_X8_114 rfl dX8_toMortar_82 ?_
        refine lv_iload_n hx hb dX8_toMortar_85 rfl (lv_at hl 2 rfl) ?_
        refine lv_icmp_le (tgt := 100) hx hb dX8_toMortar_86 (by decide) (fun c8 => ?_) (fun c8 => ?_)
        · replace hf := if_t c8 hf
          exact hJ100 _ _ _ _ _ _ ls hf hG (lv_sub hl [0, 1, 2, 3, 4] rfl)
        · replace hf := if_f c8 hf
          refine lv_aload_n hx hb dX8_toMortar_89 rfl (lv_at hl 0 rfl) ?_
          refine g_getR F hG 10 ct_0 (by decide) (by decide) lk_X8_20 rfl dX8_toMortar_90 ?_
          refine g_getI F hG st_10.1 (by decide) (by decide) lk_X8_114 rfl dX8_toMortar_93 ?_
          refine lv_istore_n (lv' := [(2, .int (gi q7.2 10 6)), (0, .ref (w.2.2.1 0)), (1, .int x1), (3, .int x3), (4, .int x4)]) hx hb dX8_toMortar_96 rfl hl (by decide) rfl (fun ls hl => ?_)
          refine lv_iload hx hb dX8_toMortar_97 (lv_at hl 4 rfl) ?_
          refine lv_istore_n (lv' := [(3, .int x4), (2, .int (gi q7.2 10 6)), (0, .ref (w.2.2.1 0)), (1, .int x1), (4, .int x4)]) hx hb dX8_toMortar_99 rfl hl (by decide) rfl (fun ls hl => ?_)
          exact hJ100 _ _ _ _ _ _ ls hf hG (lv_sub hl [2, 3, 1, 0, 4] rfl)
  unfold f_X8_toMortar at hf
  refine lv_iload_n hx hb dX8_toMortar_0 rfl (lv_at hl 1 rfl) ?_
  replace hf := bd_some hf
  obtain ⟨q9, eq9, hf⟩ := hf
  refine gx_xcallv hno hlk F hG (gx_xrunS (xn_ok (yc_ok w)) F hX hG (c_X8_requireFrom1 l w hst n x1 _ _ eq9) cs_X8_252 ⟨Nat.le_of_ble_eq_true rfl, Nat.le_of_ble_eq_true rfl⟩ rfl hl.1 rfl (Nat.le_of_ble_eq_true rfl) dX8_toMortar_1 ⟨by decide, by decide⟩) (by decide) (by decide) (fun hz => if_f hz hf) (fun hz H locs hG => ?_)
  replace hf := if_t hz hf
  refine W.widen (k := 1) (n := 6) (by decide) (by decide) ?_
  refine lv_aload_n hx hb dX8_toMortar_4 rfl (lv_at hl 0 rfl) ?_
  replace hf := bd_some hf
  obtain ⟨q10, eq10, hf⟩ := hf
  refine gx_callv hG (gx_runV (xn_ok (yc_ok w)) F hX hG (c_X8_startTrial l w  n   _ _ eq10) cv_X8_237 ⟨Nat.le_of_ble_eq_true rfl, Nat.le_of_ble_eq_true rfl⟩ (g_recv F hG ct_0 (by decide) rfl) rfl hl.1 rfl (Nat.le_of_ble_eq_true rfl) dX8_toMortar_5 ⟨by decide, by decide⟩) (fun H locs hG => ?_)
  refine lv_aload_n hx hb dX8_toMortar_8 rfl (lv_at hl 0 rfl) ?_
  refine lv_iload_n hx hb dX8_toMortar_9 rfl (lv_at hl 1 rfl) ?_
  replace hf := bd_some hf
  obtain ⟨q11, eq11, hf⟩ := hf
  refine gx_calli hG (gx_runV (xn_ok (yc_ok w)) F hX hG (c_X8_go l w  n  x1 _ _ eq11) cv_X8_240 ⟨Nat.le_of_ble_eq_true rfl, Nat.le_of_ble_eq_true rfl⟩ (g_recv F hG ct_0 (by decide) rfl) rfl hl.1 rfl (Nat.le_of_ble_eq_true rfl) dX8_toMortar_10 ⟨by decide, by decide⟩) (fun H locs hG => ?_)
  refine lv_pop hx hb dX8_toMortar_13 rfl ?_
  refine lv_aload_n hx hb dX8_toMortar_14 rfl (lv_at hl 0 rfl) ?_
  refine g_getR F hG 10 ct_0 (by decide) (by decide) lk_X8_20 rfl dX8_toMortar_15 ?_
  refine g_getI F hG st_10.1 (by decide) (by decide) lk_X8_114 rfl dX8_toMortar_18 ?_
  refine lv_istore_n (lv' := [(2, .int (gi q11.2 10 6)), (0, .ref (w.2.2.1 0)), (1, .int x1)]) hx hb dX8_toMortar_21 rfl hl (by decide) rfl (fun ls hl => ?_)
  refine lv_iconst (v := -1) hx hb dX8_toMortar_22 (by decide) ?_
  refine lv_istore_n (lv' := [(3, .int (-1 : Int32)), (2, .int (gi q11.2 10 6)), (0, .ref (w.2.2.1 0)), (1, .int x1)]) hx hb dX8_toMortar_23 rfl hl (by decide) rfl (fun ls hl => ?_)
  refine lv_iconst (v := 0) hx hb dX8_toMortar_24 (by decide) ?_
  refine lv_istore (lv' := [(4, .int (0 : Int32)), (3, .int (-1 : Int32)), (2, .int (gi q11.2 10 6)), (0, .ref (w.2.2.1 0)), (1, .int x1)]) hx hb dX8_toMortar_25 hl (by decide) rfl (fun ls hl => ?_)
  exact hJ27 _ _ _ _ _ _ _ ls hf hG (lv_sub hl [3, 4, 2, 1, 0] rfl)

def j_X8_toProp_116 (n : Nat) (x2 : Int32) (x3 : Int32) (x4 : Int32) (M : Mem) : Option (Rx) := if x2 = 0 then (some ((0 : Nat), x4, M)) else (some ((0 : Nat), x3, M))
def j_X8_toProp_85 (n : Nat) (x1 : Int32) (x2 : Int32) (x3 : Int32) (x4 : Int32) (x5 : Int32) (M : Mem) : Option ((Int32 × Int32 × Int32 × Mem) ⊕ (Rx)) := ck (isTwB ((gi M 0 12).toNatClampNeg)) (ck (isTwB ((gi M 0 12).toNatClampNeg)) (bd (f_X6_windOn n ((gi M 0 12).toNatClampNeg) (gi M 16 8) M) (fun q4 => bd (f_X4_passDay n 16 ((gi M 0 12).toNatClampNeg) q4.1 q4.2) (fun q5 => some (.inl (x3, x4, (x5 + (1 : Int32)), q5))))))
def b_X8_toProp_28 (n : Nat) (x1 : Int32) (x2 : Int32) (q : (Int32 × Int32 × Int32 × Mem)) : Option ((Int32 × Int32 × Int32 × Mem) ⊕ (Rx)) := match q with
  | (x3, x4, x5, M) => if x1 < x5 then (mr (j_X8_toProp_116 n  x2 x3 x4 M)) else (bd (f_X4_copy n 10 16  M) (fun q7 => bd (f_X8_go n  (x1 - x5) (si q7 10 10 (0 : Int32))) (fun q8 => if (gi q8.2 10 6) ≤ x3 then (j_X8_toProp_85 n  x1 x2 x3 x4 x5 q8.2) else (j_X8_toProp_85 n  x1 x2 (gi q8.2 10 6) x5 x5 q8.2))))
def f_X8_toProp (n : Nat) (x1 : Int32) (x2 : Int32) (M : Mem) : Option (Rx) := bd (f_X8_requireWhat n x2 (1 : Int32) M) (fun q10 => if q10.1 = 0 then (bd (f_X8_requireFrom1 n x1 q10.2.2) (fun q11 => if q11.1 = 0 then (bd (f_X4_copy n 16 4  q11.2.2) (fun q12 => gl (b_X8_toProp_28 n  x1 x2) n ((-1 : Int32), (0 : Int32), (0 : Int32), q12))) else (some (q11.1, (0 : Int32), q11.2.2)))) else (some (q10.1, (0 : Int32), q10.2.2)))
set_option maxHeartbeats 4000000 in
set_option maxRecDepth 100000 in
theorem c_X8_toProp (l : Launch) (w : Wd) (hst : l.stackTraces = false) (n : Nat) (x1 : Int32) (x2 : Int32) (M : Mem) (res : Rx) (hf : f_X8_toProp n  x1 x2 M = some res) : CX l w layC 61 (XN (YC w)) yX8_toProp cX8_toProp 6 (some .int) 7 2 [.ref (w.2.2.1 0), .int x1, .int x2] M (GXi w layC 61 res) (GXx w layC 61 res) := by
  refine cx_start (by decide +kernel) (Nat.le_of_ble_eq_true rfl) ?_
  intro p e s m args below meth c F hr hlk hno hX hG ls hl
  have F : FX w p m c cX8_toProp 6 s args RX8 := F
  have hx := F.1.1
  have hb := F.1.2.1
  have hl : lv_has ls 6 [(0, .ref (w.2.2.1 0)), (1, .int x1), (2, .int x2)] := hl
  have hJ116 : ∀ (x2 : Int32) (x3 : Int32) (x4 : Int32) (M : Mem) (H : Heap) (locs : List Loc) (ls : Array Slot), j_X8_toProp_116 n  x2 x3 x4 M = some res → GI w layC 61 s.heap M H locs → lv_has ls 6 [(2, .int x2), (3, .int x3), (4, .int x4)] → W p l e (RmX 7 2) s m args below meth c H locs 2 12 (vx_MQ below (GXi w layC 61 res s.heap.size) (GXx w layC 61 res s.heap.size) args s 2 (6 * 2) (gA w.2.2.1 61 s.heap.size)) (F0 m 116 ls []) := by
    intro x2 x3 x4 M H locs ls hf hG hl
    unfold j_X8_toProp_116 at hf
    refine lv_iload_n hx hb dX8_toProp_116 rfl (lv_at hl 0 rfl) ?_
    refine lv_if_ne (tgt := 125) hx hb dX8_toProp_117 (by decide) (fun c1 => ?_) (fun c1 => ?_)
    · replace hf := if_f c1 hf
      refine lv_iload_n hx hb dX8_toProp_125 rfl (lv_at hl 1 rfl) ?_
      exact cx_iret F hr hlk hG hf (by decide) (by decide) dX8_toProp_126
    · replace hf := if_t c1 hf
      refine lv_iload hx hb dX8_toProp_120 (lv_at hl 2 rfl) ?_
      refine lv_goto (tgt := 126) hx hb dX8_toProp_122 (by decide) ?_
      exact cx_iret F hr hlk hG hf (by decide) (by decide) dX8_toProp_126
  have hJ28 : ∀ (x1 : Int32) (x2 : Int32) (x3 : Int32) (x4 : Int32) (x5 : Int32) (M : Mem) (H : Heap) (locs : List Loc) (ls : Array Slot), gl (b_X8_toProp_28 n  x1 x2) n (x3, x4, x5, M) = some res → GI w layC 61 s.heap M H locs → lv_has ls 6 [(0, .ref (w.2.2.1 0)), (1, .int x1), (2, .int x2), (3, .int x3), (4, .int x4), (5, .int x5)] → W p l e (RmX 7 2) s m args below meth c H locs 2 12 (vx_MQ below (GXi w layC 61 res s.heap.size) (GXx w layC 61 res s.heap.size) args s 2 (6 * 2) (gA w.2.2.1 61 s.heap.size)) (F0 m 28 ls []) := by
    intro x1 x2 x3 x4 x5 M H locs ls hf hG hl
    refine gl_run (P := fun (q : (Int32 × Int32 × Int32 × Mem)) => ∀ (H : Heap) (locs : List Loc) (ls : Array Slot), GI w layC 61 s.heap q.2.2.2 H locs → lv_has ls 6 [(0, .ref (w.2.2.1 0)), (1, .int x1), (2, .int x2), (3, .int q.1), (4, .int q.2.1), (5, .int q.2.2.1)] → W p l e (RmX 7 2) s m args below meth c H locs 2 12 (vx_MQ below (GXi w layC 61 res s.heap.size) (GXx w layC 61 res s.heap.size) args s 2 (6 * 2) (gA w.2.2.1 61 s.heap.size)) (F0 m 28 ls [])) ?_ n (x3, x4, x5, M) hf H locs ls hG hl
    clear hf hG hl ls locs H M x3 x4 x5
    rintro ⟨x3, x4, x5, M⟩ rr28 hf hI28 hE28 H locs ls hG hl
    try dsimp only at hG hl ⊢
    have hJ85 : ∀ (x3 : Int32) (x4 : Int32) (x5 : Int32) (M : Mem) (H : Heap) (locs : List Loc) (ls : Array Slot), j_X8_toProp_85 n  x1 x2 x3 x4 x5 M = some rr28 → GI w layC 61 s.heap M H locs → lv_has ls 6 [(0, .ref (w.2.2.1 0)), (1, .int x1), (2, .int x2), (3, .int x3), (4, .int x4), (5, .int x5)] → W p l e (RmX 7 2) s m args below meth c H locs 2 12 (vx_MQ below (GXi w layC 61 res s.heap.size) (GXx w layC 61 res s.heap.size) args s 2 (6 * 2) (gA w.2.2.1 61 s.heap.size)) (F0 m 85 ls []) := by
      intro x3 x4 x5 M H locs ls hf hG hl
      unfold j_X8_toProp_85 at hf
      refine lv_aload_n hx hb dX8_toProp_85 rfl (lv_at hl 0 rfl) ?_
      refine g_getR F hG 16 ct_0 (by decide) (by decide) lk_X8_23 rfl dX8_toProp_86 ?_
      refine lv_aload_n hx hb dX8_toProp_89 rfl (lv_at hl 0 rfl) ?_
      replace hf := ck_some hf
      obtain ⟨k2, hf⟩ := hf
      refine g_getM F hG ct_0 (by decide) (by decide) lk_X8_66 rfl dX8_toProp_90 ?_
      refine lv_aload_n hx hb dX8_toProp_93 rfl (lv_at hl 0 rfl) ?_
      replace hf := ck_some hf
      obtain ⟨k3, hf⟩ := hf
      refine g_getM F hG ct_0 (by decide) (by decide) lk_X8_66 rfl dX8_toProp_94 ?_
      refine lv_aload_n hx hb dX8_toProp_97 rfl (lv_at hl 0 rfl) ?_
      refine g_getR F hG 16 ct_0 (by decide) (by decide) lk_X8_23 rfl dX8_toProp_98 ?_
      refine g_getI F hG st_16.1 (by decide) (by decide) lk_X8_123 rfl dX8_toProp_101 ?_
      replace hf := bd_some hf
      obtain ⟨q4, eq4, hf⟩ := hf
      refine gx_calli hG (gx_runV (xn_ok (yc_ok w)) F hX hG (c_X6_windOn l w (yc_ok w) n ((gi M 0 12).toNatClampNeg) (tw_of k3) (gi M 16 8) _ _ eq4) cv_X8_206 ⟨Nat.le_of_ble_eq_true rfl, Nat.le_of_ble_eq_true rfl⟩ (g_recv F hG (tw_of k3).1 (by decide) rfl) rfl hl.1 rfl (Nat.le_of_ble_eq_true rfl) dX8_toProp_104 ⟨by decide, by decide⟩) (fun H locs hG => ?_)
      replace hf := bd_some hf
      obtain ⟨q5, eq5, hf⟩ := hf
      refine gx_callv hG (gx_runV (xn_ok (yc_ok w)) F hX hG (c_X4_passDay l w (yc_ok w) n 16 st_16 ((gi M 0 12).toNatClampNeg) (tw_of k2) q4.1 _ _ eq5) cv_X8_209 ⟨Nat.le_of_ble_eq_true rfl, Nat.le_of_ble_eq_true rfl⟩ (g_recv F hG st_16.1 (by decide) rfl) rfl hl.1 rfl (Nat.le_of_ble_eq_true rfl) dX8_toProp_107 ⟨by decide, by decide⟩) (fun H locs hG => ?_)
      refine lv_iinc (v := (x5 + (1 : Int32))) (lv' := [(5, .int (x5 + (1 : Int32))), (0, .ref (w.2.2.1 0)), (1, .int x1), (2, .int x2), (3, .int x3), (4, .int x4)]) hx hb dX8_toProp_110 hl (k := 5) rfl rfl (by decide) rfl (fun ls hl => ?_)
      refine lv_goto (tgt := 28) hx hb dX8_toProp_113 (by decide) ?_
      exact hI28 _ (Option.some.inj hf).symm _ _ ls hG (lv_sub hl [1, 2, 3, 4, 5, 0] rfl)
    dsimp only [b_X8_toProp_28] at hf
    refine lv_iload hx hb dX8_toProp_28 (lv_at hl 5 rfl) ?_
    refine lv_iload_n hx hb dX8_toProp_30 rfl (lv_at hl 1 rfl) ?_
    refine lv_icmp_gt (tgt := 116) hx hb dX8_toProp_31 (by decide) (fun c6 => ?_) (fun c6 => ?_)
    · replace hf := if_t c6 hf
      replace hf := mr_some hf
      obtain ⟨z28, hf, hz⟩ := hf
      rw [hE28 _ hz] at hf
      exact hJ116 _ _ _ _ _ _ ls hf hG (lv_sub hl [2, 3, 4] rfl)
    · replace hf := if_f c6 hf
      refine lv_aload_n hx hb dX8_toProp_34 rfl (lv_at hl 0 rfl) ?_
      refine g_getR F hG 10 ct_0 (by decide) (by decide) lk_X8_20 rfl dX8_toProp_35 ?_
      refine lv_aload_n hx hb dX8_toProp_38 rfl (lv_at hl 0 rfl) ?_
      refine g_getR F hG 16 ct_0 (by decide) (by decide) lk_X8_23 rfl dX8_toProp_39 ?_
      replace hf := bd_some hf
      obtain ⟨q7, eq7, hf⟩ := hf
      refine gx_callv hG (gx_runV (xn_ok (yc_ok w)) F hX hG (c_X4_copy l w (yc_ok w) n 10 st_10 16 st_16  _ _ eq7) cv_X8_106 ⟨Nat.le_of_ble_eq_true rfl, Nat.le_of_ble_eq_true rfl⟩ (g_recv F hG st_10.1 (by decide) rfl) rfl hl.1 rfl (Nat.le_of_ble_eq_true rfl) dX8_toProp_42 ⟨by decide, by decide⟩) (fun H locs hG => ?_)
      refine lv_aload_n hx hb dX8_toProp_45 rfl (lv_at hl 0 rfl) ?_
      refine g_getR F hG 10 ct_0 (by decide) (by decide) lk_X8_20 rfl dX8_toProp_46 ?_
      refine lv_iconst (v := 0) hx hb dX8_toProp_49 (by decide) ?_
      refine g_putI F hG st_10.1 (by decide) (by decide) lkv_X8_129 rfl rfl rfl dX8_toProp_50 (fun H locs hG => ?_)
      refine lv_aload_n hx hb dX8_toProp_53 rfl (lv_at hl 0 rfl) ?_
      refine lv_iload_n hx hb dX8_toProp_54 rfl (lv_at hl 1 rfl) ?_
      refine lv_iload hx hb dX8_toProp_55 (lv_at hl 5 rfl) ?_
      refine lv_isub hx hb dX8_toProp_57 ?_
      replace hf := bd_some hf
      obtain ⟨q8, eq8, hf⟩ := hf
      refine gx_calli hG (gx_runV (xn_ok (yc_ok w)) F hX hG (c_X8_go l w  n  (x1 - x5) _ _ eq8) cv_X8_240 ⟨Nat.le_of_ble_eq_true rfl, Nat.le_of_ble_eq_true rfl⟩ (g_recv F hG ct_0 (by decide) rfl) rfl hl.1 rfl (Nat.le_of_ble_eq_true rfl) dX8_toProp_58 ⟨by decide, by decide⟩) (fun H locs hG => ?_)
      refine lv_pop hx hb dX8_toProp_61 rfl ?_
      refine lv_aload_n hx hb dX8_toProp_62 rfl (lv_at hl 0 rfl) ?_
      refine g_getR F hG 10 ct_0 (by decide) (by decide) lk_X8_20 rfl dX8_toProp_63 ?_
      refine g_getI F hG st_10.1 (by decide) (by decide) lk_X8_114 rfl dX8_toProp_66 ?_
      refine lv_iload_n hx hb dX8_toProp_69 rfl (lv_at hl 3 rfl) ?_
      refine lv_icmp_le (tgt := 85) hx hb dX8_toProp_70 (by decide) (fun c9 => ?_) (fun c9 => ?_)
      · replace hf := if_t c9 hf
        exact hJ85 _ _ _ _ _ _ ls hf hG (lv_sub hl [0, 1, 2, 3, 4, 5] rfl)
      · replace hf := if_f c9 hf
        refine lv_aload_n hx hb dX8_toProp_73 rfl (lv_at hl 0 rfl) ?_
        refine g_getR F hG 10 ct_0 (by decide) (by decide) lk_X8_20 rfl dX8_toProp_74 ?_
        refine g_getI F hG st_10.1 (by decide) (by decide) lk_X8_114 rfl dX8_toProp_77 ?_
        refine lv_istore_n (lv' := [(3, .int (gi q8.2 10 6)), (0, .ref (w.2.2.1 0)), (1, .int x1), (2, .int x2), (4, .int x4), (5, .int x5)]) hx hb dX8_toProp_80 rfl hl (by decide) rfl (fun ls hl => ?_)
        refine lv_iload hx hb dX8_toProp_81 (lv_at hl 5 rfl) ?_
        refine lv_istore (lv' := [(4, .int x5), (3, .int (gi q8.2 10 6)), (0, .ref (w.2.2.1 0)), (1, .int x1), (2, .int x2), (5, .int x5)]) hx hb dX8_toProp_83 hl (by decide) rfl (fun ls hl => ?_)
        exact hJ85 _ _ _ _ _ _ ls hf hG (lv_sub hl [2, 3, 4, 1, 0, 5] rfl)
  unfold f_X8_toProp at hf
  refine lv_iload_n hx hb dX8_toProp_0 rfl (lv_at hl 2 rfl) ?_
  refine lv_iconst (v := 1) hx hb dX8_toProp_1 (by decide) ?_
  replace hf := bd_some hf
  obtain ⟨q10, eq10, hf⟩ := hf
  refine gx_xcallv hno hlk F hG (gx_xrunS (xn_ok (yc_ok w)) F hX hG (c_X8_requireWhat l w hst n x2 (1 : Int32) _ _ eq10) cs_X8_231 ⟨Nat.le_of_ble_eq_true rfl, Nat.le_of_ble_eq_true rfl⟩ rfl hl.1 rfl (Nat.le_of_ble_eq_true rfl) dX8_toProp_2 ⟨by decide, by decide⟩) (by decide) (by decide) (fun hz => if_f hz hf) (fun hz H locs hG => ?_)
  replace hf := if_t hz hf
  refine W.widen (k := 1) (n := 6) (by decide) (by decide) ?_
  refine lv_iload_n hx hb dX8_toProp_5 rfl (lv_at hl 1 rfl) ?_
  replace hf := bd_some hf
  obtain ⟨q11, eq11, hf⟩ := hf
  refine gx_xcallv hno hlk F hG (gx_xrunS (xn_ok (yc_ok w)) F hX hG (c_X8_requireFrom1 l w hst n x1 _ _ eq11) cs_X8_252 ⟨Nat.le_of_ble_eq_true rfl, Nat.le_of_ble_eq_true rfl⟩ rfl hl.1 rfl (Nat.le_of_ble_eq_true rfl) dX8_toProp_6 ⟨by decide, by decide⟩) (by decide) (by decide) (fun hz => if_f hz hf) (fun hz H locs hG => ?_)
  replace hf := if_t hz hf
  refine W.widen (k := 2) (n := 12) (by decide) (by decide) ?_
  refine lv_iconst (v := -1) hx hb dX8_toProp_9 (by decide) ?_
  refine lv_istore_n (lv' := [(3, .int (-1 : Int32)), (0, .ref (w.2.2.1 0)), (1, .int x1), (2, .int x2)]) hx hb dX8_toProp_10 rfl hl (by decide) rfl (fun ls hl => ?_)
  refine lv_iconst (v := 0) hx hb dX8_toProp_11 (by decide) ?_
  refine lv_istore (lv' := [(4, .int (0 : Int32)), (3, .int (-1 : Int32)), (0, .ref (w.2.2.1 0)), (1, .int x1), (2, .int x2)]) hx hb dX8_toProp_12 hl (by decide) rfl (fun ls hl => ?_)
  refine lv_aload_n hx hb dX8_toProp_14 rfl (lv_at hl 2 rfl) ?_
  refine g_getR F hG 16 ct_0 (by decide) (by decide) lk_X8_23 rfl dX8_toProp_15 ?_
  refine lv_aload_n hx hb dX8_toProp_18 rfl (lv_at hl 2 rfl) ?_
  refine g_getR F hG 4 ct_0 (by decide) (by decide) lk_X8_16 rfl dX8_toProp_19 ?_
  replace hf := bd_some hf
  obtain ⟨q12, eq12, hf⟩ := hf
  refine gx_callv hG (gx_runV (xn_ok (yc_ok w)) F hX hG (c_X4_copy l w (yc_ok w) n 16 st_16 4 st_4  _ _ eq12) cv_X8_106 ⟨Nat.le_of_ble_eq_true rfl, Nat.le_of_ble_eq_true rfl⟩ (g_recv F hG st_16.1 (by decide) rfl) rfl hl.1 rfl (Nat.le_of_ble_eq_true rfl) dX8_toProp_22 ⟨by decide, by decide⟩) (fun H locs hG => ?_)
  refine lv_iconst (v := 0) hx hb dX8_toProp_25 (by decide) ?_
  refine lv_istore (lv' := [(5, .int (0 : Int32)), (4, .int (0 : Int32)), (3, .int (-1 : Int32)), (0, .ref (w.2.2.1 0)), (1, .int x1), (2, .int x2)]) hx hb dX8_toProp_26 hl (by decide) rfl (fun ls hl => ?_)
  exact hJ28 _ _ _ _ _ _ _ _ ls hf hG (lv_sub hl [3, 4, 5, 2, 1, 0] rfl)

def j_X8_see_42 (n : Nat) (M : Mem) : Option (Int32 × Mem) := bd (f_X8_refuse n  (2 : Int32) M) (fun q1 => some (q1.1, q1.2))
def j_X8_see_25 (n : Nat) (t0 : Int32) (x1 : Int32) (x2 : Int32) (M : Mem) : Option (Int32 × Mem) := if t0 = 0 then (j_X8_see_42 n  M) else (bd (f_X3_add n 38 x1 x2 M) (fun q3 => if q3.1 = 0 then (j_X8_see_42 n  q3.2) else (some ((gi q3.2 38 2), q3.2))))
def j_X8_see_24 (n : Nat) (x1 : Int32) (x2 : Int32) (M : Mem) : Option (Int32 × Mem) := j_X8_see_25 n  (0 : Int32) x1 x2 M
def f_X8_see (n : Nat) (x1 : Int32) (x2 : Int32) (M : Mem) : Option (Int32 × Mem) := if x1 < 0 then (j_X8_see_24 n  x1 x2 M) else (if (20 : Int32) < x1 then (j_X8_see_24 n  x1 x2 M) else (if x2 < 0 then (j_X8_see_24 n  x1 x2 M) else (if (99 : Int32) < x2 then (j_X8_see_24 n  x1 x2 M) else (j_X8_see_25 n  (1 : Int32) x1 x2 M))))
set_option maxHeartbeats 4000000 in
set_option maxRecDepth 100000 in
theorem c_X8_see (l : Launch) (w : Wd)  (n : Nat) (x1 : Int32) (x2 : Int32) (M : Mem) (res : Int32 × Mem) (hf : f_X8_see n  x1 x2 M = some res) : CG l w layC 61 (XN (YC w)) yX8_see cX8_see 4 (some .int) 1 [.ref (w.2.2.1 0), .int x1, .int x2] M (GQi w layC 61 res) := by
  refine cg_start (by decide +kernel) (Nat.le_of_ble_eq_true rfl) ?_
  intro p e s m args below meth c F hr hlk hX hG ls hl
  have F : FX w p m c cX8_see 4 s args RX8 := F
  have hx := F.1.1
  have hb := F.1.2.1
  have hl : lv_has ls 4 [(0, .ref (w.2.2.1 0)), (1, .int x1), (2, .int x2)] := hl
  have hJ42 : ∀ (M : Mem) (H : Heap) (locs : List Loc) (ls : Array Slot), j_X8_see_42 n   M = some res → GI w layC 61 s.heap M H locs → lv_has ls 4 [(0, .ref (w.2.2.1 0))] → W p l e (Rm 1) s m args below meth c H locs 0 0 (MQ below (GQi w layC 61 res s.heap.size) args s 0 0 (gA w.2.2.1 61 s.heap.size)) (F0 m 42 ls []) := by
    intro  M H locs ls hf hG hl
    unfold j_X8_see_42 at hf
    refine lv_aload_n hx hb dX8_see_42 rfl (lv_at hl 0 rfl) ?_
    refine lv_iconst (v := 2) hx hb dX8_see_43 (by decide) ?_
    replace hf := bd_some hf
    obtain ⟨q1, eq1, hf⟩ := hf
    refine gx_calli hG (gx_runV (xn_ok (yc_ok w)) F hX hG (c_X8_refuse l w  n  (2 : Int32) _ _ eq1) cv_X8_200 ⟨Nat.le_of_ble_eq_true rfl, Nat.le_of_ble_eq_true rfl⟩ (g_recv F hG ct_0 (by decide) rfl) rfl hl.1 rfl (Nat.le_of_ble_eq_true rfl) dX8_see_44 ⟨Nat.le_refl _, Nat.le_refl _⟩) (fun H locs hG => ?_)
    exact cg_iret F hr hlk hG hf dX8_see_47
  have hJ25 : ∀ (t0 : Int32) (x1 : Int32) (x2 : Int32) (M : Mem) (H : Heap) (locs : List Loc) (ls : Array Slot), j_X8_see_25 n  t0 x1 x2 M = some res → GI w layC 61 s.heap M H locs → lv_has ls 4 [(0, .ref (w.2.2.1 0)), (1, .int x1), (2, .int x2)] → W p l e (Rm 1) s m args below meth c H locs 0 0 (MQ below (GQi w layC 61 res s.heap.size) args s 0 0 (gA w.2.2.1 61 s.heap.size)) (F0 m 25 ls [.int t0]) := by
    intro t0 x1 x2 M H locs ls hf hG hl
    unfold j_X8_see_25 at hf
    refine lv_istore_n (lv' := [(3, .int t0), (0, .ref (w.2.2.1 0)), (1, .int x1), (2, .int x2)]) hx hb dX8_see_25 rfl hl (by decide) rfl (fun ls hl => ?_)
    refine lv_iload_n hx hb dX8_see_26 rfl (lv_at hl 0 rfl) ?_
    refine lv_if_eq (tgt := 42) hx hb dX8_see_27 (by decide) (fun c2 => ?_) (fun c2 => ?_)
    · replace hf := if_t c2 hf
      exact hJ42  _ _ _ ls hf hG (lv_sub hl [1] rfl)
    · replace hf := if_f c2 hf
      refine lv_aload_n hx hb dX8_see_30 rfl (lv_at hl 1 rfl) ?_
      refine g_getR F hG 38 ct_0 (by decide) (by decide) lk_X8_36 rfl dX8_see_31 ?_
      refine lv_iload_n hx hb dX8_see_34 rfl (lv_at hl 2 rfl) ?_
      refine lv_iload_n hx hb dX8_see_35 rfl (lv_at hl 3 rfl) ?_
      replace hf := bd_some hf
      obtain ⟨q3, eq3, hf⟩ := hf
      refine gx_calli hG (gx_runV (xn_ok (yc_ok w)) F hX hG (c_X3_add l w (yc_ok w) n 38 sn_38 x1 x2 _ _ eq3) cv_X8_292 ⟨Nat.le_of_ble_eq_true rfl, Nat.le_of_ble_eq_true rfl⟩ (g_recv F hG sn_38.1 (by decide) rfl) rfl hl.1 rfl (Nat.le_of_ble_eq_true rfl) dX8_see_36 ⟨Nat.le_refl _, Nat.le_refl _⟩) (fun H locs hG => ?_)
      refine lv_if_ne (tgt := 48) hx hb dX8_see_39 (by decide) (fun c4 => ?_) (fun c4 => ?_)
      · replace hf := if_f c4 hf
        refine lv_aload_n hx hb dX8_see_48 rfl (lv_at hl 1 rfl) ?_
        refine g_getR F hG 38 ct_0 (by decide) (by decide) lk_X8_36 rfl dX8_see_49 ?_
        refine g_getI F hG sn_38.1 (by decide) (by decide) lk_X8_169 rfl dX8_see_52 ?_
        exact cg_iret F hr hlk hG hf dX8_see_55
      · replace hf := if_t c4 hf
        exact hJ42  _ _ _ ls hf hG (lv_sub hl [1] rfl)
  have hJ24 : ∀ (x1 : Int32) (x2 : Int32) (M : Mem) (H : Heap) (locs : List Loc) (ls : Array Slot), j_X8_see_24 n  x1 x2 M = some res → GI w layC 61 s.heap M H locs → lv_has ls 4 [(0, .ref (w.2.2.1 0)), (1, .int x1), (2, .int x2)] → W p l e (Rm 1) s m args below meth c H locs 0 0 (MQ below (GQi w layC 61 res s.heap.size) args s 0 0 (gA w.2.2.1 61 s.heap.size)) (F0 m 24 ls []) := by
    intro x1 x2 M H locs ls hf hG hl
    unfold j_X8_see_24 at hf
    refine lv_iconst (v := 0) hx hb dX8_see_24 (by decide) ?_
    exact hJ25 _ _ _ _ _ _ ls hf hG (lv_sub hl [0, 1, 2] rfl)
  unfold f_X8_see at hf
  refine lv_iload_n hx hb dX8_see_0 rfl (lv_at hl 1 rfl) ?_
  refine lv_if_lt (tgt := 24) hx hb dX8_see_1 (by decide) (fun c5 => ?_) (fun c5 => ?_)
  · replace hf := if_t c5 hf
    exact hJ24 _ _ _ _ _ ls hf hG (lv_sub hl [0, 1, 2] rfl)
  · replace hf := if_f c5 hf
    refine lv_iload_n hx hb dX8_see_4 rfl (lv_at hl 1 rfl) ?_
    refine lv_bipush (v := 20) hx hb dX8_see_5 (by decide) ?_
    refine lv_icmp_gt (tgt := 24) hx hb dX8_see_7 (by decide) (fun c6 => ?_) (fun c6 => ?_)
    · replace hf := if_t c6 hf
      exact hJ24 _ _ _ _ _ ls hf hG (lv_sub hl [0, 1, 2] rfl)
    · replace hf := if_f c6 hf
      refine lv_iload_n hx hb dX8_see_10 rfl (lv_at hl 2 rfl) ?_
      refine lv_if_lt (tgt := 24) hx hb dX8_see_11 (by decide) (fun c7 => ?_) (fun c7 => ?_)
      · replace hf := if_t c7 hf
        exact hJ24 _ _ _ _ _ ls hf hG (lv_sub hl [0, 1, 2] rfl)
      · replace hf := if_f c7 hf
        refine lv_iload_n hx hb dX8_see_14 rfl (lv_at hl 2 rfl) ?_
        refine lv_bipush (v := 99) hx hb dX8_see_15 (by decide) ?_
        refine lv_icmp_gt (tgt := 24) hx hb dX8_see_17 (by decide) (fun c8 => ?_) (fun c8 => ?_)
        · replace hf := if_t c8 hf
          exact hJ24 _ _ _ _ _ ls hf hG (lv_sub hl [0, 1, 2] rfl)
        · replace hf := if_f c8 hf
          refine lv_iconst (v := 1) hx hb dX8_see_20 (by decide) ?_
          refine lv_goto (tgt := 25) hx hb dX8_see_21 (by decide) ?_
          exact hJ25 _ _ _ _ _ _ ls hf hG (lv_sub hl [0, 1, 2] rfl)

def f_X8_forget (n : Nat) (M : Mem) : Option (Mem) := bd (f_X3_clear n 38  M) (fun q1 => some q1)
set_option maxHeartbeats 4000000 in
set_option maxRecDepth 100000 in
theorem c_X8_forget (l : Launch) (w : Wd)  (n : Nat) (M : Mem) (res : Mem) (hf : f_X8_forget n   M = some res) : CG l w layC 61 (XN (YC w)) yX8_forget cX8_forget 1 none 1 [.ref (w.2.2.1 0)] M (GQv w layC 61 res) := by
  refine cg_start (by decide +kernel) (Nat.le_of_ble_eq_true rfl) ?_
  intro p e s m args below meth c F hr hlk hX hG ls hl
  have F : FX w p m c cX8_forget 1 s args RX8 := F
  have hx := F.1.1
  have hb := F.1.2.1
  have hl : lv_has ls 1 [(0, .ref (w.2.2.1 0))] := hl
  unfold f_X8_forget at hf
  refine lv_aload_n hx hb dX8_forget_0 rfl (lv_at hl 0 rfl) ?_
  refine g_getR F hG 38 ct_0 (by decide) (by decide) lk_X8_36 rfl dX8_forget_1 ?_
  replace hf := bd_some hf
  obtain ⟨q1, eq1, hf⟩ := hf
  refine gx_callv hG (gx_runV (xn_ok (yc_ok w)) F hX hG (c_X3_clear l w (yc_ok w) n 38 sn_38  _ _ eq1) cv_X8_113 ⟨Nat.le_of_ble_eq_true rfl, Nat.le_of_ble_eq_true rfl⟩ (g_recv F hG sn_38.1 (by decide) rfl) rfl hl.1 rfl (Nat.le_of_ble_eq_true rfl) dX8_forget_4 ⟨Nat.le_refl _, Nat.le_refl _⟩) (fun H locs hG => ?_)
  exact cg_vret F hr hlk hG hf dX8_forget_7

def j_X8_leansAsSeen_44 (n : Nat) (x1 : Int32) (x2 : Int32) (M : Mem) : Option ((Int32 × Mem) ⊕ (Int32 × Mem)) := some (.inl ((x2 + (1 : Int32)), M))
def b_X8_leansAsSeen_10 (n : Nat) (x1 : Int32) (q : (Int32 × Mem)) : Option ((Int32 × Mem) ⊕ (Int32 × Mem)) := match q with
  | (x2, M) => if x1 < x2 then (mr (some ((1 : Int32), M))) else (bd (f_X3_allows n 38 x2 (gi M 10 10) M) (fun q2 => if q2.1 = 0 then (mr (some ((0 : Int32), q2.2))) else (if x1 ≤ x2 then (j_X8_leansAsSeen_44 n  x1 x2 q2.2) else (bd (f_X8_passTrialDay n   q2.2) (fun q5 => j_X8_leansAsSeen_44 n  x1 x2 q5)))))
def f_X8_leansAsSeen (n : Nat) (M : Mem) : Option (Int32 × Mem) := bd (f_X3_lastDay n 38  M) (fun q6 => gl (b_X8_leansAsSeen_10 n  q6.1) n ((0 : Int32), q6.2))
set_option maxHeartbeats 4000000 in
set_option maxRecDepth 100000 in
theorem c_X8_leansAsSeen (l : Launch) (w : Wd)  (n : Nat) (M : Mem) (res : Int32 × Mem) (hf : f_X8_leansAsSeen n   M = some res) : CG l w layC 61 (XN (YC w)) yX8_leansAsSeen cX8_leansAsSeen 3 (some .boolean) 5 [.ref (w.2.2.1 0)] M (GQi w layC 61 res) := by
  refine cg_start (by decide +kernel) (Nat.le_of_ble_eq_true rfl) ?_
  intro p e s m args below meth c F hr hlk hX hG ls hl
  have F : FX w p m c cX8_leansAsSeen 3 s args RX8 := F
  have hx := F.1.1
  have hb := F.1.2.1
  have hl : lv_has ls 3 [(0, .ref (w.2.2.1 0))] := hl
  have hJ10 : ∀ (x1 : Int32) (x2 : Int32) (M : Mem) (H : Heap) (locs : List Loc) (ls : Array Slot), gl (b_X8_leansAsSeen_10 n  x1) n (x2, M) = some res → GI w layC 61 s.heap M H locs → lv_has ls 3 [(0, .ref (w.2.2.1 0)), (1, .int x1), (2, .int x2)] → W p l e (Rm 5) s m args below meth c H locs 0 0 (MQ below (GQi w layC 61 res s.heap.size) args s 0 0 (gA w.2.2.1 61 s.heap.size)) (F0 m 10 ls []) := by
    intro x1 x2 M H locs ls hf hG hl
    refine gl_run (P := fun (q : (Int32 × Mem)) => ∀ (H : Heap) (locs : List Loc) (ls : Array Slot), GI w layC 61 s.heap q.2 H locs → lv_has ls 3 [(0, .ref (w.2.2.1 0)), (1, .int x1), (2, .int q.1)] → W p l e (Rm 5) s m args below meth c H locs 0 0 (MQ below (GQi w layC 61 res s.heap.size) args s 0 0 (gA w.2.2.1 61 s.heap.size)) (F0 m 10 ls [])) ?_ n (x2, M) hf H locs ls hG hl
    clear hf hG hl ls locs H M x2
    rintro ⟨x2, M⟩ rr10 hf hI10 hE10 H locs ls hG hl
    try dsimp only at hG hl ⊢
    have hJ44 : ∀ (x2 : Int32) (M : Mem) (H : Heap) (locs : List Loc) (ls : Array Slot), j_X8_leansAsSeen_44 n  x1 x2 M = some rr10 → GI w layC 61 s.heap M H locs → lv_has ls 3 [(0, .ref (w.2.2.1 0)), (1, .int x1), (2, .int x2)] → W p l e (Rm 5) s m args below meth c H locs 0 0 (MQ below (GQi w layC 61 res s.heap.size) args s 0 0 (gA w.2.2.1 61 s.heap.size)) (F0 m 44 ls []) := by
      intro x2 M H locs ls hf hG hl
      unfold j_X8_leansAsSeen_44 at hf
      refine lv_iinc (v := (x2 + (1 : Int32))) (lv' := [(2, .int (x2 + (1 : Int32))), (0, .ref (w.2.2.1 0)), (1, .int x1)]) hx hb dX8_leansAsSeen_44 hl (k := 2) rfl rfl (by decide) rfl (fun ls hl => ?_)
      refine lv_goto (tgt := 10) hx hb dX8_leansAsSeen_47 (by decide) ?_
      exact hI10 _ (Option.some.inj hf).symm _ _ ls hG (lv_sub hl [1, 2, 0] rfl)
    dsimp only [b_X8_leansAsSeen_10] at hf
    refine lv_iload_n hx hb dX8_leansAsSeen_10 rfl (lv_at hl 2 rfl) ?_
    refine lv_iload_n hx hb dX8_leansAsSeen_11 rfl (lv_at hl 1 rfl) ?_
    refine lv_icmp_gt (tgt := 50) hx hb dX8_leansAsSeen_12 (by decide) (fun c1 => ?_) (fun c1 => ?_)
    · replace hf := if_t c1 hf
      refine lv_iconst (v := 1) hx hb dX8_leansAsSeen_50 (by decide) ?_
      replace hf := mr_some hf
      obtain ⟨z10, hf, hz⟩ := hf
      rw [hE10 _ hz] at hf
      exact cg_zret F hr hlk hG hf (Or.inr rfl) dX8_leansAsSeen_51
    · replace hf := if_f c1 hf
      refine lv_aload_n hx hb dX8_leansAsSeen_15 rfl (lv_at hl 0 rfl) ?_
      refine g_getR F hG 38 ct_0 (by decide) (by decide) lk_X8_36 rfl dX8_leansAsSeen_16 ?_
      refine lv_iload_n hx hb dX8_leansAsSeen_19 rfl (lv_at hl 2 rfl) ?_
      refine lv_aload_n hx hb dX8_leansAsSeen_20 rfl (lv_at hl 0 rfl) ?_
      refine g_getR F hG 10 ct_0 (by decide) (by decide) lk_X8_20 rfl dX8_leansAsSeen_21 ?_
      refine g_getI F hG st_10.1 (by decide) (by decide) lk_X8_129 rfl dX8_leansAsSeen_24 ?_
      replace hf := bd_some hf
      obtain ⟨q2, eq2, hf⟩ := hf
      refine gx_calli hG (gx_runV (xn_ok (yc_ok w)) F hX hG (c_X3_allows l w (yc_ok w) n 38 sn_38 x2 (gi M 10 10) _ _ eq2) cv_X8_305 ⟨Nat.le_of_ble_eq_true rfl, Nat.le_of_ble_eq_true rfl⟩ (g_recv F hG sn_38.1 (by decide) rfl) rfl hl.1 rfl (Nat.le_of_ble_eq_true rfl) dX8_leansAsSeen_27 ⟨Nat.le_refl _, Nat.le_refl _⟩) (fun H locs hG => ?_)
      refine lv_if_ne (tgt := 35) hx hb dX8_leansAsSeen_30 (by decide) (fun c3 => ?_) (fun c3 => ?_)
      · replace hf := if_f c3 hf
        refine lv_iload_n hx hb dX8_leansAsSeen_35 rfl (lv_at hl 2 rfl) ?_
        refine lv_iload_n hx hb dX8_leansAsSeen_36 rfl (lv_at hl 1 rfl) ?_
        refine lv_icmp_ge (tgt := 44) hx hb dX8_leansAsSeen_37 (by decide) (fun c4 => ?_) (fun c4 => ?_)
        · replace hf := if_t c4 hf
          exact hJ44 _ _ _ _ ls hf hG (lv_sub hl [0, 1, 2] rfl)
        · replace hf := if_f c4 hf
          refine lv_aload_n hx hb dX8_leansAsSeen_40 rfl (lv_at hl 0 rfl) ?_
          replace hf := bd_some hf
          obtain ⟨q5, eq5, hf⟩ := hf
          refine gx_callv hG (gx_runV (xn_ok (yc_ok w)) F hX hG (c_X8_passTrialDay l w  n   _ _ eq5) cv_X8_243 ⟨Nat.le_of_ble_eq_true rfl, Nat.le_of_ble_eq_true rfl⟩ (g_recv F hG ct_0 (by decide) rfl) rfl hl.1 rfl (Nat.le_of_ble_eq_true rfl) dX8_leansAsSeen_41 ⟨Nat.le_refl _, Nat.le_refl _⟩) (fun H locs hG => ?_)
          exact hJ44 _ _ _ _ ls hf hG (lv_sub hl [0, 1, 2] rfl)
      · replace hf := if_t c3 hf
        refine lv_iconst (v := 0) hx hb dX8_leansAsSeen_33 (by decide) ?_
        replace hf := mr_some hf
        obtain ⟨z10, hf, hz⟩ := hf
        rw [hE10 _ hz] at hf
        exact cg_zret F hr hlk hG hf (Or.inl rfl) dX8_leansAsSeen_34
  unfold f_X8_leansAsSeen at hf
  refine lv_aload_n hx hb dX8_leansAsSeen_0 rfl (lv_at hl 0 rfl) ?_
  refine g_getR F hG 38 ct_0 (by decide) (by decide) lk_X8_36 rfl dX8_leansAsSeen_1 ?_
  replace hf := bd_some hf
  obtain ⟨q6, eq6, hf⟩ := hf
  refine gx_calli hG (gx_runV (xn_ok (yc_ok w)) F hX hG (c_X3_lastDay l w (yc_ok w) n 38 sn_38  _ _ eq6) cv_X8_302 ⟨Nat.le_of_ble_eq_true rfl, Nat.le_of_ble_eq_true rfl⟩ (g_recv F hG sn_38.1 (by decide) rfl) rfl hl.1 rfl (Nat.le_of_ble_eq_true rfl) dX8_leansAsSeen_4 ⟨Nat.le_refl _, Nat.le_refl _⟩) (fun H locs hG => ?_)
  refine lv_istore_n (lv' := [(1, .int q6.1), (0, .ref (w.2.2.1 0))]) hx hb dX8_leansAsSeen_7 rfl hl (by decide) rfl (fun ls hl => ?_)
  refine lv_iconst (v := 0) hx hb dX8_leansAsSeen_8 (by decide) ?_
  refine lv_istore_n (lv' := [(2, .int (0 : Int32)), (1, .int q6.1), (0, .ref (w.2.2.1 0))]) hx hb dX8_leansAsSeen_9 rfl hl (by decide) rfl (fun ls hl => ?_)
  exact hJ10 _ _ _ _ _ ls hf hG (lv_sub hl [2, 1, 0] rfl)

def f_X8_maybeHeavy (n : Nat) (x1 : Int32) (x2 : Int32) (M : Mem) : Option (Int32 × Mem) := ck (inb x1 16) (if (gi M 5 x1.toNatClampNeg) = x2 then (some ((0 : Int32), M)) else (bd (f_X8_startTrial n   M) (fun q3 => ck (inb x1 16) (bd (f_X8_leansAsSeen n   (si q3 11 x1.toNatClampNeg x2)) (fun q5 => ck (q5.1 = 0 ∨ q5.1 = 1) (some (q5.1, q5.2)))))))
set_option maxHeartbeats 4000000 in
set_option maxRecDepth 100000 in
theorem c_X8_maybeHeavy (l : Launch) (w : Wd)  (n : Nat) (x1 : Int32) (x2 : Int32) (M : Mem) (res : Int32 × Mem) (hf : f_X8_maybeHeavy n  x1 x2 M = some res) : CG l w layC 61 (XN (YC w)) yX8_maybeHeavy cX8_maybeHeavy 3 (some .boolean) 6 [.ref (w.2.2.1 0), .int x1, .int x2] M (GQi w layC 61 res) := by
  refine cg_start (by decide +kernel) (Nat.le_of_ble_eq_true rfl) ?_
  intro p e s m args below meth c F hr hlk hX hG ls hl
  have F : FX w p m c cX8_maybeHeavy 3 s args RX8 := F
  have hx := F.1.1
  have hb := F.1.2.1
  have hl : lv_has ls 3 [(0, .ref (w.2.2.1 0)), (1, .int x1), (2, .int x2)] := hl
  unfold f_X8_maybeHeavy at hf
  refine lv_aload_n hx hb dX8_maybeHeavy_0 rfl (lv_at hl 0 rfl) ?_
  refine g_getR F hG 4 ct_0 (by decide) (by decide) lk_X8_16 rfl dX8_maybeHeavy_1 ?_
  refine g_getR F hG 5 st_4.1 (by decide) (by decide) lk_X8_177 rfl dX8_maybeHeavy_4 ?_
  refine lv_iload_n hx hb dX8_maybeHeavy_7 rfl (lv_at hl 1 rfl) ?_
  replace hf := ck_some hf
  obtain ⟨k1, hf⟩ := hf
  refine g_iald F hG st_4.2.1 k1 dX8_maybeHeavy_8 ?_
  refine lv_iload_n hx hb dX8_maybeHeavy_9 rfl (lv_at hl 2 rfl) ?_
  refine lv_icmp_ne (tgt := 15) hx hb dX8_maybeHeavy_10 (by decide) (fun c2 => ?_) (fun c2 => ?_)
  · replace hf := if_f c2 hf
    refine lv_aload_n hx hb dX8_maybeHeavy_15 rfl (lv_at hl 0 rfl) ?_
    replace hf := bd_some hf
    obtain ⟨q3, eq3, hf⟩ := hf
    refine gx_callv hG (gx_runV (xn_ok (yc_ok w)) F hX hG (c_X8_startTrial l w  n   _ _ eq3) cv_X8_237 ⟨Nat.le_of_ble_eq_true rfl, Nat.le_of_ble_eq_true rfl⟩ (g_recv F hG ct_0 (by decide) rfl) rfl hl.1 rfl (Nat.le_of_ble_eq_true rfl) dX8_maybeHeavy_16 ⟨Nat.le_refl _, Nat.le_refl _⟩) (fun H locs hG => ?_)
    refine lv_aload_n hx hb dX8_maybeHeavy_19 rfl (lv_at hl 0 rfl) ?_
    refine g_getR F hG 10 ct_0 (by decide) (by decide) lk_X8_20 rfl dX8_maybeHeavy_20 ?_
    refine g_getR F hG 11 st_10.1 (by decide) (by decide) lk_X8_177 rfl dX8_maybeHeavy_23 ?_
    refine lv_iload_n hx hb dX8_maybeHeavy_26 rfl (lv_at hl 1 rfl) ?_
    refine lv_iload_n hx hb dX8_maybeHeavy_27 rfl (lv_at hl 2 rfl) ?_
    replace hf := ck_some hf
    obtain ⟨k4, hf⟩ := hf
    refine g_iast F hG st_10.2.1 k4 dX8_maybeHeavy_28 (fun H locs hG => ?_)
    refine lv_aload_n hx hb dX8_maybeHeavy_29 rfl (lv_at hl 0 rfl) ?_
    replace hf := bd_some hf
    obtain ⟨q5, eq5, hf⟩ := hf
    refine gx_calli hG (gx_runV (xn_ok (yc_ok w)) F hX hG (c_X8_leansAsSeen l w  n   _ _ eq5) cv_X8_295 ⟨Nat.le_of_ble_eq_true rfl, Nat.le_of_ble_eq_true rfl⟩ (g_recv F hG ct_0 (by decide) rfl) rfl hl.1 rfl (Nat.le_of_ble_eq_true rfl) dX8_maybeHeavy_30 ⟨Nat.le_refl _, Nat.le_refl _⟩) (fun H locs hG => ?_)
    replace hf := ck_some hf
    obtain ⟨k6, hf⟩ := hf
    exact cg_zret F hr hlk hG hf k6 dX8_maybeHeavy_33
  · replace hf := if_t c2 hf
    refine lv_iconst (v := 0) hx hb dX8_maybeHeavy_13 (by decide) ?_
    exact cg_zret F hr hlk hG hf (Or.inl rfl) dX8_maybeHeavy_14

def j_X8_heavy_99 (n : Nat) (x1 : Int32) (x2 : Int32) (x3 : Int32) (M : Mem) : Option (Rx) := if x1 = 0 then (some ((0 : Nat), x2, M)) else (some ((0 : Nat), x3, M))
def j_X8_heavy_93 (n : Nat) (x1 : Int32) (x2 : Int32) (x3 : Int32) (x4 : Int32) (M : Mem) : Option ((Int32 × Int32 × Int32 × Mem) ⊕ (Rx)) := some (.inl (x2, x3, (x4 + (1 : Int32)), M))
def j_X8_heavy_87 (n : Nat) (x1 : Int32) (x2 : Int32) (x3 : Int32) (x4 : Int32) (x5 : Int32) (M : Mem) : Option ((Int32 × Int32 × Int32 × Mem) ⊕ ((Int32 × Int32 × Int32 × Mem) ⊕ (Rx))) := some (.inl (x2, x3, (x5 + (1 : Int32)), M))
def j_X8_heavy_83 (n : Nat) (t0 : Int32) (x1 : Int32) (x2 : Int32) (x4 : Int32) (x5 : Int32) (M : Mem) : Option ((Int32 × Int32 × Int32 × Mem) ⊕ ((Int32 × Int32 × Int32 × Mem) ⊕ (Rx))) := j_X8_heavy_87 n  x1 (x2 + (1 : Int32)) t0 x4 x5 M
def b_X8_heavy_49 (n : Nat) (x1 : Int32) (x4 : Int32) (q : (Int32 × Int32 × Int32 × Mem)) : Option ((Int32 × Int32 × Int32 × Mem) ⊕ ((Int32 × Int32 × Int32 × Mem) ⊕ (Rx))) := match q with
  | (x2, x3, x5, M) => if (9 : Int32) < x5 then (mr (j_X8_heavy_93 n  x1 x2 x3 x4 M)) else (bd (f_X8_maybeHeavy n  x4 x5 M) (fun q3 => if q3.1 = 0 then (j_X8_heavy_87 n  x1 x2 x3 x4 x5 q3.2) else (if x2 = 0 then (j_X8_heavy_83 n  (((10 : Int32) * x4) + x5) x1 x2 x4 x5 q3.2) else (j_X8_heavy_83 n  x3 x1 x2 x4 x5 q3.2))))
def b_X8_heavy_34 (n : Nat) (x1 : Int32) (q : (Int32 × Int32 × Int32 × Mem)) : Option ((Int32 × Int32 × Int32 × Mem) ⊕ (Rx)) := match q with
  | (x2, x3, x4, M) => if (gi M 4 6) ≤ x4 then (mr (j_X8_heavy_99 n  x1 x2 x3 M)) else (gl (b_X8_heavy_49 n  x1 x4) n (x2, x3, (1 : Int32), M))
def f_X8_heavy (n : Nat) (x1 : Int32) (M : Mem) : Option (Rx) := bd (f_X8_requireWhat n x1 (2 : Int32) M) (fun q7 => if q7.1 = 0 then (if x1 = (2 : Int32) then (bd (f_X8_startTrial n   q7.2.2) (fun q9 => bd (f_X8_leansAsSeen n   q9) (fun q10 => if q10.1 = 0 then (some ((0 : Nat), (0 : Int32), q10.2)) else (some ((0 : Nat), (1 : Int32), q10.2))))) else (gl (b_X8_heavy_34 n  x1) n ((0 : Int32), (-1 : Int32), (0 : Int32), q7.2.2))) else (some (q7.1, (0 : Int32), q7.2.2)))
set_option maxHeartbeats 4000000 in
set_option maxRecDepth 100000 in
theorem c_X8_heavy (l : Launch) (w : Wd) (hst : l.stackTraces = false) (n : Nat) (x1 : Int32) (M : Mem) (res : Rx) (hf : f_X8_heavy n  x1 M = some res) : CX l w layC 61 (XN (YC w)) yX8_heavy cX8_heavy 6 (some .int) 7 1 [.ref (w.2.2.1 0), .int x1] M (GXi w layC 61 res) (GXx w layC 61 res) := by
  refine cx_start (by decide +kernel) (Nat.le_of_ble_eq_true rfl) ?_
  intro p e s m args below meth c F hr hlk hno hX hG ls hl
  have F : FX w p m c cX8_heavy 6 s args RX8 := F
  have hx := F.1.1
  have hb := F.1.2.1
  have hl : lv_has ls 6 [(0, .ref (w.2.2.1 0)), (1, .int x1)] := hl
  have hJ99 : ∀ (x1 : Int32) (x2 : Int32) (x3 : Int32) (M : Mem) (H : Heap) (locs : List Loc) (ls : Array Slot), j_X8_heavy_99 n  x1 x2 x3 M = some res → GI w layC 61 s.heap M H locs → lv_has ls 6 [(1, .int x1), (2, .int x2), (3, .int x3)] → W p l e (RmX 7 1) s m args below meth c H locs 1 6 (vx_MQ below (GXi w layC 61 res s.heap.size) (GXx w layC 61 res s.heap.size) args s 1 (6 * 1) (gA w.2.2.1 61 s.heap.size)) (F0 m 99 ls []) := by
    intro x1 x2 x3 M H locs ls hf hG hl
    unfold j_X8_heavy_99 at hf
    refine lv_iload_n hx hb dX8_heavy_99 rfl (lv_at hl 0 rfl) ?_
    refine lv_if_ne (tgt := 107) hx hb dX8_heavy_100 (by decide) (fun c1 => ?_) (fun c1 => ?_)
    · replace hf := if_f c1 hf
      refine lv_iload_n hx hb dX8_heavy_107 rfl (lv_at hl 2 rfl) ?_
      exact cx_iret F hr hlk hG hf (by decide) (by decide) dX8_heavy_108
    · replace hf := if_t c1 hf
      refine lv_iload_n hx hb dX8_heavy_103 rfl (lv_at hl 1 rfl) ?_
      refine lv_goto (tgt := 108) hx hb dX8_heavy_104 (by decide) ?_
      exact cx_iret F hr hlk hG hf (by decide) (by decide) dX8_heavy_108
  have hJ34 : ∀ (x1 : Int32) (x2 : Int32) (x3 : Int32) (x4 : Int32) (M : Mem) (H : Heap) (locs : List Loc) (ls : Array Slot), gl (b_X8_heavy_34 n  x1) n (x2, x3, x4, M) = some res → GI w layC 61 s.heap M H locs → lv_has ls 6 [(0, .ref (w.2.2.1 0)), (1, .int x1), (2, .int x2), (3, .int x3), (4, .int x4)] → W p l e (RmX 7 1) s m args below meth c H locs 1 6 (vx_MQ below (GXi w layC 61 res s.heap.size) (GXx w layC 61 res s.heap.size) args s 1 (6 * 1) (gA w.2.2.1 61 s.heap.size)) (F0 m 34 ls []) := by
    intro x1 x2 x3 x4 M H locs ls hf hG hl
    refine gl_run (P := fun (q : (Int32 × Int32 × Int32 × Mem)) => ∀ (H : Heap) (locs : List Loc) (ls : Array Slot), GI w layC 61 s.heap q.2.2.2 H locs → lv_has ls 6 [(0, .ref (w.2.2.1 0)), (1, .int x1), (2, .int q.1), (3, .int q.2.1), (4, .int q.2.2.1)] → W p l e (RmX 7 1) s m args below meth c H locs 1 6 (vx_MQ below (GXi w layC 61 res s.heap.size) (GXx w layC 61 res s.heap.size) args s 1 (6 * 1) (gA w.2.2.1 61 s.heap.size)) (F0 m 34 ls [])) ?_ n (x2, x3, x4, M) hf H locs ls hG hl
    clear hf hG hl ls locs H M x2 x3 x4
    rintro ⟨x2, x3, x4, M⟩ rr34 hf hI34 hE34 H locs ls hG hl
    try dsimp only at hG hl ⊢
    have hJ93 : ∀ (x2 : Int32) (x3 : Int32) (x4 : Int32) (M : Mem) (H : Heap) (locs : List Loc) (ls : Array Slot), j_X8_heavy_93 n  x1 x2 x3 x4 M = some rr34 → GI w layC 61 s.heap M H locs → lv_has ls 6 [(0, .ref (w.2.2.1 0)), (1, .int x1), (2, .int x2), (3, .int x3), (4, .int x4)] → W p l e (RmX 7 1) s m args below meth c H locs 1 6 (vx_MQ below (GXi w layC 61 res s.heap.size) (GXx w layC 61 res s.heap.size) args s 1 (6 * 1) (gA w.2.2.1 61 s.heap.size)) (F0 m 93 ls []) := by
      intro x2 x3 x4 M H locs ls hf hG hl
      unfold j_X8_heavy_93 at hf
      refine lv_iinc (v := (x4 + (1 : Int32))) (lv' := [(4, .int (x4 + (1 : Int32))), (0, .ref (w.2.2.1 0)), (1, .int x1), (2, .int x2), (3, .int x3)]) hx hb dX8_heavy_93 hl (k := 4) rfl rfl (by decide) rfl (fun ls hl => ?_)
      refine lv_goto (tgt := 34) hx hb dX8_heavy_96 (by decide) ?_
      exact hI34 _ (Option.some.inj hf).symm _ _ ls hG (lv_sub hl [1, 2, 3, 4, 0] rfl)
    have hJ49 : ∀ (x2 : Int32) (x3 : Int32) (x4 : Int32) (x5 : Int32) (M : Mem) (H : Heap) (locs : List Loc) (ls : Array Slot), gl (b_X8_heavy_49 n  x1 x4) n (x2, x3, x5, M) = some rr34 → GI w layC 61 s.heap M H locs → lv_has ls 6 [(0, .ref (w.2.2.1 0)), (1, .int x1), (2, .int x2), (3, .int x3), (4, .int x4), (5, .int x5)] → W p l e (RmX 7 1) s m args below meth c H locs 1 6 (vx_MQ below (GXi w layC 61 res s.heap.size) (GXx w layC 61 res s.heap.size) args s 1 (6 * 1) (gA w.2.2.1 61 s.heap.size)) (F0 m 49 ls []) := by
      intro x2 x3 x4 x5 M H locs ls hf hG hl
      refine gl_run (P := fun (q : (Int32 × Int32 × Int32 × Mem)) => ∀ (H : Heap) (locs : List Loc) (ls : Array Slot), GI w layC 61 s.heap q.2.2.2 H locs → lv_has ls 6 [(0, .ref (w.2.2.1 0)), (1, .int x1), (2, .int q.1), (3, .int q.2.1), (4, .int x4), (5, .int q.2.2.1)] → W p l e (RmX 7 1) s m args below meth c H locs 1 6 (vx_MQ below (GXi w layC 61 res s.heap.size) (GXx w layC 61 res s.heap.size) args s 1 (6 * 1) (gA w.2.2.1 61 s.heap.size)) (F0 m 49 ls [])) ?_ n (x2, x3, x5, M) hf H locs ls hG hl
      clear hf hG hl ls locs H M x2 x3 x5
      rintro ⟨x2, x3, x5, M⟩ rr49 hf hI49 hE49 H locs ls hG hl
      try dsimp only at hG hl ⊢
      have hJ87 : ∀ (x2 : Int32) (x3 : Int32) (x5 : Int32) (M : Mem) (H : Heap) (locs : List Loc) (ls : Array Slot), j_X8_heavy_87 n  x1 x2 x3 x4 x5 M = some rr49 → GI w layC 61 s.heap M H locs → lv_has ls 6 [(0, .ref (w.2.2.1 0)), (1, .int x1), (2, .int x2), (3, .int x3), (4, .int x4), (5, .int x5)] → W p l e (RmX 7 1) s m args below meth c H locs 1 6 (vx_MQ below (GXi w layC 61 res s.heap.size) (GXx w layC 61 res s.heap.size) args s 1 (6 * 1) (gA w.2.2.1 61 s.heap.size)) (F0 m 87 ls []) := by
        intro x2 x3 x5 M H locs ls hf hG hl
        unfold j_X8_heavy_87 at hf
        refine lv_iinc (v := (x5 + (1 : Int32))) (lv' := [(5, .int (x5 + (1 : Int32))), (0, .ref (w.2.2.1 0)), (1, .int x1), (2, .int x2), (3, .int x3), (4, .int x4)]) hx hb dX8_heavy_87 hl (k := 5) rfl rfl (by decide) rfl (fun ls hl => ?_)
        refine lv_goto (tgt := 49) hx hb dX8_heavy_90 (by decide) ?_
        exact hI49 _ (Option.some.inj hf).symm _ _ ls hG (lv_sub hl [1, 2, 3, 4, 5, 0] rfl)
      have hJ83 : ∀ (t0 : Int32) (x2 : Int32) (x5 : Int32) (M : Mem) (H : Heap) (locs : List Loc) (ls : Array Slot), j_X8_heavy_83 n  t0 x1 x2 x4 x5 M = some rr49 → GI w layC 61 s.heap M H locs → lv_has ls 6 [(0, .ref (w.2.2.1 0)), (1, .int x1), (2, .int x2), (4, .int x4), (5, .int x5)] → W p l e (RmX 7 1) s m args below meth c H locs 1 6 (vx_MQ below (GXi w layC 61 res s.heap.size) (GXx w layC 61 res s.heap.size) args s 1 (6 * 1) (gA w.2.2.1 61 s.heap.size)) (F0 m 83 ls [.int t0]) := by
        intro t0 x2 x5 M H locs ls hf hG hl
        unfold j_X8_heavy_83 at hf
        refine lv_istore_n (lv' := [(3, .int t0), (0, .ref (w.2.2.1 0)), (1, .int x1), (2, .int x2), (4, .int x4), (5, .int x5)]) hx hb dX8_heavy_83 rfl hl (by decide) rfl (fun ls hl => ?_)
        refine lv_iinc (v := (x2 + (1 : Int32))) (lv' := [(2, .int (x2 + (1 : Int32))), (3, .int t0), (0, .ref (w.2.2.1 0)), (1, .int x1), (4, .int x4), (5, .int x5)]) hx hb dX8_heavy_84 hl (k := 3) rfl rfl (by decide) rfl (fun ls hl => ?_)
        exact hJ87 _ _ _ _ _ _ ls hf hG (lv_sub hl [2, 3, 0, 1, 4, 5] rfl)
      dsimp only [b_X8_heavy_49] at hf
      refine lv_iload hx hb dX8_heavy_49 (lv_at hl 5 rfl) ?_
      refine lv_bipush (v := 9) hx hb dX8_heavy_51 (by decide) ?_
      refine lv_icmp_gt (tgt := 93) hx hb dX8_heavy_53 (by decide) (fun c2 => ?_) (fun c2 => ?_)
      · replace hf := if_t c2 hf
        replace hf := mr_some hf
        obtain ⟨z49, hf, hz⟩ := hf
        rw [hE49 _ hz] at hf
        exact hJ93 _ _ _ _ _ _ ls hf hG (lv_sub hl [0, 1, 2, 3, 4] rfl)
      · replace hf := if_f c2 hf
        refine lv_aload_n hx hb dX8_heavy_56 rfl (lv_at hl 0 rfl) ?_
        refine lv_iload hx hb dX8_heavy_57 (lv_at hl 4 rfl) ?_
        refine lv_iload hx hb dX8_heavy_59 (lv_at hl 5 rfl) ?_
        replace hf := bd_some hf
        obtain ⟨q3, eq3, hf⟩ := hf
        refine gx_calli hG (gx_runV (xn_ok (yc_ok w)) F hX hG (c_X8_maybeHeavy l w  n  x4 x5 _ _ eq3) cv_X8_299 ⟨Nat.le_of_ble_eq_true rfl, Nat.le_of_ble_eq_true rfl⟩ (g_recv F hG ct_0 (by decide) rfl) rfl hl.1 rfl (Nat.le_of_ble_eq_true rfl) dX8_heavy_61 ⟨by decide, by decide⟩) (fun H locs hG => ?_)
        refine lv_if_eq (tgt := 87) hx hb dX8_heavy_64 (by decide) (fun c4 => ?_) (fun c4 => ?_)
        · replace hf := if_t c4 hf
          exact hJ87 _ _ _ _ _ _ ls hf hG (lv_sub hl [0, 1, 2, 3, 4, 5] rfl)
        · replace hf := if_f c4 hf
          refine lv_iload_n hx hb dX8_heavy_67 rfl (lv_at hl 2 rfl) ?_
          refine lv_if_ne (tgt := 82) hx hb dX8_heavy_68 (by decide) (fun c5 => ?_) (fun c5 => ?_)
          · replace hf := if_f c5 hf
            refine lv_iload_n hx hb dX8_heavy_82 rfl (lv_at hl 3 rfl) ?_
            exact hJ83 _ _ _ _ _ _ ls hf hG (lv_sub hl [0, 1, 2, 4, 5] rfl)
          · replace hf := if_t c5 hf
            refine lv_bipush (v := 10) hx hb dX8_heavy_71 (by decide) ?_
            refine lv_iload hx hb dX8_heavy_73 (lv_at hl 4 rfl) ?_
            refine lv_imul hx hb dX8_heavy_75 ?_
            refine lv_iload hx hb dX8_heavy_76 (lv_at hl 5 rfl) ?_
            refine lv_iadd hx hb dX8_heavy_78 ?_
            refine lv_goto (tgt := 83) hx hb dX8_heavy_79 (by decide) ?_
            exact hJ83 _ _ _ _ _ _ ls hf hG (lv_sub hl [0, 1, 2, 4, 5] rfl)
    dsimp only [b_X8_heavy_34] at hf
    refine lv_iload hx hb dX8_heavy_34 (lv_at hl 4 rfl) ?_
    refine lv_aload_n hx hb dX8_heavy_36 rfl (lv_at hl 0 rfl) ?_
    refine g_getR F hG 4 ct_0 (by decide) (by decide) lk_X8_16 rfl dX8_heavy_37 ?_
    refine g_getI F hG st_4.1 (by decide) (by decide) lk_X8_114 rfl dX8_heavy_40 ?_
    refine lv_icmp_ge (tgt := 99) hx hb dX8_heavy_43 (by decide) (fun c6 => ?_) (fun c6 => ?_)
    · replace hf := if_t c6 hf
      replace hf := mr_some hf
      obtain ⟨z34, hf, hz⟩ := hf
      rw [hE34 _ hz] at hf
      exact hJ99 _ _ _ _ _ _ ls hf hG (lv_sub hl [1, 2, 3] rfl)
    · replace hf := if_f c6 hf
      refine lv_iconst (v := 1) hx hb dX8_heavy_46 (by decide) ?_
      refine lv_istore (lv' := [(5, .int (1 : Int32)), (0, .ref (w.2.2.1 0)), (1, .int x1), (2, .int x2), (3, .int x3), (4, .int x4)]) hx hb dX8_heavy_47 hl (by decide) rfl (fun ls hl => ?_)
      exact hJ49 _ _ _ _ _ _ _ ls hf hG (lv_sub hl [1, 2, 3, 4, 5, 0] rfl)
  unfold f_X8_heavy at hf
  refine lv_iload_n hx hb dX8_heavy_0 rfl (lv_at hl 1 rfl) ?_
  refine lv_iconst (v := 2) hx hb dX8_heavy_1 (by decide) ?_
  replace hf := bd_some hf
  obtain ⟨q7, eq7, hf⟩ := hf
  refine gx_xcallv hno hlk F hG (gx_xrunS (xn_ok (yc_ok w)) F hX hG (c_X8_requireWhat l w hst n x1 (2 : Int32) _ _ eq7) cs_X8_231 ⟨Nat.le_of_ble_eq_true rfl, Nat.le_of_ble_eq_true rfl⟩ rfl hl.1 rfl (Nat.le_of_ble_eq_true rfl) dX8_heavy_2 ⟨by decide, by decide⟩) (by decide) (by decide) (fun hz => if_f hz hf) (fun hz H locs hG => ?_)
  replace hf := if_t hz hf
  refine W.widen (k := 1) (n := 6) (by decide) (by decide) ?_
  refine lv_iload_n hx hb dX8_heavy_5 rfl (lv_at hl 1 rfl) ?_
  refine lv_iconst (v := 2) hx hb dX8_heavy_6 (by decide) ?_
  refine lv_icmp_ne (tgt := 27) hx hb dX8_heavy_7 (by decide) (fun c8 => ?_) (fun c8 => ?_)
  · replace hf := if_f c8 hf
    refine lv_iconst (v := 0) hx hb dX8_heavy_27 (by decide) ?_
    refine lv_istore_n (lv' := [(2, .int (0 : Int32)), (0, .ref (w.2.2.1 0)), (1, .int x1)]) hx hb dX8_heavy_28 rfl hl (by decide) rfl (fun ls hl => ?_)
    refine lv_iconst (v := -1) hx hb dX8_heavy_29 (by decide) ?_
    refine lv_istore_n (lv' := [(3, .int (-1 : Int32)), (2, .int (0 : Int32)), (0, .ref (w.2.2.1 0)), (1, .int x1)]) hx hb dX8_heavy_30 rfl hl (by decide) rfl (fun ls hl => ?_)
    refine lv_iconst (v := 0) hx hb dX8_heavy_31 (by decide) ?_
    refine lv_istore (lv' := [(4, .int (0 : Int32)), (3, .int (-1 : Int32)), (2, .int (0 : Int32)), (0, .ref (w.2.2.1 0)), (1, .int x1)]) hx hb dX8_heavy_32 hl (by decide) rfl (fun ls hl => ?_)
    exact hJ34 _ _ _ _ _ _ _ ls hf hG (lv_sub hl [3, 4, 2, 1, 0] rfl)
  · replace hf := if_t c8 hf
    refine lv_aload_n hx hb dX8_heavy_10 rfl (lv_at hl 0 rfl) ?_
    replace hf := bd_some hf
    obtain ⟨q9, eq9, hf⟩ := hf
    refine gx_callv hG (gx_runV (xn_ok (yc_ok w)) F hX hG (c_X8_startTrial l w  n   _ _ eq9) cv_X8_237 ⟨Nat.le_of_ble_eq_true rfl, Nat.le_of_ble_eq_true rfl⟩ (g_recv F hG ct_0 (by decide) rfl) rfl hl.1 rfl (Nat.le_of_ble_eq_true rfl) dX8_heavy_11 ⟨by decide, by decide⟩) (fun H locs hG => ?_)
    refine lv_aload_n hx hb dX8_heavy_14 rfl (lv_at hl 0 rfl) ?_
    replace hf := bd_some hf
    obtain ⟨q10, eq10, hf⟩ := hf
    refine gx_calli hG (gx_runV (xn_ok (yc_ok w)) F hX hG (c_X8_leansAsSeen l w  n   _ _ eq10) cv_X8_295 ⟨Nat.le_of_ble_eq_true rfl, Nat.le_of_ble_eq_true rfl⟩ (g_recv F hG ct_0 (by decide) rfl) rfl hl.1 rfl (Nat.le_of_ble_eq_true rfl) dX8_heavy_15 ⟨by decide, by decide⟩) (fun H locs hG => ?_)
    refine lv_if_eq (tgt := 25) hx hb dX8_heavy_18 (by decide) (fun c11 => ?_) (fun c11 => ?_)
    · replace hf := if_t c11 hf
      refine lv_iconst (v := 0) hx hb dX8_heavy_25 (by decide) ?_
      exact cx_iret F hr hlk hG hf (by decide) (by decide) dX8_heavy_26
    · replace hf := if_f c11 hf
      refine lv_iconst (v := 1) hx hb dX8_heavy_21 (by decide) ?_
      refine lv_goto (tgt := 26) hx hb dX8_heavy_22 (by decide) ?_
      exact cx_iret F hr hlk hG hf (by decide) (by decide) dX8_heavy_26

def b_X8_meetLeans_16 (n : Nat) (q : (Int32 × Mem)) : Option ((Int32 × Mem) ⊕ (Mem)) := match q with
  | (x3, M) => if (5 : Int32) ≤ x3 then (mr (some M)) else (bd (f_X8_passTrialDay n   M) (fun q2 => ck (inb (((2 : Int32) * x3) + (((gi q2 10 10) >>> ((6 : Int32) &&& 31)) &&& (1 : Int32))) 10) (ck (inb (((2 : Int32) * x3) + (((gi q2 10 10) >>> ((6 : Int32) &&& 31)) &&& (1 : Int32))) 10) (some (.inl ((x3 + (1 : Int32)), sj q2 2 (((2 : Int32) * x3) + (((gi q2 10 10) >>> ((6 : Int32) &&& 31)) &&& (1 : Int32))).toNatClampNeg ((gj q2 2 (((2 : Int32) * x3) + (((gi q2 10 10) >>> ((6 : Int32) &&& 31)) &&& (1 : Int32))).toNatClampNeg) ||| ((1 : Int64) <<< (((gi q2 10 10) &&& (63 : Int32)).toInt64 &&& 63)))))))))
def f_X8_meetLeans (n : Nat) (x1 : Int32) (x2 : Int32) (M : Mem) : Option (Mem) := bd (f_X8_startTrial n   M) (fun q5 => ck (inb x1 16) (gl (b_X8_meetLeans_16 n ) n ((0 : Int32), si q5 11 x1.toNatClampNeg x2)))
set_option maxHeartbeats 4000000 in
set_option maxRecDepth 100000 in
theorem c_X8_meetLeans (l : Launch) (w : Wd)  (n : Nat) (x1 : Int32) (x2 : Int32) (M : Mem) (res : Mem) (hf : f_X8_meetLeans n  x1 x2 M = some res) : CG l w layC 61 (XN (YC w)) yX8_meetLeans cX8_meetLeans 4 none 5 [.ref (w.2.2.1 0), .int x1, .int x2] M (GQv w layC 61 res) := by
  refine cg_start (by decide +kernel) (Nat.le_of_ble_eq_true rfl) ?_
  intro p e s m args below meth c F hr hlk hX hG ls hl
  have F : FX w p m c cX8_meetLeans 4 s args RX8 := F
  have hx := F.1.1
  have hb := F.1.2.1
  have hl : lv_has ls 4 [(0, .ref (w.2.2.1 0)), (1, .int x1), (2, .int x2)] := hl
  have hJ16 : ∀ (x3 : Int32) (M : Mem) (H : Heap) (locs : List Loc) (ls : Array Slot), gl (b_X8_meetLeans_16 n  ) n (x3, M) = some res → GI w layC 61 s.heap M H locs → lv_has ls 4 [(0, .ref (w.2.2.1 0)), (3, .int x3)] → W p l e (Rm 5) s m args below meth c H locs 0 0 (MQ below (GQv w layC 61 res s.heap.size) args s 0 0 (gA w.2.2.1 61 s.heap.size)) (F0 m 16 ls []) := by
    intro x3 M H locs ls hf hG hl
    refine gl_run (P := fun (q : (Int32 × Mem)) => ∀ (H : Heap) (locs : List Loc) (ls : Array Slot), GI w layC 61 s.heap q.2 H locs → lv_has ls 4 [(0, .ref (w.2.2.1 0)), (3, .int q.1)] → W p l e (Rm 5) s m args below meth c H locs 0 0 (MQ below (GQv w layC 61 res s.heap.size) args s 0 0 (gA w.2.2.1 61 s.heap.size)) (F0 m 16 ls [])) ?_ n (x3, M) hf H locs ls hG hl
    clear hf hG hl ls locs H M x3
    rintro ⟨x3, M⟩ rr16 hf hI16 hE16 H locs ls hG hl
    try dsimp only at hG hl ⊢
    dsimp only [b_X8_meetLeans_16] at hf
    refine lv_iload_n hx hb dX8_meetLeans_16 rfl (lv_at hl 1 rfl) ?_
    refine lv_iconst (v := 5) hx hb dX8_meetLeans_17 (by decide) ?_
    refine lv_icmp_ge (tgt := 67) hx hb dX8_meetLeans_18 (by decide) (fun c1 => ?_) (fun c1 => ?_)
    · replace hf := if_t c1 hf
      replace hf := mr_some hf
      obtain ⟨z16, hf, hz⟩ := hf
      rw [hE16 _ hz] at hf
      exact cg_vret F hr hlk hG hf dX8_meetLeans_67
    · replace hf := if_f c1 hf
      refine lv_aload_n hx hb dX8_meetLeans_21 rfl (lv_at hl 0 rfl) ?_
      replace hf := bd_some hf
      obtain ⟨q2, eq2, hf⟩ := hf
      refine gx_callv hG (gx_runV (xn_ok (yc_ok w)) F hX hG (c_X8_passTrialDay l w  n   _ _ eq2) cv_X8_243 ⟨Nat.le_of_ble_eq_true rfl, Nat.le_of_ble_eq_true rfl⟩ (g_recv F hG ct_0 (by decide) rfl) rfl hl.1 rfl (Nat.le_of_ble_eq_true rfl) dX8_meetLeans_22 ⟨Nat.le_refl _, Nat.le_refl _⟩) (fun H locs hG => ?_)
      refine lv_aload_n hx hb dX8_meetLeans_25 rfl (lv_at hl 0 rfl) ?_
      refine g_getR F hG 2 ct_0 (by decide) (by decide) lk_X8_49 rfl dX8_meetLeans_26 ?_
      refine lv_iconst (v := 2) hx hb dX8_meetLeans_29 (by decide) ?_
      refine lv_iload_n hx hb dX8_meetLeans_30 rfl (lv_at hl 1 rfl) ?_
      refine lv_imul hx hb dX8_meetLeans_31 ?_
      refine lv_aload_n hx hb dX8_meetLeans_32 rfl (lv_at hl 0 rfl) ?_
      refine g_getR F hG 10 ct_0 (by decide) (by decide) lk_X8_20 rfl dX8_meetLeans_33 ?_
      refine g_getI F hG st_10.1 (by decide) (by decide) lk_X8_129 rfl dX8_meetLeans_36 ?_
      refine lv_bipush (v := 6) hx hb dX8_meetLeans_39 (by decide) ?_
      refine lv_ishr hx hb dX8_meetLeans_41 ?_
      refine lv_iconst (v := 1) hx hb dX8_meetLeans_42 (by decide) ?_
      refine lv_iand hx hb dX8_meetLeans_43 ?_
      refine lv_iadd hx hb dX8_meetLeans_44 ?_
      refine lv_dup2_11 hx hb dX8_meetLeans_45 rfl rfl ?_
      replace hf := ck_some hf
      obtain ⟨k3, hf⟩ := hf
      refine g_lald F hG oC_2 k3 dX8_meetLeans_46 ?_
      refine lv_lconst (v := 1) hx hb dX8_meetLeans_47 (by decide) ?_
      refine lv_aload_n hx hb dX8_meetLeans_48 rfl (lv_at hl 0 rfl) ?_
      refine g_getR F hG 10 ct_0 (by decide) (by decide) lk_X8_20 rfl dX8_meetLeans_49 ?_
      refine g_getI F hG st_10.1 (by decide) (by decide) lk_X8_129 rfl dX8_meetLeans_52 ?_
      refine lv_bipush (v := 63) hx hb dX8_meetLeans_55 (by decide) ?_
      refine lv_iand hx hb dX8_meetLeans_57 ?_
      refine lv_lshl hx hb dX8_meetLeans_58 rfl ?_
      refine lv_lor hx hb dX8_meetLeans_59 ?_
      replace hf := ck_some hf
      obtain ⟨k4, hf⟩ := hf
      refine g_last F hG oC_2 k4 dX8_meetLeans_60 (fun H locs hG => ?_)
      refine lv_iinc (v := (x3 + (1 : Int32))) (lv' := [(3, .int (x3 + (1 : Int32))), (0, .ref (w.2.2.1 0))]) hx hb dX8_meetLeans_61 hl (k := 1) rfl rfl (by decide) rfl (fun ls hl => ?_)
      refine lv_goto (tgt := 16) hx hb dX8_meetLeans_64 (by decide) ?_
      exact hI16 _ (Option.some.inj hf).symm _ _ ls hG (lv_sub hl [1, 0] rfl)
  unfold f_X8_meetLeans at hf
  refine lv_aload_n hx hb dX8_meetLeans_0 rfl (lv_at hl 0 rfl) ?_
  replace hf := bd_some hf
  obtain ⟨q5, eq5, hf⟩ := hf
  refine gx_callv hG (gx_runV (xn_ok (yc_ok w)) F hX hG (c_X8_startTrial l w  n   _ _ eq5) cv_X8_237 ⟨Nat.le_of_ble_eq_true rfl, Nat.le_of_ble_eq_true rfl⟩ (g_recv F hG ct_0 (by decide) rfl) rfl hl.1 rfl (Nat.le_of_ble_eq_true rfl) dX8_meetLeans_1 ⟨Nat.le_refl _, Nat.le_refl _⟩) (fun H locs hG => ?_)
  refine lv_aload_n hx hb dX8_meetLeans_4 rfl (lv_at hl 0 rfl) ?_
  refine g_getR F hG 10 ct_0 (by decide) (by decide) lk_X8_20 rfl dX8_meetLeans_5 ?_
  refine g_getR F hG 11 st_10.1 (by decide) (by decide) lk_X8_177 rfl dX8_meetLeans_8 ?_
  refine lv_iload_n hx hb dX8_meetLeans_11 rfl (lv_at hl 1 rfl) ?_
  refine lv_iload_n hx hb dX8_meetLeans_12 rfl (lv_at hl 2 rfl) ?_
  replace hf := ck_some hf
  obtain ⟨k6, hf⟩ := hf
  refine g_iast F hG st_10.2.1 k6 dX8_meetLeans_13 (fun H locs hG => ?_)
  refine lv_iconst (v := 0) hx hb dX8_meetLeans_14 (by decide) ?_
  refine lv_istore_n (lv' := [(3, .int (0 : Int32)), (0, .ref (w.2.2.1 0)), (1, .int x1), (2, .int x2)]) hx hb dX8_meetLeans_15 rfl hl (by decide) rfl (fun ls hl => ?_)
  exact hJ16 _ _ _ _ ls hf hG (lv_sub hl [1, 0] rfl)

def j_X8_look_123 (n : Nat) (x1 : Int32) (x2 : Int32) (x3 : Int32) (M : Mem) : Option (Rx) := if x1 = 0 then (some ((0 : Nat), x3, M)) else (some ((0 : Nat), x2, M))
def j_X8_look_117 (n : Nat) (x1 : Int32) (x2 : Int32) (x3 : Int32) (x4 : Int32) (M : Mem) : Option ((Int32 × Int32 × Int32 × Mem) ⊕ (Rx)) := some (.inl (x2, x3, (x4 + (1 : Int32)), M))
def b_X8_look_68 (n : Nat) (x1 : Int32) (q : (Int32 × Int32 × Int32 × Mem)) : Option ((Int32 × Int32 × Int32 × Mem) ⊕ (Rx)) := match q with
  | (x2, x3, x4, M) => if (5 : Int32) ≤ x4 then (mr (j_X8_look_123 n  x1 x2 x3 M)) else (ck (inb ((2 : Int32) * x4) 10) (bd (f_J13_bitCount_95d88 n  (gj M 2 ((2 : Int32) * x4).toNatClampNeg) M) (fun q4 => ck (inb (((2 : Int32) * x4) + (1 : Int32)) 10) (bd (f_J13_bitCount_95d88 n  (gj q4.2 2 (((2 : Int32) * x4) + (1 : Int32)).toNatClampNeg) q4.2) (fun q6 => if (q4.1 + q6.1) ≤ x2 then (j_X8_look_117 n  x1 x2 x3 x4 q6.2) else (j_X8_look_117 n  x1 (q4.1 + q6.1) (x4 + (1 : Int32)) x4 q6.2))))))
def j_X8_look_61 (n : Nat) (x1 : Int32) (M : Mem) : Option (Rx) := gl (b_X8_look_68 n  x1) n ((0 : Int32), (-1 : Int32), (0 : Int32), M)
def j_X8_look_55 (n : Nat) (x1 : Int32) (x2 : Int32) (M : Mem) : Option ((Int32 × Mem) ⊕ (Rx)) := some (.inl ((x2 + (1 : Int32)), M))
def j_X8_look_49 (n : Nat) (x1 : Int32) (x2 : Int32) (x3 : Int32) (M : Mem) : Option ((Int32 × Mem) ⊕ ((Int32 × Mem) ⊕ (Rx))) := some (.inl ((x3 + (1 : Int32)), M))
def b_X8_look_28 (n : Nat) (x1 : Int32) (x2 : Int32) (q : (Int32 × Mem)) : Option ((Int32 × Mem) ⊕ ((Int32 × Mem) ⊕ (Rx))) := match q with
  | (x3, M) => if (9 : Int32) < x3 then (mr (j_X8_look_55 n  x1 x2 M)) else (bd (f_X8_maybeHeavy n  x2 x3 M) (fun q9 => if q9.1 = 0 then (j_X8_look_49 n  x1 x2 x3 q9.2) else (bd (f_X8_meetLeans n  x2 x3 q9.2) (fun q11 => j_X8_look_49 n  x1 x2 x3 q11))))
def b_X8_look_15 (n : Nat) (x1 : Int32) (q : (Int32 × Mem)) : Option ((Int32 × Mem) ⊕ (Rx)) := match q with
  | (x2, M) => if (gi M 4 6) ≤ x2 then (mr (j_X8_look_61 n  x1 M)) else (gl (b_X8_look_28 n  x1 x2) n ((1 : Int32), M))
def f_X8_look (n : Nat) (x1 : Int32) (M : Mem) : Option (Rx) := bd (f_X8_requireWhat n x1 (1 : Int32) M) (fun q13 => if q13.1 = 0 then (bd (f_J7_fill_d0a16 n 10 2 (0 : Int64) q13.2.2) (fun q14 => gl (b_X8_look_15 n  x1) n ((0 : Int32), q14))) else (some (q13.1, (0 : Int32), q13.2.2)))
set_option maxHeartbeats 4000000 in
set_option maxRecDepth 100000 in
theorem c_X8_look (l : Launch) (w : Wd) (hst : l.stackTraces = false) (n : Nat) (x1 : Int32) (M : Mem) (res : Rx) (hf : f_X8_look n  x1 M = some res) : CX l w layC 61 (XN (YC w)) yX8_look cX8_look 6 (some .int) 7 1 [.ref (w.2.2.1 0), .int x1] M (GXi w layC 61 res) (GXx w layC 61 res) := by
  refine cx_start (by decide +kernel) (Nat.le_of_ble_eq_true rfl) ?_
  intro p e s m args below meth c F hr hlk hno hX hG ls hl
  have F : FX w p m c cX8_look 6 s args RX8 := F
  have hx := F.1.1
  have hb := F.1.2.1
  have hl : lv_has ls 6 [(0, .ref (w.2.2.1 0)), (1, .int x1)] := hl
  have hJ123 : ∀ (x1 : Int32) (x2 : Int32) (x3 : Int32) (M : Mem) (H : Heap) (locs : List Loc) (ls : Array Slot), j_X8_look_123 n  x1 x2 x3 M = some res → GI w layC 61 s.heap M H locs → lv_has ls 6 [(1, .int x1), (2, .int x2), (3, .int x3)] → W p l e (RmX 7 1) s m args below meth c H locs 1 6 (vx_MQ below (GXi w layC 61 res s.heap.size) (GXx w layC 61 res s.heap.size) args s 1 (6 * 1) (gA w.2.2.1 61 s.heap.size)) (F0 m 123 ls []) := by
    intro x1 x2 x3 M H locs ls hf hG hl
    unfold j_X8_look_123 at hf
    refine lv_iload_n hx hb dX8_look_123 rfl (lv_at hl 0 rfl) ?_
    refine lv_if_ne (tgt := 131) hx hb dX8_look_124 (by decide) (fun c1 => ?_) (fun c1 => ?_)
    · replace hf := if_f c1 hf
      refine lv_iload_n hx hb dX8_look_131 rfl (lv_at hl 1 rfl) ?_
      exact cx_iret F hr hlk hG hf (by decide) (by decide) dX8_look_132
    · replace hf := if_t c1 hf
      refine lv_iload_n hx hb dX8_look_127 rfl (lv_at hl 2 rfl) ?_
      refine lv_goto (tgt := 132) hx hb dX8_look_128 (by decide) ?_
      exact cx_iret F hr hlk hG hf (by decide) (by decide) dX8_look_132
  have hJ68 : ∀ (x1 : Int32) (x2 : Int32) (x3 : Int32) (x4 : Int32) (M : Mem) (H : Heap) (locs : List Loc) (ls : Array Slot), gl (b_X8_look_68 n  x1) n (x2, x3, x4, M) = some res → GI w layC 61 s.heap M H locs → lv_has ls 6 [(0, .ref (w.2.2.1 0)), (1, .int x1), (2, .int x2), (3, .int x3), (4, .int x4)] → W p l e (RmX 7 1) s m args below meth c H locs 1 6 (vx_MQ below (GXi w layC 61 res s.heap.size) (GXx w layC 61 res s.heap.size) args s 1 (6 * 1) (gA w.2.2.1 61 s.heap.size)) (F0 m 68 ls []) := by
    intro x1 x2 x3 x4 M H locs ls hf hG hl
    refine gl_run (P := fun (q : (Int32 × Int32 × Int32 × Mem)) => ∀ (H : Heap) (locs : List Loc) (ls : Array Slot), GI w layC 61 s.heap q.2.2.2 H locs → lv_has ls 6 [(0, .ref (w.2.2.1 0)), (1, .int x1), (2, .int q.1), (3, .int q.2.1), (4, .int q.2.2.1)] → W p l e (RmX 7 1) s m args below meth c H locs 1 6 (vx_MQ below (GXi w layC 61 res s.heap.size) (GXx w layC 61 res s.heap.size) args s 1 (6 * 1) (gA w.2.2.1 61 s.heap.size)) (F0 m 68 ls [])) ?_ n (x2, x3, x4, M) hf H locs ls hG hl
    clear hf hG hl ls locs H M x2 x3 x4
    rintro ⟨x2, x3, x4, M⟩ rr68 hf hI68 hE68 H locs ls hG hl
    try dsimp only at hG hl ⊢
    have hJ117 : ∀ (x2 : Int32) (x3 : Int32) (x4 : Int32) (M : Mem) (H : Heap) (locs : List Loc) (ls : Array Slot), j_X8_look_117 n  x1 x2 x3 x4 M = some rr68 → GI w layC 61 s.heap M H locs → lv_has ls 6 [(0, .ref (w.2.2.1 0)), (1, .int x1), (2, .int x2), (3, .int x3), (4, .int x4)] → W p l e (RmX 7 1) s m args below meth c H locs 1 6 (vx_MQ below (GXi w layC 61 res s.heap.size) (GXx w layC 61 res s.heap.size) args s 1 (6 * 1) (gA w.2.2.1 61 s.heap.size)) (F0 m 117 ls []) := by
      intro x2 x3 x4 M H locs ls hf hG hl
      unfold j_X8_look_117 at hf
      refine lv_iinc (v := (x4 + (1 : Int32))) (lv' := [(4, .int (x4 + (1 : Int32))), (0, .ref (w.2.2.1 0)), (1, .int x1), (2, .int x2), (3, .int x3)]) hx hb dX8_look_117 hl (k := 4) rfl rfl (by decide) rfl (fun ls hl => ?_)
      refine lv_goto (tgt := 68) hx hb dX8_look_120 (by decide) ?_
      exact hI68 _ (Option.some.inj hf).symm _ _ ls hG (lv_sub hl [1, 2, 3, 4, 0] rfl)
    dsimp only [b_X8_look_68] at hf
    refine lv_iload hx hb dX8_look_68 (lv_at hl 4 rfl) ?_
    refine lv_iconst (v := 5) hx hb dX8_look_70 (by decide) ?_
    refine lv_icmp_ge (tgt := 123) hx hb dX8_look_71 (by decide) (fun c2 => ?_) (fun c2 => ?_)
    · replace hf := if_t c2 hf
      replace hf := mr_some hf
      obtain ⟨z68, hf, hz⟩ := hf
      rw [hE68 _ hz] at hf
      exact hJ123 _ _ _ _ _ _ ls hf hG (lv_sub hl [1, 2, 3] rfl)
    · replace hf := if_f c2 hf
      refine lv_aload_n hx hb dX8_look_74 rfl (lv_at hl 0 rfl) ?_
      refine g_getR F hG 2 ct_0 (by decide) (by decide) lk_X8_49 rfl dX8_look_75 ?_
      refine lv_iconst (v := 2) hx hb dX8_look_78 (by decide) ?_
      refine lv_iload hx hb dX8_look_79 (lv_at hl 4 rfl) ?_
      refine lv_imul hx hb dX8_look_81 ?_
      replace hf := ck_some hf
      obtain ⟨k3, hf⟩ := hf
      refine g_lald F hG oC_2 k3 dX8_look_82 ?_
      replace hf := bd_some hf
      obtain ⟨q4, eq4, hf⟩ := hf
      refine gx_calli hG (gx_runS (xn_ok (yc_ok w)) F hX hG (c_J13_bitCount_95d88 l w (yc_ok w) n  (gj M 2 ((2 : Int32) * x4).toNatClampNeg) _ _ eq4) cs_X8_317 ⟨Nat.le_of_ble_eq_true rfl, Nat.le_of_ble_eq_true rfl⟩ rfl hl.1 rfl (Nat.le_of_ble_eq_true rfl) dX8_look_83 ⟨by decide, by decide⟩) (fun H locs hG => ?_)
      refine lv_aload_n hx hb dX8_look_86 rfl (lv_at hl 0 rfl) ?_
      refine g_getR F hG 2 ct_0 (by decide) (by decide) lk_X8_49 rfl dX8_look_87 ?_
      refine lv_iconst (v := 2) hx hb dX8_look_90 (by decide) ?_
      refine lv_iload hx hb dX8_look_91 (lv_at hl 4 rfl) ?_
      refine lv_imul hx hb dX8_look_93 ?_
      refine lv_iconst (v := 1) hx hb dX8_look_94 (by decide) ?_
      refine lv_iadd hx hb dX8_look_95 ?_
      replace hf := ck_some hf
      obtain ⟨k5, hf⟩ := hf
      refine g_lald F hG oC_2 k5 dX8_look_96 ?_
      replace hf := bd_some hf
      obtain ⟨q6, eq6, hf⟩ := hf
      refine gx_calli hG (gx_runS (xn_ok (yc_ok w)) F hX hG (c_J13_bitCount_95d88 l w (yc_ok w) n  (gj q4.2 2 (((2 : Int32) * x4) + (1 : Int32)).toNatClampNeg) _ _ eq6) cs_X8_317 ⟨Nat.le_of_ble_eq_true rfl, Nat.le_of_ble_eq_true rfl⟩ rfl hl.1 rfl (Nat.le_of_ble_eq_true rfl) dX8_look_97 ⟨by decide, by decide⟩) (fun H locs hG => ?_)
      refine lv_iadd hx hb dX8_look_100 ?_
      refine lv_istore (lv' := [(5, .int (q4.1 + q6.1)), (0, .ref (w.2.2.1 0)), (1, .int x1), (2, .int x2), (3, .int x3), (4, .int x4)]) hx hb dX8_look_101 hl (by decide) rfl (fun ls hl => ?_)
      refine lv_iload hx hb dX8_look_103 (lv_at hl 0 rfl) ?_
      refine lv_iload_n hx hb dX8_look_105 rfl (lv_at hl 3 rfl) ?_
      refine lv_icmp_le (tgt := 117) hx hb dX8_look_106 (by decide) (fun c7 => ?_) (fun c7 => ?_)
      · replace hf := if_t c7 hf
        exact hJ117 _ _ _ _ _ _ ls hf hG (lv_sub hl [1, 2, 3, 4, 5] rfl)
      · replace hf := if_f c7 hf
        refine lv_iload hx hb dX8_look_109 (lv_at hl 0 rfl) ?_
        refine lv_istore_n (lv' := [(2, .int (q4.1 + q6.1)), (5, .int (q4.1 + q6.1)), (0, .ref (w.2.2.1 0)), (1, .int x1), (3, .int x3), (4, .int x4)]) hx hb dX8_look_111 rfl hl (by decide) rfl (fun ls hl => ?_)
        refine lv_iload hx hb dX8_look_112 (lv_at hl 5 rfl) ?_
        refine lv_iconst (v := 1) hx hb dX8_look_114 (by decide) ?_
        refine lv_iadd hx hb dX8_look_115 ?_
        refine lv_istore_n (lv' := [(3, .int (x4 + (1 : Int32))), (2, .int (q4.1 + q6.1)), (5, .int (q4.1 + q6.1)), (0, .ref (w.2.2.1 0)), (1, .int x1), (4, .int x4)]) hx hb dX8_look_116 rfl hl (by decide) rfl (fun ls hl => ?_)
        exact hJ117 _ _ _ _ _ _ ls hf hG (lv_sub hl [3, 4, 1, 0, 5] rfl)
  have hJ61 : ∀ (x1 : Int32) (M : Mem) (H : Heap) (locs : List Loc) (ls : Array Slot), j_X8_look_61 n  x1 M = some res → GI w layC 61 s.heap M H locs → lv_has ls 6 [(0, .ref (w.2.2.1 0)), (1, .int x1)] → W p l e (RmX 7 1) s m args below meth c H locs 1 6 (vx_MQ below (GXi w layC 61 res s.heap.size) (GXx w layC 61 res s.heap.size) args s 1 (6 * 1) (gA w.2.2.1 61 s.heap.size)) (F0 m 61 ls []) := by
    intro x1 M H locs ls hf hG hl
    unfold j_X8_look_61 at hf
    refine lv_iconst (v := 0) hx hb dX8_look_61 (by decide) ?_
    refine lv_istore_n (lv' := [(2, .int (0 : Int32)), (0, .ref (w.2.2.1 0)), (1, .int x1)]) hx hb dX8_look_62 rfl hl (by decide) rfl (fun ls hl => ?_)
    refine lv_iconst (v := -1) hx hb dX8_look_63 (by decide) ?_
    refine lv_istore_n (lv' := [(3, .int (-1 : Int32)), (2, .int (0 : Int32)), (0, .ref (w.2.2.1 0)), (1, .int x1)]) hx hb dX8_look_64 rfl hl (by decide) rfl (fun ls hl => ?_)
    refine lv_iconst (v := 0) hx hb dX8_look_65 (by decide) ?_
    refine lv_istore (lv' := [(4, .int (0 : Int32)), (3, .int (-1 : Int32)), (2, .int (0 : Int32)), (0, .ref (w.2.2.1 0)), (1, .int x1)]) hx hb dX8_look_66 hl (by decide) rfl (fun ls hl => ?_)
    exact hJ68 _ _ _ _ _ _ _ ls hf hG (lv_sub hl [3, 4, 2, 1, 0] rfl)
  have hJ15 : ∀ (x1 : Int32) (x2 : Int32) (M : Mem) (H : Heap) (locs : List Loc) (ls : Array Slot), gl (b_X8_look_15 n  x1) n (x2, M) = some res → GI w layC 61 s.heap M H locs → lv_has ls 6 [(0, .ref (w.2.2.1 0)), (1, .int x1), (2, .int x2)] → W p l e (RmX 7 1) s m args below meth c H locs 1 6 (vx_MQ below (GXi w layC 61 res s.heap.size) (GXx w layC 61 res s.heap.size) args s 1 (6 * 1) (gA w.2.2.1 61 s.heap.size)) (F0 m 15 ls []) := by
    intro x1 x2 M H locs ls hf hG hl
    refine gl_run (P := fun (q : (Int32 × Mem)) => ∀ (H : Heap) (locs : List Loc) (ls : Array Slot), GI w layC 61 s.heap q.2 H locs → lv_has ls 6 [(0, .ref (w.2.2.1 0)), (1, .int x1), (2, .int q.1)] → W p l e (RmX 7 1) s m args below meth c H locs 1 6 (vx_MQ below (GXi w layC 61 res s.heap.size) (GXx w layC 61 res s.heap.size) args s 1 (6 * 1) (gA w.2.2.1 61 s.heap.size)) (F0 m 15 ls [])) ?_ n (x2, M) hf H locs ls hG hl
    clear hf hG hl ls locs H M x2
    rintro ⟨x2, M⟩ rr15 hf hI15 hE15 H locs ls hG hl
    try dsimp only at hG hl ⊢
    have hJ55 : ∀ (x2 : Int32) (M : Mem) (H : Heap) (locs : List Loc) (ls : Array Slot), j_X8_look_55 n  x1 x2 M = some rr15 → GI w layC 61 s.heap M H locs → lv_has ls 6 [(0, .ref (w.2.2.1 0)), (1, .int x1), (2, .int x2)] → W p l e (RmX 7 1) s m args below meth c H locs 1 6 (vx_MQ below (GXi w layC 61 res s.heap.size) (GXx w layC 61 res s.heap.size) args s 1 (6 * 1) (gA w.2.2.1 61 s.heap.size)) (F0 m 55 ls []) := by
      intro x2 M H locs ls hf hG hl
      unfold j_X8_look_55 at hf
      refine lv_iinc (v := (x2 + (1 : Int32))) (lv' := [(2, .int (x2 + (1 : Int32))), (0, .ref (w.2.2.1 0)), (1, .int x1)]) hx hb dX8_look_55 hl (k := 2) rfl rfl (by decide) rfl (fun ls hl => ?_)
      refine lv_goto (tgt := 15) hx hb dX8_look_58 (by decide) ?_
      exact hI15 _ (Option.some.inj hf).symm _ _ ls hG (lv_sub hl [1, 2, 0] rfl)
    have hJ28 : ∀ (x2 : Int32) (x3 : Int32) (M : Mem) (H : Heap) (locs : List Loc) (ls : Array Slot), gl (b_X8_look_28 n  x1 x2) n (x3, M) = some rr15 → GI w layC 61 s.heap M H locs → lv_has ls 6 [(0, .ref (w.2.2.1 0)), (1, .int x1), (2, .int x2), (3, .int x3)] → W p l e (RmX 7 1) s m args below meth c H locs 1 6 (vx_MQ below (GXi w layC 61 res s.heap.size) (GXx w layC 61 res s.heap.size) args s 1 (6 * 1) (gA w.2.2.1 61 s.heap.size)) (F0 m 28 ls []) := by
      intro x2 x3 M H locs ls hf hG hl
      refine gl_run (P := fun (q : (Int32 × Mem)) => ∀ (H : Heap) (locs : List Loc) (ls : Array Slot), GI w layC 61 s.heap q.2 H locs → lv_has ls 6 [(0, .ref (w.2.2.1 0)), (1, .int x1), (2, .int x2), (3, .int q.1)] → W p l e (RmX 7 1) s m args below meth c H locs 1 6 (vx_MQ below (GXi w layC 61 res s.heap.size) (GXx w layC 61 res s.heap.size) args s 1 (6 * 1) (gA w.2.2.1 61 s.heap.size)) (F0 m 28 ls [])) ?_ n (x3, M) hf H locs ls hG hl
      clear hf hG hl ls locs H M x3
      rintro ⟨x3, M⟩ rr28 hf hI28 hE28 H locs ls hG hl
      try dsimp only at hG hl ⊢
      have hJ49 : ∀ (x3 : Int32) (M : Mem) (H : Heap) (locs : List Loc) (ls : Array Slot), j_X8_look_49 n  x1 x2 x3 M = some rr28 → GI w layC 61 s.heap M H locs → lv_has ls 6 [(0, .ref (w.2.2.1 0)), (1, .int x1), (2, .int x2), (3, .int x3)] → W p l e (RmX 7 1) s m args below meth c H locs 1 6 (vx_MQ below (GXi w layC 61 res s.heap.size) (GXx w layC 61 res s.heap.size) args s 1 (6 * 1) (gA w.2.2.1 61 s.heap.size)) (F0 m 49 ls []) := by
        intro x3 M H locs ls hf hG hl
        unfold j_X8_look_49 at hf
        refine lv_iinc (v := (x3 + (1 : Int32))) (lv' := [(3, .int (x3 + (1 : Int32))), (0, .ref (w.2.2.1 0)), (1, .int x1), (2, .int x2)]) hx hb dX8_look_49 hl (k := 3) rfl rfl (by decide) rfl (fun ls hl => ?_)
        refine lv_goto (tgt := 28) hx hb dX8_look_52 (by decide) ?_
        exact hI28 _ (Option.some.inj hf).symm _ _ ls hG (lv_sub hl [1, 2, 3, 0] rfl)
      dsimp only [b_X8_look_28] at hf
      refine lv_iload_n hx hb dX8_look_28 rfl (lv_at hl 3 rfl) ?_
      refine lv_bipush (v := 9) hx hb dX8_look_29 (by decide) ?_
      refine lv_icmp_gt (tgt := 55) hx hb dX8_look_31 (by decide) (fun c8 => ?_) (fun c8 => ?_)
      · replace hf := if_t c8 hf
        replace hf := mr_some hf
        obtain ⟨z28, hf, hz⟩ := hf
        rw [hE28 _ hz] at hf
        exact hJ55 _ _ _ _ ls hf hG (lv_sub hl [0, 1, 2] rfl)
      · replace hf := if_f c8 hf
        refine lv_aload_n hx hb dX8_look_34 rfl (lv_at hl 0 rfl) ?_
        refine lv_iload_n hx hb dX8_look_35 rfl (lv_at hl 2 rfl) ?_
        refine lv_iload_n hx hb dX8_look_36 rfl (lv_at hl 3 rfl) ?_
        replace hf := bd_some hf
        obtain ⟨q9, eq9, hf⟩ := hf
        refine gx_calli hG (gx_runV (xn_ok (yc_ok w)) F hX hG (c_X8_maybeHeavy l w  n  x2 x3 _ _ eq9) cv_X8_299 ⟨Nat.le_of_ble_eq_true rfl, Nat.le_of_ble_eq_true rfl⟩ (g_recv F hG ct_0 (by decide) rfl) rfl hl.1 rfl (Nat.le_of_ble_eq_true rfl) dX8_look_37 ⟨by decide, by decide⟩) (fun H locs hG => ?_)
        refine lv_if_eq (tgt := 49) hx hb dX8_look_40 (by decide) (fun c10 => ?_) (fun c10 => ?_)
        · replace hf := if_t c10 hf
          exact hJ49 _ _ _ _ ls hf hG (lv_sub hl [0, 1, 2, 3] rfl)
        · replace hf := if_f c10 hf
          refine lv_aload_n hx hb dX8_look_43 rfl (lv_at hl 0 rfl) ?_
          refine lv_iload_n hx hb dX8_look_44 rfl (lv_at hl 2 rfl) ?_
          refine lv_iload_n hx hb dX8_look_45 rfl (lv_at hl 3 rfl) ?_
          replace hf := bd_some hf
          obtain ⟨q11, eq11, hf⟩ := hf
          refine gx_callv hG (gx_runV (xn_ok (yc_ok w)) F hX hG (c_X8_meetLeans l w  n  x2 x3 _ _ eq11) cv_X8_314 ⟨Nat.le_of_ble_eq_true rfl, Nat.le_of_ble_eq_true rfl⟩ (g_recv F hG ct_0 (by decide) rfl) rfl hl.1 rfl (Nat.le_of_ble_eq_true rfl) dX8_look_46 ⟨by decide, by decide⟩) (fun H locs hG => ?_)
          exact hJ49 _ _ _ _ ls hf hG (lv_sub hl [0, 1, 2, 3] rfl)
    dsimp only [b_X8_look_15] at hf
    refine lv_iload_n hx hb dX8_look_15 rfl (lv_at hl 2 rfl) ?_
    refine lv_aload_n hx hb dX8_look_16 rfl (lv_at hl 0 rfl) ?_
    refine g_getR F hG 4 ct_0 (by decide) (by decide) lk_X8_16 rfl dX8_look_17 ?_
    refine g_getI F hG st_4.1 (by decide) (by decide) lk_X8_114 rfl dX8_look_20 ?_
    refine lv_icmp_ge (tgt := 61) hx hb dX8_look_23 (by decide) (fun c12 => ?_) (fun c12 => ?_)
    · replace hf := if_t c12 hf
      replace hf := mr_some hf
      obtain ⟨z15, hf, hz⟩ := hf
      rw [hE15 _ hz] at hf
      exact hJ61 _ _ _ _ ls hf hG (lv_sub hl [0, 1] rfl)
    · replace hf := if_f c12 hf
      refine lv_iconst (v := 1) hx hb dX8_look_26 (by decide) ?_
      refine lv_istore_n (lv' := [(3, .int (1 : Int32)), (0, .ref (w.2.2.1 0)), (1, .int x1), (2, .int x2)]) hx hb dX8_look_27 rfl hl (by decide) rfl (fun ls hl => ?_)
      exact hJ28 _ _ _ _ _ ls hf hG (lv_sub hl [1, 2, 3, 0] rfl)
  unfold f_X8_look at hf
  refine lv_iload_n hx hb dX8_look_0 rfl (lv_at hl 1 rfl) ?_
  refine lv_iconst (v := 1) hx hb dX8_look_1 (by decide) ?_
  replace hf := bd_some hf
  obtain ⟨q13, eq13, hf⟩ := hf
  refine gx_xcallv hno hlk F hG (gx_xrunS (xn_ok (yc_ok w)) F hX hG (c_X8_requireWhat l w hst n x1 (1 : Int32) _ _ eq13) cs_X8_231 ⟨Nat.le_of_ble_eq_true rfl, Nat.le_of_ble_eq_true rfl⟩ rfl hl.1 rfl (Nat.le_of_ble_eq_true rfl) dX8_look_2 ⟨by decide, by decide⟩) (by decide) (by decide) (fun hz => if_f hz hf) (fun hz H locs hG => ?_)
  replace hf := if_t hz hf
  refine W.widen (k := 1) (n := 6) (by decide) (by decide) ?_
  refine lv_aload_n hx hb dX8_look_5 rfl (lv_at hl 0 rfl) ?_
  refine g_getR F hG 2 ct_0 (by decide) (by decide) lk_X8_49 rfl dX8_look_6 ?_
  refine lv_lconst (v := 0) hx hb dX8_look_9 (by decide) ?_
  replace hf := bd_some hf
  obtain ⟨q14, eq14, hf⟩ := hf
  refine gx_callv hG (gx_runS (xn_ok (yc_ok w)) F hX hG (c_J7_fill_d0a16 l w (yc_ok w) n 10 2 oC_2 (0 : Int64) _ _ eq14) cs_X8_308 ⟨Nat.le_of_ble_eq_true rfl, Nat.le_of_ble_eq_true rfl⟩ rfl hl.1 rfl (Nat.le_of_ble_eq_true rfl) dX8_look_10 ⟨by decide, by decide⟩) (fun H locs hG => ?_)
  refine lv_iconst (v := 0) hx hb dX8_look_13 (by decide) ?_
  refine lv_istore_n (lv' := [(2, .int (0 : Int32)), (0, .ref (w.2.2.1 0)), (1, .int x1)]) hx hb dX8_look_14 rfl hl (by decide) rfl (fun ls hl => ?_)
  exact hJ15 _ _ _ _ _ ls hf hG (lv_sub hl [1, 2, 0] rfl)

def j_X8_standsInGales_34 (n : Nat) (t0 : Int32) (t1 : Nat) (x1 : Int32) (x2 : Int32) (x3 : Int32) (M : Mem) : Option ((Int32 × Mem) ⊕ (Int32 × Mem)) := bd (f_X4_passDay n 10 t1 t0 M) (fun q1 => if (gi q1 10 11) ≤ 0 then (some (.inl ((x3 + (1 : Int32)), q1))) else (mr (some ((0 : Int32), q1))))
def b_X8_standsInGales_6 (n : Nat) (x1 : Int32) (x2 : Int32) (q : (Int32 × Mem)) : Option ((Int32 × Mem) ⊕ (Int32 × Mem)) := match q with
  | (x3, M) => if x2 ≤ x3 then (mr (some ((1 : Int32), M))) else (ck (isTwB ((gi M 0 12).toNatClampNeg)) (if ((x1 >>> (x3 &&& 31)) &&& (1 : Int32)) = (1 : Int32) then (j_X8_standsInGales_34 n  (9 : Int32) ((gi M 0 12).toNatClampNeg) x1 x2 x3 M) else (j_X8_standsInGales_34 n  (0 : Int32) ((gi M 0 12).toNatClampNeg) x1 x2 x3 M)))
def f_X8_standsInGales (n : Nat) (x1 : Int32) (x2 : Int32) (M : Mem) : Option (Int32 × Mem) := bd (f_X8_startTrial n   M) (fun q6 => gl (b_X8_standsInGales_6 n  x1 x2) n ((0 : Int32), q6))
set_option maxHeartbeats 4000000 in
set_option maxRecDepth 100000 in
theorem c_X8_standsInGales (l : Launch) (w : Wd)  (n : Nat) (x1 : Int32) (x2 : Int32) (M : Mem) (res : Int32 × Mem) (hf : f_X8_standsInGales n  x1 x2 M = some res) : CG l w layC 61 (XN (YC w)) yX8_standsInGales cX8_standsInGales 4 (some .boolean) 4 [.ref (w.2.2.1 0), .int x1, .int x2] M (GQi w layC 61 res) := by
  refine cg_start (by decide +kernel) (Nat.le_of_ble_eq_true rfl) ?_
  intro p e s m args below meth c F hr hlk hX hG ls hl
  have F : FX w p m c cX8_standsInGales 4 s args RX8 := F
  have hx := F.1.1
  have hb := F.1.2.1
  have hl : lv_has ls 4 [(0, .ref (w.2.2.1 0)), (1, .int x1), (2, .int x2)] := hl
  have hJ6 : ∀ (x1 : Int32) (x2 : Int32) (x3 : Int32) (M : Mem) (H : Heap) (locs : List Loc) (ls : Array Slot), gl (b_X8_standsInGales_6 n  x1 x2) n (x3, M) = some res → GI w layC 61 s.heap M H locs → lv_has ls 4 [(0, .ref (w.2.2.1 0)), (1, .int x1), (2, .int x2), (3, .int x3)] → W p l e (Rm 4) s m args below meth c H locs 0 0 (MQ below (GQi w layC 61 res s.heap.size) args s 0 0 (gA w.2.2.1 61 s.heap.size)) (F0 m 6 ls []) := by
    intro x1 x2 x3 M H locs ls hf hG hl
    refine gl_run (P := fun (q : (Int32 × Mem)) => ∀ (H : Heap) (locs : List Loc) (ls : Array Slot), GI w layC 61 s.heap q.2 H locs → lv_has ls 4 [(0, .ref (w.2.2.1 0)), (1, .int x1), (2, .int x2), (3, .int q.1)] → W p l e (Rm 4) s m args below meth c H locs 0 0 (MQ below (GQi w layC 61 res s.heap.size) args s 0 0 (gA w.2.2.1 61 s.heap.size)) (F0 m 6 ls [])) ?_ n (x3, M) hf H locs ls hG hl
    clear hf hG hl ls locs H M x3
    rintro ⟨x3, M⟩ rr6 hf hI6 hE6 H locs ls hG hl
    try dsimp only at hG hl ⊢
    have hJ34 : ∀ (t0 : Int32) (t1 : Nat) (ht1 : isTw t1) (x3 : Int32) (M : Mem) (H : Heap) (locs : List Loc) (ls : Array Slot), j_X8_standsInGales_34 n  t0 t1 x1 x2 x3 M = some rr6 → GI w layC 61 s.heap M H locs → lv_has ls 4 [(0, .ref (w.2.2.1 0)), (1, .int x1), (2, .int x2), (3, .int x3)] → W p l e (Rm 4) s m args below meth c H locs 0 0 (MQ below (GQi w layC 61 res s.heap.size) args s 0 0 (gA w.2.2.1 61 s.heap.size)) (F0 m 34 ls [.int t0, .ref (w.2.2.1 t1), .ref (w.2.2.1 10)]) := by
      intro t0 t1 ht1 x3 M H locs ls hf hG hl
      unfold j_X8_standsInGales_34 at hf
      replace hf := bd_some hf
      obtain ⟨q1, eq1, hf⟩ := hf
      refine gx_callv hG (gx_runV (xn_ok (yc_ok w)) F hX hG (c_X4_passDay l w (yc_ok w) n 10 st_10 t1 ht1 t0 _ _ eq1) cv_X8_209 ⟨Nat.le_of_ble_eq_true rfl, Nat.le_of_ble_eq_true rfl⟩ (g_recv F hG st_10.1 (by decide) rfl) rfl hl.1 rfl (Nat.le_of_ble_eq_true rfl) dX8_standsInGales_34 ⟨Nat.le_refl _, Nat.le_refl _⟩) (fun H locs hG => ?_)
      refine lv_aload_n hx hb dX8_standsInGales_37 rfl (lv_at hl 0 rfl) ?_
      refine g_getR F hG 10 ct_0 (by decide) (by decide) lk_X8_20 rfl dX8_standsInGales_38 ?_
      refine g_getI F hG st_10.1 (by decide) (by decide) lk_X8_148 rfl dX8_standsInGales_41 ?_
      refine lv_if_le (tgt := 49) hx hb dX8_standsInGales_44 (by decide) (fun c2 => ?_) (fun c2 => ?_)
      · replace hf := if_t c2 hf
        refine lv_iinc (v := (x3 + (1 : Int32))) (lv' := [(3, .int (x3 + (1 : Int32))), (0, .ref (w.2.2.1 0)), (1, .int x1), (2, .int x2)]) hx hb dX8_standsInGales_49 hl (k := 3) rfl rfl (by decide) rfl (fun ls hl => ?_)
        refine lv_goto (tgt := 6) hx hb dX8_standsInGales_52 (by decide) ?_
        exact hI6 _ (Option.some.inj hf).symm _ _ ls hG (lv_sub hl [1, 2, 3, 0] rfl)
      · replace hf := if_f c2 hf
        refine lv_iconst (v := 0) hx hb dX8_standsInGales_47 (by decide) ?_
        replace hf := mr_some hf
        obtain ⟨z6, hf, hz⟩ := hf
        rw [hE6 _ hz] at hf
        exact cg_zret F hr hlk hG hf (Or.inl rfl) dX8_standsInGales_48
    dsimp only [b_X8_standsInGales_6] at hf
    refine lv_iload_n hx hb dX8_standsInGales_6 rfl (lv_at hl 3 rfl) ?_
    refine lv_iload_n hx hb dX8_standsInGales_7 rfl (lv_at hl 2 rfl) ?_
    refine lv_icmp_ge (tgt := 55) hx hb dX8_standsInGales_8 (by decide) (fun c3 => ?_) (fun c3 => ?_)
    · replace hf := if_t c3 hf
      refine lv_iconst (v := 1) hx hb dX8_standsInGales_55 (by decide) ?_
      replace hf := mr_some hf
      obtain ⟨z6, hf, hz⟩ := hf
      rw [hE6 _ hz] at hf
      exact cg_zret F hr hlk hG hf (Or.inr rfl) dX8_standsInGales_56
    · replace hf := if_f c3 hf
      refine lv_aload_n hx hb dX8_standsInGales_11 rfl (lv_at hl 0 rfl) ?_
      refine g_getR F hG 10 ct_0 (by decide) (by decide) lk_X8_20 rfl dX8_standsInGales_12 ?_
      refine lv_aload_n hx hb dX8_standsInGales_15 rfl (lv_at hl 0 rfl) ?_
      replace hf := ck_some hf
      obtain ⟨k4, hf⟩ := hf
      refine g_getM F hG ct_0 (by decide) (by decide) lk_X8_66 rfl dX8_standsInGales_16 ?_
      refine lv_iload_n hx hb dX8_standsInGales_19 rfl (lv_at hl 1 rfl) ?_
      refine lv_iload_n hx hb dX8_standsInGales_20 rfl (lv_at hl 3 rfl) ?_
      refine lv_ishr hx hb dX8_standsInGales_21 ?_
      refine lv_iconst (v := 1) hx hb dX8_standsInGales_22 (by decide) ?_
      refine lv_iand hx hb dX8_standsInGales_23 ?_
      refine lv_iconst (v := 1) hx hb dX8_standsInGales_24 (by decide) ?_
      refine lv_icmp_ne (tgt := 33) hx hb dX8_standsInGales_25 (by decide) (fun c5 => ?_) (fun c5 => ?_)
      · replace hf := if_f c5 hf
        refine lv_iconst (v := 0) hx hb dX8_standsInGales_33 (by decide) ?_
        exact hJ34 _ _ (tw_of k4) _ _ _ _ ls hf hG (lv_sub hl [0, 1, 2, 3] rfl)
      · replace hf := if_t c5 hf
        refine lv_bipush (v := 9) hx hb dX8_standsInGales_28 (by decide) ?_
        refine lv_goto (tgt := 34) hx hb dX8_standsInGales_30 (by decide) ?_
        exact hJ34 _ _ (tw_of k4) _ _ _ _ ls hf hG (lv_sub hl [0, 1, 2, 3] rfl)
  unfold f_X8_standsInGales at hf
  refine lv_aload_n hx hb dX8_standsInGales_0 rfl (lv_at hl 0 rfl) ?_
  replace hf := bd_some hf
  obtain ⟨q6, eq6, hf⟩ := hf
  refine gx_callv hG (gx_runV (xn_ok (yc_ok w)) F hX hG (c_X8_startTrial l w  n   _ _ eq6) cv_X8_237 ⟨Nat.le_of_ble_eq_true rfl, Nat.le_of_ble_eq_true rfl⟩ (g_recv F hG ct_0 (by decide) rfl) rfl hl.1 rfl (Nat.le_of_ble_eq_true rfl) dX8_standsInGales_1 ⟨Nat.le_refl _, Nat.le_refl _⟩) (fun H locs hG => ?_)
  refine lv_iconst (v := 0) hx hb dX8_standsInGales_4 (by decide) ?_
  refine lv_istore_n (lv' := [(3, .int (0 : Int32)), (0, .ref (w.2.2.1 0)), (1, .int x1), (2, .int x2)]) hx hb dX8_standsInGales_5 rfl hl (by decide) rfl (fun ls hl => ?_)
  exact hJ6 _ _ _ _ _ _ ls hf hG (lv_sub hl [1, 2, 3, 0] rfl)

def j_X8_gales_10 (n : Nat) (M : Mem) : Option (Rx) := some ((2 : Nat), (0 : Int32), M)
def j_X8_gales_97 (n : Nat) (x1 : Int32) (x2 : Int32) (x3 : Int32) (x4 : Int32) (M : Mem) : Option ((Int32 × Int32 × Mem) ⊕ (Rx)) := some (.inl (x3, (x4 + (1 : Int32)), M))
def j_X8_gales_92 (n : Nat) (x1 : Int32) (x2 : Int32) (x3 : Int32) (x4 : Int32) (x5 : Int32) (M : Mem) : Option ((Int32 × Int32 × Mem) ⊕ (Rx)) := j_X8_gales_97 n  x1 x2 (x3 + x5) x4 M
def j_X8_gales_83 (n : Nat) (t0 : Int32) (t1 : Int32) (x1 : Int32) (x2 : Int32) (x3 : Int32) (x4 : Int32) (x6 : Int32) (M : Mem) : Option ((Int32 × Int32 × Mem) ⊕ ((Int32 × Int32 × Mem) ⊕ (Rx))) := some (.inl ((t1 * t0), (x6 + (1 : Int32)), M))
def b_X8_gales_56 (n : Nat) (x1 : Int32) (x2 : Int32) (x3 : Int32) (x4 : Int32) (q : (Int32 × Int32 × Mem)) : Option ((Int32 × Int32 × Mem) ⊕ ((Int32 × Int32 × Mem) ⊕ (Rx))) := match q with
  | (x5, x6, M) => if x1 ≤ x6 then (mr (j_X8_gales_92 n  x1 x2 x3 x4 x5 M)) else (if ((x4 >>> (x6 &&& 31)) &&& (1 : Int32)) = (1 : Int32) then (j_X8_gales_83 n  x2 x5 x1 x2 x3 x4 x6 M) else (j_X8_gales_83 n  ((10 : Int32) - x2) x5 x1 x2 x3 x4 x6 M))
def b_X8_gales_32 (n : Nat) (x1 : Int32) (x2 : Int32) (q : (Int32 × Int32 × Mem)) : Option ((Int32 × Int32 × Mem) ⊕ (Rx)) := match q with
  | (x3, x4, M) => if ((1 : Int32) <<< (x1 &&& 31)) ≤ x4 then (mr (some ((0 : Nat), x3, M))) else (bd (f_X8_standsInGales n  x4 x1 M) (fun q4 => if q4.1 = 0 then (j_X8_gales_97 n  x1 x2 x3 x4 q4.2) else (gl (b_X8_gales_56 n  x1 x2 x3 x4) n ((1 : Int32), (0 : Int32), q4.2))))
def f_X8_gales (n : Nat) (x1 : Int32) (x2 : Int32) (M : Mem) : Option (Rx) := if x1 < (1 : Int32) then (j_X8_gales_10 n  M) else (if x1 ≤ (5 : Int32) then (bd (f_X8_requireFrom0 n x2 (10 : Int32) M) (fun q8 => if q8.1 = 0 then (gl (b_X8_gales_32 n  x1 x2) n ((0 : Int32), (0 : Int32), q8.2.2)) else (some (q8.1, (0 : Int32), q8.2.2)))) else (j_X8_gales_10 n  M))
set_option maxHeartbeats 4000000 in
set_option maxRecDepth 100000 in
theorem c_X8_gales (l : Launch) (w : Wd) (hst : l.stackTraces = false) (n : Nat) (x1 : Int32) (x2 : Int32) (M : Mem) (res : Rx) (hf : f_X8_gales n  x1 x2 M = some res) : CX l w layC 61 (XN (YC w)) yX8_gales cX8_gales 7 (some .int) 7 2 [.ref (w.2.2.1 0), .int x1, .int x2] M (GXi w layC 61 res) (GXx w layC 61 res) := by
  refine cx_start (by decide +kernel) (Nat.le_of_ble_eq_true rfl) ?_
  intro p e s m args below meth c F hr hlk hno hX hG ls hl
  have F : FX w p m c cX8_gales 7 s args RX8 := F
  have hx := F.1.1
  have hb := F.1.2.1
  have hl : lv_has ls 7 [(0, .ref (w.2.2.1 0)), (1, .int x1), (2, .int x2)] := hl
  have hJ10 : ∀ (M : Mem) (H : Heap) (locs : List Loc) (ls : Array Slot), j_X8_gales_10 n   M = some res → GI w layC 61 s.heap M H locs → lv_has ls 7 [] → W p l e (RmX 7 2) s m args below meth c H locs 0 0 (vx_MQ below (GXi w layC 61 res s.heap.size) (GXx w layC 61 res s.heap.size) args s 2 (6 * 2) (gA w.2.2.1 61 s.heap.size)) (F0 m 10 ls []) := by
    intro  M H locs ls hf hG hl
    unfold j_X8_gales_10 at hf
    exact gx_throwSW (k := 2) hst F hG hX.2.2.1 hno hlk ts_X8_85_89 rfl (text := "days") (by decide) (Or.inr rfl) rfl (by decide) hf hl.1 dX8_gales_10 dX8_gales_13 dX8_gales_14 dX8_gales_17 dX8_gales_20 (by decide) (by decide) (by decide) (by decide) (by decide) (by decide)
  have hJ32 : ∀ (x1 : Int32) (x2 : Int32) (x3 : Int32) (x4 : Int32) (M : Mem) (H : Heap) (locs : List Loc) (ls : Array Slot), gl (b_X8_gales_32 n  x1 x2) n (x3, x4, M) = some res → GI w layC 61 s.heap M H locs → lv_has ls 7 [(0, .ref (w.2.2.1 0)), (1, .int x1), (2, .int x2), (3, .int x3), (4, .int x4)] → W p l e (RmX 7 2) s m args below meth c H locs 1 6 (vx_MQ below (GXi w layC 61 res s.heap.size) (GXx w layC 61 res s.heap.size) args s 2 (6 * 2) (gA w.2.2.1 61 s.heap.size)) (F0 m 32 ls []) := by
    intro x1 x2 x3 x4 M H locs ls hf hG hl
    refine gl_run (P := fun (q : (Int32 × Int32 × Mem)) => ∀ (H : Heap) (locs : List Loc) (ls : Array Slot), GI w layC 61 s.heap q.2.2 H locs → lv_has ls 7 [(0, .ref (w.2.2.1 0)), (1, .int x1), (2, .int x2), (3, .int q.1), (4, .int q.2.1)] → W p l e (RmX 7 2) s m args below meth c H locs 1 6 (vx_MQ below (GXi w layC 61 res s.heap.size) (GXx w layC 61 res s.heap.size) args s 2 (6 * 2) (gA w.2.2.1 61 s.heap.size)) (F0 m 32 ls [])) ?_ n (x3, x4, M) hf H locs ls hG hl
    clear hf hG hl ls locs H M x3 x4
    rintro ⟨x3, x4, M⟩ rr32 hf hI32 hE32 H locs ls hG hl
    try dsimp only at hG hl ⊢
    have hJ97 : ∀ (x3 : Int32) (x4 : Int32) (M : Mem) (H : Heap) (locs : List Loc) (ls : Array Slot), j_X8_gales_97 n  x1 x2 x3 x4 M = some rr32 → GI w layC 61 s.heap M H locs → lv_has ls 7 [(0, .ref (w.2.2.1 0)), (1, .int x1), (2, .int x2), (3, .int x3), (4, .int x4)] → W p l e (RmX 7 2) s m args below meth c H locs 1 6 (vx_MQ below (GXi w layC 61 res s.heap.size) (GXx w layC 61 res s.heap.size) args s 2 (6 * 2) (gA w.2.2.1 61 s.heap.size)) (F0 m 97 ls []) := by
      intro x3 x4 M H locs ls hf hG hl
      unfold j_X8_gales_97 at hf
      refine lv_iinc (v := (x4 + (1 : Int32))) (lv' := [(4, .int (x4 + (1 : Int32))), (0, .ref (w.2.2.1 0)), (1, .int x1), (2, .int x2), (3, .int x3)]) hx hb dX8_gales_97 hl (k := 4) rfl rfl (by decide) rfl (fun ls hl => ?_)
      refine lv_goto (tgt := 32) hx hb dX8_gales_100 (by decide) ?_
      exact hI32 _ (Option.some.inj hf).symm _ _ ls hG (lv_sub hl [1, 2, 3, 4, 0] rfl)
    have hJ92 : ∀ (x3 : Int32) (x4 : Int32) (x5 : Int32) (M : Mem) (H : Heap) (locs : List Loc) (ls : Array Slot), j_X8_gales_92 n  x1 x2 x3 x4 x5 M = some rr32 → GI w layC 61 s.heap M H locs → lv_has ls 7 [(0, .ref (w.2.2.1 0)), (1, .int x1), (2, .int x2), (3, .int x3), (4, .int x4), (5, .int x5)] → W p l e (RmX 7 2) s m args below meth c H locs 1 6 (vx_MQ below (GXi w layC 61 res s.heap.size) (GXx w layC 61 res s.heap.size) args s 2 (6 * 2) (gA w.2.2.1 61 s.heap.size)) (F0 m 92 ls []) := by
      intro x3 x4 x5 M H locs ls hf hG hl
      unfold j_X8_gales_92 at hf
      refine lv_iload_n hx hb dX8_gales_92 rfl (lv_at hl 3 rfl) ?_
      refine lv_iload hx hb dX8_gales_93 (lv_at hl 5 rfl) ?_
      refine lv_iadd hx hb dX8_gales_95 ?_
      refine lv_istore_n (lv' := [(3, .int (x3 + x5)), (0, .ref (w.2.2.1 0)), (1, .int x1), (2, .int x2), (4, .int x4), (5, .int x5)]) hx hb dX8_gales_96 rfl hl (by decide) rfl (fun ls hl => ?_)
      exact hJ97 _ _ _ _ _ ls hf hG (lv_sub hl [1, 2, 3, 0, 4] rfl)
    have hJ56 : ∀ (x3 : Int32) (x4 : Int32) (x5 : Int32) (x6 : Int32) (M : Mem) (H : Heap) (locs : List Loc) (ls : Array Slot), gl (b_X8_gales_56 n  x1 x2 x3 x4) n (x5, x6, M) = some rr32 → GI w layC 61 s.heap M H locs → lv_has ls 7 [(0, .ref (w.2.2.1 0)), (1, .int x1), (2, .int x2), (3, .int x3), (4, .int x4), (5, .int x5), (6, .int x6)] → W p l e (RmX 7 2) s m args below meth c H locs 1 6 (vx_MQ below (GXi w layC 61 res s.heap.size) (GXx w layC 61 res s.heap.size) args s 2 (6 * 2) (gA w.2.2.1 61 s.heap.size)) (F0 m 56 ls []) := by
      intro x3 x4 x5 x6 M H locs ls hf hG hl
      refine gl_run (P := fun (q : (Int32 × Int32 × Mem)) => ∀ (H : Heap) (locs : List Loc) (ls : Array Slot), GI w layC 61 s.heap q.2.2 H locs → lv_has ls 7 [(0, .ref (w.2.2.1 0)), (1, .int x1), (2, .int x2), (3, .int x3), (4, .int x4), (5, .int q.1), (6, .int q.2.1)] → W p l e (RmX 7 2) s m args below meth c H locs 1 6 (vx_MQ below (GXi w layC 61 res s.heap.size) (GXx w layC 61 res s.heap.size) args s 2 (6 * 2) (gA w.2.2.1 61 s.heap.size)) (F0 m 56 ls [])) ?_ n (x5, x6, M) hf H locs ls hG hl
      clear hf hG hl ls locs H M x5 x6
      rintro ⟨x5, x6, M⟩ rr56 hf hI56 hE56 H locs ls hG hl
      try dsimp only at hG hl ⊢
      have hJ83 : ∀ (t0 : Int32) (t1 : Int32) (x6 : Int32) (M : Mem) (H : Heap) (locs : List Loc) (ls : Array Slot), j_X8_gales_83 n  t0 t1 x1 x2 x3 x4 x6 M = some rr56 → GI w layC 61 s.heap M H locs → lv_has ls 7 [(0, .ref (w.2.2.1 0)), (1, .int x1), (2, .int x2), (3, .int x3), (4, .int x4), (6, .int x6)] → W p l e (RmX 7 2) s m args below meth c H locs 1 6 (vx_MQ below (GXi w layC 61 res s.heap.size) (GXx w layC 61 res s.heap.size) args s 2 (6 * 2) (gA w.2.2.1 61 s.heap.size)) (F0 m 83 ls [.int t0, .int t1]) := by
        intro t0 t1 x6 M H locs ls hf hG hl
        unfold j_X8_gales_83 at hf
        refine lv_imul hx hb dX8_gales_83 ?_
        refine lv_istore (lv' := [(5, .int (t1 * t0)), (0, .ref (w.2.2.1 0)), (1, .int x1), (2, .int x2), (3, .int x3), (4, .int x4), (6, .int x6)]) hx hb dX8_gales_84 hl (by decide) rfl (fun ls hl => ?_)
        refine lv_iinc (v := (x6 + (1 : Int32))) (lv' := [(6, .int (x6 + (1 : Int32))), (5, .int (t1 * t0)), (0, .ref (w.2.2.1 0)), (1, .int x1), (2, .int x2), (3, .int x3), (4, .int x4)]) hx hb dX8_gales_86 hl (k := 6) rfl rfl (by decide) rfl (fun ls hl => ?_)
        refine lv_goto (tgt := 56) hx hb dX8_gales_89 (by decide) ?_
        exact hI56 _ (Option.some.inj hf).symm _ _ ls hG (lv_sub hl [2, 3, 4, 5, 6, 1, 0] rfl)
      dsimp only [b_X8_gales_56] at hf
      refine lv_iload hx hb dX8_gales_56 (lv_at hl 6 rfl) ?_
      refine lv_iload_n hx hb dX8_gales_58 rfl (lv_at hl 1 rfl) ?_
      refine lv_icmp_ge (tgt := 92) hx hb dX8_gales_59 (by decide) (fun c1 => ?_) (fun c1 => ?_)
      · replace hf := if_t c1 hf
        replace hf := mr_some hf
        obtain ⟨z56, hf, hz⟩ := hf
        rw [hE56 _ hz] at hf
        exact hJ92 _ _ _ _ _ _ ls hf hG (lv_sub hl [0, 1, 2, 3, 4, 5] rfl)
      · replace hf := if_f c1 hf
        refine lv_iload hx hb dX8_gales_62 (lv_at hl 5 rfl) ?_
        refine lv_iload hx hb dX8_gales_64 (lv_at hl 4 rfl) ?_
        refine lv_iload hx hb dX8_gales_66 (lv_at hl 6 rfl) ?_
        refine lv_ishr hx hb dX8_gales_68 ?_
        refine lv_iconst (v := 1) hx hb dX8_gales_69 (by decide) ?_
        refine lv_iand hx hb dX8_gales_70 ?_
        refine lv_iconst (v := 1) hx hb dX8_gales_71 (by decide) ?_
        refine lv_icmp_ne (tgt := 79) hx hb dX8_gales_72 (by decide) (fun c2 => ?_) (fun c2 => ?_)
        · replace hf := if_f c2 hf
          refine lv_bipush (v := 10) hx hb dX8_gales_79 (by decide) ?_
          refine lv_iload_n hx hb dX8_gales_81 rfl (lv_at hl 2 rfl) ?_
          refine lv_isub hx hb dX8_gales_82 ?_
          exact hJ83 _ _ _ _ _ _ ls hf hG (lv_sub hl [0, 1, 2, 3, 4, 6] rfl)
        · replace hf := if_t c2 hf
          refine lv_iload_n hx hb dX8_gales_75 rfl (lv_at hl 2 rfl) ?_
          refine lv_goto (tgt := 83) hx hb dX8_gales_76 (by decide) ?_
          exact hJ83 _ _ _ _ _ _ ls hf hG (lv_sub hl [0, 1, 2, 3, 4, 6] rfl)
    dsimp only [b_X8_gales_32] at hf
    refine lv_iload hx hb dX8_gales_32 (lv_at hl 4 rfl) ?_
    refine lv_iconst (v := 1) hx hb dX8_gales_34 (by decide) ?_
    refine lv_iload_n hx hb dX8_gales_35 rfl (lv_at hl 1 rfl) ?_
    refine lv_ishl hx hb dX8_gales_36 ?_
    refine lv_icmp_ge (tgt := 103) hx hb dX8_gales_37 (by decide) (fun c3 => ?_) (fun c3 => ?_)
    · replace hf := if_t c3 hf
      refine lv_iload_n hx hb dX8_gales_103 rfl (lv_at hl 3 rfl) ?_
      replace hf := mr_some hf
      obtain ⟨z32, hf, hz⟩ := hf
      rw [hE32 _ hz] at hf
      exact cx_iret F hr hlk hG hf (by decide) (by decide) dX8_gales_104
    · replace hf := if_f c3 hf
      refine lv_aload_n hx hb dX8_gales_40 rfl (lv_at hl 0 rfl) ?_
      refine lv_iload hx hb dX8_gales_41 (lv_at hl 4 rfl) ?_
      refine lv_iload_n hx hb dX8_gales_43 rfl (lv_at hl 1 rfl) ?_
      replace hf := bd_some hf
      obtain ⟨q4, eq4, hf⟩ := hf
      refine gx_calli hG (gx_runV (xn_ok (yc_ok w)) F hX hG (c_X8_standsInGales l w  n  x4 x1 _ _ eq4) cv_X8_324 ⟨Nat.le_of_ble_eq_true rfl, Nat.le_of_ble_eq_true rfl⟩ (g_recv F hG ct_0 (by decide) rfl) rfl hl.1 rfl (Nat.le_of_ble_eq_true rfl) dX8_gales_44 ⟨by decide, by decide⟩) (fun H locs hG => ?_)
      refine lv_if_eq (tgt := 97) hx hb dX8_gales_47 (by decide) (fun c5 => ?_) (fun c5 => ?_)
      · replace hf := if_t c5 hf
        exact hJ97 _ _ _ _ _ ls hf hG (lv_sub hl [0, 1, 2, 3, 4] rfl)
      · replace hf := if_f c5 hf
        refine lv_iconst (v := 1) hx hb dX8_gales_50 (by decide) ?_
        refine lv_istore (lv' := [(5, .int (1 : Int32)), (0, .ref (w.2.2.1 0)), (1, .int x1), (2, .int x2), (3, .int x3), (4, .int x4)]) hx hb dX8_gales_51 hl (by decide) rfl (fun ls hl => ?_)
        refine lv_iconst (v := 0) hx hb dX8_gales_53 (by decide) ?_
        refine lv_istore (lv' := [(6, .int (0 : Int32)), (5, .int (1 : Int32)), (0, .ref (w.2.2.1 0)), (1, .int x1), (2, .int x2), (3, .int x3), (4, .int x4)]) hx hb dX8_gales_54 hl (by decide) rfl (fun ls hl => ?_)
        exact hJ56 _ _ _ _ _ _ _ ls hf hG (lv_sub hl [2, 3, 4, 5, 6, 1, 0] rfl)
  unfold f_X8_gales at hf
  refine lv_iload_n hx hb dX8_gales_0 rfl (lv_at hl 1 rfl) ?_
  refine lv_iconst (v := 1) hx hb dX8_gales_1 (by decide) ?_
  refine lv_icmp_lt (tgt := 10) hx hb dX8_gales_2 (by decide) (fun c6 => ?_) (fun c6 => ?_)
  · replace hf := if_t c6 hf
    exact hJ10  _ _ _ ls hf hG (lv_sub hl [] rfl)
  · replace hf := if_f c6 hf
    refine lv_iload_n hx hb dX8_gales_5 rfl (lv_at hl 1 rfl) ?_
    refine lv_iconst (v := 5) hx hb dX8_gales_6 (by decide) ?_
    refine lv_icmp_le (tgt := 21) hx hb dX8_gales_7 (by decide) (fun c7 => ?_) (fun c7 => ?_)
    · replace hf := if_t c7 hf
      refine lv_iload_n hx hb dX8_gales_21 rfl (lv_at hl 2 rfl) ?_
      refine lv_bipush (v := 10) hx hb dX8_gales_22 (by decide) ?_
      replace hf := bd_some hf
      obtain ⟨q8, eq8, hf⟩ := hf
      refine gx_xcallv hno hlk F hG (gx_xrunS (xn_ok (yc_ok w)) F hX hG (c_X8_requireFrom0 l w hst n x2 (10 : Int32) _ _ eq8) cs_X8_234 ⟨Nat.le_of_ble_eq_true rfl, Nat.le_of_ble_eq_true rfl⟩ rfl hl.1 rfl (Nat.le_of_ble_eq_true rfl) dX8_gales_24 ⟨by decide, by decide⟩) (by decide) (by decide) (fun hz => if_f hz hf) (fun hz H locs hG => ?_)
      replace hf := if_t hz hf
      refine W.widen (k := 1) (n := 6) (by decide) (by decide) ?_
      refine lv_iconst (v := 0) hx hb dX8_gales_27 (by decide) ?_
      refine lv_istore_n (lv' := [(3, .int (0 : Int32)), (0, .ref (w.2.2.1 0)), (1, .int x1), (2, .int x2)]) hx hb dX8_gales_28 rfl hl (by decide) rfl (fun ls hl => ?_)
      refine lv_iconst (v := 0) hx hb dX8_gales_29 (by decide) ?_
      refine lv_istore (lv' := [(4, .int (0 : Int32)), (3, .int (0 : Int32)), (0, .ref (w.2.2.1 0)), (1, .int x1), (2, .int x2)]) hx hb dX8_gales_30 hl (by decide) rfl (fun ls hl => ?_)
      exact hJ32 _ _ _ _ _ _ _ ls hf hG (lv_sub hl [2, 3, 4, 1, 0] rfl)
    · replace hf := if_f c7 hf
      exact hJ10  _ _ _ ls hf hG (lv_sub hl [] rfl)

def f_X8_beGenerous (n : Nat) (x1 : Int32) (x2 : Int32) (M : Mem) : Option (Mem) := if x2 = (1 : Int32) then (bd (f_X4_receive n 10 (5 : Int32) M) (fun q2 => bd (f_X4_addFaith n 10 x1 (-5 : Int32) q2) (fun q3 => some q3))) else (some M)
set_option maxHeartbeats 4000000 in
set_option maxRecDepth 100000 in
theorem c_X8_beGenerous (l : Launch) (w : Wd)  (n : Nat) (x1 : Int32) (x2 : Int32) (M : Mem) (res : Mem) (hf : f_X8_beGenerous n  x1 x2 M = some res) : CG l w layC 61 (XN (YC w)) yX8_beGenerous cX8_beGenerous 3 none 3 [.ref (w.2.2.1 0), .int x1, .int x2] M (GQv w layC 61 res) := by
  refine cg_start (by decide +kernel) (Nat.le_of_ble_eq_true rfl) ?_
  intro p e s m args below meth c F hr hlk hX hG ls hl
  have F : FX w p m c cX8_beGenerous 3 s args RX8 := F
  have hx := F.1.1
  have hb := F.1.2.1
  have hl : lv_has ls 3 [(0, .ref (w.2.2.1 0)), (1, .int x1), (2, .int x2)] := hl
  unfold f_X8_beGenerous at hf
  refine lv_iload_n hx hb dX8_beGenerous_0 rfl (lv_at hl 2 rfl) ?_
  refine lv_iconst (v := 1) hx hb dX8_beGenerous_1 (by decide) ?_
  refine lv_icmp_ne (tgt := 23) hx hb dX8_beGenerous_2 (by decide) (fun c1 => ?_) (fun c1 => ?_)
  · replace hf := if_f c1 hf
    exact cg_vret F hr hlk hG hf dX8_beGenerous_23
  · replace hf := if_t c1 hf
    refine lv_aload_n hx hb dX8_beGenerous_5 rfl (lv_at hl 0 rfl) ?_
    refine g_getR F hG 10 ct_0 (by decide) (by decide) lk_X8_20 rfl dX8_beGenerous_6 ?_
    refine lv_iconst (v := 5) hx hb dX8_beGenerous_9 (by decide) ?_
    replace hf := bd_some hf
    obtain ⟨q2, eq2, hf⟩ := hf
    refine gx_callv hG (gx_runV (xn_ok (yc_ok w)) F hX hG (c_X4_receive l w (yc_ok w) n 10 st_10 (5 : Int32) _ _ eq2) cv_X8_213 ⟨Nat.le_of_ble_eq_true rfl, Nat.le_of_ble_eq_true rfl⟩ (g_recv F hG st_10.1 (by decide) rfl) rfl hl.1 rfl (Nat.le_of_ble_eq_true rfl) dX8_beGenerous_10 ⟨Nat.le_refl _, Nat.le_refl _⟩) (fun H locs hG => ?_)
    refine lv_aload_n hx hb dX8_beGenerous_13 rfl (lv_at hl 0 rfl) ?_
    refine g_getR F hG 10 ct_0 (by decide) (by decide) lk_X8_20 rfl dX8_beGenerous_14 ?_
    refine lv_iload_n hx hb dX8_beGenerous_17 rfl (lv_at hl 1 rfl) ?_
    refine lv_bipush (v := -5) hx hb dX8_beGenerous_18 (by decide) ?_
    replace hf := bd_some hf
    obtain ⟨q3, eq3, hf⟩ := hf
    refine gx_callv hG (gx_runV (xn_ok (yc_ok w)) F hX hG (c_X4_addFaith l w (yc_ok w) n 10 st_10 x1 (-5 : Int32) _ _ eq3) cv_X8_216 ⟨Nat.le_of_ble_eq_true rfl, Nat.le_of_ble_eq_true rfl⟩ (g_recv F hG st_10.1 (by decide) rfl) rfl hl.1 rfl (Nat.le_of_ble_eq_true rfl) dX8_beGenerous_20 ⟨Nat.le_refl _, Nat.le_refl _⟩) (fun H locs hG => ?_)
    exact cg_vret F hr hlk hG hf dX8_beGenerous_23

def f_X8_playGame (n : Nat) (x1 : Int32) (x2 : Int32) (x3 : Int32) (M : Mem) : Option (Mem) := bd (f_X8_startTrial n   M) (fun q1 => bd (f_X8_beGenerous n  x1 (x3 >>> ((1 : Int32) &&& 31)) q1) (fun q2 => bd (f_X8_beGenerous n  x2 (x3 &&& (1 : Int32)) q2) (fun q3 => bd (f_X8_go n  (6 : Int32) q3) (fun q4 => ck (inb x1 8) (ck (inb x3 8) (ck (inb x2 8) (ck (inb ((4 : Int32) + x3) 8) (some (si (si q4.2 3 x3.toNatClampNeg (((gi q4.2 13 x1.toNatClampNeg) + ((2 : Int32) * (gi q4.2 10 6))) - ((4 : Int32) * (x3 >>> ((1 : Int32) &&& 31))))) 3 ((4 : Int32) + x3).toNatClampNeg (((gi (si q4.2 3 x3.toNatClampNeg (((gi q4.2 13 x1.toNatClampNeg) + ((2 : Int32) * (gi q4.2 10 6))) - ((4 : Int32) * (x3 >>> ((1 : Int32) &&& 31))))) 13 x2.toNatClampNeg) + ((2 : Int32) * (gi (si q4.2 3 x3.toNatClampNeg (((gi q4.2 13 x1.toNatClampNeg) + ((2 : Int32) * (gi q4.2 10 6))) - ((4 : Int32) * (x3 >>> ((1 : Int32) &&& 31))))) 10 6))) - ((4 : Int32) * (x3 &&& (1 : Int32)))))))))))))
set_option maxHeartbeats 4000000 in
set_option maxRecDepth 100000 in
theorem c_X8_playGame (l : Launch) (w : Wd)  (n : Nat) (x1 : Int32) (x2 : Int32) (x3 : Int32) (M : Mem) (res : Mem) (hf : f_X8_playGame n  x1 x2 x3 M = some res) : CG l w layC 61 (XN (YC w)) yX8_playGame cX8_playGame 6 none 6 [.ref (w.2.2.1 0), .int x1, .int x2, .int x3] M (GQv w layC 61 res) := by
  refine cg_start (by decide +kernel) (Nat.le_of_ble_eq_true rfl) ?_
  intro p e s m args below meth c F hr hlk hX hG ls hl
  have F : FX w p m c cX8_playGame 6 s args RX8 := F
  have hx := F.1.1
  have hb := F.1.2.1
  have hl : lv_has ls 6 [(0, .ref (w.2.2.1 0)), (1, .int x1), (2, .int x2), (3, .int x3)] := hl
  unfold f_X8_playGame at hf
  refine lv_iload_n hx hb dX8_playGame_0 rfl (lv_at hl 3 rfl) ?_
  refine lv_iconst (v := 1) hx hb dX8_playGame_1 (by decide) ?_
  refine lv_ishr hx hb dX8_playGame_2 ?_
  refine lv_istore (lv' := [(4, .int (x3 >>> ((1 : Int32) &&& 31))), (0, .ref (w.2.2.1 0)), (1, .int x1), (2, .int x2), (3, .int x3)]) hx hb dX8_playGame_3 hl (by decide) rfl (fun ls hl => ?_)
  refine lv_iload_n hx hb dX8_playGame_5 rfl (lv_at hl 4 rfl) ?_
  refine lv_iconst (v := 1) hx hb dX8_playGame_6 (by decide) ?_
  refine lv_iand hx hb dX8_playGame_7 ?_
  refine lv_istore (lv' := [(5, .int (x3 &&& (1 : Int32))), (4, .int (x3 >>> ((1 : Int32) &&& 31))), (0, .ref (w.2.2.1 0)), (1, .int x1), (2, .int x2), (3, .int x3)]) hx hb dX8_playGame_8 hl (by decide) rfl (fun ls hl => ?_)
  refine lv_aload_n hx hb dX8_playGame_10 rfl (lv_at hl 2 rfl) ?_
  replace hf := bd_some hf
  obtain ⟨q1, eq1, hf⟩ := hf
  refine gx_callv hG (gx_runV (xn_ok (yc_ok w)) F hX hG (c_X8_startTrial l w  n   _ _ eq1) cv_X8_237 ⟨Nat.le_of_ble_eq_true rfl, Nat.le_of_ble_eq_true rfl⟩ (g_recv F hG ct_0 (by decide) rfl) rfl hl.1 rfl (Nat.le_of_ble_eq_true rfl) dX8_playGame_11 ⟨Nat.le_refl _, Nat.le_refl _⟩) (fun H locs hG => ?_)
  refine lv_aload_n hx hb dX8_playGame_14 rfl (lv_at hl 2 rfl) ?_
  refine lv_iload_n hx hb dX8_playGame_15 rfl (lv_at hl 3 rfl) ?_
  refine lv_iload hx hb dX8_playGame_16 (lv_at hl 1 rfl) ?_
  replace hf := bd_some hf
  obtain ⟨q2, eq2, hf⟩ := hf
  refine gx_callv hG (gx_runV (xn_ok (yc_ok w)) F hX hG (c_X8_beGenerous l w  n  x1 (x3 >>> ((1 : Int32) &&& 31)) _ _ eq2) cv_X8_337 ⟨Nat.le_of_ble_eq_true rfl, Nat.le_of_ble_eq_true rfl⟩ (g_recv F hG ct_0 (by decide) rfl) rfl hl.1 rfl (Nat.le_of_ble_eq_true rfl) dX8_playGame_18 ⟨Nat.le_refl _, Nat.le_refl _⟩) (fun H locs hG => ?_)
  refine lv_aload_n hx hb dX8_playGame_21 rfl (lv_at hl 2 rfl) ?_
  refine lv_iload_n hx hb dX8_playGame_22 rfl (lv_at hl 4 rfl) ?_
  refine lv_iload hx hb dX8_playGame_23 (lv_at hl 0 rfl) ?_
  replace hf := bd_some hf
  obtain ⟨q3, eq3, hf⟩ := hf
  refine gx_callv hG (gx_runV (xn_ok (yc_ok w)) F hX hG (c_X8_beGenerous l w  n  x2 (x3 &&& (1 : Int32)) _ _ eq3) cv_X8_337 ⟨Nat.le_of_ble_eq_true rfl, Nat.le_of_ble_eq_true rfl⟩ (g_recv F hG ct_0 (by decide) rfl) rfl hl.1 rfl (Nat.le_of_ble_eq_true rfl) dX8_playGame_25 ⟨Nat.le_refl _, Nat.le_refl _⟩) (fun H locs hG => ?_)
  refine lv_aload_n hx hb dX8_playGame_28 rfl (lv_at hl 2 rfl) ?_
  refine lv_bipush (v := 6) hx hb dX8_playGame_29 (by decide) ?_
  replace hf := bd_some hf
  obtain ⟨q4, eq4, hf⟩ := hf
  refine gx_calli hG (gx_runV (xn_ok (yc_ok w)) F hX hG (c_X8_go l w  n  (6 : Int32) _ _ eq4) cv_X8_240 ⟨Nat.le_of_ble_eq_true rfl, Nat.le_of_ble_eq_true rfl⟩ (g_recv F hG ct_0 (by decide) rfl) rfl hl.1 rfl (Nat.le_of_ble_eq_true rfl) dX8_playGame_31 ⟨Nat.le_refl _, Nat.le_refl _⟩) (fun H locs hG => ?_)
  refine lv_pop hx hb dX8_playGame_34 rfl ?_
  refine lv_aload_n hx hb dX8_playGame_35 rfl (lv_at hl 2 rfl) ?_
  refine g_getR F hG 3 ct_0 (by decide) (by decide) lk_X8_53 rfl dX8_playGame_36 ?_
  refine lv_iload_n hx hb dX8_playGame_39 rfl (lv_at hl 5 rfl) ?_
  refine lv_aload_n hx hb dX8_playGame_40 rfl (lv_at hl 2 rfl) ?_
  refine g_getR F hG 10 ct_0 (by decide) (by decide) lk_X8_20 rfl dX8_playGame_41 ?_
  refine g_getR F hG 13 st_10.1 (by decide) (by decide) lk_X8_186 rfl dX8_playGame_44 ?_
  refine lv_iload_n hx hb dX8_playGame_47 rfl (lv_at hl 3 rfl) ?_
  replace hf := ck_some hf
  obtain ⟨k5, hf⟩ := hf
  refine g_iald F hG st_10.2.2.2.1 k5 dX8_playGame_48 ?_
  refine lv_iconst (v := 2) hx hb dX8_playGame_49 (by decide) ?_
  refine lv_aload_n hx hb dX8_playGame_50 rfl (lv_at hl 2 rfl) ?_
  refine g_getR F hG 10 ct_0 (by decide) (by decide) lk_X8_20 rfl dX8_playGame_51 ?_
  refine g_getI F hG st_10.1 (by decide) (by decide) lk_X8_114 rfl dX8_playGame_54 ?_
  refine lv_imul hx hb dX8_playGame_57 ?_
  refine lv_iadd hx hb dX8_playGame_58 ?_
  refine lv_iconst (v := 4) hx hb dX8_playGame_59 (by decide) ?_
  refine lv_iload hx hb dX8_playGame_60 (lv_at hl 1 rfl) ?_
  refine lv_imul hx hb dX8_playGame_62 ?_
  refine lv_isub hx hb dX8_playGame_63 ?_
  replace hf := ck_some hf
  obtain ⟨k6, hf⟩ := hf
  refine g_iast F hG oC_3 k6 dX8_playGame_64 (fun H locs hG => ?_)
  refine lv_aload_n hx hb dX8_playGame_65 rfl (lv_at hl 2 rfl) ?_
  refine g_getR F hG 3 ct_0 (by decide) (by decide) lk_X8_53 rfl dX8_playGame_66 ?_
  refine lv_iconst (v := 4) hx hb dX8_playGame_69 (by decide) ?_
  refine lv_iload_n hx hb dX8_playGame_70 rfl (lv_at hl 5 rfl) ?_
  refine lv_iadd hx hb dX8_playGame_71 ?_
  refine lv_aload_n hx hb dX8_playGame_72 rfl (lv_at hl 2 rfl) ?_
  refine g_getR F hG 10 ct_0 (by decide) (by decide) lk_X8_20 rfl dX8_playGame_73 ?_
  refine g_getR F hG 13 st_10.1 (by decide) (by decide) lk_X8_186 rfl dX8_playGame_76 ?_
  refine lv_iload_n hx hb dX8_playGame_79 rfl (lv_at hl 4 rfl) ?_
  replace hf := ck_some hf
  obtain ⟨k7, hf⟩ := hf
  refine g_iald F hG st_10.2.2.2.1 k7 dX8_playGame_80 ?_
  refine lv_iconst (v := 2) hx hb dX8_playGame_81 (by decide) ?_
  refine lv_aload_n hx hb dX8_playGame_82 rfl (lv_at hl 2 rfl) ?_
  refine g_getR F hG 10 ct_0 (by decide) (by decide) lk_X8_20 rfl dX8_playGame_83 ?_
  refine g_getI F hG st_10.1 (by decide) (by decide) lk_X8_114 rfl dX8_playGame_86 ?_
  refine lv_imul hx hb dX8_playGame_89 ?_
  refine lv_iadd hx hb dX8_playGame_90 ?_
  refine lv_iconst (v := 4) hx hb dX8_playGame_91 (by decide) ?_
  refine lv_iload hx hb dX8_playGame_92 (lv_at hl 0 rfl) ?_
  refine lv_imul hx hb dX8_playGame_94 ?_
  refine lv_isub hx hb dX8_playGame_95 ?_
  replace hf := ck_some hf
  obtain ⟨k8, hf⟩ := hf
  refine g_iast F hG oC_3 k8 dX8_playGame_96 (fun H locs hG => ?_)
  exact cg_vret F hr hlk hG hf dX8_playGame_97

def f_X8_rests (n : Nat) (x1 : Int32) (M : Mem) : Option (Int32 × Mem) := ck (inb (x1 ^^^ (2 : Int32)) 8) (ck (inb x1 8) (if (gi M 3 x1.toNatClampNeg) < (gi M 3 (x1 ^^^ (2 : Int32)).toNatClampNeg) then (some ((0 : Int32), M)) else (ck (inb ((4 : Int32) + (x1 ^^^ (1 : Int32))) 8) (ck (inb ((4 : Int32) + x1) 8) (if (gi M 3 ((4 : Int32) + x1).toNatClampNeg) < (gi M 3 ((4 : Int32) + (x1 ^^^ (1 : Int32))).toNatClampNeg) then (some ((0 : Int32), M)) else (some ((1 : Int32), M)))))))
set_option maxHeartbeats 4000000 in
set_option maxRecDepth 100000 in
theorem c_X8_rests (l : Launch) (w : Wd)  (n : Nat) (x1 : Int32) (M : Mem) (res : Int32 × Mem) (hf : f_X8_rests n  x1 M = some res) : CG l w layC 61 (XN (YC w)) yX8_rests cX8_rests 2 (some .boolean) 0 [.ref (w.2.2.1 0), .int x1] M (GQi w layC 61 res) := by
  refine cg_start (by decide +kernel) (Nat.le_of_ble_eq_true rfl) ?_
  intro p e s m args below meth c F hr hlk hX hG ls hl
  have F : FX w p m c cX8_rests 2 s args RX8 := F
  have hx := F.1.1
  have hb := F.1.2.1
  have hl : lv_has ls 2 [(0, .ref (w.2.2.1 0)), (1, .int x1)] := hl
  unfold f_X8_rests at hf
  refine lv_aload_n hx hb dX8_rests_0 rfl (lv_at hl 0 rfl) ?_
  refine g_getR F hG 3 ct_0 (by decide) (by decide) lk_X8_53 rfl dX8_rests_1 ?_
  refine lv_iload_n hx hb dX8_rests_4 rfl (lv_at hl 1 rfl) ?_
  refine lv_iconst (v := 2) hx hb dX8_rests_5 (by decide) ?_
  refine lv_ixor hx hb dX8_rests_6 ?_
  replace hf := ck_some hf
  obtain ⟨k1, hf⟩ := hf
  refine g_iald F hG oC_3 k1 dX8_rests_7 ?_
  refine lv_aload_n hx hb dX8_rests_8 rfl (lv_at hl 0 rfl) ?_
  refine g_getR F hG 3 ct_0 (by decide) (by decide) lk_X8_53 rfl dX8_rests_9 ?_
  refine lv_iload_n hx hb dX8_rests_12 rfl (lv_at hl 1 rfl) ?_
  replace hf := ck_some hf
  obtain ⟨k2, hf⟩ := hf
  refine g_iald F hG oC_3 k2 dX8_rests_13 ?_
  refine lv_icmp_gt (tgt := 42) hx hb dX8_rests_14 (by decide) (fun c3 => ?_) (fun c3 => ?_)
  · replace hf := if_t c3 hf
    refine lv_iconst (v := 0) hx hb dX8_rests_42 (by decide) ?_
    exact cg_zret F hr hlk hG hf (Or.inl rfl) dX8_rests_43
  · replace hf := if_f c3 hf
    refine lv_aload_n hx hb dX8_rests_17 rfl (lv_at hl 0 rfl) ?_
    refine g_getR F hG 3 ct_0 (by decide) (by decide) lk_X8_53 rfl dX8_rests_18 ?_
    refine lv_iconst (v := 4) hx hb dX8_rests_21 (by decide) ?_
    refine lv_iload_n hx hb dX8_rests_22 rfl (lv_at hl 1 rfl) ?_
    refine lv_iconst (v := 1) hx hb dX8_rests_23 (by decide) ?_
    refine lv_ixor hx hb dX8_rests_24 ?_
    refine lv_iadd hx hb dX8_rests_25 ?_
    replace hf := ck_some hf
    obtain ⟨k4, hf⟩ := hf
    refine g_iald F hG oC_3 k4 dX8_rests_26 ?_
    refine lv_aload_n hx hb dX8_rests_27 rfl (lv_at hl 0 rfl) ?_
    refine g_getR F hG 3 ct_0 (by decide) (by decide) lk_X8_53 rfl dX8_rests_28 ?_
    refine lv_iconst (v := 4) hx hb dX8_rests_31 (by decide) ?_
    refine lv_iload_n hx hb dX8_rests_32 rfl (lv_at hl 1 rfl) ?_
    refine lv_iadd hx hb dX8_rests_33 ?_
    replace hf := ck_some hf
    obtain ⟨k5, hf⟩ := hf
    refine g_iald F hG oC_3 k5 dX8_rests_34 ?_
    refine lv_icmp_gt (tgt := 42) hx hb dX8_rests_35 (by decide) (fun c6 => ?_) (fun c6 => ?_)
    · replace hf := if_t c6 hf
      refine lv_iconst (v := 0) hx hb dX8_rests_42 (by decide) ?_
      exact cg_zret F hr hlk hG hf (Or.inl rfl) dX8_rests_43
    · replace hf := if_f c6 hf
      refine lv_iconst (v := 1) hx hb dX8_rests_38 (by decide) ?_
      refine lv_goto (tgt := 43) hx hb dX8_rests_39 (by decide) ?_
      exact cg_zret F hr hlk hG hf (Or.inr rfl) dX8_rests_43

def j_X8_game_111 (n : Nat) (x3 : Int32) (x4 : Int32) (x5 : Int32) (M : Mem) : Option (Rx) := if x3 = 0 then (some ((0 : Nat), x4, M)) else (some ((0 : Nat), x5, M))
def j_X8_game_105 (n : Nat) (x3 : Int32) (x4 : Int32) (x5 : Int32) (x6 : Int32) (M : Mem) : Option ((Int32 × Int32 × Int32 × Mem) ⊕ (Rx)) := some (.inl (x4, x5, (x6 + (1 : Int32)), M))
def j_X8_game_100 (n : Nat) (t0 : Int32) (x3 : Int32) (x4 : Int32) (x6 : Int32) (M : Mem) : Option ((Int32 × Int32 × Int32 × Mem) ⊕ (Rx)) := j_X8_game_105 n  x3 (x4 + (1 : Int32)) t0 x6 M
def b_X8_game_63 (n : Nat) (x3 : Int32) (q : (Int32 × Int32 × Int32 × Mem)) : Option ((Int32 × Int32 × Int32 × Mem) ⊕ (Rx)) := match q with
  | (x4, x5, x6, M) => if (4 : Int32) ≤ x6 then (mr (j_X8_game_111 n  x3 x4 x5 M)) else (bd (f_X8_rests n  x6 M) (fun q3 => if q3.1 = 0 then (j_X8_game_105 n  x3 x4 x5 x6 q3.2) else (if x4 = 0 then (j_X8_game_100 n  (((10 : Int32) * (x6 >>> ((1 : Int32) &&& 31))) + (x6 &&& (1 : Int32))) x3 x4 x6 q3.2) else (j_X8_game_100 n  x5 x3 x4 x6 q3.2))))
def j_X8_game_54 (n : Nat) (x3 : Int32) (M : Mem) : Option (Rx) := gl (b_X8_game_63 n  x3) n ((0 : Int32), (-1 : Int32), (0 : Int32), M)
def b_X8_game_34 (n : Nat) (x1 : Int32) (x2 : Int32) (x3 : Int32) (q : (Int32 × Mem)) : Option ((Int32 × Mem) ⊕ (Rx)) := match q with
  | (x4, M) => if (4 : Int32) ≤ x4 then (mr (j_X8_game_54 n  x3 M)) else (bd (f_X8_playGame n  x1 x2 x4 M) (fun q7 => some (.inl ((x4 + (1 : Int32)), q7))))
def f_X8_game (n : Nat) (x1 : Int32) (x2 : Int32) (x3 : Int32) (M : Mem) : Option (Rx) := bd (f_X8_requireWard n x1 M) (fun q8 => if q8.1 = 0 then (bd (f_X8_requireWard n x2 q8.2.2) (fun q9 => if q9.1 = 0 then (bd (f_X8_requireWhat n x3 (1 : Int32) q9.2.2) (fun q10 => if q10.1 = 0 then (if x1 = x2 then (some ((2 : Nat), (0 : Int32), q10.2.2)) else (gl (b_X8_game_34 n  x1 x2 x3) n ((0 : Int32), q10.2.2))) else (some (q10.1, (0 : Int32), q10.2.2)))) else (some (q9.1, (0 : Int32), q9.2.2)))) else (some (q8.1, (0 : Int32), q8.2.2)))
set_option maxHeartbeats 4000000 in
set_option maxRecDepth 100000 in
theorem c_X8_game (l : Launch) (w : Wd) (hst : l.stackTraces = false) (n : Nat) (x1 : Int32) (x2 : Int32) (x3 : Int32) (M : Mem) (res : Rx) (hf : f_X8_game n  x1 x2 x3 M = some res) : CX l w layC 61 (XN (YC w)) yX8_game cX8_game 7 (some .int) 7 4 [.ref (w.2.2.1 0), .int x1, .int x2, .int x3] M (GXi w layC 61 res) (GXx w layC 61 res) := by
  refine cx_start (by decide +kernel) (Nat.le_of_ble_eq_true rfl) ?_
  intro p e s m args below meth c F hr hlk hno hX hG ls hl
  have F : FX w p m c cX8_game 7 s args RX8 := F
  have hx := F.1.1
  have hb := F.1.2.1
  have hl : lv_has ls 7 [(0, .ref (w.2.2.1 0)), (1, .int x1), (2, .int x2), (3, .int x3)] := hl
  have hJ111 : ∀ (x3 : Int32) (x4 : Int32) (x5 : Int32) (M : Mem) (H : Heap) (locs : List Loc) (ls : Array Slot), j_X8_game_111 n  x3 x4 x5 M = some res → GI w layC 61 s.heap M H locs → lv_has ls 7 [(3, .int x3), (4, .int x4), (5, .int x5)] → W p l e (RmX 7 4) s m args below meth c H locs 3 18 (vx_MQ below (GXi w layC 61 res s.heap.size) (GXx w layC 61 res s.heap.size) args s 4 (6 * 4) (gA w.2.2.1 61 s.heap.size)) (F0 m 111 ls []) := by
    intro x3 x4 x5 M H locs ls hf hG hl
    unfold j_X8_game_111 at hf
    refine lv_iload_n hx hb dX8_game_111 rfl (lv_at hl 0 rfl) ?_
    refine lv_if_ne (tgt := 120) hx hb dX8_game_112 (by decide) (fun c1 => ?_) (fun c1 => ?_)
    · replace hf := if_f c1 hf
      refine lv_iload hx hb dX8_game_120 (lv_at hl 2 rfl) ?_
      exact cx_iret F hr hlk hG hf (by decide) (by decide) dX8_game_122
    · replace hf := if_t c1 hf
      refine lv_iload hx hb dX8_game_115 (lv_at hl 1 rfl) ?_
      refine lv_goto (tgt := 122) hx hb dX8_game_117 (by decide) ?_
      exact cx_iret F hr hlk hG hf (by decide) (by decide) dX8_game_122
  have hJ63 : ∀ (x3 : Int32) (x4 : Int32) (x5 : Int32) (x6 : Int32) (M : Mem) (H : Heap) (locs : List Loc) (ls : Array Slot), gl (b_X8_game_63 n  x3) n (x4, x5, x6, M) = some res → GI w layC 61 s.heap M H locs → lv_has ls 7 [(0, .ref (w.2.2.1 0)), (3, .int x3), (4, .int x4), (5, .int x5), (6, .int x6)] → W p l e (RmX 7 4) s m args below meth c H locs 3 18 (vx_MQ below (GXi w layC 61 res s.heap.size) (GXx w layC 61 res s.heap.size) args s 4 (6 * 4) (gA w.2.2.1 61 s.heap.size)) (F0 m 63 ls []) := by
    intro x3 x4 x5 x6 M H locs ls hf hG hl
    refine gl_run (P := fun (q : (Int32 × Int32 × Int32 × Mem)) => ∀ (H : Heap) (locs : List Loc) (ls : Array Slot), GI w layC 61 s.heap q.2.2.2 H locs → lv_has ls 7 [(0, .ref (w.2.2.1 0)), (3, .int x3), (4, .int q.1), (5, .int q.2.1), (6, .int q.2.2.1)] → W p l e (RmX 7 4) s m args below meth c H locs 3 18 (vx_MQ below (GXi w layC 61 res s.heap.size) (GXx w layC 61 res s.heap.size) args s 4 (6 * 4) (gA w.2.2.1 61 s.heap.size)) (F0 m 63 ls [])) ?_ n (x4, x5, x6, M) hf H locs ls hG hl
    clear hf hG hl ls locs H M x4 x5 x6
    rintro ⟨x4, x5, x6, M⟩ rr63 hf hI63 hE63 H locs ls hG hl
    try dsimp only at hG hl ⊢
    have hJ105 : ∀ (x4 : Int32) (x5 : Int32) (x6 : Int32) (M : Mem) (H : Heap) (locs : List Loc) (ls : Array Slot), j_X8_game_105 n  x3 x4 x5 x6 M = some rr63 → GI w layC 61 s.heap M H locs → lv_has ls 7 [(0, .ref (w.2.2.1 0)), (3, .int x3), (4, .int x4), (5, .int x5), (6, .int x6)] → W p l e (RmX 7 4) s m args below meth c H locs 3 18 (vx_MQ below (GXi w layC 61 res s.heap.size) (GXx w layC 61 res s.heap.size) args s 4 (6 * 4) (gA w.2.2.1 61 s.heap.size)) (F0 m 105 ls []) := by
      intro x4 x5 x6 M H locs ls hf hG hl
      unfold j_X8_game_105 at hf
      refine lv_iinc (v := (x6 + (1 : Int32))) (lv' := [(6, .int (x6 + (1 : Int32))), (0, .ref (w.2.2.1 0)), (3, .int x3), (4, .int x4), (5, .int x5)]) hx hb dX8_game_105 hl (k := 4) rfl rfl (by decide) rfl (fun ls hl => ?_)
      refine lv_goto (tgt := 63) hx hb dX8_game_108 (by decide) ?_
      exact hI63 _ (Option.some.inj hf).symm _ _ ls hG (lv_sub hl [1, 2, 3, 4, 0] rfl)
    have hJ100 : ∀ (t0 : Int32) (x4 : Int32) (x6 : Int32) (M : Mem) (H : Heap) (locs : List Loc) (ls : Array Slot), j_X8_game_100 n  t0 x3 x4 x6 M = some rr63 → GI w layC 61 s.heap M H locs → lv_has ls 7 [(0, .ref (w.2.2.1 0)), (3, .int x3), (4, .int x4), (6, .int x6)] → W p l e (RmX 7 4) s m args below meth c H locs 3 18 (vx_MQ below (GXi w layC 61 res s.heap.size) (GXx w layC 61 res s.heap.size) args s 4 (6 * 4) (gA w.2.2.1 61 s.heap.size)) (F0 m 100 ls [.int t0]) := by
      intro t0 x4 x6 M H locs ls hf hG hl
      unfold j_X8_game_100 at hf
      refine lv_istore (lv' := [(5, .int t0), (0, .ref (w.2.2.1 0)), (3, .int x3), (4, .int x4), (6, .int x6)]) hx hb dX8_game_100 hl (by decide) rfl (fun ls hl => ?_)
      refine lv_iinc (v := (x4 + (1 : Int32))) (lv' := [(4, .int (x4 + (1 : Int32))), (5, .int t0), (0, .ref (w.2.2.1 0)), (3, .int x3), (6, .int x6)]) hx hb dX8_game_102 hl (k := 3) rfl rfl (by decide) rfl (fun ls hl => ?_)
      exact hJ105 _ _ _ _ _ _ ls hf hG (lv_sub hl [2, 3, 0, 1, 4] rfl)
    dsimp only [b_X8_game_63] at hf
    refine lv_iload hx hb dX8_game_63 (lv_at hl 4 rfl) ?_
    refine lv_iconst (v := 4) hx hb dX8_game_65 (by decide) ?_
    refine lv_icmp_ge (tgt := 111) hx hb dX8_game_66 (by decide) (fun c2 => ?_) (fun c2 => ?_)
    · replace hf := if_t c2 hf
      replace hf := mr_some hf
      obtain ⟨z63, hf, hz⟩ := hf
      rw [hE63 _ hz] at hf
      exact hJ111 _ _ _ _ _ _ ls hf hG (lv_sub hl [1, 2, 3] rfl)
    · replace hf := if_f c2 hf
      refine lv_aload_n hx hb dX8_game_69 rfl (lv_at hl 0 rfl) ?_
      refine lv_iload hx hb dX8_game_70 (lv_at hl 4 rfl) ?_
      replace hf := bd_some hf
      obtain ⟨q3, eq3, hf⟩ := hf
      refine gx_calli hG (gx_runV (xn_ok (yc_ok w)) F hX hG (c_X8_rests l w  n  x6 _ _ eq3) cv_X8_333 ⟨Nat.le_of_ble_eq_true rfl, Nat.le_of_ble_eq_true rfl⟩ (g_recv F hG ct_0 (by decide) rfl) rfl hl.1 rfl (Nat.le_of_ble_eq_true rfl) dX8_game_72 ⟨by decide, by decide⟩) (fun H locs hG => ?_)
      refine lv_if_eq (tgt := 105) hx hb dX8_game_75 (by decide) (fun c4 => ?_) (fun c4 => ?_)
      · replace hf := if_t c4 hf
        exact hJ105 _ _ _ _ _ _ ls hf hG (lv_sub hl [0, 1, 2, 3, 4] rfl)
      · replace hf := if_f c4 hf
        refine lv_iload hx hb dX8_game_78 (lv_at hl 2 rfl) ?_
        refine lv_if_ne (tgt := 98) hx hb dX8_game_80 (by decide) (fun c5 => ?_) (fun c5 => ?_)
        · replace hf := if_f c5 hf
          refine lv_iload hx hb dX8_game_98 (lv_at hl 3 rfl) ?_
          exact hJ100 _ _ _ _ _ _ ls hf hG (lv_sub hl [0, 1, 2, 4] rfl)
        · replace hf := if_t c5 hf
          refine lv_bipush (v := 10) hx hb dX8_game_83 (by decide) ?_
          refine lv_iload hx hb dX8_game_85 (lv_at hl 4 rfl) ?_
          refine lv_iconst (v := 1) hx hb dX8_game_87 (by decide) ?_
          refine lv_ishr hx hb dX8_game_88 ?_
          refine lv_imul hx hb dX8_game_89 ?_
          refine lv_iload hx hb dX8_game_90 (lv_at hl 4 rfl) ?_
          refine lv_iconst (v := 1) hx hb dX8_game_92 (by decide) ?_
          refine lv_iand hx hb dX8_game_93 ?_
          refine lv_iadd hx hb dX8_game_94 ?_
          refine lv_goto (tgt := 100) hx hb dX8_game_95 (by decide) ?_
          exact hJ100 _ _ _ _ _ _ ls hf hG (lv_sub hl [0, 1, 2, 4] rfl)
  have hJ54 : ∀ (x3 : Int32) (M : Mem) (H : Heap) (locs : List Loc) (ls : Array Slot), j_X8_game_54 n  x3 M = some res → GI w layC 61 s.heap M H locs → lv_has ls 7 [(0, .ref (w.2.2.1 0)), (3, .int x3)] → W p l e (RmX 7 4) s m args below meth c H locs 3 18 (vx_MQ below (GXi w layC 61 res s.heap.size) (GXx w layC 61 res s.heap.size) args s 4 (6 * 4) (gA w.2.2.1 61 s.heap.size)) (F0 m 54 ls []) := by
    intro x3 M H locs ls hf hG hl
    unfold j_X8_game_54 at hf
    refine lv_iconst (v := 0) hx hb dX8_game_54 (by decide) ?_
    refine lv_istore (lv' := [(4, .int (0 : Int32)), (0, .ref (w.2.2.1 0)), (3, .int x3)]) hx hb dX8_game_55 hl (by decide) rfl (fun ls hl => ?_)
    refine lv_iconst (v := -1) hx hb dX8_game_57 (by decide) ?_
    refine lv_istore (lv' := [(5, .int (-1 : Int32)), (4, .int (0 : Int32)), (0, .ref (w.2.2.1 0)), (3, .int x3)]) hx hb dX8_game_58 hl (by decide) rfl (fun ls hl => ?_)
    refine lv_iconst (v := 0) hx hb dX8_game_60 (by decide) ?_
    refine lv_istore (lv' := [(6, .int (0 : Int32)), (5, .int (-1 : Int32)), (4, .int (0 : Int32)), (0, .ref (w.2.2.1 0)), (3, .int x3)]) hx hb dX8_game_61 hl (by decide) rfl (fun ls hl => ?_)
    exact hJ63 _ _ _ _ _ _ _ ls hf hG (lv_sub hl [3, 4, 2, 1, 0] rfl)
  have hJ34 : ∀ (x1 : Int32) (x2 : Int32) (x3 : Int32) (x4 : Int32) (M : Mem) (H : Heap) (locs : List Loc) (ls : Array Slot), gl (b_X8_game_34 n  x1 x2 x3) n (x4, M) = some res → GI w layC 61 s.heap M H locs → lv_has ls 7 [(0, .ref (w.2.2.1 0)), (1, .int x1), (2, .int x2), (3, .int x3), (4, .int x4)] → W p l e (RmX 7 4) s m args below meth c H locs 3 18 (vx_MQ below (GXi w layC 61 res s.heap.size) (GXx w layC 61 res s.heap.size) args s 4 (6 * 4) (gA w.2.2.1 61 s.heap.size)) (F0 m 34 ls []) := by
    intro x1 x2 x3 x4 M H locs ls hf hG hl
    refine gl_run (P := fun (q : (Int32 × Mem)) => ∀ (H : Heap) (locs : List Loc) (ls : Array Slot), GI w layC 61 s.heap q.2 H locs → lv_has ls 7 [(0, .ref (w.2.2.1 0)), (1, .int x1), (2, .int x2), (3, .int x3), (4, .int q.1)] → W p l e (RmX 7 4) s m args below meth c H locs 3 18 (vx_MQ below (GXi w layC 61 res s.heap.size) (GXx w layC 61 res s.heap.size) args s 4 (6 * 4) (gA w.2.2.1 61 s.heap.size)) (F0 m 34 ls [])) ?_ n (x4, M) hf H locs ls hG hl
    clear hf hG hl ls locs H M x4
    rintro ⟨x4, M⟩ rr34 hf hI34 hE34 H locs ls hG hl
    try dsimp only at hG hl ⊢
    dsimp only [b_X8_game_34] at hf
    refine lv_iload hx hb dX8_game_34 (lv_at hl 4 rfl) ?_
    refine lv_iconst (v := 4) hx hb dX8_game_36 (by decide) ?_
    refine lv_icmp_ge (tgt := 54) hx hb dX8_game_37 (by decide) (fun c6 => ?_) (fun c6 => ?_)
    · replace hf := if_t c6 hf
      replace hf := mr_some hf
      obtain ⟨z34, hf, hz⟩ := hf
      rw [hE34 _ hz] at hf
      exact hJ54 _ _ _ _ ls hf hG (lv_sub hl [0, 3] rfl)
    · replace hf := if_f c6 hf
      refine lv_aload_n hx hb dX8_game_40 rfl (lv_at hl 0 rfl) ?_
      refine lv_iload_n hx hb dX8_game_41 rfl (lv_at hl 1 rfl) ?_
      refine lv_iload_n hx hb dX8_game_42 rfl (lv_at hl 2 rfl) ?_
      refine lv_iload hx hb dX8_game_43 (lv_at hl 4 rfl) ?_
      replace hf := bd_some hf
      obtain ⟨q7, eq7, hf⟩ := hf
      refine gx_callv hG (gx_runV (xn_ok (yc_ok w)) F hX hG (c_X8_playGame l w  n  x1 x2 x4 _ _ eq7) cv_X8_329 ⟨Nat.le_of_ble_eq_true rfl, Nat.le_of_ble_eq_true rfl⟩ (g_recv F hG ct_0 (by decide) rfl) rfl hl.1 rfl (Nat.le_of_ble_eq_true rfl) dX8_game_45 ⟨by decide, by decide⟩) (fun H locs hG => ?_)
      refine lv_iinc (v := (x4 + (1 : Int32))) (lv' := [(4, .int (x4 + (1 : Int32))), (0, .ref (w.2.2.1 0)), (1, .int x1), (2, .int x2), (3, .int x3)]) hx hb dX8_game_48 hl (k := 4) rfl rfl (by decide) rfl (fun ls hl => ?_)
      refine lv_goto (tgt := 34) hx hb dX8_game_51 (by decide) ?_
      exact hI34 _ (Option.some.inj hf).symm _ _ ls hG (lv_sub hl [1, 2, 3, 4, 0] rfl)
  unfold f_X8_game at hf
  refine lv_aload_n hx hb dX8_game_0 rfl (lv_at hl 0 rfl) ?_
  refine lv_iload_n hx hb dX8_game_1 rfl (lv_at hl 1 rfl) ?_
  replace hf := bd_some hf
  obtain ⟨q8, eq8, hf⟩ := hf
  refine gx_xcallv hno hlk F hG (gx_xrunV (xn_ok (yc_ok w)) F hX hG (c_X8_requireWard l w hst n x1 _ _ eq8) cv_X8_183 ⟨Nat.le_of_ble_eq_true rfl, Nat.le_of_ble_eq_true rfl⟩ (g_recv F hG ct_0 (by decide) rfl) rfl hl.1 rfl (Nat.le_of_ble_eq_true rfl) dX8_game_2 ⟨by decide, by decide⟩) (by decide) (by decide) (fun hz => if_f hz hf) (fun hz H locs hG => ?_)
  replace hf := if_t hz hf
  refine W.widen (k := 1) (n := 6) (by decide) (by decide) ?_
  refine lv_aload_n hx hb dX8_game_5 rfl (lv_at hl 0 rfl) ?_
  refine lv_iload_n hx hb dX8_game_6 rfl (lv_at hl 2 rfl) ?_
  replace hf := bd_some hf
  obtain ⟨q9, eq9, hf⟩ := hf
  refine gx_xcallv hno hlk F hG (gx_xrunV (xn_ok (yc_ok w)) F hX hG (c_X8_requireWard l w hst n x2 _ _ eq9) cv_X8_183 ⟨Nat.le_of_ble_eq_true rfl, Nat.le_of_ble_eq_true rfl⟩ (g_recv F hG ct_0 (by decide) rfl) rfl hl.1 rfl (Nat.le_of_ble_eq_true rfl) dX8_game_7 ⟨by decide, by decide⟩) (by decide) (by decide) (fun hz => if_f hz hf) (fun hz H locs hG => ?_)
  replace hf := if_t hz hf
  refine W.widen (k := 2) (n := 12) (by decide) (by decide) ?_
  refine lv_iload_n hx hb dX8_game_10 rfl (lv_at hl 3 rfl) ?_
  refine lv_iconst (v := 1) hx hb dX8_game_11 (by decide) ?_
  replace hf := bd_some hf
  obtain ⟨q10, eq10, hf⟩ := hf
  refine gx_xcallv hno hlk F hG (gx_xrunS (xn_ok (yc_ok w)) F hX hG (c_X8_requireWhat l w hst n x3 (1 : Int32) _ _ eq10) cs_X8_231 ⟨Nat.le_of_ble_eq_true rfl, Nat.le_of_ble_eq_true rfl⟩ rfl hl.1 rfl (Nat.le_of_ble_eq_true rfl) dX8_game_12 ⟨by decide, by decide⟩) (by decide) (by decide) (fun hz => if_f hz hf) (fun hz H locs hG => ?_)
  replace hf := if_t hz hf
  refine W.widen (k := 3) (n := 18) (by decide) (by decide) ?_
  refine lv_iload_n hx hb dX8_game_15 rfl (lv_at hl 1 rfl) ?_
  refine lv_iload_n hx hb dX8_game_16 rfl (lv_at hl 2 rfl) ?_
  refine lv_icmp_ne (tgt := 31) hx hb dX8_game_17 (by decide) (fun c11 => ?_) (fun c11 => ?_)
  · replace hf := if_f c11 hf
    refine lv_iconst (v := 0) hx hb dX8_game_31 (by decide) ?_
    refine lv_istore (lv' := [(4, .int (0 : Int32)), (0, .ref (w.2.2.1 0)), (1, .int x1), (2, .int x2), (3, .int x3)]) hx hb dX8_game_32 hl (by decide) rfl (fun ls hl => ?_)
    exact hJ34 _ _ _ _ _ _ _ ls hf hG (lv_sub hl [1, 2, 3, 4, 0] rfl)
  · replace hf := if_t c11 hf
    exact gx_throwSW (k := 2) hst F hG hX.2.2.1 hno hlk ts_X8_85_89 rfl (text := "both are one") (by decide) (Or.inr rfl) rfl (by decide) hf hl.1 dX8_game_20 dX8_game_23 dX8_game_24 dX8_game_27 dX8_game_30 (by decide) (by decide) (by decide) (by decide) (by decide) (by decide)

def j_X8_years_63 (n : Nat) (x3 : Int32) (x4 : Int32) (M : Mem) : Option (Rx) := if x3 = (0 : Int32) then (some ((0 : Nat), (gi M 10 6), M)) else (if x3 = (1 : Int32) then (some ((0 : Nat), x4, M)) else (bd (f_X4_faithTogether n 10  M) (fun q3 => some ((0 : Nat), q3.1, q3.2))))
def b_X8_years_24 (n : Nat) (x2 : Int32) (x3 : Int32) (q : (Int32 × Int32 × Int32 × Mem)) : Option ((Int32 × Int32 × Int32 × Mem) ⊕ (Rx)) := match q with
  | (x4, x5, x6, M) => if x2 ≤ x6 then (mr (j_X8_years_63 n  x3 x4 M)) else (bd (f_X4_chance n 10 x5 M) (fun q5 => bd (f_X8_passTrialDay n   q5.2) (fun q6 => some (.inl ((x4 + (gi q6 10 11)), q5.1, (x6 + (1 : Int32)), q6)))))
def f_X8_years (n : Nat) (x1 : Int32) (x2 : Int32) (x3 : Int32) (M : Mem) : Option (Rx) := bd (f_X8_requireWhat n x3 (2 : Int32) M) (fun q7 => if q7.1 = 0 then (bd (f_X8_requireFrom0 n x2 (60 : Int32) q7.2.2) (fun q8 => if q8.1 = 0 then (bd (f_X8_startTrial n   q8.2.2) (fun q9 => gl (b_X8_years_24 n  x2 x3) n ((0 : Int32), x1, (0 : Int32), q9))) else (some (q8.1, (0 : Int32), q8.2.2)))) else (some (q7.1, (0 : Int32), q7.2.2)))
set_option maxHeartbeats 4000000 in
set_option maxRecDepth 100000 in
theorem c_X8_years (l : Launch) (w : Wd) (hst : l.stackTraces = false) (n : Nat) (x1 : Int32) (x2 : Int32) (x3 : Int32) (M : Mem) (res : Rx) (hf : f_X8_years n  x1 x2 x3 M = some res) : CX l w layC 61 (XN (YC w)) yX8_years cX8_years 7 (some .int) 7 2 [.ref (w.2.2.1 0), .int x1, .int x2, .int x3] M (GXi w layC 61 res) (GXx w layC 61 res) := by
  refine cx_start (by decide +kernel) (Nat.le_of_ble_eq_true rfl) ?_
  intro p e s m args below meth c F hr hlk hno hX hG ls hl
  have F : FX w p m c cX8_years 7 s args RX8 := F
  have hx := F.1.1
  have hb := F.1.2.1
  have hl : lv_has ls 7 [(0, .ref (w.2.2.1 0)), (1, .int x1), (2, .int x2), (3, .int x3)] := hl
  have hJ63 : ∀ (x3 : Int32) (x4 : Int32) (M : Mem) (H : Heap) (locs : List Loc) (ls : Array Slot), j_X8_years_63 n  x3 x4 M = some res → GI w layC 61 s.heap M H locs → lv_has ls 7 [(0, .ref (w.2.2.1 0)), (3, .int x3), (4, .int x4)] → W p l e (RmX 7 2) s m args below meth c H locs 2 12 (vx_MQ below (GXi w layC 61 res s.heap.size) (GXx w layC 61 res s.heap.size) args s 2 (6 * 2) (gA w.2.2.1 61 s.heap.size)) (F0 m 63 ls []) := by
    intro x3 x4 M H locs ls hf hG hl
    unfold j_X8_years_63 at hf
    refine lv_iload_n hx hb dX8_years_63 rfl (lv_at hl 1 rfl) ?_
    by_cases c1 : x3 = (0 : Int32)
    · replace hf := if_t c1 hf
      refine lv_lookup (off := 28) (tgt := 92) hx hb dX8_years_64 (by decide) (by rw [c1]; decide) (by decide) ?_
      refine lv_aload_n hx hb dX8_years_92 rfl (lv_at hl 0 rfl) ?_
      refine g_getR F hG 10 ct_0 (by decide) (by decide) lk_X8_20 rfl dX8_years_93 ?_
      refine g_getI F hG st_10.1 (by decide) (by decide) lk_X8_114 rfl dX8_years_96 ?_
      exact cx_iret F hr hlk hG hf (by decide) (by decide) dX8_years_99
    replace hf := if_f c1 hf
    by_cases c2 : x3 = (1 : Int32)
    · replace hf := if_t c2 hf
      refine lv_lookup (off := 36) (tgt := 100) hx hb dX8_years_64 (by decide) (by rw [c2]; decide) (by decide) ?_
      refine lv_iload hx hb dX8_years_100 (lv_at hl 2 rfl) ?_
      exact cx_iret F hr hlk hG hf (by decide) (by decide) dX8_years_102
    replace hf := if_f c2 hf
    refine lv_lookup (off := 39) (tgt := 103) hx hb dX8_years_64 (by decide) ((lv_osw c1 rfl).trans ((lv_osw c2 rfl).trans rfl)) (by decide) ?_
    refine lv_aload_n hx hb dX8_years_103 rfl (lv_at hl 0 rfl) ?_
    refine g_getR F hG 10 ct_0 (by decide) (by decide) lk_X8_20 rfl dX8_years_104 ?_
    replace hf := bd_some hf
    obtain ⟨q3, eq3, hf⟩ := hf
    refine gx_calli hG (gx_runV (xn_ok (yc_ok w)) F hX hG (c_X4_faithTogether l w (yc_ok w) n 10 st_10  _ _ eq3) cv_X8_343 ⟨Nat.le_of_ble_eq_true rfl, Nat.le_of_ble_eq_true rfl⟩ (g_recv F hG st_10.1 (by decide) rfl) rfl hl.1 rfl (Nat.le_of_ble_eq_true rfl) dX8_years_107 ⟨by decide, by decide⟩) (fun H locs hG => ?_)
    exact cx_iret F hr hlk hG hf (by decide) (by decide) dX8_years_110
  have hJ24 : ∀ (x2 : Int32) (x3 : Int32) (x4 : Int32) (x5 : Int32) (x6 : Int32) (M : Mem) (H : Heap) (locs : List Loc) (ls : Array Slot), gl (b_X8_years_24 n  x2 x3) n (x4, x5, x6, M) = some res → GI w layC 61 s.heap M H locs → lv_has ls 7 [(0, .ref (w.2.2.1 0)), (2, .int x2), (3, .int x3), (4, .int x4), (5, .int x5), (6, .int x6)] → W p l e (RmX 7 2) s m args below meth c H locs 2 12 (vx_MQ below (GXi w layC 61 res s.heap.size) (GXx w layC 61 res s.heap.size) args s 2 (6 * 2) (gA w.2.2.1 61 s.heap.size)) (F0 m 24 ls []) := by
    intro x2 x3 x4 x5 x6 M H locs ls hf hG hl
    refine gl_run (P := fun (q : (Int32 × Int32 × Int32 × Mem)) => ∀ (H : Heap) (locs : List Loc) (ls : Array Slot), GI w layC 61 s.heap q.2.2.2 H locs → lv_has ls 7 [(0, .ref (w.2.2.1 0)), (2, .int x2), (3, .int x3), (4, .int q.1), (5, .int q.2.1), (6, .int q.2.2.1)] → W p l e (RmX 7 2) s m args below meth c H locs 2 12 (vx_MQ below (GXi w layC 61 res s.heap.size) (GXx w layC 61 res s.heap.size) args s 2 (6 * 2) (gA w.2.2.1 61 s.heap.size)) (F0 m 24 ls [])) ?_ n (x4, x5, x6, M) hf H locs ls hG hl
    clear hf hG hl ls locs H M x4 x5 x6
    rintro ⟨x4, x5, x6, M⟩ rr24 hf hI24 hE24 H locs ls hG hl
    try dsimp only at hG hl ⊢
    dsimp only [b_X8_years_24] at hf
    refine lv_iload hx hb dX8_years_24 (lv_at hl 5 rfl) ?_
    refine lv_iload_n hx hb dX8_years_26 rfl (lv_at hl 1 rfl) ?_
    refine lv_icmp_ge (tgt := 63) hx hb dX8_years_27 (by decide) (fun c4 => ?_) (fun c4 => ?_)
    · replace hf := if_t c4 hf
      replace hf := mr_some hf
      obtain ⟨z24, hf, hz⟩ := hf
      rw [hE24 _ hz] at hf
      exact hJ63 _ _ _ _ _ ls hf hG (lv_sub hl [0, 2, 3] rfl)
    · replace hf := if_f c4 hf
      refine lv_aload_n hx hb dX8_years_30 rfl (lv_at hl 0 rfl) ?_
      refine g_getR F hG 10 ct_0 (by decide) (by decide) lk_X8_20 rfl dX8_years_31 ?_
      refine lv_iload hx hb dX8_years_34 (lv_at hl 4 rfl) ?_
      replace hf := bd_some hf
      obtain ⟨q5, eq5, hf⟩ := hf
      refine gx_calli hG (gx_runV (xn_ok (yc_ok w)) F hX hG (c_X4_chance l w (yc_ok w) n 10 st_10 x5 _ _ eq5) cv_X8_340 ⟨Nat.le_of_ble_eq_true rfl, Nat.le_of_ble_eq_true rfl⟩ (g_recv F hG st_10.1 (by decide) rfl) rfl hl.1 rfl (Nat.le_of_ble_eq_true rfl) dX8_years_36 ⟨by decide, by decide⟩) (fun H locs hG => ?_)
      refine lv_istore (lv' := [(5, .int q5.1), (0, .ref (w.2.2.1 0)), (2, .int x2), (3, .int x3), (4, .int x4), (6, .int x6)]) hx hb dX8_years_39 hl (by decide) rfl (fun ls hl => ?_)
      refine lv_aload_n hx hb dX8_years_41 rfl (lv_at hl 1 rfl) ?_
      replace hf := bd_some hf
      obtain ⟨q6, eq6, hf⟩ := hf
      refine gx_callv hG (gx_runV (xn_ok (yc_ok w)) F hX hG (c_X8_passTrialDay l w  n   _ _ eq6) cv_X8_243 ⟨Nat.le_of_ble_eq_true rfl, Nat.le_of_ble_eq_true rfl⟩ (g_recv F hG ct_0 (by decide) rfl) rfl hl.1 rfl (Nat.le_of_ble_eq_true rfl) dX8_years_42 ⟨by decide, by decide⟩) (fun H locs hG => ?_)
      refine lv_iload hx hb dX8_years_45 (lv_at hl 4 rfl) ?_
      refine lv_aload_n hx hb dX8_years_47 rfl (lv_at hl 1 rfl) ?_
      refine g_getR F hG 10 ct_0 (by decide) (by decide) lk_X8_20 rfl dX8_years_48 ?_
      refine g_getI F hG st_10.1 (by decide) (by decide) lk_X8_148 rfl dX8_years_51 ?_
      refine lv_iadd hx hb dX8_years_54 ?_
      refine lv_istore (lv' := [(4, .int (x4 + (gi q6 10 11))), (5, .int q5.1), (0, .ref (w.2.2.1 0)), (2, .int x2), (3, .int x3), (6, .int x6)]) hx hb dX8_years_55 hl (by decide) rfl (fun ls hl => ?_)
      refine lv_iinc (v := (x6 + (1 : Int32))) (lv' := [(6, .int (x6 + (1 : Int32))), (4, .int (x4 + (gi q6 10 11))), (5, .int q5.1), (0, .ref (w.2.2.1 0)), (2, .int x2), (3, .int x3)]) hx hb dX8_years_57 hl (k := 5) rfl rfl (by decide) rfl (fun ls hl => ?_)
      refine lv_goto (tgt := 24) hx hb dX8_years_60 (by decide) ?_
      exact hI24 _ (Option.some.inj hf).symm _ _ ls hG (lv_sub hl [3, 4, 5, 1, 2, 0] rfl)
  unfold f_X8_years at hf
  refine lv_iload_n hx hb dX8_years_0 rfl (lv_at hl 3 rfl) ?_
  refine lv_iconst (v := 2) hx hb dX8_years_1 (by decide) ?_
  replace hf := bd_some hf
  obtain ⟨q7, eq7, hf⟩ := hf
  refine gx_xcallv hno hlk F hG (gx_xrunS (xn_ok (yc_ok w)) F hX hG (c_X8_requireWhat l w hst n x3 (2 : Int32) _ _ eq7) cs_X8_231 ⟨Nat.le_of_ble_eq_true rfl, Nat.le_of_ble_eq_true rfl⟩ rfl hl.1 rfl (Nat.le_of_ble_eq_true rfl) dX8_years_2 ⟨by decide, by decide⟩) (by decide) (by decide) (fun hz => if_f hz hf) (fun hz H locs hG => ?_)
  replace hf := if_t hz hf
  refine W.widen (k := 1) (n := 6) (by decide) (by decide) ?_
  refine lv_iload_n hx hb dX8_years_5 rfl (lv_at hl 2 rfl) ?_
  refine lv_bipush (v := 60) hx hb dX8_years_6 (by decide) ?_
  replace hf := bd_some hf
  obtain ⟨q8, eq8, hf⟩ := hf
  refine gx_xcallv hno hlk F hG (gx_xrunS (xn_ok (yc_ok w)) F hX hG (c_X8_requireFrom0 l w hst n x2 (60 : Int32) _ _ eq8) cs_X8_234 ⟨Nat.le_of_ble_eq_true rfl, Nat.le_of_ble_eq_true rfl⟩ rfl hl.1 rfl (Nat.le_of_ble_eq_true rfl) dX8_years_8 ⟨by decide, by decide⟩) (by decide) (by decide) (fun hz => if_f hz hf) (fun hz H locs hG => ?_)
  replace hf := if_t hz hf
  refine W.widen (k := 2) (n := 12) (by decide) (by decide) ?_
  refine lv_aload_n hx hb dX8_years_11 rfl (lv_at hl 0 rfl) ?_
  replace hf := bd_some hf
  obtain ⟨q9, eq9, hf⟩ := hf
  refine gx_callv hG (gx_runV (xn_ok (yc_ok w)) F hX hG (c_X8_startTrial l w  n   _ _ eq9) cv_X8_237 ⟨Nat.le_of_ble_eq_true rfl, Nat.le_of_ble_eq_true rfl⟩ (g_recv F hG ct_0 (by decide) rfl) rfl hl.1 rfl (Nat.le_of_ble_eq_true rfl) dX8_years_12 ⟨by decide, by decide⟩) (fun H locs hG => ?_)
  refine lv_iconst (v := 0) hx hb dX8_years_15 (by decide) ?_
  refine lv_istore (lv' := [(4, .int (0 : Int32)), (0, .ref (w.2.2.1 0)), (1, .int x1), (2, .int x2), (3, .int x3)]) hx hb dX8_years_16 hl (by decide) rfl (fun ls hl => ?_)
  refine lv_iload_n hx hb dX8_years_18 rfl (lv_at hl 2 rfl) ?_
  refine lv_istore (lv' := [(5, .int x1), (4, .int (0 : Int32)), (0, .ref (w.2.2.1 0)), (1, .int x1), (2, .int x2), (3, .int x3)]) hx hb dX8_years_19 hl (by decide) rfl (fun ls hl => ?_)
  refine lv_iconst (v := 0) hx hb dX8_years_21 (by decide) ?_
  refine lv_istore (lv' := [(6, .int (0 : Int32)), (5, .int x1), (4, .int (0 : Int32)), (0, .ref (w.2.2.1 0)), (1, .int x1), (2, .int x2), (3, .int x3)]) hx hb dX8_years_22 hl (by decide) rfl (fun ls hl => ?_)
  exact hJ24 _ _ _ _ _ _ _ _ ls hf hG (lv_sub hl [3, 5, 6, 2, 1, 0] rfl)

def f_X8_image (n : Nat) (M : Mem) : Option (Mem) := bd (f_X4_copy n 22 4  M) (fun q1 => bd (f_X1_copy n 36 34  q1) (fun q2 => bd (f_X3_copy n 41 38  q2) (fun q3 => some (si q3 0 14 (1 : Int32)))))
set_option maxHeartbeats 4000000 in
set_option maxRecDepth 100000 in
theorem c_X8_image (l : Launch) (w : Wd)  (n : Nat) (M : Mem) (res : Mem) (hf : f_X8_image n   M = some res) : CG l w layC 61 (XN (YC w)) yX8_image cX8_image 1 none 2 [.ref (w.2.2.1 0)] M (GQv w layC 61 res) := by
  refine cg_start (by decide +kernel) (Nat.le_of_ble_eq_true rfl) ?_
  intro p e s m args below meth c F hr hlk hX hG ls hl
  have F : FX w p m c cX8_image 1 s args RX8 := F
  have hx := F.1.1
  have hb := F.1.2.1
  have hl : lv_has ls 1 [(0, .ref (w.2.2.1 0))] := hl
  unfold f_X8_image at hf
  refine lv_aload_n hx hb dX8_image_0 rfl (lv_at hl 0 rfl) ?_
  refine g_getR F hG 22 ct_0 (by decide) (by decide) lk_X8_40 rfl dX8_image_1 ?_
  refine lv_aload_n hx hb dX8_image_4 rfl (lv_at hl 0 rfl) ?_
  refine g_getR F hG 4 ct_0 (by decide) (by decide) lk_X8_16 rfl dX8_image_5 ?_
  replace hf := bd_some hf
  obtain ⟨q1, eq1, hf⟩ := hf
  refine gx_callv hG (gx_runV (xn_ok (yc_ok w)) F hX hG (c_X4_copy l w (yc_ok w) n 22 st_22 4 st_4  _ _ eq1) cv_X8_106 ⟨Nat.le_of_ble_eq_true rfl, Nat.le_of_ble_eq_true rfl⟩ (g_recv F hG st_22.1 (by decide) rfl) rfl hl.1 rfl (Nat.le_of_ble_eq_true rfl) dX8_image_8 ⟨Nat.le_refl _, Nat.le_refl _⟩) (fun H locs hG => ?_)
  refine lv_aload_n hx hb dX8_image_11 rfl (lv_at hl 0 rfl) ?_
  refine g_getR F hG 36 ct_0 (by decide) (by decide) lk_X8_43 rfl dX8_image_12 ?_
  refine lv_aload_n hx hb dX8_image_15 rfl (lv_at hl 0 rfl) ?_
  refine g_getR F hG 34 ct_0 (by decide) (by decide) lk_X8_29 rfl dX8_image_16 ?_
  replace hf := bd_some hf
  obtain ⟨q2, eq2, hf⟩ := hf
  refine gx_callv hG (gx_runV (xn_ok (yc_ok w)) F hX hG (c_X1_copy l w (yc_ok w) n 36 ac_36 34 ac_34  _ _ eq2) cv_X8_346 ⟨Nat.le_of_ble_eq_true rfl, Nat.le_of_ble_eq_true rfl⟩ (g_recv F hG ac_36.1 (by decide) rfl) rfl hl.1 rfl (Nat.le_of_ble_eq_true rfl) dX8_image_19 ⟨Nat.le_refl _, Nat.le_refl _⟩) (fun H locs hG => ?_)
  refine lv_aload_n hx hb dX8_image_22 rfl (lv_at hl 0 rfl) ?_
  refine g_getR F hG 41 ct_0 (by decide) (by decide) lk_X8_46 rfl dX8_image_23 ?_
  refine lv_aload_n hx hb dX8_image_26 rfl (lv_at hl 0 rfl) ?_
  refine g_getR F hG 38 ct_0 (by decide) (by decide) lk_X8_36 rfl dX8_image_27 ?_
  replace hf := bd_some hf
  obtain ⟨q3, eq3, hf⟩ := hf
  refine gx_callv hG (gx_runV (xn_ok (yc_ok w)) F hX hG (c_X3_copy l w (yc_ok w) n 41 sn_41 38 sn_38  _ _ eq3) cv_X8_349 ⟨Nat.le_of_ble_eq_true rfl, Nat.le_of_ble_eq_true rfl⟩ (g_recv F hG sn_41.1 (by decide) rfl) rfl hl.1 rfl (Nat.le_of_ble_eq_true rfl) dX8_image_30 ⟨Nat.le_refl _, Nat.le_refl _⟩) (fun H locs hG => ?_)
  refine lv_aload_n hx hb dX8_image_33 rfl (lv_at hl 0 rfl) ?_
  refine lv_iconst (v := 1) hx hb dX8_image_34 (by decide) ?_
  refine g_putI F hG ct_0 (by decide) (by decide) lkv_X8_74 rfl rfl rfl dX8_image_35 (fun H locs hG => ?_)
  exact cg_vret F hr hlk hG hf dX8_image_38
