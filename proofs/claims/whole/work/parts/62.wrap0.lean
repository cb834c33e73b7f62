def f_L_town (n : Nat) (x1 : Int32) (M : Mem) : Option (Int32 × Mem) := bd (f_X8_town n x1 M) (fun q1 => if q1.1 = 0 then (some ((0 : Int32), sj q1.2.2 60 (0 : Int32).toNatClampNeg q1.2.1.toInt64)) else (if q1.1 = 2 then (some ((1 : Int32), q1.2.2)) else (none)))
set_option maxHeartbeats 4000000 in
set_option maxRecDepth 100000 in
theorem c_L_town (l : Launch) (w : Wd) (hst : l.stackTraces = false) (n : Nat) (x1 : Int32) (M : Mem) (res : Int32 × Mem) (hf : f_L_town n  x1 M = some res) : CGW l w layC 61 (XN (YC w)) yL_town cL_town 4 (some .int) [(0, 9, 12, 13)] 81 1 [.ref (w.2.2.1 0), .int x1, .ref (w.2.2.1 60)] M (GQi w layC 61 res) := by
  refine cw_start (by decide +kernel) (Nat.le_of_ble_eq_true rfl) ?_
  intro p e s m args below meth c F hr hlk htab hX hG ls hl
  have F : FX w p m c cL_town 4 s args RL := F
  have hx := F.1.1
  have hb := F.1.2.1
  have hl : lv_has ls 4 [(0, .ref (w.2.2.1 0)), (1, .int x1), (2, .ref (w.2.2.1 60))] := hl
  unfold f_L_town at hf
  refine lv_aload_n hx hb dL_town_0 rfl (lv_at hl 2 rfl) ?_
  refine lv_iconst (v := 0) hx hb dL_town_1 (by decide) ?_
  refine lv_aload_n hx hb dL_town_2 rfl (lv_at hl 0 rfl) ?_
  refine lv_iload_n hx hb dL_town_3 rfl (lv_at hl 1 rfl) ?_
  replace hf := bd_some hf
  obtain ⟨q1, eq1, hf⟩ := hf
  refine gx_ycalli hG (gx_xrunV (xn_ok (yc_ok w)) F hX hG (c_X8_town l w hst n x1 _ _ eq1) cv_L_7 ⟨Nat.le_of_ble_eq_true rfl, Nat.le_of_ble_eq_true rfl⟩ (g_recv F hG ct_0 (by decide) rfl) rfl hl.1 rfl (Nat.le_of_ble_eq_true rfl) dL_town_4 ⟨by decide, by decide⟩) (fun hz H locs hG => ?_) (fun hz ce q9 H locs hG hce hcv hcl => ?_)
  rotate_left
  · replace hf := if_f hz hf
    by_cases c3 : q1.1 = 2
    · replace hf := if_t c3 hf
      rw [c3] at hcl
      refine vx_catch F.1.2.2.2.1 [] ⟨0, 9, 12, 13⟩ [] htab (fun z hz => nomatch hz) (by decide) (by decide) (F.1.2.2.2.2 _ m_604) (va_Nw.use rfl (hX.2.2.1.2.2.1 (.castable xIAE xIAE) (by simp [thw]))) hce hcv hcl ?_
      refine lv_astore_n (lv' := [(3, (.ref q9)), (0, .ref (w.2.2.1 0)), (1, .int x1), (2, .ref (w.2.2.1 60))]) hx hb dL_town_12 rfl hl (by decide) rfl (fun ls hl => ?_)
      refine lv_iconst (v := 1) hx hb dL_town_13 (by decide) ?_
      exact cw_iret F hr hlk hG hf (by decide) (by decide) dL_town_14
    replace hf := if_f c3 hf
    cases hf
  replace hf := if_t hz hf
  refine W.widen (k := 1) (n := 6) (by decide) (by decide) ?_
  refine lv_i2l hx hb dL_town_7 rfl ?_
  refine g_last F hG oC_60 (by decide) dL_town_8 (fun H locs hG => ?_)
  refine lv_goto (tgt := 15) hx hb dL_town_9 (by decide) ?_
  refine lv_iconst (v := 0) hx hb dL_town_15 (by decide) ?_
  exact cw_iret F hr hlk hG hf (by decide) (by decide) dL_town_16

def f_L_count (n : Nat) (x1 : Int32) (M : Mem) : Option (Int32 × Mem) := bd (f_X8_count n x1 M) (fun q1 => if q1.1 = 0 then (some ((0 : Int32), sj q1.2.2 60 (0 : Int32).toNatClampNeg q1.2.1.toInt64)) else (if q1.1 = 1 then (some ((1 : Int32), q1.2.2)) else (none)))
set_option maxHeartbeats 4000000 in
set_option maxRecDepth 100000 in
theorem c_L_count (l : Launch) (w : Wd) (hst : l.stackTraces = false) (n : Nat) (x1 : Int32) (M : Mem) (res : Int32 × Mem) (hf : f_L_count n  x1 M = some res) : CGW l w layC 61 (XN (YC w)) yL_count cL_count 4 (some .int) [(0, 9, 12, 18)] 7 1 [.ref (w.2.2.1 0), .int x1, .ref (w.2.2.1 60)] M (GQi w layC 61 res) := by
  refine cw_start (by decide +kernel) (Nat.le_of_ble_eq_true rfl) ?_
  intro p e s m args below meth c F hr hlk htab hX hG ls hl
  have F : FX w p m c cL_count 4 s args RL := F
  have hx := F.1.1
  have hb := F.1.2.1
  have hl : lv_has ls 4 [(0, .ref (w.2.2.1 0)), (1, .int x1), (2, .ref (w.2.2.1 60))] := hl
  unfold f_L_count at hf
  refine lv_aload_n hx hb dL_count_0 rfl (lv_at hl 2 rfl) ?_
  refine lv_iconst (v := 0) hx hb dL_count_1 (by decide) ?_
  refine lv_aload_n hx hb dL_count_2 rfl (lv_at hl 0 rfl) ?_
  refine lv_iload_n hx hb dL_count_3 rfl (lv_at hl 1 rfl) ?_
  replace hf := bd_some hf
  obtain ⟨q1, eq1, hf⟩ := hf
  refine gx_ycalli hG (gx_xrunV (xn_ok (yc_ok w)) F hX hG (c_X8_count l w hst n x1 _ _ eq1) cv_L_15 ⟨Nat.le_of_ble_eq_true rfl, Nat.le_of_ble_eq_true rfl⟩ (g_recv F hG ct_0 (by decide) rfl) rfl hl.1 rfl (Nat.le_of_ble_eq_true rfl) dL_count_4 ⟨by decide, by decide⟩) (fun hz H locs hG => ?_) (fun hz ce q9 H locs hG hce hcv hcl => ?_)
  rotate_left
  · replace hf := if_f hz hf
    by_cases c3 : q1.1 = 1
    · replace hf := if_t c3 hf
      rw [c3] at hcl
      refine vx_catch F.1.2.2.2.1 [] ⟨0, 9, 12, 18⟩ [] htab (fun z hz => nomatch hz) (by decide) (by decide) (F.1.2.2.2.2 _ m_957) (va_Nw.use rfl (hX.2.2.1.2.2.1 (.castable xNSE xNSE) (by simp [thw]))) hce hcv hcl ?_
      refine lv_astore_n (lv' := [(3, (.ref q9)), (0, .ref (w.2.2.1 0)), (1, .int x1), (2, .ref (w.2.2.1 60))]) hx hb dL_count_12 rfl hl (by decide) rfl (fun ls hl => ?_)
      refine lv_iconst (v := 1) hx hb dL_count_13 (by decide) ?_
      exact cw_iret F hr hlk hG hf (by decide) (by decide) dL_count_14
    replace hf := if_f c3 hf
    cases hf
  replace hf := if_t hz hf
  refine W.widen (k := 1) (n := 6) (by decide) (by decide) ?_
  refine lv_i2l hx hb dL_count_7 rfl ?_
  refine g_last F hG oC_60 (by decide) dL_count_8 (fun H locs hG => ?_)
  refine lv_goto (tgt := 15) hx hb dL_count_9 (by decide) ?_
  refine lv_iconst (v := 0) hx hb dL_count_15 (by decide) ?_
  exact cw_iret F hr hlk hG hf (by decide) (by decide) dL_count_16

def f_L_course (n : Nat) (x1 : Int32) (x2 : Int32) (M : Mem) : Option (Int32 × Mem) := bd (f_X8_course n x1 x2 M) (fun q1 => if q1.1 = 0 then (some ((0 : Int32), sj q1.2.2 60 (0 : Int32).toNatClampNeg q1.2.1.toInt64)) else (if q1.1 = 1 then (some ((1 : Int32), q1.2.2)) else (none)))
set_option maxHeartbeats 4000000 in
set_option maxRecDepth 100000 in
theorem c_L_course (l : Launch) (w : Wd) (hst : l.stackTraces = false) (n : Nat) (x1 : Int32) (x2 : Int32) (M : Mem) (res : Int32 × Mem) (hf : f_L_course n  x1 x2 M = some res) : CGW l w layC 61 (XN (YC w)) yL_course cL_course 5 (some .int) [(0, 10, 13, 18)] 7 1 [.ref (w.2.2.1 0), .int x1, .int x2, .ref (w.2.2.1 60)] M (GQi w layC 61 res) := by
  refine cw_start (by decide +kernel) (Nat.le_of_ble_eq_true rfl) ?_
  intro p e s m args below meth c F hr hlk htab hX hG ls hl
  have F : FX w p m c cL_course 5 s args RL := F
  have hx := F.1.1
  have hb := F.1.2.1
  have hl : lv_has ls 5 [(0, .ref (w.2.2.1 0)), (1, .int x1), (2, .int x2), (3, .ref (w.2.2.1 60))] := hl
  unfold f_L_course at hf
  refine lv_aload_n hx hb dL_course_0 rfl (lv_at hl 3 rfl) ?_
  refine lv_iconst (v := 0) hx hb dL_course_1 (by decide) ?_
  refine lv_aload_n hx hb dL_course_2 rfl (lv_at hl 0 rfl) ?_
  refine lv_iload_n hx hb dL_course_3 rfl (lv_at hl 1 rfl) ?_
  refine lv_iload_n hx hb dL_course_4 rfl (lv_at hl 2 rfl) ?_
  replace hf := bd_some hf
  obtain ⟨q1, eq1, hf⟩ := hf
  refine gx_ycalli hG (gx_xrunV (xn_ok (yc_ok w)) F hX hG (c_X8_course l w hst n x1 x2 _ _ eq1) cv_L_20 ⟨Nat.le_of_ble_eq_true rfl, Nat.le_of_ble_eq_true rfl⟩ (g_recv F hG ct_0 (by decide) rfl) rfl hl.1 rfl (Nat.le_of_ble_eq_true rfl) dL_course_5 ⟨by decide, by decide⟩) (fun hz H locs hG => ?_) (fun hz ce q9 H locs hG hce hcv hcl => ?_)
  rotate_left
  · replace hf := if_f hz hf
    by_cases c3 : q1.1 = 1
    · replace hf := if_t c3 hf
      rw [c3] at hcl
      refine vx_catch F.1.2.2.2.1 [] ⟨0, 10, 13, 18⟩ [] htab (fun z hz => nomatch hz) (by decide) (by decide) (F.1.2.2.2.2 _ m_957) (va_Nw.use rfl (hX.2.2.1.2.2.1 (.castable xNSE xNSE) (by simp [thw]))) hce hcv hcl ?_
      refine lv_astore (lv' := [(4, (.ref q9)), (0, .ref (w.2.2.1 0)), (1, .int x1), (2, .int x2), (3, .ref (w.2.2.1 60))]) hx hb dL_course_13 hl (by decide) rfl (fun ls hl => ?_)
      refine lv_iconst (v := 1) hx hb dL_course_15 (by decide) ?_
      exact cw_iret F hr hlk hG hf (by decide) (by decide) dL_course_16
    replace hf := if_f c3 hf
    cases hf
  replace hf := if_t hz hf
  refine W.widen (k := 1) (n := 6) (by decide) (by decide) ?_
  refine lv_i2l hx hb dL_course_8 rfl ?_
  refine g_last F hG oC_60 (by decide) dL_course_9 (fun H locs hG => ?_)
  refine lv_goto (tgt := 17) hx hb dL_course_10 (by decide) ?_
  refine lv_iconst (v := 0) hx hb dL_course_17 (by decide) ?_
  exact cw_iret F hr hlk hG hf (by decide) (by decide) dL_course_18

def f_L_ward (n : Nat) (x1 : Int32) (x2 : Int32) (M : Mem) : Option (Int32 × Mem) := bd (f_X8_ward n x1 x2 M) (fun q1 => if q1.1 = 0 then (some ((0 : Int32), sj q1.2.2 60 (0 : Int32).toNatClampNeg q1.2.1.toInt64)) else (if q1.1 = 1 then (some ((1 : Int32), q1.2.2)) else (none)))
set_option maxHeartbeats 4000000 in
set_option maxRecDepth 100000 in
theorem c_L_ward (l : Launch) (w : Wd) (hst : l.stackTraces = false) (n : Nat) (x1 : Int32) (x2 : Int32) (M : Mem) (res : Int32 × Mem) (hf : f_L_ward n  x1 x2 M = some res) : CGW l w layC 61 (XN (YC w)) yL_ward cL_ward 5 (some .int) [(0, 10, 13, 18)] 8 2 [.ref (w.2.2.1 0), .int x1, .int x2, .ref (w.2.2.1 60)] M (GQi w layC 61 res) := by
  refine cw_start (by decide +kernel) (Nat.le_of_ble_eq_true rfl) ?_
  intro p e s m args below meth c F hr hlk htab hX hG ls hl
  have F : FX w p m c cL_ward 5 s args RL := F
  have hx := F.1.1
  have hb := F.1.2.1
  have hl : lv_has ls 5 [(0, .ref (w.2.2.1 0)), (1, .int x1), (2, .int x2), (3, .ref (w.2.2.1 60))] := hl
  unfold f_L_ward at hf
  refine lv_aload_n hx hb dL_ward_0 rfl (lv_at hl 3 rfl) ?_
  refine lv_iconst (v := 0) hx hb dL_ward_1 (by decide) ?_
  refine lv_aload_n hx hb dL_ward_2 rfl (lv_at hl 0 rfl) ?_
  refine lv_iload_n hx hb dL_ward_3 rfl (lv_at hl 1 rfl) ?_
  refine lv_iload_n hx hb dL_ward_4 rfl (lv_at hl 2 rfl) ?_
  replace hf := bd_some hf
  obtain ⟨q1, eq1, hf⟩ := hf
  refine gx_ycalli hG (gx_xrunV (xn_ok (yc_ok w)) F hX hG (c_X8_ward l w hst n x1 x2 _ _ eq1) cv_L_24 ⟨Nat.le_of_ble_eq_true rfl, Nat.le_of_ble_eq_true rfl⟩ (g_recv F hG ct_0 (by decide) rfl) rfl hl.1 rfl (Nat.le_of_ble_eq_true rfl) dL_ward_5 ⟨by decide, by decide⟩) (fun hz H locs hG => ?_) (fun hz ce q9 H locs hG hce hcv hcl => ?_)
  rotate_left
  · replace hf := if_f hz hf
    by_cases c3 : q1.1 = 1
    · replace hf := if_t c3 hf
      rw [c3] at hcl
      refine vx_catch F.1.2.2.2.1 [] ⟨0, 10, 13, 18⟩ [] htab (fun z hz => nomatch hz) (by decide) (by decide) (F.1.2.2.2.2 _ m_957) (va_Nw.use rfl (hX.2.2.1.2.2.1 (.castable xNSE xNSE) (by simp [thw]))) hce hcv hcl ?_
      refine lv_astore (lv' := [(4, (.ref q9)), (0, .ref (w.2.2.1 0)), (1, .int x1), (2, .int x2), (3, .ref (w.2.2.1 60))]) hx hb dL_ward_13 hl (by decide) rfl (fun ls hl => ?_)
      refine lv_iconst (v := 1) hx hb dL_ward_15 (by decide) ?_
      exact cw_iret F hr hlk hG hf (by decide) (by decide) dL_ward_16
    replace hf := if_f c3 hf
    cases hf
  replace hf := if_t hz hf
  refine W.widen (k := 2) (n := 12) (by decide) (by decide) ?_
  refine lv_i2l hx hb dL_ward_8 rfl ?_
  refine g_last F hG oC_60 (by decide) dL_ward_9 (fun H locs hG => ?_)
  refine lv_goto (tgt := 17) hx hb dL_ward_10 (by decide) ?_
  refine lv_iconst (v := 0) hx hb dL_ward_17 (by decide) ?_
  exact cw_iret F hr hlk hG hf (by decide) (by decide) dL_ward_18

def f_L_preach (n : Nat) (x1 : Int32) (M : Mem) : Option (Int32 × Mem) := bd (f_X8_preach n x1 M) (fun q1 => if q1.1 = 0 then (some ((0 : Int32), sj q1.2.2 60 (0 : Int32).toNatClampNeg q1.2.1.toInt64)) else (if q1.1 = 1 then (some ((1 : Int32), q1.2.2)) else (none)))
set_option maxHeartbeats 4000000 in
set_option maxRecDepth 100000 in
theorem c_L_preach (l : Launch) (w : Wd) (hst : l.stackTraces = false) (n : Nat) (x1 : Int32) (M : Mem) (res : Int32 × Mem) (hf : f_L_preach n  x1 M = some res) : CGW l w layC 61 (XN (YC w)) yL_preach cL_preach 4 (some .int) [(0, 9, 12, 18)] 8 1 [.ref (w.2.2.1 0), .int x1, .ref (w.2.2.1 60)] M (GQi w layC 61 res) := by
  refine cw_start (by decide +kernel) (Nat.le_of_ble_eq_true rfl) ?_
  intro p e s m args below meth c F hr hlk htab hX hG ls hl
  have F : FX w p m c cL_preach 4 s args RL := F
  have hx := F.1.1
  have hb := F.1.2.1
  have hl : lv_has ls 4 [(0, .ref (w.2.2.1 0)), (1, .int x1), (2, .ref (w.2.2.1 60))] := hl
  unfold f_L_preach at hf
  refine lv_aload_n hx hb dL_preach_0 rfl (lv_at hl 2 rfl) ?_
  refine lv_iconst (v := 0) hx hb dL_preach_1 (by decide) ?_
  refine lv_aload_n hx hb dL_preach_2 rfl (lv_at hl 0 rfl) ?_
  refine lv_iload_n hx hb dL_preach_3 rfl (lv_at hl 1 rfl) ?_
  replace hf := bd_some hf
  obtain ⟨q1, eq1, hf⟩ := hf
  refine gx_ycalli hG (gx_xrunV (xn_ok (yc_ok w)) F hX hG (c_X8_preach l w hst n x1 _ _ eq1) cv_L_27 ⟨Nat.le_of_ble_eq_true rfl, Nat.le_of_ble_eq_true rfl⟩ (g_recv F hG ct_0 (by decide) rfl) rfl hl.1 rfl (Nat.le_of_ble_eq_true rfl) dL_preach_4 ⟨by decide, by decide⟩) (fun hz H locs hG => ?_) (fun hz ce q9 H locs hG hce hcv hcl => ?_)
  rotate_left
  · replace hf := if_f hz hf
    by_cases c3 : q1.1 = 1
    · replace hf := if_t c3 hf
      rw [c3] at hcl
      refine vx_catch F.1.2.2.2.1 [] ⟨0, 9, 12, 18⟩ [] htab (fun z hz => nomatch hz) (by decide) (by decide) (F.1.2.2.2.2 _ m_957) (va_Nw.use rfl (hX.2.2.1.2.2.1 (.castable xNSE xNSE) (by simp [thw]))) hce hcv hcl ?_
      refine lv_astore_n (lv' := [(3, (.ref q9)), (0, .ref (w.2.2.1 0)), (1, .int x1), (2, .ref (w.2.2.1 60))]) hx hb dL_preach_12 rfl hl (by decide) rfl (fun ls hl => ?_)
      refine lv_iconst (v := 1) hx hb dL_preach_13 (by decide) ?_
      exact cw_iret F hr hlk hG hf (by decide) (by decide) dL_preach_14
    replace hf := if_f c3 hf
    cases hf
  replace hf := if_t hz hf
  refine W.widen (k := 1) (n := 6) (by decide) (by decide) ?_
  refine lv_i2l hx hb dL_preach_7 rfl ?_
  refine g_last F hG oC_60 (by decide) dL_preach_8 (fun H locs hG => ?_)
  refine lv_goto (tgt := 15) hx hb dL_preach_9 (by decide) ?_
  refine lv_iconst (v := 0) hx hb dL_preach_15 (by decide) ?_
  exact cw_iret F hr hlk hG hf (by decide) (by decide) dL_preach_16

def f_L_mortar (n : Nat) (x1 : Int32) (M : Mem) : Option (Int32 × Mem) := bd (f_X8_mortar n x1 M) (fun q1 => if q1.1 = 0 then (some ((0 : Int32), sj q1.2.2 60 (0 : Int32).toNatClampNeg q1.2.1.toInt64)) else (if q1.1 = 1 then (some ((1 : Int32), q1.2.2)) else (none)))
set_option maxHeartbeats 4000000 in
set_option maxRecDepth 100000 in
theorem c_L_mortar (l : Launch) (w : Wd) (hst : l.stackTraces = false) (n : Nat) (x1 : Int32) (M : Mem) (res : Int32 × Mem) (hf : f_L_mortar n  x1 M = some res) : CGW l w layC 61 (XN (YC w)) yL_mortar cL_mortar 4 (some .int) [(0, 9, 12, 18)] 7 1 [.ref (w.2.2.1 0), .int x1, .ref (w.2.2.1 60)] M (GQi w layC 61 res) := by
  refine cw_start (by decide +kernel) (Nat.le_of_ble_eq_true rfl) ?_
  intro p e s m args below meth c F hr hlk htab hX hG ls hl
  have F : FX w p m c cL_mortar 4 s args RL := F
  have hx := F.1.1
  have hb := F.1.2.1
  have hl : lv_has ls 4 [(0, .ref (w.2.2.1 0)), (1, .int x1), (2, .ref (w.2.2.1 60))] := hl
  unfold f_L_mortar at hf
  refine lv_aload_n hx hb dL_mortar_0 rfl (lv_at hl 2 rfl) ?_
  refine lv_iconst (v := 0) hx hb dL_mortar_1 (by decide) ?_
  refine lv_aload_n hx hb dL_mortar_2 rfl (lv_at hl 0 rfl) ?_
  refine lv_iload_n hx hb dL_mortar_3 rfl (lv_at hl 1 rfl) ?_
  replace hf := bd_some hf
  obtain ⟨q1, eq1, hf⟩ := hf
  refine gx_ycalli hG (gx_xrunV (xn_ok (yc_ok w)) F hX hG (c_X8_mortar l w hst n x1 _ _ eq1) cv_L_30 ⟨Nat.le_of_ble_eq_true rfl, Nat.le_of_ble_eq_true rfl⟩ (g_recv F hG ct_0 (by decide) rfl) rfl hl.1 rfl (Nat.le_of_ble_eq_true rfl) dL_mortar_4 ⟨by decide, by decide⟩) (fun hz H locs hG => ?_) (fun hz ce q9 H locs hG hce hcv hcl => ?_)
  rotate_left
  · replace hf := if_f hz hf
    by_cases c3 : q1.1 = 1
    · replace hf := if_t c3 hf
      rw [c3] at hcl
      refine vx_catch F.1.2.2.2.1 [] ⟨0, 9, 12, 18⟩ [] htab (fun z hz => nomatch hz) (by decide) (by decide) (F.1.2.2.2.2 _ m_957) (va_Nw.use rfl (hX.2.2.1.2.2.1 (.castable xNSE xNSE) (by simp [thw]))) hce hcv hcl ?_
      refine lv_astore_n (lv' := [(3, (.ref q9)), (0, .ref (w.2.2.1 0)), (1, .int x1), (2, .ref (w.2.2.1 60))]) hx hb dL_mortar_12 rfl hl (by decide) rfl (fun ls hl => ?_)
      refine lv_iconst (v := 1) hx hb dL_mortar_13 (by decide) ?_
      exact cw_iret F hr hlk hG hf (by decide) (by decide) dL_mortar_14
    replace hf := if_f c3 hf
    cases hf
  replace hf := if_t hz hf
  refine W.widen (k := 1) (n := 6) (by decide) (by decide) ?_
  refine lv_i2l hx hb dL_mortar_7 rfl ?_
  refine g_last F hG oC_60 (by decide) dL_mortar_8 (fun H locs hG => ?_)
  refine lv_goto (tgt := 15) hx hb dL_mortar_9 (by decide) ?_
  refine lv_iconst (v := 0) hx hb dL_mortar_15 (by decide) ?_
  exact cw_iret F hr hlk hG hf (by decide) (by decide) dL_mortar_16

def f_L_street (n : Nat) (x1 : Int32) (x2 : Int32) (x3 : Int32) (M : Mem) : Option (Int32 × Mem) := bd (f_X8_street n x1 x2 x3 M) (fun q1 => if q1.1 = 0 then (if q1.2.1 = 0 then (some ((0 : Int32), sj q1.2.2 60 (0 : Int32).toNatClampNeg (0 : Int64))) else (some ((0 : Int32), sj q1.2.2 60 (0 : Int32).toNatClampNeg (1 : Int64)))) else (if q1.1 = 1 then (some ((1 : Int32), q1.2.2)) else (none)))
set_option maxHeartbeats 4000000 in
set_option maxRecDepth 100000 in
theorem c_L_street (l : Launch) (w : Wd) (hst : l.stackTraces = false) (n : Nat) (x1 : Int32) (x2 : Int32) (x3 : Int32) (M : Mem) (res : Int32 × Mem) (hf : f_L_street n  x1 x2 x3 M = some res) : CGW l w layC 61 (XN (YC w)) yL_street cL_street 6 (some .int) [(0, 19, 22, 18)] 8 2 [.ref (w.2.2.1 0), .int x1, .int x2, .int x3, .ref (w.2.2.1 60)] M (GQi w layC 61 res) := by
  refine cw_start (by decide +kernel) (Nat.le_of_ble_eq_true rfl) ?_
  intro p e s m args below meth c F hr hlk htab hX hG ls hl
  have F : FX w p m c cL_street 6 s args RL := F
  have hx := F.1.1
  have hb := F.1.2.1
  have hl : lv_has ls 6 [(0, .ref (w.2.2.1 0)), (1, .int x1), (2, .int x2), (3, .int x3), (4, .ref (w.2.2.1 60))] := hl
  unfold f_L_street at hf
  refine lv_aload hx hb dL_street_0 (lv_at hl 4 rfl) ?_
  refine lv_iconst (v := 0) hx hb dL_street_2 (by decide) ?_
  refine lv_aload_n hx hb dL_street_3 rfl (lv_at hl 0 rfl) ?_
  refine lv_iload_n hx hb dL_street_4 rfl (lv_at hl 1 rfl) ?_
  refine lv_iload_n hx hb dL_street_5 rfl (lv_at hl 2 rfl) ?_
  refine lv_iload_n hx hb dL_street_6 rfl (lv_at hl 3 rfl) ?_
  replace hf := bd_some hf
  obtain ⟨q1, eq1, hf⟩ := hf
  refine gx_ycalli hG (gx_xrunV (xn_ok (yc_ok w)) F hX hG (c_X8_street l w hst n x1 x2 x3 _ _ eq1) cv_L_33 ⟨Nat.le_of_ble_eq_true rfl, Nat.le_of_ble_eq_true rfl⟩ (g_recv F hG ct_0 (by decide) rfl) rfl hl.1 rfl (Nat.le_of_ble_eq_true rfl) dL_street_7 ⟨by decide, by decide⟩) (fun hz H locs hG => ?_) (fun hz ce q9 H locs hG hce hcv hcl => ?_)
  rotate_left
  · replace hf := if_f hz hf
    by_cases c3 : q1.1 = 1
    · replace hf := if_t c3 hf
      rw [c3] at hcl
      refine vx_catch F.1.2.2.2.1 [] ⟨0, 19, 22, 18⟩ [] htab (fun z hz => nomatch hz) (by decide) (by decide) (F.1.2.2.2.2 _ m_957) (va_Nw.use rfl (hX.2.2.1.2.2.1 (.castable xNSE xNSE) (by simp [thw]))) hce hcv hcl ?_
      refine lv_astore (lv' := [(5, (.ref q9)), (0, .ref (w.2.2.1 0)), (1, .int x1), (2, .int x2), (3, .int x3), (4, .ref (w.2.2.1 60))]) hx hb dL_street_22 hl (by decide) rfl (fun ls hl => ?_)
      refine lv_iconst (v := 1) hx hb dL_street_24 (by decide) ?_
      exact cw_iret F hr hlk hG hf (by decide) (by decide) dL_street_25
    replace hf := if_f c3 hf
    cases hf
  replace hf := if_t hz hf
  refine W.widen (k := 2) (n := 12) (by decide) (by decide) ?_
  refine lv_if_eq (tgt := 17) hx hb dL_street_10 (by decide) (fun c4 => ?_) (fun c4 => ?_)
  · replace hf := if_t c4 hf
    refine lv_lconst (v := 0) hx hb dL_street_17 (by decide) ?_
    refine g_last F hG oC_60 (by decide) dL_street_18 (fun H locs hG => ?_)
    refine lv_goto (tgt := 26) hx hb dL_street_19 (by decide) ?_
    refine lv_iconst (v := 0) hx hb dL_street_26 (by decide) ?_
    exact cw_iret F hr hlk hG hf (by decide) (by decide) dL_street_27
  · replace hf := if_f c4 hf
    refine lv_lconst (v := 1) hx hb dL_street_13 (by decide) ?_
    refine lv_goto (tgt := 18) hx hb dL_street_14 (by decide) ?_
    refine g_last F hG oC_60 (by decide) dL_street_18 (fun H locs hG => ?_)
    refine lv_goto (tgt := 26) hx hb dL_street_19 (by decide) ?_
    refine lv_iconst (v := 0) hx hb dL_street_26 (by decide) ?_
    exact cw_iret F hr hlk hG hf (by decide) (by decide) dL_street_27

def f_L_then (n : Nat) (x1 : Int32) (x2 : Int32) (M : Mem) : Option (Int32 × Mem) := bd (f_X8_then n x1 x2 M) (fun q1 => if q1.1 = 0 then (some ((0 : Int32), sj q1.2.2 60 (0 : Int32).toNatClampNeg q1.2.1.toInt64)) else (if q1.1 = 1 then (some ((1 : Int32), q1.2.2)) else (if q1.1 = 2 then (some ((2 : Int32), q1.2.2)) else (none))))
set_option maxHeartbeats 4000000 in
set_option maxRecDepth 100000 in
theorem c_L_then (l : Launch) (w : Wd) (hst : l.stackTraces = false) (n : Nat) (x1 : Int32) (x2 : Int32) (M : Mem) (res : Int32 × Mem) (hf : f_L_then n  x1 x2 M = some res) : CGW l w layC 61 (XN (YC w)) yL_then cL_then 5 (some .int) [(0, 10, 13, 18), (0, 10, 17, 13)] 8 2 [.ref (w.2.2.1 0), .int x1, .int x2, .ref (w.2.2.1 60)] M (GQi w layC 61 res) := by
  refine cw_start (by decide +kernel) (Nat.le_of_ble_eq_true rfl) ?_
  intro p e s m args below meth c F hr hlk htab hX hG ls hl
  have F : FX w p m c cL_then 5 s args RL := F
  have hx := F.1.1
  have hb := F.1.2.1
  have hl : lv_has ls 5 [(0, .ref (w.2.2.1 0)), (1, .int x1), (2, .int x2), (3, .ref (w.2.2.1 60))] := hl
  unfold f_L_then at hf
  refine lv_aload_n hx hb dL_then_0 rfl (lv_at hl 3 rfl) ?_
  refine lv_iconst (v := 0) hx hb dL_then_1 (by decide) ?_
  refine lv_aload_n hx hb dL_then_2 rfl (lv_at hl 0 rfl) ?_
  refine lv_iload_n hx hb dL_then_3 rfl (lv_at hl 1 rfl) ?_
  refine lv_iload_n hx hb dL_then_4 rfl (lv_at hl 2 rfl) ?_
  replace hf := bd_some hf
  obtain ⟨q1, eq1, hf⟩ := hf
  refine gx_ycalli hG (gx_xrunV (xn_ok (yc_ok w)) F hX hG (c_X8_then l w hst n x1 x2 _ _ eq1) cv_L_37 ⟨Nat.le_of_ble_eq_true rfl, Nat.le_of_ble_eq_true rfl⟩ (g_recv F hG ct_0 (by decide) rfl) rfl hl.1 rfl (Nat.le_of_ble_eq_true rfl) dL_then_5 ⟨by decide, by decide⟩) (fun hz H locs hG => ?_) (fun hz ce q9 H locs hG hce hcv hcl => ?_)
  rotate_left
  · replace hf := if_f hz hf
    by_cases c3 : q1.1 = 1
    · replace hf := if_t c3 hf
      rw [c3] at hcl
      refine vx_catch F.1.2.2.2.1 [] ⟨0, 10, 13, 18⟩ [⟨0, 10, 17, 13⟩] htab (fun z hz => nomatch hz) (by decide) (by decide) (F.1.2.2.2.2 _ m_957) (va_Nw.use rfl (hX.2.2.1.2.2.1 (.castable xNSE xNSE) (by simp [thw]))) hce hcv hcl ?_
      refine lv_astore (lv' := [(4, (.ref q9)), (0, .ref (w.2.2.1 0)), (1, .int x1), (2, .int x2), (3, .ref (w.2.2.1 60))]) hx hb dL_then_13 hl (by decide) rfl (fun ls hl => ?_)
      refine lv_iconst (v := 1) hx hb dL_then_15 (by decide) ?_
      exact cw_iret F hr hlk hG hf (by decide) (by decide) dL_then_16
    replace hf := if_f c3 hf
    by_cases c4 : q1.1 = 2
    · replace hf := if_t c4 hf
      rw [c4] at hcl
      refine vx_catch F.1.2.2.2.1 [⟨0, 10, 13, 18⟩] ⟨0, 10, 17, 13⟩ [] htab (fun z hz => Or.inr (by cases List.mem_singleton.mp hz; exact ⟨by decide, xNSE, F.1.2.2.2.2 _ m_957, hX.2.2.1.2.2.2.2⟩)) (by decide) (by decide) (F.1.2.2.2.2 _ m_604) (va_Nw.use rfl (hX.2.2.1.2.2.1 (.castable xIAE xIAE) (by simp [thw]))) hce hcv hcl ?_
      refine lv_astore (lv' := [(4, (.ref q9)), (0, .ref (w.2.2.1 0)), (1, .int x1), (2, .int x2), (3, .ref (w.2.2.1 60))]) hx hb dL_then_17 hl (by decide) rfl (fun ls hl => ?_)
      refine lv_iconst (v := 2) hx hb dL_then_19 (by decide) ?_
      exact cw_iret F hr hlk hG hf (by decide) (by decide) dL_then_20
    replace hf := if_f c4 hf
    cases hf
  replace hf := if_t hz hf
  refine W.widen (k := 2) (n := 12) (by decide) (by decide) ?_
  refine lv_i2l hx hb dL_then_8 rfl ?_
  refine g_last F hG oC_60 (by decide) dL_then_9 (fun H locs hG => ?_)
  refine lv_goto (tgt := 21) hx hb dL_then_10 (by decide) ?_
  refine lv_iconst (v := 0) hx hb dL_then_21 (by decide) ?_
  exact cw_iret F hr hlk hG hf (by decide) (by decide) dL_then_22

def f_L_wardThen (n : Nat) (x1 : Int32) (x2 : Int32) (x3 : Int32) (M : Mem) : Option (Int32 × Mem) := bd (f_X8_wardThen n x1 x2 x3 M) (fun q1 => if q1.1 = 0 then (some ((0 : Int32), sj q1.2.2 60 (0 : Int32).toNatClampNeg q1.2.1.toInt64)) else (if q1.1 = 1 then (some ((1 : Int32), q1.2.2)) else (if q1.1 = 2 then (some ((2 : Int32), q1.2.2)) else (none))))
set_option maxHeartbeats 4000000 in
set_option maxRecDepth 100000 in
theorem c_L_wardThen (l : Launch) (w : Wd) (hst : l.stackTraces = false) (n : Nat) (x1 : Int32) (x2 : Int32) (x3 : Int32) (M : Mem) (res : Int32 × Mem) (hf : f_L_wardThen n  x1 x2 x3 M = some res) : CGW l w layC 61 (XN (YC w)) yL_wardThen cL_wardThen 6 (some .int) [(0, 12, 15, 18), (0, 12, 19, 13)] 8 3 [.ref (w.2.2.1 0), .int x1, .int x2, .int x3, .ref (w.2.2.1 60)] M (GQi w layC 61 res) := by
  refine cw_start (by decide +kernel) (Nat.le_of_ble_eq_true rfl) ?_
  intro p e s m args below meth c F hr hlk htab hX hG ls hl
  have F : FX w p m c cL_wardThen 6 s args RL := F
  have hx := F.1.1
  have hb := F.1.2.1
  have hl : lv_has ls 6 [(0, .ref (w.2.2.1 0)), (1, .int x1), (2, .int x2), (3, .int x3), (4, .ref (w.2.2.1 60))] := hl
  unfold f_L_wardThen at hf
  refine lv_aload hx hb dL_wardThen_0 (lv_at hl 4 rfl) ?_
  refine lv_iconst (v := 0) hx hb dL_wardThen_2 (by decide) ?_
  refine lv_aload_n hx hb dL_wardThen_3 rfl (lv_at hl 0 rfl) ?_
  refine lv_iload_n hx hb dL_wardThen_4 rfl (lv_at hl 1 rfl) ?_
  refine lv_iload_n hx hb dL_wardThen_5 rfl (lv_at hl 2 rfl) ?_
  refine lv_iload_n hx hb dL_wardThen_6 rfl (lv_at hl 3 rfl) ?_
  replace hf := bd_some hf
  obtain ⟨q1, eq1, hf⟩ := hf
  refine gx_ycalli hG (gx_xrunV (xn_ok (yc_ok w)) F hX hG (c_X8_wardThen l w hst n x1 x2 x3 _ _ eq1) cv_L_40 ⟨Nat.le_of_ble_eq_true rfl, Nat.le_of_ble_eq_true rfl⟩ (g_recv F hG ct_0 (by decide) rfl) rfl hl.1 rfl (Nat.le_of_ble_eq_true rfl) dL_wardThen_7 ⟨by decide, by decide⟩) (fun hz H locs hG => ?_) (fun hz ce q9 H locs hG hce hcv hcl => ?_)
  rotate_left
  · replace hf := if_f hz hf
    by_cases c3 : q1.1 = 1
    · replace hf := if_t c3 hf
      rw [c3] at hcl
      refine vx_catch F.1.2.2.2.1 [] ⟨0, 12, 15, 18⟩ [⟨0, 12, 19, 13⟩] htab (fun z hz => nomatch hz) (by decide) (by decide) (F.1.2.2.2.2 _ m_957) (va_Nw.use rfl (hX.2.2.1.2.2.1 (.castable xNSE xNSE) (by simp [thw]))) hce hcv hcl ?_
      refine lv_astore (lv' := [(5, (.ref q9)), (0, .ref (w.2.2.1 0)), (1, .int x1), (2, .int x2), (3, .int x3), (4, .ref (w.2.2.1 60))]) hx hb dL_wardThen_15 hl (by decide) rfl (fun ls hl => ?_)
      refine lv_iconst (v := 1) hx hb dL_wardThen_17 (by decide) ?_
      exact cw_iret F hr hlk hG hf (by decide) (by decide) dL_wardThen_18
    replace hf := if_f c3 hf
    by_cases c4 : q1.1 = 2
    · replace hf := if_t c4 hf
      rw [c4] at hcl
      refine vx_catch F.1.2.2.2.1 [⟨0, 12, 15, 18⟩] ⟨0, 12, 19, 13⟩ [] htab (fun z hz => Or.inr (by cases List.mem_singleton.mp hz; exact ⟨by decide, xNSE, F.1.2.2.2.2 _ m_957, hX.2.2.1.2.2.2.2⟩)) (by decide) (by decide) (F.1.2.2.2.2 _ m_604) (va_Nw.use rfl (hX.2.2.1.2.2.1 (.castable xIAE xIAE) (by simp [thw]))) hce hcv hcl ?_
      refine lv_astore (lv' := [(5, (.ref q9)), (0, .ref (w.2.2.1 0)), (1, .int x1), (2, .int x2), (3, .int x3), (4, .ref (w.2.2.1 60))]) hx hb dL_wardThen_19 hl (by decide) rfl (fun ls hl => ?_)
      refine lv_iconst (v := 2) hx hb dL_wardThen_21 (by decide) ?_
      exact cw_iret F hr hlk hG hf (by decide) (by decide) dL_wardThen_22
    replace hf := if_f c4 hf
    cases hf
  replace hf := if_t hz hf
  refine W.widen (k := 3) (n := 18) (by decide) (by decide) ?_
  refine lv_i2l hx hb dL_wardThen_10 rfl ?_
  refine g_last F hG oC_60 (by decide) dL_wardThen_11 (fun H locs hG => ?_)
  refine lv_goto (tgt := 23) hx hb dL_wardThen_12 (by decide) ?_
  refine lv_iconst (v := 0) hx hb dL_wardThen_23 (by decide) ?_
  exact cw_iret F hr hlk hG hf (by decide) (by decide) dL_wardThen_24

def f_L_reaches (n : Nat) (x1 : Int32) (M : Mem) : Option (Int32 × Mem) := bd (f_X8_reaches n x1 M) (fun q1 => if q1.1 = 0 then (some ((0 : Int32), sj q1.2.2 60 (0 : Int32).toNatClampNeg q1.2.1.toInt64)) else (if q1.1 = 2 then (some ((1 : Int32), q1.2.2)) else (none)))
set_option maxHeartbeats 4000000 in
set_option maxRecDepth 100000 in
theorem c_L_reaches (l : Launch) (w : Wd) (hst : l.stackTraces = false) (n : Nat) (x1 : Int32) (M : Mem) (res : Int32 × Mem) (hf : f_L_reaches n  x1 M = some res) : CGW l w layC 61 (XN (YC w)) yL_reaches cL_reaches 4 (some .int) [(0, 9, 12, 13)] 8 1 [.ref (w.2.2.1 0), .int x1, .ref (w.2.2.1 60)] M (GQi w layC 61 res) := by
  refine cw_start (by decide +kernel) (Nat.le_of_ble_eq_true rfl) ?_
  intro p e s m args below meth c F hr hlk htab hX hG ls hl
  have F : FX w p m c cL_reaches 4 s args RL := F
  have hx := F.1.1
  have hb := F.1.2.1
  have hl : lv_has ls 4 [(0, .ref (w.2.2.1 0)), (1, .int x1), (2, .ref (w.2.2.1 60))] := hl
  unfold f_L_reaches at hf
  refine lv_aload_n hx hb dL_reaches_0 rfl (lv_at hl 2 rfl) ?_
  refine lv_iconst (v := 0) hx hb dL_reaches_1 (by decide) ?_
  refine lv_aload_n hx hb dL_reaches_2 rfl (lv_at hl 0 rfl) ?_
  refine lv_iload_n hx hb dL_reaches_3 rfl (lv_at hl 1 rfl) ?_
  replace hf := bd_some hf
  obtain ⟨q1, eq1, hf⟩ := hf
  refine gx_ycalli hG (gx_xrunV (xn_ok (yc_ok w)) F hX hG (c_X8_reaches l w hst n x1 _ _ eq1) cv_L_44 ⟨Nat.le_of_ble_eq_true rfl, Nat.le_of_ble_eq_true rfl⟩ (g_recv F hG ct_0 (by decide) rfl) rfl hl.1 rfl (Nat.le_of_ble_eq_true rfl) dL_reaches_4 ⟨by decide, by decide⟩) (fun hz H locs hG => ?_) (fun hz ce q9 H locs hG hce hcv hcl => ?_)
  rotate_left
  · replace hf := if_f hz hf
    by_cases c3 : q1.1 = 2
    · replace hf := if_t c3 hf
      rw [c3] at hcl
      refine vx_catch F.1.2.2.2.1 [] ⟨0, 9, 12, 13⟩ [] htab (fun z hz => nomatch hz) (by decide) (by decide) (F.1.2.2.2.2 _ m_604) (va_Nw.use rfl (hX.2.2.1.2.2.1 (.castable xIAE xIAE) (by simp [thw]))) hce hcv hcl ?_
      refine lv_astore_n (lv' := [(3, (.ref q9)), (0, .ref (w.2.2.1 0)), (1, .int x1), (2, .ref (w.2.2.1 60))]) hx hb dL_reaches_12 rfl hl (by decide) rfl (fun ls hl => ?_)
      refine lv_iconst (v := 1) hx hb dL_reaches_13 (by decide) ?_
      exact cw_iret F hr hlk hG hf (by decide) (by decide) dL_reaches_14
    replace hf := if_f c3 hf
    cases hf
  replace hf := if_t hz hf
  refine W.widen (k := 1) (n := 6) (by decide) (by decide) ?_
  refine lv_i2l hx hb dL_reaches_7 rfl ?_
  refine g_last F hG oC_60 (by decide) dL_reaches_8 (fun H locs hG => ?_)
  refine lv_goto (tgt := 15) hx hb dL_reaches_9 (by decide) ?_
  refine lv_iconst (v := 0) hx hb dL_reaches_15 (by decide) ?_
  exact cw_iret F hr hlk hG hf (by decide) (by decide) dL_reaches_16

def f_L_later (n : Nat) (x1 : Int32) (x2 : Int32) (M : Mem) : Option (Int32 × Mem) := bd (f_X8_later n x1 x2 M) (fun q1 => if q1.1 = 0 then (some ((0 : Int32), sj q1.2.2 60 (0 : Int32).toNatClampNeg q1.2.1.toInt64)) else (if q1.1 = 1 then (some ((1 : Int32), q1.2.2)) else (if q1.1 = 2 then (some ((2 : Int32), q1.2.2)) else (none))))
set_option maxHeartbeats 4000000 in
set_option maxRecDepth 100000 in
theorem c_L_later (l : Launch) (w : Wd) (hst : l.stackTraces = false) (n : Nat) (x1 : Int32) (x2 : Int32) (M : Mem) (res : Int32 × Mem) (hf : f_L_later n  x1 x2 M = some res) : CGW l w layC 61 (XN (YC w)) yL_later cL_later 5 (some .int) [(0, 10, 13, 18), (0, 10, 17, 13)] 8 2 [.ref (w.2.2.1 0), .int x1, .int x2, .ref (w.2.2.1 60)] M (GQi w layC 61 res) := by
  refine cw_start (by decide +kernel) (Nat.le_of_ble_eq_true rfl) ?_
  intro p e s m args below meth c F hr hlk htab hX hG ls hl
  have F : FX w p m c cL_later 5 s args RL := F
  have hx := F.1.1
  have hb := F.1.2.1
  have hl : lv_has ls 5 [(0, .ref (w.2.2.1 0)), (1, .int x1), (2, .int x2), (3, .ref (w.2.2.1 60))] := hl
  unfold f_L_later at hf
  refine lv_aload_n hx hb dL_later_0 rfl (lv_at hl 3 rfl) ?_
  refine lv_iconst (v := 0) hx hb dL_later_1 (by decide) ?_
  refine lv_aload_n hx hb dL_later_2 rfl (lv_at hl 0 rfl) ?_
  refine lv_iload_n hx hb dL_later_3 rfl (lv_at hl 1 rfl) ?_
  refine lv_iload_n hx hb dL_later_4 rfl (lv_at hl 2 rfl) ?_
  replace hf := bd_some hf
  obtain ⟨q1, eq1, hf⟩ := hf
  refine gx_ycalli hG (gx_xrunV (xn_ok (yc_ok w)) F hX hG (c_X8_later l w hst n x1 x2 _ _ eq1) cv_L_47 ⟨Nat.le_of_ble_eq_true rfl, Nat.le_of_ble_eq_true rfl⟩ (g_recv F hG ct_0 (by decide) rfl) rfl hl.1 rfl (Nat.le_of_ble_eq_true rfl) dL_later_5 ⟨by decide, by decide⟩) (fun hz H locs hG => ?_) (fun hz ce q9 H locs hG hce hcv hcl => ?_)
  rotate_left
  · replace hf := if_f hz hf
    by_cases c3 : q1.1 = 1
    · replace hf := if_t c3 hf
      rw [c3] at hcl
      refine vx_catch F.1.2.2.2.1 [] ⟨0, 10, 13, 18⟩ [⟨0, 10, 17, 13⟩] htab (fun z hz => nomatch hz) (by decide) (by decide) (F.1.2.2.2.2 _ m_957) (va_Nw.use rfl (hX.2.2.1.2.2.1 (.castable xNSE xNSE) (by simp [thw]))) hce hcv hcl ?_
      refine lv_astore (lv' := [(4, (.ref q9)), (0, .ref (w.2.2.1 0)), (1, .int x1), (2, .int x2), (3, .ref (w.2.2.1 60))]) hx hb dL_later_13 hl (by decide) rfl (fun ls hl => ?_)
      refine lv_iconst (v := 1) hx hb dL_later_15 (by decide) ?_
      exact cw_iret F hr hlk hG hf (by decide) (by decide) dL_later_16
    replace hf := if_f c3 hf
    by_cases c4 : q1.1 = 2
    · replace hf := if_t c4 hf
      rw [c4] at hcl
      refine vx_catch F.1.2.2.2.1 [⟨0, 10, 13, 18⟩] ⟨0, 10, 17, 13⟩ [] htab (fun z hz => Or.inr (by cases List.mem_singleton.mp hz; exact ⟨by decide, xNSE, F.1.2.2.2.2 _ m_957, hX.2.2.1.2.2.2.2⟩)) (by decide) (by decide) (F.1.2.2.2.2 _ m_604) (va_Nw.use rfl (hX.2.2.1.2.2.1 (.castable xIAE xIAE) (by simp [thw]))) hce hcv hcl ?_
      refine lv_astore (lv' := [(4, (.ref q9)), (0, .ref (w.2.2.1 0)), (1, .int x1), (2, .int x2), (3, .ref (w.2.2.1 60))]) hx hb dL_later_17 hl (by decide) rfl (fun ls hl => ?_)
      refine lv_iconst (v := 2) hx hb dL_later_19 (by decide) ?_
      exact cw_iret F hr hlk hG hf (by decide) (by decide) dL_later_20
    replace hf := if_f c4 hf
    cases hf
  replace hf := if_t hz hf
  refine W.widen (k := 2) (n := 12) (by decide) (by decide) ?_
  refine lv_i2l hx hb dL_later_8 rfl ?_
  refine g_last F hG oC_60 (by decide) dL_later_9 (fun H locs hG => ?_)
  refine lv_goto (tgt := 21) hx hb dL_later_10 (by decide) ?_
  refine lv_iconst (v := 0) hx hb dL_later_21 (by decide) ?_
  exact cw_iret F hr hlk hG hf (by decide) (by decide) dL_later_22

def f_L_through (n : Nat) (x1 : Int32) (x2 : Int32) (M : Mem) : Option (Int32 × Mem) := bd (f_X8_through n x1 x2 M) (fun q1 => if q1.1 = 0 then (some ((0 : Int32), sj q1.2.2 60 (0 : Int32).toNatClampNeg q1.2.1.toInt64)) else (if q1.1 = 1 then (some ((1 : Int32), q1.2.2)) else (if q1.1 = 2 then (some ((2 : Int32), q1.2.2)) else (none))))
set_option maxHeartbeats 4000000 in
set_option maxRecDepth 100000 in
theorem c_L_through (l : Launch) (w : Wd) (hst : l.stackTraces = false) (n : Nat) (x1 : Int32) (x2 : Int32) (M : Mem) (res : Int32 × Mem) (hf : f_L_through n  x1 x2 M = some res) : CGW l w layC 61 (XN (YC w)) yL_through cL_through 5 (some .int) [(0, 10, 13, 18), (0, 10, 17, 13)] 8 2 [.ref (w.2.2.1 0), .int x1, .int x2, .ref (w.2.2.1 60)] M (GQi w layC 61 res) := by
  refine cw_start (by decide +kernel) (Nat.le_of_ble_eq_true rfl) ?_
  intro p e s m args below meth c F hr hlk htab hX hG ls hl
  have F : FX w p m c cL_through 5 s args RL := F
  have hx := F.1.1
  have hb := F.1.2.1
  have hl : lv_has ls 5 [(0, .ref (w.2.2.1 0)), (1, .int x1), (2, .int x2), (3, .ref (w.2.2.1 60))] := hl
  unfold f_L_through at hf
  refine lv_aload_n hx hb dL_through_0 rfl (lv_at hl 3 rfl) ?_
  refine lv_iconst (v := 0) hx hb dL_through_1 (by decide) ?_
  refine lv_aload_n hx hb dL_through_2 rfl (lv_at hl 0 rfl) ?_
  refine lv_iload_n hx hb dL_through_3 rfl (lv_at hl 1 rfl) ?_
  refine lv_iload_n hx hb dL_through_4 rfl (lv_at hl 2 rfl) ?_
  replace hf := bd_some hf
  obtain ⟨q1, eq1, hf⟩ := hf
  refine gx_ycalli hG (gx_xrunV (xn_ok (yc_ok w)) F hX hG (c_X8_through l w hst n x1 x2 _ _ eq1) cv_L_50 ⟨Nat.le_of_ble_eq_true rfl, Nat.le_of_ble_eq_true rfl⟩ (g_recv F hG ct_0 (by decide) rfl) rfl hl.1 rfl (Nat.le_of_ble_eq_true rfl) dL_through_5 ⟨by decide, by decide⟩) (fun hz H locs hG => ?_) (fun hz ce q9 H locs hG hce hcv hcl => ?_)
  rotate_left
  · replace hf := if_f hz hf
    by_cases c3 : q1.1 = 1
    · replace hf := if_t c3 hf
      rw [c3] at hcl
      refine vx_catch F.1.2.2.2.1 [] ⟨0, 10, 13, 18⟩ [⟨0, 10, 17, 13⟩] htab (fun z hz => nomatch hz) (by decide) (by decide) (F.1.2.2.2.2 _ m_957) (va_Nw.use rfl (hX.2.2.1.2.2.1 (.castable xNSE xNSE) (by simp [thw]))) hce hcv hcl ?_
      refine lv_astore (lv' := [(4, (.ref q9)), (0, .ref (w.2.2.1 0)), (1, .int x1), (2, .int x2), (3, .ref (w.2.2.1 60))]) hx hb dL_through_13 hl (by decide) rfl (fun ls hl => ?_)
      refine lv_iconst (v := 1) hx hb dL_through_15 (by decide) ?_
      exact cw_iret F hr hlk hG hf (by decide) (by decide) dL_through_16
    replace hf := if_f c3 hf
    by_cases c4 : q1.1 = 2
    · replace hf := if_t c4 hf
      rw [c4] at hcl
      refine vx_catch F.1.2.2.2.1 [⟨0, 10, 13, 18⟩] ⟨0, 10, 17, 13⟩ [] htab (fun z hz => Or.inr (by cases List.mem_singleton.mp hz; exact ⟨by decide, xNSE, F.1.2.2.2.2 _ m_957, hX.2.2.1.2.2.2.2⟩)) (by decide) (by decide) (F.1.2.2.2.2 _ m_604) (va_Nw.use rfl (hX.2.2.1.2.2.1 (.castable xIAE xIAE) (by simp [thw]))) hce hcv hcl ?_
      refine lv_astore (lv' := [(4, (.ref q9)), (0, .ref (w.2.2.1 0)), (1, .int x1), (2, .int x2), (3, .ref (w.2.2.1 60))]) hx hb dL_through_17 hl (by decide) rfl (fun ls hl => ?_)
      refine lv_iconst (v := 2) hx hb dL_through_19 (by decide) ?_
      exact cw_iret F hr hlk hG hf (by decide) (by decide) dL_through_20
    replace hf := if_f c4 hf
    cases hf
  replace hf := if_t hz hf
  refine W.widen (k := 2) (n := 12) (by decide) (by decide) ?_
  refine lv_i2l hx hb dL_through_8 rfl ?_
  refine g_last F hG oC_60 (by decide) dL_through_9 (fun H locs hG => ?_)
  refine lv_goto (tgt := 21) hx hb dL_through_10 (by decide) ?_
  refine lv_iconst (v := 0) hx hb dL_through_21 (by decide) ?_
  exact cw_iret F hr hlk hG hf (by decide) (by decide) dL_through_22

def f_L_pious (n : Nat) (x1 : Int32) (x2 : Int32) (M : Mem) : Option (Int32 × Mem) := bd (f_X8_pious n x1 x2 M) (fun q1 => if q1.1 = 0 then (some ((0 : Int32), sj q1.2.2 60 (0 : Int32).toNatClampNeg q1.2.1.toInt64)) else (if q1.1 = 1 then (some ((1 : Int32), q1.2.2)) else (if q1.1 = 2 then (some ((2 : Int32), q1.2.2)) else (none))))
set_option maxHeartbeats 4000000 in
set_option maxRecDepth 100000 in
theorem c_L_pious (l : Launch) (w : Wd) (hst : l.stackTraces = false) (n : Nat) (x1 : Int32) (x2 : Int32) (M : Mem) (res : Int32 × Mem) (hf : f_L_pious n  x1 x2 M = some res) : CGW l w layC 61 (XN (YC w)) yL_pious cL_pious 5 (some .int) [(0, 10, 13, 18), (0, 10, 17, 13)] 8 2 [.ref (w.2.2.1 0), .int x1, .int x2, .ref (w.2.2.1 60)] M (GQi w layC 61 res) := by
  refine cw_start (by decide +kernel) (Nat.le_of_ble_eq_true rfl) ?_
  intro p e s m args below meth c F hr hlk htab hX hG ls hl
  have F : FX w p m c cL_pious 5 s args RL := F
  have hx := F.1.1
  have hb := F.1.2.1
  have hl : lv_has ls 5 [(0, .ref (w.2.2.1 0)), (1, .int x1), (2, .int x2), (3, .ref (w.2.2.1 60))] := hl
  unfold f_L_pious at hf
  refine lv_aload_n hx hb dL_pious_0 rfl (lv_at hl 3 rfl) ?_
  refine lv_iconst (v := 0) hx hb dL_pious_1 (by decide) ?_
  refine lv_aload_n hx hb dL_pious_2 rfl (lv_at hl 0 rfl) ?_
  refine lv_iload_n hx hb dL_pious_3 rfl (lv_at hl 1 rfl) ?_
  refine lv_iload_n hx hb dL_pious_4 rfl (lv_at hl 2 rfl) ?_
  replace hf := bd_some hf
  obtain ⟨q1, eq1, hf⟩ := hf
  refine gx_ycalli hG (gx_xrunV (xn_ok (yc_ok w)) F hX hG (c_X8_pious l w hst n x1 x2 _ _ eq1) cv_L_53 ⟨Nat.le_of_ble_eq_true rfl, Nat.le_of_ble_eq_true rfl⟩ (g_recv F hG ct_0 (by decide) rfl) rfl hl.1 rfl (Nat.le_of_ble_eq_true rfl) dL_pious_5 ⟨by decide, by decide⟩) (fun hz H locs hG => ?_) (fun hz ce q9 H locs hG hce hcv hcl => ?_)
  rotate_left
  · replace hf := if_f hz hf
    by_cases c3 : q1.1 = 1
    · replace hf := if_t c3 hf
      rw [c3] at hcl
      refine vx_catch F.1.2.2.2.1 [] ⟨0, 10, 13, 18⟩ [⟨0, 10, 17, 13⟩] htab (fun z hz => nomatch hz) (by decide) (by decide) (F.1.2.2.2.2 _ m_957) (va_Nw.use rfl (hX.2.2.1.2.2.1 (.castable xNSE xNSE) (by simp [thw]))) hce hcv hcl ?_
      refine lv_astore (lv' := [(4, (.ref q9)), (0, .ref (w.2.2.1 0)), (1, .int x1), (2, .int x2), (3, .ref (w.2.2.1 60))]) hx hb dL_pious_13 hl (by decide) rfl (fun ls hl => ?_)
      refine lv_iconst (v := 1) hx hb dL_pious_15 (by decide) ?_
      exact cw_iret F hr hlk hG hf (by decide) (by decide) dL_pious_16
    replace hf := if_f c3 hf
    by_cases c4 : q1.1 = 2
    · replace hf := if_t c4 hf
      rw [c4] at hcl
      refine vx_catch F.1.2.2.2.1 [⟨0, 10, 13, 18⟩] ⟨0, 10, 17, 13⟩ [] htab (fun z hz => Or.inr (by cases List.mem_singleton.mp hz; exact ⟨by decide, xNSE, F.1.2.2.2.2 _ m_957, hX.2.2.1.2.2.2.2⟩)) (by decide) (by decide) (F.1.2.2.2.2 _ m_604) (va_Nw.use rfl (hX.2.2.1.2.2.1 (.castable xIAE xIAE) (by simp [thw]))) hce hcv hcl ?_
      refine lv_astore (lv' := [(4, (.ref q9)), (0, .ref (w.2.2.1 0)), (1, .int x1), (2, .int x2), (3, .ref (w.2.2.1 60))]) hx hb dL_pious_17 hl (by decide) rfl (fun ls hl => ?_)
      refine lv_iconst (v := 2) hx hb dL_pious_19 (by decide) ?_
      exact cw_iret F hr hlk hG hf (by decide) (by decide) dL_pious_20
    replace hf := if_f c4 hf
    cases hf
  replace hf := if_t hz hf
  refine W.widen (k := 2) (n := 12) (by decide) (by decide) ?_
  refine lv_i2l hx hb dL_pious_8 rfl ?_
  refine g_last F hG oC_60 (by decide) dL_pious_9 (fun H locs hG => ?_)
  refine lv_goto (tgt := 21) hx hb dL_pious_10 (by decide) ?_
  refine lv_iconst (v := 0) hx hb dL_pious_21 (by decide) ?_
  exact cw_iret F hr hlk hG hf (by decide) (by decide) dL_pious_22

def f_L_far (n : Nat) (x1 : Int32) (x2 : Int32) (M : Mem) : Option (Int32 × Mem) := bd (f_X8_far n x1 x2 M) (fun q1 => if q1.1 = 0 then (some ((0 : Int32), sj q1.2.2 60 (0 : Int32).toNatClampNeg q1.2.1.toInt64)) else (if q1.1 = 1 then (some ((1 : Int32), q1.2.2)) else (none)))
set_option maxHeartbeats 4000000 in
set_option maxRecDepth 100000 in
theorem c_L_far (l : Launch) (w : Wd) (hst : l.stackTraces = false) (n : Nat) (x1 : Int32) (x2 : Int32) (M : Mem) (res : Int32 × Mem) (hf : f_L_far n  x1 x2 M = some res) : CGW l w layC 61 (XN (YC w)) yL_far cL_far 5 (some .int) [(0, 10, 13, 18)] 8 2 [.ref (w.2.2.1 0), .int x1, .int x2, .ref (w.2.2.1 60)] M (GQi w layC 61 res) := by
  refine cw_start (by decide +kernel) (Nat.le_of_ble_eq_true rfl) ?_
  intro p e s m args below meth c F hr hlk htab hX hG ls hl
  have F : FX w p m c cL_far 5 s args RL := F
  have hx := F.1.1
  have hb := F.1.2.1
  have hl : lv_has ls 5 [(0, .ref (w.2.2.1 0)), (1, .int x1), (2, .int x2), (3, .ref (w.2.2.1 60))] := hl
  unfold f_L_far at hf
  refine lv_aload_n hx hb dL_far_0 rfl (lv_at hl 3 rfl) ?_
  refine lv_iconst (v := 0) hx hb dL_far_1 (by decide) ?_
  refine lv_aload_n hx hb dL_far_2 rfl (lv_at hl 0 rfl) ?_
  refine lv_iload_n hx hb dL_far_3 rfl (lv_at hl 1 rfl) ?_
  refine lv_iload_n hx hb dL_far_4 rfl (lv_at hl 2 rfl) ?_
  replace hf := bd_some hf
  obtain ⟨q1, eq1, hf⟩ := hf
  refine gx_ycalli hG (gx_xrunV (xn_ok (yc_ok w)) F hX hG (c_X8_far l w hst n x1 x2 _ _ eq1) cv_L_56 ⟨Nat.le_of_ble_eq_true rfl, Nat.le_of_ble_eq_true rfl⟩ (g_recv F hG ct_0 (by decide) rfl) rfl hl.1 rfl (Nat.le_of_ble_eq_true rfl) dL_far_5 ⟨by decide, by decide⟩) (fun hz H locs hG => ?_) (fun hz ce q9 H locs hG hce hcv hcl => ?_)
  rotate_left
  · replace hf := if_f hz hf
    by_cases c3 : q1.1 = 1
    · replace hf := if_t c3 hf
      rw [c3] at hcl
      refine vx_catch F.1.2.2.2.1 [] ⟨0, 10, 13, 18⟩ [] htab (fun z hz => nomatch hz) (by decide) (by decide) (F.1.2.2.2.2 _ m_957) (va_Nw.use rfl (hX.2.2.1.2.2.1 (.castable xNSE xNSE) (by simp [thw]))) hce hcv hcl ?_
      refine lv_astore (lv' := [(4, (.ref q9)), (0, .ref (w.2.2.1 0)), (1, .int x1), (2, .int x2), (3, .ref (w.2.2.1 60))]) hx hb dL_far_13 hl (by decide) rfl (fun ls hl => ?_)
      refine lv_iconst (v := 1) hx hb dL_far_15 (by decide) ?_
      exact cw_iret F hr hlk hG hf (by decide) (by decide) dL_far_16
    replace hf := if_f c3 hf
    cases hf
  replace hf := if_t hz hf
  refine W.widen (k := 2) (n := 12) (by decide) (by decide) ?_
  refine lv_i2l hx hb dL_far_8 rfl ?_
  refine g_last F hG oC_60 (by decide) dL_far_9 (fun H locs hG => ?_)
  refine lv_goto (tgt := 17) hx hb dL_far_10 (by decide) ?_
  refine lv_iconst (v := 0) hx hb dL_far_17 (by decide) ?_
  exact cw_iret F hr hlk hG hf (by decide) (by decide) dL_far_18

def f_L_apart (n : Nat) (x1 : Int32) (x2 : Int32) (M : Mem) : Option (Int32 × Mem) := bd (f_X8_apart n x1 x2 M) (fun q1 => if q1.1 = 0 then (some ((0 : Int32), sj q1.2.2 60 (0 : Int32).toNatClampNeg q1.2.1.toInt64)) else (if q1.1 = 1 then (some ((1 : Int32), q1.2.2)) else (none)))
set_option maxHeartbeats 4000000 in
set_option maxRecDepth 100000 in
theorem c_L_apart (l : Launch) (w : Wd) (hst : l.stackTraces = false) (n : Nat) (x1 : Int32) (x2 : Int32) (M : Mem) (res : Int32 × Mem) (hf : f_L_apart n  x1 x2 M = some res) : CGW l w layC 61 (XN (YC w)) yL_apart cL_apart 5 (some .int) [(0, 10, 13, 18)] 8 2 [.ref (w.2.2.1 0), .int x1, .int x2, .ref (w.2.2.1 60)] M (GQi w layC 61 res) := by
  refine cw_start (by decide +kernel) (Nat.le_of_ble_eq_true rfl) ?_
  intro p e s m args below meth c F hr hlk htab hX hG ls hl
  have F : FX w p m c cL_apart 5 s args RL := F
  have hx := F.1.1
  have hb := F.1.2.1
  have hl : lv_has ls 5 [(0, .ref (w.2.2.1 0)), (1, .int x1), (2, .int x2), (3, .ref (w.2.2.1 60))] := hl
  unfold f_L_apart at hf
  refine lv_aload_n hx hb dL_apart_0 rfl (lv_at hl 3 rfl) ?_
  refine lv_iconst (v := 0) hx hb dL_apart_1 (by decide) ?_
  refine lv_aload_n hx hb dL_apart_2 rfl (lv_at hl 0 rfl) ?_
  refine lv_iload_n hx hb dL_apart_3 rfl (lv_at hl 1 rfl) ?_
  refine lv_iload_n hx hb dL_apart_4 rfl (lv_at hl 2 rfl) ?_
  replace hf := bd_some hf
  obtain ⟨q1, eq1, hf⟩ := hf
  refine gx_ycalli hG (gx_xrunV (xn_ok (yc_ok w)) F hX hG (c_X8_apart l w hst n x1 x2 _ _ eq1) cv_L_59 ⟨Nat.le_of_ble_eq_true rfl, Nat.le_of_ble_eq_true rfl⟩ (g_recv F hG ct_0 (by decide) rfl) rfl hl.1 rfl (Nat.le_of_ble_eq_true rfl) dL_apart_5 ⟨by decide, by decide⟩) (fun hz H locs hG => ?_) (fun hz ce q9 H locs hG hce hcv hcl => ?_)
  rotate_left
  · replace hf := if_f hz hf
    by_cases c3 : q1.1 = 1
    · replace hf := if_t c3 hf
      rw [c3] at hcl
      refine vx_catch F.1.2.2.2.1 [] ⟨0, 10, 13, 18⟩ [] htab (fun z hz => nomatch hz) (by decide) (by decide) (F.1.2.2.2.2 _ m_957) (va_Nw.use rfl (hX.2.2.1.2.2.1 (.castable xNSE xNSE) (by simp [thw]))) hce hcv hcl ?_
      refine lv_astore (lv' := [(4, (.ref q9)), (0, .ref (w.2.2.1 0)), (1, .int x1), (2, .int x2), (3, .ref (w.2.2.1 60))]) hx hb dL_apart_13 hl (by decide) rfl (fun ls hl => ?_)
      refine lv_iconst (v := 1) hx hb dL_apart_15 (by decide) ?_
      exact cw_iret F hr hlk hG hf (by decide) (by decide) dL_apart_16
    replace hf := if_f c3 hf
    cases hf
  replace hf := if_t hz hf
  refine W.widen (k := 2) (n := 12) (by decide) (by decide) ?_
  refine lv_i2l hx hb dL_apart_8 rfl ?_
  refine g_last F hG oC_60 (by decide) dL_apart_9 (fun H locs hG => ?_)
  refine lv_goto (tgt := 17) hx hb dL_apart_10 (by decide) ?_
  refine lv_iconst (v := 0) hx hb dL_apart_17 (by decide) ?_
  exact cw_iret F hr hlk hG hf (by decide) (by decide) dL_apart_18

def f_L_toPreach (n : Nat) (x1 : Int32) (M : Mem) : Option (Int32 × Mem) := bd (f_X8_toPreach n x1 M) (fun q1 => if q1.1 = 0 then (some ((0 : Int32), sj q1.2.2 60 (0 : Int32).toNatClampNeg q1.2.1.toInt64)) else (if q1.1 = 2 then (some ((1 : Int32), q1.2.2)) else (none)))
set_option maxHeartbeats 4000000 in
set_option maxRecDepth 100000 in
theorem c_L_toPreach (l : Launch) (w : Wd) (hst : l.stackTraces = false) (n : Nat) (x1 : Int32) (M : Mem) (res : Int32 × Mem) (hf : f_L_toPreach n  x1 M = some res) : CGW l w layC 61 (XN (YC w)) yL_toPreach cL_toPreach 4 (some .int) [(0, 9, 12, 13)] 8 1 [.ref (w.2.2.1 0), .int x1, .ref (w.2.2.1 60)] M (GQi w layC 61 res) := by
  refine cw_start (by decide +kernel) (Nat.le_of_ble_eq_true rfl) ?_
  intro p e s m args below meth c F hr hlk htab hX hG ls hl
  have F : FX w p m c cL_toPreach 4 s args RL := F
  have hx := F.1.1
  have hb := F.1.2.1
  have hl : lv_has ls 4 [(0, .ref (w.2.2.1 0)), (1, .int x1), (2, .ref (w.2.2.1 60))] := hl
  unfold f_L_toPreach at hf
  refine lv_aload_n hx hb dL_toPreach_0 rfl (lv_at hl 2 rfl) ?_
  refine lv_iconst (v := 0) hx hb dL_toPreach_1 (by decide) ?_
  refine lv_aload_n hx hb dL_toPreach_2 rfl (lv_at hl 0 rfl) ?_
  refine lv_iload_n hx hb dL_toPreach_3 rfl (lv_at hl 1 rfl) ?_
  replace hf := bd_some hf
  obtain ⟨q1, eq1, hf⟩ := hf
  refine gx_ycalli hG (gx_xrunV (xn_ok (yc_ok w)) F hX hG (c_X8_toPreach l w hst n x1 _ _ eq1) cv_L_62 ⟨Nat.le_of_ble_eq_true rfl, Nat.le_of_ble_eq_true rfl⟩ (g_recv F hG ct_0 (by decide) rfl) rfl hl.1 rfl (Nat.le_of_ble_eq_true rfl) dL_toPreach_4 ⟨by decide, by decide⟩) (fun hz H locs hG => ?_) (fun hz ce q9 H locs hG hce hcv hcl => ?_)
  rotate_left
  · replace hf := if_f hz hf
    by_cases c3 : q1.1 = 2
    · replace hf := if_t c3 hf
      rw [c3] at hcl
      refine vx_catch F.1.2.2.2.1 [] ⟨0, 9, 12, 13⟩ [] htab (fun z hz => nomatch hz) (by decide) (by decide) (F.1.2.2.2.2 _ m_604) (va_Nw.use rfl (hX.2.2.1.2.2.1 (.castable xIAE xIAE) (by simp [thw]))) hce hcv hcl ?_
      refine lv_astore_n (lv' := [(3, (.ref q9)), (0, .ref (w.2.2.1 0)), (1, .int x1), (2, .ref (w.2.2.1 60))]) hx hb dL_toPreach_12 rfl hl (by decide) rfl (fun ls hl => ?_)
      refine lv_iconst (v := 1) hx hb dL_toPreach_13 (by decide) ?_
      exact cw_iret F hr hlk hG hf (by decide) (by decide) dL_toPreach_14
    replace hf := if_f c3 hf
    cases hf
  replace hf := if_t hz hf
  refine W.widen (k := 1) (n := 6) (by decide) (by decide) ?_
  refine lv_i2l hx hb dL_toPreach_7 rfl ?_
  refine g_last F hG oC_60 (by decide) dL_toPreach_8 (fun H locs hG => ?_)
  refine lv_goto (tgt := 15) hx hb dL_toPreach_9 (by decide) ?_
  refine lv_iconst (v := 0) hx hb dL_toPreach_15 (by decide) ?_
  exact cw_iret F hr hlk hG hf (by decide) (by decide) dL_toPreach_16

def f_L_row (n : Nat) (x1 : Int32) (x2 : Int32) (M : Mem) : Option (Int32 × Mem) := bd (f_X8_row n x1 x2 M) (fun q1 => if q1.1 = 0 then (some ((0 : Int32), sj q1.2.2 60 (0 : Int32).toNatClampNeg q1.2.1.toInt64)) else (if q1.1 = 1 then (some ((1 : Int32), q1.2.2)) else (if q1.1 = 2 then (some ((2 : Int32), q1.2.2)) else (none))))
set_option maxHeartbeats 4000000 in
set_option maxRecDepth 100000 in
theorem c_L_row (l : Launch) (w : Wd) (hst : l.stackTraces = false) (n : Nat) (x1 : Int32) (x2 : Int32) (M : Mem) (res : Int32 × Mem) (hf : f_L_row n  x1 x2 M = some res) : CGW l w layC 61 (XN (YC w)) yL_row cL_row 5 (some .int) [(0, 10, 13, 18), (0, 10, 17, 13)] 8 2 [.ref (w.2.2.1 0), .int x1, .int x2, .ref (w.2.2.1 60)] M (GQi w layC 61 res) := by
  refine cw_start (by decide +kernel) (Nat.le_of_ble_eq_true rfl) ?_
  intro p e s m args below meth c F hr hlk htab hX hG ls hl
  have F : FX w p m c cL_row 5 s args RL := F
  have hx := F.1.1
  have hb := F.1.2.1
  have hl : lv_has ls 5 [(0, .ref (w.2.2.1 0)), (1, .int x1), (2, .int x2), (3, .ref (w.2.2.1 60))] := hl
  unfold f_L_row at hf
  refine lv_aload_n hx hb dL_row_0 rfl (lv_at hl 3 rfl) ?_
  refine lv_iconst (v := 0) hx hb dL_row_1 (by decide) ?_
  refine lv_aload_n hx hb dL_row_2 rfl (lv_at hl 0 rfl) ?_
  refine lv_iload_n hx hb dL_row_3 rfl (lv_at hl 1 rfl) ?_
  refine lv_iload_n hx hb dL_row_4 rfl (lv_at hl 2 rfl) ?_
  replace hf := bd_some hf
  obtain ⟨q1, eq1, hf⟩ := hf
  refine gx_ycalli hG (gx_xrunV (xn_ok (yc_ok w)) F hX hG (c_X8_row l w hst n x1 x2 _ _ eq1) cv_L_65 ⟨Nat.le_of_ble_eq_true rfl, Nat.le_of_ble_eq_true rfl⟩ (g_recv F hG ct_0 (by decide) rfl) rfl hl.1 rfl (Nat.le_of_ble_eq_true rfl) dL_row_5 ⟨by decide, by decide⟩) (fun hz H locs hG => ?_) (fun hz ce q9 H locs hG hce hcv hcl => ?_)
  rotate_left
  · replace hf := if_f hz hf
    by_cases c3 : q1.1 = 1
    · replace hf := if_t c3 hf
      rw [c3] at hcl
      refine vx_catch F.1.2.2.2.1 [] ⟨0, 10, 13, 18⟩ [⟨0, 10, 17, 13⟩] htab (fun z hz => nomatch hz) (by decide) (by decide) (F.1.2.2.2.2 _ m_957) (va_Nw.use rfl (hX.2.2.1.2.2.1 (.castable xNSE xNSE) (by simp [thw]))) hce hcv hcl ?_
      refine lv_astore (lv' := [(4, (.ref q9)), (0, .ref (w.2.2.1 0)), (1, .int x1), (2, .int x2), (3, .ref (w.2.2.1 60))]) hx hb dL_row_13 hl (by decide) rfl (fun ls hl => ?_)
      refine lv_iconst (v := 1) hx hb dL_row_15 (by decide) ?_
      exact cw_iret F hr hlk hG hf (by decide) (by decide) dL_row_16
    replace hf := if_f c3 hf
    by_cases c4 : q1.1 = 2
    · replace hf := if_t c4 hf
      rw [c4] at hcl
      refine vx_catch F.1.2.2.2.1 [⟨0, 10, 13, 18⟩] ⟨0, 10, 17, 13⟩ [] htab (fun z hz => Or.inr (by cases List.mem_singleton.mp hz; exact ⟨by decide, xNSE, F.1.2.2.2.2 _ m_957, hX.2.2.1.2.2.2.2⟩)) (by decide) (by decide) (F.1.2.2.2.2 _ m_604) (va_Nw.use rfl (hX.2.2.1.2.2.1 (.castable xIAE xIAE) (by simp [thw]))) hce hcv hcl ?_
      refine lv_astore (lv' := [(4, (.ref q9)), (0, .ref (w.2.2.1 0)), (1, .int x1), (2, .int x2), (3, .ref (w.2.2.1 60))]) hx hb dL_row_17 hl (by decide) rfl (fun ls hl => ?_)
      refine lv_iconst (v := 2) hx hb dL_row_19 (by decide) ?_
      exact cw_iret F hr hlk hG hf (by decide) (by decide) dL_row_20
    replace hf := if_f c4 hf
    cases hf
  replace hf := if_t hz hf
  refine W.widen (k := 2) (n := 12) (by decide) (by decide) ?_
  refine lv_i2l hx hb dL_row_8 rfl ?_
  refine g_last F hG oC_60 (by decide) dL_row_9 (fun H locs hG => ?_)
  refine lv_goto (tgt := 21) hx hb dL_row_10 (by decide) ?_
  refine lv_iconst (v := 0) hx hb dL_row_21 (by decide) ?_
  exact cw_iret F hr hlk hG hf (by decide) (by decide) dL_row_22

def f_L_toMortar (n : Nat) (x1 : Int32) (M : Mem) : Option (Int32 × Mem) := bd (f_X8_toMortar n x1 M) (fun q1 => if q1.1 = 0 then (some ((0 : Int32), sj q1.2.2 60 (0 : Int32).toNatClampNeg q1.2.1.toInt64)) else (if q1.1 = 2 then (some ((1 : Int32), q1.2.2)) else (none)))
set_option maxHeartbeats 4000000 in
set_option maxRecDepth 100000 in
theorem c_L_toMortar (l : Launch) (w : Wd) (hst : l.stackTraces = false) (n : Nat) (x1 : Int32) (M : Mem) (res : Int32 × Mem) (hf : f_L_toMortar n  x1 M = some res) : CGW l w layC 61 (XN (YC w)) yL_toMortar cL_toMortar 4 (some .int) [(0, 9, 12, 13)] 8 1 [.ref (w.2.2.1 0), .int x1, .ref (w.2.2.1 60)] M (GQi w layC 61 res) := by
  refine cw_start (by decide +kernel) (Nat.le_of_ble_eq_true rfl) ?_
  intro p e s m args below meth c F hr hlk htab hX hG ls hl
  have F : FX w p m c cL_toMortar 4 s args RL := F
  have hx := F.1.1
  have hb := F.1.2.1
  have hl : lv_has ls 4 [(0, .ref (w.2.2.1 0)), (1, .int x1), (2, .ref (w.2.2.1 60))] := hl
  unfold f_L_toMortar at hf
  refine lv_aload_n hx hb dL_toMortar_0 rfl (lv_at hl 2 rfl) ?_
  refine lv_iconst (v := 0) hx hb dL_toMortar_1 (by decide) ?_
  refine lv_aload_n hx hb dL_toMortar_2 rfl (lv_at hl 0 rfl) ?_
  refine lv_iload_n hx hb dL_toMortar_3 rfl (lv_at hl 1 rfl) ?_
  replace hf := bd_some hf
  obtain ⟨q1, eq1, hf⟩ := hf
  refine gx_ycalli hG (gx_xrunV (xn_ok (yc_ok w)) F hX hG (c_X8_toMortar l w hst n x1 _ _ eq1) cv_L_68 ⟨Nat.le_of_ble_eq_true rfl, Nat.le_of_ble_eq_true rfl⟩ (g_recv F hG ct_0 (by decide) rfl) rfl hl.1 rfl (Nat.le_of_ble_eq_true rfl) dL_toMortar_4 ⟨by decide, by decide⟩) (fun hz H locs hG => ?_) (fun hz ce q9 H locs hG hce hcv hcl => ?_)
  rotate_left
  · replace hf := if_f hz hf
    by_cases c3 : q1.1 = 2
    · replace hf := if_t c3 hf
      rw [c3] at hcl
      refine vx_catch F.1.2.2.2.1 [] ⟨0, 9, 12, 13⟩ [] htab (fun z hz => nomatch hz) (by decide) (by decide) (F.1.2.2.2.2 _ m_604) (va_Nw.use rfl (hX.2.2.1.2.2.1 (.castable xIAE xIAE) (by simp [thw]))) hce hcv hcl ?_
      refine lv_astore_n (lv' := [(3, (.ref q9)), (0, .ref (w.2.2.1 0)), (1, .int x1), (2, .ref (w.2.2.1 60))]) hx hb dL_toMortar_12 rfl hl (by decide) rfl (fun ls hl => ?_)
      refine lv_iconst (v := 1) hx hb dL_toMortar_13 (by decide) ?_
      exact cw_iret F hr hlk hG hf (by decide) (by decide) dL_toMortar_14
    replace hf := if_f c3 hf
    cases hf
  replace hf := if_t hz hf
  refine W.widen (k := 1) (n := 6) (by decide) (by decide) ?_
  refine lv_i2l hx hb dL_toMortar_7 rfl ?_
  refine g_last F hG oC_60 (by decide) dL_toMortar_8 (fun H locs hG => ?_)
  refine lv_goto (tgt := 15) hx hb dL_toMortar_9 (by decide) ?_
  refine lv_iconst (v := 0) hx hb dL_toMortar_15 (by decide) ?_
  exact cw_iret F hr hlk hG hf (by decide) (by decide) dL_toMortar_16

def f_L_heavy (n : Nat) (x1 : Int32) (M : Mem) : Option (Int32 × Mem) := bd (f_X8_heavy n x1 M) (fun q1 => if q1.1 = 0 then (some ((0 : Int32), sj q1.2.2 60 (0 : Int32).toNatClampNeg q1.2.1.toInt64)) else (if q1.1 = 1 then (some ((1 : Int32), q1.2.2)) else (none)))
set_option maxHeartbeats 4000000 in
set_option maxRecDepth 100000 in
theorem c_L_heavy (l : Launch) (w : Wd) (hst : l.stackTraces = false) (n : Nat) (x1 : Int32) (M : Mem) (res : Int32 × Mem) (hf : f_L_heavy n  x1 M = some res) : CGW l w layC 61 (XN (YC w)) yL_heavy cL_heavy 4 (some .int) [(0, 9, 12, 18)] 8 1 [.ref (w.2.2.1 0), .int x1, .ref (w.2.2.1 60)] M (GQi w layC 61 res) := by
  refine cw_start (by decide +kernel) (Nat.le_of_ble_eq_true rfl) ?_
  intro p e s m args below meth c F hr hlk htab hX hG ls hl
  have F : FX w p m c cL_heavy 4 s args RL := F
  have hx := F.1.1
  have hb := F.1.2.1
  have hl : lv_has ls 4 [(0, .ref (w.2.2.1 0)), (1, .int x1), (2, .ref (w.2.2.1 60))] := hl
  unfold f_L_heavy at hf
  refine lv_aload_n hx hb dL_heavy_0 rfl (lv_at hl 2 rfl) ?_
  refine lv_iconst (v := 0) hx hb dL_heavy_1 (by decide) ?_
  refine lv_aload_n hx hb dL_heavy_2 rfl (lv_at hl 0 rfl) ?_
  refine lv_iload_n hx hb dL_heavy_3 rfl (lv_at hl 1 rfl) ?_
  replace hf := bd_some hf
  obtain ⟨q1, eq1, hf⟩ := hf
  refine gx_ycalli hG (gx_xrunV (xn_ok (yc_ok w)) F hX hG (c_X8_heavy l w hst n x1 _ _ eq1) cv_L_71 ⟨Nat.le_of_ble_eq_true rfl, Nat.le_of_ble_eq_true rfl⟩ (g_recv F hG ct_0 (by decide) rfl) rfl hl.1 rfl (Nat.le_of_ble_eq_true rfl) dL_heavy_4 ⟨by decide, by decide⟩) (fun hz H locs hG => ?_) (fun hz ce q9 H locs hG hce hcv hcl => ?_)
  rotate_left
  · replace hf := if_f hz hf
    by_cases c3 : q1.1 = 1
    · replace hf := if_t c3 hf
      rw [c3] at hcl
      refine vx_catch F.1.2.2.2.1 [] ⟨0, 9, 12, 18⟩ [] htab (fun z hz => nomatch hz) (by decide) (by decide) (F.1.2.2.2.2 _ m_957) (va_Nw.use rfl (hX.2.2.1.2.2.1 (.castable xNSE xNSE) (by simp [thw]))) hce hcv hcl ?_
      refine lv_astore_n (lv' := [(3, (.ref q9)), (0, .ref (w.2.2.1 0)), (1, .int x1), (2, .ref (w.2.2.1 60))]) hx hb dL_heavy_12 rfl hl (by decide) rfl (fun ls hl => ?_)
      refine lv_iconst (v := 1) hx hb dL_heavy_13 (by decide) ?_
      exact cw_iret F hr hlk hG hf (by decide) (by decide) dL_heavy_14
    replace hf := if_f c3 hf
    cases hf
  replace hf := if_t hz hf
  refine W.widen (k := 1) (n := 6) (by decide) (by decide) ?_
  refine lv_i2l hx hb dL_heavy_7 rfl ?_
  refine g_last F hG oC_60 (by decide) dL_heavy_8 (fun H locs hG => ?_)
  refine lv_goto (tgt := 15) hx hb dL_heavy_9 (by decide) ?_
  refine lv_iconst (v := 0) hx hb dL_heavy_15 (by decide) ?_
  exact cw_iret F hr hlk hG hf (by decide) (by decide) dL_heavy_16

def f_L_look (n : Nat) (x1 : Int32) (M : Mem) : Option (Int32 × Mem) := bd (f_X8_look n x1 M) (fun q1 => if q1.1 = 0 then (some ((0 : Int32), sj q1.2.2 60 (0 : Int32).toNatClampNeg q1.2.1.toInt64)) else (if q1.1 = 1 then (some ((1 : Int32), q1.2.2)) else (none)))
set_option maxHeartbeats 4000000 in
set_option maxRecDepth 100000 in
theorem c_L_look (l : Launch) (w : Wd) (hst : l.stackTraces = false) (n : Nat) (x1 : Int32) (M : Mem) (res : Int32 × Mem) (hf : f_L_look n  x1 M = some res) : CGW l w layC 61 (XN (YC w)) yL_look cL_look 4 (some .int) [(0, 9, 12, 18)] 8 1 [.ref (w.2.2.1 0), .int x1, .ref (w.2.2.1 60)] M (GQi w layC 61 res) := by
  refine cw_start (by decide +kernel) (Nat.le_of_ble_eq_true rfl) ?_
  intro p e s m args below meth c F hr hlk htab hX hG ls hl
  have F : FX w p m c cL_look 4 s args RL := F
  have hx := F.1.1
  have hb := F.1.2.1
  have hl : lv_has ls 4 [(0, .ref (w.2.2.1 0)), (1, .int x1), (2, .ref (w.2.2.1 60))] := hl
  unfold f_L_look at hf
  refine lv_aload_n hx hb dL_look_0 rfl (lv_at hl 2 rfl) ?_
  refine lv_iconst (v := 0) hx hb dL_look_1 (by decide) ?_
  refine lv_aload_n hx hb dL_look_2 rfl (lv_at hl 0 rfl) ?_
  refine lv_iload_n hx hb dL_look_3 rfl (lv_at hl 1 rfl) ?_
  replace hf := bd_some hf
  obtain ⟨q1, eq1, hf⟩ := hf
  refine gx_ycalli hG (gx_xrunV (xn_ok (yc_ok w)) F hX hG (c_X8_look l w hst n x1 _ _ eq1) cv_L_74 ⟨Nat.le_of_ble_eq_true rfl, Nat.le_of_ble_eq_true rfl⟩ (g_recv F hG ct_0 (by decide) rfl) rfl hl.1 rfl (Nat.le_of_ble_eq_true rfl) dL_look_4 ⟨by decide, by decide⟩) (fun hz H locs hG => ?_) (fun hz ce q9 H locs hG hce hcv hcl => ?_)
  rotate_left
  · replace hf := if_f hz hf
    by_cases c3 : q1.1 = 1
    · replace hf := if_t c3 hf
      rw [c3] at hcl
      refine vx_catch F.1.2.2.2.1 [] ⟨0, 9, 12, 18⟩ [] htab (fun z hz => nomatch hz) (by decide) (by decide) (F.1.2.2.2.2 _ m_957) (va_Nw.use rfl (hX.2.2.1.2.2.1 (.castable xNSE xNSE) (by simp [thw]))) hce hcv hcl ?_
      refine lv_astore_n (lv' := [(3, (.ref q9)), (0, .ref (w.2.2.1 0)), (1, .int x1), (2, .ref (w.2.2.1 60))]) hx hb dL_look_12 rfl hl (by decide) rfl (fun ls hl => ?_)
      refine lv_iconst (v := 1) hx hb dL_look_13 (by decide) ?_
      exact cw_iret F hr hlk hG hf (by decide) (by decide) dL_look_14
    replace hf := if_f c3 hf
    cases hf
  replace hf := if_t hz hf
  refine W.widen (k := 1) (n := 6) (by decide) (by decide) ?_
  refine lv_i2l hx hb dL_look_7 rfl ?_
  refine g_last F hG oC_60 (by decide) dL_look_8 (fun H locs hG => ?_)
  refine lv_goto (tgt := 15) hx hb dL_look_9 (by decide) ?_
  refine lv_iconst (v := 0) hx hb dL_look_15 (by decide) ?_
  exact cw_iret F hr hlk hG hf (by decide) (by decide) dL_look_16

def f_L_gales (n : Nat) (x1 : Int32) (x2 : Int32) (M : Mem) : Option (Int32 × Mem) := bd (f_X8_gales n x1 x2 M) (fun q1 => if q1.1 = 0 then (some ((0 : Int32), sj q1.2.2 60 (0 : Int32).toNatClampNeg q1.2.1.toInt64)) else (if q1.1 = 2 then (some ((1 : Int32), q1.2.2)) else (none)))
set_option maxHeartbeats 4000000 in
set_option maxRecDepth 100000 in
theorem c_L_gales (l : Launch) (w : Wd) (hst : l.stackTraces = false) (n : Nat) (x1 : Int32) (x2 : Int32) (M : Mem) (res : Int32 × Mem) (hf : f_L_gales n  x1 x2 M = some res) : CGW l w layC 61 (XN (YC w)) yL_gales cL_gales 5 (some .int) [(0, 10, 13, 13)] 8 2 [.ref (w.2.2.1 0), .int x1, .int x2, .ref (w.2.2.1 60)] M (GQi w layC 61 res) := by
  refine cw_start (by decide +kernel) (Nat.le_of_ble_eq_true rfl) ?_
  intro p e s m args below meth c F hr hlk htab hX hG ls hl
  have F : FX w p m c cL_gales 5 s args RL := F
  have hx := F.1.1
  have hb := F.1.2.1
  have hl : lv_has ls 5 [(0, .ref (w.2.2.1 0)), (1, .int x1), (2, .int x2), (3, .ref (w.2.2.1 60))] := hl
  unfold f_L_gales at hf
  refine lv_aload_n hx hb dL_gales_0 rfl (lv_at hl 3 rfl) ?_
  refine lv_iconst (v := 0) hx hb dL_gales_1 (by decide) ?_
  refine lv_aload_n hx hb dL_gales_2 rfl (lv_at hl 0 rfl) ?_
  refine lv_iload_n hx hb dL_gales_3 rfl (lv_at hl 1 rfl) ?_
  refine lv_iload_n hx hb dL_gales_4 rfl (lv_at hl 2 rfl) ?_
  replace hf := bd_some hf
  obtain ⟨q1, eq1, hf⟩ := hf
  refine gx_ycalli hG (gx_xrunV (xn_ok (yc_ok w)) F hX hG (c_X8_gales l w hst n x1 x2 _ _ eq1) cv_L_77 ⟨Nat.le_of_ble_eq_true rfl, Nat.le_of_ble_eq_true rfl⟩ (g_recv F hG ct_0 (by decide) rfl) rfl hl.1 rfl (Nat.le_of_ble_eq_true rfl) dL_gales_5 ⟨by decide, by decide⟩) (fun hz H locs hG => ?_) (fun hz ce q9 H locs hG hce hcv hcl => ?_)
  rotate_left
  · replace hf := if_f hz hf
    by_cases c3 : q1.1 = 2
    · replace hf := if_t c3 hf
      rw [c3] at hcl
      refine vx_catch F.1.2.2.2.1 [] ⟨0, 10, 13, 13⟩ [] htab (fun z hz => nomatch hz) (by decide) (by decide) (F.1.2.2.2.2 _ m_604) (va_Nw.use rfl (hX.2.2.1.2.2.1 (.castable xIAE xIAE) (by simp [thw]))) hce hcv hcl ?_
      refine lv_astore (lv' := [(4, (.ref q9)), (0, .ref (w.2.2.1 0)), (1, .int x1), (2, .int x2), (3, .ref (w.2.2.1 60))]) hx hb dL_gales_13 hl (by decide) rfl (fun ls hl => ?_)
      refine lv_iconst (v := 1) hx hb dL_gales_15 (by decide) ?_
      exact cw_iret F hr hlk hG hf (by decide) (by decide) dL_gales_16
    replace hf := if_f c3 hf
    cases hf
  replace hf := if_t hz hf
  refine W.widen (k := 2) (n := 12) (by decide) (by decide) ?_
  refine lv_i2l hx hb dL_gales_8 rfl ?_
  refine g_last F hG oC_60 (by decide) dL_gales_9 (fun H locs hG => ?_)
  refine lv_goto (tgt := 17) hx hb dL_gales_10 (by decide) ?_
  refine lv_iconst (v := 0) hx hb dL_gales_17 (by decide) ?_
  exact cw_iret F hr hlk hG hf (by decide) (by decide) dL_gales_18

def f_L_game (n : Nat) (x1 : Int32) (x2 : Int32) (x3 : Int32) (M : Mem) : Option (Int32 × Mem) := bd (f_X8_game n x1 x2 x3 M) (fun q1 => if q1.1 = 0 then (some ((0 : Int32), sj q1.2.2 60 (0 : Int32).toNatClampNeg q1.2.1.toInt64)) else (if q1.1 = 1 then (some ((1 : Int32), q1.2.2)) else (if q1.1 = 2 then (some ((2 : Int32), q1.2.2)) else (none))))
set_option maxHeartbeats 4000000 in
set_option maxRecDepth 100000 in
theorem c_L_game (l : Launch) (w : Wd) (hst : l.stackTraces = false) (n : Nat) (x1 : Int32) (x2 : Int32) (x3 : Int32) (M : Mem) (res : Int32 × Mem) (hf : f_L_game n  x1 x2 x3 M = some res) : CGW l w layC 61 (XN (YC w)) yL_game cL_game 6 (some .int) [(0, 12, 15, 18), (0, 12, 19, 13)] 8 4 [.ref (w.2.2.1 0), .int x1, .int x2, .int x3, .ref (w.2.2.1 60)] M (GQi w layC 61 res) := by
  refine cw_start (by decide +kernel) (Nat.le_of_ble_eq_true rfl) ?_
  intro p e s m args below meth c F hr hlk htab hX hG ls hl
  have F : FX w p m c cL_game 6 s args RL := F
  have hx := F.1.1
  have hb := F.1.2.1
  have hl : lv_has ls 6 [(0, .ref (w.2.2.1 0)), (1, .int x1), (2, .int x2), (3, .int x3), (4, .ref (w.2.2.1 60))] := hl
  unfold f_L_game at hf
  refine lv_aload hx hb dL_game_0 (lv_at hl 4 rfl) ?_
  refine lv_iconst (v := 0) hx hb dL_game_2 (by decide) ?_
  refine lv_aload_n hx hb dL_game_3 rfl (lv_at hl 0 rfl) ?_
  refine lv_iload_n hx hb dL_game_4 rfl (lv_at hl 1 rfl) ?_
  refine lv_iload_n hx hb dL_game_5 rfl (lv_at hl 2 rfl) ?_
  refine lv_iload_n hx hb dL_game_6 rfl (lv_at hl 3 rfl) ?_
  replace hf := bd_some hf
  obtain ⟨q1, eq1, hf⟩ := hf
  refine gx_ycalli hG (gx_xrunV (xn_ok (yc_ok w)) F hX hG (c_X8_game l w hst n x1 x2 x3 _ _ eq1) cv_L_80 ⟨Nat.le_of_ble_eq_true rfl, Nat.le_of_ble_eq_true rfl⟩ (g_recv F hG ct_0 (by decide) rfl) rfl hl.1 rfl (Nat.le_of_ble_eq_true rfl) dL_game_7 ⟨by decide, by decide⟩) (fun hz H locs hG => ?_) (fun hz ce q9 H locs hG hce hcv hcl => ?_)
  rotate_left
  · replace hf := if_f hz hf
    by_cases c3 : q1.1 = 1
    · replace hf := if_t c3 hf
      rw [c3] at hcl
      refine vx_catch F.1.2.2.2.1 [] ⟨0, 12, 15, 18⟩ [⟨0, 12, 19, 13⟩] htab (fun z hz => nomatch hz) (by decide) (by decide) (F.1.2.2.2.2 _ m_957) (va_Nw.use rfl (hX.2.2.1.2.2.1 (.castable xNSE xNSE) (by simp [thw]))) hce hcv hcl ?_
      refine lv_astore (lv' := [(5, (.ref q9)), (0, .ref (w.2.2.1 0)), (1, .int x1), (2, .int x2), (3, .int x3), (4, .ref (w.2.2.1 60))]) hx hb dL_game_15 hl (by decide) rfl (fun ls hl => ?_)
      refine lv_iconst (v := 1) hx hb dL_game_17 (by decide) ?_
      exact cw_iret F hr hlk hG hf (by decide) (by decide) dL_game_18
    replace hf := if_f c3 hf
    by_cases c4 : q1.1 = 2
    · replace hf := if_t c4 hf
      rw [c4] at hcl
      refine vx_catch F.1.2.2.2.1 [⟨0, 12, 15, 18⟩] ⟨0, 12, 19, 13⟩ [] htab (fun z hz => Or.inr (by cases List.mem_singleton.mp hz; exact ⟨by decide, xNSE, F.1.2.2.2.2 _ m_957, hX.2.2.1.2.2.2.2⟩)) (by decide) (by decide) (F.1.2.2.2.2 _ m_604) (va_Nw.use rfl (hX.2.2.1.2.2.1 (.castable xIAE xIAE) (by simp [thw]))) hce hcv hcl ?_
      refine lv_astore (lv' := [(5, (.ref q9)), (0, .ref (w.2.2.1 0)), (1, .int x1), (2, .int x2), (3, .int x3), (4, .ref (w.2.2.1 60))]) hx hb dL_game_19 hl (by decide) rfl (fun ls hl => ?_)
      refine lv_iconst (v := 2) hx hb dL_game_21 (by decide) ?_
      exact cw_iret F hr hlk hG hf (by decide) (by decide) dL_game_22
    replace hf := if_f c4 hf
    cases hf
  replace hf := if_t hz hf
  refine W.widen (k := 4) (n := 24) (by decide) (by decide) ?_
  refine lv_i2l hx hb dL_game_10 rfl ?_
  refine g_last F hG oC_60 (by decide) dL_game_11 (fun H locs hG => ?_)
  refine lv_goto (tgt := 23) hx hb dL_game_12 (by decide) ?_
  refine lv_iconst (v := 0) hx hb dL_game_23 (by decide) ?_
  exact cw_iret F hr hlk hG hf (by decide) (by decide) dL_game_24

def f_L_years (n : Nat) (x1 : Int32) (x2 : Int32) (x3 : Int32) (M : Mem) : Option (Int32 × Mem) := bd (f_X8_years n x1 x2 x3 M) (fun q1 => if q1.1 = 0 then (some ((0 : Int32), sj q1.2.2 60 (0 : Int32).toNatClampNeg q1.2.1.toInt64)) else (if q1.1 = 1 then (some ((1 : Int32), q1.2.2)) else (if q1.1 = 2 then (some ((2 : Int32), q1.2.2)) else (none))))
set_option maxHeartbeats 4000000 in
set_option maxRecDepth 100000 in
theorem c_L_years (l : Launch) (w : Wd) (hst : l.stackTraces = false) (n : Nat) (x1 : Int32) (x2 : Int32) (x3 : Int32) (M : Mem) (res : Int32 × Mem) (hf : f_L_years n  x1 x2 x3 M = some res) : CGW l w layC 61 (XN (YC w)) yL_years cL_years 6 (some .int) [(0, 12, 15, 18), (0, 12, 19, 13)] 8 2 [.ref (w.2.2.1 0), .int x1, .int x2, .int x3, .ref (w.2.2.1 60)] M (GQi w layC 61 res) := by
  refine cw_start (by decide +kernel) (Nat.le_of_ble_eq_true rfl) ?_
  intro p e s m args below meth c F hr hlk htab hX hG ls hl
  have F : FX w p m c cL_years 6 s args RL := F
  have hx := F.1.1
  have hb := F.1.2.1
  have hl : lv_has ls 6 [(0, .ref (w.2.2.1 0)), (1, .int x1), (2, .int x2), (3, .int x3), (4, .ref (w.2.2.1 60))] := hl
  unfold f_L_years at hf
  refine lv_aload hx hb dL_years_0 (lv_at hl 4 rfl) ?_
  refine lv_iconst (v := 0) hx hb dL_years_2 (by decide) ?_
  refine lv_aload_n hx hb dL_years_3 rfl (lv_at hl 0 rfl) ?_
  refine lv_iload_n hx hb dL_years_4 rfl (lv_at hl 1 rfl) ?_
  refine lv_iload_n hx hb dL_years_5 rfl (lv_at hl 2 rfl) ?_
  refine lv_iload_n hx hb dL_years_6 rfl (lv_at hl 3 rfl) ?_
  replace hf := bd_some hf
  obtain ⟨q1, eq1, hf⟩ := hf
  refine gx_ycalli hG (gx_xrunV (xn_ok (yc_ok w)) F hX hG (c_X8_years l w hst n x1 x2 x3 _ _ eq1) cv_L_83 ⟨Nat.le_of_ble_eq_true rfl, Nat.le_of_ble_eq_true rfl⟩ (g_recv F hG ct_0 (by decide) rfl) rfl hl.1 rfl (Nat.le_of_ble_eq_true rfl) dL_years_7 ⟨by decide, by decide⟩) (fun hz H locs hG => ?_) (fun hz ce q9 H locs hG hce hcv hcl => ?_)
  rotate_left
  · replace hf := if_f hz hf
    by_cases c3 : q1.1 = 1
    · replace hf := if_t c3 hf
      rw [c3] at hcl
      refine vx_catch F.1.2.2.2.1 [] ⟨0, 12, 15, 18⟩ [⟨0, 12, 19, 13⟩] htab (fun z hz => nomatch hz) (by decide) (by decide) (F.1.2.2.2.2 _ m_957) (va_Nw.use rfl (hX.2.2.1.2.2.1 (.castable xNSE xNSE) (by simp [thw]))) hce hcv hcl ?_
      refine lv_astore (lv' := [(5, (.ref q9)), (0, .ref (w.2.2.1 0)), (1, .int x1), (2, .int x2), (3, .int x3), (4, .ref (w.2.2.1 60))]) hx hb dL_years_15 hl (by decide) rfl (fun ls hl => ?_)
      refine lv_iconst (v := 1) hx hb dL_years_17 (by decide) ?_
      exact cw_iret F hr hlk hG hf (by decide) (by decide) dL_years_18
    replace hf := if_f c3 hf
    by_cases c4 : q1.1 = 2
    · replace hf := if_t c4 hf
      rw [c4] at hcl
      refine vx_catch F.1.2.2.2.1 [⟨0, 12, 15, 18⟩] ⟨0, 12, 19, 13⟩ [] htab (fun z hz => Or.inr (by cases List.mem_singleton.mp hz; exact ⟨by decide, xNSE, F.1.2.2.2.2 _ m_957, hX.2.2.1.2.2.2.2⟩)) (by decide) (by decide) (F.1.2.2.2.2 _ m_604) (va_Nw.use rfl (hX.2.2.1.2.2.1 (.castable xIAE xIAE) (by simp [thw]))) hce hcv hcl ?_
      refine lv_astore (lv' := [(5, (.ref q9)), (0, .ref (w.2.2.1 0)), (1, .int x1), (2, .int x2), (3, .int x3), (4, .ref (w.2.2.1 60))]) hx hb dL_years_19 hl (by decide) rfl (fun ls hl => ?_)
      refine lv_iconst (v := 2) hx hb dL_years_21 (by decide) ?_
      exact cw_iret F hr hlk hG hf (by decide) (by decide) dL_years_22
    replace hf := if_f c4 hf
    cases hf
  replace hf := if_t hz hf
  refine W.widen (k := 2) (n := 12) (by decide) (by decide) ?_
  refine lv_i2l hx hb dL_years_10 rfl ?_
  refine g_last F hG oC_60 (by decide) dL_years_11 (fun H locs hG => ?_)
  refine lv_goto (tgt := 23) hx hb dL_years_12 (by decide) ?_
  refine lv_iconst (v := 0) hx hb dL_years_23 (by decide) ?_
  exact cw_iret F hr hlk hG hf (by decide) (by decide) dL_years_24

def f_L_share (n : Nat) (x1 : Int32) (x2 : Int32) (M : Mem) : Option (Int32 × Mem) := bd (f_X8_share n x1 x2 M) (fun q1 => if q1.1 = 0 then (some ((0 : Int32), sj q1.2.2 60 (0 : Int32).toNatClampNeg q1.2.1.toInt64)) else (if q1.1 = 1 then (some ((1 : Int32), q1.2.2)) else (if q1.1 = 2 then (some ((2 : Int32), q1.2.2)) else (none))))
set_option maxHeartbeats 4000000 in
set_option maxRecDepth 100000 in
theorem c_L_share (l : Launch) (w : Wd) (hst : l.stackTraces = false) (n : Nat) (x1 : Int32) (x2 : Int32) (M : Mem) (res : Int32 × Mem) (hf : f_L_share n  x1 x2 M = some res) : CGW l w layC 61 (XN (YC w)) yL_share cL_share 5 (some .int) [(0, 10, 13, 18), (0, 10, 17, 13)] 8 2 [.ref (w.2.2.1 0), .int x1, .int x2, .ref (w.2.2.1 60)] M (GQi w layC 61 res) := by
  refine cw_start (by decide +kernel) (Nat.le_of_ble_eq_true rfl) ?_
  intro p e s m args below meth c F hr hlk htab hX hG ls hl
  have F : FX w p m c cL_share 5 s args RL := F
  have hx := F.1.1
  have hb := F.1.2.1
  have hl : lv_has ls 5 [(0, .ref (w.2.2.1 0)), (1, .int x1), (2, .int x2), (3, .ref (w.2.2.1 60))] := hl
  unfold f_L_share at hf
  refine lv_aload_n hx hb dL_share_0 rfl (lv_at hl 3 rfl) ?_
  refine lv_iconst (v := 0) hx hb dL_share_1 (by decide) ?_
  refine lv_aload_n hx hb dL_share_2 rfl (lv_at hl 0 rfl) ?_
  refine lv_iload_n hx hb dL_share_3 rfl (lv_at hl 1 rfl) ?_
  refine lv_iload_n hx hb dL_share_4 rfl (lv_at hl 2 rfl) ?_
  replace hf := bd_some hf
  obtain ⟨q1, eq1, hf⟩ := hf
  refine gx_ycalli hG (gx_xrunV (xn_ok (yc_ok w)) F hX hG (c_X8_share l w hst n x1 x2 _ _ eq1) cv_L_86 ⟨Nat.le_of_ble_eq_true rfl, Nat.le_of_ble_eq_true rfl⟩ (g_recv F hG ct_0 (by decide) rfl) rfl hl.1 rfl (Nat.le_of_ble_eq_true rfl) dL_share_5 ⟨by decide, by decide⟩) (fun hz H locs hG => ?_) (fun hz ce q9 H locs hG hce hcv hcl => ?_)
  rotate_left
  · replace hf := if_f hz hf
    by_cases c3 : q1.1 = 1
    · replace hf := if_t c3 hf
      rw [c3] at hcl
      refine vx_catch F.1.2.2.2.1 [] ⟨0, 10, 13, 18⟩ [⟨0, 10, 17, 13⟩] htab (fun z hz => nomatch hz) (by decide) (by decide) (F.1.2.2.2.2 _ m_957) (va_Nw.use rfl (hX.2.2.1.2.2.1 (.castable xNSE xNSE) (by simp [thw]))) hce hcv hcl ?_
      refine lv_astore (lv' := [(4, (.ref q9)), (0, .ref (w.2.2.1 0)), (1, .int x1), (2, .int x2), (3, .ref (w.2.2.1 60))]) hx hb dL_share_13 hl (by decide) rfl (fun ls hl => ?_)
      refine lv_iconst (v := 1) hx hb dL_share_15 (by decide) ?_
      exact cw_iret F hr hlk hG hf (by decide) (by decide) dL_share_16
    replace hf := if_f c3 hf
    by_cases c4 : q1.1 = 2
    · replace hf := if_t c4 hf
      rw [c4] at hcl
      refine vx_catch F.1.2.2.2.1 [⟨0, 10, 13, 18⟩] ⟨0, 10, 17, 13⟩ [] htab (fun z hz => Or.inr (by cases List.mem_singleton.mp hz; exact ⟨by decide, xNSE, F.1.2.2.2.2 _ m_957, hX.2.2.1.2.2.2.2⟩)) (by decide) (by decide) (F.1.2.2.2.2 _ m_604) (va_Nw.use rfl (hX.2.2.1.2.2.1 (.castable xIAE xIAE) (by simp [thw]))) hce hcv hcl ?_
      refine lv_astore (lv' := [(4, (.ref q9)), (0, .ref (w.2.2.1 0)), (1, .int x1), (2, .int x2), (3, .ref (w.2.2.1 60))]) hx hb dL_share_17 hl (by decide) rfl (fun ls hl => ?_)
      refine lv_iconst (v := 2) hx hb dL_share_19 (by decide) ?_
      exact cw_iret F hr hlk hG hf (by decide) (by decide) dL_share_20
    replace hf := if_f c4 hf
    cases hf
  replace hf := if_t hz hf
  refine W.widen (k := 2) (n := 12) (by decide) (by decide) ?_
  refine lv_i2l hx hb dL_share_8 rfl ?_
  refine g_last F hG oC_60 (by decide) dL_share_9 (fun H locs hG => ?_)
  refine lv_goto (tgt := 21) hx hb dL_share_10 (by decide) ?_
  refine lv_iconst (v := 0) hx hb dL_share_21 (by decide) ?_
  exact cw_iret F hr hlk hG hf (by decide) (by decide) dL_share_22

def f_L_heaviest (n : Nat) (x1 : Int32) (M : Mem) : Option (Int32 × Mem) := bd (f_X8_heaviest n x1 M) (fun q1 => if q1.1 = 0 then (some ((0 : Int32), sj q1.2.2 60 (0 : Int32).toNatClampNeg q1.2.1.toInt64)) else (if q1.1 = 2 then (some ((1 : Int32), q1.2.2)) else (none)))
set_option maxHeartbeats 4000000 in
set_option maxRecDepth 100000 in
theorem c_L_heaviest (l : Launch) (w : Wd) (hst : l.stackTraces = false) (n : Nat) (x1 : Int32) (M : Mem) (res : Int32 × Mem) (hf : f_L_heaviest n  x1 M = some res) : CGW l w layC 61 (XN (YC w)) yL_heaviest cL_heaviest 4 (some .int) [(0, 9, 12, 13)] 8 1 [.ref (w.2.2.1 0), .int x1, .ref (w.2.2.1 60)] M (GQi w layC 61 res) := by
  refine cw_start (by decide +kernel) (Nat.le_of_ble_eq_true rfl) ?_
  intro p e s m args below meth c F hr hlk htab hX hG ls hl
  have F : FX w p m c cL_heaviest 4 s args RL := F
  have hx := F.1.1
  have hb := F.1.2.1
  have hl : lv_has ls 4 [(0, .ref (w.2.2.1 0)), (1, .int x1), (2, .ref (w.2.2.1 60))] := hl
  unfold f_L_heaviest at hf
  refine lv_aload_n hx hb dL_heaviest_0 rfl (lv_at hl 2 rfl) ?_
  refine lv_iconst (v := 0) hx hb dL_heaviest_1 (by decide) ?_
  refine lv_aload_n hx hb dL_heaviest_2 rfl (lv_at hl 0 rfl) ?_
  refine lv_iload_n hx hb dL_heaviest_3 rfl (lv_at hl 1 rfl) ?_
  replace hf := bd_some hf
  obtain ⟨q1, eq1, hf⟩ := hf
  refine gx_ycalli hG (gx_xrunV (xn_ok (yc_ok w)) F hX hG (c_X8_heaviest l w hst n x1 _ _ eq1) cv_L_89 ⟨Nat.le_of_ble_eq_true rfl, Nat.le_of_ble_eq_true rfl⟩ (g_recv F hG ct_0 (by decide) rfl) rfl hl.1 rfl (Nat.le_of_ble_eq_true rfl) dL_heaviest_4 ⟨by decide, by decide⟩) (fun hz H locs hG => ?_) (fun hz ce q9 H locs hG hce hcv hcl => ?_)
  rotate_left
  · replace hf := if_f hz hf
    by_cases c3 : q1.1 = 2
    · replace hf := if_t c3 hf
      rw [c3] at hcl
      refine vx_catch F.1.2.2.2.1 [] ⟨0, 9, 12, 13⟩ [] htab (fun z hz => nomatch hz) (by decide) (by decide) (F.1.2.2.2.2 _ m_604) (va_Nw.use rfl (hX.2.2.1.2.2.1 (.castable xIAE xIAE) (by simp [thw]))) hce hcv hcl ?_
      refine lv_astore_n (lv' := [(3, (.ref q9)), (0, .ref (w.2.2.1 0)), (1, .int x1), (2, .ref (w.2.2.1 60))]) hx hb dL_heaviest_12 rfl hl (by decide) rfl (fun ls hl => ?_)
      refine lv_iconst (v := 1) hx hb dL_heaviest_13 (by decide) ?_
      exact cw_iret F hr hlk hG hf (by decide) (by decide) dL_heaviest_14
    replace hf := if_f c3 hf
    cases hf
  replace hf := if_t hz hf
  refine W.widen (k := 1) (n := 6) (by decide) (by decide) ?_
  refine lv_i2l hx hb dL_heaviest_7 rfl ?_
  refine g_last F hG oC_60 (by decide) dL_heaviest_8 (fun H locs hG => ?_)
  refine lv_goto (tgt := 15) hx hb dL_heaviest_9 (by decide) ?_
  refine lv_iconst (v := 0) hx hb dL_heaviest_15 (by decide) ?_
  exact cw_iret F hr hlk hG hf (by decide) (by decide) dL_heaviest_16

def f_L_toProp (n : Nat) (x1 : Int32) (x2 : Int32) (M : Mem) : Option (Int32 × Mem) := bd (f_X8_toProp n x1 x2 M) (fun q1 => if q1.1 = 0 then (some ((0 : Int32), sj q1.2.2 60 (0 : Int32).toNatClampNeg q1.2.1.toInt64)) else (if q1.1 = 1 then (some ((1 : Int32), q1.2.2)) else (if q1.1 = 2 then (some ((2 : Int32), q1.2.2)) else (none))))
set_option maxHeartbeats 4000000 in
set_option maxRecDepth 100000 in
theorem c_L_toProp (l : Launch) (w : Wd) (hst : l.stackTraces = false) (n : Nat) (x1 : Int32) (x2 : Int32) (M : Mem) (res : Int32 × Mem) (hf : f_L_toProp n  x1 x2 M = some res) : CGW l w layC 61 (XN (YC w)) yL_toProp cL_toProp 5 (some .int) [(0, 10, 13, 18), (0, 10, 17, 13)] 8 2 [.ref (w.2.2.1 0), .int x1, .int x2, .ref (w.2.2.1 60)] M (GQi w layC 61 res) := by
  refine cw_start (by decide +kernel) (Nat.le_of_ble_eq_true rfl) ?_
  intro p e s m args below meth c F hr hlk htab hX hG ls hl
  have F : FX w p m c cL_toProp 5 s args RL := F
  have hx := F.1.1
  have hb := F.1.2.1
  have hl : lv_has ls 5 [(0, .ref (w.2.2.1 0)), (1, .int x1), (2, .int x2), (3, .ref (w.2.2.1 60))] := hl
  unfold f_L_toProp at hf
  refine lv_aload_n hx hb dL_toProp_0 rfl (lv_at hl 3 rfl) ?_
  refine lv_iconst (v := 0) hx hb dL_toProp_1 (by decide) ?_
  refine lv_aload_n hx hb dL_toProp_2 rfl (lv_at hl 0 rfl) ?_
  refine lv_iload_n hx hb dL_toProp_3 rfl (lv_at hl 1 rfl) ?_
  refine lv_iload_n hx hb dL_toProp_4 rfl (lv_at hl 2 rfl) ?_
  replace hf := bd_some hf
  obtain ⟨q1, eq1, hf⟩ := hf
  refine gx_ycalli hG (gx_xrunV (xn_ok (yc_ok w)) F hX hG (c_X8_toProp l w hst n x1 x2 _ _ eq1) cv_L_92 ⟨Nat.le_of_ble_eq_true rfl, Nat.le_of_ble_eq_true rfl⟩ (g_recv F hG ct_0 (by decide) rfl) rfl hl.1 rfl (Nat.le_of_ble_eq_true rfl) dL_toProp_5 ⟨by decide, by decide⟩) (fun hz H locs hG => ?_) (fun hz ce q9 H locs hG hce hcv hcl => ?_)
  rotate_left
  · replace hf := if_f hz hf
    by_cases c3 : q1.1 = 1
    · replace hf := if_t c3 hf
      rw [c3] at hcl
      refine vx_catch F.1.2.2.2.1 [] ⟨0, 10, 13, 18⟩ [⟨0, 10, 17, 13⟩] htab (fun z hz => nomatch hz) (by decide) (by decide) (F.1.2.2.2.2 _ m_957) (va_Nw.use rfl (hX.2.2.1.2.2.1 (.castable xNSE xNSE) (by simp [thw]))) hce hcv hcl ?_
      refine lv_astore (lv' := [(4, (.ref q9)), (0, .ref (w.2.2.1 0)), (1, .int x1), (2, .int x2), (3, .ref (w.2.2.1 60))]) hx hb dL_toProp_13 hl (by decide) rfl (fun ls hl => ?_)
      refine lv_iconst (v := 1) hx hb dL_toProp_15 (by decide) ?_
      exact cw_iret F hr hlk hG hf (by decide) (by decide) dL_toProp_16
    replace hf := if_f c3 hf
    by_cases c4 : q1.1 = 2
    · replace hf := if_t c4 hf
      rw [c4] at hcl
      refine vx_catch F.1.2.2.2.1 [⟨0, 10, 13, 18⟩] ⟨0, 10, 17, 13⟩ [] htab (fun z hz => Or.inr (by cases List.mem_singleton.mp hz; exact ⟨by decide, xNSE, F.1.2.2.2.2 _ m_957, hX.2.2.1.2.2.2.2⟩)) (by decide) (by decide) (F.1.2.2.2.2 _ m_604) (va_Nw.use rfl (hX.2.2.1.2.2.1 (.castable xIAE xIAE) (by simp [thw]))) hce hcv hcl ?_
      refine lv_astore (lv' := [(4, (.ref q9)), (0, .ref (w.2.2.1 0)), (1, .int x1), (2, .int x2), (3, .ref (w.2.2.1 60))]) hx hb dL_toProp_17 hl (by decide) rfl (fun ls hl => ?_)
      refine lv_iconst (v := 2) hx hb dL_toProp_19 (by decide) ?_
      exact cw_iret F hr hlk hG hf (by decide) (by decide) dL_toProp_20
    replace hf := if_f c4 hf
    cases hf
  replace hf := if_t hz hf
  refine W.widen (k := 2) (n := 12) (by decide) (by decide) ?_
  refine lv_i2l hx hb dL_toProp_8 rfl ?_
  refine g_last F hG oC_60 (by decide) dL_toProp_9 (fun H locs hG => ?_)
  refine lv_goto (tgt := 21) hx hb dL_toProp_10 (by decide) ?_
  refine lv_iconst (v := 0) hx hb dL_toProp_21 (by decide) ?_
  exact cw_iret F hr hlk hG hf (by decide) (by decide) dL_toProp_22
