def b_J7_fill_d0a16_6 (n : Nat) (n0 : Nat) (r0 : Nat) (x1 : Int64) (x4 : Int32) (q : (Int32 × Mem)) : Option ((Int32 × Mem) ⊕ (Mem)) := match q with
  | (x3, M) => if x4 ≤ x3 then (mr (some M)) else (ck (inb x3 n0) (some (.inl ((x3 + (1 : Int32)), sj M r0 x3.toNatClampNeg x1))))
def f_J7_fill_d0a16 (n : Nat) (n0 : Nat) (r0 : Nat) (x1 : Int64) (M : Mem) : Option (Mem) := gl (b_J7_fill_d0a16_6 n n0 r0 x1 (nI n0)) n ((0 : Int32), M)
set_option maxHeartbeats 4000000 in
set_option maxRecDepth 100000 in
theorem c_J7_fill_d0a16 (l : Launch) (w : Wd) {Y : (Nat → Prop) → State → Heap → Prop} (hYk : XOK Y) (n : Nat) (n0 : Nat) (r0 : Nat) (hr0 : isO layC 61 r0 21 n0 nof) (x1 : Int64) (M : Mem) (res : Mem) (hf : f_J7_fill_d0a16 n n0 r0 x1 M = some res) : CG l w layC 61 (XN Y) yJ7_fill_d0a16 cJ7_fill_d0a16 5 none 0 [.ref (w.2.2.1 r0), .long x1] M (GQv w layC 61 res) := by
  refine cg_start (by decide +kernel) (Nat.le_of_ble_eq_true rfl) ?_
  intro p e s m args below meth c F hr hlk hX hG ls hl
  have F : FX w p m c cJ7_fill_d0a16 5 s args RJ7 := F
  have hx := F.1.1
  have hb := F.1.2.1
  have hl : lv_has ls 5 [(0, .ref (w.2.2.1 r0)), (1, .long x1)] := hl
  have hJ6 : ∀ (x1 : Int64) (x3 : Int32) (x4 : Int32) (M : Mem) (H : Heap) (locs : List Loc) (ls : Array Slot), gl (b_J7_fill_d0a16_6 n n0 r0 x1 x4) n (x3, M) = some res → GI w layC 61 s.heap M H locs → lv_has ls 5 [(0, .ref (w.2.2.1 r0)), (1, .long x1), (3, .int x3), (4, .int x4)] → W p l e (Rm 0) s m args below meth c H locs 0 0 (MQ below (GQv w layC 61 res s.heap.size) args s 0 0 (gA w.2.2.1 61 s.heap.size)) (F0 m 6 ls []) := by
    intro x1 x3 x4 M H locs ls hf hG hl
    refine gl_run (P := fun (q : (Int32 × Mem)) => ∀ (H : Heap) (locs : List Loc) (ls : Array Slot), GI w layC 61 s.heap q.2 H locs → lv_has ls 5 [(0, .ref (w.2.2.1 r0)), (1, .long x1), (3, .int q.1), (4, .int x4)] → W p l e (Rm 0) s m args below meth c H locs 0 0 (MQ below (GQv w layC 61 res s.heap.size) args s 0 0 (gA w.2.2.1 61 s.heap.size)) (F0 m 6 ls [])) ?_ n (x3, M) hf H locs ls hG hl
    clear hf hG hl ls locs H M x3
    rintro ⟨x3, M⟩ rr6 hf hI6 hE6 H locs ls hG hl
    try dsimp only at hG hl ⊢
    dsimp only [b_J7_fill_d0a16_6] at hf
    refine lv_iload_n hx hb dJ7_fill_d0a16_6 rfl (lv_at hl 2 rfl) ?_
    refine lv_iload hx hb dJ7_fill_d0a16_7 (lv_at hl 3 rfl) ?_
    refine lv_icmp_ge (tgt := 22) hx hb dJ7_fill_d0a16_9 (by decide) (fun c1 => ?_) (fun c1 => ?_)
    · replace hf := if_t c1 hf
      replace hf := mr_some hf
      obtain ⟨z6, hf, hz⟩ := hf
      rw [hE6 _ hz] at hf
      exact cg_vret F hr hlk hG hf dJ7_fill_d0a16_22
    · replace hf := if_f c1 hf
      refine lv_aload_n hx hb dJ7_fill_d0a16_12 rfl (lv_at hl 0 rfl) ?_
      refine lv_iload_n hx hb dJ7_fill_d0a16_13 rfl (lv_at hl 2 rfl) ?_
      refine lv_lload_n hx hb dJ7_fill_d0a16_14 rfl (lv_at hl 1 rfl) ?_
      replace hf := ck_some hf
      obtain ⟨k2, hf⟩ := hf
      refine g_last F hG hr0 k2 dJ7_fill_d0a16_15 (fun H locs hG => ?_)
      refine lv_iinc (v := (x3 + (1 : Int32))) (lv' := [(3, .int (x3 + (1 : Int32))), (0, .ref (w.2.2.1 r0)), (1, .long x1), (4, .int x4)]) hx hb dJ7_fill_d0a16_16 hl (k := 2) rfl rfl (by decide) rfl (fun ls hl => ?_)
      refine lv_goto (tgt := 6) hx hb dJ7_fill_d0a16_19 (by decide) ?_
      exact hI6 _ (Option.some.inj hf).symm _ _ ls hG (lv_sub hl [1, 2, 0, 3] rfl)
  unfold f_J7_fill_d0a16 at hf
  refine lv_iconst (v := 0) hx hb dJ7_fill_d0a16_0 (by decide) ?_
  refine lv_istore_n (lv' := [(3, .int (0 : Int32)), (0, .ref (w.2.2.1 r0)), (1, .long x1)]) hx hb dJ7_fill_d0a16_1 rfl hl (by decide) rfl (fun ls hl => ?_)
  refine lv_aload_n hx hb dJ7_fill_d0a16_2 rfl (lv_at hl 1 rfl) ?_
  refine g_jlen (v := nI n0) F hG hr0 rfl dJ7_fill_d0a16_3 ?_
  refine lv_istore (lv' := [(4, .int (nI n0)), (3, .int (0 : Int32)), (0, .ref (w.2.2.1 r0)), (1, .long x1)]) hx hb dJ7_fill_d0a16_4 hl (by decide) rfl (fun ls hl => ?_)
  exact hJ6 _ _ _ _ _ _ ls hf hG (lv_sub hl [2, 3, 1, 0] rfl)

def f_X8_fault (n : Nat) (M : Mem) : Option (Int32 × Mem) := some ((gi M 0 13), M)
set_option maxHeartbeats 4000000 in
set_option maxRecDepth 100000 in
theorem c_X8_fault (l : Launch) (w : Wd)  (n : Nat) (M : Mem) (res : Int32 × Mem) (hf : f_X8_fault n   M = some res) : CG l w layC 61 (XN (YC w)) yX8_fault cX8_fault 1 (some .int) 0 [.ref (w.2.2.1 0)] M (GQi w layC 61 res) := by
  refine cg_start (by decide +kernel) (Nat.le_of_ble_eq_true rfl) ?_
  intro p e s m args below meth c F hr hlk hX hG ls hl
  have F : FX w p m c cX8_fault 1 s args RX8 := F
  have hx := F.1.1
  have hb := F.1.2.1
  have hl : lv_has ls 1 [(0, .ref (w.2.2.1 0))] := hl
  unfold f_X8_fault at hf
  refine lv_aload_n hx hb dX8_fault_0 rfl (lv_at hl 0 rfl) ?_
  refine g_getI F hG ct_0 (by decide) (by decide) lk_X8_70 rfl dX8_fault_1 ?_
  exact cg_iret F hr hlk hG hf dX8_fault_4

def f_X8_count (n : Nat) (x1 : Int32) (M : Mem) : Option (Rx) := if x1 = (0 : Int32) then (some ((0 : Nat), (gi M 4 6), M)) else (if x1 = (1 : Int32) then (some ((0 : Nat), ((gi M 4 5) - (gi M 4 6)), M)) else (if x1 = (2 : Int32) then (some ((0 : Nat), (gi M 4 7), M)) else (if x1 = (3 : Int32) then (some ((0 : Nat), (gi M 4 8), M)) else (if x1 = (4 : Int32) then (some ((0 : Nat), (gi M 4 9), M)) else (if x1 = (5 : Int32) then (some ((0 : Nat), (gi M 4 10), M)) else (if x1 = (6 : Int32) then (bd (f_X4_weightHung n 4  M) (fun q8 => some ((0 : Nat), q8.1, q8.2))) else (if x1 = (7 : Int32) then (bd (f_X4_strength n 4  M) (fun q10 => some ((0 : Nat), q10.1, q10.2))) else (if x1 = (8 : Int32) then (bd (f_X4_spare n 4  M) (fun q12 => some ((0 : Nat), q12.1, q12.2))) else (if x1 = (9 : Int32) then (bd (f_X4_bears n 4  M) (fun q14 => some ((0 : Nat), q14.1, q14.2))) else (if x1 = (10 : Int32) then (ck (isTwB ((gi M 0 12).toNatClampNeg)) (if (gi M 4 6) < (gi M ((gi M 0 12).toNatClampNeg) 8) then (some ((0 : Nat), (0 : Int32), M)) else (some ((0 : Nat), (1 : Int32), M)))) else (if x1 = (11 : Int32) then (some ((0 : Nat), (gi M 4 11), M)) else (if x1 = (12 : Int32) then (bd (f_X5_parts n 4  M) (fun q20 => some ((0 : Nat), q20.1, q20.2))) else (if x1 = (13 : Int32) then (bd (f_X4_evenSet n 4  M) (fun q22 => bd (f_X4_unevenness n 4 q22.1 q22.2) (fun q23 => some ((0 : Nat), q23.1, q23.2)))) else (if x1 = (14 : Int32) then (bd (f_X4_evenSet n 4  M) (fun q25 => some ((0 : Nat), q25.1, q25.2))) else (if x1 = (15 : Int32) then (bd (f_X4_doubters n 4  M) (fun q27 => some ((0 : Nat), q27.1, q27.2))) else (if x1 = (16 : Int32) then (some ((0 : Nat), (gi M 34 2), M)) else (if x1 = (17 : Int32) then (some ((0 : Nat), (gi M 38 2), M)) else (if x1 = (18 : Int32) then (some ((0 : Nat), (gi M 44 3), M)) else (if x1 = (19 : Int32) then (some ((0 : Nat), (gi M 1 (0 : Int32).toNatClampNeg), M)) else (if x1 = (20 : Int32) then (some ((0 : Nat), (gi M 1 (1 : Int32).toNatClampNeg), M)) else (if x1 = (21 : Int32) then (some ((0 : Nat), (gi M 1 (2 : Int32).toNatClampNeg), M)) else (some ((1 : Nat), (0 : Int32), M)))))))))))))))))))))))
set_option maxHeartbeats 4000000 in
set_option maxRecDepth 100000 in
theorem c_X8_count (l : Launch) (w : Wd) (hst : l.stackTraces = false) (n : Nat) (x1 : Int32) (M : Mem) (res : Rx) (hf : f_X8_count n  x1 M = some res) : CX l w layC 61 (XN (YC w)) yX8_count cX8_count 2 (some .int) 6 1 [.ref (w.2.2.1 0), .int x1] M (GXi w layC 61 res) (GXx w layC 61 res) := by
  refine cx_start (by decide +kernel) (Nat.le_of_ble_eq_true rfl) ?_
  intro p e s m args below meth c F hr hlk hno hX hG ls hl
  have F : FX w p m c cX8_count 2 s args RX8 := F
  have hx := F.1.1
  have hb := F.1.2.1
  have hl : lv_has ls 2 [(0, .ref (w.2.2.1 0)), (1, .int x1)] := hl
  unfold f_X8_count at hf
  refine lv_iload_n hx hb dX8_count_0 rfl (lv_at hl 1 rfl) ?_
  by_cases c1 : x1 = (0 : Int32)
  · replace hf := if_t c1 hf
    refine lv_tableIn (off := 103) (tgt := 104) hx hb dX8_count_1 (by rw [c1]; decide) (by rw [c1]; decide) (by rw [c1]; rfl) (by decide) ?_
    refine lv_aload_n hx hb dX8_count_104 rfl (lv_at hl 0 rfl) ?_
    refine g_getR F hG 4 ct_0 (by decide) (by decide) lk_X8_16 rfl dX8_count_105 ?_
    refine g_getI F hG st_4.1 (by decide) (by decide) lk_X8_114 rfl dX8_count_108 ?_
    exact cx_iret F hr hlk hG hf (by decide) (by decide) dX8_count_111
  replace hf := if_f c1 hf
  by_cases c2 : x1 = (1 : Int32)
  · replace hf := if_t c2 hf
    refine lv_tableIn (off := 111) (tgt := 112) hx hb dX8_count_1 (by rw [c2]; decide) (by rw [c2]; decide) (by rw [c2]; rfl) (by decide) ?_
    refine lv_aload_n hx hb dX8_count_112 rfl (lv_at hl 0 rfl) ?_
    refine g_getR F hG 4 ct_0 (by decide) (by decide) lk_X8_16 rfl dX8_count_113 ?_
    refine g_getI F hG st_4.1 (by decide) (by decide) lk_X8_117 rfl dX8_count_116 ?_
    refine lv_aload_n hx hb dX8_count_119 rfl (lv_at hl 0 rfl) ?_
    refine g_getR F hG 4 ct_0 (by decide) (by decide) lk_X8_16 rfl dX8_count_120 ?_
    refine g_getI F hG st_4.1 (by decide) (by decide) lk_X8_114 rfl dX8_count_123 ?_
    refine lv_isub hx hb dX8_count_126 ?_
    exact cx_iret F hr hlk hG hf (by decide) (by decide) dX8_count_127
  replace hf := if_f c2 hf
  by_cases c3 : x1 = (2 : Int32)
  · replace hf := if_t c3 hf
    refine lv_tableIn (off := 127) (tgt := 128) hx hb dX8_count_1 (by rw [c3]; decide) (by rw [c3]; decide) (by rw [c3]; rfl) (by decide) ?_
    refine lv_aload_n hx hb dX8_count_128 rfl (lv_at hl 0 rfl) ?_
    refine g_getR F hG 4 ct_0 (by decide) (by decide) lk_X8_16 rfl dX8_count_129 ?_
    refine g_getI F hG st_4.1 (by decide) (by decide) lk_X8_120 rfl dX8_count_132 ?_
    exact cx_iret F hr hlk hG hf (by decide) (by decide) dX8_count_135
  replace hf := if_f c3 hf
  by_cases c4 : x1 = (3 : Int32)
  · replace hf := if_t c4 hf
    refine lv_tableIn (off := 135) (tgt := 136) hx hb dX8_count_1 (by rw [c4]; decide) (by rw [c4]; decide) (by rw [c4]; rfl) (by decide) ?_
    refine lv_aload_n hx hb dX8_count_136 rfl (lv_at hl 0 rfl) ?_
    refine g_getR F hG 4 ct_0 (by decide) (by decide) lk_X8_16 rfl dX8_count_137 ?_
    refine g_getI F hG st_4.1 (by decide) (by decide) lk_X8_123 rfl dX8_count_140 ?_
    exact cx_iret F hr hlk hG hf (by decide) (by decide) dX8_count_143
  replace hf := if_f c4 hf
  by_cases c5 : x1 = (4 : Int32)
  · replace hf := if_t c5 hf
    refine lv_tableIn (off := 143) (tgt := 144) hx hb dX8_count_1 (by rw [c5]; decide) (by rw [c5]; decide) (by rw [c5]; rfl) (by decide) ?_
    refine lv_aload_n hx hb dX8_count_144 rfl (lv_at hl 0 rfl) ?_
    refine g_getR F hG 4 ct_0 (by decide) (by decide) lk_X8_16 rfl dX8_count_145 ?_
    refine g_getI F hG st_4.1 (by decide) (by decide) lk_X8_126 rfl dX8_count_148 ?_
    exact cx_iret F hr hlk hG hf (by decide) (by decide) dX8_count_151
  replace hf := if_f c5 hf
  by_cases c6 : x1 = (5 : Int32)
  · replace hf := if_t c6 hf
    refine lv_tableIn (off := 151) (tgt := 152) hx hb dX8_count_1 (by rw [c6]; decide) (by rw [c6]; decide) (by rw [c6]; rfl) (by decide) ?_
    refine lv_aload_n hx hb dX8_count_152 rfl (lv_at hl 0 rfl) ?_
    refine g_getR F hG 4 ct_0 (by decide) (by decide) lk_X8_16 rfl dX8_count_153 ?_
    refine g_getI F hG st_4.1 (by decide) (by decide) lk_X8_129 rfl dX8_count_156 ?_
    exact cx_iret F hr hlk hG hf (by decide) (by decide) dX8_count_159
  replace hf := if_f c6 hf
  by_cases c7 : x1 = (6 : Int32)
  · replace hf := if_t c7 hf
    refine lv_tableIn (off := 159) (tgt := 160) hx hb dX8_count_1 (by rw [c7]; decide) (by rw [c7]; decide) (by rw [c7]; rfl) (by decide) ?_
    refine lv_aload_n hx hb dX8_count_160 rfl (lv_at hl 0 rfl) ?_
    refine g_getR F hG 4 ct_0 (by decide) (by decide) lk_X8_16 rfl dX8_count_161 ?_
    replace hf := bd_some hf
    obtain ⟨q8, eq8, hf⟩ := hf
    refine gx_calli hG (gx_runV (xn_ok (yc_ok w)) F hX hG (c_X4_weightHung l w (yc_ok w) n 4 st_4  _ _ eq8) cv_X8_132 ⟨Nat.le_of_ble_eq_true rfl, Nat.le_of_ble_eq_true rfl⟩ (g_recv F hG st_4.1 (by decide) rfl) rfl hl.1 rfl (Nat.le_of_ble_eq_true rfl) dX8_count_164 ⟨by decide, by decide⟩) (fun H locs hG => ?_)
    exact cx_iret F hr hlk hG hf (by decide) (by decide) dX8_count_167
  replace hf := if_f c7 hf
  by_cases c9 : x1 = (7 : Int32)
  · replace hf := if_t c9 hf
    refine lv_tableIn (off := 167) (tgt := 168) hx hb dX8_count_1 (by rw [c9]; decide) (by rw [c9]; decide) (by rw [c9]; rfl) (by decide) ?_
    refine lv_aload_n hx hb dX8_count_168 rfl (lv_at hl 0 rfl) ?_
    refine g_getR F hG 4 ct_0 (by decide) (by decide) lk_X8_16 rfl dX8_count_169 ?_
    replace hf := bd_some hf
    obtain ⟨q10, eq10, hf⟩ := hf
    refine gx_calli hG (gx_runV (xn_ok (yc_ok w)) F hX hG (c_X4_strength l w (yc_ok w) n 4 st_4  _ _ eq10) cv_X8_136 ⟨Nat.le_of_ble_eq_true rfl, Nat.le_of_ble_eq_true rfl⟩ (g_recv F hG st_4.1 (by decide) rfl) rfl hl.1 rfl (Nat.le_of_ble_eq_true rfl) dX8_count_172 ⟨by decide, by decide⟩) (fun H locs hG => ?_)
    exact cx_iret F hr hlk hG hf (by decide) (by decide) dX8_count_175
  replace hf := if_f c9 hf
  by_cases c11 : x1 = (8 : Int32)
  · replace hf := if_t c11 hf
    refine lv_tableIn (off := 175) (tgt := 176) hx hb dX8_count_1 (by rw [c11]; decide) (by rw [c11]; decide) (by rw [c11]; rfl) (by decide) ?_
    refine lv_aload_n hx hb dX8_count_176 rfl (lv_at hl 0 rfl) ?_
    refine g_getR F hG 4 ct_0 (by decide) (by decide) lk_X8_16 rfl dX8_count_177 ?_
    replace hf := bd_some hf
    obtain ⟨q12, eq12, hf⟩ := hf
    refine gx_calli hG (gx_runV (xn_ok (yc_ok w)) F hX hG (c_X4_spare l w (yc_ok w) n 4 st_4  _ _ eq12) cv_X8_139 ⟨Nat.le_of_ble_eq_true rfl, Nat.le_of_ble_eq_true rfl⟩ (g_recv F hG st_4.1 (by decide) rfl) rfl hl.1 rfl (Nat.le_of_ble_eq_true rfl) dX8_count_180 ⟨by decide, by decide⟩) (fun H locs hG => ?_)
    exact cx_iret F hr hlk hG hf (by decide) (by decide) dX8_count_183
  replace hf := if_f c11 hf
  by_cases c13 : x1 = (9 : Int32)
  · replace hf := if_t c13 hf
    refine lv_tableIn (off := 183) (tgt := 184) hx hb dX8_count_1 (by rw [c13]; decide) (by rw [c13]; decide) (by rw [c13]; rfl) (by decide) ?_
    refine lv_aload_n hx hb dX8_count_184 rfl (lv_at hl 0 rfl) ?_
    refine g_getR F hG 4 ct_0 (by decide) (by decide) lk_X8_16 rfl dX8_count_185 ?_
    replace hf := bd_some hf
    obtain ⟨q14, eq14, hf⟩ := hf
    refine gx_calli hG (gx_runV (xn_ok (yc_ok w)) F hX hG (c_X4_bears l w (yc_ok w) n 4 st_4  _ _ eq14) cv_X8_142 ⟨Nat.le_of_ble_eq_true rfl, Nat.le_of_ble_eq_true rfl⟩ (g_recv F hG st_4.1 (by decide) rfl) rfl hl.1 rfl (Nat.le_of_ble_eq_true rfl) dX8_count_188 ⟨by decide, by decide⟩) (fun H locs hG => ?_)
    exact cx_iret F hr hlk hG hf (by decide) (by decide) dX8_count_191
  replace hf := if_f c13 hf
  by_cases c15 : x1 = (10 : Int32)
  · replace hf := if_t c15 hf
    refine lv_tableIn (off := 191) (tgt := 192) hx hb dX8_count_1 (by rw [c15]; decide) (by rw [c15]; decide) (by rw [c15]; rfl) (by decide) ?_
    refine lv_aload_n hx hb dX8_count_192 rfl (lv_at hl 0 rfl) ?_
    refine g_getR F hG 4 ct_0 (by decide) (by decide) lk_X8_16 rfl dX8_count_193 ?_
    refine g_getI F hG st_4.1 (by decide) (by decide) lk_X8_114 rfl dX8_count_196 ?_
    refine lv_aload_n hx hb dX8_count_199 rfl (lv_at hl 0 rfl) ?_
    replace hf := ck_some hf
    obtain ⟨k16, hf⟩ := hf
    refine g_getM F hG ct_0 (by decide) (by decide) lk_X8_66 rfl dX8_count_200 ?_
    refine g_getI F hG (tw_of k16).1 (by decide) (by decide) lk_X8_145 rfl dX8_count_203 ?_
    refine lv_icmp_lt (tgt := 213) hx hb dX8_count_206 (by decide) (fun c17 => ?_) (fun c17 => ?_)
    · replace hf := if_t c17 hf
      refine lv_iconst (v := 0) hx hb dX8_count_213 (by decide) ?_
      exact cx_iret F hr hlk hG hf (by decide) (by decide) dX8_count_214
    · replace hf := if_f c17 hf
      refine lv_iconst (v := 1) hx hb dX8_count_209 (by decide) ?_
      refine lv_goto (tgt := 214) hx hb dX8_count_210 (by decide) ?_
      exact cx_iret F hr hlk hG hf (by decide) (by decide) dX8_count_214
  replace hf := if_f c15 hf
  by_cases c18 : x1 = (11 : Int32)
  · replace hf := if_t c18 hf
    refine lv_tableIn (off := 214) (tgt := 215) hx hb dX8_count_1 (by rw [c18]; decide) (by rw [c18]; decide) (by rw [c18]; rfl) (by decide) ?_
    refine lv_aload_n hx hb dX8_count_215 rfl (lv_at hl 0 rfl) ?_
    refine g_getR F hG 4 ct_0 (by decide) (by decide) lk_X8_16 rfl dX8_count_216 ?_
    refine g_getI F hG st_4.1 (by decide) (by decide) lk_X8_148 rfl dX8_count_219 ?_
    exact cx_iret F hr hlk hG hf (by decide) (by decide) dX8_count_222
  replace hf := if_f c18 hf
  by_cases c19 : x1 = (12 : Int32)
  · replace hf := if_t c19 hf
    refine lv_tableIn (off := 222) (tgt := 223) hx hb dX8_count_1 (by rw [c19]; decide) (by rw [c19]; decide) (by rw [c19]; rfl) (by decide) ?_
    refine lv_aload_n hx hb dX8_count_223 rfl (lv_at hl 0 rfl) ?_
    refine g_getR F hG 4 ct_0 (by decide) (by decide) lk_X8_16 rfl dX8_count_224 ?_
    replace hf := bd_some hf
    obtain ⟨q20, eq20, hf⟩ := hf
    refine gx_calli hG (gx_runS (xn_ok (yc_ok w)) F hX hG (c_X5_parts l w (yc_ok w) n 4 st_4  _ _ eq20) cs_X8_151 ⟨Nat.le_of_ble_eq_true rfl, Nat.le_of_ble_eq_true rfl⟩ rfl hl.1 rfl (Nat.le_of_ble_eq_true rfl) dX8_count_227 ⟨by decide, by decide⟩) (fun H locs hG => ?_)
    exact cx_iret F hr hlk hG hf (by decide) (by decide) dX8_count_230
  replace hf := if_f c19 hf
  by_cases c21 : x1 = (13 : Int32)
  · replace hf := if_t c21 hf
    refine lv_tableIn (off := 230) (tgt := 231) hx hb dX8_count_1 (by rw [c21]; decide) (by rw [c21]; decide) (by rw [c21]; rfl) (by decide) ?_
    refine lv_aload_n hx hb dX8_count_231 rfl (lv_at hl 0 rfl) ?_
    refine g_getR F hG 4 ct_0 (by decide) (by decide) lk_X8_16 rfl dX8_count_232 ?_
    refine lv_aload_n hx hb dX8_count_235 rfl (lv_at hl 0 rfl) ?_
    refine g_getR F hG 4 ct_0 (by decide) (by decide) lk_X8_16 rfl dX8_count_236 ?_
    replace hf := bd_some hf
    obtain ⟨q22, eq22, hf⟩ := hf
    refine gx_calli hG (gx_runV (xn_ok (yc_ok w)) F hX hG (c_X4_evenSet l w (yc_ok w) n 4 st_4  _ _ eq22) cv_X8_157 ⟨Nat.le_of_ble_eq_true rfl, Nat.le_of_ble_eq_true rfl⟩ (g_recv F hG st_4.1 (by decide) rfl) rfl hl.1 rfl (Nat.le_of_ble_eq_true rfl) dX8_count_239 ⟨by decide, by decide⟩) (fun H locs hG => ?_)
    replace hf := bd_some hf
    obtain ⟨q23, eq23, hf⟩ := hf
    refine gx_calli hG (gx_runV (xn_ok (yc_ok w)) F hX hG (c_X4_unevenness l w (yc_ok w) n 4 st_4 q22.1 _ _ eq23) cv_X8_160 ⟨Nat.le_of_ble_eq_true rfl, Nat.le_of_ble_eq_true rfl⟩ (g_recv F hG st_4.1 (by decide) rfl) rfl hl.1 rfl (Nat.le_of_ble_eq_true rfl) dX8_count_242 ⟨by decide, by decide⟩) (fun H locs hG => ?_)
    exact cx_iret F hr hlk hG hf (by decide) (by decide) dX8_count_245
  replace hf := if_f c21 hf
  by_cases c24 : x1 = (14 : Int32)
  · replace hf := if_t c24 hf
    refine lv_tableIn (off := 245) (tgt := 246) hx hb dX8_count_1 (by rw [c24]; decide) (by rw [c24]; decide) (by rw [c24]; rfl) (by decide) ?_
    refine lv_aload_n hx hb dX8_count_246 rfl (lv_at hl 0 rfl) ?_
    refine g_getR F hG 4 ct_0 (by decide) (by decide) lk_X8_16 rfl dX8_count_247 ?_
    replace hf := bd_some hf
    obtain ⟨q25, eq25, hf⟩ := hf
    refine gx_calli hG (gx_runV (xn_ok (yc_ok w)) F hX hG (c_X4_evenSet l w (yc_ok w) n 4 st_4  _ _ eq25) cv_X8_157 ⟨Nat.le_of_ble_eq_true rfl, Nat.le_of_ble_eq_true rfl⟩ (g_recv F hG st_4.1 (by decide) rfl) rfl hl.1 rfl (Nat.le_of_ble_eq_true rfl) dX8_count_250 ⟨by decide, by decide⟩) (fun H locs hG => ?_)
    exact cx_iret F hr hlk hG hf (by decide) (by decide) dX8_count_253
  replace hf := if_f c24 hf
  by_cases c26 : x1 = (15 : Int32)
  · replace hf := if_t c26 hf
    refine lv_tableIn (off := 253) (tgt := 254) hx hb dX8_count_1 (by rw [c26]; decide) (by rw [c26]; decide) (by rw [c26]; rfl) (by decide) ?_
    refine lv_aload_n hx hb dX8_count_254 rfl (lv_at hl 0 rfl) ?_
    refine g_getR F hG 4 ct_0 (by decide) (by decide) lk_X8_16 rfl dX8_count_255 ?_
    replace hf := bd_some hf
    obtain ⟨q27, eq27, hf⟩ := hf
    refine gx_calli hG (gx_runV (xn_ok (yc_ok w)) F hX hG (c_X4_doubters l w (yc_ok w) n 4 st_4  _ _ eq27) cv_X8_163 ⟨Nat.le_of_ble_eq_true rfl, Nat.le_of_ble_eq_true rfl⟩ (g_recv F hG st_4.1 (by decide) rfl) rfl hl.1 rfl (Nat.le_of_ble_eq_true rfl) dX8_count_258 ⟨by decide, by decide⟩) (fun H locs hG => ?_)
    exact cx_iret F hr hlk hG hf (by decide) (by decide) dX8_count_261
  replace hf := if_f c26 hf
  by_cases c28 : x1 = (16 : Int32)
  · replace hf := if_t c28 hf
    refine lv_tableIn (off := 261) (tgt := 262) hx hb dX8_count_1 (by rw [c28]; decide) (by rw [c28]; decide) (by rw [c28]; rfl) (by decide) ?_
    refine lv_aload_n hx hb dX8_count_262 rfl (lv_at hl 0 rfl) ?_
    refine g_getR F hG 34 ct_0 (by decide) (by decide) lk_X8_29 rfl dX8_count_263 ?_
    refine g_getI F hG ac_34.1 (by decide) (by decide) lk_X8_166 rfl dX8_count_266 ?_
    exact cx_iret F hr hlk hG hf (by decide) (by decide) dX8_count_269
  replace hf := if_f c28 hf
  by_cases c29 : x1 = (17 : Int32)
  · replace hf := if_t c29 hf
    refine lv_tableIn (off := 269) (tgt := 270) hx hb dX8_count_1 (by rw [c29]; decide) (by rw [c29]; decide) (by rw [c29]; rfl) (by decide) ?_
    refine lv_aload_n hx hb dX8_count_270 rfl (lv_at hl 0 rfl) ?_
    refine g_getR F hG 38 ct_0 (by decide) (by decide) lk_X8_36 rfl dX8_count_271 ?_
    refine g_getI F hG sn_38.1 (by decide) (by decide) lk_X8_169 rfl dX8_count_274 ?_
    exact cx_iret F hr hlk hG hf (by decide) (by decide) dX8_count_277
  replace hf := if_f c29 hf
  by_cases c30 : x1 = (18 : Int32)
  · replace hf := if_t c30 hf
    refine lv_tableIn (off := 277) (tgt := 278) hx hb dX8_count_1 (by rw [c30]; decide) (by rw [c30]; decide) (by rw [c30]; rfl) (by decide) ?_
    refine lv_aload_n hx hb dX8_count_278 rfl (lv_at hl 0 rfl) ?_
    refine g_getR F hG 44 ct_0 (by decide) (by decide) lk_X8_59 rfl dX8_count_279 ?_
    refine g_getI F hG rd_44 (by decide) (by decide) lk_X8_78 rfl dX8_count_282 ?_
    exact cx_iret F hr hlk hG hf (by decide) (by decide) dX8_count_285
  replace hf := if_f c30 hf
  by_cases c31 : x1 = (19 : Int32)
  · replace hf := if_t c31 hf
    refine lv_tableIn (off := 285) (tgt := 286) hx hb dX8_count_1 (by rw [c31]; decide) (by rw [c31]; decide) (by rw [c31]; rfl) (by decide) ?_
    refine lv_aload_n hx hb dX8_count_286 rfl (lv_at hl 0 rfl) ?_
    refine g_getR F hG 1 ct_0 (by decide) (by decide) lk_X8_7 rfl dX8_count_287 ?_
    refine lv_iconst (v := 0) hx hb dX8_count_290 (by decide) ?_
    refine g_iald F hG oC_1 (by decide) dX8_count_291 ?_
    exact cx_iret F hr hlk hG hf (by decide) (by decide) dX8_count_292
  replace hf := if_f c31 hf
  by_cases c32 : x1 = (20 : Int32)
  · replace hf := if_t c32 hf
    refine lv_tableIn (off := 292) (tgt := 293) hx hb dX8_count_1 (by rw [c32]; decide) (by rw [c32]; decide) (by rw [c32]; rfl) (by decide) ?_
    refine lv_aload_n hx hb dX8_count_293 rfl (lv_at hl 0 rfl) ?_
    refine g_getR F hG 1 ct_0 (by decide) (by decide) lk_X8_7 rfl dX8_count_294 ?_
    refine lv_iconst (v := 1) hx hb dX8_count_297 (by decide) ?_
    refine g_iald F hG oC_1 (by decide) dX8_count_298 ?_
    exact cx_iret F hr hlk hG hf (by decide) (by decide) dX8_count_299
  replace hf := if_f c32 hf
  by_cases c33 : x1 = (21 : Int32)
  · replace hf := if_t c33 hf
    refine lv_tableIn (off := 299) (tgt := 300) hx hb dX8_count_1 (by rw [c33]; decide) (by rw [c33]; decide) (by rw [c33]; rfl) (by decide) ?_
    refine lv_aload_n hx hb dX8_count_300 rfl (lv_at hl 0 rfl) ?_
    refine g_getR F hG 1 ct_0 (by decide) (by decide) lk_X8_7 rfl dX8_count_301 ?_
    refine lv_iconst (v := 2) hx hb dX8_count_304 (by decide) ?_
    refine g_iald F hG oC_1 (by decide) dX8_count_305 ?_
    exact cx_iret F hr hlk hG hf (by decide) (by decide) dX8_count_306
  replace hf := if_f c33 hf
  refine lv_tableOut (tgt := 307) hx hb dX8_count_1 (sw_out (0) (21) 22 (by decide) (fun k hk => match k, hk with | 0, _ => c1 | 1, _ => c2 | 2, _ => c3 | 3, _ => c4 | 4, _ => c5 | 5, _ => c6 | 6, _ => c7 | 7, _ => c9 | 8, _ => c11 | 9, _ => c13 | 10, _ => c15 | 11, _ => c18 | 12, _ => c19 | 13, _ => c21 | 14, _ => c24 | 15, _ => c26 | 16, _ => c28 | 17, _ => c29 | 18, _ => c30 | 19, _ => c31 | 20, _ => c32 | 21, _ => c33 | k + 22, h => absurd h (by omega))) (by decide) ?_
  exact gx_throwN hst F hG hX.2.2.1 hno hlk ts_X8_170_174 rfl (text := "what") (by decide) hf hl.1 dX8_count_307 dX8_count_310 dX8_count_311 dX8_count_313 dX8_count_316 (by decide) (by decide) (by decide) (by decide) (by decide) (by decide)

def j_X8_course_15 (n : Nat) (M : Mem) : Option (Rx) := some ((1 : Nat), (0 : Int32), M)
def f_X8_course (n : Nat) (x1 : Int32) (x2 : Int32) (M : Mem) : Option (Rx) := if x1 < 0 then (j_X8_course_15 n  M) else (if x1 < (gi M 4 5) then (if x2 = (0 : Int32) then (ck (inb x1 16) (some ((0 : Nat), (gi M 5 x1.toNatClampNeg), M))) else (if x2 = (1 : Int32) then (ck (inb x1 16) (some ((0 : Nat), (gi M 6 x1.toNatClampNeg), M))) else (if x2 = (2 : Int32) then (if (gi M 4 6) ≤ x1 then (some ((0 : Nat), (0 : Int32), M)) else (some ((0 : Nat), (1 : Int32), M))) else (some ((1 : Nat), (0 : Int32), M))))) else (j_X8_course_15 n  M))
set_option maxHeartbeats 4000000 in
set_option maxRecDepth 100000 in
theorem c_X8_course (l : Launch) (w : Wd) (hst : l.stackTraces = false) (n : Nat) (x1 : Int32) (x2 : Int32) (M : Mem) (res : Rx) (hf : f_X8_course n  x1 x2 M = some res) : CX l w layC 61 (XN (YC w)) yX8_course cX8_course 3 (some .int) 6 1 [.ref (w.2.2.1 0), .int x1, .int x2] M (GXi w layC 61 res) (GXx w layC 61 res) := by
  refine cx_start (by decide +kernel) (Nat.le_of_ble_eq_true rfl) ?_
  intro p e s m args below meth c F hr hlk hno hX hG ls hl
  have F : FX w p m c cX8_course 3 s args RX8 := F
  have hx := F.1.1
  have hb := F.1.2.1
  have hl : lv_has ls 3 [(0, .ref (w.2.2.1 0)), (1, .int x1), (2, .int x2)] := hl
  have hJ15 : ∀ (M : Mem) (H : Heap) (locs : List Loc) (ls : Array Slot), j_X8_course_15 n   M = some res → GI w layC 61 s.heap M H locs → lv_has ls 3 [] → W p l e (RmX 6 1) s m args below meth c H locs 0 0 (vx_MQ below (GXi w layC 61 res s.heap.size) (GXx w layC 61 res s.heap.size) args s 1 (6 * 1) (gA w.2.2.1 61 s.heap.size)) (F0 m 15 ls []) := by
    intro  M H locs ls hf hG hl
    unfold j_X8_course_15 at hf
    exact gx_throwN hst F hG hX.2.2.1 hno hlk ts_X8_170_174 rfl (text := "course") (by decide) hf hl.1 dX8_course_15 dX8_course_18 dX8_course_19 dX8_course_21 dX8_course_24 (by decide) (by decide) (by decide) (by decide) (by decide) (by decide)
  unfold f_X8_course at hf
  refine lv_iload_n hx hb dX8_course_0 rfl (lv_at hl 1 rfl) ?_
  refine lv_if_lt (tgt := 15) hx hb dX8_course_1 (by decide) (fun c1 => ?_) (fun c1 => ?_)
  · replace hf := if_t c1 hf
    exact hJ15  _ _ _ ls hf hG (lv_sub hl [] rfl)
  · replace hf := if_f c1 hf
    refine lv_iload_n hx hb dX8_course_4 rfl (lv_at hl 1 rfl) ?_
    refine lv_aload_n hx hb dX8_course_5 rfl (lv_at hl 0 rfl) ?_
    refine g_getR F hG 4 ct_0 (by decide) (by decide) lk_X8_16 rfl dX8_course_6 ?_
    refine g_getI F hG st_4.1 (by decide) (by decide) lk_X8_117 rfl dX8_course_9 ?_
    refine lv_icmp_lt (tgt := 25) hx hb dX8_course_12 (by decide) (fun c2 => ?_) (fun c2 => ?_)
    · replace hf := if_t c2 hf
      refine lv_iload_n hx hb dX8_course_25 rfl (lv_at hl 2 rfl) ?_
      by_cases c3 : x2 = (0 : Int32)
      · replace hf := if_t c3 hf
        refine lv_tableIn (off := 26) (tgt := 52) hx hb dX8_course_26 (by rw [c3]; decide) (by rw [c3]; decide) (by rw [c3]; rfl) (by decide) ?_
        refine lv_aload_n hx hb dX8_course_52 rfl (lv_at hl 0 rfl) ?_
        refine g_getR F hG 4 ct_0 (by decide) (by decide) lk_X8_16 rfl dX8_course_53 ?_
        refine g_getR F hG 5 st_4.1 (by decide) (by decide) lk_X8_177 rfl dX8_course_56 ?_
        refine lv_iload_n hx hb dX8_course_59 rfl (lv_at hl 1 rfl) ?_
        replace hf := ck_some hf
        obtain ⟨k4, hf⟩ := hf
        refine g_iald F hG st_4.2.1 k4 dX8_course_60 ?_
        exact cx_iret F hr hlk hG hf (by decide) (by decide) dX8_course_61
      replace hf := if_f c3 hf
      by_cases c5 : x2 = (1 : Int32)
      · replace hf := if_t c5 hf
        refine lv_tableIn (off := 36) (tgt := 62) hx hb dX8_course_26 (by rw [c5]; decide) (by rw [c5]; decide) (by rw [c5]; rfl) (by decide) ?_
        refine lv_aload_n hx hb dX8_course_62 rfl (lv_at hl 0 rfl) ?_
        refine g_getR F hG 4 ct_0 (by decide) (by decide) lk_X8_16 rfl dX8_course_63 ?_
        refine g_getR F hG 6 st_4.1 (by decide) (by decide) lk_X8_180 rfl dX8_course_66 ?_
        refine lv_iload_n hx hb dX8_course_69 rfl (lv_at hl 1 rfl) ?_
        replace hf := ck_some hf
        obtain ⟨k6, hf⟩ := hf
        refine g_iald F hG st_4.2.2.1 k6 dX8_course_70 ?_
        exact cx_iret F hr hlk hG hf (by decide) (by decide) dX8_course_71
      replace hf := if_f c5 hf
      by_cases c7 : x2 = (2 : Int32)
      · replace hf := if_t c7 hf
        refine lv_tableIn (off := 46) (tgt := 72) hx hb dX8_course_26 (by rw [c7]; decide) (by rw [c7]; decide) (by rw [c7]; rfl) (by decide) ?_
        refine lv_iload_n hx hb dX8_course_72 rfl (lv_at hl 1 rfl) ?_
        refine lv_aload_n hx hb dX8_course_73 rfl (lv_at hl 0 rfl) ?_
        refine g_getR F hG 4 ct_0 (by decide) (by decide) lk_X8_16 rfl dX8_course_74 ?_
        refine g_getI F hG st_4.1 (by decide) (by decide) lk_X8_114 rfl dX8_course_77 ?_
        refine lv_icmp_ge (tgt := 87) hx hb dX8_course_80 (by decide) (fun c8 => ?_) (fun c8 => ?_)
        · replace hf := if_t c8 hf
          refine lv_iconst (v := 0) hx hb dX8_course_87 (by decide) ?_
          exact cx_iret F hr hlk hG hf (by decide) (by decide) dX8_course_88
        · replace hf := if_f c8 hf
          refine lv_iconst (v := 1) hx hb dX8_course_83 (by decide) ?_
          refine lv_goto (tgt := 88) hx hb dX8_course_84 (by decide) ?_
          exact cx_iret F hr hlk hG hf (by decide) (by decide) dX8_course_88
      replace hf := if_f c7 hf
      refine lv_tableOut (tgt := 89) hx hb dX8_course_26 (sw_out (0) (2) 3 (by decide) (fun k hk => match k, hk with | 0, _ => c3 | 1, _ => c5 | 2, _ => c7 | k + 3, h => absurd h (by omega))) (by decide) ?_
      exact gx_throwN hst F hG hX.2.2.1 hno hlk ts_X8_170_174 rfl (text := "what") (by decide) hf hl.1 dX8_course_89 dX8_course_92 dX8_course_93 dX8_course_95 dX8_course_98 (by decide) (by decide) (by decide) (by decide) (by decide) (by decide)
    · replace hf := if_f c2 hf
      exact hJ15  _ _ _ ls hf hG (lv_sub hl [] rfl)

def j_X8_requireWard_15 (n : Nat) (M : Mem) : Option (Rx) := some ((1 : Nat), (0 : Int32), M)
def f_X8_requireWard (n : Nat) (x1 : Int32) (M : Mem) : Option (Rx) := if x1 < 0 then (j_X8_requireWard_15 n  M) else (if x1 < (gi M 4 7) then (some ((0 : Nat), (0 : Int32), M)) else (j_X8_requireWard_15 n  M))
set_option maxHeartbeats 4000000 in
set_option maxRecDepth 100000 in
theorem c_X8_requireWard (l : Launch) (w : Wd) (hst : l.stackTraces = false) (n : Nat) (x1 : Int32) (M : Mem) (res : Rx) (hf : f_X8_requireWard n  x1 M = some res) : CX l w layC 61 (XN (YC w)) yX8_requireWard cX8_requireWard 2 none 6 1 [.ref (w.2.2.1 0), .int x1] M (GXv w layC 61 res) (GXx w layC 61 res) := by
  refine cx_start (by decide +kernel) (Nat.le_of_ble_eq_true rfl) ?_
  intro p e s m args below meth c F hr hlk hno hX hG ls hl
  have F : FX w p m c cX8_requireWard 2 s args RX8 := F
  have hx := F.1.1
  have hb := F.1.2.1
  have hl : lv_has ls 2 [(0, .ref (w.2.2.1 0)), (1, .int x1)] := hl
  have hJ15 : ∀ (M : Mem) (H : Heap) (locs : List Loc) (ls : Array Slot), j_X8_requireWard_15 n   M = some res → GI w layC 61 s.heap M H locs → lv_has ls 2 [] → W p l e (RmX 6 1) s m args below meth c H locs 0 0 (vx_MQ below (GXv w layC 61 res s.heap.size) (GXx w layC 61 res s.heap.size) args s 1 (6 * 1) (gA w.2.2.1 61 s.heap.size)) (F0 m 15 ls []) := by
    intro  M H locs ls hf hG hl
    unfold j_X8_requireWard_15 at hf
    exact gx_throwNW hst F hG hX.2.2.1 hno hlk ts_X8_170_174 rfl (text := "ward") (by decide) hf hl.1 dX8_requireWard_15 dX8_requireWard_18 dX8_requireWard_19 dX8_requireWard_22 dX8_requireWard_25 (by decide) (by decide) (by decide) (by decide) (by decide) (by decide)
  unfold f_X8_requireWard at hf
  refine lv_iload_n hx hb dX8_requireWard_0 rfl (lv_at hl 1 rfl) ?_
  refine lv_if_lt (tgt := 15) hx hb dX8_requireWard_1 (by decide) (fun c1 => ?_) (fun c1 => ?_)
  · replace hf := if_t c1 hf
    exact hJ15  _ _ _ ls hf hG (lv_sub hl [] rfl)
  · replace hf := if_f c1 hf
    refine lv_iload_n hx hb dX8_requireWard_4 rfl (lv_at hl 1 rfl) ?_
    refine lv_aload_n hx hb dX8_requireWard_5 rfl (lv_at hl 0 rfl) ?_
    refine g_getR F hG 4 ct_0 (by decide) (by decide) lk_X8_16 rfl dX8_requireWard_6 ?_
    refine g_getI F hG st_4.1 (by decide) (by decide) lk_X8_120 rfl dX8_requireWard_9 ?_
    refine lv_icmp_lt (tgt := 26) hx hb dX8_requireWard_12 (by decide) (fun c2 => ?_) (fun c2 => ?_)
    · replace hf := if_t c2 hf
      exact cx_vret F hr hlk hG hf (by decide) (by decide) dX8_requireWard_26
    · replace hf := if_f c2 hf
      exact hJ15  _ _ _ ls hf hG (lv_sub hl [] rfl)

def f_X8_ward (n : Nat) (x1 : Int32) (x2 : Int32) (M : Mem) : Option (Rx) := bd (f_X8_requireWard n x1 M) (fun q1 => if q1.1 = 0 then (if x2 = (0 : Int32) then (ck (inb x1 8) (some ((0 : Nat), (gi q1.2.2 7 x1.toNatClampNeg), q1.2.2))) else (if x2 = (1 : Int32) then (ck (inb x1 8) (some ((0 : Nat), (gi q1.2.2 8 x1.toNatClampNeg), q1.2.2))) else (if x2 = (2 : Int32) then (bd (f_X4_doubters n 4  q1.2.2) (fun q7 => bd (f_X4_doubt n 4 x1 q7.1 q7.2) (fun q8 => some ((0 : Nat), q8.1, q8.2)))) else (if x2 = (3 : Int32) then (ck (isTwB ((gi q1.2.2 0 12).toNatClampNeg)) (bd (f_X4_doubters n 4  q1.2.2) (fun q11 => bd (f_X4_doubt n 4 x1 q11.1 q11.2) (fun q12 => bd (f_X6_gift n ((gi q1.2.2 0 12).toNatClampNeg) 4 x1 q12.1 q12.2) (fun q13 => some ((0 : Nat), q13.1, q13.2)))))) else (some ((1 : Nat), (0 : Int32), q1.2.2)))))) else (some (q1.1, (0 : Int32), q1.2.2)))
set_option maxHeartbeats 4000000 in
set_option maxRecDepth 100000 in
theorem c_X8_ward (l : Launch) (w : Wd) (hst : l.stackTraces = false) (n : Nat) (x1 : Int32) (x2 : Int32) (M : Mem) (res : Rx) (hf : f_X8_ward n  x1 x2 M = some res) : CX l w layC 61 (XN (YC w)) yX8_ward cX8_ward 3 (some .int) 7 2 [.ref (w.2.2.1 0), .int x1, .int x2] M (GXi w layC 61 res) (GXx w layC 61 res) := by
  refine cx_start (by decide +kernel) (Nat.le_of_ble_eq_true rfl) ?_
  intro p e s m args below meth c F hr hlk hno hX hG ls hl
  have F : FX w p m c cX8_ward 3 s args RX8 := F
  have hx := F.1.1
  have hb := F.1.2.1
  have hl : lv_has ls 3 [(0, .ref (w.2.2.1 0)), (1, .int x1), (2, .int x2)] := hl
  unfold f_X8_ward at hf
  refine lv_aload_n hx hb dX8_ward_0 rfl (lv_at hl 0 rfl) ?_
  refine lv_iload_n hx hb dX8_ward_1 rfl (lv_at hl 1 rfl) ?_
  replace hf := bd_some hf
  obtain ⟨q1, eq1, hf⟩ := hf
  refine gx_xcallv hno hlk F hG (gx_xrunV (xn_ok (yc_ok w)) F hX hG (c_X8_requireWard l w hst n x1 _ _ eq1) cv_X8_183 ⟨Nat.le_of_ble_eq_true rfl, Nat.le_of_ble_eq_true rfl⟩ (g_recv F hG ct_0 (by decide) rfl) rfl hl.1 rfl (Nat.le_of_ble_eq_true rfl) dX8_ward_2 ⟨by decide, by decide⟩) (by decide) (by decide) (fun hz => if_f hz hf) (fun hz H locs hG => ?_)
  replace hf := if_t hz hf
  refine W.widen (k := 1) (n := 6) (by decide) (by decide) ?_
  refine lv_iload_n hx hb dX8_ward_5 rfl (lv_at hl 2 rfl) ?_
  by_cases c2 : x2 = (0 : Int32)
  · replace hf := if_t c2 hf
    refine lv_tableIn (off := 30) (tgt := 36) hx hb dX8_ward_6 (by rw [c2]; decide) (by rw [c2]; decide) (by rw [c2]; rfl) (by decide) ?_
    refine lv_aload_n hx hb dX8_ward_36 rfl (lv_at hl 0 rfl) ?_
    refine g_getR F hG 4 ct_0 (by decide) (by decide) lk_X8_16 rfl dX8_ward_37 ?_
    refine g_getR F hG 7 st_4.1 (by decide) (by decide) lk_X8_186 rfl dX8_ward_40 ?_
    refine lv_iload_n hx hb dX8_ward_43 rfl (lv_at hl 1 rfl) ?_
    replace hf := ck_some hf
    obtain ⟨k3, hf⟩ := hf
    refine g_iald F hG st_4.2.2.2.1 k3 dX8_ward_44 ?_
    exact cx_iret F hr hlk hG hf (by decide) (by decide) dX8_ward_45
  replace hf := if_f c2 hf
  by_cases c4 : x2 = (1 : Int32)
  · replace hf := if_t c4 hf
    refine lv_tableIn (off := 40) (tgt := 46) hx hb dX8_ward_6 (by rw [c4]; decide) (by rw [c4]; decide) (by rw [c4]; rfl) (by decide) ?_
    refine lv_aload_n hx hb dX8_ward_46 rfl (lv_at hl 0 rfl) ?_
    refine g_getR F hG 4 ct_0 (by decide) (by decide) lk_X8_16 rfl dX8_ward_47 ?_
    refine g_getR F hG 8 st_4.1 (by decide) (by decide) lk_X8_189 rfl dX8_ward_50 ?_
    refine lv_iload_n hx hb dX8_ward_53 rfl (lv_at hl 1 rfl) ?_
    replace hf := ck_some hf
    obtain ⟨k5, hf⟩ := hf
    refine g_iald F hG st_4.2.2.2.2.1 k5 dX8_ward_54 ?_
    exact cx_iret F hr hlk hG hf (by decide) (by decide) dX8_ward_55
  replace hf := if_f c4 hf
  by_cases c6 : x2 = (2 : Int32)
  · replace hf := if_t c6 hf
    refine lv_tableIn (off := 50) (tgt := 56) hx hb dX8_ward_6 (by rw [c6]; decide) (by rw [c6]; decide) (by rw [c6]; rfl) (by decide) ?_
    refine lv_aload_n hx hb dX8_ward_56 rfl (lv_at hl 0 rfl) ?_
    refine g_getR F hG 4 ct_0 (by decide) (by decide) lk_X8_16 rfl dX8_ward_57 ?_
    refine lv_iload_n hx hb dX8_ward_60 rfl (lv_at hl 1 rfl) ?_
    refine lv_aload_n hx hb dX8_ward_61 rfl (lv_at hl 0 rfl) ?_
    refine g_getR F hG 4 ct_0 (by decide) (by decide) lk_X8_16 rfl dX8_ward_62 ?_
    replace hf := bd_some hf
    obtain ⟨q7, eq7, hf⟩ := hf
    refine gx_calli hG (gx_runV (xn_ok (yc_ok w)) F hX hG (c_X4_doubters l w (yc_ok w) n 4 st_4  _ _ eq7) cv_X8_163 ⟨Nat.le_of_ble_eq_true rfl, Nat.le_of_ble_eq_true rfl⟩ (g_recv F hG st_4.1 (by decide) rfl) rfl hl.1 rfl (Nat.le_of_ble_eq_true rfl) dX8_ward_65 ⟨by decide, by decide⟩) (fun H locs hG => ?_)
    replace hf := bd_some hf
    obtain ⟨q8, eq8, hf⟩ := hf
    refine gx_calli hG (gx_runV (xn_ok (yc_ok w)) F hX hG (c_X4_doubt l w (yc_ok w) n 4 st_4 x1 q7.1 _ _ eq8) cv_X8_192 ⟨Nat.le_of_ble_eq_true rfl, Nat.le_of_ble_eq_true rfl⟩ (g_recv F hG st_4.1 (by decide) rfl) rfl hl.1 rfl (Nat.le_of_ble_eq_true rfl) dX8_ward_68 ⟨by decide, by decide⟩) (fun H locs hG => ?_)
    exact cx_iret F hr hlk hG hf (by decide) (by decide) dX8_ward_71
  replace hf := if_f c6 hf
  by_cases c9 : x2 = (3 : Int32)
  · replace hf := if_t c9 hf
    refine lv_tableIn (off := 66) (tgt := 72) hx hb dX8_ward_6 (by rw [c9]; decide) (by rw [c9]; decide) (by rw [c9]; rfl) (by decide) ?_
    refine lv_aload_n hx hb dX8_ward_72 rfl (lv_at hl 0 rfl) ?_
    replace hf := ck_some hf
    obtain ⟨k10, hf⟩ := hf
    refine g_getM F hG ct_0 (by decide) (by decide) lk_X8_66 rfl dX8_ward_73 ?_
    refine lv_aload_n hx hb dX8_ward_76 rfl (lv_at hl 0 rfl) ?_
    refine g_getR F hG 4 ct_0 (by decide) (by decide) lk_X8_16 rfl dX8_ward_77 ?_
    refine lv_iload_n hx hb dX8_ward_80 rfl (lv_at hl 1 rfl) ?_
    refine lv_aload_n hx hb dX8_ward_81 rfl (lv_at hl 0 rfl) ?_
    refine g_getR F hG 4 ct_0 (by decide) (by decide) lk_X8_16 rfl dX8_ward_82 ?_
    refine lv_iload_n hx hb dX8_ward_85 rfl (lv_at hl 1 rfl) ?_
    refine lv_aload_n hx hb dX8_ward_86 rfl (lv_at hl 0 rfl) ?_
    refine g_getR F hG 4 ct_0 (by decide) (by decide) lk_X8_16 rfl dX8_ward_87 ?_
    replace hf := bd_some hf
    obtain ⟨q11, eq11, hf⟩ := hf
    refine gx_calli hG (gx_runV (xn_ok (yc_ok w)) F hX hG (c_X4_doubters l w (yc_ok w) n 4 st_4  _ _ eq11) cv_X8_163 ⟨Nat.le_of_ble_eq_true rfl, Nat.le_of_ble_eq_true rfl⟩ (g_recv F hG st_4.1 (by decide) rfl) rfl hl.1 rfl (Nat.le_of_ble_eq_true rfl) dX8_ward_90 ⟨by decide, by decide⟩) (fun H locs hG => ?_)
    replace hf := bd_some hf
    obtain ⟨q12, eq12, hf⟩ := hf
    refine gx_calli hG (gx_runV (xn_ok (yc_ok w)) F hX hG (c_X4_doubt l w (yc_ok w) n 4 st_4 x1 q11.1 _ _ eq12) cv_X8_192 ⟨Nat.le_of_ble_eq_true rfl, Nat.le_of_ble_eq_true rfl⟩ (g_recv F hG st_4.1 (by decide) rfl) rfl hl.1 rfl (Nat.le_of_ble_eq_true rfl) dX8_ward_93 ⟨by decide, by decide⟩) (fun H locs hG => ?_)
    replace hf := bd_some hf
    obtain ⟨q13, eq13, hf⟩ := hf
    refine gx_calli hG (gx_runV (xn_ok (yc_ok w)) F hX hG (c_X6_gift l w (yc_ok w) n ((gi q1.2.2 0 12).toNatClampNeg) (tw_of k10) 4 st_4 x1 q12.1 _ _ eq13) cv_X8_196 ⟨Nat.le_of_ble_eq_true rfl, Nat.le_of_ble_eq_true rfl⟩ (g_recv F hG (tw_of k10).1 (by decide) rfl) rfl hl.1 rfl (Nat.le_of_ble_eq_true rfl) dX8_ward_96 ⟨by decide, by decide⟩) (fun H locs hG => ?_)
    exact cx_iret F hr hlk hG hf (by decide) (by decide) dX8_ward_99
  replace hf := if_f c9 hf
  refine lv_tableOut (tgt := 100) hx hb dX8_ward_6 (sw_out (0) (3) 4 (by decide) (fun k hk => match k, hk with | 0, _ => c2 | 1, _ => c4 | 2, _ => c6 | 3, _ => c9 | k + 4, h => absurd h (by omega))) (by decide) ?_
  exact gx_throwN hst F hG hX.2.2.1 hno hlk ts_X8_170_174 rfl (text := "what") (by decide) hf hl.1 dX8_ward_100 dX8_ward_103 dX8_ward_104 dX8_ward_106 dX8_ward_109 (by decide) (by decide) (by decide) (by decide) (by decide) (by decide)

def f_X8_refuse (n : Nat) (x1 : Int32) (M : Mem) : Option (Int32 × Mem) := ck (inb x1 3) (ck (inb x1 3) (some ((-1 : Int32), si M 1 x1.toNatClampNeg ((gi M 1 x1.toNatClampNeg) + (1 : Int32)))))
set_option maxHeartbeats 4000000 in
set_option maxRecDepth 100000 in
theorem c_X8_refuse (l : Launch) (w : Wd)  (n : Nat) (x1 : Int32) (M : Mem) (res : Int32 × Mem) (hf : f_X8_refuse n  x1 M = some res) : CG l w layC 61 (XN (YC w)) yX8_refuse cX8_refuse 2 (some .int) 0 [.ref (w.2.2.1 0), .int x1] M (GQi w layC 61 res) := by
  refine cg_start (by decide +kernel) (Nat.le_of_ble_eq_true rfl) ?_
  intro p e s m args below meth c F hr hlk hX hG ls hl
  have F : FX w p m c cX8_refuse 2 s args RX8 := F
  have hx := F.1.1
  have hb := F.1.2.1
  have hl : lv_has ls 2 [(0, .ref (w.2.2.1 0)), (1, .int x1)] := hl
  unfold f_X8_refuse at hf
  refine lv_aload_n hx hb dX8_refuse_0 rfl (lv_at hl 0 rfl) ?_
  refine g_getR F hG 1 ct_0 (by decide) (by decide) lk_X8_7 rfl dX8_refuse_1 ?_
  refine lv_iload_n hx hb dX8_refuse_4 rfl (lv_at hl 1 rfl) ?_
  refine lv_dup2_11 hx hb dX8_refuse_5 rfl rfl ?_
  replace hf := ck_some hf
  obtain ⟨k1, hf⟩ := hf
  refine g_iald F hG oC_1 k1 dX8_refuse_6 ?_
  refine lv_iconst (v := 1) hx hb dX8_refuse_7 (by decide) ?_
  refine lv_iadd hx hb dX8_refuse_8 ?_
  replace hf := ck_some hf
  obtain ⟨k2, hf⟩ := hf
  refine g_iast F hG oC_1 k2 dX8_refuse_9 (fun H locs hG => ?_)
  refine lv_iconst (v := -1) hx hb dX8_refuse_10 (by decide) ?_
  exact cg_iret F hr hlk hG hf dX8_refuse_11

def j_X8_days_26 (n : Nat) (M : Mem) : Option (Int32 × Mem) := bd (f_X8_refuse n  (1 : Int32) M) (fun q1 => some (q1.1, q1.2))
def b_X8_days_45 (n : Nat) (x1 : Int32) (q : (Int32 × Mem)) : Option ((Int32 × Mem) ⊕ (Int32 × Mem)) := match q with
  | (x2, M) => if x1 ≤ x2 then (mr (some ((gi M 4 8), M))) else (ck (isTwB ((gi M 0 12).toNatClampNeg)) (ck (isTwB ((gi M 0 12).toNatClampNeg)) (bd (f_X6_windOn n ((gi M 0 12).toNatClampNeg) (gi M 4 8) M) (fun q5 => bd (f_X4_passDay n 4 ((gi M 0 12).toNatClampNeg) q5.1 q5.2) (fun q6 => some (.inl ((x2 + (1 : Int32)), q6)))))))
def f_X8_days (n : Nat) (x1 : Int32) (M : Mem) : Option (Int32 × Mem) := if x1 < (1 : Int32) then (j_X8_days_26 n  M) else (if (20 : Int32) < x1 then (j_X8_days_26 n  M) else (if ((gi M 4 8) + x1) ≤ (9999 : Int32) then (bd (f_X1_keep n 34 4  M) (fun q10 => gl (b_X8_days_45 n  x1) n ((0 : Int32), q10))) else (j_X8_days_26 n  M)))
set_option maxHeartbeats 4000000 in
set_option maxRecDepth 100000 in
theorem c_X8_days (l : Launch) (w : Wd)  (n : Nat) (x1 : Int32) (M : Mem) (res : Int32 × Mem) (hf : f_X8_days n  x1 M = some res) : CG l w layC 61 (XN (YC w)) yX8_days cX8_days 3 (some .int) 4 [.ref (w.2.2.1 0), .int x1] M (GQi w layC 61 res) := by
  refine cg_start (by decide +kernel) (Nat.le_of_ble_eq_true rfl) ?_
  intro p e s m args below meth c F hr hlk hX hG ls hl
  have F : FX w p m c cX8_days 3 s args RX8 := F
  have hx := F.1.1
  have hb := F.1.2.1
  have hl : lv_has ls 3 [(0, .ref (w.2.2.1 0)), (1, .int x1)] := hl
  have hJ26 : ∀ (M : Mem) (H : Heap) (locs : List Loc) (ls : Array Slot), j_X8_days_26 n   M = some res → GI w layC 61 s.heap M H locs → lv_has ls 3 [(0, .ref (w.2.2.1 0))] → W p l e (Rm 4) s m args below meth c H locs 0 0 (MQ below (GQi w layC 61 res s.heap.size) args s 0 0 (gA w.2.2.1 61 s.heap.size)) (F0 m 26 ls []) := by
    intro  M H locs ls hf hG hl
    unfold j_X8_days_26 at hf
    refine lv_aload_n hx hb dX8_days_26 rfl (lv_at hl 0 rfl) ?_
    refine lv_iconst (v := 1) hx hb dX8_days_27 (by decide) ?_
    replace hf := bd_some hf
    obtain ⟨q1, eq1, hf⟩ := hf
    refine gx_calli hG (gx_runV (xn_ok (yc_ok w)) F hX hG (c_X8_refuse l w  n  (1 : Int32) _ _ eq1) cv_X8_200 ⟨Nat.le_of_ble_eq_true rfl, Nat.le_of_ble_eq_true rfl⟩ (g_recv F hG ct_0 (by decide) rfl) rfl hl.1 rfl (Nat.le_of_ble_eq_true rfl) dX8_days_28 ⟨Nat.le_refl _, Nat.le_refl _⟩) (fun H locs hG => ?_)
    exact cg_iret F hr hlk hG hf dX8_days_31
  have hJ45 : ∀ (x1 : Int32) (x2 : Int32) (M : Mem) (H : Heap) (locs : List Loc) (ls : Array Slot), gl (b_X8_days_45 n  x1) n (x2, M) = some res → GI w layC 61 s.heap M H locs → lv_has ls 3 [(0, .ref (w.2.2.1 0)), (1, .int x1), (2, .int x2)] → W p l e (Rm 4) s m args below meth c H locs 0 0 (MQ below (GQi w layC 61 res s.heap.size) args s 0 0 (gA w.2.2.1 61 s.heap.size)) (F0 m 45 ls []) := by
    intro x1 x2 M H locs ls hf hG hl
    refine gl_run (P := fun (q : (Int32 × Mem)) => ∀ (H : Heap) (locs : List Loc) (ls : Array Slot), GI w layC 61 s.heap q.2 H locs → lv_has ls 3 [(0, .ref (w.2.2.1 0)), (1, .int x1), (2, .int q.1)] → W p l e (Rm 4) s m args below meth c H locs 0 0 (MQ below (GQi w layC 61 res s.heap.size) args s 0 0 (gA w.2.2.1 61 s.heap.size)) (F0 m 45 ls [])) ?_ n (x2, M) hf H locs ls hG hl
    clear hf hG hl ls locs H M x2
    rintro ⟨x2, M⟩ rr45 hf hI45 hE45 H locs ls hG hl
    try dsimp only at hG hl ⊢
    dsimp only [b_X8_days_45] at hf
    refine lv_iload_n hx hb dX8_days_45 rfl (lv_at hl 2 rfl) ?_
    refine lv_iload_n hx hb dX8_days_46 rfl (lv_at hl 1 rfl) ?_
    refine lv_icmp_ge (tgt := 81) hx hb dX8_days_47 (by decide) (fun c2 => ?_) (fun c2 => ?_)
    · replace hf := if_t c2 hf
      refine lv_aload_n hx hb dX8_days_81 rfl (lv_at hl 0 rfl) ?_
      refine g_getR F hG 4 ct_0 (by decide) (by decide) lk_X8_16 rfl dX8_days_82 ?_
      refine g_getI F hG st_4.1 (by decide) (by decide) lk_X8_123 rfl dX8_days_85 ?_
      replace hf := mr_some hf
      obtain ⟨z45, hf, hz⟩ := hf
      rw [hE45 _ hz] at hf
      exact cg_iret F hr hlk hG hf dX8_days_88
    · replace hf := if_f c2 hf
      refine lv_aload_n hx hb dX8_days_50 rfl (lv_at hl 0 rfl) ?_
      refine g_getR F hG 4 ct_0 (by decide) (by decide) lk_X8_16 rfl dX8_days_51 ?_
      refine lv_aload_n hx hb dX8_days_54 rfl (lv_at hl 0 rfl) ?_
      replace hf := ck_some hf
      obtain ⟨k3, hf⟩ := hf
      refine g_getM F hG ct_0 (by decide) (by decide) lk_X8_66 rfl dX8_days_55 ?_
      refine lv_aload_n hx hb dX8_days_58 rfl (lv_at hl 0 rfl) ?_
      replace hf := ck_some hf
      obtain ⟨k4, hf⟩ := hf
      refine g_getM F hG ct_0 (by decide) (by decide) lk_X8_66 rfl dX8_days_59 ?_
      refine lv_aload_n hx hb dX8_days_62 rfl (lv_at hl 0 rfl) ?_
      refine g_getR F hG 4 ct_0 (by decide) (by decide) lk_X8_16 rfl dX8_days_63 ?_
      refine g_getI F hG st_4.1 (by decide) (by decide) lk_X8_123 rfl dX8_days_66 ?_
      replace hf := bd_some hf
      obtain ⟨q5, eq5, hf⟩ := hf
      refine gx_calli hG (gx_runV (xn_ok (yc_ok w)) F hX hG (c_X6_windOn l w (yc_ok w) n ((gi M 0 12).toNatClampNeg) (tw_of k4) (gi M 4 8) _ _ eq5) cv_X8_206 ⟨Nat.le_of_ble_eq_true rfl, Nat.le_of_ble_eq_true rfl⟩ (g_recv F hG (tw_of k4).1 (by decide) rfl) rfl hl.1 rfl (Nat.le_of_ble_eq_true rfl) dX8_days_69 ⟨Nat.le_refl _, Nat.le_refl _⟩) (fun H locs hG => ?_)
      replace hf := bd_some hf
      obtain ⟨q6, eq6, hf⟩ := hf
      refine gx_callv hG (gx_runV (xn_ok (yc_ok w)) F hX hG (c_X4_passDay l w (yc_ok w) n 4 st_4 ((gi M 0 12).toNatClampNeg) (tw_of k3) q5.1 _ _ eq6) cv_X8_209 ⟨Nat.le_of_ble_eq_true rfl, Nat.le_of_ble_eq_true rfl⟩ (g_recv F hG st_4.1 (by decide) rfl) rfl hl.1 rfl (Nat.le_of_ble_eq_true rfl) dX8_days_72 ⟨Nat.le_refl _, Nat.le_refl _⟩) (fun H locs hG => ?_)
      refine lv_iinc (v := (x2 + (1 : Int32))) (lv' := [(2, .int (x2 + (1 : Int32))), (0, .ref (w.2.2.1 0)), (1, .int x1)]) hx hb dX8_days_75 hl (k := 2) rfl rfl (by decide) rfl (fun ls hl => ?_)
      refine lv_goto (tgt := 45) hx hb dX8_days_78 (by decide) ?_
      exact hI45 _ (Option.some.inj hf).symm _ _ ls hG (lv_sub hl [1, 2, 0] rfl)
  unfold f_X8_days at hf
  refine lv_iload_n hx hb dX8_days_0 rfl (lv_at hl 1 rfl) ?_
  refine lv_iconst (v := 1) hx hb dX8_days_1 (by decide) ?_
  refine lv_icmp_lt (tgt := 26) hx hb dX8_days_2 (by decide) (fun c7 => ?_) (fun c7 => ?_)
  · replace hf := if_t c7 hf
    exact hJ26  _ _ _ ls hf hG (lv_sub hl [0] rfl)
  · replace hf := if_f c7 hf
    refine lv_iload_n hx hb dX8_days_5 rfl (lv_at hl 1 rfl) ?_
    refine lv_bipush (v := 20) hx hb dX8_days_6 (by decide) ?_
    refine lv_icmp_gt (tgt := 26) hx hb dX8_days_8 (by decide) (fun c8 => ?_) (fun c8 => ?_)
    · replace hf := if_t c8 hf
      exact hJ26  _ _ _ ls hf hG (lv_sub hl [0] rfl)
    · replace hf := if_f c8 hf
      refine lv_aload_n hx hb dX8_days_11 rfl (lv_at hl 0 rfl) ?_
      refine g_getR F hG 4 ct_0 (by decide) (by decide) lk_X8_16 rfl dX8_days_12 ?_
      refine g_getI F hG st_4.1 (by decide) (by decide) lk_X8_123 rfl dX8_days_15 ?_
      refine lv_iload_n hx hb dX8_days_18 rfl (lv_at hl 1 rfl) ?_
      refine lv_iadd hx hb dX8_days_19 ?_
      refine lv_sipush (v := 9999) hx hb dX8_days_20 (by decide) ?_
      refine lv_icmp_le (tgt := 32) hx hb dX8_days_23 (by decide) (fun c9 => ?_) (fun c9 => ?_)
      · replace hf := if_t c9 hf
        refine lv_aload_n hx hb dX8_days_32 rfl (lv_at hl 0 rfl) ?_
        refine g_getR F hG 34 ct_0 (by decide) (by decide) lk_X8_29 rfl dX8_days_33 ?_
        refine lv_aload_n hx hb dX8_days_36 rfl (lv_at hl 0 rfl) ?_
        refine g_getR F hG 4 ct_0 (by decide) (by decide) lk_X8_16 rfl dX8_days_37 ?_
        replace hf := bd_some hf
        obtain ⟨q10, eq10, hf⟩ := hf
        refine gx_callv hG (gx_runV (xn_ok (yc_ok w)) F hX hG (c_X1_keep l w (yc_ok w) n 34 ac_34 4 st_4  _ _ eq10) cv_X8_203 ⟨Nat.le_of_ble_eq_true rfl, Nat.le_of_ble_eq_true rfl⟩ (g_recv F hG ac_34.1 (by decide) rfl) rfl hl.1 rfl (Nat.le_of_ble_eq_true rfl) dX8_days_40 ⟨Nat.le_refl _, Nat.le_refl _⟩) (fun H locs hG => ?_)
        refine lv_iconst (v := 0) hx hb dX8_days_43 (by decide) ?_
        refine lv_istore_n (lv' := [(2, .int (0 : Int32)), (0, .ref (w.2.2.1 0)), (1, .int x1)]) hx hb dX8_days_44 rfl hl (by decide) rfl (fun ls hl => ?_)
        exact hJ45 _ _ _ _ _ ls hf hG (lv_sub hl [1, 2, 0] rfl)
      · replace hf := if_f c9 hf
        exact hJ26  _ _ _ ls hf hG (lv_sub hl [0] rfl)

def j_X8_give_11 (n : Nat) (M : Mem) : Option (Int32 × Mem) := bd (f_X8_refuse n  (1 : Int32) M) (fun q1 => some (q1.1, q1.2))
def f_X8_give (n : Nat) (x1 : Int32) (M : Mem) : Option (Int32 × Mem) := if x1 < (1 : Int32) then (j_X8_give_11 n  M) else (if x1 ≤ (99 : Int32) then (bd (f_X1_keep n 34 4  M) (fun q4 => bd (f_X4_receive n 4 x1 q4) (fun q5 => some ((gi q5 4 9), q5)))) else (j_X8_give_11 n  M))
set_option maxHeartbeats 4000000 in
set_option maxRecDepth 100000 in
theorem c_X8_give (l : Launch) (w : Wd)  (n : Nat) (x1 : Int32) (M : Mem) (res : Int32 × Mem) (hf : f_X8_give n  x1 M = some res) : CG l w layC 61 (XN (YC w)) yX8_give cX8_give 2 (some .int) 2 [.ref (w.2.2.1 0), .int x1] M (GQi w layC 61 res) := by
  refine cg_start (by decide +kernel) (Nat.le_of_ble_eq_true rfl) ?_
  intro p e s m args below meth c F hr hlk hX hG ls hl
  have F : FX w p m c cX8_give 2 s args RX8 := F
  have hx := F.1.1
  have hb := F.1.2.1
  have hl : lv_has ls 2 [(0, .ref (w.2.2.1 0)), (1, .int x1)] := hl
  have hJ11 : ∀ (M : Mem) (H : Heap) (locs : List Loc) (ls : Array Slot), j_X8_give_11 n   M = some res → GI w layC 61 s.heap M H locs → lv_has ls 2 [(0, .ref (w.2.2.1 0))] → W p l e (Rm 2) s m args below meth c H locs 0 0 (MQ below (GQi w layC 61 res s.heap.size) args s 0 0 (gA w.2.2.1 61 s.heap.size)) (F0 m 11 ls []) := by
    intro  M H locs ls hf hG hl
    unfold j_X8_give_11 at hf
    refine lv_aload_n hx hb dX8_give_11 rfl (lv_at hl 0 rfl) ?_
    refine lv_iconst (v := 1) hx hb dX8_give_12 (by decide) ?_
    replace hf := bd_some hf
    obtain ⟨q1, eq1, hf⟩ := hf
    refine gx_calli hG (gx_runV (xn_ok (yc_ok w)) F hX hG (c_X8_refuse l w  n  (1 : Int32) _ _ eq1) cv_X8_200 ⟨Nat.le_of_ble_eq_true rfl, Nat.le_of_ble_eq_true rfl⟩ (g_recv F hG ct_0 (by decide) rfl) rfl hl.1 rfl (Nat.le_of_ble_eq_true rfl) dX8_give_13 ⟨Nat.le_refl _, Nat.le_refl _⟩) (fun H locs hG => ?_)
    exact cg_iret F hr hlk hG hf dX8_give_16
  unfold f_X8_give at hf
  refine lv_iload_n hx hb dX8_give_0 rfl (lv_at hl 1 rfl) ?_
  refine lv_iconst (v := 1) hx hb dX8_give_1 (by decide) ?_
  refine lv_icmp_lt (tgt := 11) hx hb dX8_give_2 (by decide) (fun c2 => ?_) (fun c2 => ?_)
  · replace hf := if_t c2 hf
    exact hJ11  _ _ _ ls hf hG (lv_sub hl [0] rfl)
  · replace hf := if_f c2 hf
    refine lv_iload_n hx hb dX8_give_5 rfl (lv_at hl 1 rfl) ?_
    refine lv_bipush (v := 99) hx hb dX8_give_6 (by decide) ?_
    refine lv_icmp_le (tgt := 17) hx hb dX8_give_8 (by decide) (fun c3 => ?_) (fun c3 => ?_)
    · replace hf := if_t c3 hf
      refine lv_aload_n hx hb dX8_give_17 rfl (lv_at hl 0 rfl) ?_
      refine g_getR F hG 34 ct_0 (by decide) (by decide) lk_X8_29 rfl dX8_give_18 ?_
      refine lv_aload_n hx hb dX8_give_21 rfl (lv_at hl 0 rfl) ?_
      refine g_getR F hG 4 ct_0 (by decide) (by decide) lk_X8_16 rfl dX8_give_22 ?_
      replace hf := bd_some hf
      obtain ⟨q4, eq4, hf⟩ := hf
      refine gx_callv hG (gx_runV (xn_ok (yc_ok w)) F hX hG (c_X1_keep l w (yc_ok w) n 34 ac_34 4 st_4  _ _ eq4) cv_X8_203 ⟨Nat.le_of_ble_eq_true rfl, Nat.le_of_ble_eq_true rfl⟩ (g_recv F hG ac_34.1 (by decide) rfl) rfl hl.1 rfl (Nat.le_of_ble_eq_true rfl) dX8_give_25 ⟨Nat.le_refl _, Nat.le_refl _⟩) (fun H locs hG => ?_)
      refine lv_aload_n hx hb dX8_give_28 rfl (lv_at hl 0 rfl) ?_
      refine g_getR F hG 4 ct_0 (by decide) (by decide) lk_X8_16 rfl dX8_give_29 ?_
      refine lv_iload_n hx hb dX8_give_32 rfl (lv_at hl 1 rfl) ?_
      replace hf := bd_some hf
      obtain ⟨q5, eq5, hf⟩ := hf
      refine gx_callv hG (gx_runV (xn_ok (yc_ok w)) F hX hG (c_X4_receive l w (yc_ok w) n 4 st_4 x1 _ _ eq5) cv_X8_213 ⟨Nat.le_of_ble_eq_true rfl, Nat.le_of_ble_eq_true rfl⟩ (g_recv F hG st_4.1 (by decide) rfl) rfl hl.1 rfl (Nat.le_of_ble_eq_true rfl) dX8_give_33 ⟨Nat.le_refl _, Nat.le_refl _⟩) (fun H locs hG => ?_)
      refine lv_aload_n hx hb dX8_give_36 rfl (lv_at hl 0 rfl) ?_
      refine g_getR F hG 4 ct_0 (by decide) (by decide) lk_X8_16 rfl dX8_give_37 ?_
      refine g_getI F hG st_4.1 (by decide) (by decide) lk_X8_126 rfl dX8_give_40 ?_
      exact cg_iret F hr hlk hG hf dX8_give_43
    · replace hf := if_f c3 hf
      exact hJ11  _ _ _ ls hf hG (lv_sub hl [0] rfl)

def f_X8_preach (n : Nat) (x1 : Int32) (M : Mem) : Option (Rx) := bd (f_X8_requireWard n x1 M) (fun q1 => if q1.1 = 0 then (ck (inb x1 8) (if (gi q1.2.2 7 x1.toNatClampNeg) < (99 : Int32) then (bd (f_X1_keep n 34 4  q1.2.2) (fun q4 => bd (f_X4_addFaith n 4 x1 (10 : Int32) q4) (fun q5 => ck (inb x1 8) (some ((0 : Nat), (gi q5 7 x1.toNatClampNeg), q5))))) else (bd (f_X8_refuse n  (1 : Int32) q1.2.2) (fun q7 => some ((0 : Nat), q7.1, q7.2))))) else (some (q1.1, (0 : Int32), q1.2.2)))
set_option maxHeartbeats 4000000 in
set_option maxRecDepth 100000 in
theorem c_X8_preach (l : Launch) (w : Wd) (hst : l.stackTraces = false) (n : Nat) (x1 : Int32) (M : Mem) (res : Rx) (hf : f_X8_preach n  x1 M = some res) : CX l w layC 61 (XN (YC w)) yX8_preach cX8_preach 2 (some .int) 7 1 [.ref (w.2.2.1 0), .int x1] M (GXi w layC 61 res) (GXx w layC 61 res) := by
  refine cx_start (by decide +kernel) (Nat.le_of_ble_eq_true rfl) ?_
  intro p e s m args below meth c F hr hlk hno hX hG ls hl
  have F : FX w p m c cX8_preach 2 s args RX8 := F
  have hx := F.1.1
  have hb := F.1.2.1
  have hl : lv_has ls 2 [(0, .ref (w.2.2.1 0)), (1, .int x1)] := hl
  unfold f_X8_preach at hf
  refine lv_aload_n hx hb dX8_preach_0 rfl (lv_at hl 0 rfl) ?_
  refine lv_iload_n hx hb dX8_preach_1 rfl (lv_at hl 1 rfl) ?_
  replace hf := bd_some hf
  obtain ⟨q1, eq1, hf⟩ := hf
  refine gx_xcallv hno hlk F hG (gx_xrunV (xn_ok (yc_ok w)) F hX hG (c_X8_requireWard l w hst n x1 _ _ eq1) cv_X8_183 ⟨Nat.le_of_ble_eq_true rfl, Nat.le_of_ble_eq_true rfl⟩ (g_recv F hG ct_0 (by decide) rfl) rfl hl.1 rfl (Nat.le_of_ble_eq_true rfl) dX8_preach_2 ⟨by decide, by decide⟩) (by decide) (by decide) (fun hz => if_f hz hf) (fun hz H locs hG => ?_)
  replace hf := if_t hz hf
  refine W.widen (k := 1) (n := 6) (by decide) (by decide) ?_
  refine lv_aload_n hx hb dX8_preach_5 rfl (lv_at hl 0 rfl) ?_
  refine g_getR F hG 4 ct_0 (by decide) (by decide) lk_X8_16 rfl dX8_preach_6 ?_
  refine g_getR F hG 7 st_4.1 (by decide) (by decide) lk_X8_186 rfl dX8_preach_9 ?_
  refine lv_iload_n hx hb dX8_preach_12 rfl (lv_at hl 1 rfl) ?_
  replace hf := ck_some hf
  obtain ⟨k2, hf⟩ := hf
  refine g_iald F hG st_4.2.2.2.1 k2 dX8_preach_13 ?_
  refine lv_bipush (v := 99) hx hb dX8_preach_14 (by decide) ?_
  refine lv_icmp_lt (tgt := 25) hx hb dX8_preach_16 (by decide) (fun c3 => ?_) (fun c3 => ?_)
  · replace hf := if_t c3 hf
    refine lv_aload_n hx hb dX8_preach_25 rfl (lv_at hl 0 rfl) ?_
    refine g_getR F hG 34 ct_0 (by decide) (by decide) lk_X8_29 rfl dX8_preach_26 ?_
    refine lv_aload_n hx hb dX8_preach_29 rfl (lv_at hl 0 rfl) ?_
    refine g_getR F hG 4 ct_0 (by decide) (by decide) lk_X8_16 rfl dX8_preach_30 ?_
    replace hf := bd_some hf
    obtain ⟨q4, eq4, hf⟩ := hf
    refine gx_callv hG (gx_runV (xn_ok (yc_ok w)) F hX hG (c_X1_keep l w (yc_ok w) n 34 ac_34 4 st_4  _ _ eq4) cv_X8_203 ⟨Nat.le_of_ble_eq_true rfl, Nat.le_of_ble_eq_true rfl⟩ (g_recv F hG ac_34.1 (by decide) rfl) rfl hl.1 rfl (Nat.le_of_ble_eq_true rfl) dX8_preach_33 ⟨by decide, by decide⟩) (fun H locs hG => ?_)
    refine lv_aload_n hx hb dX8_preach_36 rfl (lv_at hl 0 rfl) ?_
    refine g_getR F hG 4 ct_0 (by decide) (by decide) lk_X8_16 rfl dX8_preach_37 ?_
    refine lv_iload_n hx hb dX8_preach_40 rfl (lv_at hl 1 rfl) ?_
    refine lv_bipush (v := 10) hx hb dX8_preach_41 (by decide) ?_
    replace hf := bd_some hf
    obtain ⟨q5, eq5, hf⟩ := hf
    refine gx_callv hG (gx_runV (xn_ok (yc_ok w)) F hX hG (c_X4_addFaith l w (yc_ok w) n 4 st_4 x1 (10 : Int32) _ _ eq5) cv_X8_216 ⟨Nat.le_of_ble_eq_true rfl, Nat.le_of_ble_eq_true rfl⟩ (g_recv F hG st_4.1 (by decide) rfl) rfl hl.1 rfl (Nat.le_of_ble_eq_true rfl) dX8_preach_43 ⟨by decide, by decide⟩) (fun H locs hG => ?_)
    refine lv_aload_n hx hb dX8_preach_46 rfl (lv_at hl 0 rfl) ?_
    refine g_getR F hG 4 ct_0 (by decide) (by decide) lk_X8_16 rfl dX8_preach_47 ?_
    refine g_getR F hG 7 st_4.1 (by decide) (by decide) lk_X8_186 rfl dX8_preach_50 ?_
    refine lv_iload_n hx hb dX8_preach_53 rfl (lv_at hl 1 rfl) ?_
    replace hf := ck_some hf
    obtain ⟨k6, hf⟩ := hf
    refine g_iald F hG st_4.2.2.2.1 k6 dX8_preach_54 ?_
    exact cx_iret F hr hlk hG hf (by decide) (by decide) dX8_preach_55
  · replace hf := if_f c3 hf
    refine lv_aload_n hx hb dX8_preach_19 rfl (lv_at hl 0 rfl) ?_
    refine lv_iconst (v := 1) hx hb dX8_preach_20 (by decide) ?_
    replace hf := bd_some hf
    obtain ⟨q7, eq7, hf⟩ := hf
    refine gx_calli hG (gx_runV (xn_ok (yc_ok w)) F hX hG (c_X8_refuse l w  n  (1 : Int32) _ _ eq7) cv_X8_200 ⟨Nat.le_of_ble_eq_true rfl, Nat.le_of_ble_eq_true rfl⟩ (g_recv F hG ct_0 (by decide) rfl) rfl hl.1 rfl (Nat.le_of_ble_eq_true rfl) dX8_preach_21 ⟨by decide, by decide⟩) (fun H locs hG => ?_)
    exact cx_iret F hr hlk hG hf (by decide) (by decide) dX8_preach_24

def j_X8_mortar_15 (n : Nat) (M : Mem) : Option (Rx) := some ((1 : Nat), (0 : Int32), M)
def f_X8_mortar (n : Nat) (x1 : Int32) (M : Mem) : Option (Rx) := if x1 < 0 then (j_X8_mortar_15 n  M) else (if x1 < (gi M 4 6) then (ck (inb x1 16) (if (gi M 6 x1.toNatClampNeg) < (9 : Int32) then (bd (f_X1_keep n 34 4  M) (fun q5 => ck (inb x1 16) (ck (inb x1 16) (ck (inb x1 16) (some ((0 : Nat), (gi (si q5 6 x1.toNatClampNeg ((gi q5 6 x1.toNatClampNeg) + (1 : Int32))) 6 x1.toNatClampNeg), si q5 6 x1.toNatClampNeg ((gi q5 6 x1.toNatClampNeg) + (1 : Int32)))))))) else (bd (f_X8_refuse n  (1 : Int32) M) (fun q9 => some ((0 : Nat), q9.1, q9.2))))) else (j_X8_mortar_15 n  M))
set_option maxHeartbeats 4000000 in
set_option maxRecDepth 100000 in
theorem c_X8_mortar (l : Launch) (w : Wd) (hst : l.stackTraces = false) (n : Nat) (x1 : Int32) (M : Mem) (res : Rx) (hf : f_X8_mortar n  x1 M = some res) : CX l w layC 61 (XN (YC w)) yX8_mortar cX8_mortar 2 (some .int) 6 1 [.ref (w.2.2.1 0), .int x1] M (GXi w layC 61 res) (GXx w layC 61 res) := by
  refine cx_start (by decide +kernel) (Nat.le_of_ble_eq_true rfl) ?_
  intro p e s m args below meth c F hr hlk hno hX hG ls hl
  have F : FX w p m c cX8_mortar 2 s args RX8 := F
  have hx := F.1.1
  have hb := F.1.2.1
  have hl : lv_has ls 2 [(0, .ref (w.2.2.1 0)), (1, .int x1)] := hl
  have hJ15 : ∀ (M : Mem) (H : Heap) (locs : List Loc) (ls : Array Slot), j_X8_mortar_15 n   M = some res → GI w layC 61 s.heap M H locs → lv_has ls 2 [] → W p l e (RmX 6 1) s m args below meth c H locs 0 0 (vx_MQ below (GXi w layC 61 res s.heap.size) (GXx w layC 61 res s.heap.size) args s 1 (6 * 1) (gA w.2.2.1 61 s.heap.size)) (F0 m 15 ls []) := by
    intro  M H locs ls hf hG hl
    unfold j_X8_mortar_15 at hf
    exact gx_throwN hst F hG hX.2.2.1 hno hlk ts_X8_170_174 rfl (text := "course") (by decide) hf hl.1 dX8_mortar_15 dX8_mortar_18 dX8_mortar_19 dX8_mortar_21 dX8_mortar_24 (by decide) (by decide) (by decide) (by decide) (by decide) (by decide)
  unfold f_X8_mortar at hf
  refine lv_iload_n hx hb dX8_mortar_0 rfl (lv_at hl 1 rfl) ?_
  refine lv_if_lt (tgt := 15) hx hb dX8_mortar_1 (by decide) (fun c1 => ?_) (fun c1 => ?_)
  · replace hf := if_t c1 hf
    exact hJ15  _ _ _ ls hf hG (lv_sub hl [] rfl)
  · replace hf := if_f c1 hf
    refine lv_iload_n hx hb dX8_mortar_4 rfl (lv_at hl 1 rfl) ?_
    refine lv_aload_n hx hb dX8_mortar_5 rfl (lv_at hl 0 rfl) ?_
    refine g_getR F hG 4 ct_0 (by decide) (by decide) lk_X8_16 rfl dX8_mortar_6 ?_
    refine g_getI F hG st_4.1 (by decide) (by decide) lk_X8_114 rfl dX8_mortar_9 ?_
    refine lv_icmp_lt (tgt := 25) hx hb dX8_mortar_12 (by decide) (fun c2 => ?_) (fun c2 => ?_)
    · replace hf := if_t c2 hf
      refine lv_aload_n hx hb dX8_mortar_25 rfl (lv_at hl 0 rfl) ?_
      refine g_getR F hG 4 ct_0 (by decide) (by decide) lk_X8_16 rfl dX8_mortar_26 ?_
      refine g_getR F hG 6 st_4.1 (by decide) (by decide) lk_X8_180 rfl dX8_mortar_29 ?_
      refine lv_iload_n hx hb dX8_mortar_32 rfl (lv_at hl 1 rfl) ?_
      replace hf := ck_some hf
      obtain ⟨k3, hf⟩ := hf
      refine g_iald F hG st_4.2.2.1 k3 dX8_mortar_33 ?_
      refine lv_bipush (v := 9) hx hb dX8_mortar_34 (by decide) ?_
      refine lv_icmp_lt (tgt := 45) hx hb dX8_mortar_36 (by decide) (fun c4 => ?_) (fun c4 => ?_)
      · replace hf := if_t c4 hf
        refine lv_aload_n hx hb dX8_mortar_45 rfl (lv_at hl 0 rfl) ?_
        refine g_getR F hG 34 ct_0 (by decide) (by decide) lk_X8_29 rfl dX8_mortar_46 ?_
        refine lv_aload_n hx hb dX8_mortar_49 rfl (lv_at hl 0 rfl) ?_
        refine g_getR F hG 4 ct_0 (by decide) (by decide) lk_X8_16 rfl dX8_mortar_50 ?_
        replace hf := bd_some hf
        obtain ⟨q5, eq5, hf⟩ := hf
        refine gx_callv hG (gx_runV (xn_ok (yc_ok w)) F hX hG (c_X1_keep l w (yc_ok w) n 34 ac_34 4 st_4  _ _ eq5) cv_X8_203 ⟨Nat.le_of_ble_eq_true rfl, Nat.le_of_ble_eq_true rfl⟩ (g_recv F hG ac_34.1 (by decide) rfl) rfl hl.1 rfl (Nat.le_of_ble_eq_true rfl) dX8_mortar_53 ⟨by decide, by decide⟩) (fun H locs hG => ?_)
        refine lv_aload_n hx hb dX8_mortar_56 rfl (lv_at hl 0 rfl) ?_
        refine g_getR F hG 4 ct_0 (by decide) (by decide) lk_X8_16 rfl dX8_mortar_57 ?_
        refine g_getR F hG 6 st_4.1 (by decide) (by decide) lk_X8_180 rfl dX8_mortar_60 ?_
        refine lv_iload_n hx hb dX8_mortar_63 rfl (lv_at hl 1 rfl) ?_
        refine lv_dup2_11 hx hb dX8_mortar_64 rfl rfl ?_
        replace hf := ck_some hf
        obtain ⟨k6, hf⟩ := hf
        refine g_iald F hG st_4.2.2.1 k6 dX8_mortar_65 ?_
        refine lv_iconst (v := 1) hx hb dX8_mortar_66 (by decide) ?_
        refine lv_iadd hx hb dX8_mortar_67 ?_
        replace hf := ck_some hf
        obtain ⟨k7, hf⟩ := hf
        refine g_iast F hG st_4.2.2.1 k7 dX8_mortar_68 (fun H locs hG => ?_)
        refine lv_aload_n hx hb dX8_mortar_69 rfl (lv_at hl 0 rfl) ?_
        refine g_getR F hG 4 ct_0 (by decide) (by decide) lk_X8_16 rfl dX8_mortar_70 ?_
        refine g_getR F hG 6 st_4.1 (by decide) (by decide) lk_X8_180 rfl dX8_mortar_73 ?_
        refine lv_iload_n hx hb dX8_mortar_76 rfl (lv_at hl 1 rfl) ?_
        replace hf := ck_some hf
        obtain ⟨k8, hf⟩ := hf
        refine g_iald F hG st_4.2.2.1 k8 dX8_mortar_77 ?_
        exact cx_iret F hr hlk hG hf (by decide) (by decide) dX8_mortar_78
      · replace hf := if_f c4 hf
        refine lv_aload_n hx hb dX8_mortar_39 rfl (lv_at hl 0 rfl) ?_
        refine lv_iconst (v := 1) hx hb dX8_mortar_40 (by decide) ?_
        replace hf := bd_some hf
        obtain ⟨q9, eq9, hf⟩ := hf
        refine gx_calli hG (gx_runV (xn_ok (yc_ok w)) F hX hG (c_X8_refuse l w  n  (1 : Int32) _ _ eq9) cv_X8_200 ⟨Nat.le_of_ble_eq_true rfl, Nat.le_of_ble_eq_true rfl⟩ (g_recv F hG ct_0 (by decide) rfl) rfl hl.1 rfl (Nat.le_of_ble_eq_true rfl) dX8_mortar_41 ⟨by decide, by decide⟩) (fun H locs hG => ?_)
        exact cx_iret F hr hlk hG hf (by decide) (by decide) dX8_mortar_44
    · replace hf := if_f c2 hf
      exact hJ15  _ _ _ ls hf hG (lv_sub hl [] rfl)

def f_X8_prop (n : Nat) (M : Mem) : Option (Int32 × Mem) := if (gi M 4 10) = 0 then (bd (f_X8_refuse n  (1 : Int32) M) (fun q2 => some (q2.1, q2.2))) else (bd (f_X1_keep n 34 4  M) (fun q3 => some ((gi q3 4 10), si q3 4 10 (0 : Int32))))
set_option maxHeartbeats 4000000 in
set_option maxRecDepth 100000 in
theorem c_X8_prop (l : Launch) (w : Wd)  (n : Nat) (M : Mem) (res : Int32 × Mem) (hf : f_X8_prop n   M = some res) : CG l w layC 61 (XN (YC w)) yX8_prop cX8_prop 2 (some .int) 2 [.ref (w.2.2.1 0)] M (GQi w layC 61 res) := by
  refine cg_start (by decide +kernel) (Nat.le_of_ble_eq_true rfl) ?_
  intro p e s m args below meth c F hr hlk hX hG ls hl
  have F : FX w p m c cX8_prop 2 s args RX8 := F
  have hx := F.1.1
  have hb := F.1.2.1
  have hl : lv_has ls 2 [(0, .ref (w.2.2.1 0))] := hl
  unfold f_X8_prop at hf
  refine lv_aload_n hx hb dX8_prop_0 rfl (lv_at hl 0 rfl) ?_
  refine g_getR F hG 4 ct_0 (by decide) (by decide) lk_X8_16 rfl dX8_prop_1 ?_
  refine g_getI F hG st_4.1 (by decide) (by decide) lk_X8_129 rfl dX8_prop_4 ?_
  refine lv_if_ne (tgt := 16) hx hb dX8_prop_7 (by decide) (fun c1 => ?_) (fun c1 => ?_)
  · replace hf := if_f c1 hf
    refine lv_aload_n hx hb dX8_prop_16 rfl (lv_at hl 0 rfl) ?_
    refine g_getR F hG 34 ct_0 (by decide) (by decide) lk_X8_29 rfl dX8_prop_17 ?_
    refine lv_aload_n hx hb dX8_prop_20 rfl (lv_at hl 0 rfl) ?_
    refine g_getR F hG 4 ct_0 (by decide) (by decide) lk_X8_16 rfl dX8_prop_21 ?_
    replace hf := bd_some hf
    obtain ⟨q3, eq3, hf⟩ := hf
    refine gx_callv hG (gx_runV (xn_ok (yc_ok w)) F hX hG (c_X1_keep l w (yc_ok w) n 34 ac_34 4 st_4  _ _ eq3) cv_X8_203 ⟨Nat.le_of_ble_eq_true rfl, Nat.le_of_ble_eq_true rfl⟩ (g_recv F hG ac_34.1 (by decide) rfl) rfl hl.1 rfl (Nat.le_of_ble_eq_true rfl) dX8_prop_24 ⟨Nat.le_refl _, Nat.le_refl _⟩) (fun H locs hG => ?_)
    refine lv_aload_n hx hb dX8_prop_27 rfl (lv_at hl 0 rfl) ?_
    refine g_getR F hG 4 ct_0 (by decide) (by decide) lk_X8_16 rfl dX8_prop_28 ?_
    refine g_getI F hG st_4.1 (by decide) (by decide) lk_X8_129 rfl dX8_prop_31 ?_
    refine lv_istore_n (lv' := [(1, .int (gi q3 4 10)), (0, .ref (w.2.2.1 0))]) hx hb dX8_prop_34 rfl hl (by decide) rfl (fun ls hl => ?_)
    refine lv_aload_n hx hb dX8_prop_35 rfl (lv_at hl 1 rfl) ?_
    refine g_getR F hG 4 ct_0 (by decide) (by decide) lk_X8_16 rfl dX8_prop_36 ?_
    refine lv_iconst (v := 0) hx hb dX8_prop_39 (by decide) ?_
    refine g_putI F hG st_4.1 (by decide) (by decide) lkv_X8_129 rfl rfl rfl dX8_prop_40 (fun H locs hG => ?_)
    refine lv_iload_n hx hb dX8_prop_43 rfl (lv_at hl 0 rfl) ?_
    exact cg_iret F hr hlk hG hf dX8_prop_44
  · replace hf := if_t c1 hf
    refine lv_aload_n hx hb dX8_prop_10 rfl (lv_at hl 0 rfl) ?_
    refine lv_iconst (v := 1) hx hb dX8_prop_11 (by decide) ?_
    replace hf := bd_some hf
    obtain ⟨q2, eq2, hf⟩ := hf
    refine gx_calli hG (gx_runV (xn_ok (yc_ok w)) F hX hG (c_X8_refuse l w  n  (1 : Int32) _ _ eq2) cv_X8_200 ⟨Nat.le_of_ble_eq_true rfl, Nat.le_of_ble_eq_true rfl⟩ (g_recv F hG ct_0 (by decide) rfl) rfl hl.1 rfl (Nat.le_of_ble_eq_true rfl) dX8_prop_12 ⟨Nat.le_refl _, Nat.le_refl _⟩) (fun H locs hG => ?_)
    exact cg_iret F hr hlk hG hf dX8_prop_15

def j_X8_street_28 (n : Nat) (M : Mem) : Option (Rx) := bd (f_X8_refuse n  (1 : Int32) M) (fun q1 => some ((0 : Nat), (0 : Int32), q1.2))
def f_X8_street (n : Nat) (x1 : Int32) (x2 : Int32) (x3 : Int32) (M : Mem) : Option (Rx) := bd (f_X8_requireWard n x1 M) (fun q2 => if q2.1 = 0 then (bd (f_X8_requireWard n x2 q2.2.2) (fun q3 => if q3.1 = 0 then (if x1 = x2 then (j_X8_street_28 n  q3.2.2) else (bd (f_X4_isStreet n 4 x1 x2 q3.2.2) (fun q5 => if q5.1 = x3 then (j_X8_street_28 n  q5.2) else (bd (f_X1_keep n 34 4  q5.2) (fun q7 => bd (f_X4_turnStreet n 4 x1 x2 q7) (fun q8 => some ((0 : Nat), (1 : Int32), q8))))))) else (some (q3.1, (0 : Int32), q3.2.2)))) else (some (q2.1, (0 : Int32), q2.2.2)))
set_option maxHeartbeats 4000000 in
set_option maxRecDepth 100000 in
theorem c_X8_street (l : Launch) (w : Wd) (hst : l.stackTraces = false) (n : Nat) (x1 : Int32) (x2 : Int32) (x3 : Int32) (M : Mem) (res : Rx) (hf : f_X8_street n  x1 x2 x3 M = some res) : CX l w layC 61 (XN (YC w)) yX8_street cX8_street 4 (some .boolean) 7 2 [.ref (w.2.2.1 0), .int x1, .int x2, .int x3] M (GXi w layC 61 res) (GXx w layC 61 res) := by
  refine cx_start (by decide +kernel) (Nat.le_of_ble_eq_true rfl) ?_
  intro p e s m args below meth c F hr hlk hno hX hG ls hl
  have F : FX w p m c cX8_street 4 s args RX8 := F
  have hx := F.1.1
  have hb := F.1.2.1
  have hl : lv_has ls 4 [(0, .ref (w.2.2.1 0)), (1, .int x1), (2, .int x2), (3, .int x3)] := hl
  have hJ28 : ∀ (M : Mem) (H : Heap) (locs : List Loc) (ls : Array Slot), j_X8_street_28 n   M = some res → GI w layC 61 s.heap M H locs → lv_has ls 4 [(0, .ref (w.2.2.1 0))] → W p l e (RmX 7 2) s m args below meth c H locs 2 12 (vx_MQ below (GXi w layC 61 res s.heap.size) (GXx w layC 61 res s.heap.size) args s 2 (6 * 2) (gA w.2.2.1 61 s.heap.size)) (F0 m 28 ls []) := by
    intro  M H locs ls hf hG hl
    unfold j_X8_street_28 at hf
    refine lv_aload_n hx hb dX8_street_28 rfl (lv_at hl 0 rfl) ?_
    refine lv_iconst (v := 1) hx hb dX8_street_29 (by decide) ?_
    replace hf := bd_some hf
    obtain ⟨q1, eq1, hf⟩ := hf
    refine gx_calli hG (gx_runV (xn_ok (yc_ok w)) F hX hG (c_X8_refuse l w  n  (1 : Int32) _ _ eq1) cv_X8_200 ⟨Nat.le_of_ble_eq_true rfl, Nat.le_of_ble_eq_true rfl⟩ (g_recv F hG ct_0 (by decide) rfl) rfl hl.1 rfl (Nat.le_of_ble_eq_true rfl) dX8_street_30 ⟨by decide, by decide⟩) (fun H locs hG => ?_)
    refine lv_pop hx hb dX8_street_33 rfl ?_
    refine lv_iconst (v := 0) hx hb dX8_street_34 (by decide) ?_
    exact cx_zret F hr hlk hG hf (Or.inl rfl) (by decide) (by decide) dX8_street_35
  unfold f_X8_street at hf
  refine lv_aload_n hx hb dX8_street_0 rfl (lv_at hl 0 rfl) ?_
  refine lv_iload_n hx hb dX8_street_1 rfl (lv_at hl 1 rfl) ?_
  replace hf := bd_some hf
  obtain ⟨q2, eq2, hf⟩ := hf
  refine gx_xcallv hno hlk F hG (gx_xrunV (xn_ok (yc_ok w)) F hX hG (c_X8_requireWard l w hst n x1 _ _ eq2) cv_X8_183 ⟨Nat.le_of_ble_eq_true rfl, Nat.le_of_ble_eq_true rfl⟩ (g_recv F hG ct_0 (by decide) rfl) rfl hl.1 rfl (Nat.le_of_ble_eq_true rfl) dX8_street_2 ⟨by decide, by decide⟩) (by decide) (by decide) (fun hz => if_f hz hf) (fun hz H locs hG => ?_)
  replace hf := if_t hz hf
  refine W.widen (k := 1) (n := 6) (by decide) (by decide) ?_
  refine lv_aload_n hx hb dX8_street_5 rfl (lv_at hl 0 rfl) ?_
  refine lv_iload_n hx hb dX8_street_6 rfl (lv_at hl 2 rfl) ?_
  replace hf := bd_some hf
  obtain ⟨q3, eq3, hf⟩ := hf
  refine gx_xcallv hno hlk F hG (gx_xrunV (xn_ok (yc_ok w)) F hX hG (c_X8_requireWard l w hst n x2 _ _ eq3) cv_X8_183 ⟨Nat.le_of_ble_eq_true rfl, Nat.le_of_ble_eq_true rfl⟩ (g_recv F hG ct_0 (by decide) rfl) rfl hl.1 rfl (Nat.le_of_ble_eq_true rfl) dX8_street_7 ⟨by decide, by decide⟩) (by decide) (by decide) (fun hz => if_f hz hf) (fun hz H locs hG => ?_)
  replace hf := if_t hz hf
  refine W.widen (k := 2) (n := 12) (by decide) (by decide) ?_
  refine lv_iload_n hx hb dX8_street_10 rfl (lv_at hl 1 rfl) ?_
  refine lv_iload_n hx hb dX8_street_11 rfl (lv_at hl 2 rfl) ?_
  refine lv_icmp_eq (tgt := 28) hx hb dX8_street_12 (by decide) (fun c4 => ?_) (fun c4 => ?_)
  · replace hf := if_t c4 hf
    exact hJ28  _ _ _ ls hf hG (lv_sub hl [0] rfl)
  · replace hf := if_f c4 hf
    refine lv_aload_n hx hb dX8_street_15 rfl (lv_at hl 0 rfl) ?_
    refine g_getR F hG 4 ct_0 (by decide) (by decide) lk_X8_16 rfl dX8_street_16 ?_
    refine lv_iload_n hx hb dX8_street_19 rfl (lv_at hl 1 rfl) ?_
    refine lv_iload_n hx hb dX8_street_20 rfl (lv_at hl 2 rfl) ?_
    replace hf := bd_some hf
    obtain ⟨q5, eq5, hf⟩ := hf
    refine gx_calli hG (gx_runV (xn_ok (yc_ok w)) F hX hG (c_X4_isStreet l w (yc_ok w) n 4 st_4 x1 x2 _ _ eq5) cv_X8_220 ⟨Nat.le_of_ble_eq_true rfl, Nat.le_of_ble_eq_true rfl⟩ (g_recv F hG st_4.1 (by decide) rfl) rfl hl.1 rfl (Nat.le_of_ble_eq_true rfl) dX8_street_21 ⟨by decide, by decide⟩) (fun H locs hG => ?_)
    refine lv_iload_n hx hb dX8_street_24 rfl (lv_at hl 3 rfl) ?_
    refine lv_icmp_ne (tgt := 36) hx hb dX8_street_25 (by decide) (fun c6 => ?_) (fun c6 => ?_)
    · replace hf := if_f c6 hf
      refine lv_aload_n hx hb dX8_street_36 rfl (lv_at hl 0 rfl) ?_
      refine g_getR F hG 34 ct_0 (by decide) (by decide) lk_X8_29 rfl dX8_street_37 ?_
      refine lv_aload_n hx hb dX8_street_40 rfl (lv_at hl 0 rfl) ?_
      refine g_getR F hG 4 ct_0 (by decide) (by decide) lk_X8_16 rfl dX8_street_41 ?_
      replace hf := bd_some hf
      obtain ⟨q7, eq7, hf⟩ := hf
      refine gx_callv hG (gx_runV (xn_ok (yc_ok w)) F hX hG (c_X1_keep l w (yc_ok w) n 34 ac_34 4 st_4  _ _ eq7) cv_X8_203 ⟨Nat.le_of_ble_eq_true rfl, Nat.le_of_ble_eq_true rfl⟩ (g_recv F hG ac_34.1 (by decide) rfl) rfl hl.1 rfl (Nat.le_of_ble_eq_true rfl) dX8_street_44 ⟨by decide, by decide⟩) (fun H locs hG => ?_)
      refine lv_aload_n hx hb dX8_street_47 rfl (lv_at hl 0 rfl) ?_
      refine g_getR F hG 4 ct_0 (by decide) (by decide) lk_X8_16 rfl dX8_street_48 ?_
      refine lv_iload_n hx hb dX8_street_51 rfl (lv_at hl 1 rfl) ?_
      refine lv_iload_n hx hb dX8_street_52 rfl (lv_at hl 2 rfl) ?_
      replace hf := bd_some hf
      obtain ⟨q8, eq8, hf⟩ := hf
      refine gx_callv hG (gx_runV (xn_ok (yc_ok w)) F hX hG (c_X4_turnStreet l w (yc_ok w) n 4 st_4 x1 x2 _ _ eq8) cv_X8_224 ⟨Nat.le_of_ble_eq_true rfl, Nat.le_of_ble_eq_true rfl⟩ (g_recv F hG st_4.1 (by decide) rfl) rfl hl.1 rfl (Nat.le_of_ble_eq_true rfl) dX8_street_53 ⟨by decide, by decide⟩) (fun H locs hG => ?_)
      refine lv_iconst (v := 1) hx hb dX8_street_56 (by decide) ?_
      exact cx_zret F hr hlk hG hf (Or.inr rfl) (by decide) (by decide) dX8_street_57
    · replace hf := if_t c6 hf
      exact hJ28  _ _ _ ls hf hG (lv_sub hl [0] rfl)

def f_X8_undo (n : Nat) (M : Mem) : Option (Int32 × Mem) := bd (f_X1_takeBack n 34 4  M) (fun q1 => if q1.1 = 0 then (some ((-1 : Int32), q1.2)) else (some ((gi q1.2 34 2), q1.2)))
set_option maxHeartbeats 4000000 in
set_option maxRecDepth 100000 in
theorem c_X8_undo (l : Launch) (w : Wd)  (n : Nat) (M : Mem) (res : Int32 × Mem) (hf : f_X8_undo n   M = some res) : CG l w layC 61 (XN (YC w)) yX8_undo cX8_undo 1 (some .int) 2 [.ref (w.2.2.1 0)] M (GQi w layC 61 res) := by
  refine cg_start (by decide +kernel) (Nat.le_of_ble_eq_true rfl) ?_
  intro p e s m args below meth c F hr hlk hX hG ls hl
  have F : FX w p m c cX8_undo 1 s args RX8 := F
  have hx := F.1.1
  have hb := F.1.2.1
  have hl : lv_has ls 1 [(0, .ref (w.2.2.1 0))] := hl
  unfold f_X8_undo at hf
  refine lv_aload_n hx hb dX8_undo_0 rfl (lv_at hl 0 rfl) ?_
  refine g_getR F hG 34 ct_0 (by decide) (by decide) lk_X8_29 rfl dX8_undo_1 ?_
  refine lv_aload_n hx hb dX8_undo_4 rfl (lv_at hl 0 rfl) ?_
  refine g_getR F hG 4 ct_0 (by decide) (by decide) lk_X8_16 rfl dX8_undo_5 ?_
  replace hf := bd_some hf
  obtain ⟨q1, eq1, hf⟩ := hf
  refine gx_calli hG (gx_runV (xn_ok (yc_ok w)) F hX hG (c_X1_takeBack l w (yc_ok w) n 34 ac_34 4 st_4  _ _ eq1) cv_X8_227 ⟨Nat.le_of_ble_eq_true rfl, Nat.le_of_ble_eq_true rfl⟩ (g_recv F hG ac_34.1 (by decide) rfl) rfl hl.1 rfl (Nat.le_of_ble_eq_true rfl) dX8_undo_8 ⟨Nat.le_refl _, Nat.le_refl _⟩) (fun H locs hG => ?_)
  refine lv_if_eq (tgt := 24) hx hb dX8_undo_11 (by decide) (fun c2 => ?_) (fun c2 => ?_)
  · replace hf := if_t c2 hf
    refine lv_iconst (v := -1) hx hb dX8_undo_24 (by decide) ?_
    exact cg_iret F hr hlk hG hf dX8_undo_25
  · replace hf := if_f c2 hf
    refine lv_aload_n hx hb dX8_undo_14 rfl (lv_at hl 0 rfl) ?_
    refine g_getR F hG 34 ct_0 (by decide) (by decide) lk_X8_29 rfl dX8_undo_15 ?_
    refine g_getI F hG ac_34.1 (by decide) (by decide) lk_X8_166 rfl dX8_undo_18 ?_
    refine lv_goto (tgt := 25) hx hb dX8_undo_21 (by decide) ?_
    exact cg_iret F hr hlk hG hf dX8_undo_25

def f_X8_passTrialDay (n : Nat) (M : Mem) : Option (Mem) := ck (isTwB ((gi M 0 12).toNatClampNeg)) (ck (isTwB ((gi M 0 12).toNatClampNeg)) (bd (f_X6_windOn n ((gi M 0 12).toNatClampNeg) (gi M 10 8) M) (fun q3 => bd (f_X4_passDay n 10 ((gi M 0 12).toNatClampNeg) q3.1 q3.2) (fun q4 => some q4))))
set_option maxHeartbeats 4000000 in
set_option maxRecDepth 100000 in
theorem c_X8_passTrialDay (l : Launch) (w : Wd)  (n : Nat) (M : Mem) (res : Mem) (hf : f_X8_passTrialDay n   M = some res) : CG l w layC 61 (XN (YC w)) yX8_passTrialDay cX8_passTrialDay 1 none 4 [.ref (w.2.2.1 0)] M (GQv w layC 61 res) := by
  refine cg_start (by decide +kernel) (Nat.le_of_ble_eq_true rfl) ?_
  intro p e s m args below meth c F hr hlk hX hG ls hl
  have F : FX w p m c cX8_passTrialDay 1 s args RX8 := F
  have hx := F.1.1
  have hb := F.1.2.1
  have hl : lv_has ls 1 [(0, .ref (w.2.2.1 0))] := hl
  unfold f_X8_passTrialDay at hf
  refine lv_aload_n hx hb dX8_passTrialDay_0 rfl (lv_at hl 0 rfl) ?_
  refine g_getR F hG 10 ct_0 (by decide) (by decide) lk_X8_20 rfl dX8_passTrialDay_1 ?_
  refine lv_aload_n hx hb dX8_passTrialDay_4 rfl (lv_at hl 0 rfl) ?_
  replace hf := ck_some hf
  obtain ⟨k1, hf⟩ := hf
  refine g_getM F hG ct_0 (by decide) (by decide) lk_X8_66 rfl dX8_passTrialDay_5 ?_
  refine lv_aload_n hx hb dX8_passTrialDay_8 rfl (lv_at hl 0 rfl) ?_
  replace hf := ck_some hf
  obtain ⟨k2, hf⟩ := hf
  refine g_getM F hG ct_0 (by decide) (by decide) lk_X8_66 rfl dX8_passTrialDay_9 ?_
  refine lv_aload_n hx hb dX8_passTrialDay_12 rfl (lv_at hl 0 rfl) ?_
  refine g_getR F hG 10 ct_0 (by decide) (by decide) lk_X8_20 rfl dX8_passTrialDay_13 ?_
  refine g_getI F hG st_10.1 (by decide) (by decide) lk_X8_123 rfl dX8_passTrialDay_16 ?_
  replace hf := bd_some hf
  obtain ⟨q3, eq3, hf⟩ := hf
  refine gx_calli hG (gx_runV (xn_ok (yc_ok w)) F hX hG (c_X6_windOn l w (yc_ok w) n ((gi M 0 12).toNatClampNeg) (tw_of k2) (gi M 10 8) _ _ eq3) cv_X8_206 ⟨Nat.le_of_ble_eq_true rfl, Nat.le_of_ble_eq_true rfl⟩ (g_recv F hG (tw_of k2).1 (by decide) rfl) rfl hl.1 rfl (Nat.le_of_ble_eq_true rfl) dX8_passTrialDay_19 ⟨Nat.le_refl _, Nat.le_refl _⟩) (fun H locs hG => ?_)
  replace hf := bd_some hf
  obtain ⟨q4, eq4, hf⟩ := hf
  refine gx_callv hG (gx_runV (xn_ok (yc_ok w)) F hX hG (c_X4_passDay l w (yc_ok w) n 10 st_10 ((gi M 0 12).toNatClampNeg) (tw_of k1) q3.1 _ _ eq4) cv_X8_209 ⟨Nat.le_of_ble_eq_true rfl, Nat.le_of_ble_eq_true rfl⟩ (g_recv F hG st_10.1 (by decide) rfl) rfl hl.1 rfl (Nat.le_of_ble_eq_true rfl) dX8_passTrialDay_22 ⟨Nat.le_refl _, Nat.le_refl _⟩) (fun H locs hG => ?_)
  exact cg_vret F hr hlk hG hf dX8_passTrialDay_25

def b_X8_go_4 (n : Nat) (x1 : Int32) (q : (Int32 × Int32 × Mem)) : Option ((Int32 × Int32 × Mem) ⊕ (Int32 × Mem)) := match q with
  | (x2, x3, M) => if x1 ≤ x3 then (mr (some (x2, M))) else (bd (f_X8_passTrialDay n   M) (fun q2 => some (.inl ((x2 + (gi q2 10 11)), (x3 + (1 : Int32)), q2))))
def f_X8_go (n : Nat) (x1 : Int32) (M : Mem) : Option (Int32 × Mem) := gl (b_X8_go_4 n  x1) n ((0 : Int32), (0 : Int32), M)
set_option maxHeartbeats 4000000 in
set_option maxRecDepth 100000 in
theorem c_X8_go (l : Launch) (w : Wd)  (n : Nat) (x1 : Int32) (M : Mem) (res : Int32 × Mem) (hf : f_X8_go n  x1 M = some res) : CG l w layC 61 (XN (YC w)) yX8_go cX8_go 4 (some .int) 5 [.ref (w.2.2.1 0), .int x1] M (GQi w layC 61 res) := by
  refine cg_start (by decide +kernel) (Nat.le_of_ble_eq_true rfl) ?_
  intro p e s m args below meth c F hr hlk hX hG ls hl
  have F : FX w p m c cX8_go 4 s args RX8 := F
  have hx := F.1.1
  have hb := F.1.2.1
  have hl : lv_has ls 4 [(0, .ref (w.2.2.1 0)), (1, .int x1)] := hl
  have hJ4 : ∀ (x1 : Int32) (x2 : Int32) (x3 : Int32) (M : Mem) (H : Heap) (locs : List Loc) (ls : Array Slot), gl (b_X8_go_4 n  x1) n (x2, x3, M) = some res → GI w layC 61 s.heap M H locs → lv_has ls 4 [(0, .ref (w.2.2.1 0)), (1, .int x1), (2, .int x2), (3, .int x3)] → W p l e (Rm 5) s m args below meth c H locs 0 0 (MQ below (GQi w layC 61 res s.heap.size) args s 0 0 (gA w.2.2.1 61 s.heap.size)) (F0 m 4 ls []) := by
    intro x1 x2 x3 M H locs ls hf hG hl
    refine gl_run (P := fun (q : (Int32 × Int32 × Mem)) => ∀ (H : Heap) (locs : List Loc) (ls : Array Slot), GI w layC 61 s.heap q.2.2 H locs → lv_has ls 4 [(0, .ref (w.2.2.1 0)), (1, .int x1), (2, .int q.1), (3, .int q.2.1)] → W p l e (Rm 5) s m args below meth c H locs 0 0 (MQ below (GQi w layC 61 res s.heap.size) args s 0 0 (gA w.2.2.1 61 s.heap.size)) (F0 m 4 ls [])) ?_ n (x2, x3, M) hf H locs ls hG hl
    clear hf hG hl ls locs H M x2 x3
    rintro ⟨x2, x3, M⟩ rr4 hf hI4 hE4 H locs ls hG hl
    try dsimp only at hG hl ⊢
    dsimp only [b_X8_go_4] at hf
    refine lv_iload_n hx hb dX8_go_4 rfl (lv_at hl 3 rfl) ?_
    refine lv_iload_n hx hb dX8_go_5 rfl (lv_at hl 1 rfl) ?_
    refine lv_icmp_ge (tgt := 29) hx hb dX8_go_6 (by decide) (fun c1 => ?_) (fun c1 => ?_)
    · replace hf := if_t c1 hf
      refine lv_iload_n hx hb dX8_go_29 rfl (lv_at hl 2 rfl) ?_
      replace hf := mr_some hf
      obtain ⟨z4, hf, hz⟩ := hf
      rw [hE4 _ hz] at hf
      exact cg_iret F hr hlk hG hf dX8_go_30
    · replace hf := if_f c1 hf
      refine lv_aload_n hx hb dX8_go_9 rfl (lv_at hl 0 rfl) ?_
      replace hf := bd_some hf
      obtain ⟨q2, eq2, hf⟩ := hf
      refine gx_callv hG (gx_runV (xn_ok (yc_ok w)) F hX hG (c_X8_passTrialDay l w  n   _ _ eq2) cv_X8_243 ⟨Nat.le_of_ble_eq_true rfl, Nat.le_of_ble_eq_true rfl⟩ (g_recv F hG ct_0 (by decide) rfl) rfl hl.1 rfl (Nat.le_of_ble_eq_true rfl) dX8_go_10 ⟨Nat.le_refl _, Nat.le_refl _⟩) (fun H locs hG => ?_)
      refine lv_iload_n hx hb dX8_go_13 rfl (lv_at hl 2 rfl) ?_
      refine lv_aload_n hx hb dX8_go_14 rfl (lv_at hl 0 rfl) ?_
      refine g_getR F hG 10 ct_0 (by decide) (by decide) lk_X8_20 rfl dX8_go_15 ?_
      refine g_getI F hG st_10.1 (by decide) (by decide) lk_X8_148 rfl dX8_go_18 ?_
      refine lv_iadd hx hb dX8_go_21 ?_
      refine lv_istore_n (lv' := [(2, .int (x2 + (gi q2 10 11))), (0, .ref (w.2.2.1 0)), (1, .int x1), (3, .int x3)]) hx hb dX8_go_22 rfl hl (by decide) rfl (fun ls hl => ?_)
      refine lv_iinc (v := (x3 + (1 : Int32))) (lv' := [(3, .int (x3 + (1 : Int32))), (2, .int (x2 + (gi q2 10 11))), (0, .ref (w.2.2.1 0)), (1, .int x1)]) hx hb dX8_go_23 hl (k := 3) rfl rfl (by decide) rfl (fun ls hl => ?_)
      refine lv_goto (tgt := 4) hx hb dX8_go_26 (by decide) ?_
      exact hI4 _ (Option.some.inj hf).symm _ _ ls hG (lv_sub hl [2, 3, 1, 0] rfl)
  unfold f_X8_go at hf
  refine lv_iconst (v := 0) hx hb dX8_go_0 (by decide) ?_
  refine lv_istore_n (lv' := [(2, .int (0 : Int32)), (0, .ref (w.2.2.1 0)), (1, .int x1)]) hx hb dX8_go_1 rfl hl (by decide) rfl (fun ls hl => ?_)
  refine lv_iconst (v := 0) hx hb dX8_go_2 (by decide) ?_
  refine lv_istore_n (lv' := [(3, .int (0 : Int32)), (2, .int (0 : Int32)), (0, .ref (w.2.2.1 0)), (1, .int x1)]) hx hb dX8_go_3 rfl hl (by decide) rfl (fun ls hl => ?_)
  exact hJ4 _ _ _ _ _ _ ls hf hG (lv_sub hl [2, 3, 1, 0] rfl)

def j_X8_requireFrom0_9 (n : Nat) (M : Mem) : Option (Rx) := some ((2 : Nat), (0 : Int32), M)
def f_X8_requireFrom0 (n : Nat) (x0 : Int32) (x1 : Int32) (M : Mem) : Option (Rx) := if x0 < 0 then (j_X8_requireFrom0_9 n  M) else (if x0 ≤ x1 then (some ((0 : Nat), (0 : Int32), M)) else (j_X8_requireFrom0_9 n  M))
set_option maxHeartbeats 4000000 in
set_option maxRecDepth 100000 in
theorem c_X8_requireFrom0 (l : Launch) (w : Wd) (hst : l.stackTraces = false) (n : Nat) (x0 : Int32) (x1 : Int32) (M : Mem) (res : Rx) (hf : f_X8_requireFrom0 n  x0 x1 M = some res) : CX l w layC 61 (XN (YC w)) yX8_requireFrom0 cX8_requireFrom0 2 none 6 1 [.int x0, .int x1] M (GXv w layC 61 res) (GXx w layC 61 res) := by
  refine cx_start (by decide +kernel) (Nat.le_of_ble_eq_true rfl) ?_
  intro p e s m args below meth c F hr hlk hno hX hG ls hl
  have F : FX w p m c cX8_requireFrom0 2 s args RX8 := F
  have hx := F.1.1
  have hb := F.1.2.1
  have hl : lv_has ls 2 [(0, .int x0), (1, .int x1)] := hl
  have hJ9 : ∀ (M : Mem) (H : Heap) (locs : List Loc) (ls : Array Slot), j_X8_requireFrom0_9 n   M = some res → GI w layC 61 s.heap M H locs → lv_has ls 2 [] → W p l e (RmX 6 1) s m args below meth c H locs 0 0 (vx_MQ below (GXv w layC 61 res s.heap.size) (GXx w layC 61 res s.heap.size) args s 1 (6 * 1) (gA w.2.2.1 61 s.heap.size)) (F0 m 9 ls []) := by
    intro  M H locs ls hf hG hl
    unfold j_X8_requireFrom0_9 at hf
    exact gx_throwSW (k := 2) hst F hG hX.2.2.1 hno hlk ts_X8_85_89 rfl (text := "not within 0 and the most") (by decide) (Or.inr rfl) rfl (by decide) hf hl.1 dX8_requireFrom0_9 dX8_requireFrom0_12 dX8_requireFrom0_13 dX8_requireFrom0_16 dX8_requireFrom0_19 (by decide) (by decide) (by decide) (by decide) (by decide) (by decide)
  unfold f_X8_requireFrom0 at hf
  refine lv_iload_n hx hb dX8_requireFrom0_0 rfl (lv_at hl 0 rfl) ?_
  refine lv_if_lt (tgt := 9) hx hb dX8_requireFrom0_1 (by decide) (fun c1 => ?_) (fun c1 => ?_)
  · replace hf := if_t c1 hf
    exact hJ9  _ _ _ ls hf hG (lv_sub hl [] rfl)
  · replace hf := if_f c1 hf
    refine lv_iload_n hx hb dX8_requireFrom0_4 rfl (lv_at hl 0 rfl) ?_
    refine lv_iload_n hx hb dX8_requireFrom0_5 rfl (lv_at hl 1 rfl) ?_
    refine lv_icmp_le (tgt := 20) hx hb dX8_requireFrom0_6 (by decide) (fun c2 => ?_) (fun c2 => ?_)
    · replace hf := if_t c2 hf
      exact cx_vret F hr hlk hG hf (by decide) (by decide) dX8_requireFrom0_20
    · replace hf := if_f c2 hf
      exact hJ9  _ _ _ ls hf hG (lv_sub hl [] rfl)

def j_X8_requireWhat_9 (n : Nat) (M : Mem) : Option (Rx) := some ((1 : Nat), (0 : Int32), M)
def f_X8_requireWhat (n : Nat) (x0 : Int32) (x1 : Int32) (M : Mem) : Option (Rx) := if x0 < 0 then (j_X8_requireWhat_9 n  M) else (if x0 ≤ x1 then (some ((0 : Nat), (0 : Int32), M)) else (j_X8_requireWhat_9 n  M))
set_option maxHeartbeats 4000000 in
set_option maxRecDepth 100000 in
theorem c_X8_requireWhat (l : Launch) (w : Wd) (hst : l.stackTraces = false) (n : Nat) (x0 : Int32) (x1 : Int32) (M : Mem) (res : Rx) (hf : f_X8_requireWhat n  x0 x1 M = some res) : CX l w layC 61 (XN (YC w)) yX8_requireWhat cX8_requireWhat 2 none 6 1 [.int x0, .int x1] M (GXv w layC 61 res) (GXx w layC 61 res) := by
  refine cx_start (by decide +kernel) (Nat.le_of_ble_eq_true rfl) ?_
  intro p e s m args below meth c F hr hlk hno hX hG ls hl
  have F : FX w p m c cX8_requireWhat 2 s args RX8 := F
  have hx := F.1.1
  have hb := F.1.2.1
  have hl : lv_has ls 2 [(0, .int x0), (1, .int x1)] := hl
  have hJ9 : ∀ (M : Mem) (H : Heap) (locs : List Loc) (ls : Array Slot), j_X8_requireWhat_9 n   M = some res → GI w layC 61 s.heap M H locs → lv_has ls 2 [] → W p l e (RmX 6 1) s m args below meth c H locs 0 0 (vx_MQ below (GXv w layC 61 res s.heap.size) (GXx w layC 61 res s.heap.size) args s 1 (6 * 1) (gA w.2.2.1 61 s.heap.size)) (F0 m 9 ls []) := by
    intro  M H locs ls hf hG hl
    unfold j_X8_requireWhat_9 at hf
    exact gx_throwN hst F hG hX.2.2.1 hno hlk ts_X8_170_174 rfl (text := "what") (by decide) hf hl.1 dX8_requireWhat_9 dX8_requireWhat_12 dX8_requireWhat_13 dX8_requireWhat_15 dX8_requireWhat_18 (by decide) (by decide) (by decide) (by decide) (by decide) (by decide)
  unfold f_X8_requireWhat at hf
  refine lv_iload_n hx hb dX8_requireWhat_0 rfl (lv_at hl 0 rfl) ?_
  refine lv_if_lt (tgt := 9) hx hb dX8_requireWhat_1 (by decide) (fun c1 => ?_) (fun c1 => ?_)
  · replace hf := if_t c1 hf
    exact hJ9  _ _ _ ls hf hG (lv_sub hl [] rfl)
  · replace hf := if_f c1 hf
    refine lv_iload_n hx hb dX8_requireWhat_4 rfl (lv_at hl 0 rfl) ?_
    refine lv_iload_n hx hb dX8_requireWhat_5 rfl (lv_at hl 1 rfl) ?_
    refine lv_icmp_le (tgt := 19) hx hb dX8_requireWhat_6 (by decide) (fun c2 => ?_) (fun c2 => ?_)
    · replace hf := if_t c2 hf
      exact cx_vret F hr hlk hG hf (by decide) (by decide) dX8_requireWhat_19
    · replace hf := if_f c2 hf
      exact hJ9  _ _ _ ls hf hG (lv_sub hl [] rfl)

def f_X8_startTrial (n : Nat) (M : Mem) : Option (Mem) := bd (f_X4_copy n 10 4  M) (fun q1 => some q1)
set_option maxHeartbeats 4000000 in
set_option maxRecDepth 100000 in
theorem c_X8_startTrial (l : Launch) (w : Wd)  (n : Nat) (M : Mem) (res : Mem) (hf : f_X8_startTrial n   M = some res) : CG l w layC 61 (XN (YC w)) yX8_startTrial cX8_startTrial 1 none 2 [.ref (w.2.2.1 0)] M (GQv w layC 61 res) := by
  refine cg_start (by decide +kernel) (Nat.le_of_ble_eq_true rfl) ?_
  intro p e s m args below meth c F hr hlk hX hG ls hl
  have F : FX w p m c cX8_startTrial 1 s args RX8 := F
  have hx := F.1.1
  have hb := F.1.2.1
  have hl : lv_has ls 1 [(0, .ref (w.2.2.1 0))] := hl
  unfold f_X8_startTrial at hf
  refine lv_aload_n hx hb dX8_startTrial_0 rfl (lv_at hl 0 rfl) ?_
  refine g_getR F hG 10 ct_0 (by decide) (by decide) lk_X8_20 rfl dX8_startTrial_1 ?_
  refine lv_aload_n hx hb dX8_startTrial_4 rfl (lv_at hl 0 rfl) ?_
  refine g_getR F hG 4 ct_0 (by decide) (by decide) lk_X8_16 rfl dX8_startTrial_5 ?_
  replace hf := bd_some hf
  obtain ⟨q1, eq1, hf⟩ := hf
  refine gx_callv hG (gx_runV (xn_ok (yc_ok w)) F hX hG (c_X4_copy l w (yc_ok w) n 10 st_10 4 st_4  _ _ eq1) cv_X8_106 ⟨Nat.le_of_ble_eq_true rfl, Nat.le_of_ble_eq_true rfl⟩ (g_recv F hG st_10.1 (by decide) rfl) rfl hl.1 rfl (Nat.le_of_ble_eq_true rfl) dX8_startTrial_8 ⟨Nat.le_refl _, Nat.le_refl _⟩) (fun H locs hG => ?_)
  exact cg_vret F hr hlk hG hf dX8_startTrial_11

def f_X8_then (n : Nat) (x1 : Int32) (x2 : Int32) (M : Mem) : Option (Rx) := bd (f_X8_requireWhat n x2 (6 : Int32) M) (fun q1 => if q1.1 = 0 then (bd (f_X8_requireFrom0 n x1 (60 : Int32) q1.2.2) (fun q2 => if q2.1 = 0 then (bd (f_X8_startTrial n   q2.2.2) (fun q3 => bd (f_X8_go n  x1 q3) (fun q4 => if x2 = (0 : Int32) then (some ((0 : Nat), (gi q4.2 10 6), q4.2)) else (if x2 = (1 : Int32) then (bd (f_X4_weightHung n 10  q4.2) (fun q7 => some ((0 : Nat), q7.1, q7.2))) else (if x2 = (2 : Int32) then (some ((0 : Nat), (gi q4.2 10 10), q4.2)) else (if x2 = (3 : Int32) then (some ((0 : Nat), (gi q4.2 10 9), q4.2)) else (if x2 = (4 : Int32) then (some ((0 : Nat), ((gi q4.2 10 5) - (gi q4.2 10 6)), q4.2)) else (if x2 = (5 : Int32) then (some ((0 : Nat), q4.1, q4.2)) else (if (gi q4.2 10 6) ≤ 0 then (some ((0 : Nat), (-1 : Int32), q4.2)) else (ck (inb ((gi q4.2 10 6) - (1 : Int32)) 16) (some ((0 : Nat), (gi q4.2 11 ((gi q4.2 10 6) - (1 : Int32)).toNatClampNeg), q4.2)))))))))))) else (some (q2.1, (0 : Int32), q2.2.2)))) else (some (q1.1, (0 : Int32), q1.2.2)))
set_option maxHeartbeats 4000000 in
set_option maxRecDepth 100000 in
theorem c_X8_then (l : Launch) (w : Wd) (hst : l.stackTraces = false) (n : Nat) (x1 : Int32) (x2 : Int32) (M : Mem) (res : Rx) (hf : f_X8_then n  x1 x2 M = some res) : CX l w layC 61 (XN (YC w)) yX8_then cX8_then 4 (some .int) 7 2 [.ref (w.2.2.1 0), .int x1, .int x2] M (GXi w layC 61 res) (GXx w layC 61 res) := by
  refine cx_start (by decide +kernel) (Nat.le_of_ble_eq_true rfl) ?_
  intro p e s m args below meth c F hr hlk hno hX hG ls hl
  have F : FX w p m c cX8_then 4 s args RX8 := F
  have hx := F.1.1
  have hb := F.1.2.1
  have hl : lv_has ls 4 [(0, .ref (w.2.2.1 0)), (1, .int x1), (2, .int x2)] := hl
  unfold f_X8_then at hf
  refine lv_iload_n hx hb dX8_then_0 rfl (lv_at hl 2 rfl) ?_
  refine lv_bipush (v := 6) hx hb dX8_then_1 (by decide) ?_
  replace hf := bd_some hf
  obtain ⟨q1, eq1, hf⟩ := hf
  refine gx_xcallv hno hlk F hG (gx_xrunS (xn_ok (yc_ok w)) F hX hG (c_X8_requireWhat l w hst n x2 (6 : Int32) _ _ eq1) cs_X8_231 ⟨Nat.le_of_ble_eq_true rfl, Nat.le_of_ble_eq_true rfl⟩ rfl hl.1 rfl (Nat.le_of_ble_eq_true rfl) dX8_then_3 ⟨by decide, by decide⟩) (by decide) (by decide) (fun hz => if_f hz hf) (fun hz H locs hG => ?_)
  replace hf := if_t hz hf
  refine W.widen (k := 1) (n := 6) (by decide) (by decide) ?_
  refine lv_iload_n hx hb dX8_then_6 rfl (lv_at hl 1 rfl) ?_
  refine lv_bipush (v := 60) hx hb dX8_then_7 (by decide) ?_
  replace hf := bd_some hf
  obtain ⟨q2, eq2, hf⟩ := hf
  refine gx_xcallv hno hlk F hG (gx_xrunS (xn_ok (yc_ok w)) F hX hG (c_X8_requireFrom0 l w hst n x1 (60 : Int32) _ _ eq2) cs_X8_234 ⟨Nat.le_of_ble_eq_true rfl, Nat.le_of_ble_eq_true rfl⟩ rfl hl.1 rfl (Nat.le_of_ble_eq_true rfl) dX8_then_9 ⟨by decide, by decide⟩) (by decide) (by decide) (fun hz => if_f hz hf) (fun hz H locs hG => ?_)
  replace hf := if_t hz hf
  refine W.widen (k := 2) (n := 12) (by decide) (by decide) ?_
  refine lv_aload_n hx hb dX8_then_12 rfl (lv_at hl 0 rfl) ?_
  replace hf := bd_some hf
  obtain ⟨q3, eq3, hf⟩ := hf
  refine gx_callv hG (gx_runV (xn_ok (yc_ok w)) F hX hG (c_X8_startTrial l w  n   _ _ eq3) cv_X8_237 ⟨Nat.le_of_ble_eq_true rfl, Nat.le_of_ble_eq_true rfl⟩ (g_recv F hG ct_0 (by decide) rfl) rfl hl.1 rfl (Nat.le_of_ble_eq_true rfl) dX8_then_13 ⟨by decide, by decide⟩) (fun H locs hG => ?_)
  refine lv_aload_n hx hb dX8_then_16 rfl (lv_at hl 0 rfl) ?_
  refine lv_iload_n hx hb dX8_then_17 rfl (lv_at hl 1 rfl) ?_
  replace hf := bd_some hf
  obtain ⟨q4, eq4, hf⟩ := hf
  refine gx_calli hG (gx_runV (xn_ok (yc_ok w)) F hX hG (c_X8_go l w  n  x1 _ _ eq4) cv_X8_240 ⟨Nat.le_of_ble_eq_true rfl, Nat.le_of_ble_eq_true rfl⟩ (g_recv F hG ct_0 (by decide) rfl) rfl hl.1 rfl (Nat.le_of_ble_eq_true rfl) dX8_then_18 ⟨by decide, by decide⟩) (fun H locs hG => ?_)
  refine lv_istore_n (lv' := [(3, .int q4.1), (0, .ref (w.2.2.1 0)), (1, .int x1), (2, .int x2)]) hx hb dX8_then_21 rfl hl (by decide) rfl (fun ls hl => ?_)
  refine lv_iload_n hx hb dX8_then_22 rfl (lv_at hl 3 rfl) ?_
  by_cases c5 : x2 = (0 : Int32)
  · replace hf := if_t c5 hf
    refine lv_tableIn (off := 37) (tgt := 60) hx hb dX8_then_23 (by rw [c5]; decide) (by rw [c5]; decide) (by rw [c5]; rfl) (by decide) ?_
    refine lv_aload_n hx hb dX8_then_60 rfl (lv_at hl 1 rfl) ?_
    refine g_getR F hG 10 ct_0 (by decide) (by decide) lk_X8_20 rfl dX8_then_61 ?_
    refine g_getI F hG st_10.1 (by decide) (by decide) lk_X8_114 rfl dX8_then_64 ?_
    exact cx_iret F hr hlk hG hf (by decide) (by decide) dX8_then_67
  replace hf := if_f c5 hf
  by_cases c6 : x2 = (1 : Int32)
  · replace hf := if_t c6 hf
    refine lv_tableIn (off := 45) (tgt := 68) hx hb dX8_then_23 (by rw [c6]; decide) (by rw [c6]; decide) (by rw [c6]; rfl) (by decide) ?_
    refine lv_aload_n hx hb dX8_then_68 rfl (lv_at hl 1 rfl) ?_
    refine g_getR F hG 10 ct_0 (by decide) (by decide) lk_X8_20 rfl dX8_then_69 ?_
    replace hf := bd_some hf
    obtain ⟨q7, eq7, hf⟩ := hf
    refine gx_calli hG (gx_runV (xn_ok (yc_ok w)) F hX hG (c_X4_weightHung l w (yc_ok w) n 10 st_10  _ _ eq7) cv_X8_132 ⟨Nat.le_of_ble_eq_true rfl, Nat.le_of_ble_eq_true rfl⟩ (g_recv F hG st_10.1 (by decide) rfl) rfl hl.1 rfl (Nat.le_of_ble_eq_true rfl) dX8_then_72 ⟨by decide, by decide⟩) (fun H locs hG => ?_)
    exact cx_iret F hr hlk hG hf (by decide) (by decide) dX8_then_75
  replace hf := if_f c6 hf
  by_cases c8 : x2 = (2 : Int32)
  · replace hf := if_t c8 hf
    refine lv_tableIn (off := 53) (tgt := 76) hx hb dX8_then_23 (by rw [c8]; decide) (by rw [c8]; decide) (by rw [c8]; rfl) (by decide) ?_
    refine lv_aload_n hx hb dX8_then_76 rfl (lv_at hl 1 rfl) ?_
    refine g_getR F hG 10 ct_0 (by decide) (by decide) lk_X8_20 rfl dX8_then_77 ?_
    refine g_getI F hG st_10.1 (by decide) (by decide) lk_X8_129 rfl dX8_then_80 ?_
    exact cx_iret F hr hlk hG hf (by decide) (by decide) dX8_then_83
  replace hf := if_f c8 hf
  by_cases c9 : x2 = (3 : Int32)
  · replace hf := if_t c9 hf
    refine lv_tableIn (off := 61) (tgt := 84) hx hb dX8_then_23 (by rw [c9]; decide) (by rw [c9]; decide) (by rw [c9]; rfl) (by decide) ?_
    refine lv_aload_n hx hb dX8_then_84 rfl (lv_at hl 1 rfl) ?_
    refine g_getR F hG 10 ct_0 (by decide) (by decide) lk_X8_20 rfl dX8_then_85 ?_
    refine g_getI F hG st_10.1 (by decide) (by decide) lk_X8_126 rfl dX8_then_88 ?_
    exact cx_iret F hr hlk hG hf (by decide) (by decide) dX8_then_91
  replace hf := if_f c9 hf
  by_cases c10 : x2 = (4 : Int32)
  · replace hf := if_t c10 hf
    refine lv_tableIn (off := 69) (tgt := 92) hx hb dX8_then_23 (by rw [c10]; decide) (by rw [c10]; decide) (by rw [c10]; rfl) (by decide) ?_
    refine lv_aload_n hx hb dX8_then_92 rfl (lv_at hl 1 rfl) ?_
    refine g_getR F hG 10 ct_0 (by decide) (by decide) lk_X8_20 rfl dX8_then_93 ?_
    refine g_getI F hG st_10.1 (by decide) (by decide) lk_X8_117 rfl dX8_then_96 ?_
    refine lv_aload_n hx hb dX8_then_99 rfl (lv_at hl 1 rfl) ?_
    refine g_getR F hG 10 ct_0 (by decide) (by decide) lk_X8_20 rfl dX8_then_100 ?_
    refine g_getI F hG st_10.1 (by decide) (by decide) lk_X8_114 rfl dX8_then_103 ?_
    refine lv_isub hx hb dX8_then_106 ?_
    exact cx_iret F hr hlk hG hf (by decide) (by decide) dX8_then_107
  replace hf := if_f c10 hf
  by_cases c11 : x2 = (5 : Int32)
  · replace hf := if_t c11 hf
    refine lv_tableIn (off := 85) (tgt := 108) hx hb dX8_then_23 (by rw [c11]; decide) (by rw [c11]; decide) (by rw [c11]; rfl) (by decide) ?_
    refine lv_iload_n hx hb dX8_then_108 rfl (lv_at hl 0 rfl) ?_
    exact cx_iret F hr hlk hG hf (by decide) (by decide) dX8_then_109
  replace hf := if_f c11 hf
  refine lv_tableOut (tgt := 110) hx hb dX8_then_23 (sw_out (0) (5) 6 (by decide) (fun k hk => match k, hk with | 0, _ => c5 | 1, _ => c6 | 2, _ => c8 | 3, _ => c9 | 4, _ => c10 | 5, _ => c11 | k + 6, h => absurd h (by omega))) (by decide) ?_
  refine lv_aload_n hx hb dX8_then_110 rfl (lv_at hl 1 rfl) ?_
  refine g_getR F hG 10 ct_0 (by decide) (by decide) lk_X8_20 rfl dX8_then_111 ?_
  refine g_getI F hG st_10.1 (by decide) (by decide) lk_X8_114 rfl dX8_then_114 ?_
  refine lv_if_le (tgt := 140) hx hb dX8_then_117 (by decide) (fun c12 => ?_) (fun c12 => ?_)
  · replace hf := if_t c12 hf
    refine lv_iconst (v := -1) hx hb dX8_then_140 (by decide) ?_
    exact cx_iret F hr hlk hG hf (by decide) (by decide) dX8_then_141
  · replace hf := if_f c12 hf
    refine lv_aload_n hx hb dX8_then_120 rfl (lv_at hl 1 rfl) ?_
    refine g_getR F hG 10 ct_0 (by decide) (by decide) lk_X8_20 rfl dX8_then_121 ?_
    refine g_getR F hG 11 st_10.1 (by decide) (by decide) lk_X8_177 rfl dX8_then_124 ?_
    refine lv_aload_n hx hb dX8_then_127 rfl (lv_at hl 1 rfl) ?_
    refine g_getR F hG 10 ct_0 (by decide) (by decide) lk_X8_20 rfl dX8_then_128 ?_
    refine g_getI F hG st_10.1 (by decide) (by decide) lk_X8_114 rfl dX8_then_131 ?_
    refine lv_iconst (v := 1) hx hb dX8_then_134 (by decide) ?_
    refine lv_isub hx hb dX8_then_135 ?_
    replace hf := ck_some hf
    obtain ⟨k13, hf⟩ := hf
    refine g_iald F hG st_10.2.1 k13 dX8_then_136 ?_
    refine lv_goto (tgt := 141) hx hb dX8_then_137 (by decide) ?_
    exact cx_iret F hr hlk hG hf (by decide) (by decide) dX8_then_141

def j_X8_wardThen_56 (n : Nat) (x1 : Int32) (x3 : Int32) (x4 : Int32) (M : Mem) : Option (Rx) := if x3 = 0 then (ck (inb x1 8) (some ((0 : Nat), (gi M 13 x1.toNatClampNeg), M))) else (some ((0 : Nat), x4, M))
def b_X8_wardThen_26 (n : Nat) (x1 : Int32) (x2 : Int32) (x3 : Int32) (q : (Int32 × Int32 × Mem)) : Option ((Int32 × Int32 × Mem) ⊕ (Rx)) := match q with
  | (x4, x5, M) => if x2 ≤ x5 then (mr (j_X8_wardThen_56 n  x1 x3 x4 M)) else (bd (f_X8_passTrialDay n   M) (fun q4 => ck (inb x1 8) (some (.inl ((x4 + (gi q4 15 x1.toNatClampNeg)), (x5 + (1 : Int32)), q4)))))
def f_X8_wardThen (n : Nat) (x1 : Int32) (x2 : Int32) (x3 : Int32) (M : Mem) : Option (Rx) := bd (f_X8_requireWard n x1 M) (fun q6 => if q6.1 = 0 then (bd (f_X8_requireWhat n x3 (1 : Int32) q6.2.2) (fun q7 => if q7.1 = 0 then (bd (f_X8_requireFrom0 n x2 (60 : Int32) q7.2.2) (fun q8 => if q8.1 = 0 then (bd (f_X8_startTrial n   q8.2.2) (fun q9 => gl (b_X8_wardThen_26 n  x1 x2 x3) n ((0 : Int32), (0 : Int32), q9))) else (some (q8.1, (0 : Int32), q8.2.2)))) else (some (q7.1, (0 : Int32), q7.2.2)))) else (some (q6.1, (0 : Int32), q6.2.2)))
set_option maxHeartbeats 4000000 in
set_option maxRecDepth 100000 in
theorem c_X8_wardThen (l : Launch) (w : Wd) (hst : l.stackTraces = false) (n : Nat) (x1 : Int32) (x2 : Int32) (x3 : Int32) (M : Mem) (res : Rx) (hf : f_X8_wardThen n  x1 x2 x3 M = some res) : CX l w layC 61 (XN (YC w)) yX8_wardThen cX8_wardThen 6 (some .int) 7 3 [.ref (w.2.2.1 0), .int x1, .int x2, .int x3] M (GXi w layC 61 res) (GXx w layC 61 res) := by
  refine cx_start (by decide +kernel) (Nat.le_of_ble_eq_true rfl) ?_
  intro p e s m args below meth c F hr hlk hno hX hG ls hl
  have F : FX w p m c cX8_wardThen 6 s args RX8 := F
  have hx := F.1.1
  have hb := F.1.2.1
  have hl : lv_has ls 6 [(0, .ref (w.2.2.1 0)), (1, .int x1), (2, .int x2), (3, .int x3)] := hl
  have hJ56 : ∀ (x1 : Int32) (x3 : Int32) (x4 : Int32) (M : Mem) (H : Heap) (locs : List Loc) (ls : Array Slot), j_X8_wardThen_56 n  x1 x3 x4 M = some res → GI w layC 61 s.heap M H locs → lv_has ls 6 [(0, .ref (w.2.2.1 0)), (1, .int x1), (3, .int x3), (4, .int x4)] → W p l e (RmX 7 3) s m args below meth c H locs 3 18 (vx_MQ below (GXi w layC 61 res s.heap.size) (GXx w layC 61 res s.heap.size) args s 3 (6 * 3) (gA w.2.2.1 61 s.heap.size)) (F0 m 56 ls []) := by
    intro x1 x3 x4 M H locs ls hf hG hl
    unfold j_X8_wardThen_56 at hf
    refine lv_iload_n hx hb dX8_wardThen_56 rfl (lv_at hl 2 rfl) ?_
    refine lv_if_ne (tgt := 72) hx hb dX8_wardThen_57 (by decide) (fun c1 => ?_) (fun c1 => ?_)
    · replace hf := if_f c1 hf
      refine lv_iload hx hb dX8_wardThen_72 (lv_at hl 3 rfl) ?_
      exact cx_iret F hr hlk hG hf (by decide) (by decide) dX8_wardThen_74
    · replace hf := if_t c1 hf
      refine lv_aload_n hx hb dX8_wardThen_60 rfl (lv_at hl 0 rfl) ?_
      refine g_getR F hG 10 ct_0 (by decide) (by decide) lk_X8_20 rfl dX8_wardThen_61 ?_
      refine g_getR F hG 13 st_10.1 (by decide) (by decide) lk_X8_186 rfl dX8_wardThen_64 ?_
      refine lv_iload_n hx hb dX8_wardThen_67 rfl (lv_at hl 1 rfl) ?_
      replace hf := ck_some hf
      obtain ⟨k2, hf⟩ := hf
      refine g_iald F hG st_10.2.2.2.1 k2 dX8_wardThen_68 ?_
      refine lv_goto (tgt := 74) hx hb dX8_wardThen_69 (by decide) ?_
      exact cx_iret F hr hlk hG hf (by decide) (by decide) dX8_wardThen_74
  have hJ26 : ∀ (x1 : Int32) (x2 : Int32) (x3 : Int32) (x4 : Int32) (x5 : Int32) (M : Mem) (H : Heap) (locs : List Loc) (ls : Array Slot), gl (b_X8_wardThen_26 n  x1 x2 x3) n (x4, x5, M) = some res → GI w layC 61 s.heap M H locs → lv_has ls 6 [(0, .ref (w.2.2.1 0)), (1, .int x1), (2, .int x2), (3, .int x3), (4, .int x4), (5, .int x5)] → W p l e (RmX 7 3) s m args below meth c H locs 3 18 (vx_MQ below (GXi w layC 61 res s.heap.size) (GXx w layC 61 res s.heap.size) args s 3 (6 * 3) (gA w.2.2.1 61 s.heap.size)) (F0 m 26 ls []) := by
    intro x1 x2 x3 x4 x5 M H locs ls hf hG hl
    refine gl_run (P := fun (q : (Int32 × Int32 × Mem)) => ∀ (H : Heap) (locs : List Loc) (ls : Array Slot), GI w layC 61 s.heap q.2.2 H locs → lv_has ls 6 [(0, .ref (w.2.2.1 0)), (1, .int x1), (2, .int x2), (3, .int x3), (4, .int q.1), (5, .int q.2.1)] → W p l e (RmX 7 3) s m args below meth c H locs 3 18 (vx_MQ below (GXi w layC 61 res s.heap.size) (GXx w layC 61 res s.heap.size) args s 3 (6 * 3) (gA w.2.2.1 61 s.heap.size)) (F0 m 26 ls [])) ?_ n (x4, x5, M) hf H locs ls hG hl
    clear hf hG hl ls locs H M x4 x5
    rintro ⟨x4, x5, M⟩ rr26 hf hI26 hE26 H locs ls hG hl
    try dsimp only at hG hl ⊢
    dsimp only [b_X8_wardThen_26] at hf
    refine lv_iload hx hb dX8_wardThen_26 (lv_at hl 5 rfl) ?_
    refine lv_iload_n hx hb dX8_wardThen_28 rfl (lv_at hl 2 rfl) ?_
    refine lv_icmp_ge (tgt := 56) hx hb dX8_wardThen_29 (by decide) (fun c3 => ?_) (fun c3 => ?_)
    · replace hf := if_t c3 hf
      replace hf := mr_some hf
      obtain ⟨z26, hf, hz⟩ := hf
      rw [hE26 _ hz] at hf
      exact hJ56 _ _ _ _ _ _ ls hf hG (lv_sub hl [0, 1, 3, 4] rfl)
    · replace hf := if_f c3 hf
      refine lv_aload_n hx hb dX8_wardThen_32 rfl (lv_at hl 0 rfl) ?_
      replace hf := bd_some hf
      obtain ⟨q4, eq4, hf⟩ := hf
      refine gx_callv hG (gx_runV (xn_ok (yc_ok w)) F hX hG (c_X8_passTrialDay l w  n   _ _ eq4) cv_X8_243 ⟨Nat.le_of_ble_eq_true rfl, Nat.le_of_ble_eq_true rfl⟩ (g_recv F hG ct_0 (by decide) rfl) rfl hl.1 rfl (Nat.le_of_ble_eq_true rfl) dX8_wardThen_33 ⟨by decide, by decide⟩) (fun H locs hG => ?_)
      refine lv_iload hx hb dX8_wardThen_36 (lv_at hl 4 rfl) ?_
      refine lv_aload_n hx hb dX8_wardThen_38 rfl (lv_at hl 0 rfl) ?_
      refine g_getR F hG 10 ct_0 (by decide) (by decide) lk_X8_20 rfl dX8_wardThen_39 ?_
      refine g_getR F hG 15 st_10.1 (by decide) (by decide) lk_X8_246 rfl dX8_wardThen_42 ?_
      refine lv_iload_n hx hb dX8_wardThen_45 rfl (lv_at hl 1 rfl) ?_
      replace hf := ck_some hf
      obtain ⟨k5, hf⟩ := hf
      refine g_iald F hG st_10.2.2.2.2.2 k5 dX8_wardThen_46 ?_
      refine lv_iadd hx hb dX8_wardThen_47 ?_
      refine lv_istore (lv' := [(4, .int (x4 + (gi q4 15 x1.toNatClampNeg))), (0, .ref (w.2.2.1 0)), (1, .int x1), (2, .int x2), (3, .int x3), (5, .int x5)]) hx hb dX8_wardThen_48 hl (by decide) rfl (fun ls hl => ?_)
      refine lv_iinc (v := (x5 + (1 : Int32))) (lv' := [(5, .int (x5 + (1 : Int32))), (4, .int (x4 + (gi q4 15 x1.toNatClampNeg))), (0, .ref (w.2.2.1 0)), (1, .int x1), (2, .int x2), (3, .int x3)]) hx hb dX8_wardThen_50 hl (k := 5) rfl rfl (by decide) rfl (fun ls hl => ?_)
      refine lv_goto (tgt := 26) hx hb dX8_wardThen_53 (by decide) ?_
      exact hI26 _ (Option.some.inj hf).symm _ _ ls hG (lv_sub hl [2, 3, 4, 5, 1, 0] rfl)
  unfold f_X8_wardThen at hf
  refine lv_aload_n hx hb dX8_wardThen_0 rfl (lv_at hl 0 rfl) ?_
  refine lv_iload_n hx hb dX8_wardThen_1 rfl (lv_at hl 1 rfl) ?_
  replace hf := bd_some hf
  obtain ⟨q6, eq6, hf⟩ := hf
  refine gx_xcallv hno hlk F hG (gx_xrunV (xn_ok (yc_ok w)) F hX hG (c_X8_requireWard l w hst n x1 _ _ eq6) cv_X8_183 ⟨Nat.le_of_ble_eq_true rfl, Nat.le_of_ble_eq_true rfl⟩ (g_recv F hG ct_0 (by decide) rfl) rfl hl.1 rfl (Nat.le_of_ble_eq_true rfl) dX8_wardThen_2 ⟨by decide, by decide⟩) (by decide) (by decide) (fun hz => if_f hz hf) (fun hz H locs hG => ?_)
  replace hf := if_t hz hf
  refine W.widen (k := 1) (n := 6) (by decide) (by decide) ?_
  refine lv_iload_n hx hb dX8_wardThen_5 rfl (lv_at hl 3 rfl) ?_
  refine lv_iconst (v := 1) hx hb dX8_wardThen_6 (by decide) ?_
  replace hf := bd_some hf
  obtain ⟨q7, eq7, hf⟩ := hf
  refine gx_xcallv hno hlk F hG (gx_xrunS (xn_ok (yc_ok w)) F hX hG (c_X8_requireWhat l w hst n x3 (1 : Int32) _ _ eq7) cs_X8_231 ⟨Nat.le_of_ble_eq_true rfl, Nat.le_of_ble_eq_true rfl⟩ rfl hl.1 rfl (Nat.le_of_ble_eq_true rfl) dX8_wardThen_7 ⟨by decide, by decide⟩) (by decide) (by decide) (fun hz => if_f hz hf) (fun hz H locs hG => ?_)
  replace hf := if_t hz hf
  refine W.widen (k := 2) (n := 12) (by decide) (by decide) ?_
  refine lv_iload_n hx hb dX8_wardThen_10 rfl (lv_at hl 2 rfl) ?_
  refine lv_bipush (v := 60) hx hb dX8_wardThen_11 (by decide) ?_
  replace hf := bd_some hf
  obtain ⟨q8, eq8, hf⟩ := hf
  refine gx_xcallv hno hlk F hG (gx_xrunS (xn_ok (yc_ok w)) F hX hG (c_X8_requireFrom0 l w hst n x2 (60 : Int32) _ _ eq8) cs_X8_234 ⟨Nat.le_of_ble_eq_true rfl, Nat.le_of_ble_eq_true rfl⟩ rfl hl.1 rfl (Nat.le_of_ble_eq_true rfl) dX8_wardThen_13 ⟨by decide, by decide⟩) (by decide) (by decide) (fun hz => if_f hz hf) (fun hz H locs hG => ?_)
  replace hf := if_t hz hf
  refine W.widen (k := 3) (n := 18) (by decide) (by decide) ?_
  refine lv_aload_n hx hb dX8_wardThen_16 rfl (lv_at hl 0 rfl) ?_
  replace hf := bd_some hf
  obtain ⟨q9, eq9, hf⟩ := hf
  refine gx_callv hG (gx_runV (xn_ok (yc_ok w)) F hX hG (c_X8_startTrial l w  n   _ _ eq9) cv_X8_237 ⟨Nat.le_of_ble_eq_true rfl, Nat.le_of_ble_eq_true rfl⟩ (g_recv F hG ct_0 (by decide) rfl) rfl hl.1 rfl (Nat.le_of_ble_eq_true rfl) dX8_wardThen_17 ⟨by decide, by decide⟩) (fun H locs hG => ?_)
  refine lv_iconst (v := 0) hx hb dX8_wardThen_20 (by decide) ?_
  refine lv_istore (lv' := [(4, .int (0 : Int32)), (0, .ref (w.2.2.1 0)), (1, .int x1), (2, .int x2), (3, .int x3)]) hx hb dX8_wardThen_21 hl (by decide) rfl (fun ls hl => ?_)
  refine lv_iconst (v := 0) hx hb dX8_wardThen_23 (by decide) ?_
  refine lv_istore (lv' := [(5, .int (0 : Int32)), (4, .int (0 : Int32)), (0, .ref (w.2.2.1 0)), (1, .int x1), (2, .int x2), (3, .int x3)]) hx hb dX8_wardThen_24 hl (by decide) rfl (fun ls hl => ?_)
  exact hJ26 _ _ _ _ _ _ _ _ ls hf hG (lv_sub hl [2, 3, 4, 5, 1, 0] rfl)

def b_X8_reaches_12 (n : Nat) (x1 : Int32) (q : (Int32 × Mem)) : Option ((Int32 × Mem) ⊕ (Rx)) := match q with
  | (x2, M) => if (60 : Int32) < x2 then (mr (some ((0 : Nat), (-1 : Int32), M))) else (if (gi M 10 6) < x1 then (bd (f_X8_passTrialDay n   M) (fun q3 => some (.inl ((x2 + (1 : Int32)), q3)))) else (mr (some ((0 : Nat), x2, M))))
def f_X8_reaches (n : Nat) (x1 : Int32) (M : Mem) : Option (Rx) := bd (f_X8_requireFrom0 n x1 (16 : Int32) M) (fun q4 => if q4.1 = 0 then (bd (f_X8_startTrial n   q4.2.2) (fun q5 => gl (b_X8_reaches_12 n  x1) n ((0 : Int32), q5))) else (some (q4.1, (0 : Int32), q4.2.2)))
set_option maxHeartbeats 4000000 in
set_option maxRecDepth 100000 in
theorem c_X8_reaches (l : Launch) (w : Wd) (hst : l.stackTraces = false) (n : Nat) (x1 : Int32) (M : Mem) (res : Rx) (hf : f_X8_reaches n  x1 M = some res) : CX l w layC 61 (XN (YC w)) yX8_reaches cX8_reaches 3 (some .int) 7 1 [.ref (w.2.2.1 0), .int x1] M (GXi w layC 61 res) (GXx w layC 61 res) := by
  refine cx_start (by decide +kernel) (Nat.le_of_ble_eq_true rfl) ?_
  intro p e s m args below meth c F hr hlk hno hX hG ls hl
  have F : FX w p m c cX8_reaches 3 s args RX8 := F
  have hx := F.1.1
  have hb := F.1.2.1
  have hl : lv_has ls 3 [(0, .ref (w.2.2.1 0)), (1, .int x1)] := hl
  have hJ12 : ∀ (x1 : Int32) (x2 : Int32) (M : Mem) (H : Heap) (locs : List Loc) (ls : Array Slot), gl (b_X8_reaches_12 n  x1) n (x2, M) = some res → GI w layC 61 s.heap M H locs → lv_has ls 3 [(0, .ref (w.2.2.1 0)), (1, .int x1), (2, .int x2)] → W p l e (RmX 7 1) s m args below meth c H locs 1 6 (vx_MQ below (GXi w layC 61 res s.heap.size) (GXx w layC 61 res s.heap.size) args s 1 (6 * 1) (gA w.2.2.1 61 s.heap.size)) (F0 m 12 ls []) := by
    intro x1 x2 M H locs ls hf hG hl
    refine gl_run (P := fun (q : (Int32 × Mem)) => ∀ (H : Heap) (locs : List Loc) (ls : Array Slot), GI w layC 61 s.heap q.2 H locs → lv_has ls 3 [(0, .ref (w.2.2.1 0)), (1, .int x1), (2, .int q.1)] → W p l e (RmX 7 1) s m args below meth c H locs 1 6 (vx_MQ below (GXi w layC 61 res s.heap.size) (GXx w layC 61 res s.heap.size) args s 1 (6 * 1) (gA w.2.2.1 61 s.heap.size)) (F0 m 12 ls [])) ?_ n (x2, M) hf H locs ls hG hl
    clear hf hG hl ls locs H M x2
    rintro ⟨x2, M⟩ rr12 hf hI12 hE12 H locs ls hG hl
    try dsimp only at hG hl ⊢
    dsimp only [b_X8_reaches_12] at hf
    refine lv_iload_n hx hb dX8_reaches_12 rfl (lv_at hl 2 rfl) ?_
    refine lv_bipush (v := 60) hx hb dX8_reaches_13 (by decide) ?_
    refine lv_icmp_gt (tgt := 41) hx hb dX8_reaches_15 (by decide) (fun c1 => ?_) (fun c1 => ?_)
    · replace hf := if_t c1 hf
      refine lv_iconst (v := -1) hx hb dX8_reaches_41 (by decide) ?_
      replace hf := mr_some hf
      obtain ⟨z12, hf, hz⟩ := hf
      rw [hE12 _ hz] at hf
      exact cx_iret F hr hlk hG hf (by decide) (by decide) dX8_reaches_42
    · replace hf := if_f c1 hf
      refine lv_aload_n hx hb dX8_reaches_18 rfl (lv_at hl 0 rfl) ?_
      refine g_getR F hG 10 ct_0 (by decide) (by decide) lk_X8_20 rfl dX8_reaches_19 ?_
      refine g_getI F hG st_10.1 (by decide) (by decide) lk_X8_114 rfl dX8_reaches_22 ?_
      refine lv_iload_n hx hb dX8_reaches_25 rfl (lv_at hl 1 rfl) ?_
      refine lv_icmp_lt (tgt := 31) hx hb dX8_reaches_26 (by decide) (fun c2 => ?_) (fun c2 => ?_)
      · replace hf := if_t c2 hf
        refine lv_aload_n hx hb dX8_reaches_31 rfl (lv_at hl 0 rfl) ?_
        replace hf := bd_some hf
        obtain ⟨q3, eq3, hf⟩ := hf
        refine gx_callv hG (gx_runV (xn_ok (yc_ok w)) F hX hG (c_X8_passTrialDay l w  n   _ _ eq3) cv_X8_243 ⟨Nat.le_of_ble_eq_true rfl, Nat.le_of_ble_eq_true rfl⟩ (g_recv F hG ct_0 (by decide) rfl) rfl hl.1 rfl (Nat.le_of_ble_eq_true rfl) dX8_reaches_32 ⟨by decide, by decide⟩) (fun H locs hG => ?_)
        refine lv_iinc (v := (x2 + (1 : Int32))) (lv' := [(2, .int (x2 + (1 : Int32))), (0, .ref (w.2.2.1 0)), (1, .int x1)]) hx hb dX8_reaches_35 hl (k := 2) rfl rfl (by decide) rfl (fun ls hl => ?_)
        refine lv_goto (tgt := 12) hx hb dX8_reaches_38 (by decide) ?_
        exact hI12 _ (Option.some.inj hf).symm _ _ ls hG (lv_sub hl [1, 2, 0] rfl)
      · replace hf := if_f c2 hf
        refine lv_iload_n hx hb dX8_reaches_29 rfl (lv_at hl 2 rfl) ?_
        replace hf := mr_some hf
        obtain ⟨z12, hf, hz⟩ := hf
        rw [hE12 _ hz] at hf
        exact cx_iret F hr hlk hG hf (by decide) (by decide) dX8_reaches_30
  unfold f_X8_reaches at hf
  refine lv_iload_n hx hb dX8_reaches_0 rfl (lv_at hl 1 rfl) ?_
  refine lv_bipush (v := 16) hx hb dX8_reaches_1 (by decide) ?_
  replace hf := bd_some hf
  obtain ⟨q4, eq4, hf⟩ := hf
  refine gx_xcallv hno hlk F hG (gx_xrunS (xn_ok (yc_ok w)) F hX hG (c_X8_requireFrom0 l w hst n x1 (16 : Int32) _ _ eq4) cs_X8_234 ⟨Nat.le_of_ble_eq_true rfl, Nat.le_of_ble_eq_true rfl⟩ rfl hl.1 rfl (Nat.le_of_ble_eq_true rfl) dX8_reaches_3 ⟨by decide, by decide⟩) (by decide) (by decide) (fun hz => if_f hz hf) (fun hz H locs hG => ?_)
  replace hf := if_t hz hf
  refine W.widen (k := 1) (n := 6) (by decide) (by decide) ?_
  refine lv_aload_n hx hb dX8_reaches_6 rfl (lv_at hl 0 rfl) ?_
  replace hf := bd_some hf
  obtain ⟨q5, eq5, hf⟩ := hf
  refine gx_callv hG (gx_runV (xn_ok (yc_ok w)) F hX hG (c_X8_startTrial l w  n   _ _ eq5) cv_X8_237 ⟨Nat.le_of_ble_eq_true rfl, Nat.le_of_ble_eq_true rfl⟩ (g_recv F hG ct_0 (by decide) rfl) rfl hl.1 rfl (Nat.le_of_ble_eq_true rfl) dX8_reaches_7 ⟨by decide, by decide⟩) (fun H locs hG => ?_)
  refine lv_iconst (v := 0) hx hb dX8_reaches_10 (by decide) ?_
  refine lv_istore_n (lv' := [(2, .int (0 : Int32)), (0, .ref (w.2.2.1 0)), (1, .int x1)]) hx hb dX8_reaches_11 rfl hl (by decide) rfl (fun ls hl => ?_)
  exact hJ12 _ _ _ _ _ ls hf hG (lv_sub hl [1, 2, 0] rfl)

def b_X8_falls_6 (n : Nat) (q : (Int32 × Mem)) : Option ((Int32 × Mem) ⊕ (Int32 × Mem)) := match q with
  | (x1, M) => if (60 : Int32) < x1 then (mr (some ((-1 : Int32), M))) else (bd (f_X8_passTrialDay n   M) (fun q2 => if (gi q2 10 11) ≤ 0 then (some (.inl ((x1 + (1 : Int32)), q2))) else (mr (some (x1, q2)))))
def f_X8_falls (n : Nat) (M : Mem) : Option (Int32 × Mem) := bd (f_X8_startTrial n   M) (fun q4 => gl (b_X8_falls_6 n ) n ((1 : Int32), q4))
set_option maxHeartbeats 4000000 in
set_option maxRecDepth 100000 in
theorem c_X8_falls (l : Launch) (w : Wd)  (n : Nat) (M : Mem) (res : Int32 × Mem) (hf : f_X8_falls n   M = some res) : CG l w layC 61 (XN (YC w)) yX8_falls cX8_falls 2 (some .int) 5 [.ref (w.2.2.1 0)] M (GQi w layC 61 res) := by
  refine cg_start (by decide +kernel) (Nat.le_of_ble_eq_true rfl) ?_
  intro p e s m args below meth c F hr hlk hX hG ls hl
  have F : FX w p m c cX8_falls 2 s args RX8 := F
  have hx := F.1.1
  have hb := F.1.2.1
  have hl : lv_has ls 2 [(0, .ref (w.2.2.1 0))] := hl
  have hJ6 : ∀ (x1 : Int32) (M : Mem) (H : Heap) (locs : List Loc) (ls : Array Slot), gl (b_X8_falls_6 n  ) n (x1, M) = some res → GI w layC 61 s.heap M H locs → lv_has ls 2 [(0, .ref (w.2.2.1 0)), (1, .int x1)] → W p l e (Rm 5) s m args below meth c H locs 0 0 (MQ below (GQi w layC 61 res s.heap.size) args s 0 0 (gA w.2.2.1 61 s.heap.size)) (F0 m 6 ls []) := by
    intro x1 M H locs ls hf hG hl
    refine gl_run (P := fun (q : (Int32 × Mem)) => ∀ (H : Heap) (locs : List Loc) (ls : Array Slot), GI w layC 61 s.heap q.2 H locs → lv_has ls 2 [(0, .ref (w.2.2.1 0)), (1, .int q.1)] → W p l e (Rm 5) s m args below meth c H locs 0 0 (MQ below (GQi w layC 61 res s.heap.size) args s 0 0 (gA w.2.2.1 61 s.heap.size)) (F0 m 6 ls [])) ?_ n (x1, M) hf H locs ls hG hl
    clear hf hG hl ls locs H M x1
    rintro ⟨x1, M⟩ rr6 hf hI6 hE6 H locs ls hG hl
    try dsimp only at hG hl ⊢
    dsimp only [b_X8_falls_6] at hf
    refine lv_iload_n hx hb dX8_falls_6 rfl (lv_at hl 1 rfl) ?_
    refine lv_bipush (v := 60) hx hb dX8_falls_7 (by decide) ?_
    refine lv_icmp_gt (tgt := 34) hx hb dX8_falls_9 (by decide) (fun c1 => ?_) (fun c1 => ?_)
    · replace hf := if_t c1 hf
      refine lv_iconst (v := -1) hx hb dX8_falls_34 (by decide) ?_
      replace hf := mr_some hf
      obtain ⟨z6, hf, hz⟩ := hf
      rw [hE6 _ hz] at hf
      exact cg_iret F hr hlk hG hf dX8_falls_35
    · replace hf := if_f c1 hf
      refine lv_aload_n hx hb dX8_falls_12 rfl (lv_at hl 0 rfl) ?_
      replace hf := bd_some hf
      obtain ⟨q2, eq2, hf⟩ := hf
      refine gx_callv hG (gx_runV (xn_ok (yc_ok w)) F hX hG (c_X8_passTrialDay l w  n   _ _ eq2) cv_X8_243 ⟨Nat.le_of_ble_eq_true rfl, Nat.le_of_ble_eq_true rfl⟩ (g_recv F hG ct_0 (by decide) rfl) rfl hl.1 rfl (Nat.le_of_ble_eq_true rfl) dX8_falls_13 ⟨Nat.le_refl _, Nat.le_refl _⟩) (fun H locs hG => ?_)
      refine lv_aload_n hx hb dX8_falls_16 rfl (lv_at hl 0 rfl) ?_
      refine g_getR F hG 10 ct_0 (by decide) (by decide) lk_X8_20 rfl dX8_falls_17 ?_
      refine g_getI F hG st_10.1 (by decide) (by decide) lk_X8_148 rfl dX8_falls_20 ?_
      refine lv_if_le (tgt := 28) hx hb dX8_falls_23 (by decide) (fun c3 => ?_) (fun c3 => ?_)
      · replace hf := if_t c3 hf
        refine lv_iinc (v := (x1 + (1 : Int32))) (lv' := [(1, .int (x1 + (1 : Int32))), (0, .ref (w.2.2.1 0))]) hx hb dX8_falls_28 hl (k := 1) rfl rfl (by decide) rfl (fun ls hl => ?_)
        refine lv_goto (tgt := 6) hx hb dX8_falls_31 (by decide) ?_
        exact hI6 _ (Option.some.inj hf).symm _ _ ls hG (lv_sub hl [1, 0] rfl)
      · replace hf := if_f c3 hf
        refine lv_iload_n hx hb dX8_falls_26 rfl (lv_at hl 1 rfl) ?_
        replace hf := mr_some hf
        obtain ⟨z6, hf, hz⟩ := hf
        rw [hE6 _ hz] at hf
        exact cg_iret F hr hlk hG hf dX8_falls_27
  unfold f_X8_falls at hf
  refine lv_aload_n hx hb dX8_falls_0 rfl (lv_at hl 0 rfl) ?_
  replace hf := bd_some hf
  obtain ⟨q4, eq4, hf⟩ := hf
  refine gx_callv hG (gx_runV (xn_ok (yc_ok w)) F hX hG (c_X8_startTrial l w  n   _ _ eq4) cv_X8_237 ⟨Nat.le_of_ble_eq_true rfl, Nat.le_of_ble_eq_true rfl⟩ (g_recv F hG ct_0 (by decide) rfl) rfl hl.1 rfl (Nat.le_of_ble_eq_true rfl) dX8_falls_1 ⟨Nat.le_refl _, Nat.le_refl _⟩) (fun H locs hG => ?_)
  refine lv_iconst (v := 1) hx hb dX8_falls_4 (by decide) ?_
  refine lv_istore_n (lv' := [(1, .int (1 : Int32)), (0, .ref (w.2.2.1 0))]) hx hb dX8_falls_5 rfl hl (by decide) rfl (fun ls hl => ?_)
  exact hJ6 _ _ _ _ ls hf hG (lv_sub hl [1, 0] rfl)

def f_X8_later (n : Nat) (x1 : Int32) (x2 : Int32) (M : Mem) : Option (Rx) := bd (f_X8_requireWhat n x2 (1 : Int32) M) (fun q1 => if q1.1 = 0 then (bd (f_X8_requireFrom0 n x1 (60 : Int32) q1.2.2) (fun q2 => if q2.1 = 0 then (bd (f_X8_startTrial n   q2.2.2) (fun q3 => bd (f_X8_go n  x1 q3) (fun q4 => if x2 = 0 then (bd (f_X4_doubters n 10  q4.2) (fun q6 => some ((0 : Nat), q6.1, q6.2))) else (bd (f_X4_mostFaithful n 10  q4.2) (fun q7 => some ((0 : Nat), q7.1, q7.2)))))) else (some (q2.1, (0 : Int32), q2.2.2)))) else (some (q1.1, (0 : Int32), q1.2.2)))
set_option maxHeartbeats 4000000 in
set_option maxRecDepth 100000 in
theorem c_X8_later (l : Launch) (w : Wd) (hst : l.stackTraces = false) (n : Nat) (x1 : Int32) (x2 : Int32) (M : Mem) (res : Rx) (hf : f_X8_later n  x1 x2 M = some res) : CX l w layC 61 (XN (YC w)) yX8_later cX8_later 3 (some .int) 7 2 [.ref (w.2.2.1 0), .int x1, .int x2] M (GXi w layC 61 res) (GXx w layC 61 res) := by
  refine cx_start (by decide +kernel) (Nat.le_of_ble_eq_true rfl) ?_
  intro p e s m args below meth c F hr hlk hno hX hG ls hl
  have F : FX w p m c cX8_later 3 s args RX8 := F
  have hx := F.1.1
  have hb := F.1.2.1
  have hl : lv_has ls 3 [(0, .ref (w.2.2.1 0)), (1, .int x1), (2, .int x2)] := hl
  unfold f_X8_later at hf
  refine lv_iload_n hx hb dX8_later_0 rfl (lv_at hl 2 rfl) ?_
  refine lv_iconst (v := 1) hx hb dX8_later_1 (by decide) ?_
  replace hf := bd_some hf
  obtain ⟨q1, eq1, hf⟩ := hf
  refine gx_xcallv hno hlk F hG (gx_xrunS (xn_ok (yc_ok w)) F hX hG (c_X8_requireWhat l w hst n x2 (1 : Int32) _ _ eq1) cs_X8_231 ⟨Nat.le_of_ble_eq_true rfl, Nat.le_of_ble_eq_true rfl⟩ rfl hl.1 rfl (Nat.le_of_ble_eq_true rfl) dX8_later_2 ⟨by decide, by decide⟩) (by decide) (by decide) (fun hz => if_f hz hf) (fun hz H locs hG => ?_)
  replace hf := if_t hz hf
  refine W.widen (k := 1) (n := 6) (by decide) (by decide) ?_
  refine lv_iload_n hx hb dX8_later_5 rfl (lv_at hl 1 rfl) ?_
  refine lv_bipush (v := 60) hx hb dX8_later_6 (by decide) ?_
  replace hf := bd_some hf
  obtain ⟨q2, eq2, hf⟩ := hf
  refine gx_xcallv hno hlk F hG (gx_xrunS (xn_ok (yc_ok w)) F hX hG (c_X8_requireFrom0 l w hst n x1 (60 : Int32) _ _ eq2) cs_X8_234 ⟨Nat.le_of_ble_eq_true rfl, Nat.le_of_ble_eq_true rfl⟩ rfl hl.1 rfl (Nat.le_of_ble_eq_true rfl) dX8_later_8 ⟨by decide, by decide⟩) (by decide) (by decide) (fun hz => if_f hz hf) (fun hz H locs hG => ?_)
  replace hf := if_t hz hf
  refine W.widen (k := 2) (n := 12) (by decide) (by decide) ?_
  refine lv_aload_n hx hb dX8_later_11 rfl (lv_at hl 0 rfl) ?_
  replace hf := bd_some hf
  obtain ⟨q3, eq3, hf⟩ := hf
  refine gx_callv hG (gx_runV (xn_ok (yc_ok w)) F hX hG (c_X8_startTrial l w  n   _ _ eq3) cv_X8_237 ⟨Nat.le_of_ble_eq_true rfl, Nat.le_of_ble_eq_true rfl⟩ (g_recv F hG ct_0 (by decide) rfl) rfl hl.1 rfl (Nat.le_of_ble_eq_true rfl) dX8_later_12 ⟨by decide, by decide⟩) (fun H locs hG => ?_)
  refine lv_aload_n hx hb dX8_later_15 rfl (lv_at hl 0 rfl) ?_
  refine lv_iload_n hx hb dX8_later_16 rfl (lv_at hl 1 rfl) ?_
  replace hf := bd_some hf
  obtain ⟨q4, eq4, hf⟩ := hf
  refine gx_calli hG (gx_runV (xn_ok (yc_ok w)) F hX hG (c_X8_go l w  n  x1 _ _ eq4) cv_X8_240 ⟨Nat.le_of_ble_eq_true rfl, Nat.le_of_ble_eq_true rfl⟩ (g_recv F hG ct_0 (by decide) rfl) rfl hl.1 rfl (Nat.le_of_ble_eq_true rfl) dX8_later_17 ⟨by decide, by decide⟩) (fun H locs hG => ?_)
  refine lv_pop hx hb dX8_later_20 rfl ?_
  refine lv_iload_n hx hb dX8_later_21 rfl (lv_at hl 2 rfl) ?_
  refine lv_if_ne (tgt := 35) hx hb dX8_later_22 (by decide) (fun c5 => ?_) (fun c5 => ?_)
  · replace hf := if_f c5 hf
    refine lv_aload_n hx hb dX8_later_35 rfl (lv_at hl 0 rfl) ?_
    refine g_getR F hG 10 ct_0 (by decide) (by decide) lk_X8_20 rfl dX8_later_36 ?_
    replace hf := bd_some hf
    obtain ⟨q7, eq7, hf⟩ := hf
    refine gx_calli hG (gx_runV (xn_ok (yc_ok w)) F hX hG (c_X4_mostFaithful l w (yc_ok w) n 10 st_10  _ _ eq7) cv_X8_249 ⟨Nat.le_of_ble_eq_true rfl, Nat.le_of_ble_eq_true rfl⟩ (g_recv F hG st_10.1 (by decide) rfl) rfl hl.1 rfl (Nat.le_of_ble_eq_true rfl) dX8_later_39 ⟨by decide, by decide⟩) (fun H locs hG => ?_)
    exact cx_iret F hr hlk hG hf (by decide) (by decide) dX8_later_42
  · replace hf := if_t c5 hf
    refine lv_aload_n hx hb dX8_later_25 rfl (lv_at hl 0 rfl) ?_
    refine g_getR F hG 10 ct_0 (by decide) (by decide) lk_X8_20 rfl dX8_later_26 ?_
    replace hf := bd_some hf
    obtain ⟨q6, eq6, hf⟩ := hf
    refine gx_calli hG (gx_runV (xn_ok (yc_ok w)) F hX hG (c_X4_doubters l w (yc_ok w) n 10 st_10  _ _ eq6) cv_X8_163 ⟨Nat.le_of_ble_eq_true rfl, Nat.le_of_ble_eq_true rfl⟩ (g_recv F hG st_10.1 (by decide) rfl) rfl hl.1 rfl (Nat.le_of_ble_eq_true rfl) dX8_later_29 ⟨by decide, by decide⟩) (fun H locs hG => ?_)
    refine lv_goto (tgt := 42) hx hb dX8_later_32 (by decide) ?_
    exact cx_iret F hr hlk hG hf (by decide) (by decide) dX8_later_42

def j_X8_requireFrom1_11 (n : Nat) (M : Mem) : Option (Rx) := some ((2 : Nat), (0 : Int32), M)
def f_X8_requireFrom1 (n : Nat) (x0 : Int32) (M : Mem) : Option (Rx) := if x0 < (1 : Int32) then (j_X8_requireFrom1_11 n  M) else (if x0 ≤ (60 : Int32) then (some ((0 : Nat), (0 : Int32), M)) else (j_X8_requireFrom1_11 n  M))
set_option maxHeartbeats 4000000 in
set_option maxRecDepth 100000 in
theorem c_X8_requireFrom1 (l : Launch) (w : Wd) (hst : l.stackTraces = false) (n : Nat) (x0 : Int32) (M : Mem) (res : Rx) (hf : f_X8_requireFrom1 n  x0 M = some res) : CX l w layC 61 (XN (YC w)) yX8_requireFrom1 cX8_requireFrom1 1 none 6 1 [.int x0] M (GXv w layC 61 res) (GXx w layC 61 res) := by
  refine cx_start (by decide +kernel) (Nat.le_of_ble_eq_true rfl) ?_
  intro p e s m args below meth c F hr hlk hno hX hG ls hl
  have F : FX w p m c cX8_requireFrom1 1 s args RX8 := F
  have hx := F.1.1
  have hb := F.1.2.1
  have hl : lv_has ls 1 [(0, .int x0)] := hl
  have hJ11 : ∀ (M : Mem) (H : Heap) (locs : List Loc) (ls : Array Slot), j_X8_requireFrom1_11 n   M = some res → GI w layC 61 s.heap M H locs → lv_has ls 1 [] → W p l e (RmX 6 1) s m args below meth c H locs 0 0 (vx_MQ below (GXv w layC 61 res s.heap.size) (GXx w layC 61 res s.heap.size) args s 1 (6 * 1) (gA w.2.2.1 61 s.heap.size)) (F0 m 11 ls []) := by
    intro  M H locs ls hf hG hl
    unfold j_X8_requireFrom1_11 at hf
    exact gx_throwSW (k := 2) hst F hG hX.2.2.1 hno hlk ts_X8_85_89 rfl (text := "days") (by decide) (Or.inr rfl) rfl (by decide) hf hl.1 dX8_requireFrom1_11 dX8_requireFrom1_14 dX8_requireFrom1_15 dX8_requireFrom1_18 dX8_requireFrom1_21 (by decide) (by decide) (by decide) (by decide) (by decide) (by decide)
  unfold f_X8_requireFrom1 at hf
  refine lv_iload_n hx hb dX8_requireFrom1_0 rfl (lv_at hl 0 rfl) ?_
  refine lv_iconst (v := 1) hx hb dX8_requireFrom1_1 (by decide) ?_
  refine lv_icmp_lt (tgt := 11) hx hb dX8_requireFrom1_2 (by decide) (fun c1 => ?_) (fun c1 => ?_)
  · replace hf := if_t c1 hf
    exact hJ11  _ _ _ ls hf hG (lv_sub hl [] rfl)
  · replace hf := if_f c1 hf
    refine lv_iload_n hx hb dX8_requireFrom1_5 rfl (lv_at hl 0 rfl) ?_
    refine lv_bipush (v := 60) hx hb dX8_requireFrom1_6 (by decide) ?_
    refine lv_icmp_le (tgt := 22) hx hb dX8_requireFrom1_8 (by decide) (fun c2 => ?_) (fun c2 => ?_)
    · replace hf := if_t c2 hf
      exact cx_vret F hr hlk hG hf (by decide) (by decide) dX8_requireFrom1_22
    · replace hf := if_f c2 hf
      exact hJ11  _ _ _ ls hf hG (lv_sub hl [] rfl)

def j_X8_through_129 (n : Nat) (x2 : Int32) (x3 : Int32) (x4 : Int32) (x5 : Int32) (x7 : Int32) (M : Mem) : Option (Rx) := if x2 = (0 : Int32) then (some ((0 : Nat), x3, M)) else (if x2 = (1 : Int32) then (some ((0 : Nat), x4, M)) else (if x2 = (2 : Int32) then (some ((0 : Nat), x5, M)) else (some ((0 : Nat), x7, M))))
def j_X8_through_123 (n : Nat) (x1 : Int32) (x2 : Int32) (x3 : Int32) (x4 : Int32) (x5 : Int32) (x6 : Int32) (x7 : Int32) (x8 : Int32) (M : Mem) : Option ((Int32 × Int32 × Int32 × Int32 × Int32 × Int32 × Mem) ⊕ (Rx)) := some (.inl (x3, x4, x5, x6, x7, (x8 + (1 : Int32)), M))
def j_X8_through_96 (n : Nat) (t0 : Int32) (t1 : Int32) (x1 : Int32) (x2 : Int32) (x3 : Int32) (x4 : Int32) (x5 : Int32) (x6 : Int32) (x8 : Int32) (M : Mem) : Option ((Int32 × Int32 × Int32 × Int32 × Int32 × Int32 × Mem) ⊕ (Rx)) := bd (f_X4_gaveTogether n 10  M) (fun q4 => if q4.1 ≤ x6 then (j_X8_through_123 n  x1 x2 x3 x4 x5 x6 (t1 + t0) x8 q4.2) else (j_X8_through_123 n  x1 x2 x3 x4 x8 q4.1 (t1 + t0) x8 q4.2))
def j_X8_through_76 (n : Nat) (t0 : Int32) (t1 : Int32) (x1 : Int32) (x2 : Int32) (x3 : Int32) (x5 : Int32) (x6 : Int32) (x7 : Int32) (x8 : Int32) (M : Mem) : Option ((Int32 × Int32 × Int32 × Int32 × Int32 × Int32 × Mem) ⊕ (Rx)) := if (gi M 10 11) = 0 then (j_X8_through_96 n  (1 : Int32) x7 x1 x2 x3 (t1 + t0) x5 x6 x8 M) else (j_X8_through_96 n  (0 : Int32) x7 x1 x2 x3 (t1 + t0) x5 x6 x8 M)
def b_X8_through_30 (n : Nat) (x1 : Int32) (x2 : Int32) (q : (Int32 × Int32 × Int32 × Int32 × Int32 × Int32 × Mem)) : Option ((Int32 × Int32 × Int32 × Int32 × Int32 × Int32 × Mem) ⊕ (Rx)) := match q with
  | (x3, x4, x5, x6, x7, x8, M) => if x1 < x8 then (mr (j_X8_through_129 n  x2 x3 x4 x5 x7 M)) else (bd (f_X8_passTrialDay n   M) (fun q8 => bd (f_J9_max_7cf53 n  x3 (gi q8 10 10) q8) (fun q9 => ck (isTwB ((gi q9.2 0 12).toNatClampNeg)) (if (gi q9.2 10 6) < (gi q9.2 ((gi q9.2 0 12).toNatClampNeg) 8) then (j_X8_through_76 n  (0 : Int32) x4 x1 x2 q9.1 x5 x6 x7 x8 q9.2) else (j_X8_through_76 n  (1 : Int32) x4 x1 x2 q9.1 x5 x6 x7 x8 q9.2)))))
def f_X8_through (n : Nat) (x1 : Int32) (x2 : Int32) (M : Mem) : Option (Rx) := bd (f_X8_requireWhat n x2 (3 : Int32) M) (fun q12 => if q12.1 = 0 then (bd (f_X8_requireFrom1 n x1 q12.2.2) (fun q13 => if q13.1 = 0 then (bd (f_X8_startTrial n   q13.2.2) (fun q14 => gl (b_X8_through_30 n  x1 x2) n ((0 : Int32), (0 : Int32), (1 : Int32), (0 : Int32), (0 : Int32), (1 : Int32), q14))) else (some (q13.1, (0 : Int32), q13.2.2)))) else (some (q12.1, (0 : Int32), q12.2.2)))
set_option maxHeartbeats 4000000 in
set_option maxRecDepth 100000 in
theorem c_X8_through (l : Launch) (w : Wd) (hst : l.stackTraces = false) (n : Nat) (x1 : Int32) (x2 : Int32) (M : Mem) (res : Rx) (hf : f_X8_through n  x1 x2 M = some res) : CX l w layC 61 (XN (YC w)) yX8_through cX8_through 10 (some .int) 7 2 [.ref (w.2.2.1 0), .int x1, .int x2] M (GXi w layC 61 res) (GXx w layC 61 res) := by
  refine cx_start (by decide +kernel) (Nat.le_of_ble_eq_true rfl) ?_
  intro p e s m args below meth c F hr hlk hno hX hG ls hl
  have F : FX w p m c cX8_through 10 s args RX8 := F
  have hx := F.1.1
  have hb := F.1.2.1
  have hl : lv_has ls 10 [(0, .ref (w.2.2.1 0)), (1, .int x1), (2, .int x2)] := hl
  have hJ129 : ∀ (x2 : Int32) (x3 : Int32) (x4 : Int32) (x5 : Int32) (x7 : Int32) (M : Mem) (H : Heap) (locs : List Loc) (ls : Array Slot), j_X8_through_129 n  x2 x3 x4 x5 x7 M = some res → GI w layC 61 s.heap M H locs → lv_has ls 10 [(2, .int x2), (3, .int x3), (4, .int x4), (5, .int x5), (7, .int x7)] → W p l e (RmX 7 2) s m args below meth c H locs 2 12 (vx_MQ below (GXi w layC 61 res s.heap.size) (GXx w layC 61 res s.heap.size) args s 2 (6 * 2) (gA w.2.2.1 61 s.heap.size)) (F0 m 129 ls []) := by
    intro x2 x3 x4 x5 x7 M H locs ls hf hG hl
    unfold j_X8_through_129 at hf
    refine lv_iload_n hx hb dX8_through_129 rfl (lv_at hl 0 rfl) ?_
    by_cases c1 : x2 = (0 : Int32)
    · replace hf := if_t c1 hf
      refine lv_tableIn (off := 26) (tgt := 156) hx hb dX8_through_130 (by rw [c1]; decide) (by rw [c1]; decide) (by rw [c1]; rfl) (by decide) ?_
      refine lv_iload_n hx hb dX8_through_156 rfl (lv_at hl 1 rfl) ?_
      exact cx_iret F hr hlk hG hf (by decide) (by decide) dX8_through_157
    replace hf := if_f c1 hf
    by_cases c2 : x2 = (1 : Int32)
    · replace hf := if_t c2 hf
      refine lv_tableIn (off := 28) (tgt := 158) hx hb dX8_through_130 (by rw [c2]; decide) (by rw [c2]; decide) (by rw [c2]; rfl) (by decide) ?_
      refine lv_iload hx hb dX8_through_158 (lv_at hl 2 rfl) ?_
      exact cx_iret F hr hlk hG hf (by decide) (by decide) dX8_through_160
    replace hf := if_f c2 hf
    by_cases c3 : x2 = (2 : Int32)
    · replace hf := if_t c3 hf
      refine lv_tableIn (off := 31) (tgt := 161) hx hb dX8_through_130 (by rw [c3]; decide) (by rw [c3]; decide) (by rw [c3]; rfl) (by decide) ?_
      refine lv_iload hx hb dX8_through_161 (lv_at hl 3 rfl) ?_
      exact cx_iret F hr hlk hG hf (by decide) (by decide) dX8_through_163
    replace hf := if_f c3 hf
    refine lv_tableOut (tgt := 164) hx hb dX8_through_130 (sw_out (0) (2) 3 (by decide) (fun k hk => match k, hk with | 0, _ => c1 | 1, _ => c2 | 2, _ => c3 | k + 3, h => absurd h (by omega))) (by decide) ?_
    refine lv_iload hx hb dX8_through_164 (lv_at hl 4 rfl) ?_
    exact cx_iret F hr hlk hG hf (by decide) (by decide) dX8_through_166
  have hJ30 : ∀ (x1 : Int32) (x2 : Int32) (x3 : Int32) (x4 : Int32) (x5 : Int32) (x6 : Int32) (x7 : Int32) (x8 : Int32) (M : Mem) (H : Heap) (locs : List Loc) (ls : Array Slot), gl (b_X8_through_30 n  x1 x2) n (x3, x4, x5, x6, x7, x8, M) = some res → GI w layC 61 s.heap M H locs → lv_has ls 10 [(0, .ref (w.2.2.1 0)), (1, .int x1), (2, .int x2), (3, .int x3), (4, .int x4), (5, .int x5), (6, .int x6), (7, .int x7), (8, .int x8)] → W p l e (RmX 7 2) s m args below meth c H locs 2 12 (vx_MQ below (GXi w layC 61 res s.heap.size) (GXx w layC 61 res s.heap.size) args s 2 (6 * 2) (gA w.2.2.1 61 s.heap.size)) (F0 m 30 ls []) := by
    intro x1 x2 x3 x4 x5 x6 x7 x8 M H locs ls hf hG hl
    refine gl_run (P := fun (q : (Int32 × Int32 × Int32 × Int32 × Int32 × Int32 × Mem)) => ∀ (H : Heap) (locs : List Loc) (ls : Array Slot), GI w layC 61 s.heap q.2.2.2.2.2.2 H locs → lv_has ls 10 [(0, .ref (w.2.2.1 0)), (1, .int x1), (2, .int x2), (3, .int q.1), (4, .int q.2.1), (5, .int q.2.2.1), (6, .int q.2.2.2.1), (7, .int q.2.2.2.2.1), (8, .int q.2.2.2.2.2.1)] → W p l e (RmX 7 2) s m args below meth c H locs 2 12 (vx_MQ below (GXi w layC 61 res s.heap.size) (GXx w layC 61 res s.heap.size) args s 2 (6 * 2) (gA w.2.2.1 61 s.heap.size)) (F0 m 30 ls [])) ?_ n (x3, x4, x5, x6, x7, x8, M) hf H locs ls hG hl
    clear hf hG hl ls locs H M x3 x4 x5 x6 x7 x8
    rintro ⟨x3, x4, x5, x6, x7, x8, M⟩ rr30 hf hI30 hE30 H locs ls hG hl
    try dsimp only at hG hl ⊢
    have hJ123 : ∀ (x3 : Int32) (x4 : Int32) (x5 : Int32) (x6 : Int32) (x7 : Int32) (x8 : Int32) (M : Mem) (H : Heap) (locs : List Loc) (ls : Array Slot), j_X8_through_123 n  x1 x2 x3 x4 x5 x6 x7 x8 M = some rr30 → GI w layC 61 s.heap M H locs → lv_has ls 10 [(0, .ref (w.2.2.1 0)), (1, .int x1), (2, .int x2), (3, .int x3), (4, .int x4), (5, .int x5), (6, .int x6), (7, .int x7), (8, .int x8)] → W p l e (RmX 7 2) s m args below meth c H locs 2 12 (vx_MQ below (GXi w layC 61 res s.heap.size) (GXx w layC 61 res s.heap.size) args s 2 (6 * 2) (gA w.2.2.1 61 s.heap.size)) (F0 m 123 ls []) := by
      intro x3 x4 x5 x6 x7 x8 M H locs ls hf hG hl
      unfold j_X8_through_123 at hf
      refine lv_iinc (v := (x8 + (1 : Int32))) (lv' := [(8, .int (x8 + (1 : Int32))), (0, .ref (w.2.2.1 0)), (1, .int x1), (2, .int x2), (3, .int x3), (4, .int x4), (5, .int x5), (6, .int x6), (7, .int x7)]) hx hb dX8_through_123 hl (k := 8) rfl rfl (by decide) rfl (fun ls hl => ?_)
      refine lv_goto (tgt := 30) hx hb dX8_through_126 (by decide) ?_
      exact hI30 _ (Option.some.inj hf).symm _ _ ls hG (lv_sub hl [1, 2, 3, 4, 5, 6, 7, 8, 0] rfl)
    have hJ96 : ∀ (t0 : Int32) (t1 : Int32) (x3 : Int32) (x4 : Int32) (x5 : Int32) (x6 : Int32) (x8 : Int32) (M : Mem) (H : Heap) (locs : List Loc) (ls : Array Slot), j_X8_through_96 n  t0 t1 x1 x2 x3 x4 x5 x6 x8 M = some rr30 → GI w layC 61 s.heap M H locs → lv_has ls 10 [(0, .ref (w.2.2.1 0)), (1, .int x1), (2, .int x2), (3, .int x3), (4, .int x4), (5, .int x5), (6, .int x6), (8, .int x8)] → W p l e (RmX 7 2) s m args below meth c H locs 2 12 (vx_MQ below (GXi w layC 61 res s.heap.size) (GXx w layC 61 res s.heap.size) args s 2 (6 * 2) (gA w.2.2.1 61 s.heap.size)) (F0 m 96 ls [.int t0, .int t1]) := by
      intro t0 t1 x3 x4 x5 x6 x8 M H locs ls hf hG hl
      unfold j_X8_through_96 at hf
      refine lv_iadd hx hb dX8_through_96 ?_
      refine lv_istore (lv' := [(7, .int (t1 + t0)), (0, .ref (w.2.2.1 0)), (1, .int x1), (2, .int x2), (3, .int x3), (4, .int x4), (5, .int x5), (6, .int x6), (8, .int x8)]) hx hb dX8_through_97 hl (by decide) rfl (fun ls hl => ?_)
      refine lv_aload_n hx hb dX8_through_99 rfl (lv_at hl 1 rfl) ?_
      refine g_getR F hG 10 ct_0 (by decide) (by decide) lk_X8_20 rfl dX8_through_100 ?_
      replace hf := bd_some hf
      obtain ⟨q4, eq4, hf⟩ := hf
      refine gx_calli hG (gx_runV (xn_ok (yc_ok w)) F hX hG (c_X4_gaveTogether l w (yc_ok w) n 10 st_10  _ _ eq4) cv_X8_260 ⟨Nat.le_of_ble_eq_true rfl, Nat.le_of_ble_eq_true rfl⟩ (g_recv F hG st_10.1 (by decide) rfl) rfl hl.1 rfl (Nat.le_of_ble_eq_true rfl) dX8_through_103 ⟨by decide, by decide⟩) (fun H locs hG => ?_)
      refine lv_istore (lv' := [(9, .int q4.1), (7, .int (t1 + t0)), (0, .ref (w.2.2.1 0)), (1, .int x1), (2, .int x2), (3, .int x3), (4, .int x4), (5, .int x5), (6, .int x6), (8, .int x8)]) hx hb dX8_through_106 hl (by decide) rfl (fun ls hl => ?_)
      refine lv_iload hx hb dX8_through_108 (lv_at hl 0 rfl) ?_
      refine lv_iload hx hb dX8_through_110 (lv_at hl 8 rfl) ?_
      refine lv_icmp_le (tgt := 123) hx hb dX8_through_112 (by decide) (fun c5 => ?_) (fun c5 => ?_)
      · replace hf := if_t c5 hf
        exact hJ123 _ _ _ _ _ _ _ _ _ ls hf hG (lv_sub hl [2, 3, 4, 5, 6, 7, 8, 1, 9] rfl)
      · replace hf := if_f c5 hf
        refine lv_iload hx hb dX8_through_115 (lv_at hl 0 rfl) ?_
        refine lv_istore (lv' := [(6, .int q4.1), (9, .int q4.1), (7, .int (t1 + t0)), (0, .ref (w.2.2.1 0)), (1, .int x1), (2, .int x2), (3, .int x3), (4, .int x4), (5, .int x5), (8, .int x8)]) hx hb dX8_through_117 hl (by decide) rfl (fun ls hl => ?_)
        refine lv_iload hx hb dX8_through_119 (lv_at hl 9 rfl) ?_
        refine lv_istore (lv' := [(5, .int x8), (6, .int q4.1), (9, .int q4.1), (7, .int (t1 + t0)), (0, .ref (w.2.2.1 0)), (1, .int x1), (2, .int x2), (3, .int x3), (4, .int x4), (8, .int x8)]) hx hb dX8_through_121 hl (by decide) rfl (fun ls hl => ?_)
        exact hJ123 _ _ _ _ _ _ _ _ _ ls hf hG (lv_sub hl [4, 5, 6, 7, 8, 0, 1, 3, 9] rfl)
    have hJ76 : ∀ (t0 : Int32) (t1 : Int32) (x3 : Int32) (x5 : Int32) (x6 : Int32) (x7 : Int32) (x8 : Int32) (M : Mem) (H : Heap) (locs : List Loc) (ls : Array Slot), j_X8_through_76 n  t0 t1 x1 x2 x3 x5 x6 x7 x8 M = some rr30 → GI w layC 61 s.heap M H locs → lv_has ls 10 [(0, .ref (w.2.2.1 0)), (1, .int x1), (2, .int x2), (3, .int x3), (5, .int x5), (6, .int x6), (7, .int x7), (8, .int x8)] → W p l e (RmX 7 2) s m args below meth c H locs 2 12 (vx_MQ below (GXi w layC 61 res s.heap.size) (GXx w layC 61 res s.heap.size) args s 2 (6 * 2) (gA w.2.2.1 61 s.heap.size)) (F0 m 76 ls [.int t0, .int t1]) := by
      intro t0 t1 x3 x5 x6 x7 x8 M H locs ls hf hG hl
      unfold j_X8_through_76 at hf
      refine lv_iadd hx hb dX8_through_76 ?_
      refine lv_istore (lv' := [(4, .int (t1 + t0)), (0, .ref (w.2.2.1 0)), (1, .int x1), (2, .int x2), (3, .int x3), (5, .int x5), (6, .int x6), (7, .int x7), (8, .int x8)]) hx hb dX8_through_77 hl (by decide) rfl (fun ls hl => ?_)
      refine lv_iload hx hb dX8_through_79 (lv_at hl 7 rfl) ?_
      refine lv_aload_n hx hb dX8_through_81 rfl (lv_at hl 1 rfl) ?_
      refine g_getR F hG 10 ct_0 (by decide) (by decide) lk_X8_20 rfl dX8_through_82 ?_
      refine g_getI F hG st_10.1 (by decide) (by decide) lk_X8_148 rfl dX8_through_85 ?_
      refine lv_if_ne (tgt := 95) hx hb dX8_through_88 (by decide) (fun c6 => ?_) (fun c6 => ?_)
      · replace hf := if_f c6 hf
        refine lv_iconst (v := 0) hx hb dX8_through_95 (by decide) ?_
        exact hJ96 _ _ _ _ _ _ _ _ _ _ ls hf hG (lv_sub hl [1, 2, 3, 4, 0, 5, 6, 8] rfl)
      · replace hf := if_t c6 hf
        refine lv_iconst (v := 1) hx hb dX8_through_91 (by decide) ?_
        refine lv_goto (tgt := 96) hx hb dX8_through_92 (by decide) ?_
        exact hJ96 _ _ _ _ _ _ _ _ _ _ ls hf hG (lv_sub hl [1, 2, 3, 4, 0, 5, 6, 8] rfl)
    dsimp only [b_X8_through_30] at hf
    refine lv_iload hx hb dX8_through_30 (lv_at hl 8 rfl) ?_
    refine lv_iload_n hx hb dX8_through_32 rfl (lv_at hl 1 rfl) ?_
    refine lv_icmp_gt (tgt := 129) hx hb dX8_through_33 (by decide) (fun c7 => ?_) (fun c7 => ?_)
    · replace hf := if_t c7 hf
      replace hf := mr_some hf
      obtain ⟨z30, hf, hz⟩ := hf
      rw [hE30 _ hz] at hf
      exact hJ129 _ _ _ _ _ _ _ _ ls hf hG (lv_sub hl [2, 3, 4, 5, 7] rfl)
    · replace hf := if_f c7 hf
      refine lv_aload_n hx hb dX8_through_36 rfl (lv_at hl 0 rfl) ?_
      replace hf := bd_some hf
      obtain ⟨q8, eq8, hf⟩ := hf
      refine gx_callv hG (gx_runV (xn_ok (yc_ok w)) F hX hG (c_X8_passTrialDay l w  n   _ _ eq8) cv_X8_243 ⟨Nat.le_of_ble_eq_true rfl, Nat.le_of_ble_eq_true rfl⟩ (g_recv F hG ct_0 (by decide) rfl) rfl hl.1 rfl (Nat.le_of_ble_eq_true rfl) dX8_through_37 ⟨by decide, by decide⟩) (fun H locs hG => ?_)
      refine lv_iload_n hx hb dX8_through_40 rfl (lv_at hl 3 rfl) ?_
      refine lv_aload_n hx hb dX8_through_41 rfl (lv_at hl 0 rfl) ?_
      refine g_getR F hG 10 ct_0 (by decide) (by decide) lk_X8_20 rfl dX8_through_42 ?_
      refine g_getI F hG st_10.1 (by decide) (by decide) lk_X8_129 rfl dX8_through_45 ?_
      replace hf := bd_some hf
      obtain ⟨q9, eq9, hf⟩ := hf
      refine gx_calli hG (gx_runS (xn_ok (yc_ok w)) F hX hG (c_J9_max_7cf53 l w (yc_ok w) n  x3 (gi q8 10 10) _ _ eq9) cs_X8_255 ⟨Nat.le_of_ble_eq_true rfl, Nat.le_of_ble_eq_true rfl⟩ rfl hl.1 rfl (Nat.le_of_ble_eq_true rfl) dX8_through_48 ⟨by decide, by decide⟩) (fun H locs hG => ?_)
      refine lv_istore_n (lv' := [(3, .int q9.1), (0, .ref (w.2.2.1 0)), (1, .int x1), (2, .int x2), (4, .int x4), (5, .int x5), (6, .int x6), (7, .int x7), (8, .int x8)]) hx hb dX8_through_51 rfl hl (by decide) rfl (fun ls hl => ?_)
      refine lv_iload hx hb dX8_through_52 (lv_at hl 4 rfl) ?_
      refine lv_aload_n hx hb dX8_through_54 rfl (lv_at hl 1 rfl) ?_
      refine g_getR F hG 10 ct_0 (by decide) (by decide) lk_X8_20 rfl dX8_through_55 ?_
      refine g_getI F hG st_10.1 (by decide) (by decide) lk_X8_114 rfl dX8_through_58 ?_
      refine lv_aload_n hx hb dX8_through_61 rfl (lv_at hl 1 rfl) ?_
      replace hf := ck_some hf
      obtain ⟨k10, hf⟩ := hf
      refine g_getM F hG ct_0 (by decide) (by decide) lk_X8_66 rfl dX8_through_62 ?_
      refine g_getI F hG (tw_of k10).1 (by decide) (by decide) lk_X8_145 rfl dX8_through_65 ?_
      refine lv_icmp_lt (tgt := 75) hx hb dX8_through_68 (by decide) (fun c11 => ?_) (fun c11 => ?_)
      · replace hf := if_t c11 hf
        refine lv_iconst (v := 0) hx hb dX8_through_75 (by decide) ?_
        exact hJ76 _ _ _ _ _ _ _ _ _ _ ls hf hG (lv_sub hl [1, 2, 3, 0, 5, 6, 7, 8] rfl)
      · replace hf := if_f c11 hf
        refine lv_iconst (v := 1) hx hb dX8_through_71 (by decide) ?_
        refine lv_goto (tgt := 76) hx hb dX8_through_72 (by decide) ?_
        exact hJ76 _ _ _ _ _ _ _ _ _ _ ls hf hG (lv_sub hl [1, 2, 3, 0, 5, 6, 7, 8] rfl)
  unfold f_X8_through at hf
  refine lv_iload_n hx hb dX8_through_0 rfl (lv_at hl 2 rfl) ?_
  refine lv_iconst (v := 3) hx hb dX8_through_1 (by decide) ?_
  replace hf := bd_some hf
  obtain ⟨q12, eq12, hf⟩ := hf
  refine gx_xcallv hno hlk F hG (gx_xrunS (xn_ok (yc_ok w)) F hX hG (c_X8_requireWhat l w hst n x2 (3 : Int32) _ _ eq12) cs_X8_231 ⟨Nat.le_of_ble_eq_true rfl, Nat.le_of_ble_eq_true rfl⟩ rfl hl.1 rfl (Nat.le_of_ble_eq_true rfl) dX8_through_2 ⟨by decide, by decide⟩) (by decide) (by decide) (fun hz => if_f hz hf) (fun hz H locs hG => ?_)
  replace hf := if_t hz hf
  refine W.widen (k := 1) (n := 6) (by decide) (by decide) ?_
  refine lv_iload_n hx hb dX8_through_5 rfl (lv_at hl 1 rfl) ?_
  replace hf := bd_some hf
  obtain ⟨q13, eq13, hf⟩ := hf
  refine gx_xcallv hno hlk F hG (gx_xrunS (xn_ok (yc_ok w)) F hX hG (c_X8_requireFrom1 l w hst n x1 _ _ eq13) cs_X8_252 ⟨Nat.le_of_ble_eq_true rfl, Nat.le_of_ble_eq_true rfl⟩ rfl hl.1 rfl (Nat.le_of_ble_eq_true rfl) dX8_through_6 ⟨by decide, by decide⟩) (by decide) (by decide) (fun hz => if_f hz hf) (fun hz H locs hG => ?_)
  replace hf := if_t hz hf
  refine W.widen (k := 2) (n := 12) (by decide) (by decide) ?_
  refine lv_aload_n hx hb dX8_through_9 rfl (lv_at hl 0 rfl) ?_
  replace hf := bd_some hf
  obtain ⟨q14, eq14, hf⟩ := hf
  refine gx_callv hG (gx_runV (xn_ok (yc_ok w)) F hX hG (c_X8_startTrial l w  n   _ _ eq14) cv_X8_237 ⟨Nat.le_of_ble_eq_true rfl, Nat.le_of_ble_eq_true rfl⟩ (g_recv F hG ct_0 (by decide) rfl) rfl hl.1 rfl (Nat.le_of_ble_eq_true rfl) dX8_through_10 ⟨by decide, by decide⟩) (fun H locs hG => ?_)
  refine lv_iconst (v := 0) hx hb dX8_through_13 (by decide) ?_
  refine lv_istore_n (lv' := [(3, .int (0 : Int32)), (0, .ref (w.2.2.1 0)), (1, .int x1), (2, .int x2)]) hx hb dX8_through_14 rfl hl (by decide) rfl (fun ls hl => ?_)
  refine lv_iconst (v := 0) hx hb dX8_through_15 (by decide) ?_
  refine lv_istore (lv' := [(4, .int (0 : Int32)), (3, .int (0 : Int32)), (0, .ref (w.2.2.1 0)), (1, .int x1), (2, .int x2)]) hx hb dX8_through_16 hl (by decide) rfl (fun ls hl => ?_)
  refine lv_iconst (v := 1) hx hb dX8_through_18 (by decide) ?_
  refine lv_istore (lv' := [(5, .int (1 : Int32)), (4, .int (0 : Int32)), (3, .int (0 : Int32)), (0, .ref (w.2.2.1 0)), (1, .int x1), (2, .int x2)]) hx hb dX8_through_19 hl (by decide) rfl (fun ls hl => ?_)
  refine lv_iconst (v := 0) hx hb dX8_through_21 (by decide) ?_
  refine lv_istore (lv' := [(6, .int (0 : Int32)), (5, .int (1 : Int32)), (4, .int (0 : Int32)), (3, .int (0 : Int32)), (0, .ref (w.2.2.1 0)), (1, .int x1), (2, .int x2)]) hx hb dX8_through_22 hl (by decide) rfl (fun ls hl => ?_)
  refine lv_iconst (v := 0) hx hb dX8_through_24 (by decide) ?_
  refine lv_istore (lv' := [(7, .int (0 : Int32)), (6, .int (0 : Int32)), (5, .int (1 : Int32)), (4, .int (0 : Int32)), (3, .int (0 : Int32)), (0, .ref (w.2.2.1 0)), (1, .int x1), (2, .int x2)]) hx hb dX8_through_25 hl (by decide) rfl (fun ls hl => ?_)
  refine lv_iconst (v := 1) hx hb dX8_through_27 (by decide) ?_
  refine lv_istore (lv' := [(8, .int (1 : Int32)), (7, .int (0 : Int32)), (6, .int (0 : Int32)), (5, .int (1 : Int32)), (4, .int (0 : Int32)), (3, .int (0 : Int32)), (0, .ref (w.2.2.1 0)), (1, .int x1), (2, .int x2)]) hx hb dX8_through_28 hl (by decide) rfl (fun ls hl => ?_)
  exact hJ30 _ _ _ _ _ _ _ _ _ _ _ ls hf hG (lv_sub hl [6, 7, 8, 5, 4, 3, 2, 1, 0] rfl)

def j_X8_pious_48 (n : Nat) (t0 : Int32) (t1 : Int32) (x1 : Int32) (x2 : Int32) (x4 : Int32) (M : Mem) : Option ((Int32 × Int32 × Mem) ⊕ (Rx)) := some (.inl ((t1 + t0), (x4 + (1 : Int32)), M))
def b_X8_pious_18 (n : Nat) (x1 : Int32) (x2 : Int32) (q : (Int32 × Int32 × Mem)) : Option ((Int32 × Int32 × Mem) ⊕ (Rx)) := match q with
  | (x3, x4, M) => if x2 ≤ x4 then (mr (some ((0 : Nat), x3, M))) else (bd (f_X8_passTrialDay n   M) (fun q2 => ck (inb x1 8) (if (gi q2 13 x1.toNatClampNeg) < (50 : Int32) then (j_X8_pious_48 n  (0 : Int32) x3 x1 x2 x4 q2) else (j_X8_pious_48 n  (1 : Int32) x3 x1 x2 x4 q2))))
def f_X8_pious (n : Nat) (x1 : Int32) (x2 : Int32) (M : Mem) : Option (Rx) := bd (f_X8_requireWard n x1 M) (fun q5 => if q5.1 = 0 then (bd (f_X8_requireFrom1 n x2 q5.2.2) (fun q6 => if q6.1 = 0 then (bd (f_X8_startTrial n   q6.2.2) (fun q7 => gl (b_X8_pious_18 n  x1 x2) n ((0 : Int32), (0 : Int32), q7))) else (some (q6.1, (0 : Int32), q6.2.2)))) else (some (q5.1, (0 : Int32), q5.2.2)))
set_option maxHeartbeats 4000000 in
set_option maxRecDepth 100000 in
theorem c_X8_pious (l : Launch) (w : Wd) (hst : l.stackTraces = false) (n : Nat) (x1 : Int32) (x2 : Int32) (M : Mem) (res : Rx) (hf : f_X8_pious n  x1 x2 M = some res) : CX l w layC 61 (XN (YC w)) yX8_pious cX8_pious 5 (some .int) 7 2 [.ref (w.2.2.1 0), .int x1, .int x2] M (GXi w layC 61 res) (GXx w layC 61 res) := by
  refine cx_start (by decide +kernel) (Nat.le_of_ble_eq_true rfl) ?_
  intro p e s m args below meth c F hr hlk hno hX hG ls hl
  have F : FX w p m c cX8_pious 5 s args RX8 := F
  have hx := F.1.1
  have hb := F.1.2.1
  have hl : lv_has ls 5 [(0, .ref (w.2.2.1 0)), (1, .int x1), (2, .int x2)] := hl
  have hJ18 : ∀ (x1 : Int32) (x2 : Int32) (x3 : Int32) (x4 : Int32) (M : Mem) (H : Heap) (locs : List Loc) (ls : Array Slot), gl (b_X8_pious_18 n  x1 x2) n (x3, x4, M) = some res → GI w layC 61 s.heap M H locs → lv_has ls 5 [(0, .ref (w.2.2.1 0)), (1, .int x1), (2, .int x2), (3, .int x3), (4, .int x4)] → W p l e (RmX 7 2) s m args below meth c H locs 2 12 (vx_MQ below (GXi w layC 61 res s.heap.size) (GXx w layC 61 res s.heap.size) args s 2 (6 * 2) (gA w.2.2.1 61 s.heap.size)) (F0 m 18 ls []) := by
    intro x1 x2 x3 x4 M H locs ls hf hG hl
    refine gl_run (P := fun (q : (Int32 × Int32 × Mem)) => ∀ (H : Heap) (locs : List Loc) (ls : Array Slot), GI w layC 61 s.heap q.2.2 H locs → lv_has ls 5 [(0, .ref (w.2.2.1 0)), (1, .int x1), (2, .int x2), (3, .int q.1), (4, .int q.2.1)] → W p l e (RmX 7 2) s m args below meth c H locs 2 12 (vx_MQ below (GXi w layC 61 res s.heap.size) (GXx w layC 61 res s.heap.size) args s 2 (6 * 2) (gA w.2.2.1 61 s.heap.size)) (F0 m 18 ls [])) ?_ n (x3, x4, M) hf H locs ls hG hl
    clear hf hG hl ls locs H M x3 x4
    rintro ⟨x3, x4, M⟩ rr18 hf hI18 hE18 H locs ls hG hl
    try dsimp only at hG hl ⊢
    have hJ48 : ∀ (t0 : Int32) (t1 : Int32) (x4 : Int32) (M : Mem) (H : Heap) (locs : List Loc) (ls : Array Slot), j_X8_pious_48 n  t0 t1 x1 x2 x4 M = some rr18 → GI w layC 61 s.heap M H locs → lv_has ls 5 [(0, .ref (w.2.2.1 0)), (1, .int x1), (2, .int x2), (4, .int x4)] → W p l e (RmX 7 2) s m args below meth c H locs 2 12 (vx_MQ below (GXi w layC 61 res s.heap.size) (GXx w layC 61 res s.heap.size) args s 2 (6 * 2) (gA w.2.2.1 61 s.heap.size)) (F0 m 48 ls [.int t0, .int t1]) := by
      intro t0 t1 x4 M H locs ls hf hG hl
      unfold j_X8_pious_48 at hf
      refine lv_iadd hx hb dX8_pious_48 ?_
      refine lv_istore_n (lv' := [(3, .int (t1 + t0)), (0, .ref (w.2.2.1 0)), (1, .int x1), (2, .int x2), (4, .int x4)]) hx hb dX8_pious_49 rfl hl (by decide) rfl (fun ls hl => ?_)
      refine lv_iinc (v := (x4 + (1 : Int32))) (lv' := [(4, .int (x4 + (1 : Int32))), (3, .int (t1 + t0)), (0, .ref (w.2.2.1 0)), (1, .int x1), (2, .int x2)]) hx hb dX8_pious_50 hl (k := 4) rfl rfl (by decide) rfl (fun ls hl => ?_)
      refine lv_goto (tgt := 18) hx hb dX8_pious_53 (by decide) ?_
      exact hI18 _ (Option.some.inj hf).symm _ _ ls hG (lv_sub hl [2, 3, 4, 1, 0] rfl)
    dsimp only [b_X8_pious_18] at hf
    refine lv_iload hx hb dX8_pious_18 (lv_at hl 4 rfl) ?_
    refine lv_iload_n hx hb dX8_pious_20 rfl (lv_at hl 2 rfl) ?_
    refine lv_icmp_ge (tgt := 56) hx hb dX8_pious_21 (by decide) (fun c1 => ?_) (fun c1 => ?_)
    · replace hf := if_t c1 hf
      refine lv_iload_n hx hb dX8_pious_56 rfl (lv_at hl 3 rfl) ?_
      replace hf := mr_some hf
      obtain ⟨z18, hf, hz⟩ := hf
      rw [hE18 _ hz] at hf
      exact cx_iret F hr hlk hG hf (by decide) (by decide) dX8_pious_57
    · replace hf := if_f c1 hf
      refine lv_aload_n hx hb dX8_pious_24 rfl (lv_at hl 0 rfl) ?_
      replace hf := bd_some hf
      obtain ⟨q2, eq2, hf⟩ := hf
      refine gx_callv hG (gx_runV (xn_ok (yc_ok w)) F hX hG (c_X8_passTrialDay l w  n   _ _ eq2) cv_X8_243 ⟨Nat.le_of_ble_eq_true rfl, Nat.le_of_ble_eq_true rfl⟩ (g_recv F hG ct_0 (by decide) rfl) rfl hl.1 rfl (Nat.le_of_ble_eq_true rfl) dX8_pious_25 ⟨by decide, by decide⟩) (fun H locs hG => ?_)
      refine lv_iload_n hx hb dX8_pious_28 rfl (lv_at hl 3 rfl) ?_
      refine lv_aload_n hx hb dX8_pious_29 rfl (lv_at hl 0 rfl) ?_
      refine g_getR F hG 10 ct_0 (by decide) (by decide) lk_X8_20 rfl dX8_pious_30 ?_
      refine g_getR F hG 13 st_10.1 (by decide) (by decide) lk_X8_186 rfl dX8_pious_33 ?_
      refine lv_iload_n hx hb dX8_pious_36 rfl (lv_at hl 1 rfl) ?_
      replace hf := ck_some hf
      obtain ⟨k3, hf⟩ := hf
      refine g_iald F hG st_10.2.2.2.1 k3 dX8_pious_37 ?_
      refine lv_bipush (v := 50) hx hb dX8_pious_38 (by decide) ?_
      refine lv_icmp_lt (tgt := 47) hx hb dX8_pious_40 (by decide) (fun c4 => ?_) (fun c4 => ?_)
      · replace hf := if_t c4 hf
        refine lv_iconst (v := 0) hx hb dX8_pious_47 (by decide) ?_
        exact hJ48 _ _ _ _ _ _ ls hf hG (lv_sub hl [0, 1, 2, 4] rfl)
      · replace hf := if_f c4 hf
        refine lv_iconst (v := 1) hx hb dX8_pious_43 (by decide) ?_
        refine lv_goto (tgt := 48) hx hb dX8_pious_44 (by decide) ?_
        exact hJ48 _ _ _ _ _ _ ls hf hG (lv_sub hl [0, 1, 2, 4] rfl)
  unfold f_X8_pious at hf
  refine lv_aload_n hx hb dX8_pious_0 rfl (lv_at hl 0 rfl) ?_
  refine lv_iload_n hx hb dX8_pious_1 rfl (lv_at hl 1 rfl) ?_
  replace hf := bd_some hf
  obtain ⟨q5, eq5, hf⟩ := hf
  refine gx_xcallv hno hlk F hG (gx_xrunV (xn_ok (yc_ok w)) F hX hG (c_X8_requireWard l w hst n x1 _ _ eq5) cv_X8_183 ⟨Nat.le_of_ble_eq_true rfl, Nat.le_of_ble_eq_true rfl⟩ (g_recv F hG ct_0 (by decide) rfl) rfl hl.1 rfl (Nat.le_of_ble_eq_true rfl) dX8_pious_2 ⟨by decide, by decide⟩) (by decide) (by decide) (fun hz => if_f hz hf) (fun hz H locs hG => ?_)
  replace hf := if_t hz hf
  refine W.widen (k := 1) (n := 6) (by decide) (by decide) ?_
  refine lv_iload_n hx hb dX8_pious_5 rfl (lv_at hl 2 rfl) ?_
  replace hf := bd_some hf
  obtain ⟨q6, eq6, hf⟩ := hf
  refine gx_xcallv hno hlk F hG (gx_xrunS (xn_ok (yc_ok w)) F hX hG (c_X8_requireFrom1 l w hst n x2 _ _ eq6) cs_X8_252 ⟨Nat.le_of_ble_eq_true rfl, Nat.le_of_ble_eq_true rfl⟩ rfl hl.1 rfl (Nat.le_of_ble_eq_true rfl) dX8_pious_6 ⟨by decide, by decide⟩) (by decide) (by decide) (fun hz => if_f hz hf) (fun hz H locs hG => ?_)
  replace hf := if_t hz hf
  refine W.widen (k := 2) (n := 12) (by decide) (by decide) ?_
  refine lv_aload_n hx hb dX8_pious_9 rfl (lv_at hl 0 rfl) ?_
  replace hf := bd_some hf
  obtain ⟨q7, eq7, hf⟩ := hf
  refine gx_callv hG (gx_runV (xn_ok (yc_ok w)) F hX hG (c_X8_startTrial l w  n   _ _ eq7) cv_X8_237 ⟨Nat.le_of_ble_eq_true rfl, Nat.le_of_ble_eq_true rfl⟩ (g_recv F hG ct_0 (by decide) rfl) rfl hl.1 rfl (Nat.le_of_ble_eq_true rfl) dX8_pious_10 ⟨by decide, by decide⟩) (fun H locs hG => ?_)
  refine lv_iconst (v := 0) hx hb dX8_pious_13 (by decide) ?_
  refine lv_istore_n (lv' := [(3, .int (0 : Int32)), (0, .ref (w.2.2.1 0)), (1, .int x1), (2, .int x2)]) hx hb dX8_pious_14 rfl hl (by decide) rfl (fun ls hl => ?_)
  refine lv_iconst (v := 0) hx hb dX8_pious_15 (by decide) ?_
  refine lv_istore (lv' := [(4, .int (0 : Int32)), (3, .int (0 : Int32)), (0, .ref (w.2.2.1 0)), (1, .int x1), (2, .int x2)]) hx hb dX8_pious_16 hl (by decide) rfl (fun ls hl => ?_)
  exact hJ18 _ _ _ _ _ _ _ ls hf hG (lv_sub hl [2, 3, 4, 1, 0] rfl)

def j_X8_share_63 (n : Nat) (x3 : Int32) (x4 : Int32) (M : Mem) : Option (Rx) := if x4 ≤ 0 then (some ((0 : Nat), (0 : Int32), M)) else (ck (¬ x4 = 0) (some ((0 : Nat), ((x3 * (100 : Int32)) / x4), M)))
def b_X8_share_23 (n : Nat) (x1 : Int32) (x2 : Int32) (q : (Int32 × Int32 × Int32 × Mem)) : Option ((Int32 × Int32 × Int32 × Mem) ⊕ (Rx)) := match q with
  | (x3, x4, x5, M) => if x2 ≤ x5 then (mr (j_X8_share_63 n  x3 x4 M)) else (bd (f_X8_passTrialDay n   M) (fun q4 => ck (inb x1 8) (bd (f_X4_gaveTogether n 10  q4) (fun q6 => some (.inl ((x3 + (gi q4 15 x1.toNatClampNeg)), (x4 + q6.1), (x5 + (1 : Int32)), q6.2))))))
def f_X8_share (n : Nat) (x1 : Int32) (x2 : Int32) (M : Mem) : Option (Rx) := bd (f_X8_requireWard n x1 M) (fun q7 => if q7.1 = 0 then (bd (f_X8_requireFrom0 n x2 (60 : Int32) q7.2.2) (fun q8 => if q8.1 = 0 then (bd (f_X8_startTrial n   q8.2.2) (fun q9 => gl (b_X8_share_23 n  x1 x2) n ((0 : Int32), (0 : Int32), (0 : Int32), q9))) else (some (q8.1, (0 : Int32), q8.2.2)))) else (some (q7.1, (0 : Int32), q7.2.2)))
set_option maxHeartbeats 4000000 in
set_option maxRecDepth 100000 in
theorem c_X8_share (l : Launch) (w : Wd) (hst : l.stackTraces = false) (n : Nat) (x1 : Int32) (x2 : Int32) (M : Mem) (res : Rx) (hf : f_X8_share n  x1 x2 M = some res) : CX l w layC 61 (XN (YC w)) yX8_share cX8_share 6 (some .int) 7 2 [.ref (w.2.2.1 0), .int x1, .int x2] M (GXi w layC 61 res) (GXx w layC 61 res) := by
  refine cx_start (by decide +kernel) (Nat.le_of_ble_eq_true rfl) ?_
  intro p e s m args below meth c F hr hlk hno hX hG ls hl
  have F : FX w p m c cX8_share 6 s args RX8 := F
  have hx := F.1.1
  have hb := F.1.2.1
  have hl : lv_has ls 6 [(0, .ref (w.2.2.1 0)), (1, .int x1), (2, .int x2)] := hl
  have hJ63 : ∀ (x3 : Int32) (x4 : Int32) (M : Mem) (H : Heap) (locs : List Loc) (ls : Array Slot), j_X8_share_63 n  x3 x4 M = some res → GI w layC 61 s.heap M H locs → lv_has ls 6 [(3, .int x3), (4, .int x4)] → W p l e (RmX 7 2) s m args below meth c H locs 2 12 (vx_MQ below (GXi w layC 61 res s.heap.size) (GXx w layC 61 res s.heap.size) args s 2 (6 * 2) (gA w.2.2.1 61 s.heap.size)) (F0 m 63 ls []) := by
    intro x3 x4 M H locs ls hf hG hl
    unfold j_X8_share_63 at hf
    refine lv_iload hx hb dX8_share_63 (lv_at hl 1 rfl) ?_
    refine lv_if_le (tgt := 78) hx hb dX8_share_65 (by decide) (fun c1 => ?_) (fun c1 => ?_)
    · replace hf := if_t c1 hf
      refine lv_iconst (v := 0) hx hb dX8_share_78 (by decide) ?_
      exact cx_iret F hr hlk hG hf (by decide) (by decide) dX8_share_79
    · replace hf := if_f c1 hf
      refine lv_iload_n hx hb dX8_share_68 rfl (lv_at hl 0 rfl) ?_
      refine lv_bipush (v := 100) hx hb dX8_share_69 (by decide) ?_
      refine lv_imul hx hb dX8_share_71 ?_
      refine lv_iload hx hb dX8_share_72 (lv_at hl 1 rfl) ?_
      replace hf := ck_some hf
      obtain ⟨k2, hf⟩ := hf
      refine lv_idiv hx hb dX8_share_74 k2 ?_
      refine lv_goto (tgt := 79) hx hb dX8_share_75 (by decide) ?_
      exact cx_iret F hr hlk hG hf (by decide) (by decide) dX8_share_79
  have hJ23 : ∀ (x1 : Int32) (x2 : Int32) (x3 : Int32) (x4 : Int32) (x5 : Int32) (M : Mem) (H : Heap) (locs : List Loc) (ls : Array Slot), gl (b_X8_share_23 n  x1 x2) n (x3, x4, x5, M) = some res → GI w layC 61 s.heap M H locs → lv_has ls 6 [(0, .ref (w.2.2.1 0)), (1, .int x1), (2, .int x2), (3, .int x3), (4, .int x4), (5, .int x5)] → W p l e (RmX 7 2) s m args below meth c H locs 2 12 (vx_MQ below (GXi w layC 61 res s.heap.size) (GXx w layC 61 res s.heap.size) args s 2 (6 * 2) (gA w.2.2.1 61 s.heap.size)) (F0 m 23 ls []) := by
    intro x1 x2 x3 x4 x5 M H locs ls hf hG hl
    refine gl_run (P := fun (q : (Int32 × Int32 × Int32 × Mem)) => ∀ (H : Heap) (locs : List Loc) (ls : Array Slot), GI w layC 61 s.heap q.2.2.2 H locs → lv_has ls 6 [(0, .ref (w.2.2.1 0)), (1, .int x1), (2, .int x2), (3, .int q.1), (4, .int q.2.1), (5, .int q.2.2.1)] → W p l e (RmX 7 2) s m args below meth c H locs 2 12 (vx_MQ below (GXi w layC 61 res s.heap.size) (GXx w layC 61 res s.heap.size) args s 2 (6 * 2) (gA w.2.2.1 61 s.heap.size)) (F0 m 23 ls [])) ?_ n (x3, x4, x5, M) hf H locs ls hG hl
    clear hf hG hl ls locs H M x3 x4 x5
    rintro ⟨x3, x4, x5, M⟩ rr23 hf hI23 hE23 H locs ls hG hl
    try dsimp only at hG hl ⊢
    dsimp only [b_X8_share_23] at hf
    refine lv_iload hx hb dX8_share_23 (lv_at hl 5 rfl) ?_
    refine lv_iload_n hx hb dX8_share_25 rfl (lv_at hl 2 rfl) ?_
    refine lv_icmp_ge (tgt := 63) hx hb dX8_share_26 (by decide) (fun c3 => ?_) (fun c3 => ?_)
    · replace hf := if_t c3 hf
      replace hf := mr_some hf
      obtain ⟨z23, hf, hz⟩ := hf
      rw [hE23 _ hz] at hf
      exact hJ63 _ _ _ _ _ ls hf hG (lv_sub hl [3, 4] rfl)
    · replace hf := if_f c3 hf
      refine lv_aload_n hx hb dX8_share_29 rfl (lv_at hl 0 rfl) ?_
      replace hf := bd_some hf
      obtain ⟨q4, eq4, hf⟩ := hf
      refine gx_callv hG (gx_runV (xn_ok (yc_ok w)) F hX hG (c_X8_passTrialDay l w  n   _ _ eq4) cv_X8_243 ⟨Nat.le_of_ble_eq_true rfl, Nat.le_of_ble_eq_true rfl⟩ (g_recv F hG ct_0 (by decide) rfl) rfl hl.1 rfl (Nat.le_of_ble_eq_true rfl) dX8_share_30 ⟨by decide, by decide⟩) (fun H locs hG => ?_)
      refine lv_iload_n hx hb dX8_share_33 rfl (lv_at hl 3 rfl) ?_
      refine lv_aload_n hx hb dX8_share_34 rfl (lv_at hl 0 rfl) ?_
      refine g_getR F hG 10 ct_0 (by decide) (by decide) lk_X8_20 rfl dX8_share_35 ?_
      refine g_getR F hG 15 st_10.1 (by decide) (by decide) lk_X8_246 rfl dX8_share_38 ?_
      refine lv_iload_n hx hb dX8_share_41 rfl (lv_at hl 1 rfl) ?_
      replace hf := ck_some hf
      obtain ⟨k5, hf⟩ := hf
      refine g_iald F hG st_10.2.2.2.2.2 k5 dX8_share_42 ?_
      refine lv_iadd hx hb dX8_share_43 ?_
      refine lv_istore_n (lv' := [(3, .int (x3 + (gi q4 15 x1.toNatClampNeg))), (0, .ref (w.2.2.1 0)), (1, .int x1), (2, .int x2), (4, .int x4), (5, .int x5)]) hx hb dX8_share_44 rfl hl (by decide) rfl (fun ls hl => ?_)
      refine lv_iload hx hb dX8_share_45 (lv_at hl 4 rfl) ?_
      refine lv_aload_n hx hb dX8_share_47 rfl (lv_at hl 1 rfl) ?_
      refine g_getR F hG 10 ct_0 (by decide) (by decide) lk_X8_20 rfl dX8_share_48 ?_
      replace hf := bd_some hf
      obtain ⟨q6, eq6, hf⟩ := hf
      refine gx_calli hG (gx_runV (xn_ok (yc_ok w)) F hX hG (c_X4_gaveTogether l w (yc_ok w) n 10 st_10  _ _ eq6) cv_X8_260 ⟨Nat.le_of_ble_eq_true rfl, Nat.le_of_ble_eq_true rfl⟩ (g_recv F hG st_10.1 (by decide) rfl) rfl hl.1 rfl (Nat.le_of_ble_eq_true rfl) dX8_share_51 ⟨by decide, by decide⟩) (fun H locs hG => ?_)
      refine lv_iadd hx hb dX8_share_54 ?_
      refine lv_istore (lv' := [(4, .int (x4 + q6.1)), (3, .int (x3 + (gi q4 15 x1.toNatClampNeg))), (0, .ref (w.2.2.1 0)), (1, .int x1), (2, .int x2), (5, .int x5)]) hx hb dX8_share_55 hl (by decide) rfl (fun ls hl => ?_)
      refine lv_iinc (v := (x5 + (1 : Int32))) (lv' := [(5, .int (x5 + (1 : Int32))), (4, .int (x4 + q6.1)), (3, .int (x3 + (gi q4 15 x1.toNatClampNeg))), (0, .ref (w.2.2.1 0)), (1, .int x1), (2, .int x2)]) hx hb dX8_share_57 hl (k := 5) rfl rfl (by decide) rfl (fun ls hl => ?_)
      refine lv_goto (tgt := 23) hx hb dX8_share_60 (by decide) ?_
      exact hI23 _ (Option.some.inj hf).symm _ _ ls hG (lv_sub hl [3, 4, 5, 2, 1, 0] rfl)
  unfold f_X8_share at hf
  refine lv_aload_n hx hb dX8_share_0 rfl (lv_at hl 0 rfl) ?_
  refine lv_iload_n hx hb dX8_share_1 rfl (lv_at hl 1 rfl) ?_
  replace hf := bd_some hf
  obtain ⟨q7, eq7, hf⟩ := hf
  refine gx_xcallv hno hlk F hG (gx_xrunV (xn_ok (yc_ok w)) F hX hG (c_X8_requireWard l w hst n x1 _ _ eq7) cv_X8_183 ⟨Nat.le_of_ble_eq_true rfl, Nat.le_of_ble_eq_true rfl⟩ (g_recv F hG ct_0 (by decide) rfl) rfl hl.1 rfl (Nat.le_of_ble_eq_true rfl) dX8_share_2 ⟨by decide, by decide⟩) (by decide) (by decide) (fun hz => if_f hz hf) (fun hz H locs hG => ?_)
  replace hf := if_t hz hf
  refine W.widen (k := 1) (n := 6) (by decide) (by decide) ?_
  refine lv_iload_n hx hb dX8_share_5 rfl (lv_at hl 2 rfl) ?_
  refine lv_bipush (v := 60) hx hb dX8_share_6 (by decide) ?_
  replace hf := bd_some hf
  obtain ⟨q8, eq8, hf⟩ := hf
  refine gx_xcallv hno hlk F hG (gx_xrunS (xn_ok (yc_ok w)) F hX hG (c_X8_requireFrom0 l w hst n x2 (60 : Int32) _ _ eq8) cs_X8_234 ⟨Nat.le_of_ble_eq_true rfl, Nat.le_of_ble_eq_true rfl⟩ rfl hl.1 rfl (Nat.le_of_ble_eq_true rfl) dX8_share_8 ⟨by decide, by decide⟩) (by decide) (by decide) (fun hz => if_f hz hf) (fun hz H locs hG => ?_)
  replace hf := if_t hz hf
  refine W.widen (k := 2) (n := 12) (by decide) (by decide) ?_
  refine lv_aload_n hx hb dX8_share_11 rfl (lv_at hl 0 rfl) ?_
  replace hf := bd_some hf
  obtain ⟨q9, eq9, hf⟩ := hf
  refine gx_callv hG (gx_runV (xn_ok (yc_ok w)) F hX hG (c_X8_startTrial l w  n   _ _ eq9) cv_X8_237 ⟨Nat.le_of_ble_eq_true rfl, Nat.le_of_ble_eq_true rfl⟩ (g_recv F hG ct_0 (by decide) rfl) rfl hl.1 rfl (Nat.le_of_ble_eq_true rfl) dX8_share_12 ⟨by decide, by decide⟩) (fun H locs hG => ?_)
  refine lv_iconst (v := 0) hx hb dX8_share_15 (by decide) ?_
  refine lv_istore_n (lv' := [(3, .int (0 : Int32)), (0, .ref (w.2.2.1 0)), (1, .int x1), (2, .int x2)]) hx hb dX8_share_16 rfl hl (by decide) rfl (fun ls hl => ?_)
  refine lv_iconst (v := 0) hx hb dX8_share_17 (by decide) ?_
  refine lv_istore (lv' := [(4, .int (0 : Int32)), (3, .int (0 : Int32)), (0, .ref (w.2.2.1 0)), (1, .int x1), (2, .int x2)]) hx hb dX8_share_18 hl (by decide) rfl (fun ls hl => ?_)
  refine lv_iconst (v := 0) hx hb dX8_share_20 (by decide) ?_
  refine lv_istore (lv' := [(5, .int (0 : Int32)), (4, .int (0 : Int32)), (3, .int (0 : Int32)), (0, .ref (w.2.2.1 0)), (1, .int x1), (2, .int x2)]) hx hb dX8_share_21 hl (by decide) rfl (fun ls hl => ?_)
  exact hJ23 _ _ _ _ _ _ _ _ ls hf hG (lv_sub hl [3, 4, 5, 2, 1, 0] rfl)

def f_X8_heaviest (n : Nat) (x1 : Int32) (M : Mem) : Option (Rx) := bd (f_X8_requireFrom0 n x1 (60 : Int32) M) (fun q1 => if q1.1 = 0 then (bd (f_X8_startTrial n   q1.2.2) (fun q2 => bd (f_X8_go n  x1 q2) (fun q3 => bd (f_X4_heaviestHung n 10  q3.2) (fun q4 => some ((0 : Nat), q4.1, q4.2))))) else (some (q1.1, (0 : Int32), q1.2.2)))
set_option maxHeartbeats 4000000 in
set_option maxRecDepth 100000 in
theorem c_X8_heaviest (l : Launch) (w : Wd) (hst : l.stackTraces = false) (n : Nat) (x1 : Int32) (M : Mem) (res : Rx) (hf : f_X8_heaviest n  x1 M = some res) : CX l w layC 61 (XN (YC w)) yX8_heaviest cX8_heaviest 2 (some .int) 7 1 [.ref (w.2.2.1 0), .int x1] M (GXi w layC 61 res) (GXx w layC 61 res) := by
  refine cx_start (by decide +kernel) (Nat.le_of_ble_eq_true rfl) ?_
  intro p e s m args below meth c F hr hlk hno hX hG ls hl
  have F : FX w p m c cX8_heaviest 2 s args RX8 := F
  have hx := F.1.1
  have hb := F.1.2.1
  have hl : lv_has ls 2 [(0, .ref (w.2.2.1 0)), (1, .int x1)] := hl
  unfold f_X8_heaviest at hf
  refine lv_iload_n hx hb dX8_heaviest_0 rfl (lv_at hl 1 rfl) ?_
  refine lv_bipush (v := 60) hx hb dX8_heaviest_1 (by decide) ?_
  replace hf := bd_some hf
  obtain ⟨q1, eq1, hf⟩ := hf
  refine gx_xcallv hno hlk F hG (gx_xrunS (xn_ok (yc_ok w)) F hX hG (c_X8_requireFrom0 l w hst n x1 (60 : Int32) _ _ eq1) cs_X8_234 ⟨Nat.le_of_ble_eq_true rfl, Nat.le_of_ble_eq_true rfl⟩ rfl hl.1 rfl (Nat.le_of_ble_eq_true rfl) dX8_heaviest_3 ⟨by decide, by decide⟩) (by decide) (by decide) (fun hz => if_f hz hf) (fun hz H locs hG => ?_)
  replace hf := if_t hz hf
  refine W.widen (k := 1) (n := 6) (by decide) (by decide) ?_
  refine lv_aload_n hx hb dX8_heaviest_6 rfl (lv_at hl 0 rfl) ?_
  replace hf := bd_some hf
  obtain ⟨q2, eq2, hf⟩ := hf
  refine gx_callv hG (gx_runV (xn_ok (yc_ok w)) F hX hG (c_X8_startTrial l w  n   _ _ eq2) cv_X8_237 ⟨Nat.le_of_ble_eq_true rfl, Nat.le_of_ble_eq_true rfl⟩ (g_recv F hG ct_0 (by decide) rfl) rfl hl.1 rfl (Nat.le_of_ble_eq_true rfl) dX8_heaviest_7 ⟨by decide, by decide⟩) (fun H locs hG => ?_)
  refine lv_aload_n hx hb dX8_heaviest_10 rfl (lv_at hl 0 rfl) ?_
  refine lv_iload_n hx hb dX8_heaviest_11 rfl (lv_at hl 1 rfl) ?_
  replace hf := bd_some hf
  obtain ⟨q3, eq3, hf⟩ := hf
  refine gx_calli hG (gx_runV (xn_ok (yc_ok w)) F hX hG (c_X8_go l w  n  x1 _ _ eq3) cv_X8_240 ⟨Nat.le_of_ble_eq_true rfl, Nat.le_of_ble_eq_true rfl⟩ (g_recv F hG ct_0 (by decide) rfl) rfl hl.1 rfl (Nat.le_of_ble_eq_true rfl) dX8_heaviest_12 ⟨by decide, by decide⟩) (fun H locs hG => ?_)
  refine lv_pop hx hb dX8_heaviest_15 rfl ?_
  refine lv_aload_n hx hb dX8_heaviest_16 rfl (lv_at hl 0 rfl) ?_
  refine g_getR F hG 10 ct_0 (by decide) (by decide) lk_X8_20 rfl dX8_heaviest_17 ?_
  replace hf := bd_some hf
  obtain ⟨q4, eq4, hf⟩ := hf
  refine gx_calli hG (gx_runV (xn_ok (yc_ok w)) F hX hG (c_X4_heaviestHung l w (yc_ok w) n 10 st_10  _ _ eq4) cv_X8_263 ⟨Nat.le_of_ble_eq_true rfl, Nat.le_of_ble_eq_true rfl⟩ (g_recv F hG st_10.1 (by decide) rfl) rfl hl.1 rfl (Nat.le_of_ble_eq_true rfl) dX8_heaviest_20 ⟨by decide, by decide⟩) (fun H locs hG => ?_)
  exact cx_iret F hr hlk hG hf (by decide) (by decide) dX8_heaviest_23

def f_X8_far (n : Nat) (x1 : Int32) (x2 : Int32) (M : Mem) : Option (Rx) := bd (f_X8_requireWard n x1 M) (fun q1 => if q1.1 = 0 then (bd (f_X8_requireWard n x2 q1.2.2) (fun q2 => if q2.1 = 0 then (bd (f_X5_distance n 4 x1 x2 q2.2.2) (fun q3 => some ((0 : Nat), q3.1, q3.2))) else (some (q2.1, (0 : Int32), q2.2.2)))) else (some (q1.1, (0 : Int32), q1.2.2)))
set_option maxHeartbeats 4000000 in
set_option maxRecDepth 100000 in
theorem c_X8_far (l : Launch) (w : Wd) (hst : l.stackTraces = false) (n : Nat) (x1 : Int32) (x2 : Int32) (M : Mem) (res : Rx) (hf : f_X8_far n  x1 x2 M = some res) : CX l w layC 61 (XN (YC w)) yX8_far cX8_far 3 (some .int) 7 2 [.ref (w.2.2.1 0), .int x1, .int x2] M (GXi w layC 61 res) (GXx w layC 61 res) := by
  refine cx_start (by decide +kernel) (Nat.le_of_ble_eq_true rfl) ?_
  intro p e s m args below meth c F hr hlk hno hX hG ls hl
  have F : FX w p m c cX8_far 3 s args RX8 := F
  have hx := F.1.1
  have hb := F.1.2.1
  have hl : lv_has ls 3 [(0, .ref (w.2.2.1 0)), (1, .int x1), (2, .int x2)] := hl
  unfold f_X8_far at hf
  refine lv_aload_n hx hb dX8_far_0 rfl (lv_at hl 0 rfl) ?_
  refine lv_iload_n hx hb dX8_far_1 rfl (lv_at hl 1 rfl) ?_
  replace hf := bd_some hf
  obtain ⟨q1, eq1, hf⟩ := hf
  refine gx_xcallv hno hlk F hG (gx_xrunV (xn_ok (yc_ok w)) F hX hG (c_X8_requireWard l w hst n x1 _ _ eq1) cv_X8_183 ⟨Nat.le_of_ble_eq_true rfl, Nat.le_of_ble_eq_true rfl⟩ (g_recv F hG ct_0 (by decide) rfl) rfl hl.1 rfl (Nat.le_of_ble_eq_true rfl) dX8_far_2 ⟨by decide, by decide⟩) (by decide) (by decide) (fun hz => if_f hz hf) (fun hz H locs hG => ?_)
  replace hf := if_t hz hf
  refine W.widen (k := 1) (n := 6) (by decide) (by decide) ?_
  refine lv_aload_n hx hb dX8_far_5 rfl (lv_at hl 0 rfl) ?_
  refine lv_iload_n hx hb dX8_far_6 rfl (lv_at hl 2 rfl) ?_
  replace hf := bd_some hf
  obtain ⟨q2, eq2, hf⟩ := hf
  refine gx_xcallv hno hlk F hG (gx_xrunV (xn_ok (yc_ok w)) F hX hG (c_X8_requireWard l w hst n x2 _ _ eq2) cv_X8_183 ⟨Nat.le_of_ble_eq_true rfl, Nat.le_of_ble_eq_true rfl⟩ (g_recv F hG ct_0 (by decide) rfl) rfl hl.1 rfl (Nat.le_of_ble_eq_true rfl) dX8_far_7 ⟨by decide, by decide⟩) (by decide) (by decide) (fun hz => if_f hz hf) (fun hz H locs hG => ?_)
  replace hf := if_t hz hf
  refine W.widen (k := 2) (n := 12) (by decide) (by decide) ?_
  refine lv_aload_n hx hb dX8_far_10 rfl (lv_at hl 0 rfl) ?_
  refine g_getR F hG 4 ct_0 (by decide) (by decide) lk_X8_16 rfl dX8_far_11 ?_
  refine lv_iload_n hx hb dX8_far_14 rfl (lv_at hl 1 rfl) ?_
  refine lv_iload_n hx hb dX8_far_15 rfl (lv_at hl 2 rfl) ?_
  replace hf := bd_some hf
  obtain ⟨q3, eq3, hf⟩ := hf
  refine gx_calli hG (gx_runS (xn_ok (yc_ok w)) F hX hG (c_X5_distance l w (yc_ok w) n 4 st_4 x1 x2 _ _ eq3) cs_X8_266 ⟨Nat.le_of_ble_eq_true rfl, Nat.le_of_ble_eq_true rfl⟩ rfl hl.1 rfl (Nat.le_of_ble_eq_true rfl) dX8_far_16 ⟨by decide, by decide⟩) (fun H locs hG => ?_)
  exact cx_iret F hr hlk hG hf (by decide) (by decide) dX8_far_19

def f_X8_apart (n : Nat) (x1 : Int32) (x2 : Int32) (M : Mem) : Option (Rx) := bd (f_X8_requireWard n x1 M) (fun q1 => if q1.1 = 0 then (bd (f_X8_requireWard n x2 q1.2.2) (fun q2 => if q2.1 = 0 then (bd (f_X5_leastCut n 4 x1 x2 q2.2.2) (fun q3 => some ((0 : Nat), q3.1, q3.2))) else (some (q2.1, (0 : Int32), q2.2.2)))) else (some (q1.1, (0 : Int32), q1.2.2)))
set_option maxHeartbeats 4000000 in
set_option maxRecDepth 100000 in
theorem c_X8_apart (l : Launch) (w : Wd) (hst : l.stackTraces = false) (n : Nat) (x1 : Int32) (x2 : Int32) (M : Mem) (res : Rx) (hf : f_X8_apart n  x1 x2 M = some res) : CX l w layC 61 (XN (YC w)) yX8_apart cX8_apart 3 (some .int) 7 2 [.ref (w.2.2.1 0), .int x1, .int x2] M (GXi w layC 61 res) (GXx w layC 61 res) := by
  refine cx_start (by decide +kernel) (Nat.le_of_ble_eq_true rfl) ?_
  intro p e s m args below meth c F hr hlk hno hX hG ls hl
  have F : FX w p m c cX8_apart 3 s args RX8 := F
  have hx := F.1.1
  have hb := F.1.2.1
  have hl : lv_has ls 3 [(0, .ref (w.2.2.1 0)), (1, .int x1), (2, .int x2)] := hl
  unfold f_X8_apart at hf
  refine lv_aload_n hx hb dX8_apart_0 rfl (lv_at hl 0 rfl) ?_
  refine lv_iload_n hx hb dX8_apart_1 rfl (lv_at hl 1 rfl) ?_
  replace hf := bd_some hf
  obtain ⟨q1, eq1, hf⟩ := hf
  refine gx_xcallv hno hlk F hG (gx_xrunV (xn_ok (yc_ok w)) F hX hG (c_X8_requireWard l w hst n x1 _ _ eq1) cv_X8_183 ⟨Nat.le_of_ble_eq_true rfl, Nat.le_of_ble_eq_true rfl⟩ (g_recv F hG ct_0 (by decide) rfl) rfl hl.1 rfl (Nat.le_of_ble_eq_true rfl) dX8_apart_2 ⟨by decide, by decide⟩) (by decide) (by decide) (fun hz => if_f hz hf) (fun hz H locs hG => ?_)
  replace hf := if_t hz hf
  refine W.widen (k := 1) (n := 6) (by decide) (by decide) ?_
  refine lv_aload_n hx hb dX8_apart_5 rfl (lv_at hl 0 rfl) ?_
  refine lv_iload_n hx hb dX8_apart_6 rfl (lv_at hl 2 rfl) ?_
  replace hf := bd_some hf
  obtain ⟨q2, eq2, hf⟩ := hf
  refine gx_xcallv hno hlk F hG (gx_xrunV (xn_ok (yc_ok w)) F hX hG (c_X8_requireWard l w hst n x2 _ _ eq2) cv_X8_183 ⟨Nat.le_of_ble_eq_true rfl, Nat.le_of_ble_eq_true rfl⟩ (g_recv F hG ct_0 (by decide) rfl) rfl hl.1 rfl (Nat.le_of_ble_eq_true rfl) dX8_apart_7 ⟨by decide, by decide⟩) (by decide) (by decide) (fun hz => if_f hz hf) (fun hz H locs hG => ?_)
  replace hf := if_t hz hf
  refine W.widen (k := 2) (n := 12) (by decide) (by decide) ?_
  refine lv_aload_n hx hb dX8_apart_10 rfl (lv_at hl 0 rfl) ?_
  refine g_getR F hG 4 ct_0 (by decide) (by decide) lk_X8_16 rfl dX8_apart_11 ?_
  refine lv_iload_n hx hb dX8_apart_14 rfl (lv_at hl 1 rfl) ?_
  refine lv_iload_n hx hb dX8_apart_15 rfl (lv_at hl 2 rfl) ?_
  replace hf := bd_some hf
  obtain ⟨q3, eq3, hf⟩ := hf
  refine gx_calli hG (gx_runS (xn_ok (yc_ok w)) F hX hG (c_X5_leastCut l w (yc_ok w) n 4 st_4 x1 x2 _ _ eq3) cs_X8_269 ⟨Nat.le_of_ble_eq_true rfl, Nat.le_of_ble_eq_true rfl⟩ rfl hl.1 rfl (Nat.le_of_ble_eq_true rfl) dX8_apart_16 ⟨by decide, by decide⟩) (fun H locs hG => ?_)
  exact cx_iret F hr hlk hG hf (by decide) (by decide) dX8_apart_19

def b_X8_standsIfPreached_44 (n : Nat) (x2 : Int32) (q : (Int32 × Mem)) : Option ((Int32 × Mem) ⊕ (Int32 × Mem)) := match q with
  | (x3, M) => if x2 ≤ x3 then (mr (some ((1 : Int32), M))) else (bd (f_X8_passTrialDay n   M) (fun q2 => if (gi q2 10 11) ≤ 0 then (some (.inl ((x3 + (1 : Int32)), q2))) else (mr (some ((0 : Int32), q2)))))
def j_X8_standsIfPreached_42 (n : Nat) (x2 : Int32) (M : Mem) : Option (Int32 × Mem) := gl (b_X8_standsIfPreached_44 n  x2) n ((0 : Int32), M)
def j_X8_standsIfPreached_36 (n : Nat) (x1 : Int32) (x2 : Int32) (x3 : Int32) (M : Mem) : Option ((Int32 × Mem) ⊕ (Int32 × Mem)) := some (.inl ((x3 + (1 : Int32)), M))
def b_X8_standsIfPreached_6 (n : Nat) (x1 : Int32) (x2 : Int32) (q : (Int32 × Mem)) : Option ((Int32 × Mem) ⊕ (Int32 × Mem)) := match q with
  | (x3, M) => if (gi M 10 7) ≤ x3 then (mr (j_X8_standsIfPreached_42 n  x2 M)) else (if ((x1 >>> (x3 &&& 31)) &&& (1 : Int32)) = (1 : Int32) then (bd (f_X4_addFaith n 10 x3 (10 : Int32) M) (fun q6 => j_X8_standsIfPreached_36 n  x1 x2 x3 q6)) else (j_X8_standsIfPreached_36 n  x1 x2 x3 M))
def f_X8_standsIfPreached (n : Nat) (x1 : Int32) (x2 : Int32) (M : Mem) : Option (Int32 × Mem) := bd (f_X8_startTrial n   M) (fun q7 => gl (b_X8_standsIfPreached_6 n  x1 x2) n ((0 : Int32), q7))
set_option maxHeartbeats 4000000 in
set_option maxRecDepth 100000 in
theorem c_X8_standsIfPreached (l : Launch) (w : Wd)  (n : Nat) (x1 : Int32) (x2 : Int32) (M : Mem) (res : Int32 × Mem) (hf : f_X8_standsIfPreached n  x1 x2 M = some res) : CG l w layC 61 (XN (YC w)) yX8_standsIfPreached cX8_standsIfPreached 4 (some .boolean) 5 [.ref (w.2.2.1 0), .int x1, .int x2] M (GQi w layC 61 res) := by
  refine cg_start (by decide +kernel) (Nat.le_of_ble_eq_true rfl) ?_
  intro p e s m args below meth c F hr hlk hX hG ls hl
  have F : FX w p m c cX8_standsIfPreached 4 s args RX8 := F
  have hx := F.1.1
  have hb := F.1.2.1
  have hl : lv_has ls 4 [(0, .ref (w.2.2.1 0)), (1, .int x1), (2, .int x2)] := hl
  have hJ44 : ∀ (x2 : Int32) (x3 : Int32) (M : Mem) (H : Heap) (locs : List Loc) (ls : Array Slot), gl (b_X8_standsIfPreached_44 n  x2) n (x3, M) = some res → GI w layC 61 s.heap M H locs → lv_has ls 4 [(0, .ref (w.2.2.1 0)), (2, .int x2), (3, .int x3)] → W p l e (Rm 5) s m args below meth c H locs 0 0 (MQ below (GQi w layC 61 res s.heap.size) args s 0 0 (gA w.2.2.1 61 s.heap.size)) (F0 m 44 ls []) := by
    intro x2 x3 M H locs ls hf hG hl
    refine gl_run (P := fun (q : (Int32 × Mem)) => ∀ (H : Heap) (locs : List Loc) (ls : Array Slot), GI w layC 61 s.heap q.2 H locs → lv_has ls 4 [(0, .ref (w.2.2.1 0)), (2, .int x2), (3, .int q.1)] → W p l e (Rm 5) s m args below meth c H locs 0 0 (MQ below (GQi w layC 61 res s.heap.size) args s 0 0 (gA w.2.2.1 61 s.heap.size)) (F0 m 44 ls [])) ?_ n (x3, M) hf H locs ls hG hl
    clear hf hG hl ls locs H M x3
    rintro ⟨x3, M⟩ rr44 hf hI44 hE44 H locs ls hG hl
    try dsimp only at hG hl ⊢
    dsimp only [b_X8_standsIfPreached_44] at hf
    refine lv_iload_n hx hb dX8_standsIfPreached_44 rfl (lv_at hl 2 rfl) ?_
    refine lv_iload_n hx hb dX8_standsIfPreached_45 rfl (lv_at hl 1 rfl) ?_
    refine lv_icmp_ge (tgt := 71) hx hb dX8_standsIfPreached_46 (by decide) (fun c1 => ?_) (fun c1 => ?_)
    · replace hf := if_t c1 hf
      refine lv_iconst (v := 1) hx hb dX8_standsIfPreached_71 (by decide) ?_
      replace hf := mr_some hf
      obtain ⟨z44, hf, hz⟩ := hf
      rw [hE44 _ hz] at hf
      exact cg_zret F hr hlk hG hf (Or.inr rfl) dX8_standsIfPreached_72
    · replace hf := if_f c1 hf
      refine lv_aload_n hx hb dX8_standsIfPreached_49 rfl (lv_at hl 0 rfl) ?_
      replace hf := bd_some hf
      obtain ⟨q2, eq2, hf⟩ := hf
      refine gx_callv hG (gx_runV (xn_ok (yc_ok w)) F hX hG (c_X8_passTrialDay l w  n   _ _ eq2) cv_X8_243 ⟨Nat.le_of_ble_eq_true rfl, Nat.le_of_ble_eq_true rfl⟩ (g_recv F hG ct_0 (by decide) rfl) rfl hl.1 rfl (Nat.le_of_ble_eq_true rfl) dX8_standsIfPreached_50 ⟨Nat.le_refl _, Nat.le_refl _⟩) (fun H locs hG => ?_)
      refine lv_aload_n hx hb dX8_standsIfPreached_53 rfl (lv_at hl 0 rfl) ?_
      refine g_getR F hG 10 ct_0 (by decide) (by decide) lk_X8_20 rfl dX8_standsIfPreached_54 ?_
      refine g_getI F hG st_10.1 (by decide) (by decide) lk_X8_148 rfl dX8_standsIfPreached_57 ?_
      refine lv_if_le (tgt := 65) hx hb dX8_standsIfPreached_60 (by decide) (fun c3 => ?_) (fun c3 => ?_)
      · replace hf := if_t c3 hf
        refine lv_iinc (v := (x3 + (1 : Int32))) (lv' := [(3, .int (x3 + (1 : Int32))), (0, .ref (w.2.2.1 0)), (2, .int x2)]) hx hb dX8_standsIfPreached_65 hl (k := 2) rfl rfl (by decide) rfl (fun ls hl => ?_)
        refine lv_goto (tgt := 44) hx hb dX8_standsIfPreached_68 (by decide) ?_
        exact hI44 _ (Option.some.inj hf).symm _ _ ls hG (lv_sub hl [1, 2, 0] rfl)
      · replace hf := if_f c3 hf
        refine lv_iconst (v := 0) hx hb dX8_standsIfPreached_63 (by decide) ?_
        replace hf := mr_some hf
        obtain ⟨z44, hf, hz⟩ := hf
        rw [hE44 _ hz] at hf
        exact cg_zret F hr hlk hG hf (Or.inl rfl) dX8_standsIfPreached_64
  have hJ42 : ∀ (x2 : Int32) (M : Mem) (H : Heap) (locs : List Loc) (ls : Array Slot), j_X8_standsIfPreached_42 n  x2 M = some res → GI w layC 61 s.heap M H locs → lv_has ls 4 [(0, .ref (w.2.2.1 0)), (2, .int x2)] → W p l e (Rm 5) s m args below meth c H locs 0 0 (MQ below (GQi w layC 61 res s.heap.size) args s 0 0 (gA w.2.2.1 61 s.heap.size)) (F0 m 42 ls []) := by
    intro x2 M H locs ls hf hG hl
    unfold j_X8_standsIfPreached_42 at hf
    refine lv_iconst (v := 0) hx hb dX8_standsIfPreached_42 (by decide) ?_
    refine lv_istore_n (lv' := [(3, .int (0 : Int32)), (0, .ref (w.2.2.1 0)), (2, .int x2)]) hx hb dX8_standsIfPreached_43 rfl hl (by decide) rfl (fun ls hl => ?_)
    exact hJ44 _ _ _ _ _ ls hf hG (lv_sub hl [1, 2, 0] rfl)
  have hJ6 : ∀ (x1 : Int32) (x2 : Int32) (x3 : Int32) (M : Mem) (H : Heap) (locs : List Loc) (ls : Array Slot), gl (b_X8_standsIfPreached_6 n  x1 x2) n (x3, M) = some res → GI w layC 61 s.heap M H locs → lv_has ls 4 [(0, .ref (w.2.2.1 0)), (1, .int x1), (2, .int x2), (3, .int x3)] → W p l e (Rm 5) s m args below meth c H locs 0 0 (MQ below (GQi w layC 61 res s.heap.size) args s 0 0 (gA w.2.2.1 61 s.heap.size)) (F0 m 6 ls []) := by
    intro x1 x2 x3 M H locs ls hf hG hl
    refine gl_run (P := fun (q : (Int32 × Mem)) => ∀ (H : Heap) (locs : List Loc) (ls : Array Slot), GI w layC 61 s.heap q.2 H locs → lv_has ls 4 [(0, .ref (w.2.2.1 0)), (1, .int x1), (2, .int x2), (3, .int q.1)] → W p l e (Rm 5) s m args below meth c H locs 0 0 (MQ below (GQi w layC 61 res s.heap.size) args s 0 0 (gA w.2.2.1 61 s.heap.size)) (F0 m 6 ls [])) ?_ n (x3, M) hf H locs ls hG hl
    clear hf hG hl ls locs H M x3
    rintro ⟨x3, M⟩ rr6 hf hI6 hE6 H locs ls hG hl
    try dsimp only at hG hl ⊢
    have hJ36 : ∀ (x3 : Int32) (M : Mem) (H : Heap) (locs : List Loc) (ls : Array Slot), j_X8_standsIfPreached_36 n  x1 x2 x3 M = some rr6 → GI w layC 61 s.heap M H locs → lv_has ls 4 [(0, .ref (w.2.2.1 0)), (1, .int x1), (2, .int x2), (3, .int x3)] → W p l e (Rm 5) s m args below meth c H locs 0 0 (MQ below (GQi w layC 61 res s.heap.size) args s 0 0 (gA w.2.2.1 61 s.heap.size)) (F0 m 36 ls []) := by
      intro x3 M H locs ls hf hG hl
      unfold j_X8_standsIfPreached_36 at hf
      refine lv_iinc (v := (x3 + (1 : Int32))) (lv' := [(3, .int (x3 + (1 : Int32))), (0, .ref (w.2.2.1 0)), (1, .int x1), (2, .int x2)]) hx hb dX8_standsIfPreached_36 hl (k := 3) rfl rfl (by decide) rfl (fun ls hl => ?_)
      refine lv_goto (tgt := 6) hx hb dX8_standsIfPreached_39 (by decide) ?_
      exact hI6 _ (Option.some.inj hf).symm _ _ ls hG (lv_sub hl [1, 2, 3, 0] rfl)
    dsimp only [b_X8_standsIfPreached_6] at hf
    refine lv_iload_n hx hb dX8_standsIfPreached_6 rfl (lv_at hl 3 rfl) ?_
    refine lv_aload_n hx hb dX8_standsIfPreached_7 rfl (lv_at hl 0 rfl) ?_
    refine g_getR F hG 10 ct_0 (by decide) (by decide) lk_X8_20 rfl dX8_standsIfPreached_8 ?_
    refine g_getI F hG st_10.1 (by decide) (by decide) lk_X8_120 rfl dX8_standsIfPreached_11 ?_
    refine lv_icmp_ge (tgt := 42) hx hb dX8_standsIfPreached_14 (by decide) (fun c4 => ?_) (fun c4 => ?_)
    · replace hf := if_t c4 hf
      replace hf := mr_some hf
      obtain ⟨z6, hf, hz⟩ := hf
      rw [hE6 _ hz] at hf
      exact hJ42 _ _ _ _ ls hf hG (lv_sub hl [0, 2] rfl)
    · replace hf := if_f c4 hf
      refine lv_iload_n hx hb dX8_standsIfPreached_17 rfl (lv_at hl 1 rfl) ?_
      refine lv_iload_n hx hb dX8_standsIfPreached_18 rfl (lv_at hl 3 rfl) ?_
      refine lv_ishr hx hb dX8_standsIfPreached_19 ?_
      refine lv_iconst (v := 1) hx hb dX8_standsIfPreached_20 (by decide) ?_
      refine lv_iand hx hb dX8_standsIfPreached_21 ?_
      refine lv_iconst (v := 1) hx hb dX8_standsIfPreached_22 (by decide) ?_
      refine lv_icmp_ne (tgt := 36) hx hb dX8_standsIfPreached_23 (by decide) (fun c5 => ?_) (fun c5 => ?_)
      · replace hf := if_f c5 hf
        exact hJ36 _ _ _ _ ls hf hG (lv_sub hl [0, 1, 2, 3] rfl)
      · replace hf := if_t c5 hf
        refine lv_aload_n hx hb dX8_standsIfPreached_26 rfl (lv_at hl 0 rfl) ?_
        refine g_getR F hG 10 ct_0 (by decide) (by decide) lk_X8_20 rfl dX8_standsIfPreached_27 ?_
        refine lv_iload_n hx hb dX8_standsIfPreached_30 rfl (lv_at hl 3 rfl) ?_
        refine lv_bipush (v := 10) hx hb dX8_standsIfPreached_31 (by decide) ?_
        replace hf := bd_some hf
        obtain ⟨q6, eq6, hf⟩ := hf
        refine gx_callv hG (gx_runV (xn_ok (yc_ok w)) F hX hG (c_X4_addFaith l w (yc_ok w) n 10 st_10 x3 (10 : Int32) _ _ eq6) cv_X8_216 ⟨Nat.le_of_ble_eq_true rfl, Nat.le_of_ble_eq_true rfl⟩ (g_recv F hG st_10.1 (by decide) rfl) rfl hl.1 rfl (Nat.le_of_ble_eq_true rfl) dX8_standsIfPreached_33 ⟨Nat.le_refl _, Nat.le_refl _⟩) (fun H locs hG => ?_)
        exact hJ36 _ _ _ _ ls hf hG (lv_sub hl [0, 1, 2, 3] rfl)
  unfold f_X8_standsIfPreached at hf
  refine lv_aload_n hx hb dX8_standsIfPreached_0 rfl (lv_at hl 0 rfl) ?_
  replace hf := bd_some hf
  obtain ⟨q7, eq7, hf⟩ := hf
  refine gx_callv hG (gx_runV (xn_ok (yc_ok w)) F hX hG (c_X8_startTrial l w  n   _ _ eq7) cv_X8_237 ⟨Nat.le_of_ble_eq_true rfl, Nat.le_of_ble_eq_true rfl⟩ (g_recv F hG ct_0 (by decide) rfl) rfl hl.1 rfl (Nat.le_of_ble_eq_true rfl) dX8_standsIfPreached_1 ⟨Nat.le_refl _, Nat.le_refl _⟩) (fun H locs hG => ?_)
  refine lv_iconst (v := 0) hx hb dX8_standsIfPreached_4 (by decide) ?_
  refine lv_istore_n (lv' := [(3, .int (0 : Int32)), (0, .ref (w.2.2.1 0)), (1, .int x1), (2, .int x2)]) hx hb dX8_standsIfPreached_5 rfl hl (by decide) rfl (fun ls hl => ?_)
  exact hJ6 _ _ _ _ _ _ ls hf hG (lv_sub hl [1, 2, 3, 0] rfl)
