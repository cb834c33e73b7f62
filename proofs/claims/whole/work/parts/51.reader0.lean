def f_J0_isLatin1_aae02 (n : Nat) (k0 : Nat) (M : Mem) : Option (Int32 × Mem) := if (1 : Int32) = 0 then (some ((0 : Int32), M)) else (if (0 : Int32) = 0 then (some ((1 : Int32), M)) else (some ((0 : Int32), M)))
set_option maxHeartbeats 4000000 in
set_option maxRecDepth 100000 in
theorem c_J0_isLatin1_aae02 (l : Launch) (w : Wd)  (n : Nat) (k0 : Nat) (hk0 : k0 < 23) (M : Mem) (res : Int32 × Mem) (hf : f_J0_isLatin1_aae02 n k0  M = some res) : CG l w layC 61 (XN (YC w)) yJ0_isLatin1_aae02 cJ0_isLatin1_aae02 1 (some .boolean) 0 [.ref (w.2.2.2 (100 + k0))] M (GQi w layC 61 res) := by
  refine cg_start (by decide +kernel) (Nat.le_of_ble_eq_true rfl) ?_
  intro p e s m args below meth c F hr hlk hX hG ls hl
  have F : FX w p m c cJ0_isLatin1_aae02 1 s args RJ0 := F
  obtain ⟨y1, y2, y3, y4, y5, y6, y7, y8, y9, y10, y11, y12⟩ := hX.2.2.2
  have hx := F.1.1
  have hb := F.1.2.1
  have hl : lv_has ls 1 [(0, .ref (w.2.2.2 (100 + k0)))] := hl
  unfold f_J0_isLatin1_aae02 at hf
  refine va_gets hx hb y10 hG.2.2 F.1.2.2.2.1 (F.1.2.2.2.2 _ m_712) (fun _ h9 => h9) dJ0_isLatin1_aae02_0 ?_
  refine lv_if_eq (tgt := 17) hx hb dJ0_isLatin1_aae02_3 (by decide) (fun c1 => ?_) (fun c1 => ?_)
  · replace hf := if_t c1 hf
    refine lv_iconst (v := 0) hx hb dJ0_isLatin1_aae02_17 (by decide) ?_
    exact cg_zret F hr hlk hG hf (Or.inl rfl) dJ0_isLatin1_aae02_18
  · replace hf := if_f c1 hf
    refine lv_aload_n hx hb dJ0_isLatin1_aae02_6 rfl (lv_at hl 0 rfl) ?_
    refine vk_getf hx hb (y3.1 _ hk0).2.1 hG.2.2 F.1.2.2.2.1 (F.1.2.2.2.2 _ m_1950) (fun _ h9 => h9) dJ0_isLatin1_aae02_7 ?_
    refine lv_if_ne (tgt := 17) hx hb dJ0_isLatin1_aae02_10 (by decide) (fun c2 => ?_) (fun c2 => ?_)
    · replace hf := if_f c2 hf
      refine lv_iconst (v := 0) hx hb dJ0_isLatin1_aae02_17 (by decide) ?_
      exact cg_zret F hr hlk hG hf (Or.inl rfl) dJ0_isLatin1_aae02_18
    · replace hf := if_t c2 hf
      refine lv_iconst (v := 1) hx hb dJ0_isLatin1_aae02_13 (by decide) ?_
      refine lv_goto (tgt := 18) hx hb dJ0_isLatin1_aae02_14 (by decide) ?_
      exact cg_zret F hr hlk hG hf (Or.inr rfl) dJ0_isLatin1_aae02_18

def f_J0_coder_7d493 (n : Nat) (k0 : Nat) (M : Mem) : Option (Int32 × Mem) := if (1 : Int32) = 0 then (some ((1 : Int32), M)) else (some ((0 : Int32), M))
set_option maxHeartbeats 4000000 in
set_option maxRecDepth 100000 in
theorem c_J0_coder_7d493 (l : Launch) (w : Wd)  (n : Nat) (k0 : Nat) (hk0 : k0 < 23) (M : Mem) (res : Int32 × Mem) (hf : f_J0_coder_7d493 n k0  M = some res) : CG l w layC 61 (XN (YC w)) yJ0_coder_7d493 cJ0_coder_7d493 1 (some .byte) 0 [.ref (w.2.2.2 (100 + k0))] M (GQi w layC 61 res) := by
  refine cg_start (by decide +kernel) (Nat.le_of_ble_eq_true rfl) ?_
  intro p e s m args below meth c F hr hlk hX hG ls hl
  have F : FX w p m c cJ0_coder_7d493 1 s args RJ0 := F
  obtain ⟨y1, y2, y3, y4, y5, y6, y7, y8, y9, y10, y11, y12⟩ := hX.2.2.2
  have hx := F.1.1
  have hb := F.1.2.1
  have hl : lv_has ls 1 [(0, .ref (w.2.2.2 (100 + k0)))] := hl
  unfold f_J0_coder_7d493 at hf
  refine va_gets hx hb y10 hG.2.2 F.1.2.2.2.1 (F.1.2.2.2.2 _ m_712) (fun _ h9 => h9) dJ0_coder_7d493_0 ?_
  refine lv_if_eq (tgt := 13) hx hb dJ0_coder_7d493_3 (by decide) (fun c1 => ?_) (fun c1 => ?_)
  · replace hf := if_t c1 hf
    refine lv_iconst (v := 1) hx hb dJ0_coder_7d493_13 (by decide) ?_
    exact cg_tret F hr hlk hG hf (by decide) dJ0_coder_7d493_14
  · replace hf := if_f c1 hf
    refine lv_aload_n hx hb dJ0_coder_7d493_6 rfl (lv_at hl 0 rfl) ?_
    refine vk_getf hx hb (y3.1 _ hk0).2.1 hG.2.2 F.1.2.2.2.1 (F.1.2.2.2.2 _ m_1950) (fun _ h9 => h9) dJ0_coder_7d493_7 ?_
    refine lv_goto (tgt := 14) hx hb dJ0_coder_7d493_10 (by decide) ?_
    exact cg_tret F hr hlk hG hf (by decide) dJ0_coder_7d493_14

def f_J0_length_8abf5 (n : Nat) (k0 : Nat) (M : Mem) : Option (Int32 × Mem) := bd (f_J0_coder_7d493 n k0  M) (fun q1 => some (((nI (sLen.getD k0 0)) >>> (q1.1 &&& 31)), q1.2))
set_option maxHeartbeats 4000000 in
set_option maxRecDepth 100000 in
theorem c_J0_length_8abf5 (l : Launch) (w : Wd)  (n : Nat) (k0 : Nat) (hk0 : k0 < 23) (M : Mem) (res : Int32 × Mem) (hf : f_J0_length_8abf5 n k0  M = some res) : CG l w layC 61 (XN (YC w)) yJ0_length_8abf5 cJ0_length_8abf5 1 (some .int) 1 [.ref (w.2.2.2 (100 + k0))] M (GQi w layC 61 res) := by
  refine cg_start (by decide +kernel) (Nat.le_of_ble_eq_true rfl) ?_
  intro p e s m args below meth c F hr hlk hX hG ls hl
  have F : FX w p m c cJ0_length_8abf5 1 s args RJ0 := F
  obtain ⟨y1, y2, y3, y4, y5, y6, y7, y8, y9, y10, y11, y12⟩ := hX.2.2.2
  have hx := F.1.1
  have hb := F.1.2.1
  have hl : lv_has ls 1 [(0, .ref (w.2.2.2 (100 + k0)))] := hl
  unfold f_J0_length_8abf5 at hf
  refine lv_aload_n hx hb dJ0_length_8abf5_0 rfl (lv_at hl 0 rfl) ?_
  refine vk_getf hx hb (y3.1 _ hk0).2.2.1 hG.2.2 F.1.2.2.2.1 (F.1.2.2.2.2 _ m_1951) (fun _ h9 => h9) dJ0_length_8abf5_1 ?_
  refine va_tlen (v := nI (sLen.getD k0 0)) hx hb (y3.1 _ hk0).2.2.2 hG.2.2 rfl dJ0_length_8abf5_4 ?_
  refine lv_aload_n hx hb dJ0_length_8abf5_5 rfl (lv_at hl 0 rfl) ?_
  replace hf := bd_some hf
  obtain ⟨q1, eq1, hf⟩ := hf
  refine gx_calli hG (gx_runV (xn_ok (yc_ok w)) F hX hG (c_J0_coder_7d493 l w  n k0 hk0  _ _ eq1) cv_J0_335 ⟨Nat.le_of_ble_eq_true rfl, Nat.le_of_ble_eq_true rfl⟩ (vk_recv (i := k0) y3 hk0 hG.2.2) rfl hl.1 rfl (Nat.le_of_ble_eq_true rfl) dJ0_length_8abf5_6 ⟨Nat.le_refl _, Nat.le_refl _⟩) (fun H locs hG => ?_)
  refine lv_ishr hx hb dJ0_length_8abf5_9 ?_
  exact cg_iret F hr hlk hG hf dJ0_length_8abf5_10

def f_Jx29ce0_ordinal_8abf5 (n : Nat) (e0 : Nat) (M : Mem) : Option (Int32 × Mem) := some ((wOr.getD e0 0), M)
set_option maxHeartbeats 4000000 in
set_option maxRecDepth 100000 in
theorem c_Jx29ce0_ordinal_8abf5 (l : Launch) (w : Wd)  (n : Nat) (e0 : Nat) (he0 : e0 < 22) (M : Mem) (res : Int32 × Mem) (hf : f_Jx29ce0_ordinal_8abf5 n e0  M = some res) : CG l w layC 61 (XN (YC w)) yJx29ce0_ordinal_8abf5 cJx29ce0_ordinal_8abf5 1 (some .int) 0 [.ref (w.2.2.2 e0)] M (GQi w layC 61 res) := by
  refine cg_start (by decide +kernel) (Nat.le_of_ble_eq_true rfl) ?_
  intro p e s m args below meth c F hr hlk hX hG ls hl
  have F : FX w p m c cJx29ce0_ordinal_8abf5 1 s args RJx29ce0 := F
  obtain ⟨y1, y2, y3, y4, y5, y6, y7, y8, y9, y10, y11, y12⟩ := hX.2.2.2
  have hx := F.1.1
  have hb := F.1.2.1
  have hl : lv_has ls 1 [(0, .ref (w.2.2.2 e0))] := hl
  unfold f_Jx29ce0_ordinal_8abf5 at hf
  refine lv_aload_n hx hb dJx29ce0_ordinal_8abf5_0 rfl (lv_at hl 0 rfl) ?_
  refine va_getE (q := ("java/lang/Enum", "ordinal", "I", wOr)) hx hb y1 he0 hG.2.2 F.1.2.2.2.1 (by decide) (F.1.2.2.2.2 _ m_1953) (fun _ h9 => h9) dJx29ce0_ordinal_8abf5_1 ?_
  exact cg_iret F hr hlk hG hf dJx29ce0_ordinal_8abf5_4

def j_J3_checkIndex_8e157_9 (n : Nat) (x0 : Int32) (x1 : Int32) (M : Mem) : Option (Int32 × Mem) := none
def f_J3_checkIndex_8e157 (n : Nat) (x0 : Int32) (x1 : Int32) (M : Mem) : Option (Int32 × Mem) := if x0 < 0 then (j_J3_checkIndex_8e157_9 n  x0 x1 M) else (if x0 < x1 then (some (x0, M)) else (j_J3_checkIndex_8e157_9 n  x0 x1 M))
set_option maxHeartbeats 4000000 in
set_option maxRecDepth 100000 in
theorem c_J3_checkIndexN (l : Launch) (w : Wd)  (n : Nat) (x0 : Int32) (x1 : Int32) (M : Mem) (res : Int32 × Mem) (hf : f_J3_checkIndex_8e157 n  x0 x1 M = some res) : CG l w layC 61 (XN (YC w)) yJ3_checkIndex_8e157 cJ3_checkIndex_8e157 3 (some .int) 0 [.int x0, .int x1, .null] M (GQi w layC 61 res) := by
  refine cg_start (by decide +kernel) (Nat.le_of_ble_eq_true rfl) ?_
  intro p e s m args below meth c F hr hlk hX hG ls hl
  have F : FX w p m c cJ3_checkIndex_8e157 3 s args RJ3 := F
  have hx := F.1.1
  have hb := F.1.2.1
  have hl : lv_has ls 3 [(0, .int x0), (1, .int x1), (2, .null)] := hl
  have hJ9 : ∀ (x0 : Int32) (x1 : Int32) (M : Mem) (H : Heap) (locs : List Loc) (ls : Array Slot), j_J3_checkIndex_8e157_9 n  x0 x1 M = some res → GI w layC 61 s.heap M H locs → lv_has ls 3 [(0, .int x0), (1, .int x1), (2, .null)] → W p l e (Rm 0) s m args below meth c H locs 0 0 (MQ below (GQi w layC 61 res s.heap.size) args s 0 0 (gA w.2.2.1 61 s.heap.size)) (F0 m 9 ls []) := by
    intro x0 x1 M H locs ls hf hG hl
    unfold j_J3_checkIndex_8e157_9 at hf
    cases hf
  unfold f_J3_checkIndex_8e157 at hf
  refine lv_iload_n hx hb dJ3_checkIndex_8e157_0 rfl (lv_at hl 0 rfl) ?_
  refine lv_if_lt (tgt := 9) hx hb dJ3_checkIndex_8e157_1 (by decide) (fun c1 => ?_) (fun c1 => ?_)
  · replace hf := if_t c1 hf
    exact hJ9 _ _ _ _ _ ls hf hG (lv_sub hl [0, 1, 2] rfl)
  · replace hf := if_f c1 hf
    refine lv_iload_n hx hb dJ3_checkIndex_8e157_4 rfl (lv_at hl 0 rfl) ?_
    refine lv_iload_n hx hb dJ3_checkIndex_8e157_5 rfl (lv_at hl 1 rfl) ?_
    refine lv_icmp_lt (tgt := 16) hx hb dJ3_checkIndex_8e157_6 (by decide) (fun c2 => ?_) (fun c2 => ?_)
    · replace hf := if_t c2 hf
      refine lv_iload_n hx hb dJ3_checkIndex_8e157_16 rfl (lv_at hl 0 rfl) ?_
      exact cg_iret F hr hlk hG hf dJ3_checkIndex_8e157_17
    · replace hf := if_f c2 hf
      exact hJ9 _ _ _ _ _ ls hf hG (lv_sub hl [0, 1, 2] rfl)
set_option maxHeartbeats 4000000 in
set_option maxRecDepth 100000 in
theorem c_J3_checkIndexR (l : Launch) (w : Wd)  (n : Nat) (v2 : Nat) (x0 : Int32) (x1 : Int32) (M : Mem) (res : Int32 × Mem) (hf : f_J3_checkIndex_8e157 n x0 x1 M = some res) : CG l w layC 61 (XN (YC w)) yJ3_checkIndex_8e157 cJ3_checkIndex_8e157 3 (some .int) 0 [.int x0, .int x1, (.ref v2)] M (GQi w layC 61 res) := by
  refine cg_start (by decide +kernel) (Nat.le_of_ble_eq_true rfl) ?_
  intro p e s m args below meth c F hr hlk hX hG ls hl
  have F : FX w p m c cJ3_checkIndex_8e157 3 s args RJ3 := F
  have hx := F.1.1
  have hb := F.1.2.1
  have hl : lv_has ls 3 [(0, .int x0), (1, .int x1), (2, (.ref v2))] := hl
  have hJ9 : ∀ (x0 : Int32) (x1 : Int32) (M : Mem) (H : Heap) (locs : List Loc) (ls : Array Slot), j_J3_checkIndex_8e157_9 n x0 x1 M = some res → GI w layC 61 s.heap M H locs → lv_has ls 3 [(0, .int x0), (1, .int x1), (2, (.ref v2))] → W p l e (Rm 0) s m args below meth c H locs 0 0 (MQ below (GQi w layC 61 res s.heap.size) args s 0 0 (gA w.2.2.1 61 s.heap.size)) (F0 m 9 ls []) := by
    intro x0 x1 M H locs ls hf hG hl
    unfold j_J3_checkIndex_8e157_9 at hf
    cases hf
  unfold f_J3_checkIndex_8e157 at hf
  refine lv_iload_n hx hb dJ3_checkIndex_8e157_0 rfl (lv_at hl 0 rfl) ?_
  refine lv_if_lt (tgt := 9) hx hb dJ3_checkIndex_8e157_1 (by decide) (fun c1 => ?_) (fun c1 => ?_)
  · replace hf := if_t c1 hf
    exact hJ9 _ _ _ _ _ ls hf hG (lv_sub hl [0, 1, 2] rfl)
  · replace hf := if_f c1 hf
    refine lv_iload_n hx hb dJ3_checkIndex_8e157_4 rfl (lv_at hl 0 rfl) ?_
    refine lv_iload_n hx hb dJ3_checkIndex_8e157_5 rfl (lv_at hl 1 rfl) ?_
    refine lv_icmp_lt (tgt := 16) hx hb dJ3_checkIndex_8e157_6 (by decide) (fun c2 => ?_) (fun c2 => ?_)
    · replace hf := if_t c2 hf
      refine lv_iload_n hx hb dJ3_checkIndex_8e157_16 rfl (lv_at hl 0 rfl) ?_
      exact cg_iret F hr hlk hG hf dJ3_checkIndex_8e157_17
    · replace hf := if_f c2 hf
      exact hJ9 _ _ _ _ _ ls hf hG (lv_sub hl [0, 1, 2] rfl)

def f_J0_checkIndex_df160 (n : Nat) (x0 : Int32) (x1 : Int32) (M : Mem) : Option (Mem) := bd (f_J3_checkIndex_8e157 n x0 x1 M) (fun q1 => some q1.2)
set_option maxHeartbeats 4000000 in
set_option maxRecDepth 100000 in
theorem c_J0_checkIndex_df160 (l : Launch) (w : Wd) (n : Nat) (x0 : Int32) (x1 : Int32) (M : Mem) (res : Mem) (hf : f_J0_checkIndex_df160 n x0 x1 M = some res) : CG l w layC 61 (XN (YC w)) yJ0_checkIndex_df160 cJ0_checkIndex_df160 2 none 1 [.int x0, .int x1] M (GQv w layC 61 res) := by
  refine cg_start (by decide +kernel) (Nat.le_of_ble_eq_true rfl) ?_
  intro p e s m args below meth c F hr hlk hX hG ls hl
  have F : FX w p m c cJ0_checkIndex_df160 2 s args RJ0 := F
  obtain ⟨y1, y2, y3, y4, y5, y6, y7, y8, y9, y10, y11, y12⟩ := hX.2.2.2
  have hx := F.1.1
  have hb := F.1.2.1
  have hl : lv_has ls 2 [(0, .int x0), (1, .int x1)] := hl
  unfold f_J0_checkIndex_df160 at hf
  refine lv_iload_n hx hb dJ0_checkIndex_df160_0 rfl (lv_at hl 0 rfl) ?_
  refine lv_iload_n hx hb dJ0_checkIndex_df160_1 rfl (lv_at hl 1 rfl) ?_
  replace hf := bd_some hf
  obtain ⟨q1, eq1, hf⟩ := hf
  rcases y12 with hz | ⟨t9, hz⟩
  · refine va_gets hx hb hz hG.2.2 F.1.2.2.2.1 (F.1.2.2.2.2 _ m_753) (fun _ h9 => h9) dJ0_checkIndex_df160_2 ?_
    refine gx_calli hG (gx_runS (xn_ok (yc_ok w)) F hX hG (c_J3_checkIndexN l w n x0 x1 _ _ eq1) cs_J0_1059 ⟨Nat.le_of_ble_eq_true rfl, Nat.le_of_ble_eq_true rfl⟩ rfl hl.1 rfl (Nat.le_of_ble_eq_true rfl) dJ0_checkIndex_df160_5 ⟨Nat.le_refl _, Nat.le_refl _⟩) (fun H locs hG => ?_)
    refine lv_pop hx hb dJ0_checkIndex_df160_8 rfl ?_
    exact cg_vret F hr hlk hG hf dJ0_checkIndex_df160_9
  · refine va_gets hx hb hz hG.2.2 F.1.2.2.2.1 (F.1.2.2.2.2 _ m_753) (fun _ h9 => h9) dJ0_checkIndex_df160_2 ?_
    refine gx_calli hG (gx_runS (xn_ok (yc_ok w)) F hX hG (c_J3_checkIndexR l w n t9 x0 x1 _ _ eq1) cs_J0_1059 ⟨Nat.le_of_ble_eq_true rfl, Nat.le_of_ble_eq_true rfl⟩ rfl hl.1 rfl (Nat.le_of_ble_eq_true rfl) dJ0_checkIndex_df160_5 ⟨Nat.le_refl _, Nat.le_refl _⟩) (fun H locs hG => ?_)
    refine lv_pop hx hb dJ0_checkIndex_df160_8 rfl ?_
    exact cg_vret F hr hlk hG hf dJ0_checkIndex_df160_9

def f_J1_charAt_3b067 (n : Nat) (k0 : Nat) (x1 : Int32) (M : Mem) : Option (Int32 × Mem) := bd (f_J0_checkIndex_df160 n  x1 (nI (sLen.getD k0 0)) M) (fun q1 => ck (inb x1 (sLen.getD k0 0)) (some (((((sByt.getD k0 []).getD x1.toNatClampNeg 0) &&& (255 : Int32)).toUInt32 % 65536).toInt32, q1)))
set_option maxHeartbeats 4000000 in
set_option maxRecDepth 100000 in
theorem c_J1_charAt_3b067 (l : Launch) (w : Wd)  (n : Nat) (k0 : Nat) (hk0 : k0 < 23) (x1 : Int32) (M : Mem) (res : Int32 × Mem) (hf : f_J1_charAt_3b067 n k0 x1 M = some res) : CG l w layC 61 (XN (YC w)) yJ1_charAt_3b067 cJ1_charAt_3b067 2 (some .char) 2 [.ref (w.2.2.2 (200 + k0)), .int x1] M (GQi w layC 61 res) := by
  refine cg_start (by decide +kernel) (Nat.le_of_ble_eq_true rfl) ?_
  intro p e s m args below meth c F hr hlk hX hG ls hl
  have F : FX w p m c cJ1_charAt_3b067 2 s args RJ1 := F
  obtain ⟨y1, y2, y3, y4, y5, y6, y7, y8, y9, y10, y11, y12⟩ := hX.2.2.2
  have hx := F.1.1
  have hb := F.1.2.1
  have hl : lv_has ls 2 [(0, .ref (w.2.2.2 (200 + k0))), (1, .int x1)] := hl
  unfold f_J1_charAt_3b067 at hf
  refine lv_iload_n hx hb dJ1_charAt_3b067_0 rfl (lv_at hl 1 rfl) ?_
  refine lv_aload_n hx hb dJ1_charAt_3b067_1 rfl (lv_at hl 0 rfl) ?_
  refine va_tlen (v := nI (sLen.getD k0 0)) hx hb (y3.1 _ hk0).2.2.2 hG.2.2 rfl dJ1_charAt_3b067_2 ?_
  replace hf := bd_some hf
  obtain ⟨q1, eq1, hf⟩ := hf
  refine gx_callv hG (gx_runS (xn_ok (yc_ok w)) F hX hG (c_J0_checkIndex_df160 l w  n  x1 (nI (sLen.getD k0 0)) _ _ eq1) cs_J1_9 ⟨Nat.le_of_ble_eq_true rfl, Nat.le_of_ble_eq_true rfl⟩ rfl hl.1 rfl (Nat.le_of_ble_eq_true rfl) dJ1_charAt_3b067_3 ⟨Nat.le_refl _, Nat.le_refl _⟩) (fun H locs hG => ?_)
  refine lv_aload_n hx hb dJ1_charAt_3b067_6 rfl (lv_at hl 0 rfl) ?_
  refine lv_iload_n hx hb dJ1_charAt_3b067_7 rfl (lv_at hl 1 rfl) ?_
  replace hf := ck_some hf
  obtain ⟨k2, hf⟩ := hf
  refine va_tb hx hb (y3.1 _ hk0).2.2.2 hG.2.2 k2 rfl dJ1_charAt_3b067_8 ?_
  refine lv_sipush (v := 255) hx hb dJ1_charAt_3b067_9 (by decide) ?_
  refine lv_iand hx hb dJ1_charAt_3b067_12 ?_
  refine lv_i2c hx hb dJ1_charAt_3b067_13 rfl ?_
  exact cg_tret F hr hlk hG hf (pk_nc _) dJ1_charAt_3b067_14

def f_J0_charAt_5068e (n : Nat) (k0 : Nat) (x1 : Int32) (M : Mem) : Option (Int32 × Mem) := bd (f_J0_isLatin1_aae02 n k0  M) (fun q1 => if q1.1 = 0 then (none) else (bd (f_J1_charAt_3b067 n k0 x1 q1.2) (fun q3 => ck (narrow .char (.int q3.1) = .int q3.1) (some (q3.1, q3.2)))))
set_option maxHeartbeats 4000000 in
set_option maxRecDepth 100000 in
theorem c_J0_charAt_5068e (l : Launch) (w : Wd)  (n : Nat) (k0 : Nat) (hk0 : k0 < 23) (x1 : Int32) (M : Mem) (res : Int32 × Mem) (hf : f_J0_charAt_5068e n k0 x1 M = some res) : CG l w layC 61 (XN (YC w)) yJ0_charAt_5068e cJ0_charAt_5068e 2 (some .char) 3 [.ref (w.2.2.2 (100 + k0)), .int x1] M (GQi w layC 61 res) := by
  refine cg_start (by decide +kernel) (Nat.le_of_ble_eq_true rfl) ?_
  intro p e s m args below meth c F hr hlk hX hG ls hl
  have F : FX w p m c cJ0_charAt_5068e 2 s args RJ0 := F
  obtain ⟨y1, y2, y3, y4, y5, y6, y7, y8, y9, y10, y11, y12⟩ := hX.2.2.2
  have hx := F.1.1
  have hb := F.1.2.1
  have hl : lv_has ls 2 [(0, .ref (w.2.2.2 (100 + k0))), (1, .int x1)] := hl
  unfold f_J0_charAt_5068e at hf
  refine lv_aload_n hx hb dJ0_charAt_5068e_0 rfl (lv_at hl 0 rfl) ?_
  replace hf := bd_some hf
  obtain ⟨q1, eq1, hf⟩ := hf
  refine gx_calli hG (gx_runV (xn_ok (yc_ok w)) F hX hG (c_J0_isLatin1_aae02 l w  n k0 hk0  _ _ eq1) cv_J0_492 ⟨Nat.le_of_ble_eq_true rfl, Nat.le_of_ble_eq_true rfl⟩ (vk_recv (i := k0) y3 hk0 hG.2.2) rfl hl.1 rfl (Nat.le_of_ble_eq_true rfl) dJ0_charAt_5068e_1 ⟨Nat.le_refl _, Nat.le_refl _⟩) (fun H locs hG => ?_)
  refine lv_if_eq (tgt := 16) hx hb dJ0_charAt_5068e_4 (by decide) (fun c2 => ?_) (fun c2 => ?_)
  · replace hf := if_t c2 hf
    refine lv_aload_n hx hb dJ0_charAt_5068e_16 rfl (lv_at hl 0 rfl) ?_
    refine vk_getf hx hb (y3.1 _ hk0).2.2.1 hG.2.2 F.1.2.2.2.1 (F.1.2.2.2.2 _ m_1951) (fun _ h9 => h9) dJ0_charAt_5068e_17 ?_
    refine lv_iload_n hx hb dJ0_charAt_5068e_20 rfl (lv_at hl 1 rfl) ?_
    cases hf
  · replace hf := if_f c2 hf
    refine lv_aload_n hx hb dJ0_charAt_5068e_7 rfl (lv_at hl 0 rfl) ?_
    refine vk_getf hx hb (y3.1 _ hk0).2.2.1 hG.2.2 F.1.2.2.2.1 (F.1.2.2.2.2 _ m_1951) (fun _ h9 => h9) dJ0_charAt_5068e_8 ?_
    refine lv_iload_n hx hb dJ0_charAt_5068e_11 rfl (lv_at hl 1 rfl) ?_
    replace hf := bd_some hf
    obtain ⟨q3, eq3, hf⟩ := hf
    refine gx_calli hG (gx_runS (xn_ok (yc_ok w)) F hX hG (c_J1_charAt_3b067 l w  n k0 hk0 x1 _ _ eq3) cs_J0_495 ⟨Nat.le_of_ble_eq_true rfl, Nat.le_of_ble_eq_true rfl⟩ rfl hl.1 rfl (Nat.le_of_ble_eq_true rfl) dJ0_charAt_5068e_12 ⟨Nat.le_refl _, Nat.le_refl _⟩) (fun H locs hG => ?_)
    replace hf := ck_some hf
    obtain ⟨k4, hf⟩ := hf
    exact cg_tret F hr hlk hG hf k4 dJ0_charAt_5068e_15

def f_J1_canEncode_9a6ad (n : Nat) (x0 : Int32) (M : Mem) : Option (Int32 × Mem) := if x0 < 0 then (some ((0 : Int32), M)) else (if (255 : Int32) < x0 then (some ((0 : Int32), M)) else (some ((1 : Int32), M)))
set_option maxHeartbeats 4000000 in
set_option maxRecDepth 100000 in
theorem c_J1_canEncode_9a6ad (l : Launch) (w : Wd)  (n : Nat) (x0 : Int32) (M : Mem) (res : Int32 × Mem) (hf : f_J1_canEncode_9a6ad n  x0 M = some res) : CG l w layC 61 (XN (YC w)) yJ1_canEncode_9a6ad cJ1_canEncode_9a6ad 1 (some .boolean) 0 [.int x0] M (GQi w layC 61 res) := by
  refine cg_start (by decide +kernel) (Nat.le_of_ble_eq_true rfl) ?_
  intro p e s m args below meth c F hr hlk hX hG ls hl
  have F : FX w p m c cJ1_canEncode_9a6ad 1 s args RJ1 := F
  have hx := F.1.1
  have hb := F.1.2.1
  have hl : lv_has ls 1 [(0, .int x0)] := hl
  unfold f_J1_canEncode_9a6ad at hf
  refine lv_iload_n hx hb dJ1_canEncode_9a6ad_0 rfl (lv_at hl 0 rfl) ?_
  refine lv_if_lt (tgt := 15) hx hb dJ1_canEncode_9a6ad_1 (by decide) (fun c1 => ?_) (fun c1 => ?_)
  · replace hf := if_t c1 hf
    refine lv_iconst (v := 0) hx hb dJ1_canEncode_9a6ad_15 (by decide) ?_
    exact cg_zret F hr hlk hG hf (Or.inl rfl) dJ1_canEncode_9a6ad_16
  · replace hf := if_f c1 hf
    refine lv_iload_n hx hb dJ1_canEncode_9a6ad_4 rfl (lv_at hl 0 rfl) ?_
    refine lv_sipush (v := 255) hx hb dJ1_canEncode_9a6ad_5 (by decide) ?_
    refine lv_icmp_gt (tgt := 15) hx hb dJ1_canEncode_9a6ad_8 (by decide) (fun c2 => ?_) (fun c2 => ?_)
    · replace hf := if_t c2 hf
      refine lv_iconst (v := 0) hx hb dJ1_canEncode_9a6ad_15 (by decide) ?_
      exact cg_zret F hr hlk hG hf (Or.inl rfl) dJ1_canEncode_9a6ad_16
    · replace hf := if_f c2 hf
      refine lv_iconst (v := 1) hx hb dJ1_canEncode_9a6ad_11 (by decide) ?_
      refine lv_goto (tgt := 16) hx hb dJ1_canEncode_9a6ad_12 (by decide) ?_
      exact cg_zret F hr hlk hG hf (Or.inr rfl) dJ1_canEncode_9a6ad_16

def b_J1_indexOfChar_4cfef_7 (n : Nat) (k0 : Nat) (x3 : Int32) (x4 : Int32) (q : (Int32 × Mem)) : Option ((Int32 × Mem) ⊕ (Int32 × Mem)) := match q with
  | (x5, M) => if x3 ≤ x5 then (mr (some ((-1 : Int32), M))) else (ck (inb x5 (sLen.getD k0 0)) (if ((sByt.getD k0 []).getD x5.toNatClampNeg 0) = x4 then (mr (some (x5, M))) else (some (.inl ((x5 + (1 : Int32)), M)))))
def f_J1_indexOfChar_4cfef (n : Nat) (k0 : Nat) (x1 : Int32) (x2 : Int32) (x3 : Int32) (M : Mem) : Option (Int32 × Mem) := gl (b_J1_indexOfChar_4cfef_7 n k0 x3 x1.toInt8.toInt32) n (x2, M)
set_option maxHeartbeats 4000000 in
set_option maxRecDepth 100000 in
theorem c_J1_indexOfChar_4cfef (l : Launch) (w : Wd)  (n : Nat) (k0 : Nat) (hk0 : k0 < 23) (x1 : Int32) (x2 : Int32) (x3 : Int32) (M : Mem) (res : Int32 × Mem) (hf : f_J1_indexOfChar_4cfef n k0 x1 x2 x3 M = some res) : CG l w layC 61 (XN (YC w)) yJ1_indexOfChar_4cfef cJ1_indexOfChar_4cfef 6 (some .int) 0 [.ref (w.2.2.2 (200 + k0)), .int x1, .int x2, .int x3] M (GQi w layC 61 res) := by
  refine cg_start (by decide +kernel) (Nat.le_of_ble_eq_true rfl) ?_
  intro p e s m args below meth c F hr hlk hX hG ls hl
  have F : FX w p m c cJ1_indexOfChar_4cfef 6 s args RJ1 := F
  obtain ⟨y1, y2, y3, y4, y5, y6, y7, y8, y9, y10, y11, y12⟩ := hX.2.2.2
  have hx := F.1.1
  have hb := F.1.2.1
  have hl : lv_has ls 6 [(0, .ref (w.2.2.2 (200 + k0))), (1, .int x1), (2, .int x2), (3, .int x3)] := hl
  have hJ7 : ∀ (x3 : Int32) (x4 : Int32) (x5 : Int32) (M : Mem) (H : Heap) (locs : List Loc) (ls : Array Slot), gl (b_J1_indexOfChar_4cfef_7 n k0 x3 x4) n (x5, M) = some res → GI w layC 61 s.heap M H locs → lv_has ls 6 [(0, .ref (w.2.2.2 (200 + k0))), (3, .int x3), (4, .int x4), (5, .int x5)] → W p l e (Rm 0) s m args below meth c H locs 0 0 (MQ below (GQi w layC 61 res s.heap.size) args s 0 0 (gA w.2.2.1 61 s.heap.size)) (F0 m 7 ls []) := by
    intro x3 x4 x5 M H locs ls hf hG hl
    refine gl_run (P := fun (q : (Int32 × Mem)) => ∀ (H : Heap) (locs : List Loc) (ls : Array Slot), GI w layC 61 s.heap q.2 H locs → lv_has ls 6 [(0, .ref (w.2.2.2 (200 + k0))), (3, .int x3), (4, .int x4), (5, .int q.1)] → W p l e (Rm 0) s m args below meth c H locs 0 0 (MQ below (GQi w layC 61 res s.heap.size) args s 0 0 (gA w.2.2.1 61 s.heap.size)) (F0 m 7 ls [])) ?_ n (x5, M) hf H locs ls hG hl
    clear hf hG hl ls locs H M x5
    rintro ⟨x5, M⟩ rr7 hf hI7 hE7 H locs ls hG hl
    try dsimp only at hG hl ⊢
    dsimp only [b_J1_indexOfChar_4cfef_7] at hf
    refine lv_iload hx hb dJ1_indexOfChar_4cfef_7 (lv_at hl 3 rfl) ?_
    refine lv_iload_n hx hb dJ1_indexOfChar_4cfef_9 rfl (lv_at hl 1 rfl) ?_
    refine lv_icmp_ge (tgt := 31) hx hb dJ1_indexOfChar_4cfef_10 (by decide) (fun c1 => ?_) (fun c1 => ?_)
    · replace hf := if_t c1 hf
      refine lv_iconst (v := -1) hx hb dJ1_indexOfChar_4cfef_31 (by decide) ?_
      replace hf := mr_some hf
      obtain ⟨z7, hf, hz⟩ := hf
      rw [hE7 _ hz] at hf
      exact cg_iret F hr hlk hG hf dJ1_indexOfChar_4cfef_32
    · replace hf := if_f c1 hf
      refine lv_aload_n hx hb dJ1_indexOfChar_4cfef_13 rfl (lv_at hl 0 rfl) ?_
      refine lv_iload hx hb dJ1_indexOfChar_4cfef_14 (lv_at hl 3 rfl) ?_
      replace hf := ck_some hf
      obtain ⟨k2, hf⟩ := hf
      refine va_tb hx hb (y3.1 _ hk0).2.2.2 hG.2.2 k2 rfl dJ1_indexOfChar_4cfef_16 ?_
      refine lv_iload hx hb dJ1_indexOfChar_4cfef_17 (lv_at hl 2 rfl) ?_
      refine lv_icmp_ne (tgt := 25) hx hb dJ1_indexOfChar_4cfef_19 (by decide) (fun c3 => ?_) (fun c3 => ?_)
      · replace hf := if_f c3 hf
        refine lv_iinc (v := (x5 + (1 : Int32))) (lv' := [(5, .int (x5 + (1 : Int32))), (0, .ref (w.2.2.2 (200 + k0))), (3, .int x3), (4, .int x4)]) hx hb dJ1_indexOfChar_4cfef_25 hl (k := 3) rfl rfl (by decide) rfl (fun ls hl => ?_)
        refine lv_goto (tgt := 7) hx hb dJ1_indexOfChar_4cfef_28 (by decide) ?_
        exact hI7 _ (Option.some.inj hf).symm _ _ ls hG (lv_sub hl [1, 2, 3, 0] rfl)
      · replace hf := if_t c3 hf
        refine lv_iload hx hb dJ1_indexOfChar_4cfef_22 (lv_at hl 3 rfl) ?_
        replace hf := mr_some hf
        obtain ⟨z7, hf, hz⟩ := hf
        rw [hE7 _ hz] at hf
        exact cg_iret F hr hlk hG hf dJ1_indexOfChar_4cfef_24
  unfold f_J1_indexOfChar_4cfef at hf
  refine lv_iload_n hx hb dJ1_indexOfChar_4cfef_0 rfl (lv_at hl 1 rfl) ?_
  refine lv_i2b hx hb dJ1_indexOfChar_4cfef_1 rfl ?_
  refine lv_istore (lv' := [(4, .int x1.toInt8.toInt32), (0, .ref (w.2.2.2 (200 + k0))), (1, .int x1), (2, .int x2), (3, .int x3)]) hx hb dJ1_indexOfChar_4cfef_2 hl (by decide) rfl (fun ls hl => ?_)
  refine lv_iload_n hx hb dJ1_indexOfChar_4cfef_4 rfl (lv_at hl 3 rfl) ?_
  refine lv_istore (lv' := [(5, .int x2), (4, .int x1.toInt8.toInt32), (0, .ref (w.2.2.2 (200 + k0))), (1, .int x1), (2, .int x2), (3, .int x3)]) hx hb dJ1_indexOfChar_4cfef_5 hl (by decide) rfl (fun ls hl => ?_)
  exact hJ7 _ _ _ _ _ _ ls hf hG (lv_sub hl [2, 5, 1, 0] rfl)

def f_J1_indexOf_4cfef (n : Nat) (k0 : Nat) (x1 : Int32) (x2 : Int32) (x3 : Int32) (M : Mem) : Option (Int32 × Mem) := bd (f_J1_canEncode_9a6ad n  x1 M) (fun q1 => if q1.1 = 0 then (some ((-1 : Int32), q1.2)) else (bd (f_J9_max_7cf53 n  x2 (0 : Int32) q1.2) (fun q3 => bd (f_J9_min_7cf53 n  x3 (nI (sLen.getD k0 0)) q3.2) (fun q4 => if q3.1 < q4.1 then (bd (f_J1_indexOfChar_4cfef n k0 x1 q3.1 q4.1 q4.2) (fun q6 => some (q6.1, q6.2))) else (some ((-1 : Int32), q4.2))))))
set_option maxHeartbeats 4000000 in
set_option maxRecDepth 100000 in
theorem c_J1_indexOf_4cfef (l : Launch) (w : Wd)  (n : Nat) (k0 : Nat) (hk0 : k0 < 23) (x1 : Int32) (x2 : Int32) (x3 : Int32) (M : Mem) (res : Int32 × Mem) (hf : f_J1_indexOf_4cfef n k0 x1 x2 x3 M = some res) : CG l w layC 61 (XN (YC w)) yJ1_indexOf_4cfef cJ1_indexOf_4cfef 4 (some .int) 1 [.ref (w.2.2.2 (200 + k0)), .int x1, .int x2, .int x3] M (GQi w layC 61 res) := by
  refine cg_start (by decide +kernel) (Nat.le_of_ble_eq_true rfl) ?_
  intro p e s m args below meth c F hr hlk hX hG ls hl
  have F : FX w p m c cJ1_indexOf_4cfef 4 s args RJ1 := F
  obtain ⟨y1, y2, y3, y4, y5, y6, y7, y8, y9, y10, y11, y12⟩ := hX.2.2.2
  have hx := F.1.1
  have hb := F.1.2.1
  have hl : lv_has ls 4 [(0, .ref (w.2.2.2 (200 + k0))), (1, .int x1), (2, .int x2), (3, .int x3)] := hl
  unfold f_J1_indexOf_4cfef at hf
  refine lv_iload_n hx hb dJ1_indexOf_4cfef_0 rfl (lv_at hl 1 rfl) ?_
  replace hf := bd_some hf
  obtain ⟨q1, eq1, hf⟩ := hf
  refine gx_calli hG (gx_runS (xn_ok (yc_ok w)) F hX hG (c_J1_canEncode_9a6ad l w  n  x1 _ _ eq1) cs_J1_88 ⟨Nat.le_of_ble_eq_true rfl, Nat.le_of_ble_eq_true rfl⟩ rfl hl.1 rfl (Nat.le_of_ble_eq_true rfl) dJ1_indexOf_4cfef_1 ⟨Nat.le_refl _, Nat.le_refl _⟩) (fun H locs hG => ?_)
  refine lv_if_ne (tgt := 9) hx hb dJ1_indexOf_4cfef_4 (by decide) (fun c2 => ?_) (fun c2 => ?_)
  · replace hf := if_f c2 hf
    refine lv_iload_n hx hb dJ1_indexOf_4cfef_9 rfl (lv_at hl 2 rfl) ?_
    refine lv_iconst (v := 0) hx hb dJ1_indexOf_4cfef_10 (by decide) ?_
    replace hf := bd_some hf
    obtain ⟨q3, eq3, hf⟩ := hf
    refine gx_calli hG (gx_runS (xn_ok (yc_ok w)) F hX hG (c_J9_max_7cf53 l w (yc_ok w) n  x2 (0 : Int32) _ _ eq3) cs_J1_92 ⟨Nat.le_of_ble_eq_true rfl, Nat.le_of_ble_eq_true rfl⟩ rfl hl.1 rfl (Nat.le_of_ble_eq_true rfl) dJ1_indexOf_4cfef_11 ⟨Nat.le_refl _, Nat.le_refl _⟩) (fun H locs hG => ?_)
    refine lv_istore_n (lv' := [(2, .int q3.1), (0, .ref (w.2.2.2 (200 + k0))), (1, .int x1), (3, .int x3)]) hx hb dJ1_indexOf_4cfef_14 rfl hl (by decide) rfl (fun ls hl => ?_)
    refine lv_iload_n hx hb dJ1_indexOf_4cfef_15 rfl (lv_at hl 3 rfl) ?_
    refine lv_aload_n hx hb dJ1_indexOf_4cfef_16 rfl (lv_at hl 1 rfl) ?_
    refine va_tlen (v := nI (sLen.getD k0 0)) hx hb (y3.1 _ hk0).2.2.2 hG.2.2 rfl dJ1_indexOf_4cfef_17 ?_
    replace hf := bd_some hf
    obtain ⟨q4, eq4, hf⟩ := hf
    refine gx_calli hG (gx_runS (xn_ok (yc_ok w)) F hX hG (c_J9_min_7cf53 l w (yc_ok w) n  x3 (nI (sLen.getD k0 0)) _ _ eq4) cs_J1_38 ⟨Nat.le_of_ble_eq_true rfl, Nat.le_of_ble_eq_true rfl⟩ rfl hl.1 rfl (Nat.le_of_ble_eq_true rfl) dJ1_indexOf_4cfef_18 ⟨Nat.le_refl _, Nat.le_refl _⟩) (fun H locs hG => ?_)
    refine lv_istore_n (lv' := [(3, .int q4.1), (2, .int q3.1), (0, .ref (w.2.2.2 (200 + k0))), (1, .int x1)]) hx hb dJ1_indexOf_4cfef_21 rfl hl (by decide) rfl (fun ls hl => ?_)
    refine lv_iload_n hx hb dJ1_indexOf_4cfef_22 rfl (lv_at hl 1 rfl) ?_
    refine lv_iload_n hx hb dJ1_indexOf_4cfef_23 rfl (lv_at hl 0 rfl) ?_
    refine lv_icmp_lt (tgt := 29) hx hb dJ1_indexOf_4cfef_24 (by decide) (fun c5 => ?_) (fun c5 => ?_)
    · replace hf := if_t c5 hf
      refine lv_aload_n hx hb dJ1_indexOf_4cfef_29 rfl (lv_at hl 2 rfl) ?_
      refine lv_iload_n hx hb dJ1_indexOf_4cfef_30 rfl (lv_at hl 3 rfl) ?_
      refine lv_iload_n hx hb dJ1_indexOf_4cfef_31 rfl (lv_at hl 1 rfl) ?_
      refine lv_iload_n hx hb dJ1_indexOf_4cfef_32 rfl (lv_at hl 0 rfl) ?_
      replace hf := bd_some hf
      obtain ⟨q6, eq6, hf⟩ := hf
      refine gx_calli hG (gx_runS (xn_ok (yc_ok w)) F hX hG (c_J1_indexOfChar_4cfef l w  n k0 hk0 x1 q3.1 q4.1 _ _ eq6) cs_J1_95 ⟨Nat.le_of_ble_eq_true rfl, Nat.le_of_ble_eq_true rfl⟩ rfl hl.1 rfl (Nat.le_of_ble_eq_true rfl) dJ1_indexOf_4cfef_33 ⟨Nat.le_refl _, Nat.le_refl _⟩) (fun H locs hG => ?_)
      exact cg_iret F hr hlk hG hf dJ1_indexOf_4cfef_36
    · replace hf := if_f c5 hf
      refine lv_iconst (v := -1) hx hb dJ1_indexOf_4cfef_27 (by decide) ?_
      exact cg_iret F hr hlk hG hf dJ1_indexOf_4cfef_28
  · replace hf := if_t c2 hf
    refine lv_iconst (v := -1) hx hb dJ1_indexOf_4cfef_7 (by decide) ?_
    exact cg_iret F hr hlk hG hf dJ1_indexOf_4cfef_8

def f_J0_indexOf_7cf53 (n : Nat) (k0 : Nat) (x1 : Int32) (x2 : Int32) (M : Mem) : Option (Int32 × Mem) := bd (f_J0_isLatin1_aae02 n k0  M) (fun q1 => if q1.1 = 0 then (bd (f_J0_length_8abf5 n k0  q1.2) (fun q3 => none)) else (bd (f_J0_length_8abf5 n k0  q1.2) (fun q4 => bd (f_J1_indexOf_4cfef n k0 x1 x2 q4.1 q4.2) (fun q5 => some (q5.1, q5.2)))))
set_option maxHeartbeats 4000000 in
set_option maxRecDepth 100000 in
theorem c_J0_indexOf_7cf53 (l : Launch) (w : Wd)  (n : Nat) (k0 : Nat) (hk0 : k0 < 23) (x1 : Int32) (x2 : Int32) (M : Mem) (res : Int32 × Mem) (hf : f_J0_indexOf_7cf53 n k0 x1 x2 M = some res) : CG l w layC 61 (XN (YC w)) yJ0_indexOf_7cf53 cJ0_indexOf_7cf53 3 (some .int) 2 [.ref (w.2.2.2 (100 + k0)), .int x1, .int x2] M (GQi w layC 61 res) := by
  refine cg_start (by decide +kernel) (Nat.le_of_ble_eq_true rfl) ?_
  intro p e s m args below meth c F hr hlk hX hG ls hl
  have F : FX w p m c cJ0_indexOf_7cf53 3 s args RJ0 := F
  obtain ⟨y1, y2, y3, y4, y5, y6, y7, y8, y9, y10, y11, y12⟩ := hX.2.2.2
  have hx := F.1.1
  have hb := F.1.2.1
  have hl : lv_has ls 3 [(0, .ref (w.2.2.2 (100 + k0))), (1, .int x1), (2, .int x2)] := hl
  unfold f_J0_indexOf_7cf53 at hf
  refine lv_aload_n hx hb dJ0_indexOf_7cf53_0 rfl (lv_at hl 0 rfl) ?_
  replace hf := bd_some hf
  obtain ⟨q1, eq1, hf⟩ := hf
  refine gx_calli hG (gx_runV (xn_ok (yc_ok w)) F hX hG (c_J0_isLatin1_aae02 l w  n k0 hk0  _ _ eq1) cv_J0_492 ⟨Nat.le_of_ble_eq_true rfl, Nat.le_of_ble_eq_true rfl⟩ (vk_recv (i := k0) y3 hk0 hG.2.2) rfl hl.1 rfl (Nat.le_of_ble_eq_true rfl) dJ0_indexOf_7cf53_1 ⟨Nat.le_refl _, Nat.le_refl _⟩) (fun H locs hG => ?_)
  refine lv_if_eq (tgt := 23) hx hb dJ0_indexOf_7cf53_4 (by decide) (fun c2 => ?_) (fun c2 => ?_)
  · replace hf := if_t c2 hf
    refine lv_aload_n hx hb dJ0_indexOf_7cf53_23 rfl (lv_at hl 0 rfl) ?_
    refine vk_getf hx hb (y3.1 _ hk0).2.2.1 hG.2.2 F.1.2.2.2.1 (F.1.2.2.2.2 _ m_1951) (fun _ h9 => h9) dJ0_indexOf_7cf53_24 ?_
    refine lv_iload_n hx hb dJ0_indexOf_7cf53_27 rfl (lv_at hl 1 rfl) ?_
    refine lv_iload_n hx hb dJ0_indexOf_7cf53_28 rfl (lv_at hl 2 rfl) ?_
    refine lv_aload_n hx hb dJ0_indexOf_7cf53_29 rfl (lv_at hl 0 rfl) ?_
    replace hf := bd_some hf
    obtain ⟨q3, eq3, hf⟩ := hf
    refine gx_calli hG (gx_runV (xn_ok (yc_ok w)) F hX hG (c_J0_length_8abf5 l w  n k0 hk0  _ _ eq3) cv_J0_505 ⟨Nat.le_of_ble_eq_true rfl, Nat.le_of_ble_eq_true rfl⟩ (vk_recv (i := k0) y3 hk0 hG.2.2) rfl hl.1 rfl (Nat.le_of_ble_eq_true rfl) dJ0_indexOf_7cf53_30 ⟨Nat.le_refl _, Nat.le_refl _⟩) (fun H locs hG => ?_)
    cases hf
  · replace hf := if_f c2 hf
    refine lv_aload_n hx hb dJ0_indexOf_7cf53_7 rfl (lv_at hl 0 rfl) ?_
    refine vk_getf hx hb (y3.1 _ hk0).2.2.1 hG.2.2 F.1.2.2.2.1 (F.1.2.2.2.2 _ m_1951) (fun _ h9 => h9) dJ0_indexOf_7cf53_8 ?_
    refine lv_iload_n hx hb dJ0_indexOf_7cf53_11 rfl (lv_at hl 1 rfl) ?_
    refine lv_iload_n hx hb dJ0_indexOf_7cf53_12 rfl (lv_at hl 2 rfl) ?_
    refine lv_aload_n hx hb dJ0_indexOf_7cf53_13 rfl (lv_at hl 0 rfl) ?_
    replace hf := bd_some hf
    obtain ⟨q4, eq4, hf⟩ := hf
    refine gx_calli hG (gx_runV (xn_ok (yc_ok w)) F hX hG (c_J0_length_8abf5 l w  n k0 hk0  _ _ eq4) cv_J0_505 ⟨Nat.le_of_ble_eq_true rfl, Nat.le_of_ble_eq_true rfl⟩ (vk_recv (i := k0) y3 hk0 hG.2.2) rfl hl.1 rfl (Nat.le_of_ble_eq_true rfl) dJ0_indexOf_7cf53_14 ⟨Nat.le_refl _, Nat.le_refl _⟩) (fun H locs hG => ?_)
    replace hf := bd_some hf
    obtain ⟨q5, eq5, hf⟩ := hf
    refine gx_calli hG (gx_runS (xn_ok (yc_ok w)) F hX hG (c_J1_indexOf_4cfef l w  n k0 hk0 x1 x2 q4.1 _ _ eq5) cs_J0_637 ⟨Nat.le_of_ble_eq_true rfl, Nat.le_of_ble_eq_true rfl⟩ rfl hl.1 rfl (Nat.le_of_ble_eq_true rfl) dJ0_indexOf_7cf53_17 ⟨Nat.le_refl _, Nat.le_refl _⟩) (fun H locs hG => ?_)
    refine lv_goto (tgt := 36) hx hb dJ0_indexOf_7cf53_20 (by decide) ?_
    exact cg_iret F hr hlk hG hf dJ0_indexOf_7cf53_36

def f_J0_indexOf_0f7a4 (n : Nat) (k0 : Nat) (x1 : Int32) (M : Mem) : Option (Int32 × Mem) := bd (f_J0_indexOf_7cf53 n k0 x1 (0 : Int32) M) (fun q1 => some (q1.1, q1.2))
set_option maxHeartbeats 4000000 in
set_option maxRecDepth 100000 in
theorem c_J0_indexOf_0f7a4 (l : Launch) (w : Wd)  (n : Nat) (k0 : Nat) (hk0 : k0 < 23) (x1 : Int32) (M : Mem) (res : Int32 × Mem) (hf : f_J0_indexOf_0f7a4 n k0 x1 M = some res) : CG l w layC 61 (XN (YC w)) yJ0_indexOf_0f7a4 cJ0_indexOf_0f7a4 2 (some .int) 3 [.ref (w.2.2.2 (100 + k0)), .int x1] M (GQi w layC 61 res) := by
  refine cg_start (by decide +kernel) (Nat.le_of_ble_eq_true rfl) ?_
  intro p e s m args below meth c F hr hlk hX hG ls hl
  have F : FX w p m c cJ0_indexOf_0f7a4 2 s args RJ0 := F
  obtain ⟨y1, y2, y3, y4, y5, y6, y7, y8, y9, y10, y11, y12⟩ := hX.2.2.2
  have hx := F.1.1
  have hb := F.1.2.1
  have hl : lv_has ls 2 [(0, .ref (w.2.2.2 (100 + k0))), (1, .int x1)] := hl
  unfold f_J0_indexOf_0f7a4 at hf
  refine lv_aload_n hx hb dJ0_indexOf_0f7a4_0 rfl (lv_at hl 0 rfl) ?_
  refine lv_iload_n hx hb dJ0_indexOf_0f7a4_1 rfl (lv_at hl 1 rfl) ?_
  refine lv_iconst (v := 0) hx hb dJ0_indexOf_0f7a4_2 (by decide) ?_
  replace hf := bd_some hf
  obtain ⟨q1, eq1, hf⟩ := hf
  refine gx_calli hG (gx_runV (xn_ok (yc_ok w)) F hX hG (c_J0_indexOf_7cf53 l w  n k0 hk0 x1 (0 : Int32) _ _ eq1) cv_J0_633 ⟨Nat.le_of_ble_eq_true rfl, Nat.le_of_ble_eq_true rfl⟩ (vk_recv (i := k0) y3 hk0 hG.2.2) rfl hl.1 rfl (Nat.le_of_ble_eq_true rfl) dJ0_indexOf_0f7a4_3 ⟨Nat.le_refl _, Nat.le_refl _⟩) (fun H locs hG => ?_)
  exact cg_iret F hr hlk hG hf dJ0_indexOf_0f7a4_6

def j_X7_of_81 (n : Nat) (x3 : Int32) (M : Mem) : Option (Nat × Mem) := ck (inb x3 22) (some (x3.toNatClampNeg, M))
def j_X7_of_93 (n : Nat) (M : Mem) : Option (Nat × Mem) := some (21, M)
def j_X7_of_87 (n : Nat) (x1 : Int32) (x2 : Int32) (x3 : Int32) (M : Mem) : Option ((Int32 × Mem) ⊕ (Nat × Mem)) := some (.inl ((x3 + (1 : Int32)), M))
def j_X7_of_63 (n : Nat) (x1 : Int32) (x2 : Int32) (x3 : Int32) (x4 : Nat) (x5 : Int32) (M : Mem) : Option ((Int32 × Mem) ⊕ (Nat × Mem)) := bd (f_J0_length_8abf5 n x4  M) (fun q2 => if x5 = q2.1 then (if (x1 + x5) = x2 then (mr (j_X7_of_81 n  x3 q2.2)) else (j_X7_of_87 n  x1 x2 x3 q2.2)) else (j_X7_of_87 n  x1 x2 x3 q2.2))
def b_X7_of_23 (n : Nat) (x1 : Int32) (x2 : Int32) (x3 : Int32) (x4 : Nat) (q : (Int32 × Mem)) : Option ((Int32 × Mem) ⊕ ((Int32 × Mem) ⊕ (Nat × Mem))) := match q with
  | (x5, M) => bd (f_J0_length_8abf5 n x4  M) (fun q5 => if q5.1 ≤ x5 then (mr (j_X7_of_63 n  x1 x2 x3 x4 x5 q5.2)) else (if x2 ≤ (x1 + x5) then (mr (j_X7_of_63 n  x1 x2 x3 x4 x5 q5.2)) else (bd (f_J0_charAt_5068e n x4 x5 q5.2) (fun q8 => ck (inb (x1 + x5) 700) (if q8.1 = (gi q8.2 45 (x1 + x5).toNatClampNeg) then (some (.inl ((x5 + (1 : Int32)), q8.2))) else (mr (j_X7_of_63 n  x1 x2 x3 x4 x5 q8.2)))))))
def b_X7_of_2 (n : Nat) (x1 : Int32) (x2 : Int32) (q : (Int32 × Mem)) : Option ((Int32 × Mem) ⊕ (Nat × Mem)) := match q with
  | (x3, M) => if (22 : Int32) ≤ x3 then (mr (j_X7_of_93 n  M)) else (ck (inb x3 22) (gl (b_X7_of_23 n  x1 x2 x3 x3.toNatClampNeg) n ((0 : Int32), M)))
def f_X7_of (n : Nat) (x1 : Int32) (x2 : Int32) (M : Mem) : Option (Nat × Mem) := gl (b_X7_of_2 n  x1 x2) n ((0 : Int32), M)
set_option maxHeartbeats 4000000 in
set_option maxRecDepth 100000 in
theorem c_X7_of (l : Launch) (w : Wd)  (n : Nat) (x1 : Int32) (x2 : Int32) (M : Mem) (res : Nat × Mem) (hf : f_X7_of n  x1 x2 M = some res) : CG l w layC 61 (XN (YC w)) yX7_of cX7_of 6 (some (.object "CockTower$Word")) 4 [.ref (w.2.2.1 45), .int x1, .int x2] M (GQe w layC 61 res) := by
  refine cg_start (by decide +kernel) (Nat.le_of_ble_eq_true rfl) ?_
  intro p e s m args below meth c F hr hlk hX hG ls hl
  have F : FX w p m c cX7_of 6 s args RX7 := F
  obtain ⟨y1, y2, y3, y4, y5, y6, y7, y8, y9, y10, y11, y12⟩ := hX.2.2.2
  have hx := F.1.1
  have hb := F.1.2.1
  have hl : lv_has ls 6 [(0, .ref (w.2.2.1 45)), (1, .int x1), (2, .int x2)] := hl
  have hJ81 : ∀ (x3 : Int32) (M : Mem) (H : Heap) (locs : List Loc) (ls : Array Slot), j_X7_of_81 n  x3 M = some res → GI w layC 61 s.heap M H locs → lv_has ls 6 [(3, .int x3)] → W p l e (Rm 4) s m args below meth c H locs 0 0 (MQ below (GQe w layC 61 res s.heap.size) args s 0 0 (gA w.2.2.1 61 s.heap.size)) (F0 m 81 ls []) := by
    intro x3 M H locs ls hf hG hl
    unfold j_X7_of_81 at hf
    refine va_gets hx hb y4 hG.2.2 F.1.2.2.2.1 (F.1.2.2.2.2 _ m_787) (fun _ h9 => h9) dX7_of_81 ?_
    refine lv_iload_n hx hb dX7_of_84 rfl (lv_at hl 0 rfl) ?_
    replace hf := ck_some hf
    obtain ⟨k1, hf⟩ := hf
    refine vb_tq hx hb y5 hG.2.2 k1 rfl dX7_of_85 ?_
    exact cg_aretE F hr hlk hG hf dX7_of_86
  have hJ93 : ∀ (M : Mem) (H : Heap) (locs : List Loc) (ls : Array Slot), j_X7_of_93 n   M = some res → GI w layC 61 s.heap M H locs → lv_has ls 6 [] → W p l e (Rm 4) s m args below meth c H locs 0 0 (MQ below (GQe w layC 61 res s.heap.size) args s 0 0 (gA w.2.2.1 61 s.heap.size)) (F0 m 93 ls []) := by
    intro  M H locs ls hf hG hl
    unfold j_X7_of_93 at hf
    refine va_gets hx hb (y1.1 21 (by decide)).1 hG.2.2 F.1.2.2.2.1 (F.1.2.2.2.2 _ m_810) (fun _ h9 => h9) dX7_of_93 ?_
    exact cg_aretE F hr hlk hG hf dX7_of_96
  have hJ2 : ∀ (x1 : Int32) (x2 : Int32) (x3 : Int32) (M : Mem) (H : Heap) (locs : List Loc) (ls : Array Slot), gl (b_X7_of_2 n  x1 x2) n (x3, M) = some res → GI w layC 61 s.heap M H locs → lv_has ls 6 [(0, .ref (w.2.2.1 45)), (1, .int x1), (2, .int x2), (3, .int x3)] → W p l e (Rm 4) s m args below meth c H locs 0 0 (MQ below (GQe w layC 61 res s.heap.size) args s 0 0 (gA w.2.2.1 61 s.heap.size)) (F0 m 2 ls []) := by
    intro x1 x2 x3 M H locs ls hf hG hl
    refine gl_run (P := fun (q : (Int32 × Mem)) => ∀ (H : Heap) (locs : List Loc) (ls : Array Slot), GI w layC 61 s.heap q.2 H locs → lv_has ls 6 [(0, .ref (w.2.2.1 45)), (1, .int x1), (2, .int x2), (3, .int q.1)] → W p l e (Rm 4) s m args below meth c H locs 0 0 (MQ below (GQe w layC 61 res s.heap.size) args s 0 0 (gA w.2.2.1 61 s.heap.size)) (F0 m 2 ls [])) ?_ n (x3, M) hf H locs ls hG hl
    clear hf hG hl ls locs H M x3
    rintro ⟨x3, M⟩ rr2 hf hI2 hE2 H locs ls hG hl
    try dsimp only at hG hl ⊢
    have hJ87 : ∀ (x3 : Int32) (M : Mem) (H : Heap) (locs : List Loc) (ls : Array Slot), j_X7_of_87 n  x1 x2 x3 M = some rr2 → GI w layC 61 s.heap M H locs → lv_has ls 6 [(0, .ref (w.2.2.1 45)), (1, .int x1), (2, .int x2), (3, .int x3)] → W p l e (Rm 4) s m args below meth c H locs 0 0 (MQ below (GQe w layC 61 res s.heap.size) args s 0 0 (gA w.2.2.1 61 s.heap.size)) (F0 m 87 ls []) := by
      intro x3 M H locs ls hf hG hl
      unfold j_X7_of_87 at hf
      refine lv_iinc (v := (x3 + (1 : Int32))) (lv' := [(3, .int (x3 + (1 : Int32))), (0, .ref (w.2.2.1 45)), (1, .int x1), (2, .int x2)]) hx hb dX7_of_87 hl (k := 3) rfl rfl (by decide) rfl (fun ls hl => ?_)
      refine lv_goto (tgt := 2) hx hb dX7_of_90 (by decide) ?_
      exact hI2 _ (Option.some.inj hf).symm _ _ ls hG (lv_sub hl [1, 2, 3, 0] rfl)
    have hJ63 : ∀ (x3 : Int32) (x4 : Nat) (hx4 : x4 < 23) (x5 : Int32) (M : Mem) (H : Heap) (locs : List Loc) (ls : Array Slot), j_X7_of_63 n  x1 x2 x3 x4 x5 M = some rr2 → GI w layC 61 s.heap M H locs → lv_has ls 6 [(0, .ref (w.2.2.1 45)), (1, .int x1), (2, .int x2), (3, .int x3), (4, .ref (w.2.2.2 (100 + x4))), (5, .int x5)] → W p l e (Rm 4) s m args below meth c H locs 0 0 (MQ below (GQe w layC 61 res s.heap.size) args s 0 0 (gA w.2.2.1 61 s.heap.size)) (F0 m 63 ls []) := by
      intro x3 x4 hx4 x5 M H locs ls hf hG hl
      unfold j_X7_of_63 at hf
      refine lv_iload hx hb dX7_of_63 (lv_at hl 5 rfl) ?_
      refine lv_aload hx hb dX7_of_65 (lv_at hl 4 rfl) ?_
      replace hf := bd_some hf
      obtain ⟨q2, eq2, hf⟩ := hf
      refine gx_calli hG (gx_runV (xn_ok (yc_ok w)) F hX hG (c_J0_length_8abf5 l w  n x4 hx4  _ _ eq2) cv_X7_102 ⟨Nat.le_of_ble_eq_true rfl, Nat.le_of_ble_eq_true rfl⟩ (vk_recv (i := x4) y3 hx4 hG.2.2) rfl hl.1 rfl (Nat.le_of_ble_eq_true rfl) dX7_of_67 ⟨Nat.le_refl _, Nat.le_refl _⟩) (fun H locs hG => ?_)
      refine lv_icmp_ne (tgt := 87) hx hb dX7_of_70 (by decide) (fun c3 => ?_) (fun c3 => ?_)
      · replace hf := if_f c3 hf
        exact hJ87 _ _ _ _ ls hf hG (lv_sub hl [0, 1, 2, 3] rfl)
      · replace hf := if_t c3 hf
        refine lv_iload_n hx hb dX7_of_73 rfl (lv_at hl 1 rfl) ?_
        refine lv_iload hx hb dX7_of_74 (lv_at hl 5 rfl) ?_
        refine lv_iadd hx hb dX7_of_76 ?_
        refine lv_iload_n hx hb dX7_of_77 rfl (lv_at hl 2 rfl) ?_
        refine lv_icmp_ne (tgt := 87) hx hb dX7_of_78 (by decide) (fun c4 => ?_) (fun c4 => ?_)
        · replace hf := if_f c4 hf
          exact hJ87 _ _ _ _ ls hf hG (lv_sub hl [0, 1, 2, 3] rfl)
        · replace hf := if_t c4 hf
          replace hf := mr_some hf
          obtain ⟨z2, hf, hz⟩ := hf
          rw [hE2 _ hz] at hf
          exact hJ81 _ _ _ _ ls hf hG (lv_sub hl [3] rfl)
    have hJ23 : ∀ (x3 : Int32) (x4 : Nat) (hx4 : x4 < 23) (x5 : Int32) (M : Mem) (H : Heap) (locs : List Loc) (ls : Array Slot), gl (b_X7_of_23 n  x1 x2 x3 x4) n (x5, M) = some rr2 → GI w layC 61 s.heap M H locs → lv_has ls 6 [(0, .ref (w.2.2.1 45)), (1, .int x1), (2, .int x2), (3, .int x3), (4, .ref (w.2.2.2 (100 + x4))), (5, .int x5)] → W p l e (Rm 4) s m args below meth c H locs 0 0 (MQ below (GQe w layC 61 res s.heap.size) args s 0 0 (gA w.2.2.1 61 s.heap.size)) (F0 m 23 ls []) := by
      intro x3 x4 hx4 x5 M H locs ls hf hG hl
      refine gl_run (P := fun (q : (Int32 × Mem)) => ∀ (H : Heap) (locs : List Loc) (ls : Array Slot), GI w layC 61 s.heap q.2 H locs → lv_has ls 6 [(0, .ref (w.2.2.1 45)), (1, .int x1), (2, .int x2), (3, .int x3), (4, .ref (w.2.2.2 (100 + x4))), (5, .int q.1)] → W p l e (Rm 4) s m args below meth c H locs 0 0 (MQ below (GQe w layC 61 res s.heap.size) args s 0 0 (gA w.2.2.1 61 s.heap.size)) (F0 m 23 ls [])) ?_ n (x5, M) hf H locs ls hG hl
      clear hf hG hl ls locs H M x5
      rintro ⟨x5, M⟩ rr23 hf hI23 hE23 H locs ls hG hl
      try dsimp only at hG hl ⊢
      dsimp only [b_X7_of_23] at hf
      refine lv_iload hx hb dX7_of_23 (lv_at hl 5 rfl) ?_
      refine lv_aload hx hb dX7_of_25 (lv_at hl 4 rfl) ?_
      replace hf := bd_some hf
      obtain ⟨q5, eq5, hf⟩ := hf
      refine gx_calli hG (gx_runV (xn_ok (yc_ok w)) F hX hG (c_J0_length_8abf5 l w  n x4 hx4  _ _ eq5) cv_X7_102 ⟨Nat.le_of_ble_eq_true rfl, Nat.le_of_ble_eq_true rfl⟩ (vk_recv (i := x4) y3 hx4 hG.2.2) rfl hl.1 rfl (Nat.le_of_ble_eq_true rfl) dX7_of_27 ⟨Nat.le_refl _, Nat.le_refl _⟩) (fun H locs hG => ?_)
      refine lv_icmp_ge (tgt := 63) hx hb dX7_of_30 (by decide) (fun c6 => ?_) (fun c6 => ?_)
      · replace hf := if_t c6 hf
        replace hf := mr_some hf
        obtain ⟨z23, hf, hz⟩ := hf
        rw [hE23 _ hz] at hf
        exact hJ63 _ _ hx4 _ _ _ _ ls hf hG (lv_sub hl [0, 1, 2, 3, 4, 5] rfl)
      · replace hf := if_f c6 hf
        refine lv_iload_n hx hb dX7_of_33 rfl (lv_at hl 1 rfl) ?_
        refine lv_iload hx hb dX7_of_34 (lv_at hl 5 rfl) ?_
        refine lv_iadd hx hb dX7_of_36 ?_
        refine lv_iload_n hx hb dX7_of_37 rfl (lv_at hl 2 rfl) ?_
        refine lv_icmp_ge (tgt := 63) hx hb dX7_of_38 (by decide) (fun c7 => ?_) (fun c7 => ?_)
        · replace hf := if_t c7 hf
          replace hf := mr_some hf
          obtain ⟨z23, hf, hz⟩ := hf
          rw [hE23 _ hz] at hf
          exact hJ63 _ _ hx4 _ _ _ _ ls hf hG (lv_sub hl [0, 1, 2, 3, 4, 5] rfl)
        · replace hf := if_f c7 hf
          refine lv_aload hx hb dX7_of_41 (lv_at hl 4 rfl) ?_
          refine lv_iload hx hb dX7_of_43 (lv_at hl 5 rfl) ?_
          replace hf := bd_some hf
          obtain ⟨q8, eq8, hf⟩ := hf
          refine gx_calli hG (gx_runV (xn_ok (yc_ok w)) F hX hG (c_J0_charAt_5068e l w  n x4 hx4 x5 _ _ eq8) cv_X7_108 ⟨Nat.le_of_ble_eq_true rfl, Nat.le_of_ble_eq_true rfl⟩ (vk_recv (i := x4) y3 hx4 hG.2.2) rfl hl.1 rfl (Nat.le_of_ble_eq_true rfl) dX7_of_45 ⟨Nat.le_refl _, Nat.le_refl _⟩) (fun H locs hG => ?_)
          refine lv_aload_n hx hb dX7_of_48 rfl (lv_at hl 0 rfl) ?_
          refine lv_iload_n hx hb dX7_of_49 rfl (lv_at hl 1 rfl) ?_
          refine lv_iload hx hb dX7_of_50 (lv_at hl 5 rfl) ?_
          refine lv_iadd hx hb dX7_of_52 ?_
          replace hf := ck_some hf
          obtain ⟨k9, hf⟩ := hf
          refine g_bald F hG oC_45 k9 dX7_of_53 ?_
          refine lv_icmp_ne (tgt := 63) hx hb dX7_of_54 (by decide) (fun c10 => ?_) (fun c10 => ?_)
          · replace hf := if_f c10 hf
            replace hf := mr_some hf
            obtain ⟨z23, hf, hz⟩ := hf
            rw [hE23 _ hz] at hf
            exact hJ63 _ _ hx4 _ _ _ _ ls hf hG (lv_sub hl [0, 1, 2, 3, 4, 5] rfl)
          · replace hf := if_t c10 hf
            refine lv_iinc (v := (x5 + (1 : Int32))) (lv' := [(5, .int (x5 + (1 : Int32))), (0, .ref (w.2.2.1 45)), (1, .int x1), (2, .int x2), (3, .int x3), (4, .ref (w.2.2.2 (100 + x4)))]) hx hb dX7_of_57 hl (k := 5) rfl rfl (by decide) rfl (fun ls hl => ?_)
            refine lv_goto (tgt := 23) hx hb dX7_of_60 (by decide) ?_
            exact hI23 _ (Option.some.inj hf).symm _ _ ls hG (lv_sub hl [1, 2, 3, 4, 5, 0] rfl)
    dsimp only [b_X7_of_2] at hf
    refine lv_iload_n hx hb dX7_of_2 rfl (lv_at hl 3 rfl) ?_
    refine va_gets hx hb y4 hG.2.2 F.1.2.2.2.1 (F.1.2.2.2.2 _ m_787) (fun _ h9 => h9) dX7_of_3 ?_
    refine va_tlen (v := 22) hx hb y5 hG.2.2 (by decide) dX7_of_6 ?_
    refine lv_icmp_ge (tgt := 93) hx hb dX7_of_7 (by decide) (fun c11 => ?_) (fun c11 => ?_)
    · replace hf := if_t c11 hf
      replace hf := mr_some hf
      obtain ⟨z2, hf, hz⟩ := hf
      rw [hE2 _ hz] at hf
      exact hJ93  _ _ _ ls hf hG (lv_sub hl [] rfl)
    · replace hf := if_f c11 hf
      refine va_gets hx hb y4 hG.2.2 F.1.2.2.2.1 (F.1.2.2.2.2 _ m_787) (fun _ h9 => h9) dX7_of_10 ?_
      refine lv_iload_n hx hb dX7_of_13 rfl (lv_at hl 3 rfl) ?_
      replace hf := ck_some hf
      obtain ⟨k12, hf⟩ := hf
      refine vb_tq hx hb y5 hG.2.2 k12 rfl dX7_of_14 ?_
      refine va_getX hx hb y2 (inb_lt k12) hG.2.2 F.1.2.2.2.1 (F.1.2.2.2.2 _ m_1952) (fun _ h9 => h9) dX7_of_15 ?_
      refine lv_astore (lv' := [(4, .ref (w.2.2.2 (100 + x3.toNatClampNeg))), (0, .ref (w.2.2.1 45)), (1, .int x1), (2, .int x2), (3, .int x3)]) hx hb dX7_of_18 hl (by decide) rfl (fun ls hl => ?_)
      refine lv_iconst (v := 0) hx hb dX7_of_20 (by decide) ?_
      refine lv_istore (lv' := [(5, .int (0 : Int32)), (4, .ref (w.2.2.2 (100 + x3.toNatClampNeg))), (0, .ref (w.2.2.1 45)), (1, .int x1), (2, .int x2), (3, .int x3)]) hx hb dX7_of_21 hl (by decide) rfl (fun ls hl => ?_)
      exact hJ23 _ _ (Nat.lt_succ_of_lt (inb_lt k12)) _ _ _ _ ls hf hG (lv_sub hl [2, 3, 4, 5, 1, 0] rfl)
  unfold f_X7_of at hf
  refine lv_iconst (v := 0) hx hb dX7_of_0 (by decide) ?_
  refine lv_istore_n (lv' := [(3, .int (0 : Int32)), (0, .ref (w.2.2.1 45)), (1, .int x1), (2, .int x2)]) hx hb dX7_of_1 rfl hl (by decide) rfl (fun ls hl => ?_)
  exact hJ2 _ _ _ _ _ _ ls hf hG (lv_sub hl [1, 2, 3, 0] rfl)

def f_X7_isValueOf (n : Nat) (e0 : Nat) (x1 : Int32) (M : Mem) : Option (Int32 × Mem) := if 0 ≤ (wVl.getD e0 0) then (if (3 : Int32) ≤ (wVl.getD e0 0) then (if x1 = 0 then (if (6 : Int32) ≤ (wVl.getD e0 0) then (some ((0 : Int32), M)) else (some ((1 : Int32), M))) else (if (wVl.getD e0 0) < (6 : Int32) then (some ((0 : Int32), M)) else (some ((1 : Int32), M)))) else (some ((1 : Int32), M))) else (some ((0 : Int32), M))
set_option maxHeartbeats 4000000 in
set_option maxRecDepth 100000 in
theorem c_X7_isValueOf (l : Launch) (w : Wd)  (n : Nat) (e0 : Nat) (he0 : e0 < 22) (x1 : Int32) (M : Mem) (res : Int32 × Mem) (hf : f_X7_isValueOf n e0 x1 M = some res) : CG l w layC 61 (XN (YC w)) yX7_isValueOf cX7_isValueOf 2 (some .boolean) 0 [.ref (w.2.2.2 e0), .int x1] M (GQi w layC 61 res) := by
  refine cg_start (by decide +kernel) (Nat.le_of_ble_eq_true rfl) ?_
  intro p e s m args below meth c F hr hlk hX hG ls hl
  have F : FX w p m c cX7_isValueOf 2 s args RX7 := F
  obtain ⟨y1, y2, y3, y4, y5, y6, y7, y8, y9, y10, y11, y12⟩ := hX.2.2.2
  have hx := F.1.1
  have hb := F.1.2.1
  have hl : lv_has ls 2 [(0, .ref (w.2.2.2 e0)), (1, .int x1)] := hl
  unfold f_X7_isValueOf at hf
  refine lv_aload_n hx hb dX7_isValueOf_0 rfl (lv_at hl 0 rfl) ?_
  refine va_getE (q := ("CockTower$Word", "value", "I", wVl)) hx hb y1 he0 hG.2.2 F.1.2.2.2.1 (by decide) (F.1.2.2.2.2 _ m_1954) (fun _ h9 => h9) dX7_isValueOf_1 ?_
  refine lv_if_ge (tgt := 9) hx hb dX7_isValueOf_4 (by decide) (fun c1 => ?_) (fun c1 => ?_)
  · replace hf := if_t c1 hf
    refine lv_aload_n hx hb dX7_isValueOf_9 rfl (lv_at hl 0 rfl) ?_
    refine va_getE (q := ("CockTower$Word", "value", "I", wVl)) hx hb y1 he0 hG.2.2 F.1.2.2.2.1 (by decide) (F.1.2.2.2.2 _ m_1954) (fun _ h9 => h9) dX7_isValueOf_10 ?_
    refine lv_iconst (v := 3) hx hb dX7_isValueOf_13 (by decide) ?_
    refine lv_icmp_ge (tgt := 19) hx hb dX7_isValueOf_14 (by decide) (fun c2 => ?_) (fun c2 => ?_)
    · replace hf := if_t c2 hf
      refine lv_iload_n hx hb dX7_isValueOf_19 rfl (lv_at hl 1 rfl) ?_
      refine lv_if_ne (tgt := 40) hx hb dX7_isValueOf_20 (by decide) (fun c3 => ?_) (fun c3 => ?_)
      · replace hf := if_f c3 hf
        refine lv_aload_n hx hb dX7_isValueOf_40 rfl (lv_at hl 0 rfl) ?_
        refine va_getE (q := ("CockTower$Word", "value", "I", wVl)) hx hb y1 he0 hG.2.2 F.1.2.2.2.1 (by decide) (F.1.2.2.2.2 _ m_1954) (fun _ h9 => h9) dX7_isValueOf_41 ?_
        refine lv_bipush (v := 6) hx hb dX7_isValueOf_44 (by decide) ?_
        refine lv_icmp_lt (tgt := 53) hx hb dX7_isValueOf_46 (by decide) (fun c5 => ?_) (fun c5 => ?_)
        · replace hf := if_t c5 hf
          refine lv_iconst (v := 0) hx hb dX7_isValueOf_53 (by decide) ?_
          exact cg_zret F hr hlk hG hf (Or.inl rfl) dX7_isValueOf_54
        · replace hf := if_f c5 hf
          refine lv_iconst (v := 1) hx hb dX7_isValueOf_49 (by decide) ?_
          refine lv_goto (tgt := 54) hx hb dX7_isValueOf_50 (by decide) ?_
          exact cg_zret F hr hlk hG hf (Or.inr rfl) dX7_isValueOf_54
      · replace hf := if_t c3 hf
        refine lv_aload_n hx hb dX7_isValueOf_23 rfl (lv_at hl 0 rfl) ?_
        refine va_getE (q := ("CockTower$Word", "value", "I", wVl)) hx hb y1 he0 hG.2.2 F.1.2.2.2.1 (by decide) (F.1.2.2.2.2 _ m_1954) (fun _ h9 => h9) dX7_isValueOf_24 ?_
        refine lv_bipush (v := 6) hx hb dX7_isValueOf_27 (by decide) ?_
        refine lv_icmp_ge (tgt := 36) hx hb dX7_isValueOf_29 (by decide) (fun c4 => ?_) (fun c4 => ?_)
        · replace hf := if_t c4 hf
          refine lv_iconst (v := 0) hx hb dX7_isValueOf_36 (by decide) ?_
          refine lv_goto (tgt := 54) hx hb dX7_isValueOf_37 (by decide) ?_
          exact cg_zret F hr hlk hG hf (Or.inl rfl) dX7_isValueOf_54
        · replace hf := if_f c4 hf
          refine lv_iconst (v := 1) hx hb dX7_isValueOf_32 (by decide) ?_
          refine lv_goto (tgt := 54) hx hb dX7_isValueOf_33 (by decide) ?_
          exact cg_zret F hr hlk hG hf (Or.inr rfl) dX7_isValueOf_54
    · replace hf := if_f c2 hf
      refine lv_iconst (v := 1) hx hb dX7_isValueOf_17 (by decide) ?_
      exact cg_zret F hr hlk hG hf (Or.inr rfl) dX7_isValueOf_18
  · replace hf := if_f c1 hf
    refine lv_iconst (v := 0) hx hb dX7_isValueOf_7 (by decide) ?_
    exact cg_zret F hr hlk hG hf (Or.inl rfl) dX7_isValueOf_8

def b_X2_append_3 (n : Nat) (x1 : Int32) (q : (Int32 × Mem)) : Option ((Int32 × Mem) ⊕ (Mem)) := match q with
  | (x2, M) => if x2 < 0 then (mr (some M)) else (if (700 : Int32) ≤ (gi M 44 3) then (mr (some M)) else (ck (inb (gi M 44 3) 700) (some (.inl ((x2 + (-8 : Int32)), si (si M 45 (gi M 44 3).toNatClampNeg (vp_nar .byte (((x1.toUInt32 >>> (x2.toUInt32 &&& Int32.toUInt32 31)).toInt32).toInt8.toInt32))) 44 3 ((gi (si M 45 (gi M 44 3).toNatClampNeg (vp_nar .byte (((x1.toUInt32 >>> (x2.toUInt32 &&& Int32.toUInt32 31)).toInt32).toInt8.toInt32))) 44 3) + (1 : Int32)))))))
def f_X2_append (n : Nat) (x1 : Int32) (M : Mem) : Option (Mem) := gl (b_X2_append_3 n  x1) n ((24 : Int32), M)
set_option maxHeartbeats 4000000 in
set_option maxRecDepth 100000 in
theorem c_X2_append (l : Launch) (w : Wd)  (n : Nat) (x1 : Int32) (M : Mem) (res : Mem) (hf : f_X2_append n  x1 M = some res) : CG l w layC 61 (XN (YC w)) yX2_append cX2_append 3 none 0 [.ref (w.2.2.1 44), .int x1] M (GQv w layC 61 res) := by
  refine cg_start (by decide +kernel) (Nat.le_of_ble_eq_true rfl) ?_
  intro p e s m args below meth c F hr hlk hX hG ls hl
  have F : FX w p m c cX2_append 3 s args RX2 := F
  have hx := F.1.1
  have hb := F.1.2.1
  have hl : lv_has ls 3 [(0, .ref (w.2.2.1 44)), (1, .int x1)] := hl
  have hJ3 : ∀ (x1 : Int32) (x2 : Int32) (M : Mem) (H : Heap) (locs : List Loc) (ls : Array Slot), gl (b_X2_append_3 n  x1) n (x2, M) = some res → GI w layC 61 s.heap M H locs → lv_has ls 3 [(0, .ref (w.2.2.1 44)), (1, .int x1), (2, .int x2)] → W p l e (Rm 0) s m args below meth c H locs 0 0 (MQ below (GQv w layC 61 res s.heap.size) args s 0 0 (gA w.2.2.1 61 s.heap.size)) (F0 m 3 ls []) := by
    intro x1 x2 M H locs ls hf hG hl
    refine gl_run (P := fun (q : (Int32 × Mem)) => ∀ (H : Heap) (locs : List Loc) (ls : Array Slot), GI w layC 61 s.heap q.2 H locs → lv_has ls 3 [(0, .ref (w.2.2.1 44)), (1, .int x1), (2, .int q.1)] → W p l e (Rm 0) s m args below meth c H locs 0 0 (MQ below (GQv w layC 61 res s.heap.size) args s 0 0 (gA w.2.2.1 61 s.heap.size)) (F0 m 3 ls [])) ?_ n (x2, M) hf H locs ls hG hl
    clear hf hG hl ls locs H M x2
    rintro ⟨x2, M⟩ rr3 hf hI3 hE3 H locs ls hG hl
    try dsimp only at hG hl ⊢
    dsimp only [b_X2_append_3] at hf
    refine lv_iload_n hx hb dX2_append_3 rfl (lv_at hl 2 rfl) ?_
    refine lv_if_lt (tgt := 46) hx hb dX2_append_4 (by decide) (fun c1 => ?_) (fun c1 => ?_)
    · replace hf := if_t c1 hf
      replace hf := mr_some hf
      obtain ⟨z3, hf, hz⟩ := hf
      rw [hE3 _ hz] at hf
      exact cg_vret F hr hlk hG hf dX2_append_46
    · replace hf := if_f c1 hf
      refine lv_aload_n hx hb dX2_append_7 rfl (lv_at hl 0 rfl) ?_
      refine g_getI F hG rd_44 (by decide) (by decide) lk_X2_29 rfl dX2_append_8 ?_
      refine lv_sipush (v := 700) hx hb dX2_append_11 (by decide) ?_
      refine lv_icmp_ge (tgt := 46) hx hb dX2_append_14 (by decide) (fun c2 => ?_) (fun c2 => ?_)
      · replace hf := if_t c2 hf
        replace hf := mr_some hf
        obtain ⟨z3, hf, hz⟩ := hf
        rw [hE3 _ hz] at hf
        exact cg_vret F hr hlk hG hf dX2_append_46
      · replace hf := if_f c2 hf
        refine lv_aload_n hx hb dX2_append_17 rfl (lv_at hl 0 rfl) ?_
        refine g_getR F hG 45 rd_44 (by decide) (by decide) lk_X2_9 rfl dX2_append_18 ?_
        refine lv_aload_n hx hb dX2_append_21 rfl (lv_at hl 0 rfl) ?_
        refine g_getI F hG rd_44 (by decide) (by decide) lk_X2_29 rfl dX2_append_22 ?_
        refine lv_iload_n hx hb dX2_append_25 rfl (lv_at hl 1 rfl) ?_
        refine lv_iload_n hx hb dX2_append_26 rfl (lv_at hl 2 rfl) ?_
        refine lv_iushr hx hb dX2_append_27 rfl ?_
        refine lv_i2b hx hb dX2_append_28 rfl ?_
        replace hf := ck_some hf
        obtain ⟨k3, hf⟩ := hf
        refine g_bast (z := vp_nar .byte (((x1.toUInt32 >>> (x2.toUInt32 &&& Int32.toUInt32 31)).toInt32).toInt8.toInt32)) F hG oC_45 k3 rfl dX2_append_29 (fun H locs hG => ?_)
        refine lv_aload_n hx hb dX2_append_30 rfl (lv_at hl 0 rfl) ?_
        refine lv_dup hx hb dX2_append_31 rfl ?_
        refine g_getI F hG rd_44 (by decide) (by decide) lk_X2_29 rfl dX2_append_32 ?_
        refine lv_iconst (v := 1) hx hb dX2_append_35 (by decide) ?_
        refine lv_iadd hx hb dX2_append_36 ?_
        refine g_putI F hG rd_44 (by decide) (by decide) lkv_X2_29 rfl rfl rfl dX2_append_37 (fun H locs hG => ?_)
        refine lv_iinc (v := (x2 + (-8 : Int32))) (lv' := [(2, .int (x2 + (-8 : Int32))), (0, .ref (w.2.2.1 44)), (1, .int x1)]) hx hb dX2_append_40 hl (k := 2) rfl rfl (by decide) rfl (fun ls hl => ?_)
        refine lv_goto (tgt := 3) hx hb dX2_append_43 (by decide) ?_
        exact hI3 _ (Option.some.inj hf).symm _ _ ls hG (lv_sub hl [1, 2, 0] rfl)
  unfold f_X2_append at hf
  refine lv_bipush (v := 24) hx hb dX2_append_0 (by decide) ?_
  refine lv_istore_n (lv' := [(2, .int (24 : Int32)), (0, .ref (w.2.2.1 44)), (1, .int x1)]) hx hb dX2_append_2 rfl hl (by decide) rfl (fun ls hl => ?_)
  exact hJ3 _ _ _ _ _ ls hf hG (lv_sub hl [1, 2, 0] rfl)

def f_X2_swapTown (n : Nat) (j1 : Nat) (M : Mem) : Option (Nat × Mem) := ck (isTwB ((gi M 44 2).toNatClampNeg)) (some ((gi M 44 2).toNatClampNeg, si M 44 2 (nI j1)))
set_option maxHeartbeats 4000000 in
set_option maxRecDepth 100000 in
theorem c_X2_swapTown (l : Launch) (w : Wd)  (n : Nat) (j1 : Nat) (hj1 : isTw j1) (M : Mem) (res : Nat × Mem) (hf : f_X2_swapTown n j1  M = some res) : CG l w layC 61 (XN (YC w)) yX2_swapTown cX2_swapTown 3 (some (.object "CockTower$Town")) 0 [.ref (w.2.2.1 44), .ref (w.2.2.1 j1)] M (GQt w layC 61 res) := by
  refine cg_start (by decide +kernel) (Nat.le_of_ble_eq_true rfl) ?_
  intro p e s m args below meth c F hr hlk hX hG ls hl
  have F : FX w p m c cX2_swapTown 3 s args RX2 := F
  have hx := F.1.1
  have hb := F.1.2.1
  have hl : lv_has ls 3 [(0, .ref (w.2.2.1 44)), (1, .ref (w.2.2.1 j1))] := hl
  unfold f_X2_swapTown at hf
  refine lv_aload_n hx hb dX2_swapTown_0 rfl (lv_at hl 0 rfl) ?_
  replace hf := ck_some hf
  obtain ⟨k1, hf⟩ := hf
  refine g_getM F hG rd_44 (by decide) (by decide) lk_X2_25 rfl dX2_swapTown_1 ?_
  refine lv_astore_n (lv' := [(2, .ref (w.2.2.1 ((gi M 44 2).toNatClampNeg))), (0, .ref (w.2.2.1 44)), (1, .ref (w.2.2.1 j1))]) hx hb dX2_swapTown_4 rfl hl (by decide) rfl (fun ls hl => ?_)
  refine lv_aload_n hx hb dX2_swapTown_5 rfl (lv_at hl 1 rfl) ?_
  refine lv_aload_n hx hb dX2_swapTown_6 rfl (lv_at hl 2 rfl) ?_
  refine g_putM F hG rd_44 (by decide) (by decide) lkv_X2_25 rfl (tw_small hj1) dX2_swapTown_7 (fun H locs hG => ?_)
  refine lv_aload_n hx hb dX2_swapTown_10 rfl (lv_at hl 0 rfl) ?_
  exact cg_aretT F hr hlk hG hf dX2_swapTown_11

def f_X2_fail (n : Nat) (x1 : Int32) (M : Mem) : Option (Int32 × Mem) := some ((0 : Int32), si (si M 44 11 x1) 44 12 (gi (si M 44 11 x1) 44 5))
set_option maxHeartbeats 4000000 in
set_option maxRecDepth 100000 in
theorem c_X2_fail (l : Launch) (w : Wd)  (n : Nat) (x1 : Int32) (M : Mem) (res : Int32 × Mem) (hf : f_X2_fail n  x1 M = some res) : CG l w layC 61 (XN (YC w)) yX2_fail cX2_fail 2 (some .boolean) 0 [.ref (w.2.2.1 44), .int x1] M (GQi w layC 61 res) := by
  refine cg_start (by decide +kernel) (Nat.le_of_ble_eq_true rfl) ?_
  intro p e s m args below meth c F hr hlk hX hG ls hl
  have F : FX w p m c cX2_fail 2 s args RX2 := F
  have hx := F.1.1
  have hb := F.1.2.1
  have hl : lv_has ls 2 [(0, .ref (w.2.2.1 44)), (1, .int x1)] := hl
  unfold f_X2_fail at hf
  refine lv_aload_n hx hb dX2_fail_0 rfl (lv_at hl 0 rfl) ?_
  refine lv_iload_n hx hb dX2_fail_1 rfl (lv_at hl 1 rfl) ?_
  refine g_putI F hG rd_44 (by decide) (by decide) lkv_X2_61 rfl rfl rfl dX2_fail_2 (fun H locs hG => ?_)
  refine lv_aload_n hx hb dX2_fail_5 rfl (lv_at hl 0 rfl) ?_
  refine lv_aload_n hx hb dX2_fail_6 rfl (lv_at hl 0 rfl) ?_
  refine g_getI F hG rd_44 (by decide) (by decide) lk_X2_36 rfl dX2_fail_7 ?_
  refine g_putI F hG rd_44 (by decide) (by decide) lkv_X2_64 rfl rfl rfl dX2_fail_10 (fun H locs hG => ?_)
  refine lv_iconst (v := 0) hx hb dX2_fail_13 (by decide) ?_
  exact cg_zret F hr hlk hG hf (Or.inl rfl) dX2_fail_14

def j_X2_kindOf_28 (n : Nat) (x0 : Int32) (M : Mem) : Option (Int32 × Mem) := bd (f_J0_indexOf_0f7a4 n 22 (((x0 &&& (255 : Int32)).toUInt32 % 65536).toInt32) M) (fun q1 => if q1.1 < 0 then (some ((4 : Int32), q1.2)) else (some ((3 : Int32), q1.2)))
def j_X2_kindOf_14 (n : Nat) (x0 : Int32) (M : Mem) : Option (Int32 × Mem) := if x0 < (48 : Int32) then (j_X2_kindOf_28 n  x0 M) else (if (57 : Int32) < x0 then (j_X2_kindOf_28 n  x0 M) else (some ((2 : Int32), M)))
def f_X2_kindOf (n : Nat) (x0 : Int32) (M : Mem) : Option (Int32 × Mem) := if x0 < (97 : Int32) then (j_X2_kindOf_14 n  x0 M) else (if (122 : Int32) < x0 then (j_X2_kindOf_14 n  x0 M) else (some ((1 : Int32), M)))
set_option maxHeartbeats 4000000 in
set_option maxRecDepth 100000 in
theorem c_X2_kindOf (l : Launch) (w : Wd)  (n : Nat) (x0 : Int32) (M : Mem) (res : Int32 × Mem) (hf : f_X2_kindOf n  x0 M = some res) : CG l w layC 61 (XN (YC w)) yX2_kindOf cX2_kindOf 1 (some .int) 4 [.int x0] M (GQi w layC 61 res) := by
  refine cg_start (by decide +kernel) (Nat.le_of_ble_eq_true rfl) ?_
  intro p e s m args below meth c F hr hlk hX hG ls hl
  have F : FX w p m c cX2_kindOf 1 s args RX2 := F
  obtain ⟨y1, y2, y3, y4, y5, y6, y7, y8, y9, y10, y11, y12⟩ := hX.2.2.2
  have hx := F.1.1
  have hb := F.1.2.1
  have hl : lv_has ls 1 [(0, .int x0)] := hl
  have hJ28 : ∀ (x0 : Int32) (M : Mem) (H : Heap) (locs : List Loc) (ls : Array Slot), j_X2_kindOf_28 n  x0 M = some res → GI w layC 61 s.heap M H locs → lv_has ls 1 [(0, .int x0)] → W p l e (Rm 4) s m args below meth c H locs 0 0 (MQ below (GQi w layC 61 res s.heap.size) args s 0 0 (gA w.2.2.1 61 s.heap.size)) (F0 m 28 ls []) := by
    intro x0 M H locs ls hf hG hl
    unfold j_X2_kindOf_28 at hf
    refine va_ldcS hx hb F.1.2.2.2.1 y11 dX2_kindOf_28 ?_
    refine lv_iload_n hx hb dX2_kindOf_30 rfl (lv_at hl 0 rfl) ?_
    refine lv_sipush (v := 255) hx hb dX2_kindOf_31 (by decide) ?_
    refine lv_iand hx hb dX2_kindOf_34 ?_
    refine lv_i2c hx hb dX2_kindOf_35 rfl ?_
    replace hf := bd_some hf
    obtain ⟨q1, eq1, hf⟩ := hf
    refine gx_calli hG (gx_runV (xn_ok (yc_ok w)) F hX hG (c_J0_indexOf_0f7a4 l w  n 22 (by decide) (((x0 &&& (255 : Int32)).toUInt32 % 65536).toInt32) _ _ eq1) cv_X2_105 ⟨Nat.le_of_ble_eq_true rfl, Nat.le_of_ble_eq_true rfl⟩ (vk_recv (i := 22) y3 (by decide) hG.2.2) rfl hl.1 rfl (Nat.le_of_ble_eq_true rfl) dX2_kindOf_36 ⟨Nat.le_refl _, Nat.le_refl _⟩) (fun H locs hG => ?_)
    refine lv_if_lt (tgt := 46) hx hb dX2_kindOf_39 (by decide) (fun c2 => ?_) (fun c2 => ?_)
    · replace hf := if_t c2 hf
      refine lv_iconst (v := 4) hx hb dX2_kindOf_46 (by decide) ?_
      exact cg_iret F hr hlk hG hf dX2_kindOf_47
    · replace hf := if_f c2 hf
      refine lv_iconst (v := 3) hx hb dX2_kindOf_42 (by decide) ?_
      refine lv_goto (tgt := 47) hx hb dX2_kindOf_43 (by decide) ?_
      exact cg_iret F hr hlk hG hf dX2_kindOf_47
  have hJ14 : ∀ (x0 : Int32) (M : Mem) (H : Heap) (locs : List Loc) (ls : Array Slot), j_X2_kindOf_14 n  x0 M = some res → GI w layC 61 s.heap M H locs → lv_has ls 1 [(0, .int x0)] → W p l e (Rm 4) s m args below meth c H locs 0 0 (MQ below (GQi w layC 61 res s.heap.size) args s 0 0 (gA w.2.2.1 61 s.heap.size)) (F0 m 14 ls []) := by
    intro x0 M H locs ls hf hG hl
    unfold j_X2_kindOf_14 at hf
    refine lv_iload_n hx hb dX2_kindOf_14 rfl (lv_at hl 0 rfl) ?_
    refine lv_bipush (v := 48) hx hb dX2_kindOf_15 (by decide) ?_
    refine lv_icmp_lt (tgt := 28) hx hb dX2_kindOf_17 (by decide) (fun c3 => ?_) (fun c3 => ?_)
    · replace hf := if_t c3 hf
      exact hJ28 _ _ _ _ ls hf hG (lv_sub hl [0] rfl)
    · replace hf := if_f c3 hf
      refine lv_iload_n hx hb dX2_kindOf_20 rfl (lv_at hl 0 rfl) ?_
      refine lv_bipush (v := 57) hx hb dX2_kindOf_21 (by decide) ?_
      refine lv_icmp_gt (tgt := 28) hx hb dX2_kindOf_23 (by decide) (fun c4 => ?_) (fun c4 => ?_)
      · replace hf := if_t c4 hf
        exact hJ28 _ _ _ _ ls hf hG (lv_sub hl [0] rfl)
      · replace hf := if_f c4 hf
        refine lv_iconst (v := 2) hx hb dX2_kindOf_26 (by decide) ?_
        exact cg_iret F hr hlk hG hf dX2_kindOf_27
  unfold f_X2_kindOf at hf
  refine lv_iload_n hx hb dX2_kindOf_0 rfl (lv_at hl 0 rfl) ?_
  refine lv_bipush (v := 97) hx hb dX2_kindOf_1 (by decide) ?_
  refine lv_icmp_lt (tgt := 14) hx hb dX2_kindOf_3 (by decide) (fun c5 => ?_) (fun c5 => ?_)
  · replace hf := if_t c5 hf
    exact hJ14 _ _ _ _ ls hf hG (lv_sub hl [0] rfl)
  · replace hf := if_f c5 hf
    refine lv_iload_n hx hb dX2_kindOf_6 rfl (lv_at hl 0 rfl) ?_
    refine lv_bipush (v := 122) hx hb dX2_kindOf_7 (by decide) ?_
    refine lv_icmp_gt (tgt := 14) hx hb dX2_kindOf_9 (by decide) (fun c6 => ?_) (fun c6 => ?_)
    · replace hf := if_t c6 hf
      exact hJ14 _ _ _ _ ls hf hG (lv_sub hl [0] rfl)
    · replace hf := if_f c6 hf
      refine lv_iconst (v := 1) hx hb dX2_kindOf_12 (by decide) ?_
      exact cg_iret F hr hlk hG hf dX2_kindOf_13

def b_X2_valueOfDigits_7 (n : Nat) (q : (Int32 × Int32 × Mem)) : Option ((Int32 × Int32 × Mem) ⊕ (Int32 × Mem)) := match q with
  | (x1, x2, M) => if (gi M 44 6) ≤ x2 then (mr (some (x1, M))) else (if ((gi M 44 5) + (4 : Int32)) ≤ x2 then (mr (some (x1, M))) else (ck (inb x2 700) (some (.inl ((((x1 * (10 : Int32)) + (gi M 45 x2.toNatClampNeg)) - (48 : Int32)), (x2 + (1 : Int32)), M)))))
def f_X2_valueOfDigits (n : Nat) (M : Mem) : Option (Int32 × Mem) := gl (b_X2_valueOfDigits_7 n ) n ((0 : Int32), (gi M 44 5), M)
set_option maxHeartbeats 4000000 in
set_option maxRecDepth 100000 in
theorem c_X2_valueOfDigits (l : Launch) (w : Wd)  (n : Nat) (M : Mem) (res : Int32 × Mem) (hf : f_X2_valueOfDigits n   M = some res) : CG l w layC 61 (XN (YC w)) yX2_valueOfDigits cX2_valueOfDigits 3 (some .int) 0 [.ref (w.2.2.1 44)] M (GQi w layC 61 res) := by
  refine cg_start (by decide +kernel) (Nat.le_of_ble_eq_true rfl) ?_
  intro p e s m args below meth c F hr hlk hX hG ls hl
  have F : FX w p m c cX2_valueOfDigits 3 s args RX2 := F
  have hx := F.1.1
  have hb := F.1.2.1
  have hl : lv_has ls 3 [(0, .ref (w.2.2.1 44))] := hl
  have hJ7 : ∀ (x1 : Int32) (x2 : Int32) (M : Mem) (H : Heap) (locs : List Loc) (ls : Array Slot), gl (b_X2_valueOfDigits_7 n  ) n (x1, x2, M) = some res → GI w layC 61 s.heap M H locs → lv_has ls 3 [(0, .ref (w.2.2.1 44)), (1, .int x1), (2, .int x2)] → W p l e (Rm 0) s m args below meth c H locs 0 0 (MQ below (GQi w layC 61 res s.heap.size) args s 0 0 (gA w.2.2.1 61 s.heap.size)) (F0 m 7 ls []) := by
    intro x1 x2 M H locs ls hf hG hl
    refine gl_run (P := fun (q : (Int32 × Int32 × Mem)) => ∀ (H : Heap) (locs : List Loc) (ls : Array Slot), GI w layC 61 s.heap q.2.2 H locs → lv_has ls 3 [(0, .ref (w.2.2.1 44)), (1, .int q.1), (2, .int q.2.1)] → W p l e (Rm 0) s m args below meth c H locs 0 0 (MQ below (GQi w layC 61 res s.heap.size) args s 0 0 (gA w.2.2.1 61 s.heap.size)) (F0 m 7 ls [])) ?_ n (x1, x2, M) hf H locs ls hG hl
    clear hf hG hl ls locs H M x1 x2
    rintro ⟨x1, x2, M⟩ rr7 hf hI7 hE7 H locs ls hG hl
    try dsimp only at hG hl ⊢
    dsimp only [b_X2_valueOfDigits_7] at hf
    refine lv_iload_n hx hb dX2_valueOfDigits_7 rfl (lv_at hl 2 rfl) ?_
    refine lv_aload_n hx hb dX2_valueOfDigits_8 rfl (lv_at hl 0 rfl) ?_
    refine g_getI F hG rd_44 (by decide) (by decide) lk_X2_39 rfl dX2_valueOfDigits_9 ?_
    refine lv_icmp_ge (tgt := 46) hx hb dX2_valueOfDigits_12 (by decide) (fun c1 => ?_) (fun c1 => ?_)
    · replace hf := if_t c1 hf
      refine lv_iload_n hx hb dX2_valueOfDigits_46 rfl (lv_at hl 1 rfl) ?_
      replace hf := mr_some hf
      obtain ⟨z7, hf, hz⟩ := hf
      rw [hE7 _ hz] at hf
      exact cg_iret F hr hlk hG hf dX2_valueOfDigits_47
    · replace hf := if_f c1 hf
      refine lv_iload_n hx hb dX2_valueOfDigits_15 rfl (lv_at hl 2 rfl) ?_
      refine lv_aload_n hx hb dX2_valueOfDigits_16 rfl (lv_at hl 0 rfl) ?_
      refine g_getI F hG rd_44 (by decide) (by decide) lk_X2_36 rfl dX2_valueOfDigits_17 ?_
      refine lv_iconst (v := 4) hx hb dX2_valueOfDigits_20 (by decide) ?_
      refine lv_iadd hx hb dX2_valueOfDigits_21 ?_
      refine lv_icmp_ge (tgt := 46) hx hb dX2_valueOfDigits_22 (by decide) (fun c2 => ?_) (fun c2 => ?_)
      · replace hf := if_t c2 hf
        refine lv_iload_n hx hb dX2_valueOfDigits_46 rfl (lv_at hl 1 rfl) ?_
        replace hf := mr_some hf
        obtain ⟨z7, hf, hz⟩ := hf
        rw [hE7 _ hz] at hf
        exact cg_iret F hr hlk hG hf dX2_valueOfDigits_47
      · replace hf := if_f c2 hf
        refine lv_iload_n hx hb dX2_valueOfDigits_25 rfl (lv_at hl 1 rfl) ?_
        refine lv_bipush (v := 10) hx hb dX2_valueOfDigits_26 (by decide) ?_
        refine lv_imul hx hb dX2_valueOfDigits_28 ?_
        refine lv_aload_n hx hb dX2_valueOfDigits_29 rfl (lv_at hl 0 rfl) ?_
        refine g_getR F hG 45 rd_44 (by decide) (by decide) lk_X2_9 rfl dX2_valueOfDigits_30 ?_
        refine lv_iload_n hx hb dX2_valueOfDigits_33 rfl (lv_at hl 2 rfl) ?_
        replace hf := ck_some hf
        obtain ⟨k3, hf⟩ := hf
        refine g_bald F hG oC_45 k3 dX2_valueOfDigits_34 ?_
        refine lv_iadd hx hb dX2_valueOfDigits_35 ?_
        refine lv_bipush (v := 48) hx hb dX2_valueOfDigits_36 (by decide) ?_
        refine lv_isub hx hb dX2_valueOfDigits_38 ?_
        refine lv_istore_n (lv' := [(1, .int (((x1 * (10 : Int32)) + (gi M 45 x2.toNatClampNeg)) - (48 : Int32))), (0, .ref (w.2.2.1 44)), (2, .int x2)]) hx hb dX2_valueOfDigits_39 rfl hl (by decide) rfl (fun ls hl => ?_)
        refine lv_iinc (v := (x2 + (1 : Int32))) (lv' := [(2, .int (x2 + (1 : Int32))), (1, .int (((x1 * (10 : Int32)) + (gi M 45 x2.toNatClampNeg)) - (48 : Int32))), (0, .ref (w.2.2.1 44))]) hx hb dX2_valueOfDigits_40 hl (k := 2) rfl rfl (by decide) rfl (fun ls hl => ?_)
        refine lv_goto (tgt := 7) hx hb dX2_valueOfDigits_43 (by decide) ?_
        exact hI7 _ (Option.some.inj hf).symm _ _ ls hG (lv_sub hl [2, 1, 0] rfl)
  unfold f_X2_valueOfDigits at hf
  refine lv_iconst (v := 0) hx hb dX2_valueOfDigits_0 (by decide) ?_
  refine lv_istore_n (lv' := [(1, .int (0 : Int32)), (0, .ref (w.2.2.1 44))]) hx hb dX2_valueOfDigits_1 rfl hl (by decide) rfl (fun ls hl => ?_)
  refine lv_aload_n hx hb dX2_valueOfDigits_2 rfl (lv_at hl 1 rfl) ?_
  refine g_getI F hG rd_44 (by decide) (by decide) lk_X2_36 rfl dX2_valueOfDigits_3 ?_
  refine lv_istore_n (lv' := [(2, .int (gi M 44 5)), (1, .int (0 : Int32)), (0, .ref (w.2.2.1 44))]) hx hb dX2_valueOfDigits_6 rfl hl (by decide) rfl (fun ls hl => ?_)
  exact hJ7 _ _ _ _ _ ls hf hG (lv_sub hl [2, 1, 0] rfl)

def j_X2_step_204 (n : Nat) (M : Mem) : Option (Mem) := if (gi M 44 7) = (1 : Int32) then (bd (f_X7_of n  (gi M 44 5) (gi M 44 6) M) (fun q2 => ck (q2.1 < 22) (some (si q2.2 44 10 (nI q2.1))))) else (if (gi M 44 7) = (2 : Int32) then (bd (f_X2_valueOfDigits n   M) (fun q5 => some (si q5.2 44 8 q5.1))) else (some M))
def b_X2_step_157 (n : Nat) (x1 : Int32) (q : (Mem)) : Option ((Mem) ⊕ (Mem)) := match q with
  | (M) => if x1 = 0 then (mr (j_X2_step_204 n  M)) else (if (gi M 44 4) ≤ (gi M 44 6) then (mr (j_X2_step_204 n  M)) else (ck (inb (gi M 44 6) 700) (bd (f_X2_kindOf n  (gi M 45 (gi M 44 6).toNatClampNeg) M) (fun q9 => if q9.1 = (gi q9.2 44 7) then (some (.inl (si q9.2 44 6 ((gi q9.2 44 6) + (1 : Int32))))) else (mr (j_X2_step_204 n  q9.2))))))
def j_X2_step_156 (n : Nat) (t0 : Int32) (M : Mem) : Option (Mem) := gl (b_X2_step_157 n  t0) n (M)
def j_X2_step_151 (n : Nat) (M : Mem) : Option (Mem) := j_X2_step_156 n  (1 : Int32) M
def j_X2_step_96 (n : Nat) (t0 : Int32) (M : Mem) : Option (Mem) := if (gi (si M 44 7 t0) 44 7) = 0 then (some (si M 44 7 t0)) else (ck (inb (gi (si M 44 7 t0) 44 5) 700) (if (gi (si (si (si M 44 7 t0) 44 9 ((((gi (si M 44 7 t0) 45 (gi (si M 44 7 t0) 44 5).toNatClampNeg) &&& (255 : Int32)).toUInt32 % 65536).toInt32)) 44 6 ((gi (si (si M 44 7 t0) 44 9 ((((gi (si M 44 7 t0) 45 (gi (si M 44 7 t0) 44 5).toNatClampNeg) &&& (255 : Int32)).toUInt32 % 65536).toInt32)) 44 6) + (1 : Int32))) 44 7) = (1 : Int32) then (j_X2_step_151 n  (si (si (si M 44 7 t0) 44 9 ((((gi (si M 44 7 t0) 45 (gi (si M 44 7 t0) 44 5).toNatClampNeg) &&& (255 : Int32)).toUInt32 % 65536).toInt32)) 44 6 ((gi (si (si M 44 7 t0) 44 9 ((((gi (si M 44 7 t0) 45 (gi (si M 44 7 t0) 44 5).toNatClampNeg) &&& (255 : Int32)).toUInt32 % 65536).toInt32)) 44 6) + (1 : Int32)))) else (if (gi (si (si (si M 44 7 t0) 44 9 ((((gi (si M 44 7 t0) 45 (gi (si M 44 7 t0) 44 5).toNatClampNeg) &&& (255 : Int32)).toUInt32 % 65536).toInt32)) 44 6 ((gi (si (si M 44 7 t0) 44 9 ((((gi (si M 44 7 t0) 45 (gi (si M 44 7 t0) 44 5).toNatClampNeg) &&& (255 : Int32)).toUInt32 % 65536).toInt32)) 44 6) + (1 : Int32))) 44 7) = (2 : Int32) then (j_X2_step_151 n  (si (si (si M 44 7 t0) 44 9 ((((gi (si M 44 7 t0) 45 (gi (si M 44 7 t0) 44 5).toNatClampNeg) &&& (255 : Int32)).toUInt32 % 65536).toInt32)) 44 6 ((gi (si (si M 44 7 t0) 44 9 ((((gi (si M 44 7 t0) 45 (gi (si M 44 7 t0) 44 5).toNatClampNeg) &&& (255 : Int32)).toUInt32 % 65536).toInt32)) 44 6) + (1 : Int32)))) else (j_X2_step_156 n  (0 : Int32) (si (si (si M 44 7 t0) 44 9 ((((gi (si M 44 7 t0) 45 (gi (si M 44 7 t0) 44 5).toNatClampNeg) &&& (255 : Int32)).toUInt32 % 65536).toInt32)) 44 6 ((gi (si (si M 44 7 t0) 44 9 ((((gi (si M 44 7 t0) 45 (gi (si M 44 7 t0) 44 5).toNatClampNeg) &&& (255 : Int32)).toUInt32 % 65536).toInt32)) 44 6) + (1 : Int32)))))))
def j_X2_step_60 (n : Nat) (M : Mem) : Option (Mem) := if (gi (si M 44 6 (gi M 44 5)) 44 4) ≤ (gi (si M 44 6 (gi M 44 5)) 44 5) then (j_X2_step_96 n  (0 : Int32) (si M 44 6 (gi M 44 5))) else (ck (inb (gi (si M 44 6 (gi M 44 5)) 44 5) 700) (bd (f_X2_kindOf n  (gi (si M 44 6 (gi M 44 5)) 45 (gi (si M 44 6 (gi M 44 5)) 44 5).toNatClampNeg) (si M 44 6 (gi M 44 5))) (fun q17 => j_X2_step_96 n  q17.1 q17.2)))
def j_X2_step_47 (n : Nat) (M : Mem) : Option ((Mem) ⊕ (Mem)) := some (.inl (si M 44 5 ((gi M 44 5) + (1 : Int32))))
def b_X2_step_8 (n : Nat) (q : (Mem)) : Option ((Mem) ⊕ (Mem)) := match q with
  | (M) => if (gi M 44 4) ≤ (gi M 44 5) then (mr (j_X2_step_60 n  M)) else (ck (inb (gi M 44 5) 700) (if (gi M 45 (gi M 44 5).toNatClampNeg) = (32 : Int32) then (j_X2_step_47 n  M) else (ck (inb (gi M 44 5) 700) (if (gi M 45 (gi M 44 5).toNatClampNeg) = (10 : Int32) then (j_X2_step_47 n  M) else (mr (j_X2_step_60 n  M))))))
def f_X2_step (n : Nat) (M : Mem) : Option (Mem) := gl (b_X2_step_8 n ) n (si M 44 5 (gi M 44 6))
set_option maxHeartbeats 4000000 in
set_option maxRecDepth 100000 in
theorem c_X2_step (l : Launch) (w : Wd)  (n : Nat) (M : Mem) (res : Mem) (hf : f_X2_step n   M = some res) : CG l w layC 61 (XN (YC w)) yX2_step cX2_step 2 none 5 [.ref (w.2.2.1 44)] M (GQv w layC 61 res) := by
  refine cg_start (by decide +kernel) (Nat.le_of_ble_eq_true rfl) ?_
  intro p e s m args below meth c F hr hlk hX hG ls hl
  have F : FX w p m c cX2_step 2 s args RX2 := F
  obtain ⟨y1, y2, y3, y4, y5, y6, y7, y8, y9, y10, y11, y12⟩ := hX.2.2.2
  have hx := F.1.1
  have hb := F.1.2.1
  have hl : lv_has ls 2 [(0, .ref (w.2.2.1 44))] := hl
  have hJ204 : ∀ (M : Mem) (H : Heap) (locs : List Loc) (ls : Array Slot), j_X2_step_204 n   M = some res → GI w layC 61 s.heap M H locs → lv_has ls 2 [(0, .ref (w.2.2.1 44))] → W p l e (Rm 5) s m args below meth c H locs 0 0 (MQ below (GQv w layC 61 res s.heap.size) args s 0 0 (gA w.2.2.1 61 s.heap.size)) (F0 m 204 ls []) := by
    intro  M H locs ls hf hG hl
    unfold j_X2_step_204 at hf
    refine lv_aload_n hx hb dX2_step_204 rfl (lv_at hl 0 rfl) ?_
    refine g_getI F hG rd_44 (by decide) (by decide) lk_X2_42 rfl dX2_step_205 ?_
    refine lv_iconst (v := 1) hx hb dX2_step_208 (by decide) ?_
    refine lv_icmp_ne (tgt := 234) hx hb dX2_step_209 (by decide) (fun c1 => ?_) (fun c1 => ?_)
    · replace hf := if_f c1 hf
      refine lv_aload_n hx hb dX2_step_234 rfl (lv_at hl 0 rfl) ?_
      refine g_getI F hG rd_44 (by decide) (by decide) lk_X2_42 rfl dX2_step_235 ?_
      refine lv_iconst (v := 2) hx hb dX2_step_238 (by decide) ?_
      refine lv_icmp_ne (tgt := 250) hx hb dX2_step_239 (by decide) (fun c4 => ?_) (fun c4 => ?_)
      · replace hf := if_f c4 hf
        exact cg_vret F hr hlk hG hf dX2_step_250
      · replace hf := if_t c4 hf
        refine lv_aload_n hx hb dX2_step_242 rfl (lv_at hl 0 rfl) ?_
        refine lv_aload_n hx hb dX2_step_243 rfl (lv_at hl 0 rfl) ?_
        replace hf := bd_some hf
        obtain ⟨q5, eq5, hf⟩ := hf
        refine gx_calli hG (gx_runV (xn_ok (yc_ok w)) F hX hG (c_X2_valueOfDigits l w  n   _ _ eq5) cv_X2_99 ⟨Nat.le_of_ble_eq_true rfl, Nat.le_of_ble_eq_true rfl⟩ (g_recv F hG rd_44 (by decide) rfl) rfl hl.1 rfl (Nat.le_of_ble_eq_true rfl) dX2_step_244 ⟨Nat.le_refl _, Nat.le_refl _⟩) (fun H locs hG => ?_)
        refine g_putI F hG rd_44 (by decide) (by decide) lkv_X2_45 rfl rfl rfl dX2_step_247 (fun H locs hG => ?_)
        exact cg_vret F hr hlk hG hf dX2_step_250
    · replace hf := if_t c1 hf
      refine lv_aload_n hx hb dX2_step_212 rfl (lv_at hl 0 rfl) ?_
      refine lv_aload_n hx hb dX2_step_213 rfl (lv_at hl 0 rfl) ?_
      refine g_getR F hG 45 rd_44 (by decide) (by decide) lk_X2_9 rfl dX2_step_214 ?_
      refine lv_aload_n hx hb dX2_step_217 rfl (lv_at hl 0 rfl) ?_
      refine g_getI F hG rd_44 (by decide) (by decide) lk_X2_36 rfl dX2_step_218 ?_
      refine lv_aload_n hx hb dX2_step_221 rfl (lv_at hl 0 rfl) ?_
      refine g_getI F hG rd_44 (by decide) (by decide) lk_X2_39 rfl dX2_step_222 ?_
      replace hf := bd_some hf
      obtain ⟨q2, eq2, hf⟩ := hf
      replace hf := ck_some hf
      obtain ⟨k3, hf⟩ := hf
      refine gx_calle hG (gx_runS (xn_ok (yc_ok w)) F hX hG (c_X7_of l w  n  (gi M 44 5) (gi M 44 6) _ _ eq2) cs_X2_95 ⟨Nat.le_of_ble_eq_true rfl, Nat.le_of_ble_eq_true rfl⟩ rfl hl.1 rfl (Nat.le_of_ble_eq_true rfl) dX2_step_225 ⟨Nat.le_refl _, Nat.le_refl _⟩) (fun H locs hG => ?_)
      refine g_putE F hG rd_44 (by decide) (by decide) lkv_X2_58 rfl (Nat.lt_trans k3 (by decide)) dX2_step_228 (fun H locs hG => ?_)
      refine lv_goto (tgt := 250) hx hb dX2_step_231 (by decide) ?_
      exact cg_vret F hr hlk hG hf dX2_step_250
  have hJ157 : ∀ (x1 : Int32) (M : Mem) (H : Heap) (locs : List Loc) (ls : Array Slot), gl (b_X2_step_157 n  x1) n (M) = some res → GI w layC 61 s.heap M H locs → lv_has ls 2 [(0, .ref (w.2.2.1 44)), (1, .int x1)] → W p l e (Rm 5) s m args below meth c H locs 0 0 (MQ below (GQv w layC 61 res s.heap.size) args s 0 0 (gA w.2.2.1 61 s.heap.size)) (F0 m 157 ls []) := by
    intro x1 M H locs ls hf hG hl
    refine gl_run (P := fun (q : (Mem)) => ∀ (H : Heap) (locs : List Loc) (ls : Array Slot), GI w layC 61 s.heap q H locs → lv_has ls 2 [(0, .ref (w.2.2.1 44)), (1, .int x1)] → W p l e (Rm 5) s m args below meth c H locs 0 0 (MQ below (GQv w layC 61 res s.heap.size) args s 0 0 (gA w.2.2.1 61 s.heap.size)) (F0 m 157 ls [])) ?_ n (M) hf H locs ls hG hl
    clear hf hG hl ls locs H M 
    rintro M rr157 hf hI157 hE157 H locs ls hG hl
    try dsimp only at hG hl ⊢
    dsimp only [b_X2_step_157] at hf
    refine lv_iload_n hx hb dX2_step_157 rfl (lv_at hl 1 rfl) ?_
    refine lv_if_eq (tgt := 204) hx hb dX2_step_158 (by decide) (fun c6 => ?_) (fun c6 => ?_)
    · replace hf := if_t c6 hf
      replace hf := mr_some hf
      obtain ⟨z157, hf, hz⟩ := hf
      rw [hE157 _ hz] at hf
      exact hJ204  _ _ _ ls hf hG (lv_sub hl [0] rfl)
    · replace hf := if_f c6 hf
      refine lv_aload_n hx hb dX2_step_161 rfl (lv_at hl 0 rfl) ?_
      refine g_getI F hG rd_44 (by decide) (by decide) lk_X2_39 rfl dX2_step_162 ?_
      refine lv_aload_n hx hb dX2_step_165 rfl (lv_at hl 0 rfl) ?_
      refine g_getI F hG rd_44 (by decide) (by decide) lk_X2_33 rfl dX2_step_166 ?_
      refine lv_icmp_ge (tgt := 204) hx hb dX2_step_169 (by decide) (fun c7 => ?_) (fun c7 => ?_)
      · replace hf := if_t c7 hf
        replace hf := mr_some hf
        obtain ⟨z157, hf, hz⟩ := hf
        rw [hE157 _ hz] at hf
        exact hJ204  _ _ _ ls hf hG (lv_sub hl [0] rfl)
      · replace hf := if_f c7 hf
        refine lv_aload_n hx hb dX2_step_172 rfl (lv_at hl 0 rfl) ?_
        refine g_getR F hG 45 rd_44 (by decide) (by decide) lk_X2_9 rfl dX2_step_173 ?_
        refine lv_aload_n hx hb dX2_step_176 rfl (lv_at hl 0 rfl) ?_
        refine g_getI F hG rd_44 (by decide) (by decide) lk_X2_39 rfl dX2_step_177 ?_
        replace hf := ck_some hf
        obtain ⟨k8, hf⟩ := hf
        refine g_bald F hG oC_45 k8 dX2_step_180 ?_
        replace hf := bd_some hf
        obtain ⟨q9, eq9, hf⟩ := hf
        refine gx_calli hG (gx_runS (xn_ok (yc_ok w)) F hX hG (c_X2_kindOf l w  n  (gi M 45 (gi M 44 6).toNatClampNeg) _ _ eq9) cs_X2_91 ⟨Nat.le_of_ble_eq_true rfl, Nat.le_of_ble_eq_true rfl⟩ rfl hl.1 rfl (Nat.le_of_ble_eq_true rfl) dX2_step_181 ⟨Nat.le_refl _, Nat.le_refl _⟩) (fun H locs hG => ?_)
        refine lv_aload_n hx hb dX2_step_184 rfl (lv_at hl 0 rfl) ?_
        refine g_getI F hG rd_44 (by decide) (by decide) lk_X2_42 rfl dX2_step_185 ?_
        refine lv_icmp_ne (tgt := 204) hx hb dX2_step_188 (by decide) (fun c10 => ?_) (fun c10 => ?_)
        · replace hf := if_f c10 hf
          replace hf := mr_some hf
          obtain ⟨z157, hf, hz⟩ := hf
          rw [hE157 _ hz] at hf
          exact hJ204  _ _ _ ls hf hG (lv_sub hl [0] rfl)
        · replace hf := if_t c10 hf
          refine lv_aload_n hx hb dX2_step_191 rfl (lv_at hl 0 rfl) ?_
          refine lv_dup hx hb dX2_step_192 rfl ?_
          refine g_getI F hG rd_44 (by decide) (by decide) lk_X2_39 rfl dX2_step_193 ?_
          refine lv_iconst (v := 1) hx hb dX2_step_196 (by decide) ?_
          refine lv_iadd hx hb dX2_step_197 ?_
          refine g_putI F hG rd_44 (by decide) (by decide) lkv_X2_39 rfl rfl rfl dX2_step_198 (fun H locs hG => ?_)
          refine lv_goto (tgt := 157) hx hb dX2_step_201 (by decide) ?_
          exact hI157 _ (Option.some.inj hf).symm _ _ ls hG (lv_sub hl [0, 1] rfl)
  have hJ156 : ∀ (t0 : Int32) (M : Mem) (H : Heap) (locs : List Loc) (ls : Array Slot), j_X2_step_156 n  t0 M = some res → GI w layC 61 s.heap M H locs → lv_has ls 2 [(0, .ref (w.2.2.1 44))] → W p l e (Rm 5) s m args below meth c H locs 0 0 (MQ below (GQv w layC 61 res s.heap.size) args s 0 0 (gA w.2.2.1 61 s.heap.size)) (F0 m 156 ls [.int t0]) := by
    intro t0 M H locs ls hf hG hl
    unfold j_X2_step_156 at hf
    refine lv_istore_n (lv' := [(1, .int t0), (0, .ref (w.2.2.1 44))]) hx hb dX2_step_156 rfl hl (by decide) rfl (fun ls hl => ?_)
    exact hJ157 _ _ _ _ ls hf hG (lv_sub hl [1, 0] rfl)
  have hJ151 : ∀ (M : Mem) (H : Heap) (locs : List Loc) (ls : Array Slot), j_X2_step_151 n   M = some res → GI w layC 61 s.heap M H locs → lv_has ls 2 [(0, .ref (w.2.2.1 44))] → W p l e (Rm 5) s m args below meth c H locs 0 0 (MQ below (GQv w layC 61 res s.heap.size) args s 0 0 (gA w.2.2.1 61 s.heap.size)) (F0 m 151 ls []) := by
    intro  M H locs ls hf hG hl
    unfold j_X2_step_151 at hf
    refine lv_iconst (v := 1) hx hb dX2_step_151 (by decide) ?_
    refine lv_goto (tgt := 156) hx hb dX2_step_152 (by decide) ?_
    exact hJ156 _ _ _ _ ls hf hG (lv_sub hl [0] rfl)
  have hJ96 : ∀ (t0 : Int32) (M : Mem) (H : Heap) (locs : List Loc) (ls : Array Slot), j_X2_step_96 n  t0 M = some res → GI w layC 61 s.heap M H locs → lv_has ls 2 [(0, .ref (w.2.2.1 44))] → W p l e (Rm 5) s m args below meth c H locs 0 0 (MQ below (GQv w layC 61 res s.heap.size) args s 0 0 (gA w.2.2.1 61 s.heap.size)) (F0 m 96 ls [.int t0, .ref (w.2.2.1 44)]) := by
    intro t0 M H locs ls hf hG hl
    unfold j_X2_step_96 at hf
    refine g_putI F hG rd_44 (by decide) (by decide) lkv_X2_42 rfl rfl rfl dX2_step_96 (fun H locs hG => ?_)
    refine lv_aload_n hx hb dX2_step_99 rfl (lv_at hl 0 rfl) ?_
    refine g_getI F hG rd_44 (by decide) (by decide) lk_X2_42 rfl dX2_step_100 ?_
    refine lv_if_ne (tgt := 107) hx hb dX2_step_103 (by decide) (fun c11 => ?_) (fun c11 => ?_)
    · replace hf := if_f c11 hf
      refine lv_aload_n hx hb dX2_step_107 rfl (lv_at hl 0 rfl) ?_
      refine lv_aload_n hx hb dX2_step_108 rfl (lv_at hl 0 rfl) ?_
      refine g_getR F hG 45 rd_44 (by decide) (by decide) lk_X2_9 rfl dX2_step_109 ?_
      refine lv_aload_n hx hb dX2_step_112 rfl (lv_at hl 0 rfl) ?_
      refine g_getI F hG rd_44 (by decide) (by decide) lk_X2_36 rfl dX2_step_113 ?_
      replace hf := ck_some hf
      obtain ⟨k12, hf⟩ := hf
      refine g_bald F hG oC_45 k12 dX2_step_116 ?_
      refine lv_sipush (v := 255) hx hb dX2_step_117 (by decide) ?_
      refine lv_iand hx hb dX2_step_120 ?_
      refine lv_i2c hx hb dX2_step_121 rfl ?_
      refine g_putI F hG rd_44 (by decide) (by decide) lkv_X2_48 rfl (pk_nc _) (pk_fc _) dX2_step_122 (fun H locs hG => ?_)
      refine lv_aload_n hx hb dX2_step_125 rfl (lv_at hl 0 rfl) ?_
      refine lv_dup hx hb dX2_step_126 rfl ?_
      refine g_getI F hG rd_44 (by decide) (by decide) lk_X2_39 rfl dX2_step_127 ?_
      refine lv_iconst (v := 1) hx hb dX2_step_130 (by decide) ?_
      refine lv_iadd hx hb dX2_step_131 ?_
      refine g_putI F hG rd_44 (by decide) (by decide) lkv_X2_39 rfl rfl rfl dX2_step_132 (fun H locs hG => ?_)
      refine lv_aload_n hx hb dX2_step_135 rfl (lv_at hl 0 rfl) ?_
      refine g_getI F hG rd_44 (by decide) (by decide) lk_X2_42 rfl dX2_step_136 ?_
      refine lv_iconst (v := 1) hx hb dX2_step_139 (by decide) ?_
      refine lv_icmp_eq (tgt := 151) hx hb dX2_step_140 (by decide) (fun c13 => ?_) (fun c13 => ?_)
      · replace hf := if_t c13 hf
        exact hJ151  _ _ _ ls hf hG (lv_sub hl [0] rfl)
      · replace hf := if_f c13 hf
        refine lv_aload_n hx hb dX2_step_143 rfl (lv_at hl 0 rfl) ?_
        refine g_getI F hG rd_44 (by decide) (by decide) lk_X2_42 rfl dX2_step_144 ?_
        refine lv_iconst (v := 2) hx hb dX2_step_147 (by decide) ?_
        refine lv_icmp_ne (tgt := 155) hx hb dX2_step_148 (by decide) (fun c14 => ?_) (fun c14 => ?_)
        · replace hf := if_f c14 hf
          refine lv_iconst (v := 0) hx hb dX2_step_155 (by decide) ?_
          exact hJ156 _ _ _ _ ls hf hG (lv_sub hl [0] rfl)
        · replace hf := if_t c14 hf
          exact hJ151  _ _ _ ls hf hG (lv_sub hl [0] rfl)
    · replace hf := if_t c11 hf
      exact cg_vret F hr hlk hG hf dX2_step_106
  have hJ60 : ∀ (M : Mem) (H : Heap) (locs : List Loc) (ls : Array Slot), j_X2_step_60 n   M = some res → GI w layC 61 s.heap M H locs → lv_has ls 2 [(0, .ref (w.2.2.1 44))] → W p l e (Rm 5) s m args below meth c H locs 0 0 (MQ below (GQv w layC 61 res s.heap.size) args s 0 0 (gA w.2.2.1 61 s.heap.size)) (F0 m 60 ls []) := by
    intro  M H locs ls hf hG hl
    unfold j_X2_step_60 at hf
    refine lv_aload_n hx hb dX2_step_60 rfl (lv_at hl 0 rfl) ?_
    refine lv_aload_n hx hb dX2_step_61 rfl (lv_at hl 0 rfl) ?_
    refine g_getI F hG rd_44 (by decide) (by decide) lk_X2_36 rfl dX2_step_62 ?_
    refine g_putI F hG rd_44 (by decide) (by decide) lkv_X2_39 rfl rfl rfl dX2_step_65 (fun H locs hG => ?_)
    refine lv_aload_n hx hb dX2_step_68 rfl (lv_at hl 0 rfl) ?_
    refine lv_aload_n hx hb dX2_step_69 rfl (lv_at hl 0 rfl) ?_
    refine g_getI F hG rd_44 (by decide) (by decide) lk_X2_36 rfl dX2_step_70 ?_
    refine lv_aload_n hx hb dX2_step_73 rfl (lv_at hl 0 rfl) ?_
    refine g_getI F hG rd_44 (by decide) (by decide) lk_X2_33 rfl dX2_step_74 ?_
    refine lv_icmp_ge (tgt := 95) hx hb dX2_step_77 (by decide) (fun c15 => ?_) (fun c15 => ?_)
    · replace hf := if_t c15 hf
      refine lv_iconst (v := 0) hx hb dX2_step_95 (by decide) ?_
      exact hJ96 _ _ _ _ ls hf hG (lv_sub hl [0] rfl)
    · replace hf := if_f c15 hf
      refine lv_aload_n hx hb dX2_step_80 rfl (lv_at hl 0 rfl) ?_
      refine g_getR F hG 45 rd_44 (by decide) (by decide) lk_X2_9 rfl dX2_step_81 ?_
      refine lv_aload_n hx hb dX2_step_84 rfl (lv_at hl 0 rfl) ?_
      refine g_getI F hG rd_44 (by decide) (by decide) lk_X2_36 rfl dX2_step_85 ?_
      replace hf := ck_some hf
      obtain ⟨k16, hf⟩ := hf
      refine g_bald F hG oC_45 k16 dX2_step_88 ?_
      replace hf := bd_some hf
      obtain ⟨q17, eq17, hf⟩ := hf
      refine gx_calli hG (gx_runS (xn_ok (yc_ok w)) F hX hG (c_X2_kindOf l w  n  (gi (si M 44 6 (gi M 44 5)) 45 (gi (si M 44 6 (gi M 44 5)) 44 5).toNatClampNeg) _ _ eq17) cs_X2_91 ⟨Nat.le_of_ble_eq_true rfl, Nat.le_of_ble_eq_true rfl⟩ rfl hl.1 rfl (Nat.le_of_ble_eq_true rfl) dX2_step_89 ⟨Nat.le_refl _, Nat.le_refl _⟩) (fun H locs hG => ?_)
      refine lv_goto (tgt := 96) hx hb dX2_step_92 (by decide) ?_
      exact hJ96 _ _ _ _ ls hf hG (lv_sub hl [0] rfl)
  have hJ8 : ∀ (M : Mem) (H : Heap) (locs : List Loc) (ls : Array Slot), gl (b_X2_step_8 n  ) n (M) = some res → GI w layC 61 s.heap M H locs → lv_has ls 2 [(0, .ref (w.2.2.1 44))] → W p l e (Rm 5) s m args below meth c H locs 0 0 (MQ below (GQv w layC 61 res s.heap.size) args s 0 0 (gA w.2.2.1 61 s.heap.size)) (F0 m 8 ls []) := by
    intro  M H locs ls hf hG hl
    refine gl_run (P := fun (q : (Mem)) => ∀ (H : Heap) (locs : List Loc) (ls : Array Slot), GI w layC 61 s.heap q H locs → lv_has ls 2 [(0, .ref (w.2.2.1 44))] → W p l e (Rm 5) s m args below meth c H locs 0 0 (MQ below (GQv w layC 61 res s.heap.size) args s 0 0 (gA w.2.2.1 61 s.heap.size)) (F0 m 8 ls [])) ?_ n (M) hf H locs ls hG hl
    clear hf hG hl ls locs H M 
    rintro M rr8 hf hI8 hE8 H locs ls hG hl
    try dsimp only at hG hl ⊢
    have hJ47 : ∀ (M : Mem) (H : Heap) (locs : List Loc) (ls : Array Slot), j_X2_step_47 n   M = some rr8 → GI w layC 61 s.heap M H locs → lv_has ls 2 [(0, .ref (w.2.2.1 44))] → W p l e (Rm 5) s m args below meth c H locs 0 0 (MQ below (GQv w layC 61 res s.heap.size) args s 0 0 (gA w.2.2.1 61 s.heap.size)) (F0 m 47 ls []) := by
      intro  M H locs ls hf hG hl
      unfold j_X2_step_47 at hf
      refine lv_aload_n hx hb dX2_step_47 rfl (lv_at hl 0 rfl) ?_
      refine lv_dup hx hb dX2_step_48 rfl ?_
      refine g_getI F hG rd_44 (by decide) (by decide) lk_X2_36 rfl dX2_step_49 ?_
      refine lv_iconst (v := 1) hx hb dX2_step_52 (by decide) ?_
      refine lv_iadd hx hb dX2_step_53 ?_
      refine g_putI F hG rd_44 (by decide) (by decide) lkv_X2_36 rfl rfl rfl dX2_step_54 (fun H locs hG => ?_)
      refine lv_goto (tgt := 8) hx hb dX2_step_57 (by decide) ?_
      exact hI8 _ (Option.some.inj hf).symm _ _ ls hG (lv_sub hl [0] rfl)
    dsimp only [b_X2_step_8] at hf
    refine lv_aload_n hx hb dX2_step_8 rfl (lv_at hl 0 rfl) ?_
    refine g_getI F hG rd_44 (by decide) (by decide) lk_X2_36 rfl dX2_step_9 ?_
    refine lv_aload_n hx hb dX2_step_12 rfl (lv_at hl 0 rfl) ?_
    refine g_getI F hG rd_44 (by decide) (by decide) lk_X2_33 rfl dX2_step_13 ?_
    refine lv_icmp_ge (tgt := 60) hx hb dX2_step_16 (by decide) (fun c18 => ?_) (fun c18 => ?_)
    · replace hf := if_t c18 hf
      replace hf := mr_some hf
      obtain ⟨z8, hf, hz⟩ := hf
      rw [hE8 _ hz] at hf
      exact hJ60  _ _ _ ls hf hG (lv_sub hl [0] rfl)
    · replace hf := if_f c18 hf
      refine lv_aload_n hx hb dX2_step_19 rfl (lv_at hl 0 rfl) ?_
      refine g_getR F hG 45 rd_44 (by decide) (by decide) lk_X2_9 rfl dX2_step_20 ?_
      refine lv_aload_n hx hb dX2_step_23 rfl (lv_at hl 0 rfl) ?_
      refine g_getI F hG rd_44 (by decide) (by decide) lk_X2_36 rfl dX2_step_24 ?_
      replace hf := ck_some hf
      obtain ⟨k19, hf⟩ := hf
      refine g_bald F hG oC_45 k19 dX2_step_27 ?_
      refine lv_bipush (v := 32) hx hb dX2_step_28 (by decide) ?_
      refine lv_icmp_eq (tgt := 47) hx hb dX2_step_30 (by decide) (fun c20 => ?_) (fun c20 => ?_)
      · replace hf := if_t c20 hf
        exact hJ47  _ _ _ ls hf hG (lv_sub hl [0] rfl)
      · replace hf := if_f c20 hf
        refine lv_aload_n hx hb dX2_step_33 rfl (lv_at hl 0 rfl) ?_
        refine g_getR F hG 45 rd_44 (by decide) (by decide) lk_X2_9 rfl dX2_step_34 ?_
        refine lv_aload_n hx hb dX2_step_37 rfl (lv_at hl 0 rfl) ?_
        refine g_getI F hG rd_44 (by decide) (by decide) lk_X2_36 rfl dX2_step_38 ?_
        replace hf := ck_some hf
        obtain ⟨k21, hf⟩ := hf
        refine g_bald F hG oC_45 k21 dX2_step_41 ?_
        refine lv_bipush (v := 10) hx hb dX2_step_42 (by decide) ?_
        refine lv_icmp_ne (tgt := 60) hx hb dX2_step_44 (by decide) (fun c22 => ?_) (fun c22 => ?_)
        · replace hf := if_f c22 hf
          replace hf := mr_some hf
          obtain ⟨z8, hf, hz⟩ := hf
          rw [hE8 _ hz] at hf
          exact hJ60  _ _ _ ls hf hG (lv_sub hl [0] rfl)
        · replace hf := if_t c22 hf
          exact hJ47  _ _ _ ls hf hG (lv_sub hl [0] rfl)
  unfold f_X2_step at hf
  refine lv_aload_n hx hb dX2_step_0 rfl (lv_at hl 0 rfl) ?_
  refine lv_aload_n hx hb dX2_step_1 rfl (lv_at hl 0 rfl) ?_
  refine g_getI F hG rd_44 (by decide) (by decide) lk_X2_39 rfl dX2_step_2 ?_
  refine g_putI F hG rd_44 (by decide) (by decide) lkv_X2_36 rfl rfl rfl dX2_step_5 (fun H locs hG => ?_)
  exact hJ8  _ _ _ ls hf hG (lv_sub hl [0] rfl)

def f_X2_isSign (n : Nat) (x1 : Int32) (M : Mem) : Option (Int32 × Mem) := if (gi M 44 7) = (3 : Int32) then (if (gi M 44 9) = x1 then (some ((1 : Int32), M)) else (some ((0 : Int32), M))) else (some ((0 : Int32), M))
set_option maxHeartbeats 4000000 in
set_option maxRecDepth 100000 in
theorem c_X2_isSign (l : Launch) (w : Wd)  (n : Nat) (x1 : Int32) (M : Mem) (res : Int32 × Mem) (hf : f_X2_isSign n  x1 M = some res) : CG l w layC 61 (XN (YC w)) yX2_isSign cX2_isSign 2 (some .boolean) 0 [.ref (w.2.2.1 44), .int x1] M (GQi w layC 61 res) := by
  refine cg_start (by decide +kernel) (Nat.le_of_ble_eq_true rfl) ?_
  intro p e s m args below meth c F hr hlk hX hG ls hl
  have F : FX w p m c cX2_isSign 2 s args RX2 := F
  have hx := F.1.1
  have hb := F.1.2.1
  have hl : lv_has ls 2 [(0, .ref (w.2.2.1 44)), (1, .int x1)] := hl
  unfold f_X2_isSign at hf
  refine lv_aload_n hx hb dX2_isSign_0 rfl (lv_at hl 0 rfl) ?_
  refine g_getI F hG rd_44 (by decide) (by decide) lk_X2_42 rfl dX2_isSign_1 ?_
  refine lv_iconst (v := 3) hx hb dX2_isSign_4 (by decide) ?_
  refine lv_icmp_ne (tgt := 20) hx hb dX2_isSign_5 (by decide) (fun c1 => ?_) (fun c1 => ?_)
  · replace hf := if_f c1 hf
    refine lv_iconst (v := 0) hx hb dX2_isSign_20 (by decide) ?_
    exact cg_zret F hr hlk hG hf (Or.inl rfl) dX2_isSign_21
  · replace hf := if_t c1 hf
    refine lv_aload_n hx hb dX2_isSign_8 rfl (lv_at hl 0 rfl) ?_
    refine g_getI F hG rd_44 (by decide) (by decide) lk_X2_48 rfl dX2_isSign_9 ?_
    refine lv_iload_n hx hb dX2_isSign_12 rfl (lv_at hl 1 rfl) ?_
    refine lv_icmp_ne (tgt := 20) hx hb dX2_isSign_13 (by decide) (fun c2 => ?_) (fun c2 => ?_)
    · replace hf := if_f c2 hf
      refine lv_iconst (v := 0) hx hb dX2_isSign_20 (by decide) ?_
      exact cg_zret F hr hlk hG hf (Or.inl rfl) dX2_isSign_21
    · replace hf := if_t c2 hf
      refine lv_iconst (v := 1) hx hb dX2_isSign_16 (by decide) ?_
      refine lv_goto (tgt := 21) hx hb dX2_isSign_17 (by decide) ?_
      exact cg_zret F hr hlk hG hf (Or.inr rfl) dX2_isSign_21

def f_X2_isWord (n : Nat) (e1 : Nat) (M : Mem) : Option (Int32 × Mem) := if (gi M 44 7) = (1 : Int32) then (ck ((gi M 44 10).toNatClampNeg < 22) (if ((gi M 44 10).toNatClampNeg) = e1 then (some ((1 : Int32), M)) else (some ((0 : Int32), M)))) else (some ((0 : Int32), M))
set_option maxHeartbeats 4000000 in
set_option maxRecDepth 100000 in
theorem c_X2_isWord (l : Launch) (w : Wd)  (n : Nat) (e1 : Nat) (he1 : e1 < 22) (M : Mem) (res : Int32 × Mem) (hf : f_X2_isWord n e1  M = some res) : CG l w layC 61 (XN (YC w)) yX2_isWord cX2_isWord 2 (some .boolean) 0 [.ref (w.2.2.1 44), .ref (w.2.2.2 e1)] M (GQi w layC 61 res) := by
  refine cg_start (by decide +kernel) (Nat.le_of_ble_eq_true rfl) ?_
  intro p e s m args below meth c F hr hlk hX hG ls hl
  have F : FX w p m c cX2_isWord 2 s args RX2 := F
  obtain ⟨y1, y2, y3, y4, y5, y6, y7, y8, y9, y10, y11, y12⟩ := hX.2.2.2
  have hx := F.1.1
  have hb := F.1.2.1
  have hl : lv_has ls 2 [(0, .ref (w.2.2.1 44)), (1, .ref (w.2.2.2 e1))] := hl
  unfold f_X2_isWord at hf
  refine lv_aload_n hx hb dX2_isWord_0 rfl (lv_at hl 0 rfl) ?_
  refine g_getI F hG rd_44 (by decide) (by decide) lk_X2_42 rfl dX2_isWord_1 ?_
  refine lv_iconst (v := 1) hx hb dX2_isWord_4 (by decide) ?_
  refine lv_icmp_ne (tgt := 20) hx hb dX2_isWord_5 (by decide) (fun c1 => ?_) (fun c1 => ?_)
  · replace hf := if_f c1 hf
    refine lv_iconst (v := 0) hx hb dX2_isWord_20 (by decide) ?_
    exact cg_zret F hr hlk hG hf (Or.inl rfl) dX2_isWord_21
  · replace hf := if_t c1 hf
    refine lv_aload_n hx hb dX2_isWord_8 rfl (lv_at hl 0 rfl) ?_
    refine g_getE F hG rd_44 (by decide) (by decide) lk_X2_58 rfl dX2_isWord_9 ?_
    replace hf := ck_some hf
    obtain ⟨k2, hf⟩ := hf
    refine lv_aload_n hx hb dX2_isWord_12 rfl (lv_at hl 1 rfl) ?_
    refine lv_acmp_ne (rx := some (w.2.2.2 ((gi M 44 10).toNatClampNeg))) (ry := some (w.2.2.2 e1)) (tgt := 20) hx hb dX2_isWord_13 (by decide) (fun c3 => ?_) (fun c3 => ?_)
    · replace hf := if_f (fun e9 => c3 (by rw [e9])) hf
      refine lv_iconst (v := 0) hx hb dX2_isWord_20 (by decide) ?_
      exact cg_zret F hr hlk hG hf (Or.inl rfl) dX2_isWord_21
    · replace hf := if_t (y1.2 _ _ k2 he1 (Option.some.inj c3)) hf
      refine lv_iconst (v := 1) hx hb dX2_isWord_16 (by decide) ?_
      refine lv_goto (tgt := 21) hx hb dX2_isWord_17 (by decide) ?_
      exact cg_zret F hr hlk hG hf (Or.inr rfl) dX2_isWord_21

def j_X2_isNumber_43 (n : Nat) (M : Mem) : Option (Int32 × Mem) := bd (f_X2_fail n  (2 : Int32) M) (fun q1 => ck (q1.1 = 0 ∨ q1.1 = 1) (some (q1.1, q1.2)))
def f_X2_isNumber (n : Nat) (x1 : Int32) (x2 : Int32) (M : Mem) : Option (Int32 × Mem) := if (gi M 44 7) = (2 : Int32) then (if (4 : Int32) < ((gi M 44 6) - (gi M 44 5)) then (j_X2_isNumber_43 n  M) else (if (gi M 44 8) < x1 then (j_X2_isNumber_43 n  M) else (if (gi M 44 8) ≤ x2 then (some ((1 : Int32), M)) else (j_X2_isNumber_43 n  M)))) else (bd (f_X2_fail n  (1 : Int32) M) (fun q7 => ck (q7.1 = 0 ∨ q7.1 = 1) (some (q7.1, q7.2))))
set_option maxHeartbeats 4000000 in
set_option maxRecDepth 100000 in
theorem c_X2_isNumber (l : Launch) (w : Wd)  (n : Nat) (x1 : Int32) (x2 : Int32) (M : Mem) (res : Int32 × Mem) (hf : f_X2_isNumber n  x1 x2 M = some res) : CG l w layC 61 (XN (YC w)) yX2_isNumber cX2_isNumber 3 (some .boolean) 1 [.ref (w.2.2.1 44), .int x1, .int x2] M (GQi w layC 61 res) := by
  refine cg_start (by decide +kernel) (Nat.le_of_ble_eq_true rfl) ?_
  intro p e s m args below meth c F hr hlk hX hG ls hl
  have F : FX w p m c cX2_isNumber 3 s args RX2 := F
  have hx := F.1.1
  have hb := F.1.2.1
  have hl : lv_has ls 3 [(0, .ref (w.2.2.1 44)), (1, .int x1), (2, .int x2)] := hl
  have hJ43 : ∀ (M : Mem) (H : Heap) (locs : List Loc) (ls : Array Slot), j_X2_isNumber_43 n   M = some res → GI w layC 61 s.heap M H locs → lv_has ls 3 [(0, .ref (w.2.2.1 44))] → W p l e (Rm 1) s m args below meth c H locs 0 0 (MQ below (GQi w layC 61 res s.heap.size) args s 0 0 (gA w.2.2.1 61 s.heap.size)) (F0 m 43 ls []) := by
    intro  M H locs ls hf hG hl
    unfold j_X2_isNumber_43 at hf
    refine lv_aload_n hx hb dX2_isNumber_43 rfl (lv_at hl 0 rfl) ?_
    refine lv_iconst (v := 2) hx hb dX2_isNumber_44 (by decide) ?_
    replace hf := bd_some hf
    obtain ⟨q1, eq1, hf⟩ := hf
    refine gx_calli hG (gx_runV (xn_ok (yc_ok w)) F hX hG (c_X2_fail l w  n  (2 : Int32) _ _ eq1) cv_X2_111 ⟨Nat.le_of_ble_eq_true rfl, Nat.le_of_ble_eq_true rfl⟩ (g_recv F hG rd_44 (by decide) rfl) rfl hl.1 rfl (Nat.le_of_ble_eq_true rfl) dX2_isNumber_45 ⟨Nat.le_refl _, Nat.le_refl _⟩) (fun H locs hG => ?_)
    replace hf := ck_some hf
    obtain ⟨k2, hf⟩ := hf
    exact cg_zret F hr hlk hG hf k2 dX2_isNumber_48
  unfold f_X2_isNumber at hf
  refine lv_aload_n hx hb dX2_isNumber_0 rfl (lv_at hl 0 rfl) ?_
  refine g_getI F hG rd_44 (by decide) (by decide) lk_X2_42 rfl dX2_isNumber_1 ?_
  refine lv_iconst (v := 2) hx hb dX2_isNumber_4 (by decide) ?_
  refine lv_icmp_eq (tgt := 14) hx hb dX2_isNumber_5 (by decide) (fun c3 => ?_) (fun c3 => ?_)
  · replace hf := if_t c3 hf
    refine lv_aload_n hx hb dX2_isNumber_14 rfl (lv_at hl 0 rfl) ?_
    refine g_getI F hG rd_44 (by decide) (by decide) lk_X2_39 rfl dX2_isNumber_15 ?_
    refine lv_aload_n hx hb dX2_isNumber_18 rfl (lv_at hl 0 rfl) ?_
    refine g_getI F hG rd_44 (by decide) (by decide) lk_X2_36 rfl dX2_isNumber_19 ?_
    refine lv_isub hx hb dX2_isNumber_22 ?_
    refine lv_iconst (v := 4) hx hb dX2_isNumber_23 (by decide) ?_
    refine lv_icmp_gt (tgt := 43) hx hb dX2_isNumber_24 (by decide) (fun c4 => ?_) (fun c4 => ?_)
    · replace hf := if_t c4 hf
      exact hJ43  _ _ _ ls hf hG (lv_sub hl [0] rfl)
    · replace hf := if_f c4 hf
      refine lv_aload_n hx hb dX2_isNumber_27 rfl (lv_at hl 0 rfl) ?_
      refine g_getI F hG rd_44 (by decide) (by decide) lk_X2_45 rfl dX2_isNumber_28 ?_
      refine lv_iload_n hx hb dX2_isNumber_31 rfl (lv_at hl 1 rfl) ?_
      refine lv_icmp_lt (tgt := 43) hx hb dX2_isNumber_32 (by decide) (fun c5 => ?_) (fun c5 => ?_)
      · replace hf := if_t c5 hf
        exact hJ43  _ _ _ ls hf hG (lv_sub hl [0] rfl)
      · replace hf := if_f c5 hf
        refine lv_aload_n hx hb dX2_isNumber_35 rfl (lv_at hl 0 rfl) ?_
        refine g_getI F hG rd_44 (by decide) (by decide) lk_X2_45 rfl dX2_isNumber_36 ?_
        refine lv_iload_n hx hb dX2_isNumber_39 rfl (lv_at hl 2 rfl) ?_
        refine lv_icmp_le (tgt := 49) hx hb dX2_isNumber_40 (by decide) (fun c6 => ?_) (fun c6 => ?_)
        · replace hf := if_t c6 hf
          refine lv_iconst (v := 1) hx hb dX2_isNumber_49 (by decide) ?_
          exact cg_zret F hr hlk hG hf (Or.inr rfl) dX2_isNumber_50
        · replace hf := if_f c6 hf
          exact hJ43  _ _ _ ls hf hG (lv_sub hl [0] rfl)
  · replace hf := if_f c3 hf
    refine lv_aload_n hx hb dX2_isNumber_8 rfl (lv_at hl 0 rfl) ?_
    refine lv_iconst (v := 1) hx hb dX2_isNumber_9 (by decide) ?_
    replace hf := bd_some hf
    obtain ⟨q7, eq7, hf⟩ := hf
    refine gx_calli hG (gx_runV (xn_ok (yc_ok w)) F hX hG (c_X2_fail l w  n  (1 : Int32) _ _ eq7) cv_X2_111 ⟨Nat.le_of_ble_eq_true rfl, Nat.le_of_ble_eq_true rfl⟩ (g_recv F hG rd_44 (by decide) rfl) rfl hl.1 rfl (Nat.le_of_ble_eq_true rfl) dX2_isNumber_10 ⟨Nat.le_refl _, Nat.le_refl _⟩) (fun H locs hG => ?_)
    replace hf := ck_some hf
    obtain ⟨k8, hf⟩ := hf
    exact cg_zret F hr hlk hG hf k8 dX2_isNumber_13

def f_X2_endLine (n : Nat) (M : Mem) : Option (Int32 × Mem) := bd (f_X2_isSign n  (59 : Int32) M) (fun q1 => if q1.1 = 0 then (bd (f_X2_fail n  (1 : Int32) q1.2) (fun q3 => ck (q3.1 = 0 ∨ q3.1 = 1) (some (q3.1, q3.2)))) else (bd (f_X2_step n   q1.2) (fun q5 => some ((1 : Int32), q5))))
set_option maxHeartbeats 4000000 in
set_option maxRecDepth 100000 in
theorem c_X2_endLine (l : Launch) (w : Wd)  (n : Nat) (M : Mem) (res : Int32 × Mem) (hf : f_X2_endLine n   M = some res) : CG l w layC 61 (XN (YC w)) yX2_endLine cX2_endLine 1 (some .boolean) 6 [.ref (w.2.2.1 44)] M (GQi w layC 61 res) := by
  refine cg_start (by decide +kernel) (Nat.le_of_ble_eq_true rfl) ?_
  intro p e s m args below meth c F hr hlk hX hG ls hl
  have F : FX w p m c cX2_endLine 1 s args RX2 := F
  have hx := F.1.1
  have hb := F.1.2.1
  have hl : lv_has ls 1 [(0, .ref (w.2.2.1 44))] := hl
  unfold f_X2_endLine at hf
  refine lv_aload_n hx hb dX2_endLine_0 rfl (lv_at hl 0 rfl) ?_
  refine lv_bipush (v := 59) hx hb dX2_endLine_1 (by decide) ?_
  replace hf := bd_some hf
  obtain ⟨q1, eq1, hf⟩ := hf
  refine gx_calli hG (gx_runV (xn_ok (yc_ok w)) F hX hG (c_X2_isSign l w  n  (59 : Int32) _ _ eq1) cv_X2_189 ⟨Nat.le_of_ble_eq_true rfl, Nat.le_of_ble_eq_true rfl⟩ (g_recv F hG rd_44 (by decide) rfl) rfl hl.1 rfl (Nat.le_of_ble_eq_true rfl) dX2_endLine_3 ⟨Nat.le_refl _, Nat.le_refl _⟩) (fun H locs hG => ?_)
  refine lv_if_ne (tgt := 15) hx hb dX2_endLine_6 (by decide) (fun c2 => ?_) (fun c2 => ?_)
  · replace hf := if_f c2 hf
    refine lv_aload_n hx hb dX2_endLine_15 rfl (lv_at hl 0 rfl) ?_
    replace hf := bd_some hf
    obtain ⟨q5, eq5, hf⟩ := hf
    refine gx_callv hG (gx_runV (xn_ok (yc_ok w)) F hX hG (c_X2_step l w  n   _ _ eq5) cv_X2_84 ⟨Nat.le_of_ble_eq_true rfl, Nat.le_of_ble_eq_true rfl⟩ (g_recv F hG rd_44 (by decide) rfl) rfl hl.1 rfl (Nat.le_of_ble_eq_true rfl) dX2_endLine_16 ⟨Nat.le_refl _, Nat.le_refl _⟩) (fun H locs hG => ?_)
    refine lv_iconst (v := 1) hx hb dX2_endLine_19 (by decide) ?_
    exact cg_zret F hr hlk hG hf (Or.inr rfl) dX2_endLine_20
  · replace hf := if_t c2 hf
    refine lv_aload_n hx hb dX2_endLine_9 rfl (lv_at hl 0 rfl) ?_
    refine lv_iconst (v := 1) hx hb dX2_endLine_10 (by decide) ?_
    replace hf := bd_some hf
    obtain ⟨q3, eq3, hf⟩ := hf
    refine gx_calli hG (gx_runV (xn_ok (yc_ok w)) F hX hG (c_X2_fail l w  n  (1 : Int32) _ _ eq3) cv_X2_111 ⟨Nat.le_of_ble_eq_true rfl, Nat.le_of_ble_eq_true rfl⟩ (g_recv F hG rd_44 (by decide) rfl) rfl hl.1 rfl (Nat.le_of_ble_eq_true rfl) dX2_endLine_11 ⟨Nat.le_refl _, Nat.le_refl _⟩) (fun H locs hG => ?_)
    replace hf := ck_some hf
    obtain ⟨k4, hf⟩ := hf
    exact cg_zret F hr hlk hG hf k4 dX2_endLine_14

def f_X2_isToldWard (n : Nat) (M : Mem) : Option (Int32 × Mem) := bd (f_X2_isNumber n  (0 : Int32) (9999 : Int32) M) (fun q1 => if q1.1 = 0 then (some ((0 : Int32), q1.2)) else (if (gi q1.2 44 8) < (gi q1.2 28 7) then (some ((1 : Int32), q1.2)) else (bd (f_X2_fail n  (3 : Int32) q1.2) (fun q4 => if q4.1 = 0 then (some ((0 : Int32), q4.2)) else (some ((1 : Int32), q4.2))))))
set_option maxHeartbeats 4000000 in
set_option maxRecDepth 100000 in
theorem c_X2_isToldWard (l : Launch) (w : Wd)  (n : Nat) (M : Mem) (res : Int32 × Mem) (hf : f_X2_isToldWard n   M = some res) : CG l w layC 61 (XN (YC w)) yX2_isToldWard cX2_isToldWard 1 (some .boolean) 2 [.ref (w.2.2.1 44)] M (GQi w layC 61 res) := by
  refine cg_start (by decide +kernel) (Nat.le_of_ble_eq_true rfl) ?_
  intro p e s m args below meth c F hr hlk hX hG ls hl
  have F : FX w p m c cX2_isToldWard 1 s args RX2 := F
  have hx := F.1.1
  have hb := F.1.2.1
  have hl : lv_has ls 1 [(0, .ref (w.2.2.1 44))] := hl
  unfold f_X2_isToldWard at hf
  refine lv_aload_n hx hb dX2_isToldWard_0 rfl (lv_at hl 0 rfl) ?_
  refine lv_iconst (v := 0) hx hb dX2_isToldWard_1 (by decide) ?_
  refine lv_sipush (v := 9999) hx hb dX2_isToldWard_2 (by decide) ?_
  replace hf := bd_some hf
  obtain ⟨q1, eq1, hf⟩ := hf
  refine gx_calli hG (gx_runV (xn_ok (yc_ok w)) F hX hG (c_X2_isNumber l w  n  (0 : Int32) (9999 : Int32) _ _ eq1) cv_X2_149 ⟨Nat.le_of_ble_eq_true rfl, Nat.le_of_ble_eq_true rfl⟩ (g_recv F hG rd_44 (by decide) rfl) rfl hl.1 rfl (Nat.le_of_ble_eq_true rfl) dX2_isToldWard_5 ⟨Nat.le_refl _, Nat.le_refl _⟩) (fun H locs hG => ?_)
  refine lv_if_ne (tgt := 13) hx hb dX2_isToldWard_8 (by decide) (fun c2 => ?_) (fun c2 => ?_)
  · replace hf := if_f c2 hf
    refine lv_aload_n hx hb dX2_isToldWard_13 rfl (lv_at hl 0 rfl) ?_
    refine g_getI F hG rd_44 (by decide) (by decide) lk_X2_45 rfl dX2_isToldWard_14 ?_
    refine lv_aload_n hx hb dX2_isToldWard_17 rfl (lv_at hl 0 rfl) ?_
    refine g_getR F hG 28 rd_44 (by decide) (by decide) lk_X2_18 rfl dX2_isToldWard_18 ?_
    refine g_getI F hG st_28.1 (by decide) (by decide) lk_X2_166 rfl dX2_isToldWard_21 ?_
    refine lv_icmp_lt (tgt := 35) hx hb dX2_isToldWard_24 (by decide) (fun c3 => ?_) (fun c3 => ?_)
    · replace hf := if_t c3 hf
      refine lv_iconst (v := 1) hx hb dX2_isToldWard_35 (by decide) ?_
      refine lv_goto (tgt := 40) hx hb dX2_isToldWard_36 (by decide) ?_
      exact cg_zret F hr hlk hG hf (Or.inr rfl) dX2_isToldWard_40
    · replace hf := if_f c3 hf
      refine lv_aload_n hx hb dX2_isToldWard_27 rfl (lv_at hl 0 rfl) ?_
      refine lv_iconst (v := 3) hx hb dX2_isToldWard_28 (by decide) ?_
      replace hf := bd_some hf
      obtain ⟨q4, eq4, hf⟩ := hf
      refine gx_calli hG (gx_runV (xn_ok (yc_ok w)) F hX hG (c_X2_fail l w  n  (3 : Int32) _ _ eq4) cv_X2_111 ⟨Nat.le_of_ble_eq_true rfl, Nat.le_of_ble_eq_true rfl⟩ (g_recv F hG rd_44 (by decide) rfl) rfl hl.1 rfl (Nat.le_of_ble_eq_true rfl) dX2_isToldWard_29 ⟨Nat.le_refl _, Nat.le_refl _⟩) (fun H locs hG => ?_)
      refine lv_if_eq (tgt := 39) hx hb dX2_isToldWard_32 (by decide) (fun c5 => ?_) (fun c5 => ?_)
      · replace hf := if_t c5 hf
        refine lv_iconst (v := 0) hx hb dX2_isToldWard_39 (by decide) ?_
        exact cg_zret F hr hlk hG hf (Or.inl rfl) dX2_isToldWard_40
      · replace hf := if_f c5 hf
        refine lv_iconst (v := 1) hx hb dX2_isToldWard_35 (by decide) ?_
        refine lv_goto (tgt := 40) hx hb dX2_isToldWard_36 (by decide) ?_
        exact cg_zret F hr hlk hG hf (Or.inr rfl) dX2_isToldWard_40
  · replace hf := if_t c2 hf
    refine lv_iconst (v := 0) hx hb dX2_isToldWard_11 (by decide) ?_
    exact cg_zret F hr hlk hG hf (Or.inl rfl) dX2_isToldWard_12

def f_X2_readCourse (n : Nat) (x1 : Int32) (M : Mem) : Option (Int32 × Mem) := if (gi M 28 5) < (16 : Int32) then (bd (f_X2_step n   M) (fun q2 => bd (f_X2_isNumber n  (1 : Int32) (9 : Int32) q2) (fun q3 => if q3.1 = 0 then (some ((0 : Int32), q3.2)) else (bd (f_X2_step n   q3.2) (fun q5 => bd (f_X2_isNumber n  (0 : Int32) (9 : Int32) q5) (fun q6 => if q6.1 = 0 then (some ((0 : Int32), q6.2)) else (bd (f_X4_addCourse n 28 (gi q3.2 44 8) (gi q6.2 44 8) x1 q6.2) (fun q8 => bd (f_X2_step n   q8) (fun q9 => bd (f_X2_endLine n   q9) (fun q10 => ck (q10.1 = 0 ∨ q10.1 = 1) (some (q10.1, q10.2)))))))))))) else (bd (f_X2_fail n  (2 : Int32) M) (fun q12 => ck (q12.1 = 0 ∨ q12.1 = 1) (some (q12.1, q12.2))))
set_option maxHeartbeats 4000000 in
set_option maxRecDepth 100000 in
theorem c_X2_readCourse (l : Launch) (w : Wd)  (n : Nat) (x1 : Int32) (M : Mem) (res : Int32 × Mem) (hf : f_X2_readCourse n  x1 M = some res) : CG l w layC 61 (XN (YC w)) yX2_readCourse cX2_readCourse 3 (some .boolean) 7 [.ref (w.2.2.1 44), .int x1] M (GQi w layC 61 res) := by
  refine cg_start (by decide +kernel) (Nat.le_of_ble_eq_true rfl) ?_
  intro p e s m args below meth c F hr hlk hX hG ls hl
  have F : FX w p m c cX2_readCourse 3 s args RX2 := F
  have hx := F.1.1
  have hb := F.1.2.1
  have hl : lv_has ls 3 [(0, .ref (w.2.2.1 44)), (1, .int x1)] := hl
  unfold f_X2_readCourse at hf
  refine lv_aload_n hx hb dX2_readCourse_0 rfl (lv_at hl 0 rfl) ?_
  refine g_getR F hG 28 rd_44 (by decide) (by decide) lk_X2_18 rfl dX2_readCourse_1 ?_
  refine g_getI F hG st_28.1 (by decide) (by decide) lk_X2_146 rfl dX2_readCourse_4 ?_
  refine lv_bipush (v := 16) hx hb dX2_readCourse_7 (by decide) ?_
  refine lv_icmp_lt (tgt := 18) hx hb dX2_readCourse_9 (by decide) (fun c1 => ?_) (fun c1 => ?_)
  · replace hf := if_t c1 hf
    refine lv_aload_n hx hb dX2_readCourse_18 rfl (lv_at hl 0 rfl) ?_
    replace hf := bd_some hf
    obtain ⟨q2, eq2, hf⟩ := hf
    refine gx_callv hG (gx_runV (xn_ok (yc_ok w)) F hX hG (c_X2_step l w  n   _ _ eq2) cv_X2_84 ⟨Nat.le_of_ble_eq_true rfl, Nat.le_of_ble_eq_true rfl⟩ (g_recv F hG rd_44 (by decide) rfl) rfl hl.1 rfl (Nat.le_of_ble_eq_true rfl) dX2_readCourse_19 ⟨Nat.le_refl _, Nat.le_refl _⟩) (fun H locs hG => ?_)
    refine lv_aload_n hx hb dX2_readCourse_22 rfl (lv_at hl 0 rfl) ?_
    refine lv_iconst (v := 1) hx hb dX2_readCourse_23 (by decide) ?_
    refine lv_bipush (v := 9) hx hb dX2_readCourse_24 (by decide) ?_
    replace hf := bd_some hf
    obtain ⟨q3, eq3, hf⟩ := hf
    refine gx_calli hG (gx_runV (xn_ok (yc_ok w)) F hX hG (c_X2_isNumber l w  n  (1 : Int32) (9 : Int32) _ _ eq3) cv_X2_149 ⟨Nat.le_of_ble_eq_true rfl, Nat.le_of_ble_eq_true rfl⟩ (g_recv F hG rd_44 (by decide) rfl) rfl hl.1 rfl (Nat.le_of_ble_eq_true rfl) dX2_readCourse_26 ⟨Nat.le_refl _, Nat.le_refl _⟩) (fun H locs hG => ?_)
    refine lv_if_ne (tgt := 34) hx hb dX2_readCourse_29 (by decide) (fun c4 => ?_) (fun c4 => ?_)
    · replace hf := if_f c4 hf
      refine lv_aload_n hx hb dX2_readCourse_34 rfl (lv_at hl 0 rfl) ?_
      refine g_getI F hG rd_44 (by decide) (by decide) lk_X2_45 rfl dX2_readCourse_35 ?_
      refine lv_istore_n (lv' := [(2, .int (gi q3.2 44 8)), (0, .ref (w.2.2.1 44)), (1, .int x1)]) hx hb dX2_readCourse_38 rfl hl (by decide) rfl (fun ls hl => ?_)
      refine lv_aload_n hx hb dX2_readCourse_39 rfl (lv_at hl 1 rfl) ?_
      replace hf := bd_some hf
      obtain ⟨q5, eq5, hf⟩ := hf
      refine gx_callv hG (gx_runV (xn_ok (yc_ok w)) F hX hG (c_X2_step l w  n   _ _ eq5) cv_X2_84 ⟨Nat.le_of_ble_eq_true rfl, Nat.le_of_ble_eq_true rfl⟩ (g_recv F hG rd_44 (by decide) rfl) rfl hl.1 rfl (Nat.le_of_ble_eq_true rfl) dX2_readCourse_40 ⟨Nat.le_refl _, Nat.le_refl _⟩) (fun H locs hG => ?_)
      refine lv_aload_n hx hb dX2_readCourse_43 rfl (lv_at hl 1 rfl) ?_
      refine lv_iconst (v := 0) hx hb dX2_readCourse_44 (by decide) ?_
      refine lv_bipush (v := 9) hx hb dX2_readCourse_45 (by decide) ?_
      replace hf := bd_some hf
      obtain ⟨q6, eq6, hf⟩ := hf
      refine gx_calli hG (gx_runV (xn_ok (yc_ok w)) F hX hG (c_X2_isNumber l w  n  (0 : Int32) (9 : Int32) _ _ eq6) cv_X2_149 ⟨Nat.le_of_ble_eq_true rfl, Nat.le_of_ble_eq_true rfl⟩ (g_recv F hG rd_44 (by decide) rfl) rfl hl.1 rfl (Nat.le_of_ble_eq_true rfl) dX2_readCourse_47 ⟨Nat.le_refl _, Nat.le_refl _⟩) (fun H locs hG => ?_)
      refine lv_if_ne (tgt := 55) hx hb dX2_readCourse_50 (by decide) (fun c7 => ?_) (fun c7 => ?_)
      · replace hf := if_f c7 hf
        refine lv_aload_n hx hb dX2_readCourse_55 rfl (lv_at hl 1 rfl) ?_
        refine g_getR F hG 28 rd_44 (by decide) (by decide) lk_X2_18 rfl dX2_readCourse_56 ?_
        refine lv_iload_n hx hb dX2_readCourse_59 rfl (lv_at hl 0 rfl) ?_
        refine lv_aload_n hx hb dX2_readCourse_60 rfl (lv_at hl 1 rfl) ?_
        refine g_getI F hG rd_44 (by decide) (by decide) lk_X2_45 rfl dX2_readCourse_61 ?_
        refine lv_iload_n hx hb dX2_readCourse_64 rfl (lv_at hl 2 rfl) ?_
        replace hf := bd_some hf
        obtain ⟨q8, eq8, hf⟩ := hf
        refine gx_callv hG (gx_runV (xn_ok (yc_ok w)) F hX hG (c_X4_addCourse l w (yc_ok w) n 28 st_28 (gi q3.2 44 8) (gi q6.2 44 8) x1 _ _ eq8) cv_X2_153 ⟨Nat.le_of_ble_eq_true rfl, Nat.le_of_ble_eq_true rfl⟩ (g_recv F hG st_28.1 (by decide) rfl) rfl hl.1 rfl (Nat.le_of_ble_eq_true rfl) dX2_readCourse_65 ⟨Nat.le_refl _, Nat.le_refl _⟩) (fun H locs hG => ?_)
        refine lv_aload_n hx hb dX2_readCourse_68 rfl (lv_at hl 1 rfl) ?_
        replace hf := bd_some hf
        obtain ⟨q9, eq9, hf⟩ := hf
        refine gx_callv hG (gx_runV (xn_ok (yc_ok w)) F hX hG (c_X2_step l w  n   _ _ eq9) cv_X2_84 ⟨Nat.le_of_ble_eq_true rfl, Nat.le_of_ble_eq_true rfl⟩ (g_recv F hG rd_44 (by decide) rfl) rfl hl.1 rfl (Nat.le_of_ble_eq_true rfl) dX2_readCourse_69 ⟨Nat.le_refl _, Nat.le_refl _⟩) (fun H locs hG => ?_)
        refine lv_aload_n hx hb dX2_readCourse_72 rfl (lv_at hl 1 rfl) ?_
        replace hf := bd_some hf
        obtain ⟨q10, eq10, hf⟩ := hf
        refine gx_calli hG (gx_runV (xn_ok (yc_ok w)) F hX hG (c_X2_endLine l w  n   _ _ eq10) cv_X2_157 ⟨Nat.le_of_ble_eq_true rfl, Nat.le_of_ble_eq_true rfl⟩ (g_recv F hG rd_44 (by decide) rfl) rfl hl.1 rfl (Nat.le_of_ble_eq_true rfl) dX2_readCourse_73 ⟨Nat.le_refl _, Nat.le_refl _⟩) (fun H locs hG => ?_)
        replace hf := ck_some hf
        obtain ⟨k11, hf⟩ := hf
        exact cg_zret F hr hlk hG hf k11 dX2_readCourse_76
      · replace hf := if_t c7 hf
        refine lv_iconst (v := 0) hx hb dX2_readCourse_53 (by decide) ?_
        exact cg_zret F hr hlk hG hf (Or.inl rfl) dX2_readCourse_54
    · replace hf := if_t c4 hf
      refine lv_iconst (v := 0) hx hb dX2_readCourse_32 (by decide) ?_
      exact cg_zret F hr hlk hG hf (Or.inl rfl) dX2_readCourse_33
  · replace hf := if_f c1 hf
    refine lv_aload_n hx hb dX2_readCourse_12 rfl (lv_at hl 0 rfl) ?_
    refine lv_iconst (v := 2) hx hb dX2_readCourse_13 (by decide) ?_
    replace hf := bd_some hf
    obtain ⟨q12, eq12, hf⟩ := hf
    refine gx_calli hG (gx_runV (xn_ok (yc_ok w)) F hX hG (c_X2_fail l w  n  (2 : Int32) _ _ eq12) cv_X2_111 ⟨Nat.le_of_ble_eq_true rfl, Nat.le_of_ble_eq_true rfl⟩ (g_recv F hG rd_44 (by decide) rfl) rfl hl.1 rfl (Nat.le_of_ble_eq_true rfl) dX2_readCourse_14 ⟨Nat.le_refl _, Nat.le_refl _⟩) (fun H locs hG => ?_)
    replace hf := ck_some hf
    obtain ⟨k13, hf⟩ := hf
    exact cg_zret F hr hlk hG hf k13 dX2_readCourse_17

def f_X2_readGround (n : Nat) (M : Mem) : Option (Int32 × Mem) := if (gi M 44 13) = 0 then (bd (f_X2_step n   (si M 44 13 (1 : Int32))) (fun q2 => bd (f_X2_isNumber n  (2 : Int32) (16 : Int32) q2) (fun q3 => if q3.1 = 0 then (some ((0 : Int32), q3.2)) else (ck (isTwB ((gi q3.2 44 2).toNatClampNeg)) (bd (f_X2_step n   (si q3.2 ((gi q3.2 44 2).toNatClampNeg) 8 (gi q3.2 44 8))) (fun q6 => bd (f_X2_endLine n   q6) (fun q7 => ck (q7.1 = 0 ∨ q7.1 = 1) (some (q7.1, q7.2))))))))) else (bd (f_X2_fail n  (5 : Int32) M) (fun q9 => ck (q9.1 = 0 ∨ q9.1 = 1) (some (q9.1, q9.2))))
set_option maxHeartbeats 4000000 in
set_option maxRecDepth 100000 in
theorem c_X2_readGround (l : Launch) (w : Wd)  (n : Nat) (M : Mem) (res : Int32 × Mem) (hf : f_X2_readGround n   M = some res) : CG l w layC 61 (XN (YC w)) yX2_readGround cX2_readGround 1 (some .boolean) 7 [.ref (w.2.2.1 44)] M (GQi w layC 61 res) := by
  refine cg_start (by decide +kernel) (Nat.le_of_ble_eq_true rfl) ?_
  intro p e s m args below meth c F hr hlk hX hG ls hl
  have F : FX w p m c cX2_readGround 1 s args RX2 := F
  have hx := F.1.1
  have hb := F.1.2.1
  have hl : lv_has ls 1 [(0, .ref (w.2.2.1 44))] := hl
  unfold f_X2_readGround at hf
  refine lv_aload_n hx hb dX2_readGround_0 rfl (lv_at hl 0 rfl) ?_
  refine g_getI F hG rd_44 (by decide) (by decide) lk_X2_67 rfl dX2_readGround_1 ?_
  refine lv_if_eq (tgt := 13) hx hb dX2_readGround_4 (by decide) (fun c1 => ?_) (fun c1 => ?_)
  · replace hf := if_t c1 hf
    refine lv_aload_n hx hb dX2_readGround_13 rfl (lv_at hl 0 rfl) ?_
    refine lv_iconst (v := 1) hx hb dX2_readGround_14 (by decide) ?_
    refine g_putI F hG rd_44 (by decide) (by decide) lkv_X2_67 rfl rfl rfl dX2_readGround_15 (fun H locs hG => ?_)
    refine lv_aload_n hx hb dX2_readGround_18 rfl (lv_at hl 0 rfl) ?_
    replace hf := bd_some hf
    obtain ⟨q2, eq2, hf⟩ := hf
    refine gx_callv hG (gx_runV (xn_ok (yc_ok w)) F hX hG (c_X2_step l w  n   _ _ eq2) cv_X2_84 ⟨Nat.le_of_ble_eq_true rfl, Nat.le_of_ble_eq_true rfl⟩ (g_recv F hG rd_44 (by decide) rfl) rfl hl.1 rfl (Nat.le_of_ble_eq_true rfl) dX2_readGround_19 ⟨Nat.le_refl _, Nat.le_refl _⟩) (fun H locs hG => ?_)
    refine lv_aload_n hx hb dX2_readGround_22 rfl (lv_at hl 0 rfl) ?_
    refine lv_iconst (v := 2) hx hb dX2_readGround_23 (by decide) ?_
    refine lv_bipush (v := 16) hx hb dX2_readGround_24 (by decide) ?_
    replace hf := bd_some hf
    obtain ⟨q3, eq3, hf⟩ := hf
    refine gx_calli hG (gx_runV (xn_ok (yc_ok w)) F hX hG (c_X2_isNumber l w  n  (2 : Int32) (16 : Int32) _ _ eq3) cv_X2_149 ⟨Nat.le_of_ble_eq_true rfl, Nat.le_of_ble_eq_true rfl⟩ (g_recv F hG rd_44 (by decide) rfl) rfl hl.1 rfl (Nat.le_of_ble_eq_true rfl) dX2_readGround_26 ⟨Nat.le_refl _, Nat.le_refl _⟩) (fun H locs hG => ?_)
    refine lv_if_ne (tgt := 34) hx hb dX2_readGround_29 (by decide) (fun c4 => ?_) (fun c4 => ?_)
    · replace hf := if_f c4 hf
      refine lv_aload_n hx hb dX2_readGround_34 rfl (lv_at hl 0 rfl) ?_
      replace hf := ck_some hf
      obtain ⟨k5, hf⟩ := hf
      refine g_getM F hG rd_44 (by decide) (by decide) lk_X2_25 rfl dX2_readGround_35 ?_
      refine lv_aload_n hx hb dX2_readGround_38 rfl (lv_at hl 0 rfl) ?_
      refine g_getI F hG rd_44 (by decide) (by decide) lk_X2_45 rfl dX2_readGround_39 ?_
      refine g_putI F hG (tw_of k5).1 (by decide) (by decide) lkv_X2_160 rfl rfl rfl dX2_readGround_42 (fun H locs hG => ?_)
      refine lv_aload_n hx hb dX2_readGround_45 rfl (lv_at hl 0 rfl) ?_
      replace hf := bd_some hf
      obtain ⟨q6, eq6, hf⟩ := hf
      refine gx_callv hG (gx_runV (xn_ok (yc_ok w)) F hX hG (c_X2_step l w  n   _ _ eq6) cv_X2_84 ⟨Nat.le_of_ble_eq_true rfl, Nat.le_of_ble_eq_true rfl⟩ (g_recv F hG rd_44 (by decide) rfl) rfl hl.1 rfl (Nat.le_of_ble_eq_true rfl) dX2_readGround_46 ⟨Nat.le_refl _, Nat.le_refl _⟩) (fun H locs hG => ?_)
      refine lv_aload_n hx hb dX2_readGround_49 rfl (lv_at hl 0 rfl) ?_
      replace hf := bd_some hf
      obtain ⟨q7, eq7, hf⟩ := hf
      refine gx_calli hG (gx_runV (xn_ok (yc_ok w)) F hX hG (c_X2_endLine l w  n   _ _ eq7) cv_X2_157 ⟨Nat.le_of_ble_eq_true rfl, Nat.le_of_ble_eq_true rfl⟩ (g_recv F hG rd_44 (by decide) rfl) rfl hl.1 rfl (Nat.le_of_ble_eq_true rfl) dX2_readGround_50 ⟨Nat.le_refl _, Nat.le_refl _⟩) (fun H locs hG => ?_)
      replace hf := ck_some hf
      obtain ⟨k8, hf⟩ := hf
      exact cg_zret F hr hlk hG hf k8 dX2_readGround_53
    · replace hf := if_t c4 hf
      refine lv_iconst (v := 0) hx hb dX2_readGround_32 (by decide) ?_
      exact cg_zret F hr hlk hG hf (Or.inl rfl) dX2_readGround_33
  · replace hf := if_f c1 hf
    refine lv_aload_n hx hb dX2_readGround_7 rfl (lv_at hl 0 rfl) ?_
    refine lv_iconst (v := 5) hx hb dX2_readGround_8 (by decide) ?_
    replace hf := bd_some hf
    obtain ⟨q9, eq9, hf⟩ := hf
    refine gx_calli hG (gx_runV (xn_ok (yc_ok w)) F hX hG (c_X2_fail l w  n  (5 : Int32) _ _ eq9) cv_X2_111 ⟨Nat.le_of_ble_eq_true rfl, Nat.le_of_ble_eq_true rfl⟩ (g_recv F hG rd_44 (by decide) rfl) rfl hl.1 rfl (Nat.le_of_ble_eq_true rfl) dX2_readGround_9 ⟨Nat.le_refl _, Nat.le_refl _⟩) (fun H locs hG => ?_)
    replace hf := ck_some hf
    obtain ⟨k10, hf⟩ := hf
    exact cg_zret F hr hlk hG hf k10 dX2_readGround_12

def f_X2_readCost (n : Nat) (M : Mem) : Option (Int32 × Mem) := if (gi M 44 14) = 0 then (bd (f_X2_step n   (si M 44 14 (1 : Int32))) (fun q2 => bd (f_X2_isNumber n  (1 : Int32) (99 : Int32) q2) (fun q3 => if q3.1 = 0 then (some ((0 : Int32), q3.2)) else (ck (isTwB ((gi q3.2 44 2).toNatClampNeg)) (bd (f_X2_step n   (si q3.2 ((gi q3.2 44 2).toNatClampNeg) 9 (gi q3.2 44 8))) (fun q6 => bd (f_X2_endLine n   q6) (fun q7 => ck (q7.1 = 0 ∨ q7.1 = 1) (some (q7.1, q7.2))))))))) else (bd (f_X2_fail n  (5 : Int32) M) (fun q9 => ck (q9.1 = 0 ∨ q9.1 = 1) (some (q9.1, q9.2))))
set_option maxHeartbeats 4000000 in
set_option maxRecDepth 100000 in
theorem c_X2_readCost (l : Launch) (w : Wd)  (n : Nat) (M : Mem) (res : Int32 × Mem) (hf : f_X2_readCost n   M = some res) : CG l w layC 61 (XN (YC w)) yX2_readCost cX2_readCost 1 (some .boolean) 7 [.ref (w.2.2.1 44)] M (GQi w layC 61 res) := by
  refine cg_start (by decide +kernel) (Nat.le_of_ble_eq_true rfl) ?_
  intro p e s m args below meth c F hr hlk hX hG ls hl
  have F : FX w p m c cX2_readCost 1 s args RX2 := F
  have hx := F.1.1
  have hb := F.1.2.1
  have hl : lv_has ls 1 [(0, .ref (w.2.2.1 44))] := hl
  unfold f_X2_readCost at hf
  refine lv_aload_n hx hb dX2_readCost_0 rfl (lv_at hl 0 rfl) ?_
  refine g_getI F hG rd_44 (by decide) (by decide) lk_X2_71 rfl dX2_readCost_1 ?_
  refine lv_if_eq (tgt := 13) hx hb dX2_readCost_4 (by decide) (fun c1 => ?_) (fun c1 => ?_)
  · replace hf := if_t c1 hf
    refine lv_aload_n hx hb dX2_readCost_13 rfl (lv_at hl 0 rfl) ?_
    refine lv_iconst (v := 1) hx hb dX2_readCost_14 (by decide) ?_
    refine g_putI F hG rd_44 (by decide) (by decide) lkv_X2_71 rfl rfl rfl dX2_readCost_15 (fun H locs hG => ?_)
    refine lv_aload_n hx hb dX2_readCost_18 rfl (lv_at hl 0 rfl) ?_
    replace hf := bd_some hf
    obtain ⟨q2, eq2, hf⟩ := hf
    refine gx_callv hG (gx_runV (xn_ok (yc_ok w)) F hX hG (c_X2_step l w  n   _ _ eq2) cv_X2_84 ⟨Nat.le_of_ble_eq_true rfl, Nat.le_of_ble_eq_true rfl⟩ (g_recv F hG rd_44 (by decide) rfl) rfl hl.1 rfl (Nat.le_of_ble_eq_true rfl) dX2_readCost_19 ⟨Nat.le_refl _, Nat.le_refl _⟩) (fun H locs hG => ?_)
    refine lv_aload_n hx hb dX2_readCost_22 rfl (lv_at hl 0 rfl) ?_
    refine lv_iconst (v := 1) hx hb dX2_readCost_23 (by decide) ?_
    refine lv_bipush (v := 99) hx hb dX2_readCost_24 (by decide) ?_
    replace hf := bd_some hf
    obtain ⟨q3, eq3, hf⟩ := hf
    refine gx_calli hG (gx_runV (xn_ok (yc_ok w)) F hX hG (c_X2_isNumber l w  n  (1 : Int32) (99 : Int32) _ _ eq3) cv_X2_149 ⟨Nat.le_of_ble_eq_true rfl, Nat.le_of_ble_eq_true rfl⟩ (g_recv F hG rd_44 (by decide) rfl) rfl hl.1 rfl (Nat.le_of_ble_eq_true rfl) dX2_readCost_26 ⟨Nat.le_refl _, Nat.le_refl _⟩) (fun H locs hG => ?_)
    refine lv_if_ne (tgt := 34) hx hb dX2_readCost_29 (by decide) (fun c4 => ?_) (fun c4 => ?_)
    · replace hf := if_f c4 hf
      refine lv_aload_n hx hb dX2_readCost_34 rfl (lv_at hl 0 rfl) ?_
      replace hf := ck_some hf
      obtain ⟨k5, hf⟩ := hf
      refine g_getM F hG rd_44 (by decide) (by decide) lk_X2_25 rfl dX2_readCost_35 ?_
      refine lv_aload_n hx hb dX2_readCost_38 rfl (lv_at hl 0 rfl) ?_
      refine g_getI F hG rd_44 (by decide) (by decide) lk_X2_45 rfl dX2_readCost_39 ?_
      refine g_putI F hG (tw_of k5).1 (by decide) (by decide) lkv_X2_163 rfl rfl rfl dX2_readCost_42 (fun H locs hG => ?_)
      refine lv_aload_n hx hb dX2_readCost_45 rfl (lv_at hl 0 rfl) ?_
      replace hf := bd_some hf
      obtain ⟨q6, eq6, hf⟩ := hf
      refine gx_callv hG (gx_runV (xn_ok (yc_ok w)) F hX hG (c_X2_step l w  n   _ _ eq6) cv_X2_84 ⟨Nat.le_of_ble_eq_true rfl, Nat.le_of_ble_eq_true rfl⟩ (g_recv F hG rd_44 (by decide) rfl) rfl hl.1 rfl (Nat.le_of_ble_eq_true rfl) dX2_readCost_46 ⟨Nat.le_refl _, Nat.le_refl _⟩) (fun H locs hG => ?_)
      refine lv_aload_n hx hb dX2_readCost_49 rfl (lv_at hl 0 rfl) ?_
      replace hf := bd_some hf
      obtain ⟨q7, eq7, hf⟩ := hf
      refine gx_calli hG (gx_runV (xn_ok (yc_ok w)) F hX hG (c_X2_endLine l w  n   _ _ eq7) cv_X2_157 ⟨Nat.le_of_ble_eq_true rfl, Nat.le_of_ble_eq_true rfl⟩ (g_recv F hG rd_44 (by decide) rfl) rfl hl.1 rfl (Nat.le_of_ble_eq_true rfl) dX2_readCost_50 ⟨Nat.le_refl _, Nat.le_refl _⟩) (fun H locs hG => ?_)
      replace hf := ck_some hf
      obtain ⟨k8, hf⟩ := hf
      exact cg_zret F hr hlk hG hf k8 dX2_readCost_53
    · replace hf := if_t c4 hf
      refine lv_iconst (v := 0) hx hb dX2_readCost_32 (by decide) ?_
      exact cg_zret F hr hlk hG hf (Or.inl rfl) dX2_readCost_33
  · replace hf := if_f c1 hf
    refine lv_aload_n hx hb dX2_readCost_7 rfl (lv_at hl 0 rfl) ?_
    refine lv_iconst (v := 5) hx hb dX2_readCost_8 (by decide) ?_
    replace hf := bd_some hf
    obtain ⟨q9, eq9, hf⟩ := hf
    refine gx_calli hG (gx_runV (xn_ok (yc_ok w)) F hX hG (c_X2_fail l w  n  (5 : Int32) _ _ eq9) cv_X2_111 ⟨Nat.le_of_ble_eq_true rfl, Nat.le_of_ble_eq_true rfl⟩ (g_recv F hG rd_44 (by decide) rfl) rfl hl.1 rfl (Nat.le_of_ble_eq_true rfl) dX2_readCost_9 ⟨Nat.le_refl _, Nat.le_refl _⟩) (fun H locs hG => ?_)
    replace hf := ck_some hf
    obtain ⟨k10, hf⟩ := hf
    exact cg_zret F hr hlk hG hf k10 dX2_readCost_12

def f_X2_readWard (n : Nat) (M : Mem) : Option (Int32 × Mem) := if (gi M 28 7) < (8 : Int32) then (bd (f_X2_step n   M) (fun q2 => bd (f_X2_isNumber n  (0 : Int32) (99 : Int32) q2) (fun q3 => if q3.1 = 0 then (some ((0 : Int32), q3.2)) else (bd (f_X4_addWard n 28 (gi q3.2 44 8) q3.2) (fun q5 => bd (f_X2_step n   q5) (fun q6 => bd (f_X2_endLine n   q6) (fun q7 => ck (q7.1 = 0 ∨ q7.1 = 1) (some (q7.1, q7.2))))))))) else (bd (f_X2_fail n  (2 : Int32) M) (fun q9 => ck (q9.1 = 0 ∨ q9.1 = 1) (some (q9.1, q9.2))))
set_option maxHeartbeats 4000000 in
set_option maxRecDepth 100000 in
theorem c_X2_readWard (l : Launch) (w : Wd)  (n : Nat) (M : Mem) (res : Int32 × Mem) (hf : f_X2_readWard n   M = some res) : CG l w layC 61 (XN (YC w)) yX2_readWard cX2_readWard 1 (some .boolean) 7 [.ref (w.2.2.1 44)] M (GQi w layC 61 res) := by
  refine cg_start (by decide +kernel) (Nat.le_of_ble_eq_true rfl) ?_
  intro p e s m args below meth c F hr hlk hX hG ls hl
  have F : FX w p m c cX2_readWard 1 s args RX2 := F
  have hx := F.1.1
  have hb := F.1.2.1
  have hl : lv_has ls 1 [(0, .ref (w.2.2.1 44))] := hl
  unfold f_X2_readWard at hf
  refine lv_aload_n hx hb dX2_readWard_0 rfl (lv_at hl 0 rfl) ?_
  refine g_getR F hG 28 rd_44 (by decide) (by decide) lk_X2_18 rfl dX2_readWard_1 ?_
  refine g_getI F hG st_28.1 (by decide) (by decide) lk_X2_166 rfl dX2_readWard_4 ?_
  refine lv_bipush (v := 8) hx hb dX2_readWard_7 (by decide) ?_
  refine lv_icmp_lt (tgt := 18) hx hb dX2_readWard_9 (by decide) (fun c1 => ?_) (fun c1 => ?_)
  · replace hf := if_t c1 hf
    refine lv_aload_n hx hb dX2_readWard_18 rfl (lv_at hl 0 rfl) ?_
    replace hf := bd_some hf
    obtain ⟨q2, eq2, hf⟩ := hf
    refine gx_callv hG (gx_runV (xn_ok (yc_ok w)) F hX hG (c_X2_step l w  n   _ _ eq2) cv_X2_84 ⟨Nat.le_of_ble_eq_true rfl, Nat.le_of_ble_eq_true rfl⟩ (g_recv F hG rd_44 (by decide) rfl) rfl hl.1 rfl (Nat.le_of_ble_eq_true rfl) dX2_readWard_19 ⟨Nat.le_refl _, Nat.le_refl _⟩) (fun H locs hG => ?_)
    refine lv_aload_n hx hb dX2_readWard_22 rfl (lv_at hl 0 rfl) ?_
    refine lv_iconst (v := 0) hx hb dX2_readWard_23 (by decide) ?_
    refine lv_bipush (v := 99) hx hb dX2_readWard_24 (by decide) ?_
    replace hf := bd_some hf
    obtain ⟨q3, eq3, hf⟩ := hf
    refine gx_calli hG (gx_runV (xn_ok (yc_ok w)) F hX hG (c_X2_isNumber l w  n  (0 : Int32) (99 : Int32) _ _ eq3) cv_X2_149 ⟨Nat.le_of_ble_eq_true rfl, Nat.le_of_ble_eq_true rfl⟩ (g_recv F hG rd_44 (by decide) rfl) rfl hl.1 rfl (Nat.le_of_ble_eq_true rfl) dX2_readWard_26 ⟨Nat.le_refl _, Nat.le_refl _⟩) (fun H locs hG => ?_)
    refine lv_if_ne (tgt := 34) hx hb dX2_readWard_29 (by decide) (fun c4 => ?_) (fun c4 => ?_)
    · replace hf := if_f c4 hf
      refine lv_aload_n hx hb dX2_readWard_34 rfl (lv_at hl 0 rfl) ?_
      refine g_getR F hG 28 rd_44 (by decide) (by decide) lk_X2_18 rfl dX2_readWard_35 ?_
      refine lv_aload_n hx hb dX2_readWard_38 rfl (lv_at hl 0 rfl) ?_
      refine g_getI F hG rd_44 (by decide) (by decide) lk_X2_45 rfl dX2_readWard_39 ?_
      replace hf := bd_some hf
      obtain ⟨q5, eq5, hf⟩ := hf
      refine gx_callv hG (gx_runV (xn_ok (yc_ok w)) F hX hG (c_X4_addWard l w (yc_ok w) n 28 st_28 (gi q3.2 44 8) _ _ eq5) cv_X2_169 ⟨Nat.le_of_ble_eq_true rfl, Nat.le_of_ble_eq_true rfl⟩ (g_recv F hG st_28.1 (by decide) rfl) rfl hl.1 rfl (Nat.le_of_ble_eq_true rfl) dX2_readWard_42 ⟨Nat.le_refl _, Nat.le_refl _⟩) (fun H locs hG => ?_)
      refine lv_aload_n hx hb dX2_readWard_45 rfl (lv_at hl 0 rfl) ?_
      replace hf := bd_some hf
      obtain ⟨q6, eq6, hf⟩ := hf
      refine gx_callv hG (gx_runV (xn_ok (yc_ok w)) F hX hG (c_X2_step l w  n   _ _ eq6) cv_X2_84 ⟨Nat.le_of_ble_eq_true rfl, Nat.le_of_ble_eq_true rfl⟩ (g_recv F hG rd_44 (by decide) rfl) rfl hl.1 rfl (Nat.le_of_ble_eq_true rfl) dX2_readWard_46 ⟨Nat.le_refl _, Nat.le_refl _⟩) (fun H locs hG => ?_)
      refine lv_aload_n hx hb dX2_readWard_49 rfl (lv_at hl 0 rfl) ?_
      replace hf := bd_some hf
      obtain ⟨q7, eq7, hf⟩ := hf
      refine gx_calli hG (gx_runV (xn_ok (yc_ok w)) F hX hG (c_X2_endLine l w  n   _ _ eq7) cv_X2_157 ⟨Nat.le_of_ble_eq_true rfl, Nat.le_of_ble_eq_true rfl⟩ (g_recv F hG rd_44 (by decide) rfl) rfl hl.1 rfl (Nat.le_of_ble_eq_true rfl) dX2_readWard_50 ⟨Nat.le_refl _, Nat.le_refl _⟩) (fun H locs hG => ?_)
      replace hf := ck_some hf
      obtain ⟨k8, hf⟩ := hf
      exact cg_zret F hr hlk hG hf k8 dX2_readWard_53
    · replace hf := if_t c4 hf
      refine lv_iconst (v := 0) hx hb dX2_readWard_32 (by decide) ?_
      exact cg_zret F hr hlk hG hf (Or.inl rfl) dX2_readWard_33
  · replace hf := if_f c1 hf
    refine lv_aload_n hx hb dX2_readWard_12 rfl (lv_at hl 0 rfl) ?_
    refine lv_iconst (v := 2) hx hb dX2_readWard_13 (by decide) ?_
    replace hf := bd_some hf
    obtain ⟨q9, eq9, hf⟩ := hf
    refine gx_calli hG (gx_runV (xn_ok (yc_ok w)) F hX hG (c_X2_fail l w  n  (2 : Int32) _ _ eq9) cv_X2_111 ⟨Nat.le_of_ble_eq_true rfl, Nat.le_of_ble_eq_true rfl⟩ (g_recv F hG rd_44 (by decide) rfl) rfl hl.1 rfl (Nat.le_of_ble_eq_true rfl) dX2_readWard_14 ⟨Nat.le_refl _, Nat.le_refl _⟩) (fun H locs hG => ?_)
    replace hf := ck_some hf
    obtain ⟨k10, hf⟩ := hf
    exact cg_zret F hr hlk hG hf k10 dX2_readWard_17

def j_X2_readStreet_54 (n : Nat) (M : Mem) : Option (Int32 × Mem) := bd (f_X2_fail n  (4 : Int32) M) (fun q1 => ck (q1.1 = 0 ∨ q1.1 = 1) (some (q1.1, q1.2)))
def f_X2_readStreet (n : Nat) (M : Mem) : Option (Int32 × Mem) := bd (f_X2_step n   M) (fun q3 => bd (f_X2_isToldWard n   q3) (fun q4 => if q4.1 = 0 then (some ((0 : Int32), q4.2)) else (bd (f_X2_step n   q4.2) (fun q6 => bd (f_X2_isToldWard n   q6) (fun q7 => if q7.1 = 0 then (some ((0 : Int32), q7.2)) else (if (gi q7.2 44 8) = (gi q4.2 44 8) then (j_X2_readStreet_54 n  q7.2) else (bd (f_X4_isStreet n 28 (gi q4.2 44 8) (gi q7.2 44 8) q7.2) (fun q10 => if q10.1 = 0 then (bd (f_X4_turnStreet n 28 (gi q4.2 44 8) (gi q10.2 44 8) q10.2) (fun q12 => bd (f_X2_step n   q12) (fun q13 => bd (f_X2_endLine n   q13) (fun q14 => ck (q14.1 = 0 ∨ q14.1 = 1) (some (q14.1, q14.2)))))) else (j_X2_readStreet_54 n  q10.2)))))))))
set_option maxHeartbeats 4000000 in
set_option maxRecDepth 100000 in
theorem c_X2_readStreet (l : Launch) (w : Wd)  (n : Nat) (M : Mem) (res : Int32 × Mem) (hf : f_X2_readStreet n   M = some res) : CG l w layC 61 (XN (YC w)) yX2_readStreet cX2_readStreet 2 (some .boolean) 7 [.ref (w.2.2.1 44)] M (GQi w layC 61 res) := by
  refine cg_start (by decide +kernel) (Nat.le_of_ble_eq_true rfl) ?_
  intro p e s m args below meth c F hr hlk hX hG ls hl
  have F : FX w p m c cX2_readStreet 2 s args RX2 := F
  have hx := F.1.1
  have hb := F.1.2.1
  have hl : lv_has ls 2 [(0, .ref (w.2.2.1 44))] := hl
  have hJ54 : ∀ (M : Mem) (H : Heap) (locs : List Loc) (ls : Array Slot), j_X2_readStreet_54 n   M = some res → GI w layC 61 s.heap M H locs → lv_has ls 2 [(0, .ref (w.2.2.1 44))] → W p l e (Rm 7) s m args below meth c H locs 0 0 (MQ below (GQi w layC 61 res s.heap.size) args s 0 0 (gA w.2.2.1 61 s.heap.size)) (F0 m 54 ls []) := by
    intro  M H locs ls hf hG hl
    unfold j_X2_readStreet_54 at hf
    refine lv_aload_n hx hb dX2_readStreet_54 rfl (lv_at hl 0 rfl) ?_
    refine lv_iconst (v := 4) hx hb dX2_readStreet_55 (by decide) ?_
    replace hf := bd_some hf
    obtain ⟨q1, eq1, hf⟩ := hf
    refine gx_calli hG (gx_runV (xn_ok (yc_ok w)) F hX hG (c_X2_fail l w  n  (4 : Int32) _ _ eq1) cv_X2_111 ⟨Nat.le_of_ble_eq_true rfl, Nat.le_of_ble_eq_true rfl⟩ (g_recv F hG rd_44 (by decide) rfl) rfl hl.1 rfl (Nat.le_of_ble_eq_true rfl) dX2_readStreet_56 ⟨Nat.le_refl _, Nat.le_refl _⟩) (fun H locs hG => ?_)
    replace hf := ck_some hf
    obtain ⟨k2, hf⟩ := hf
    exact cg_zret F hr hlk hG hf k2 dX2_readStreet_59
  unfold f_X2_readStreet at hf
  refine lv_aload_n hx hb dX2_readStreet_0 rfl (lv_at hl 0 rfl) ?_
  replace hf := bd_some hf
  obtain ⟨q3, eq3, hf⟩ := hf
  refine gx_callv hG (gx_runV (xn_ok (yc_ok w)) F hX hG (c_X2_step l w  n   _ _ eq3) cv_X2_84 ⟨Nat.le_of_ble_eq_true rfl, Nat.le_of_ble_eq_true rfl⟩ (g_recv F hG rd_44 (by decide) rfl) rfl hl.1 rfl (Nat.le_of_ble_eq_true rfl) dX2_readStreet_1 ⟨Nat.le_refl _, Nat.le_refl _⟩) (fun H locs hG => ?_)
  refine lv_aload_n hx hb dX2_readStreet_4 rfl (lv_at hl 0 rfl) ?_
  replace hf := bd_some hf
  obtain ⟨q4, eq4, hf⟩ := hf
  refine gx_calli hG (gx_runV (xn_ok (yc_ok w)) F hX hG (c_X2_isToldWard l w  n   _ _ eq4) cv_X2_173 ⟨Nat.le_of_ble_eq_true rfl, Nat.le_of_ble_eq_true rfl⟩ (g_recv F hG rd_44 (by decide) rfl) rfl hl.1 rfl (Nat.le_of_ble_eq_true rfl) dX2_readStreet_5 ⟨Nat.le_refl _, Nat.le_refl _⟩) (fun H locs hG => ?_)
  refine lv_if_ne (tgt := 13) hx hb dX2_readStreet_8 (by decide) (fun c5 => ?_) (fun c5 => ?_)
  · replace hf := if_f c5 hf
    refine lv_aload_n hx hb dX2_readStreet_13 rfl (lv_at hl 0 rfl) ?_
    refine g_getI F hG rd_44 (by decide) (by decide) lk_X2_45 rfl dX2_readStreet_14 ?_
    refine lv_istore_n (lv' := [(1, .int (gi q4.2 44 8)), (0, .ref (w.2.2.1 44))]) hx hb dX2_readStreet_17 rfl hl (by decide) rfl (fun ls hl => ?_)
    refine lv_aload_n hx hb dX2_readStreet_18 rfl (lv_at hl 1 rfl) ?_
    replace hf := bd_some hf
    obtain ⟨q6, eq6, hf⟩ := hf
    refine gx_callv hG (gx_runV (xn_ok (yc_ok w)) F hX hG (c_X2_step l w  n   _ _ eq6) cv_X2_84 ⟨Nat.le_of_ble_eq_true rfl, Nat.le_of_ble_eq_true rfl⟩ (g_recv F hG rd_44 (by decide) rfl) rfl hl.1 rfl (Nat.le_of_ble_eq_true rfl) dX2_readStreet_19 ⟨Nat.le_refl _, Nat.le_refl _⟩) (fun H locs hG => ?_)
    refine lv_aload_n hx hb dX2_readStreet_22 rfl (lv_at hl 1 rfl) ?_
    replace hf := bd_some hf
    obtain ⟨q7, eq7, hf⟩ := hf
    refine gx_calli hG (gx_runV (xn_ok (yc_ok w)) F hX hG (c_X2_isToldWard l w  n   _ _ eq7) cv_X2_173 ⟨Nat.le_of_ble_eq_true rfl, Nat.le_of_ble_eq_true rfl⟩ (g_recv F hG rd_44 (by decide) rfl) rfl hl.1 rfl (Nat.le_of_ble_eq_true rfl) dX2_readStreet_23 ⟨Nat.le_refl _, Nat.le_refl _⟩) (fun H locs hG => ?_)
    refine lv_if_ne (tgt := 31) hx hb dX2_readStreet_26 (by decide) (fun c8 => ?_) (fun c8 => ?_)
    · replace hf := if_f c8 hf
      refine lv_aload_n hx hb dX2_readStreet_31 rfl (lv_at hl 1 rfl) ?_
      refine g_getI F hG rd_44 (by decide) (by decide) lk_X2_45 rfl dX2_readStreet_32 ?_
      refine lv_iload_n hx hb dX2_readStreet_35 rfl (lv_at hl 0 rfl) ?_
      refine lv_icmp_eq (tgt := 54) hx hb dX2_readStreet_36 (by decide) (fun c9 => ?_) (fun c9 => ?_)
      · replace hf := if_t c9 hf
        exact hJ54  _ _ _ ls hf hG (lv_sub hl [1] rfl)
      · replace hf := if_f c9 hf
        refine lv_aload_n hx hb dX2_readStreet_39 rfl (lv_at hl 1 rfl) ?_
        refine g_getR F hG 28 rd_44 (by decide) (by decide) lk_X2_18 rfl dX2_readStreet_40 ?_
        refine lv_iload_n hx hb dX2_readStreet_43 rfl (lv_at hl 0 rfl) ?_
        refine lv_aload_n hx hb dX2_readStreet_44 rfl (lv_at hl 1 rfl) ?_
        refine g_getI F hG rd_44 (by decide) (by decide) lk_X2_45 rfl dX2_readStreet_45 ?_
        replace hf := bd_some hf
        obtain ⟨q10, eq10, hf⟩ := hf
        refine gx_calli hG (gx_runV (xn_ok (yc_ok w)) F hX hG (c_X4_isStreet l w (yc_ok w) n 28 st_28 (gi q4.2 44 8) (gi q7.2 44 8) _ _ eq10) cv_X2_176 ⟨Nat.le_of_ble_eq_true rfl, Nat.le_of_ble_eq_true rfl⟩ (g_recv F hG st_28.1 (by decide) rfl) rfl hl.1 rfl (Nat.le_of_ble_eq_true rfl) dX2_readStreet_48 ⟨Nat.le_refl _, Nat.le_refl _⟩) (fun H locs hG => ?_)
        refine lv_if_eq (tgt := 60) hx hb dX2_readStreet_51 (by decide) (fun c11 => ?_) (fun c11 => ?_)
        · replace hf := if_t c11 hf
          refine lv_aload_n hx hb dX2_readStreet_60 rfl (lv_at hl 1 rfl) ?_
          refine g_getR F hG 28 rd_44 (by decide) (by decide) lk_X2_18 rfl dX2_readStreet_61 ?_
          refine lv_iload_n hx hb dX2_readStreet_64 rfl (lv_at hl 0 rfl) ?_
          refine lv_aload_n hx hb dX2_readStreet_65 rfl (lv_at hl 1 rfl) ?_
          refine g_getI F hG rd_44 (by decide) (by decide) lk_X2_45 rfl dX2_readStreet_66 ?_
          replace hf := bd_some hf
          obtain ⟨q12, eq12, hf⟩ := hf
          refine gx_callv hG (gx_runV (xn_ok (yc_ok w)) F hX hG (c_X4_turnStreet l w (yc_ok w) n 28 st_28 (gi q4.2 44 8) (gi q10.2 44 8) _ _ eq12) cv_X2_179 ⟨Nat.le_of_ble_eq_true rfl, Nat.le_of_ble_eq_true rfl⟩ (g_recv F hG st_28.1 (by decide) rfl) rfl hl.1 rfl (Nat.le_of_ble_eq_true rfl) dX2_readStreet_69 ⟨Nat.le_refl _, Nat.le_refl _⟩) (fun H locs hG => ?_)
          refine lv_aload_n hx hb dX2_readStreet_72 rfl (lv_at hl 1 rfl) ?_
          replace hf := bd_some hf
          obtain ⟨q13, eq13, hf⟩ := hf
          refine gx_callv hG (gx_runV (xn_ok (yc_ok w)) F hX hG (c_X2_step l w  n   _ _ eq13) cv_X2_84 ⟨Nat.le_of_ble_eq_true rfl, Nat.le_of_ble_eq_true rfl⟩ (g_recv F hG rd_44 (by decide) rfl) rfl hl.1 rfl (Nat.le_of_ble_eq_true rfl) dX2_readStreet_73 ⟨Nat.le_refl _, Nat.le_refl _⟩) (fun H locs hG => ?_)
          refine lv_aload_n hx hb dX2_readStreet_76 rfl (lv_at hl 1 rfl) ?_
          replace hf := bd_some hf
          obtain ⟨q14, eq14, hf⟩ := hf
          refine gx_calli hG (gx_runV (xn_ok (yc_ok w)) F hX hG (c_X2_endLine l w  n   _ _ eq14) cv_X2_157 ⟨Nat.le_of_ble_eq_true rfl, Nat.le_of_ble_eq_true rfl⟩ (g_recv F hG rd_44 (by decide) rfl) rfl hl.1 rfl (Nat.le_of_ble_eq_true rfl) dX2_readStreet_77 ⟨Nat.le_refl _, Nat.le_refl _⟩) (fun H locs hG => ?_)
          replace hf := ck_some hf
          obtain ⟨k15, hf⟩ := hf
          exact cg_zret F hr hlk hG hf k15 dX2_readStreet_80
        · replace hf := if_f c11 hf
          exact hJ54  _ _ _ ls hf hG (lv_sub hl [1] rfl)
    · replace hf := if_t c8 hf
      refine lv_iconst (v := 0) hx hb dX2_readStreet_29 (by decide) ?_
      exact cg_zret F hr hlk hG hf (Or.inl rfl) dX2_readStreet_30
  · replace hf := if_t c5 hf
    refine lv_iconst (v := 0) hx hb dX2_readStreet_11 (by decide) ?_
    exact cg_zret F hr hlk hG hf (Or.inl rfl) dX2_readStreet_12

def j_X2_readWinds_83 (n : Nat) (M : Mem) : Option (Int32 × Mem) := bd (f_X2_endLine n   M) (fun q1 => ck (q1.1 = 0 ∨ q1.1 = 1) (some (q1.1, q1.2)))
def j_X2_readWinds_54 (n : Nat) (t0 : Int32) (t1 : Int32) (x1 : Int32) (M : Mem) : Option ((Int32 × Mem) ⊕ (Int32 × Mem)) := bd (f_X2_isNumber n  t1 t0 M) (fun q3 => if q3.1 = 0 then (mr (some ((0 : Int32), q3.2))) else (ck (isTwB ((gi q3.2 44 2).toNatClampNeg)) (bd (f_X6_addWind n ((gi q3.2 44 2).toNatClampNeg) (gi q3.2 44 8) q3.2) (fun q6 => bd (f_X2_step n   q6) (fun q7 => some (.inl ((x1 + (1 : Int32)), q7)))))))
def j_X2_readWinds_40 (n : Nat) (x1 : Int32) (M : Mem) : Option ((Int32 × Mem) ⊕ (Int32 × Mem)) := if (8 : Int32) ≤ x1 then (j_X2_readWinds_54 n  (-1 : Int32) (0 : Int32) x1 M) else (j_X2_readWinds_54 n  (9 : Int32) (0 : Int32) x1 M)
def b_X2_readWinds_22 (n : Nat) (q : (Int32 × Mem)) : Option ((Int32 × Mem) ⊕ (Int32 × Mem)) := match q with
  | (x1, M) => if (8 : Int32) < x1 then (mr (j_X2_readWinds_83 n  M)) else (if x1 = 0 then (j_X2_readWinds_40 n  x1 M) else (if (gi M 44 7) = (2 : Int32) then (j_X2_readWinds_40 n  x1 M) else (mr (j_X2_readWinds_83 n  M))))
def f_X2_readWinds (n : Nat) (M : Mem) : Option (Int32 × Mem) := ck (isTwB ((gi M 44 2).toNatClampNeg)) (if (gi M ((gi M 44 2).toNatClampNeg) 7) ≤ 0 then (bd (f_X2_step n   M) (fun q14 => gl (b_X2_readWinds_22 n ) n ((0 : Int32), q14))) else (bd (f_X2_fail n  (5 : Int32) M) (fun q15 => ck (q15.1 = 0 ∨ q15.1 = 1) (some (q15.1, q15.2)))))
set_option maxHeartbeats 4000000 in
set_option maxRecDepth 100000 in
theorem c_X2_readWinds (l : Launch) (w : Wd)  (n : Nat) (M : Mem) (res : Int32 × Mem) (hf : f_X2_readWinds n   M = some res) : CG l w layC 61 (XN (YC w)) yX2_readWinds cX2_readWinds 2 (some .boolean) 7 [.ref (w.2.2.1 44)] M (GQi w layC 61 res) := by
  refine cg_start (by decide +kernel) (Nat.le_of_ble_eq_true rfl) ?_
  intro p e s m args below meth c F hr hlk hX hG ls hl
  have F : FX w p m c cX2_readWinds 2 s args RX2 := F
  have hx := F.1.1
  have hb := F.1.2.1
  have hl : lv_has ls 2 [(0, .ref (w.2.2.1 44))] := hl
  have hJ83 : ∀ (M : Mem) (H : Heap) (locs : List Loc) (ls : Array Slot), j_X2_readWinds_83 n   M = some res → GI w layC 61 s.heap M H locs → lv_has ls 2 [(0, .ref (w.2.2.1 44))] → W p l e (Rm 7) s m args below meth c H locs 0 0 (MQ below (GQi w layC 61 res s.heap.size) args s 0 0 (gA w.2.2.1 61 s.heap.size)) (F0 m 83 ls []) := by
    intro  M H locs ls hf hG hl
    unfold j_X2_readWinds_83 at hf
    refine lv_aload_n hx hb dX2_readWinds_83 rfl (lv_at hl 0 rfl) ?_
    replace hf := bd_some hf
    obtain ⟨q1, eq1, hf⟩ := hf
    refine gx_calli hG (gx_runV (xn_ok (yc_ok w)) F hX hG (c_X2_endLine l w  n   _ _ eq1) cv_X2_157 ⟨Nat.le_of_ble_eq_true rfl, Nat.le_of_ble_eq_true rfl⟩ (g_recv F hG rd_44 (by decide) rfl) rfl hl.1 rfl (Nat.le_of_ble_eq_true rfl) dX2_readWinds_84 ⟨Nat.le_refl _, Nat.le_refl _⟩) (fun H locs hG => ?_)
    replace hf := ck_some hf
    obtain ⟨k2, hf⟩ := hf
    exact cg_zret F hr hlk hG hf k2 dX2_readWinds_87
  have hJ22 : ∀ (x1 : Int32) (M : Mem) (H : Heap) (locs : List Loc) (ls : Array Slot), gl (b_X2_readWinds_22 n  ) n (x1, M) = some res → GI w layC 61 s.heap M H locs → lv_has ls 2 [(0, .ref (w.2.2.1 44)), (1, .int x1)] → W p l e (Rm 7) s m args below meth c H locs 0 0 (MQ below (GQi w layC 61 res s.heap.size) args s 0 0 (gA w.2.2.1 61 s.heap.size)) (F0 m 22 ls []) := by
    intro x1 M H locs ls hf hG hl
    refine gl_run (P := fun (q : (Int32 × Mem)) => ∀ (H : Heap) (locs : List Loc) (ls : Array Slot), GI w layC 61 s.heap q.2 H locs → lv_has ls 2 [(0, .ref (w.2.2.1 44)), (1, .int q.1)] → W p l e (Rm 7) s m args below meth c H locs 0 0 (MQ below (GQi w layC 61 res s.heap.size) args s 0 0 (gA w.2.2.1 61 s.heap.size)) (F0 m 22 ls [])) ?_ n (x1, M) hf H locs ls hG hl
    clear hf hG hl ls locs H M x1
    rintro ⟨x1, M⟩ rr22 hf hI22 hE22 H locs ls hG hl
    try dsimp only at hG hl ⊢
    have hJ54 : ∀ (t0 : Int32) (t1 : Int32) (x1 : Int32) (M : Mem) (H : Heap) (locs : List Loc) (ls : Array Slot), j_X2_readWinds_54 n  t0 t1 x1 M = some rr22 → GI w layC 61 s.heap M H locs → lv_has ls 2 [(0, .ref (w.2.2.1 44)), (1, .int x1)] → W p l e (Rm 7) s m args below meth c H locs 0 0 (MQ below (GQi w layC 61 res s.heap.size) args s 0 0 (gA w.2.2.1 61 s.heap.size)) (F0 m 54 ls [.int t0, .int t1, .ref (w.2.2.1 44)]) := by
      intro t0 t1 x1 M H locs ls hf hG hl
      unfold j_X2_readWinds_54 at hf
      replace hf := bd_some hf
      obtain ⟨q3, eq3, hf⟩ := hf
      refine gx_calli hG (gx_runV (xn_ok (yc_ok w)) F hX hG (c_X2_isNumber l w  n  t1 t0 _ _ eq3) cv_X2_149 ⟨Nat.le_of_ble_eq_true rfl, Nat.le_of_ble_eq_true rfl⟩ (g_recv F hG rd_44 (by decide) rfl) rfl hl.1 rfl (Nat.le_of_ble_eq_true rfl) dX2_readWinds_54 ⟨Nat.le_refl _, Nat.le_refl _⟩) (fun H locs hG => ?_)
      refine lv_if_ne (tgt := 62) hx hb dX2_readWinds_57 (by decide) (fun c4 => ?_) (fun c4 => ?_)
      · replace hf := if_f c4 hf
        refine lv_aload_n hx hb dX2_readWinds_62 rfl (lv_at hl 0 rfl) ?_
        replace hf := ck_some hf
        obtain ⟨k5, hf⟩ := hf
        refine g_getM F hG rd_44 (by decide) (by decide) lk_X2_25 rfl dX2_readWinds_63 ?_
        refine lv_aload_n hx hb dX2_readWinds_66 rfl (lv_at hl 0 rfl) ?_
        refine g_getI F hG rd_44 (by decide) (by decide) lk_X2_45 rfl dX2_readWinds_67 ?_
        replace hf := bd_some hf
        obtain ⟨q6, eq6, hf⟩ := hf
        refine gx_callv hG (gx_runV (xn_ok (yc_ok w)) F hX hG (c_X6_addWind l w (yc_ok w) n ((gi q3.2 44 2).toNatClampNeg) (tw_of k5) (gi q3.2 44 8) _ _ eq6) cv_X2_186 ⟨Nat.le_of_ble_eq_true rfl, Nat.le_of_ble_eq_true rfl⟩ (g_recv F hG (tw_of k5).1 (by decide) rfl) rfl hl.1 rfl (Nat.le_of_ble_eq_true rfl) dX2_readWinds_70 ⟨Nat.le_refl _, Nat.le_refl _⟩) (fun H locs hG => ?_)
        refine lv_aload_n hx hb dX2_readWinds_73 rfl (lv_at hl 0 rfl) ?_
        replace hf := bd_some hf
        obtain ⟨q7, eq7, hf⟩ := hf
        refine gx_callv hG (gx_runV (xn_ok (yc_ok w)) F hX hG (c_X2_step l w  n   _ _ eq7) cv_X2_84 ⟨Nat.le_of_ble_eq_true rfl, Nat.le_of_ble_eq_true rfl⟩ (g_recv F hG rd_44 (by decide) rfl) rfl hl.1 rfl (Nat.le_of_ble_eq_true rfl) dX2_readWinds_74 ⟨Nat.le_refl _, Nat.le_refl _⟩) (fun H locs hG => ?_)
        refine lv_iinc (v := (x1 + (1 : Int32))) (lv' := [(1, .int (x1 + (1 : Int32))), (0, .ref (w.2.2.1 44))]) hx hb dX2_readWinds_77 hl (k := 1) rfl rfl (by decide) rfl (fun ls hl => ?_)
        refine lv_goto (tgt := 22) hx hb dX2_readWinds_80 (by decide) ?_
        exact hI22 _ (Option.some.inj hf).symm _ _ ls hG (lv_sub hl [1, 0] rfl)
      · replace hf := if_t c4 hf
        refine lv_iconst (v := 0) hx hb dX2_readWinds_60 (by decide) ?_
        replace hf := mr_some hf
        obtain ⟨z22, hf, hz⟩ := hf
        rw [hE22 _ hz] at hf
        exact cg_zret F hr hlk hG hf (Or.inl rfl) dX2_readWinds_61
    have hJ40 : ∀ (x1 : Int32) (M : Mem) (H : Heap) (locs : List Loc) (ls : Array Slot), j_X2_readWinds_40 n  x1 M = some rr22 → GI w layC 61 s.heap M H locs → lv_has ls 2 [(0, .ref (w.2.2.1 44)), (1, .int x1)] → W p l e (Rm 7) s m args below meth c H locs 0 0 (MQ below (GQi w layC 61 res s.heap.size) args s 0 0 (gA w.2.2.1 61 s.heap.size)) (F0 m 40 ls []) := by
      intro x1 M H locs ls hf hG hl
      unfold j_X2_readWinds_40 at hf
      refine lv_aload_n hx hb dX2_readWinds_40 rfl (lv_at hl 0 rfl) ?_
      refine lv_iconst (v := 0) hx hb dX2_readWinds_41 (by decide) ?_
      refine lv_iload_n hx hb dX2_readWinds_42 rfl (lv_at hl 1 rfl) ?_
      refine lv_bipush (v := 8) hx hb dX2_readWinds_43 (by decide) ?_
      refine lv_icmp_ge (tgt := 53) hx hb dX2_readWinds_45 (by decide) (fun c8 => ?_) (fun c8 => ?_)
      · replace hf := if_t c8 hf
        refine lv_iconst (v := -1) hx hb dX2_readWinds_53 (by decide) ?_
        exact hJ54 _ _ _ _ _ _ ls hf hG (lv_sub hl [0, 1] rfl)
      · replace hf := if_f c8 hf
        refine lv_bipush (v := 9) hx hb dX2_readWinds_48 (by decide) ?_
        refine lv_goto (tgt := 54) hx hb dX2_readWinds_50 (by decide) ?_
        exact hJ54 _ _ _ _ _ _ ls hf hG (lv_sub hl [0, 1] rfl)
    dsimp only [b_X2_readWinds_22] at hf
    refine lv_iload_n hx hb dX2_readWinds_22 rfl (lv_at hl 1 rfl) ?_
    refine lv_bipush (v := 8) hx hb dX2_readWinds_23 (by decide) ?_
    refine lv_icmp_gt (tgt := 83) hx hb dX2_readWinds_25 (by decide) (fun c9 => ?_) (fun c9 => ?_)
    · replace hf := if_t c9 hf
      replace hf := mr_some hf
      obtain ⟨z22, hf, hz⟩ := hf
      rw [hE22 _ hz] at hf
      exact hJ83  _ _ _ ls hf hG (lv_sub hl [0] rfl)
    · replace hf := if_f c9 hf
      refine lv_iload_n hx hb dX2_readWinds_28 rfl (lv_at hl 1 rfl) ?_
      refine lv_if_eq (tgt := 40) hx hb dX2_readWinds_29 (by decide) (fun c10 => ?_) (fun c10 => ?_)
      · replace hf := if_t c10 hf
        exact hJ40 _ _ _ _ ls hf hG (lv_sub hl [0, 1] rfl)
      · replace hf := if_f c10 hf
        refine lv_aload_n hx hb dX2_readWinds_32 rfl (lv_at hl 0 rfl) ?_
        refine g_getI F hG rd_44 (by decide) (by decide) lk_X2_42 rfl dX2_readWinds_33 ?_
        refine lv_iconst (v := 2) hx hb dX2_readWinds_36 (by decide) ?_
        refine lv_icmp_ne (tgt := 83) hx hb dX2_readWinds_37 (by decide) (fun c11 => ?_) (fun c11 => ?_)
        · replace hf := if_f c11 hf
          replace hf := mr_some hf
          obtain ⟨z22, hf, hz⟩ := hf
          rw [hE22 _ hz] at hf
          exact hJ83  _ _ _ ls hf hG (lv_sub hl [0] rfl)
        · replace hf := if_t c11 hf
          exact hJ40 _ _ _ _ ls hf hG (lv_sub hl [0, 1] rfl)
  unfold f_X2_readWinds at hf
  refine lv_aload_n hx hb dX2_readWinds_0 rfl (lv_at hl 0 rfl) ?_
  replace hf := ck_some hf
  obtain ⟨k12, hf⟩ := hf
  refine g_getM F hG rd_44 (by decide) (by decide) lk_X2_25 rfl dX2_readWinds_1 ?_
  refine g_getI F hG (tw_of k12).1 (by decide) (by decide) lk_X2_183 rfl dX2_readWinds_4 ?_
  refine lv_if_le (tgt := 16) hx hb dX2_readWinds_7 (by decide) (fun c13 => ?_) (fun c13 => ?_)
  · replace hf := if_t c13 hf
    refine lv_aload_n hx hb dX2_readWinds_16 rfl (lv_at hl 0 rfl) ?_
    replace hf := bd_some hf
    obtain ⟨q14, eq14, hf⟩ := hf
    refine gx_callv hG (gx_runV (xn_ok (yc_ok w)) F hX hG (c_X2_step l w  n   _ _ eq14) cv_X2_84 ⟨Nat.le_of_ble_eq_true rfl, Nat.le_of_ble_eq_true rfl⟩ (g_recv F hG rd_44 (by decide) rfl) rfl hl.1 rfl (Nat.le_of_ble_eq_true rfl) dX2_readWinds_17 ⟨Nat.le_refl _, Nat.le_refl _⟩) (fun H locs hG => ?_)
    refine lv_iconst (v := 0) hx hb dX2_readWinds_20 (by decide) ?_
    refine lv_istore_n (lv' := [(1, .int (0 : Int32)), (0, .ref (w.2.2.1 44))]) hx hb dX2_readWinds_21 rfl hl (by decide) rfl (fun ls hl => ?_)
    exact hJ22 _ _ _ _ ls hf hG (lv_sub hl [1, 0] rfl)
  · replace hf := if_f c13 hf
    refine lv_aload_n hx hb dX2_readWinds_10 rfl (lv_at hl 0 rfl) ?_
    refine lv_iconst (v := 5) hx hb dX2_readWinds_11 (by decide) ?_
    replace hf := bd_some hf
    obtain ⟨q15, eq15, hf⟩ := hf
    refine gx_calli hG (gx_runV (xn_ok (yc_ok w)) F hX hG (c_X2_fail l w  n  (5 : Int32) _ _ eq15) cv_X2_111 ⟨Nat.le_of_ble_eq_true rfl, Nat.le_of_ble_eq_true rfl⟩ (g_recv F hG rd_44 (by decide) rfl) rfl hl.1 rfl (Nat.le_of_ble_eq_true rfl) dX2_readWinds_12 ⟨Nat.le_refl _, Nat.le_refl _⟩) (fun H locs hG => ?_)
    replace hf := ck_some hf
    obtain ⟨k16, hf⟩ := hf
    exact cg_zret F hr hlk hG hf k16 dX2_readWinds_15

def f_X8_feed (n : Nat) (x1 : Int32) (x2 : Int32) (x3 : Int32) (x4 : Int32) (x5 : Int32) (M : Mem) : Option (Int32 × Mem) := if ((gi M 44 3) + (20 : Int32)) ≤ (700 : Int32) then (bd (f_X2_append n  x1 M) (fun q2 => bd (f_X2_append n  x2 q2) (fun q3 => bd (f_X2_append n  x3 q3) (fun q4 => bd (f_X2_append n  x4 q4) (fun q5 => bd (f_X2_append n  x5 q5) (fun q6 => some ((gi q6 44 3), q6))))))) else (some ((-1 : Int32), M))
set_option maxHeartbeats 4000000 in
set_option maxRecDepth 100000 in
theorem c_X8_feed (l : Launch) (w : Wd)  (n : Nat) (x1 : Int32) (x2 : Int32) (x3 : Int32) (x4 : Int32) (x5 : Int32) (M : Mem) (res : Int32 × Mem) (hf : f_X8_feed n  x1 x2 x3 x4 x5 M = some res) : CG l w layC 61 (XN (YC w)) yX8_feed cX8_feed 6 (some .int) 1 [.ref (w.2.2.1 0), .int x1, .int x2, .int x3, .int x4, .int x5] M (GQi w layC 61 res) := by
  refine cg_start (by decide +kernel) (Nat.le_of_ble_eq_true rfl) ?_
  intro p e s m args below meth c F hr hlk hX hG ls hl
  have F : FX w p m c cX8_feed 6 s args RX8 := F
  have hx := F.1.1
  have hb := F.1.2.1
  have hl : lv_has ls 6 [(0, .ref (w.2.2.1 0)), (1, .int x1), (2, .int x2), (3, .int x3), (4, .int x4), (5, .int x5)] := hl
  unfold f_X8_feed at hf
  refine lv_aload_n hx hb dX8_feed_0 rfl (lv_at hl 0 rfl) ?_
  refine g_getR F hG 44 ct_0 (by decide) (by decide) lk_X8_59 rfl dX8_feed_1 ?_
  refine g_getI F hG rd_44 (by decide) (by decide) lk_X8_78 rfl dX8_feed_4 ?_
  refine lv_bipush (v := 20) hx hb dX8_feed_7 (by decide) ?_
  refine lv_iadd hx hb dX8_feed_9 ?_
  refine lv_sipush (v := 700) hx hb dX8_feed_10 (by decide) ?_
  refine lv_icmp_le (tgt := 18) hx hb dX8_feed_13 (by decide) (fun c1 => ?_) (fun c1 => ?_)
  · replace hf := if_t c1 hf
    refine lv_aload_n hx hb dX8_feed_18 rfl (lv_at hl 0 rfl) ?_
    refine g_getR F hG 44 ct_0 (by decide) (by decide) lk_X8_59 rfl dX8_feed_19 ?_
    refine lv_iload_n hx hb dX8_feed_22 rfl (lv_at hl 1 rfl) ?_
    replace hf := bd_some hf
    obtain ⟨q2, eq2, hf⟩ := hf
    refine gx_callv hG (gx_runV (xn_ok (yc_ok w)) F hX hG (c_X2_append l w  n  x1 _ _ eq2) cv_X8_81 ⟨Nat.le_of_ble_eq_true rfl, Nat.le_of_ble_eq_true rfl⟩ (g_recv F hG rd_44 (by decide) rfl) rfl hl.1 rfl (Nat.le_of_ble_eq_true rfl) dX8_feed_23 ⟨Nat.le_refl _, Nat.le_refl _⟩) (fun H locs hG => ?_)
    refine lv_aload_n hx hb dX8_feed_26 rfl (lv_at hl 0 rfl) ?_
    refine g_getR F hG 44 ct_0 (by decide) (by decide) lk_X8_59 rfl dX8_feed_27 ?_
    refine lv_iload_n hx hb dX8_feed_30 rfl (lv_at hl 2 rfl) ?_
    replace hf := bd_some hf
    obtain ⟨q3, eq3, hf⟩ := hf
    refine gx_callv hG (gx_runV (xn_ok (yc_ok w)) F hX hG (c_X2_append l w  n  x2 _ _ eq3) cv_X8_81 ⟨Nat.le_of_ble_eq_true rfl, Nat.le_of_ble_eq_true rfl⟩ (g_recv F hG rd_44 (by decide) rfl) rfl hl.1 rfl (Nat.le_of_ble_eq_true rfl) dX8_feed_31 ⟨Nat.le_refl _, Nat.le_refl _⟩) (fun H locs hG => ?_)
    refine lv_aload_n hx hb dX8_feed_34 rfl (lv_at hl 0 rfl) ?_
    refine g_getR F hG 44 ct_0 (by decide) (by decide) lk_X8_59 rfl dX8_feed_35 ?_
    refine lv_iload_n hx hb dX8_feed_38 rfl (lv_at hl 3 rfl) ?_
    replace hf := bd_some hf
    obtain ⟨q4, eq4, hf⟩ := hf
    refine gx_callv hG (gx_runV (xn_ok (yc_ok w)) F hX hG (c_X2_append l w  n  x3 _ _ eq4) cv_X8_81 ⟨Nat.le_of_ble_eq_true rfl, Nat.le_of_ble_eq_true rfl⟩ (g_recv F hG rd_44 (by decide) rfl) rfl hl.1 rfl (Nat.le_of_ble_eq_true rfl) dX8_feed_39 ⟨Nat.le_refl _, Nat.le_refl _⟩) (fun H locs hG => ?_)
    refine lv_aload_n hx hb dX8_feed_42 rfl (lv_at hl 0 rfl) ?_
    refine g_getR F hG 44 ct_0 (by decide) (by decide) lk_X8_59 rfl dX8_feed_43 ?_
    refine lv_iload hx hb dX8_feed_46 (lv_at hl 4 rfl) ?_
    replace hf := bd_some hf
    obtain ⟨q5, eq5, hf⟩ := hf
    refine gx_callv hG (gx_runV (xn_ok (yc_ok w)) F hX hG (c_X2_append l w  n  x4 _ _ eq5) cv_X8_81 ⟨Nat.le_of_ble_eq_true rfl, Nat.le_of_ble_eq_true rfl⟩ (g_recv F hG rd_44 (by decide) rfl) rfl hl.1 rfl (Nat.le_of_ble_eq_true rfl) dX8_feed_48 ⟨Nat.le_refl _, Nat.le_refl _⟩) (fun H locs hG => ?_)
    refine lv_aload_n hx hb dX8_feed_51 rfl (lv_at hl 0 rfl) ?_
    refine g_getR F hG 44 ct_0 (by decide) (by decide) lk_X8_59 rfl dX8_feed_52 ?_
    refine lv_iload hx hb dX8_feed_55 (lv_at hl 5 rfl) ?_
    replace hf := bd_some hf
    obtain ⟨q6, eq6, hf⟩ := hf
    refine gx_callv hG (gx_runV (xn_ok (yc_ok w)) F hX hG (c_X2_append l w  n  x5 _ _ eq6) cv_X8_81 ⟨Nat.le_of_ble_eq_true rfl, Nat.le_of_ble_eq_true rfl⟩ (g_recv F hG rd_44 (by decide) rfl) rfl hl.1 rfl (Nat.le_of_ble_eq_true rfl) dX8_feed_57 ⟨Nat.le_refl _, Nat.le_refl _⟩) (fun H locs hG => ?_)
    refine lv_aload_n hx hb dX8_feed_60 rfl (lv_at hl 0 rfl) ?_
    refine g_getR F hG 44 ct_0 (by decide) (by decide) lk_X8_59 rfl dX8_feed_61 ?_
    refine g_getI F hG rd_44 (by decide) (by decide) lk_X8_78 rfl dX8_feed_64 ?_
    exact cg_iret F hr hlk hG hf dX8_feed_67
  · replace hf := if_f c1 hf
    refine lv_iconst (v := -1) hx hb dX8_feed_16 (by decide) ?_
    exact cg_iret F hr hlk hG hf dX8_feed_17
