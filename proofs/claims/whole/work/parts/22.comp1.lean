def j_X4_doubters_29 (n : Nat) (i : Nat) (x1 : Int32) (x2 : Int32) (M : Mem) : Option ((Int32 × Int32 × Mem) ⊕ (Int32 × Mem)) := some (.inl (x1, (x2 + (1 : Int32)), M))
def b_X4_doubters_4 (n : Nat) (i : Nat) (q : (Int32 × Int32 × Mem)) : Option ((Int32 × Int32 × Mem) ⊕ (Int32 × Mem)) := match q with
  | (x1, x2, M) => if (gi M i 7) ≤ x2 then (mr (some (x1, M))) else (ck (inb x2 8) (if (10 : Int32) ≤ (gi M (i + 3) x2.toNatClampNeg) then (j_X4_doubters_29 n i x1 x2 M) else (j_X4_doubters_29 n i (x1 ||| ((1 : Int32) <<< (x2 &&& 31))) x2 M)))
def f_X4_doubters (n : Nat) (i : Nat) (M : Mem) : Option (Int32 × Mem) := gl (b_X4_doubters_4 n i) n ((0 : Int32), (0 : Int32), M)
set_option maxHeartbeats 4000000 in
set_option maxRecDepth 100000 in
theorem c_X4_doubters (l : Launch) (w : Wd) {Y : (Nat → Prop) → State → Heap → Prop} (hYk : XOK Y) (n : Nat) (i : Nat) (hi : isSt i) (M : Mem) (res : Int32 × Mem) (hf : f_X4_doubters n i  M = some res) : CG l w layC 61 (XN Y) yX4_doubters cX4_doubters 3 (some .int) 0 [.ref (w.2.2.1 i)] M (GQi w layC 61 res) := by
  refine cg_start (by decide +kernel) (Nat.le_of_ble_eq_true rfl) ?_
  intro p e s m args below meth c F hr hlk hX hG ls hl
  have F : FX w p m c cX4_doubters 3 s args RX4 := F
  have hx := F.1.1
  have hb := F.1.2.1
  have hl : lv_has ls 3 [(0, .ref (w.2.2.1 i))] := hl
  have hJ4 : ∀ (x1 : Int32) (x2 : Int32) (M : Mem) (H : Heap) (locs : List Loc) (ls : Array Slot), gl (b_X4_doubters_4 n i ) n (x1, x2, M) = some res → GI w layC 61 s.heap M H locs → lv_has ls 3 [(0, .ref (w.2.2.1 i)), (1, .int x1), (2, .int x2)] → W p l e (Rm 0) s m args below meth c H locs 0 0 (MQ below (GQi w layC 61 res s.heap.size) args s 0 0 (gA w.2.2.1 61 s.heap.size)) (F0 m 4 ls []) := by
    intro x1 x2 M H locs ls hf hG hl
    refine gl_run (P := fun (q : (Int32 × Int32 × Mem)) => ∀ (H : Heap) (locs : List Loc) (ls : Array Slot), GI w layC 61 s.heap q.2.2 H locs → lv_has ls 3 [(0, .ref (w.2.2.1 i)), (1, .int q.1), (2, .int q.2.1)] → W p l e (Rm 0) s m args below meth c H locs 0 0 (MQ below (GQi w layC 61 res s.heap.size) args s 0 0 (gA w.2.2.1 61 s.heap.size)) (F0 m 4 ls [])) ?_ n (x1, x2, M) hf H locs ls hG hl
    clear hf hG hl ls locs H M x1 x2
    rintro ⟨x1, x2, M⟩ rr4 hf hI4 hE4 H locs ls hG hl
    try dsimp only at hG hl ⊢
    have hJ29 : ∀ (x1 : Int32) (x2 : Int32) (M : Mem) (H : Heap) (locs : List Loc) (ls : Array Slot), j_X4_doubters_29 n i x1 x2 M = some rr4 → GI w layC 61 s.heap M H locs → lv_has ls 3 [(0, .ref (w.2.2.1 i)), (1, .int x1), (2, .int x2)] → W p l e (Rm 0) s m args below meth c H locs 0 0 (MQ below (GQi w layC 61 res s.heap.size) args s 0 0 (gA w.2.2.1 61 s.heap.size)) (F0 m 29 ls []) := by
      intro x1 x2 M H locs ls hf hG hl
      unfold j_X4_doubters_29 at hf
      refine lv_iinc (v := (x2 + (1 : Int32))) (lv' := [(2, .int (x2 + (1 : Int32))), (0, .ref (w.2.2.1 i)), (1, .int x1)]) hx hb dX4_doubters_29 hl (k := 2) rfl rfl (by decide) rfl (fun ls hl => ?_)
      refine lv_goto (tgt := 4) hx hb dX4_doubters_32 (by decide) ?_
      exact hI4 _ (Option.some.inj hf).symm _ _ ls hG (lv_sub hl [1, 2, 0] rfl)
    dsimp only [b_X4_doubters_4] at hf
    refine lv_iload_n hx hb dX4_doubters_4 rfl (lv_at hl 2 rfl) ?_
    refine lv_aload_n hx hb dX4_doubters_5 rfl (lv_at hl 0 rfl) ?_
    refine g_getI F hG hi.1 (by decide) (by decide) lk_X4_34 rfl dX4_doubters_6 ?_
    refine lv_icmp_ge (tgt := 35) hx hb dX4_doubters_9 (by decide) (fun c1 => ?_) (fun c1 => ?_)
    · replace hf := if_t c1 hf
      refine lv_iload_n hx hb dX4_doubters_35 rfl (lv_at hl 1 rfl) ?_
      replace hf := mr_some hf
      obtain ⟨z4, hf, hz⟩ := hf
      rw [hE4 _ hz] at hf
      exact cg_iret F hr hlk hG hf dX4_doubters_36
    · replace hf := if_f c1 hf
      refine lv_aload_n hx hb dX4_doubters_12 rfl (lv_at hl 0 rfl) ?_
      refine g_getR F hG (i + 3) hi.1 (by decide) (by decide) lk_X4_18 rfl dX4_doubters_13 ?_
      refine lv_iload_n hx hb dX4_doubters_16 rfl (lv_at hl 2 rfl) ?_
      replace hf := ck_some hf
      obtain ⟨k2, hf⟩ := hf
      refine g_iald F hG hi.2.2.2.1 k2 dX4_doubters_17 ?_
      refine lv_bipush (v := 10) hx hb dX4_doubters_18 (by decide) ?_
      refine lv_icmp_ge (tgt := 29) hx hb dX4_doubters_20 (by decide) (fun c3 => ?_) (fun c3 => ?_)
      · replace hf := if_t c3 hf
        exact hJ29 _ _ _ _ _ ls hf hG (lv_sub hl [0, 1, 2] rfl)
      · replace hf := if_f c3 hf
        refine lv_iload_n hx hb dX4_doubters_23 rfl (lv_at hl 1 rfl) ?_
        refine lv_iconst (v := 1) hx hb dX4_doubters_24 (by decide) ?_
        refine lv_iload_n hx hb dX4_doubters_25 rfl (lv_at hl 2 rfl) ?_
        refine lv_ishl hx hb dX4_doubters_26 ?_
        refine lv_ior hx hb dX4_doubters_27 ?_
        refine lv_istore_n (lv' := [(1, .int (x1 ||| ((1 : Int32) <<< (x2 &&& 31)))), (0, .ref (w.2.2.1 i)), (2, .int x2)]) hx hb dX4_doubters_28 rfl hl (by decide) rfl (fun ls hl => ?_)
        exact hJ29 _ _ _ _ _ ls hf hG (lv_sub hl [1, 0, 2] rfl)
  unfold f_X4_doubters at hf
  refine lv_iconst (v := 0) hx hb dX4_doubters_0 (by decide) ?_
  refine lv_istore_n (lv' := [(1, .int (0 : Int32)), (0, .ref (w.2.2.1 i))]) hx hb dX4_doubters_1 rfl hl (by decide) rfl (fun ls hl => ?_)
  refine lv_iconst (v := 0) hx hb dX4_doubters_2 (by decide) ?_
  refine lv_istore_n (lv' := [(2, .int (0 : Int32)), (1, .int (0 : Int32)), (0, .ref (w.2.2.1 i))]) hx hb dX4_doubters_3 rfl hl (by decide) rfl (fun ls hl => ?_)
  exact hJ4 _ _ _ _ _ ls hf hG (lv_sub hl [2, 1, 0] rfl)

def f_X4_doubt (n : Nat) (i : Nat) (x1 : Int32) (x2 : Int32) (M : Mem) : Option (Int32 × Mem) := ck (inb x1 8) (bd (f_J6_bitCount_0f7a4 n  ((gi M (i + 4) x1.toNatClampNeg) &&& x2) M) (fun q2 => some (q2.1, q2.2)))
set_option maxHeartbeats 4000000 in
set_option maxRecDepth 100000 in
theorem c_X4_doubt (l : Launch) (w : Wd) {Y : (Nat → Prop) → State → Heap → Prop} (hYk : XOK Y) (n : Nat) (i : Nat) (hi : isSt i) (x1 : Int32) (x2 : Int32) (M : Mem) (res : Int32 × Mem) (hf : f_X4_doubt n i x1 x2 M = some res) : CG l w layC 61 (XN Y) yX4_doubt cX4_doubt 3 (some .int) 1 [.ref (w.2.2.1 i), .int x1, .int x2] M (GQi w layC 61 res) := by
  refine cg_start (by decide +kernel) (Nat.le_of_ble_eq_true rfl) ?_
  intro p e s m args below meth c F hr hlk hX hG ls hl
  have F : FX w p m c cX4_doubt 3 s args RX4 := F
  have hx := F.1.1
  have hb := F.1.2.1
  have hl : lv_has ls 3 [(0, .ref (w.2.2.1 i)), (1, .int x1), (2, .int x2)] := hl
  unfold f_X4_doubt at hf
  refine lv_aload_n hx hb dX4_doubt_0 rfl (lv_at hl 0 rfl) ?_
  refine g_getR F hG (i + 4) hi.1 (by decide) (by decide) lk_X4_21 rfl dX4_doubt_1 ?_
  refine lv_iload_n hx hb dX4_doubt_4 rfl (lv_at hl 1 rfl) ?_
  replace hf := ck_some hf
  obtain ⟨k1, hf⟩ := hf
  refine g_iald F hG hi.2.2.2.2.1 k1 dX4_doubt_5 ?_
  refine lv_iload_n hx hb dX4_doubt_6 rfl (lv_at hl 2 rfl) ?_
  refine lv_iand hx hb dX4_doubt_7 ?_
  replace hf := bd_some hf
  obtain ⟨q2, eq2, hf⟩ := hf
  refine gx_calli hG (gx_runS (xn_ok hYk) F hX hG (c_J6_bitCount_0f7a4 l w hYk n  ((gi M (i + 4) x1.toNatClampNeg) &&& x2) _ _ eq2) cs_X4_87 ⟨Nat.le_of_ble_eq_true rfl, Nat.le_of_ble_eq_true rfl⟩ rfl hl.1 rfl (Nat.le_of_ble_eq_true rfl) dX4_doubt_8 ⟨Nat.le_refl _, Nat.le_refl _⟩) (fun H locs hG => ?_)
  exact cg_iret F hr hlk hG hf dX4_doubt_11

def j_X4_mostFaithful_33 (n : Nat) (i : Nat) (x1 : Int32) (x2 : Int32) (x3 : Int32) (M : Mem) : Option ((Int32 × Int32 × Int32 × Mem) ⊕ (Int32 × Mem)) := some (.inl (x1, x2, (x3 + (1 : Int32)), M))
def b_X4_mostFaithful_6 (n : Nat) (i : Nat) (q : (Int32 × Int32 × Int32 × Mem)) : Option ((Int32 × Int32 × Int32 × Mem) ⊕ (Int32 × Mem)) := match q with
  | (x1, x2, x3, M) => if (gi M i 7) ≤ x3 then (mr (some (x1, M))) else (ck (inb x3 8) (if (gi M (i + 3) x3.toNatClampNeg) ≤ x2 then (j_X4_mostFaithful_33 n i x1 x2 x3 M) else (ck (inb x3 8) (j_X4_mostFaithful_33 n i x3 (gi M (i + 3) x3.toNatClampNeg) x3 M))))
def f_X4_mostFaithful (n : Nat) (i : Nat) (M : Mem) : Option (Int32 × Mem) := gl (b_X4_mostFaithful_6 n i) n ((-1 : Int32), (-1 : Int32), (0 : Int32), M)
set_option maxHeartbeats 4000000 in
set_option maxRecDepth 100000 in
theorem c_X4_mostFaithful (l : Launch) (w : Wd) {Y : (Nat → Prop) → State → Heap → Prop} (hYk : XOK Y) (n : Nat) (i : Nat) (hi : isSt i) (M : Mem) (res : Int32 × Mem) (hf : f_X4_mostFaithful n i  M = some res) : CG l w layC 61 (XN Y) yX4_mostFaithful cX4_mostFaithful 4 (some .int) 0 [.ref (w.2.2.1 i)] M (GQi w layC 61 res) := by
  refine cg_start (by decide +kernel) (Nat.le_of_ble_eq_true rfl) ?_
  intro p e s m args below meth c F hr hlk hX hG ls hl
  have F : FX w p m c cX4_mostFaithful 4 s args RX4 := F
  have hx := F.1.1
  have hb := F.1.2.1
  have hl : lv_has ls 4 [(0, .ref (w.2.2.1 i))] := hl
  have hJ6 : ∀ (x1 : Int32) (x2 : Int32) (x3 : Int32) (M : Mem) (H : Heap) (locs : List Loc) (ls : Array Slot), gl (b_X4_mostFaithful_6 n i ) n (x1, x2, x3, M) = some res → GI w layC 61 s.heap M H locs → lv_has ls 4 [(0, .ref (w.2.2.1 i)), (1, .int x1), (2, .int x2), (3, .int x3)] → W p l e (Rm 0) s m args below meth c H locs 0 0 (MQ below (GQi w layC 61 res s.heap.size) args s 0 0 (gA w.2.2.1 61 s.heap.size)) (F0 m 6 ls []) := by
    intro x1 x2 x3 M H locs ls hf hG hl
    refine gl_run (P := fun (q : (Int32 × Int32 × Int32 × Mem)) => ∀ (H : Heap) (locs : List Loc) (ls : Array Slot), GI w layC 61 s.heap q.2.2.2 H locs → lv_has ls 4 [(0, .ref (w.2.2.1 i)), (1, .int q.1), (2, .int q.2.1), (3, .int q.2.2.1)] → W p l e (Rm 0) s m args below meth c H locs 0 0 (MQ below (GQi w layC 61 res s.heap.size) args s 0 0 (gA w.2.2.1 61 s.heap.size)) (F0 m 6 ls [])) ?_ n (x1, x2, x3, M) hf H locs ls hG hl
    clear hf hG hl ls locs H M x1 x2 x3
    rintro ⟨x1, x2, x3, M⟩ rr6 hf hI6 hE6 H locs ls hG hl
    try dsimp only at hG hl ⊢
    have hJ33 : ∀ (x1 : Int32) (x2 : Int32) (x3 : Int32) (M : Mem) (H : Heap) (locs : List Loc) (ls : Array Slot), j_X4_mostFaithful_33 n i x1 x2 x3 M = some rr6 → GI w layC 61 s.heap M H locs → lv_has ls 4 [(0, .ref (w.2.2.1 i)), (1, .int x1), (2, .int x2), (3, .int x3)] → W p l e (Rm 0) s m args below meth c H locs 0 0 (MQ below (GQi w layC 61 res s.heap.size) args s 0 0 (gA w.2.2.1 61 s.heap.size)) (F0 m 33 ls []) := by
      intro x1 x2 x3 M H locs ls hf hG hl
      unfold j_X4_mostFaithful_33 at hf
      refine lv_iinc (v := (x3 + (1 : Int32))) (lv' := [(3, .int (x3 + (1 : Int32))), (0, .ref (w.2.2.1 i)), (1, .int x1), (2, .int x2)]) hx hb dX4_mostFaithful_33 hl (k := 3) rfl rfl (by decide) rfl (fun ls hl => ?_)
      refine lv_goto (tgt := 6) hx hb dX4_mostFaithful_36 (by decide) ?_
      exact hI6 _ (Option.some.inj hf).symm _ _ ls hG (lv_sub hl [1, 2, 3, 0] rfl)
    dsimp only [b_X4_mostFaithful_6] at hf
    refine lv_iload_n hx hb dX4_mostFaithful_6 rfl (lv_at hl 3 rfl) ?_
    refine lv_aload_n hx hb dX4_mostFaithful_7 rfl (lv_at hl 0 rfl) ?_
    refine g_getI F hG hi.1 (by decide) (by decide) lk_X4_34 rfl dX4_mostFaithful_8 ?_
    refine lv_icmp_ge (tgt := 39) hx hb dX4_mostFaithful_11 (by decide) (fun c1 => ?_) (fun c1 => ?_)
    · replace hf := if_t c1 hf
      refine lv_iload_n hx hb dX4_mostFaithful_39 rfl (lv_at hl 1 rfl) ?_
      replace hf := mr_some hf
      obtain ⟨z6, hf, hz⟩ := hf
      rw [hE6 _ hz] at hf
      exact cg_iret F hr hlk hG hf dX4_mostFaithful_40
    · replace hf := if_f c1 hf
      refine lv_aload_n hx hb dX4_mostFaithful_14 rfl (lv_at hl 0 rfl) ?_
      refine g_getR F hG (i + 3) hi.1 (by decide) (by decide) lk_X4_18 rfl dX4_mostFaithful_15 ?_
      refine lv_iload_n hx hb dX4_mostFaithful_18 rfl (lv_at hl 3 rfl) ?_
      replace hf := ck_some hf
      obtain ⟨k2, hf⟩ := hf
      refine g_iald F hG hi.2.2.2.1 k2 dX4_mostFaithful_19 ?_
      refine lv_iload_n hx hb dX4_mostFaithful_20 rfl (lv_at hl 2 rfl) ?_
      refine lv_icmp_le (tgt := 33) hx hb dX4_mostFaithful_21 (by decide) (fun c3 => ?_) (fun c3 => ?_)
      · replace hf := if_t c3 hf
        exact hJ33 _ _ _ _ _ _ ls hf hG (lv_sub hl [0, 1, 2, 3] rfl)
      · replace hf := if_f c3 hf
        refine lv_aload_n hx hb dX4_mostFaithful_24 rfl (lv_at hl 0 rfl) ?_
        refine g_getR F hG (i + 3) hi.1 (by decide) (by decide) lk_X4_18 rfl dX4_mostFaithful_25 ?_
        refine lv_iload_n hx hb dX4_mostFaithful_28 rfl (lv_at hl 3 rfl) ?_
        replace hf := ck_some hf
        obtain ⟨k4, hf⟩ := hf
        refine g_iald F hG hi.2.2.2.1 k4 dX4_mostFaithful_29 ?_
        refine lv_istore_n (lv' := [(2, .int (gi M (i + 3) x3.toNatClampNeg)), (0, .ref (w.2.2.1 i)), (1, .int x1), (3, .int x3)]) hx hb dX4_mostFaithful_30 rfl hl (by decide) rfl (fun ls hl => ?_)
        refine lv_iload_n hx hb dX4_mostFaithful_31 rfl (lv_at hl 3 rfl) ?_
        refine lv_istore_n (lv' := [(1, .int x3), (2, .int (gi M (i + 3) x3.toNatClampNeg)), (0, .ref (w.2.2.1 i)), (3, .int x3)]) hx hb dX4_mostFaithful_32 rfl hl (by decide) rfl (fun ls hl => ?_)
        exact hJ33 _ _ _ _ _ _ ls hf hG (lv_sub hl [2, 0, 1, 3] rfl)
  unfold f_X4_mostFaithful at hf
  refine lv_iconst (v := -1) hx hb dX4_mostFaithful_0 (by decide) ?_
  refine lv_istore_n (lv' := [(1, .int (-1 : Int32)), (0, .ref (w.2.2.1 i))]) hx hb dX4_mostFaithful_1 rfl hl (by decide) rfl (fun ls hl => ?_)
  refine lv_iconst (v := -1) hx hb dX4_mostFaithful_2 (by decide) ?_
  refine lv_istore_n (lv' := [(2, .int (-1 : Int32)), (1, .int (-1 : Int32)), (0, .ref (w.2.2.1 i))]) hx hb dX4_mostFaithful_3 rfl hl (by decide) rfl (fun ls hl => ?_)
  refine lv_iconst (v := 0) hx hb dX4_mostFaithful_4 (by decide) ?_
  refine lv_istore_n (lv' := [(3, .int (0 : Int32)), (2, .int (-1 : Int32)), (1, .int (-1 : Int32)), (0, .ref (w.2.2.1 i))]) hx hb dX4_mostFaithful_5 rfl hl (by decide) rfl (fun ls hl => ?_)
  exact hJ6 _ _ _ _ _ _ ls hf hG (lv_sub hl [3, 2, 1, 0] rfl)

def j_X4_heaviestHung_33 (n : Nat) (i : Nat) (x1 : Int32) (x2 : Int32) (x3 : Int32) (M : Mem) : Option ((Int32 × Int32 × Int32 × Mem) ⊕ (Int32 × Mem)) := some (.inl (x1, x2, (x3 + (1 : Int32)), M))
def b_X4_heaviestHung_6 (n : Nat) (i : Nat) (q : (Int32 × Int32 × Int32 × Mem)) : Option ((Int32 × Int32 × Int32 × Mem) ⊕ (Int32 × Mem)) := match q with
  | (x1, x2, x3, M) => if (gi M i 6) ≤ x3 then (mr (some (x1, M))) else (ck (inb x3 16) (if (gi M (i + 1) x3.toNatClampNeg) ≤ x2 then (j_X4_heaviestHung_33 n i x1 x2 x3 M) else (ck (inb x3 16) (j_X4_heaviestHung_33 n i x3 (gi M (i + 1) x3.toNatClampNeg) x3 M))))
def f_X4_heaviestHung (n : Nat) (i : Nat) (M : Mem) : Option (Int32 × Mem) := gl (b_X4_heaviestHung_6 n i) n ((-1 : Int32), (0 : Int32), (0 : Int32), M)
set_option maxHeartbeats 4000000 in
set_option maxRecDepth 100000 in
theorem c_X4_heaviestHung (l : Launch) (w : Wd) {Y : (Nat → Prop) → State → Heap → Prop} (hYk : XOK Y) (n : Nat) (i : Nat) (hi : isSt i) (M : Mem) (res : Int32 × Mem) (hf : f_X4_heaviestHung n i  M = some res) : CG l w layC 61 (XN Y) yX4_heaviestHung cX4_heaviestHung 4 (some .int) 0 [.ref (w.2.2.1 i)] M (GQi w layC 61 res) := by
  refine cg_start (by decide +kernel) (Nat.le_of_ble_eq_true rfl) ?_
  intro p e s m args below meth c F hr hlk hX hG ls hl
  have F : FX w p m c cX4_heaviestHung 4 s args RX4 := F
  have hx := F.1.1
  have hb := F.1.2.1
  have hl : lv_has ls 4 [(0, .ref (w.2.2.1 i))] := hl
  have hJ6 : ∀ (x1 : Int32) (x2 : Int32) (x3 : Int32) (M : Mem) (H : Heap) (locs : List Loc) (ls : Array Slot), gl (b_X4_heaviestHung_6 n i ) n (x1, x2, x3, M) = some res → GI w layC 61 s.heap M H locs → lv_has ls 4 [(0, .ref (w.2.2.1 i)), (1, .int x1), (2, .int x2), (3, .int x3)] → W p l e (Rm 0) s m args below meth c H locs 0 0 (MQ below (GQi w layC 61 res s.heap.size) args s 0 0 (gA w.2.2.1 61 s.heap.size)) (F0 m 6 ls []) := by
    intro x1 x2 x3 M H locs ls hf hG hl
    refine gl_run (P := fun (q : (Int32 × Int32 × Int32 × Mem)) => ∀ (H : Heap) (locs : List Loc) (ls : Array Slot), GI w layC 61 s.heap q.2.2.2 H locs → lv_has ls 4 [(0, .ref (w.2.2.1 i)), (1, .int q.1), (2, .int q.2.1), (3, .int q.2.2.1)] → W p l e (Rm 0) s m args below meth c H locs 0 0 (MQ below (GQi w layC 61 res s.heap.size) args s 0 0 (gA w.2.2.1 61 s.heap.size)) (F0 m 6 ls [])) ?_ n (x1, x2, x3, M) hf H locs ls hG hl
    clear hf hG hl ls locs H M x1 x2 x3
    rintro ⟨x1, x2, x3, M⟩ rr6 hf hI6 hE6 H locs ls hG hl
    try dsimp only at hG hl ⊢
    have hJ33 : ∀ (x1 : Int32) (x2 : Int32) (x3 : Int32) (M : Mem) (H : Heap) (locs : List Loc) (ls : Array Slot), j_X4_heaviestHung_33 n i x1 x2 x3 M = some rr6 → GI w layC 61 s.heap M H locs → lv_has ls 4 [(0, .ref (w.2.2.1 i)), (1, .int x1), (2, .int x2), (3, .int x3)] → W p l e (Rm 0) s m args below meth c H locs 0 0 (MQ below (GQi w layC 61 res s.heap.size) args s 0 0 (gA w.2.2.1 61 s.heap.size)) (F0 m 33 ls []) := by
      intro x1 x2 x3 M H locs ls hf hG hl
      unfold j_X4_heaviestHung_33 at hf
      refine lv_iinc (v := (x3 + (1 : Int32))) (lv' := [(3, .int (x3 + (1 : Int32))), (0, .ref (w.2.2.1 i)), (1, .int x1), (2, .int x2)]) hx hb dX4_heaviestHung_33 hl (k := 3) rfl rfl (by decide) rfl (fun ls hl => ?_)
      refine lv_goto (tgt := 6) hx hb dX4_heaviestHung_36 (by decide) ?_
      exact hI6 _ (Option.some.inj hf).symm _ _ ls hG (lv_sub hl [1, 2, 3, 0] rfl)
    dsimp only [b_X4_heaviestHung_6] at hf
    refine lv_iload_n hx hb dX4_heaviestHung_6 rfl (lv_at hl 3 rfl) ?_
    refine lv_aload_n hx hb dX4_heaviestHung_7 rfl (lv_at hl 0 rfl) ?_
    refine g_getI F hG hi.1 (by decide) (by decide) lk_X4_31 rfl dX4_heaviestHung_8 ?_
    refine lv_icmp_ge (tgt := 39) hx hb dX4_heaviestHung_11 (by decide) (fun c1 => ?_) (fun c1 => ?_)
    · replace hf := if_t c1 hf
      refine lv_iload_n hx hb dX4_heaviestHung_39 rfl (lv_at hl 1 rfl) ?_
      replace hf := mr_some hf
      obtain ⟨z6, hf, hz⟩ := hf
      rw [hE6 _ hz] at hf
      exact cg_iret F hr hlk hG hf dX4_heaviestHung_40
    · replace hf := if_f c1 hf
      refine lv_aload_n hx hb dX4_heaviestHung_14 rfl (lv_at hl 0 rfl) ?_
      refine g_getR F hG (i + 1) hi.1 (by decide) (by decide) lk_X4_9 rfl dX4_heaviestHung_15 ?_
      refine lv_iload_n hx hb dX4_heaviestHung_18 rfl (lv_at hl 3 rfl) ?_
      replace hf := ck_some hf
      obtain ⟨k2, hf⟩ := hf
      refine g_iald F hG hi.2.1 k2 dX4_heaviestHung_19 ?_
      refine lv_iload_n hx hb dX4_heaviestHung_20 rfl (lv_at hl 2 rfl) ?_
      refine lv_icmp_le (tgt := 33) hx hb dX4_heaviestHung_21 (by decide) (fun c3 => ?_) (fun c3 => ?_)
      · replace hf := if_t c3 hf
        exact hJ33 _ _ _ _ _ _ ls hf hG (lv_sub hl [0, 1, 2, 3] rfl)
      · replace hf := if_f c3 hf
        refine lv_aload_n hx hb dX4_heaviestHung_24 rfl (lv_at hl 0 rfl) ?_
        refine g_getR F hG (i + 1) hi.1 (by decide) (by decide) lk_X4_9 rfl dX4_heaviestHung_25 ?_
        refine lv_iload_n hx hb dX4_heaviestHung_28 rfl (lv_at hl 3 rfl) ?_
        replace hf := ck_some hf
        obtain ⟨k4, hf⟩ := hf
        refine g_iald F hG hi.2.1 k4 dX4_heaviestHung_29 ?_
        refine lv_istore_n (lv' := [(2, .int (gi M (i + 1) x3.toNatClampNeg)), (0, .ref (w.2.2.1 i)), (1, .int x1), (3, .int x3)]) hx hb dX4_heaviestHung_30 rfl hl (by decide) rfl (fun ls hl => ?_)
        refine lv_iload_n hx hb dX4_heaviestHung_31 rfl (lv_at hl 3 rfl) ?_
        refine lv_istore_n (lv' := [(1, .int x3), (2, .int (gi M (i + 1) x3.toNatClampNeg)), (0, .ref (w.2.2.1 i)), (3, .int x3)]) hx hb dX4_heaviestHung_32 rfl hl (by decide) rfl (fun ls hl => ?_)
        exact hJ33 _ _ _ _ _ _ ls hf hG (lv_sub hl [2, 0, 1, 3] rfl)
  unfold f_X4_heaviestHung at hf
  refine lv_iconst (v := -1) hx hb dX4_heaviestHung_0 (by decide) ?_
  refine lv_istore_n (lv' := [(1, .int (-1 : Int32)), (0, .ref (w.2.2.1 i))]) hx hb dX4_heaviestHung_1 rfl hl (by decide) rfl (fun ls hl => ?_)
  refine lv_iconst (v := 0) hx hb dX4_heaviestHung_2 (by decide) ?_
  refine lv_istore_n (lv' := [(2, .int (0 : Int32)), (1, .int (-1 : Int32)), (0, .ref (w.2.2.1 i))]) hx hb dX4_heaviestHung_3 rfl hl (by decide) rfl (fun ls hl => ?_)
  refine lv_iconst (v := 0) hx hb dX4_heaviestHung_4 (by decide) ?_
  refine lv_istore_n (lv' := [(3, .int (0 : Int32)), (2, .int (0 : Int32)), (1, .int (-1 : Int32)), (0, .ref (w.2.2.1 i))]) hx hb dX4_heaviestHung_5 rfl hl (by decide) rfl (fun ls hl => ?_)
  exact hJ6 _ _ _ _ _ _ ls hf hG (lv_sub hl [3, 2, 1, 0] rfl)

def j_X4_unevenness_46 (n : Nat) (i : Nat) (x2 : Int32) (M : Mem) : Option (Int32 × Mem) := bd (f_J9_abs_0f7a4 n  x2 M) (fun q1 => some (q1.1, q1.2))
def j_X4_unevenness_38 (n : Nat) (i : Nat) (t0 : Int32) (t1 : Int32) (x1 : Int32) (x3 : Int32) (M : Mem) : Option ((Int32 × Int32 × Mem) ⊕ (Int32 × Mem)) := some (.inl ((t1 + t0), (x3 + (1 : Int32)), M))
def b_X4_unevenness_4 (n : Nat) (i : Nat) (x1 : Int32) (q : (Int32 × Int32 × Mem)) : Option ((Int32 × Int32 × Mem) ⊕ (Int32 × Mem)) := match q with
  | (x2, x3, M) => if (gi M i 7) ≤ x3 then (mr (j_X4_unevenness_46 n i x2 M)) else (if ((x1 >>> (x3 &&& 31)) &&& (1 : Int32)) = (1 : Int32) then (ck (inb x3 8) (j_X4_unevenness_38 n i (gi M (i + 3) x3.toNatClampNeg) x2 x1 x3 M)) else (ck (inb x3 8) (j_X4_unevenness_38 n i (-(gi M (i + 3) x3.toNatClampNeg)) x2 x1 x3 M)))
def f_X4_unevenness (n : Nat) (i : Nat) (x1 : Int32) (M : Mem) : Option (Int32 × Mem) := gl (b_X4_unevenness_4 n i x1) n ((0 : Int32), (0 : Int32), M)
set_option maxHeartbeats 4000000 in
set_option maxRecDepth 100000 in
theorem c_X4_unevenness (l : Launch) (w : Wd) {Y : (Nat → Prop) → State → Heap → Prop} (hYk : XOK Y) (n : Nat) (i : Nat) (hi : isSt i) (x1 : Int32) (M : Mem) (res : Int32 × Mem) (hf : f_X4_unevenness n i x1 M = some res) : CG l w layC 61 (XN Y) yX4_unevenness cX4_unevenness 4 (some .int) 1 [.ref (w.2.2.1 i), .int x1] M (GQi w layC 61 res) := by
  refine cg_start (by decide +kernel) (Nat.le_of_ble_eq_true rfl) ?_
  intro p e s m args below meth c F hr hlk hX hG ls hl
  have F : FX w p m c cX4_unevenness 4 s args RX4 := F
  have hx := F.1.1
  have hb := F.1.2.1
  have hl : lv_has ls 4 [(0, .ref (w.2.2.1 i)), (1, .int x1)] := hl
  have hJ46 : ∀ (x2 : Int32) (M : Mem) (H : Heap) (locs : List Loc) (ls : Array Slot), j_X4_unevenness_46 n i x2 M = some res → GI w layC 61 s.heap M H locs → lv_has ls 4 [(2, .int x2)] → W p l e (Rm 1) s m args below meth c H locs 0 0 (MQ below (GQi w layC 61 res s.heap.size) args s 0 0 (gA w.2.2.1 61 s.heap.size)) (F0 m 46 ls []) := by
    intro x2 M H locs ls hf hG hl
    unfold j_X4_unevenness_46 at hf
    refine lv_iload_n hx hb dX4_unevenness_46 rfl (lv_at hl 0 rfl) ?_
    replace hf := bd_some hf
    obtain ⟨q1, eq1, hf⟩ := hf
    refine gx_calli hG (gx_runS (xn_ok hYk) F hX hG (c_J9_abs_0f7a4 l w hYk n  x2 _ _ eq1) cs_X4_96 ⟨Nat.le_of_ble_eq_true rfl, Nat.le_of_ble_eq_true rfl⟩ rfl hl.1 rfl (Nat.le_of_ble_eq_true rfl) dX4_unevenness_47 ⟨Nat.le_refl _, Nat.le_refl _⟩) (fun H locs hG => ?_)
    exact cg_iret F hr hlk hG hf dX4_unevenness_50
  have hJ4 : ∀ (x1 : Int32) (x2 : Int32) (x3 : Int32) (M : Mem) (H : Heap) (locs : List Loc) (ls : Array Slot), gl (b_X4_unevenness_4 n i x1) n (x2, x3, M) = some res → GI w layC 61 s.heap M H locs → lv_has ls 4 [(0, .ref (w.2.2.1 i)), (1, .int x1), (2, .int x2), (3, .int x3)] → W p l e (Rm 1) s m args below meth c H locs 0 0 (MQ below (GQi w layC 61 res s.heap.size) args s 0 0 (gA w.2.2.1 61 s.heap.size)) (F0 m 4 ls []) := by
    intro x1 x2 x3 M H locs ls hf hG hl
    refine gl_run (P := fun (q : (Int32 × Int32 × Mem)) => ∀ (H : Heap) (locs : List Loc) (ls : Array Slot), GI w layC 61 s.heap q.2.2 H locs → lv_has ls 4 [(0, .ref (w.2.2.1 i)), (1, .int x1), (2, .int q.1), (3, .int q.2.1)] → W p l e (Rm 1) s m args below meth c H locs 0 0 (MQ below (GQi w layC 61 res s.heap.size) args s 0 0 (gA w.2.2.1 61 s.heap.size)) (F0 m 4 ls [])) ?_ n (x2, x3, M) hf H locs ls hG hl
    clear hf hG hl ls locs H M x2 x3
    rintro ⟨x2, x3, M⟩ rr4 hf hI4 hE4 H locs ls hG hl
    try dsimp only at hG hl ⊢
    have hJ38 : ∀ (t0 : Int32) (t1 : Int32) (x3 : Int32) (M : Mem) (H : Heap) (locs : List Loc) (ls : Array Slot), j_X4_unevenness_38 n i t0 t1 x1 x3 M = some rr4 → GI w layC 61 s.heap M H locs → lv_has ls 4 [(0, .ref (w.2.2.1 i)), (1, .int x1), (3, .int x3)] → W p l e (Rm 1) s m args below meth c H locs 0 0 (MQ below (GQi w layC 61 res s.heap.size) args s 0 0 (gA w.2.2.1 61 s.heap.size)) (F0 m 38 ls [.int t0, .int t1]) := by
      intro t0 t1 x3 M H locs ls hf hG hl
      unfold j_X4_unevenness_38 at hf
      refine lv_iadd hx hb dX4_unevenness_38 ?_
      refine lv_istore_n (lv' := [(2, .int (t1 + t0)), (0, .ref (w.2.2.1 i)), (1, .int x1), (3, .int x3)]) hx hb dX4_unevenness_39 rfl hl (by decide) rfl (fun ls hl => ?_)
      refine lv_iinc (v := (x3 + (1 : Int32))) (lv' := [(3, .int (x3 + (1 : Int32))), (2, .int (t1 + t0)), (0, .ref (w.2.2.1 i)), (1, .int x1)]) hx hb dX4_unevenness_40 hl (k := 3) rfl rfl (by decide) rfl (fun ls hl => ?_)
      refine lv_goto (tgt := 4) hx hb dX4_unevenness_43 (by decide) ?_
      exact hI4 _ (Option.some.inj hf).symm _ _ ls hG (lv_sub hl [2, 3, 1, 0] rfl)
    dsimp only [b_X4_unevenness_4] at hf
    refine lv_iload_n hx hb dX4_unevenness_4 rfl (lv_at hl 3 rfl) ?_
    refine lv_aload_n hx hb dX4_unevenness_5 rfl (lv_at hl 0 rfl) ?_
    refine g_getI F hG hi.1 (by decide) (by decide) lk_X4_34 rfl dX4_unevenness_6 ?_
    refine lv_icmp_ge (tgt := 46) hx hb dX4_unevenness_9 (by decide) (fun c2 => ?_) (fun c2 => ?_)
    · replace hf := if_t c2 hf
      replace hf := mr_some hf
      obtain ⟨z4, hf, hz⟩ := hf
      rw [hE4 _ hz] at hf
      exact hJ46 _ _ _ _ ls hf hG (lv_sub hl [2] rfl)
    · replace hf := if_f c2 hf
      refine lv_iload_n hx hb dX4_unevenness_12 rfl (lv_at hl 2 rfl) ?_
      refine lv_iload_n hx hb dX4_unevenness_13 rfl (lv_at hl 1 rfl) ?_
      refine lv_iload_n hx hb dX4_unevenness_14 rfl (lv_at hl 3 rfl) ?_
      refine lv_ishr hx hb dX4_unevenness_15 ?_
      refine lv_iconst (v := 1) hx hb dX4_unevenness_16 (by decide) ?_
      refine lv_iand hx hb dX4_unevenness_17 ?_
      refine lv_iconst (v := 1) hx hb dX4_unevenness_18 (by decide) ?_
      refine lv_icmp_ne (tgt := 31) hx hb dX4_unevenness_19 (by decide) (fun c3 => ?_) (fun c3 => ?_)
      · replace hf := if_f c3 hf
        refine lv_aload_n hx hb dX4_unevenness_31 rfl (lv_at hl 0 rfl) ?_
        refine g_getR F hG (i + 3) hi.1 (by decide) (by decide) lk_X4_18 rfl dX4_unevenness_32 ?_
        refine lv_iload_n hx hb dX4_unevenness_35 rfl (lv_at hl 3 rfl) ?_
        replace hf := ck_some hf
        obtain ⟨k5, hf⟩ := hf
        refine g_iald F hG hi.2.2.2.1 k5 dX4_unevenness_36 ?_
        refine lv_ineg hx hb dX4_unevenness_37 ?_
        exact hJ38 _ _ _ _ _ _ ls hf hG (lv_sub hl [0, 1, 3] rfl)
      · replace hf := if_t c3 hf
        refine lv_aload_n hx hb dX4_unevenness_22 rfl (lv_at hl 0 rfl) ?_
        refine g_getR F hG (i + 3) hi.1 (by decide) (by decide) lk_X4_18 rfl dX4_unevenness_23 ?_
        refine lv_iload_n hx hb dX4_unevenness_26 rfl (lv_at hl 3 rfl) ?_
        replace hf := ck_some hf
        obtain ⟨k4, hf⟩ := hf
        refine g_iald F hG hi.2.2.2.1 k4 dX4_unevenness_27 ?_
        refine lv_goto (tgt := 38) hx hb dX4_unevenness_28 (by decide) ?_
        exact hJ38 _ _ _ _ _ _ ls hf hG (lv_sub hl [0, 1, 3] rfl)
  unfold f_X4_unevenness at hf
  refine lv_iconst (v := 0) hx hb dX4_unevenness_0 (by decide) ?_
  refine lv_istore_n (lv' := [(2, .int (0 : Int32)), (0, .ref (w.2.2.1 i)), (1, .int x1)]) hx hb dX4_unevenness_1 rfl hl (by decide) rfl (fun ls hl => ?_)
  refine lv_iconst (v := 0) hx hb dX4_unevenness_2 (by decide) ?_
  refine lv_istore_n (lv' := [(3, .int (0 : Int32)), (2, .int (0 : Int32)), (0, .ref (w.2.2.1 i)), (1, .int x1)]) hx hb dX4_unevenness_3 rfl hl (by decide) rfl (fun ls hl => ?_)
  exact hJ4 _ _ _ _ _ _ ls hf hG (lv_sub hl [2, 3, 1, 0] rfl)

def j_X4_evenSet_36 (n : Nat) (i : Nat) (x1 : Int32) (x2 : Int32) (x3 : Int32) (M : Mem) : Option ((Int32 × Int32 × Int32 × Mem) ⊕ (Int32 × Mem)) := some (.inl (x1, x2, (x3 + (2 : Int32)), M))
def b_X4_evenSet_8 (n : Nat) (i : Nat) (q : (Int32 × Int32 × Int32 × Mem)) : Option ((Int32 × Int32 × Int32 × Mem) ⊕ (Int32 × Mem)) := match q with
  | (x1, x2, x3, M) => if ((1 : Int32) <<< ((gi M i 7) &&& 31)) ≤ x3 then (mr (some (x1, M))) else (bd (f_X4_unevenness n i x3 M) (fun q2 => if x2 ≤ q2.1 then (j_X4_evenSet_36 n i x1 x2 x3 q2.2) else (j_X4_evenSet_36 n i x3 q2.1 x3 q2.2)))
def f_X4_evenSet (n : Nat) (i : Nat) (M : Mem) : Option (Int32 × Mem) := gl (b_X4_evenSet_8 n i) n ((0 : Int32), (793 : Int32), (1 : Int32), M)
set_option maxHeartbeats 4000000 in
set_option maxRecDepth 100000 in
theorem c_X4_evenSet (l : Launch) (w : Wd) {Y : (Nat → Prop) → State → Heap → Prop} (hYk : XOK Y) (n : Nat) (i : Nat) (hi : isSt i) (M : Mem) (res : Int32 × Mem) (hf : f_X4_evenSet n i  M = some res) : CG l w layC 61 (XN Y) yX4_evenSet cX4_evenSet 5 (some .int) 2 [.ref (w.2.2.1 i)] M (GQi w layC 61 res) := by
  refine cg_start (by decide +kernel) (Nat.le_of_ble_eq_true rfl) ?_
  intro p e s m args below meth c F hr hlk hX hG ls hl
  have F : FX w p m c cX4_evenSet 5 s args RX4 := F
  have hx := F.1.1
  have hb := F.1.2.1
  have hl : lv_has ls 5 [(0, .ref (w.2.2.1 i))] := hl
  have hJ8 : ∀ (x1 : Int32) (x2 : Int32) (x3 : Int32) (M : Mem) (H : Heap) (locs : List Loc) (ls : Array Slot), gl (b_X4_evenSet_8 n i ) n (x1, x2, x3, M) = some res → GI w layC 61 s.heap M H locs → lv_has ls 5 [(0, .ref (w.2.2.1 i)), (1, .int x1), (2, .int x2), (3, .int x3)] → W p l e (Rm 2) s m args below meth c H locs 0 0 (MQ below (GQi w layC 61 res s.heap.size) args s 0 0 (gA w.2.2.1 61 s.heap.size)) (F0 m 8 ls []) := by
    intro x1 x2 x3 M H locs ls hf hG hl
    refine gl_run (P := fun (q : (Int32 × Int32 × Int32 × Mem)) => ∀ (H : Heap) (locs : List Loc) (ls : Array Slot), GI w layC 61 s.heap q.2.2.2 H locs → lv_has ls 5 [(0, .ref (w.2.2.1 i)), (1, .int q.1), (2, .int q.2.1), (3, .int q.2.2.1)] → W p l e (Rm 2) s m args below meth c H locs 0 0 (MQ below (GQi w layC 61 res s.heap.size) args s 0 0 (gA w.2.2.1 61 s.heap.size)) (F0 m 8 ls [])) ?_ n (x1, x2, x3, M) hf H locs ls hG hl
    clear hf hG hl ls locs H M x1 x2 x3
    rintro ⟨x1, x2, x3, M⟩ rr8 hf hI8 hE8 H locs ls hG hl
    try dsimp only at hG hl ⊢
    have hJ36 : ∀ (x1 : Int32) (x2 : Int32) (x3 : Int32) (M : Mem) (H : Heap) (locs : List Loc) (ls : Array Slot), j_X4_evenSet_36 n i x1 x2 x3 M = some rr8 → GI w layC 61 s.heap M H locs → lv_has ls 5 [(0, .ref (w.2.2.1 i)), (1, .int x1), (2, .int x2), (3, .int x3)] → W p l e (Rm 2) s m args below meth c H locs 0 0 (MQ below (GQi w layC 61 res s.heap.size) args s 0 0 (gA w.2.2.1 61 s.heap.size)) (F0 m 36 ls []) := by
      intro x1 x2 x3 M H locs ls hf hG hl
      unfold j_X4_evenSet_36 at hf
      refine lv_iinc (v := (x3 + (2 : Int32))) (lv' := [(3, .int (x3 + (2 : Int32))), (0, .ref (w.2.2.1 i)), (1, .int x1), (2, .int x2)]) hx hb dX4_evenSet_36 hl (k := 3) rfl rfl (by decide) rfl (fun ls hl => ?_)
      refine lv_goto (tgt := 8) hx hb dX4_evenSet_39 (by decide) ?_
      exact hI8 _ (Option.some.inj hf).symm _ _ ls hG (lv_sub hl [1, 2, 3, 0] rfl)
    dsimp only [b_X4_evenSet_8] at hf
    refine lv_iload_n hx hb dX4_evenSet_8 rfl (lv_at hl 3 rfl) ?_
    refine lv_iconst (v := 1) hx hb dX4_evenSet_9 (by decide) ?_
    refine lv_aload_n hx hb dX4_evenSet_10 rfl (lv_at hl 0 rfl) ?_
    refine g_getI F hG hi.1 (by decide) (by decide) lk_X4_34 rfl dX4_evenSet_11 ?_
    refine lv_ishl hx hb dX4_evenSet_14 ?_
    refine lv_icmp_ge (tgt := 42) hx hb dX4_evenSet_15 (by decide) (fun c1 => ?_) (fun c1 => ?_)
    · replace hf := if_t c1 hf
      refine lv_iload_n hx hb dX4_evenSet_42 rfl (lv_at hl 1 rfl) ?_
      replace hf := mr_some hf
      obtain ⟨z8, hf, hz⟩ := hf
      rw [hE8 _ hz] at hf
      exact cg_iret F hr hlk hG hf dX4_evenSet_43
    · replace hf := if_f c1 hf
      refine lv_aload_n hx hb dX4_evenSet_18 rfl (lv_at hl 0 rfl) ?_
      refine lv_iload_n hx hb dX4_evenSet_19 rfl (lv_at hl 3 rfl) ?_
      replace hf := bd_some hf
      obtain ⟨q2, eq2, hf⟩ := hf
      refine gx_calli hG (gx_runV (xn_ok hYk) F hX hG (c_X4_unevenness l w hYk n i hi x3 _ _ eq2) cv_X4_93 ⟨Nat.le_of_ble_eq_true rfl, Nat.le_of_ble_eq_true rfl⟩ (g_recv F hG hi.1 (by decide) rfl) rfl hl.1 rfl (Nat.le_of_ble_eq_true rfl) dX4_evenSet_20 ⟨Nat.le_refl _, Nat.le_refl _⟩) (fun H locs hG => ?_)
      refine lv_istore (lv' := [(4, .int q2.1), (0, .ref (w.2.2.1 i)), (1, .int x1), (2, .int x2), (3, .int x3)]) hx hb dX4_evenSet_23 hl (by decide) rfl (fun ls hl => ?_)
      refine lv_iload hx hb dX4_evenSet_25 (lv_at hl 0 rfl) ?_
      refine lv_iload_n hx hb dX4_evenSet_27 rfl (lv_at hl 3 rfl) ?_
      refine lv_icmp_ge (tgt := 36) hx hb dX4_evenSet_28 (by decide) (fun c3 => ?_) (fun c3 => ?_)
      · replace hf := if_t c3 hf
        exact hJ36 _ _ _ _ _ _ ls hf hG (lv_sub hl [1, 2, 3, 4] rfl)
      · replace hf := if_f c3 hf
        refine lv_iload hx hb dX4_evenSet_31 (lv_at hl 0 rfl) ?_
        refine lv_istore_n (lv' := [(2, .int q2.1), (4, .int q2.1), (0, .ref (w.2.2.1 i)), (1, .int x1), (3, .int x3)]) hx hb dX4_evenSet_33 rfl hl (by decide) rfl (fun ls hl => ?_)
        refine lv_iload_n hx hb dX4_evenSet_34 rfl (lv_at hl 4 rfl) ?_
        refine lv_istore_n (lv' := [(1, .int x3), (2, .int q2.1), (4, .int q2.1), (0, .ref (w.2.2.1 i)), (3, .int x3)]) hx hb dX4_evenSet_35 rfl hl (by decide) rfl (fun ls hl => ?_)
        exact hJ36 _ _ _ _ _ _ ls hf hG (lv_sub hl [3, 0, 1, 4] rfl)
  unfold f_X4_evenSet at hf
  refine lv_iconst (v := 0) hx hb dX4_evenSet_0 (by decide) ?_
  refine lv_istore_n (lv' := [(1, .int (0 : Int32)), (0, .ref (w.2.2.1 i))]) hx hb dX4_evenSet_1 rfl hl (by decide) rfl (fun ls hl => ?_)
  refine lv_sipush (v := 793) hx hb dX4_evenSet_2 (by decide) ?_
  refine lv_istore_n (lv' := [(2, .int (793 : Int32)), (1, .int (0 : Int32)), (0, .ref (w.2.2.1 i))]) hx hb dX4_evenSet_5 rfl hl (by decide) rfl (fun ls hl => ?_)
  refine lv_iconst (v := 1) hx hb dX4_evenSet_6 (by decide) ?_
  refine lv_istore_n (lv' := [(3, .int (1 : Int32)), (2, .int (793 : Int32)), (1, .int (0 : Int32)), (0, .ref (w.2.2.1 i))]) hx hb dX4_evenSet_7 rfl hl (by decide) rfl (fun ls hl => ?_)
  exact hJ8 _ _ _ _ _ _ ls hf hG (lv_sub hl [3, 2, 1, 0] rfl)

def j_X4_takeLowest_47 (n : Nat) (i : Nat) (M : Mem) : Option (Mem) := some (si (si M i 6 ((gi M i 6) - (1 : Int32))) i 5 ((gi (si M i 6 ((gi M i 6) - (1 : Int32))) i 5) - (1 : Int32)))
def b_X4_takeLowest_5 (n : Nat) (i : Nat) (q : (Int32 × Mem)) : Option ((Int32 × Mem) ⊕ (Mem)) := match q with
  | (x1, M) => if (gi M i 5) ≤ x1 then (mr (j_X4_takeLowest_47 n i M)) else (ck (inb x1 16) (ck (inb (x1 - (1 : Int32)) 16) (ck (inb x1 16) (ck (inb (x1 - (1 : Int32)) 16) (some (.inl ((x1 + (1 : Int32)), si (si M (i + 1) (x1 - (1 : Int32)).toNatClampNeg (gi M (i + 1) x1.toNatClampNeg)) (i + 2) (x1 - (1 : Int32)).toNatClampNeg (gi (si M (i + 1) (x1 - (1 : Int32)).toNatClampNeg (gi M (i + 1) x1.toNatClampNeg)) (i + 2) x1.toNatClampNeg))))))))
def f_X4_takeLowest (n : Nat) (i : Nat) (M : Mem) : Option (Mem) := gl (b_X4_takeLowest_5 n i) n ((gi M i 6), M)
set_option maxHeartbeats 4000000 in
set_option maxRecDepth 100000 in
theorem c_X4_takeLowest (l : Launch) (w : Wd) {Y : (Nat → Prop) → State → Heap → Prop} (hYk : XOK Y) (n : Nat) (i : Nat) (hi : isSt i) (M : Mem) (res : Mem) (hf : f_X4_takeLowest n i  M = some res) : CG l w layC 61 (XN Y) yX4_takeLowest cX4_takeLowest 2 none 0 [.ref (w.2.2.1 i)] M (GQv w layC 61 res) := by
  refine cg_start (by decide +kernel) (Nat.le_of_ble_eq_true rfl) ?_
  intro p e s m args below meth c F hr hlk hX hG ls hl
  have F : FX w p m c cX4_takeLowest 2 s args RX4 := F
  have hx := F.1.1
  have hb := F.1.2.1
  have hl : lv_has ls 2 [(0, .ref (w.2.2.1 i))] := hl
  have hJ47 : ∀ (M : Mem) (H : Heap) (locs : List Loc) (ls : Array Slot), j_X4_takeLowest_47 n i  M = some res → GI w layC 61 s.heap M H locs → lv_has ls 2 [(0, .ref (w.2.2.1 i))] → W p l e (Rm 0) s m args below meth c H locs 0 0 (MQ below (GQv w layC 61 res s.heap.size) args s 0 0 (gA w.2.2.1 61 s.heap.size)) (F0 m 47 ls []) := by
    intro  M H locs ls hf hG hl
    unfold j_X4_takeLowest_47 at hf
    refine lv_aload_n hx hb dX4_takeLowest_47 rfl (lv_at hl 0 rfl) ?_
    refine lv_dup hx hb dX4_takeLowest_48 rfl ?_
    refine g_getI F hG hi.1 (by decide) (by decide) lk_X4_31 rfl dX4_takeLowest_49 ?_
    refine lv_iconst (v := 1) hx hb dX4_takeLowest_52 (by decide) ?_
    refine lv_isub hx hb dX4_takeLowest_53 ?_
    refine g_putI F hG hi.1 (by decide) (by decide) lkv_X4_31 rfl rfl rfl dX4_takeLowest_54 (fun H locs hG => ?_)
    refine lv_aload_n hx hb dX4_takeLowest_57 rfl (lv_at hl 0 rfl) ?_
    refine lv_dup hx hb dX4_takeLowest_58 rfl ?_
    refine g_getI F hG hi.1 (by decide) (by decide) lk_X4_27 rfl dX4_takeLowest_59 ?_
    refine lv_iconst (v := 1) hx hb dX4_takeLowest_62 (by decide) ?_
    refine lv_isub hx hb dX4_takeLowest_63 ?_
    refine g_putI F hG hi.1 (by decide) (by decide) lkv_X4_27 rfl rfl rfl dX4_takeLowest_64 (fun H locs hG => ?_)
    exact cg_vret F hr hlk hG hf dX4_takeLowest_67
  have hJ5 : ∀ (x1 : Int32) (M : Mem) (H : Heap) (locs : List Loc) (ls : Array Slot), gl (b_X4_takeLowest_5 n i ) n (x1, M) = some res → GI w layC 61 s.heap M H locs → lv_has ls 2 [(0, .ref (w.2.2.1 i)), (1, .int x1)] → W p l e (Rm 0) s m args below meth c H locs 0 0 (MQ below (GQv w layC 61 res s.heap.size) args s 0 0 (gA w.2.2.1 61 s.heap.size)) (F0 m 5 ls []) := by
    intro x1 M H locs ls hf hG hl
    refine gl_run (P := fun (q : (Int32 × Mem)) => ∀ (H : Heap) (locs : List Loc) (ls : Array Slot), GI w layC 61 s.heap q.2 H locs → lv_has ls 2 [(0, .ref (w.2.2.1 i)), (1, .int q.1)] → W p l e (Rm 0) s m args below meth c H locs 0 0 (MQ below (GQv w layC 61 res s.heap.size) args s 0 0 (gA w.2.2.1 61 s.heap.size)) (F0 m 5 ls [])) ?_ n (x1, M) hf H locs ls hG hl
    clear hf hG hl ls locs H M x1
    rintro ⟨x1, M⟩ rr5 hf hI5 hE5 H locs ls hG hl
    try dsimp only at hG hl ⊢
    dsimp only [b_X4_takeLowest_5] at hf
    refine lv_iload_n hx hb dX4_takeLowest_5 rfl (lv_at hl 1 rfl) ?_
    refine lv_aload_n hx hb dX4_takeLowest_6 rfl (lv_at hl 0 rfl) ?_
    refine g_getI F hG hi.1 (by decide) (by decide) lk_X4_27 rfl dX4_takeLowest_7 ?_
    refine lv_icmp_ge (tgt := 47) hx hb dX4_takeLowest_10 (by decide) (fun c1 => ?_) (fun c1 => ?_)
    · replace hf := if_t c1 hf
      replace hf := mr_some hf
      obtain ⟨z5, hf, hz⟩ := hf
      rw [hE5 _ hz] at hf
      exact hJ47  _ _ _ ls hf hG (lv_sub hl [0] rfl)
    · replace hf := if_f c1 hf
      refine lv_aload_n hx hb dX4_takeLowest_13 rfl (lv_at hl 0 rfl) ?_
      refine g_getR F hG (i + 1) hi.1 (by decide) (by decide) lk_X4_9 rfl dX4_takeLowest_14 ?_
      refine lv_iload_n hx hb dX4_takeLowest_17 rfl (lv_at hl 1 rfl) ?_
      refine lv_iconst (v := 1) hx hb dX4_takeLowest_18 (by decide) ?_
      refine lv_isub hx hb dX4_takeLowest_19 ?_
      refine lv_aload_n hx hb dX4_takeLowest_20 rfl (lv_at hl 0 rfl) ?_
      refine g_getR F hG (i + 1) hi.1 (by decide) (by decide) lk_X4_9 rfl dX4_takeLowest_21 ?_
      refine lv_iload_n hx hb dX4_takeLowest_24 rfl (lv_at hl 1 rfl) ?_
      replace hf := ck_some hf
      obtain ⟨k2, hf⟩ := hf
      refine g_iald F hG hi.2.1 k2 dX4_takeLowest_25 ?_
      replace hf := ck_some hf
      obtain ⟨k3, hf⟩ := hf
      refine g_iast F hG hi.2.1 k3 dX4_takeLowest_26 (fun H locs hG => ?_)
      refine lv_aload_n hx hb dX4_takeLowest_27 rfl (lv_at hl 0 rfl) ?_
      refine g_getR F hG (i + 2) hi.1 (by decide) (by decide) lk_X4_15 rfl dX4_takeLowest_28 ?_
      refine lv_iload_n hx hb dX4_takeLowest_31 rfl (lv_at hl 1 rfl) ?_
      refine lv_iconst (v := 1) hx hb dX4_takeLowest_32 (by decide) ?_
      refine lv_isub hx hb dX4_takeLowest_33 ?_
      refine lv_aload_n hx hb dX4_takeLowest_34 rfl (lv_at hl 0 rfl) ?_
      refine g_getR F hG (i + 2) hi.1 (by decide) (by decide) lk_X4_15 rfl dX4_takeLowest_35 ?_
      refine lv_iload_n hx hb dX4_takeLowest_38 rfl (lv_at hl 1 rfl) ?_
      replace hf := ck_some hf
      obtain ⟨k4, hf⟩ := hf
      refine g_iald F hG hi.2.2.1 k4 dX4_takeLowest_39 ?_
      replace hf := ck_some hf
      obtain ⟨k5, hf⟩ := hf
      refine g_iast F hG hi.2.2.1 k5 dX4_takeLowest_40 (fun H locs hG => ?_)
      refine lv_iinc (v := (x1 + (1 : Int32))) (lv' := [(1, .int (x1 + (1 : Int32))), (0, .ref (w.2.2.1 i))]) hx hb dX4_takeLowest_41 hl (k := 1) rfl rfl (by decide) rfl (fun ls hl => ?_)
      refine lv_goto (tgt := 5) hx hb dX4_takeLowest_44 (by decide) ?_
      exact hI5 _ (Option.some.inj hf).symm _ _ ls hG (lv_sub hl [1, 0] rfl)
  unfold f_X4_takeLowest at hf
  refine lv_aload_n hx hb dX4_takeLowest_0 rfl (lv_at hl 0 rfl) ?_
  refine g_getI F hG hi.1 (by decide) (by decide) lk_X4_31 rfl dX4_takeLowest_1 ?_
  refine lv_istore_n (lv' := [(1, .int (gi M i 6)), (0, .ref (w.2.2.1 i))]) hx hb dX4_takeLowest_4 rfl hl (by decide) rfl (fun ls hl => ?_)
  exact hJ5 _ _ _ _ ls hf hG (lv_sub hl [1, 0] rfl)

def b_X4_dropLowest_5 (n : Nat) (i : Nat) (x1 : Int32) (q : (Int32 × Int32 × Mem)) : Option ((Int32 × Int32 × Mem) ⊕ (Int32 × Mem)) := match q with
  | (x3, x4, M) => if (16 : Int32) ≤ x3 then (mr (some (x3, M))) else (if (gi M i 6) ≤ 0 then (mr (some (x3, M))) else (if x1 ≤ (gi M i 6) then (mr (some (x3, M))) else (if 0 ≤ x4 then (mr (some (x3, M))) else (ck (inb ((gi M i 6) - (1 : Int32)) 16) (ck (inb ((gi M i 6) - (1 : Int32)) 16) (bd (f_X4_takeLowest n i  M) (fun q7 => some (.inl ((x3 + (1 : Int32)), (x4 + ((gi M (i + 1) ((gi M i 6) - (1 : Int32)).toNatClampNeg) - (gi M (i + 2) ((gi M i 6) - (1 : Int32)).toNatClampNeg))), q7)))))))))
def f_X4_dropLowest (n : Nat) (i : Nat) (x1 : Int32) (x2 : Int32) (M : Mem) : Option (Int32 × Mem) := gl (b_X4_dropLowest_5 n i x1) n ((0 : Int32), x2, M)
set_option maxHeartbeats 4000000 in
set_option maxRecDepth 100000 in
theorem c_X4_dropLowest (l : Launch) (w : Wd) {Y : (Nat → Prop) → State → Heap → Prop} (hYk : XOK Y) (n : Nat) (i : Nat) (hi : isSt i) (x1 : Int32) (x2 : Int32) (M : Mem) (res : Int32 × Mem) (hf : f_X4_dropLowest n i x1 x2 M = some res) : CG l w layC 61 (XN Y) yX4_dropLowest cX4_dropLowest 5 (some .int) 1 [.ref (w.2.2.1 i), .int x1, .int x2] M (GQi w layC 61 res) := by
  refine cg_start (by decide +kernel) (Nat.le_of_ble_eq_true rfl) ?_
  intro p e s m args below meth c F hr hlk hX hG ls hl
  have F : FX w p m c cX4_dropLowest 5 s args RX4 := F
  have hx := F.1.1
  have hb := F.1.2.1
  have hl : lv_has ls 5 [(0, .ref (w.2.2.1 i)), (1, .int x1), (2, .int x2)] := hl
  have hJ5 : ∀ (x1 : Int32) (x3 : Int32) (x4 : Int32) (M : Mem) (H : Heap) (locs : List Loc) (ls : Array Slot), gl (b_X4_dropLowest_5 n i x1) n (x3, x4, M) = some res → GI w layC 61 s.heap M H locs → lv_has ls 5 [(0, .ref (w.2.2.1 i)), (1, .int x1), (3, .int x3), (4, .int x4)] → W p l e (Rm 1) s m args below meth c H locs 0 0 (MQ below (GQi w layC 61 res s.heap.size) args s 0 0 (gA w.2.2.1 61 s.heap.size)) (F0 m 5 ls []) := by
    intro x1 x3 x4 M H locs ls hf hG hl
    refine gl_run (P := fun (q : (Int32 × Int32 × Mem)) => ∀ (H : Heap) (locs : List Loc) (ls : Array Slot), GI w layC 61 s.heap q.2.2 H locs → lv_has ls 5 [(0, .ref (w.2.2.1 i)), (1, .int x1), (3, .int q.1), (4, .int q.2.1)] → W p l e (Rm 1) s m args below meth c H locs 0 0 (MQ below (GQi w layC 61 res s.heap.size) args s 0 0 (gA w.2.2.1 61 s.heap.size)) (F0 m 5 ls [])) ?_ n (x3, x4, M) hf H locs ls hG hl
    clear hf hG hl ls locs H M x3 x4
    rintro ⟨x3, x4, M⟩ rr5 hf hI5 hE5 H locs ls hG hl
    try dsimp only at hG hl ⊢
    dsimp only [b_X4_dropLowest_5] at hf
    refine lv_iload_n hx hb dX4_dropLowest_5 rfl (lv_at hl 2 rfl) ?_
    refine lv_bipush (v := 16) hx hb dX4_dropLowest_6 (by decide) ?_
    refine lv_icmp_ge (tgt := 69) hx hb dX4_dropLowest_8 (by decide) (fun c1 => ?_) (fun c1 => ?_)
    · replace hf := if_t c1 hf
      refine lv_iload_n hx hb dX4_dropLowest_69 rfl (lv_at hl 2 rfl) ?_
      replace hf := mr_some hf
      obtain ⟨z5, hf, hz⟩ := hf
      rw [hE5 _ hz] at hf
      exact cg_iret F hr hlk hG hf dX4_dropLowest_70
    · replace hf := if_f c1 hf
      refine lv_aload_n hx hb dX4_dropLowest_11 rfl (lv_at hl 0 rfl) ?_
      refine g_getI F hG hi.1 (by decide) (by decide) lk_X4_31 rfl dX4_dropLowest_12 ?_
      refine lv_if_le (tgt := 69) hx hb dX4_dropLowest_15 (by decide) (fun c2 => ?_) (fun c2 => ?_)
      · replace hf := if_t c2 hf
        refine lv_iload_n hx hb dX4_dropLowest_69 rfl (lv_at hl 2 rfl) ?_
        replace hf := mr_some hf
        obtain ⟨z5, hf, hz⟩ := hf
        rw [hE5 _ hz] at hf
        exact cg_iret F hr hlk hG hf dX4_dropLowest_70
      · replace hf := if_f c2 hf
        refine lv_aload_n hx hb dX4_dropLowest_18 rfl (lv_at hl 0 rfl) ?_
        refine g_getI F hG hi.1 (by decide) (by decide) lk_X4_31 rfl dX4_dropLowest_19 ?_
        refine lv_iload_n hx hb dX4_dropLowest_22 rfl (lv_at hl 1 rfl) ?_
        refine lv_icmp_ge (tgt := 69) hx hb dX4_dropLowest_23 (by decide) (fun c3 => ?_) (fun c3 => ?_)
        · replace hf := if_t c3 hf
          refine lv_iload_n hx hb dX4_dropLowest_69 rfl (lv_at hl 2 rfl) ?_
          replace hf := mr_some hf
          obtain ⟨z5, hf, hz⟩ := hf
          rw [hE5 _ hz] at hf
          exact cg_iret F hr hlk hG hf dX4_dropLowest_70
        · replace hf := if_f c3 hf
          refine lv_iload hx hb dX4_dropLowest_26 (lv_at hl 3 rfl) ?_
          refine lv_if_ge (tgt := 69) hx hb dX4_dropLowest_28 (by decide) (fun c4 => ?_) (fun c4 => ?_)
          · replace hf := if_t c4 hf
            refine lv_iload_n hx hb dX4_dropLowest_69 rfl (lv_at hl 2 rfl) ?_
            replace hf := mr_some hf
            obtain ⟨z5, hf, hz⟩ := hf
            rw [hE5 _ hz] at hf
            exact cg_iret F hr hlk hG hf dX4_dropLowest_70
          · replace hf := if_f c4 hf
            refine lv_iload hx hb dX4_dropLowest_31 (lv_at hl 3 rfl) ?_
            refine lv_aload_n hx hb dX4_dropLowest_33 rfl (lv_at hl 0 rfl) ?_
            refine g_getR F hG (i + 1) hi.1 (by decide) (by decide) lk_X4_9 rfl dX4_dropLowest_34 ?_
            refine lv_aload_n hx hb dX4_dropLowest_37 rfl (lv_at hl 0 rfl) ?_
            refine g_getI F hG hi.1 (by decide) (by decide) lk_X4_31 rfl dX4_dropLowest_38 ?_
            refine lv_iconst (v := 1) hx hb dX4_dropLowest_41 (by decide) ?_
            refine lv_isub hx hb dX4_dropLowest_42 ?_
            replace hf := ck_some hf
            obtain ⟨k5, hf⟩ := hf
            refine g_iald F hG hi.2.1 k5 dX4_dropLowest_43 ?_
            refine lv_aload_n hx hb dX4_dropLowest_44 rfl (lv_at hl 0 rfl) ?_
            refine g_getR F hG (i + 2) hi.1 (by decide) (by decide) lk_X4_15 rfl dX4_dropLowest_45 ?_
            refine lv_aload_n hx hb dX4_dropLowest_48 rfl (lv_at hl 0 rfl) ?_
            refine g_getI F hG hi.1 (by decide) (by decide) lk_X4_31 rfl dX4_dropLowest_49 ?_
            refine lv_iconst (v := 1) hx hb dX4_dropLowest_52 (by decide) ?_
            refine lv_isub hx hb dX4_dropLowest_53 ?_
            replace hf := ck_some hf
            obtain ⟨k6, hf⟩ := hf
            refine g_iald F hG hi.2.2.1 k6 dX4_dropLowest_54 ?_
            refine lv_isub hx hb dX4_dropLowest_55 ?_
            refine lv_iadd hx hb dX4_dropLowest_56 ?_
            refine lv_istore (lv' := [(4, .int (x4 + ((gi M (i + 1) ((gi M i 6) - (1 : Int32)).toNatClampNeg) - (gi M (i + 2) ((gi M i 6) - (1 : Int32)).toNatClampNeg)))), (0, .ref (w.2.2.1 i)), (1, .int x1), (3, .int x3)]) hx hb dX4_dropLowest_57 hl (by decide) rfl (fun ls hl => ?_)
            refine lv_aload_n hx hb dX4_dropLowest_59 rfl (lv_at hl 1 rfl) ?_
            replace hf := bd_some hf
            obtain ⟨q7, eq7, hf⟩ := hf
            refine gx_callv hG (gx_runV (xn_ok hYk) F hX hG (c_X4_takeLowest l w hYk n i hi  _ _ eq7) cv_X4_138 ⟨Nat.le_of_ble_eq_true rfl, Nat.le_of_ble_eq_true rfl⟩ (g_recv F hG hi.1 (by decide) rfl) rfl hl.1 rfl (Nat.le_of_ble_eq_true rfl) dX4_dropLowest_60 ⟨Nat.le_refl _, Nat.le_refl _⟩) (fun H locs hG => ?_)
            refine lv_iinc (v := (x3 + (1 : Int32))) (lv' := [(3, .int (x3 + (1 : Int32))), (4, .int (x4 + ((gi M (i + 1) ((gi M i 6) - (1 : Int32)).toNatClampNeg) - (gi M (i + 2) ((gi M i 6) - (1 : Int32)).toNatClampNeg)))), (0, .ref (w.2.2.1 i)), (1, .int x1)]) hx hb dX4_dropLowest_63 hl (k := 3) rfl rfl (by decide) rfl (fun ls hl => ?_)
            refine lv_goto (tgt := 5) hx hb dX4_dropLowest_66 (by decide) ?_
            exact hI5 _ (Option.some.inj hf).symm _ _ ls hG (lv_sub hl [2, 3, 0, 1] rfl)
  unfold f_X4_dropLowest at hf
  refine lv_iconst (v := 0) hx hb dX4_dropLowest_0 (by decide) ?_
  refine lv_istore_n (lv' := [(3, .int (0 : Int32)), (0, .ref (w.2.2.1 i)), (1, .int x1), (2, .int x2)]) hx hb dX4_dropLowest_1 rfl hl (by decide) rfl (fun ls hl => ?_)
  refine lv_iload_n hx hb dX4_dropLowest_2 rfl (lv_at hl 3 rfl) ?_
  refine lv_istore (lv' := [(4, .int x2), (3, .int (0 : Int32)), (0, .ref (w.2.2.1 i)), (1, .int x1), (2, .int x2)]) hx hb dX4_dropLowest_3 hl (by decide) rfl (fun ls hl => ?_)
  exact hJ5 _ _ _ _ _ _ ls hf hG (lv_sub hl [2, 3, 1, 0] rfl)

def f_X4_hangNext (n : Nat) (i : Nat) (x1 : Int32) (M : Mem) : Option (Mem) := if (gi M i 9) < x1 then (some M) else (if (gi M i 5) ≤ (gi M i 6) then (some M) else (some (si (si M i 9 ((gi M i 9) - x1)) i 6 ((gi (si M i 9 ((gi M i 9) - x1)) i 6) + (1 : Int32)))))
set_option maxHeartbeats 4000000 in
set_option maxRecDepth 100000 in
theorem c_X4_hangNext (l : Launch) (w : Wd) {Y : (Nat → Prop) → State → Heap → Prop} (hYk : XOK Y) (n : Nat) (i : Nat) (hi : isSt i) (x1 : Int32) (M : Mem) (res : Mem) (hf : f_X4_hangNext n i x1 M = some res) : CG l w layC 61 (XN Y) yX4_hangNext cX4_hangNext 2 none 0 [.ref (w.2.2.1 i), .int x1] M (GQv w layC 61 res) := by
  refine cg_start (by decide +kernel) (Nat.le_of_ble_eq_true rfl) ?_
  intro p e s m args below meth c F hr hlk hX hG ls hl
  have F : FX w p m c cX4_hangNext 2 s args RX4 := F
  have hx := F.1.1
  have hb := F.1.2.1
  have hl : lv_has ls 2 [(0, .ref (w.2.2.1 i)), (1, .int x1)] := hl
  unfold f_X4_hangNext at hf
  refine lv_aload_n hx hb dX4_hangNext_0 rfl (lv_at hl 0 rfl) ?_
  refine g_getI F hG hi.1 (by decide) (by decide) lk_X4_40 rfl dX4_hangNext_1 ?_
  refine lv_iload_n hx hb dX4_hangNext_4 rfl (lv_at hl 1 rfl) ?_
  refine lv_icmp_lt (tgt := 39) hx hb dX4_hangNext_5 (by decide) (fun c1 => ?_) (fun c1 => ?_)
  · replace hf := if_t c1 hf
    exact cg_vret F hr hlk hG hf dX4_hangNext_39
  · replace hf := if_f c1 hf
    refine lv_aload_n hx hb dX4_hangNext_8 rfl (lv_at hl 0 rfl) ?_
    refine g_getI F hG hi.1 (by decide) (by decide) lk_X4_31 rfl dX4_hangNext_9 ?_
    refine lv_aload_n hx hb dX4_hangNext_12 rfl (lv_at hl 0 rfl) ?_
    refine g_getI F hG hi.1 (by decide) (by decide) lk_X4_27 rfl dX4_hangNext_13 ?_
    refine lv_icmp_ge (tgt := 39) hx hb dX4_hangNext_16 (by decide) (fun c2 => ?_) (fun c2 => ?_)
    · replace hf := if_t c2 hf
      exact cg_vret F hr hlk hG hf dX4_hangNext_39
    · replace hf := if_f c2 hf
      refine lv_aload_n hx hb dX4_hangNext_19 rfl (lv_at hl 0 rfl) ?_
      refine lv_dup hx hb dX4_hangNext_20 rfl ?_
      refine g_getI F hG hi.1 (by decide) (by decide) lk_X4_40 rfl dX4_hangNext_21 ?_
      refine lv_iload_n hx hb dX4_hangNext_24 rfl (lv_at hl 1 rfl) ?_
      refine lv_isub hx hb dX4_hangNext_25 ?_
      refine g_putI F hG hi.1 (by decide) (by decide) lkv_X4_40 rfl rfl rfl dX4_hangNext_26 (fun H locs hG => ?_)
      refine lv_aload_n hx hb dX4_hangNext_29 rfl (lv_at hl 0 rfl) ?_
      refine lv_dup hx hb dX4_hangNext_30 rfl ?_
      refine g_getI F hG hi.1 (by decide) (by decide) lk_X4_31 rfl dX4_hangNext_31 ?_
      refine lv_iconst (v := 1) hx hb dX4_hangNext_34 (by decide) ?_
      refine lv_iadd hx hb dX4_hangNext_35 ?_
      refine g_putI F hG hi.1 (by decide) (by decide) lkv_X4_31 rfl rfl rfl dX4_hangNext_36 (fun H locs hG => ?_)
      exact cg_vret F hr hlk hG hf dX4_hangNext_39

def f_X6_hasRule (n : Nat) (j : Nat) (x1 : Int32) (M : Mem) : Option (Int32 × Mem) := ck (inb x1 3) (if (gi M (j + 3) x1.toNatClampNeg) = (-1 : Int32) then (some ((0 : Int32), M)) else (some ((1 : Int32), M)))
set_option maxHeartbeats 4000000 in
set_option maxRecDepth 100000 in
theorem c_X6_hasRule (l : Launch) (w : Wd) {Y : (Nat → Prop) → State → Heap → Prop} (hYk : XOK Y) (n : Nat) (j : Nat) (hj : isTw j) (x1 : Int32) (M : Mem) (res : Int32 × Mem) (hf : f_X6_hasRule n j x1 M = some res) : CG l w layC 61 (XN Y) yX6_hasRule cX6_hasRule 2 (some .boolean) 0 [.ref (w.2.2.1 j), .int x1] M (GQi w layC 61 res) := by
  refine cg_start (by decide +kernel) (Nat.le_of_ble_eq_true rfl) ?_
  intro p e s m args below meth c F hr hlk hX hG ls hl
  have F : FX w p m c cX6_hasRule 2 s args RX6 := F
  have hx := F.1.1
  have hb := F.1.2.1
  have hl : lv_has ls 2 [(0, .ref (w.2.2.1 j)), (1, .int x1)] := hl
  unfold f_X6_hasRule at hf
  refine lv_aload_n hx hb dX6_hasRule_0 rfl (lv_at hl 0 rfl) ?_
  refine g_getR F hG (j + 3) hj.1 (by decide) (by decide) lk_X6_18 rfl dX6_hasRule_1 ?_
  refine lv_iload_n hx hb dX6_hasRule_4 rfl (lv_at hl 1 rfl) ?_
  replace hf := ck_some hf
  obtain ⟨k1, hf⟩ := hf
  refine g_iald F hG hj.2.2.2.1 k1 dX6_hasRule_5 ?_
  refine lv_iconst (v := -1) hx hb dX6_hasRule_6 (by decide) ?_
  refine lv_icmp_eq (tgt := 14) hx hb dX6_hasRule_7 (by decide) (fun c2 => ?_) (fun c2 => ?_)
  · replace hf := if_t c2 hf
    refine lv_iconst (v := 0) hx hb dX6_hasRule_14 (by decide) ?_
    exact cg_zret F hr hlk hG hf (Or.inl rfl) dX6_hasRule_15
  · replace hf := if_f c2 hf
    refine lv_iconst (v := 1) hx hb dX6_hasRule_10 (by decide) ?_
    refine lv_goto (tgt := 15) hx hb dX6_hasRule_11 (by decide) ?_
    exact cg_zret F hr hlk hG hf (Or.inr rfl) dX6_hasRule_15

def f_X6_join (n : Nat) (x0 : Int32) (x1 : Int32) (x2 : Int32) (M : Mem) : Option (Int32 × Mem) := if x0 = (-18 : Int32) then (if x2 = 0 then (some ((0 : Int32), M)) else (ck (¬ x2 = 0) (some ((x1 / x2), M)))) else (if x0 = (-17 : Int32) then (some ((x1 * x2), M)) else (if x0 = (-16 : Int32) then (some ((x1 - x2), M)) else (if x0 = (-15 : Int32) then (some ((x1 + x2), M)) else (if x0 = (-14 : Int32) then (if x1 = x2 then (some ((1 : Int32), M)) else (some ((0 : Int32), M))) else (if x0 = (-13 : Int32) then (if x2 ≤ x1 then (some ((0 : Int32), M)) else (some ((1 : Int32), M))) else (if x0 = (-12 : Int32) then (if x1 = 0 then (some ((0 : Int32), M)) else (if x2 = 0 then (some ((0 : Int32), M)) else (some ((1 : Int32), M)))) else (if x0 = (-11 : Int32) then (if x1 = 0 then (if x2 = 0 then (some ((0 : Int32), M)) else (some ((1 : Int32), M))) else (some ((1 : Int32), M))) else (some ((0 : Int32), M)))))))))
set_option maxHeartbeats 4000000 in
set_option maxRecDepth 100000 in
theorem c_X6_join (l : Launch) (w : Wd) {Y : (Nat → Prop) → State → Heap → Prop} (hYk : XOK Y) (n : Nat) (x0 : Int32) (x1 : Int32) (x2 : Int32) (M : Mem) (res : Int32 × Mem) (hf : f_X6_join n  x0 x1 x2 M = some res) : CG l w layC 61 (XN Y) yX6_join cX6_join 3 (some .int) 0 [.int x0, .int x1, .int x2] M (GQi w layC 61 res) := by
  refine cg_start (by decide +kernel) (Nat.le_of_ble_eq_true rfl) ?_
  intro p e s m args below meth c F hr hlk hX hG ls hl
  have F : FX w p m c cX6_join 3 s args RX6 := F
  have hx := F.1.1
  have hb := F.1.2.1
  have hl : lv_has ls 3 [(0, .int x0), (1, .int x1), (2, .int x2)] := hl
  unfold f_X6_join at hf
  refine lv_iload_n hx hb dX6_join_0 rfl (lv_at hl 0 rfl) ?_
  by_cases c1 : x0 = (-18 : Int32)
  · replace hf := if_t c1 hf
    refine lv_tableIn (off := 109) (tgt := 110) hx hb dX6_join_1 (by rw [c1]; decide) (by rw [c1]; decide) (by rw [c1]; rfl) (by decide) ?_
    refine lv_iload_n hx hb dX6_join_110 rfl (lv_at hl 2 rfl) ?_
    refine lv_if_ne (tgt := 118) hx hb dX6_join_111 (by decide) (fun c2 => ?_) (fun c2 => ?_)
    · replace hf := if_f c2 hf
      refine lv_iload_n hx hb dX6_join_118 rfl (lv_at hl 1 rfl) ?_
      refine lv_iload_n hx hb dX6_join_119 rfl (lv_at hl 2 rfl) ?_
      replace hf := ck_some hf
      obtain ⟨k3, hf⟩ := hf
      refine lv_idiv hx hb dX6_join_120 k3 ?_
      exact cg_iret F hr hlk hG hf dX6_join_121
    · replace hf := if_t c2 hf
      refine lv_iconst (v := 0) hx hb dX6_join_114 (by decide) ?_
      refine lv_goto (tgt := 121) hx hb dX6_join_115 (by decide) ?_
      exact cg_iret F hr hlk hG hf dX6_join_121
  replace hf := if_f c1 hf
  by_cases c4 : x0 = (-17 : Int32)
  · replace hf := if_t c4 hf
    refine lv_tableIn (off := 105) (tgt := 106) hx hb dX6_join_1 (by rw [c4]; decide) (by rw [c4]; decide) (by rw [c4]; rfl) (by decide) ?_
    refine lv_iload_n hx hb dX6_join_106 rfl (lv_at hl 1 rfl) ?_
    refine lv_iload_n hx hb dX6_join_107 rfl (lv_at hl 2 rfl) ?_
    refine lv_imul hx hb dX6_join_108 ?_
    exact cg_iret F hr hlk hG hf dX6_join_109
  replace hf := if_f c4 hf
  by_cases c5 : x0 = (-16 : Int32)
  · replace hf := if_t c5 hf
    refine lv_tableIn (off := 101) (tgt := 102) hx hb dX6_join_1 (by rw [c5]; decide) (by rw [c5]; decide) (by rw [c5]; rfl) (by decide) ?_
    refine lv_iload_n hx hb dX6_join_102 rfl (lv_at hl 1 rfl) ?_
    refine lv_iload_n hx hb dX6_join_103 rfl (lv_at hl 2 rfl) ?_
    refine lv_isub hx hb dX6_join_104 ?_
    exact cg_iret F hr hlk hG hf dX6_join_105
  replace hf := if_f c5 hf
  by_cases c6 : x0 = (-15 : Int32)
  · replace hf := if_t c6 hf
    refine lv_tableIn (off := 97) (tgt := 98) hx hb dX6_join_1 (by rw [c6]; decide) (by rw [c6]; decide) (by rw [c6]; rfl) (by decide) ?_
    refine lv_iload_n hx hb dX6_join_98 rfl (lv_at hl 1 rfl) ?_
    refine lv_iload_n hx hb dX6_join_99 rfl (lv_at hl 2 rfl) ?_
    refine lv_iadd hx hb dX6_join_100 ?_
    exact cg_iret F hr hlk hG hf dX6_join_101
  replace hf := if_f c6 hf
  by_cases c7 : x0 = (-14 : Int32)
  · replace hf := if_t c7 hf
    refine lv_tableIn (off := 86) (tgt := 87) hx hb dX6_join_1 (by rw [c7]; decide) (by rw [c7]; decide) (by rw [c7]; rfl) (by decide) ?_
    refine lv_iload_n hx hb dX6_join_87 rfl (lv_at hl 1 rfl) ?_
    refine lv_iload_n hx hb dX6_join_88 rfl (lv_at hl 2 rfl) ?_
    refine lv_icmp_ne (tgt := 96) hx hb dX6_join_89 (by decide) (fun c8 => ?_) (fun c8 => ?_)
    · replace hf := if_f c8 hf
      refine lv_iconst (v := 0) hx hb dX6_join_96 (by decide) ?_
      exact cg_iret F hr hlk hG hf dX6_join_97
    · replace hf := if_t c8 hf
      refine lv_iconst (v := 1) hx hb dX6_join_92 (by decide) ?_
      refine lv_goto (tgt := 97) hx hb dX6_join_93 (by decide) ?_
      exact cg_iret F hr hlk hG hf dX6_join_97
  replace hf := if_f c7 hf
  by_cases c9 : x0 = (-13 : Int32)
  · replace hf := if_t c9 hf
    refine lv_tableIn (off := 75) (tgt := 76) hx hb dX6_join_1 (by rw [c9]; decide) (by rw [c9]; decide) (by rw [c9]; rfl) (by decide) ?_
    refine lv_iload_n hx hb dX6_join_76 rfl (lv_at hl 1 rfl) ?_
    refine lv_iload_n hx hb dX6_join_77 rfl (lv_at hl 2 rfl) ?_
    refine lv_icmp_ge (tgt := 85) hx hb dX6_join_78 (by decide) (fun c10 => ?_) (fun c10 => ?_)
    · replace hf := if_t c10 hf
      refine lv_iconst (v := 0) hx hb dX6_join_85 (by decide) ?_
      exact cg_iret F hr hlk hG hf dX6_join_86
    · replace hf := if_f c10 hf
      refine lv_iconst (v := 1) hx hb dX6_join_81 (by decide) ?_
      refine lv_goto (tgt := 86) hx hb dX6_join_82 (by decide) ?_
      exact cg_iret F hr hlk hG hf dX6_join_86
  replace hf := if_f c9 hf
  by_cases c11 : x0 = (-12 : Int32)
  · replace hf := if_t c11 hf
    refine lv_tableIn (off := 61) (tgt := 62) hx hb dX6_join_1 (by rw [c11]; decide) (by rw [c11]; decide) (by rw [c11]; rfl) (by decide) ?_
    refine lv_iload_n hx hb dX6_join_62 rfl (lv_at hl 1 rfl) ?_
    refine lv_if_eq (tgt := 74) hx hb dX6_join_63 (by decide) (fun c12 => ?_) (fun c12 => ?_)
    · replace hf := if_t c12 hf
      refine lv_iconst (v := 0) hx hb dX6_join_74 (by decide) ?_
      exact cg_iret F hr hlk hG hf dX6_join_75
    · replace hf := if_f c12 hf
      refine lv_iload_n hx hb dX6_join_66 rfl (lv_at hl 2 rfl) ?_
      refine lv_if_eq (tgt := 74) hx hb dX6_join_67 (by decide) (fun c13 => ?_) (fun c13 => ?_)
      · replace hf := if_t c13 hf
        refine lv_iconst (v := 0) hx hb dX6_join_74 (by decide) ?_
        exact cg_iret F hr hlk hG hf dX6_join_75
      · replace hf := if_f c13 hf
        refine lv_iconst (v := 1) hx hb dX6_join_70 (by decide) ?_
        refine lv_goto (tgt := 75) hx hb dX6_join_71 (by decide) ?_
        exact cg_iret F hr hlk hG hf dX6_join_75
  replace hf := if_f c11 hf
  by_cases c14 : x0 = (-11 : Int32)
  · replace hf := if_t c14 hf
    refine lv_tableIn (off := 47) (tgt := 48) hx hb dX6_join_1 (by rw [c14]; decide) (by rw [c14]; decide) (by rw [c14]; rfl) (by decide) ?_
    refine lv_iload_n hx hb dX6_join_48 rfl (lv_at hl 1 rfl) ?_
    refine lv_if_ne (tgt := 56) hx hb dX6_join_49 (by decide) (fun c15 => ?_) (fun c15 => ?_)
    · replace hf := if_f c15 hf
      refine lv_iconst (v := 1) hx hb dX6_join_56 (by decide) ?_
      refine lv_goto (tgt := 61) hx hb dX6_join_57 (by decide) ?_
      exact cg_iret F hr hlk hG hf dX6_join_61
    · replace hf := if_t c15 hf
      refine lv_iload_n hx hb dX6_join_52 rfl (lv_at hl 2 rfl) ?_
      refine lv_if_eq (tgt := 60) hx hb dX6_join_53 (by decide) (fun c16 => ?_) (fun c16 => ?_)
      · replace hf := if_t c16 hf
        refine lv_iconst (v := 0) hx hb dX6_join_60 (by decide) ?_
        exact cg_iret F hr hlk hG hf dX6_join_61
      · replace hf := if_f c16 hf
        refine lv_iconst (v := 1) hx hb dX6_join_56 (by decide) ?_
        refine lv_goto (tgt := 61) hx hb dX6_join_57 (by decide) ?_
        exact cg_iret F hr hlk hG hf dX6_join_61
  replace hf := if_f c14 hf
  refine lv_tableOut (tgt := 122) hx hb dX6_join_1 (sw_out (-18) (-11) 8 (by decide) (fun k hk => match k, hk with | 0, _ => c1 | 1, _ => c4 | 2, _ => c5 | 3, _ => c6 | 4, _ => c7 | 5, _ => c9 | 6, _ => c11 | 7, _ => c14 | k + 8, h => absurd h (by omega))) (by decide) ?_
  refine lv_iconst (v := 0) hx hb dX6_join_122 (by decide) ?_
  exact cg_iret F hr hlk hG hf dX6_join_123

def j_X6_run_158 (n : Nat) (j : Nat) (x2 : Int32) (M : Mem) : Option (Int32 × Mem) := if x2 ≤ 0 then (some ((0 : Int32), M)) else (some ((gi M (j + 6) (0 : Int32).toNatClampNeg), M))
def j_X6_run_152 (n : Nat) (j : Nat) (x1 : Int32) (x2 : Int32) (x3 : Int32) (M : Mem) : Option ((Int32 × Int32 × Mem) ⊕ (Int32 × Mem)) := some (.inl (x2, (x3 + (1 : Int32)), M))
def j_X6_run_64 (n : Nat) (j : Nat) (t0 : Int32) (t1 : Int32) (x1 : Int32) (x2 : Int32) (x3 : Int32) (M : Mem) : Option ((Int32 × Int32 × Mem) ⊕ (Int32 × Mem)) := ck (inb t1 32) (j_X6_run_152 n j x1 (x2 + (1 : Int32)) x3 (si M (j + 6) t1.toNatClampNeg t0))
def j_X6_run_106 (n : Nat) (j : Nat) (t0 : Int32) (t1 : Int32) (x1 : Int32) (x2 : Int32) (x3 : Int32) (M : Mem) : Option ((Int32 × Int32 × Mem) ⊕ (Int32 × Mem)) := ck (inb t1 32) (j_X6_run_152 n j x1 x2 x3 (si M (j + 6) t1.toNatClampNeg t0))
def j_X6_run_110 (n : Nat) (j : Nat) (x1 : Int32) (x2 : Int32) (x3 : Int32) (x4 : Int32) (M : Mem) : Option ((Int32 × Int32 × Mem) ⊕ (Int32 × Mem)) := if (-10 : Int32) ≤ x4 then (j_X6_run_152 n j x1 x2 x3 M) else (if x2 < (2 : Int32) then (j_X6_run_152 n j x1 x2 x3 M) else (ck (inb ((x2 + (-1 : Int32)) - (1 : Int32)) 32) (ck (inb (x2 + (-1 : Int32)) 32) (bd (f_X6_join n  x4 (gi M (j + 6) ((x2 + (-1 : Int32)) - (1 : Int32)).toNatClampNeg) (gi M (j + 6) (x2 + (-1 : Int32)).toNatClampNeg) M) (fun q8 => ck (inb ((x2 + (-1 : Int32)) - (1 : Int32)) 32) (j_X6_run_152 n j x1 (x2 + (-1 : Int32)) x3 (si q8.2 (j + 6) ((x2 + (-1 : Int32)) - (1 : Int32)).toNatClampNeg q8.1)))))))
def j_X6_run_71 (n : Nat) (j : Nat) (x1 : Int32) (x2 : Int32) (x3 : Int32) (x4 : Int32) (M : Mem) : Option ((Int32 × Int32 × Mem) ⊕ (Int32 × Mem)) := if x4 = (-10 : Int32) then (if x2 < (1 : Int32) then (j_X6_run_110 n j x1 x2 x3 x4 M) else (ck (inb (x2 - (1 : Int32)) 32) (if (gi M (j + 6) (x2 - (1 : Int32)).toNatClampNeg) = 0 then (j_X6_run_106 n j (1 : Int32) (x2 - (1 : Int32)) x1 x2 x3 M) else (j_X6_run_106 n j (0 : Int32) (x2 - (1 : Int32)) x1 x2 x3 M)))) else (j_X6_run_110 n j x1 x2 x3 x4 M)
def b_X6_run_9 (n : Nat) (j : Nat) (x1 : Int32) (q : (Int32 × Int32 × Mem)) : Option ((Int32 × Int32 × Mem) ⊕ (Int32 × Mem)) := match q with
  | (x2, x3, M) => ck (inb x1 3) (if (gi M (j + 4) x1.toNatClampNeg) ≤ x3 then (mr (j_X6_run_158 n j x2 M)) else (ck (inb x3 700) (if (gi M (j + 2) x3.toNatClampNeg) ≤ (-10 : Int32) then (j_X6_run_71 n j x1 x2 x3 (gi M (j + 2) x3.toNatClampNeg) M) else (if (32 : Int32) ≤ x2 then (j_X6_run_71 n j x1 x2 x3 (gi M (j + 2) x3.toNatClampNeg) M) else (if (gi M (j + 2) x3.toNatClampNeg) < 0 then (ck (inb ((-1 : Int32) - (gi M (j + 2) x3.toNatClampNeg)) 9) (j_X6_run_64 n j (gi M (j + 5) ((-1 : Int32) - (gi M (j + 2) x3.toNatClampNeg)).toNatClampNeg) x2 x1 x2 x3 M)) else (j_X6_run_64 n j (gi M (j + 2) x3.toNatClampNeg) x2 x1 x2 x3 M))))))
def f_X6_run (n : Nat) (j : Nat) (x1 : Int32) (M : Mem) : Option (Int32 × Mem) := ck (inb x1 3) (gl (b_X6_run_9 n j x1) n ((0 : Int32), (gi M (j + 3) x1.toNatClampNeg), M))
set_option maxHeartbeats 4000000 in
set_option maxRecDepth 100000 in
theorem c_X6_run (l : Launch) (w : Wd) {Y : (Nat → Prop) → State → Heap → Prop} (hYk : XOK Y) (n : Nat) (j : Nat) (hj : isTw j) (x1 : Int32) (M : Mem) (res : Int32 × Mem) (hf : f_X6_run n j x1 M = some res) : CG l w layC 61 (XN Y) yX6_run cX6_run 5 (some .int) 1 [.ref (w.2.2.1 j), .int x1] M (GQi w layC 61 res) := by
  refine cg_start (by decide +kernel) (Nat.le_of_ble_eq_true rfl) ?_
  intro p e s m args below meth c F hr hlk hX hG ls hl
  have F : FX w p m c cX6_run 5 s args RX6 := F
  have hx := F.1.1
  have hb := F.1.2.1
  have hl : lv_has ls 5 [(0, .ref (w.2.2.1 j)), (1, .int x1)] := hl
  have hJ158 : ∀ (x2 : Int32) (M : Mem) (H : Heap) (locs : List Loc) (ls : Array Slot), j_X6_run_158 n j x2 M = some res → GI w layC 61 s.heap M H locs → lv_has ls 5 [(0, .ref (w.2.2.1 j)), (2, .int x2)] → W p l e (Rm 1) s m args below meth c H locs 0 0 (MQ below (GQi w layC 61 res s.heap.size) args s 0 0 (gA w.2.2.1 61 s.heap.size)) (F0 m 158 ls []) := by
    intro x2 M H locs ls hf hG hl
    unfold j_X6_run_158 at hf
    refine lv_iload_n hx hb dX6_run_158 rfl (lv_at hl 1 rfl) ?_
    refine lv_if_le (tgt := 171) hx hb dX6_run_159 (by decide) (fun c1 => ?_) (fun c1 => ?_)
    · replace hf := if_t c1 hf
      refine lv_iconst (v := 0) hx hb dX6_run_171 (by decide) ?_
      exact cg_iret F hr hlk hG hf dX6_run_172
    · replace hf := if_f c1 hf
      refine lv_aload_n hx hb dX6_run_162 rfl (lv_at hl 0 rfl) ?_
      refine g_getR F hG (j + 6) hj.1 (by decide) (by decide) lk_X6_27 rfl dX6_run_163 ?_
      refine lv_iconst (v := 0) hx hb dX6_run_166 (by decide) ?_
      refine g_iald F hG hj.2.2.2.2.2.2 (by decide) dX6_run_167 ?_
      refine lv_goto (tgt := 172) hx hb dX6_run_168 (by decide) ?_
      exact cg_iret F hr hlk hG hf dX6_run_172
  have hJ9 : ∀ (x1 : Int32) (x2 : Int32) (x3 : Int32) (M : Mem) (H : Heap) (locs : List Loc) (ls : Array Slot), gl (b_X6_run_9 n j x1) n (x2, x3, M) = some res → GI w layC 61 s.heap M H locs → lv_has ls 5 [(0, .ref (w.2.2.1 j)), (1, .int x1), (2, .int x2), (3, .int x3)] → W p l e (Rm 1) s m args below meth c H locs 0 0 (MQ below (GQi w layC 61 res s.heap.size) args s 0 0 (gA w.2.2.1 61 s.heap.size)) (F0 m 9 ls []) := by
    intro x1 x2 x3 M H locs ls hf hG hl
    refine gl_run (P := fun (q : (Int32 × Int32 × Mem)) => ∀ (H : Heap) (locs : List Loc) (ls : Array Slot), GI w layC 61 s.heap q.2.2 H locs → lv_has ls 5 [(0, .ref (w.2.2.1 j)), (1, .int x1), (2, .int q.1), (3, .int q.2.1)] → W p l e (Rm 1) s m args below meth c H locs 0 0 (MQ below (GQi w layC 61 res s.heap.size) args s 0 0 (gA w.2.2.1 61 s.heap.size)) (F0 m 9 ls [])) ?_ n (x2, x3, M) hf H locs ls hG hl
    clear hf hG hl ls locs H M x2 x3
    rintro ⟨x2, x3, M⟩ rr9 hf hI9 hE9 H locs ls hG hl
    try dsimp only at hG hl ⊢
    have hJ152 : ∀ (x2 : Int32) (x3 : Int32) (M : Mem) (H : Heap) (locs : List Loc) (ls : Array Slot), j_X6_run_152 n j x1 x2 x3 M = some rr9 → GI w layC 61 s.heap M H locs → lv_has ls 5 [(0, .ref (w.2.2.1 j)), (1, .int x1), (2, .int x2), (3, .int x3)] → W p l e (Rm 1) s m args below meth c H locs 0 0 (MQ below (GQi w layC 61 res s.heap.size) args s 0 0 (gA w.2.2.1 61 s.heap.size)) (F0 m 152 ls []) := by
      intro x2 x3 M H locs ls hf hG hl
      unfold j_X6_run_152 at hf
      refine lv_iinc (v := (x3 + (1 : Int32))) (lv' := [(3, .int (x3 + (1 : Int32))), (0, .ref (w.2.2.1 j)), (1, .int x1), (2, .int x2)]) hx hb dX6_run_152 hl (k := 3) rfl rfl (by decide) rfl (fun ls hl => ?_)
      refine lv_goto (tgt := 9) hx hb dX6_run_155 (by decide) ?_
      exact hI9 _ (Option.some.inj hf).symm _ _ ls hG (lv_sub hl [1, 2, 3, 0] rfl)
    have hJ64 : ∀ (t0 : Int32) (t1 : Int32) (x2 : Int32) (x3 : Int32) (M : Mem) (H : Heap) (locs : List Loc) (ls : Array Slot), j_X6_run_64 n j t0 t1 x1 x2 x3 M = some rr9 → GI w layC 61 s.heap M H locs → lv_has ls 5 [(0, .ref (w.2.2.1 j)), (1, .int x1), (2, .int x2), (3, .int x3)] → W p l e (Rm 1) s m args below meth c H locs 0 0 (MQ below (GQi w layC 61 res s.heap.size) args s 0 0 (gA w.2.2.1 61 s.heap.size)) (F0 m 64 ls [.int t0, .int t1, .ref (w.2.2.1 (j + 6))]) := by
      intro t0 t1 x2 x3 M H locs ls hf hG hl
      unfold j_X6_run_64 at hf
      replace hf := ck_some hf
      obtain ⟨k2, hf⟩ := hf
      refine g_iast F hG hj.2.2.2.2.2.2 k2 dX6_run_64 (fun H locs hG => ?_)
      refine lv_iinc (v := (x2 + (1 : Int32))) (lv' := [(2, .int (x2 + (1 : Int32))), (0, .ref (w.2.2.1 j)), (1, .int x1), (3, .int x3)]) hx hb dX6_run_65 hl (k := 2) rfl rfl (by decide) rfl (fun ls hl => ?_)
      refine lv_goto (tgt := 152) hx hb dX6_run_68 (by decide) ?_
      exact hJ152 _ _ _ _ _ ls hf hG (lv_sub hl [1, 2, 0, 3] rfl)
    have hJ106 : ∀ (t0 : Int32) (t1 : Int32) (x2 : Int32) (x3 : Int32) (M : Mem) (H : Heap) (locs : List Loc) (ls : Array Slot), j_X6_run_106 n j t0 t1 x1 x2 x3 M = some rr9 → GI w layC 61 s.heap M H locs → lv_has ls 5 [(0, .ref (w.2.2.1 j)), (1, .int x1), (2, .int x2), (3, .int x3)] → W p l e (Rm 1) s m args below meth c H locs 0 0 (MQ below (GQi w layC 61 res s.heap.size) args s 0 0 (gA w.2.2.1 61 s.heap.size)) (F0 m 106 ls [.int t0, .int t1, .ref (w.2.2.1 (j + 6))]) := by
      intro t0 t1 x2 x3 M H locs ls hf hG hl
      unfold j_X6_run_106 at hf
      replace hf := ck_some hf
      obtain ⟨k3, hf⟩ := hf
      refine g_iast F hG hj.2.2.2.2.2.2 k3 dX6_run_106 (fun H locs hG => ?_)
      refine lv_goto (tgt := 152) hx hb dX6_run_107 (by decide) ?_
      exact hJ152 _ _ _ _ _ ls hf hG (lv_sub hl [0, 1, 2, 3] rfl)
    have hJ110 : ∀ (x2 : Int32) (x3 : Int32) (x4 : Int32) (M : Mem) (H : Heap) (locs : List Loc) (ls : Array Slot), j_X6_run_110 n j x1 x2 x3 x4 M = some rr9 → GI w layC 61 s.heap M H locs → lv_has ls 5 [(0, .ref (w.2.2.1 j)), (1, .int x1), (2, .int x2), (3, .int x3), (4, .int x4)] → W p l e (Rm 1) s m args below meth c H locs 0 0 (MQ below (GQi w layC 61 res s.heap.size) args s 0 0 (gA w.2.2.1 61 s.heap.size)) (F0 m 110 ls []) := by
      intro x2 x3 x4 M H locs ls hf hG hl
      unfold j_X6_run_110 at hf
      refine lv_iload hx hb dX6_run_110 (lv_at hl 4 rfl) ?_
      refine lv_bipush (v := -10) hx hb dX6_run_112 (by decide) ?_
      refine lv_icmp_ge (tgt := 152) hx hb dX6_run_114 (by decide) (fun c4 => ?_) (fun c4 => ?_)
      · replace hf := if_t c4 hf
        exact hJ152 _ _ _ _ _ ls hf hG (lv_sub hl [0, 1, 2, 3] rfl)
      · replace hf := if_f c4 hf
        refine lv_iload_n hx hb dX6_run_117 rfl (lv_at hl 2 rfl) ?_
        refine lv_iconst (v := 2) hx hb dX6_run_118 (by decide) ?_
        refine lv_icmp_lt (tgt := 152) hx hb dX6_run_119 (by decide) (fun c5 => ?_) (fun c5 => ?_)
        · replace hf := if_t c5 hf
          exact hJ152 _ _ _ _ _ ls hf hG (lv_sub hl [0, 1, 2, 3] rfl)
        · replace hf := if_f c5 hf
          refine lv_iinc (v := (x2 + (-1 : Int32))) (lv' := [(2, .int (x2 + (-1 : Int32))), (0, .ref (w.2.2.1 j)), (1, .int x1), (3, .int x3), (4, .int x4)]) hx hb dX6_run_122 hl (k := 2) rfl rfl (by decide) rfl (fun ls hl => ?_)
          refine lv_aload_n hx hb dX6_run_125 rfl (lv_at hl 1 rfl) ?_
          refine g_getR F hG (j + 6) hj.1 (by decide) (by decide) lk_X6_27 rfl dX6_run_126 ?_
          refine lv_iload_n hx hb dX6_run_129 rfl (lv_at hl 0 rfl) ?_
          refine lv_iconst (v := 1) hx hb dX6_run_130 (by decide) ?_
          refine lv_isub hx hb dX6_run_131 ?_
          refine lv_iload hx hb dX6_run_132 (lv_at hl 4 rfl) ?_
          refine lv_aload_n hx hb dX6_run_134 rfl (lv_at hl 1 rfl) ?_
          refine g_getR F hG (j + 6) hj.1 (by decide) (by decide) lk_X6_27 rfl dX6_run_135 ?_
          refine lv_iload_n hx hb dX6_run_138 rfl (lv_at hl 0 rfl) ?_
          refine lv_iconst (v := 1) hx hb dX6_run_139 (by decide) ?_
          refine lv_isub hx hb dX6_run_140 ?_
          replace hf := ck_some hf
          obtain ⟨k6, hf⟩ := hf
          refine g_iald F hG hj.2.2.2.2.2.2 k6 dX6_run_141 ?_
          refine lv_aload_n hx hb dX6_run_142 rfl (lv_at hl 1 rfl) ?_
          refine g_getR F hG (j + 6) hj.1 (by decide) (by decide) lk_X6_27 rfl dX6_run_143 ?_
          refine lv_iload_n hx hb dX6_run_146 rfl (lv_at hl 0 rfl) ?_
          replace hf := ck_some hf
          obtain ⟨k7, hf⟩ := hf
          refine g_iald F hG hj.2.2.2.2.2.2 k7 dX6_run_147 ?_
          replace hf := bd_some hf
          obtain ⟨q8, eq8, hf⟩ := hf
          refine gx_calli hG (gx_runS (xn_ok hYk) F hX hG (c_X6_join l w hYk n  x4 (gi M (j + 6) ((x2 + (-1 : Int32)) - (1 : Int32)).toNatClampNeg) (gi M (j + 6) (x2 + (-1 : Int32)).toNatClampNeg) _ _ eq8) cs_X6_99 ⟨Nat.le_of_ble_eq_true rfl, Nat.le_of_ble_eq_true rfl⟩ rfl hl.1 rfl (Nat.le_of_ble_eq_true rfl) dX6_run_148 ⟨Nat.le_refl _, Nat.le_refl _⟩) (fun H locs hG => ?_)
          replace hf := ck_some hf
          obtain ⟨k9, hf⟩ := hf
          refine g_iast F hG hj.2.2.2.2.2.2 k9 dX6_run_151 (fun H locs hG => ?_)
          exact hJ152 _ _ _ _ _ ls hf hG (lv_sub hl [1, 2, 0, 3] rfl)
    have hJ71 : ∀ (x2 : Int32) (x3 : Int32) (x4 : Int32) (M : Mem) (H : Heap) (locs : List Loc) (ls : Array Slot), j_X6_run_71 n j x1 x2 x3 x4 M = some rr9 → GI w layC 61 s.heap M H locs → lv_has ls 5 [(0, .ref (w.2.2.1 j)), (1, .int x1), (2, .int x2), (3, .int x3), (4, .int x4)] → W p l e (Rm 1) s m args below meth c H locs 0 0 (MQ below (GQi w layC 61 res s.heap.size) args s 0 0 (gA w.2.2.1 61 s.heap.size)) (F0 m 71 ls []) := by
      intro x2 x3 x4 M H locs ls hf hG hl
      unfold j_X6_run_71 at hf
      refine lv_iload hx hb dX6_run_71 (lv_at hl 4 rfl) ?_
      refine lv_bipush (v := -10) hx hb dX6_run_73 (by decide) ?_
      refine lv_icmp_ne (tgt := 110) hx hb dX6_run_75 (by decide) (fun c10 => ?_) (fun c10 => ?_)
      · replace hf := if_f c10 hf
        exact hJ110 _ _ _ _ _ _ ls hf hG (lv_sub hl [0, 1, 2, 3, 4] rfl)
      · replace hf := if_t c10 hf
        refine lv_iload_n hx hb dX6_run_78 rfl (lv_at hl 2 rfl) ?_
        refine lv_iconst (v := 1) hx hb dX6_run_79 (by decide) ?_
        refine lv_icmp_lt (tgt := 110) hx hb dX6_run_80 (by decide) (fun c11 => ?_) (fun c11 => ?_)
        · replace hf := if_t c11 hf
          exact hJ110 _ _ _ _ _ _ ls hf hG (lv_sub hl [0, 1, 2, 3, 4] rfl)
        · replace hf := if_f c11 hf
          refine lv_aload_n hx hb dX6_run_83 rfl (lv_at hl 0 rfl) ?_
          refine g_getR F hG (j + 6) hj.1 (by decide) (by decide) lk_X6_27 rfl dX6_run_84 ?_
          refine lv_iload_n hx hb dX6_run_87 rfl (lv_at hl 2 rfl) ?_
          refine lv_iconst (v := 1) hx hb dX6_run_88 (by decide) ?_
          refine lv_isub hx hb dX6_run_89 ?_
          refine lv_aload_n hx hb dX6_run_90 rfl (lv_at hl 0 rfl) ?_
          refine g_getR F hG (j + 6) hj.1 (by decide) (by decide) lk_X6_27 rfl dX6_run_91 ?_
          refine lv_iload_n hx hb dX6_run_94 rfl (lv_at hl 2 rfl) ?_
          refine lv_iconst (v := 1) hx hb dX6_run_95 (by decide) ?_
          refine lv_isub hx hb dX6_run_96 ?_
          replace hf := ck_some hf
          obtain ⟨k12, hf⟩ := hf
          refine g_iald F hG hj.2.2.2.2.2.2 k12 dX6_run_97 ?_
          refine lv_if_ne (tgt := 105) hx hb dX6_run_98 (by decide) (fun c13 => ?_) (fun c13 => ?_)
          · replace hf := if_f c13 hf
            refine lv_iconst (v := 0) hx hb dX6_run_105 (by decide) ?_
            exact hJ106 _ _ _ _ _ _ _ ls hf hG (lv_sub hl [0, 1, 2, 3] rfl)
          · replace hf := if_t c13 hf
            refine lv_iconst (v := 1) hx hb dX6_run_101 (by decide) ?_
            refine lv_goto (tgt := 106) hx hb dX6_run_102 (by decide) ?_
            exact hJ106 _ _ _ _ _ _ _ ls hf hG (lv_sub hl [0, 1, 2, 3] rfl)
    dsimp only [b_X6_run_9] at hf
    refine lv_iload_n hx hb dX6_run_9 rfl (lv_at hl 3 rfl) ?_
    refine lv_aload_n hx hb dX6_run_10 rfl (lv_at hl 0 rfl) ?_
    refine g_getR F hG (j + 4) hj.1 (by decide) (by decide) lk_X6_21 rfl dX6_run_11 ?_
    refine lv_iload_n hx hb dX6_run_14 rfl (lv_at hl 1 rfl) ?_
    replace hf := ck_some hf
    obtain ⟨k14, hf⟩ := hf
    refine g_iald F hG hj.2.2.2.2.1 k14 dX6_run_15 ?_
    refine lv_icmp_ge (tgt := 158) hx hb dX6_run_16 (by decide) (fun c15 => ?_) (fun c15 => ?_)
    · replace hf := if_t c15 hf
      replace hf := mr_some hf
      obtain ⟨z9, hf, hz⟩ := hf
      rw [hE9 _ hz] at hf
      exact hJ158 _ _ _ _ ls hf hG (lv_sub hl [0, 2] rfl)
    · replace hf := if_f c15 hf
      refine lv_aload_n hx hb dX6_run_19 rfl (lv_at hl 0 rfl) ?_
      refine g_getR F hG (j + 2) hj.1 (by decide) (by decide) lk_X6_15 rfl dX6_run_20 ?_
      refine lv_iload_n hx hb dX6_run_23 rfl (lv_at hl 3 rfl) ?_
      replace hf := ck_some hf
      obtain ⟨k16, hf⟩ := hf
      refine g_iald F hG hj.2.2.1 k16 dX6_run_24 ?_
      refine lv_istore (lv' := [(4, .int (gi M (j + 2) x3.toNatClampNeg)), (0, .ref (w.2.2.1 j)), (1, .int x1), (2, .int x2), (3, .int x3)]) hx hb dX6_run_25 hl (by decide) rfl (fun ls hl => ?_)
      refine lv_iload hx hb dX6_run_27 (lv_at hl 0 rfl) ?_
      refine lv_bipush (v := -10) hx hb dX6_run_29 (by decide) ?_
      refine lv_icmp_le (tgt := 71) hx hb dX6_run_31 (by decide) (fun c17 => ?_) (fun c17 => ?_)
      · replace hf := if_t c17 hf
        exact hJ71 _ _ _ _ _ _ ls hf hG (lv_sub hl [1, 2, 3, 4, 0] rfl)
      · replace hf := if_f c17 hf
        refine lv_iload_n hx hb dX6_run_34 rfl (lv_at hl 3 rfl) ?_
        refine lv_bipush (v := 32) hx hb dX6_run_35 (by decide) ?_
        refine lv_icmp_ge (tgt := 71) hx hb dX6_run_37 (by decide) (fun c18 => ?_) (fun c18 => ?_)
        · replace hf := if_t c18 hf
          exact hJ71 _ _ _ _ _ _ ls hf hG (lv_sub hl [1, 2, 3, 4, 0] rfl)
        · replace hf := if_f c18 hf
          refine lv_aload_n hx hb dX6_run_40 rfl (lv_at hl 1 rfl) ?_
          refine g_getR F hG (j + 6) hj.1 (by decide) (by decide) lk_X6_27 rfl dX6_run_41 ?_
          refine lv_iload_n hx hb dX6_run_44 rfl (lv_at hl 3 rfl) ?_
          refine lv_iload hx hb dX6_run_45 (lv_at hl 0 rfl) ?_
          refine lv_if_lt (tgt := 55) hx hb dX6_run_47 (by decide) (fun c19 => ?_) (fun c19 => ?_)
          · replace hf := if_t c19 hf
            refine lv_aload_n hx hb dX6_run_55 rfl (lv_at hl 1 rfl) ?_
            refine g_getR F hG (j + 5) hj.1 (by decide) (by decide) lk_X6_24 rfl dX6_run_56 ?_
            refine lv_iconst (v := -1) hx hb dX6_run_59 (by decide) ?_
            refine lv_iload hx hb dX6_run_60 (lv_at hl 0 rfl) ?_
            refine lv_isub hx hb dX6_run_62 ?_
            replace hf := ck_some hf
            obtain ⟨k20, hf⟩ := hf
            refine g_iald F hG hj.2.2.2.2.2.1 k20 dX6_run_63 ?_
            exact hJ64 _ _ _ _ _ _ _ ls hf hG (lv_sub hl [1, 2, 3, 4] rfl)
          · replace hf := if_f c19 hf
            refine lv_iload hx hb dX6_run_50 (lv_at hl 0 rfl) ?_
            refine lv_goto (tgt := 64) hx hb dX6_run_52 (by decide) ?_
            exact hJ64 _ _ _ _ _ _ _ ls hf hG (lv_sub hl [1, 2, 3, 4] rfl)
  unfold f_X6_run at hf
  refine lv_iconst (v := 0) hx hb dX6_run_0 (by decide) ?_
  refine lv_istore_n (lv' := [(2, .int (0 : Int32)), (0, .ref (w.2.2.1 j)), (1, .int x1)]) hx hb dX6_run_1 rfl hl (by decide) rfl (fun ls hl => ?_)
  refine lv_aload_n hx hb dX6_run_2 rfl (lv_at hl 1 rfl) ?_
  refine g_getR F hG (j + 3) hj.1 (by decide) (by decide) lk_X6_18 rfl dX6_run_3 ?_
  refine lv_iload_n hx hb dX6_run_6 rfl (lv_at hl 2 rfl) ?_
  replace hf := ck_some hf
  obtain ⟨k21, hf⟩ := hf
  refine g_iald F hG hj.2.2.2.1 k21 dX6_run_7 ?_
  refine lv_istore_n (lv' := [(3, .int (gi M (j + 3) x1.toNatClampNeg)), (2, .int (0 : Int32)), (0, .ref (w.2.2.1 j)), (1, .int x1)]) hx hb dX6_run_8 rfl hl (by decide) rfl (fun ls hl => ?_)
  exact hJ9 _ _ _ _ _ _ ls hf hG (lv_sub hl [2, 3, 1, 0] rfl)

def f_X6_setValues (n : Nat) (j : Nat) (i1 : Nat) (M : Mem) : Option (Mem) := some (si (si (si M (j + 5) (0 : Int32).toNatClampNeg (gi M i1 10)) (j + 5) (1 : Int32).toNatClampNeg (gi (si M (j + 5) (0 : Int32).toNatClampNeg (gi M i1 10)) i1 6)) (j + 5) (2 : Int32).toNatClampNeg (gi (si (si M (j + 5) (0 : Int32).toNatClampNeg (gi M i1 10)) (j + 5) (1 : Int32).toNatClampNeg (gi (si M (j + 5) (0 : Int32).toNatClampNeg (gi M i1 10)) i1 6)) i1 8))
set_option maxHeartbeats 4000000 in
set_option maxRecDepth 100000 in
theorem c_X6_setValues (l : Launch) (w : Wd) {Y : (Nat → Prop) → State → Heap → Prop} (hYk : XOK Y) (n : Nat) (j : Nat) (hj : isTw j) (i1 : Nat) (hi1 : isSt i1) (M : Mem) (res : Mem) (hf : f_X6_setValues n j i1  M = some res) : CG l w layC 61 (XN Y) yX6_setValues cX6_setValues 2 none 0 [.ref (w.2.2.1 j), .ref (w.2.2.1 i1)] M (GQv w layC 61 res) := by
  refine cg_start (by decide +kernel) (Nat.le_of_ble_eq_true rfl) ?_
  intro p e s m args below meth c F hr hlk hX hG ls hl
  have F : FX w p m c cX6_setValues 2 s args RX6 := F
  have hx := F.1.1
  have hb := F.1.2.1
  have hl : lv_has ls 2 [(0, .ref (w.2.2.1 j)), (1, .ref (w.2.2.1 i1))] := hl
  unfold f_X6_setValues at hf
  refine lv_aload_n hx hb dX6_setValues_0 rfl (lv_at hl 0 rfl) ?_
  refine g_getR F hG (j + 5) hj.1 (by decide) (by decide) lk_X6_24 rfl dX6_setValues_1 ?_
  refine lv_iconst (v := 0) hx hb dX6_setValues_4 (by decide) ?_
  refine lv_aload_n hx hb dX6_setValues_5 rfl (lv_at hl 1 rfl) ?_
  refine g_getI F hG hi1.1 (by decide) (by decide) lk_X6_90 rfl dX6_setValues_6 ?_
  refine g_iast F hG hj.2.2.2.2.2.1 (by decide) dX6_setValues_9 (fun H locs hG => ?_)
  refine lv_aload_n hx hb dX6_setValues_10 rfl (lv_at hl 0 rfl) ?_
  refine g_getR F hG (j + 5) hj.1 (by decide) (by decide) lk_X6_24 rfl dX6_setValues_11 ?_
  refine lv_iconst (v := 1) hx hb dX6_setValues_14 (by decide) ?_
  refine lv_aload_n hx hb dX6_setValues_15 rfl (lv_at hl 1 rfl) ?_
  refine g_getI F hG hi1.1 (by decide) (by decide) lk_X6_93 rfl dX6_setValues_16 ?_
  refine g_iast F hG hj.2.2.2.2.2.1 (by decide) dX6_setValues_19 (fun H locs hG => ?_)
  refine lv_aload_n hx hb dX6_setValues_20 rfl (lv_at hl 0 rfl) ?_
  refine g_getR F hG (j + 5) hj.1 (by decide) (by decide) lk_X6_24 rfl dX6_setValues_21 ?_
  refine lv_iconst (v := 2) hx hb dX6_setValues_24 (by decide) ?_
  refine lv_aload_n hx hb dX6_setValues_25 rfl (lv_at hl 1 rfl) ?_
  refine g_getI F hG hi1.1 (by decide) (by decide) lk_X6_96 rfl dX6_setValues_26 ?_
  refine g_iast F hG hj.2.2.2.2.2.1 (by decide) dX6_setValues_29 (fun H locs hG => ?_)
  exact cg_vret F hr hlk hG hf dX6_setValues_30

def f_X6_setWardValues (n : Nat) (j : Nat) (i1 : Nat) (x2 : Int32) (x3 : Int32) (M : Mem) : Option (Mem) := bd (f_X6_setValues n j i1  M) (fun q1 => ck (inb x2 8) (some (si (si (si q1 (j + 5) (6 : Int32).toNatClampNeg (gi q1 (i1 + 3) x2.toNatClampNeg)) (j + 5) (7 : Int32).toNatClampNeg x3) (j + 5) (8 : Int32).toNatClampNeg (gi (si (si q1 (j + 5) (6 : Int32).toNatClampNeg (gi q1 (i1 + 3) x2.toNatClampNeg)) (j + 5) (7 : Int32).toNatClampNeg x3) i1 11))))
set_option maxHeartbeats 4000000 in
set_option maxRecDepth 100000 in
theorem c_X6_setWardValues (l : Launch) (w : Wd) {Y : (Nat → Prop) → State → Heap → Prop} (hYk : XOK Y) (n : Nat) (j : Nat) (hj : isTw j) (i1 : Nat) (hi1 : isSt i1) (x2 : Int32) (x3 : Int32) (M : Mem) (res : Mem) (hf : f_X6_setWardValues n j i1 x2 x3 M = some res) : CG l w layC 61 (XN Y) yX6_setWardValues cX6_setWardValues 4 none 1 [.ref (w.2.2.1 j), .ref (w.2.2.1 i1), .int x2, .int x3] M (GQv w layC 61 res) := by
  refine cg_start (by decide +kernel) (Nat.le_of_ble_eq_true rfl) ?_
  intro p e s m args below meth c F hr hlk hX hG ls hl
  have F : FX w p m c cX6_setWardValues 4 s args RX6 := F
  have hx := F.1.1
  have hb := F.1.2.1
  have hl : lv_has ls 4 [(0, .ref (w.2.2.1 j)), (1, .ref (w.2.2.1 i1)), (2, .int x2), (3, .int x3)] := hl
  unfold f_X6_setWardValues at hf
  refine lv_aload_n hx hb dX6_setWardValues_0 rfl (lv_at hl 0 rfl) ?_
  refine lv_aload_n hx hb dX6_setWardValues_1 rfl (lv_at hl 1 rfl) ?_
  replace hf := bd_some hf
  obtain ⟨q1, eq1, hf⟩ := hf
  refine gx_callv hG (gx_runV (xn_ok hYk) F hX hG (c_X6_setValues l w hYk n j hj i1 hi1  _ _ eq1) cv_X6_69 ⟨Nat.le_of_ble_eq_true rfl, Nat.le_of_ble_eq_true rfl⟩ (g_recv F hG hj.1 (by decide) rfl) rfl hl.1 rfl (Nat.le_of_ble_eq_true rfl) dX6_setWardValues_2 ⟨Nat.le_refl _, Nat.le_refl _⟩) (fun H locs hG => ?_)
  refine lv_aload_n hx hb dX6_setWardValues_5 rfl (lv_at hl 0 rfl) ?_
  refine g_getR F hG (j + 5) hj.1 (by decide) (by decide) lk_X6_24 rfl dX6_setWardValues_6 ?_
  refine lv_bipush (v := 6) hx hb dX6_setWardValues_9 (by decide) ?_
  refine lv_aload_n hx hb dX6_setWardValues_11 rfl (lv_at hl 1 rfl) ?_
  refine g_getR F hG (i1 + 3) hi1.1 (by decide) (by decide) lk_X6_80 rfl dX6_setWardValues_12 ?_
  refine lv_iload_n hx hb dX6_setWardValues_15 rfl (lv_at hl 2 rfl) ?_
  replace hf := ck_some hf
  obtain ⟨k2, hf⟩ := hf
  refine g_iald F hG hi1.2.2.2.1 k2 dX6_setWardValues_16 ?_
  refine g_iast F hG hj.2.2.2.2.2.1 (by decide) dX6_setWardValues_17 (fun H locs hG => ?_)
  refine lv_aload_n hx hb dX6_setWardValues_18 rfl (lv_at hl 0 rfl) ?_
  refine g_getR F hG (j + 5) hj.1 (by decide) (by decide) lk_X6_24 rfl dX6_setWardValues_19 ?_
  refine lv_bipush (v := 7) hx hb dX6_setWardValues_22 (by decide) ?_
  refine lv_iload_n hx hb dX6_setWardValues_24 rfl (lv_at hl 3 rfl) ?_
  refine g_iast F hG hj.2.2.2.2.2.1 (by decide) dX6_setWardValues_25 (fun H locs hG => ?_)
  refine lv_aload_n hx hb dX6_setWardValues_26 rfl (lv_at hl 0 rfl) ?_
  refine g_getR F hG (j + 5) hj.1 (by decide) (by decide) lk_X6_24 rfl dX6_setWardValues_27 ?_
  refine lv_bipush (v := 8) hx hb dX6_setWardValues_30 (by decide) ?_
  refine lv_aload_n hx hb dX6_setWardValues_32 rfl (lv_at hl 1 rfl) ?_
  refine g_getI F hG hi1.1 (by decide) (by decide) lk_X6_87 rfl dX6_setWardValues_33 ?_
  refine g_iast F hG hj.2.2.2.2.2.1 (by decide) dX6_setWardValues_36 (fun H locs hG => ?_)
  exact cg_vret F hr hlk hG hf dX6_setWardValues_37

def f_X6_belief (n : Nat) (j : Nat) (i1 : Nat) (x2 : Int32) (x3 : Int32) (M : Mem) : Option (Int32 × Mem) := bd (f_X6_hasRule n j (2 : Int32) M) (fun q1 => if q1.1 = 0 then (bd (f_X8_within n  (((1 : Int32) - x3) - ((3 : Int32) * (gi q1.2 i1 11))) (-9 : Int32) (9 : Int32) q1.2) (fun q3 => some (q3.1, q3.2))) else (bd (f_X6_setWardValues n j i1 x2 x3 q1.2) (fun q4 => bd (f_X6_run n j (2 : Int32) q4) (fun q5 => bd (f_X8_within n  q5.1 (-9 : Int32) (9 : Int32) q5.2) (fun q6 => some (q6.1, q6.2))))))
set_option maxHeartbeats 4000000 in
set_option maxRecDepth 100000 in
theorem c_X6_belief (l : Launch) (w : Wd) {Y : (Nat → Prop) → State → Heap → Prop} (hYk : XOK Y) (n : Nat) (j : Nat) (hj : isTw j) (i1 : Nat) (hi1 : isSt i1) (x2 : Int32) (x3 : Int32) (M : Mem) (res : Int32 × Mem) (hf : f_X6_belief n j i1 x2 x3 M = some res) : CG l w layC 61 (XN Y) yX6_belief cX6_belief 4 (some .int) 2 [.ref (w.2.2.1 j), .ref (w.2.2.1 i1), .int x2, .int x3] M (GQi w layC 61 res) := by
  refine cg_start (by decide +kernel) (Nat.le_of_ble_eq_true rfl) ?_
  intro p e s m args below meth c F hr hlk hX hG ls hl
  have F : FX w p m c cX6_belief 4 s args RX6 := F
  have hx := F.1.1
  have hb := F.1.2.1
  have hl : lv_has ls 4 [(0, .ref (w.2.2.1 j)), (1, .ref (w.2.2.1 i1)), (2, .int x2), (3, .int x3)] := hl
  unfold f_X6_belief at hf
  refine lv_aload_n hx hb dX6_belief_0 rfl (lv_at hl 0 rfl) ?_
  refine lv_iconst (v := 2) hx hb dX6_belief_1 (by decide) ?_
  replace hf := bd_some hf
  obtain ⟨q1, eq1, hf⟩ := hf
  refine gx_calli hG (gx_runV (xn_ok hYk) F hX hG (c_X6_hasRule l w hYk n j hj (2 : Int32) _ _ eq1) cv_X6_55 ⟨Nat.le_of_ble_eq_true rfl, Nat.le_of_ble_eq_true rfl⟩ (g_recv F hG hj.1 (by decide) rfl) rfl hl.1 rfl (Nat.le_of_ble_eq_true rfl) dX6_belief_2 ⟨Nat.le_refl _, Nat.le_refl _⟩) (fun H locs hG => ?_)
  refine lv_if_ne (tgt := 26) hx hb dX6_belief_5 (by decide) (fun c2 => ?_) (fun c2 => ?_)
  · replace hf := if_f c2 hf
    refine lv_aload_n hx hb dX6_belief_26 rfl (lv_at hl 0 rfl) ?_
    refine lv_aload_n hx hb dX6_belief_27 rfl (lv_at hl 1 rfl) ?_
    refine lv_iload_n hx hb dX6_belief_28 rfl (lv_at hl 2 rfl) ?_
    refine lv_iload_n hx hb dX6_belief_29 rfl (lv_at hl 3 rfl) ?_
    replace hf := bd_some hf
    obtain ⟨q4, eq4, hf⟩ := hf
    refine gx_callv hG (gx_runV (xn_ok hYk) F hX hG (c_X6_setWardValues l w hYk n j hj i1 hi1 x2 x3 _ _ eq4) cv_X6_83 ⟨Nat.le_of_ble_eq_true rfl, Nat.le_of_ble_eq_true rfl⟩ (g_recv F hG hj.1 (by decide) rfl) rfl hl.1 rfl (Nat.le_of_ble_eq_true rfl) dX6_belief_30 ⟨Nat.le_refl _, Nat.le_refl _⟩) (fun H locs hG => ?_)
    refine lv_aload_n hx hb dX6_belief_33 rfl (lv_at hl 0 rfl) ?_
    refine lv_iconst (v := 2) hx hb dX6_belief_34 (by decide) ?_
    replace hf := bd_some hf
    obtain ⟨q5, eq5, hf⟩ := hf
    refine gx_calli hG (gx_runV (xn_ok hYk) F hX hG (c_X6_run l w hYk n j hj (2 : Int32) _ _ eq5) cv_X6_76 ⟨Nat.le_of_ble_eq_true rfl, Nat.le_of_ble_eq_true rfl⟩ (g_recv F hG hj.1 (by decide) rfl) rfl hl.1 rfl (Nat.le_of_ble_eq_true rfl) dX6_belief_35 ⟨Nat.le_refl _, Nat.le_refl _⟩) (fun H locs hG => ?_)
    refine lv_bipush (v := -9) hx hb dX6_belief_38 (by decide) ?_
    refine lv_bipush (v := 9) hx hb dX6_belief_40 (by decide) ?_
    replace hf := bd_some hf
    obtain ⟨q6, eq6, hf⟩ := hf
    refine gx_calli hG (gx_runSN (xn_ok hYk) F hX hG (c_X8_within l w hYk n  q5.1 (-9 : Int32) (9 : Int32) _ _ eq6) hX.1 csn_X8_within ⟨Nat.le_of_ble_eq_true rfl, Nat.le_of_ble_eq_true rfl⟩ rfl hl.1 rfl (Nat.le_of_ble_eq_true rfl) dX6_belief_42 ⟨Nat.le_refl _, Nat.le_refl _⟩) (fun H locs hG => ?_)
    exact cg_iret F hr hlk hG hf dX6_belief_45
  · replace hf := if_t c2 hf
    refine lv_iconst (v := 1) hx hb dX6_belief_8 (by decide) ?_
    refine lv_iload_n hx hb dX6_belief_9 rfl (lv_at hl 3 rfl) ?_
    refine lv_isub hx hb dX6_belief_10 ?_
    refine lv_iconst (v := 3) hx hb dX6_belief_11 (by decide) ?_
    refine lv_aload_n hx hb dX6_belief_12 rfl (lv_at hl 1 rfl) ?_
    refine g_getI F hG hi1.1 (by decide) (by decide) lk_X6_87 rfl dX6_belief_13 ?_
    refine lv_imul hx hb dX6_belief_16 ?_
    refine lv_isub hx hb dX6_belief_17 ?_
    refine lv_bipush (v := -9) hx hb dX6_belief_18 (by decide) ?_
    refine lv_bipush (v := 9) hx hb dX6_belief_20 (by decide) ?_
    replace hf := bd_some hf
    obtain ⟨q3, eq3, hf⟩ := hf
    refine gx_calli hG (gx_runSN (xn_ok hYk) F hX hG (c_X8_within l w hYk n  (((1 : Int32) - x3) - ((3 : Int32) * (gi q1.2 i1 11))) (-9 : Int32) (9 : Int32) _ _ eq3) hX.1 csn_X8_within ⟨Nat.le_of_ble_eq_true rfl, Nat.le_of_ble_eq_true rfl⟩ rfl hl.1 rfl (Nat.le_of_ble_eq_true rfl) dX6_belief_22 ⟨Nat.le_refl _, Nat.le_refl _⟩) (fun H locs hG => ?_)
    exact cg_iret F hr hlk hG hf dX6_belief_25

def f_X6_gift (n : Nat) (j : Nat) (i1 : Nat) (x2 : Int32) (x3 : Int32) (M : Mem) : Option (Int32 × Mem) := bd (f_X6_hasRule n j (1 : Int32) M) (fun q1 => if q1.1 = 0 then (ck (inb x2 8) (some (((gi q1.2 (i1 + 3) x2.toNatClampNeg) / (20 : Int32)), q1.2))) else (bd (f_X6_setWardValues n j i1 x2 x3 q1.2) (fun q4 => bd (f_X6_run n j (1 : Int32) q4) (fun q5 => bd (f_X8_within n  q5.1 (0 : Int32) (20 : Int32) q5.2) (fun q6 => some (q6.1, q6.2))))))
set_option maxHeartbeats 4000000 in
set_option maxRecDepth 100000 in
theorem c_X6_gift (l : Launch) (w : Wd) {Y : (Nat → Prop) → State → Heap → Prop} (hYk : XOK Y) (n : Nat) (j : Nat) (hj : isTw j) (i1 : Nat) (hi1 : isSt i1) (x2 : Int32) (x3 : Int32) (M : Mem) (res : Int32 × Mem) (hf : f_X6_gift n j i1 x2 x3 M = some res) : CG l w layC 61 (XN Y) yX6_gift cX6_gift 4 (some .int) 2 [.ref (w.2.2.1 j), .ref (w.2.2.1 i1), .int x2, .int x3] M (GQi w layC 61 res) := by
  refine cg_start (by decide +kernel) (Nat.le_of_ble_eq_true rfl) ?_
  intro p e s m args below meth c F hr hlk hX hG ls hl
  have F : FX w p m c cX6_gift 4 s args RX6 := F
  have hx := F.1.1
  have hb := F.1.2.1
  have hl : lv_has ls 4 [(0, .ref (w.2.2.1 j)), (1, .ref (w.2.2.1 i1)), (2, .int x2), (3, .int x3)] := hl
  unfold f_X6_gift at hf
  refine lv_aload_n hx hb dX6_gift_0 rfl (lv_at hl 0 rfl) ?_
  refine lv_iconst (v := 1) hx hb dX6_gift_1 (by decide) ?_
  replace hf := bd_some hf
  obtain ⟨q1, eq1, hf⟩ := hf
  refine gx_calli hG (gx_runV (xn_ok hYk) F hX hG (c_X6_hasRule l w hYk n j hj (1 : Int32) _ _ eq1) cv_X6_55 ⟨Nat.le_of_ble_eq_true rfl, Nat.le_of_ble_eq_true rfl⟩ (g_recv F hG hj.1 (by decide) rfl) rfl hl.1 rfl (Nat.le_of_ble_eq_true rfl) dX6_gift_2 ⟨Nat.le_refl _, Nat.le_refl _⟩) (fun H locs hG => ?_)
  refine lv_if_ne (tgt := 18) hx hb dX6_gift_5 (by decide) (fun c2 => ?_) (fun c2 => ?_)
  · replace hf := if_f c2 hf
    refine lv_aload_n hx hb dX6_gift_18 rfl (lv_at hl 0 rfl) ?_
    refine lv_aload_n hx hb dX6_gift_19 rfl (lv_at hl 1 rfl) ?_
    refine lv_iload_n hx hb dX6_gift_20 rfl (lv_at hl 2 rfl) ?_
    refine lv_iload_n hx hb dX6_gift_21 rfl (lv_at hl 3 rfl) ?_
    replace hf := bd_some hf
    obtain ⟨q4, eq4, hf⟩ := hf
    refine gx_callv hG (gx_runV (xn_ok hYk) F hX hG (c_X6_setWardValues l w hYk n j hj i1 hi1 x2 x3 _ _ eq4) cv_X6_83 ⟨Nat.le_of_ble_eq_true rfl, Nat.le_of_ble_eq_true rfl⟩ (g_recv F hG hj.1 (by decide) rfl) rfl hl.1 rfl (Nat.le_of_ble_eq_true rfl) dX6_gift_22 ⟨Nat.le_refl _, Nat.le_refl _⟩) (fun H locs hG => ?_)
    refine lv_aload_n hx hb dX6_gift_25 rfl (lv_at hl 0 rfl) ?_
    refine lv_iconst (v := 1) hx hb dX6_gift_26 (by decide) ?_
    replace hf := bd_some hf
    obtain ⟨q5, eq5, hf⟩ := hf
    refine gx_calli hG (gx_runV (xn_ok hYk) F hX hG (c_X6_run l w hYk n j hj (1 : Int32) _ _ eq5) cv_X6_76 ⟨Nat.le_of_ble_eq_true rfl, Nat.le_of_ble_eq_true rfl⟩ (g_recv F hG hj.1 (by decide) rfl) rfl hl.1 rfl (Nat.le_of_ble_eq_true rfl) dX6_gift_27 ⟨Nat.le_refl _, Nat.le_refl _⟩) (fun H locs hG => ?_)
    refine lv_iconst (v := 0) hx hb dX6_gift_30 (by decide) ?_
    refine lv_bipush (v := 20) hx hb dX6_gift_31 (by decide) ?_
    replace hf := bd_some hf
    obtain ⟨q6, eq6, hf⟩ := hf
    refine gx_calli hG (gx_runSN (xn_ok hYk) F hX hG (c_X8_within l w hYk n  q5.1 (0 : Int32) (20 : Int32) _ _ eq6) hX.1 csn_X8_within ⟨Nat.le_of_ble_eq_true rfl, Nat.le_of_ble_eq_true rfl⟩ rfl hl.1 rfl (Nat.le_of_ble_eq_true rfl) dX6_gift_33 ⟨Nat.le_refl _, Nat.le_refl _⟩) (fun H locs hG => ?_)
    exact cg_iret F hr hlk hG hf dX6_gift_36
  · replace hf := if_t c2 hf
    refine lv_aload_n hx hb dX6_gift_8 rfl (lv_at hl 1 rfl) ?_
    refine g_getR F hG (i1 + 3) hi1.1 (by decide) (by decide) lk_X6_80 rfl dX6_gift_9 ?_
    refine lv_iload_n hx hb dX6_gift_12 rfl (lv_at hl 2 rfl) ?_
    replace hf := ck_some hf
    obtain ⟨k3, hf⟩ := hf
    refine g_iald F hG hi1.2.2.2.1 k3 dX6_gift_13 ?_
    refine lv_bipush (v := 20) hx hb dX6_gift_14 (by decide) ?_
    refine lv_idiv hx hb dX6_gift_16 (by decide) ?_
    exact cg_iret F hr hlk hG hf dX6_gift_17

def f_X6_leaning (n : Nat) (j : Nat) (i1 : Nat) (x2 : Int32) (M : Mem) : Option (Int32 × Mem) := bd (f_X6_hasRule n j (0 : Int32) M) (fun q1 => if q1.1 = 0 then (bd (f_X4_mortarHung n i1  q1.2) (fun q3 => bd (f_X8_within n  (x2 - (q3.1 / (4 : Int32))) (-9 : Int32) (9 : Int32) q3.2) (fun q4 => some (q4.1, q4.2)))) else (bd (f_X6_setValues n j i1  q1.2) (fun q5 => bd (f_X4_weightHung n i1  (si q5 (j + 5) (3 : Int32).toNatClampNeg x2)) (fun q6 => bd (f_X4_mortarHung n i1  (si q6.2 (j + 5) (4 : Int32).toNatClampNeg q6.1)) (fun q7 => bd (f_X6_run n j (0 : Int32) (si q7.2 (j + 5) (5 : Int32).toNatClampNeg q7.1)) (fun q8 => bd (f_X8_within n  q8.1 (-9 : Int32) (9 : Int32) q8.2) (fun q9 => some (q9.1, q9.2))))))))
set_option maxHeartbeats 4000000 in
set_option maxRecDepth 100000 in
theorem c_X6_leaning (l : Launch) (w : Wd) {Y : (Nat → Prop) → State → Heap → Prop} (hYk : XOK Y) (n : Nat) (j : Nat) (hj : isTw j) (i1 : Nat) (hi1 : isSt i1) (x2 : Int32) (M : Mem) (res : Int32 × Mem) (hf : f_X6_leaning n j i1 x2 M = some res) : CG l w layC 61 (XN Y) yX6_leaning cX6_leaning 3 (some .int) 2 [.ref (w.2.2.1 j), .ref (w.2.2.1 i1), .int x2] M (GQi w layC 61 res) := by
  refine cg_start (by decide +kernel) (Nat.le_of_ble_eq_true rfl) ?_
  intro p e s m args below meth c F hr hlk hX hG ls hl
  have F : FX w p m c cX6_leaning 3 s args RX6 := F
  have hx := F.1.1
  have hb := F.1.2.1
  have hl : lv_has ls 3 [(0, .ref (w.2.2.1 j)), (1, .ref (w.2.2.1 i1)), (2, .int x2)] := hl
  unfold f_X6_leaning at hf
  refine lv_aload_n hx hb dX6_leaning_0 rfl (lv_at hl 0 rfl) ?_
  refine lv_iconst (v := 0) hx hb dX6_leaning_1 (by decide) ?_
  replace hf := bd_some hf
  obtain ⟨q1, eq1, hf⟩ := hf
  refine gx_calli hG (gx_runV (xn_ok hYk) F hX hG (c_X6_hasRule l w hYk n j hj (0 : Int32) _ _ eq1) cv_X6_55 ⟨Nat.le_of_ble_eq_true rfl, Nat.le_of_ble_eq_true rfl⟩ (g_recv F hG hj.1 (by decide) rfl) rfl hl.1 rfl (Nat.le_of_ble_eq_true rfl) dX6_leaning_2 ⟨Nat.le_refl _, Nat.le_refl _⟩) (fun H locs hG => ?_)
  refine lv_if_ne (tgt := 24) hx hb dX6_leaning_5 (by decide) (fun c2 => ?_) (fun c2 => ?_)
  · replace hf := if_f c2 hf
    refine lv_aload_n hx hb dX6_leaning_24 rfl (lv_at hl 0 rfl) ?_
    refine lv_aload_n hx hb dX6_leaning_25 rfl (lv_at hl 1 rfl) ?_
    replace hf := bd_some hf
    obtain ⟨q5, eq5, hf⟩ := hf
    refine gx_callv hG (gx_runV (xn_ok hYk) F hX hG (c_X6_setValues l w hYk n j hj i1 hi1  _ _ eq5) cv_X6_69 ⟨Nat.le_of_ble_eq_true rfl, Nat.le_of_ble_eq_true rfl⟩ (g_recv F hG hj.1 (by decide) rfl) rfl hl.1 rfl (Nat.le_of_ble_eq_true rfl) dX6_leaning_26 ⟨Nat.le_refl _, Nat.le_refl _⟩) (fun H locs hG => ?_)
    refine lv_aload_n hx hb dX6_leaning_29 rfl (lv_at hl 0 rfl) ?_
    refine g_getR F hG (j + 5) hj.1 (by decide) (by decide) lk_X6_24 rfl dX6_leaning_30 ?_
    refine lv_iconst (v := 3) hx hb dX6_leaning_33 (by decide) ?_
    refine lv_iload_n hx hb dX6_leaning_34 rfl (lv_at hl 2 rfl) ?_
    refine g_iast F hG hj.2.2.2.2.2.1 (by decide) dX6_leaning_35 (fun H locs hG => ?_)
    refine lv_aload_n hx hb dX6_leaning_36 rfl (lv_at hl 0 rfl) ?_
    refine g_getR F hG (j + 5) hj.1 (by decide) (by decide) lk_X6_24 rfl dX6_leaning_37 ?_
    refine lv_iconst (v := 4) hx hb dX6_leaning_40 (by decide) ?_
    refine lv_aload_n hx hb dX6_leaning_41 rfl (lv_at hl 1 rfl) ?_
    replace hf := bd_some hf
    obtain ⟨q6, eq6, hf⟩ := hf
    refine gx_calli hG (gx_runV (xn_ok hYk) F hX hG (c_X4_weightHung l w hYk n i1 hi1  _ _ eq6) cv_X6_73 ⟨Nat.le_of_ble_eq_true rfl, Nat.le_of_ble_eq_true rfl⟩ (g_recv F hG hi1.1 (by decide) rfl) rfl hl.1 rfl (Nat.le_of_ble_eq_true rfl) dX6_leaning_42 ⟨Nat.le_refl _, Nat.le_refl _⟩) (fun H locs hG => ?_)
    refine g_iast F hG hj.2.2.2.2.2.1 (by decide) dX6_leaning_45 (fun H locs hG => ?_)
    refine lv_aload_n hx hb dX6_leaning_46 rfl (lv_at hl 0 rfl) ?_
    refine g_getR F hG (j + 5) hj.1 (by decide) (by decide) lk_X6_24 rfl dX6_leaning_47 ?_
    refine lv_iconst (v := 5) hx hb dX6_leaning_50 (by decide) ?_
    refine lv_aload_n hx hb dX6_leaning_51 rfl (lv_at hl 1 rfl) ?_
    replace hf := bd_some hf
    obtain ⟨q7, eq7, hf⟩ := hf
    refine gx_calli hG (gx_runV (xn_ok hYk) F hX hG (c_X4_mortarHung l w hYk n i1 hi1  _ _ eq7) cv_X6_59 ⟨Nat.le_of_ble_eq_true rfl, Nat.le_of_ble_eq_true rfl⟩ (g_recv F hG hi1.1 (by decide) rfl) rfl hl.1 rfl (Nat.le_of_ble_eq_true rfl) dX6_leaning_52 ⟨Nat.le_refl _, Nat.le_refl _⟩) (fun H locs hG => ?_)
    refine g_iast F hG hj.2.2.2.2.2.1 (by decide) dX6_leaning_55 (fun H locs hG => ?_)
    refine lv_aload_n hx hb dX6_leaning_56 rfl (lv_at hl 0 rfl) ?_
    refine lv_iconst (v := 0) hx hb dX6_leaning_57 (by decide) ?_
    replace hf := bd_some hf
    obtain ⟨q8, eq8, hf⟩ := hf
    refine gx_calli hG (gx_runV (xn_ok hYk) F hX hG (c_X6_run l w hYk n j hj (0 : Int32) _ _ eq8) cv_X6_76 ⟨Nat.le_of_ble_eq_true rfl, Nat.le_of_ble_eq_true rfl⟩ (g_recv F hG hj.1 (by decide) rfl) rfl hl.1 rfl (Nat.le_of_ble_eq_true rfl) dX6_leaning_58 ⟨Nat.le_refl _, Nat.le_refl _⟩) (fun H locs hG => ?_)
    refine lv_bipush (v := -9) hx hb dX6_leaning_61 (by decide) ?_
    refine lv_bipush (v := 9) hx hb dX6_leaning_63 (by decide) ?_
    replace hf := bd_some hf
    obtain ⟨q9, eq9, hf⟩ := hf
    refine gx_calli hG (gx_runSN (xn_ok hYk) F hX hG (c_X8_within l w hYk n  q8.1 (-9 : Int32) (9 : Int32) _ _ eq9) hX.1 csn_X8_within ⟨Nat.le_of_ble_eq_true rfl, Nat.le_of_ble_eq_true rfl⟩ rfl hl.1 rfl (Nat.le_of_ble_eq_true rfl) dX6_leaning_65 ⟨Nat.le_refl _, Nat.le_refl _⟩) (fun H locs hG => ?_)
    exact cg_iret F hr hlk hG hf dX6_leaning_68
  · replace hf := if_t c2 hf
    refine lv_iload_n hx hb dX6_leaning_8 rfl (lv_at hl 2 rfl) ?_
    refine lv_aload_n hx hb dX6_leaning_9 rfl (lv_at hl 1 rfl) ?_
    replace hf := bd_some hf
    obtain ⟨q3, eq3, hf⟩ := hf
    refine gx_calli hG (gx_runV (xn_ok hYk) F hX hG (c_X4_mortarHung l w hYk n i1 hi1  _ _ eq3) cv_X6_59 ⟨Nat.le_of_ble_eq_true rfl, Nat.le_of_ble_eq_true rfl⟩ (g_recv F hG hi1.1 (by decide) rfl) rfl hl.1 rfl (Nat.le_of_ble_eq_true rfl) dX6_leaning_10 ⟨Nat.le_refl _, Nat.le_refl _⟩) (fun H locs hG => ?_)
    refine lv_iconst (v := 4) hx hb dX6_leaning_13 (by decide) ?_
    refine lv_idiv hx hb dX6_leaning_14 (by decide) ?_
    refine lv_isub hx hb dX6_leaning_15 ?_
    refine lv_bipush (v := -9) hx hb dX6_leaning_16 (by decide) ?_
    refine lv_bipush (v := 9) hx hb dX6_leaning_18 (by decide) ?_
    replace hf := bd_some hf
    obtain ⟨q4, eq4, hf⟩ := hf
    refine gx_calli hG (gx_runSN (xn_ok hYk) F hX hG (c_X8_within l w hYk n  (x2 - (q3.1 / (4 : Int32))) (-9 : Int32) (9 : Int32) _ _ eq4) hX.1 csn_X8_within ⟨Nat.le_of_ble_eq_true rfl, Nat.le_of_ble_eq_true rfl⟩ rfl hl.1 rfl (Nat.le_of_ble_eq_true rfl) dX6_leaning_20 ⟨Nat.le_refl _, Nat.le_refl _⟩) (fun H locs hG => ?_)
    exact cg_iret F hr hlk hG hf dX6_leaning_23

def b_X4_passDay_103 (n : Nat) (i : Nat) (j1 : Nat) (x3 : Int32) (q : (Int32 × Mem)) : Option ((Int32 × Mem) ⊕ (Mem)) := match q with
  | (x4, M) => if (gi M i 7) ≤ x4 then (mr (some (si M i 8 ((gi M i 8) + (1 : Int32))))) else (bd (f_X4_doubt n i x4 x3 M) (fun q2 => bd (f_X6_belief n j1 i x4 q2.1 q2.2) (fun q3 => bd (f_X4_addFaith n i x4 q3.1 q3.2) (fun q4 => some (.inl ((x4 + (1 : Int32)), q4))))))
def j_X4_passDay_76 (n : Nat) (i : Nat) (j1 : Nat) (x3 : Int32) (M : Mem) : Option (Mem) := bd (f_X4_hangNext n i (gi M j1 9) M) (fun q5 => bd (f_X4_spare n i  q5) (fun q6 => bd (f_X4_dropLowest n i (gi q5 j1 8) q6.1 q6.2) (fun q7 => gl (b_X4_passDay_103 n i j1 x3) n ((0 : Int32), si q7.2 i 11 q7.1))))
def b_X4_passDay_29 (n : Nat) (i : Nat) (j1 : Nat) (x3 : Int32) (q : (Int32 × Mem)) : Option ((Int32 × Mem) ⊕ (Mem)) := match q with
  | (x4, M) => if (gi M i 7) ≤ x4 then (mr (j_X4_passDay_76 n i j1 x3 M)) else (bd (f_X4_doubt n i x4 x3 M) (fun q9 => bd (f_X6_gift n j1 i x4 q9.1 q9.2) (fun q10 => ck (inb x4 8) (ck (inb x4 8) (bd (f_X4_receive n i (gi (si q10.2 (i + 5) x4.toNatClampNeg q10.1) (i + 5) x4.toNatClampNeg) (si q10.2 (i + 5) x4.toNatClampNeg q10.1)) (fun q13 => some (.inl ((x4 + (1 : Int32)), q13))))))))
def f_X4_passDay (n : Nat) (i : Nat) (j1 : Nat) (x2 : Int32) (M : Mem) : Option (Mem) := bd (f_X6_leaning n j1 i x2 M) (fun q14 => bd (f_X8_within n  ((gi M i 10) + q14.1) (0 : Int32) (99 : Int32) q14.2) (fun q15 => bd (f_X4_doubters n i  (si q15.2 i 10 q15.1)) (fun q16 => gl (b_X4_passDay_29 n i j1 q16.1) n ((0 : Int32), q16.2))))
set_option maxHeartbeats 4000000 in
set_option maxRecDepth 100000 in
theorem c_X4_passDay (l : Launch) (w : Wd) {Y : (Nat → Prop) → State → Heap → Prop} (hYk : XOK Y) (n : Nat) (i : Nat) (hi : isSt i) (j1 : Nat) (hj1 : isTw j1) (x2 : Int32) (M : Mem) (res : Mem) (hf : f_X4_passDay n i j1 x2 M = some res) : CG l w layC 61 (XN Y) yX4_passDay cX4_passDay 5 none 3 [.ref (w.2.2.1 i), .ref (w.2.2.1 j1), .int x2] M (GQv w layC 61 res) := by
  refine cg_start (by decide +kernel) (Nat.le_of_ble_eq_true rfl) ?_
  intro p e s m args below meth c F hr hlk hX hG ls hl
  have F : FX w p m c cX4_passDay 5 s args RX4 := F
  have hx := F.1.1
  have hb := F.1.2.1
  have hl : lv_has ls 5 [(0, .ref (w.2.2.1 i)), (1, .ref (w.2.2.1 j1)), (2, .int x2)] := hl
  have hJ103 : ∀ (x3 : Int32) (x4 : Int32) (M : Mem) (H : Heap) (locs : List Loc) (ls : Array Slot), gl (b_X4_passDay_103 n i j1 x3) n (x4, M) = some res → GI w layC 61 s.heap M H locs → lv_has ls 5 [(0, .ref (w.2.2.1 i)), (1, .ref (w.2.2.1 j1)), (3, .int x3), (4, .int x4)] → W p l e (Rm 3) s m args below meth c H locs 0 0 (MQ below (GQv w layC 61 res s.heap.size) args s 0 0 (gA w.2.2.1 61 s.heap.size)) (F0 m 103 ls []) := by
    intro x3 x4 M H locs ls hf hG hl
    refine gl_run (P := fun (q : (Int32 × Mem)) => ∀ (H : Heap) (locs : List Loc) (ls : Array Slot), GI w layC 61 s.heap q.2 H locs → lv_has ls 5 [(0, .ref (w.2.2.1 i)), (1, .ref (w.2.2.1 j1)), (3, .int x3), (4, .int q.1)] → W p l e (Rm 3) s m args below meth c H locs 0 0 (MQ below (GQv w layC 61 res s.heap.size) args s 0 0 (gA w.2.2.1 61 s.heap.size)) (F0 m 103 ls [])) ?_ n (x4, M) hf H locs ls hG hl
    clear hf hG hl ls locs H M x4
    rintro ⟨x4, M⟩ rr103 hf hI103 hE103 H locs ls hG hl
    try dsimp only at hG hl ⊢
    dsimp only [b_X4_passDay_103] at hf
    refine lv_iload hx hb dX4_passDay_103 (lv_at hl 3 rfl) ?_
    refine lv_aload_n hx hb dX4_passDay_105 rfl (lv_at hl 0 rfl) ?_
    refine g_getI F hG hi.1 (by decide) (by decide) lk_X4_34 rfl dX4_passDay_106 ?_
    refine lv_icmp_ge (tgt := 138) hx hb dX4_passDay_109 (by decide) (fun c1 => ?_) (fun c1 => ?_)
    · replace hf := if_t c1 hf
      refine lv_aload_n hx hb dX4_passDay_138 rfl (lv_at hl 0 rfl) ?_
      refine lv_dup hx hb dX4_passDay_139 rfl ?_
      refine g_getI F hG hi.1 (by decide) (by decide) lk_X4_37 rfl dX4_passDay_140 ?_
      refine lv_iconst (v := 1) hx hb dX4_passDay_143 (by decide) ?_
      refine lv_iadd hx hb dX4_passDay_144 ?_
      refine g_putI F hG hi.1 (by decide) (by decide) lkv_X4_37 rfl rfl rfl dX4_passDay_145 (fun H locs hG => ?_)
      replace hf := mr_some hf
      obtain ⟨z103, hf, hz⟩ := hf
      rw [hE103 _ hz] at hf
      exact cg_vret F hr hlk hG hf dX4_passDay_148
    · replace hf := if_f c1 hf
      refine lv_aload_n hx hb dX4_passDay_112 rfl (lv_at hl 0 rfl) ?_
      refine lv_iload hx hb dX4_passDay_113 (lv_at hl 3 rfl) ?_
      refine lv_aload_n hx hb dX4_passDay_115 rfl (lv_at hl 1 rfl) ?_
      refine lv_aload_n hx hb dX4_passDay_116 rfl (lv_at hl 0 rfl) ?_
      refine lv_iload hx hb dX4_passDay_117 (lv_at hl 3 rfl) ?_
      refine lv_aload_n hx hb dX4_passDay_119 rfl (lv_at hl 0 rfl) ?_
      refine lv_iload hx hb dX4_passDay_120 (lv_at hl 3 rfl) ?_
      refine lv_iload_n hx hb dX4_passDay_122 rfl (lv_at hl 2 rfl) ?_
      replace hf := bd_some hf
      obtain ⟨q2, eq2, hf⟩ := hf
      refine gx_calli hG (gx_runV (xn_ok hYk) F hX hG (c_X4_doubt l w hYk n i hi x4 x3 _ _ eq2) cv_X4_108 ⟨Nat.le_of_ble_eq_true rfl, Nat.le_of_ble_eq_true rfl⟩ (g_recv F hG hi.1 (by decide) rfl) rfl hl.1 rfl (Nat.le_of_ble_eq_true rfl) dX4_passDay_123 ⟨Nat.le_refl _, Nat.le_refl _⟩) (fun H locs hG => ?_)
      replace hf := bd_some hf
      obtain ⟨q3, eq3, hf⟩ := hf
      refine gx_calli hG (gx_runV (xn_ok hYk) F hX hG (c_X6_belief l w hYk n j1 hj1 i hi x4 q2.1 _ _ eq3) cv_X4_131 ⟨Nat.le_of_ble_eq_true rfl, Nat.le_of_ble_eq_true rfl⟩ (g_recv F hG hj1.1 (by decide) rfl) rfl hl.1 rfl (Nat.le_of_ble_eq_true rfl) dX4_passDay_126 ⟨Nat.le_refl _, Nat.le_refl _⟩) (fun H locs hG => ?_)
      replace hf := bd_some hf
      obtain ⟨q4, eq4, hf⟩ := hf
      refine gx_callv hG (gx_runV (xn_ok hYk) F hX hG (c_X4_addFaith l w hYk n i hi x4 q3.1 _ _ eq4) cv_X4_134 ⟨Nat.le_of_ble_eq_true rfl, Nat.le_of_ble_eq_true rfl⟩ (g_recv F hG hi.1 (by decide) rfl) rfl hl.1 rfl (Nat.le_of_ble_eq_true rfl) dX4_passDay_129 ⟨Nat.le_refl _, Nat.le_refl _⟩) (fun H locs hG => ?_)
      refine lv_iinc (v := (x4 + (1 : Int32))) (lv' := [(4, .int (x4 + (1 : Int32))), (0, .ref (w.2.2.1 i)), (1, .ref (w.2.2.1 j1)), (3, .int x3)]) hx hb dX4_passDay_132 hl (k := 3) rfl rfl (by decide) rfl (fun ls hl => ?_)
      refine lv_goto (tgt := 103) hx hb dX4_passDay_135 (by decide) ?_
      exact hI103 _ (Option.some.inj hf).symm _ _ ls hG (lv_sub hl [1, 2, 3, 0] rfl)
  have hJ76 : ∀ (x3 : Int32) (M : Mem) (H : Heap) (locs : List Loc) (ls : Array Slot), j_X4_passDay_76 n i j1 x3 M = some res → GI w layC 61 s.heap M H locs → lv_has ls 5 [(0, .ref (w.2.2.1 i)), (1, .ref (w.2.2.1 j1)), (3, .int x3)] → W p l e (Rm 3) s m args below meth c H locs 0 0 (MQ below (GQv w layC 61 res s.heap.size) args s 0 0 (gA w.2.2.1 61 s.heap.size)) (F0 m 76 ls []) := by
    intro x3 M H locs ls hf hG hl
    unfold j_X4_passDay_76 at hf
    refine lv_aload_n hx hb dX4_passDay_76 rfl (lv_at hl 0 rfl) ?_
    refine lv_aload_n hx hb dX4_passDay_77 rfl (lv_at hl 1 rfl) ?_
    refine g_getI F hG hj1.1 (by decide) (by decide) lk_X4_119 rfl dX4_passDay_78 ?_
    replace hf := bd_some hf
    obtain ⟨q5, eq5, hf⟩ := hf
    refine gx_callv hG (gx_runV (xn_ok hYk) F hX hG (c_X4_hangNext l w hYk n i hi (gi M j1 9) _ _ eq5) cv_X4_122 ⟨Nat.le_of_ble_eq_true rfl, Nat.le_of_ble_eq_true rfl⟩ (g_recv F hG hi.1 (by decide) rfl) rfl hl.1 rfl (Nat.le_of_ble_eq_true rfl) dX4_passDay_81 ⟨Nat.le_refl _, Nat.le_refl _⟩) (fun H locs hG => ?_)
    refine lv_aload_n hx hb dX4_passDay_84 rfl (lv_at hl 0 rfl) ?_
    refine lv_aload_n hx hb dX4_passDay_85 rfl (lv_at hl 0 rfl) ?_
    refine lv_aload_n hx hb dX4_passDay_86 rfl (lv_at hl 1 rfl) ?_
    refine g_getI F hG hj1.1 (by decide) (by decide) lk_X4_125 rfl dX4_passDay_87 ?_
    refine lv_aload_n hx hb dX4_passDay_90 rfl (lv_at hl 0 rfl) ?_
    replace hf := bd_some hf
    obtain ⟨q6, eq6, hf⟩ := hf
    refine gx_calli hG (gx_runV (xn_ok hYk) F hX hG (c_X4_spare l w hYk n i hi  _ _ eq6) cv_X4_84 ⟨Nat.le_of_ble_eq_true rfl, Nat.le_of_ble_eq_true rfl⟩ (g_recv F hG hi.1 (by decide) rfl) rfl hl.1 rfl (Nat.le_of_ble_eq_true rfl) dX4_passDay_91 ⟨Nat.le_refl _, Nat.le_refl _⟩) (fun H locs hG => ?_)
    replace hf := bd_some hf
    obtain ⟨q7, eq7, hf⟩ := hf
    refine gx_calli hG (gx_runV (xn_ok hYk) F hX hG (c_X4_dropLowest l w hYk n i hi (gi q5 j1 8) q6.1 _ _ eq7) cv_X4_128 ⟨Nat.le_of_ble_eq_true rfl, Nat.le_of_ble_eq_true rfl⟩ (g_recv F hG hi.1 (by decide) rfl) rfl hl.1 rfl (Nat.le_of_ble_eq_true rfl) dX4_passDay_94 ⟨Nat.le_refl _, Nat.le_refl _⟩) (fun H locs hG => ?_)
    refine g_putI F hG hi.1 (by decide) (by decide) lkv_X4_46 rfl rfl rfl dX4_passDay_97 (fun H locs hG => ?_)
    refine lv_iconst (v := 0) hx hb dX4_passDay_100 (by decide) ?_
    refine lv_istore (lv' := [(4, .int (0 : Int32)), (0, .ref (w.2.2.1 i)), (1, .ref (w.2.2.1 j1)), (3, .int x3)]) hx hb dX4_passDay_101 hl (by decide) rfl (fun ls hl => ?_)
    exact hJ103 _ _ _ _ _ ls hf hG (lv_sub hl [1, 2, 3, 0] rfl)
  have hJ29 : ∀ (x3 : Int32) (x4 : Int32) (M : Mem) (H : Heap) (locs : List Loc) (ls : Array Slot), gl (b_X4_passDay_29 n i j1 x3) n (x4, M) = some res → GI w layC 61 s.heap M H locs → lv_has ls 5 [(0, .ref (w.2.2.1 i)), (1, .ref (w.2.2.1 j1)), (3, .int x3), (4, .int x4)] → W p l e (Rm 3) s m args below meth c H locs 0 0 (MQ below (GQv w layC 61 res s.heap.size) args s 0 0 (gA w.2.2.1 61 s.heap.size)) (F0 m 29 ls []) := by
    intro x3 x4 M H locs ls hf hG hl
    refine gl_run (P := fun (q : (Int32 × Mem)) => ∀ (H : Heap) (locs : List Loc) (ls : Array Slot), GI w layC 61 s.heap q.2 H locs → lv_has ls 5 [(0, .ref (w.2.2.1 i)), (1, .ref (w.2.2.1 j1)), (3, .int x3), (4, .int q.1)] → W p l e (Rm 3) s m args below meth c H locs 0 0 (MQ below (GQv w layC 61 res s.heap.size) args s 0 0 (gA w.2.2.1 61 s.heap.size)) (F0 m 29 ls [])) ?_ n (x4, M) hf H locs ls hG hl
    clear hf hG hl ls locs H M x4
    rintro ⟨x4, M⟩ rr29 hf hI29 hE29 H locs ls hG hl
    try dsimp only at hG hl ⊢
    dsimp only [b_X4_passDay_29] at hf
    refine lv_iload hx hb dX4_passDay_29 (lv_at hl 3 rfl) ?_
    refine lv_aload_n hx hb dX4_passDay_31 rfl (lv_at hl 0 rfl) ?_
    refine g_getI F hG hi.1 (by decide) (by decide) lk_X4_34 rfl dX4_passDay_32 ?_
    refine lv_icmp_ge (tgt := 76) hx hb dX4_passDay_35 (by decide) (fun c8 => ?_) (fun c8 => ?_)
    · replace hf := if_t c8 hf
      replace hf := mr_some hf
      obtain ⟨z29, hf, hz⟩ := hf
      rw [hE29 _ hz] at hf
      exact hJ76 _ _ _ _ ls hf hG (lv_sub hl [0, 1, 2] rfl)
    · replace hf := if_f c8 hf
      refine lv_aload_n hx hb dX4_passDay_38 rfl (lv_at hl 0 rfl) ?_
      refine g_getR F hG (i + 5) hi.1 (by decide) (by decide) lk_X4_24 rfl dX4_passDay_39 ?_
      refine lv_iload hx hb dX4_passDay_42 (lv_at hl 3 rfl) ?_
      refine lv_aload_n hx hb dX4_passDay_44 rfl (lv_at hl 1 rfl) ?_
      refine lv_aload_n hx hb dX4_passDay_45 rfl (lv_at hl 0 rfl) ?_
      refine lv_iload hx hb dX4_passDay_46 (lv_at hl 3 rfl) ?_
      refine lv_aload_n hx hb dX4_passDay_48 rfl (lv_at hl 0 rfl) ?_
      refine lv_iload hx hb dX4_passDay_49 (lv_at hl 3 rfl) ?_
      refine lv_iload_n hx hb dX4_passDay_51 rfl (lv_at hl 2 rfl) ?_
      replace hf := bd_some hf
      obtain ⟨q9, eq9, hf⟩ := hf
      refine gx_calli hG (gx_runV (xn_ok hYk) F hX hG (c_X4_doubt l w hYk n i hi x4 x3 _ _ eq9) cv_X4_108 ⟨Nat.le_of_ble_eq_true rfl, Nat.le_of_ble_eq_true rfl⟩ (g_recv F hG hi.1 (by decide) rfl) rfl hl.1 rfl (Nat.le_of_ble_eq_true rfl) dX4_passDay_52 ⟨Nat.le_refl _, Nat.le_refl _⟩) (fun H locs hG => ?_)
      replace hf := bd_some hf
      obtain ⟨q10, eq10, hf⟩ := hf
      refine gx_calli hG (gx_runV (xn_ok hYk) F hX hG (c_X6_gift l w hYk n j1 hj1 i hi x4 q9.1 _ _ eq10) cv_X4_111 ⟨Nat.le_of_ble_eq_true rfl, Nat.le_of_ble_eq_true rfl⟩ (g_recv F hG hj1.1 (by decide) rfl) rfl hl.1 rfl (Nat.le_of_ble_eq_true rfl) dX4_passDay_55 ⟨Nat.le_refl _, Nat.le_refl _⟩) (fun H locs hG => ?_)
      replace hf := ck_some hf
      obtain ⟨k11, hf⟩ := hf
      refine g_iast F hG hi.2.2.2.2.2 k11 dX4_passDay_58 (fun H locs hG => ?_)
      refine lv_aload_n hx hb dX4_passDay_59 rfl (lv_at hl 0 rfl) ?_
      refine lv_aload_n hx hb dX4_passDay_60 rfl (lv_at hl 0 rfl) ?_
      refine g_getR F hG (i + 5) hi.1 (by decide) (by decide) lk_X4_24 rfl dX4_passDay_61 ?_
      refine lv_iload hx hb dX4_passDay_64 (lv_at hl 3 rfl) ?_
      replace hf := ck_some hf
      obtain ⟨k12, hf⟩ := hf
      refine g_iald F hG hi.2.2.2.2.2 k12 dX4_passDay_66 ?_
      replace hf := bd_some hf
      obtain ⟨q13, eq13, hf⟩ := hf
      refine gx_callv hG (gx_runV (xn_ok hYk) F hX hG (c_X4_receive l w hYk n i hi (gi (si q10.2 (i + 5) x4.toNatClampNeg q10.1) (i + 5) x4.toNatClampNeg) _ _ eq13) cv_X4_115 ⟨Nat.le_of_ble_eq_true rfl, Nat.le_of_ble_eq_true rfl⟩ (g_recv F hG hi.1 (by decide) rfl) rfl hl.1 rfl (Nat.le_of_ble_eq_true rfl) dX4_passDay_67 ⟨Nat.le_refl _, Nat.le_refl _⟩) (fun H locs hG => ?_)
      refine lv_iinc (v := (x4 + (1 : Int32))) (lv' := [(4, .int (x4 + (1 : Int32))), (0, .ref (w.2.2.1 i)), (1, .ref (w.2.2.1 j1)), (3, .int x3)]) hx hb dX4_passDay_70 hl (k := 3) rfl rfl (by decide) rfl (fun ls hl => ?_)
      refine lv_goto (tgt := 29) hx hb dX4_passDay_73 (by decide) ?_
      exact hI29 _ (Option.some.inj hf).symm _ _ ls hG (lv_sub hl [1, 2, 3, 0] rfl)
  unfold f_X4_passDay at hf
  refine lv_aload_n hx hb dX4_passDay_0 rfl (lv_at hl 0 rfl) ?_
  refine lv_aload_n hx hb dX4_passDay_1 rfl (lv_at hl 0 rfl) ?_
  refine g_getI F hG hi.1 (by decide) (by decide) lk_X4_43 rfl dX4_passDay_2 ?_
  refine lv_aload_n hx hb dX4_passDay_5 rfl (lv_at hl 1 rfl) ?_
  refine lv_aload_n hx hb dX4_passDay_6 rfl (lv_at hl 0 rfl) ?_
  refine lv_iload_n hx hb dX4_passDay_7 rfl (lv_at hl 2 rfl) ?_
  replace hf := bd_some hf
  obtain ⟨q14, eq14, hf⟩ := hf
  refine gx_calli hG (gx_runV (xn_ok hYk) F hX hG (c_X6_leaning l w hYk n j1 hj1 i hi x2 _ _ eq14) cv_X4_99 ⟨Nat.le_of_ble_eq_true rfl, Nat.le_of_ble_eq_true rfl⟩ (g_recv F hG hj1.1 (by decide) rfl) rfl hl.1 rfl (Nat.le_of_ble_eq_true rfl) dX4_passDay_8 ⟨Nat.le_refl _, Nat.le_refl _⟩) (fun H locs hG => ?_)
  refine lv_iadd hx hb dX4_passDay_11 ?_
  refine lv_iconst (v := 0) hx hb dX4_passDay_12 (by decide) ?_
  refine lv_bipush (v := 99) hx hb dX4_passDay_13 (by decide) ?_
  replace hf := bd_some hf
  obtain ⟨q15, eq15, hf⟩ := hf
  refine gx_calli hG (gx_runSN (xn_ok hYk) F hX hG (c_X8_within l w hYk n  ((gi M i 10) + q14.1) (0 : Int32) (99 : Int32) _ _ eq15) hX.2.1 csn_X8_within ⟨Nat.le_of_ble_eq_true rfl, Nat.le_of_ble_eq_true rfl⟩ rfl hl.1 rfl (Nat.le_of_ble_eq_true rfl) dX4_passDay_15 ⟨Nat.le_refl _, Nat.le_refl _⟩) (fun H locs hG => ?_)
  refine g_putI F hG hi.1 (by decide) (by decide) lkv_X4_43 rfl rfl rfl dX4_passDay_18 (fun H locs hG => ?_)
  refine lv_aload_n hx hb dX4_passDay_21 rfl (lv_at hl 0 rfl) ?_
  replace hf := bd_some hf
  obtain ⟨q16, eq16, hf⟩ := hf
  refine gx_calli hG (gx_runV (xn_ok hYk) F hX hG (c_X4_doubters l w hYk n i hi  _ _ eq16) cv_X4_105 ⟨Nat.le_of_ble_eq_true rfl, Nat.le_of_ble_eq_true rfl⟩ (g_recv F hG hi.1 (by decide) rfl) rfl hl.1 rfl (Nat.le_of_ble_eq_true rfl) dX4_passDay_22 ⟨Nat.le_refl _, Nat.le_refl _⟩) (fun H locs hG => ?_)
  refine lv_istore_n (lv' := [(3, .int q16.1), (0, .ref (w.2.2.1 i)), (1, .ref (w.2.2.1 j1)), (2, .int x2)]) hx hb dX4_passDay_25 rfl hl (by decide) rfl (fun ls hl => ?_)
  refine lv_iconst (v := 0) hx hb dX4_passDay_26 (by decide) ?_
  refine lv_istore (lv' := [(4, .int (0 : Int32)), (3, .int q16.1), (0, .ref (w.2.2.1 i)), (1, .ref (w.2.2.1 j1)), (2, .int x2)]) hx hb dX4_passDay_27 hl (by decide) rfl (fun ls hl => ?_)
  exact hJ29 _ _ _ _ _ ls hf hG (lv_sub hl [2, 3, 1, 0] rfl)

def f_X4_draw (n : Nat) (x0 : Int32) (x1 : Int32) (M : Mem) : Option (Int32 × Mem) := if x1 ≤ 0 then (some ((0 : Int32), M)) else (ck (¬ x1 = 0) (some (((((x0.toUInt32 >>> ((16 : Int32).toUInt32 &&& Int32.toUInt32 31)).toInt32) &&& (32767 : Int32)) - (((x0.toUInt32 >>> ((16 : Int32).toUInt32 &&& Int32.toUInt32 31)).toInt32) &&& (32767 : Int32)) / x1 * x1), M)))
set_option maxHeartbeats 4000000 in
set_option maxRecDepth 100000 in
theorem c_X4_draw (l : Launch) (w : Wd) {Y : (Nat → Prop) → State → Heap → Prop} (hYk : XOK Y) (n : Nat) (x0 : Int32) (x1 : Int32) (M : Mem) (res : Int32 × Mem) (hf : f_X4_draw n  x0 x1 M = some res) : CG l w layC 61 (XN Y) yX4_draw cX4_draw 2 (some .int) 0 [.int x0, .int x1] M (GQi w layC 61 res) := by
  refine cg_start (by decide +kernel) (Nat.le_of_ble_eq_true rfl) ?_
  intro p e s m args below meth c F hr hlk hX hG ls hl
  have F : FX w p m c cX4_draw 2 s args RX4 := F
  have hx := F.1.1
  have hb := F.1.2.1
  have hl : lv_has ls 2 [(0, .int x0), (1, .int x1)] := hl
  unfold f_X4_draw at hf
  refine lv_iload_n hx hb dX4_draw_0 rfl (lv_at hl 1 rfl) ?_
  refine lv_if_le (tgt := 17) hx hb dX4_draw_1 (by decide) (fun c1 => ?_) (fun c1 => ?_)
  · replace hf := if_t c1 hf
    refine lv_iconst (v := 0) hx hb dX4_draw_17 (by decide) ?_
    exact cg_iret F hr hlk hG hf dX4_draw_18
  · replace hf := if_f c1 hf
    refine lv_iload_n hx hb dX4_draw_4 rfl (lv_at hl 0 rfl) ?_
    refine lv_bipush (v := 16) hx hb dX4_draw_5 (by decide) ?_
    refine lv_iushr hx hb dX4_draw_7 rfl ?_
    refine lv_sipush (v := 32767) hx hb dX4_draw_8 (by decide) ?_
    refine lv_iand hx hb dX4_draw_11 ?_
    refine lv_iload_n hx hb dX4_draw_12 rfl (lv_at hl 1 rfl) ?_
    replace hf := ck_some hf
    obtain ⟨k2, hf⟩ := hf
    refine lv_irem hx hb dX4_draw_13 k2 ?_
    refine lv_goto (tgt := 18) hx hb dX4_draw_14 (by decide) ?_
    exact cg_iret F hr hlk hG hf dX4_draw_18

def f_X4_nextSeed (n : Nat) (x0 : Int32) (M : Mem) : Option (Int32 × Mem) := some (((x0 * (1103515245 : Int32)) + (12345 : Int32)), M)
set_option maxHeartbeats 4000000 in
set_option maxRecDepth 100000 in
theorem c_X4_nextSeed (l : Launch) (w : Wd) {Y : (Nat → Prop) → State → Heap → Prop} (hYk : XOK Y) (n : Nat) (x0 : Int32) (M : Mem) (res : Int32 × Mem) (hf : f_X4_nextSeed n  x0 M = some res) : CG l w layC 61 (XN Y) yX4_nextSeed cX4_nextSeed 1 (some .int) 0 [.int x0] M (GQi w layC 61 res) := by
  refine cg_start (by decide +kernel) (Nat.le_of_ble_eq_true rfl) ?_
  intro p e s m args below meth c F hr hlk hX hG ls hl
  have F : FX w p m c cX4_nextSeed 1 s args RX4 := F
  have hx := F.1.1
  have hb := F.1.2.1
  have hl : lv_has ls 1 [(0, .int x0)] := hl
  unfold f_X4_nextSeed at hf
  refine lv_iload_n hx hb dX4_nextSeed_0 rfl (lv_at hl 0 rfl) ?_
  refine lv_ldc hx hb F.1.2.2.2.1 (F.1.2.2.2.2 _ m_1265) dX4_nextSeed_1 ?_
  refine lv_imul hx hb dX4_nextSeed_3 ?_
  refine lv_sipush (v := 12345) hx hb dX4_nextSeed_4 (by decide) ?_
  refine lv_iadd hx hb dX4_nextSeed_7 ?_
  exact cg_iret F hr hlk hG hf dX4_nextSeed_8

def j_X4_chance_59 (n : Nat) (i : Nat) (x2 : Int32) (x3 : Int32) (M : Mem) : Option (Int32 × Mem) := if x3 = (1 : Int32) then (bd (f_X4_nextSeed n  x2 M) (fun q2 => bd (f_X4_draw n  q2.1 (50 : Int32) q2.2) (fun q3 => some (q2.1, si q3.2 i 9 q3.1)))) else (if x3 = (2 : Int32) then (if (gi M i 6) ≤ 0 then (some (x2, M)) else (bd (f_X4_nextSeed n  x2 M) (fun q6 => bd (f_X4_draw n  q6.1 (gi q6.2 i 6) q6.2) (fun q7 => ck (inb q7.1 16) (some (q6.1, si q7.2 (i + 2) q7.1.toNatClampNeg (0 : Int32))))))) else (some (x2, M)))
def f_X4_chance (n : Nat) (i : Nat) (x1 : Int32) (M : Mem) : Option (Int32 × Mem) := bd (f_X4_nextSeed n  x1 M) (fun q9 => bd (f_X4_draw n  q9.1 (6 : Int32) q9.2) (fun q10 => if q10.1 = 0 then (if (gi q10.2 i 7) ≤ 0 then (j_X4_chance_59 n i q9.1 q10.1 q10.2) else (bd (f_X4_nextSeed n  q9.1 q10.2) (fun q13 => bd (f_X4_draw n  q13.1 (gi q13.2 i 7) q13.2) (fun q14 => bd (f_X4_nextSeed n  q13.1 q14.2) (fun q15 => bd (f_X4_draw n  q15.1 (100 : Int32) q15.2) (fun q16 => ck (inb q14.1 8) (some (q15.1, si q16.2 (i + 3) q14.1.toNatClampNeg q16.1)))))))) else (j_X4_chance_59 n i q9.1 q10.1 q10.2)))
set_option maxHeartbeats 4000000 in
set_option maxRecDepth 100000 in
theorem c_X4_chance (l : Launch) (w : Wd) {Y : (Nat → Prop) → State → Heap → Prop} (hYk : XOK Y) (n : Nat) (i : Nat) (hi : isSt i) (x1 : Int32) (M : Mem) (res : Int32 × Mem) (hf : f_X4_chance n i x1 M = some res) : CG l w layC 61 (XN Y) yX4_chance cX4_chance 5 (some .int) 1 [.ref (w.2.2.1 i), .int x1] M (GQi w layC 61 res) := by
  refine cg_start (by decide +kernel) (Nat.le_of_ble_eq_true rfl) ?_
  intro p e s m args below meth c F hr hlk hX hG ls hl
  have F : FX w p m c cX4_chance 5 s args RX4 := F
  have hx := F.1.1
  have hb := F.1.2.1
  have hl : lv_has ls 5 [(0, .ref (w.2.2.1 i)), (1, .int x1)] := hl
  have hJ59 : ∀ (x2 : Int32) (x3 : Int32) (M : Mem) (H : Heap) (locs : List Loc) (ls : Array Slot), j_X4_chance_59 n i x2 x3 M = some res → GI w layC 61 s.heap M H locs → lv_has ls 5 [(0, .ref (w.2.2.1 i)), (2, .int x2), (3, .int x3)] → W p l e (Rm 1) s m args below meth c H locs 0 0 (MQ below (GQi w layC 61 res s.heap.size) args s 0 0 (gA w.2.2.1 61 s.heap.size)) (F0 m 59 ls []) := by
    intro x2 x3 M H locs ls hf hG hl
    unfold j_X4_chance_59 at hf
    refine lv_iload_n hx hb dX4_chance_59 rfl (lv_at hl 2 rfl) ?_
    refine lv_iconst (v := 1) hx hb dX4_chance_60 (by decide) ?_
    refine lv_icmp_ne (tgt := 82) hx hb dX4_chance_61 (by decide) (fun c1 => ?_) (fun c1 => ?_)
    · replace hf := if_f c1 hf
      refine lv_iload_n hx hb dX4_chance_82 rfl (lv_at hl 2 rfl) ?_
      refine lv_iconst (v := 2) hx hb dX4_chance_83 (by decide) ?_
      refine lv_icmp_ne (tgt := 113) hx hb dX4_chance_84 (by decide) (fun c4 => ?_) (fun c4 => ?_)
      · replace hf := if_f c4 hf
        refine lv_iload_n hx hb dX4_chance_113 rfl (lv_at hl 1 rfl) ?_
        exact cg_iret F hr hlk hG hf dX4_chance_114
      · replace hf := if_t c4 hf
        refine lv_aload_n hx hb dX4_chance_87 rfl (lv_at hl 0 rfl) ?_
        refine g_getI F hG hi.1 (by decide) (by decide) lk_X4_31 rfl dX4_chance_88 ?_
        refine lv_if_le (tgt := 113) hx hb dX4_chance_91 (by decide) (fun c5 => ?_) (fun c5 => ?_)
        · replace hf := if_t c5 hf
          refine lv_iload_n hx hb dX4_chance_113 rfl (lv_at hl 1 rfl) ?_
          exact cg_iret F hr hlk hG hf dX4_chance_114
        · replace hf := if_f c5 hf
          refine lv_iload_n hx hb dX4_chance_94 rfl (lv_at hl 1 rfl) ?_
          replace hf := bd_some hf
          obtain ⟨q6, eq6, hf⟩ := hf
          refine gx_calli hG (gx_runS (xn_ok hYk) F hX hG (c_X4_nextSeed l w hYk n  x2 _ _ eq6) cs_X4_141 ⟨Nat.le_of_ble_eq_true rfl, Nat.le_of_ble_eq_true rfl⟩ rfl hl.1 rfl (Nat.le_of_ble_eq_true rfl) dX4_chance_95 ⟨Nat.le_refl _, Nat.le_refl _⟩) (fun H locs hG => ?_)
          refine lv_istore_n (lv' := [(2, .int q6.1), (0, .ref (w.2.2.1 i)), (3, .int x3)]) hx hb dX4_chance_98 rfl hl (by decide) rfl (fun ls hl => ?_)
          refine lv_aload_n hx hb dX4_chance_99 rfl (lv_at hl 1 rfl) ?_
          refine g_getR F hG (i + 2) hi.1 (by decide) (by decide) lk_X4_15 rfl dX4_chance_100 ?_
          refine lv_iload_n hx hb dX4_chance_103 rfl (lv_at hl 0 rfl) ?_
          refine lv_aload_n hx hb dX4_chance_104 rfl (lv_at hl 1 rfl) ?_
          refine g_getI F hG hi.1 (by decide) (by decide) lk_X4_31 rfl dX4_chance_105 ?_
          replace hf := bd_some hf
          obtain ⟨q7, eq7, hf⟩ := hf
          refine gx_calli hG (gx_runS (xn_ok hYk) F hX hG (c_X4_draw l w hYk n  q6.1 (gi q6.2 i 6) _ _ eq7) cs_X4_144 ⟨Nat.le_of_ble_eq_true rfl, Nat.le_of_ble_eq_true rfl⟩ rfl hl.1 rfl (Nat.le_of_ble_eq_true rfl) dX4_chance_108 ⟨Nat.le_refl _, Nat.le_refl _⟩) (fun H locs hG => ?_)
          refine lv_iconst (v := 0) hx hb dX4_chance_111 (by decide) ?_
          replace hf := ck_some hf
          obtain ⟨k8, hf⟩ := hf
          refine g_iast F hG hi.2.2.1 k8 dX4_chance_112 (fun H locs hG => ?_)
          refine lv_iload_n hx hb dX4_chance_113 rfl (lv_at hl 0 rfl) ?_
          exact cg_iret F hr hlk hG hf dX4_chance_114
    · replace hf := if_t c1 hf
      refine lv_iload_n hx hb dX4_chance_64 rfl (lv_at hl 1 rfl) ?_
      replace hf := bd_some hf
      obtain ⟨q2, eq2, hf⟩ := hf
      refine gx_calli hG (gx_runS (xn_ok hYk) F hX hG (c_X4_nextSeed l w hYk n  x2 _ _ eq2) cs_X4_141 ⟨Nat.le_of_ble_eq_true rfl, Nat.le_of_ble_eq_true rfl⟩ rfl hl.1 rfl (Nat.le_of_ble_eq_true rfl) dX4_chance_65 ⟨Nat.le_refl _, Nat.le_refl _⟩) (fun H locs hG => ?_)
      refine lv_istore_n (lv' := [(2, .int q2.1), (0, .ref (w.2.2.1 i)), (3, .int x3)]) hx hb dX4_chance_68 rfl hl (by decide) rfl (fun ls hl => ?_)
      refine lv_aload_n hx hb dX4_chance_69 rfl (lv_at hl 1 rfl) ?_
      refine lv_iload_n hx hb dX4_chance_70 rfl (lv_at hl 0 rfl) ?_
      refine lv_bipush (v := 50) hx hb dX4_chance_71 (by decide) ?_
      replace hf := bd_some hf
      obtain ⟨q3, eq3, hf⟩ := hf
      refine gx_calli hG (gx_runS (xn_ok hYk) F hX hG (c_X4_draw l w hYk n  q2.1 (50 : Int32) _ _ eq3) cs_X4_144 ⟨Nat.le_of_ble_eq_true rfl, Nat.le_of_ble_eq_true rfl⟩ rfl hl.1 rfl (Nat.le_of_ble_eq_true rfl) dX4_chance_73 ⟨Nat.le_refl _, Nat.le_refl _⟩) (fun H locs hG => ?_)
      refine g_putI F hG hi.1 (by decide) (by decide) lkv_X4_40 rfl rfl rfl dX4_chance_76 (fun H locs hG => ?_)
      refine lv_goto (tgt := 113) hx hb dX4_chance_79 (by decide) ?_
      refine lv_iload_n hx hb dX4_chance_113 rfl (lv_at hl 0 rfl) ?_
      exact cg_iret F hr hlk hG hf dX4_chance_114
  unfold f_X4_chance at hf
  refine lv_iload_n hx hb dX4_chance_0 rfl (lv_at hl 1 rfl) ?_
  replace hf := bd_some hf
  obtain ⟨q9, eq9, hf⟩ := hf
  refine gx_calli hG (gx_runS (xn_ok hYk) F hX hG (c_X4_nextSeed l w hYk n  x1 _ _ eq9) cs_X4_141 ⟨Nat.le_of_ble_eq_true rfl, Nat.le_of_ble_eq_true rfl⟩ rfl hl.1 rfl (Nat.le_of_ble_eq_true rfl) dX4_chance_1 ⟨Nat.le_refl _, Nat.le_refl _⟩) (fun H locs hG => ?_)
  refine lv_istore_n (lv' := [(2, .int q9.1), (0, .ref (w.2.2.1 i)), (1, .int x1)]) hx hb dX4_chance_4 rfl hl (by decide) rfl (fun ls hl => ?_)
  refine lv_iload_n hx hb dX4_chance_5 rfl (lv_at hl 0 rfl) ?_
  refine lv_bipush (v := 6) hx hb dX4_chance_6 (by decide) ?_
  replace hf := bd_some hf
  obtain ⟨q10, eq10, hf⟩ := hf
  refine gx_calli hG (gx_runS (xn_ok hYk) F hX hG (c_X4_draw l w hYk n  q9.1 (6 : Int32) _ _ eq10) cs_X4_144 ⟨Nat.le_of_ble_eq_true rfl, Nat.le_of_ble_eq_true rfl⟩ rfl hl.1 rfl (Nat.le_of_ble_eq_true rfl) dX4_chance_8 ⟨Nat.le_refl _, Nat.le_refl _⟩) (fun H locs hG => ?_)
  refine lv_istore_n (lv' := [(3, .int q10.1), (2, .int q9.1), (0, .ref (w.2.2.1 i)), (1, .int x1)]) hx hb dX4_chance_11 rfl hl (by decide) rfl (fun ls hl => ?_)
  refine lv_iload_n hx hb dX4_chance_12 rfl (lv_at hl 0 rfl) ?_
  refine lv_if_ne (tgt := 59) hx hb dX4_chance_13 (by decide) (fun c11 => ?_) (fun c11 => ?_)
  · replace hf := if_f c11 hf
    exact hJ59 _ _ _ _ _ ls hf hG (lv_sub hl [2, 1, 0] rfl)
  · replace hf := if_t c11 hf
    refine lv_aload_n hx hb dX4_chance_16 rfl (lv_at hl 2 rfl) ?_
    refine g_getI F hG hi.1 (by decide) (by decide) lk_X4_34 rfl dX4_chance_17 ?_
    refine lv_if_le (tgt := 59) hx hb dX4_chance_20 (by decide) (fun c12 => ?_) (fun c12 => ?_)
    · replace hf := if_t c12 hf
      exact hJ59 _ _ _ _ _ ls hf hG (lv_sub hl [2, 1, 0] rfl)
    · replace hf := if_f c12 hf
      refine lv_iload_n hx hb dX4_chance_23 rfl (lv_at hl 1 rfl) ?_
      replace hf := bd_some hf
      obtain ⟨q13, eq13, hf⟩ := hf
      refine gx_calli hG (gx_runS (xn_ok hYk) F hX hG (c_X4_nextSeed l w hYk n  q9.1 _ _ eq13) cs_X4_141 ⟨Nat.le_of_ble_eq_true rfl, Nat.le_of_ble_eq_true rfl⟩ rfl hl.1 rfl (Nat.le_of_ble_eq_true rfl) dX4_chance_24 ⟨Nat.le_refl _, Nat.le_refl _⟩) (fun H locs hG => ?_)
      refine lv_istore_n (lv' := [(2, .int q13.1), (3, .int q10.1), (0, .ref (w.2.2.1 i)), (1, .int x1)]) hx hb dX4_chance_27 rfl hl (by decide) rfl (fun ls hl => ?_)
      refine lv_iload_n hx hb dX4_chance_28 rfl (lv_at hl 0 rfl) ?_
      refine lv_aload_n hx hb dX4_chance_29 rfl (lv_at hl 2 rfl) ?_
      refine g_getI F hG hi.1 (by decide) (by decide) lk_X4_34 rfl dX4_chance_30 ?_
      replace hf := bd_some hf
      obtain ⟨q14, eq14, hf⟩ := hf
      refine gx_calli hG (gx_runS (xn_ok hYk) F hX hG (c_X4_draw l w hYk n  q13.1 (gi q13.2 i 7) _ _ eq14) cs_X4_144 ⟨Nat.le_of_ble_eq_true rfl, Nat.le_of_ble_eq_true rfl⟩ rfl hl.1 rfl (Nat.le_of_ble_eq_true rfl) dX4_chance_33 ⟨Nat.le_refl _, Nat.le_refl _⟩) (fun H locs hG => ?_)
      refine lv_istore (lv' := [(4, .int q14.1), (2, .int q13.1), (3, .int q10.1), (0, .ref (w.2.2.1 i)), (1, .int x1)]) hx hb dX4_chance_36 hl (by decide) rfl (fun ls hl => ?_)
      refine lv_iload_n hx hb dX4_chance_38 rfl (lv_at hl 1 rfl) ?_
      replace hf := bd_some hf
      obtain ⟨q15, eq15, hf⟩ := hf
      refine gx_calli hG (gx_runS (xn_ok hYk) F hX hG (c_X4_nextSeed l w hYk n  q13.1 _ _ eq15) cs_X4_141 ⟨Nat.le_of_ble_eq_true rfl, Nat.le_of_ble_eq_true rfl⟩ rfl hl.1 rfl (Nat.le_of_ble_eq_true rfl) dX4_chance_39 ⟨Nat.le_refl _, Nat.le_refl _⟩) (fun H locs hG => ?_)
      refine lv_istore_n (lv' := [(2, .int q15.1), (4, .int q14.1), (3, .int q10.1), (0, .ref (w.2.2.1 i)), (1, .int x1)]) hx hb dX4_chance_42 rfl hl (by decide) rfl (fun ls hl => ?_)
      refine lv_aload_n hx hb dX4_chance_43 rfl (lv_at hl 3 rfl) ?_
      refine g_getR F hG (i + 3) hi.1 (by decide) (by decide) lk_X4_18 rfl dX4_chance_44 ?_
      refine lv_iload hx hb dX4_chance_47 (lv_at hl 1 rfl) ?_
      refine lv_iload_n hx hb dX4_chance_49 rfl (lv_at hl 0 rfl) ?_
      refine lv_bipush (v := 100) hx hb dX4_chance_50 (by decide) ?_
      replace hf := bd_some hf
      obtain ⟨q16, eq16, hf⟩ := hf
      refine gx_calli hG (gx_runS (xn_ok hYk) F hX hG (c_X4_draw l w hYk n  q15.1 (100 : Int32) _ _ eq16) cs_X4_144 ⟨Nat.le_of_ble_eq_true rfl, Nat.le_of_ble_eq_true rfl⟩ rfl hl.1 rfl (Nat.le_of_ble_eq_true rfl) dX4_chance_52 ⟨Nat.le_refl _, Nat.le_refl _⟩) (fun H locs hG => ?_)
      replace hf := ck_some hf
      obtain ⟨k17, hf⟩ := hf
      refine g_iast F hG hi.2.2.2.1 k17 dX4_chance_55 (fun H locs hG => ?_)
      refine lv_goto (tgt := 113) hx hb dX4_chance_56 (by decide) ?_
      refine lv_iload_n hx hb dX4_chance_113 rfl (lv_at hl 0 rfl) ?_
      exact cg_iret F hr hlk hG hf dX4_chance_114

def j_X5_spread_30 (n : Nat) (i0 : Nat) (x1 : Int32) (x2 : Int32) (x3 : Int32) (M : Mem) : Option ((Int32 × Int32 × Mem) ⊕ (Int32 × Mem)) := some (.inl (x2, (x3 + (1 : Int32)), M))
def b_X5_spread_4 (n : Nat) (i0 : Nat) (x1 : Int32) (q : (Int32 × Int32 × Mem)) : Option ((Int32 × Int32 × Mem) ⊕ (Int32 × Mem)) := match q with
  | (x2, x3, M) => if (gi M i0 7) ≤ x3 then (mr (some (x2, M))) else (if ((x1 >>> (x3 &&& 31)) &&& (1 : Int32)) = (1 : Int32) then (ck (inb x3 8) (j_X5_spread_30 n i0 x1 (x2 ||| (gi M (i0 + 4) x3.toNatClampNeg)) x3 M)) else (j_X5_spread_30 n i0 x1 x2 x3 M))
def f_X5_spread (n : Nat) (i0 : Nat) (x1 : Int32) (M : Mem) : Option (Int32 × Mem) := gl (b_X5_spread_4 n i0 x1) n (x1, (0 : Int32), M)
set_option maxHeartbeats 4000000 in
set_option maxRecDepth 100000 in
theorem c_X5_spread (l : Launch) (w : Wd) {Y : (Nat → Prop) → State → Heap → Prop} (hYk : XOK Y) (n : Nat) (i0 : Nat) (hi0 : isSt i0) (x1 : Int32) (M : Mem) (res : Int32 × Mem) (hf : f_X5_spread n i0 x1 M = some res) : CG l w layC 61 (XN Y) yX5_spread cX5_spread 4 (some .int) 0 [.ref (w.2.2.1 i0), .int x1] M (GQi w layC 61 res) := by
  refine cg_start (by decide +kernel) (Nat.le_of_ble_eq_true rfl) ?_
  intro p e s m args below meth c F hr hlk hX hG ls hl
  have F : FX w p m c cX5_spread 4 s args RX5 := F
  have hx := F.1.1
  have hb := F.1.2.1
  have hl : lv_has ls 4 [(0, .ref (w.2.2.1 i0)), (1, .int x1)] := hl
  have hJ4 : ∀ (x1 : Int32) (x2 : Int32) (x3 : Int32) (M : Mem) (H : Heap) (locs : List Loc) (ls : Array Slot), gl (b_X5_spread_4 n i0 x1) n (x2, x3, M) = some res → GI w layC 61 s.heap M H locs → lv_has ls 4 [(0, .ref (w.2.2.1 i0)), (1, .int x1), (2, .int x2), (3, .int x3)] → W p l e (Rm 0) s m args below meth c H locs 0 0 (MQ below (GQi w layC 61 res s.heap.size) args s 0 0 (gA w.2.2.1 61 s.heap.size)) (F0 m 4 ls []) := by
    intro x1 x2 x3 M H locs ls hf hG hl
    refine gl_run (P := fun (q : (Int32 × Int32 × Mem)) => ∀ (H : Heap) (locs : List Loc) (ls : Array Slot), GI w layC 61 s.heap q.2.2 H locs → lv_has ls 4 [(0, .ref (w.2.2.1 i0)), (1, .int x1), (2, .int q.1), (3, .int q.2.1)] → W p l e (Rm 0) s m args below meth c H locs 0 0 (MQ below (GQi w layC 61 res s.heap.size) args s 0 0 (gA w.2.2.1 61 s.heap.size)) (F0 m 4 ls [])) ?_ n (x2, x3, M) hf H locs ls hG hl
    clear hf hG hl ls locs H M x2 x3
    rintro ⟨x2, x3, M⟩ rr4 hf hI4 hE4 H locs ls hG hl
    try dsimp only at hG hl ⊢
    have hJ30 : ∀ (x2 : Int32) (x3 : Int32) (M : Mem) (H : Heap) (locs : List Loc) (ls : Array Slot), j_X5_spread_30 n i0 x1 x2 x3 M = some rr4 → GI w layC 61 s.heap M H locs → lv_has ls 4 [(0, .ref (w.2.2.1 i0)), (1, .int x1), (2, .int x2), (3, .int x3)] → W p l e (Rm 0) s m args below meth c H locs 0 0 (MQ below (GQi w layC 61 res s.heap.size) args s 0 0 (gA w.2.2.1 61 s.heap.size)) (F0 m 30 ls []) := by
      intro x2 x3 M H locs ls hf hG hl
      unfold j_X5_spread_30 at hf
      refine lv_iinc (v := (x3 + (1 : Int32))) (lv' := [(3, .int (x3 + (1 : Int32))), (0, .ref (w.2.2.1 i0)), (1, .int x1), (2, .int x2)]) hx hb dX5_spread_30 hl (k := 3) rfl rfl (by decide) rfl (fun ls hl => ?_)
      refine lv_goto (tgt := 4) hx hb dX5_spread_33 (by decide) ?_
      exact hI4 _ (Option.some.inj hf).symm _ _ ls hG (lv_sub hl [1, 2, 3, 0] rfl)
    dsimp only [b_X5_spread_4] at hf
    refine lv_iload_n hx hb dX5_spread_4 rfl (lv_at hl 3 rfl) ?_
    refine lv_aload_n hx hb dX5_spread_5 rfl (lv_at hl 0 rfl) ?_
    refine g_getI F hG hi0.1 (by decide) (by decide) lk_X5_9 rfl dX5_spread_6 ?_
    refine lv_icmp_ge (tgt := 36) hx hb dX5_spread_9 (by decide) (fun c1 => ?_) (fun c1 => ?_)
    · replace hf := if_t c1 hf
      refine lv_iload_n hx hb dX5_spread_36 rfl (lv_at hl 2 rfl) ?_
      replace hf := mr_some hf
      obtain ⟨z4, hf, hz⟩ := hf
      rw [hE4 _ hz] at hf
      exact cg_iret F hr hlk hG hf dX5_spread_37
    · replace hf := if_f c1 hf
      refine lv_iload_n hx hb dX5_spread_12 rfl (lv_at hl 1 rfl) ?_
      refine lv_iload_n hx hb dX5_spread_13 rfl (lv_at hl 3 rfl) ?_
      refine lv_ishr hx hb dX5_spread_14 ?_
      refine lv_iconst (v := 1) hx hb dX5_spread_15 (by decide) ?_
      refine lv_iand hx hb dX5_spread_16 ?_
      refine lv_iconst (v := 1) hx hb dX5_spread_17 (by decide) ?_
      refine lv_icmp_ne (tgt := 30) hx hb dX5_spread_18 (by decide) (fun c2 => ?_) (fun c2 => ?_)
      · replace hf := if_f c2 hf
        exact hJ30 _ _ _ _ _ ls hf hG (lv_sub hl [0, 1, 2, 3] rfl)
      · replace hf := if_t c2 hf
        refine lv_iload_n hx hb dX5_spread_21 rfl (lv_at hl 2 rfl) ?_
        refine lv_aload_n hx hb dX5_spread_22 rfl (lv_at hl 0 rfl) ?_
        refine g_getR F hG (i0 + 4) hi0.1 (by decide) (by decide) lk_X5_15 rfl dX5_spread_23 ?_
        refine lv_iload_n hx hb dX5_spread_26 rfl (lv_at hl 3 rfl) ?_
        replace hf := ck_some hf
        obtain ⟨k3, hf⟩ := hf
        refine g_iald F hG hi0.2.2.2.2.1 k3 dX5_spread_27 ?_
        refine lv_ior hx hb dX5_spread_28 ?_
        refine lv_istore_n (lv' := [(2, .int (x2 ||| (gi M (i0 + 4) x3.toNatClampNeg))), (0, .ref (w.2.2.1 i0)), (1, .int x1), (3, .int x3)]) hx hb dX5_spread_29 rfl hl (by decide) rfl (fun ls hl => ?_)
        exact hJ30 _ _ _ _ _ ls hf hG (lv_sub hl [1, 2, 0, 3] rfl)
  unfold f_X5_spread at hf
  refine lv_iload_n hx hb dX5_spread_0 rfl (lv_at hl 1 rfl) ?_
  refine lv_istore_n (lv' := [(2, .int x1), (0, .ref (w.2.2.1 i0)), (1, .int x1)]) hx hb dX5_spread_1 rfl hl (by decide) rfl (fun ls hl => ?_)
  refine lv_iconst (v := 0) hx hb dX5_spread_2 (by decide) ?_
  refine lv_istore_n (lv' := [(3, .int (0 : Int32)), (2, .int x1), (0, .ref (w.2.2.1 i0)), (1, .int x1)]) hx hb dX5_spread_3 rfl hl (by decide) rfl (fun ls hl => ?_)
  exact hJ4 _ _ _ _ _ _ ls hf hG (lv_sub hl [2, 3, 1, 0] rfl)

def b_X5_reached_7 (n : Nat) (i0 : Nat) (x2 : Int32) (q : (Int32 × Int32 × Mem)) : Option ((Int32 × Int32 × Mem) ⊕ (Int32 × Mem)) := match q with
  | (x3, x4, M) => if (8 : Int32) ≤ x4 then (mr (some (x3, M))) else (bd (f_X5_spread n i0 x3 M) (fun q2 => some (.inl ((q2.1 &&& (x2 ^^^ (-1 : Int32))), (x4 + (1 : Int32)), q2.2))))
def f_X5_reached (n : Nat) (i0 : Nat) (x1 : Int32) (x2 : Int32) (M : Mem) : Option (Int32 × Mem) := gl (b_X5_reached_7 n i0 x2) n (((1 : Int32) <<< (x1 &&& 31)), (0 : Int32), M)
set_option maxHeartbeats 4000000 in
set_option maxRecDepth 100000 in
theorem c_X5_reached (l : Launch) (w : Wd) {Y : (Nat → Prop) → State → Heap → Prop} (hYk : XOK Y) (n : Nat) (i0 : Nat) (hi0 : isSt i0) (x1 : Int32) (x2 : Int32) (M : Mem) (res : Int32 × Mem) (hf : f_X5_reached n i0 x1 x2 M = some res) : CG l w layC 61 (XN Y) yX5_reached cX5_reached 5 (some .int) 1 [.ref (w.2.2.1 i0), .int x1, .int x2] M (GQi w layC 61 res) := by
  refine cg_start (by decide +kernel) (Nat.le_of_ble_eq_true rfl) ?_
  intro p e s m args below meth c F hr hlk hX hG ls hl
  have F : FX w p m c cX5_reached 5 s args RX5 := F
  have hx := F.1.1
  have hb := F.1.2.1
  have hl : lv_has ls 5 [(0, .ref (w.2.2.1 i0)), (1, .int x1), (2, .int x2)] := hl
  have hJ7 : ∀ (x2 : Int32) (x3 : Int32) (x4 : Int32) (M : Mem) (H : Heap) (locs : List Loc) (ls : Array Slot), gl (b_X5_reached_7 n i0 x2) n (x3, x4, M) = some res → GI w layC 61 s.heap M H locs → lv_has ls 5 [(0, .ref (w.2.2.1 i0)), (2, .int x2), (3, .int x3), (4, .int x4)] → W p l e (Rm 1) s m args below meth c H locs 0 0 (MQ below (GQi w layC 61 res s.heap.size) args s 0 0 (gA w.2.2.1 61 s.heap.size)) (F0 m 7 ls []) := by
    intro x2 x3 x4 M H locs ls hf hG hl
    refine gl_run (P := fun (q : (Int32 × Int32 × Mem)) => ∀ (H : Heap) (locs : List Loc) (ls : Array Slot), GI w layC 61 s.heap q.2.2 H locs → lv_has ls 5 [(0, .ref (w.2.2.1 i0)), (2, .int x2), (3, .int q.1), (4, .int q.2.1)] → W p l e (Rm 1) s m args below meth c H locs 0 0 (MQ below (GQi w layC 61 res s.heap.size) args s 0 0 (gA w.2.2.1 61 s.heap.size)) (F0 m 7 ls [])) ?_ n (x3, x4, M) hf H locs ls hG hl
    clear hf hG hl ls locs H M x3 x4
    rintro ⟨x3, x4, M⟩ rr7 hf hI7 hE7 H locs ls hG hl
    try dsimp only at hG hl ⊢
    dsimp only [b_X5_reached_7] at hf
    refine lv_iload hx hb dX5_reached_7 (lv_at hl 3 rfl) ?_
    refine lv_bipush (v := 8) hx hb dX5_reached_9 (by decide) ?_
    refine lv_icmp_ge (tgt := 30) hx hb dX5_reached_11 (by decide) (fun c1 => ?_) (fun c1 => ?_)
    · replace hf := if_t c1 hf
      refine lv_iload_n hx hb dX5_reached_30 rfl (lv_at hl 2 rfl) ?_
      replace hf := mr_some hf
      obtain ⟨z7, hf, hz⟩ := hf
      rw [hE7 _ hz] at hf
      exact cg_iret F hr hlk hG hf dX5_reached_31
    · replace hf := if_f c1 hf
      refine lv_aload_n hx hb dX5_reached_14 rfl (lv_at hl 0 rfl) ?_
      refine lv_iload_n hx hb dX5_reached_15 rfl (lv_at hl 2 rfl) ?_
      replace hf := bd_some hf
      obtain ⟨q2, eq2, hf⟩ := hf
      refine gx_calli hG (gx_runS (xn_ok hYk) F hX hG (c_X5_spread l w hYk n i0 hi0 x3 _ _ eq2) cs_X5_19 ⟨Nat.le_of_ble_eq_true rfl, Nat.le_of_ble_eq_true rfl⟩ rfl hl.1 rfl (Nat.le_of_ble_eq_true rfl) dX5_reached_16 ⟨Nat.le_refl _, Nat.le_refl _⟩) (fun H locs hG => ?_)
      refine lv_iload_n hx hb dX5_reached_19 rfl (lv_at hl 1 rfl) ?_
      refine lv_iconst (v := -1) hx hb dX5_reached_20 (by decide) ?_
      refine lv_ixor hx hb dX5_reached_21 ?_
      refine lv_iand hx hb dX5_reached_22 ?_
      refine lv_istore_n (lv' := [(3, .int (q2.1 &&& (x2 ^^^ (-1 : Int32)))), (0, .ref (w.2.2.1 i0)), (2, .int x2), (4, .int x4)]) hx hb dX5_reached_23 rfl hl (by decide) rfl (fun ls hl => ?_)
      refine lv_iinc (v := (x4 + (1 : Int32))) (lv' := [(4, .int (x4 + (1 : Int32))), (3, .int (q2.1 &&& (x2 ^^^ (-1 : Int32)))), (0, .ref (w.2.2.1 i0)), (2, .int x2)]) hx hb dX5_reached_24 hl (k := 3) rfl rfl (by decide) rfl (fun ls hl => ?_)
      refine lv_goto (tgt := 7) hx hb dX5_reached_27 (by decide) ?_
      exact hI7 _ (Option.some.inj hf).symm _ _ ls hG (lv_sub hl [2, 3, 1, 0] rfl)
  unfold f_X5_reached at hf
  refine lv_iconst (v := 1) hx hb dX5_reached_0 (by decide) ?_
  refine lv_iload_n hx hb dX5_reached_1 rfl (lv_at hl 1 rfl) ?_
  refine lv_ishl hx hb dX5_reached_2 ?_
  refine lv_istore_n (lv' := [(3, .int ((1 : Int32) <<< (x1 &&& 31))), (0, .ref (w.2.2.1 i0)), (1, .int x1), (2, .int x2)]) hx hb dX5_reached_3 rfl hl (by decide) rfl (fun ls hl => ?_)
  refine lv_iconst (v := 0) hx hb dX5_reached_4 (by decide) ?_
  refine lv_istore (lv' := [(4, .int (0 : Int32)), (3, .int ((1 : Int32) <<< (x1 &&& 31))), (0, .ref (w.2.2.1 i0)), (1, .int x1), (2, .int x2)]) hx hb dX5_reached_5 hl (by decide) rfl (fun ls hl => ?_)
  exact hJ7 _ _ _ _ _ _ ls hf hG (lv_sub hl [2, 4, 1, 0] rfl)

def b_X5_distance_7 (n : Nat) (i0 : Nat) (x2 : Int32) (q : (Int32 × Int32 × Mem)) : Option ((Int32 × Int32 × Mem) ⊕ (Int32 × Mem)) := match q with
  | (x3, x4, M) => if (8 : Int32) ≤ x4 then (mr (some ((-1 : Int32), M))) else (if ((x3 >>> (x2 &&& 31)) &&& (1 : Int32)) = (1 : Int32) then (mr (some (x4, M))) else (bd (f_X5_spread n i0 x3 M) (fun q3 => some (.inl (q3.1, (x4 + (1 : Int32)), q3.2)))))
def f_X5_distance (n : Nat) (i0 : Nat) (x1 : Int32) (x2 : Int32) (M : Mem) : Option (Int32 × Mem) := gl (b_X5_distance_7 n i0 x2) n (((1 : Int32) <<< (x1 &&& 31)), (0 : Int32), M)
set_option maxHeartbeats 4000000 in
set_option maxRecDepth 100000 in
theorem c_X5_distance (l : Launch) (w : Wd) {Y : (Nat → Prop) → State → Heap → Prop} (hYk : XOK Y) (n : Nat) (i0 : Nat) (hi0 : isSt i0) (x1 : Int32) (x2 : Int32) (M : Mem) (res : Int32 × Mem) (hf : f_X5_distance n i0 x1 x2 M = some res) : CG l w layC 61 (XN Y) yX5_distance cX5_distance 5 (some .int) 1 [.ref (w.2.2.1 i0), .int x1, .int x2] M (GQi w layC 61 res) := by
  refine cg_start (by decide +kernel) (Nat.le_of_ble_eq_true rfl) ?_
  intro p e s m args below meth c F hr hlk hX hG ls hl
  have F : FX w p m c cX5_distance 5 s args RX5 := F
  have hx := F.1.1
  have hb := F.1.2.1
  have hl : lv_has ls 5 [(0, .ref (w.2.2.1 i0)), (1, .int x1), (2, .int x2)] := hl
  have hJ7 : ∀ (x2 : Int32) (x3 : Int32) (x4 : Int32) (M : Mem) (H : Heap) (locs : List Loc) (ls : Array Slot), gl (b_X5_distance_7 n i0 x2) n (x3, x4, M) = some res → GI w layC 61 s.heap M H locs → lv_has ls 5 [(0, .ref (w.2.2.1 i0)), (2, .int x2), (3, .int x3), (4, .int x4)] → W p l e (Rm 1) s m args below meth c H locs 0 0 (MQ below (GQi w layC 61 res s.heap.size) args s 0 0 (gA w.2.2.1 61 s.heap.size)) (F0 m 7 ls []) := by
    intro x2 x3 x4 M H locs ls hf hG hl
    refine gl_run (P := fun (q : (Int32 × Int32 × Mem)) => ∀ (H : Heap) (locs : List Loc) (ls : Array Slot), GI w layC 61 s.heap q.2.2 H locs → lv_has ls 5 [(0, .ref (w.2.2.1 i0)), (2, .int x2), (3, .int q.1), (4, .int q.2.1)] → W p l e (Rm 1) s m args below meth c H locs 0 0 (MQ below (GQi w layC 61 res s.heap.size) args s 0 0 (gA w.2.2.1 61 s.heap.size)) (F0 m 7 ls [])) ?_ n (x3, x4, M) hf H locs ls hG hl
    clear hf hG hl ls locs H M x3 x4
    rintro ⟨x3, x4, M⟩ rr7 hf hI7 hE7 H locs ls hG hl
    try dsimp only at hG hl ⊢
    dsimp only [b_X5_distance_7] at hf
    refine lv_iload hx hb dX5_distance_7 (lv_at hl 3 rfl) ?_
    refine lv_bipush (v := 8) hx hb dX5_distance_9 (by decide) ?_
    refine lv_icmp_ge (tgt := 38) hx hb dX5_distance_11 (by decide) (fun c1 => ?_) (fun c1 => ?_)
    · replace hf := if_t c1 hf
      refine lv_iconst (v := -1) hx hb dX5_distance_38 (by decide) ?_
      replace hf := mr_some hf
      obtain ⟨z7, hf, hz⟩ := hf
      rw [hE7 _ hz] at hf
      exact cg_iret F hr hlk hG hf dX5_distance_39
    · replace hf := if_f c1 hf
      refine lv_iload_n hx hb dX5_distance_14 rfl (lv_at hl 2 rfl) ?_
      refine lv_iload_n hx hb dX5_distance_15 rfl (lv_at hl 1 rfl) ?_
      refine lv_ishr hx hb dX5_distance_16 ?_
      refine lv_iconst (v := 1) hx hb dX5_distance_17 (by decide) ?_
      refine lv_iand hx hb dX5_distance_18 ?_
      refine lv_iconst (v := 1) hx hb dX5_distance_19 (by decide) ?_
      refine lv_icmp_ne (tgt := 26) hx hb dX5_distance_20 (by decide) (fun c2 => ?_) (fun c2 => ?_)
      · replace hf := if_f c2 hf
        refine lv_aload_n hx hb dX5_distance_26 rfl (lv_at hl 0 rfl) ?_
        refine lv_iload_n hx hb dX5_distance_27 rfl (lv_at hl 2 rfl) ?_
        replace hf := bd_some hf
        obtain ⟨q3, eq3, hf⟩ := hf
        refine gx_calli hG (gx_runS (xn_ok hYk) F hX hG (c_X5_spread l w hYk n i0 hi0 x3 _ _ eq3) cs_X5_19 ⟨Nat.le_of_ble_eq_true rfl, Nat.le_of_ble_eq_true rfl⟩ rfl hl.1 rfl (Nat.le_of_ble_eq_true rfl) dX5_distance_28 ⟨Nat.le_refl _, Nat.le_refl _⟩) (fun H locs hG => ?_)
        refine lv_istore_n (lv' := [(3, .int q3.1), (0, .ref (w.2.2.1 i0)), (2, .int x2), (4, .int x4)]) hx hb dX5_distance_31 rfl hl (by decide) rfl (fun ls hl => ?_)
        refine lv_iinc (v := (x4 + (1 : Int32))) (lv' := [(4, .int (x4 + (1 : Int32))), (3, .int q3.1), (0, .ref (w.2.2.1 i0)), (2, .int x2)]) hx hb dX5_distance_32 hl (k := 3) rfl rfl (by decide) rfl (fun ls hl => ?_)
        refine lv_goto (tgt := 7) hx hb dX5_distance_35 (by decide) ?_
        exact hI7 _ (Option.some.inj hf).symm _ _ ls hG (lv_sub hl [2, 3, 1, 0] rfl)
      · replace hf := if_t c2 hf
        refine lv_iload hx hb dX5_distance_23 (lv_at hl 3 rfl) ?_
        replace hf := mr_some hf
        obtain ⟨z7, hf, hz⟩ := hf
        rw [hE7 _ hz] at hf
        exact cg_iret F hr hlk hG hf dX5_distance_25
  unfold f_X5_distance at hf
  refine lv_iconst (v := 1) hx hb dX5_distance_0 (by decide) ?_
  refine lv_iload_n hx hb dX5_distance_1 rfl (lv_at hl 1 rfl) ?_
  refine lv_ishl hx hb dX5_distance_2 ?_
  refine lv_istore_n (lv' := [(3, .int ((1 : Int32) <<< (x1 &&& 31))), (0, .ref (w.2.2.1 i0)), (1, .int x1), (2, .int x2)]) hx hb dX5_distance_3 rfl hl (by decide) rfl (fun ls hl => ?_)
  refine lv_iconst (v := 0) hx hb dX5_distance_4 (by decide) ?_
  refine lv_istore (lv' := [(4, .int (0 : Int32)), (3, .int ((1 : Int32) <<< (x1 &&& 31))), (0, .ref (w.2.2.1 i0)), (1, .int x1), (2, .int x2)]) hx hb dX5_distance_5 hl (by decide) rfl (fun ls hl => ?_)
  exact hJ7 _ _ _ _ _ _ ls hf hG (lv_sub hl [2, 4, 1, 0] rfl)

def j_X5_parts_34 (n : Nat) (i0 : Nat) (x1 : Int32) (x2 : Int32) (x3 : Int32) (M : Mem) : Option ((Int32 × Int32 × Int32 × Mem) ⊕ (Int32 × Mem)) := some (.inl (x1, x2, (x3 + (1 : Int32)), M))
def b_X5_parts_6 (n : Nat) (i0 : Nat) (q : (Int32 × Int32 × Int32 × Mem)) : Option ((Int32 × Int32 × Int32 × Mem) ⊕ (Int32 × Mem)) := match q with
  | (x1, x2, x3, M) => if (gi M i0 7) ≤ x3 then (mr (some (x2, M))) else (if ((x1 >>> (x3 &&& 31)) &&& (1 : Int32)) = 0 then (bd (f_X5_reached n i0 x3 (0 : Int32) M) (fun q3 => j_X5_parts_34 n i0 (x1 ||| q3.1) (x2 + (1 : Int32)) x3 q3.2)) else (j_X5_parts_34 n i0 x1 x2 x3 M))
def f_X5_parts (n : Nat) (i0 : Nat) (M : Mem) : Option (Int32 × Mem) := gl (b_X5_parts_6 n i0) n ((0 : Int32), (0 : Int32), (0 : Int32), M)
set_option maxHeartbeats 4000000 in
set_option maxRecDepth 100000 in
theorem c_X5_parts (l : Launch) (w : Wd) {Y : (Nat → Prop) → State → Heap → Prop} (hYk : XOK Y) (n : Nat) (i0 : Nat) (hi0 : isSt i0) (M : Mem) (res : Int32 × Mem) (hf : f_X5_parts n i0  M = some res) : CG l w layC 61 (XN Y) yX5_parts cX5_parts 4 (some .int) 2 [.ref (w.2.2.1 i0)] M (GQi w layC 61 res) := by
  refine cg_start (by decide +kernel) (Nat.le_of_ble_eq_true rfl) ?_
  intro p e s m args below meth c F hr hlk hX hG ls hl
  have F : FX w p m c cX5_parts 4 s args RX5 := F
  have hx := F.1.1
  have hb := F.1.2.1
  have hl : lv_has ls 4 [(0, .ref (w.2.2.1 i0))] := hl
  have hJ6 : ∀ (x1 : Int32) (x2 : Int32) (x3 : Int32) (M : Mem) (H : Heap) (locs : List Loc) (ls : Array Slot), gl (b_X5_parts_6 n i0 ) n (x1, x2, x3, M) = some res → GI w layC 61 s.heap M H locs → lv_has ls 4 [(0, .ref (w.2.2.1 i0)), (1, .int x1), (2, .int x2), (3, .int x3)] → W p l e (Rm 2) s m args below meth c H locs 0 0 (MQ below (GQi w layC 61 res s.heap.size) args s 0 0 (gA w.2.2.1 61 s.heap.size)) (F0 m 6 ls []) := by
    intro x1 x2 x3 M H locs ls hf hG hl
    refine gl_run (P := fun (q : (Int32 × Int32 × Int32 × Mem)) => ∀ (H : Heap) (locs : List Loc) (ls : Array Slot), GI w layC 61 s.heap q.2.2.2 H locs → lv_has ls 4 [(0, .ref (w.2.2.1 i0)), (1, .int q.1), (2, .int q.2.1), (3, .int q.2.2.1)] → W p l e (Rm 2) s m args below meth c H locs 0 0 (MQ below (GQi w layC 61 res s.heap.size) args s 0 0 (gA w.2.2.1 61 s.heap.size)) (F0 m 6 ls [])) ?_ n (x1, x2, x3, M) hf H locs ls hG hl
    clear hf hG hl ls locs H M x1 x2 x3
    rintro ⟨x1, x2, x3, M⟩ rr6 hf hI6 hE6 H locs ls hG hl
    try dsimp only at hG hl ⊢
    have hJ34 : ∀ (x1 : Int32) (x2 : Int32) (x3 : Int32) (M : Mem) (H : Heap) (locs : List Loc) (ls : Array Slot), j_X5_parts_34 n i0 x1 x2 x3 M = some rr6 → GI w layC 61 s.heap M H locs → lv_has ls 4 [(0, .ref (w.2.2.1 i0)), (1, .int x1), (2, .int x2), (3, .int x3)] → W p l e (Rm 2) s m args below meth c H locs 0 0 (MQ below (GQi w layC 61 res s.heap.size) args s 0 0 (gA w.2.2.1 61 s.heap.size)) (F0 m 34 ls []) := by
      intro x1 x2 x3 M H locs ls hf hG hl
      unfold j_X5_parts_34 at hf
      refine lv_iinc (v := (x3 + (1 : Int32))) (lv' := [(3, .int (x3 + (1 : Int32))), (0, .ref (w.2.2.1 i0)), (1, .int x1), (2, .int x2)]) hx hb dX5_parts_34 hl (k := 3) rfl rfl (by decide) rfl (fun ls hl => ?_)
      refine lv_goto (tgt := 6) hx hb dX5_parts_37 (by decide) ?_
      exact hI6 _ (Option.some.inj hf).symm _ _ ls hG (lv_sub hl [1, 2, 3, 0] rfl)
    dsimp only [b_X5_parts_6] at hf
    refine lv_iload_n hx hb dX5_parts_6 rfl (lv_at hl 3 rfl) ?_
    refine lv_aload_n hx hb dX5_parts_7 rfl (lv_at hl 0 rfl) ?_
    refine g_getI F hG hi0.1 (by decide) (by decide) lk_X5_9 rfl dX5_parts_8 ?_
    refine lv_icmp_ge (tgt := 40) hx hb dX5_parts_11 (by decide) (fun c1 => ?_) (fun c1 => ?_)
    · replace hf := if_t c1 hf
      refine lv_iload_n hx hb dX5_parts_40 rfl (lv_at hl 2 rfl) ?_
      replace hf := mr_some hf
      obtain ⟨z6, hf, hz⟩ := hf
      rw [hE6 _ hz] at hf
      exact cg_iret F hr hlk hG hf dX5_parts_41
    · replace hf := if_f c1 hf
      refine lv_iload_n hx hb dX5_parts_14 rfl (lv_at hl 1 rfl) ?_
      refine lv_iload_n hx hb dX5_parts_15 rfl (lv_at hl 3 rfl) ?_
      refine lv_ishr hx hb dX5_parts_16 ?_
      refine lv_iconst (v := 1) hx hb dX5_parts_17 (by decide) ?_
      refine lv_iand hx hb dX5_parts_18 ?_
      refine lv_if_ne (tgt := 34) hx hb dX5_parts_19 (by decide) (fun c2 => ?_) (fun c2 => ?_)
      · replace hf := if_f c2 hf
        exact hJ34 _ _ _ _ _ _ ls hf hG (lv_sub hl [0, 1, 2, 3] rfl)
      · replace hf := if_t c2 hf
        refine lv_iload_n hx hb dX5_parts_22 rfl (lv_at hl 1 rfl) ?_
        refine lv_aload_n hx hb dX5_parts_23 rfl (lv_at hl 0 rfl) ?_
        refine lv_iload_n hx hb dX5_parts_24 rfl (lv_at hl 3 rfl) ?_
        refine lv_iconst (v := 0) hx hb dX5_parts_25 (by decide) ?_
        replace hf := bd_some hf
        obtain ⟨q3, eq3, hf⟩ := hf
        refine gx_calli hG (gx_runS (xn_ok hYk) F hX hG (c_X5_reached l w hYk n i0 hi0 x3 (0 : Int32) _ _ eq3) cs_X5_25 ⟨Nat.le_of_ble_eq_true rfl, Nat.le_of_ble_eq_true rfl⟩ rfl hl.1 rfl (Nat.le_of_ble_eq_true rfl) dX5_parts_26 ⟨Nat.le_refl _, Nat.le_refl _⟩) (fun H locs hG => ?_)
        refine lv_ior hx hb dX5_parts_29 ?_
        refine lv_istore_n (lv' := [(1, .int (x1 ||| q3.1)), (0, .ref (w.2.2.1 i0)), (2, .int x2), (3, .int x3)]) hx hb dX5_parts_30 rfl hl (by decide) rfl (fun ls hl => ?_)
        refine lv_iinc (v := (x2 + (1 : Int32))) (lv' := [(2, .int (x2 + (1 : Int32))), (1, .int (x1 ||| q3.1)), (0, .ref (w.2.2.1 i0)), (3, .int x3)]) hx hb dX5_parts_31 hl (k := 2) rfl rfl (by decide) rfl (fun ls hl => ?_)
        exact hJ34 _ _ _ _ _ _ ls hf hG (lv_sub hl [2, 1, 0, 3] rfl)
  unfold f_X5_parts at hf
  refine lv_iconst (v := 0) hx hb dX5_parts_0 (by decide) ?_
  refine lv_istore_n (lv' := [(1, .int (0 : Int32)), (0, .ref (w.2.2.1 i0))]) hx hb dX5_parts_1 rfl hl (by decide) rfl (fun ls hl => ?_)
  refine lv_iconst (v := 0) hx hb dX5_parts_2 (by decide) ?_
  refine lv_istore_n (lv' := [(2, .int (0 : Int32)), (1, .int (0 : Int32)), (0, .ref (w.2.2.1 i0))]) hx hb dX5_parts_3 rfl hl (by decide) rfl (fun ls hl => ?_)
  refine lv_iconst (v := 0) hx hb dX5_parts_4 (by decide) ?_
  refine lv_istore_n (lv' := [(3, .int (0 : Int32)), (2, .int (0 : Int32)), (1, .int (0 : Int32)), (0, .ref (w.2.2.1 i0))]) hx hb dX5_parts_5 rfl hl (by decide) rfl (fun ls hl => ?_)
  exact hJ6 _ _ _ _ _ _ ls hf hG (lv_sub hl [3, 2, 1, 0] rfl)

def j_X5_leastCut_99 (n : Nat) (i0 : Nat) (x1 : Int32) (x2 : Int32) (x3 : Int32) (x4 : Int32) (x5 : Int32) (x6 : Int32) (M : Mem) : Option ((Int32 × Int32 × Int32 × Mem) ⊕ (Int32 × Mem)) := some (.inl (x4, x5, (x6 + (1 : Int32)), M))
def j_X5_leastCut_67 (n : Nat) (i0 : Nat) (t0 : Int32) (x1 : Int32) (x2 : Int32) (x3 : Int32) (x4 : Int32) (x5 : Int32) (x6 : Int32) (M : Mem) : Option ((Int32 × Int32 × Int32 × Mem) ⊕ (Int32 × Mem)) := if t0 = 0 then (j_X5_leastCut_99 n i0 x1 x2 x3 x4 x5 x6 M) else (bd (f_X5_reached n i0 x1 x6 M) (fun q2 => if ((q2.1 >>> (x2 &&& 31)) &&& (1 : Int32)) = 0 then (bd (f_J6_bitCount_0f7a4 n  x6 q2.2) (fun q4 => j_X5_leastCut_99 n i0 x1 x2 x3 x6 q4.1 x6 q4.2)) else (j_X5_leastCut_99 n i0 x1 x2 x3 x4 x5 x6 q2.2)))
def j_X5_leastCut_66 (n : Nat) (i0 : Nat) (x1 : Int32) (x2 : Int32) (x3 : Int32) (x4 : Int32) (x5 : Int32) (x6 : Int32) (M : Mem) : Option ((Int32 × Int32 × Int32 × Mem) ⊕ (Int32 × Mem)) := j_X5_leastCut_67 n i0 (0 : Int32) x1 x2 x3 x4 x5 x6 M
def b_X5_leastCut_34 (n : Nat) (i0 : Nat) (x1 : Int32) (x2 : Int32) (x3 : Int32) (q : (Int32 × Int32 × Int32 × Mem)) : Option ((Int32 × Int32 × Int32 × Mem) ⊕ (Int32 × Mem)) := match q with
  | (x4, x5, x6, M) => if ((1 : Int32) <<< ((gi M i0 7) &&& 31)) ≤ x6 then (mr (some (x4, M))) else (if (x6 &&& x3) = 0 then (bd (f_J6_bitCount_0f7a4 n  x6 M) (fun q7 => if x5 ≤ q7.1 then (j_X5_leastCut_66 n i0 x1 x2 x3 x4 x5 x6 q7.2) else (j_X5_leastCut_67 n i0 (1 : Int32) x1 x2 x3 x4 x5 x6 q7.2))) else (j_X5_leastCut_66 n i0 x1 x2 x3 x4 x5 x6 M))
def f_X5_leastCut (n : Nat) (i0 : Nat) (x1 : Int32) (x2 : Int32) (M : Mem) : Option (Int32 × Mem) := if x1 = x2 then (some ((-1 : Int32), M)) else (bd (f_X4_isStreet n i0 x1 x2 M) (fun q10 => if q10.1 = 0 then (gl (b_X5_leastCut_34 n i0 x1 x2 (((1 : Int32) <<< (x1 &&& 31)) ||| ((1 : Int32) <<< (x2 &&& 31)))) n ((-1 : Int32), (9 : Int32), (0 : Int32), q10.2)) else (some ((-1 : Int32), q10.2))))
set_option maxHeartbeats 4000000 in
set_option maxRecDepth 100000 in
theorem c_X5_leastCut (l : Launch) (w : Wd) {Y : (Nat → Prop) → State → Heap → Prop} (hYk : XOK Y) (n : Nat) (i0 : Nat) (hi0 : isSt i0) (x1 : Int32) (x2 : Int32) (M : Mem) (res : Int32 × Mem) (hf : f_X5_leastCut n i0 x1 x2 M = some res) : CG l w layC 61 (XN Y) yX5_leastCut cX5_leastCut 8 (some .int) 2 [.ref (w.2.2.1 i0), .int x1, .int x2] M (GQi w layC 61 res) := by
  refine cg_start (by decide +kernel) (Nat.le_of_ble_eq_true rfl) ?_
  intro p e s m args below meth c F hr hlk hX hG ls hl
  have F : FX w p m c cX5_leastCut 8 s args RX5 := F
  have hx := F.1.1
  have hb := F.1.2.1
  have hl : lv_has ls 8 [(0, .ref (w.2.2.1 i0)), (1, .int x1), (2, .int x2)] := hl
  have hJ34 : ∀ (x1 : Int32) (x2 : Int32) (x3 : Int32) (x4 : Int32) (x5 : Int32) (x6 : Int32) (M : Mem) (H : Heap) (locs : List Loc) (ls : Array Slot), gl (b_X5_leastCut_34 n i0 x1 x2 x3) n (x4, x5, x6, M) = some res → GI w layC 61 s.heap M H locs → lv_has ls 8 [(0, .ref (w.2.2.1 i0)), (1, .int x1), (2, .int x2), (3, .int x3), (4, .int x4), (5, .int x5), (6, .int x6)] → W p l e (Rm 2) s m args below meth c H locs 0 0 (MQ below (GQi w layC 61 res s.heap.size) args s 0 0 (gA w.2.2.1 61 s.heap.size)) (F0 m 34 ls []) := by
    intro x1 x2 x3 x4 x5 x6 M H locs ls hf hG hl
    refine gl_run (P := fun (q : (Int32 × Int32 × Int32 × Mem)) => ∀ (H : Heap) (locs : List Loc) (ls : Array Slot), GI w layC 61 s.heap q.2.2.2 H locs → lv_has ls 8 [(0, .ref (w.2.2.1 i0)), (1, .int x1), (2, .int x2), (3, .int x3), (4, .int q.1), (5, .int q.2.1), (6, .int q.2.2.1)] → W p l e (Rm 2) s m args below meth c H locs 0 0 (MQ below (GQi w layC 61 res s.heap.size) args s 0 0 (gA w.2.2.1 61 s.heap.size)) (F0 m 34 ls [])) ?_ n (x4, x5, x6, M) hf H locs ls hG hl
    clear hf hG hl ls locs H M x4 x5 x6
    rintro ⟨x4, x5, x6, M⟩ rr34 hf hI34 hE34 H locs ls hG hl
    try dsimp only at hG hl ⊢
    have hJ99 : ∀ (x4 : Int32) (x5 : Int32) (x6 : Int32) (M : Mem) (H : Heap) (locs : List Loc) (ls : Array Slot), j_X5_leastCut_99 n i0 x1 x2 x3 x4 x5 x6 M = some rr34 → GI w layC 61 s.heap M H locs → lv_has ls 8 [(0, .ref (w.2.2.1 i0)), (1, .int x1), (2, .int x2), (3, .int x3), (4, .int x4), (5, .int x5), (6, .int x6)] → W p l e (Rm 2) s m args below meth c H locs 0 0 (MQ below (GQi w layC 61 res s.heap.size) args s 0 0 (gA w.2.2.1 61 s.heap.size)) (F0 m 99 ls []) := by
      intro x4 x5 x6 M H locs ls hf hG hl
      unfold j_X5_leastCut_99 at hf
      refine lv_iinc (v := (x6 + (1 : Int32))) (lv' := [(6, .int (x6 + (1 : Int32))), (0, .ref (w.2.2.1 i0)), (1, .int x1), (2, .int x2), (3, .int x3), (4, .int x4), (5, .int x5)]) hx hb dX5_leastCut_99 hl (k := 6) rfl rfl (by decide) rfl (fun ls hl => ?_)
      refine lv_goto (tgt := 34) hx hb dX5_leastCut_102 (by decide) ?_
      exact hI34 _ (Option.some.inj hf).symm _ _ ls hG (lv_sub hl [1, 2, 3, 4, 5, 6, 0] rfl)
    have hJ67 : ∀ (t0 : Int32) (x4 : Int32) (x5 : Int32) (x6 : Int32) (M : Mem) (H : Heap) (locs : List Loc) (ls : Array Slot), j_X5_leastCut_67 n i0 t0 x1 x2 x3 x4 x5 x6 M = some rr34 → GI w layC 61 s.heap M H locs → lv_has ls 8 [(0, .ref (w.2.2.1 i0)), (1, .int x1), (2, .int x2), (3, .int x3), (4, .int x4), (5, .int x5), (6, .int x6)] → W p l e (Rm 2) s m args below meth c H locs 0 0 (MQ below (GQi w layC 61 res s.heap.size) args s 0 0 (gA w.2.2.1 61 s.heap.size)) (F0 m 67 ls [.int t0]) := by
      intro t0 x4 x5 x6 M H locs ls hf hG hl
      unfold j_X5_leastCut_67 at hf
      refine lv_istore (lv' := [(7, .int t0), (0, .ref (w.2.2.1 i0)), (1, .int x1), (2, .int x2), (3, .int x3), (4, .int x4), (5, .int x5), (6, .int x6)]) hx hb dX5_leastCut_67 hl (by decide) rfl (fun ls hl => ?_)
      refine lv_iload hx hb dX5_leastCut_69 (lv_at hl 0 rfl) ?_
      refine lv_if_eq (tgt := 99) hx hb dX5_leastCut_71 (by decide) (fun c1 => ?_) (fun c1 => ?_)
      · replace hf := if_t c1 hf
        exact hJ99 _ _ _ _ _ _ ls hf hG (lv_sub hl [1, 2, 3, 4, 5, 6, 7] rfl)
      · replace hf := if_f c1 hf
        refine lv_aload_n hx hb dX5_leastCut_74 rfl (lv_at hl 1 rfl) ?_
        refine lv_iload_n hx hb dX5_leastCut_75 rfl (lv_at hl 2 rfl) ?_
        refine lv_iload hx hb dX5_leastCut_76 (lv_at hl 7 rfl) ?_
        replace hf := bd_some hf
        obtain ⟨q2, eq2, hf⟩ := hf
        refine gx_calli hG (gx_runS (xn_ok hYk) F hX hG (c_X5_reached l w hYk n i0 hi0 x1 x6 _ _ eq2) cs_X5_25 ⟨Nat.le_of_ble_eq_true rfl, Nat.le_of_ble_eq_true rfl⟩ rfl hl.1 rfl (Nat.le_of_ble_eq_true rfl) dX5_leastCut_78 ⟨Nat.le_refl _, Nat.le_refl _⟩) (fun H locs hG => ?_)
        refine lv_iload_n hx hb dX5_leastCut_81 rfl (lv_at hl 3 rfl) ?_
        refine lv_ishr hx hb dX5_leastCut_82 ?_
        refine lv_iconst (v := 1) hx hb dX5_leastCut_83 (by decide) ?_
        refine lv_iand hx hb dX5_leastCut_84 ?_
        refine lv_if_ne (tgt := 99) hx hb dX5_leastCut_85 (by decide) (fun c3 => ?_) (fun c3 => ?_)
        · replace hf := if_f c3 hf
          exact hJ99 _ _ _ _ _ _ ls hf hG (lv_sub hl [1, 2, 3, 4, 5, 6, 7] rfl)
        · replace hf := if_t c3 hf
          refine lv_iload hx hb dX5_leastCut_88 (lv_at hl 7 rfl) ?_
          replace hf := bd_some hf
          obtain ⟨q4, eq4, hf⟩ := hf
          refine gx_calli hG (gx_runS (xn_ok hYk) F hX hG (c_J6_bitCount_0f7a4 l w hYk n  x6 _ _ eq4) cs_X5_33 ⟨Nat.le_of_ble_eq_true rfl, Nat.le_of_ble_eq_true rfl⟩ rfl hl.1 rfl (Nat.le_of_ble_eq_true rfl) dX5_leastCut_90 ⟨Nat.le_refl _, Nat.le_refl _⟩) (fun H locs hG => ?_)
          refine lv_istore (lv' := [(5, .int q4.1), (7, .int t0), (0, .ref (w.2.2.1 i0)), (1, .int x1), (2, .int x2), (3, .int x3), (4, .int x4), (6, .int x6)]) hx hb dX5_leastCut_93 hl (by decide) rfl (fun ls hl => ?_)
          refine lv_iload hx hb dX5_leastCut_95 (lv_at hl 7 rfl) ?_
          refine lv_istore (lv' := [(4, .int x6), (5, .int q4.1), (7, .int t0), (0, .ref (w.2.2.1 i0)), (1, .int x1), (2, .int x2), (3, .int x3), (6, .int x6)]) hx hb dX5_leastCut_97 hl (by decide) rfl (fun ls hl => ?_)
          exact hJ99 _ _ _ _ _ _ ls hf hG (lv_sub hl [3, 4, 5, 6, 0, 1, 7] rfl)
    have hJ66 : ∀ (x4 : Int32) (x5 : Int32) (x6 : Int32) (M : Mem) (H : Heap) (locs : List Loc) (ls : Array Slot), j_X5_leastCut_66 n i0 x1 x2 x3 x4 x5 x6 M = some rr34 → GI w layC 61 s.heap M H locs → lv_has ls 8 [(0, .ref (w.2.2.1 i0)), (1, .int x1), (2, .int x2), (3, .int x3), (4, .int x4), (5, .int x5), (6, .int x6)] → W p l e (Rm 2) s m args below meth c H locs 0 0 (MQ below (GQi w layC 61 res s.heap.size) args s 0 0 (gA w.2.2.1 61 s.heap.size)) (F0 m 66 ls []) := by
      intro x4 x5 x6 M H locs ls hf hG hl
      unfold j_X5_leastCut_66 at hf
      refine lv_iconst (v := 0) hx hb dX5_leastCut_66 (by decide) ?_
      exact hJ67 _ _ _ _ _ _ _ ls hf hG (lv_sub hl [0, 1, 2, 3, 4, 5, 6] rfl)
    dsimp only [b_X5_leastCut_34] at hf
    refine lv_iload hx hb dX5_leastCut_34 (lv_at hl 6 rfl) ?_
    refine lv_iconst (v := 1) hx hb dX5_leastCut_36 (by decide) ?_
    refine lv_aload_n hx hb dX5_leastCut_37 rfl (lv_at hl 0 rfl) ?_
    refine g_getI F hG hi0.1 (by decide) (by decide) lk_X5_9 rfl dX5_leastCut_38 ?_
    refine lv_ishl hx hb dX5_leastCut_41 ?_
    refine lv_icmp_ge (tgt := 105) hx hb dX5_leastCut_42 (by decide) (fun c5 => ?_) (fun c5 => ?_)
    · replace hf := if_t c5 hf
      refine lv_iload hx hb dX5_leastCut_105 (lv_at hl 4 rfl) ?_
      replace hf := mr_some hf
      obtain ⟨z34, hf, hz⟩ := hf
      rw [hE34 _ hz] at hf
      exact cg_iret F hr hlk hG hf dX5_leastCut_107
    · replace hf := if_f c5 hf
      refine lv_iload hx hb dX5_leastCut_45 (lv_at hl 6 rfl) ?_
      refine lv_iload_n hx hb dX5_leastCut_47 rfl (lv_at hl 3 rfl) ?_
      refine lv_iand hx hb dX5_leastCut_48 ?_
      refine lv_if_ne (tgt := 66) hx hb dX5_leastCut_49 (by decide) (fun c6 => ?_) (fun c6 => ?_)
      · replace hf := if_f c6 hf
        exact hJ66 _ _ _ _ _ _ ls hf hG (lv_sub hl [0, 1, 2, 3, 4, 5, 6] rfl)
      · replace hf := if_t c6 hf
        refine lv_iload hx hb dX5_leastCut_52 (lv_at hl 6 rfl) ?_
        replace hf := bd_some hf
        obtain ⟨q7, eq7, hf⟩ := hf
        refine gx_calli hG (gx_runS (xn_ok hYk) F hX hG (c_J6_bitCount_0f7a4 l w hYk n  x6 _ _ eq7) cs_X5_33 ⟨Nat.le_of_ble_eq_true rfl, Nat.le_of_ble_eq_true rfl⟩ rfl hl.1 rfl (Nat.le_of_ble_eq_true rfl) dX5_leastCut_54 ⟨Nat.le_refl _, Nat.le_refl _⟩) (fun H locs hG => ?_)
        refine lv_iload hx hb dX5_leastCut_57 (lv_at hl 5 rfl) ?_
        refine lv_icmp_ge (tgt := 66) hx hb dX5_leastCut_59 (by decide) (fun c8 => ?_) (fun c8 => ?_)
        · replace hf := if_t c8 hf
          exact hJ66 _ _ _ _ _ _ ls hf hG (lv_sub hl [0, 1, 2, 3, 4, 5, 6] rfl)
        · replace hf := if_f c8 hf
          refine lv_iconst (v := 1) hx hb dX5_leastCut_62 (by decide) ?_
          refine lv_goto (tgt := 67) hx hb dX5_leastCut_63 (by decide) ?_
          exact hJ67 _ _ _ _ _ _ _ ls hf hG (lv_sub hl [0, 1, 2, 3, 4, 5, 6] rfl)
  unfold f_X5_leastCut at hf
  refine lv_iload_n hx hb dX5_leastCut_0 rfl (lv_at hl 1 rfl) ?_
  refine lv_iload_n hx hb dX5_leastCut_1 rfl (lv_at hl 2 rfl) ?_
  refine lv_icmp_eq (tgt := 14) hx hb dX5_leastCut_2 (by decide) (fun c9 => ?_) (fun c9 => ?_)
  · replace hf := if_t c9 hf
    refine lv_iconst (v := -1) hx hb dX5_leastCut_14 (by decide) ?_
    exact cg_iret F hr hlk hG hf dX5_leastCut_15
  · replace hf := if_f c9 hf
    refine lv_aload_n hx hb dX5_leastCut_5 rfl (lv_at hl 0 rfl) ?_
    refine lv_iload_n hx hb dX5_leastCut_6 rfl (lv_at hl 1 rfl) ?_
    refine lv_iload_n hx hb dX5_leastCut_7 rfl (lv_at hl 2 rfl) ?_
    replace hf := bd_some hf
    obtain ⟨q10, eq10, hf⟩ := hf
    refine gx_calli hG (gx_runV (xn_ok hYk) F hX hG (c_X4_isStreet l w hYk n i0 hi0 x1 x2 _ _ eq10) cv_X5_29 ⟨Nat.le_of_ble_eq_true rfl, Nat.le_of_ble_eq_true rfl⟩ (g_recv F hG hi0.1 (by decide) rfl) rfl hl.1 rfl (Nat.le_of_ble_eq_true rfl) dX5_leastCut_8 ⟨Nat.le_refl _, Nat.le_refl _⟩) (fun H locs hG => ?_)
    refine lv_if_eq (tgt := 16) hx hb dX5_leastCut_11 (by decide) (fun c11 => ?_) (fun c11 => ?_)
    · replace hf := if_t c11 hf
      refine lv_iconst (v := 1) hx hb dX5_leastCut_16 (by decide) ?_
      refine lv_iload_n hx hb dX5_leastCut_17 rfl (lv_at hl 1 rfl) ?_
      refine lv_ishl hx hb dX5_leastCut_18 ?_
      refine lv_iconst (v := 1) hx hb dX5_leastCut_19 (by decide) ?_
      refine lv_iload_n hx hb dX5_leastCut_20 rfl (lv_at hl 2 rfl) ?_
      refine lv_ishl hx hb dX5_leastCut_21 ?_
      refine lv_ior hx hb dX5_leastCut_22 ?_
      refine lv_istore_n (lv' := [(3, .int (((1 : Int32) <<< (x1 &&& 31)) ||| ((1 : Int32) <<< (x2 &&& 31)))), (0, .ref (w.2.2.1 i0)), (1, .int x1), (2, .int x2)]) hx hb dX5_leastCut_23 rfl hl (by decide) rfl (fun ls hl => ?_)
      refine lv_iconst (v := -1) hx hb dX5_leastCut_24 (by decide) ?_
      refine lv_istore (lv' := [(4, .int (-1 : Int32)), (3, .int (((1 : Int32) <<< (x1 &&& 31)) ||| ((1 : Int32) <<< (x2 &&& 31)))), (0, .ref (w.2.2.1 i0)), (1, .int x1), (2, .int x2)]) hx hb dX5_leastCut_25 hl (by decide) rfl (fun ls hl => ?_)
      refine lv_bipush (v := 9) hx hb dX5_leastCut_27 (by decide) ?_
      refine lv_istore (lv' := [(5, .int (9 : Int32)), (4, .int (-1 : Int32)), (3, .int (((1 : Int32) <<< (x1 &&& 31)) ||| ((1 : Int32) <<< (x2 &&& 31)))), (0, .ref (w.2.2.1 i0)), (1, .int x1), (2, .int x2)]) hx hb dX5_leastCut_29 hl (by decide) rfl (fun ls hl => ?_)
      refine lv_iconst (v := 0) hx hb dX5_leastCut_31 (by decide) ?_
      refine lv_istore (lv' := [(6, .int (0 : Int32)), (5, .int (9 : Int32)), (4, .int (-1 : Int32)), (3, .int (((1 : Int32) <<< (x1 &&& 31)) ||| ((1 : Int32) <<< (x2 &&& 31)))), (0, .ref (w.2.2.1 i0)), (1, .int x1), (2, .int x2)]) hx hb dX5_leastCut_32 hl (by decide) rfl (fun ls hl => ?_)
      exact hJ34 _ _ _ _ _ _ _ _ _ ls hf hG (lv_sub hl [4, 5, 6, 3, 2, 1, 0] rfl)
    · replace hf := if_f c11 hf
      refine lv_iconst (v := -1) hx hb dX5_leastCut_14 (by decide) ?_
      exact cg_iret F hr hlk hG hf dX5_leastCut_15

def f_X6_clear (n : Nat) (j : Nat) (M : Mem) : Option (Mem) := bd (f_J7_fill_53178 n 3 (j + 3) (-1 : Int32) M) (fun q1 => bd (f_J7_fill_53178 n 3 (j + 4) (-1 : Int32) q1) (fun q2 => some (si (si (si (si q2 j 6 (0 : Int32)) j 7 (0 : Int32)) j 8 (9 : Int32)) j 9 (10 : Int32))))
set_option maxHeartbeats 4000000 in
set_option maxRecDepth 100000 in
theorem c_X6_clear (l : Launch) (w : Wd) {Y : (Nat → Prop) → State → Heap → Prop} (hYk : XOK Y) (n : Nat) (j : Nat) (hj : isTw j) (M : Mem) (res : Mem) (hf : f_X6_clear n j  M = some res) : CG l w layC 61 (XN Y) yX6_clear cX6_clear 1 none 1 [.ref (w.2.2.1 j)] M (GQv w layC 61 res) := by
  refine cg_start (by decide +kernel) (Nat.le_of_ble_eq_true rfl) ?_
  intro p e s m args below meth c F hr hlk hX hG ls hl
  have F : FX w p m c cX6_clear 1 s args RX6 := F
  have hx := F.1.1
  have hb := F.1.2.1
  have hl : lv_has ls 1 [(0, .ref (w.2.2.1 j))] := hl
  unfold f_X6_clear at hf
  refine lv_aload_n hx hb dX6_clear_0 rfl (lv_at hl 0 rfl) ?_
  refine g_getR F hG (j + 3) hj.1 (by decide) (by decide) lk_X6_18 rfl dX6_clear_1 ?_
  refine lv_iconst (v := -1) hx hb dX6_clear_4 (by decide) ?_
  replace hf := bd_some hf
  obtain ⟨q1, eq1, hf⟩ := hf
  refine gx_callv hG (gx_runS (xn_ok hYk) F hX hG (c_J7_fill_53178 l w hYk n 3 (j + 3) hj.2.2.2.1 (-1 : Int32) _ _ eq1) cs_X6_43 ⟨Nat.le_of_ble_eq_true rfl, Nat.le_of_ble_eq_true rfl⟩ rfl hl.1 rfl (Nat.le_of_ble_eq_true rfl) dX6_clear_5 ⟨Nat.le_refl _, Nat.le_refl _⟩) (fun H locs hG => ?_)
  refine lv_aload_n hx hb dX6_clear_8 rfl (lv_at hl 0 rfl) ?_
  refine g_getR F hG (j + 4) hj.1 (by decide) (by decide) lk_X6_21 rfl dX6_clear_9 ?_
  refine lv_iconst (v := -1) hx hb dX6_clear_12 (by decide) ?_
  replace hf := bd_some hf
  obtain ⟨q2, eq2, hf⟩ := hf
  refine gx_callv hG (gx_runS (xn_ok hYk) F hX hG (c_J7_fill_53178 l w hYk n 3 (j + 4) hj.2.2.2.2.1 (-1 : Int32) _ _ eq2) cs_X6_43 ⟨Nat.le_of_ble_eq_true rfl, Nat.le_of_ble_eq_true rfl⟩ rfl hl.1 rfl (Nat.le_of_ble_eq_true rfl) dX6_clear_13 ⟨Nat.le_refl _, Nat.le_refl _⟩) (fun H locs hG => ?_)
  refine lv_aload_n hx hb dX6_clear_16 rfl (lv_at hl 0 rfl) ?_
  refine lv_iconst (v := 0) hx hb dX6_clear_17 (by decide) ?_
  refine g_putI F hG hj.1 (by decide) (by decide) lkv_X6_30 rfl rfl rfl dX6_clear_18 (fun H locs hG => ?_)
  refine lv_aload_n hx hb dX6_clear_21 rfl (lv_at hl 0 rfl) ?_
  refine lv_iconst (v := 0) hx hb dX6_clear_22 (by decide) ?_
  refine g_putI F hG hj.1 (by decide) (by decide) lkv_X6_34 rfl rfl rfl dX6_clear_23 (fun H locs hG => ?_)
  refine lv_aload_n hx hb dX6_clear_26 rfl (lv_at hl 0 rfl) ?_
  refine lv_bipush (v := 9) hx hb dX6_clear_27 (by decide) ?_
  refine g_putI F hG hj.1 (by decide) (by decide) lkv_X6_37 rfl rfl rfl dX6_clear_29 (fun H locs hG => ?_)
  refine lv_aload_n hx hb dX6_clear_32 rfl (lv_at hl 0 rfl) ?_
  refine lv_bipush (v := 10) hx hb dX6_clear_33 (by decide) ?_
  refine g_putI F hG hj.1 (by decide) (by decide) lkv_X6_40 rfl rfl rfl dX6_clear_35 (fun H locs hG => ?_)
  exact cg_vret F hr hlk hG hf dX6_clear_38

def f_X6_beginRule (n : Nat) (j : Nat) (x1 : Int32) (M : Mem) : Option (Mem) := ck (inb x1 3) (ck (inb x1 3) (some (si (si M (j + 3) x1.toNatClampNeg (gi M j 6)) (j + 4) x1.toNatClampNeg (gi (si M (j + 3) x1.toNatClampNeg (gi M j 6)) j 6))))
set_option maxHeartbeats 4000000 in
set_option maxRecDepth 100000 in
theorem c_X6_beginRule (l : Launch) (w : Wd) {Y : (Nat → Prop) → State → Heap → Prop} (hYk : XOK Y) (n : Nat) (j : Nat) (hj : isTw j) (x1 : Int32) (M : Mem) (res : Mem) (hf : f_X6_beginRule n j x1 M = some res) : CG l w layC 61 (XN Y) yX6_beginRule cX6_beginRule 2 none 0 [.ref (w.2.2.1 j), .int x1] M (GQv w layC 61 res) := by
  refine cg_start (by decide +kernel) (Nat.le_of_ble_eq_true rfl) ?_
  intro p e s m args below meth c F hr hlk hX hG ls hl
  have F : FX w p m c cX6_beginRule 2 s args RX6 := F
  have hx := F.1.1
  have hb := F.1.2.1
  have hl : lv_has ls 2 [(0, .ref (w.2.2.1 j)), (1, .int x1)] := hl
  unfold f_X6_beginRule at hf
  refine lv_aload_n hx hb dX6_beginRule_0 rfl (lv_at hl 0 rfl) ?_
  refine g_getR F hG (j + 3) hj.1 (by decide) (by decide) lk_X6_18 rfl dX6_beginRule_1 ?_
  refine lv_iload_n hx hb dX6_beginRule_4 rfl (lv_at hl 1 rfl) ?_
  refine lv_aload_n hx hb dX6_beginRule_5 rfl (lv_at hl 0 rfl) ?_
  refine g_getI F hG hj.1 (by decide) (by decide) lk_X6_30 rfl dX6_beginRule_6 ?_
  replace hf := ck_some hf
  obtain ⟨k1, hf⟩ := hf
  refine g_iast F hG hj.2.2.2.1 k1 dX6_beginRule_9 (fun H locs hG => ?_)
  refine lv_aload_n hx hb dX6_beginRule_10 rfl (lv_at hl 0 rfl) ?_
  refine g_getR F hG (j + 4) hj.1 (by decide) (by decide) lk_X6_21 rfl dX6_beginRule_11 ?_
  refine lv_iload_n hx hb dX6_beginRule_14 rfl (lv_at hl 1 rfl) ?_
  refine lv_aload_n hx hb dX6_beginRule_15 rfl (lv_at hl 0 rfl) ?_
  refine g_getI F hG hj.1 (by decide) (by decide) lk_X6_30 rfl dX6_beginRule_16 ?_
  replace hf := ck_some hf
  obtain ⟨k2, hf⟩ := hf
  refine g_iast F hG hj.2.2.2.2.1 k2 dX6_beginRule_19 (fun H locs hG => ?_)
  exact cg_vret F hr hlk hG hf dX6_beginRule_20
