def j_X9_heavy_88 (n : Nat) (x1 : Int32) (x2 : Int32) (x3 : Int32) (M : Mem) : Option (Int32 × Mem) := if x1 = 0 then (some (x2, M)) else (some (x3, M))
def j_X9_heavy_82 (n : Nat) (x1 : Int32) (x2 : Int32) (x3 : Int32) (x4 : Int32) (M : Mem) : Option ((Int32 × Int32 × Int32 × Mem) ⊕ (Int32 × Mem)) := some (.inl (x2, x3, (x4 + (1 : Int32)), M))
def b_X9_heavy_45 (n : Nat) (x1 : Int32) (q : (Int32 × Int32 × Int32 × Mem)) : Option ((Int32 × Int32 × Int32 × Mem) ⊕ (Int32 × Mem)) := match q with
  | (x2, x3, x4, M) => if ((10 : Int32) * (gi M 12 (3 : Int32).toNatClampNeg)) ≤ x4 then (mr (j_X9_heavy_88 n  x1 x2 x3 M)) else (bd (f_X9_isGuess n  x4 M) (fun q3 => if q3.1 = 0 then (j_X9_heavy_82 n  x1 x2 x3 x4 q3.2) else (if x3 = (-1 : Int32) then (j_X9_heavy_82 n  x1 (x2 + (1 : Int32)) x4 x4 q3.2) else (j_X9_heavy_82 n  x1 (x2 + (1 : Int32)) x3 x4 q3.2))))
def f_X9_heavy (n : Nat) (x1 : Int32) (M : Mem) : Option (Int32 × Mem) := bd (f_X9_isWhat n  x1 (2 : Int32) (si M 0 0 (0 : Int32))) (fun q6 => if q6.1 = 0 then (some ((0 : Int32), q6.2)) else (if x1 = (2 : Int32) then (bd (f_X9_tries n   q6.2) (fun q9 => bd (f_X9_isSeen n   q9) (fun q10 => if q10.1 = 0 then (some ((0 : Int32), q10.2)) else (some ((1 : Int32), q10.2))))) else (gl (b_X9_heavy_45 n  x1) n ((0 : Int32), (-1 : Int32), (0 : Int32), q6.2))))
set_option maxHeartbeats 4000000 in
set_option maxRecDepth 100000 in
theorem c_X9_heavy (l : Launch) (w : Wd) {X : (Nat → Prop) → State → Heap → Prop} (hXk : XOK X) (n : Nat) (x1 : Int32) (M : Mem) (res : Int32 × Mem) (hf : f_X9_heavy n  x1 M = some res) : CG l w layM 24 X yX9_heavy cX9_heavy 5 (some .int) 6 [.ref (w.2.2.1 0), .int x1] M (GQi w layM 24 res) := by
  refine cg_start (by decide +kernel) (Nat.le_of_ble_eq_true rfl) ?_
  intro p e s m args below meth c F hr hlk hX hG ls hl
  have F : FX w p m c cX9_heavy 5 s args RX9 := F
  have hx := F.1.1
  have hb := F.1.2.1
  have hl : lv_has ls 5 [(0, .ref (w.2.2.1 0)), (1, .int x1)] := hl
  have hJ88 : ∀ (x1 : Int32) (x2 : Int32) (x3 : Int32) (M : Mem) (H : Heap) (locs : List Loc) (ls : Array Slot), j_X9_heavy_88 n  x1 x2 x3 M = some res → GI w layM 24 s.heap M H locs → lv_has ls 5 [(1, .int x1), (2, .int x2), (3, .int x3)] → W p l e (Rm 6) s m args below meth c H locs 0 0 (MQ below (GQi w layM 24 res s.heap.size) args s 0 0 (gA w.2.2.1 24 s.heap.size)) (F0 m 88 ls []) := by
    intro x1 x2 x3 M H locs ls hf hG hl
    unfold j_X9_heavy_88 at hf
    refine lv_iload_n hx hb dX9_heavy_88 rfl (lv_at hl 0 rfl) ?_
    refine lv_if_ne (tgt := 96) hx hb dX9_heavy_89 (by decide) (fun c1 => ?_) (fun c1 => ?_)
    · replace hf := if_f c1 hf
      refine lv_iload_n hx hb dX9_heavy_96 rfl (lv_at hl 2 rfl) ?_
      exact cg_iret F hr hlk hG hf dX9_heavy_97
    · replace hf := if_t c1 hf
      refine lv_iload_n hx hb dX9_heavy_92 rfl (lv_at hl 1 rfl) ?_
      refine lv_goto (tgt := 97) hx hb dX9_heavy_93 (by decide) ?_
      exact cg_iret F hr hlk hG hf dX9_heavy_97
  have hJ45 : ∀ (x1 : Int32) (x2 : Int32) (x3 : Int32) (x4 : Int32) (M : Mem) (H : Heap) (locs : List Loc) (ls : Array Slot), gl (b_X9_heavy_45 n  x1) n (x2, x3, x4, M) = some res → GI w layM 24 s.heap M H locs → lv_has ls 5 [(0, .ref (w.2.2.1 0)), (1, .int x1), (2, .int x2), (3, .int x3), (4, .int x4)] → W p l e (Rm 6) s m args below meth c H locs 0 0 (MQ below (GQi w layM 24 res s.heap.size) args s 0 0 (gA w.2.2.1 24 s.heap.size)) (F0 m 45 ls []) := by
    intro x1 x2 x3 x4 M H locs ls hf hG hl
    refine gl_run (P := fun (q : (Int32 × Int32 × Int32 × Mem)) => ∀ (H : Heap) (locs : List Loc) (ls : Array Slot), GI w layM 24 s.heap q.2.2.2 H locs → lv_has ls 5 [(0, .ref (w.2.2.1 0)), (1, .int x1), (2, .int q.1), (3, .int q.2.1), (4, .int q.2.2.1)] → W p l e (Rm 6) s m args below meth c H locs 0 0 (MQ below (GQi w layM 24 res s.heap.size) args s 0 0 (gA w.2.2.1 24 s.heap.size)) (F0 m 45 ls [])) ?_ n (x2, x3, x4, M) hf H locs ls hG hl
    clear hf hG hl ls locs H M x2 x3 x4
    rintro ⟨x2, x3, x4, M⟩ rr45 hf hI45 hE45 H locs ls hG hl
    try dsimp only at hG hl ⊢
    have hJ82 : ∀ (x2 : Int32) (x3 : Int32) (x4 : Int32) (M : Mem) (H : Heap) (locs : List Loc) (ls : Array Slot), j_X9_heavy_82 n  x1 x2 x3 x4 M = some rr45 → GI w layM 24 s.heap M H locs → lv_has ls 5 [(0, .ref (w.2.2.1 0)), (1, .int x1), (2, .int x2), (3, .int x3), (4, .int x4)] → W p l e (Rm 6) s m args below meth c H locs 0 0 (MQ below (GQi w layM 24 res s.heap.size) args s 0 0 (gA w.2.2.1 24 s.heap.size)) (F0 m 82 ls []) := by
      intro x2 x3 x4 M H locs ls hf hG hl
      unfold j_X9_heavy_82 at hf
      refine lv_iinc (v := (x4 + (1 : Int32))) (lv' := [(4, .int (x4 + (1 : Int32))), (0, .ref (w.2.2.1 0)), (1, .int x1), (2, .int x2), (3, .int x3)]) hx hb dX9_heavy_82 hl (k := 4) rfl rfl (by decide) rfl (fun ls hl => ?_)
      refine lv_goto (tgt := 45) hx hb dX9_heavy_85 (by decide) ?_
      exact hI45 _ (Option.some.inj hf).symm _ _ ls hG (lv_sub hl [1, 2, 3, 4, 0] rfl)
    dsimp only [b_X9_heavy_45] at hf
    refine lv_iload hx hb dX9_heavy_45 (lv_at hl 4 rfl) ?_
    refine lv_bipush (v := 10) hx hb dX9_heavy_47 (by decide) ?_
    refine lv_aload_n hx hb dX9_heavy_49 rfl (lv_at hl 0 rfl) ?_
    refine g_getR F hG 12 mo_0 (by decide) (by decide) lk_X9_63 rfl dX9_heavy_50 ?_
    refine lv_iconst (v := 3) hx hb dX9_heavy_53 (by decide) ?_
    refine g_iald F hG oM_12 (by decide) dX9_heavy_54 ?_
    refine lv_imul hx hb dX9_heavy_55 ?_
    refine lv_icmp_ge (tgt := 88) hx hb dX9_heavy_56 (by decide) (fun c2 => ?_) (fun c2 => ?_)
    · replace hf := if_t c2 hf
      replace hf := mr_some hf
      obtain ⟨z45, hf, hz⟩ := hf
      rw [hE45 _ hz] at hf
      exact hJ88 _ _ _ _ _ _ ls hf hG (lv_sub hl [1, 2, 3] rfl)
    · replace hf := if_f c2 hf
      refine lv_aload_n hx hb dX9_heavy_59 rfl (lv_at hl 0 rfl) ?_
      refine lv_iload hx hb dX9_heavy_60 (lv_at hl 4 rfl) ?_
      replace hf := bd_some hf
      obtain ⟨q3, eq3, hf⟩ := hf
      refine gx_calli hG (gx_runV hXk F hX hG (c_X9_isGuess l w hXk n  x4 _ _ eq3) cv_X9_427 ⟨Nat.le_of_ble_eq_true rfl, Nat.le_of_ble_eq_true rfl⟩ (g_recv F hG mo_0 (by decide) rfl) rfl hl.1 rfl (Nat.le_of_ble_eq_true rfl) dX9_heavy_62 ⟨Nat.le_refl _, Nat.le_refl _⟩) (fun H locs hG => ?_)
      refine lv_if_ne (tgt := 71) hx hb dX9_heavy_65 (by decide) (fun c4 => ?_) (fun c4 => ?_)
      · replace hf := if_f c4 hf
        refine lv_iinc (v := (x2 + (1 : Int32))) (lv' := [(2, .int (x2 + (1 : Int32))), (0, .ref (w.2.2.1 0)), (1, .int x1), (3, .int x3), (4, .int x4)]) hx hb dX9_heavy_71 hl (k := 2) rfl rfl (by decide) rfl (fun ls hl => ?_)
        refine lv_iload_n hx hb dX9_heavy_74 rfl (lv_at hl 3 rfl) ?_
        refine lv_iconst (v := -1) hx hb dX9_heavy_75 (by decide) ?_
        refine lv_icmp_ne (tgt := 82) hx hb dX9_heavy_76 (by decide) (fun c5 => ?_) (fun c5 => ?_)
        · replace hf := if_f c5 hf
          exact hJ82 _ _ _ _ _ _ ls hf hG (lv_sub hl [1, 2, 0, 3, 4] rfl)
        · replace hf := if_t c5 hf
          refine lv_iload hx hb dX9_heavy_79 (lv_at hl 4 rfl) ?_
          refine lv_istore_n (lv' := [(3, .int x4), (2, .int (x2 + (1 : Int32))), (0, .ref (w.2.2.1 0)), (1, .int x1), (4, .int x4)]) hx hb dX9_heavy_81 rfl hl (by decide) rfl (fun ls hl => ?_)
          exact hJ82 _ _ _ _ _ _ ls hf hG (lv_sub hl [2, 3, 1, 0, 4] rfl)
      · replace hf := if_t c4 hf
        refine lv_goto (tgt := 82) hx hb dX9_heavy_68 (by decide) ?_
        exact hJ82 _ _ _ _ _ _ ls hf hG (lv_sub hl [0, 1, 2, 3, 4] rfl)
  unfold f_X9_heavy at hf
  refine lv_aload_n hx hb dX9_heavy_0 rfl (lv_at hl 0 rfl) ?_
  refine lv_iconst (v := 0) hx hb dX9_heavy_1 (by decide) ?_
  refine g_putI F hG mo_0 (by decide) (by decide) lkv_X9_102 rfl rfl rfl dX9_heavy_2 (fun H locs hG => ?_)
  refine lv_aload_n hx hb dX9_heavy_5 rfl (lv_at hl 0 rfl) ?_
  refine lv_iload_n hx hb dX9_heavy_6 rfl (lv_at hl 1 rfl) ?_
  refine lv_iconst (v := 2) hx hb dX9_heavy_7 (by decide) ?_
  replace hf := bd_some hf
  obtain ⟨q6, eq6, hf⟩ := hf
  refine gx_calli hG (gx_runV hXk F hX hG (c_X9_isWhat l w hXk n  x1 (2 : Int32) _ _ eq6) cv_X9_396 ⟨Nat.le_of_ble_eq_true rfl, Nat.le_of_ble_eq_true rfl⟩ (g_recv F hG mo_0 (by decide) rfl) rfl hl.1 rfl (Nat.le_of_ble_eq_true rfl) dX9_heavy_8 ⟨Nat.le_refl _, Nat.le_refl _⟩) (fun H locs hG => ?_)
  refine lv_if_ne (tgt := 16) hx hb dX9_heavy_11 (by decide) (fun c7 => ?_) (fun c7 => ?_)
  · replace hf := if_f c7 hf
    refine lv_iload_n hx hb dX9_heavy_16 rfl (lv_at hl 1 rfl) ?_
    refine lv_iconst (v := 2) hx hb dX9_heavy_17 (by decide) ?_
    refine lv_icmp_ne (tgt := 38) hx hb dX9_heavy_18 (by decide) (fun c8 => ?_) (fun c8 => ?_)
    · replace hf := if_f c8 hf
      refine lv_iconst (v := 0) hx hb dX9_heavy_38 (by decide) ?_
      refine lv_istore_n (lv' := [(2, .int (0 : Int32)), (0, .ref (w.2.2.1 0)), (1, .int x1)]) hx hb dX9_heavy_39 rfl hl (by decide) rfl (fun ls hl => ?_)
      refine lv_iconst (v := -1) hx hb dX9_heavy_40 (by decide) ?_
      refine lv_istore_n (lv' := [(3, .int (-1 : Int32)), (2, .int (0 : Int32)), (0, .ref (w.2.2.1 0)), (1, .int x1)]) hx hb dX9_heavy_41 rfl hl (by decide) rfl (fun ls hl => ?_)
      refine lv_iconst (v := 0) hx hb dX9_heavy_42 (by decide) ?_
      refine lv_istore (lv' := [(4, .int (0 : Int32)), (3, .int (-1 : Int32)), (2, .int (0 : Int32)), (0, .ref (w.2.2.1 0)), (1, .int x1)]) hx hb dX9_heavy_43 hl (by decide) rfl (fun ls hl => ?_)
      exact hJ45 _ _ _ _ _ _ _ ls hf hG (lv_sub hl [3, 4, 2, 1, 0] rfl)
    · replace hf := if_t c8 hf
      refine lv_aload_n hx hb dX9_heavy_21 rfl (lv_at hl 0 rfl) ?_
      replace hf := bd_some hf
      obtain ⟨q9, eq9, hf⟩ := hf
      refine gx_callv hG (gx_runV hXk F hX hG (c_X9_tries l w hXk n   _ _ eq9) cv_X9_367 ⟨Nat.le_of_ble_eq_true rfl, Nat.le_of_ble_eq_true rfl⟩ (g_recv F hG mo_0 (by decide) rfl) rfl hl.1 rfl (Nat.le_of_ble_eq_true rfl) dX9_heavy_22 ⟨Nat.le_refl _, Nat.le_refl _⟩) (fun H locs hG => ?_)
      refine lv_aload_n hx hb dX9_heavy_25 rfl (lv_at hl 0 rfl) ?_
      replace hf := bd_some hf
      obtain ⟨q10, eq10, hf⟩ := hf
      refine gx_calli hG (gx_runV hXk F hX hG (c_X9_isSeen l w hXk n   _ _ eq10) cv_X9_424 ⟨Nat.le_of_ble_eq_true rfl, Nat.le_of_ble_eq_true rfl⟩ (g_recv F hG mo_0 (by decide) rfl) rfl hl.1 rfl (Nat.le_of_ble_eq_true rfl) dX9_heavy_26 ⟨Nat.le_refl _, Nat.le_refl _⟩) (fun H locs hG => ?_)
      refine lv_if_eq (tgt := 36) hx hb dX9_heavy_29 (by decide) (fun c11 => ?_) (fun c11 => ?_)
      · replace hf := if_t c11 hf
        refine lv_iconst (v := 0) hx hb dX9_heavy_36 (by decide) ?_
        exact cg_iret F hr hlk hG hf dX9_heavy_37
      · replace hf := if_f c11 hf
        refine lv_iconst (v := 1) hx hb dX9_heavy_32 (by decide) ?_
        refine lv_goto (tgt := 37) hx hb dX9_heavy_33 (by decide) ?_
        exact cg_iret F hr hlk hG hf dX9_heavy_37
  · replace hf := if_t c7 hf
    refine lv_iconst (v := 0) hx hb dX9_heavy_14 (by decide) ?_
    exact cg_iret F hr hlk hG hf dX9_heavy_15

def j_X9_look_216 (n : Nat) (x1 : Int32) (x3 : Int32) (x4 : Int32) (M : Mem) : Option (Int32 × Mem) := if x1 = 0 then (some (x3, M)) else (some (x4, M))
def j_X9_look_210 (n : Nat) (x1 : Int32) (x2 : Int32) (x3 : Int32) (x4 : Int32) (x5 : Int32) (M : Mem) : Option ((Int32 × Int32 × Int32 × Mem) ⊕ (Int32 × Mem)) := some (.inl (x3, x4, (x5 + (1 : Int32)), M))
def j_X9_look_191 (n : Nat) (x1 : Int32) (x2 : Int32) (x3 : Int32) (x4 : Int32) (x5 : Int32) (x6 : Int32) (M : Mem) : Option ((Int32 × Int32 × Int32 × Mem) ⊕ (Int32 × Mem)) := if x4 < x6 then (j_X9_look_210 n  x1 x2 (x5 + (1 : Int32)) x6 x5 M) else (j_X9_look_210 n  x1 x2 x3 x4 x5 M)
def j_X9_look_182 (n : Nat) (t0 : Int32) (t1 : Int32) (x1 : Int32) (x2 : Int32) (x3 : Int32) (x4 : Int32) (x5 : Int32) (x7 : Int32) (M : Mem) : Option ((Int32 × Int32 × Mem) ⊕ ((Int32 × Int32 × Int32 × Mem) ⊕ (Int32 × Mem))) := some (.inl ((t1 + t0), (x7 + (1 : Int32)), M))
def j_X9_look_170 (n : Nat) (x1 : Int32) (x2 : Int32) (x3 : Int32) (x4 : Int32) (x5 : Int32) (x6 : Int32) (x7 : Int32) (x8 : Int32) (M : Mem) : Option ((Int32 × Int32 × Mem) ⊕ ((Int32 × Int32 × Int32 × Mem) ⊕ (Int32 × Mem))) := if x8 = 0 then (j_X9_look_182 n  (0 : Int32) x6 x1 x2 x3 x4 x5 x7 M) else (j_X9_look_182 n  (1 : Int32) x6 x1 x2 x3 x4 x5 x7 M)
def j_X9_look_162 (n : Nat) (t0 : Int32) (x1 : Int32) (x2 : Int32) (x3 : Int32) (x4 : Int32) (x5 : Int32) (x6 : Int32) (x7 : Int32) (x9 : Int32) (M : Mem) : Option ((Int32 × Int32 × Mem) ⊕ ((Int32 × Int32 × Mem) ⊕ ((Int32 × Int32 × Int32 × Mem) ⊕ (Int32 × Mem)))) := some (.inl (t0, (x9 + (1 : Int32)), M))
def b_X9_look_118 (n : Nat) (x1 : Int32) (x2 : Int32) (x3 : Int32) (x4 : Int32) (x5 : Int32) (x6 : Int32) (x7 : Int32) (q : (Int32 × Int32 × Mem)) : Option ((Int32 × Int32 × Mem) ⊕ ((Int32 × Int32 × Mem) ⊕ ((Int32 × Int32 × Int32 × Mem) ⊕ (Int32 × Mem)))) := match q with
  | (x8, x9, M) => if x7 ≤ x9 then (mr (j_X9_look_170 n  x1 x2 x3 x4 x5 x6 x7 x8 M)) else (if x8 = 0 then (mr (j_X9_look_170 n  x1 x2 x3 x4 x5 x6 x7 x8 M)) else (ck (inb (((5 : Int32) * x7) + x5) 720) (ck (inb (((5 : Int32) * x9) + x5) 720) (if (gi M 20 (((5 : Int32) * x7) + x5).toNatClampNeg) = (gi M 20 (((5 : Int32) * x9) + x5).toNatClampNeg) then (j_X9_look_162 n  (0 : Int32) x1 x2 x3 x4 x5 x6 x7 x9 M) else (j_X9_look_162 n  (1 : Int32) x1 x2 x3 x4 x5 x6 x7 x9 M)))))
def b_X9_look_106 (n : Nat) (x1 : Int32) (x2 : Int32) (x3 : Int32) (x4 : Int32) (x5 : Int32) (q : (Int32 × Int32 × Mem)) : Option ((Int32 × Int32 × Mem) ⊕ ((Int32 × Int32 × Int32 × Mem) ⊕ (Int32 × Mem))) := match q with
  | (x6, x7, M) => if x2 ≤ x7 then (mr (j_X9_look_191 n  x1 x2 x3 x4 x5 x6 M)) else (gl (b_X9_look_118 n  x1 x2 x3 x4 x5 x6 x7) n ((1 : Int32), (0 : Int32), M))
def b_X9_look_94 (n : Nat) (x1 : Int32) (x2 : Int32) (q : (Int32 × Int32 × Int32 × Mem)) : Option ((Int32 × Int32 × Int32 × Mem) ⊕ (Int32 × Mem)) := match q with
  | (x3, x4, x5, M) => if (5 : Int32) ≤ x5 then (mr (j_X9_look_216 n  x1 x3 x4 M)) else (gl (b_X9_look_106 n  x1 x2 x3 x4 x5) n ((0 : Int32), (0 : Int32), M))
def j_X9_look_86 (n : Nat) (x1 : Int32) (x2 : Int32) (M : Mem) : Option (Int32 × Mem) := gl (b_X9_look_94 n  x1 x2) n ((-1 : Int32), (0 : Int32), (0 : Int32), M)
def j_X9_look_80 (n : Nat) (x1 : Int32) (x2 : Int32) (x3 : Int32) (M : Mem) : Option ((Int32 × Int32 × Mem) ⊕ (Int32 × Mem)) := some (.inl (x2, (x3 + (1 : Int32)), M))
def j_X9_look_77 (n : Nat) (x1 : Int32) (x2 : Int32) (x3 : Int32) (M : Mem) : Option ((Int32 × Int32 × Mem) ⊕ (Int32 × Mem)) := j_X9_look_80 n  x1 (x2 + (1 : Int32)) x3 M
def b_X9_look_47 (n : Nat) (x1 : Int32) (x2 : Int32) (x3 : Int32) (q : (Int32 × Mem)) : Option ((Int32 × Mem) ⊕ ((Int32 × Int32 × Mem) ⊕ (Int32 × Mem))) := match q with
  | (x4, M) => if (5 : Int32) ≤ x4 then (mr (j_X9_look_77 n  x1 x2 x3 M)) else (ck (inb x4 5) (ck (inb (((5 : Int32) * x2) + x4) 720) (some (.inl ((x4 + (1 : Int32)), si M 20 (((5 : Int32) * x2) + x4).toNatClampNeg (gi M 19 x4.toNatClampNeg))))))
def b_X9_look_20 (n : Nat) (x1 : Int32) (q : (Int32 × Int32 × Mem)) : Option ((Int32 × Int32 × Mem) ⊕ (Int32 × Mem)) := match q with
  | (x2, x3, M) => if ((10 : Int32) * (gi M 12 (3 : Int32).toNatClampNeg)) ≤ x3 then (mr (j_X9_look_86 n  x1 x2 M)) else (bd (f_X9_isGuess n  x3 M) (fun q15 => if q15.1 = 0 then (j_X9_look_80 n  x1 x2 x3 q15.2) else (gl (b_X9_look_47 n  x1 x2 x3) n ((0 : Int32), q15.2))))
def f_X9_look (n : Nat) (x1 : Int32) (M : Mem) : Option (Int32 × Mem) := bd (f_X9_isWhat n  x1 (1 : Int32) (si M 0 0 (0 : Int32))) (fun q17 => if q17.1 = 0 then (some ((0 : Int32), q17.2)) else (gl (b_X9_look_20 n  x1) n ((0 : Int32), (0 : Int32), q17.2)))
set_option maxHeartbeats 4000000 in
set_option maxRecDepth 100000 in
theorem c_X9_look (l : Launch) (w : Wd) {X : (Nat → Prop) → State → Heap → Prop} (hXk : XOK X) (n : Nat) (x1 : Int32) (M : Mem) (res : Int32 × Mem) (hf : f_X9_look n  x1 M = some res) : CG l w layM 24 X yX9_look cX9_look 10 (some .int) 6 [.ref (w.2.2.1 0), .int x1] M (GQi w layM 24 res) := by
  refine cg_start (by decide +kernel) (Nat.le_of_ble_eq_true rfl) ?_
  intro p e s m args below meth c F hr hlk hX hG ls hl
  have F : FX w p m c cX9_look 10 s args RX9 := F
  have hx := F.1.1
  have hb := F.1.2.1
  have hl : lv_has ls 10 [(0, .ref (w.2.2.1 0)), (1, .int x1)] := hl
  have hJ216 : ∀ (x1 : Int32) (x3 : Int32) (x4 : Int32) (M : Mem) (H : Heap) (locs : List Loc) (ls : Array Slot), j_X9_look_216 n  x1 x3 x4 M = some res → GI w layM 24 s.heap M H locs → lv_has ls 10 [(1, .int x1), (3, .int x3), (4, .int x4)] → W p l e (Rm 6) s m args below meth c H locs 0 0 (MQ below (GQi w layM 24 res s.heap.size) args s 0 0 (gA w.2.2.1 24 s.heap.size)) (F0 m 216 ls []) := by
    intro x1 x3 x4 M H locs ls hf hG hl
    unfold j_X9_look_216 at hf
    refine lv_iload_n hx hb dX9_look_216 rfl (lv_at hl 0 rfl) ?_
    refine lv_if_ne (tgt := 224) hx hb dX9_look_217 (by decide) (fun c1 => ?_) (fun c1 => ?_)
    · replace hf := if_f c1 hf
      refine lv_iload hx hb dX9_look_224 (lv_at hl 2 rfl) ?_
      exact cg_iret F hr hlk hG hf dX9_look_226
    · replace hf := if_t c1 hf
      refine lv_iload_n hx hb dX9_look_220 rfl (lv_at hl 1 rfl) ?_
      refine lv_goto (tgt := 226) hx hb dX9_look_221 (by decide) ?_
      exact cg_iret F hr hlk hG hf dX9_look_226
  have hJ94 : ∀ (x1 : Int32) (x2 : Int32) (x3 : Int32) (x4 : Int32) (x5 : Int32) (M : Mem) (H : Heap) (locs : List Loc) (ls : Array Slot), gl (b_X9_look_94 n  x1 x2) n (x3, x4, x5, M) = some res → GI w layM 24 s.heap M H locs → lv_has ls 10 [(0, .ref (w.2.2.1 0)), (1, .int x1), (2, .int x2), (3, .int x3), (4, .int x4), (5, .int x5)] → W p l e (Rm 6) s m args below meth c H locs 0 0 (MQ below (GQi w layM 24 res s.heap.size) args s 0 0 (gA w.2.2.1 24 s.heap.size)) (F0 m 94 ls []) := by
    intro x1 x2 x3 x4 x5 M H locs ls hf hG hl
    refine gl_run (P := fun (q : (Int32 × Int32 × Int32 × Mem)) => ∀ (H : Heap) (locs : List Loc) (ls : Array Slot), GI w layM 24 s.heap q.2.2.2 H locs → lv_has ls 10 [(0, .ref (w.2.2.1 0)), (1, .int x1), (2, .int x2), (3, .int q.1), (4, .int q.2.1), (5, .int q.2.2.1)] → W p l e (Rm 6) s m args below meth c H locs 0 0 (MQ below (GQi w layM 24 res s.heap.size) args s 0 0 (gA w.2.2.1 24 s.heap.size)) (F0 m 94 ls [])) ?_ n (x3, x4, x5, M) hf H locs ls hG hl
    clear hf hG hl ls locs H M x3 x4 x5
    rintro ⟨x3, x4, x5, M⟩ rr94 hf hI94 hE94 H locs ls hG hl
    try dsimp only at hG hl ⊢
    have hJ210 : ∀ (x3 : Int32) (x4 : Int32) (x5 : Int32) (M : Mem) (H : Heap) (locs : List Loc) (ls : Array Slot), j_X9_look_210 n  x1 x2 x3 x4 x5 M = some rr94 → GI w layM 24 s.heap M H locs → lv_has ls 10 [(0, .ref (w.2.2.1 0)), (1, .int x1), (2, .int x2), (3, .int x3), (4, .int x4), (5, .int x5)] → W p l e (Rm 6) s m args below meth c H locs 0 0 (MQ below (GQi w layM 24 res s.heap.size) args s 0 0 (gA w.2.2.1 24 s.heap.size)) (F0 m 210 ls []) := by
      intro x3 x4 x5 M H locs ls hf hG hl
      unfold j_X9_look_210 at hf
      refine lv_iinc (v := (x5 + (1 : Int32))) (lv' := [(5, .int (x5 + (1 : Int32))), (0, .ref (w.2.2.1 0)), (1, .int x1), (2, .int x2), (3, .int x3), (4, .int x4)]) hx hb dX9_look_210 hl (k := 5) rfl rfl (by decide) rfl (fun ls hl => ?_)
      refine lv_goto (tgt := 94) hx hb dX9_look_213 (by decide) ?_
      exact hI94 _ (Option.some.inj hf).symm _ _ ls hG (lv_sub hl [1, 2, 3, 4, 5, 0] rfl)
    have hJ191 : ∀ (x3 : Int32) (x4 : Int32) (x5 : Int32) (x6 : Int32) (M : Mem) (H : Heap) (locs : List Loc) (ls : Array Slot), j_X9_look_191 n  x1 x2 x3 x4 x5 x6 M = some rr94 → GI w layM 24 s.heap M H locs → lv_has ls 10 [(0, .ref (w.2.2.1 0)), (1, .int x1), (2, .int x2), (3, .int x3), (4, .int x4), (5, .int x5), (6, .int x6)] → W p l e (Rm 6) s m args below meth c H locs 0 0 (MQ below (GQi w layM 24 res s.heap.size) args s 0 0 (gA w.2.2.1 24 s.heap.size)) (F0 m 191 ls []) := by
      intro x3 x4 x5 x6 M H locs ls hf hG hl
      unfold j_X9_look_191 at hf
      refine lv_iload hx hb dX9_look_191 (lv_at hl 6 rfl) ?_
      refine lv_iload hx hb dX9_look_193 (lv_at hl 4 rfl) ?_
      refine lv_icmp_gt (tgt := 201) hx hb dX9_look_195 (by decide) (fun c2 => ?_) (fun c2 => ?_)
      · replace hf := if_t c2 hf
        refine lv_iload hx hb dX9_look_201 (lv_at hl 5 rfl) ?_
        refine lv_iconst (v := 1) hx hb dX9_look_203 (by decide) ?_
        refine lv_iadd hx hb dX9_look_204 ?_
        refine lv_istore_n (lv' := [(3, .int (x5 + (1 : Int32))), (0, .ref (w.2.2.1 0)), (1, .int x1), (2, .int x2), (4, .int x4), (5, .int x5), (6, .int x6)]) hx hb dX9_look_205 rfl hl (by decide) rfl (fun ls hl => ?_)
        refine lv_iload hx hb dX9_look_206 (lv_at hl 6 rfl) ?_
        refine lv_istore (lv' := [(4, .int x6), (3, .int (x5 + (1 : Int32))), (0, .ref (w.2.2.1 0)), (1, .int x1), (2, .int x2), (5, .int x5), (6, .int x6)]) hx hb dX9_look_208 hl (by decide) rfl (fun ls hl => ?_)
        exact hJ210 _ _ _ _ _ _ ls hf hG (lv_sub hl [2, 3, 4, 1, 0, 5] rfl)
      · replace hf := if_f c2 hf
        refine lv_goto (tgt := 210) hx hb dX9_look_198 (by decide) ?_
        exact hJ210 _ _ _ _ _ _ ls hf hG (lv_sub hl [0, 1, 2, 3, 4, 5] rfl)
    have hJ106 : ∀ (x3 : Int32) (x4 : Int32) (x5 : Int32) (x6 : Int32) (x7 : Int32) (M : Mem) (H : Heap) (locs : List Loc) (ls : Array Slot), gl (b_X9_look_106 n  x1 x2 x3 x4 x5) n (x6, x7, M) = some rr94 → GI w layM 24 s.heap M H locs → lv_has ls 10 [(0, .ref (w.2.2.1 0)), (1, .int x1), (2, .int x2), (3, .int x3), (4, .int x4), (5, .int x5), (6, .int x6), (7, .int x7)] → W p l e (Rm 6) s m args below meth c H locs 0 0 (MQ below (GQi w layM 24 res s.heap.size) args s 0 0 (gA w.2.2.1 24 s.heap.size)) (F0 m 106 ls []) := by
      intro x3 x4 x5 x6 x7 M H locs ls hf hG hl
      refine gl_run (P := fun (q : (Int32 × Int32 × Mem)) => ∀ (H : Heap) (locs : List Loc) (ls : Array Slot), GI w layM 24 s.heap q.2.2 H locs → lv_has ls 10 [(0, .ref (w.2.2.1 0)), (1, .int x1), (2, .int x2), (3, .int x3), (4, .int x4), (5, .int x5), (6, .int q.1), (7, .int q.2.1)] → W p l e (Rm 6) s m args below meth c H locs 0 0 (MQ below (GQi w layM 24 res s.heap.size) args s 0 0 (gA w.2.2.1 24 s.heap.size)) (F0 m 106 ls [])) ?_ n (x6, x7, M) hf H locs ls hG hl
      clear hf hG hl ls locs H M x6 x7
      rintro ⟨x6, x7, M⟩ rr106 hf hI106 hE106 H locs ls hG hl
      try dsimp only at hG hl ⊢
      have hJ182 : ∀ (t0 : Int32) (t1 : Int32) (x7 : Int32) (M : Mem) (H : Heap) (locs : List Loc) (ls : Array Slot), j_X9_look_182 n  t0 t1 x1 x2 x3 x4 x5 x7 M = some rr106 → GI w layM 24 s.heap M H locs → lv_has ls 10 [(0, .ref (w.2.2.1 0)), (1, .int x1), (2, .int x2), (3, .int x3), (4, .int x4), (5, .int x5), (7, .int x7)] → W p l e (Rm 6) s m args below meth c H locs 0 0 (MQ below (GQi w layM 24 res s.heap.size) args s 0 0 (gA w.2.2.1 24 s.heap.size)) (F0 m 182 ls [.int t0, .int t1]) := by
        intro t0 t1 x7 M H locs ls hf hG hl
        unfold j_X9_look_182 at hf
        refine lv_iadd hx hb dX9_look_182 ?_
        refine lv_istore (lv' := [(6, .int (t1 + t0)), (0, .ref (w.2.2.1 0)), (1, .int x1), (2, .int x2), (3, .int x3), (4, .int x4), (5, .int x5), (7, .int x7)]) hx hb dX9_look_183 hl (by decide) rfl (fun ls hl => ?_)
        refine lv_iinc (v := (x7 + (1 : Int32))) (lv' := [(7, .int (x7 + (1 : Int32))), (6, .int (t1 + t0)), (0, .ref (w.2.2.1 0)), (1, .int x1), (2, .int x2), (3, .int x3), (4, .int x4), (5, .int x5)]) hx hb dX9_look_185 hl (k := 7) rfl rfl (by decide) rfl (fun ls hl => ?_)
        refine lv_goto (tgt := 106) hx hb dX9_look_188 (by decide) ?_
        exact hI106 _ (Option.some.inj hf).symm _ _ ls hG (lv_sub hl [2, 3, 4, 5, 6, 7, 1, 0] rfl)
      have hJ170 : ∀ (x6 : Int32) (x7 : Int32) (x8 : Int32) (M : Mem) (H : Heap) (locs : List Loc) (ls : Array Slot), j_X9_look_170 n  x1 x2 x3 x4 x5 x6 x7 x8 M = some rr106 → GI w layM 24 s.heap M H locs → lv_has ls 10 [(0, .ref (w.2.2.1 0)), (1, .int x1), (2, .int x2), (3, .int x3), (4, .int x4), (5, .int x5), (6, .int x6), (7, .int x7), (8, .int x8)] → W p l e (Rm 6) s m args below meth c H locs 0 0 (MQ below (GQi w layM 24 res s.heap.size) args s 0 0 (gA w.2.2.1 24 s.heap.size)) (F0 m 170 ls []) := by
        intro x6 x7 x8 M H locs ls hf hG hl
        unfold j_X9_look_170 at hf
        refine lv_iload hx hb dX9_look_170 (lv_at hl 6 rfl) ?_
        refine lv_iload hx hb dX9_look_172 (lv_at hl 8 rfl) ?_
        refine lv_if_eq (tgt := 181) hx hb dX9_look_174 (by decide) (fun c3 => ?_) (fun c3 => ?_)
        · replace hf := if_t c3 hf
          refine lv_iconst (v := 0) hx hb dX9_look_181 (by decide) ?_
          exact hJ182 _ _ _ _ _ _ ls hf hG (lv_sub hl [0, 1, 2, 3, 4, 5, 7] rfl)
        · replace hf := if_f c3 hf
          refine lv_iconst (v := 1) hx hb dX9_look_177 (by decide) ?_
          refine lv_goto (tgt := 182) hx hb dX9_look_178 (by decide) ?_
          exact hJ182 _ _ _ _ _ _ ls hf hG (lv_sub hl [0, 1, 2, 3, 4, 5, 7] rfl)
      have hJ118 : ∀ (x6 : Int32) (x7 : Int32) (x8 : Int32) (x9 : Int32) (M : Mem) (H : Heap) (locs : List Loc) (ls : Array Slot), gl (b_X9_look_118 n  x1 x2 x3 x4 x5 x6 x7) n (x8, x9, M) = some rr106 → GI w layM 24 s.heap M H locs → lv_has ls 10 [(0, .ref (w.2.2.1 0)), (1, .int x1), (2, .int x2), (3, .int x3), (4, .int x4), (5, .int x5), (6, .int x6), (7, .int x7), (8, .int x8), (9, .int x9)] → W p l e (Rm 6) s m args below meth c H locs 0 0 (MQ below (GQi w layM 24 res s.heap.size) args s 0 0 (gA w.2.2.1 24 s.heap.size)) (F0 m 118 ls []) := by
        intro x6 x7 x8 x9 M H locs ls hf hG hl
        refine gl_run (P := fun (q : (Int32 × Int32 × Mem)) => ∀ (H : Heap) (locs : List Loc) (ls : Array Slot), GI w layM 24 s.heap q.2.2 H locs → lv_has ls 10 [(0, .ref (w.2.2.1 0)), (1, .int x1), (2, .int x2), (3, .int x3), (4, .int x4), (5, .int x5), (6, .int x6), (7, .int x7), (8, .int q.1), (9, .int q.2.1)] → W p l e (Rm 6) s m args below meth c H locs 0 0 (MQ below (GQi w layM 24 res s.heap.size) args s 0 0 (gA w.2.2.1 24 s.heap.size)) (F0 m 118 ls [])) ?_ n (x8, x9, M) hf H locs ls hG hl
        clear hf hG hl ls locs H M x8 x9
        rintro ⟨x8, x9, M⟩ rr118 hf hI118 hE118 H locs ls hG hl
        try dsimp only at hG hl ⊢
        have hJ162 : ∀ (t0 : Int32) (x9 : Int32) (M : Mem) (H : Heap) (locs : List Loc) (ls : Array Slot), j_X9_look_162 n  t0 x1 x2 x3 x4 x5 x6 x7 x9 M = some rr118 → GI w layM 24 s.heap M H locs → lv_has ls 10 [(0, .ref (w.2.2.1 0)), (1, .int x1), (2, .int x2), (3, .int x3), (4, .int x4), (5, .int x5), (6, .int x6), (7, .int x7), (9, .int x9)] → W p l e (Rm 6) s m args below meth c H locs 0 0 (MQ below (GQi w layM 24 res s.heap.size) args s 0 0 (gA w.2.2.1 24 s.heap.size)) (F0 m 162 ls [.int t0]) := by
          intro t0 x9 M H locs ls hf hG hl
          unfold j_X9_look_162 at hf
          refine lv_istore (lv' := [(8, .int t0), (0, .ref (w.2.2.1 0)), (1, .int x1), (2, .int x2), (3, .int x3), (4, .int x4), (5, .int x5), (6, .int x6), (7, .int x7), (9, .int x9)]) hx hb dX9_look_162 hl (by decide) rfl (fun ls hl => ?_)
          refine lv_iinc (v := (x9 + (1 : Int32))) (lv' := [(9, .int (x9 + (1 : Int32))), (8, .int t0), (0, .ref (w.2.2.1 0)), (1, .int x1), (2, .int x2), (3, .int x3), (4, .int x4), (5, .int x5), (6, .int x6), (7, .int x7)]) hx hb dX9_look_164 hl (k := 9) rfl rfl (by decide) rfl (fun ls hl => ?_)
          refine lv_goto (tgt := 118) hx hb dX9_look_167 (by decide) ?_
          exact hI118 _ (Option.some.inj hf).symm _ _ ls hG (lv_sub hl [2, 3, 4, 5, 6, 7, 8, 9, 1, 0] rfl)
        dsimp only [b_X9_look_118] at hf
        refine lv_iload hx hb dX9_look_118 (lv_at hl 9 rfl) ?_
        refine lv_iload hx hb dX9_look_120 (lv_at hl 7 rfl) ?_
        refine lv_icmp_ge (tgt := 170) hx hb dX9_look_122 (by decide) (fun c4 => ?_) (fun c4 => ?_)
        · replace hf := if_t c4 hf
          replace hf := mr_some hf
          obtain ⟨z118, hf, hz⟩ := hf
          rw [hE118 _ hz] at hf
          exact hJ170 _ _ _ _ _ _ ls hf hG (lv_sub hl [0, 1, 2, 3, 4, 5, 6, 7, 8] rfl)
        · replace hf := if_f c4 hf
          refine lv_iload hx hb dX9_look_125 (lv_at hl 8 rfl) ?_
          refine lv_if_eq (tgt := 170) hx hb dX9_look_127 (by decide) (fun c5 => ?_) (fun c5 => ?_)
          · replace hf := if_t c5 hf
            replace hf := mr_some hf
            obtain ⟨z118, hf, hz⟩ := hf
            rw [hE118 _ hz] at hf
            exact hJ170 _ _ _ _ _ _ ls hf hG (lv_sub hl [0, 1, 2, 3, 4, 5, 6, 7, 8] rfl)
          · replace hf := if_f c5 hf
            refine lv_aload_n hx hb dX9_look_130 rfl (lv_at hl 0 rfl) ?_
            refine g_getR F hG 20 mo_0 (by decide) (by decide) lk_X9_90 rfl dX9_look_131 ?_
            refine lv_iconst (v := 5) hx hb dX9_look_134 (by decide) ?_
            refine lv_iload hx hb dX9_look_135 (lv_at hl 7 rfl) ?_
            refine lv_imul hx hb dX9_look_137 ?_
            refine lv_iload hx hb dX9_look_138 (lv_at hl 5 rfl) ?_
            refine lv_iadd hx hb dX9_look_140 ?_
            replace hf := ck_some hf
            obtain ⟨k6, hf⟩ := hf
            refine g_iald F hG oM_20 k6 dX9_look_141 ?_
            refine lv_aload_n hx hb dX9_look_142 rfl (lv_at hl 0 rfl) ?_
            refine g_getR F hG 20 mo_0 (by decide) (by decide) lk_X9_90 rfl dX9_look_143 ?_
            refine lv_iconst (v := 5) hx hb dX9_look_146 (by decide) ?_
            refine lv_iload hx hb dX9_look_147 (lv_at hl 9 rfl) ?_
            refine lv_imul hx hb dX9_look_149 ?_
            refine lv_iload hx hb dX9_look_150 (lv_at hl 5 rfl) ?_
            refine lv_iadd hx hb dX9_look_152 ?_
            replace hf := ck_some hf
            obtain ⟨k7, hf⟩ := hf
            refine g_iald F hG oM_20 k7 dX9_look_153 ?_
            refine lv_icmp_eq (tgt := 161) hx hb dX9_look_154 (by decide) (fun c8 => ?_) (fun c8 => ?_)
            · replace hf := if_t c8 hf
              refine lv_iconst (v := 0) hx hb dX9_look_161 (by decide) ?_
              exact hJ162 _ _ _ _ _ ls hf hG (lv_sub hl [0, 1, 2, 3, 4, 5, 6, 7, 9] rfl)
            · replace hf := if_f c8 hf
              refine lv_iconst (v := 1) hx hb dX9_look_157 (by decide) ?_
              refine lv_goto (tgt := 162) hx hb dX9_look_158 (by decide) ?_
              exact hJ162 _ _ _ _ _ ls hf hG (lv_sub hl [0, 1, 2, 3, 4, 5, 6, 7, 9] rfl)
      dsimp only [b_X9_look_106] at hf
      refine lv_iload hx hb dX9_look_106 (lv_at hl 7 rfl) ?_
      refine lv_iload_n hx hb dX9_look_108 rfl (lv_at hl 2 rfl) ?_
      refine lv_icmp_ge (tgt := 191) hx hb dX9_look_109 (by decide) (fun c9 => ?_) (fun c9 => ?_)
      · replace hf := if_t c9 hf
        replace hf := mr_some hf
        obtain ⟨z106, hf, hz⟩ := hf
        rw [hE106 _ hz] at hf
        exact hJ191 _ _ _ _ _ _ _ ls hf hG (lv_sub hl [0, 1, 2, 3, 4, 5, 6] rfl)
      · replace hf := if_f c9 hf
        refine lv_iconst (v := 1) hx hb dX9_look_112 (by decide) ?_
        refine lv_istore (lv' := [(8, .int (1 : Int32)), (0, .ref (w.2.2.1 0)), (1, .int x1), (2, .int x2), (3, .int x3), (4, .int x4), (5, .int x5), (6, .int x6), (7, .int x7)]) hx hb dX9_look_113 hl (by decide) rfl (fun ls hl => ?_)
        refine lv_iconst (v := 0) hx hb dX9_look_115 (by decide) ?_
        refine lv_istore (lv' := [(9, .int (0 : Int32)), (8, .int (1 : Int32)), (0, .ref (w.2.2.1 0)), (1, .int x1), (2, .int x2), (3, .int x3), (4, .int x4), (5, .int x5), (6, .int x6), (7, .int x7)]) hx hb dX9_look_116 hl (by decide) rfl (fun ls hl => ?_)
        exact hJ118 _ _ _ _ _ _ _ ls hf hG (lv_sub hl [2, 3, 4, 5, 6, 7, 8, 9, 1, 0] rfl)
    dsimp only [b_X9_look_94] at hf
    refine lv_iload hx hb dX9_look_94 (lv_at hl 5 rfl) ?_
    refine lv_iconst (v := 5) hx hb dX9_look_96 (by decide) ?_
    refine lv_icmp_ge (tgt := 216) hx hb dX9_look_97 (by decide) (fun c10 => ?_) (fun c10 => ?_)
    · replace hf := if_t c10 hf
      replace hf := mr_some hf
      obtain ⟨z94, hf, hz⟩ := hf
      rw [hE94 _ hz] at hf
      exact hJ216 _ _ _ _ _ _ ls hf hG (lv_sub hl [1, 3, 4] rfl)
    · replace hf := if_f c10 hf
      refine lv_iconst (v := 0) hx hb dX9_look_100 (by decide) ?_
      refine lv_istore (lv' := [(6, .int (0 : Int32)), (0, .ref (w.2.2.1 0)), (1, .int x1), (2, .int x2), (3, .int x3), (4, .int x4), (5, .int x5)]) hx hb dX9_look_101 hl (by decide) rfl (fun ls hl => ?_)
      refine lv_iconst (v := 0) hx hb dX9_look_103 (by decide) ?_
      refine lv_istore (lv' := [(7, .int (0 : Int32)), (6, .int (0 : Int32)), (0, .ref (w.2.2.1 0)), (1, .int x1), (2, .int x2), (3, .int x3), (4, .int x4), (5, .int x5)]) hx hb dX9_look_104 hl (by decide) rfl (fun ls hl => ?_)
      exact hJ106 _ _ _ _ _ _ _ _ ls hf hG (lv_sub hl [2, 3, 4, 5, 6, 7, 1, 0] rfl)
  have hJ86 : ∀ (x1 : Int32) (x2 : Int32) (M : Mem) (H : Heap) (locs : List Loc) (ls : Array Slot), j_X9_look_86 n  x1 x2 M = some res → GI w layM 24 s.heap M H locs → lv_has ls 10 [(0, .ref (w.2.2.1 0)), (1, .int x1), (2, .int x2)] → W p l e (Rm 6) s m args below meth c H locs 0 0 (MQ below (GQi w layM 24 res s.heap.size) args s 0 0 (gA w.2.2.1 24 s.heap.size)) (F0 m 86 ls []) := by
    intro x1 x2 M H locs ls hf hG hl
    unfold j_X9_look_86 at hf
    refine lv_iconst (v := -1) hx hb dX9_look_86 (by decide) ?_
    refine lv_istore_n (lv' := [(3, .int (-1 : Int32)), (0, .ref (w.2.2.1 0)), (1, .int x1), (2, .int x2)]) hx hb dX9_look_87 rfl hl (by decide) rfl (fun ls hl => ?_)
    refine lv_iconst (v := 0) hx hb dX9_look_88 (by decide) ?_
    refine lv_istore (lv' := [(4, .int (0 : Int32)), (3, .int (-1 : Int32)), (0, .ref (w.2.2.1 0)), (1, .int x1), (2, .int x2)]) hx hb dX9_look_89 hl (by decide) rfl (fun ls hl => ?_)
    refine lv_iconst (v := 0) hx hb dX9_look_91 (by decide) ?_
    refine lv_istore (lv' := [(5, .int (0 : Int32)), (4, .int (0 : Int32)), (3, .int (-1 : Int32)), (0, .ref (w.2.2.1 0)), (1, .int x1), (2, .int x2)]) hx hb dX9_look_92 hl (by decide) rfl (fun ls hl => ?_)
    exact hJ94 _ _ _ _ _ _ _ _ ls hf hG (lv_sub hl [3, 4, 5, 2, 1, 0] rfl)
  have hJ20 : ∀ (x1 : Int32) (x2 : Int32) (x3 : Int32) (M : Mem) (H : Heap) (locs : List Loc) (ls : Array Slot), gl (b_X9_look_20 n  x1) n (x2, x3, M) = some res → GI w layM 24 s.heap M H locs → lv_has ls 10 [(0, .ref (w.2.2.1 0)), (1, .int x1), (2, .int x2), (3, .int x3)] → W p l e (Rm 6) s m args below meth c H locs 0 0 (MQ below (GQi w layM 24 res s.heap.size) args s 0 0 (gA w.2.2.1 24 s.heap.size)) (F0 m 20 ls []) := by
    intro x1 x2 x3 M H locs ls hf hG hl
    refine gl_run (P := fun (q : (Int32 × Int32 × Mem)) => ∀ (H : Heap) (locs : List Loc) (ls : Array Slot), GI w layM 24 s.heap q.2.2 H locs → lv_has ls 10 [(0, .ref (w.2.2.1 0)), (1, .int x1), (2, .int q.1), (3, .int q.2.1)] → W p l e (Rm 6) s m args below meth c H locs 0 0 (MQ below (GQi w layM 24 res s.heap.size) args s 0 0 (gA w.2.2.1 24 s.heap.size)) (F0 m 20 ls [])) ?_ n (x2, x3, M) hf H locs ls hG hl
    clear hf hG hl ls locs H M x2 x3
    rintro ⟨x2, x3, M⟩ rr20 hf hI20 hE20 H locs ls hG hl
    try dsimp only at hG hl ⊢
    have hJ80 : ∀ (x2 : Int32) (x3 : Int32) (M : Mem) (H : Heap) (locs : List Loc) (ls : Array Slot), j_X9_look_80 n  x1 x2 x3 M = some rr20 → GI w layM 24 s.heap M H locs → lv_has ls 10 [(0, .ref (w.2.2.1 0)), (1, .int x1), (2, .int x2), (3, .int x3)] → W p l e (Rm 6) s m args below meth c H locs 0 0 (MQ below (GQi w layM 24 res s.heap.size) args s 0 0 (gA w.2.2.1 24 s.heap.size)) (F0 m 80 ls []) := by
      intro x2 x3 M H locs ls hf hG hl
      unfold j_X9_look_80 at hf
      refine lv_iinc (v := (x3 + (1 : Int32))) (lv' := [(3, .int (x3 + (1 : Int32))), (0, .ref (w.2.2.1 0)), (1, .int x1), (2, .int x2)]) hx hb dX9_look_80 hl (k := 3) rfl rfl (by decide) rfl (fun ls hl => ?_)
      refine lv_goto (tgt := 20) hx hb dX9_look_83 (by decide) ?_
      exact hI20 _ (Option.some.inj hf).symm _ _ ls hG (lv_sub hl [1, 2, 3, 0] rfl)
    have hJ77 : ∀ (x2 : Int32) (x3 : Int32) (M : Mem) (H : Heap) (locs : List Loc) (ls : Array Slot), j_X9_look_77 n  x1 x2 x3 M = some rr20 → GI w layM 24 s.heap M H locs → lv_has ls 10 [(0, .ref (w.2.2.1 0)), (1, .int x1), (2, .int x2), (3, .int x3)] → W p l e (Rm 6) s m args below meth c H locs 0 0 (MQ below (GQi w layM 24 res s.heap.size) args s 0 0 (gA w.2.2.1 24 s.heap.size)) (F0 m 77 ls []) := by
      intro x2 x3 M H locs ls hf hG hl
      unfold j_X9_look_77 at hf
      refine lv_iinc (v := (x2 + (1 : Int32))) (lv' := [(2, .int (x2 + (1 : Int32))), (0, .ref (w.2.2.1 0)), (1, .int x1), (3, .int x3)]) hx hb dX9_look_77 hl (k := 2) rfl rfl (by decide) rfl (fun ls hl => ?_)
      exact hJ80 _ _ _ _ _ ls hf hG (lv_sub hl [1, 2, 0, 3] rfl)
    have hJ47 : ∀ (x2 : Int32) (x3 : Int32) (x4 : Int32) (M : Mem) (H : Heap) (locs : List Loc) (ls : Array Slot), gl (b_X9_look_47 n  x1 x2 x3) n (x4, M) = some rr20 → GI w layM 24 s.heap M H locs → lv_has ls 10 [(0, .ref (w.2.2.1 0)), (1, .int x1), (2, .int x2), (3, .int x3), (4, .int x4)] → W p l e (Rm 6) s m args below meth c H locs 0 0 (MQ below (GQi w layM 24 res s.heap.size) args s 0 0 (gA w.2.2.1 24 s.heap.size)) (F0 m 47 ls []) := by
      intro x2 x3 x4 M H locs ls hf hG hl
      refine gl_run (P := fun (q : (Int32 × Mem)) => ∀ (H : Heap) (locs : List Loc) (ls : Array Slot), GI w layM 24 s.heap q.2 H locs → lv_has ls 10 [(0, .ref (w.2.2.1 0)), (1, .int x1), (2, .int x2), (3, .int x3), (4, .int q.1)] → W p l e (Rm 6) s m args below meth c H locs 0 0 (MQ below (GQi w layM 24 res s.heap.size) args s 0 0 (gA w.2.2.1 24 s.heap.size)) (F0 m 47 ls [])) ?_ n (x4, M) hf H locs ls hG hl
      clear hf hG hl ls locs H M x4
      rintro ⟨x4, M⟩ rr47 hf hI47 hE47 H locs ls hG hl
      try dsimp only at hG hl ⊢
      dsimp only [b_X9_look_47] at hf
      refine lv_iload hx hb dX9_look_47 (lv_at hl 4 rfl) ?_
      refine lv_iconst (v := 5) hx hb dX9_look_49 (by decide) ?_
      refine lv_icmp_ge (tgt := 77) hx hb dX9_look_50 (by decide) (fun c11 => ?_) (fun c11 => ?_)
      · replace hf := if_t c11 hf
        replace hf := mr_some hf
        obtain ⟨z47, hf, hz⟩ := hf
        rw [hE47 _ hz] at hf
        exact hJ77 _ _ _ _ _ ls hf hG (lv_sub hl [0, 1, 2, 3] rfl)
      · replace hf := if_f c11 hf
        refine lv_aload_n hx hb dX9_look_53 rfl (lv_at hl 0 rfl) ?_
        refine g_getR F hG 20 mo_0 (by decide) (by decide) lk_X9_90 rfl dX9_look_54 ?_
        refine lv_iconst (v := 5) hx hb dX9_look_57 (by decide) ?_
        refine lv_iload_n hx hb dX9_look_58 rfl (lv_at hl 2 rfl) ?_
        refine lv_imul hx hb dX9_look_59 ?_
        refine lv_iload hx hb dX9_look_60 (lv_at hl 4 rfl) ?_
        refine lv_iadd hx hb dX9_look_62 ?_
        refine lv_aload_n hx hb dX9_look_63 rfl (lv_at hl 0 rfl) ?_
        refine g_getR F hG 19 mo_0 (by decide) (by decide) lk_X9_87 rfl dX9_look_64 ?_
        refine lv_iload hx hb dX9_look_67 (lv_at hl 4 rfl) ?_
        replace hf := ck_some hf
        obtain ⟨k12, hf⟩ := hf
        refine g_iald F hG oM_19 k12 dX9_look_69 ?_
        replace hf := ck_some hf
        obtain ⟨k13, hf⟩ := hf
        refine g_iast F hG oM_20 k13 dX9_look_70 (fun H locs hG => ?_)
        refine lv_iinc (v := (x4 + (1 : Int32))) (lv' := [(4, .int (x4 + (1 : Int32))), (0, .ref (w.2.2.1 0)), (1, .int x1), (2, .int x2), (3, .int x3)]) hx hb dX9_look_71 hl (k := 4) rfl rfl (by decide) rfl (fun ls hl => ?_)
        refine lv_goto (tgt := 47) hx hb dX9_look_74 (by decide) ?_
        exact hI47 _ (Option.some.inj hf).symm _ _ ls hG (lv_sub hl [1, 2, 3, 4, 0] rfl)
    dsimp only [b_X9_look_20] at hf
    refine lv_iload_n hx hb dX9_look_20 rfl (lv_at hl 3 rfl) ?_
    refine lv_bipush (v := 10) hx hb dX9_look_21 (by decide) ?_
    refine lv_aload_n hx hb dX9_look_23 rfl (lv_at hl 0 rfl) ?_
    refine g_getR F hG 12 mo_0 (by decide) (by decide) lk_X9_63 rfl dX9_look_24 ?_
    refine lv_iconst (v := 3) hx hb dX9_look_27 (by decide) ?_
    refine g_iald F hG oM_12 (by decide) dX9_look_28 ?_
    refine lv_imul hx hb dX9_look_29 ?_
    refine lv_icmp_ge (tgt := 86) hx hb dX9_look_30 (by decide) (fun c14 => ?_) (fun c14 => ?_)
    · replace hf := if_t c14 hf
      replace hf := mr_some hf
      obtain ⟨z20, hf, hz⟩ := hf
      rw [hE20 _ hz] at hf
      exact hJ86 _ _ _ _ _ ls hf hG (lv_sub hl [0, 1, 2] rfl)
    · replace hf := if_f c14 hf
      refine lv_aload_n hx hb dX9_look_33 rfl (lv_at hl 0 rfl) ?_
      refine lv_iload_n hx hb dX9_look_34 rfl (lv_at hl 3 rfl) ?_
      replace hf := bd_some hf
      obtain ⟨q15, eq15, hf⟩ := hf
      refine gx_calli hG (gx_runV hXk F hX hG (c_X9_isGuess l w hXk n  x3 _ _ eq15) cv_X9_427 ⟨Nat.le_of_ble_eq_true rfl, Nat.le_of_ble_eq_true rfl⟩ (g_recv F hG mo_0 (by decide) rfl) rfl hl.1 rfl (Nat.le_of_ble_eq_true rfl) dX9_look_35 ⟨Nat.le_refl _, Nat.le_refl _⟩) (fun H locs hG => ?_)
      refine lv_if_ne (tgt := 44) hx hb dX9_look_38 (by decide) (fun c16 => ?_) (fun c16 => ?_)
      · replace hf := if_f c16 hf
        refine lv_iconst (v := 0) hx hb dX9_look_44 (by decide) ?_
        refine lv_istore (lv' := [(4, .int (0 : Int32)), (0, .ref (w.2.2.1 0)), (1, .int x1), (2, .int x2), (3, .int x3)]) hx hb dX9_look_45 hl (by decide) rfl (fun ls hl => ?_)
        exact hJ47 _ _ _ _ _ _ ls hf hG (lv_sub hl [1, 2, 3, 4, 0] rfl)
      · replace hf := if_t c16 hf
        refine lv_goto (tgt := 80) hx hb dX9_look_41 (by decide) ?_
        exact hJ80 _ _ _ _ _ ls hf hG (lv_sub hl [0, 1, 2, 3] rfl)
  unfold f_X9_look at hf
  refine lv_aload_n hx hb dX9_look_0 rfl (lv_at hl 0 rfl) ?_
  refine lv_iconst (v := 0) hx hb dX9_look_1 (by decide) ?_
  refine g_putI F hG mo_0 (by decide) (by decide) lkv_X9_102 rfl rfl rfl dX9_look_2 (fun H locs hG => ?_)
  refine lv_aload_n hx hb dX9_look_5 rfl (lv_at hl 0 rfl) ?_
  refine lv_iload_n hx hb dX9_look_6 rfl (lv_at hl 1 rfl) ?_
  refine lv_iconst (v := 1) hx hb dX9_look_7 (by decide) ?_
  replace hf := bd_some hf
  obtain ⟨q17, eq17, hf⟩ := hf
  refine gx_calli hG (gx_runV hXk F hX hG (c_X9_isWhat l w hXk n  x1 (1 : Int32) _ _ eq17) cv_X9_396 ⟨Nat.le_of_ble_eq_true rfl, Nat.le_of_ble_eq_true rfl⟩ (g_recv F hG mo_0 (by decide) rfl) rfl hl.1 rfl (Nat.le_of_ble_eq_true rfl) dX9_look_8 ⟨Nat.le_refl _, Nat.le_refl _⟩) (fun H locs hG => ?_)
  refine lv_if_ne (tgt := 16) hx hb dX9_look_11 (by decide) (fun c18 => ?_) (fun c18 => ?_)
  · replace hf := if_f c18 hf
    refine lv_iconst (v := 0) hx hb dX9_look_16 (by decide) ?_
    refine lv_istore_n (lv' := [(2, .int (0 : Int32)), (0, .ref (w.2.2.1 0)), (1, .int x1)]) hx hb dX9_look_17 rfl hl (by decide) rfl (fun ls hl => ?_)
    refine lv_iconst (v := 0) hx hb dX9_look_18 (by decide) ?_
    refine lv_istore_n (lv' := [(3, .int (0 : Int32)), (2, .int (0 : Int32)), (0, .ref (w.2.2.1 0)), (1, .int x1)]) hx hb dX9_look_19 rfl hl (by decide) rfl (fun ls hl => ?_)
    exact hJ20 _ _ _ _ _ _ ls hf hG (lv_sub hl [2, 3, 1, 0] rfl)
  · replace hf := if_t c18 hf
    refine lv_iconst (v := 0) hx hb dX9_look_14 (by decide) ?_
    exact cg_iret F hr hlk hG hf dX9_look_15

def j_X9_gales_145 (n : Nat) (t0 : Int32) (t1 : Int32) (x1 : Int32) (x2 : Int32) (x4 : Int32) (M : Mem) : Option ((Int32 × Int32 × Mem) ⊕ (Int32 × Mem)) := some (.inl ((t1 + t0), (x4 + (1 : Int32)), M))
def j_X9_gales_131 (n : Nat) (x1 : Int32) (x2 : Int32) (x3 : Int32) (x4 : Int32) (x5 : Int32) (M : Mem) : Option ((Int32 × Int32 × Mem) ⊕ (Int32 × Mem)) := if (gi M 0 48) = 0 then (j_X9_gales_145 n  x5 x3 x1 x2 x4 M) else (j_X9_gales_145 n  (0 : Int32) x3 x1 x2 x4 M)
def j_X9_gales_116 (n : Nat) (t0 : Int32) (t1 : Int32) (x1 : Int32) (x2 : Int32) (x3 : Int32) (x4 : Int32) (x6 : Int32) (M : Mem) : Option ((Int32 × Int32 × Mem) ⊕ ((Int32 × Int32 × Mem) ⊕ (Int32 × Mem))) := bd (f_X9_dayGoes n  (54 : Int32) M) (fun q2 => some (.inl ((t1 * t0), (x6 + (1 : Int32)), q2)))
def j_X9_gales_98 (n : Nat) (t0 : Int32) (x1 : Int32) (x2 : Int32) (x3 : Int32) (x4 : Int32) (x5 : Int32) (x6 : Int32) (x7 : Int32) (M : Mem) : Option ((Int32 × Int32 × Mem) ⊕ ((Int32 × Int32 × Mem) ⊕ (Int32 × Mem))) := if x7 = 0 then (j_X9_gales_116 n  ((10 : Int32) - x2) x5 x1 x2 x3 x4 x6 (si M 0 52 t0)) else (j_X9_gales_116 n  x2 x5 x1 x2 x3 x4 x6 (si M 0 52 t0))
def j_X9_gales_84 (n : Nat) (t0 : Int32) (x1 : Int32) (x2 : Int32) (x3 : Int32) (x4 : Int32) (x5 : Int32) (x6 : Int32) (M : Mem) : Option ((Int32 × Int32 × Mem) ⊕ ((Int32 × Int32 × Mem) ⊕ (Int32 × Mem))) := if t0 = 0 then (j_X9_gales_98 n  (0 : Int32) x1 x2 x3 x4 x5 x6 t0 M) else (j_X9_gales_98 n  (9 : Int32) x1 x2 x3 x4 x5 x6 t0 M)
def b_X9_gales_62 (n : Nat) (x1 : Int32) (x2 : Int32) (x3 : Int32) (x4 : Int32) (q : (Int32 × Int32 × Mem)) : Option ((Int32 × Int32 × Mem) ⊕ ((Int32 × Int32 × Mem) ⊕ (Int32 × Mem))) := match q with
  | (x5, x6, M) => if x1 ≤ x6 then (mr (j_X9_gales_131 n  x1 x2 x3 x4 x5 M)) else (if ((x4 >>> (x6 &&& 31)) &&& (1 : Int32)) = (1 : Int32) then (j_X9_gales_84 n  (1 : Int32) x1 x2 x3 x4 x5 x6 M) else (j_X9_gales_84 n  (0 : Int32) x1 x2 x3 x4 x5 x6 M))
def b_X9_gales_44 (n : Nat) (x1 : Int32) (x2 : Int32) (q : (Int32 × Int32 × Mem)) : Option ((Int32 × Int32 × Mem) ⊕ (Int32 × Mem)) := match q with
  | (x3, x4, M) => if ((1 : Int32) <<< (x1 &&& 31)) ≤ x4 then (mr (some (x3, si M 0 52 (-1 : Int32)))) else (bd (f_X9_tries n   M) (fun q8 => gl (b_X9_gales_62 n  x1 x2 x3 x4) n ((1 : Int32), (0 : Int32), q8)))
def j_X9_gales_30 (n : Nat) (t0 : Int32) (x1 : Int32) (x2 : Int32) (M : Mem) : Option (Int32 × Mem) := bd (f_X9_right n  t0 (1 : Int32) M) (fun q9 => if q9.1 = 0 then (some ((0 : Int32), q9.2)) else (gl (b_X9_gales_44 n  x1 x2) n ((0 : Int32), (0 : Int32), q9.2)))
def j_X9_gales_29 (n : Nat) (x1 : Int32) (x2 : Int32) (M : Mem) : Option (Int32 × Mem) := j_X9_gales_30 n  (0 : Int32) x1 x2 M
def f_X9_gales (n : Nat) (x1 : Int32) (x2 : Int32) (M : Mem) : Option (Int32 × Mem) := bd (f_X9_within n  x1 (1 : Int32) (5 : Int32) (si M 0 0 (0 : Int32))) (fun q11 => if q11.1 = 0 then (j_X9_gales_29 n  x1 x2 q11.2) else (bd (f_X9_within n  x2 (0 : Int32) (10 : Int32) q11.2) (fun q13 => if q13.1 = 0 then (j_X9_gales_29 n  x1 x2 q13.2) else (j_X9_gales_30 n  (1 : Int32) x1 x2 q13.2))))
set_option maxHeartbeats 4000000 in
set_option maxRecDepth 100000 in
theorem c_X9_gales (l : Launch) (w : Wd) {X : (Nat → Prop) → State → Heap → Prop} (hXk : XOK X) (n : Nat) (x1 : Int32) (x2 : Int32) (M : Mem) (res : Int32 × Mem) (hf : f_X9_gales n  x1 x2 M = some res) : CG l w layM 24 X yX9_gales cX9_gales 8 (some .int) 4 [.ref (w.2.2.1 0), .int x1, .int x2] M (GQi w layM 24 res) := by
  refine cg_start (by decide +kernel) (Nat.le_of_ble_eq_true rfl) ?_
  intro p e s m args below meth c F hr hlk hX hG ls hl
  have F : FX w p m c cX9_gales 8 s args RX9 := F
  have hx := F.1.1
  have hb := F.1.2.1
  have hl : lv_has ls 8 [(0, .ref (w.2.2.1 0)), (1, .int x1), (2, .int x2)] := hl
  have hJ44 : ∀ (x1 : Int32) (x2 : Int32) (x3 : Int32) (x4 : Int32) (M : Mem) (H : Heap) (locs : List Loc) (ls : Array Slot), gl (b_X9_gales_44 n  x1 x2) n (x3, x4, M) = some res → GI w layM 24 s.heap M H locs → lv_has ls 8 [(0, .ref (w.2.2.1 0)), (1, .int x1), (2, .int x2), (3, .int x3), (4, .int x4)] → W p l e (Rm 4) s m args below meth c H locs 0 0 (MQ below (GQi w layM 24 res s.heap.size) args s 0 0 (gA w.2.2.1 24 s.heap.size)) (F0 m 44 ls []) := by
    intro x1 x2 x3 x4 M H locs ls hf hG hl
    refine gl_run (P := fun (q : (Int32 × Int32 × Mem)) => ∀ (H : Heap) (locs : List Loc) (ls : Array Slot), GI w layM 24 s.heap q.2.2 H locs → lv_has ls 8 [(0, .ref (w.2.2.1 0)), (1, .int x1), (2, .int x2), (3, .int q.1), (4, .int q.2.1)] → W p l e (Rm 4) s m args below meth c H locs 0 0 (MQ below (GQi w layM 24 res s.heap.size) args s 0 0 (gA w.2.2.1 24 s.heap.size)) (F0 m 44 ls [])) ?_ n (x3, x4, M) hf H locs ls hG hl
    clear hf hG hl ls locs H M x3 x4
    rintro ⟨x3, x4, M⟩ rr44 hf hI44 hE44 H locs ls hG hl
    try dsimp only at hG hl ⊢
    have hJ145 : ∀ (t0 : Int32) (t1 : Int32) (x4 : Int32) (M : Mem) (H : Heap) (locs : List Loc) (ls : Array Slot), j_X9_gales_145 n  t0 t1 x1 x2 x4 M = some rr44 → GI w layM 24 s.heap M H locs → lv_has ls 8 [(0, .ref (w.2.2.1 0)), (1, .int x1), (2, .int x2), (4, .int x4)] → W p l e (Rm 4) s m args below meth c H locs 0 0 (MQ below (GQi w layM 24 res s.heap.size) args s 0 0 (gA w.2.2.1 24 s.heap.size)) (F0 m 145 ls [.int t0, .int t1]) := by
      intro t0 t1 x4 M H locs ls hf hG hl
      unfold j_X9_gales_145 at hf
      refine lv_iadd hx hb dX9_gales_145 ?_
      refine lv_istore_n (lv' := [(3, .int (t1 + t0)), (0, .ref (w.2.2.1 0)), (1, .int x1), (2, .int x2), (4, .int x4)]) hx hb dX9_gales_146 rfl hl (by decide) rfl (fun ls hl => ?_)
      refine lv_iinc (v := (x4 + (1 : Int32))) (lv' := [(4, .int (x4 + (1 : Int32))), (3, .int (t1 + t0)), (0, .ref (w.2.2.1 0)), (1, .int x1), (2, .int x2)]) hx hb dX9_gales_147 hl (k := 4) rfl rfl (by decide) rfl (fun ls hl => ?_)
      refine lv_goto (tgt := 44) hx hb dX9_gales_150 (by decide) ?_
      exact hI44 _ (Option.some.inj hf).symm _ _ ls hG (lv_sub hl [2, 3, 4, 1, 0] rfl)
    have hJ131 : ∀ (x3 : Int32) (x4 : Int32) (x5 : Int32) (M : Mem) (H : Heap) (locs : List Loc) (ls : Array Slot), j_X9_gales_131 n  x1 x2 x3 x4 x5 M = some rr44 → GI w layM 24 s.heap M H locs → lv_has ls 8 [(0, .ref (w.2.2.1 0)), (1, .int x1), (2, .int x2), (3, .int x3), (4, .int x4), (5, .int x5)] → W p l e (Rm 4) s m args below meth c H locs 0 0 (MQ below (GQi w layM 24 res s.heap.size) args s 0 0 (gA w.2.2.1 24 s.heap.size)) (F0 m 131 ls []) := by
      intro x3 x4 x5 M H locs ls hf hG hl
      unfold j_X9_gales_131 at hf
      refine lv_iload_n hx hb dX9_gales_131 rfl (lv_at hl 3 rfl) ?_
      refine lv_aload_n hx hb dX9_gales_132 rfl (lv_at hl 0 rfl) ?_
      refine g_getI F hG mo_0 (by decide) (by decide) lk_X9_311 rfl dX9_gales_133 ?_
      refine lv_if_ne (tgt := 144) hx hb dX9_gales_136 (by decide) (fun c1 => ?_) (fun c1 => ?_)
      · replace hf := if_f c1 hf
        refine lv_iconst (v := 0) hx hb dX9_gales_144 (by decide) ?_
        exact hJ145 _ _ _ _ _ _ ls hf hG (lv_sub hl [0, 1, 2, 4] rfl)
      · replace hf := if_t c1 hf
        refine lv_iload hx hb dX9_gales_139 (lv_at hl 5 rfl) ?_
        refine lv_goto (tgt := 145) hx hb dX9_gales_141 (by decide) ?_
        exact hJ145 _ _ _ _ _ _ ls hf hG (lv_sub hl [0, 1, 2, 4] rfl)
    have hJ62 : ∀ (x3 : Int32) (x4 : Int32) (x5 : Int32) (x6 : Int32) (M : Mem) (H : Heap) (locs : List Loc) (ls : Array Slot), gl (b_X9_gales_62 n  x1 x2 x3 x4) n (x5, x6, M) = some rr44 → GI w layM 24 s.heap M H locs → lv_has ls 8 [(0, .ref (w.2.2.1 0)), (1, .int x1), (2, .int x2), (3, .int x3), (4, .int x4), (5, .int x5), (6, .int x6)] → W p l e (Rm 4) s m args below meth c H locs 0 0 (MQ below (GQi w layM 24 res s.heap.size) args s 0 0 (gA w.2.2.1 24 s.heap.size)) (F0 m 62 ls []) := by
      intro x3 x4 x5 x6 M H locs ls hf hG hl
      refine gl_run (P := fun (q : (Int32 × Int32 × Mem)) => ∀ (H : Heap) (locs : List Loc) (ls : Array Slot), GI w layM 24 s.heap q.2.2 H locs → lv_has ls 8 [(0, .ref (w.2.2.1 0)), (1, .int x1), (2, .int x2), (3, .int x3), (4, .int x4), (5, .int q.1), (6, .int q.2.1)] → W p l e (Rm 4) s m args below meth c H locs 0 0 (MQ below (GQi w layM 24 res s.heap.size) args s 0 0 (gA w.2.2.1 24 s.heap.size)) (F0 m 62 ls [])) ?_ n (x5, x6, M) hf H locs ls hG hl
      clear hf hG hl ls locs H M x5 x6
      rintro ⟨x5, x6, M⟩ rr62 hf hI62 hE62 H locs ls hG hl
      try dsimp only at hG hl ⊢
      have hJ116 : ∀ (t0 : Int32) (t1 : Int32) (x6 : Int32) (M : Mem) (H : Heap) (locs : List Loc) (ls : Array Slot), j_X9_gales_116 n  t0 t1 x1 x2 x3 x4 x6 M = some rr62 → GI w layM 24 s.heap M H locs → lv_has ls 8 [(0, .ref (w.2.2.1 0)), (1, .int x1), (2, .int x2), (3, .int x3), (4, .int x4), (6, .int x6)] → W p l e (Rm 4) s m args below meth c H locs 0 0 (MQ below (GQi w layM 24 res s.heap.size) args s 0 0 (gA w.2.2.1 24 s.heap.size)) (F0 m 116 ls [.int t0, .int t1]) := by
        intro t0 t1 x6 M H locs ls hf hG hl
        unfold j_X9_gales_116 at hf
        refine lv_imul hx hb dX9_gales_116 ?_
        refine lv_istore (lv' := [(5, .int (t1 * t0)), (0, .ref (w.2.2.1 0)), (1, .int x1), (2, .int x2), (3, .int x3), (4, .int x4), (6, .int x6)]) hx hb dX9_gales_117 hl (by decide) rfl (fun ls hl => ?_)
        refine lv_aload_n hx hb dX9_gales_119 rfl (lv_at hl 1 rfl) ?_
        refine lv_bipush (v := 54) hx hb dX9_gales_120 (by decide) ?_
        replace hf := bd_some hf
        obtain ⟨q2, eq2, hf⟩ := hf
        refine gx_callv hG (gx_runV hXk F hX hG (c_X9_dayGoes l w hXk n  (54 : Int32) _ _ eq2) cv_X9_364 ⟨Nat.le_of_ble_eq_true rfl, Nat.le_of_ble_eq_true rfl⟩ (g_recv F hG mo_0 (by decide) rfl) rfl hl.1 rfl (Nat.le_of_ble_eq_true rfl) dX9_gales_122 ⟨Nat.le_refl _, Nat.le_refl _⟩) (fun H locs hG => ?_)
        refine lv_iinc (v := (x6 + (1 : Int32))) (lv' := [(6, .int (x6 + (1 : Int32))), (5, .int (t1 * t0)), (0, .ref (w.2.2.1 0)), (1, .int x1), (2, .int x2), (3, .int x3), (4, .int x4)]) hx hb dX9_gales_125 hl (k := 6) rfl rfl (by decide) rfl (fun ls hl => ?_)
        refine lv_goto (tgt := 62) hx hb dX9_gales_128 (by decide) ?_
        exact hI62 _ (Option.some.inj hf).symm _ _ ls hG (lv_sub hl [2, 3, 4, 5, 6, 1, 0] rfl)
      have hJ98 : ∀ (t0 : Int32) (x5 : Int32) (x6 : Int32) (x7 : Int32) (M : Mem) (H : Heap) (locs : List Loc) (ls : Array Slot), j_X9_gales_98 n  t0 x1 x2 x3 x4 x5 x6 x7 M = some rr62 → GI w layM 24 s.heap M H locs → lv_has ls 8 [(0, .ref (w.2.2.1 0)), (1, .int x1), (2, .int x2), (3, .int x3), (4, .int x4), (5, .int x5), (6, .int x6), (7, .int x7)] → W p l e (Rm 4) s m args below meth c H locs 0 0 (MQ below (GQi w layM 24 res s.heap.size) args s 0 0 (gA w.2.2.1 24 s.heap.size)) (F0 m 98 ls [.int t0, .ref (w.2.2.1 0)]) := by
        intro t0 x5 x6 x7 M H locs ls hf hG hl
        unfold j_X9_gales_98 at hf
        refine g_putI F hG mo_0 (by decide) (by decide) lkv_X9_78 rfl rfl rfl dX9_gales_98 (fun H locs hG => ?_)
        refine lv_iload hx hb dX9_gales_101 (lv_at hl 5 rfl) ?_
        refine lv_iload hx hb dX9_gales_103 (lv_at hl 7 rfl) ?_
        refine lv_if_eq (tgt := 112) hx hb dX9_gales_105 (by decide) (fun c3 => ?_) (fun c3 => ?_)
        · replace hf := if_t c3 hf
          refine lv_bipush (v := 10) hx hb dX9_gales_112 (by decide) ?_
          refine lv_iload_n hx hb dX9_gales_114 rfl (lv_at hl 2 rfl) ?_
          refine lv_isub hx hb dX9_gales_115 ?_
          exact hJ116 _ _ _ _ _ _ ls hf hG (lv_sub hl [0, 1, 2, 3, 4, 6] rfl)
        · replace hf := if_f c3 hf
          refine lv_iload_n hx hb dX9_gales_108 rfl (lv_at hl 2 rfl) ?_
          refine lv_goto (tgt := 116) hx hb dX9_gales_109 (by decide) ?_
          exact hJ116 _ _ _ _ _ _ ls hf hG (lv_sub hl [0, 1, 2, 3, 4, 6] rfl)
      have hJ84 : ∀ (t0 : Int32) (x5 : Int32) (x6 : Int32) (M : Mem) (H : Heap) (locs : List Loc) (ls : Array Slot), j_X9_gales_84 n  t0 x1 x2 x3 x4 x5 x6 M = some rr62 → GI w layM 24 s.heap M H locs → lv_has ls 8 [(0, .ref (w.2.2.1 0)), (1, .int x1), (2, .int x2), (3, .int x3), (4, .int x4), (5, .int x5), (6, .int x6)] → W p l e (Rm 4) s m args below meth c H locs 0 0 (MQ below (GQi w layM 24 res s.heap.size) args s 0 0 (gA w.2.2.1 24 s.heap.size)) (F0 m 84 ls [.int t0]) := by
        intro t0 x5 x6 M H locs ls hf hG hl
        unfold j_X9_gales_84 at hf
        refine lv_istore (lv' := [(7, .int t0), (0, .ref (w.2.2.1 0)), (1, .int x1), (2, .int x2), (3, .int x3), (4, .int x4), (5, .int x5), (6, .int x6)]) hx hb dX9_gales_84 hl (by decide) rfl (fun ls hl => ?_)
        refine lv_aload_n hx hb dX9_gales_86 rfl (lv_at hl 1 rfl) ?_
        refine lv_iload hx hb dX9_gales_87 (lv_at hl 0 rfl) ?_
        refine lv_if_eq (tgt := 97) hx hb dX9_gales_89 (by decide) (fun c4 => ?_) (fun c4 => ?_)
        · replace hf := if_t c4 hf
          refine lv_iconst (v := 0) hx hb dX9_gales_97 (by decide) ?_
          exact hJ98 _ _ _ _ _ _ _ ls hf hG (lv_sub hl [1, 2, 3, 4, 5, 6, 7, 0] rfl)
        · replace hf := if_f c4 hf
          refine lv_bipush (v := 9) hx hb dX9_gales_92 (by decide) ?_
          refine lv_goto (tgt := 98) hx hb dX9_gales_94 (by decide) ?_
          exact hJ98 _ _ _ _ _ _ _ ls hf hG (lv_sub hl [1, 2, 3, 4, 5, 6, 7, 0] rfl)
      dsimp only [b_X9_gales_62] at hf
      refine lv_iload hx hb dX9_gales_62 (lv_at hl 6 rfl) ?_
      refine lv_iload_n hx hb dX9_gales_64 rfl (lv_at hl 1 rfl) ?_
      refine lv_icmp_ge (tgt := 131) hx hb dX9_gales_65 (by decide) (fun c5 => ?_) (fun c5 => ?_)
      · replace hf := if_t c5 hf
        replace hf := mr_some hf
        obtain ⟨z62, hf, hz⟩ := hf
        rw [hE62 _ hz] at hf
        exact hJ131 _ _ _ _ _ _ ls hf hG (lv_sub hl [0, 1, 2, 3, 4, 5] rfl)
      · replace hf := if_f c5 hf
        refine lv_iload hx hb dX9_gales_68 (lv_at hl 4 rfl) ?_
        refine lv_iload hx hb dX9_gales_70 (lv_at hl 6 rfl) ?_
        refine lv_ishr hx hb dX9_gales_72 ?_
        refine lv_iconst (v := 1) hx hb dX9_gales_73 (by decide) ?_
        refine lv_iand hx hb dX9_gales_74 ?_
        refine lv_iconst (v := 1) hx hb dX9_gales_75 (by decide) ?_
        refine lv_icmp_ne (tgt := 83) hx hb dX9_gales_76 (by decide) (fun c6 => ?_) (fun c6 => ?_)
        · replace hf := if_f c6 hf
          refine lv_iconst (v := 0) hx hb dX9_gales_83 (by decide) ?_
          exact hJ84 _ _ _ _ _ _ ls hf hG (lv_sub hl [0, 1, 2, 3, 4, 5, 6] rfl)
        · replace hf := if_t c6 hf
          refine lv_iconst (v := 1) hx hb dX9_gales_79 (by decide) ?_
          refine lv_goto (tgt := 84) hx hb dX9_gales_80 (by decide) ?_
          exact hJ84 _ _ _ _ _ _ ls hf hG (lv_sub hl [0, 1, 2, 3, 4, 5, 6] rfl)
    dsimp only [b_X9_gales_44] at hf
    refine lv_iload hx hb dX9_gales_44 (lv_at hl 4 rfl) ?_
    refine lv_iconst (v := 1) hx hb dX9_gales_46 (by decide) ?_
    refine lv_iload_n hx hb dX9_gales_47 rfl (lv_at hl 1 rfl) ?_
    refine lv_ishl hx hb dX9_gales_48 ?_
    refine lv_icmp_ge (tgt := 153) hx hb dX9_gales_49 (by decide) (fun c7 => ?_) (fun c7 => ?_)
    · replace hf := if_t c7 hf
      refine lv_aload_n hx hb dX9_gales_153 rfl (lv_at hl 0 rfl) ?_
      refine lv_iconst (v := -1) hx hb dX9_gales_154 (by decide) ?_
      refine g_putI F hG mo_0 (by decide) (by decide) lkv_X9_78 rfl rfl rfl dX9_gales_155 (fun H locs hG => ?_)
      refine lv_iload_n hx hb dX9_gales_158 rfl (lv_at hl 3 rfl) ?_
      replace hf := mr_some hf
      obtain ⟨z44, hf, hz⟩ := hf
      rw [hE44 _ hz] at hf
      exact cg_iret F hr hlk hG hf dX9_gales_159
    · replace hf := if_f c7 hf
      refine lv_iconst (v := 1) hx hb dX9_gales_52 (by decide) ?_
      refine lv_istore (lv' := [(5, .int (1 : Int32)), (0, .ref (w.2.2.1 0)), (1, .int x1), (2, .int x2), (3, .int x3), (4, .int x4)]) hx hb dX9_gales_53 hl (by decide) rfl (fun ls hl => ?_)
      refine lv_aload_n hx hb dX9_gales_55 rfl (lv_at hl 1 rfl) ?_
      replace hf := bd_some hf
      obtain ⟨q8, eq8, hf⟩ := hf
      refine gx_callv hG (gx_runV hXk F hX hG (c_X9_tries l w hXk n   _ _ eq8) cv_X9_367 ⟨Nat.le_of_ble_eq_true rfl, Nat.le_of_ble_eq_true rfl⟩ (g_recv F hG mo_0 (by decide) rfl) rfl hl.1 rfl (Nat.le_of_ble_eq_true rfl) dX9_gales_56 ⟨Nat.le_refl _, Nat.le_refl _⟩) (fun H locs hG => ?_)
      refine lv_iconst (v := 0) hx hb dX9_gales_59 (by decide) ?_
      refine lv_istore (lv' := [(6, .int (0 : Int32)), (5, .int (1 : Int32)), (0, .ref (w.2.2.1 0)), (1, .int x1), (2, .int x2), (3, .int x3), (4, .int x4)]) hx hb dX9_gales_60 hl (by decide) rfl (fun ls hl => ?_)
      exact hJ62 _ _ _ _ _ _ _ ls hf hG (lv_sub hl [2, 3, 4, 5, 6, 1, 0] rfl)
  have hJ30 : ∀ (t0 : Int32) (x1 : Int32) (x2 : Int32) (M : Mem) (H : Heap) (locs : List Loc) (ls : Array Slot), j_X9_gales_30 n  t0 x1 x2 M = some res → GI w layM 24 s.heap M H locs → lv_has ls 8 [(0, .ref (w.2.2.1 0)), (1, .int x1), (2, .int x2)] → W p l e (Rm 4) s m args below meth c H locs 0 0 (MQ below (GQi w layM 24 res s.heap.size) args s 0 0 (gA w.2.2.1 24 s.heap.size)) (F0 m 30 ls [.int t0, .ref (w.2.2.1 0)]) := by
    intro t0 x1 x2 M H locs ls hf hG hl
    unfold j_X9_gales_30 at hf
    refine lv_iconst (v := 1) hx hb dX9_gales_30 (by decide) ?_
    replace hf := bd_some hf
    obtain ⟨q9, eq9, hf⟩ := hf
    refine gx_calli hG (gx_runV hXk F hX hG (c_X9_right l w hXk n  t0 (1 : Int32) _ _ eq9) cv_X9_284 ⟨Nat.le_of_ble_eq_true rfl, Nat.le_of_ble_eq_true rfl⟩ (g_recv F hG mo_0 (by decide) rfl) rfl hl.1 rfl (Nat.le_of_ble_eq_true rfl) dX9_gales_31 ⟨Nat.le_refl _, Nat.le_refl _⟩) (fun H locs hG => ?_)
    refine lv_if_ne (tgt := 39) hx hb dX9_gales_34 (by decide) (fun c10 => ?_) (fun c10 => ?_)
    · replace hf := if_f c10 hf
      refine lv_iconst (v := 0) hx hb dX9_gales_39 (by decide) ?_
      refine lv_istore_n (lv' := [(3, .int (0 : Int32)), (0, .ref (w.2.2.1 0)), (1, .int x1), (2, .int x2)]) hx hb dX9_gales_40 rfl hl (by decide) rfl (fun ls hl => ?_)
      refine lv_iconst (v := 0) hx hb dX9_gales_41 (by decide) ?_
      refine lv_istore (lv' := [(4, .int (0 : Int32)), (3, .int (0 : Int32)), (0, .ref (w.2.2.1 0)), (1, .int x1), (2, .int x2)]) hx hb dX9_gales_42 hl (by decide) rfl (fun ls hl => ?_)
      exact hJ44 _ _ _ _ _ _ _ ls hf hG (lv_sub hl [2, 3, 4, 1, 0] rfl)
    · replace hf := if_t c10 hf
      refine lv_iconst (v := 0) hx hb dX9_gales_37 (by decide) ?_
      exact cg_iret F hr hlk hG hf dX9_gales_38
  have hJ29 : ∀ (x1 : Int32) (x2 : Int32) (M : Mem) (H : Heap) (locs : List Loc) (ls : Array Slot), j_X9_gales_29 n  x1 x2 M = some res → GI w layM 24 s.heap M H locs → lv_has ls 8 [(0, .ref (w.2.2.1 0)), (1, .int x1), (2, .int x2)] → W p l e (Rm 4) s m args below meth c H locs 0 0 (MQ below (GQi w layM 24 res s.heap.size) args s 0 0 (gA w.2.2.1 24 s.heap.size)) (F0 m 29 ls [.ref (w.2.2.1 0)]) := by
    intro x1 x2 M H locs ls hf hG hl
    unfold j_X9_gales_29 at hf
    refine lv_iconst (v := 0) hx hb dX9_gales_29 (by decide) ?_
    exact hJ30 _ _ _ _ _ _ ls hf hG (lv_sub hl [0, 1, 2] rfl)
  unfold f_X9_gales at hf
  refine lv_aload_n hx hb dX9_gales_0 rfl (lv_at hl 0 rfl) ?_
  refine lv_iconst (v := 0) hx hb dX9_gales_1 (by decide) ?_
  refine g_putI F hG mo_0 (by decide) (by decide) lkv_X9_102 rfl rfl rfl dX9_gales_2 (fun H locs hG => ?_)
  refine lv_aload_n hx hb dX9_gales_5 rfl (lv_at hl 0 rfl) ?_
  refine lv_iload_n hx hb dX9_gales_6 rfl (lv_at hl 1 rfl) ?_
  refine lv_iconst (v := 1) hx hb dX9_gales_7 (by decide) ?_
  refine lv_iconst (v := 5) hx hb dX9_gales_8 (by decide) ?_
  replace hf := bd_some hf
  obtain ⟨q11, eq11, hf⟩ := hf
  refine gx_calli hG (gx_runS hXk F hX hG (c_X9_within l w hXk n  x1 (1 : Int32) (5 : Int32) _ _ eq11) cs_X9_379 ⟨Nat.le_of_ble_eq_true rfl, Nat.le_of_ble_eq_true rfl⟩ rfl hl.1 rfl (Nat.le_of_ble_eq_true rfl) dX9_gales_9 ⟨Nat.le_refl _, Nat.le_refl _⟩) (fun H locs hG => ?_)
  refine lv_if_eq (tgt := 29) hx hb dX9_gales_12 (by decide) (fun c12 => ?_) (fun c12 => ?_)
  · replace hf := if_t c12 hf
    exact hJ29 _ _ _ _ _ ls hf hG (lv_sub hl [0, 1, 2] rfl)
  · replace hf := if_f c12 hf
    refine lv_iload_n hx hb dX9_gales_15 rfl (lv_at hl 2 rfl) ?_
    refine lv_iconst (v := 0) hx hb dX9_gales_16 (by decide) ?_
    refine lv_bipush (v := 10) hx hb dX9_gales_17 (by decide) ?_
    replace hf := bd_some hf
    obtain ⟨q13, eq13, hf⟩ := hf
    refine gx_calli hG (gx_runS hXk F hX hG (c_X9_within l w hXk n  x2 (0 : Int32) (10 : Int32) _ _ eq13) cs_X9_379 ⟨Nat.le_of_ble_eq_true rfl, Nat.le_of_ble_eq_true rfl⟩ rfl hl.1 rfl (Nat.le_of_ble_eq_true rfl) dX9_gales_19 ⟨Nat.le_refl _, Nat.le_refl _⟩) (fun H locs hG => ?_)
    refine lv_if_eq (tgt := 29) hx hb dX9_gales_22 (by decide) (fun c14 => ?_) (fun c14 => ?_)
    · replace hf := if_t c14 hf
      exact hJ29 _ _ _ _ _ ls hf hG (lv_sub hl [0, 1, 2] rfl)
    · replace hf := if_f c14 hf
      refine lv_iconst (v := 1) hx hb dX9_gales_25 (by decide) ?_
      refine lv_goto (tgt := 30) hx hb dX9_gales_26 (by decide) ?_
      exact hJ30 _ _ _ _ _ _ ls hf hG (lv_sub hl [0, 1, 2] rfl)

def f_X9_generous (n : Nat) (x1 : Int32) (M : Mem) : Option (Mem) := bd (f_X9_bounded n  ((gi M 12 (55 : Int32).toNatClampNeg) + (5 : Int32)) (0 : Int32) (999 : Int32) M) (fun q1 => ck (inb ((92 : Int32) + x1) 108) (bd (f_X9_bounded n  ((gi (si q1.2 12 (55 : Int32).toNatClampNeg q1.1) 12 ((92 : Int32) + x1).toNatClampNeg) - (5 : Int32)) (0 : Int32) (99 : Int32) (si q1.2 12 (55 : Int32).toNatClampNeg q1.1)) (fun q3 => ck (inb ((92 : Int32) + x1) 108) (some (si q3.2 12 ((92 : Int32) + x1).toNatClampNeg q3.1)))))
set_option maxHeartbeats 4000000 in
set_option maxRecDepth 100000 in
theorem c_X9_generous (l : Launch) (w : Wd) {X : (Nat → Prop) → State → Heap → Prop} (hXk : XOK X) (n : Nat) (x1 : Int32) (M : Mem) (res : Mem) (hf : f_X9_generous n  x1 M = some res) : CG l w layM 24 X yX9_generous cX9_generous 2 none 1 [.ref (w.2.2.1 0), .int x1] M (GQv w layM 24 res) := by
  refine cg_start (by decide +kernel) (Nat.le_of_ble_eq_true rfl) ?_
  intro p e s m args below meth c F hr hlk hX hG ls hl
  have F : FX w p m c cX9_generous 2 s args RX9 := F
  have hx := F.1.1
  have hb := F.1.2.1
  have hl : lv_has ls 2 [(0, .ref (w.2.2.1 0)), (1, .int x1)] := hl
  unfold f_X9_generous at hf
  refine lv_aload_n hx hb dX9_generous_0 rfl (lv_at hl 0 rfl) ?_
  refine g_getR F hG 12 mo_0 (by decide) (by decide) lk_X9_63 rfl dX9_generous_1 ?_
  refine lv_bipush (v := 55) hx hb dX9_generous_4 (by decide) ?_
  refine lv_aload_n hx hb dX9_generous_6 rfl (lv_at hl 0 rfl) ?_
  refine g_getR F hG 12 mo_0 (by decide) (by decide) lk_X9_63 rfl dX9_generous_7 ?_
  refine lv_bipush (v := 55) hx hb dX9_generous_10 (by decide) ?_
  refine g_iald F hG oM_12 (by decide) dX9_generous_12 ?_
  refine lv_iconst (v := 5) hx hb dX9_generous_13 (by decide) ?_
  refine lv_iadd hx hb dX9_generous_14 ?_
  refine lv_iconst (v := 0) hx hb dX9_generous_15 (by decide) ?_
  refine lv_sipush (v := 999) hx hb dX9_generous_16 (by decide) ?_
  replace hf := bd_some hf
  obtain ⟨q1, eq1, hf⟩ := hf
  refine gx_calli hG (gx_runS hXk F hX hG (c_X9_bounded l w hXk n  ((gi M 12 (55 : Int32).toNatClampNeg) + (5 : Int32)) (0 : Int32) (999 : Int32) _ _ eq1) cs_X9_340 ⟨Nat.le_of_ble_eq_true rfl, Nat.le_of_ble_eq_true rfl⟩ rfl hl.1 rfl (Nat.le_of_ble_eq_true rfl) dX9_generous_19 ⟨Nat.le_refl _, Nat.le_refl _⟩) (fun H locs hG => ?_)
  refine g_iast F hG oM_12 (by decide) dX9_generous_22 (fun H locs hG => ?_)
  refine lv_aload_n hx hb dX9_generous_23 rfl (lv_at hl 0 rfl) ?_
  refine g_getR F hG 12 mo_0 (by decide) (by decide) lk_X9_63 rfl dX9_generous_24 ?_
  refine lv_bipush (v := 92) hx hb dX9_generous_27 (by decide) ?_
  refine lv_iload_n hx hb dX9_generous_29 rfl (lv_at hl 1 rfl) ?_
  refine lv_iadd hx hb dX9_generous_30 ?_
  refine lv_aload_n hx hb dX9_generous_31 rfl (lv_at hl 0 rfl) ?_
  refine g_getR F hG 12 mo_0 (by decide) (by decide) lk_X9_63 rfl dX9_generous_32 ?_
  refine lv_bipush (v := 92) hx hb dX9_generous_35 (by decide) ?_
  refine lv_iload_n hx hb dX9_generous_37 rfl (lv_at hl 1 rfl) ?_
  refine lv_iadd hx hb dX9_generous_38 ?_
  replace hf := ck_some hf
  obtain ⟨k2, hf⟩ := hf
  refine g_iald F hG oM_12 k2 dX9_generous_39 ?_
  refine lv_iconst (v := 5) hx hb dX9_generous_40 (by decide) ?_
  refine lv_isub hx hb dX9_generous_41 ?_
  refine lv_iconst (v := 0) hx hb dX9_generous_42 (by decide) ?_
  refine lv_bipush (v := 99) hx hb dX9_generous_43 (by decide) ?_
  replace hf := bd_some hf
  obtain ⟨q3, eq3, hf⟩ := hf
  refine gx_calli hG (gx_runS hXk F hX hG (c_X9_bounded l w hXk n  ((gi (si q1.2 12 (55 : Int32).toNatClampNeg q1.1) 12 ((92 : Int32) + x1).toNatClampNeg) - (5 : Int32)) (0 : Int32) (99 : Int32) _ _ eq3) cs_X9_340 ⟨Nat.le_of_ble_eq_true rfl, Nat.le_of_ble_eq_true rfl⟩ rfl hl.1 rfl (Nat.le_of_ble_eq_true rfl) dX9_generous_45 ⟨Nat.le_refl _, Nat.le_refl _⟩) (fun H locs hG => ?_)
  replace hf := ck_some hf
  obtain ⟨k4, hf⟩ := hf
  refine g_iast F hG oM_12 k4 dX9_generous_48 (fun H locs hG => ?_)
  exact cg_vret F hr hlk hG hf dX9_generous_49

def j_X9_gains_25 (n : Nat) (x1 : Int32) (x3 : Int32) (M : Mem) : Option (Int32 × Mem) := bd (f_X9_daysGo n  (6 : Int32) M) (fun q1 => ck (inb ((92 : Int32) + x1) 108) (some ((((gi q1 12 ((92 : Int32) + x1).toNatClampNeg) + ((2 : Int32) * (gi q1 12 (57 : Int32).toNatClampNeg))) - ((4 : Int32) * x3)), q1)))
def j_X9_gains_14 (n : Nat) (x1 : Int32) (x2 : Int32) (x3 : Int32) (x4 : Int32) (M : Mem) : Option (Int32 × Mem) := if x4 = (1 : Int32) then (bd (f_X9_generous n  x2 M) (fun q4 => j_X9_gains_25 n  x1 x3 q4)) else (j_X9_gains_25 n  x1 x3 M)
def f_X9_gains (n : Nat) (x1 : Int32) (x2 : Int32) (x3 : Int32) (x4 : Int32) (M : Mem) : Option (Int32 × Mem) := bd (f_X9_tries n   M) (fun q5 => if x3 = (1 : Int32) then (bd (f_X9_generous n  x1 q5) (fun q7 => j_X9_gains_14 n  x1 x2 x3 x4 q7)) else (j_X9_gains_14 n  x1 x2 x3 x4 q5))
set_option maxHeartbeats 4000000 in
set_option maxRecDepth 100000 in
theorem c_X9_gains (l : Launch) (w : Wd) {X : (Nat → Prop) → State → Heap → Prop} (hXk : XOK X) (n : Nat) (x1 : Int32) (x2 : Int32) (x3 : Int32) (x4 : Int32) (M : Mem) (res : Int32 × Mem) (hf : f_X9_gains n  x1 x2 x3 x4 M = some res) : CG l w layM 24 X yX9_gains cX9_gains 5 (some .int) 5 [.ref (w.2.2.1 0), .int x1, .int x2, .int x3, .int x4] M (GQi w layM 24 res) := by
  refine cg_start (by decide +kernel) (Nat.le_of_ble_eq_true rfl) ?_
  intro p e s m args below meth c F hr hlk hX hG ls hl
  have F : FX w p m c cX9_gains 5 s args RX9 := F
  have hx := F.1.1
  have hb := F.1.2.1
  have hl : lv_has ls 5 [(0, .ref (w.2.2.1 0)), (1, .int x1), (2, .int x2), (3, .int x3), (4, .int x4)] := hl
  have hJ25 : ∀ (x1 : Int32) (x3 : Int32) (M : Mem) (H : Heap) (locs : List Loc) (ls : Array Slot), j_X9_gains_25 n  x1 x3 M = some res → GI w layM 24 s.heap M H locs → lv_has ls 5 [(0, .ref (w.2.2.1 0)), (1, .int x1), (3, .int x3)] → W p l e (Rm 5) s m args below meth c H locs 0 0 (MQ below (GQi w layM 24 res s.heap.size) args s 0 0 (gA w.2.2.1 24 s.heap.size)) (F0 m 25 ls []) := by
    intro x1 x3 M H locs ls hf hG hl
    unfold j_X9_gains_25 at hf
    refine lv_aload_n hx hb dX9_gains_25 rfl (lv_at hl 0 rfl) ?_
    refine lv_bipush (v := 6) hx hb dX9_gains_26 (by decide) ?_
    replace hf := bd_some hf
    obtain ⟨q1, eq1, hf⟩ := hf
    refine gx_callv hG (gx_runV hXk F hX hG (c_X9_daysGo l w hXk n  (6 : Int32) _ _ eq1) cv_X9_370 ⟨Nat.le_of_ble_eq_true rfl, Nat.le_of_ble_eq_true rfl⟩ (g_recv F hG mo_0 (by decide) rfl) rfl hl.1 rfl (Nat.le_of_ble_eq_true rfl) dX9_gains_28 ⟨Nat.le_refl _, Nat.le_refl _⟩) (fun H locs hG => ?_)
    refine lv_aload_n hx hb dX9_gains_31 rfl (lv_at hl 0 rfl) ?_
    refine g_getR F hG 12 mo_0 (by decide) (by decide) lk_X9_63 rfl dX9_gains_32 ?_
    refine lv_bipush (v := 92) hx hb dX9_gains_35 (by decide) ?_
    refine lv_iload_n hx hb dX9_gains_37 rfl (lv_at hl 1 rfl) ?_
    refine lv_iadd hx hb dX9_gains_38 ?_
    replace hf := ck_some hf
    obtain ⟨k2, hf⟩ := hf
    refine g_iald F hG oM_12 k2 dX9_gains_39 ?_
    refine lv_iconst (v := 2) hx hb dX9_gains_40 (by decide) ?_
    refine lv_aload_n hx hb dX9_gains_41 rfl (lv_at hl 0 rfl) ?_
    refine g_getR F hG 12 mo_0 (by decide) (by decide) lk_X9_63 rfl dX9_gains_42 ?_
    refine lv_bipush (v := 57) hx hb dX9_gains_45 (by decide) ?_
    refine g_iald F hG oM_12 (by decide) dX9_gains_47 ?_
    refine lv_imul hx hb dX9_gains_48 ?_
    refine lv_iadd hx hb dX9_gains_49 ?_
    refine lv_iconst (v := 4) hx hb dX9_gains_50 (by decide) ?_
    refine lv_iload_n hx hb dX9_gains_51 rfl (lv_at hl 2 rfl) ?_
    refine lv_imul hx hb dX9_gains_52 ?_
    refine lv_isub hx hb dX9_gains_53 ?_
    exact cg_iret F hr hlk hG hf dX9_gains_54
  have hJ14 : ∀ (x1 : Int32) (x2 : Int32) (x3 : Int32) (x4 : Int32) (M : Mem) (H : Heap) (locs : List Loc) (ls : Array Slot), j_X9_gains_14 n  x1 x2 x3 x4 M = some res → GI w layM 24 s.heap M H locs → lv_has ls 5 [(0, .ref (w.2.2.1 0)), (1, .int x1), (2, .int x2), (3, .int x3), (4, .int x4)] → W p l e (Rm 5) s m args below meth c H locs 0 0 (MQ below (GQi w layM 24 res s.heap.size) args s 0 0 (gA w.2.2.1 24 s.heap.size)) (F0 m 14 ls []) := by
    intro x1 x2 x3 x4 M H locs ls hf hG hl
    unfold j_X9_gains_14 at hf
    refine lv_iload hx hb dX9_gains_14 (lv_at hl 4 rfl) ?_
    refine lv_iconst (v := 1) hx hb dX9_gains_16 (by decide) ?_
    refine lv_icmp_ne (tgt := 25) hx hb dX9_gains_17 (by decide) (fun c3 => ?_) (fun c3 => ?_)
    · replace hf := if_f c3 hf
      exact hJ25 _ _ _ _ _ ls hf hG (lv_sub hl [0, 1, 3] rfl)
    · replace hf := if_t c3 hf
      refine lv_aload_n hx hb dX9_gains_20 rfl (lv_at hl 0 rfl) ?_
      refine lv_iload_n hx hb dX9_gains_21 rfl (lv_at hl 2 rfl) ?_
      replace hf := bd_some hf
      obtain ⟨q4, eq4, hf⟩ := hf
      refine gx_callv hG (gx_runV hXk F hX hG (c_X9_generous l w hXk n  x2 _ _ eq4) cv_X9_430 ⟨Nat.le_of_ble_eq_true rfl, Nat.le_of_ble_eq_true rfl⟩ (g_recv F hG mo_0 (by decide) rfl) rfl hl.1 rfl (Nat.le_of_ble_eq_true rfl) dX9_gains_22 ⟨Nat.le_refl _, Nat.le_refl _⟩) (fun H locs hG => ?_)
      exact hJ25 _ _ _ _ _ ls hf hG (lv_sub hl [0, 1, 3] rfl)
  unfold f_X9_gains at hf
  refine lv_aload_n hx hb dX9_gains_0 rfl (lv_at hl 0 rfl) ?_
  replace hf := bd_some hf
  obtain ⟨q5, eq5, hf⟩ := hf
  refine gx_callv hG (gx_runV hXk F hX hG (c_X9_tries l w hXk n   _ _ eq5) cv_X9_367 ⟨Nat.le_of_ble_eq_true rfl, Nat.le_of_ble_eq_true rfl⟩ (g_recv F hG mo_0 (by decide) rfl) rfl hl.1 rfl (Nat.le_of_ble_eq_true rfl) dX9_gains_1 ⟨Nat.le_refl _, Nat.le_refl _⟩) (fun H locs hG => ?_)
  refine lv_iload_n hx hb dX9_gains_4 rfl (lv_at hl 3 rfl) ?_
  refine lv_iconst (v := 1) hx hb dX9_gains_5 (by decide) ?_
  refine lv_icmp_ne (tgt := 14) hx hb dX9_gains_6 (by decide) (fun c6 => ?_) (fun c6 => ?_)
  · replace hf := if_f c6 hf
    exact hJ14 _ _ _ _ _ _ _ ls hf hG (lv_sub hl [0, 1, 2, 3, 4] rfl)
  · replace hf := if_t c6 hf
    refine lv_aload_n hx hb dX9_gains_9 rfl (lv_at hl 0 rfl) ?_
    refine lv_iload_n hx hb dX9_gains_10 rfl (lv_at hl 1 rfl) ?_
    replace hf := bd_some hf
    obtain ⟨q7, eq7, hf⟩ := hf
    refine gx_callv hG (gx_runV hXk F hX hG (c_X9_generous l w hXk n  x1 _ _ eq7) cv_X9_430 ⟨Nat.le_of_ble_eq_true rfl, Nat.le_of_ble_eq_true rfl⟩ (g_recv F hG mo_0 (by decide) rfl) rfl hl.1 rfl (Nat.le_of_ble_eq_true rfl) dX9_gains_11 ⟨Nat.le_refl _, Nat.le_refl _⟩) (fun H locs hG => ?_)
    exact hJ14 _ _ _ _ _ _ _ ls hf hG (lv_sub hl [0, 1, 2, 3, 4] rfl)

def j_X9_game_155 (n : Nat) (x3 : Int32) (x4 : Int32) (x5 : Int32) (M : Mem) : Option (Int32 × Mem) := if x3 = 0 then (some (x4, M)) else (some (x5, M))
def j_X9_game_149 (n : Nat) (x1 : Int32) (x2 : Int32) (x3 : Int32) (x4 : Int32) (x5 : Int32) (x6 : Int32) (M : Mem) : Option ((Int32 × Int32 × Int32 × Mem) ⊕ (Int32 × Mem)) := some (.inl (x4, x5, (x6 + (1 : Int32)), M))
def b_X9_game_59 (n : Nat) (x1 : Int32) (x2 : Int32) (x3 : Int32) (q : (Int32 × Int32 × Int32 × Mem)) : Option ((Int32 × Int32 × Int32 × Mem) ⊕ (Int32 × Mem)) := match q with
  | (x4, x5, x6, M) => if (4 : Int32) ≤ x6 then (mr (j_X9_game_155 n  x3 x4 x5 M)) else (bd (f_X9_gains n  x1 x2 ((1 : Int32) - (x6 / (2 : Int32))) (x6 - x6 / (2 : Int32) * (2 : Int32)) M) (fun q3 => bd (f_X9_gains n  x1 x2 (x6 / (2 : Int32)) (x6 - x6 / (2 : Int32) * (2 : Int32)) q3.2) (fun q4 => if q4.1 < q3.1 then (j_X9_game_149 n  x1 x2 x3 x4 x5 x6 q4.2) else (bd (f_X9_gains n  x2 x1 ((1 : Int32) - (x6 - x6 / (2 : Int32) * (2 : Int32))) (x6 / (2 : Int32)) q4.2) (fun q6 => bd (f_X9_gains n  x2 x1 (x6 - x6 / (2 : Int32) * (2 : Int32)) (x6 / (2 : Int32)) q6.2) (fun q7 => if q6.1 ≤ q7.1 then (if x5 = (-1 : Int32) then (j_X9_game_149 n  x1 x2 x3 (x4 + (1 : Int32)) (((10 : Int32) * (x6 / (2 : Int32))) + (x6 - x6 / (2 : Int32) * (2 : Int32))) x6 q7.2) else (j_X9_game_149 n  x1 x2 x3 (x4 + (1 : Int32)) x5 x6 q7.2)) else (j_X9_game_149 n  x1 x2 x3 x4 x5 x6 q7.2)))))))
def j_X9_game_41 (n : Nat) (t0 : Int32) (x1 : Int32) (x2 : Int32) (x3 : Int32) (M : Mem) : Option (Int32 × Mem) := bd (f_X9_right n  t0 (2 : Int32) M) (fun q10 => if q10.1 = 0 then (some ((0 : Int32), q10.2)) else (gl (b_X9_game_59 n  x1 x2 x3) n ((0 : Int32), (-1 : Int32), (0 : Int32), q10.2)))
def f_X9_game (n : Nat) (x1 : Int32) (x2 : Int32) (x3 : Int32) (M : Mem) : Option (Int32 × Mem) := bd (f_X9_isWard n  x1 (si M 0 0 (0 : Int32))) (fun q12 => if q12.1 = 0 then (some ((0 : Int32), q12.2)) else (bd (f_X9_isWard n  x2 q12.2) (fun q14 => if q14.1 = 0 then (some ((0 : Int32), q14.2)) else (bd (f_X9_isWhat n  x3 (1 : Int32) q14.2) (fun q16 => if q16.1 = 0 then (some ((0 : Int32), q16.2)) else (if x1 = x2 then (j_X9_game_41 n  (0 : Int32) x1 x2 x3 q16.2) else (j_X9_game_41 n  (1 : Int32) x1 x2 x3 q16.2)))))))
set_option maxHeartbeats 4000000 in
set_option maxRecDepth 100000 in
theorem c_X9_game (l : Launch) (w : Wd) {X : (Nat → Prop) → State → Heap → Prop} (hXk : XOK X) (n : Nat) (x1 : Int32) (x2 : Int32) (x3 : Int32) (M : Mem) (res : Int32 × Mem) (hf : f_X9_game n  x1 x2 x3 M = some res) : CG l w layM 24 X yX9_game cX9_game 9 (some .int) 6 [.ref (w.2.2.1 0), .int x1, .int x2, .int x3] M (GQi w layM 24 res) := by
  refine cg_start (by decide +kernel) (Nat.le_of_ble_eq_true rfl) ?_
  intro p e s m args below meth c F hr hlk hX hG ls hl
  have F : FX w p m c cX9_game 9 s args RX9 := F
  have hx := F.1.1
  have hb := F.1.2.1
  have hl : lv_has ls 9 [(0, .ref (w.2.2.1 0)), (1, .int x1), (2, .int x2), (3, .int x3)] := hl
  have hJ155 : ∀ (x3 : Int32) (x4 : Int32) (x5 : Int32) (M : Mem) (H : Heap) (locs : List Loc) (ls : Array Slot), j_X9_game_155 n  x3 x4 x5 M = some res → GI w layM 24 s.heap M H locs → lv_has ls 9 [(3, .int x3), (4, .int x4), (5, .int x5)] → W p l e (Rm 6) s m args below meth c H locs 0 0 (MQ below (GQi w layM 24 res s.heap.size) args s 0 0 (gA w.2.2.1 24 s.heap.size)) (F0 m 155 ls []) := by
    intro x3 x4 x5 M H locs ls hf hG hl
    unfold j_X9_game_155 at hf
    refine lv_iload_n hx hb dX9_game_155 rfl (lv_at hl 0 rfl) ?_
    refine lv_if_ne (tgt := 164) hx hb dX9_game_156 (by decide) (fun c1 => ?_) (fun c1 => ?_)
    · replace hf := if_f c1 hf
      refine lv_iload hx hb dX9_game_164 (lv_at hl 2 rfl) ?_
      exact cg_iret F hr hlk hG hf dX9_game_166
    · replace hf := if_t c1 hf
      refine lv_iload hx hb dX9_game_159 (lv_at hl 1 rfl) ?_
      refine lv_goto (tgt := 166) hx hb dX9_game_161 (by decide) ?_
      exact cg_iret F hr hlk hG hf dX9_game_166
  have hJ59 : ∀ (x1 : Int32) (x2 : Int32) (x3 : Int32) (x4 : Int32) (x5 : Int32) (x6 : Int32) (M : Mem) (H : Heap) (locs : List Loc) (ls : Array Slot), gl (b_X9_game_59 n  x1 x2 x3) n (x4, x5, x6, M) = some res → GI w layM 24 s.heap M H locs → lv_has ls 9 [(0, .ref (w.2.2.1 0)), (1, .int x1), (2, .int x2), (3, .int x3), (4, .int x4), (5, .int x5), (6, .int x6)] → W p l e (Rm 6) s m args below meth c H locs 0 0 (MQ below (GQi w layM 24 res s.heap.size) args s 0 0 (gA w.2.2.1 24 s.heap.size)) (F0 m 59 ls []) := by
    intro x1 x2 x3 x4 x5 x6 M H locs ls hf hG hl
    refine gl_run (P := fun (q : (Int32 × Int32 × Int32 × Mem)) => ∀ (H : Heap) (locs : List Loc) (ls : Array Slot), GI w layM 24 s.heap q.2.2.2 H locs → lv_has ls 9 [(0, .ref (w.2.2.1 0)), (1, .int x1), (2, .int x2), (3, .int x3), (4, .int q.1), (5, .int q.2.1), (6, .int q.2.2.1)] → W p l e (Rm 6) s m args below meth c H locs 0 0 (MQ below (GQi w layM 24 res s.heap.size) args s 0 0 (gA w.2.2.1 24 s.heap.size)) (F0 m 59 ls [])) ?_ n (x4, x5, x6, M) hf H locs ls hG hl
    clear hf hG hl ls locs H M x4 x5 x6
    rintro ⟨x4, x5, x6, M⟩ rr59 hf hI59 hE59 H locs ls hG hl
    try dsimp only at hG hl ⊢
    have hJ149 : ∀ (x4 : Int32) (x5 : Int32) (x6 : Int32) (M : Mem) (H : Heap) (locs : List Loc) (ls : Array Slot), j_X9_game_149 n  x1 x2 x3 x4 x5 x6 M = some rr59 → GI w layM 24 s.heap M H locs → lv_has ls 9 [(0, .ref (w.2.2.1 0)), (1, .int x1), (2, .int x2), (3, .int x3), (4, .int x4), (5, .int x5), (6, .int x6)] → W p l e (Rm 6) s m args below meth c H locs 0 0 (MQ below (GQi w layM 24 res s.heap.size) args s 0 0 (gA w.2.2.1 24 s.heap.size)) (F0 m 149 ls []) := by
      intro x4 x5 x6 M H locs ls hf hG hl
      unfold j_X9_game_149 at hf
      refine lv_iinc (v := (x6 + (1 : Int32))) (lv' := [(6, .int (x6 + (1 : Int32))), (0, .ref (w.2.2.1 0)), (1, .int x1), (2, .int x2), (3, .int x3), (4, .int x4), (5, .int x5)]) hx hb dX9_game_149 hl (k := 6) rfl rfl (by decide) rfl (fun ls hl => ?_)
      refine lv_goto (tgt := 59) hx hb dX9_game_152 (by decide) ?_
      exact hI59 _ (Option.some.inj hf).symm _ _ ls hG (lv_sub hl [1, 2, 3, 4, 5, 6, 0] rfl)
    dsimp only [b_X9_game_59] at hf
    refine lv_iload hx hb dX9_game_59 (lv_at hl 6 rfl) ?_
    refine lv_iconst (v := 4) hx hb dX9_game_61 (by decide) ?_
    refine lv_icmp_ge (tgt := 155) hx hb dX9_game_62 (by decide) (fun c2 => ?_) (fun c2 => ?_)
    · replace hf := if_t c2 hf
      replace hf := mr_some hf
      obtain ⟨z59, hf, hz⟩ := hf
      rw [hE59 _ hz] at hf
      exact hJ155 _ _ _ _ _ _ ls hf hG (lv_sub hl [3, 4, 5] rfl)
    · replace hf := if_f c2 hf
      refine lv_iload hx hb dX9_game_65 (lv_at hl 6 rfl) ?_
      refine lv_iconst (v := 2) hx hb dX9_game_67 (by decide) ?_
      refine lv_idiv hx hb dX9_game_68 (by decide) ?_
      refine lv_istore (lv' := [(7, .int (x6 / (2 : Int32))), (0, .ref (w.2.2.1 0)), (1, .int x1), (2, .int x2), (3, .int x3), (4, .int x4), (5, .int x5), (6, .int x6)]) hx hb dX9_game_69 hl (by decide) rfl (fun ls hl => ?_)
      refine lv_iload hx hb dX9_game_71 (lv_at hl 7 rfl) ?_
      refine lv_iconst (v := 2) hx hb dX9_game_73 (by decide) ?_
      refine lv_irem hx hb dX9_game_74 (by decide) ?_
      refine lv_istore (lv' := [(8, .int (x6 - x6 / (2 : Int32) * (2 : Int32))), (7, .int (x6 / (2 : Int32))), (0, .ref (w.2.2.1 0)), (1, .int x1), (2, .int x2), (3, .int x3), (4, .int x4), (5, .int x5), (6, .int x6)]) hx hb dX9_game_75 hl (by decide) rfl (fun ls hl => ?_)
      refine lv_aload_n hx hb dX9_game_77 rfl (lv_at hl 2 rfl) ?_
      refine lv_iload_n hx hb dX9_game_78 rfl (lv_at hl 3 rfl) ?_
      refine lv_iload_n hx hb dX9_game_79 rfl (lv_at hl 4 rfl) ?_
      refine lv_iconst (v := 1) hx hb dX9_game_80 (by decide) ?_
      refine lv_iload hx hb dX9_game_81 (lv_at hl 1 rfl) ?_
      refine lv_isub hx hb dX9_game_83 ?_
      refine lv_iload hx hb dX9_game_84 (lv_at hl 0 rfl) ?_
      replace hf := bd_some hf
      obtain ⟨q3, eq3, hf⟩ := hf
      refine gx_calli hG (gx_runV hXk F hX hG (c_X9_gains l w hXk n  x1 x2 ((1 : Int32) - (x6 / (2 : Int32))) (x6 - x6 / (2 : Int32) * (2 : Int32)) _ _ eq3) cv_X9_433 ⟨Nat.le_of_ble_eq_true rfl, Nat.le_of_ble_eq_true rfl⟩ (g_recv F hG mo_0 (by decide) rfl) rfl hl.1 rfl (Nat.le_of_ble_eq_true rfl) dX9_game_86 ⟨Nat.le_refl _, Nat.le_refl _⟩) (fun H locs hG => ?_)
      refine lv_aload_n hx hb dX9_game_89 rfl (lv_at hl 2 rfl) ?_
      refine lv_iload_n hx hb dX9_game_90 rfl (lv_at hl 3 rfl) ?_
      refine lv_iload_n hx hb dX9_game_91 rfl (lv_at hl 4 rfl) ?_
      refine lv_iload hx hb dX9_game_92 (lv_at hl 1 rfl) ?_
      refine lv_iload hx hb dX9_game_94 (lv_at hl 0 rfl) ?_
      replace hf := bd_some hf
      obtain ⟨q4, eq4, hf⟩ := hf
      refine gx_calli hG (gx_runV hXk F hX hG (c_X9_gains l w hXk n  x1 x2 (x6 / (2 : Int32)) (x6 - x6 / (2 : Int32) * (2 : Int32)) _ _ eq4) cv_X9_433 ⟨Nat.le_of_ble_eq_true rfl, Nat.le_of_ble_eq_true rfl⟩ (g_recv F hG mo_0 (by decide) rfl) rfl hl.1 rfl (Nat.le_of_ble_eq_true rfl) dX9_game_96 ⟨Nat.le_refl _, Nat.le_refl _⟩) (fun H locs hG => ?_)
      refine lv_icmp_gt (tgt := 149) hx hb dX9_game_99 (by decide) (fun c5 => ?_) (fun c5 => ?_)
      · replace hf := if_t c5 hf
        exact hJ149 _ _ _ _ _ _ ls hf hG (lv_sub hl [2, 3, 4, 5, 6, 7, 8] rfl)
      · replace hf := if_f c5 hf
        refine lv_aload_n hx hb dX9_game_102 rfl (lv_at hl 2 rfl) ?_
        refine lv_iload_n hx hb dX9_game_103 rfl (lv_at hl 4 rfl) ?_
        refine lv_iload_n hx hb dX9_game_104 rfl (lv_at hl 3 rfl) ?_
        refine lv_iconst (v := 1) hx hb dX9_game_105 (by decide) ?_
        refine lv_iload hx hb dX9_game_106 (lv_at hl 0 rfl) ?_
        refine lv_isub hx hb dX9_game_108 ?_
        refine lv_iload hx hb dX9_game_109 (lv_at hl 1 rfl) ?_
        replace hf := bd_some hf
        obtain ⟨q6, eq6, hf⟩ := hf
        refine gx_calli hG (gx_runV hXk F hX hG (c_X9_gains l w hXk n  x2 x1 ((1 : Int32) - (x6 - x6 / (2 : Int32) * (2 : Int32))) (x6 / (2 : Int32)) _ _ eq6) cv_X9_433 ⟨Nat.le_of_ble_eq_true rfl, Nat.le_of_ble_eq_true rfl⟩ (g_recv F hG mo_0 (by decide) rfl) rfl hl.1 rfl (Nat.le_of_ble_eq_true rfl) dX9_game_111 ⟨Nat.le_refl _, Nat.le_refl _⟩) (fun H locs hG => ?_)
        refine lv_aload_n hx hb dX9_game_114 rfl (lv_at hl 2 rfl) ?_
        refine lv_iload_n hx hb dX9_game_115 rfl (lv_at hl 4 rfl) ?_
        refine lv_iload_n hx hb dX9_game_116 rfl (lv_at hl 3 rfl) ?_
        refine lv_iload hx hb dX9_game_117 (lv_at hl 0 rfl) ?_
        refine lv_iload hx hb dX9_game_119 (lv_at hl 1 rfl) ?_
        replace hf := bd_some hf
        obtain ⟨q7, eq7, hf⟩ := hf
        refine gx_calli hG (gx_runV hXk F hX hG (c_X9_gains l w hXk n  x2 x1 (x6 - x6 / (2 : Int32) * (2 : Int32)) (x6 / (2 : Int32)) _ _ eq7) cv_X9_433 ⟨Nat.le_of_ble_eq_true rfl, Nat.le_of_ble_eq_true rfl⟩ (g_recv F hG mo_0 (by decide) rfl) rfl hl.1 rfl (Nat.le_of_ble_eq_true rfl) dX9_game_121 ⟨Nat.le_refl _, Nat.le_refl _⟩) (fun H locs hG => ?_)
        refine lv_icmp_le (tgt := 130) hx hb dX9_game_124 (by decide) (fun c8 => ?_) (fun c8 => ?_)
        · replace hf := if_t c8 hf
          refine lv_iinc (v := (x4 + (1 : Int32))) (lv' := [(4, .int (x4 + (1 : Int32))), (8, .int (x6 - x6 / (2 : Int32) * (2 : Int32))), (7, .int (x6 / (2 : Int32))), (0, .ref (w.2.2.1 0)), (1, .int x1), (2, .int x2), (3, .int x3), (5, .int x5), (6, .int x6)]) hx hb dX9_game_130 hl (k := 6) rfl rfl (by decide) rfl (fun ls hl => ?_)
          refine lv_iload hx hb dX9_game_133 (lv_at hl 7 rfl) ?_
          refine lv_iconst (v := -1) hx hb dX9_game_135 (by decide) ?_
          refine lv_icmp_ne (tgt := 149) hx hb dX9_game_136 (by decide) (fun c9 => ?_) (fun c9 => ?_)
          · replace hf := if_f c9 hf
            exact hJ149 _ _ _ _ _ _ ls hf hG (lv_sub hl [3, 4, 5, 6, 0, 7, 8] rfl)
          · replace hf := if_t c9 hf
            refine lv_bipush (v := 10) hx hb dX9_game_139 (by decide) ?_
            refine lv_iload hx hb dX9_game_141 (lv_at hl 2 rfl) ?_
            refine lv_imul hx hb dX9_game_143 ?_
            refine lv_iload hx hb dX9_game_144 (lv_at hl 1 rfl) ?_
            refine lv_iadd hx hb dX9_game_146 ?_
            refine lv_istore (lv' := [(5, .int (((10 : Int32) * (x6 / (2 : Int32))) + (x6 - x6 / (2 : Int32) * (2 : Int32)))), (4, .int (x4 + (1 : Int32))), (8, .int (x6 - x6 / (2 : Int32) * (2 : Int32))), (7, .int (x6 / (2 : Int32))), (0, .ref (w.2.2.1 0)), (1, .int x1), (2, .int x2), (3, .int x3), (6, .int x6)]) hx hb dX9_game_147 hl (by decide) rfl (fun ls hl => ?_)
            exact hJ149 _ _ _ _ _ _ ls hf hG (lv_sub hl [4, 5, 6, 7, 1, 0, 8] rfl)
        · replace hf := if_f c8 hf
          refine lv_goto (tgt := 149) hx hb dX9_game_127 (by decide) ?_
          exact hJ149 _ _ _ _ _ _ ls hf hG (lv_sub hl [2, 3, 4, 5, 6, 7, 8] rfl)
  have hJ41 : ∀ (t0 : Int32) (x1 : Int32) (x2 : Int32) (x3 : Int32) (M : Mem) (H : Heap) (locs : List Loc) (ls : Array Slot), j_X9_game_41 n  t0 x1 x2 x3 M = some res → GI w layM 24 s.heap M H locs → lv_has ls 9 [(0, .ref (w.2.2.1 0)), (1, .int x1), (2, .int x2), (3, .int x3)] → W p l e (Rm 6) s m args below meth c H locs 0 0 (MQ below (GQi w layM 24 res s.heap.size) args s 0 0 (gA w.2.2.1 24 s.heap.size)) (F0 m 41 ls [.int t0, .ref (w.2.2.1 0)]) := by
    intro t0 x1 x2 x3 M H locs ls hf hG hl
    unfold j_X9_game_41 at hf
    refine lv_iconst (v := 2) hx hb dX9_game_41 (by decide) ?_
    replace hf := bd_some hf
    obtain ⟨q10, eq10, hf⟩ := hf
    refine gx_calli hG (gx_runV hXk F hX hG (c_X9_right l w hXk n  t0 (2 : Int32) _ _ eq10) cv_X9_284 ⟨Nat.le_of_ble_eq_true rfl, Nat.le_of_ble_eq_true rfl⟩ (g_recv F hG mo_0 (by decide) rfl) rfl hl.1 rfl (Nat.le_of_ble_eq_true rfl) dX9_game_42 ⟨Nat.le_refl _, Nat.le_refl _⟩) (fun H locs hG => ?_)
    refine lv_if_ne (tgt := 50) hx hb dX9_game_45 (by decide) (fun c11 => ?_) (fun c11 => ?_)
    · replace hf := if_f c11 hf
      refine lv_iconst (v := 0) hx hb dX9_game_50 (by decide) ?_
      refine lv_istore (lv' := [(4, .int (0 : Int32)), (0, .ref (w.2.2.1 0)), (1, .int x1), (2, .int x2), (3, .int x3)]) hx hb dX9_game_51 hl (by decide) rfl (fun ls hl => ?_)
      refine lv_iconst (v := -1) hx hb dX9_game_53 (by decide) ?_
      refine lv_istore (lv' := [(5, .int (-1 : Int32)), (4, .int (0 : Int32)), (0, .ref (w.2.2.1 0)), (1, .int x1), (2, .int x2), (3, .int x3)]) hx hb dX9_game_54 hl (by decide) rfl (fun ls hl => ?_)
      refine lv_iconst (v := 0) hx hb dX9_game_56 (by decide) ?_
      refine lv_istore (lv' := [(6, .int (0 : Int32)), (5, .int (-1 : Int32)), (4, .int (0 : Int32)), (0, .ref (w.2.2.1 0)), (1, .int x1), (2, .int x2), (3, .int x3)]) hx hb dX9_game_57 hl (by decide) rfl (fun ls hl => ?_)
      exact hJ59 _ _ _ _ _ _ _ _ _ ls hf hG (lv_sub hl [3, 4, 5, 6, 2, 1, 0] rfl)
    · replace hf := if_t c11 hf
      refine lv_iconst (v := 0) hx hb dX9_game_48 (by decide) ?_
      exact cg_iret F hr hlk hG hf dX9_game_49
  unfold f_X9_game at hf
  refine lv_aload_n hx hb dX9_game_0 rfl (lv_at hl 0 rfl) ?_
  refine lv_iconst (v := 0) hx hb dX9_game_1 (by decide) ?_
  refine g_putI F hG mo_0 (by decide) (by decide) lkv_X9_102 rfl rfl rfl dX9_game_2 (fun H locs hG => ?_)
  refine lv_aload_n hx hb dX9_game_5 rfl (lv_at hl 0 rfl) ?_
  refine lv_iload_n hx hb dX9_game_6 rfl (lv_at hl 1 rfl) ?_
  replace hf := bd_some hf
  obtain ⟨q12, eq12, hf⟩ := hf
  refine gx_calli hG (gx_runV hXk F hX hG (c_X9_isWard l w hXk n  x1 _ _ eq12) cv_X9_400 ⟨Nat.le_of_ble_eq_true rfl, Nat.le_of_ble_eq_true rfl⟩ (g_recv F hG mo_0 (by decide) rfl) rfl hl.1 rfl (Nat.le_of_ble_eq_true rfl) dX9_game_7 ⟨Nat.le_refl _, Nat.le_refl _⟩) (fun H locs hG => ?_)
  refine lv_if_eq (tgt := 48) hx hb dX9_game_10 (by decide) (fun c13 => ?_) (fun c13 => ?_)
  · replace hf := if_t c13 hf
    refine lv_iconst (v := 0) hx hb dX9_game_48 (by decide) ?_
    exact cg_iret F hr hlk hG hf dX9_game_49
  · replace hf := if_f c13 hf
    refine lv_aload_n hx hb dX9_game_13 rfl (lv_at hl 0 rfl) ?_
    refine lv_iload_n hx hb dX9_game_14 rfl (lv_at hl 2 rfl) ?_
    replace hf := bd_some hf
    obtain ⟨q14, eq14, hf⟩ := hf
    refine gx_calli hG (gx_runV hXk F hX hG (c_X9_isWard l w hXk n  x2 _ _ eq14) cv_X9_400 ⟨Nat.le_of_ble_eq_true rfl, Nat.le_of_ble_eq_true rfl⟩ (g_recv F hG mo_0 (by decide) rfl) rfl hl.1 rfl (Nat.le_of_ble_eq_true rfl) dX9_game_15 ⟨Nat.le_refl _, Nat.le_refl _⟩) (fun H locs hG => ?_)
    refine lv_if_eq (tgt := 48) hx hb dX9_game_18 (by decide) (fun c15 => ?_) (fun c15 => ?_)
    · replace hf := if_t c15 hf
      refine lv_iconst (v := 0) hx hb dX9_game_48 (by decide) ?_
      exact cg_iret F hr hlk hG hf dX9_game_49
    · replace hf := if_f c15 hf
      refine lv_aload_n hx hb dX9_game_21 rfl (lv_at hl 0 rfl) ?_
      refine lv_iload_n hx hb dX9_game_22 rfl (lv_at hl 3 rfl) ?_
      refine lv_iconst (v := 1) hx hb dX9_game_23 (by decide) ?_
      replace hf := bd_some hf
      obtain ⟨q16, eq16, hf⟩ := hf
      refine gx_calli hG (gx_runV hXk F hX hG (c_X9_isWhat l w hXk n  x3 (1 : Int32) _ _ eq16) cv_X9_396 ⟨Nat.le_of_ble_eq_true rfl, Nat.le_of_ble_eq_true rfl⟩ (g_recv F hG mo_0 (by decide) rfl) rfl hl.1 rfl (Nat.le_of_ble_eq_true rfl) dX9_game_24 ⟨Nat.le_refl _, Nat.le_refl _⟩) (fun H locs hG => ?_)
      refine lv_if_eq (tgt := 48) hx hb dX9_game_27 (by decide) (fun c17 => ?_) (fun c17 => ?_)
      · replace hf := if_t c17 hf
        refine lv_iconst (v := 0) hx hb dX9_game_48 (by decide) ?_
        exact cg_iret F hr hlk hG hf dX9_game_49
      · replace hf := if_f c17 hf
        refine lv_aload_n hx hb dX9_game_30 rfl (lv_at hl 0 rfl) ?_
        refine lv_iload_n hx hb dX9_game_31 rfl (lv_at hl 1 rfl) ?_
        refine lv_iload_n hx hb dX9_game_32 rfl (lv_at hl 2 rfl) ?_
        refine lv_icmp_eq (tgt := 40) hx hb dX9_game_33 (by decide) (fun c18 => ?_) (fun c18 => ?_)
        · replace hf := if_t c18 hf
          refine lv_iconst (v := 0) hx hb dX9_game_40 (by decide) ?_
          exact hJ41 _ _ _ _ _ _ _ ls hf hG (lv_sub hl [0, 1, 2, 3] rfl)
        · replace hf := if_f c18 hf
          refine lv_iconst (v := 1) hx hb dX9_game_36 (by decide) ?_
          refine lv_goto (tgt := 41) hx hb dX9_game_37 (by decide) ?_
          exact hJ41 _ _ _ _ _ _ _ ls hf hG (lv_sub hl [0, 1, 2, 3] rfl)

def f_X9_draw (n : Nat) (x1 : Int32) (M : Mem) : Option (Int32 × Mem) := ck (¬ x1 = 0) (some (((((gi (si M 0 58 (((gi M 0 58) * (1103515245 : Int32)) + (12345 : Int32))) 0 58) >>> ((16 : Int32) &&& 31)) &&& (32767 : Int32)) - (((gi (si M 0 58 (((gi M 0 58) * (1103515245 : Int32)) + (12345 : Int32))) 0 58) >>> ((16 : Int32) &&& 31)) &&& (32767 : Int32)) / x1 * x1), si M 0 58 (((gi M 0 58) * (1103515245 : Int32)) + (12345 : Int32))))
set_option maxHeartbeats 4000000 in
set_option maxRecDepth 100000 in
theorem c_X9_draw (l : Launch) (w : Wd) {X : (Nat → Prop) → State → Heap → Prop} (hXk : XOK X) (n : Nat) (x1 : Int32) (M : Mem) (res : Int32 × Mem) (hf : f_X9_draw n  x1 M = some res) : CG l w layM 24 X yX9_draw cX9_draw 2 (some .int) 0 [.ref (w.2.2.1 0), .int x1] M (GQi w layM 24 res) := by
  refine cg_start (by decide +kernel) (Nat.le_of_ble_eq_true rfl) ?_
  intro p e s m args below meth c F hr hlk hX hG ls hl
  have F : FX w p m c cX9_draw 2 s args RX9 := F
  have hx := F.1.1
  have hb := F.1.2.1
  have hl : lv_has ls 2 [(0, .ref (w.2.2.1 0)), (1, .int x1)] := hl
  unfold f_X9_draw at hf
  refine lv_aload_n hx hb dX9_draw_0 rfl (lv_at hl 0 rfl) ?_
  refine lv_aload_n hx hb dX9_draw_1 rfl (lv_at hl 0 rfl) ?_
  refine g_getI F hG mo_0 (by decide) (by decide) lk_X9_437 rfl dX9_draw_2 ?_
  refine lv_ldcw hx hb F.1.2.2.2.1 (F.1.2.2.2.2 _ m_1928) dX9_draw_5 ?_
  refine lv_imul hx hb dX9_draw_8 ?_
  refine lv_sipush (v := 12345) hx hb dX9_draw_9 (by decide) ?_
  refine lv_iadd hx hb dX9_draw_12 ?_
  refine g_putI F hG mo_0 (by decide) (by decide) lkv_X9_437 rfl rfl rfl dX9_draw_13 (fun H locs hG => ?_)
  refine lv_aload_n hx hb dX9_draw_16 rfl (lv_at hl 0 rfl) ?_
  refine g_getI F hG mo_0 (by decide) (by decide) lk_X9_437 rfl dX9_draw_17 ?_
  refine lv_bipush (v := 16) hx hb dX9_draw_20 (by decide) ?_
  refine lv_ishr hx hb dX9_draw_22 ?_
  refine lv_sipush (v := 32767) hx hb dX9_draw_23 (by decide) ?_
  refine lv_iand hx hb dX9_draw_26 ?_
  refine lv_iload_n hx hb dX9_draw_27 rfl (lv_at hl 1 rfl) ?_
  replace hf := ck_some hf
  obtain ⟨k1, hf⟩ := hf
  refine lv_irem hx hb dX9_draw_28 k1 ?_
  exact cg_iret F hr hlk hG hf dX9_draw_29

def j_X9_happens_60 (n : Nat) (x1 : Int32) (M : Mem) : Option (Mem) := if x1 = (2 : Int32) then (if (gi M 12 (57 : Int32).toNatClampNeg) ≤ 0 then (some M) else (bd (f_X9_draw n  (gi M 12 (57 : Int32).toNatClampNeg) M) (fun q3 => ck (inb ((76 : Int32) + q3.1) 108) (some (si q3.2 12 ((76 : Int32) + q3.1).toNatClampNeg (0 : Int32)))))) else (some M)
def j_X9_happens_42 (n : Nat) (x1 : Int32) (M : Mem) : Option (Mem) := if x1 = (1 : Int32) then (bd (f_X9_draw n  (50 : Int32) M) (fun q6 => j_X9_happens_60 n  x1 (si q6.2 12 (55 : Int32).toNatClampNeg q6.1))) else (j_X9_happens_60 n  x1 M)
def f_X9_happens (n : Nat) (M : Mem) : Option (Mem) := bd (f_X9_draw n  (6 : Int32) M) (fun q7 => if q7.1 = 0 then (if (gi q7.2 0 1) ≤ 0 then (j_X9_happens_42 n  q7.1 q7.2) else (bd (f_X9_draw n  (gi q7.2 0 1) q7.2) (fun q10 => bd (f_X9_draw n  (100 : Int32) q10.2) (fun q11 => ck (inb ((92 : Int32) + q10.1) 108) (j_X9_happens_42 n  q7.1 (si q11.2 12 ((92 : Int32) + q10.1).toNatClampNeg q11.1)))))) else (j_X9_happens_42 n  q7.1 q7.2))
set_option maxHeartbeats 4000000 in
set_option maxRecDepth 100000 in
theorem c_X9_happens (l : Launch) (w : Wd) {X : (Nat → Prop) → State → Heap → Prop} (hXk : XOK X) (n : Nat) (M : Mem) (res : Mem) (hf : f_X9_happens n   M = some res) : CG l w layM 24 X yX9_happens cX9_happens 3 none 1 [.ref (w.2.2.1 0)] M (GQv w layM 24 res) := by
  refine cg_start (by decide +kernel) (Nat.le_of_ble_eq_true rfl) ?_
  intro p e s m args below meth c F hr hlk hX hG ls hl
  have F : FX w p m c cX9_happens 3 s args RX9 := F
  have hx := F.1.1
  have hb := F.1.2.1
  have hl : lv_has ls 3 [(0, .ref (w.2.2.1 0))] := hl
  have hJ60 : ∀ (x1 : Int32) (M : Mem) (H : Heap) (locs : List Loc) (ls : Array Slot), j_X9_happens_60 n  x1 M = some res → GI w layM 24 s.heap M H locs → lv_has ls 3 [(0, .ref (w.2.2.1 0)), (1, .int x1)] → W p l e (Rm 1) s m args below meth c H locs 0 0 (MQ below (GQv w layM 24 res s.heap.size) args s 0 0 (gA w.2.2.1 24 s.heap.size)) (F0 m 60 ls []) := by
    intro x1 M H locs ls hf hG hl
    unfold j_X9_happens_60 at hf
    refine lv_iload_n hx hb dX9_happens_60 rfl (lv_at hl 1 rfl) ?_
    refine lv_iconst (v := 2) hx hb dX9_happens_61 (by decide) ?_
    refine lv_icmp_ne (tgt := 95) hx hb dX9_happens_62 (by decide) (fun c1 => ?_) (fun c1 => ?_)
    · replace hf := if_f c1 hf
      exact cg_vret F hr hlk hG hf dX9_happens_95
    · replace hf := if_t c1 hf
      refine lv_aload_n hx hb dX9_happens_65 rfl (lv_at hl 0 rfl) ?_
      refine g_getR F hG 12 mo_0 (by decide) (by decide) lk_X9_63 rfl dX9_happens_66 ?_
      refine lv_bipush (v := 57) hx hb dX9_happens_69 (by decide) ?_
      refine g_iald F hG oM_12 (by decide) dX9_happens_71 ?_
      refine lv_if_le (tgt := 95) hx hb dX9_happens_72 (by decide) (fun c2 => ?_) (fun c2 => ?_)
      · replace hf := if_t c2 hf
        exact cg_vret F hr hlk hG hf dX9_happens_95
      · replace hf := if_f c2 hf
        refine lv_aload_n hx hb dX9_happens_75 rfl (lv_at hl 0 rfl) ?_
        refine g_getR F hG 12 mo_0 (by decide) (by decide) lk_X9_63 rfl dX9_happens_76 ?_
        refine lv_bipush (v := 76) hx hb dX9_happens_79 (by decide) ?_
        refine lv_aload_n hx hb dX9_happens_81 rfl (lv_at hl 0 rfl) ?_
        refine lv_aload_n hx hb dX9_happens_82 rfl (lv_at hl 0 rfl) ?_
        refine g_getR F hG 12 mo_0 (by decide) (by decide) lk_X9_63 rfl dX9_happens_83 ?_
        refine lv_bipush (v := 57) hx hb dX9_happens_86 (by decide) ?_
        refine g_iald F hG oM_12 (by decide) dX9_happens_88 ?_
        replace hf := bd_some hf
        obtain ⟨q3, eq3, hf⟩ := hf
        refine gx_calli hG (gx_runV hXk F hX hG (c_X9_draw l w hXk n  (gi M 12 (57 : Int32).toNatClampNeg) _ _ eq3) cv_X9_441 ⟨Nat.le_of_ble_eq_true rfl, Nat.le_of_ble_eq_true rfl⟩ (g_recv F hG mo_0 (by decide) rfl) rfl hl.1 rfl (Nat.le_of_ble_eq_true rfl) dX9_happens_89 ⟨Nat.le_refl _, Nat.le_refl _⟩) (fun H locs hG => ?_)
        refine lv_iadd hx hb dX9_happens_92 ?_
        refine lv_iconst (v := 0) hx hb dX9_happens_93 (by decide) ?_
        replace hf := ck_some hf
        obtain ⟨k4, hf⟩ := hf
        refine g_iast F hG oM_12 k4 dX9_happens_94 (fun H locs hG => ?_)
        exact cg_vret F hr hlk hG hf dX9_happens_95
  have hJ42 : ∀ (x1 : Int32) (M : Mem) (H : Heap) (locs : List Loc) (ls : Array Slot), j_X9_happens_42 n  x1 M = some res → GI w layM 24 s.heap M H locs → lv_has ls 3 [(0, .ref (w.2.2.1 0)), (1, .int x1)] → W p l e (Rm 1) s m args below meth c H locs 0 0 (MQ below (GQv w layM 24 res s.heap.size) args s 0 0 (gA w.2.2.1 24 s.heap.size)) (F0 m 42 ls []) := by
    intro x1 M H locs ls hf hG hl
    unfold j_X9_happens_42 at hf
    refine lv_iload_n hx hb dX9_happens_42 rfl (lv_at hl 1 rfl) ?_
    refine lv_iconst (v := 1) hx hb dX9_happens_43 (by decide) ?_
    refine lv_icmp_ne (tgt := 60) hx hb dX9_happens_44 (by decide) (fun c5 => ?_) (fun c5 => ?_)
    · replace hf := if_f c5 hf
      exact hJ60 _ _ _ _ ls hf hG (lv_sub hl [0, 1] rfl)
    · replace hf := if_t c5 hf
      refine lv_aload_n hx hb dX9_happens_47 rfl (lv_at hl 0 rfl) ?_
      refine g_getR F hG 12 mo_0 (by decide) (by decide) lk_X9_63 rfl dX9_happens_48 ?_
      refine lv_bipush (v := 55) hx hb dX9_happens_51 (by decide) ?_
      refine lv_aload_n hx hb dX9_happens_53 rfl (lv_at hl 0 rfl) ?_
      refine lv_bipush (v := 50) hx hb dX9_happens_54 (by decide) ?_
      replace hf := bd_some hf
      obtain ⟨q6, eq6, hf⟩ := hf
      refine gx_calli hG (gx_runV hXk F hX hG (c_X9_draw l w hXk n  (50 : Int32) _ _ eq6) cv_X9_441 ⟨Nat.le_of_ble_eq_true rfl, Nat.le_of_ble_eq_true rfl⟩ (g_recv F hG mo_0 (by decide) rfl) rfl hl.1 rfl (Nat.le_of_ble_eq_true rfl) dX9_happens_56 ⟨Nat.le_refl _, Nat.le_refl _⟩) (fun H locs hG => ?_)
      refine g_iast F hG oM_12 (by decide) dX9_happens_59 (fun H locs hG => ?_)
      exact hJ60 _ _ _ _ ls hf hG (lv_sub hl [0, 1] rfl)
  unfold f_X9_happens at hf
  refine lv_aload_n hx hb dX9_happens_0 rfl (lv_at hl 0 rfl) ?_
  refine lv_bipush (v := 6) hx hb dX9_happens_1 (by decide) ?_
  replace hf := bd_some hf
  obtain ⟨q7, eq7, hf⟩ := hf
  refine gx_calli hG (gx_runV hXk F hX hG (c_X9_draw l w hXk n  (6 : Int32) _ _ eq7) cv_X9_441 ⟨Nat.le_of_ble_eq_true rfl, Nat.le_of_ble_eq_true rfl⟩ (g_recv F hG mo_0 (by decide) rfl) rfl hl.1 rfl (Nat.le_of_ble_eq_true rfl) dX9_happens_3 ⟨Nat.le_refl _, Nat.le_refl _⟩) (fun H locs hG => ?_)
  refine lv_istore_n (lv' := [(1, .int q7.1), (0, .ref (w.2.2.1 0))]) hx hb dX9_happens_6 rfl hl (by decide) rfl (fun ls hl => ?_)
  refine lv_iload_n hx hb dX9_happens_7 rfl (lv_at hl 0 rfl) ?_
  refine lv_if_ne (tgt := 42) hx hb dX9_happens_8 (by decide) (fun c8 => ?_) (fun c8 => ?_)
  · replace hf := if_f c8 hf
    exact hJ42 _ _ _ _ ls hf hG (lv_sub hl [1, 0] rfl)
  · replace hf := if_t c8 hf
    refine lv_aload_n hx hb dX9_happens_11 rfl (lv_at hl 1 rfl) ?_
    refine g_getI F hG mo_0 (by decide) (by decide) lk_X9_291 rfl dX9_happens_12 ?_
    refine lv_if_le (tgt := 42) hx hb dX9_happens_15 (by decide) (fun c9 => ?_) (fun c9 => ?_)
    · replace hf := if_t c9 hf
      exact hJ42 _ _ _ _ ls hf hG (lv_sub hl [1, 0] rfl)
    · replace hf := if_f c9 hf
      refine lv_aload_n hx hb dX9_happens_18 rfl (lv_at hl 1 rfl) ?_
      refine lv_aload_n hx hb dX9_happens_19 rfl (lv_at hl 1 rfl) ?_
      refine g_getI F hG mo_0 (by decide) (by decide) lk_X9_291 rfl dX9_happens_20 ?_
      replace hf := bd_some hf
      obtain ⟨q10, eq10, hf⟩ := hf
      refine gx_calli hG (gx_runV hXk F hX hG (c_X9_draw l w hXk n  (gi q7.2 0 1) _ _ eq10) cv_X9_441 ⟨Nat.le_of_ble_eq_true rfl, Nat.le_of_ble_eq_true rfl⟩ (g_recv F hG mo_0 (by decide) rfl) rfl hl.1 rfl (Nat.le_of_ble_eq_true rfl) dX9_happens_23 ⟨Nat.le_refl _, Nat.le_refl _⟩) (fun H locs hG => ?_)
      refine lv_istore_n (lv' := [(2, .int q10.1), (1, .int q7.1), (0, .ref (w.2.2.1 0))]) hx hb dX9_happens_26 rfl hl (by decide) rfl (fun ls hl => ?_)
      refine lv_aload_n hx hb dX9_happens_27 rfl (lv_at hl 2 rfl) ?_
      refine g_getR F hG 12 mo_0 (by decide) (by decide) lk_X9_63 rfl dX9_happens_28 ?_
      refine lv_bipush (v := 92) hx hb dX9_happens_31 (by decide) ?_
      refine lv_iload_n hx hb dX9_happens_33 rfl (lv_at hl 0 rfl) ?_
      refine lv_iadd hx hb dX9_happens_34 ?_
      refine lv_aload_n hx hb dX9_happens_35 rfl (lv_at hl 2 rfl) ?_
      refine lv_bipush (v := 100) hx hb dX9_happens_36 (by decide) ?_
      replace hf := bd_some hf
      obtain ⟨q11, eq11, hf⟩ := hf
      refine gx_calli hG (gx_runV hXk F hX hG (c_X9_draw l w hXk n  (100 : Int32) _ _ eq11) cv_X9_441 ⟨Nat.le_of_ble_eq_true rfl, Nat.le_of_ble_eq_true rfl⟩ (g_recv F hG mo_0 (by decide) rfl) rfl hl.1 rfl (Nat.le_of_ble_eq_true rfl) dX9_happens_38 ⟨Nat.le_refl _, Nat.le_refl _⟩) (fun H locs hG => ?_)
      replace hf := ck_some hf
      obtain ⟨k12, hf⟩ := hf
      refine g_iast F hG oM_12 k12 dX9_happens_41 (fun H locs hG => ?_)
      exact hJ42 _ _ _ _ ls hf hG (lv_sub hl [2, 1] rfl)

def j_X9_years_60 (n : Nat) (x3 : Int32) (M : Mem) : Option (Int32 × Mem) := if x3 = 0 then (some ((gi M 12 (57 : Int32).toNatClampNeg), M)) else (if x3 = (1 : Int32) then (some ((gi M 0 48), M)) else (bd (f_X9_sumOf n  (54 : Int32) (38 : Int32) (gi M 0 1) M) (fun q3 => some (q3.1, q3.2))))
def b_X9_years_38 (n : Nat) (x2 : Int32) (x3 : Int32) (q : (Int32 × Mem)) : Option ((Int32 × Mem) ⊕ (Int32 × Mem)) := match q with
  | (x4, M) => if x2 ≤ x4 then (mr (j_X9_years_60 n  x3 M)) else (bd (f_X9_happens n   M) (fun q5 => bd (f_X9_dayGoes n  (54 : Int32) q5) (fun q6 => some (.inl ((x4 + (1 : Int32)), q6)))))
def f_X9_years (n : Nat) (x1 : Int32) (x2 : Int32) (x3 : Int32) (M : Mem) : Option (Int32 × Mem) := bd (f_X9_isWhat n  x3 (2 : Int32) (si M 0 0 (0 : Int32))) (fun q7 => if q7.1 = 0 then (some ((0 : Int32), q7.2)) else (bd (f_X9_isSoon n  x2 (0 : Int32) (2 : Int32) q7.2) (fun q9 => if q9.1 = 0 then (some ((0 : Int32), q9.2)) else (bd (f_X9_tries n   q9.2) (fun q11 => gl (b_X9_years_38 n  x2 x3) n ((0 : Int32), si q11 0 58 x1))))))
set_option maxHeartbeats 4000000 in
set_option maxRecDepth 100000 in
theorem c_X9_years (l : Launch) (w : Wd) {X : (Nat → Prop) → State → Heap → Prop} (hXk : XOK X) (n : Nat) (x1 : Int32) (x2 : Int32) (x3 : Int32) (M : Mem) (res : Int32 × Mem) (hf : f_X9_years n  x1 x2 x3 M = some res) : CG l w layM 24 X yX9_years cX9_years 5 (some .int) 4 [.ref (w.2.2.1 0), .int x1, .int x2, .int x3] M (GQi w layM 24 res) := by
  refine cg_start (by decide +kernel) (Nat.le_of_ble_eq_true rfl) ?_
  intro p e s m args below meth c F hr hlk hX hG ls hl
  have F : FX w p m c cX9_years 5 s args RX9 := F
  have hx := F.1.1
  have hb := F.1.2.1
  have hl : lv_has ls 5 [(0, .ref (w.2.2.1 0)), (1, .int x1), (2, .int x2), (3, .int x3)] := hl
  have hJ60 : ∀ (x3 : Int32) (M : Mem) (H : Heap) (locs : List Loc) (ls : Array Slot), j_X9_years_60 n  x3 M = some res → GI w layM 24 s.heap M H locs → lv_has ls 5 [(0, .ref (w.2.2.1 0)), (3, .int x3)] → W p l e (Rm 4) s m args below meth c H locs 0 0 (MQ below (GQi w layM 24 res s.heap.size) args s 0 0 (gA w.2.2.1 24 s.heap.size)) (F0 m 60 ls []) := by
    intro x3 M H locs ls hf hG hl
    unfold j_X9_years_60 at hf
    refine lv_iload_n hx hb dX9_years_60 rfl (lv_at hl 1 rfl) ?_
    refine lv_if_ne (tgt := 74) hx hb dX9_years_61 (by decide) (fun c1 => ?_) (fun c1 => ?_)
    · replace hf := if_f c1 hf
      refine lv_iload_n hx hb dX9_years_74 rfl (lv_at hl 1 rfl) ?_
      refine lv_iconst (v := 1) hx hb dX9_years_75 (by decide) ?_
      refine lv_icmp_ne (tgt := 86) hx hb dX9_years_76 (by decide) (fun c2 => ?_) (fun c2 => ?_)
      · replace hf := if_f c2 hf
        refine lv_aload_n hx hb dX9_years_86 rfl (lv_at hl 0 rfl) ?_
        refine lv_bipush (v := 54) hx hb dX9_years_87 (by decide) ?_
        refine lv_bipush (v := 38) hx hb dX9_years_89 (by decide) ?_
        refine lv_aload_n hx hb dX9_years_91 rfl (lv_at hl 0 rfl) ?_
        refine g_getI F hG mo_0 (by decide) (by decide) lk_X9_291 rfl dX9_years_92 ?_
        replace hf := bd_some hf
        obtain ⟨q3, eq3, hf⟩ := hf
        refine gx_calli hG (gx_runV hXk F hX hG (c_X9_sumOf l w hXk n  (54 : Int32) (38 : Int32) (gi M 0 1) _ _ eq3) cv_X9_318 ⟨Nat.le_of_ble_eq_true rfl, Nat.le_of_ble_eq_true rfl⟩ (g_recv F hG mo_0 (by decide) rfl) rfl hl.1 rfl (Nat.le_of_ble_eq_true rfl) dX9_years_95 ⟨Nat.le_refl _, Nat.le_refl _⟩) (fun H locs hG => ?_)
        exact cg_iret F hr hlk hG hf dX9_years_98
      · replace hf := if_t c2 hf
        refine lv_aload_n hx hb dX9_years_79 rfl (lv_at hl 0 rfl) ?_
        refine g_getI F hG mo_0 (by decide) (by decide) lk_X9_311 rfl dX9_years_80 ?_
        refine lv_goto (tgt := 98) hx hb dX9_years_83 (by decide) ?_
        exact cg_iret F hr hlk hG hf dX9_years_98
    · replace hf := if_t c1 hf
      refine lv_aload_n hx hb dX9_years_64 rfl (lv_at hl 0 rfl) ?_
      refine g_getR F hG 12 mo_0 (by decide) (by decide) lk_X9_63 rfl dX9_years_65 ?_
      refine lv_bipush (v := 57) hx hb dX9_years_68 (by decide) ?_
      refine g_iald F hG oM_12 (by decide) dX9_years_70 ?_
      refine lv_goto (tgt := 98) hx hb dX9_years_71 (by decide) ?_
      exact cg_iret F hr hlk hG hf dX9_years_98
  have hJ38 : ∀ (x2 : Int32) (x3 : Int32) (x4 : Int32) (M : Mem) (H : Heap) (locs : List Loc) (ls : Array Slot), gl (b_X9_years_38 n  x2 x3) n (x4, M) = some res → GI w layM 24 s.heap M H locs → lv_has ls 5 [(0, .ref (w.2.2.1 0)), (2, .int x2), (3, .int x3), (4, .int x4)] → W p l e (Rm 4) s m args below meth c H locs 0 0 (MQ below (GQi w layM 24 res s.heap.size) args s 0 0 (gA w.2.2.1 24 s.heap.size)) (F0 m 38 ls []) := by
    intro x2 x3 x4 M H locs ls hf hG hl
    refine gl_run (P := fun (q : (Int32 × Mem)) => ∀ (H : Heap) (locs : List Loc) (ls : Array Slot), GI w layM 24 s.heap q.2 H locs → lv_has ls 5 [(0, .ref (w.2.2.1 0)), (2, .int x2), (3, .int x3), (4, .int q.1)] → W p l e (Rm 4) s m args below meth c H locs 0 0 (MQ below (GQi w layM 24 res s.heap.size) args s 0 0 (gA w.2.2.1 24 s.heap.size)) (F0 m 38 ls [])) ?_ n (x4, M) hf H locs ls hG hl
    clear hf hG hl ls locs H M x4
    rintro ⟨x4, M⟩ rr38 hf hI38 hE38 H locs ls hG hl
    try dsimp only at hG hl ⊢
    dsimp only [b_X9_years_38] at hf
    refine lv_iload hx hb dX9_years_38 (lv_at hl 3 rfl) ?_
    refine lv_iload_n hx hb dX9_years_40 rfl (lv_at hl 1 rfl) ?_
    refine lv_icmp_ge (tgt := 60) hx hb dX9_years_41 (by decide) (fun c4 => ?_) (fun c4 => ?_)
    · replace hf := if_t c4 hf
      replace hf := mr_some hf
      obtain ⟨z38, hf, hz⟩ := hf
      rw [hE38 _ hz] at hf
      exact hJ60 _ _ _ _ ls hf hG (lv_sub hl [0, 2] rfl)
    · replace hf := if_f c4 hf
      refine lv_aload_n hx hb dX9_years_44 rfl (lv_at hl 0 rfl) ?_
      replace hf := bd_some hf
      obtain ⟨q5, eq5, hf⟩ := hf
      refine gx_callv hG (gx_runV hXk F hX hG (c_X9_happens l w hXk n   _ _ eq5) cv_X9_444 ⟨Nat.le_of_ble_eq_true rfl, Nat.le_of_ble_eq_true rfl⟩ (g_recv F hG mo_0 (by decide) rfl) rfl hl.1 rfl (Nat.le_of_ble_eq_true rfl) dX9_years_45 ⟨Nat.le_refl _, Nat.le_refl _⟩) (fun H locs hG => ?_)
      refine lv_aload_n hx hb dX9_years_48 rfl (lv_at hl 0 rfl) ?_
      refine lv_bipush (v := 54) hx hb dX9_years_49 (by decide) ?_
      replace hf := bd_some hf
      obtain ⟨q6, eq6, hf⟩ := hf
      refine gx_callv hG (gx_runV hXk F hX hG (c_X9_dayGoes l w hXk n  (54 : Int32) _ _ eq6) cv_X9_364 ⟨Nat.le_of_ble_eq_true rfl, Nat.le_of_ble_eq_true rfl⟩ (g_recv F hG mo_0 (by decide) rfl) rfl hl.1 rfl (Nat.le_of_ble_eq_true rfl) dX9_years_51 ⟨Nat.le_refl _, Nat.le_refl _⟩) (fun H locs hG => ?_)
      refine lv_iinc (v := (x4 + (1 : Int32))) (lv' := [(4, .int (x4 + (1 : Int32))), (0, .ref (w.2.2.1 0)), (2, .int x2), (3, .int x3)]) hx hb dX9_years_54 hl (k := 3) rfl rfl (by decide) rfl (fun ls hl => ?_)
      refine lv_goto (tgt := 38) hx hb dX9_years_57 (by decide) ?_
      exact hI38 _ (Option.some.inj hf).symm _ _ ls hG (lv_sub hl [1, 2, 3, 0] rfl)
  unfold f_X9_years at hf
  refine lv_aload_n hx hb dX9_years_0 rfl (lv_at hl 0 rfl) ?_
  refine lv_iconst (v := 0) hx hb dX9_years_1 (by decide) ?_
  refine g_putI F hG mo_0 (by decide) (by decide) lkv_X9_102 rfl rfl rfl dX9_years_2 (fun H locs hG => ?_)
  refine lv_aload_n hx hb dX9_years_5 rfl (lv_at hl 0 rfl) ?_
  refine lv_iload_n hx hb dX9_years_6 rfl (lv_at hl 3 rfl) ?_
  refine lv_iconst (v := 2) hx hb dX9_years_7 (by decide) ?_
  replace hf := bd_some hf
  obtain ⟨q7, eq7, hf⟩ := hf
  refine gx_calli hG (gx_runV hXk F hX hG (c_X9_isWhat l w hXk n  x3 (2 : Int32) _ _ eq7) cv_X9_396 ⟨Nat.le_of_ble_eq_true rfl, Nat.le_of_ble_eq_true rfl⟩ (g_recv F hG mo_0 (by decide) rfl) rfl hl.1 rfl (Nat.le_of_ble_eq_true rfl) dX9_years_8 ⟨Nat.le_refl _, Nat.le_refl _⟩) (fun H locs hG => ?_)
  refine lv_if_eq (tgt := 24) hx hb dX9_years_11 (by decide) (fun c8 => ?_) (fun c8 => ?_)
  · replace hf := if_t c8 hf
    refine lv_iconst (v := 0) hx hb dX9_years_24 (by decide) ?_
    exact cg_iret F hr hlk hG hf dX9_years_25
  · replace hf := if_f c8 hf
    refine lv_aload_n hx hb dX9_years_14 rfl (lv_at hl 0 rfl) ?_
    refine lv_iload_n hx hb dX9_years_15 rfl (lv_at hl 2 rfl) ?_
    refine lv_iconst (v := 0) hx hb dX9_years_16 (by decide) ?_
    refine lv_iconst (v := 2) hx hb dX9_years_17 (by decide) ?_
    replace hf := bd_some hf
    obtain ⟨q9, eq9, hf⟩ := hf
    refine gx_calli hG (gx_runV hXk F hX hG (c_X9_isSoon l w hXk n  x2 (0 : Int32) (2 : Int32) _ _ eq9) cv_X9_412 ⟨Nat.le_of_ble_eq_true rfl, Nat.le_of_ble_eq_true rfl⟩ (g_recv F hG mo_0 (by decide) rfl) rfl hl.1 rfl (Nat.le_of_ble_eq_true rfl) dX9_years_18 ⟨Nat.le_refl _, Nat.le_refl _⟩) (fun H locs hG => ?_)
    refine lv_if_ne (tgt := 26) hx hb dX9_years_21 (by decide) (fun c10 => ?_) (fun c10 => ?_)
    · replace hf := if_f c10 hf
      refine lv_aload_n hx hb dX9_years_26 rfl (lv_at hl 0 rfl) ?_
      replace hf := bd_some hf
      obtain ⟨q11, eq11, hf⟩ := hf
      refine gx_callv hG (gx_runV hXk F hX hG (c_X9_tries l w hXk n   _ _ eq11) cv_X9_367 ⟨Nat.le_of_ble_eq_true rfl, Nat.le_of_ble_eq_true rfl⟩ (g_recv F hG mo_0 (by decide) rfl) rfl hl.1 rfl (Nat.le_of_ble_eq_true rfl) dX9_years_27 ⟨Nat.le_refl _, Nat.le_refl _⟩) (fun H locs hG => ?_)
      refine lv_aload_n hx hb dX9_years_30 rfl (lv_at hl 0 rfl) ?_
      refine lv_iload_n hx hb dX9_years_31 rfl (lv_at hl 1 rfl) ?_
      refine g_putI F hG mo_0 (by decide) (by decide) lkv_X9_437 rfl rfl rfl dX9_years_32 (fun H locs hG => ?_)
      refine lv_iconst (v := 0) hx hb dX9_years_35 (by decide) ?_
      refine lv_istore (lv' := [(4, .int (0 : Int32)), (0, .ref (w.2.2.1 0)), (1, .int x1), (2, .int x2), (3, .int x3)]) hx hb dX9_years_36 hl (by decide) rfl (fun ls hl => ?_)
      exact hJ38 _ _ _ _ _ _ ls hf hG (lv_sub hl [1, 3, 4, 0] rfl)
    · replace hf := if_t c10 hf
      refine lv_iconst (v := 0) hx hb dX9_years_24 (by decide) ?_
      exact cg_iret F hr hlk hG hf dX9_years_25

def j_X9_image_52 (n : Nat) (M : Mem) : Option (Mem) := bd (f_X9_copies n 2160 13 2160 22  M) (fun q1 => bd (f_X9_copies n 16 18 16 23  q1) (fun q2 => some q2))
def b_X9_image_28 (n : Nat) (q : (Int32 × Mem)) : Option ((Int32 × Mem) ⊕ (Mem)) := match q with
  | (x1, M) => if (54 : Int32) ≤ x1 then (mr (j_X9_image_52 n  M)) else (ck (inb x1 108) (ck (inb x1 54) (some (.inl ((x1 + (1 : Int32)), si M 21 x1.toNatClampNeg (gi M 12 x1.toNatClampNeg))))))
def f_X9_image (n : Nat) (M : Mem) : Option (Mem) := gl (b_X9_image_28 n ) n ((0 : Int32), si (si (si (si M 0 0 (0 : Int32)) 0 59 (1 : Int32)) 0 60 (gi (si (si M 0 0 (0 : Int32)) 0 59 (1 : Int32)) 0 46)) 0 61 (gi (si (si (si M 0 0 (0 : Int32)) 0 59 (1 : Int32)) 0 60 (gi (si (si M 0 0 (0 : Int32)) 0 59 (1 : Int32)) 0 46)) 0 54))
set_option maxHeartbeats 4000000 in
set_option maxRecDepth 100000 in
theorem c_X9_image (l : Launch) (w : Wd) {X : (Nat → Prop) → State → Heap → Prop} (hXk : XOK X) (n : Nat) (M : Mem) (res : Mem) (hf : f_X9_image n   M = some res) : CG l w layM 24 X yX9_image cX9_image 2 none 1 [.ref (w.2.2.1 0)] M (GQv w layM 24 res) := by
  refine cg_start (by decide +kernel) (Nat.le_of_ble_eq_true rfl) ?_
  intro p e s m args below meth c F hr hlk hX hG ls hl
  have F : FX w p m c cX9_image 2 s args RX9 := F
  have hx := F.1.1
  have hb := F.1.2.1
  have hl : lv_has ls 2 [(0, .ref (w.2.2.1 0))] := hl
  have hJ52 : ∀ (M : Mem) (H : Heap) (locs : List Loc) (ls : Array Slot), j_X9_image_52 n   M = some res → GI w layM 24 s.heap M H locs → lv_has ls 2 [(0, .ref (w.2.2.1 0))] → W p l e (Rm 1) s m args below meth c H locs 0 0 (MQ below (GQv w layM 24 res s.heap.size) args s 0 0 (gA w.2.2.1 24 s.heap.size)) (F0 m 52 ls []) := by
    intro  M H locs ls hf hG hl
    unfold j_X9_image_52 at hf
    refine lv_aload_n hx hb dX9_image_52 rfl (lv_at hl 0 rfl) ?_
    refine lv_aload_n hx hb dX9_image_53 rfl (lv_at hl 0 rfl) ?_
    refine g_getR F hG 13 mo_0 (by decide) (by decide) lk_X9_66 rfl dX9_image_54 ?_
    refine lv_aload_n hx hb dX9_image_57 rfl (lv_at hl 0 rfl) ?_
    refine g_getR F hG 22 mo_0 (by decide) (by decide) lk_X9_96 rfl dX9_image_58 ?_
    replace hf := bd_some hf
    obtain ⟨q1, eq1, hf⟩ := hf
    refine gx_callv hG (gx_runV hXk F hX hG (c_X9_copies l w hXk n 2160 13 oM_13 2160 22 oM_22  _ _ eq1) cv_X9_297 ⟨Nat.le_of_ble_eq_true rfl, Nat.le_of_ble_eq_true rfl⟩ (g_recv F hG mo_0 (by decide) rfl) rfl hl.1 rfl (Nat.le_of_ble_eq_true rfl) dX9_image_61 ⟨Nat.le_refl _, Nat.le_refl _⟩) (fun H locs hG => ?_)
    refine lv_aload_n hx hb dX9_image_64 rfl (lv_at hl 0 rfl) ?_
    refine lv_aload_n hx hb dX9_image_65 rfl (lv_at hl 0 rfl) ?_
    refine g_getR F hG 18 mo_0 (by decide) (by decide) lk_X9_84 rfl dX9_image_66 ?_
    refine lv_aload_n hx hb dX9_image_69 rfl (lv_at hl 0 rfl) ?_
    refine g_getR F hG 23 mo_0 (by decide) (by decide) lk_X9_99 rfl dX9_image_70 ?_
    replace hf := bd_some hf
    obtain ⟨q2, eq2, hf⟩ := hf
    refine gx_callv hG (gx_runV hXk F hX hG (c_X9_copies l w hXk n 16 18 oM_18 16 23 oM_23  _ _ eq2) cv_X9_297 ⟨Nat.le_of_ble_eq_true rfl, Nat.le_of_ble_eq_true rfl⟩ (g_recv F hG mo_0 (by decide) rfl) rfl hl.1 rfl (Nat.le_of_ble_eq_true rfl) dX9_image_73 ⟨Nat.le_refl _, Nat.le_refl _⟩) (fun H locs hG => ?_)
    exact cg_vret F hr hlk hG hf dX9_image_76
  have hJ28 : ∀ (x1 : Int32) (M : Mem) (H : Heap) (locs : List Loc) (ls : Array Slot), gl (b_X9_image_28 n  ) n (x1, M) = some res → GI w layM 24 s.heap M H locs → lv_has ls 2 [(0, .ref (w.2.2.1 0)), (1, .int x1)] → W p l e (Rm 1) s m args below meth c H locs 0 0 (MQ below (GQv w layM 24 res s.heap.size) args s 0 0 (gA w.2.2.1 24 s.heap.size)) (F0 m 28 ls []) := by
    intro x1 M H locs ls hf hG hl
    refine gl_run (P := fun (q : (Int32 × Mem)) => ∀ (H : Heap) (locs : List Loc) (ls : Array Slot), GI w layM 24 s.heap q.2 H locs → lv_has ls 2 [(0, .ref (w.2.2.1 0)), (1, .int q.1)] → W p l e (Rm 1) s m args below meth c H locs 0 0 (MQ below (GQv w layM 24 res s.heap.size) args s 0 0 (gA w.2.2.1 24 s.heap.size)) (F0 m 28 ls [])) ?_ n (x1, M) hf H locs ls hG hl
    clear hf hG hl ls locs H M x1
    rintro ⟨x1, M⟩ rr28 hf hI28 hE28 H locs ls hG hl
    try dsimp only at hG hl ⊢
    dsimp only [b_X9_image_28] at hf
    refine lv_iload_n hx hb dX9_image_28 rfl (lv_at hl 1 rfl) ?_
    refine lv_bipush (v := 54) hx hb dX9_image_29 (by decide) ?_
    refine lv_icmp_ge (tgt := 52) hx hb dX9_image_31 (by decide) (fun c3 => ?_) (fun c3 => ?_)
    · replace hf := if_t c3 hf
      replace hf := mr_some hf
      obtain ⟨z28, hf, hz⟩ := hf
      rw [hE28 _ hz] at hf
      exact hJ52  _ _ _ ls hf hG (lv_sub hl [0] rfl)
    · replace hf := if_f c3 hf
      refine lv_aload_n hx hb dX9_image_34 rfl (lv_at hl 0 rfl) ?_
      refine g_getR F hG 21 mo_0 (by decide) (by decide) lk_X9_93 rfl dX9_image_35 ?_
      refine lv_iload_n hx hb dX9_image_38 rfl (lv_at hl 1 rfl) ?_
      refine lv_aload_n hx hb dX9_image_39 rfl (lv_at hl 0 rfl) ?_
      refine g_getR F hG 12 mo_0 (by decide) (by decide) lk_X9_63 rfl dX9_image_40 ?_
      refine lv_iload_n hx hb dX9_image_43 rfl (lv_at hl 1 rfl) ?_
      replace hf := ck_some hf
      obtain ⟨k4, hf⟩ := hf
      refine g_iald F hG oM_12 k4 dX9_image_44 ?_
      replace hf := ck_some hf
      obtain ⟨k5, hf⟩ := hf
      refine g_iast F hG oM_21 k5 dX9_image_45 (fun H locs hG => ?_)
      refine lv_iinc (v := (x1 + (1 : Int32))) (lv' := [(1, .int (x1 + (1 : Int32))), (0, .ref (w.2.2.1 0))]) hx hb dX9_image_46 hl (k := 1) rfl rfl (by decide) rfl (fun ls hl => ?_)
      refine lv_goto (tgt := 28) hx hb dX9_image_49 (by decide) ?_
      exact hI28 _ (Option.some.inj hf).symm _ _ ls hG (lv_sub hl [1, 0] rfl)
  unfold f_X9_image at hf
  refine lv_aload_n hx hb dX9_image_0 rfl (lv_at hl 0 rfl) ?_
  refine lv_iconst (v := 0) hx hb dX9_image_1 (by decide) ?_
  refine g_putI F hG mo_0 (by decide) (by decide) lkv_X9_102 rfl rfl rfl dX9_image_2 (fun H locs hG => ?_)
  refine lv_aload_n hx hb dX9_image_5 rfl (lv_at hl 0 rfl) ?_
  refine lv_iconst (v := 1) hx hb dX9_image_6 (by decide) ?_
  refine g_putI F hG mo_0 (by decide) (by decide) lkv_X9_307 rfl rfl rfl dX9_image_7 (fun H locs hG => ?_)
  refine lv_aload_n hx hb dX9_image_10 rfl (lv_at hl 0 rfl) ?_
  refine lv_aload_n hx hb dX9_image_11 rfl (lv_at hl 0 rfl) ?_
  refine g_getI F hG mo_0 (by decide) (by decide) lk_X9_301 rfl dX9_image_12 ?_
  refine g_putI F hG mo_0 (by decide) (by decide) lkv_X9_447 rfl rfl rfl dX9_image_15 (fun H locs hG => ?_)
  refine lv_aload_n hx hb dX9_image_18 rfl (lv_at hl 0 rfl) ?_
  refine lv_aload_n hx hb dX9_image_19 rfl (lv_at hl 0 rfl) ?_
  refine g_getI F hG mo_0 (by decide) (by decide) lk_X9_304 rfl dX9_image_20 ?_
  refine g_putI F hG mo_0 (by decide) (by decide) lkv_X9_450 rfl rfl rfl dX9_image_23 (fun H locs hG => ?_)
  refine lv_iconst (v := 0) hx hb dX9_image_26 (by decide) ?_
  refine lv_istore_n (lv' := [(1, .int (0 : Int32)), (0, .ref (w.2.2.1 0))]) hx hb dX9_image_27 rfl hl (by decide) rfl (fun ls hl => ?_)
  exact hJ28 _ _ _ _ ls hf hG (lv_sub hl [1, 0] rfl)

def j_X9_restore_56 (n : Nat) (M : Mem) : Option (Int32 × Mem) := bd (f_X9_copies n 2160 22 2160 13  M) (fun q1 => bd (f_X9_copies n 16 23 16 18  q1) (fun q2 => some ((1 : Int32), q2)))
def b_X9_restore_32 (n : Nat) (q : (Int32 × Mem)) : Option ((Int32 × Mem) ⊕ (Int32 × Mem)) := match q with
  | (x1, M) => if (54 : Int32) ≤ x1 then (mr (j_X9_restore_56 n  M)) else (ck (inb x1 54) (ck (inb x1 108) (some (.inl ((x1 + (1 : Int32)), si M 12 x1.toNatClampNeg (gi M 21 x1.toNatClampNeg))))))
def f_X9_restore (n : Nat) (M : Mem) : Option (Int32 × Mem) := if (gi (si M 0 0 (0 : Int32)) 0 59) = 0 then (some ((0 : Int32), si M 0 0 (0 : Int32))) else (gl (b_X9_restore_32 n ) n ((0 : Int32), si (si (si M 0 0 (0 : Int32)) 0 46 (gi (si M 0 0 (0 : Int32)) 0 60)) 0 54 (gi (si (si M 0 0 (0 : Int32)) 0 46 (gi (si M 0 0 (0 : Int32)) 0 60)) 0 61)))
set_option maxHeartbeats 4000000 in
set_option maxRecDepth 100000 in
theorem c_X9_restore (l : Launch) (w : Wd) {X : (Nat → Prop) → State → Heap → Prop} (hXk : XOK X) (n : Nat) (M : Mem) (res : Int32 × Mem) (hf : f_X9_restore n   M = some res) : CG l w layM 24 X yX9_restore cX9_restore 2 (some .boolean) 1 [.ref (w.2.2.1 0)] M (GQi w layM 24 res) := by
  refine cg_start (by decide +kernel) (Nat.le_of_ble_eq_true rfl) ?_
  intro p e s m args below meth c F hr hlk hX hG ls hl
  have F : FX w p m c cX9_restore 2 s args RX9 := F
  have hx := F.1.1
  have hb := F.1.2.1
  have hl : lv_has ls 2 [(0, .ref (w.2.2.1 0))] := hl
  have hJ56 : ∀ (M : Mem) (H : Heap) (locs : List Loc) (ls : Array Slot), j_X9_restore_56 n   M = some res → GI w layM 24 s.heap M H locs → lv_has ls 2 [(0, .ref (w.2.2.1 0))] → W p l e (Rm 1) s m args below meth c H locs 0 0 (MQ below (GQi w layM 24 res s.heap.size) args s 0 0 (gA w.2.2.1 24 s.heap.size)) (F0 m 56 ls []) := by
    intro  M H locs ls hf hG hl
    unfold j_X9_restore_56 at hf
    refine lv_aload_n hx hb dX9_restore_56 rfl (lv_at hl 0 rfl) ?_
    refine lv_aload_n hx hb dX9_restore_57 rfl (lv_at hl 0 rfl) ?_
    refine g_getR F hG 22 mo_0 (by decide) (by decide) lk_X9_96 rfl dX9_restore_58 ?_
    refine lv_aload_n hx hb dX9_restore_61 rfl (lv_at hl 0 rfl) ?_
    refine g_getR F hG 13 mo_0 (by decide) (by decide) lk_X9_66 rfl dX9_restore_62 ?_
    replace hf := bd_some hf
    obtain ⟨q1, eq1, hf⟩ := hf
    refine gx_callv hG (gx_runV hXk F hX hG (c_X9_copies l w hXk n 2160 22 oM_22 2160 13 oM_13  _ _ eq1) cv_X9_297 ⟨Nat.le_of_ble_eq_true rfl, Nat.le_of_ble_eq_true rfl⟩ (g_recv F hG mo_0 (by decide) rfl) rfl hl.1 rfl (Nat.le_of_ble_eq_true rfl) dX9_restore_65 ⟨Nat.le_refl _, Nat.le_refl _⟩) (fun H locs hG => ?_)
    refine lv_aload_n hx hb dX9_restore_68 rfl (lv_at hl 0 rfl) ?_
    refine lv_aload_n hx hb dX9_restore_69 rfl (lv_at hl 0 rfl) ?_
    refine g_getR F hG 23 mo_0 (by decide) (by decide) lk_X9_99 rfl dX9_restore_70 ?_
    refine lv_aload_n hx hb dX9_restore_73 rfl (lv_at hl 0 rfl) ?_
    refine g_getR F hG 18 mo_0 (by decide) (by decide) lk_X9_84 rfl dX9_restore_74 ?_
    replace hf := bd_some hf
    obtain ⟨q2, eq2, hf⟩ := hf
    refine gx_callv hG (gx_runV hXk F hX hG (c_X9_copies l w hXk n 16 23 oM_23 16 18 oM_18  _ _ eq2) cv_X9_297 ⟨Nat.le_of_ble_eq_true rfl, Nat.le_of_ble_eq_true rfl⟩ (g_recv F hG mo_0 (by decide) rfl) rfl hl.1 rfl (Nat.le_of_ble_eq_true rfl) dX9_restore_77 ⟨Nat.le_refl _, Nat.le_refl _⟩) (fun H locs hG => ?_)
    refine lv_iconst (v := 1) hx hb dX9_restore_80 (by decide) ?_
    exact cg_zret F hr hlk hG hf (Or.inr rfl) dX9_restore_81
  have hJ32 : ∀ (x1 : Int32) (M : Mem) (H : Heap) (locs : List Loc) (ls : Array Slot), gl (b_X9_restore_32 n  ) n (x1, M) = some res → GI w layM 24 s.heap M H locs → lv_has ls 2 [(0, .ref (w.2.2.1 0)), (1, .int x1)] → W p l e (Rm 1) s m args below meth c H locs 0 0 (MQ below (GQi w layM 24 res s.heap.size) args s 0 0 (gA w.2.2.1 24 s.heap.size)) (F0 m 32 ls []) := by
    intro x1 M H locs ls hf hG hl
    refine gl_run (P := fun (q : (Int32 × Mem)) => ∀ (H : Heap) (locs : List Loc) (ls : Array Slot), GI w layM 24 s.heap q.2 H locs → lv_has ls 2 [(0, .ref (w.2.2.1 0)), (1, .int q.1)] → W p l e (Rm 1) s m args below meth c H locs 0 0 (MQ below (GQi w layM 24 res s.heap.size) args s 0 0 (gA w.2.2.1 24 s.heap.size)) (F0 m 32 ls [])) ?_ n (x1, M) hf H locs ls hG hl
    clear hf hG hl ls locs H M x1
    rintro ⟨x1, M⟩ rr32 hf hI32 hE32 H locs ls hG hl
    try dsimp only at hG hl ⊢
    dsimp only [b_X9_restore_32] at hf
    refine lv_iload_n hx hb dX9_restore_32 rfl (lv_at hl 1 rfl) ?_
    refine lv_bipush (v := 54) hx hb dX9_restore_33 (by decide) ?_
    refine lv_icmp_ge (tgt := 56) hx hb dX9_restore_35 (by decide) (fun c3 => ?_) (fun c3 => ?_)
    · replace hf := if_t c3 hf
      replace hf := mr_some hf
      obtain ⟨z32, hf, hz⟩ := hf
      rw [hE32 _ hz] at hf
      exact hJ56  _ _ _ ls hf hG (lv_sub hl [0] rfl)
    · replace hf := if_f c3 hf
      refine lv_aload_n hx hb dX9_restore_38 rfl (lv_at hl 0 rfl) ?_
      refine g_getR F hG 12 mo_0 (by decide) (by decide) lk_X9_63 rfl dX9_restore_39 ?_
      refine lv_iload_n hx hb dX9_restore_42 rfl (lv_at hl 1 rfl) ?_
      refine lv_aload_n hx hb dX9_restore_43 rfl (lv_at hl 0 rfl) ?_
      refine g_getR F hG 21 mo_0 (by decide) (by decide) lk_X9_93 rfl dX9_restore_44 ?_
      refine lv_iload_n hx hb dX9_restore_47 rfl (lv_at hl 1 rfl) ?_
      replace hf := ck_some hf
      obtain ⟨k4, hf⟩ := hf
      refine g_iald F hG oM_21 k4 dX9_restore_48 ?_
      replace hf := ck_some hf
      obtain ⟨k5, hf⟩ := hf
      refine g_iast F hG oM_12 k5 dX9_restore_49 (fun H locs hG => ?_)
      refine lv_iinc (v := (x1 + (1 : Int32))) (lv' := [(1, .int (x1 + (1 : Int32))), (0, .ref (w.2.2.1 0))]) hx hb dX9_restore_50 hl (k := 1) rfl rfl (by decide) rfl (fun ls hl => ?_)
      refine lv_goto (tgt := 32) hx hb dX9_restore_53 (by decide) ?_
      exact hI32 _ (Option.some.inj hf).symm _ _ ls hG (lv_sub hl [1, 0] rfl)
  unfold f_X9_restore at hf
  refine lv_aload_n hx hb dX9_restore_0 rfl (lv_at hl 0 rfl) ?_
  refine lv_iconst (v := 0) hx hb dX9_restore_1 (by decide) ?_
  refine g_putI F hG mo_0 (by decide) (by decide) lkv_X9_102 rfl rfl rfl dX9_restore_2 (fun H locs hG => ?_)
  refine lv_aload_n hx hb dX9_restore_5 rfl (lv_at hl 0 rfl) ?_
  refine g_getI F hG mo_0 (by decide) (by decide) lk_X9_307 rfl dX9_restore_6 ?_
  refine lv_if_ne (tgt := 14) hx hb dX9_restore_9 (by decide) (fun c6 => ?_) (fun c6 => ?_)
  · replace hf := if_f c6 hf
    refine lv_aload_n hx hb dX9_restore_14 rfl (lv_at hl 0 rfl) ?_
    refine lv_aload_n hx hb dX9_restore_15 rfl (lv_at hl 0 rfl) ?_
    refine g_getI F hG mo_0 (by decide) (by decide) lk_X9_447 rfl dX9_restore_16 ?_
    refine g_putI F hG mo_0 (by decide) (by decide) lkv_X9_301 rfl rfl rfl dX9_restore_19 (fun H locs hG => ?_)
    refine lv_aload_n hx hb dX9_restore_22 rfl (lv_at hl 0 rfl) ?_
    refine lv_aload_n hx hb dX9_restore_23 rfl (lv_at hl 0 rfl) ?_
    refine g_getI F hG mo_0 (by decide) (by decide) lk_X9_450 rfl dX9_restore_24 ?_
    refine g_putI F hG mo_0 (by decide) (by decide) lkv_X9_304 rfl rfl rfl dX9_restore_27 (fun H locs hG => ?_)
    refine lv_iconst (v := 0) hx hb dX9_restore_30 (by decide) ?_
    refine lv_istore_n (lv' := [(1, .int (0 : Int32)), (0, .ref (w.2.2.1 0))]) hx hb dX9_restore_31 rfl hl (by decide) rfl (fun ls hl => ?_)
    exact hJ32 _ _ _ _ ls hf hG (lv_sub hl [1, 0] rfl)
  · replace hf := if_t c6 hf
    refine lv_iconst (v := 0) hx hb dX9_restore_12 (by decide) ?_
    exact cg_zret F hr hlk hG hf (Or.inl rfl) dX9_restore_13
