theorem nx_len {L j : Nat} (hL : L ≤ 3072) (hj : j ≤ 4000) : (Int32.ofNat L - (6 : Int32) < nI j) ↔ L < j + 6 := by
  have h1 : (Int32.ofNat L - (6 : Int32)).toInt = (L : Int) - 6 := pk_sub_toInt (a := L) (b := 6) (by omega) (by decide)
  have h2 : (nI j).toInt = (j : Int) := nI_toInt (by omega)
  rw [Int32.lt_iff_toInt_lt, h1, h2]
  omega
theorem nx_add {i k : Nat} : nI i + nI k = nI (i + k) := nI_add i k
set_option maxHeartbeats 4000000 in
set_option maxRecDepth 100000 in
theorem law_loop {p : Program} {l : Launch} {e : Env} {s : State} {m : MethodId} {below : List Frame} {meth : Method} {c : Code} {b L : Nat} {g : Nat → Int32} {w : Wd} {ρ2 : Nat → Nat} (C9 : LC p l s m c b L g w ρ2) (hr : meth.sig.returnType = ret) (hlk : meth.locks = false) (hLb : L ≤ 3072) (n : Nat) (R : Mem → Mem → Prop) (hR : ∀ (x4 : Int32) (M M2 : Mem), R M M2 → ∃ M9 M8, lw_step n g x4 M M2 = some (M9, M8) ∧ R M9 M8) :
    ∀ (f j : Nat), 6 * j ≤ L → L < 6 * j + 6 * f → ∀ (x4 : Int32), x4 = nI (6 * j) → ∀ (M M2 : Mem), R M M2 → ∀ (H : Heap) (locs : List Loc) (ls : Array Slot), LG w ρ2 s M M2 H locs → lv_has ls 7 [(0, .ref b), (1, .ref (w.2.2.1 0)), (2, .ref (ρ2 0)), (3, .ref (w.2.2.1 60)), (4, .int x4)] → W p l e room_1 s m #[Value.ref b] below meth c H locs (100 + 4 * j) (20000 + 24 * j) (lw_Z below #[Value.ref b] s) (F0 m 23 ls []) := by
  intro f
  induction f with
  | zero => intro j h1 h2; omega
  | succ f ih =>
    intro j h1 h2 x4 ex M M2 hMM H locs ls hG hl
    obtain ⟨F, hst, hL, hX, hXs, hbl⟩ := id C9
    have hx := F.1.1
    have hb := F.1.2.1
    have hbA : ¬ A0 s b := Nat.not_le.mpr hbl
    refine lv_iload hx hb dL_law_23 (lv_at hl 4 rfl) ?_
    refine lv_aload_n hx hb dL_law_25 rfl (lv_at hl 0 rfl) ?_
    refine va_slen hx hb hXs hbl hbA hG.2.2 dL_law_26 ?_
    refine lv_bipush (v := 6) hx hb dL_law_27 (by decide) ?_
    refine lv_isub hx hb dL_law_29 ?_
    refine lv_icmp_gt (tgt := 2176) hx hb dL_law_30 (by decide) (fun c0 => ?_) (fun c0 => ?_)
    · refine lv_iconst (v := 1) hx hb dL_law_2176 (by decide) ?_
      refine va_forget (fun q hq => hG.2.2.2.2 q hq) ?_
      refine W.widen (k := 601024) (n := 7293034) (by omega) (by omega) ?_
      exact lw_ret hx hb hr hlk dL_law_2177
    · have hlt : 6 * j + 6 ≤ L := by
        rw [ex, nx_len hLb (by omega)] at c0
        omega
      have hbs : ∀ k : Int32, k = 0 ∨ k = 1 ∨ k = 2 ∨ k = 3 ∨ k = 4 ∨ k = 5 → vp_in (x4 + k) L := by
        intro k hk
        rw [ex]
        rcases hk with rfl | rfl | rfl | rfl | rfl | rfl
        · have e0 : nI (6 * j) + (0 : Int32) = nI (6 * j) := Int32.add_zero _
          rw [e0]
          exact vp_in_nI (by omega) (by omega)
        · exact (nx_add (i := 6 * j) (k := 1)) ▸ vp_in_nI (by omega) (by omega)
        · exact (nx_add (i := 6 * j) (k := 2)) ▸ vp_in_nI (by omega) (by omega)
        · exact (nx_add (i := 6 * j) (k := 3)) ▸ vp_in_nI (by omega) (by omega)
        · exact (nx_add (i := 6 * j) (k := 4)) ▸ vp_in_nI (by omega) (by omega)
        · exact (nx_add (i := 6 * j) (k := 5)) ▸ vp_in_nI (by omega) (by omega)
      have hb0 : vp_in x4 L := by rw [ex]; exact vp_in_nI (by omega) (by omega)
      refine lv_aload_n hx hb dL_law_33 rfl (lv_at hl 0 rfl) ?_
      refine lv_iload hx hb dL_law_34 (lv_at hl 4 rfl) ?_
      refine va_sld hx hb hXs hbl hbA hG.2.2 hb0 dL_law_36 ?_
      refine lv_bipush (v := 63) hx hb dL_law_37 (by decide) ?_
      refine lv_iand hx hb dL_law_39 ?_
      obtain ⟨M9, M8, hf, hR9⟩ := hR x4 M M2 hMM
      have K : ∀ (H : Heap) (locs : List Loc) (ls : Array Slot), LG w ρ2 s M9 M8 H locs → lv_has ls 7 [(0, .ref b), (1, .ref (w.2.2.1 0)), (2, .ref (ρ2 0)), (3, .ref (w.2.2.1 60)), (4, .int (x4 + (6 : Int32)))] → W p l e room_1 s m #[Value.ref b] below meth c H locs (100 + 4 * (j + 1)) (20000 + 24 * (j + 1)) (lw_Z below #[Value.ref b] s) (F0 m 23 ls []) :=
        fun H locs ls hG hl => ih (j + 1) (by omega) (by omega) _ (by rw [ex]; exact nx_add (i := 6 * j) (k := 6)) M9 M8 hR9 H locs ls hG hl
      unfold lw_step at hf
      by_cases c1 : (g x4.toNatClampNeg &&& (63 : Int32)) = (0 : Int32)
      · replace hf := if_t c1 hf
        refine lv_tableIn (off := 164) (tgt := 204) hx hb dL_law_40 (by rw [c1]; decide) (by rw [c1]; decide) (by rw [c1]; rfl) (by decide) ?_
        exact lw_case0 C9 n j (by omega) x4 hbs M M2 M9 M8 hf K H locs ls hG hl
      replace hf := if_f c1 hf
      by_cases c2 : (g x4.toNatClampNeg &&& (63 : Int32)) = (1 : Int32)
      · replace hf := if_t c2 hf
        refine lv_tableIn (off := 237) (tgt := 277) hx hb dL_law_40 (by rw [c2]; decide) (by rw [c2]; decide) (by rw [c2]; rfl) (by decide) ?_
        exact lw_case1 C9 n j (by omega) x4 hbs M M2 M9 M8 hf K H locs ls hG hl
      replace hf := if_f c2 hf
      by_cases c3 : (g x4.toNatClampNeg &&& (63 : Int32)) = (2 : Int32)
      · replace hf := if_t c3 hf
        refine lv_tableIn (off := 293) (tgt := 333) hx hb dL_law_40 (by rw [c3]; decide) (by rw [c3]; decide) (by rw [c3]; rfl) (by decide) ?_
        exact lw_case2 C9 n j (by omega) x4 hbs M M2 M9 M8 hf K H locs ls hG hl
      replace hf := if_f c3 hf
      by_cases c4 : (g x4.toNatClampNeg &&& (63 : Int32)) = (3 : Int32)
      · replace hf := if_t c4 hf
        refine lv_tableIn (off := 306) (tgt := 346) hx hb dL_law_40 (by rw [c4]; decide) (by rw [c4]; decide) (by rw [c4]; rfl) (by decide) ?_
        exact lw_case3 C9 n j (by omega) x4 hbs M M2 M9 M8 hf K H locs ls hG hl
      replace hf := if_f c4 hf
      by_cases c5 : (g x4.toNatClampNeg &&& (63 : Int32)) = (4 : Int32)
      · replace hf := if_t c5 hf
        refine lv_tableIn (off := 362) (tgt := 402) hx hb dL_law_40 (by rw [c5]; decide) (by rw [c5]; decide) (by rw [c5]; rfl) (by decide) ?_
        exact lw_case4 C9 n j (by omega) x4 hbs M M2 M9 M8 hf K H locs ls hG hl
      replace hf := if_f c5 hf
      by_cases c6 : (g x4.toNatClampNeg &&& (63 : Int32)) = (5 : Int32)
      · replace hf := if_t c6 hf
        refine lv_tableIn (off := 430) (tgt := 470) hx hb dL_law_40 (by rw [c6]; decide) (by rw [c6]; decide) (by rw [c6]; rfl) (by decide) ?_
        exact lw_case5 C9 n j (by omega) x4 hbs M M2 M9 M8 hf K H locs ls hG hl
      replace hf := if_f c6 hf
      by_cases c7 : (g x4.toNatClampNeg &&& (63 : Int32)) = (6 : Int32)
      · replace hf := if_t c7 hf
        refine lv_tableIn (off := 498) (tgt := 538) hx hb dL_law_40 (by rw [c7]; decide) (by rw [c7]; decide) (by rw [c7]; rfl) (by decide) ?_
        exact lw_case6 C9 n j (by omega) x4 hbs M M2 M9 M8 hf K H locs ls hG hl
      replace hf := if_f c7 hf
      by_cases c8 : (g x4.toNatClampNeg &&& (63 : Int32)) = (7 : Int32)
      · replace hf := if_t c8 hf
        refine lv_tableIn (off := 523) (tgt := 563) hx hb dL_law_40 (by rw [c8]; decide) (by rw [c8]; decide) (by rw [c8]; rfl) (by decide) ?_
        exact lw_case7 C9 n j (by omega) x4 hbs M M2 M9 M8 hf K H locs ls hG hl
      replace hf := if_f c8 hf
      by_cases c9 : (g x4.toNatClampNeg &&& (63 : Int32)) = (8 : Int32)
      · replace hf := if_t c9 hf
        refine lv_tableIn (off := 548) (tgt := 588) hx hb dL_law_40 (by rw [c9]; decide) (by rw [c9]; decide) (by rw [c9]; rfl) (by decide) ?_
        exact lw_case8 C9 n j (by omega) x4 hbs M M2 M9 M8 hf K H locs ls hG hl
      replace hf := if_f c9 hf
      by_cases c10 : (g x4.toNatClampNeg &&& (63 : Int32)) = (9 : Int32)
      · replace hf := if_t c10 hf
        refine lv_tableIn (off := 604) (tgt := 644) hx hb dL_law_40 (by rw [c10]; decide) (by rw [c10]; decide) (by rw [c10]; rfl) (by decide) ?_
        exact lw_case9 C9 n j (by omega) x4 hbs M M2 M9 M8 hf K H locs ls hG hl
      replace hf := if_f c10 hf
      by_cases c11 : (g x4.toNatClampNeg &&& (63 : Int32)) = (10 : Int32)
      · replace hf := if_t c11 hf
        refine lv_tableIn (off := 660) (tgt := 700) hx hb dL_law_40 (by rw [c11]; decide) (by rw [c11]; decide) (by rw [c11]; rfl) (by decide) ?_
        exact lw_case10 C9 n j (by omega) x4 hbs M M2 M9 M8 hf K H locs ls hG hl
      replace hf := if_f c11 hf
      by_cases c12 : (g x4.toNatClampNeg &&& (63 : Int32)) = (11 : Int32)
      · replace hf := if_t c12 hf
        refine lv_tableIn (off := 673) (tgt := 713) hx hb dL_law_40 (by rw [c12]; decide) (by rw [c12]; decide) (by rw [c12]; rfl) (by decide) ?_
        exact lw_case11 C9 n j (by omega) x4 hbs M M2 M9 M8 hf K H locs ls hG hl
      replace hf := if_f c12 hf
      by_cases c13 : (g x4.toNatClampNeg &&& (63 : Int32)) = (12 : Int32)
      · replace hf := if_t c13 hf
        refine lv_tableIn (off := 776) (tgt := 816) hx hb dL_law_40 (by rw [c13]; decide) (by rw [c13]; decide) (by rw [c13]; rfl) (by decide) ?_
        exact lw_case12 C9 n j (by omega) x4 hbs M M2 M9 M8 hf K H locs ls hG hl
      replace hf := if_f c13 hf
      by_cases c14 : (g x4.toNatClampNeg &&& (63 : Int32)) = (13 : Int32)
      · replace hf := if_t c14 hf
        refine lv_tableIn (off := 789) (tgt := 829) hx hb dL_law_40 (by rw [c14]; decide) (by rw [c14]; decide) (by rw [c14]; rfl) (by decide) ?_
        exact lw_case13 C9 n j (by omega) x4 hbs M M2 M9 M8 hf K H locs ls hG hl
      replace hf := if_f c14 hf
      by_cases c15 : (g x4.toNatClampNeg &&& (63 : Int32)) = (14 : Int32)
      · replace hf := if_t c15 hf
        refine lv_tableIn (off := 857) (tgt := 897) hx hb dL_law_40 (by rw [c15]; decide) (by rw [c15]; decide) (by rw [c15]; rfl) (by decide) ?_
        exact lw_case14 C9 n j (by omega) x4 hbs M M2 M9 M8 hf K H locs ls hG hl
      replace hf := if_f c15 hf
      by_cases c16 : (g x4.toNatClampNeg &&& (63 : Int32)) = (15 : Int32)
      · replace hf := if_t c16 hf
        refine lv_tableIn (off := 937) (tgt := 977) hx hb dL_law_40 (by rw [c16]; decide) (by rw [c16]; decide) (by rw [c16]; rfl) (by decide) ?_
        exact lw_case15 C9 n j (by omega) x4 hbs M M2 M9 M8 hf K H locs ls hG hl
      replace hf := if_f c16 hf
      by_cases c17 : (g x4.toNatClampNeg &&& (63 : Int32)) = (16 : Int32)
      · replace hf := if_t c17 hf
        refine lv_tableIn (off := 993) (tgt := 1033) hx hb dL_law_40 (by rw [c17]; decide) (by rw [c17]; decide) (by rw [c17]; rfl) (by decide) ?_
        exact lw_case16 C9 n j (by omega) x4 hbs M M2 M9 M8 hf K H locs ls hG hl
      replace hf := if_f c17 hf
      by_cases c18 : (g x4.toNatClampNeg &&& (63 : Int32)) = (17 : Int32)
      · replace hf := if_t c18 hf
        refine lv_tableIn (off := 1006) (tgt := 1046) hx hb dL_law_40 (by rw [c18]; decide) (by rw [c18]; decide) (by rw [c18]; rfl) (by decide) ?_
        exact lw_case17 C9 n j (by omega) x4 hbs M M2 M9 M8 hf K H locs ls hG hl
      replace hf := if_f c18 hf
      by_cases c19 : (g x4.toNatClampNeg &&& (63 : Int32)) = (18 : Int32)
      · replace hf := if_t c19 hf
        refine lv_tableIn (off := 1074) (tgt := 1114) hx hb dL_law_40 (by rw [c19]; decide) (by rw [c19]; decide) (by rw [c19]; rfl) (by decide) ?_
        exact lw_case18 C9 n j (by omega) x4 hbs M M2 M9 M8 hf K H locs ls hG hl
      replace hf := if_f c19 hf
      by_cases c20 : (g x4.toNatClampNeg &&& (63 : Int32)) = (19 : Int32)
      · replace hf := if_t c20 hf
        refine lv_tableIn (off := 1142) (tgt := 1182) hx hb dL_law_40 (by rw [c20]; decide) (by rw [c20]; decide) (by rw [c20]; rfl) (by decide) ?_
        exact lw_case19 C9 n j (by omega) x4 hbs M M2 M9 M8 hf K H locs ls hG hl
      replace hf := if_f c20 hf
      by_cases c21 : (g x4.toNatClampNeg &&& (63 : Int32)) = (20 : Int32)
      · replace hf := if_t c21 hf
        refine lv_tableIn (off := 1210) (tgt := 1250) hx hb dL_law_40 (by rw [c21]; decide) (by rw [c21]; decide) (by rw [c21]; rfl) (by decide) ?_
        exact lw_case20 C9 n j (by omega) x4 hbs M M2 M9 M8 hf K H locs ls hG hl
      replace hf := if_f c21 hf
      by_cases c22 : (g x4.toNatClampNeg &&& (63 : Int32)) = (21 : Int32)
      · replace hf := if_t c22 hf
        refine lv_tableIn (off := 1278) (tgt := 1318) hx hb dL_law_40 (by rw [c22]; decide) (by rw [c22]; decide) (by rw [c22]; rfl) (by decide) ?_
        exact lw_case21 C9 n j (by omega) x4 hbs M M2 M9 M8 hf K H locs ls hG hl
      replace hf := if_f c22 hf
      by_cases c23 : (g x4.toNatClampNeg &&& (63 : Int32)) = (22 : Int32)
      · replace hf := if_t c23 hf
        refine lv_tableIn (off := 1346) (tgt := 1386) hx hb dL_law_40 (by rw [c23]; decide) (by rw [c23]; decide) (by rw [c23]; rfl) (by decide) ?_
        exact lw_case22 C9 n j (by omega) x4 hbs M M2 M9 M8 hf K H locs ls hG hl
      replace hf := if_f c23 hf
      by_cases c24 : (g x4.toNatClampNeg &&& (63 : Int32)) = (23 : Int32)
      · replace hf := if_t c24 hf
        refine lv_tableIn (off := 1402) (tgt := 1442) hx hb dL_law_40 (by rw [c24]; decide) (by rw [c24]; decide) (by rw [c24]; rfl) (by decide) ?_
        exact lw_case23 C9 n j (by omega) x4 hbs M M2 M9 M8 hf K H locs ls hG hl
      replace hf := if_f c24 hf
      by_cases c25 : (g x4.toNatClampNeg &&& (63 : Int32)) = (24 : Int32)
      · replace hf := if_t c25 hf
        refine lv_tableIn (off := 1470) (tgt := 1510) hx hb dL_law_40 (by rw [c25]; decide) (by rw [c25]; decide) (by rw [c25]; rfl) (by decide) ?_
        exact lw_case24 C9 n j (by omega) x4 hbs M M2 M9 M8 hf K H locs ls hG hl
      replace hf := if_f c25 hf
      by_cases c26 : (g x4.toNatClampNeg &&& (63 : Int32)) = (25 : Int32)
      · replace hf := if_t c26 hf
        refine lv_tableIn (off := 1526) (tgt := 1566) hx hb dL_law_40 (by rw [c26]; decide) (by rw [c26]; decide) (by rw [c26]; rfl) (by decide) ?_
        exact lw_case25 C9 n j (by omega) x4 hbs M M2 M9 M8 hf K H locs ls hG hl
      replace hf := if_f c26 hf
      by_cases c27 : (g x4.toNatClampNeg &&& (63 : Int32)) = (26 : Int32)
      · replace hf := if_t c27 hf
        refine lv_tableIn (off := 1563) (tgt := 1603) hx hb dL_law_40 (by rw [c27]; decide) (by rw [c27]; decide) (by rw [c27]; rfl) (by decide) ?_
        exact lw_case26 C9 n j (by omega) x4 hbs M M2 M9 M8 hf K H locs ls hG hl
      replace hf := if_f c27 hf
      by_cases c28 : (g x4.toNatClampNeg &&& (63 : Int32)) = (27 : Int32)
      · replace hf := if_t c28 hf
        refine lv_tableIn (off := 1574) (tgt := 1614) hx hb dL_law_40 (by rw [c28]; decide) (by rw [c28]; decide) (by rw [c28]; rfl) (by decide) ?_
        exact lw_case27 C9 n j (by omega) x4 hbs M M2 M9 M8 hf K H locs ls hG hl
      replace hf := if_f c28 hf
      by_cases c29 : (g x4.toNatClampNeg &&& (63 : Int32)) = (28 : Int32)
      · replace hf := if_t c29 hf
        refine lv_tableIn (off := 1630) (tgt := 1670) hx hb dL_law_40 (by rw [c29]; decide) (by rw [c29]; decide) (by rw [c29]; rfl) (by decide) ?_
        exact lw_case28 C9 n j (by omega) x4 hbs M M2 M9 M8 hf K H locs ls hG hl
      replace hf := if_f c29 hf
      by_cases c30 : (g x4.toNatClampNeg &&& (63 : Int32)) = (29 : Int32)
      · replace hf := if_t c30 hf
        refine lv_tableIn (off := 1686) (tgt := 1726) hx hb dL_law_40 (by rw [c30]; decide) (by rw [c30]; decide) (by rw [c30]; rfl) (by decide) ?_
        exact lw_case29 C9 n j (by omega) x4 hbs M M2 M9 M8 hf K H locs ls hG hl
      replace hf := if_f c30 hf
      by_cases c31 : (g x4.toNatClampNeg &&& (63 : Int32)) = (30 : Int32)
      · replace hf := if_t c31 hf
        refine lv_tableIn (off := 1754) (tgt := 1794) hx hb dL_law_40 (by rw [c31]; decide) (by rw [c31]; decide) (by rw [c31]; rfl) (by decide) ?_
        exact lw_case30 C9 n j (by omega) x4 hbs M M2 M9 M8 hf K H locs ls hG hl
      replace hf := if_f c31 hf
      by_cases c32 : (g x4.toNatClampNeg &&& (63 : Int32)) = (31 : Int32)
      · replace hf := if_t c32 hf
        refine lv_tableIn (off := 1834) (tgt := 1874) hx hb dL_law_40 (by rw [c32]; decide) (by rw [c32]; decide) (by rw [c32]; rfl) (by decide) ?_
        exact lw_case31 C9 n j (by omega) x4 hbs M M2 M9 M8 hf K H locs ls hG hl
      replace hf := if_f c32 hf
      by_cases c33 : (g x4.toNatClampNeg &&& (63 : Int32)) = (32 : Int32)
      · replace hf := if_t c33 hf
        refine lv_tableIn (off := 1914) (tgt := 1954) hx hb dL_law_40 (by rw [c33]; decide) (by rw [c33]; decide) (by rw [c33]; rfl) (by decide) ?_
        exact lw_case32 C9 n j (by omega) x4 hbs M M2 M9 M8 hf K H locs ls hG hl
      replace hf := if_f c33 hf
      by_cases c34 : (g x4.toNatClampNeg &&& (63 : Int32)) = (33 : Int32)
      · replace hf := if_t c34 hf
        refine lv_tableIn (off := 1982) (tgt := 2022) hx hb dL_law_40 (by rw [c34]; decide) (by rw [c34]; decide) (by rw [c34]; rfl) (by decide) ?_
        exact lw_case33 C9 n j (by omega) x4 hbs M M2 M9 M8 hf K H locs ls hG hl
      replace hf := if_f c34 hf
      by_cases c35 : (g x4.toNatClampNeg &&& (63 : Int32)) = (34 : Int32)
      · replace hf := if_t c35 hf
        refine lv_tableIn (off := 2038) (tgt := 2078) hx hb dL_law_40 (by rw [c35]; decide) (by rw [c35]; decide) (by rw [c35]; rfl) (by decide) ?_
        exact lw_case34 C9 n j (by omega) x4 hbs M M2 M9 M8 hf K H locs ls hG hl
      replace hf := if_f c35 hf
      by_cases c36 : (g x4.toNatClampNeg &&& (63 : Int32)) = (35 : Int32)
      · replace hf := if_t c36 hf
        refine lv_tableIn (off := 2106) (tgt := 2146) hx hb dL_law_40 (by rw [c36]; decide) (by rw [c36]; decide) (by rw [c36]; rfl) (by decide) ?_
        exact lw_case35 C9 n j (by omega) x4 hbs M M2 M9 M8 hf K H locs ls hG hl
      replace hf := if_f c36 hf
      by_cases c37 : (g x4.toNatClampNeg &&& (63 : Int32)) = (36 : Int32)
      · replace hf := if_t c37 hf
        refine lv_tableIn (off := 2117) (tgt := 2157) hx hb dL_law_40 (by rw [c37]; decide) (by rw [c37]; decide) (by rw [c37]; rfl) (by decide) ?_
        exact lw_case36 C9 n j (by omega) x4 hbs M M2 M9 M8 hf K H locs ls hG hl
      replace hf := if_f c37 hf
      refine lv_tableOut (tgt := 2170) hx hb dL_law_40 (sw_out 0 36 37 (by decide) (fun k hk => match k, hk with | 0, _ => c1 | 1, _ => c2 | 2, _ => c3 | 3, _ => c4 | 4, _ => c5 | 5, _ => c6 | 6, _ => c7 | 7, _ => c8 | 8, _ => c9 | 9, _ => c10 | 10, _ => c11 | 11, _ => c12 | 12, _ => c13 | 13, _ => c14 | 14, _ => c15 | 15, _ => c16 | 16, _ => c17 | 17, _ => c18 | 18, _ => c19 | 19, _ => c20 | 20, _ => c21 | 21, _ => c22 | 22, _ => c23 | 23, _ => c24 | 24, _ => c25 | 25, _ => c26 | 26, _ => c27 | 27, _ => c28 | 28, _ => c29 | 29, _ => c30 | 30, _ => c31 | 31, _ => c32 | 32, _ => c33 | 33, _ => c34 | 34, _ => c35 | 35, _ => c36 | 36, _ => c37 | k + 37, h => absurd h (by omega))) (by decide) ?_
      refine lv_iinc (v := (x4 + (6 : Int32))) (lv' := [(4, .int (x4 + (6 : Int32))), (0, .ref b), (1, .ref (w.2.2.1 0)), (2, .ref (ρ2 0)), (3, .ref (w.2.2.1 60))]) hx hb dL_law_2170 hl (k := 4) rfl rfl (by decide) rfl (fun ls hl => ?_)
      refine lv_goto (tgt := 23) hx hb dL_law_2173 (by decide) ?_
      cases hf
      refine W.widen (k := 100 + 4 * (j + 1)) (n := 20000 + 24 * (j + 1)) (by omega) (by omega) ?_
      exact K _ _ ls hG (lv_sub hl [1, 2, 3, 4, 0] rfl)
