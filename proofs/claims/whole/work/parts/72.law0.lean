def lw_c0 (n : Nat) (g : Nat → Int32) (x4 : Int32) (M M2 : Mem) : Option (Mem × Mem) := bd (f_X8_feed n (g (x4 + (1 : Int32)).toNatClampNeg) (g (x4 + (2 : Int32)).toNatClampNeg) (g (x4 + (3 : Int32)).toNatClampNeg) (g (x4 + (4 : Int32)).toNatClampNeg) (g (x4 + (5 : Int32)).toNatClampNeg) M) (fun q1 => bd (f_X9_feed n (g (x4 + (1 : Int32)).toNatClampNeg) (g (x4 + (2 : Int32)).toNatClampNeg) (g (x4 + (3 : Int32)).toNatClampNeg) (g (x4 + (4 : Int32)).toNatClampNeg) (g (x4 + (5 : Int32)).toNatClampNeg) M2) (fun q2 => if q1.1 = q2.1 then (some (q1.2, q2.2)) else (none)))
set_option maxHeartbeats 4000000 in
set_option maxRecDepth 100000 in
theorem lw_case0 {p : Program} {l : Launch} {e : Env} {s : State} {m : MethodId} {below : List Frame} {meth : Method} {c : Code} {b L : Nat} {g : Nat → Int32} {w : Wd} {ρ2 : Nat → Nat} (C9 : LC p l s m c b L g w ρ2) (n j : Nat) (hj : j < 512) (x4 : Int32) (hbs : ∀ k : Int32, k = 0 ∨ k = 1 ∨ k = 2 ∨ k = 3 ∨ k = 4 ∨ k = 5 → vp_in (x4 + k) L) (M M2 M9 M8 : Mem) (hf : lw_c0 n g x4 M M2 = some (M9, M8)) (K : ∀ (H : Heap) (locs : List Loc) (ls : Array Slot), LG w ρ2 s M9 M8 H locs → lv_has ls 7 [(0, .ref b), (1, .ref (w.2.2.1 0)), (2, .ref (ρ2 0)), (3, .ref (w.2.2.1 60)), (4, .int (x4 + (6 : Int32)))] → W p l e room_1 s m #[Value.ref b] below meth c H locs (100 + 4 * (j + 1)) (20000 + 24 * (j + 1)) (lw_Z below #[Value.ref b] s) (F0 m 23 ls [])) (H : Heap) (locs : List Loc) (ls : Array Slot) (hG : LG w ρ2 s M M2 H locs) (hl : lv_has ls 7 [(0, .ref b), (1, .ref (w.2.2.1 0)), (2, .ref (ρ2 0)), (3, .ref (w.2.2.1 60)), (4, .int x4)]) : W p l e room_1 s m #[Value.ref b] below meth c H locs (100 + 4 * j) (20000 + 24 * j) (lw_Z below #[Value.ref b] s) (F0 m 204 ls []) := by
  obtain ⟨F, hst, hL, hX, hXs, hbl⟩ := C9
  have hx := F.1.1
  have hb := F.1.2.1
  have hbA : ¬ A0 s b := Nat.not_le.mpr hbl
  have hb1 := hbs 1 (by decide)
  have hb2 := hbs 2 (by decide)
  have hb3 := hbs 3 (by decide)
  have hb4 := hbs 4 (by decide)
  have hb5 := hbs 5 (by decide)
  unfold lw_c0 at hf
  refine lv_aload_n hx hb dL_law_204 rfl (lv_at hl 1 rfl) ?_
  refine lv_aload_n hx hb dL_law_205 rfl (lv_at hl 0 rfl) ?_
  refine lv_iload hx hb dL_law_206 (lv_at hl 4 rfl) ?_
  refine lv_iconst (v := 1) hx hb dL_law_208 (by decide) ?_
  refine lv_iadd hx hb dL_law_209 ?_
  refine va_sld hx hb hXs hbl hbA hG.2.2 hb1 dL_law_210 ?_
  refine lv_aload_n hx hb dL_law_211 rfl (lv_at hl 0 rfl) ?_
  refine lv_iload hx hb dL_law_212 (lv_at hl 4 rfl) ?_
  refine lv_iconst (v := 2) hx hb dL_law_214 (by decide) ?_
  refine lv_iadd hx hb dL_law_215 ?_
  refine va_sld hx hb hXs hbl hbA hG.2.2 hb2 dL_law_216 ?_
  refine lv_aload_n hx hb dL_law_217 rfl (lv_at hl 0 rfl) ?_
  refine lv_iload hx hb dL_law_218 (lv_at hl 4 rfl) ?_
  refine lv_iconst (v := 3) hx hb dL_law_220 (by decide) ?_
  refine lv_iadd hx hb dL_law_221 ?_
  refine va_sld hx hb hXs hbl hbA hG.2.2 hb3 dL_law_222 ?_
  refine lv_aload_n hx hb dL_law_223 rfl (lv_at hl 0 rfl) ?_
  refine lv_iload hx hb dL_law_224 (lv_at hl 4 rfl) ?_
  refine lv_iconst (v := 4) hx hb dL_law_226 (by decide) ?_
  refine lv_iadd hx hb dL_law_227 ?_
  refine va_sld hx hb hXs hbl hbA hG.2.2 hb4 dL_law_228 ?_
  refine lv_aload_n hx hb dL_law_229 rfl (lv_at hl 0 rfl) ?_
  refine lv_iload hx hb dL_law_230 (lv_at hl 4 rfl) ?_
  refine lv_iconst (v := 5) hx hb dL_law_232 (by decide) ?_
  refine lv_iadd hx hb dL_law_233 ?_
  refine va_sld hx hb hXs hbl hbA hG.2.2 hb5 dL_law_234 ?_
  replace hf := bd_some hf
  obtain ⟨q1, eq1, hf⟩ := hf
  refine lC_calli hL hG (lC_runV F hL hX hG (c_X8_feed l w n (g (x4 + (1 : Int32)).toNatClampNeg) (g (x4 + (2 : Int32)).toNatClampNeg) (g (x4 + (3 : Int32)).toNatClampNeg) (g (x4 + (4 : Int32)).toNatClampNeg) (g (x4 + (5 : Int32)).toNatClampNeg) _ _ eq1) cv_L_99 ⟨by decide, by decide⟩ rfl hl.1 rfl (Nat.le_of_ble_eq_true rfl) dL_law_235 ⟨by show 100 + 4 * j  ≤ 601024; omega, by show 20000 + 24 * j  ≤ 7293034; omega⟩) (fun H locs hG => ?_)
  refine lv_aload_n hx hb dL_law_238 rfl (lv_at hl 2 rfl) ?_
  refine lv_aload_n hx hb dL_law_239 rfl (lv_at hl 0 rfl) ?_
  refine lv_iload hx hb dL_law_240 (lv_at hl 4 rfl) ?_
  refine lv_iconst (v := 1) hx hb dL_law_242 (by decide) ?_
  refine lv_iadd hx hb dL_law_243 ?_
  refine va_sld hx hb hXs hbl hbA hG.2.2 hb1 dL_law_244 ?_
  refine lv_aload_n hx hb dL_law_245 rfl (lv_at hl 0 rfl) ?_
  refine lv_iload hx hb dL_law_246 (lv_at hl 4 rfl) ?_
  refine lv_iconst (v := 2) hx hb dL_law_248 (by decide) ?_
  refine lv_iadd hx hb dL_law_249 ?_
  refine va_sld hx hb hXs hbl hbA hG.2.2 hb2 dL_law_250 ?_
  refine lv_aload_n hx hb dL_law_251 rfl (lv_at hl 0 rfl) ?_
  refine lv_iload hx hb dL_law_252 (lv_at hl 4 rfl) ?_
  refine lv_iconst (v := 3) hx hb dL_law_254 (by decide) ?_
  refine lv_iadd hx hb dL_law_255 ?_
  refine va_sld hx hb hXs hbl hbA hG.2.2 hb3 dL_law_256 ?_
  refine lv_aload_n hx hb dL_law_257 rfl (lv_at hl 0 rfl) ?_
  refine lv_iload hx hb dL_law_258 (lv_at hl 4 rfl) ?_
  refine lv_iconst (v := 4) hx hb dL_law_260 (by decide) ?_
  refine lv_iadd hx hb dL_law_261 ?_
  refine va_sld hx hb hXs hbl hbA hG.2.2 hb4 dL_law_262 ?_
  refine lv_aload_n hx hb dL_law_263 rfl (lv_at hl 0 rfl) ?_
  refine lv_iload hx hb dL_law_264 (lv_at hl 4 rfl) ?_
  refine lv_iconst (v := 5) hx hb dL_law_266 (by decide) ?_
  refine lv_iadd hx hb dL_law_267 ?_
  refine va_sld hx hb hXs hbl hbA hG.2.2 hb5 dL_law_268 ?_
  replace hf := bd_some hf
  obtain ⟨q2, eq2, hf⟩ := hf
  refine lM_calli hL hG (lM_runV F hL hG (c_X9_feed l (wM w ρ2) x0_ok n (g (x4 + (1 : Int32)).toNatClampNeg) (g (x4 + (2 : Int32)).toNatClampNeg) (g (x4 + (3 : Int32)).toNatClampNeg) (g (x4 + (4 : Int32)).toNatClampNeg) (g (x4 + (5 : Int32)).toNatClampNeg) _ _ eq2) cv_L_103 ⟨by decide, by decide⟩ rfl hl.1 rfl (Nat.le_of_ble_eq_true rfl) dL_law_269 ⟨by show 100 + 4 * j  ≤ 601024; omega, by show 20000 + 24 * j  ≤ 7293034; omega⟩) (fun H locs hG => ?_)
  refine lv_icmp_eq (tgt := 2170) hx hb dL_law_272 (by decide) (fun c3 => ?_) (fun c3 => ?_)
  · replace hf := if_t c3 hf
    refine lv_iinc (v := (x4 + (6 : Int32))) (lv' := [(4, .int (x4 + (6 : Int32))), (0, .ref b), (1, .ref (w.2.2.1 0)), (2, .ref (ρ2 0)), (3, .ref (w.2.2.1 60))]) hx hb dL_law_2170 hl (k := 4) rfl rfl (by decide) rfl (fun ls hl => ?_)
    refine lv_goto (tgt := 23) hx hb dL_law_2173 (by decide) ?_
    cases hf
    refine W.widen (k := 100 + 4 * (j + 1)) (n := 20000 + 24 * (j + 1)) (by omega) (by omega) ?_
    exact K _ _ ls hG (lv_sub hl [1, 2, 3, 4, 0] rfl)
  · replace hf := if_f c3 hf
    cases hf

def lw_c1 (n : Nat) (g : Nat → Int32) (x4 : Int32) (M M2 : Mem) : Option (Mem × Mem) := bd (f_L_town n (g (x4 + (1 : Int32)).toNatClampNeg) M) (fun q1 => bd (f_X9_town n (g (x4 + (1 : Int32)).toNatClampNeg) M2) (fun q2 => bd (f_X9_thrown n  q2.2) (fun q3 => if q3.1 = q1.1 then (if q1.1 = 0 then (if (lg_cmp (gj q1.2 60 0) q2.1.toInt64) = 0 then (some (q1.2, q3.2)) else (none)) else (some (q1.2, q3.2))) else (none))))
set_option maxHeartbeats 4000000 in
set_option maxRecDepth 100000 in
theorem lw_case1 {p : Program} {l : Launch} {e : Env} {s : State} {m : MethodId} {below : List Frame} {meth : Method} {c : Code} {b L : Nat} {g : Nat → Int32} {w : Wd} {ρ2 : Nat → Nat} (C9 : LC p l s m c b L g w ρ2) (n j : Nat) (hj : j < 512) (x4 : Int32) (hbs : ∀ k : Int32, k = 0 ∨ k = 1 ∨ k = 2 ∨ k = 3 ∨ k = 4 ∨ k = 5 → vp_in (x4 + k) L) (M M2 M9 M8 : Mem) (hf : lw_c1 n g x4 M M2 = some (M9, M8)) (K : ∀ (H : Heap) (locs : List Loc) (ls : Array Slot), LG w ρ2 s M9 M8 H locs → lv_has ls 7 [(0, .ref b), (1, .ref (w.2.2.1 0)), (2, .ref (ρ2 0)), (3, .ref (w.2.2.1 60)), (4, .int (x4 + (6 : Int32)))] → W p l e room_1 s m #[Value.ref b] below meth c H locs (100 + 4 * (j + 1)) (20000 + 24 * (j + 1)) (lw_Z below #[Value.ref b] s) (F0 m 23 ls [])) (H : Heap) (locs : List Loc) (ls : Array Slot) (hG : LG w ρ2 s M M2 H locs) (hl : lv_has ls 7 [(0, .ref b), (1, .ref (w.2.2.1 0)), (2, .ref (ρ2 0)), (3, .ref (w.2.2.1 60)), (4, .int x4)]) : W p l e room_1 s m #[Value.ref b] below meth c H locs (100 + 4 * j) (20000 + 24 * j) (lw_Z below #[Value.ref b] s) (F0 m 277 ls []) := by
  obtain ⟨F, hst, hL, hX, hXs, hbl⟩ := C9
  have hx := F.1.1
  have hb := F.1.2.1
  have hbA : ¬ A0 s b := Nat.not_le.mpr hbl
  have hb1 := hbs 1 (by decide)
  have hb2 := hbs 2 (by decide)
  have hb3 := hbs 3 (by decide)
  have hb4 := hbs 4 (by decide)
  have hb5 := hbs 5 (by decide)
  unfold lw_c1 at hf
  refine lv_aload_n hx hb dL_law_277 rfl (lv_at hl 1 rfl) ?_
  refine lv_aload_n hx hb dL_law_278 rfl (lv_at hl 0 rfl) ?_
  refine lv_iload hx hb dL_law_279 (lv_at hl 4 rfl) ?_
  refine lv_iconst (v := 1) hx hb dL_law_281 (by decide) ?_
  refine lv_iadd hx hb dL_law_282 ?_
  refine va_sld hx hb hXs hbl hbA hG.2.2 hb1 dL_law_283 ?_
  refine lv_aload_n hx hb dL_law_284 rfl (lv_at hl 3 rfl) ?_
  replace hf := bd_some hf
  obtain ⟨q1, eq1, hf⟩ := hf
  refine lC_calli hL hG (lC_runSW F hL hX hG (c_L_town l w hst n (g (x4 + (1 : Int32)).toNatClampNeg) _ _ eq1) csw_104 ⟨by decide, by decide⟩ rfl hl.1 rfl (Nat.le_of_ble_eq_true rfl) dL_law_285 ⟨by show 100 + 4 * j + 1 ≤ 601024; omega, by show 20000 + 24 * j + 6 ≤ 7293034; omega⟩) (fun H locs hG => ?_)
  refine W.widen (k := 100 + 4 * j + 4) (n := 20000 + 24 * j + 24) (by omega) (by omega) ?_
  refine lv_istore (lv' := [(5, .int q1.1), (0, .ref b), (1, .ref (w.2.2.1 0)), (2, .ref (ρ2 0)), (3, .ref (w.2.2.1 60)), (4, .int x4)]) hx hb dL_law_288 hl (by decide) rfl (fun ls hl => ?_)
  refine lv_aload_n hx hb dL_law_290 rfl (lv_at hl 3 rfl) ?_
  refine lv_aload_n hx hb dL_law_291 rfl (lv_at hl 1 rfl) ?_
  refine lv_iload hx hb dL_law_292 (lv_at hl 5 rfl) ?_
  refine lv_iconst (v := 1) hx hb dL_law_294 (by decide) ?_
  refine lv_iadd hx hb dL_law_295 ?_
  refine va_sld hx hb hXs hbl hbA hG.2.2 hb1 dL_law_296 ?_
  replace hf := bd_some hf
  obtain ⟨q2, eq2, hf⟩ := hf
  refine lM_calli hL hG (lM_runV F hL hG (c_X9_town l (wM w ρ2) x0_ok n (g (x4 + (1 : Int32)).toNatClampNeg) _ _ eq2) cv_L_109 ⟨by decide, by decide⟩ rfl hl.1 rfl (Nat.le_of_ble_eq_true rfl) dL_law_297 ⟨by show 100 + 4 * j + 4 ≤ 601024; omega, by show 20000 + 24 * j + 24 ≤ 7293034; omega⟩) (fun H locs hG => ?_)
  refine lv_istore (lv' := [(6, .int q2.1), (5, .int q1.1), (0, .ref b), (1, .ref (w.2.2.1 0)), (2, .ref (ρ2 0)), (3, .ref (w.2.2.1 60)), (4, .int x4)]) hx hb dL_law_300 hl (by decide) rfl (fun ls hl => ?_)
  refine lv_aload_n hx hb dL_law_302 rfl (lv_at hl 4 rfl) ?_
  replace hf := bd_some hf
  obtain ⟨q3, eq3, hf⟩ := hf
  refine lM_calli hL hG (lM_runV F hL hG (c_X9_thrown l (wM w ρ2) x0_ok n  _ _ eq3) cv_L_110 ⟨by decide, by decide⟩ rfl hl.1 rfl (Nat.le_of_ble_eq_true rfl) dL_law_303 ⟨by show 100 + 4 * j + 4 ≤ 601024; omega, by show 20000 + 24 * j + 24 ≤ 7293034; omega⟩) (fun H locs hG => ?_)
  refine lv_iload hx hb dL_law_306 (lv_at hl 1 rfl) ?_
  refine lv_icmp_eq (tgt := 313) hx hb dL_law_308 (by decide) (fun c4 => ?_) (fun c4 => ?_)
  · replace hf := if_t c4 hf
    refine lv_iload hx hb dL_law_313 (lv_at hl 1 rfl) ?_
    refine lv_if_ne (tgt := 330) hx hb dL_law_315 (by decide) (fun c5 => ?_) (fun c5 => ?_)
    · replace hf := if_f c5 hf
      refine lv_goto (tgt := 2170) hx hb dL_law_330 (by decide) ?_
      refine lv_iinc (v := (x4 + (6 : Int32))) (lv' := [(4, .int (x4 + (6 : Int32))), (6, .int q2.1), (5, .int q1.1), (0, .ref b), (1, .ref (w.2.2.1 0)), (2, .ref (ρ2 0)), (3, .ref (w.2.2.1 60))]) hx hb dL_law_2170 hl (k := 6) rfl rfl (by decide) rfl (fun ls hl => ?_)
      refine lv_goto (tgt := 23) hx hb dL_law_2173 (by decide) ?_
      cases hf
      refine W.widen (k := 100 + 4 * (j + 1)) (n := 20000 + 24 * (j + 1)) (by omega) (by omega) ?_
      exact K _ _ ls hG (lv_sub hl [3, 4, 5, 6, 0] rfl)
    · replace hf := if_t c5 hf
      refine lv_aload_n hx hb dL_law_318 rfl (lv_at hl 5 rfl) ?_
      refine lv_iconst (v := 0) hx hb dL_law_319 (by decide) ?_
      refine l_out F hG dL_law_320 ?_
      refine lv_iload hx hb dL_law_321 (lv_at hl 0 rfl) ?_
      refine lv_i2l hx hb dL_law_323 rfl ?_
      refine W.lcmp hx hb dL_law_324 ?_
      refine lv_if_eq (tgt := 330) hx hb dL_law_325 (by decide) (fun c6 => ?_) (fun c6 => ?_)
      · replace hf := if_t c6 hf
        refine lv_goto (tgt := 2170) hx hb dL_law_330 (by decide) ?_
        refine lv_iinc (v := (x4 + (6 : Int32))) (lv' := [(4, .int (x4 + (6 : Int32))), (6, .int q2.1), (5, .int q1.1), (0, .ref b), (1, .ref (w.2.2.1 0)), (2, .ref (ρ2 0)), (3, .ref (w.2.2.1 60))]) hx hb dL_law_2170 hl (k := 6) rfl rfl (by decide) rfl (fun ls hl => ?_)
        refine lv_goto (tgt := 23) hx hb dL_law_2173 (by decide) ?_
        cases hf
        refine W.widen (k := 100 + 4 * (j + 1)) (n := 20000 + 24 * (j + 1)) (by omega) (by omega) ?_
        exact K _ _ ls hG (lv_sub hl [3, 4, 5, 6, 0] rfl)
      · replace hf := if_f c6 hf
        cases hf
  · replace hf := if_f c4 hf
    cases hf

def lw_c2 (n : Nat) (g : Nat → Int32) (x4 : Int32) (M M2 : Mem) : Option (Mem × Mem) := bd (f_X8_fault n  M) (fun q1 => bd (f_X9_fault n  M2) (fun q2 => if q1.1 = q2.1 then (some (q1.2, q2.2)) else (none)))
set_option maxHeartbeats 4000000 in
set_option maxRecDepth 100000 in
theorem lw_case2 {p : Program} {l : Launch} {e : Env} {s : State} {m : MethodId} {below : List Frame} {meth : Method} {c : Code} {b L : Nat} {g : Nat → Int32} {w : Wd} {ρ2 : Nat → Nat} (C9 : LC p l s m c b L g w ρ2) (n j : Nat) (hj : j < 512) (x4 : Int32) (hbs : ∀ k : Int32, k = 0 ∨ k = 1 ∨ k = 2 ∨ k = 3 ∨ k = 4 ∨ k = 5 → vp_in (x4 + k) L) (M M2 M9 M8 : Mem) (hf : lw_c2 n g x4 M M2 = some (M9, M8)) (K : ∀ (H : Heap) (locs : List Loc) (ls : Array Slot), LG w ρ2 s M9 M8 H locs → lv_has ls 7 [(0, .ref b), (1, .ref (w.2.2.1 0)), (2, .ref (ρ2 0)), (3, .ref (w.2.2.1 60)), (4, .int (x4 + (6 : Int32)))] → W p l e room_1 s m #[Value.ref b] below meth c H locs (100 + 4 * (j + 1)) (20000 + 24 * (j + 1)) (lw_Z below #[Value.ref b] s) (F0 m 23 ls [])) (H : Heap) (locs : List Loc) (ls : Array Slot) (hG : LG w ρ2 s M M2 H locs) (hl : lv_has ls 7 [(0, .ref b), (1, .ref (w.2.2.1 0)), (2, .ref (ρ2 0)), (3, .ref (w.2.2.1 60)), (4, .int x4)]) : W p l e room_1 s m #[Value.ref b] below meth c H locs (100 + 4 * j) (20000 + 24 * j) (lw_Z below #[Value.ref b] s) (F0 m 333 ls []) := by
  obtain ⟨F, hst, hL, hX, hXs, hbl⟩ := C9
  have hx := F.1.1
  have hb := F.1.2.1
  have hbA : ¬ A0 s b := Nat.not_le.mpr hbl
  have hb1 := hbs 1 (by decide)
  have hb2 := hbs 2 (by decide)
  have hb3 := hbs 3 (by decide)
  have hb4 := hbs 4 (by decide)
  have hb5 := hbs 5 (by decide)
  unfold lw_c2 at hf
  refine lv_aload_n hx hb dL_law_333 rfl (lv_at hl 1 rfl) ?_
  replace hf := bd_some hf
  obtain ⟨q1, eq1, hf⟩ := hf
  refine lC_calli hL hG (lC_runV F hL hX hG (c_X8_fault l w n  _ _ eq1) cv_L_114 ⟨by decide, by decide⟩ rfl hl.1 rfl (Nat.le_of_ble_eq_true rfl) dL_law_334 ⟨by show 100 + 4 * j  ≤ 601024; omega, by show 20000 + 24 * j  ≤ 7293034; omega⟩) (fun H locs hG => ?_)
  refine lv_aload_n hx hb dL_law_337 rfl (lv_at hl 2 rfl) ?_
  replace hf := bd_some hf
  obtain ⟨q2, eq2, hf⟩ := hf
  refine lM_calli hL hG (lM_runV F hL hG (c_X9_fault l (wM w ρ2) x0_ok n  _ _ eq2) cv_L_117 ⟨by decide, by decide⟩ rfl hl.1 rfl (Nat.le_of_ble_eq_true rfl) dL_law_338 ⟨by show 100 + 4 * j  ≤ 601024; omega, by show 20000 + 24 * j  ≤ 7293034; omega⟩) (fun H locs hG => ?_)
  refine lv_icmp_eq (tgt := 2170) hx hb dL_law_341 (by decide) (fun c3 => ?_) (fun c3 => ?_)
  · replace hf := if_t c3 hf
    refine lv_iinc (v := (x4 + (6 : Int32))) (lv' := [(4, .int (x4 + (6 : Int32))), (0, .ref b), (1, .ref (w.2.2.1 0)), (2, .ref (ρ2 0)), (3, .ref (w.2.2.1 60))]) hx hb dL_law_2170 hl (k := 4) rfl rfl (by decide) rfl (fun ls hl => ?_)
    refine lv_goto (tgt := 23) hx hb dL_law_2173 (by decide) ?_
    cases hf
    refine W.widen (k := 100 + 4 * (j + 1)) (n := 20000 + 24 * (j + 1)) (by omega) (by omega) ?_
    exact K _ _ ls hG (lv_sub hl [1, 2, 3, 4, 0] rfl)
  · replace hf := if_f c3 hf
    cases hf

def lw_c3 (n : Nat) (g : Nat → Int32) (x4 : Int32) (M M2 : Mem) : Option (Mem × Mem) := bd (f_L_count n (g (x4 + (1 : Int32)).toNatClampNeg) M) (fun q1 => bd (f_X9_count n (g (x4 + (1 : Int32)).toNatClampNeg) M2) (fun q2 => bd (f_X9_thrown n  q2.2) (fun q3 => if q3.1 = q1.1 then (if q1.1 = 0 then (if (lg_cmp (gj q1.2 60 0) q2.1.toInt64) = 0 then (some (q1.2, q3.2)) else (none)) else (some (q1.2, q3.2))) else (none))))
set_option maxHeartbeats 4000000 in
set_option maxRecDepth 100000 in
theorem lw_case3 {p : Program} {l : Launch} {e : Env} {s : State} {m : MethodId} {below : List Frame} {meth : Method} {c : Code} {b L : Nat} {g : Nat → Int32} {w : Wd} {ρ2 : Nat → Nat} (C9 : LC p l s m c b L g w ρ2) (n j : Nat) (hj : j < 512) (x4 : Int32) (hbs : ∀ k : Int32, k = 0 ∨ k = 1 ∨ k = 2 ∨ k = 3 ∨ k = 4 ∨ k = 5 → vp_in (x4 + k) L) (M M2 M9 M8 : Mem) (hf : lw_c3 n g x4 M M2 = some (M9, M8)) (K : ∀ (H : Heap) (locs : List Loc) (ls : Array Slot), LG w ρ2 s M9 M8 H locs → lv_has ls 7 [(0, .ref b), (1, .ref (w.2.2.1 0)), (2, .ref (ρ2 0)), (3, .ref (w.2.2.1 60)), (4, .int (x4 + (6 : Int32)))] → W p l e room_1 s m #[Value.ref b] below meth c H locs (100 + 4 * (j + 1)) (20000 + 24 * (j + 1)) (lw_Z below #[Value.ref b] s) (F0 m 23 ls [])) (H : Heap) (locs : List Loc) (ls : Array Slot) (hG : LG w ρ2 s M M2 H locs) (hl : lv_has ls 7 [(0, .ref b), (1, .ref (w.2.2.1 0)), (2, .ref (ρ2 0)), (3, .ref (w.2.2.1 60)), (4, .int x4)]) : W p l e room_1 s m #[Value.ref b] below meth c H locs (100 + 4 * j) (20000 + 24 * j) (lw_Z below #[Value.ref b] s) (F0 m 346 ls []) := by
  obtain ⟨F, hst, hL, hX, hXs, hbl⟩ := C9
  have hx := F.1.1
  have hb := F.1.2.1
  have hbA : ¬ A0 s b := Nat.not_le.mpr hbl
  have hb1 := hbs 1 (by decide)
  have hb2 := hbs 2 (by decide)
  have hb3 := hbs 3 (by decide)
  have hb4 := hbs 4 (by decide)
  have hb5 := hbs 5 (by decide)
  unfold lw_c3 at hf
  refine lv_aload_n hx hb dL_law_346 rfl (lv_at hl 1 rfl) ?_
  refine lv_aload_n hx hb dL_law_347 rfl (lv_at hl 0 rfl) ?_
  refine lv_iload hx hb dL_law_348 (lv_at hl 4 rfl) ?_
  refine lv_iconst (v := 1) hx hb dL_law_350 (by decide) ?_
  refine lv_iadd hx hb dL_law_351 ?_
  refine va_sld hx hb hXs hbl hbA hG.2.2 hb1 dL_law_352 ?_
  refine lv_aload_n hx hb dL_law_353 rfl (lv_at hl 3 rfl) ?_
  replace hf := bd_some hf
  obtain ⟨q1, eq1, hf⟩ := hf
  refine lC_calli hL hG (lC_runSW F hL hX hG (c_L_count l w hst n (g (x4 + (1 : Int32)).toNatClampNeg) _ _ eq1) csw_118 ⟨by decide, by decide⟩ rfl hl.1 rfl (Nat.le_of_ble_eq_true rfl) dL_law_354 ⟨by show 100 + 4 * j + 1 ≤ 601024; omega, by show 20000 + 24 * j + 6 ≤ 7293034; omega⟩) (fun H locs hG => ?_)
  refine W.widen (k := 100 + 4 * j + 4) (n := 20000 + 24 * j + 24) (by omega) (by omega) ?_
  refine lv_istore (lv' := [(5, .int q1.1), (0, .ref b), (1, .ref (w.2.2.1 0)), (2, .ref (ρ2 0)), (3, .ref (w.2.2.1 60)), (4, .int x4)]) hx hb dL_law_357 hl (by decide) rfl (fun ls hl => ?_)
  refine lv_aload_n hx hb dL_law_359 rfl (lv_at hl 3 rfl) ?_
  refine lv_aload_n hx hb dL_law_360 rfl (lv_at hl 1 rfl) ?_
  refine lv_iload hx hb dL_law_361 (lv_at hl 5 rfl) ?_
  refine lv_iconst (v := 1) hx hb dL_law_363 (by decide) ?_
  refine lv_iadd hx hb dL_law_364 ?_
  refine va_sld hx hb hXs hbl hbA hG.2.2 hb1 dL_law_365 ?_
  replace hf := bd_some hf
  obtain ⟨q2, eq2, hf⟩ := hf
  refine lM_calli hL hG (lM_runV F hL hG (c_X9_count l (wM w ρ2) x0_ok n (g (x4 + (1 : Int32)).toNatClampNeg) _ _ eq2) cv_L_120 ⟨by decide, by decide⟩ rfl hl.1 rfl (Nat.le_of_ble_eq_true rfl) dL_law_366 ⟨by show 100 + 4 * j + 4 ≤ 601024; omega, by show 20000 + 24 * j + 24 ≤ 7293034; omega⟩) (fun H locs hG => ?_)
  refine lv_istore (lv' := [(6, .int q2.1), (5, .int q1.1), (0, .ref b), (1, .ref (w.2.2.1 0)), (2, .ref (ρ2 0)), (3, .ref (w.2.2.1 60)), (4, .int x4)]) hx hb dL_law_369 hl (by decide) rfl (fun ls hl => ?_)
  refine lv_aload_n hx hb dL_law_371 rfl (lv_at hl 4 rfl) ?_
  replace hf := bd_some hf
  obtain ⟨q3, eq3, hf⟩ := hf
  refine lM_calli hL hG (lM_runV F hL hG (c_X9_thrown l (wM w ρ2) x0_ok n  _ _ eq3) cv_L_110 ⟨by decide, by decide⟩ rfl hl.1 rfl (Nat.le_of_ble_eq_true rfl) dL_law_372 ⟨by show 100 + 4 * j + 4 ≤ 601024; omega, by show 20000 + 24 * j + 24 ≤ 7293034; omega⟩) (fun H locs hG => ?_)
  refine lv_iload hx hb dL_law_375 (lv_at hl 1 rfl) ?_
  refine lv_icmp_eq (tgt := 382) hx hb dL_law_377 (by decide) (fun c4 => ?_) (fun c4 => ?_)
  · replace hf := if_t c4 hf
    refine lv_iload hx hb dL_law_382 (lv_at hl 1 rfl) ?_
    refine lv_if_ne (tgt := 399) hx hb dL_law_384 (by decide) (fun c5 => ?_) (fun c5 => ?_)
    · replace hf := if_f c5 hf
      refine lv_goto (tgt := 2170) hx hb dL_law_399 (by decide) ?_
      refine lv_iinc (v := (x4 + (6 : Int32))) (lv' := [(4, .int (x4 + (6 : Int32))), (6, .int q2.1), (5, .int q1.1), (0, .ref b), (1, .ref (w.2.2.1 0)), (2, .ref (ρ2 0)), (3, .ref (w.2.2.1 60))]) hx hb dL_law_2170 hl (k := 6) rfl rfl (by decide) rfl (fun ls hl => ?_)
      refine lv_goto (tgt := 23) hx hb dL_law_2173 (by decide) ?_
      cases hf
      refine W.widen (k := 100 + 4 * (j + 1)) (n := 20000 + 24 * (j + 1)) (by omega) (by omega) ?_
      exact K _ _ ls hG (lv_sub hl [3, 4, 5, 6, 0] rfl)
    · replace hf := if_t c5 hf
      refine lv_aload_n hx hb dL_law_387 rfl (lv_at hl 5 rfl) ?_
      refine lv_iconst (v := 0) hx hb dL_law_388 (by decide) ?_
      refine l_out F hG dL_law_389 ?_
      refine lv_iload hx hb dL_law_390 (lv_at hl 0 rfl) ?_
      refine lv_i2l hx hb dL_law_392 rfl ?_
      refine W.lcmp hx hb dL_law_393 ?_
      refine lv_if_eq (tgt := 399) hx hb dL_law_394 (by decide) (fun c6 => ?_) (fun c6 => ?_)
      · replace hf := if_t c6 hf
        refine lv_goto (tgt := 2170) hx hb dL_law_399 (by decide) ?_
        refine lv_iinc (v := (x4 + (6 : Int32))) (lv' := [(4, .int (x4 + (6 : Int32))), (6, .int q2.1), (5, .int q1.1), (0, .ref b), (1, .ref (w.2.2.1 0)), (2, .ref (ρ2 0)), (3, .ref (w.2.2.1 60))]) hx hb dL_law_2170 hl (k := 6) rfl rfl (by decide) rfl (fun ls hl => ?_)
        refine lv_goto (tgt := 23) hx hb dL_law_2173 (by decide) ?_
        cases hf
        refine W.widen (k := 100 + 4 * (j + 1)) (n := 20000 + 24 * (j + 1)) (by omega) (by omega) ?_
        exact K _ _ ls hG (lv_sub hl [3, 4, 5, 6, 0] rfl)
      · replace hf := if_f c6 hf
        cases hf
  · replace hf := if_f c4 hf
    cases hf

def lw_c4 (n : Nat) (g : Nat → Int32) (x4 : Int32) (M M2 : Mem) : Option (Mem × Mem) := bd (f_L_course n (g (x4 + (1 : Int32)).toNatClampNeg) (g (x4 + (2 : Int32)).toNatClampNeg) M) (fun q1 => bd (f_X9_course n (g (x4 + (1 : Int32)).toNatClampNeg) (g (x4 + (2 : Int32)).toNatClampNeg) M2) (fun q2 => bd (f_X9_thrown n  q2.2) (fun q3 => if q3.1 = q1.1 then (if q1.1 = 0 then (if (lg_cmp (gj q1.2 60 0) q2.1.toInt64) = 0 then (some (q1.2, q3.2)) else (none)) else (some (q1.2, q3.2))) else (none))))
set_option maxHeartbeats 4000000 in
set_option maxRecDepth 100000 in
theorem lw_case4 {p : Program} {l : Launch} {e : Env} {s : State} {m : MethodId} {below : List Frame} {meth : Method} {c : Code} {b L : Nat} {g : Nat → Int32} {w : Wd} {ρ2 : Nat → Nat} (C9 : LC p l s m c b L g w ρ2) (n j : Nat) (hj : j < 512) (x4 : Int32) (hbs : ∀ k : Int32, k = 0 ∨ k = 1 ∨ k = 2 ∨ k = 3 ∨ k = 4 ∨ k = 5 → vp_in (x4 + k) L) (M M2 M9 M8 : Mem) (hf : lw_c4 n g x4 M M2 = some (M9, M8)) (K : ∀ (H : Heap) (locs : List Loc) (ls : Array Slot), LG w ρ2 s M9 M8 H locs → lv_has ls 7 [(0, .ref b), (1, .ref (w.2.2.1 0)), (2, .ref (ρ2 0)), (3, .ref (w.2.2.1 60)), (4, .int (x4 + (6 : Int32)))] → W p l e room_1 s m #[Value.ref b] below meth c H locs (100 + 4 * (j + 1)) (20000 + 24 * (j + 1)) (lw_Z below #[Value.ref b] s) (F0 m 23 ls [])) (H : Heap) (locs : List Loc) (ls : Array Slot) (hG : LG w ρ2 s M M2 H locs) (hl : lv_has ls 7 [(0, .ref b), (1, .ref (w.2.2.1 0)), (2, .ref (ρ2 0)), (3, .ref (w.2.2.1 60)), (4, .int x4)]) : W p l e room_1 s m #[Value.ref b] below meth c H locs (100 + 4 * j) (20000 + 24 * j) (lw_Z below #[Value.ref b] s) (F0 m 402 ls []) := by
  obtain ⟨F, hst, hL, hX, hXs, hbl⟩ := C9
  have hx := F.1.1
  have hb := F.1.2.1
  have hbA : ¬ A0 s b := Nat.not_le.mpr hbl
  have hb1 := hbs 1 (by decide)
  have hb2 := hbs 2 (by decide)
  have hb3 := hbs 3 (by decide)
  have hb4 := hbs 4 (by decide)
  have hb5 := hbs 5 (by decide)
  unfold lw_c4 at hf
  refine lv_aload_n hx hb dL_law_402 rfl (lv_at hl 1 rfl) ?_
  refine lv_aload_n hx hb dL_law_403 rfl (lv_at hl 0 rfl) ?_
  refine lv_iload hx hb dL_law_404 (lv_at hl 4 rfl) ?_
  refine lv_iconst (v := 1) hx hb dL_law_406 (by decide) ?_
  refine lv_iadd hx hb dL_law_407 ?_
  refine va_sld hx hb hXs hbl hbA hG.2.2 hb1 dL_law_408 ?_
  refine lv_aload_n hx hb dL_law_409 rfl (lv_at hl 0 rfl) ?_
  refine lv_iload hx hb dL_law_410 (lv_at hl 4 rfl) ?_
  refine lv_iconst (v := 2) hx hb dL_law_412 (by decide) ?_
  refine lv_iadd hx hb dL_law_413 ?_
  refine va_sld hx hb hXs hbl hbA hG.2.2 hb2 dL_law_414 ?_
  refine lv_aload_n hx hb dL_law_415 rfl (lv_at hl 3 rfl) ?_
  replace hf := bd_some hf
  obtain ⟨q1, eq1, hf⟩ := hf
  refine lC_calli hL hG (lC_runSW F hL hX hG (c_L_course l w hst n (g (x4 + (1 : Int32)).toNatClampNeg) (g (x4 + (2 : Int32)).toNatClampNeg) _ _ eq1) csw_121 ⟨by decide, by decide⟩ rfl hl.1 rfl (Nat.le_of_ble_eq_true rfl) dL_law_416 ⟨by show 100 + 4 * j + 1 ≤ 601024; omega, by show 20000 + 24 * j + 6 ≤ 7293034; omega⟩) (fun H locs hG => ?_)
  refine W.widen (k := 100 + 4 * j + 4) (n := 20000 + 24 * j + 24) (by omega) (by omega) ?_
  refine lv_istore (lv' := [(5, .int q1.1), (0, .ref b), (1, .ref (w.2.2.1 0)), (2, .ref (ρ2 0)), (3, .ref (w.2.2.1 60)), (4, .int x4)]) hx hb dL_law_419 hl (by decide) rfl (fun ls hl => ?_)
  refine lv_aload_n hx hb dL_law_421 rfl (lv_at hl 3 rfl) ?_
  refine lv_aload_n hx hb dL_law_422 rfl (lv_at hl 1 rfl) ?_
  refine lv_iload hx hb dL_law_423 (lv_at hl 5 rfl) ?_
  refine lv_iconst (v := 1) hx hb dL_law_425 (by decide) ?_
  refine lv_iadd hx hb dL_law_426 ?_
  refine va_sld hx hb hXs hbl hbA hG.2.2 hb1 dL_law_427 ?_
  refine lv_aload_n hx hb dL_law_428 rfl (lv_at hl 1 rfl) ?_
  refine lv_iload hx hb dL_law_429 (lv_at hl 5 rfl) ?_
  refine lv_iconst (v := 2) hx hb dL_law_431 (by decide) ?_
  refine lv_iadd hx hb dL_law_432 ?_
  refine va_sld hx hb hXs hbl hbA hG.2.2 hb2 dL_law_433 ?_
  replace hf := bd_some hf
  obtain ⟨q2, eq2, hf⟩ := hf
  refine lM_calli hL hG (lM_runV F hL hG (c_X9_course l (wM w ρ2) x0_ok n (g (x4 + (1 : Int32)).toNatClampNeg) (g (x4 + (2 : Int32)).toNatClampNeg) _ _ eq2) cv_L_124 ⟨by decide, by decide⟩ rfl hl.1 rfl (Nat.le_of_ble_eq_true rfl) dL_law_434 ⟨by show 100 + 4 * j + 4 ≤ 601024; omega, by show 20000 + 24 * j + 24 ≤ 7293034; omega⟩) (fun H locs hG => ?_)
  refine lv_istore (lv' := [(6, .int q2.1), (5, .int q1.1), (0, .ref b), (1, .ref (w.2.2.1 0)), (2, .ref (ρ2 0)), (3, .ref (w.2.2.1 60)), (4, .int x4)]) hx hb dL_law_437 hl (by decide) rfl (fun ls hl => ?_)
  refine lv_aload_n hx hb dL_law_439 rfl (lv_at hl 4 rfl) ?_
  replace hf := bd_some hf
  obtain ⟨q3, eq3, hf⟩ := hf
  refine lM_calli hL hG (lM_runV F hL hG (c_X9_thrown l (wM w ρ2) x0_ok n  _ _ eq3) cv_L_110 ⟨by decide, by decide⟩ rfl hl.1 rfl (Nat.le_of_ble_eq_true rfl) dL_law_440 ⟨by show 100 + 4 * j + 4 ≤ 601024; omega, by show 20000 + 24 * j + 24 ≤ 7293034; omega⟩) (fun H locs hG => ?_)
  refine lv_iload hx hb dL_law_443 (lv_at hl 1 rfl) ?_
  refine lv_icmp_eq (tgt := 450) hx hb dL_law_445 (by decide) (fun c4 => ?_) (fun c4 => ?_)
  · replace hf := if_t c4 hf
    refine lv_iload hx hb dL_law_450 (lv_at hl 1 rfl) ?_
    refine lv_if_ne (tgt := 467) hx hb dL_law_452 (by decide) (fun c5 => ?_) (fun c5 => ?_)
    · replace hf := if_f c5 hf
      refine lv_goto (tgt := 2170) hx hb dL_law_467 (by decide) ?_
      refine lv_iinc (v := (x4 + (6 : Int32))) (lv' := [(4, .int (x4 + (6 : Int32))), (6, .int q2.1), (5, .int q1.1), (0, .ref b), (1, .ref (w.2.2.1 0)), (2, .ref (ρ2 0)), (3, .ref (w.2.2.1 60))]) hx hb dL_law_2170 hl (k := 6) rfl rfl (by decide) rfl (fun ls hl => ?_)
      refine lv_goto (tgt := 23) hx hb dL_law_2173 (by decide) ?_
      cases hf
      refine W.widen (k := 100 + 4 * (j + 1)) (n := 20000 + 24 * (j + 1)) (by omega) (by omega) ?_
      exact K _ _ ls hG (lv_sub hl [3, 4, 5, 6, 0] rfl)
    · replace hf := if_t c5 hf
      refine lv_aload_n hx hb dL_law_455 rfl (lv_at hl 5 rfl) ?_
      refine lv_iconst (v := 0) hx hb dL_law_456 (by decide) ?_
      refine l_out F hG dL_law_457 ?_
      refine lv_iload hx hb dL_law_458 (lv_at hl 0 rfl) ?_
      refine lv_i2l hx hb dL_law_460 rfl ?_
      refine W.lcmp hx hb dL_law_461 ?_
      refine lv_if_eq (tgt := 467) hx hb dL_law_462 (by decide) (fun c6 => ?_) (fun c6 => ?_)
      · replace hf := if_t c6 hf
        refine lv_goto (tgt := 2170) hx hb dL_law_467 (by decide) ?_
        refine lv_iinc (v := (x4 + (6 : Int32))) (lv' := [(4, .int (x4 + (6 : Int32))), (6, .int q2.1), (5, .int q1.1), (0, .ref b), (1, .ref (w.2.2.1 0)), (2, .ref (ρ2 0)), (3, .ref (w.2.2.1 60))]) hx hb dL_law_2170 hl (k := 6) rfl rfl (by decide) rfl (fun ls hl => ?_)
        refine lv_goto (tgt := 23) hx hb dL_law_2173 (by decide) ?_
        cases hf
        refine W.widen (k := 100 + 4 * (j + 1)) (n := 20000 + 24 * (j + 1)) (by omega) (by omega) ?_
        exact K _ _ ls hG (lv_sub hl [3, 4, 5, 6, 0] rfl)
      · replace hf := if_f c6 hf
        cases hf
  · replace hf := if_f c4 hf
    cases hf

def lw_c5 (n : Nat) (g : Nat → Int32) (x4 : Int32) (M M2 : Mem) : Option (Mem × Mem) := bd (f_L_ward n (g (x4 + (1 : Int32)).toNatClampNeg) (g (x4 + (2 : Int32)).toNatClampNeg) M) (fun q1 => bd (f_X9_ward n (g (x4 + (1 : Int32)).toNatClampNeg) (g (x4 + (2 : Int32)).toNatClampNeg) M2) (fun q2 => bd (f_X9_thrown n  q2.2) (fun q3 => if q3.1 = q1.1 then (if q1.1 = 0 then (if (lg_cmp (gj q1.2 60 0) q2.1.toInt64) = 0 then (some (q1.2, q3.2)) else (none)) else (some (q1.2, q3.2))) else (none))))
set_option maxHeartbeats 4000000 in
set_option maxRecDepth 100000 in
theorem lw_case5 {p : Program} {l : Launch} {e : Env} {s : State} {m : MethodId} {below : List Frame} {meth : Method} {c : Code} {b L : Nat} {g : Nat → Int32} {w : Wd} {ρ2 : Nat → Nat} (C9 : LC p l s m c b L g w ρ2) (n j : Nat) (hj : j < 512) (x4 : Int32) (hbs : ∀ k : Int32, k = 0 ∨ k = 1 ∨ k = 2 ∨ k = 3 ∨ k = 4 ∨ k = 5 → vp_in (x4 + k) L) (M M2 M9 M8 : Mem) (hf : lw_c5 n g x4 M M2 = some (M9, M8)) (K : ∀ (H : Heap) (locs : List Loc) (ls : Array Slot), LG w ρ2 s M9 M8 H locs → lv_has ls 7 [(0, .ref b), (1, .ref (w.2.2.1 0)), (2, .ref (ρ2 0)), (3, .ref (w.2.2.1 60)), (4, .int (x4 + (6 : Int32)))] → W p l e room_1 s m #[Value.ref b] below meth c H locs (100 + 4 * (j + 1)) (20000 + 24 * (j + 1)) (lw_Z below #[Value.ref b] s) (F0 m 23 ls [])) (H : Heap) (locs : List Loc) (ls : Array Slot) (hG : LG w ρ2 s M M2 H locs) (hl : lv_has ls 7 [(0, .ref b), (1, .ref (w.2.2.1 0)), (2, .ref (ρ2 0)), (3, .ref (w.2.2.1 60)), (4, .int x4)]) : W p l e room_1 s m #[Value.ref b] below meth c H locs (100 + 4 * j) (20000 + 24 * j) (lw_Z below #[Value.ref b] s) (F0 m 470 ls []) := by
  obtain ⟨F, hst, hL, hX, hXs, hbl⟩ := C9
  have hx := F.1.1
  have hb := F.1.2.1
  have hbA : ¬ A0 s b := Nat.not_le.mpr hbl
  have hb1 := hbs 1 (by decide)
  have hb2 := hbs 2 (by decide)
  have hb3 := hbs 3 (by decide)
  have hb4 := hbs 4 (by decide)
  have hb5 := hbs 5 (by decide)
  unfold lw_c5 at hf
  refine lv_aload_n hx hb dL_law_470 rfl (lv_at hl 1 rfl) ?_
  refine lv_aload_n hx hb dL_law_471 rfl (lv_at hl 0 rfl) ?_
  refine lv_iload hx hb dL_law_472 (lv_at hl 4 rfl) ?_
  refine lv_iconst (v := 1) hx hb dL_law_474 (by decide) ?_
  refine lv_iadd hx hb dL_law_475 ?_
  refine va_sld hx hb hXs hbl hbA hG.2.2 hb1 dL_law_476 ?_
  refine lv_aload_n hx hb dL_law_477 rfl (lv_at hl 0 rfl) ?_
  refine lv_iload hx hb dL_law_478 (lv_at hl 4 rfl) ?_
  refine lv_iconst (v := 2) hx hb dL_law_480 (by decide) ?_
  refine lv_iadd hx hb dL_law_481 ?_
  refine va_sld hx hb hXs hbl hbA hG.2.2 hb2 dL_law_482 ?_
  refine lv_aload_n hx hb dL_law_483 rfl (lv_at hl 3 rfl) ?_
  replace hf := bd_some hf
  obtain ⟨q1, eq1, hf⟩ := hf
  refine lC_calli hL hG (lC_runSW F hL hX hG (c_L_ward l w hst n (g (x4 + (1 : Int32)).toNatClampNeg) (g (x4 + (2 : Int32)).toNatClampNeg) _ _ eq1) csw_125 ⟨by decide, by decide⟩ rfl hl.1 rfl (Nat.le_of_ble_eq_true rfl) dL_law_484 ⟨by show 100 + 4 * j + 2 ≤ 601024; omega, by show 20000 + 24 * j + 12 ≤ 7293034; omega⟩) (fun H locs hG => ?_)
  refine W.widen (k := 100 + 4 * j + 4) (n := 20000 + 24 * j + 24) (by omega) (by omega) ?_
  refine lv_istore (lv' := [(5, .int q1.1), (0, .ref b), (1, .ref (w.2.2.1 0)), (2, .ref (ρ2 0)), (3, .ref (w.2.2.1 60)), (4, .int x4)]) hx hb dL_law_487 hl (by decide) rfl (fun ls hl => ?_)
  refine lv_aload_n hx hb dL_law_489 rfl (lv_at hl 3 rfl) ?_
  refine lv_aload_n hx hb dL_law_490 rfl (lv_at hl 1 rfl) ?_
  refine lv_iload hx hb dL_law_491 (lv_at hl 5 rfl) ?_
  refine lv_iconst (v := 1) hx hb dL_law_493 (by decide) ?_
  refine lv_iadd hx hb dL_law_494 ?_
  refine va_sld hx hb hXs hbl hbA hG.2.2 hb1 dL_law_495 ?_
  refine lv_aload_n hx hb dL_law_496 rfl (lv_at hl 1 rfl) ?_
  refine lv_iload hx hb dL_law_497 (lv_at hl 5 rfl) ?_
  refine lv_iconst (v := 2) hx hb dL_law_499 (by decide) ?_
  refine lv_iadd hx hb dL_law_500 ?_
  refine va_sld hx hb hXs hbl hbA hG.2.2 hb2 dL_law_501 ?_
  replace hf := bd_some hf
  obtain ⟨q2, eq2, hf⟩ := hf
  refine lM_calli hL hG (lM_runV F hL hG (c_X9_ward l (wM w ρ2) x0_ok n (g (x4 + (1 : Int32)).toNatClampNeg) (g (x4 + (2 : Int32)).toNatClampNeg) _ _ eq2) cv_L_127 ⟨by decide, by decide⟩ rfl hl.1 rfl (Nat.le_of_ble_eq_true rfl) dL_law_502 ⟨by show 100 + 4 * j + 4 ≤ 601024; omega, by show 20000 + 24 * j + 24 ≤ 7293034; omega⟩) (fun H locs hG => ?_)
  refine lv_istore (lv' := [(6, .int q2.1), (5, .int q1.1), (0, .ref b), (1, .ref (w.2.2.1 0)), (2, .ref (ρ2 0)), (3, .ref (w.2.2.1 60)), (4, .int x4)]) hx hb dL_law_505 hl (by decide) rfl (fun ls hl => ?_)
  refine lv_aload_n hx hb dL_law_507 rfl (lv_at hl 4 rfl) ?_
  replace hf := bd_some hf
  obtain ⟨q3, eq3, hf⟩ := hf
  refine lM_calli hL hG (lM_runV F hL hG (c_X9_thrown l (wM w ρ2) x0_ok n  _ _ eq3) cv_L_110 ⟨by decide, by decide⟩ rfl hl.1 rfl (Nat.le_of_ble_eq_true rfl) dL_law_508 ⟨by show 100 + 4 * j + 4 ≤ 601024; omega, by show 20000 + 24 * j + 24 ≤ 7293034; omega⟩) (fun H locs hG => ?_)
  refine lv_iload hx hb dL_law_511 (lv_at hl 1 rfl) ?_
  refine lv_icmp_eq (tgt := 518) hx hb dL_law_513 (by decide) (fun c4 => ?_) (fun c4 => ?_)
  · replace hf := if_t c4 hf
    refine lv_iload hx hb dL_law_518 (lv_at hl 1 rfl) ?_
    refine lv_if_ne (tgt := 535) hx hb dL_law_520 (by decide) (fun c5 => ?_) (fun c5 => ?_)
    · replace hf := if_f c5 hf
      refine lv_goto (tgt := 2170) hx hb dL_law_535 (by decide) ?_
      refine lv_iinc (v := (x4 + (6 : Int32))) (lv' := [(4, .int (x4 + (6 : Int32))), (6, .int q2.1), (5, .int q1.1), (0, .ref b), (1, .ref (w.2.2.1 0)), (2, .ref (ρ2 0)), (3, .ref (w.2.2.1 60))]) hx hb dL_law_2170 hl (k := 6) rfl rfl (by decide) rfl (fun ls hl => ?_)
      refine lv_goto (tgt := 23) hx hb dL_law_2173 (by decide) ?_
      cases hf
      refine W.widen (k := 100 + 4 * (j + 1)) (n := 20000 + 24 * (j + 1)) (by omega) (by omega) ?_
      exact K _ _ ls hG (lv_sub hl [3, 4, 5, 6, 0] rfl)
    · replace hf := if_t c5 hf
      refine lv_aload_n hx hb dL_law_523 rfl (lv_at hl 5 rfl) ?_
      refine lv_iconst (v := 0) hx hb dL_law_524 (by decide) ?_
      refine l_out F hG dL_law_525 ?_
      refine lv_iload hx hb dL_law_526 (lv_at hl 0 rfl) ?_
      refine lv_i2l hx hb dL_law_528 rfl ?_
      refine W.lcmp hx hb dL_law_529 ?_
      refine lv_if_eq (tgt := 535) hx hb dL_law_530 (by decide) (fun c6 => ?_) (fun c6 => ?_)
      · replace hf := if_t c6 hf
        refine lv_goto (tgt := 2170) hx hb dL_law_535 (by decide) ?_
        refine lv_iinc (v := (x4 + (6 : Int32))) (lv' := [(4, .int (x4 + (6 : Int32))), (6, .int q2.1), (5, .int q1.1), (0, .ref b), (1, .ref (w.2.2.1 0)), (2, .ref (ρ2 0)), (3, .ref (w.2.2.1 60))]) hx hb dL_law_2170 hl (k := 6) rfl rfl (by decide) rfl (fun ls hl => ?_)
        refine lv_goto (tgt := 23) hx hb dL_law_2173 (by decide) ?_
        cases hf
        refine W.widen (k := 100 + 4 * (j + 1)) (n := 20000 + 24 * (j + 1)) (by omega) (by omega) ?_
        exact K _ _ ls hG (lv_sub hl [3, 4, 5, 6, 0] rfl)
      · replace hf := if_f c6 hf
        cases hf
  · replace hf := if_f c4 hf
    cases hf

def lw_c6 (n : Nat) (g : Nat → Int32) (x4 : Int32) (M M2 : Mem) : Option (Mem × Mem) := bd (f_X8_days n (g (x4 + (1 : Int32)).toNatClampNeg) M) (fun q1 => bd (f_X9_days n (g (x4 + (1 : Int32)).toNatClampNeg) M2) (fun q2 => if q1.1 = q2.1 then (some (q1.2, q2.2)) else (none)))
set_option maxHeartbeats 4000000 in
set_option maxRecDepth 100000 in
theorem lw_case6 {p : Program} {l : Launch} {e : Env} {s : State} {m : MethodId} {below : List Frame} {meth : Method} {c : Code} {b L : Nat} {g : Nat → Int32} {w : Wd} {ρ2 : Nat → Nat} (C9 : LC p l s m c b L g w ρ2) (n j : Nat) (hj : j < 512) (x4 : Int32) (hbs : ∀ k : Int32, k = 0 ∨ k = 1 ∨ k = 2 ∨ k = 3 ∨ k = 4 ∨ k = 5 → vp_in (x4 + k) L) (M M2 M9 M8 : Mem) (hf : lw_c6 n g x4 M M2 = some (M9, M8)) (K : ∀ (H : Heap) (locs : List Loc) (ls : Array Slot), LG w ρ2 s M9 M8 H locs → lv_has ls 7 [(0, .ref b), (1, .ref (w.2.2.1 0)), (2, .ref (ρ2 0)), (3, .ref (w.2.2.1 60)), (4, .int (x4 + (6 : Int32)))] → W p l e room_1 s m #[Value.ref b] below meth c H locs (100 + 4 * (j + 1)) (20000 + 24 * (j + 1)) (lw_Z below #[Value.ref b] s) (F0 m 23 ls [])) (H : Heap) (locs : List Loc) (ls : Array Slot) (hG : LG w ρ2 s M M2 H locs) (hl : lv_has ls 7 [(0, .ref b), (1, .ref (w.2.2.1 0)), (2, .ref (ρ2 0)), (3, .ref (w.2.2.1 60)), (4, .int x4)]) : W p l e room_1 s m #[Value.ref b] below meth c H locs (100 + 4 * j) (20000 + 24 * j) (lw_Z below #[Value.ref b] s) (F0 m 538 ls []) := by
  obtain ⟨F, hst, hL, hX, hXs, hbl⟩ := C9
  have hx := F.1.1
  have hb := F.1.2.1
  have hbA : ¬ A0 s b := Nat.not_le.mpr hbl
  have hb1 := hbs 1 (by decide)
  have hb2 := hbs 2 (by decide)
  have hb3 := hbs 3 (by decide)
  have hb4 := hbs 4 (by decide)
  have hb5 := hbs 5 (by decide)
  unfold lw_c6 at hf
  refine lv_aload_n hx hb dL_law_538 rfl (lv_at hl 1 rfl) ?_
  refine lv_aload_n hx hb dL_law_539 rfl (lv_at hl 0 rfl) ?_
  refine lv_iload hx hb dL_law_540 (lv_at hl 4 rfl) ?_
  refine lv_iconst (v := 1) hx hb dL_law_542 (by decide) ?_
  refine lv_iadd hx hb dL_law_543 ?_
  refine va_sld hx hb hXs hbl hbA hG.2.2 hb1 dL_law_544 ?_
  replace hf := bd_some hf
  obtain ⟨q1, eq1, hf⟩ := hf
  refine lC_calli hL hG (lC_runV F hL hX hG (c_X8_days l w n (g (x4 + (1 : Int32)).toNatClampNeg) _ _ eq1) cv_L_128 ⟨by decide, by decide⟩ rfl hl.1 rfl (Nat.le_of_ble_eq_true rfl) dL_law_545 ⟨by show 100 + 4 * j  ≤ 601024; omega, by show 20000 + 24 * j  ≤ 7293034; omega⟩) (fun H locs hG => ?_)
  refine lv_aload_n hx hb dL_law_548 rfl (lv_at hl 2 rfl) ?_
  refine lv_aload_n hx hb dL_law_549 rfl (lv_at hl 0 rfl) ?_
  refine lv_iload hx hb dL_law_550 (lv_at hl 4 rfl) ?_
  refine lv_iconst (v := 1) hx hb dL_law_552 (by decide) ?_
  refine lv_iadd hx hb dL_law_553 ?_
  refine va_sld hx hb hXs hbl hbA hG.2.2 hb1 dL_law_554 ?_
  replace hf := bd_some hf
  obtain ⟨q2, eq2, hf⟩ := hf
  refine lM_calli hL hG (lM_runV F hL hG (c_X9_days l (wM w ρ2) x0_ok n (g (x4 + (1 : Int32)).toNatClampNeg) _ _ eq2) cv_L_131 ⟨by decide, by decide⟩ rfl hl.1 rfl (Nat.le_of_ble_eq_true rfl) dL_law_555 ⟨by show 100 + 4 * j  ≤ 601024; omega, by show 20000 + 24 * j  ≤ 7293034; omega⟩) (fun H locs hG => ?_)
  refine lv_icmp_eq (tgt := 2170) hx hb dL_law_558 (by decide) (fun c3 => ?_) (fun c3 => ?_)
  · replace hf := if_t c3 hf
    refine lv_iinc (v := (x4 + (6 : Int32))) (lv' := [(4, .int (x4 + (6 : Int32))), (0, .ref b), (1, .ref (w.2.2.1 0)), (2, .ref (ρ2 0)), (3, .ref (w.2.2.1 60))]) hx hb dL_law_2170 hl (k := 4) rfl rfl (by decide) rfl (fun ls hl => ?_)
    refine lv_goto (tgt := 23) hx hb dL_law_2173 (by decide) ?_
    cases hf
    refine W.widen (k := 100 + 4 * (j + 1)) (n := 20000 + 24 * (j + 1)) (by omega) (by omega) ?_
    exact K _ _ ls hG (lv_sub hl [1, 2, 3, 4, 0] rfl)
  · replace hf := if_f c3 hf
    cases hf

def lw_c7 (n : Nat) (g : Nat → Int32) (x4 : Int32) (M M2 : Mem) : Option (Mem × Mem) := bd (f_X8_give n (g (x4 + (1 : Int32)).toNatClampNeg) M) (fun q1 => bd (f_X9_give n (g (x4 + (1 : Int32)).toNatClampNeg) M2) (fun q2 => if q1.1 = q2.1 then (some (q1.2, q2.2)) else (none)))
set_option maxHeartbeats 4000000 in
set_option maxRecDepth 100000 in
theorem lw_case7 {p : Program} {l : Launch} {e : Env} {s : State} {m : MethodId} {below : List Frame} {meth : Method} {c : Code} {b L : Nat} {g : Nat → Int32} {w : Wd} {ρ2 : Nat → Nat} (C9 : LC p l s m c b L g w ρ2) (n j : Nat) (hj : j < 512) (x4 : Int32) (hbs : ∀ k : Int32, k = 0 ∨ k = 1 ∨ k = 2 ∨ k = 3 ∨ k = 4 ∨ k = 5 → vp_in (x4 + k) L) (M M2 M9 M8 : Mem) (hf : lw_c7 n g x4 M M2 = some (M9, M8)) (K : ∀ (H : Heap) (locs : List Loc) (ls : Array Slot), LG w ρ2 s M9 M8 H locs → lv_has ls 7 [(0, .ref b), (1, .ref (w.2.2.1 0)), (2, .ref (ρ2 0)), (3, .ref (w.2.2.1 60)), (4, .int (x4 + (6 : Int32)))] → W p l e room_1 s m #[Value.ref b] below meth c H locs (100 + 4 * (j + 1)) (20000 + 24 * (j + 1)) (lw_Z below #[Value.ref b] s) (F0 m 23 ls [])) (H : Heap) (locs : List Loc) (ls : Array Slot) (hG : LG w ρ2 s M M2 H locs) (hl : lv_has ls 7 [(0, .ref b), (1, .ref (w.2.2.1 0)), (2, .ref (ρ2 0)), (3, .ref (w.2.2.1 60)), (4, .int x4)]) : W p l e room_1 s m #[Value.ref b] below meth c H locs (100 + 4 * j) (20000 + 24 * j) (lw_Z below #[Value.ref b] s) (F0 m 563 ls []) := by
  obtain ⟨F, hst, hL, hX, hXs, hbl⟩ := C9
  have hx := F.1.1
  have hb := F.1.2.1
  have hbA : ¬ A0 s b := Nat.not_le.mpr hbl
  have hb1 := hbs 1 (by decide)
  have hb2 := hbs 2 (by decide)
  have hb3 := hbs 3 (by decide)
  have hb4 := hbs 4 (by decide)
  have hb5 := hbs 5 (by decide)
  unfold lw_c7 at hf
  refine lv_aload_n hx hb dL_law_563 rfl (lv_at hl 1 rfl) ?_
  refine lv_aload_n hx hb dL_law_564 rfl (lv_at hl 0 rfl) ?_
  refine lv_iload hx hb dL_law_565 (lv_at hl 4 rfl) ?_
  refine lv_iconst (v := 1) hx hb dL_law_567 (by decide) ?_
  refine lv_iadd hx hb dL_law_568 ?_
  refine va_sld hx hb hXs hbl hbA hG.2.2 hb1 dL_law_569 ?_
  replace hf := bd_some hf
  obtain ⟨q1, eq1, hf⟩ := hf
  refine lC_calli hL hG (lC_runV F hL hX hG (c_X8_give l w n (g (x4 + (1 : Int32)).toNatClampNeg) _ _ eq1) cv_L_132 ⟨by decide, by decide⟩ rfl hl.1 rfl (Nat.le_of_ble_eq_true rfl) dL_law_570 ⟨by show 100 + 4 * j  ≤ 601024; omega, by show 20000 + 24 * j  ≤ 7293034; omega⟩) (fun H locs hG => ?_)
  refine lv_aload_n hx hb dL_law_573 rfl (lv_at hl 2 rfl) ?_
  refine lv_aload_n hx hb dL_law_574 rfl (lv_at hl 0 rfl) ?_
  refine lv_iload hx hb dL_law_575 (lv_at hl 4 rfl) ?_
  refine lv_iconst (v := 1) hx hb dL_law_577 (by decide) ?_
  refine lv_iadd hx hb dL_law_578 ?_
  refine va_sld hx hb hXs hbl hbA hG.2.2 hb1 dL_law_579 ?_
  replace hf := bd_some hf
  obtain ⟨q2, eq2, hf⟩ := hf
  refine lM_calli hL hG (lM_runV F hL hG (c_X9_give l (wM w ρ2) x0_ok n (g (x4 + (1 : Int32)).toNatClampNeg) _ _ eq2) cv_L_135 ⟨by decide, by decide⟩ rfl hl.1 rfl (Nat.le_of_ble_eq_true rfl) dL_law_580 ⟨by show 100 + 4 * j  ≤ 601024; omega, by show 20000 + 24 * j  ≤ 7293034; omega⟩) (fun H locs hG => ?_)
  refine lv_icmp_eq (tgt := 2170) hx hb dL_law_583 (by decide) (fun c3 => ?_) (fun c3 => ?_)
  · replace hf := if_t c3 hf
    refine lv_iinc (v := (x4 + (6 : Int32))) (lv' := [(4, .int (x4 + (6 : Int32))), (0, .ref b), (1, .ref (w.2.2.1 0)), (2, .ref (ρ2 0)), (3, .ref (w.2.2.1 60))]) hx hb dL_law_2170 hl (k := 4) rfl rfl (by decide) rfl (fun ls hl => ?_)
    refine lv_goto (tgt := 23) hx hb dL_law_2173 (by decide) ?_
    cases hf
    refine W.widen (k := 100 + 4 * (j + 1)) (n := 20000 + 24 * (j + 1)) (by omega) (by omega) ?_
    exact K _ _ ls hG (lv_sub hl [1, 2, 3, 4, 0] rfl)
  · replace hf := if_f c3 hf
    cases hf

def lw_c8 (n : Nat) (g : Nat → Int32) (x4 : Int32) (M M2 : Mem) : Option (Mem × Mem) := bd (f_L_preach n (g (x4 + (1 : Int32)).toNatClampNeg) M) (fun q1 => bd (f_X9_preach n (g (x4 + (1 : Int32)).toNatClampNeg) M2) (fun q2 => bd (f_X9_thrown n  q2.2) (fun q3 => if q3.1 = q1.1 then (if q1.1 = 0 then (if (lg_cmp (gj q1.2 60 0) q2.1.toInt64) = 0 then (some (q1.2, q3.2)) else (none)) else (some (q1.2, q3.2))) else (none))))
set_option maxHeartbeats 4000000 in
set_option maxRecDepth 100000 in
theorem lw_case8 {p : Program} {l : Launch} {e : Env} {s : State} {m : MethodId} {below : List Frame} {meth : Method} {c : Code} {b L : Nat} {g : Nat → Int32} {w : Wd} {ρ2 : Nat → Nat} (C9 : LC p l s m c b L g w ρ2) (n j : Nat) (hj : j < 512) (x4 : Int32) (hbs : ∀ k : Int32, k = 0 ∨ k = 1 ∨ k = 2 ∨ k = 3 ∨ k = 4 ∨ k = 5 → vp_in (x4 + k) L) (M M2 M9 M8 : Mem) (hf : lw_c8 n g x4 M M2 = some (M9, M8)) (K : ∀ (H : Heap) (locs : List Loc) (ls : Array Slot), LG w ρ2 s M9 M8 H locs → lv_has ls 7 [(0, .ref b), (1, .ref (w.2.2.1 0)), (2, .ref (ρ2 0)), (3, .ref (w.2.2.1 60)), (4, .int (x4 + (6 : Int32)))] → W p l e room_1 s m #[Value.ref b] below meth c H locs (100 + 4 * (j + 1)) (20000 + 24 * (j + 1)) (lw_Z below #[Value.ref b] s) (F0 m 23 ls [])) (H : Heap) (locs : List Loc) (ls : Array Slot) (hG : LG w ρ2 s M M2 H locs) (hl : lv_has ls 7 [(0, .ref b), (1, .ref (w.2.2.1 0)), (2, .ref (ρ2 0)), (3, .ref (w.2.2.1 60)), (4, .int x4)]) : W p l e room_1 s m #[Value.ref b] below meth c H locs (100 + 4 * j) (20000 + 24 * j) (lw_Z below #[Value.ref b] s) (F0 m 588 ls []) := by
  obtain ⟨F, hst, hL, hX, hXs, hbl⟩ := C9
  have hx := F.1.1
  have hb := F.1.2.1
  have hbA : ¬ A0 s b := Nat.not_le.mpr hbl
  have hb1 := hbs 1 (by decide)
  have hb2 := hbs 2 (by decide)
  have hb3 := hbs 3 (by decide)
  have hb4 := hbs 4 (by decide)
  have hb5 := hbs 5 (by decide)
  unfold lw_c8 at hf
  refine lv_aload_n hx hb dL_law_588 rfl (lv_at hl 1 rfl) ?_
  refine lv_aload_n hx hb dL_law_589 rfl (lv_at hl 0 rfl) ?_
  refine lv_iload hx hb dL_law_590 (lv_at hl 4 rfl) ?_
  refine lv_iconst (v := 1) hx hb dL_law_592 (by decide) ?_
  refine lv_iadd hx hb dL_law_593 ?_
  refine va_sld hx hb hXs hbl hbA hG.2.2 hb1 dL_law_594 ?_
  refine lv_aload_n hx hb dL_law_595 rfl (lv_at hl 3 rfl) ?_
  replace hf := bd_some hf
  obtain ⟨q1, eq1, hf⟩ := hf
  refine lC_calli hL hG (lC_runSW F hL hX hG (c_L_preach l w hst n (g (x4 + (1 : Int32)).toNatClampNeg) _ _ eq1) csw_136 ⟨by decide, by decide⟩ rfl hl.1 rfl (Nat.le_of_ble_eq_true rfl) dL_law_596 ⟨by show 100 + 4 * j + 1 ≤ 601024; omega, by show 20000 + 24 * j + 6 ≤ 7293034; omega⟩) (fun H locs hG => ?_)
  refine W.widen (k := 100 + 4 * j + 4) (n := 20000 + 24 * j + 24) (by omega) (by omega) ?_
  refine lv_istore (lv' := [(5, .int q1.1), (0, .ref b), (1, .ref (w.2.2.1 0)), (2, .ref (ρ2 0)), (3, .ref (w.2.2.1 60)), (4, .int x4)]) hx hb dL_law_599 hl (by decide) rfl (fun ls hl => ?_)
  refine lv_aload_n hx hb dL_law_601 rfl (lv_at hl 3 rfl) ?_
  refine lv_aload_n hx hb dL_law_602 rfl (lv_at hl 1 rfl) ?_
  refine lv_iload hx hb dL_law_603 (lv_at hl 5 rfl) ?_
  refine lv_iconst (v := 1) hx hb dL_law_605 (by decide) ?_
  refine lv_iadd hx hb dL_law_606 ?_
  refine va_sld hx hb hXs hbl hbA hG.2.2 hb1 dL_law_607 ?_
  replace hf := bd_some hf
  obtain ⟨q2, eq2, hf⟩ := hf
  refine lM_calli hL hG (lM_runV F hL hG (c_X9_preach l (wM w ρ2) x0_ok n (g (x4 + (1 : Int32)).toNatClampNeg) _ _ eq2) cv_L_138 ⟨by decide, by decide⟩ rfl hl.1 rfl (Nat.le_of_ble_eq_true rfl) dL_law_608 ⟨by show 100 + 4 * j + 4 ≤ 601024; omega, by show 20000 + 24 * j + 24 ≤ 7293034; omega⟩) (fun H locs hG => ?_)
  refine lv_istore (lv' := [(6, .int q2.1), (5, .int q1.1), (0, .ref b), (1, .ref (w.2.2.1 0)), (2, .ref (ρ2 0)), (3, .ref (w.2.2.1 60)), (4, .int x4)]) hx hb dL_law_611 hl (by decide) rfl (fun ls hl => ?_)
  refine lv_aload_n hx hb dL_law_613 rfl (lv_at hl 4 rfl) ?_
  replace hf := bd_some hf
  obtain ⟨q3, eq3, hf⟩ := hf
  refine lM_calli hL hG (lM_runV F hL hG (c_X9_thrown l (wM w ρ2) x0_ok n  _ _ eq3) cv_L_110 ⟨by decide, by decide⟩ rfl hl.1 rfl (Nat.le_of_ble_eq_true rfl) dL_law_614 ⟨by show 100 + 4 * j + 4 ≤ 601024; omega, by show 20000 + 24 * j + 24 ≤ 7293034; omega⟩) (fun H locs hG => ?_)
  refine lv_iload hx hb dL_law_617 (lv_at hl 1 rfl) ?_
  refine lv_icmp_eq (tgt := 624) hx hb dL_law_619 (by decide) (fun c4 => ?_) (fun c4 => ?_)
  · replace hf := if_t c4 hf
    refine lv_iload hx hb dL_law_624 (lv_at hl 1 rfl) ?_
    refine lv_if_ne (tgt := 641) hx hb dL_law_626 (by decide) (fun c5 => ?_) (fun c5 => ?_)
    · replace hf := if_f c5 hf
      refine lv_goto (tgt := 2170) hx hb dL_law_641 (by decide) ?_
      refine lv_iinc (v := (x4 + (6 : Int32))) (lv' := [(4, .int (x4 + (6 : Int32))), (6, .int q2.1), (5, .int q1.1), (0, .ref b), (1, .ref (w.2.2.1 0)), (2, .ref (ρ2 0)), (3, .ref (w.2.2.1 60))]) hx hb dL_law_2170 hl (k := 6) rfl rfl (by decide) rfl (fun ls hl => ?_)
      refine lv_goto (tgt := 23) hx hb dL_law_2173 (by decide) ?_
      cases hf
      refine W.widen (k := 100 + 4 * (j + 1)) (n := 20000 + 24 * (j + 1)) (by omega) (by omega) ?_
      exact K _ _ ls hG (lv_sub hl [3, 4, 5, 6, 0] rfl)
    · replace hf := if_t c5 hf
      refine lv_aload_n hx hb dL_law_629 rfl (lv_at hl 5 rfl) ?_
      refine lv_iconst (v := 0) hx hb dL_law_630 (by decide) ?_
      refine l_out F hG dL_law_631 ?_
      refine lv_iload hx hb dL_law_632 (lv_at hl 0 rfl) ?_
      refine lv_i2l hx hb dL_law_634 rfl ?_
      refine W.lcmp hx hb dL_law_635 ?_
      refine lv_if_eq (tgt := 641) hx hb dL_law_636 (by decide) (fun c6 => ?_) (fun c6 => ?_)
      · replace hf := if_t c6 hf
        refine lv_goto (tgt := 2170) hx hb dL_law_641 (by decide) ?_
        refine lv_iinc (v := (x4 + (6 : Int32))) (lv' := [(4, .int (x4 + (6 : Int32))), (6, .int q2.1), (5, .int q1.1), (0, .ref b), (1, .ref (w.2.2.1 0)), (2, .ref (ρ2 0)), (3, .ref (w.2.2.1 60))]) hx hb dL_law_2170 hl (k := 6) rfl rfl (by decide) rfl (fun ls hl => ?_)
        refine lv_goto (tgt := 23) hx hb dL_law_2173 (by decide) ?_
        cases hf
        refine W.widen (k := 100 + 4 * (j + 1)) (n := 20000 + 24 * (j + 1)) (by omega) (by omega) ?_
        exact K _ _ ls hG (lv_sub hl [3, 4, 5, 6, 0] rfl)
      · replace hf := if_f c6 hf
        cases hf
  · replace hf := if_f c4 hf
    cases hf

def lw_c9 (n : Nat) (g : Nat → Int32) (x4 : Int32) (M M2 : Mem) : Option (Mem × Mem) := bd (f_L_mortar n (g (x4 + (1 : Int32)).toNatClampNeg) M) (fun q1 => bd (f_X9_mortar n (g (x4 + (1 : Int32)).toNatClampNeg) M2) (fun q2 => bd (f_X9_thrown n  q2.2) (fun q3 => if q3.1 = q1.1 then (if q1.1 = 0 then (if (lg_cmp (gj q1.2 60 0) q2.1.toInt64) = 0 then (some (q1.2, q3.2)) else (none)) else (some (q1.2, q3.2))) else (none))))
set_option maxHeartbeats 4000000 in
set_option maxRecDepth 100000 in
theorem lw_case9 {p : Program} {l : Launch} {e : Env} {s : State} {m : MethodId} {below : List Frame} {meth : Method} {c : Code} {b L : Nat} {g : Nat → Int32} {w : Wd} {ρ2 : Nat → Nat} (C9 : LC p l s m c b L g w ρ2) (n j : Nat) (hj : j < 512) (x4 : Int32) (hbs : ∀ k : Int32, k = 0 ∨ k = 1 ∨ k = 2 ∨ k = 3 ∨ k = 4 ∨ k = 5 → vp_in (x4 + k) L) (M M2 M9 M8 : Mem) (hf : lw_c9 n g x4 M M2 = some (M9, M8)) (K : ∀ (H : Heap) (locs : List Loc) (ls : Array Slot), LG w ρ2 s M9 M8 H locs → lv_has ls 7 [(0, .ref b), (1, .ref (w.2.2.1 0)), (2, .ref (ρ2 0)), (3, .ref (w.2.2.1 60)), (4, .int (x4 + (6 : Int32)))] → W p l e room_1 s m #[Value.ref b] below meth c H locs (100 + 4 * (j + 1)) (20000 + 24 * (j + 1)) (lw_Z below #[Value.ref b] s) (F0 m 23 ls [])) (H : Heap) (locs : List Loc) (ls : Array Slot) (hG : LG w ρ2 s M M2 H locs) (hl : lv_has ls 7 [(0, .ref b), (1, .ref (w.2.2.1 0)), (2, .ref (ρ2 0)), (3, .ref (w.2.2.1 60)), (4, .int x4)]) : W p l e room_1 s m #[Value.ref b] below meth c H locs (100 + 4 * j) (20000 + 24 * j) (lw_Z below #[Value.ref b] s) (F0 m 644 ls []) := by
  obtain ⟨F, hst, hL, hX, hXs, hbl⟩ := C9
  have hx := F.1.1
  have hb := F.1.2.1
  have hbA : ¬ A0 s b := Nat.not_le.mpr hbl
  have hb1 := hbs 1 (by decide)
  have hb2 := hbs 2 (by decide)
  have hb3 := hbs 3 (by decide)
  have hb4 := hbs 4 (by decide)
  have hb5 := hbs 5 (by decide)
  unfold lw_c9 at hf
  refine lv_aload_n hx hb dL_law_644 rfl (lv_at hl 1 rfl) ?_
  refine lv_aload_n hx hb dL_law_645 rfl (lv_at hl 0 rfl) ?_
  refine lv_iload hx hb dL_law_646 (lv_at hl 4 rfl) ?_
  refine lv_iconst (v := 1) hx hb dL_law_648 (by decide) ?_
  refine lv_iadd hx hb dL_law_649 ?_
  refine va_sld hx hb hXs hbl hbA hG.2.2 hb1 dL_law_650 ?_
  refine lv_aload_n hx hb dL_law_651 rfl (lv_at hl 3 rfl) ?_
  replace hf := bd_some hf
  obtain ⟨q1, eq1, hf⟩ := hf
  refine lC_calli hL hG (lC_runSW F hL hX hG (c_L_mortar l w hst n (g (x4 + (1 : Int32)).toNatClampNeg) _ _ eq1) csw_139 ⟨by decide, by decide⟩ rfl hl.1 rfl (Nat.le_of_ble_eq_true rfl) dL_law_652 ⟨by show 100 + 4 * j + 1 ≤ 601024; omega, by show 20000 + 24 * j + 6 ≤ 7293034; omega⟩) (fun H locs hG => ?_)
  refine W.widen (k := 100 + 4 * j + 4) (n := 20000 + 24 * j + 24) (by omega) (by omega) ?_
  refine lv_istore (lv' := [(5, .int q1.1), (0, .ref b), (1, .ref (w.2.2.1 0)), (2, .ref (ρ2 0)), (3, .ref (w.2.2.1 60)), (4, .int x4)]) hx hb dL_law_655 hl (by decide) rfl (fun ls hl => ?_)
  refine lv_aload_n hx hb dL_law_657 rfl (lv_at hl 3 rfl) ?_
  refine lv_aload_n hx hb dL_law_658 rfl (lv_at hl 1 rfl) ?_
  refine lv_iload hx hb dL_law_659 (lv_at hl 5 rfl) ?_
  refine lv_iconst (v := 1) hx hb dL_law_661 (by decide) ?_
  refine lv_iadd hx hb dL_law_662 ?_
  refine va_sld hx hb hXs hbl hbA hG.2.2 hb1 dL_law_663 ?_
  replace hf := bd_some hf
  obtain ⟨q2, eq2, hf⟩ := hf
  refine lM_calli hL hG (lM_runV F hL hG (c_X9_mortar l (wM w ρ2) x0_ok n (g (x4 + (1 : Int32)).toNatClampNeg) _ _ eq2) cv_L_141 ⟨by decide, by decide⟩ rfl hl.1 rfl (Nat.le_of_ble_eq_true rfl) dL_law_664 ⟨by show 100 + 4 * j + 4 ≤ 601024; omega, by show 20000 + 24 * j + 24 ≤ 7293034; omega⟩) (fun H locs hG => ?_)
  refine lv_istore (lv' := [(6, .int q2.1), (5, .int q1.1), (0, .ref b), (1, .ref (w.2.2.1 0)), (2, .ref (ρ2 0)), (3, .ref (w.2.2.1 60)), (4, .int x4)]) hx hb dL_law_667 hl (by decide) rfl (fun ls hl => ?_)
  refine lv_aload_n hx hb dL_law_669 rfl (lv_at hl 4 rfl) ?_
  replace hf := bd_some hf
  obtain ⟨q3, eq3, hf⟩ := hf
  refine lM_calli hL hG (lM_runV F hL hG (c_X9_thrown l (wM w ρ2) x0_ok n  _ _ eq3) cv_L_110 ⟨by decide, by decide⟩ rfl hl.1 rfl (Nat.le_of_ble_eq_true rfl) dL_law_670 ⟨by show 100 + 4 * j + 4 ≤ 601024; omega, by show 20000 + 24 * j + 24 ≤ 7293034; omega⟩) (fun H locs hG => ?_)
  refine lv_iload hx hb dL_law_673 (lv_at hl 1 rfl) ?_
  refine lv_icmp_eq (tgt := 680) hx hb dL_law_675 (by decide) (fun c4 => ?_) (fun c4 => ?_)
  · replace hf := if_t c4 hf
    refine lv_iload hx hb dL_law_680 (lv_at hl 1 rfl) ?_
    refine lv_if_ne (tgt := 697) hx hb dL_law_682 (by decide) (fun c5 => ?_) (fun c5 => ?_)
    · replace hf := if_f c5 hf
      refine lv_goto (tgt := 2170) hx hb dL_law_697 (by decide) ?_
      refine lv_iinc (v := (x4 + (6 : Int32))) (lv' := [(4, .int (x4 + (6 : Int32))), (6, .int q2.1), (5, .int q1.1), (0, .ref b), (1, .ref (w.2.2.1 0)), (2, .ref (ρ2 0)), (3, .ref (w.2.2.1 60))]) hx hb dL_law_2170 hl (k := 6) rfl rfl (by decide) rfl (fun ls hl => ?_)
      refine lv_goto (tgt := 23) hx hb dL_law_2173 (by decide) ?_
      cases hf
      refine W.widen (k := 100 + 4 * (j + 1)) (n := 20000 + 24 * (j + 1)) (by omega) (by omega) ?_
      exact K _ _ ls hG (lv_sub hl [3, 4, 5, 6, 0] rfl)
    · replace hf := if_t c5 hf
      refine lv_aload_n hx hb dL_law_685 rfl (lv_at hl 5 rfl) ?_
      refine lv_iconst (v := 0) hx hb dL_law_686 (by decide) ?_
      refine l_out F hG dL_law_687 ?_
      refine lv_iload hx hb dL_law_688 (lv_at hl 0 rfl) ?_
      refine lv_i2l hx hb dL_law_690 rfl ?_
      refine W.lcmp hx hb dL_law_691 ?_
      refine lv_if_eq (tgt := 697) hx hb dL_law_692 (by decide) (fun c6 => ?_) (fun c6 => ?_)
      · replace hf := if_t c6 hf
        refine lv_goto (tgt := 2170) hx hb dL_law_697 (by decide) ?_
        refine lv_iinc (v := (x4 + (6 : Int32))) (lv' := [(4, .int (x4 + (6 : Int32))), (6, .int q2.1), (5, .int q1.1), (0, .ref b), (1, .ref (w.2.2.1 0)), (2, .ref (ρ2 0)), (3, .ref (w.2.2.1 60))]) hx hb dL_law_2170 hl (k := 6) rfl rfl (by decide) rfl (fun ls hl => ?_)
        refine lv_goto (tgt := 23) hx hb dL_law_2173 (by decide) ?_
        cases hf
        refine W.widen (k := 100 + 4 * (j + 1)) (n := 20000 + 24 * (j + 1)) (by omega) (by omega) ?_
        exact K _ _ ls hG (lv_sub hl [3, 4, 5, 6, 0] rfl)
      · replace hf := if_f c6 hf
        cases hf
  · replace hf := if_f c4 hf
    cases hf

def lw_c10 (n : Nat) (g : Nat → Int32) (x4 : Int32) (M M2 : Mem) : Option (Mem × Mem) := bd (f_X8_prop n  M) (fun q1 => bd (f_X9_prop n  M2) (fun q2 => if q1.1 = q2.1 then (some (q1.2, q2.2)) else (none)))
set_option maxHeartbeats 4000000 in
set_option maxRecDepth 100000 in
theorem lw_case10 {p : Program} {l : Launch} {e : Env} {s : State} {m : MethodId} {below : List Frame} {meth : Method} {c : Code} {b L : Nat} {g : Nat → Int32} {w : Wd} {ρ2 : Nat → Nat} (C9 : LC p l s m c b L g w ρ2) (n j : Nat) (hj : j < 512) (x4 : Int32) (hbs : ∀ k : Int32, k = 0 ∨ k = 1 ∨ k = 2 ∨ k = 3 ∨ k = 4 ∨ k = 5 → vp_in (x4 + k) L) (M M2 M9 M8 : Mem) (hf : lw_c10 n g x4 M M2 = some (M9, M8)) (K : ∀ (H : Heap) (locs : List Loc) (ls : Array Slot), LG w ρ2 s M9 M8 H locs → lv_has ls 7 [(0, .ref b), (1, .ref (w.2.2.1 0)), (2, .ref (ρ2 0)), (3, .ref (w.2.2.1 60)), (4, .int (x4 + (6 : Int32)))] → W p l e room_1 s m #[Value.ref b] below meth c H locs (100 + 4 * (j + 1)) (20000 + 24 * (j + 1)) (lw_Z below #[Value.ref b] s) (F0 m 23 ls [])) (H : Heap) (locs : List Loc) (ls : Array Slot) (hG : LG w ρ2 s M M2 H locs) (hl : lv_has ls 7 [(0, .ref b), (1, .ref (w.2.2.1 0)), (2, .ref (ρ2 0)), (3, .ref (w.2.2.1 60)), (4, .int x4)]) : W p l e room_1 s m #[Value.ref b] below meth c H locs (100 + 4 * j) (20000 + 24 * j) (lw_Z below #[Value.ref b] s) (F0 m 700 ls []) := by
  obtain ⟨F, hst, hL, hX, hXs, hbl⟩ := C9
  have hx := F.1.1
  have hb := F.1.2.1
  have hbA : ¬ A0 s b := Nat.not_le.mpr hbl
  have hb1 := hbs 1 (by decide)
  have hb2 := hbs 2 (by decide)
  have hb3 := hbs 3 (by decide)
  have hb4 := hbs 4 (by decide)
  have hb5 := hbs 5 (by decide)
  unfold lw_c10 at hf
  refine lv_aload_n hx hb dL_law_700 rfl (lv_at hl 1 rfl) ?_
  replace hf := bd_some hf
  obtain ⟨q1, eq1, hf⟩ := hf
  refine lC_calli hL hG (lC_runV F hL hX hG (c_X8_prop l w n  _ _ eq1) cv_L_142 ⟨by decide, by decide⟩ rfl hl.1 rfl (Nat.le_of_ble_eq_true rfl) dL_law_701 ⟨by show 100 + 4 * j  ≤ 601024; omega, by show 20000 + 24 * j  ≤ 7293034; omega⟩) (fun H locs hG => ?_)
  refine lv_aload_n hx hb dL_law_704 rfl (lv_at hl 2 rfl) ?_
  replace hf := bd_some hf
  obtain ⟨q2, eq2, hf⟩ := hf
  refine lM_calli hL hG (lM_runV F hL hG (c_X9_prop l (wM w ρ2) x0_ok n  _ _ eq2) cv_L_145 ⟨by decide, by decide⟩ rfl hl.1 rfl (Nat.le_of_ble_eq_true rfl) dL_law_705 ⟨by show 100 + 4 * j  ≤ 601024; omega, by show 20000 + 24 * j  ≤ 7293034; omega⟩) (fun H locs hG => ?_)
  refine lv_icmp_eq (tgt := 2170) hx hb dL_law_708 (by decide) (fun c3 => ?_) (fun c3 => ?_)
  · replace hf := if_t c3 hf
    refine lv_iinc (v := (x4 + (6 : Int32))) (lv' := [(4, .int (x4 + (6 : Int32))), (0, .ref b), (1, .ref (w.2.2.1 0)), (2, .ref (ρ2 0)), (3, .ref (w.2.2.1 60))]) hx hb dL_law_2170 hl (k := 4) rfl rfl (by decide) rfl (fun ls hl => ?_)
    refine lv_goto (tgt := 23) hx hb dL_law_2173 (by decide) ?_
    cases hf
    refine W.widen (k := 100 + 4 * (j + 1)) (n := 20000 + 24 * (j + 1)) (by omega) (by omega) ?_
    exact K _ _ ls hG (lv_sub hl [1, 2, 3, 4, 0] rfl)
  · replace hf := if_f c3 hf
    cases hf

def lw_c11 (n : Nat) (g : Nat → Int32) (x4 : Int32) (M M2 : Mem) : Option (Mem × Mem) := if (g (x4 + (3 : Int32)).toNatClampNeg) = 0 then (bd (f_L_street n (g (x4 + (1 : Int32)).toNatClampNeg) (g (x4 + (2 : Int32)).toNatClampNeg) (0 : Int32) M) (fun q2 => if (g (x4 + (3 : Int32)).toNatClampNeg) = 0 then (bd (f_X9_street n (g (x4 + (1 : Int32)).toNatClampNeg) (g (x4 + (2 : Int32)).toNatClampNeg) (0 : Int32) M2) (fun q4 => bd (f_X9_thrown n  q4.2) (fun q5 => if q5.1 = q2.1 then (if q2.1 = 0 then (if q4.1 = 0 then (if (lg_cmp (gj q2.2 60 0) (0 : Int64)) = 0 then (some (q2.2, q5.2)) else (none)) else (if (lg_cmp (gj q2.2 60 0) (1 : Int64)) = 0 then (some (q2.2, q5.2)) else (none))) else (some (q2.2, q5.2))) else (none)))) else (bd (f_X9_street n (g (x4 + (1 : Int32)).toNatClampNeg) (g (x4 + (2 : Int32)).toNatClampNeg) (1 : Int32) M2) (fun q11 => bd (f_X9_thrown n  q11.2) (fun q12 => if q12.1 = q2.1 then (if q2.1 = 0 then (if q11.1 = 0 then (if (lg_cmp (gj q2.2 60 0) (0 : Int64)) = 0 then (some (q2.2, q12.2)) else (none)) else (if (lg_cmp (gj q2.2 60 0) (1 : Int64)) = 0 then (some (q2.2, q12.2)) else (none))) else (some (q2.2, q12.2))) else (none)))))) else (bd (f_L_street n (g (x4 + (1 : Int32)).toNatClampNeg) (g (x4 + (2 : Int32)).toNatClampNeg) (1 : Int32) M) (fun q18 => if (g (x4 + (3 : Int32)).toNatClampNeg) = 0 then (bd (f_X9_street n (g (x4 + (1 : Int32)).toNatClampNeg) (g (x4 + (2 : Int32)).toNatClampNeg) (0 : Int32) M2) (fun q20 => bd (f_X9_thrown n  q20.2) (fun q21 => if q21.1 = q18.1 then (if q18.1 = 0 then (if q20.1 = 0 then (if (lg_cmp (gj q18.2 60 0) (0 : Int64)) = 0 then (some (q18.2, q21.2)) else (none)) else (if (lg_cmp (gj q18.2 60 0) (1 : Int64)) = 0 then (some (q18.2, q21.2)) else (none))) else (some (q18.2, q21.2))) else (none)))) else (bd (f_X9_street n (g (x4 + (1 : Int32)).toNatClampNeg) (g (x4 + (2 : Int32)).toNatClampNeg) (1 : Int32) M2) (fun q27 => bd (f_X9_thrown n  q27.2) (fun q28 => if q28.1 = q18.1 then (if q18.1 = 0 then (if q27.1 = 0 then (if (lg_cmp (gj q18.2 60 0) (0 : Int64)) = 0 then (some (q18.2, q28.2)) else (none)) else (if (lg_cmp (gj q18.2 60 0) (1 : Int64)) = 0 then (some (q18.2, q28.2)) else (none))) else (some (q18.2, q28.2))) else (none))))))
set_option maxHeartbeats 4000000 in
set_option maxRecDepth 100000 in
theorem lw_case11 {p : Program} {l : Launch} {e : Env} {s : State} {m : MethodId} {below : List Frame} {meth : Method} {c : Code} {b L : Nat} {g : Nat → Int32} {w : Wd} {ρ2 : Nat → Nat} (C9 : LC p l s m c b L g w ρ2) (n j : Nat) (hj : j < 512) (x4 : Int32) (hbs : ∀ k : Int32, k = 0 ∨ k = 1 ∨ k = 2 ∨ k = 3 ∨ k = 4 ∨ k = 5 → vp_in (x4 + k) L) (M M2 M9 M8 : Mem) (hf : lw_c11 n g x4 M M2 = some (M9, M8)) (K : ∀ (H : Heap) (locs : List Loc) (ls : Array Slot), LG w ρ2 s M9 M8 H locs → lv_has ls 7 [(0, .ref b), (1, .ref (w.2.2.1 0)), (2, .ref (ρ2 0)), (3, .ref (w.2.2.1 60)), (4, .int (x4 + (6 : Int32)))] → W p l e room_1 s m #[Value.ref b] below meth c H locs (100 + 4 * (j + 1)) (20000 + 24 * (j + 1)) (lw_Z below #[Value.ref b] s) (F0 m 23 ls [])) (H : Heap) (locs : List Loc) (ls : Array Slot) (hG : LG w ρ2 s M M2 H locs) (hl : lv_has ls 7 [(0, .ref b), (1, .ref (w.2.2.1 0)), (2, .ref (ρ2 0)), (3, .ref (w.2.2.1 60)), (4, .int x4)]) : W p l e room_1 s m #[Value.ref b] below meth c H locs (100 + 4 * j) (20000 + 24 * j) (lw_Z below #[Value.ref b] s) (F0 m 713 ls []) := by
  obtain ⟨F, hst, hL, hX, hXs, hbl⟩ := C9
  have hx := F.1.1
  have hb := F.1.2.1
  have hbA : ¬ A0 s b := Nat.not_le.mpr hbl
  have hb1 := hbs 1 (by decide)
  have hb2 := hbs 2 (by decide)
  have hb3 := hbs 3 (by decide)
  have hb4 := hbs 4 (by decide)
  have hb5 := hbs 5 (by decide)
  unfold lw_c11 at hf
  refine lv_aload_n hx hb dL_law_713 rfl (lv_at hl 1 rfl) ?_
  refine lv_aload_n hx hb dL_law_714 rfl (lv_at hl 0 rfl) ?_
  refine lv_iload hx hb dL_law_715 (lv_at hl 4 rfl) ?_
  refine lv_iconst (v := 1) hx hb dL_law_717 (by decide) ?_
  refine lv_iadd hx hb dL_law_718 ?_
  refine va_sld hx hb hXs hbl hbA hG.2.2 hb1 dL_law_719 ?_
  refine lv_aload_n hx hb dL_law_720 rfl (lv_at hl 0 rfl) ?_
  refine lv_iload hx hb dL_law_721 (lv_at hl 4 rfl) ?_
  refine lv_iconst (v := 2) hx hb dL_law_723 (by decide) ?_
  refine lv_iadd hx hb dL_law_724 ?_
  refine va_sld hx hb hXs hbl hbA hG.2.2 hb2 dL_law_725 ?_
  refine lv_aload_n hx hb dL_law_726 rfl (lv_at hl 0 rfl) ?_
  refine lv_iload hx hb dL_law_727 (lv_at hl 4 rfl) ?_
  refine lv_iconst (v := 3) hx hb dL_law_729 (by decide) ?_
  refine lv_iadd hx hb dL_law_730 ?_
  refine va_sld hx hb hXs hbl hbA hG.2.2 hb3 dL_law_731 ?_
  refine lv_if_eq (tgt := 739) hx hb dL_law_732 (by decide) (fun c1 => ?_) (fun c1 => ?_)
  · replace hf := if_t c1 hf
    refine lv_iconst (v := 0) hx hb dL_law_739 (by decide) ?_
    refine lv_aload_n hx hb dL_law_740 rfl (lv_at hl 3 rfl) ?_
    replace hf := bd_some hf
    obtain ⟨q2, eq2, hf⟩ := hf
    refine lC_calli hL hG (lC_runSW F hL hX hG (c_L_street l w hst n (g (x4 + (1 : Int32)).toNatClampNeg) (g (x4 + (2 : Int32)).toNatClampNeg) (0 : Int32) _ _ eq2) csw_146 ⟨by decide, by decide⟩ rfl hl.1 rfl (Nat.le_of_ble_eq_true rfl) dL_law_741 ⟨by show 100 + 4 * j + 2 ≤ 601024; omega, by show 20000 + 24 * j + 12 ≤ 7293034; omega⟩) (fun H locs hG => ?_)
    refine W.widen (k := 100 + 4 * j + 4) (n := 20000 + 24 * j + 24) (by omega) (by omega) ?_
    refine lv_istore (lv' := [(5, .int q2.1), (0, .ref b), (1, .ref (w.2.2.1 0)), (2, .ref (ρ2 0)), (3, .ref (w.2.2.1 60)), (4, .int x4)]) hx hb dL_law_744 hl (by decide) rfl (fun ls hl => ?_)
    refine lv_aload_n hx hb dL_law_746 rfl (lv_at hl 3 rfl) ?_
    refine lv_aload_n hx hb dL_law_747 rfl (lv_at hl 1 rfl) ?_
    refine lv_iload hx hb dL_law_748 (lv_at hl 5 rfl) ?_
    refine lv_iconst (v := 1) hx hb dL_law_750 (by decide) ?_
    refine lv_iadd hx hb dL_law_751 ?_
    refine va_sld hx hb hXs hbl hbA hG.2.2 hb1 dL_law_752 ?_
    refine lv_aload_n hx hb dL_law_753 rfl (lv_at hl 1 rfl) ?_
    refine lv_iload hx hb dL_law_754 (lv_at hl 5 rfl) ?_
    refine lv_iconst (v := 2) hx hb dL_law_756 (by decide) ?_
    refine lv_iadd hx hb dL_law_757 ?_
    refine va_sld hx hb hXs hbl hbA hG.2.2 hb2 dL_law_758 ?_
    refine lv_aload_n hx hb dL_law_759 rfl (lv_at hl 1 rfl) ?_
    refine lv_iload hx hb dL_law_760 (lv_at hl 5 rfl) ?_
    refine lv_iconst (v := 3) hx hb dL_law_762 (by decide) ?_
    refine lv_iadd hx hb dL_law_763 ?_
    refine va_sld hx hb hXs hbl hbA hG.2.2 hb3 dL_law_764 ?_
    refine lv_if_eq (tgt := 772) hx hb dL_law_765 (by decide) (fun c3 => ?_) (fun c3 => ?_)
    · replace hf := if_t c3 hf
      refine lv_iconst (v := 0) hx hb dL_law_772 (by decide) ?_
      replace hf := bd_some hf
      obtain ⟨q4, eq4, hf⟩ := hf
      refine lM_calli hL hG (lM_runV F hL hG (c_X9_street l (wM w ρ2) x0_ok n (g (x4 + (1 : Int32)).toNatClampNeg) (g (x4 + (2 : Int32)).toNatClampNeg) (0 : Int32) _ _ eq4) cv_L_149 ⟨by decide, by decide⟩ rfl hl.1 rfl (Nat.le_of_ble_eq_true rfl) dL_law_773 ⟨by show 100 + 4 * j + 4 ≤ 601024; omega, by show 20000 + 24 * j + 24 ≤ 7293034; omega⟩) (fun H locs hG => ?_)
      refine lv_istore (lv' := [(6, .int q4.1), (5, .int q2.1), (0, .ref b), (1, .ref (w.2.2.1 0)), (2, .ref (ρ2 0)), (3, .ref (w.2.2.1 60)), (4, .int x4)]) hx hb dL_law_776 hl (by decide) rfl (fun ls hl => ?_)
      refine lv_aload_n hx hb dL_law_778 rfl (lv_at hl 4 rfl) ?_
      replace hf := bd_some hf
      obtain ⟨q5, eq5, hf⟩ := hf
      refine lM_calli hL hG (lM_runV F hL hG (c_X9_thrown l (wM w ρ2) x0_ok n  _ _ eq5) cv_L_110 ⟨by decide, by decide⟩ rfl hl.1 rfl (Nat.le_of_ble_eq_true rfl) dL_law_779 ⟨by show 100 + 4 * j + 4 ≤ 601024; omega, by show 20000 + 24 * j + 24 ≤ 7293034; omega⟩) (fun H locs hG => ?_)
      refine lv_iload hx hb dL_law_782 (lv_at hl 1 rfl) ?_
      refine lv_icmp_eq (tgt := 789) hx hb dL_law_784 (by decide) (fun c6 => ?_) (fun c6 => ?_)
      · replace hf := if_t c6 hf
        refine lv_iload hx hb dL_law_789 (lv_at hl 1 rfl) ?_
        refine lv_if_ne (tgt := 813) hx hb dL_law_791 (by decide) (fun c7 => ?_) (fun c7 => ?_)
        · replace hf := if_f c7 hf
          refine lv_goto (tgt := 2170) hx hb dL_law_813 (by decide) ?_
          refine lv_iinc (v := (x4 + (6 : Int32))) (lv' := [(4, .int (x4 + (6 : Int32))), (6, .int q4.1), (5, .int q2.1), (0, .ref b), (1, .ref (w.2.2.1 0)), (2, .ref (ρ2 0)), (3, .ref (w.2.2.1 60))]) hx hb dL_law_2170 hl (k := 6) rfl rfl (by decide) rfl (fun ls hl => ?_)
          refine lv_goto (tgt := 23) hx hb dL_law_2173 (by decide) ?_
          cases hf
          refine W.widen (k := 100 + 4 * (j + 1)) (n := 20000 + 24 * (j + 1)) (by omega) (by omega) ?_
          exact K _ _ ls hG (lv_sub hl [3, 4, 5, 6, 0] rfl)
        · replace hf := if_t c7 hf
          refine lv_aload_n hx hb dL_law_794 rfl (lv_at hl 5 rfl) ?_
          refine lv_iconst (v := 0) hx hb dL_law_795 (by decide) ?_
          refine l_out F hG dL_law_796 ?_
          refine lv_iload hx hb dL_law_797 (lv_at hl 0 rfl) ?_
          refine lv_if_eq (tgt := 806) hx hb dL_law_799 (by decide) (fun c8 => ?_) (fun c8 => ?_)
          · replace hf := if_t c8 hf
            refine lv_lconst (v := 0) hx hb dL_law_806 (by decide) ?_
            refine W.lcmp hx hb dL_law_807 ?_
            refine lv_if_eq (tgt := 813) hx hb dL_law_808 (by decide) (fun c9 => ?_) (fun c9 => ?_)
            · replace hf := if_t c9 hf
              refine lv_goto (tgt := 2170) hx hb dL_law_813 (by decide) ?_
              refine lv_iinc (v := (x4 + (6 : Int32))) (lv' := [(4, .int (x4 + (6 : Int32))), (6, .int q4.1), (5, .int q2.1), (0, .ref b), (1, .ref (w.2.2.1 0)), (2, .ref (ρ2 0)), (3, .ref (w.2.2.1 60))]) hx hb dL_law_2170 hl (k := 6) rfl rfl (by decide) rfl (fun ls hl => ?_)
              refine lv_goto (tgt := 23) hx hb dL_law_2173 (by decide) ?_
              cases hf
              refine W.widen (k := 100 + 4 * (j + 1)) (n := 20000 + 24 * (j + 1)) (by omega) (by omega) ?_
              exact K _ _ ls hG (lv_sub hl [3, 4, 5, 6, 0] rfl)
            · replace hf := if_f c9 hf
              cases hf
          · replace hf := if_f c8 hf
            refine lv_lconst (v := 1) hx hb dL_law_802 (by decide) ?_
            refine lv_goto (tgt := 807) hx hb dL_law_803 (by decide) ?_
            refine W.lcmp hx hb dL_law_807 ?_
            refine lv_if_eq (tgt := 813) hx hb dL_law_808 (by decide) (fun c10 => ?_) (fun c10 => ?_)
            · replace hf := if_t c10 hf
              refine lv_goto (tgt := 2170) hx hb dL_law_813 (by decide) ?_
              refine lv_iinc (v := (x4 + (6 : Int32))) (lv' := [(4, .int (x4 + (6 : Int32))), (6, .int q4.1), (5, .int q2.1), (0, .ref b), (1, .ref (w.2.2.1 0)), (2, .ref (ρ2 0)), (3, .ref (w.2.2.1 60))]) hx hb dL_law_2170 hl (k := 6) rfl rfl (by decide) rfl (fun ls hl => ?_)
              refine lv_goto (tgt := 23) hx hb dL_law_2173 (by decide) ?_
              cases hf
              refine W.widen (k := 100 + 4 * (j + 1)) (n := 20000 + 24 * (j + 1)) (by omega) (by omega) ?_
              exact K _ _ ls hG (lv_sub hl [3, 4, 5, 6, 0] rfl)
            · replace hf := if_f c10 hf
              cases hf
      · replace hf := if_f c6 hf
        cases hf
    · replace hf := if_f c3 hf
      refine lv_iconst (v := 1) hx hb dL_law_768 (by decide) ?_
      refine lv_goto (tgt := 773) hx hb dL_law_769 (by decide) ?_
      replace hf := bd_some hf
      obtain ⟨q11, eq11, hf⟩ := hf
      refine lM_calli hL hG (lM_runV F hL hG (c_X9_street l (wM w ρ2) x0_ok n (g (x4 + (1 : Int32)).toNatClampNeg) (g (x4 + (2 : Int32)).toNatClampNeg) (1 : Int32) _ _ eq11) cv_L_149 ⟨by decide, by decide⟩ rfl hl.1 rfl (Nat.le_of_ble_eq_true rfl) dL_law_773 ⟨by show 100 + 4 * j + 4 ≤ 601024; omega, by show 20000 + 24 * j + 24 ≤ 7293034; omega⟩) (fun H locs hG => ?_)
      refine lv_istore (lv' := [(6, .int q11.1), (5, .int q2.1), (0, .ref b), (1, .ref (w.2.2.1 0)), (2, .ref (ρ2 0)), (3, .ref (w.2.2.1 60)), (4, .int x4)]) hx hb dL_law_776 hl (by decide) rfl (fun ls hl => ?_)
      refine lv_aload_n hx hb dL_law_778 rfl (lv_at hl 4 rfl) ?_
      replace hf := bd_some hf
      obtain ⟨q12, eq12, hf⟩ := hf
      refine lM_calli hL hG (lM_runV F hL hG (c_X9_thrown l (wM w ρ2) x0_ok n  _ _ eq12) cv_L_110 ⟨by decide, by decide⟩ rfl hl.1 rfl (Nat.le_of_ble_eq_true rfl) dL_law_779 ⟨by show 100 + 4 * j + 4 ≤ 601024; omega, by show 20000 + 24 * j + 24 ≤ 7293034; omega⟩) (fun H locs hG => ?_)
      refine lv_iload hx hb dL_law_782 (lv_at hl 1 rfl) ?_
      refine lv_icmp_eq (tgt := 789) hx hb dL_law_784 (by decide) (fun c13 => ?_) (fun c13 => ?_)
      · replace hf := if_t c13 hf
        refine lv_iload hx hb dL_law_789 (lv_at hl 1 rfl) ?_
        refine lv_if_ne (tgt := 813) hx hb dL_law_791 (by decide) (fun c14 => ?_) (fun c14 => ?_)
        · replace hf := if_f c14 hf
          refine lv_goto (tgt := 2170) hx hb dL_law_813 (by decide) ?_
          refine lv_iinc (v := (x4 + (6 : Int32))) (lv' := [(4, .int (x4 + (6 : Int32))), (6, .int q11.1), (5, .int q2.1), (0, .ref b), (1, .ref (w.2.2.1 0)), (2, .ref (ρ2 0)), (3, .ref (w.2.2.1 60))]) hx hb dL_law_2170 hl (k := 6) rfl rfl (by decide) rfl (fun ls hl => ?_)
          refine lv_goto (tgt := 23) hx hb dL_law_2173 (by decide) ?_
          cases hf
          refine W.widen (k := 100 + 4 * (j + 1)) (n := 20000 + 24 * (j + 1)) (by omega) (by omega) ?_
          exact K _ _ ls hG (lv_sub hl [3, 4, 5, 6, 0] rfl)
        · replace hf := if_t c14 hf
          refine lv_aload_n hx hb dL_law_794 rfl (lv_at hl 5 rfl) ?_
          refine lv_iconst (v := 0) hx hb dL_law_795 (by decide) ?_
          refine l_out F hG dL_law_796 ?_
          refine lv_iload hx hb dL_law_797 (lv_at hl 0 rfl) ?_
          refine lv_if_eq (tgt := 806) hx hb dL_law_799 (by decide) (fun c15 => ?_) (fun c15 => ?_)
          · replace hf := if_t c15 hf
            refine lv_lconst (v := 0) hx hb dL_law_806 (by decide) ?_
            refine W.lcmp hx hb dL_law_807 ?_
            refine lv_if_eq (tgt := 813) hx hb dL_law_808 (by decide) (fun c16 => ?_) (fun c16 => ?_)
            · replace hf := if_t c16 hf
              refine lv_goto (tgt := 2170) hx hb dL_law_813 (by decide) ?_
              refine lv_iinc (v := (x4 + (6 : Int32))) (lv' := [(4, .int (x4 + (6 : Int32))), (6, .int q11.1), (5, .int q2.1), (0, .ref b), (1, .ref (w.2.2.1 0)), (2, .ref (ρ2 0)), (3, .ref (w.2.2.1 60))]) hx hb dL_law_2170 hl (k := 6) rfl rfl (by decide) rfl (fun ls hl => ?_)
              refine lv_goto (tgt := 23) hx hb dL_law_2173 (by decide) ?_
              cases hf
              refine W.widen (k := 100 + 4 * (j + 1)) (n := 20000 + 24 * (j + 1)) (by omega) (by omega) ?_
              exact K _ _ ls hG (lv_sub hl [3, 4, 5, 6, 0] rfl)
            · replace hf := if_f c16 hf
              cases hf
          · replace hf := if_f c15 hf
            refine lv_lconst (v := 1) hx hb dL_law_802 (by decide) ?_
            refine lv_goto (tgt := 807) hx hb dL_law_803 (by decide) ?_
            refine W.lcmp hx hb dL_law_807 ?_
            refine lv_if_eq (tgt := 813) hx hb dL_law_808 (by decide) (fun c17 => ?_) (fun c17 => ?_)
            · replace hf := if_t c17 hf
              refine lv_goto (tgt := 2170) hx hb dL_law_813 (by decide) ?_
              refine lv_iinc (v := (x4 + (6 : Int32))) (lv' := [(4, .int (x4 + (6 : Int32))), (6, .int q11.1), (5, .int q2.1), (0, .ref b), (1, .ref (w.2.2.1 0)), (2, .ref (ρ2 0)), (3, .ref (w.2.2.1 60))]) hx hb dL_law_2170 hl (k := 6) rfl rfl (by decide) rfl (fun ls hl => ?_)
              refine lv_goto (tgt := 23) hx hb dL_law_2173 (by decide) ?_
              cases hf
              refine W.widen (k := 100 + 4 * (j + 1)) (n := 20000 + 24 * (j + 1)) (by omega) (by omega) ?_
              exact K _ _ ls hG (lv_sub hl [3, 4, 5, 6, 0] rfl)
            · replace hf := if_f c17 hf
              cases hf
      · replace hf := if_f c13 hf
        cases hf
  · replace hf := if_f c1 hf
    refine lv_iconst (v := 1) hx hb dL_law_735 (by decide) ?_
    refine lv_goto (tgt := 740) hx hb dL_law_736 (by decide) ?_
    refine lv_aload_n hx hb dL_law_740 rfl (lv_at hl 3 rfl) ?_
    replace hf := bd_some hf
    obtain ⟨q18, eq18, hf⟩ := hf
    refine lC_calli hL hG (lC_runSW F hL hX hG (c_L_street l w hst n (g (x4 + (1 : Int32)).toNatClampNeg) (g (x4 + (2 : Int32)).toNatClampNeg) (1 : Int32) _ _ eq18) csw_146 ⟨by decide, by decide⟩ rfl hl.1 rfl (Nat.le_of_ble_eq_true rfl) dL_law_741 ⟨by show 100 + 4 * j + 2 ≤ 601024; omega, by show 20000 + 24 * j + 12 ≤ 7293034; omega⟩) (fun H locs hG => ?_)
    refine W.widen (k := 100 + 4 * j + 4) (n := 20000 + 24 * j + 24) (by omega) (by omega) ?_
    refine lv_istore (lv' := [(5, .int q18.1), (0, .ref b), (1, .ref (w.2.2.1 0)), (2, .ref (ρ2 0)), (3, .ref (w.2.2.1 60)), (4, .int x4)]) hx hb dL_law_744 hl (by decide) rfl (fun ls hl => ?_)
    refine lv_aload_n hx hb dL_law_746 rfl (lv_at hl 3 rfl) ?_
    refine lv_aload_n hx hb dL_law_747 rfl (lv_at hl 1 rfl) ?_
    refine lv_iload hx hb dL_law_748 (lv_at hl 5 rfl) ?_
    refine lv_iconst (v := 1) hx hb dL_law_750 (by decide) ?_
    refine lv_iadd hx hb dL_law_751 ?_
    refine va_sld hx hb hXs hbl hbA hG.2.2 hb1 dL_law_752 ?_
    refine lv_aload_n hx hb dL_law_753 rfl (lv_at hl 1 rfl) ?_
    refine lv_iload hx hb dL_law_754 (lv_at hl 5 rfl) ?_
    refine lv_iconst (v := 2) hx hb dL_law_756 (by decide) ?_
    refine lv_iadd hx hb dL_law_757 ?_
    refine va_sld hx hb hXs hbl hbA hG.2.2 hb2 dL_law_758 ?_
    refine lv_aload_n hx hb dL_law_759 rfl (lv_at hl 1 rfl) ?_
    refine lv_iload hx hb dL_law_760 (lv_at hl 5 rfl) ?_
    refine lv_iconst (v := 3) hx hb dL_law_762 (by decide) ?_
    refine lv_iadd hx hb dL_law_763 ?_
    refine va_sld hx hb hXs hbl hbA hG.2.2 hb3 dL_law_764 ?_
    refine lv_if_eq (tgt := 772) hx hb dL_law_765 (by decide) (fun c19 => ?_) (fun c19 => ?_)
    · replace hf := if_t c19 hf
      refine lv_iconst (v := 0) hx hb dL_law_772 (by decide) ?_
      replace hf := bd_some hf
      obtain ⟨q20, eq20, hf⟩ := hf
      refine lM_calli hL hG (lM_runV F hL hG (c_X9_street l (wM w ρ2) x0_ok n (g (x4 + (1 : Int32)).toNatClampNeg) (g (x4 + (2 : Int32)).toNatClampNeg) (0 : Int32) _ _ eq20) cv_L_149 ⟨by decide, by decide⟩ rfl hl.1 rfl (Nat.le_of_ble_eq_true rfl) dL_law_773 ⟨by show 100 + 4 * j + 4 ≤ 601024; omega, by show 20000 + 24 * j + 24 ≤ 7293034; omega⟩) (fun H locs hG => ?_)
      refine lv_istore (lv' := [(6, .int q20.1), (5, .int q18.1), (0, .ref b), (1, .ref (w.2.2.1 0)), (2, .ref (ρ2 0)), (3, .ref (w.2.2.1 60)), (4, .int x4)]) hx hb dL_law_776 hl (by decide) rfl (fun ls hl => ?_)
      refine lv_aload_n hx hb dL_law_778 rfl (lv_at hl 4 rfl) ?_
      replace hf := bd_some hf
      obtain ⟨q21, eq21, hf⟩ := hf
      refine lM_calli hL hG (lM_runV F hL hG (c_X9_thrown l (wM w ρ2) x0_ok n  _ _ eq21) cv_L_110 ⟨by decide, by decide⟩ rfl hl.1 rfl (Nat.le_of_ble_eq_true rfl) dL_law_779 ⟨by show 100 + 4 * j + 4 ≤ 601024; omega, by show 20000 + 24 * j + 24 ≤ 7293034; omega⟩) (fun H locs hG => ?_)
      refine lv_iload hx hb dL_law_782 (lv_at hl 1 rfl) ?_
      refine lv_icmp_eq (tgt := 789) hx hb dL_law_784 (by decide) (fun c22 => ?_) (fun c22 => ?_)
      · replace hf := if_t c22 hf
        refine lv_iload hx hb dL_law_789 (lv_at hl 1 rfl) ?_
        refine lv_if_ne (tgt := 813) hx hb dL_law_791 (by decide) (fun c23 => ?_) (fun c23 => ?_)
        · replace hf := if_f c23 hf
          refine lv_goto (tgt := 2170) hx hb dL_law_813 (by decide) ?_
          refine lv_iinc (v := (x4 + (6 : Int32))) (lv' := [(4, .int (x4 + (6 : Int32))), (6, .int q20.1), (5, .int q18.1), (0, .ref b), (1, .ref (w.2.2.1 0)), (2, .ref (ρ2 0)), (3, .ref (w.2.2.1 60))]) hx hb dL_law_2170 hl (k := 6) rfl rfl (by decide) rfl (fun ls hl => ?_)
          refine lv_goto (tgt := 23) hx hb dL_law_2173 (by decide) ?_
          cases hf
          refine W.widen (k := 100 + 4 * (j + 1)) (n := 20000 + 24 * (j + 1)) (by omega) (by omega) ?_
          exact K _ _ ls hG (lv_sub hl [3, 4, 5, 6, 0] rfl)
        · replace hf := if_t c23 hf
          refine lv_aload_n hx hb dL_law_794 rfl (lv_at hl 5 rfl) ?_
          refine lv_iconst (v := 0) hx hb dL_law_795 (by decide) ?_
          refine l_out F hG dL_law_796 ?_
          refine lv_iload hx hb dL_law_797 (lv_at hl 0 rfl) ?_
          refine lv_if_eq (tgt := 806) hx hb dL_law_799 (by decide) (fun c24 => ?_) (fun c24 => ?_)
          · replace hf := if_t c24 hf
            refine lv_lconst (v := 0) hx hb dL_law_806 (by decide) ?_
            refine W.lcmp hx hb dL_law_807 ?_
            refine lv_if_eq (tgt := 813) hx hb dL_law_808 (by decide) (fun c25 => ?_) (fun c25 => ?_)
            · replace hf := if_t c25 hf
              refine lv_goto (tgt := 2170) hx hb dL_law_813 (by decide) ?_
              refine lv_iinc (v := (x4 + (6 : Int32))) (lv' := [(4, .int (x4 + (6 : Int32))), (6, .int q20.1), (5, .int q18.1), (0, .ref b), (1, .ref (w.2.2.1 0)), (2, .ref (ρ2 0)), (3, .ref (w.2.2.1 60))]) hx hb dL_law_2170 hl (k := 6) rfl rfl (by decide) rfl (fun ls hl => ?_)
              refine lv_goto (tgt := 23) hx hb dL_law_2173 (by decide) ?_
              cases hf
              refine W.widen (k := 100 + 4 * (j + 1)) (n := 20000 + 24 * (j + 1)) (by omega) (by omega) ?_
              exact K _ _ ls hG (lv_sub hl [3, 4, 5, 6, 0] rfl)
            · replace hf := if_f c25 hf
              cases hf
          · replace hf := if_f c24 hf
            refine lv_lconst (v := 1) hx hb dL_law_802 (by decide) ?_
            refine lv_goto (tgt := 807) hx hb dL_law_803 (by decide) ?_
            refine W.lcmp hx hb dL_law_807 ?_
            refine lv_if_eq (tgt := 813) hx hb dL_law_808 (by decide) (fun c26 => ?_) (fun c26 => ?_)
            · replace hf := if_t c26 hf
              refine lv_goto (tgt := 2170) hx hb dL_law_813 (by decide) ?_
              refine lv_iinc (v := (x4 + (6 : Int32))) (lv' := [(4, .int (x4 + (6 : Int32))), (6, .int q20.1), (5, .int q18.1), (0, .ref b), (1, .ref (w.2.2.1 0)), (2, .ref (ρ2 0)), (3, .ref (w.2.2.1 60))]) hx hb dL_law_2170 hl (k := 6) rfl rfl (by decide) rfl (fun ls hl => ?_)
              refine lv_goto (tgt := 23) hx hb dL_law_2173 (by decide) ?_
              cases hf
              refine W.widen (k := 100 + 4 * (j + 1)) (n := 20000 + 24 * (j + 1)) (by omega) (by omega) ?_
              exact K _ _ ls hG (lv_sub hl [3, 4, 5, 6, 0] rfl)
            · replace hf := if_f c26 hf
              cases hf
      · replace hf := if_f c22 hf
        cases hf
    · replace hf := if_f c19 hf
      refine lv_iconst (v := 1) hx hb dL_law_768 (by decide) ?_
      refine lv_goto (tgt := 773) hx hb dL_law_769 (by decide) ?_
      replace hf := bd_some hf
      obtain ⟨q27, eq27, hf⟩ := hf
      refine lM_calli hL hG (lM_runV F hL hG (c_X9_street l (wM w ρ2) x0_ok n (g (x4 + (1 : Int32)).toNatClampNeg) (g (x4 + (2 : Int32)).toNatClampNeg) (1 : Int32) _ _ eq27) cv_L_149 ⟨by decide, by decide⟩ rfl hl.1 rfl (Nat.le_of_ble_eq_true rfl) dL_law_773 ⟨by show 100 + 4 * j + 4 ≤ 601024; omega, by show 20000 + 24 * j + 24 ≤ 7293034; omega⟩) (fun H locs hG => ?_)
      refine lv_istore (lv' := [(6, .int q27.1), (5, .int q18.1), (0, .ref b), (1, .ref (w.2.2.1 0)), (2, .ref (ρ2 0)), (3, .ref (w.2.2.1 60)), (4, .int x4)]) hx hb dL_law_776 hl (by decide) rfl (fun ls hl => ?_)
      refine lv_aload_n hx hb dL_law_778 rfl (lv_at hl 4 rfl) ?_
      replace hf := bd_some hf
      obtain ⟨q28, eq28, hf⟩ := hf
      refine lM_calli hL hG (lM_runV F hL hG (c_X9_thrown l (wM w ρ2) x0_ok n  _ _ eq28) cv_L_110 ⟨by decide, by decide⟩ rfl hl.1 rfl (Nat.le_of_ble_eq_true rfl) dL_law_779 ⟨by show 100 + 4 * j + 4 ≤ 601024; omega, by show 20000 + 24 * j + 24 ≤ 7293034; omega⟩) (fun H locs hG => ?_)
      refine lv_iload hx hb dL_law_782 (lv_at hl 1 rfl) ?_
      refine lv_icmp_eq (tgt := 789) hx hb dL_law_784 (by decide) (fun c29 => ?_) (fun c29 => ?_)
      · replace hf := if_t c29 hf
        refine lv_iload hx hb dL_law_789 (lv_at hl 1 rfl) ?_
        refine lv_if_ne (tgt := 813) hx hb dL_law_791 (by decide) (fun c30 => ?_) (fun c30 => ?_)
        · replace hf := if_f c30 hf
          refine lv_goto (tgt := 2170) hx hb dL_law_813 (by decide) ?_
          refine lv_iinc (v := (x4 + (6 : Int32))) (lv' := [(4, .int (x4 + (6 : Int32))), (6, .int q27.1), (5, .int q18.1), (0, .ref b), (1, .ref (w.2.2.1 0)), (2, .ref (ρ2 0)), (3, .ref (w.2.2.1 60))]) hx hb dL_law_2170 hl (k := 6) rfl rfl (by decide) rfl (fun ls hl => ?_)
          refine lv_goto (tgt := 23) hx hb dL_law_2173 (by decide) ?_
          cases hf
          refine W.widen (k := 100 + 4 * (j + 1)) (n := 20000 + 24 * (j + 1)) (by omega) (by omega) ?_
          exact K _ _ ls hG (lv_sub hl [3, 4, 5, 6, 0] rfl)
        · replace hf := if_t c30 hf
          refine lv_aload_n hx hb dL_law_794 rfl (lv_at hl 5 rfl) ?_
          refine lv_iconst (v := 0) hx hb dL_law_795 (by decide) ?_
          refine l_out F hG dL_law_796 ?_
          refine lv_iload hx hb dL_law_797 (lv_at hl 0 rfl) ?_
          refine lv_if_eq (tgt := 806) hx hb dL_law_799 (by decide) (fun c31 => ?_) (fun c31 => ?_)
          · replace hf := if_t c31 hf
            refine lv_lconst (v := 0) hx hb dL_law_806 (by decide) ?_
            refine W.lcmp hx hb dL_law_807 ?_
            refine lv_if_eq (tgt := 813) hx hb dL_law_808 (by decide) (fun c32 => ?_) (fun c32 => ?_)
            · replace hf := if_t c32 hf
              refine lv_goto (tgt := 2170) hx hb dL_law_813 (by decide) ?_
              refine lv_iinc (v := (x4 + (6 : Int32))) (lv' := [(4, .int (x4 + (6 : Int32))), (6, .int q27.1), (5, .int q18.1), (0, .ref b), (1, .ref (w.2.2.1 0)), (2, .ref (ρ2 0)), (3, .ref (w.2.2.1 60))]) hx hb dL_law_2170 hl (k := 6) rfl rfl (by decide) rfl (fun ls hl => ?_)
              refine lv_goto (tgt := 23) hx hb dL_law_2173 (by decide) ?_
              cases hf
              refine W.widen (k := 100 + 4 * (j + 1)) (n := 20000 + 24 * (j + 1)) (by omega) (by omega) ?_
              exact K _ _ ls hG (lv_sub hl [3, 4, 5, 6, 0] rfl)
            · replace hf := if_f c32 hf
              cases hf
          · replace hf := if_f c31 hf
            refine lv_lconst (v := 1) hx hb dL_law_802 (by decide) ?_
            refine lv_goto (tgt := 807) hx hb dL_law_803 (by decide) ?_
            refine W.lcmp hx hb dL_law_807 ?_
            refine lv_if_eq (tgt := 813) hx hb dL_law_808 (by decide) (fun c33 => ?_) (fun c33 => ?_)
            · replace hf := if_t c33 hf
              refine lv_goto (tgt := 2170) hx hb dL_law_813 (by decide) ?_
              refine lv_iinc (v := (x4 + (6 : Int32))) (lv' := [(4, .int (x4 + (6 : Int32))), (6, .int q27.1), (5, .int q18.1), (0, .ref b), (1, .ref (w.2.2.1 0)), (2, .ref (ρ2 0)), (3, .ref (w.2.2.1 60))]) hx hb dL_law_2170 hl (k := 6) rfl rfl (by decide) rfl (fun ls hl => ?_)
              refine lv_goto (tgt := 23) hx hb dL_law_2173 (by decide) ?_
              cases hf
              refine W.widen (k := 100 + 4 * (j + 1)) (n := 20000 + 24 * (j + 1)) (by omega) (by omega) ?_
              exact K _ _ ls hG (lv_sub hl [3, 4, 5, 6, 0] rfl)
            · replace hf := if_f c33 hf
              cases hf
      · replace hf := if_f c29 hf
        cases hf

def lw_c12 (n : Nat) (g : Nat → Int32) (x4 : Int32) (M M2 : Mem) : Option (Mem × Mem) := bd (f_X8_undo n  M) (fun q1 => bd (f_X9_undo n  M2) (fun q2 => if q1.1 = q2.1 then (some (q1.2, q2.2)) else (none)))
set_option maxHeartbeats 4000000 in
set_option maxRecDepth 100000 in
theorem lw_case12 {p : Program} {l : Launch} {e : Env} {s : State} {m : MethodId} {below : List Frame} {meth : Method} {c : Code} {b L : Nat} {g : Nat → Int32} {w : Wd} {ρ2 : Nat → Nat} (C9 : LC p l s m c b L g w ρ2) (n j : Nat) (hj : j < 512) (x4 : Int32) (hbs : ∀ k : Int32, k = 0 ∨ k = 1 ∨ k = 2 ∨ k = 3 ∨ k = 4 ∨ k = 5 → vp_in (x4 + k) L) (M M2 M9 M8 : Mem) (hf : lw_c12 n g x4 M M2 = some (M9, M8)) (K : ∀ (H : Heap) (locs : List Loc) (ls : Array Slot), LG w ρ2 s M9 M8 H locs → lv_has ls 7 [(0, .ref b), (1, .ref (w.2.2.1 0)), (2, .ref (ρ2 0)), (3, .ref (w.2.2.1 60)), (4, .int (x4 + (6 : Int32)))] → W p l e room_1 s m #[Value.ref b] below meth c H locs (100 + 4 * (j + 1)) (20000 + 24 * (j + 1)) (lw_Z below #[Value.ref b] s) (F0 m 23 ls [])) (H : Heap) (locs : List Loc) (ls : Array Slot) (hG : LG w ρ2 s M M2 H locs) (hl : lv_has ls 7 [(0, .ref b), (1, .ref (w.2.2.1 0)), (2, .ref (ρ2 0)), (3, .ref (w.2.2.1 60)), (4, .int x4)]) : W p l e room_1 s m #[Value.ref b] below meth c H locs (100 + 4 * j) (20000 + 24 * j) (lw_Z below #[Value.ref b] s) (F0 m 816 ls []) := by
  obtain ⟨F, hst, hL, hX, hXs, hbl⟩ := C9
  have hx := F.1.1
  have hb := F.1.2.1
  have hbA : ¬ A0 s b := Nat.not_le.mpr hbl
  have hb1 := hbs 1 (by decide)
  have hb2 := hbs 2 (by decide)
  have hb3 := hbs 3 (by decide)
  have hb4 := hbs 4 (by decide)
  have hb5 := hbs 5 (by decide)
  unfold lw_c12 at hf
  refine lv_aload_n hx hb dL_law_816 rfl (lv_at hl 1 rfl) ?_
  replace hf := bd_some hf
  obtain ⟨q1, eq1, hf⟩ := hf
  refine lC_calli hL hG (lC_runV F hL hX hG (c_X8_undo l w n  _ _ eq1) cv_L_150 ⟨by decide, by decide⟩ rfl hl.1 rfl (Nat.le_of_ble_eq_true rfl) dL_law_817 ⟨by show 100 + 4 * j  ≤ 601024; omega, by show 20000 + 24 * j  ≤ 7293034; omega⟩) (fun H locs hG => ?_)
  refine lv_aload_n hx hb dL_law_820 rfl (lv_at hl 2 rfl) ?_
  replace hf := bd_some hf
  obtain ⟨q2, eq2, hf⟩ := hf
  refine lM_calli hL hG (lM_runV F hL hG (c_X9_undo l (wM w ρ2) x0_ok n  _ _ eq2) cv_L_153 ⟨by decide, by decide⟩ rfl hl.1 rfl (Nat.le_of_ble_eq_true rfl) dL_law_821 ⟨by show 100 + 4 * j  ≤ 601024; omega, by show 20000 + 24 * j  ≤ 7293034; omega⟩) (fun H locs hG => ?_)
  refine lv_icmp_eq (tgt := 2170) hx hb dL_law_824 (by decide) (fun c3 => ?_) (fun c3 => ?_)
  · replace hf := if_t c3 hf
    refine lv_iinc (v := (x4 + (6 : Int32))) (lv' := [(4, .int (x4 + (6 : Int32))), (0, .ref b), (1, .ref (w.2.2.1 0)), (2, .ref (ρ2 0)), (3, .ref (w.2.2.1 60))]) hx hb dL_law_2170 hl (k := 4) rfl rfl (by decide) rfl (fun ls hl => ?_)
    refine lv_goto (tgt := 23) hx hb dL_law_2173 (by decide) ?_
    cases hf
    refine W.widen (k := 100 + 4 * (j + 1)) (n := 20000 + 24 * (j + 1)) (by omega) (by omega) ?_
    exact K _ _ ls hG (lv_sub hl [1, 2, 3, 4, 0] rfl)
  · replace hf := if_f c3 hf
    cases hf

def lw_c13 (n : Nat) (g : Nat → Int32) (x4 : Int32) (M M2 : Mem) : Option (Mem × Mem) := bd (f_L_then n (g (x4 + (1 : Int32)).toNatClampNeg) (g (x4 + (2 : Int32)).toNatClampNeg) M) (fun q1 => bd (f_X9_then n (g (x4 + (1 : Int32)).toNatClampNeg) (g (x4 + (2 : Int32)).toNatClampNeg) M2) (fun q2 => bd (f_X9_thrown n  q2.2) (fun q3 => if q3.1 = q1.1 then (if q1.1 = 0 then (if (lg_cmp (gj q1.2 60 0) q2.1.toInt64) = 0 then (some (q1.2, q3.2)) else (none)) else (some (q1.2, q3.2))) else (none))))
set_option maxHeartbeats 4000000 in
set_option maxRecDepth 100000 in
theorem lw_case13 {p : Program} {l : Launch} {e : Env} {s : State} {m : MethodId} {below : List Frame} {meth : Method} {c : Code} {b L : Nat} {g : Nat → Int32} {w : Wd} {ρ2 : Nat → Nat} (C9 : LC p l s m c b L g w ρ2) (n j : Nat) (hj : j < 512) (x4 : Int32) (hbs : ∀ k : Int32, k = 0 ∨ k = 1 ∨ k = 2 ∨ k = 3 ∨ k = 4 ∨ k = 5 → vp_in (x4 + k) L) (M M2 M9 M8 : Mem) (hf : lw_c13 n g x4 M M2 = some (M9, M8)) (K : ∀ (H : Heap) (locs : List Loc) (ls : Array Slot), LG w ρ2 s M9 M8 H locs → lv_has ls 7 [(0, .ref b), (1, .ref (w.2.2.1 0)), (2, .ref (ρ2 0)), (3, .ref (w.2.2.1 60)), (4, .int (x4 + (6 : Int32)))] → W p l e room_1 s m #[Value.ref b] below meth c H locs (100 + 4 * (j + 1)) (20000 + 24 * (j + 1)) (lw_Z below #[Value.ref b] s) (F0 m 23 ls [])) (H : Heap) (locs : List Loc) (ls : Array Slot) (hG : LG w ρ2 s M M2 H locs) (hl : lv_has ls 7 [(0, .ref b), (1, .ref (w.2.2.1 0)), (2, .ref (ρ2 0)), (3, .ref (w.2.2.1 60)), (4, .int x4)]) : W p l e room_1 s m #[Value.ref b] below meth c H locs (100 + 4 * j) (20000 + 24 * j) (lw_Z below #[Value.ref b] s) (F0 m 829 ls []) := by
  obtain ⟨F, hst, hL, hX, hXs, hbl⟩ := C9
  have hx := F.1.1
  have hb := F.1.2.1
  have hbA : ¬ A0 s b := Nat.not_le.mpr hbl
  have hb1 := hbs 1 (by decide)
  have hb2 := hbs 2 (by decide)
  have hb3 := hbs 3 (by decide)
  have hb4 := hbs 4 (by decide)
  have hb5 := hbs 5 (by decide)
  unfold lw_c13 at hf
  refine lv_aload_n hx hb dL_law_829 rfl (lv_at hl 1 rfl) ?_
  refine lv_aload_n hx hb dL_law_830 rfl (lv_at hl 0 rfl) ?_
  refine lv_iload hx hb dL_law_831 (lv_at hl 4 rfl) ?_
  refine lv_iconst (v := 1) hx hb dL_law_833 (by decide) ?_
  refine lv_iadd hx hb dL_law_834 ?_
  refine va_sld hx hb hXs hbl hbA hG.2.2 hb1 dL_law_835 ?_
  refine lv_aload_n hx hb dL_law_836 rfl (lv_at hl 0 rfl) ?_
  refine lv_iload hx hb dL_law_837 (lv_at hl 4 rfl) ?_
  refine lv_iconst (v := 2) hx hb dL_law_839 (by decide) ?_
  refine lv_iadd hx hb dL_law_840 ?_
  refine va_sld hx hb hXs hbl hbA hG.2.2 hb2 dL_law_841 ?_
  refine lv_aload_n hx hb dL_law_842 rfl (lv_at hl 3 rfl) ?_
  replace hf := bd_some hf
  obtain ⟨q1, eq1, hf⟩ := hf
  refine lC_calli hL hG (lC_runSW F hL hX hG (c_L_then l w hst n (g (x4 + (1 : Int32)).toNatClampNeg) (g (x4 + (2 : Int32)).toNatClampNeg) _ _ eq1) csw_154 ⟨by decide, by decide⟩ rfl hl.1 rfl (Nat.le_of_ble_eq_true rfl) dL_law_843 ⟨by show 100 + 4 * j + 2 ≤ 601024; omega, by show 20000 + 24 * j + 12 ≤ 7293034; omega⟩) (fun H locs hG => ?_)
  refine W.widen (k := 100 + 4 * j + 4) (n := 20000 + 24 * j + 24) (by omega) (by omega) ?_
  refine lv_istore (lv' := [(5, .int q1.1), (0, .ref b), (1, .ref (w.2.2.1 0)), (2, .ref (ρ2 0)), (3, .ref (w.2.2.1 60)), (4, .int x4)]) hx hb dL_law_846 hl (by decide) rfl (fun ls hl => ?_)
  refine lv_aload_n hx hb dL_law_848 rfl (lv_at hl 3 rfl) ?_
  refine lv_aload_n hx hb dL_law_849 rfl (lv_at hl 1 rfl) ?_
  refine lv_iload hx hb dL_law_850 (lv_at hl 5 rfl) ?_
  refine lv_iconst (v := 1) hx hb dL_law_852 (by decide) ?_
  refine lv_iadd hx hb dL_law_853 ?_
  refine va_sld hx hb hXs hbl hbA hG.2.2 hb1 dL_law_854 ?_
  refine lv_aload_n hx hb dL_law_855 rfl (lv_at hl 1 rfl) ?_
  refine lv_iload hx hb dL_law_856 (lv_at hl 5 rfl) ?_
  refine lv_iconst (v := 2) hx hb dL_law_858 (by decide) ?_
  refine lv_iadd hx hb dL_law_859 ?_
  refine va_sld hx hb hXs hbl hbA hG.2.2 hb2 dL_law_860 ?_
  replace hf := bd_some hf
  obtain ⟨q2, eq2, hf⟩ := hf
  refine lM_calli hL hG (lM_runV F hL hG (c_X9_then l (wM w ρ2) x0_ok n (g (x4 + (1 : Int32)).toNatClampNeg) (g (x4 + (2 : Int32)).toNatClampNeg) _ _ eq2) cv_L_156 ⟨by decide, by decide⟩ rfl hl.1 rfl (Nat.le_of_ble_eq_true rfl) dL_law_861 ⟨by show 100 + 4 * j + 4 ≤ 601024; omega, by show 20000 + 24 * j + 24 ≤ 7293034; omega⟩) (fun H locs hG => ?_)
  refine lv_istore (lv' := [(6, .int q2.1), (5, .int q1.1), (0, .ref b), (1, .ref (w.2.2.1 0)), (2, .ref (ρ2 0)), (3, .ref (w.2.2.1 60)), (4, .int x4)]) hx hb dL_law_864 hl (by decide) rfl (fun ls hl => ?_)
  refine lv_aload_n hx hb dL_law_866 rfl (lv_at hl 4 rfl) ?_
  replace hf := bd_some hf
  obtain ⟨q3, eq3, hf⟩ := hf
  refine lM_calli hL hG (lM_runV F hL hG (c_X9_thrown l (wM w ρ2) x0_ok n  _ _ eq3) cv_L_110 ⟨by decide, by decide⟩ rfl hl.1 rfl (Nat.le_of_ble_eq_true rfl) dL_law_867 ⟨by show 100 + 4 * j + 4 ≤ 601024; omega, by show 20000 + 24 * j + 24 ≤ 7293034; omega⟩) (fun H locs hG => ?_)
  refine lv_iload hx hb dL_law_870 (lv_at hl 1 rfl) ?_
  refine lv_icmp_eq (tgt := 877) hx hb dL_law_872 (by decide) (fun c4 => ?_) (fun c4 => ?_)
  · replace hf := if_t c4 hf
    refine lv_iload hx hb dL_law_877 (lv_at hl 1 rfl) ?_
    refine lv_if_ne (tgt := 894) hx hb dL_law_879 (by decide) (fun c5 => ?_) (fun c5 => ?_)
    · replace hf := if_f c5 hf
      refine lv_goto (tgt := 2170) hx hb dL_law_894 (by decide) ?_
      refine lv_iinc (v := (x4 + (6 : Int32))) (lv' := [(4, .int (x4 + (6 : Int32))), (6, .int q2.1), (5, .int q1.1), (0, .ref b), (1, .ref (w.2.2.1 0)), (2, .ref (ρ2 0)), (3, .ref (w.2.2.1 60))]) hx hb dL_law_2170 hl (k := 6) rfl rfl (by decide) rfl (fun ls hl => ?_)
      refine lv_goto (tgt := 23) hx hb dL_law_2173 (by decide) ?_
      cases hf
      refine W.widen (k := 100 + 4 * (j + 1)) (n := 20000 + 24 * (j + 1)) (by omega) (by omega) ?_
      exact K _ _ ls hG (lv_sub hl [3, 4, 5, 6, 0] rfl)
    · replace hf := if_t c5 hf
      refine lv_aload_n hx hb dL_law_882 rfl (lv_at hl 5 rfl) ?_
      refine lv_iconst (v := 0) hx hb dL_law_883 (by decide) ?_
      refine l_out F hG dL_law_884 ?_
      refine lv_iload hx hb dL_law_885 (lv_at hl 0 rfl) ?_
      refine lv_i2l hx hb dL_law_887 rfl ?_
      refine W.lcmp hx hb dL_law_888 ?_
      refine lv_if_eq (tgt := 894) hx hb dL_law_889 (by decide) (fun c6 => ?_) (fun c6 => ?_)
      · replace hf := if_t c6 hf
        refine lv_goto (tgt := 2170) hx hb dL_law_894 (by decide) ?_
        refine lv_iinc (v := (x4 + (6 : Int32))) (lv' := [(4, .int (x4 + (6 : Int32))), (6, .int q2.1), (5, .int q1.1), (0, .ref b), (1, .ref (w.2.2.1 0)), (2, .ref (ρ2 0)), (3, .ref (w.2.2.1 60))]) hx hb dL_law_2170 hl (k := 6) rfl rfl (by decide) rfl (fun ls hl => ?_)
        refine lv_goto (tgt := 23) hx hb dL_law_2173 (by decide) ?_
        cases hf
        refine W.widen (k := 100 + 4 * (j + 1)) (n := 20000 + 24 * (j + 1)) (by omega) (by omega) ?_
        exact K _ _ ls hG (lv_sub hl [3, 4, 5, 6, 0] rfl)
      · replace hf := if_f c6 hf
        cases hf
  · replace hf := if_f c4 hf
    cases hf

def lw_c14 (n : Nat) (g : Nat → Int32) (x4 : Int32) (M M2 : Mem) : Option (Mem × Mem) := bd (f_L_wardThen n (g (x4 + (1 : Int32)).toNatClampNeg) (g (x4 + (2 : Int32)).toNatClampNeg) (g (x4 + (3 : Int32)).toNatClampNeg) M) (fun q1 => bd (f_X9_wardThen n (g (x4 + (1 : Int32)).toNatClampNeg) (g (x4 + (2 : Int32)).toNatClampNeg) (g (x4 + (3 : Int32)).toNatClampNeg) M2) (fun q2 => bd (f_X9_thrown n  q2.2) (fun q3 => if q3.1 = q1.1 then (if q1.1 = 0 then (if (lg_cmp (gj q1.2 60 0) q2.1.toInt64) = 0 then (some (q1.2, q3.2)) else (none)) else (some (q1.2, q3.2))) else (none))))
set_option maxHeartbeats 4000000 in
set_option maxRecDepth 100000 in
theorem lw_case14 {p : Program} {l : Launch} {e : Env} {s : State} {m : MethodId} {below : List Frame} {meth : Method} {c : Code} {b L : Nat} {g : Nat → Int32} {w : Wd} {ρ2 : Nat → Nat} (C9 : LC p l s m c b L g w ρ2) (n j : Nat) (hj : j < 512) (x4 : Int32) (hbs : ∀ k : Int32, k = 0 ∨ k = 1 ∨ k = 2 ∨ k = 3 ∨ k = 4 ∨ k = 5 → vp_in (x4 + k) L) (M M2 M9 M8 : Mem) (hf : lw_c14 n g x4 M M2 = some (M9, M8)) (K : ∀ (H : Heap) (locs : List Loc) (ls : Array Slot), LG w ρ2 s M9 M8 H locs → lv_has ls 7 [(0, .ref b), (1, .ref (w.2.2.1 0)), (2, .ref (ρ2 0)), (3, .ref (w.2.2.1 60)), (4, .int (x4 + (6 : Int32)))] → W p l e room_1 s m #[Value.ref b] below meth c H locs (100 + 4 * (j + 1)) (20000 + 24 * (j + 1)) (lw_Z below #[Value.ref b] s) (F0 m 23 ls [])) (H : Heap) (locs : List Loc) (ls : Array Slot) (hG : LG w ρ2 s M M2 H locs) (hl : lv_has ls 7 [(0, .ref b), (1, .ref (w.2.2.1 0)), (2, .ref (ρ2 0)), (3, .ref (w.2.2.1 60)), (4, .int x4)]) : W p l e room_1 s m #[Value.ref b] below meth c H locs (100 + 4 * j) (20000 + 24 * j) (lw_Z below #[Value.ref b] s) (F0 m 897 ls []) := by
  obtain ⟨F, hst, hL, hX, hXs, hbl⟩ := C9
  have hx := F.1.1
  have hb := F.1.2.1
  have hbA : ¬ A0 s b := Nat.not_le.mpr hbl
  have hb1 := hbs 1 (by decide)
  have hb2 := hbs 2 (by decide)
  have hb3 := hbs 3 (by decide)
  have hb4 := hbs 4 (by decide)
  have hb5 := hbs 5 (by decide)
  unfold lw_c14 at hf
  refine lv_aload_n hx hb dL_law_897 rfl (lv_at hl 1 rfl) ?_
  refine lv_aload_n hx hb dL_law_898 rfl (lv_at hl 0 rfl) ?_
  refine lv_iload hx hb dL_law_899 (lv_at hl 4 rfl) ?_
  refine lv_iconst (v := 1) hx hb dL_law_901 (by decide) ?_
  refine lv_iadd hx hb dL_law_902 ?_
  refine va_sld hx hb hXs hbl hbA hG.2.2 hb1 dL_law_903 ?_
  refine lv_aload_n hx hb dL_law_904 rfl (lv_at hl 0 rfl) ?_
  refine lv_iload hx hb dL_law_905 (lv_at hl 4 rfl) ?_
  refine lv_iconst (v := 2) hx hb dL_law_907 (by decide) ?_
  refine lv_iadd hx hb dL_law_908 ?_
  refine va_sld hx hb hXs hbl hbA hG.2.2 hb2 dL_law_909 ?_
  refine lv_aload_n hx hb dL_law_910 rfl (lv_at hl 0 rfl) ?_
  refine lv_iload hx hb dL_law_911 (lv_at hl 4 rfl) ?_
  refine lv_iconst (v := 3) hx hb dL_law_913 (by decide) ?_
  refine lv_iadd hx hb dL_law_914 ?_
  refine va_sld hx hb hXs hbl hbA hG.2.2 hb3 dL_law_915 ?_
  refine lv_aload_n hx hb dL_law_916 rfl (lv_at hl 3 rfl) ?_
  replace hf := bd_some hf
  obtain ⟨q1, eq1, hf⟩ := hf
  refine lC_calli hL hG (lC_runSW F hL hX hG (c_L_wardThen l w hst n (g (x4 + (1 : Int32)).toNatClampNeg) (g (x4 + (2 : Int32)).toNatClampNeg) (g (x4 + (3 : Int32)).toNatClampNeg) _ _ eq1) csw_157 ⟨by decide, by decide⟩ rfl hl.1 rfl (Nat.le_of_ble_eq_true rfl) dL_law_917 ⟨by show 100 + 4 * j + 3 ≤ 601024; omega, by show 20000 + 24 * j + 18 ≤ 7293034; omega⟩) (fun H locs hG => ?_)
  refine W.widen (k := 100 + 4 * j + 4) (n := 20000 + 24 * j + 24) (by omega) (by omega) ?_
  refine lv_istore (lv' := [(5, .int q1.1), (0, .ref b), (1, .ref (w.2.2.1 0)), (2, .ref (ρ2 0)), (3, .ref (w.2.2.1 60)), (4, .int x4)]) hx hb dL_law_920 hl (by decide) rfl (fun ls hl => ?_)
  refine lv_aload_n hx hb dL_law_922 rfl (lv_at hl 3 rfl) ?_
  refine lv_aload_n hx hb dL_law_923 rfl (lv_at hl 1 rfl) ?_
  refine lv_iload hx hb dL_law_924 (lv_at hl 5 rfl) ?_
  refine lv_iconst (v := 1) hx hb dL_law_926 (by decide) ?_
  refine lv_iadd hx hb dL_law_927 ?_
  refine va_sld hx hb hXs hbl hbA hG.2.2 hb1 dL_law_928 ?_
  refine lv_aload_n hx hb dL_law_929 rfl (lv_at hl 1 rfl) ?_
  refine lv_iload hx hb dL_law_930 (lv_at hl 5 rfl) ?_
  refine lv_iconst (v := 2) hx hb dL_law_932 (by decide) ?_
  refine lv_iadd hx hb dL_law_933 ?_
  refine va_sld hx hb hXs hbl hbA hG.2.2 hb2 dL_law_934 ?_
  refine lv_aload_n hx hb dL_law_935 rfl (lv_at hl 1 rfl) ?_
  refine lv_iload hx hb dL_law_936 (lv_at hl 5 rfl) ?_
  refine lv_iconst (v := 3) hx hb dL_law_938 (by decide) ?_
  refine lv_iadd hx hb dL_law_939 ?_
  refine va_sld hx hb hXs hbl hbA hG.2.2 hb3 dL_law_940 ?_
  replace hf := bd_some hf
  obtain ⟨q2, eq2, hf⟩ := hf
  refine lM_calli hL hG (lM_runV F hL hG (c_X9_wardThen l (wM w ρ2) x0_ok n (g (x4 + (1 : Int32)).toNatClampNeg) (g (x4 + (2 : Int32)).toNatClampNeg) (g (x4 + (3 : Int32)).toNatClampNeg) _ _ eq2) cv_L_160 ⟨by decide, by decide⟩ rfl hl.1 rfl (Nat.le_of_ble_eq_true rfl) dL_law_941 ⟨by show 100 + 4 * j + 4 ≤ 601024; omega, by show 20000 + 24 * j + 24 ≤ 7293034; omega⟩) (fun H locs hG => ?_)
  refine lv_istore (lv' := [(6, .int q2.1), (5, .int q1.1), (0, .ref b), (1, .ref (w.2.2.1 0)), (2, .ref (ρ2 0)), (3, .ref (w.2.2.1 60)), (4, .int x4)]) hx hb dL_law_944 hl (by decide) rfl (fun ls hl => ?_)
  refine lv_aload_n hx hb dL_law_946 rfl (lv_at hl 4 rfl) ?_
  replace hf := bd_some hf
  obtain ⟨q3, eq3, hf⟩ := hf
  refine lM_calli hL hG (lM_runV F hL hG (c_X9_thrown l (wM w ρ2) x0_ok n  _ _ eq3) cv_L_110 ⟨by decide, by decide⟩ rfl hl.1 rfl (Nat.le_of_ble_eq_true rfl) dL_law_947 ⟨by show 100 + 4 * j + 4 ≤ 601024; omega, by show 20000 + 24 * j + 24 ≤ 7293034; omega⟩) (fun H locs hG => ?_)
  refine lv_iload hx hb dL_law_950 (lv_at hl 1 rfl) ?_
  refine lv_icmp_eq (tgt := 957) hx hb dL_law_952 (by decide) (fun c4 => ?_) (fun c4 => ?_)
  · replace hf := if_t c4 hf
    refine lv_iload hx hb dL_law_957 (lv_at hl 1 rfl) ?_
    refine lv_if_ne (tgt := 974) hx hb dL_law_959 (by decide) (fun c5 => ?_) (fun c5 => ?_)
    · replace hf := if_f c5 hf
      refine lv_goto (tgt := 2170) hx hb dL_law_974 (by decide) ?_
      refine lv_iinc (v := (x4 + (6 : Int32))) (lv' := [(4, .int (x4 + (6 : Int32))), (6, .int q2.1), (5, .int q1.1), (0, .ref b), (1, .ref (w.2.2.1 0)), (2, .ref (ρ2 0)), (3, .ref (w.2.2.1 60))]) hx hb dL_law_2170 hl (k := 6) rfl rfl (by decide) rfl (fun ls hl => ?_)
      refine lv_goto (tgt := 23) hx hb dL_law_2173 (by decide) ?_
      cases hf
      refine W.widen (k := 100 + 4 * (j + 1)) (n := 20000 + 24 * (j + 1)) (by omega) (by omega) ?_
      exact K _ _ ls hG (lv_sub hl [3, 4, 5, 6, 0] rfl)
    · replace hf := if_t c5 hf
      refine lv_aload_n hx hb dL_law_962 rfl (lv_at hl 5 rfl) ?_
      refine lv_iconst (v := 0) hx hb dL_law_963 (by decide) ?_
      refine l_out F hG dL_law_964 ?_
      refine lv_iload hx hb dL_law_965 (lv_at hl 0 rfl) ?_
      refine lv_i2l hx hb dL_law_967 rfl ?_
      refine W.lcmp hx hb dL_law_968 ?_
      refine lv_if_eq (tgt := 974) hx hb dL_law_969 (by decide) (fun c6 => ?_) (fun c6 => ?_)
      · replace hf := if_t c6 hf
        refine lv_goto (tgt := 2170) hx hb dL_law_974 (by decide) ?_
        refine lv_iinc (v := (x4 + (6 : Int32))) (lv' := [(4, .int (x4 + (6 : Int32))), (6, .int q2.1), (5, .int q1.1), (0, .ref b), (1, .ref (w.2.2.1 0)), (2, .ref (ρ2 0)), (3, .ref (w.2.2.1 60))]) hx hb dL_law_2170 hl (k := 6) rfl rfl (by decide) rfl (fun ls hl => ?_)
        refine lv_goto (tgt := 23) hx hb dL_law_2173 (by decide) ?_
        cases hf
        refine W.widen (k := 100 + 4 * (j + 1)) (n := 20000 + 24 * (j + 1)) (by omega) (by omega) ?_
        exact K _ _ ls hG (lv_sub hl [3, 4, 5, 6, 0] rfl)
      · replace hf := if_f c6 hf
        cases hf
  · replace hf := if_f c4 hf
    cases hf

def lw_c15 (n : Nat) (g : Nat → Int32) (x4 : Int32) (M M2 : Mem) : Option (Mem × Mem) := bd (f_L_reaches n (g (x4 + (1 : Int32)).toNatClampNeg) M) (fun q1 => bd (f_X9_reaches n (g (x4 + (1 : Int32)).toNatClampNeg) M2) (fun q2 => bd (f_X9_thrown n  q2.2) (fun q3 => if q3.1 = q1.1 then (if q1.1 = 0 then (if (lg_cmp (gj q1.2 60 0) q2.1.toInt64) = 0 then (some (q1.2, q3.2)) else (none)) else (some (q1.2, q3.2))) else (none))))
set_option maxHeartbeats 4000000 in
set_option maxRecDepth 100000 in
theorem lw_case15 {p : Program} {l : Launch} {e : Env} {s : State} {m : MethodId} {below : List Frame} {meth : Method} {c : Code} {b L : Nat} {g : Nat → Int32} {w : Wd} {ρ2 : Nat → Nat} (C9 : LC p l s m c b L g w ρ2) (n j : Nat) (hj : j < 512) (x4 : Int32) (hbs : ∀ k : Int32, k = 0 ∨ k = 1 ∨ k = 2 ∨ k = 3 ∨ k = 4 ∨ k = 5 → vp_in (x4 + k) L) (M M2 M9 M8 : Mem) (hf : lw_c15 n g x4 M M2 = some (M9, M8)) (K : ∀ (H : Heap) (locs : List Loc) (ls : Array Slot), LG w ρ2 s M9 M8 H locs → lv_has ls 7 [(0, .ref b), (1, .ref (w.2.2.1 0)), (2, .ref (ρ2 0)), (3, .ref (w.2.2.1 60)), (4, .int (x4 + (6 : Int32)))] → W p l e room_1 s m #[Value.ref b] below meth c H locs (100 + 4 * (j + 1)) (20000 + 24 * (j + 1)) (lw_Z below #[Value.ref b] s) (F0 m 23 ls [])) (H : Heap) (locs : List Loc) (ls : Array Slot) (hG : LG w ρ2 s M M2 H locs) (hl : lv_has ls 7 [(0, .ref b), (1, .ref (w.2.2.1 0)), (2, .ref (ρ2 0)), (3, .ref (w.2.2.1 60)), (4, .int x4)]) : W p l e room_1 s m #[Value.ref b] below meth c H locs (100 + 4 * j) (20000 + 24 * j) (lw_Z below #[Value.ref b] s) (F0 m 977 ls []) := by
  obtain ⟨F, hst, hL, hX, hXs, hbl⟩ := C9
  have hx := F.1.1
  have hb := F.1.2.1
  have hbA : ¬ A0 s b := Nat.not_le.mpr hbl
  have hb1 := hbs 1 (by decide)
  have hb2 := hbs 2 (by decide)
  have hb3 := hbs 3 (by decide)
  have hb4 := hbs 4 (by decide)
  have hb5 := hbs 5 (by decide)
  unfold lw_c15 at hf
  refine lv_aload_n hx hb dL_law_977 rfl (lv_at hl 1 rfl) ?_
  refine lv_aload_n hx hb dL_law_978 rfl (lv_at hl 0 rfl) ?_
  refine lv_iload hx hb dL_law_979 (lv_at hl 4 rfl) ?_
  refine lv_iconst (v := 1) hx hb dL_law_981 (by decide) ?_
  refine lv_iadd hx hb dL_law_982 ?_
  refine va_sld hx hb hXs hbl hbA hG.2.2 hb1 dL_law_983 ?_
  refine lv_aload_n hx hb dL_law_984 rfl (lv_at hl 3 rfl) ?_
  replace hf := bd_some hf
  obtain ⟨q1, eq1, hf⟩ := hf
  refine lC_calli hL hG (lC_runSW F hL hX hG (c_L_reaches l w hst n (g (x4 + (1 : Int32)).toNatClampNeg) _ _ eq1) csw_161 ⟨by decide, by decide⟩ rfl hl.1 rfl (Nat.le_of_ble_eq_true rfl) dL_law_985 ⟨by show 100 + 4 * j + 1 ≤ 601024; omega, by show 20000 + 24 * j + 6 ≤ 7293034; omega⟩) (fun H locs hG => ?_)
  refine W.widen (k := 100 + 4 * j + 4) (n := 20000 + 24 * j + 24) (by omega) (by omega) ?_
  refine lv_istore (lv' := [(5, .int q1.1), (0, .ref b), (1, .ref (w.2.2.1 0)), (2, .ref (ρ2 0)), (3, .ref (w.2.2.1 60)), (4, .int x4)]) hx hb dL_law_988 hl (by decide) rfl (fun ls hl => ?_)
  refine lv_aload_n hx hb dL_law_990 rfl (lv_at hl 3 rfl) ?_
  refine lv_aload_n hx hb dL_law_991 rfl (lv_at hl 1 rfl) ?_
  refine lv_iload hx hb dL_law_992 (lv_at hl 5 rfl) ?_
  refine lv_iconst (v := 1) hx hb dL_law_994 (by decide) ?_
  refine lv_iadd hx hb dL_law_995 ?_
  refine va_sld hx hb hXs hbl hbA hG.2.2 hb1 dL_law_996 ?_
  replace hf := bd_some hf
  obtain ⟨q2, eq2, hf⟩ := hf
  refine lM_calli hL hG (lM_runV F hL hG (c_X9_reaches l (wM w ρ2) x0_ok n (g (x4 + (1 : Int32)).toNatClampNeg) _ _ eq2) cv_L_163 ⟨by decide, by decide⟩ rfl hl.1 rfl (Nat.le_of_ble_eq_true rfl) dL_law_997 ⟨by show 100 + 4 * j + 4 ≤ 601024; omega, by show 20000 + 24 * j + 24 ≤ 7293034; omega⟩) (fun H locs hG => ?_)
  refine lv_istore (lv' := [(6, .int q2.1), (5, .int q1.1), (0, .ref b), (1, .ref (w.2.2.1 0)), (2, .ref (ρ2 0)), (3, .ref (w.2.2.1 60)), (4, .int x4)]) hx hb dL_law_1000 hl (by decide) rfl (fun ls hl => ?_)
  refine lv_aload_n hx hb dL_law_1002 rfl (lv_at hl 4 rfl) ?_
  replace hf := bd_some hf
  obtain ⟨q3, eq3, hf⟩ := hf
  refine lM_calli hL hG (lM_runV F hL hG (c_X9_thrown l (wM w ρ2) x0_ok n  _ _ eq3) cv_L_110 ⟨by decide, by decide⟩ rfl hl.1 rfl (Nat.le_of_ble_eq_true rfl) dL_law_1003 ⟨by show 100 + 4 * j + 4 ≤ 601024; omega, by show 20000 + 24 * j + 24 ≤ 7293034; omega⟩) (fun H locs hG => ?_)
  refine lv_iload hx hb dL_law_1006 (lv_at hl 1 rfl) ?_
  refine lv_icmp_eq (tgt := 1013) hx hb dL_law_1008 (by decide) (fun c4 => ?_) (fun c4 => ?_)
  · replace hf := if_t c4 hf
    refine lv_iload hx hb dL_law_1013 (lv_at hl 1 rfl) ?_
    refine lv_if_ne (tgt := 1030) hx hb dL_law_1015 (by decide) (fun c5 => ?_) (fun c5 => ?_)
    · replace hf := if_f c5 hf
      refine lv_goto (tgt := 2170) hx hb dL_law_1030 (by decide) ?_
      refine lv_iinc (v := (x4 + (6 : Int32))) (lv' := [(4, .int (x4 + (6 : Int32))), (6, .int q2.1), (5, .int q1.1), (0, .ref b), (1, .ref (w.2.2.1 0)), (2, .ref (ρ2 0)), (3, .ref (w.2.2.1 60))]) hx hb dL_law_2170 hl (k := 6) rfl rfl (by decide) rfl (fun ls hl => ?_)
      refine lv_goto (tgt := 23) hx hb dL_law_2173 (by decide) ?_
      cases hf
      refine W.widen (k := 100 + 4 * (j + 1)) (n := 20000 + 24 * (j + 1)) (by omega) (by omega) ?_
      exact K _ _ ls hG (lv_sub hl [3, 4, 5, 6, 0] rfl)
    · replace hf := if_t c5 hf
      refine lv_aload_n hx hb dL_law_1018 rfl (lv_at hl 5 rfl) ?_
      refine lv_iconst (v := 0) hx hb dL_law_1019 (by decide) ?_
      refine l_out F hG dL_law_1020 ?_
      refine lv_iload hx hb dL_law_1021 (lv_at hl 0 rfl) ?_
      refine lv_i2l hx hb dL_law_1023 rfl ?_
      refine W.lcmp hx hb dL_law_1024 ?_
      refine lv_if_eq (tgt := 1030) hx hb dL_law_1025 (by decide) (fun c6 => ?_) (fun c6 => ?_)
      · replace hf := if_t c6 hf
        refine lv_goto (tgt := 2170) hx hb dL_law_1030 (by decide) ?_
        refine lv_iinc (v := (x4 + (6 : Int32))) (lv' := [(4, .int (x4 + (6 : Int32))), (6, .int q2.1), (5, .int q1.1), (0, .ref b), (1, .ref (w.2.2.1 0)), (2, .ref (ρ2 0)), (3, .ref (w.2.2.1 60))]) hx hb dL_law_2170 hl (k := 6) rfl rfl (by decide) rfl (fun ls hl => ?_)
        refine lv_goto (tgt := 23) hx hb dL_law_2173 (by decide) ?_
        cases hf
        refine W.widen (k := 100 + 4 * (j + 1)) (n := 20000 + 24 * (j + 1)) (by omega) (by omega) ?_
        exact K _ _ ls hG (lv_sub hl [3, 4, 5, 6, 0] rfl)
      · replace hf := if_f c6 hf
        cases hf
  · replace hf := if_f c4 hf
    cases hf

def lw_c16 (n : Nat) (g : Nat → Int32) (x4 : Int32) (M M2 : Mem) : Option (Mem × Mem) := bd (f_X8_falls n  M) (fun q1 => bd (f_X9_falls n  M2) (fun q2 => if q1.1 = q2.1 then (some (q1.2, q2.2)) else (none)))
set_option maxHeartbeats 4000000 in
set_option maxRecDepth 100000 in
theorem lw_case16 {p : Program} {l : Launch} {e : Env} {s : State} {m : MethodId} {below : List Frame} {meth : Method} {c : Code} {b L : Nat} {g : Nat → Int32} {w : Wd} {ρ2 : Nat → Nat} (C9 : LC p l s m c b L g w ρ2) (n j : Nat) (hj : j < 512) (x4 : Int32) (hbs : ∀ k : Int32, k = 0 ∨ k = 1 ∨ k = 2 ∨ k = 3 ∨ k = 4 ∨ k = 5 → vp_in (x4 + k) L) (M M2 M9 M8 : Mem) (hf : lw_c16 n g x4 M M2 = some (M9, M8)) (K : ∀ (H : Heap) (locs : List Loc) (ls : Array Slot), LG w ρ2 s M9 M8 H locs → lv_has ls 7 [(0, .ref b), (1, .ref (w.2.2.1 0)), (2, .ref (ρ2 0)), (3, .ref (w.2.2.1 60)), (4, .int (x4 + (6 : Int32)))] → W p l e room_1 s m #[Value.ref b] below meth c H locs (100 + 4 * (j + 1)) (20000 + 24 * (j + 1)) (lw_Z below #[Value.ref b] s) (F0 m 23 ls [])) (H : Heap) (locs : List Loc) (ls : Array Slot) (hG : LG w ρ2 s M M2 H locs) (hl : lv_has ls 7 [(0, .ref b), (1, .ref (w.2.2.1 0)), (2, .ref (ρ2 0)), (3, .ref (w.2.2.1 60)), (4, .int x4)]) : W p l e room_1 s m #[Value.ref b] below meth c H locs (100 + 4 * j) (20000 + 24 * j) (lw_Z below #[Value.ref b] s) (F0 m 1033 ls []) := by
  obtain ⟨F, hst, hL, hX, hXs, hbl⟩ := C9
  have hx := F.1.1
  have hb := F.1.2.1
  have hbA : ¬ A0 s b := Nat.not_le.mpr hbl
  have hb1 := hbs 1 (by decide)
  have hb2 := hbs 2 (by decide)
  have hb3 := hbs 3 (by decide)
  have hb4 := hbs 4 (by decide)
  have hb5 := hbs 5 (by decide)
  unfold lw_c16 at hf
  refine lv_aload_n hx hb dL_law_1033 rfl (lv_at hl 1 rfl) ?_
  replace hf := bd_some hf
  obtain ⟨q1, eq1, hf⟩ := hf
  refine lC_calli hL hG (lC_runV F hL hX hG (c_X8_falls l w n  _ _ eq1) cv_L_164 ⟨by decide, by decide⟩ rfl hl.1 rfl (Nat.le_of_ble_eq_true rfl) dL_law_1034 ⟨by show 100 + 4 * j  ≤ 601024; omega, by show 20000 + 24 * j  ≤ 7293034; omega⟩) (fun H locs hG => ?_)
  refine lv_aload_n hx hb dL_law_1037 rfl (lv_at hl 2 rfl) ?_
  replace hf := bd_some hf
  obtain ⟨q2, eq2, hf⟩ := hf
  refine lM_calli hL hG (lM_runV F hL hG (c_X9_falls l (wM w ρ2) x0_ok n  _ _ eq2) cv_L_167 ⟨by decide, by decide⟩ rfl hl.1 rfl (Nat.le_of_ble_eq_true rfl) dL_law_1038 ⟨by show 100 + 4 * j  ≤ 601024; omega, by show 20000 + 24 * j  ≤ 7293034; omega⟩) (fun H locs hG => ?_)
  refine lv_icmp_eq (tgt := 2170) hx hb dL_law_1041 (by decide) (fun c3 => ?_) (fun c3 => ?_)
  · replace hf := if_t c3 hf
    refine lv_iinc (v := (x4 + (6 : Int32))) (lv' := [(4, .int (x4 + (6 : Int32))), (0, .ref b), (1, .ref (w.2.2.1 0)), (2, .ref (ρ2 0)), (3, .ref (w.2.2.1 60))]) hx hb dL_law_2170 hl (k := 4) rfl rfl (by decide) rfl (fun ls hl => ?_)
    refine lv_goto (tgt := 23) hx hb dL_law_2173 (by decide) ?_
    cases hf
    refine W.widen (k := 100 + 4 * (j + 1)) (n := 20000 + 24 * (j + 1)) (by omega) (by omega) ?_
    exact K _ _ ls hG (lv_sub hl [1, 2, 3, 4, 0] rfl)
  · replace hf := if_f c3 hf
    cases hf

def lw_c17 (n : Nat) (g : Nat → Int32) (x4 : Int32) (M M2 : Mem) : Option (Mem × Mem) := bd (f_L_later n (g (x4 + (1 : Int32)).toNatClampNeg) (g (x4 + (2 : Int32)).toNatClampNeg) M) (fun q1 => bd (f_X9_later n (g (x4 + (1 : Int32)).toNatClampNeg) (g (x4 + (2 : Int32)).toNatClampNeg) M2) (fun q2 => bd (f_X9_thrown n  q2.2) (fun q3 => if q3.1 = q1.1 then (if q1.1 = 0 then (if (lg_cmp (gj q1.2 60 0) q2.1.toInt64) = 0 then (some (q1.2, q3.2)) else (none)) else (some (q1.2, q3.2))) else (none))))
set_option maxHeartbeats 4000000 in
set_option maxRecDepth 100000 in
theorem lw_case17 {p : Program} {l : Launch} {e : Env} {s : State} {m : MethodId} {below : List Frame} {meth : Method} {c : Code} {b L : Nat} {g : Nat → Int32} {w : Wd} {ρ2 : Nat → Nat} (C9 : LC p l s m c b L g w ρ2) (n j : Nat) (hj : j < 512) (x4 : Int32) (hbs : ∀ k : Int32, k = 0 ∨ k = 1 ∨ k = 2 ∨ k = 3 ∨ k = 4 ∨ k = 5 → vp_in (x4 + k) L) (M M2 M9 M8 : Mem) (hf : lw_c17 n g x4 M M2 = some (M9, M8)) (K : ∀ (H : Heap) (locs : List Loc) (ls : Array Slot), LG w ρ2 s M9 M8 H locs → lv_has ls 7 [(0, .ref b), (1, .ref (w.2.2.1 0)), (2, .ref (ρ2 0)), (3, .ref (w.2.2.1 60)), (4, .int (x4 + (6 : Int32)))] → W p l e room_1 s m #[Value.ref b] below meth c H locs (100 + 4 * (j + 1)) (20000 + 24 * (j + 1)) (lw_Z below #[Value.ref b] s) (F0 m 23 ls [])) (H : Heap) (locs : List Loc) (ls : Array Slot) (hG : LG w ρ2 s M M2 H locs) (hl : lv_has ls 7 [(0, .ref b), (1, .ref (w.2.2.1 0)), (2, .ref (ρ2 0)), (3, .ref (w.2.2.1 60)), (4, .int x4)]) : W p l e room_1 s m #[Value.ref b] below meth c H locs (100 + 4 * j) (20000 + 24 * j) (lw_Z below #[Value.ref b] s) (F0 m 1046 ls []) := by
  obtain ⟨F, hst, hL, hX, hXs, hbl⟩ := C9
  have hx := F.1.1
  have hb := F.1.2.1
  have hbA : ¬ A0 s b := Nat.not_le.mpr hbl
  have hb1 := hbs 1 (by decide)
  have hb2 := hbs 2 (by decide)
  have hb3 := hbs 3 (by decide)
  have hb4 := hbs 4 (by decide)
  have hb5 := hbs 5 (by decide)
  unfold lw_c17 at hf
  refine lv_aload_n hx hb dL_law_1046 rfl (lv_at hl 1 rfl) ?_
  refine lv_aload_n hx hb dL_law_1047 rfl (lv_at hl 0 rfl) ?_
  refine lv_iload hx hb dL_law_1048 (lv_at hl 4 rfl) ?_
  refine lv_iconst (v := 1) hx hb dL_law_1050 (by decide) ?_
  refine lv_iadd hx hb dL_law_1051 ?_
  refine va_sld hx hb hXs hbl hbA hG.2.2 hb1 dL_law_1052 ?_
  refine lv_aload_n hx hb dL_law_1053 rfl (lv_at hl 0 rfl) ?_
  refine lv_iload hx hb dL_law_1054 (lv_at hl 4 rfl) ?_
  refine lv_iconst (v := 2) hx hb dL_law_1056 (by decide) ?_
  refine lv_iadd hx hb dL_law_1057 ?_
  refine va_sld hx hb hXs hbl hbA hG.2.2 hb2 dL_law_1058 ?_
  refine lv_aload_n hx hb dL_law_1059 rfl (lv_at hl 3 rfl) ?_
  replace hf := bd_some hf
  obtain ⟨q1, eq1, hf⟩ := hf
  refine lC_calli hL hG (lC_runSW F hL hX hG (c_L_later l w hst n (g (x4 + (1 : Int32)).toNatClampNeg) (g (x4 + (2 : Int32)).toNatClampNeg) _ _ eq1) csw_168 ⟨by decide, by decide⟩ rfl hl.1 rfl (Nat.le_of_ble_eq_true rfl) dL_law_1060 ⟨by show 100 + 4 * j + 2 ≤ 601024; omega, by show 20000 + 24 * j + 12 ≤ 7293034; omega⟩) (fun H locs hG => ?_)
  refine W.widen (k := 100 + 4 * j + 4) (n := 20000 + 24 * j + 24) (by omega) (by omega) ?_
  refine lv_istore (lv' := [(5, .int q1.1), (0, .ref b), (1, .ref (w.2.2.1 0)), (2, .ref (ρ2 0)), (3, .ref (w.2.2.1 60)), (4, .int x4)]) hx hb dL_law_1063 hl (by decide) rfl (fun ls hl => ?_)
  refine lv_aload_n hx hb dL_law_1065 rfl (lv_at hl 3 rfl) ?_
  refine lv_aload_n hx hb dL_law_1066 rfl (lv_at hl 1 rfl) ?_
  refine lv_iload hx hb dL_law_1067 (lv_at hl 5 rfl) ?_
  refine lv_iconst (v := 1) hx hb dL_law_1069 (by decide) ?_
  refine lv_iadd hx hb dL_law_1070 ?_
  refine va_sld hx hb hXs hbl hbA hG.2.2 hb1 dL_law_1071 ?_
  refine lv_aload_n hx hb dL_law_1072 rfl (lv_at hl 1 rfl) ?_
  refine lv_iload hx hb dL_law_1073 (lv_at hl 5 rfl) ?_
  refine lv_iconst (v := 2) hx hb dL_law_1075 (by decide) ?_
  refine lv_iadd hx hb dL_law_1076 ?_
  refine va_sld hx hb hXs hbl hbA hG.2.2 hb2 dL_law_1077 ?_
  replace hf := bd_some hf
  obtain ⟨q2, eq2, hf⟩ := hf
  refine lM_calli hL hG (lM_runV F hL hG (c_X9_later l (wM w ρ2) x0_ok n (g (x4 + (1 : Int32)).toNatClampNeg) (g (x4 + (2 : Int32)).toNatClampNeg) _ _ eq2) cv_L_170 ⟨by decide, by decide⟩ rfl hl.1 rfl (Nat.le_of_ble_eq_true rfl) dL_law_1078 ⟨by show 100 + 4 * j + 4 ≤ 601024; omega, by show 20000 + 24 * j + 24 ≤ 7293034; omega⟩) (fun H locs hG => ?_)
  refine lv_istore (lv' := [(6, .int q2.1), (5, .int q1.1), (0, .ref b), (1, .ref (w.2.2.1 0)), (2, .ref (ρ2 0)), (3, .ref (w.2.2.1 60)), (4, .int x4)]) hx hb dL_law_1081 hl (by decide) rfl (fun ls hl => ?_)
  refine lv_aload_n hx hb dL_law_1083 rfl (lv_at hl 4 rfl) ?_
  replace hf := bd_some hf
  obtain ⟨q3, eq3, hf⟩ := hf
  refine lM_calli hL hG (lM_runV F hL hG (c_X9_thrown l (wM w ρ2) x0_ok n  _ _ eq3) cv_L_110 ⟨by decide, by decide⟩ rfl hl.1 rfl (Nat.le_of_ble_eq_true rfl) dL_law_1084 ⟨by show 100 + 4 * j + 4 ≤ 601024; omega, by show 20000 + 24 * j + 24 ≤ 7293034; omega⟩) (fun H locs hG => ?_)
  refine lv_iload hx hb dL_law_1087 (lv_at hl 1 rfl) ?_
  refine lv_icmp_eq (tgt := 1094) hx hb dL_law_1089 (by decide) (fun c4 => ?_) (fun c4 => ?_)
  · replace hf := if_t c4 hf
    refine lv_iload hx hb dL_law_1094 (lv_at hl 1 rfl) ?_
    refine lv_if_ne (tgt := 1111) hx hb dL_law_1096 (by decide) (fun c5 => ?_) (fun c5 => ?_)
    · replace hf := if_f c5 hf
      refine lv_goto (tgt := 2170) hx hb dL_law_1111 (by decide) ?_
      refine lv_iinc (v := (x4 + (6 : Int32))) (lv' := [(4, .int (x4 + (6 : Int32))), (6, .int q2.1), (5, .int q1.1), (0, .ref b), (1, .ref (w.2.2.1 0)), (2, .ref (ρ2 0)), (3, .ref (w.2.2.1 60))]) hx hb dL_law_2170 hl (k := 6) rfl rfl (by decide) rfl (fun ls hl => ?_)
      refine lv_goto (tgt := 23) hx hb dL_law_2173 (by decide) ?_
      cases hf
      refine W.widen (k := 100 + 4 * (j + 1)) (n := 20000 + 24 * (j + 1)) (by omega) (by omega) ?_
      exact K _ _ ls hG (lv_sub hl [3, 4, 5, 6, 0] rfl)
    · replace hf := if_t c5 hf
      refine lv_aload_n hx hb dL_law_1099 rfl (lv_at hl 5 rfl) ?_
      refine lv_iconst (v := 0) hx hb dL_law_1100 (by decide) ?_
      refine l_out F hG dL_law_1101 ?_
      refine lv_iload hx hb dL_law_1102 (lv_at hl 0 rfl) ?_
      refine lv_i2l hx hb dL_law_1104 rfl ?_
      refine W.lcmp hx hb dL_law_1105 ?_
      refine lv_if_eq (tgt := 1111) hx hb dL_law_1106 (by decide) (fun c6 => ?_) (fun c6 => ?_)
      · replace hf := if_t c6 hf
        refine lv_goto (tgt := 2170) hx hb dL_law_1111 (by decide) ?_
        refine lv_iinc (v := (x4 + (6 : Int32))) (lv' := [(4, .int (x4 + (6 : Int32))), (6, .int q2.1), (5, .int q1.1), (0, .ref b), (1, .ref (w.2.2.1 0)), (2, .ref (ρ2 0)), (3, .ref (w.2.2.1 60))]) hx hb dL_law_2170 hl (k := 6) rfl rfl (by decide) rfl (fun ls hl => ?_)
        refine lv_goto (tgt := 23) hx hb dL_law_2173 (by decide) ?_
        cases hf
        refine W.widen (k := 100 + 4 * (j + 1)) (n := 20000 + 24 * (j + 1)) (by omega) (by omega) ?_
        exact K _ _ ls hG (lv_sub hl [3, 4, 5, 6, 0] rfl)
      · replace hf := if_f c6 hf
        cases hf
  · replace hf := if_f c4 hf
    cases hf

def lw_c18 (n : Nat) (g : Nat → Int32) (x4 : Int32) (M M2 : Mem) : Option (Mem × Mem) := bd (f_L_through n (g (x4 + (1 : Int32)).toNatClampNeg) (g (x4 + (2 : Int32)).toNatClampNeg) M) (fun q1 => bd (f_X9_through n (g (x4 + (1 : Int32)).toNatClampNeg) (g (x4 + (2 : Int32)).toNatClampNeg) M2) (fun q2 => bd (f_X9_thrown n  q2.2) (fun q3 => if q3.1 = q1.1 then (if q1.1 = 0 then (if (lg_cmp (gj q1.2 60 0) q2.1.toInt64) = 0 then (some (q1.2, q3.2)) else (none)) else (some (q1.2, q3.2))) else (none))))
set_option maxHeartbeats 4000000 in
set_option maxRecDepth 100000 in
theorem lw_case18 {p : Program} {l : Launch} {e : Env} {s : State} {m : MethodId} {below : List Frame} {meth : Method} {c : Code} {b L : Nat} {g : Nat → Int32} {w : Wd} {ρ2 : Nat → Nat} (C9 : LC p l s m c b L g w ρ2) (n j : Nat) (hj : j < 512) (x4 : Int32) (hbs : ∀ k : Int32, k = 0 ∨ k = 1 ∨ k = 2 ∨ k = 3 ∨ k = 4 ∨ k = 5 → vp_in (x4 + k) L) (M M2 M9 M8 : Mem) (hf : lw_c18 n g x4 M M2 = some (M9, M8)) (K : ∀ (H : Heap) (locs : List Loc) (ls : Array Slot), LG w ρ2 s M9 M8 H locs → lv_has ls 7 [(0, .ref b), (1, .ref (w.2.2.1 0)), (2, .ref (ρ2 0)), (3, .ref (w.2.2.1 60)), (4, .int (x4 + (6 : Int32)))] → W p l e room_1 s m #[Value.ref b] below meth c H locs (100 + 4 * (j + 1)) (20000 + 24 * (j + 1)) (lw_Z below #[Value.ref b] s) (F0 m 23 ls [])) (H : Heap) (locs : List Loc) (ls : Array Slot) (hG : LG w ρ2 s M M2 H locs) (hl : lv_has ls 7 [(0, .ref b), (1, .ref (w.2.2.1 0)), (2, .ref (ρ2 0)), (3, .ref (w.2.2.1 60)), (4, .int x4)]) : W p l e room_1 s m #[Value.ref b] below meth c H locs (100 + 4 * j) (20000 + 24 * j) (lw_Z below #[Value.ref b] s) (F0 m 1114 ls []) := by
  obtain ⟨F, hst, hL, hX, hXs, hbl⟩ := C9
  have hx := F.1.1
  have hb := F.1.2.1
  have hbA : ¬ A0 s b := Nat.not_le.mpr hbl
  have hb1 := hbs 1 (by decide)
  have hb2 := hbs 2 (by decide)
  have hb3 := hbs 3 (by decide)
  have hb4 := hbs 4 (by decide)
  have hb5 := hbs 5 (by decide)
  unfold lw_c18 at hf
  refine lv_aload_n hx hb dL_law_1114 rfl (lv_at hl 1 rfl) ?_
  refine lv_aload_n hx hb dL_law_1115 rfl (lv_at hl 0 rfl) ?_
  refine lv_iload hx hb dL_law_1116 (lv_at hl 4 rfl) ?_
  refine lv_iconst (v := 1) hx hb dL_law_1118 (by decide) ?_
  refine lv_iadd hx hb dL_law_1119 ?_
  refine va_sld hx hb hXs hbl hbA hG.2.2 hb1 dL_law_1120 ?_
  refine lv_aload_n hx hb dL_law_1121 rfl (lv_at hl 0 rfl) ?_
  refine lv_iload hx hb dL_law_1122 (lv_at hl 4 rfl) ?_
  refine lv_iconst (v := 2) hx hb dL_law_1124 (by decide) ?_
  refine lv_iadd hx hb dL_law_1125 ?_
  refine va_sld hx hb hXs hbl hbA hG.2.2 hb2 dL_law_1126 ?_
  refine lv_aload_n hx hb dL_law_1127 rfl (lv_at hl 3 rfl) ?_
  replace hf := bd_some hf
  obtain ⟨q1, eq1, hf⟩ := hf
  refine lC_calli hL hG (lC_runSW F hL hX hG (c_L_through l w hst n (g (x4 + (1 : Int32)).toNatClampNeg) (g (x4 + (2 : Int32)).toNatClampNeg) _ _ eq1) csw_171 ⟨by decide, by decide⟩ rfl hl.1 rfl (Nat.le_of_ble_eq_true rfl) dL_law_1128 ⟨by show 100 + 4 * j + 2 ≤ 601024; omega, by show 20000 + 24 * j + 12 ≤ 7293034; omega⟩) (fun H locs hG => ?_)
  refine W.widen (k := 100 + 4 * j + 4) (n := 20000 + 24 * j + 24) (by omega) (by omega) ?_
  refine lv_istore (lv' := [(5, .int q1.1), (0, .ref b), (1, .ref (w.2.2.1 0)), (2, .ref (ρ2 0)), (3, .ref (w.2.2.1 60)), (4, .int x4)]) hx hb dL_law_1131 hl (by decide) rfl (fun ls hl => ?_)
  refine lv_aload_n hx hb dL_law_1133 rfl (lv_at hl 3 rfl) ?_
  refine lv_aload_n hx hb dL_law_1134 rfl (lv_at hl 1 rfl) ?_
  refine lv_iload hx hb dL_law_1135 (lv_at hl 5 rfl) ?_
  refine lv_iconst (v := 1) hx hb dL_law_1137 (by decide) ?_
  refine lv_iadd hx hb dL_law_1138 ?_
  refine va_sld hx hb hXs hbl hbA hG.2.2 hb1 dL_law_1139 ?_
  refine lv_aload_n hx hb dL_law_1140 rfl (lv_at hl 1 rfl) ?_
  refine lv_iload hx hb dL_law_1141 (lv_at hl 5 rfl) ?_
  refine lv_iconst (v := 2) hx hb dL_law_1143 (by decide) ?_
  refine lv_iadd hx hb dL_law_1144 ?_
  refine va_sld hx hb hXs hbl hbA hG.2.2 hb2 dL_law_1145 ?_
  replace hf := bd_some hf
  obtain ⟨q2, eq2, hf⟩ := hf
  refine lM_calli hL hG (lM_runV F hL hG (c_X9_through l (wM w ρ2) x0_ok n (g (x4 + (1 : Int32)).toNatClampNeg) (g (x4 + (2 : Int32)).toNatClampNeg) _ _ eq2) cv_L_173 ⟨by decide, by decide⟩ rfl hl.1 rfl (Nat.le_of_ble_eq_true rfl) dL_law_1146 ⟨by show 100 + 4 * j + 4 ≤ 601024; omega, by show 20000 + 24 * j + 24 ≤ 7293034; omega⟩) (fun H locs hG => ?_)
  refine lv_istore (lv' := [(6, .int q2.1), (5, .int q1.1), (0, .ref b), (1, .ref (w.2.2.1 0)), (2, .ref (ρ2 0)), (3, .ref (w.2.2.1 60)), (4, .int x4)]) hx hb dL_law_1149 hl (by decide) rfl (fun ls hl => ?_)
  refine lv_aload_n hx hb dL_law_1151 rfl (lv_at hl 4 rfl) ?_
  replace hf := bd_some hf
  obtain ⟨q3, eq3, hf⟩ := hf
  refine lM_calli hL hG (lM_runV F hL hG (c_X9_thrown l (wM w ρ2) x0_ok n  _ _ eq3) cv_L_110 ⟨by decide, by decide⟩ rfl hl.1 rfl (Nat.le_of_ble_eq_true rfl) dL_law_1152 ⟨by show 100 + 4 * j + 4 ≤ 601024; omega, by show 20000 + 24 * j + 24 ≤ 7293034; omega⟩) (fun H locs hG => ?_)
  refine lv_iload hx hb dL_law_1155 (lv_at hl 1 rfl) ?_
  refine lv_icmp_eq (tgt := 1162) hx hb dL_law_1157 (by decide) (fun c4 => ?_) (fun c4 => ?_)
  · replace hf := if_t c4 hf
    refine lv_iload hx hb dL_law_1162 (lv_at hl 1 rfl) ?_
    refine lv_if_ne (tgt := 1179) hx hb dL_law_1164 (by decide) (fun c5 => ?_) (fun c5 => ?_)
    · replace hf := if_f c5 hf
      refine lv_goto (tgt := 2170) hx hb dL_law_1179 (by decide) ?_
      refine lv_iinc (v := (x4 + (6 : Int32))) (lv' := [(4, .int (x4 + (6 : Int32))), (6, .int q2.1), (5, .int q1.1), (0, .ref b), (1, .ref (w.2.2.1 0)), (2, .ref (ρ2 0)), (3, .ref (w.2.2.1 60))]) hx hb dL_law_2170 hl (k := 6) rfl rfl (by decide) rfl (fun ls hl => ?_)
      refine lv_goto (tgt := 23) hx hb dL_law_2173 (by decide) ?_
      cases hf
      refine W.widen (k := 100 + 4 * (j + 1)) (n := 20000 + 24 * (j + 1)) (by omega) (by omega) ?_
      exact K _ _ ls hG (lv_sub hl [3, 4, 5, 6, 0] rfl)
    · replace hf := if_t c5 hf
      refine lv_aload_n hx hb dL_law_1167 rfl (lv_at hl 5 rfl) ?_
      refine lv_iconst (v := 0) hx hb dL_law_1168 (by decide) ?_
      refine l_out F hG dL_law_1169 ?_
      refine lv_iload hx hb dL_law_1170 (lv_at hl 0 rfl) ?_
      refine lv_i2l hx hb dL_law_1172 rfl ?_
      refine W.lcmp hx hb dL_law_1173 ?_
      refine lv_if_eq (tgt := 1179) hx hb dL_law_1174 (by decide) (fun c6 => ?_) (fun c6 => ?_)
      · replace hf := if_t c6 hf
        refine lv_goto (tgt := 2170) hx hb dL_law_1179 (by decide) ?_
        refine lv_iinc (v := (x4 + (6 : Int32))) (lv' := [(4, .int (x4 + (6 : Int32))), (6, .int q2.1), (5, .int q1.1), (0, .ref b), (1, .ref (w.2.2.1 0)), (2, .ref (ρ2 0)), (3, .ref (w.2.2.1 60))]) hx hb dL_law_2170 hl (k := 6) rfl rfl (by decide) rfl (fun ls hl => ?_)
        refine lv_goto (tgt := 23) hx hb dL_law_2173 (by decide) ?_
        cases hf
        refine W.widen (k := 100 + 4 * (j + 1)) (n := 20000 + 24 * (j + 1)) (by omega) (by omega) ?_
        exact K _ _ ls hG (lv_sub hl [3, 4, 5, 6, 0] rfl)
      · replace hf := if_f c6 hf
        cases hf
  · replace hf := if_f c4 hf
    cases hf
