def lw_c19 (n : Nat) (g : Nat → Int32) (x4 : Int32) (M M2 : Mem) : Option (Mem × Mem) := bd (f_L_pious n (g (x4 + (1 : Int32)).toNatClampNeg) (g (x4 + (2 : Int32)).toNatClampNeg) M) (fun q1 => bd (f_X9_pious n (g (x4 + (1 : Int32)).toNatClampNeg) (g (x4 + (2 : Int32)).toNatClampNeg) M2) (fun q2 => bd (f_X9_thrown n  q2.2) (fun q3 => if q3.1 = q1.1 then (if q1.1 = 0 then (if (lg_cmp (gj q1.2 60 0) q2.1.toInt64) = 0 then (some (q1.2, q3.2)) else (none)) else (some (q1.2, q3.2))) else (none))))
set_option maxHeartbeats 4000000 in
set_option maxRecDepth 100000 in
theorem lw_case19 {p : Program} {l : Launch} {e : Env} {s : State} {m : MethodId} {below : List Frame} {meth : Method} {c : Code} {b L : Nat} {g : Nat → Int32} {w : Wd} {ρ2 : Nat → Nat} (C9 : LC p l s m c b L g w ρ2) (n j : Nat) (hj : j < 512) (x4 : Int32) (hbs : ∀ k : Int32, k = 0 ∨ k = 1 ∨ k = 2 ∨ k = 3 ∨ k = 4 ∨ k = 5 → vp_in (x4 + k) L) (M M2 M9 M8 : Mem) (hf : lw_c19 n g x4 M M2 = some (M9, M8)) (K : ∀ (H : Heap) (locs : List Loc) (ls : Array Slot), LG w ρ2 s M9 M8 H locs → lv_has ls 7 [(0, .ref b), (1, .ref (w.2.2.1 0)), (2, .ref (ρ2 0)), (3, .ref (w.2.2.1 60)), (4, .int (x4 + (6 : Int32)))] → W p l e room_1 s m #[Value.ref b] below meth c H locs (100 + 4 * (j + 1)) (20000 + 24 * (j + 1)) (lw_Z below #[Value.ref b] s) (F0 m 23 ls [])) (H : Heap) (locs : List Loc) (ls : Array Slot) (hG : LG w ρ2 s M M2 H locs) (hl : lv_has ls 7 [(0, .ref b), (1, .ref (w.2.2.1 0)), (2, .ref (ρ2 0)), (3, .ref (w.2.2.1 60)), (4, .int x4)]) : W p l e room_1 s m #[Value.ref b] below meth c H locs (100 + 4 * j) (20000 + 24 * j) (lw_Z below #[Value.ref b] s) (F0 m 1182 ls []) := by
  obtain ⟨F, hst, hL, hX, hXs, hbl⟩ := C9
  have hx := F.1.1
  have hb := F.1.2.1
  have hbA : ¬ A0 s b := Nat.not_le.mpr hbl
  have hb1 := hbs 1 (by decide)
  have hb2 := hbs 2 (by decide)
  have hb3 := hbs 3 (by decide)
  have hb4 := hbs 4 (by decide)
  have hb5 := hbs 5 (by decide)
  unfold lw_c19 at hf
  refine lv_aload_n hx hb dL_law_1182 rfl (lv_at hl 1 rfl) ?_
  refine lv_aload_n hx hb dL_law_1183 rfl (lv_at hl 0 rfl) ?_
  refine lv_iload hx hb dL_law_1184 (lv_at hl 4 rfl) ?_
  refine lv_iconst (v := 1) hx hb dL_law_1186 (by decide) ?_
  refine lv_iadd hx hb dL_law_1187 ?_
  refine va_sld hx hb hXs hbl hbA hG.2.2 hb1 dL_law_1188 ?_
  refine lv_aload_n hx hb dL_law_1189 rfl (lv_at hl 0 rfl) ?_
  refine lv_iload hx hb dL_law_1190 (lv_at hl 4 rfl) ?_
  refine lv_iconst (v := 2) hx hb dL_law_1192 (by decide) ?_
  refine lv_iadd hx hb dL_law_1193 ?_
  refine va_sld hx hb hXs hbl hbA hG.2.2 hb2 dL_law_1194 ?_
  refine lv_aload_n hx hb dL_law_1195 rfl (lv_at hl 3 rfl) ?_
  replace hf := bd_some hf
  obtain ⟨q1, eq1, hf⟩ := hf
  refine lC_calli hL hG (lC_runSW F hL hX hG (c_L_pious l w hst n (g (x4 + (1 : Int32)).toNatClampNeg) (g (x4 + (2 : Int32)).toNatClampNeg) _ _ eq1) csw_174 ⟨by decide, by decide⟩ rfl hl.1 rfl (Nat.le_of_ble_eq_true rfl) dL_law_1196 ⟨by show 100 + 4 * j + 2 ≤ 601024; omega, by show 20000 + 24 * j + 12 ≤ 7293034; omega⟩) (fun H locs hG => ?_)
  refine W.widen (k := 100 + 4 * j + 4) (n := 20000 + 24 * j + 24) (by omega) (by omega) ?_
  refine lv_istore (lv' := [(5, .int q1.1), (0, .ref b), (1, .ref (w.2.2.1 0)), (2, .ref (ρ2 0)), (3, .ref (w.2.2.1 60)), (4, .int x4)]) hx hb dL_law_1199 hl (by decide) rfl (fun ls hl => ?_)
  refine lv_aload_n hx hb dL_law_1201 rfl (lv_at hl 3 rfl) ?_
  refine lv_aload_n hx hb dL_law_1202 rfl (lv_at hl 1 rfl) ?_
  refine lv_iload hx hb dL_law_1203 (lv_at hl 5 rfl) ?_
  refine lv_iconst (v := 1) hx hb dL_law_1205 (by decide) ?_
  refine lv_iadd hx hb dL_law_1206 ?_
  refine va_sld hx hb hXs hbl hbA hG.2.2 hb1 dL_law_1207 ?_
  refine lv_aload_n hx hb dL_law_1208 rfl (lv_at hl 1 rfl) ?_
  refine lv_iload hx hb dL_law_1209 (lv_at hl 5 rfl) ?_
  refine lv_iconst (v := 2) hx hb dL_law_1211 (by decide) ?_
  refine lv_iadd hx hb dL_law_1212 ?_
  refine va_sld hx hb hXs hbl hbA hG.2.2 hb2 dL_law_1213 ?_
  replace hf := bd_some hf
  obtain ⟨q2, eq2, hf⟩ := hf
  refine lM_calli hL hG (lM_runV F hL hG (c_X9_pious l (wM w ρ2) x0_ok n (g (x4 + (1 : Int32)).toNatClampNeg) (g (x4 + (2 : Int32)).toNatClampNeg) _ _ eq2) cv_L_176 ⟨by decide, by decide⟩ rfl hl.1 rfl (Nat.le_of_ble_eq_true rfl) dL_law_1214 ⟨by show 100 + 4 * j + 4 ≤ 601024; omega, by show 20000 + 24 * j + 24 ≤ 7293034; omega⟩) (fun H locs hG => ?_)
  refine lv_istore (lv' := [(6, .int q2.1), (5, .int q1.1), (0, .ref b), (1, .ref (w.2.2.1 0)), (2, .ref (ρ2 0)), (3, .ref (w.2.2.1 60)), (4, .int x4)]) hx hb dL_law_1217 hl (by decide) rfl (fun ls hl => ?_)
  refine lv_aload_n hx hb dL_law_1219 rfl (lv_at hl 4 rfl) ?_
  replace hf := bd_some hf
  obtain ⟨q3, eq3, hf⟩ := hf
  refine lM_calli hL hG (lM_runV F hL hG (c_X9_thrown l (wM w ρ2) x0_ok n  _ _ eq3) cv_L_110 ⟨by decide, by decide⟩ rfl hl.1 rfl (Nat.le_of_ble_eq_true rfl) dL_law_1220 ⟨by show 100 + 4 * j + 4 ≤ 601024; omega, by show 20000 + 24 * j + 24 ≤ 7293034; omega⟩) (fun H locs hG => ?_)
  refine lv_iload hx hb dL_law_1223 (lv_at hl 1 rfl) ?_
  refine lv_icmp_eq (tgt := 1230) hx hb dL_law_1225 (by decide) (fun c4 => ?_) (fun c4 => ?_)
  · replace hf := if_t c4 hf
    refine lv_iload hx hb dL_law_1230 (lv_at hl 1 rfl) ?_
    refine lv_if_ne (tgt := 1247) hx hb dL_law_1232 (by decide) (fun c5 => ?_) (fun c5 => ?_)
    · replace hf := if_f c5 hf
      refine lv_goto (tgt := 2170) hx hb dL_law_1247 (by decide) ?_
      refine lv_iinc (v := (x4 + (6 : Int32))) (lv' := [(4, .int (x4 + (6 : Int32))), (6, .int q2.1), (5, .int q1.1), (0, .ref b), (1, .ref (w.2.2.1 0)), (2, .ref (ρ2 0)), (3, .ref (w.2.2.1 60))]) hx hb dL_law_2170 hl (k := 6) rfl rfl (by decide) rfl (fun ls hl => ?_)
      refine lv_goto (tgt := 23) hx hb dL_law_2173 (by decide) ?_
      cases hf
      refine W.widen (k := 100 + 4 * (j + 1)) (n := 20000 + 24 * (j + 1)) (by omega) (by omega) ?_
      exact K _ _ ls hG (lv_sub hl [3, 4, 5, 6, 0] rfl)
    · replace hf := if_t c5 hf
      refine lv_aload_n hx hb dL_law_1235 rfl (lv_at hl 5 rfl) ?_
      refine lv_iconst (v := 0) hx hb dL_law_1236 (by decide) ?_
      refine l_out F hG dL_law_1237 ?_
      refine lv_iload hx hb dL_law_1238 (lv_at hl 0 rfl) ?_
      refine lv_i2l hx hb dL_law_1240 rfl ?_
      refine W.lcmp hx hb dL_law_1241 ?_
      refine lv_if_eq (tgt := 1247) hx hb dL_law_1242 (by decide) (fun c6 => ?_) (fun c6 => ?_)
      · replace hf := if_t c6 hf
        refine lv_goto (tgt := 2170) hx hb dL_law_1247 (by decide) ?_
        refine lv_iinc (v := (x4 + (6 : Int32))) (lv' := [(4, .int (x4 + (6 : Int32))), (6, .int q2.1), (5, .int q1.1), (0, .ref b), (1, .ref (w.2.2.1 0)), (2, .ref (ρ2 0)), (3, .ref (w.2.2.1 60))]) hx hb dL_law_2170 hl (k := 6) rfl rfl (by decide) rfl (fun ls hl => ?_)
        refine lv_goto (tgt := 23) hx hb dL_law_2173 (by decide) ?_
        cases hf
        refine W.widen (k := 100 + 4 * (j + 1)) (n := 20000 + 24 * (j + 1)) (by omega) (by omega) ?_
        exact K _ _ ls hG (lv_sub hl [3, 4, 5, 6, 0] rfl)
      · replace hf := if_f c6 hf
        cases hf
  · replace hf := if_f c4 hf
    cases hf

def lw_c20 (n : Nat) (g : Nat → Int32) (x4 : Int32) (M M2 : Mem) : Option (Mem × Mem) := bd (f_L_far n (g (x4 + (1 : Int32)).toNatClampNeg) (g (x4 + (2 : Int32)).toNatClampNeg) M) (fun q1 => bd (f_X9_far n (g (x4 + (1 : Int32)).toNatClampNeg) (g (x4 + (2 : Int32)).toNatClampNeg) M2) (fun q2 => bd (f_X9_thrown n  q2.2) (fun q3 => if q3.1 = q1.1 then (if q1.1 = 0 then (if (lg_cmp (gj q1.2 60 0) q2.1.toInt64) = 0 then (some (q1.2, q3.2)) else (none)) else (some (q1.2, q3.2))) else (none))))
set_option maxHeartbeats 4000000 in
set_option maxRecDepth 100000 in
theorem lw_case20 {p : Program} {l : Launch} {e : Env} {s : State} {m : MethodId} {below : List Frame} {meth : Method} {c : Code} {b L : Nat} {g : Nat → Int32} {w : Wd} {ρ2 : Nat → Nat} (C9 : LC p l s m c b L g w ρ2) (n j : Nat) (hj : j < 512) (x4 : Int32) (hbs : ∀ k : Int32, k = 0 ∨ k = 1 ∨ k = 2 ∨ k = 3 ∨ k = 4 ∨ k = 5 → vp_in (x4 + k) L) (M M2 M9 M8 : Mem) (hf : lw_c20 n g x4 M M2 = some (M9, M8)) (K : ∀ (H : Heap) (locs : List Loc) (ls : Array Slot), LG w ρ2 s M9 M8 H locs → lv_has ls 7 [(0, .ref b), (1, .ref (w.2.2.1 0)), (2, .ref (ρ2 0)), (3, .ref (w.2.2.1 60)), (4, .int (x4 + (6 : Int32)))] → W p l e room_1 s m #[Value.ref b] below meth c H locs (100 + 4 * (j + 1)) (20000 + 24 * (j + 1)) (lw_Z below #[Value.ref b] s) (F0 m 23 ls [])) (H : Heap) (locs : List Loc) (ls : Array Slot) (hG : LG w ρ2 s M M2 H locs) (hl : lv_has ls 7 [(0, .ref b), (1, .ref (w.2.2.1 0)), (2, .ref (ρ2 0)), (3, .ref (w.2.2.1 60)), (4, .int x4)]) : W p l e room_1 s m #[Value.ref b] below meth c H locs (100 + 4 * j) (20000 + 24 * j) (lw_Z below #[Value.ref b] s) (F0 m 1250 ls []) := by
  obtain ⟨F, hst, hL, hX, hXs, hbl⟩ := C9
  have hx := F.1.1
  have hb := F.1.2.1
  have hbA : ¬ A0 s b := Nat.not_le.mpr hbl
  have hb1 := hbs 1 (by decide)
  have hb2 := hbs 2 (by decide)
  have hb3 := hbs 3 (by decide)
  have hb4 := hbs 4 (by decide)
  have hb5 := hbs 5 (by decide)
  unfold lw_c20 at hf
  refine lv_aload_n hx hb dL_law_1250 rfl (lv_at hl 1 rfl) ?_
  refine lv_aload_n hx hb dL_law_1251 rfl (lv_at hl 0 rfl) ?_
  refine lv_iload hx hb dL_law_1252 (lv_at hl 4 rfl) ?_
  refine lv_iconst (v := 1) hx hb dL_law_1254 (by decide) ?_
  refine lv_iadd hx hb dL_law_1255 ?_
  refine va_sld hx hb hXs hbl hbA hG.2.2 hb1 dL_law_1256 ?_
  refine lv_aload_n hx hb dL_law_1257 rfl (lv_at hl 0 rfl) ?_
  refine lv_iload hx hb dL_law_1258 (lv_at hl 4 rfl) ?_
  refine lv_iconst (v := 2) hx hb dL_law_1260 (by decide) ?_
  refine lv_iadd hx hb dL_law_1261 ?_
  refine va_sld hx hb hXs hbl hbA hG.2.2 hb2 dL_law_1262 ?_
  refine lv_aload_n hx hb dL_law_1263 rfl (lv_at hl 3 rfl) ?_
  replace hf := bd_some hf
  obtain ⟨q1, eq1, hf⟩ := hf
  refine lC_calli hL hG (lC_runSW F hL hX hG (c_L_far l w hst n (g (x4 + (1 : Int32)).toNatClampNeg) (g (x4 + (2 : Int32)).toNatClampNeg) _ _ eq1) csw_177 ⟨by decide, by decide⟩ rfl hl.1 rfl (Nat.le_of_ble_eq_true rfl) dL_law_1264 ⟨by show 100 + 4 * j + 2 ≤ 601024; omega, by show 20000 + 24 * j + 12 ≤ 7293034; omega⟩) (fun H locs hG => ?_)
  refine W.widen (k := 100 + 4 * j + 4) (n := 20000 + 24 * j + 24) (by omega) (by omega) ?_
  refine lv_istore (lv' := [(5, .int q1.1), (0, .ref b), (1, .ref (w.2.2.1 0)), (2, .ref (ρ2 0)), (3, .ref (w.2.2.1 60)), (4, .int x4)]) hx hb dL_law_1267 hl (by decide) rfl (fun ls hl => ?_)
  refine lv_aload_n hx hb dL_law_1269 rfl (lv_at hl 3 rfl) ?_
  refine lv_aload_n hx hb dL_law_1270 rfl (lv_at hl 1 rfl) ?_
  refine lv_iload hx hb dL_law_1271 (lv_at hl 5 rfl) ?_
  refine lv_iconst (v := 1) hx hb dL_law_1273 (by decide) ?_
  refine lv_iadd hx hb dL_law_1274 ?_
  refine va_sld hx hb hXs hbl hbA hG.2.2 hb1 dL_law_1275 ?_
  refine lv_aload_n hx hb dL_law_1276 rfl (lv_at hl 1 rfl) ?_
  refine lv_iload hx hb dL_law_1277 (lv_at hl 5 rfl) ?_
  refine lv_iconst (v := 2) hx hb dL_law_1279 (by decide) ?_
  refine lv_iadd hx hb dL_law_1280 ?_
  refine va_sld hx hb hXs hbl hbA hG.2.2 hb2 dL_law_1281 ?_
  replace hf := bd_some hf
  obtain ⟨q2, eq2, hf⟩ := hf
  refine lM_calli hL hG (lM_runV F hL hG (c_X9_far l (wM w ρ2) x0_ok n (g (x4 + (1 : Int32)).toNatClampNeg) (g (x4 + (2 : Int32)).toNatClampNeg) _ _ eq2) cv_L_179 ⟨by decide, by decide⟩ rfl hl.1 rfl (Nat.le_of_ble_eq_true rfl) dL_law_1282 ⟨by show 100 + 4 * j + 4 ≤ 601024; omega, by show 20000 + 24 * j + 24 ≤ 7293034; omega⟩) (fun H locs hG => ?_)
  refine lv_istore (lv' := [(6, .int q2.1), (5, .int q1.1), (0, .ref b), (1, .ref (w.2.2.1 0)), (2, .ref (ρ2 0)), (3, .ref (w.2.2.1 60)), (4, .int x4)]) hx hb dL_law_1285 hl (by decide) rfl (fun ls hl => ?_)
  refine lv_aload_n hx hb dL_law_1287 rfl (lv_at hl 4 rfl) ?_
  replace hf := bd_some hf
  obtain ⟨q3, eq3, hf⟩ := hf
  refine lM_calli hL hG (lM_runV F hL hG (c_X9_thrown l (wM w ρ2) x0_ok n  _ _ eq3) cv_L_110 ⟨by decide, by decide⟩ rfl hl.1 rfl (Nat.le_of_ble_eq_true rfl) dL_law_1288 ⟨by show 100 + 4 * j + 4 ≤ 601024; omega, by show 20000 + 24 * j + 24 ≤ 7293034; omega⟩) (fun H locs hG => ?_)
  refine lv_iload hx hb dL_law_1291 (lv_at hl 1 rfl) ?_
  refine lv_icmp_eq (tgt := 1298) hx hb dL_law_1293 (by decide) (fun c4 => ?_) (fun c4 => ?_)
  · replace hf := if_t c4 hf
    refine lv_iload hx hb dL_law_1298 (lv_at hl 1 rfl) ?_
    refine lv_if_ne (tgt := 1315) hx hb dL_law_1300 (by decide) (fun c5 => ?_) (fun c5 => ?_)
    · replace hf := if_f c5 hf
      refine lv_goto (tgt := 2170) hx hb dL_law_1315 (by decide) ?_
      refine lv_iinc (v := (x4 + (6 : Int32))) (lv' := [(4, .int (x4 + (6 : Int32))), (6, .int q2.1), (5, .int q1.1), (0, .ref b), (1, .ref (w.2.2.1 0)), (2, .ref (ρ2 0)), (3, .ref (w.2.2.1 60))]) hx hb dL_law_2170 hl (k := 6) rfl rfl (by decide) rfl (fun ls hl => ?_)
      refine lv_goto (tgt := 23) hx hb dL_law_2173 (by decide) ?_
      cases hf
      refine W.widen (k := 100 + 4 * (j + 1)) (n := 20000 + 24 * (j + 1)) (by omega) (by omega) ?_
      exact K _ _ ls hG (lv_sub hl [3, 4, 5, 6, 0] rfl)
    · replace hf := if_t c5 hf
      refine lv_aload_n hx hb dL_law_1303 rfl (lv_at hl 5 rfl) ?_
      refine lv_iconst (v := 0) hx hb dL_law_1304 (by decide) ?_
      refine l_out F hG dL_law_1305 ?_
      refine lv_iload hx hb dL_law_1306 (lv_at hl 0 rfl) ?_
      refine lv_i2l hx hb dL_law_1308 rfl ?_
      refine W.lcmp hx hb dL_law_1309 ?_
      refine lv_if_eq (tgt := 1315) hx hb dL_law_1310 (by decide) (fun c6 => ?_) (fun c6 => ?_)
      · replace hf := if_t c6 hf
        refine lv_goto (tgt := 2170) hx hb dL_law_1315 (by decide) ?_
        refine lv_iinc (v := (x4 + (6 : Int32))) (lv' := [(4, .int (x4 + (6 : Int32))), (6, .int q2.1), (5, .int q1.1), (0, .ref b), (1, .ref (w.2.2.1 0)), (2, .ref (ρ2 0)), (3, .ref (w.2.2.1 60))]) hx hb dL_law_2170 hl (k := 6) rfl rfl (by decide) rfl (fun ls hl => ?_)
        refine lv_goto (tgt := 23) hx hb dL_law_2173 (by decide) ?_
        cases hf
        refine W.widen (k := 100 + 4 * (j + 1)) (n := 20000 + 24 * (j + 1)) (by omega) (by omega) ?_
        exact K _ _ ls hG (lv_sub hl [3, 4, 5, 6, 0] rfl)
      · replace hf := if_f c6 hf
        cases hf
  · replace hf := if_f c4 hf
    cases hf

def lw_c21 (n : Nat) (g : Nat → Int32) (x4 : Int32) (M M2 : Mem) : Option (Mem × Mem) := bd (f_L_apart n (g (x4 + (1 : Int32)).toNatClampNeg) (g (x4 + (2 : Int32)).toNatClampNeg) M) (fun q1 => bd (f_X9_apart n (g (x4 + (1 : Int32)).toNatClampNeg) (g (x4 + (2 : Int32)).toNatClampNeg) M2) (fun q2 => bd (f_X9_thrown n  q2.2) (fun q3 => if q3.1 = q1.1 then (if q1.1 = 0 then (if (lg_cmp (gj q1.2 60 0) q2.1.toInt64) = 0 then (some (q1.2, q3.2)) else (none)) else (some (q1.2, q3.2))) else (none))))
set_option maxHeartbeats 4000000 in
set_option maxRecDepth 100000 in
theorem lw_case21 {p : Program} {l : Launch} {e : Env} {s : State} {m : MethodId} {below : List Frame} {meth : Method} {c : Code} {b L : Nat} {g : Nat → Int32} {w : Wd} {ρ2 : Nat → Nat} (C9 : LC p l s m c b L g w ρ2) (n j : Nat) (hj : j < 512) (x4 : Int32) (hbs : ∀ k : Int32, k = 0 ∨ k = 1 ∨ k = 2 ∨ k = 3 ∨ k = 4 ∨ k = 5 → vp_in (x4 + k) L) (M M2 M9 M8 : Mem) (hf : lw_c21 n g x4 M M2 = some (M9, M8)) (K : ∀ (H : Heap) (locs : List Loc) (ls : Array Slot), LG w ρ2 s M9 M8 H locs → lv_has ls 7 [(0, .ref b), (1, .ref (w.2.2.1 0)), (2, .ref (ρ2 0)), (3, .ref (w.2.2.1 60)), (4, .int (x4 + (6 : Int32)))] → W p l e room_1 s m #[Value.ref b] below meth c H locs (100 + 4 * (j + 1)) (20000 + 24 * (j + 1)) (lw_Z below #[Value.ref b] s) (F0 m 23 ls [])) (H : Heap) (locs : List Loc) (ls : Array Slot) (hG : LG w ρ2 s M M2 H locs) (hl : lv_has ls 7 [(0, .ref b), (1, .ref (w.2.2.1 0)), (2, .ref (ρ2 0)), (3, .ref (w.2.2.1 60)), (4, .int x4)]) : W p l e room_1 s m #[Value.ref b] below meth c H locs (100 + 4 * j) (20000 + 24 * j) (lw_Z below #[Value.ref b] s) (F0 m 1318 ls []) := by
  obtain ⟨F, hst, hL, hX, hXs, hbl⟩ := C9
  have hx := F.1.1
  have hb := F.1.2.1
  have hbA : ¬ A0 s b := Nat.not_le.mpr hbl
  have hb1 := hbs 1 (by decide)
  have hb2 := hbs 2 (by decide)
  have hb3 := hbs 3 (by decide)
  have hb4 := hbs 4 (by decide)
  have hb5 := hbs 5 (by decide)
  unfold lw_c21 at hf
  refine lv_aload_n hx hb dL_law_1318 rfl (lv_at hl 1 rfl) ?_
  refine lv_aload_n hx hb dL_law_1319 rfl (lv_at hl 0 rfl) ?_
  refine lv_iload hx hb dL_law_1320 (lv_at hl 4 rfl) ?_
  refine lv_iconst (v := 1) hx hb dL_law_1322 (by decide) ?_
  refine lv_iadd hx hb dL_law_1323 ?_
  refine va_sld hx hb hXs hbl hbA hG.2.2 hb1 dL_law_1324 ?_
  refine lv_aload_n hx hb dL_law_1325 rfl (lv_at hl 0 rfl) ?_
  refine lv_iload hx hb dL_law_1326 (lv_at hl 4 rfl) ?_
  refine lv_iconst (v := 2) hx hb dL_law_1328 (by decide) ?_
  refine lv_iadd hx hb dL_law_1329 ?_
  refine va_sld hx hb hXs hbl hbA hG.2.2 hb2 dL_law_1330 ?_
  refine lv_aload_n hx hb dL_law_1331 rfl (lv_at hl 3 rfl) ?_
  replace hf := bd_some hf
  obtain ⟨q1, eq1, hf⟩ := hf
  refine lC_calli hL hG (lC_runSW F hL hX hG (c_L_apart l w hst n (g (x4 + (1 : Int32)).toNatClampNeg) (g (x4 + (2 : Int32)).toNatClampNeg) _ _ eq1) csw_180 ⟨by decide, by decide⟩ rfl hl.1 rfl (Nat.le_of_ble_eq_true rfl) dL_law_1332 ⟨by show 100 + 4 * j + 2 ≤ 601024; omega, by show 20000 + 24 * j + 12 ≤ 7293034; omega⟩) (fun H locs hG => ?_)
  refine W.widen (k := 100 + 4 * j + 4) (n := 20000 + 24 * j + 24) (by omega) (by omega) ?_
  refine lv_istore (lv' := [(5, .int q1.1), (0, .ref b), (1, .ref (w.2.2.1 0)), (2, .ref (ρ2 0)), (3, .ref (w.2.2.1 60)), (4, .int x4)]) hx hb dL_law_1335 hl (by decide) rfl (fun ls hl => ?_)
  refine lv_aload_n hx hb dL_law_1337 rfl (lv_at hl 3 rfl) ?_
  refine lv_aload_n hx hb dL_law_1338 rfl (lv_at hl 1 rfl) ?_
  refine lv_iload hx hb dL_law_1339 (lv_at hl 5 rfl) ?_
  refine lv_iconst (v := 1) hx hb dL_law_1341 (by decide) ?_
  refine lv_iadd hx hb dL_law_1342 ?_
  refine va_sld hx hb hXs hbl hbA hG.2.2 hb1 dL_law_1343 ?_
  refine lv_aload_n hx hb dL_law_1344 rfl (lv_at hl 1 rfl) ?_
  refine lv_iload hx hb dL_law_1345 (lv_at hl 5 rfl) ?_
  refine lv_iconst (v := 2) hx hb dL_law_1347 (by decide) ?_
  refine lv_iadd hx hb dL_law_1348 ?_
  refine va_sld hx hb hXs hbl hbA hG.2.2 hb2 dL_law_1349 ?_
  replace hf := bd_some hf
  obtain ⟨q2, eq2, hf⟩ := hf
  refine lM_calli hL hG (lM_runV F hL hG (c_X9_apart l (wM w ρ2) x0_ok n (g (x4 + (1 : Int32)).toNatClampNeg) (g (x4 + (2 : Int32)).toNatClampNeg) _ _ eq2) cv_L_182 ⟨by decide, by decide⟩ rfl hl.1 rfl (Nat.le_of_ble_eq_true rfl) dL_law_1350 ⟨by show 100 + 4 * j + 4 ≤ 601024; omega, by show 20000 + 24 * j + 24 ≤ 7293034; omega⟩) (fun H locs hG => ?_)
  refine lv_istore (lv' := [(6, .int q2.1), (5, .int q1.1), (0, .ref b), (1, .ref (w.2.2.1 0)), (2, .ref (ρ2 0)), (3, .ref (w.2.2.1 60)), (4, .int x4)]) hx hb dL_law_1353 hl (by decide) rfl (fun ls hl => ?_)
  refine lv_aload_n hx hb dL_law_1355 rfl (lv_at hl 4 rfl) ?_
  replace hf := bd_some hf
  obtain ⟨q3, eq3, hf⟩ := hf
  refine lM_calli hL hG (lM_runV F hL hG (c_X9_thrown l (wM w ρ2) x0_ok n  _ _ eq3) cv_L_110 ⟨by decide, by decide⟩ rfl hl.1 rfl (Nat.le_of_ble_eq_true rfl) dL_law_1356 ⟨by show 100 + 4 * j + 4 ≤ 601024; omega, by show 20000 + 24 * j + 24 ≤ 7293034; omega⟩) (fun H locs hG => ?_)
  refine lv_iload hx hb dL_law_1359 (lv_at hl 1 rfl) ?_
  refine lv_icmp_eq (tgt := 1366) hx hb dL_law_1361 (by decide) (fun c4 => ?_) (fun c4 => ?_)
  · replace hf := if_t c4 hf
    refine lv_iload hx hb dL_law_1366 (lv_at hl 1 rfl) ?_
    refine lv_if_ne (tgt := 1383) hx hb dL_law_1368 (by decide) (fun c5 => ?_) (fun c5 => ?_)
    · replace hf := if_f c5 hf
      refine lv_goto (tgt := 2170) hx hb dL_law_1383 (by decide) ?_
      refine lv_iinc (v := (x4 + (6 : Int32))) (lv' := [(4, .int (x4 + (6 : Int32))), (6, .int q2.1), (5, .int q1.1), (0, .ref b), (1, .ref (w.2.2.1 0)), (2, .ref (ρ2 0)), (3, .ref (w.2.2.1 60))]) hx hb dL_law_2170 hl (k := 6) rfl rfl (by decide) rfl (fun ls hl => ?_)
      refine lv_goto (tgt := 23) hx hb dL_law_2173 (by decide) ?_
      cases hf
      refine W.widen (k := 100 + 4 * (j + 1)) (n := 20000 + 24 * (j + 1)) (by omega) (by omega) ?_
      exact K _ _ ls hG (lv_sub hl [3, 4, 5, 6, 0] rfl)
    · replace hf := if_t c5 hf
      refine lv_aload_n hx hb dL_law_1371 rfl (lv_at hl 5 rfl) ?_
      refine lv_iconst (v := 0) hx hb dL_law_1372 (by decide) ?_
      refine l_out F hG dL_law_1373 ?_
      refine lv_iload hx hb dL_law_1374 (lv_at hl 0 rfl) ?_
      refine lv_i2l hx hb dL_law_1376 rfl ?_
      refine W.lcmp hx hb dL_law_1377 ?_
      refine lv_if_eq (tgt := 1383) hx hb dL_law_1378 (by decide) (fun c6 => ?_) (fun c6 => ?_)
      · replace hf := if_t c6 hf
        refine lv_goto (tgt := 2170) hx hb dL_law_1383 (by decide) ?_
        refine lv_iinc (v := (x4 + (6 : Int32))) (lv' := [(4, .int (x4 + (6 : Int32))), (6, .int q2.1), (5, .int q1.1), (0, .ref b), (1, .ref (w.2.2.1 0)), (2, .ref (ρ2 0)), (3, .ref (w.2.2.1 60))]) hx hb dL_law_2170 hl (k := 6) rfl rfl (by decide) rfl (fun ls hl => ?_)
        refine lv_goto (tgt := 23) hx hb dL_law_2173 (by decide) ?_
        cases hf
        refine W.widen (k := 100 + 4 * (j + 1)) (n := 20000 + 24 * (j + 1)) (by omega) (by omega) ?_
        exact K _ _ ls hG (lv_sub hl [3, 4, 5, 6, 0] rfl)
      · replace hf := if_f c6 hf
        cases hf
  · replace hf := if_f c4 hf
    cases hf

def lw_c22 (n : Nat) (g : Nat → Int32) (x4 : Int32) (M M2 : Mem) : Option (Mem × Mem) := bd (f_L_toPreach n (g (x4 + (1 : Int32)).toNatClampNeg) M) (fun q1 => bd (f_X9_toPreach n (g (x4 + (1 : Int32)).toNatClampNeg) M2) (fun q2 => bd (f_X9_thrown n  q2.2) (fun q3 => if q3.1 = q1.1 then (if q1.1 = 0 then (if (lg_cmp (gj q1.2 60 0) q2.1.toInt64) = 0 then (some (q1.2, q3.2)) else (none)) else (some (q1.2, q3.2))) else (none))))
set_option maxHeartbeats 4000000 in
set_option maxRecDepth 100000 in
theorem lw_case22 {p : Program} {l : Launch} {e : Env} {s : State} {m : MethodId} {below : List Frame} {meth : Method} {c : Code} {b L : Nat} {g : Nat → Int32} {w : Wd} {ρ2 : Nat → Nat} (C9 : LC p l s m c b L g w ρ2) (n j : Nat) (hj : j < 512) (x4 : Int32) (hbs : ∀ k : Int32, k = 0 ∨ k = 1 ∨ k = 2 ∨ k = 3 ∨ k = 4 ∨ k = 5 → vp_in (x4 + k) L) (M M2 M9 M8 : Mem) (hf : lw_c22 n g x4 M M2 = some (M9, M8)) (K : ∀ (H : Heap) (locs : List Loc) (ls : Array Slot), LG w ρ2 s M9 M8 H locs → lv_has ls 7 [(0, .ref b), (1, .ref (w.2.2.1 0)), (2, .ref (ρ2 0)), (3, .ref (w.2.2.1 60)), (4, .int (x4 + (6 : Int32)))] → W p l e room_1 s m #[Value.ref b] below meth c H locs (100 + 4 * (j + 1)) (20000 + 24 * (j + 1)) (lw_Z below #[Value.ref b] s) (F0 m 23 ls [])) (H : Heap) (locs : List Loc) (ls : Array Slot) (hG : LG w ρ2 s M M2 H locs) (hl : lv_has ls 7 [(0, .ref b), (1, .ref (w.2.2.1 0)), (2, .ref (ρ2 0)), (3, .ref (w.2.2.1 60)), (4, .int x4)]) : W p l e room_1 s m #[Value.ref b] below meth c H locs (100 + 4 * j) (20000 + 24 * j) (lw_Z below #[Value.ref b] s) (F0 m 1386 ls []) := by
  obtain ⟨F, hst, hL, hX, hXs, hbl⟩ := C9
  have hx := F.1.1
  have hb := F.1.2.1
  have hbA : ¬ A0 s b := Nat.not_le.mpr hbl
  have hb1 := hbs 1 (by decide)
  have hb2 := hbs 2 (by decide)
  have hb3 := hbs 3 (by decide)
  have hb4 := hbs 4 (by decide)
  have hb5 := hbs 5 (by decide)
  unfold lw_c22 at hf
  refine lv_aload_n hx hb dL_law_1386 rfl (lv_at hl 1 rfl) ?_
  refine lv_aload_n hx hb dL_law_1387 rfl (lv_at hl 0 rfl) ?_
  refine lv_iload hx hb dL_law_1388 (lv_at hl 4 rfl) ?_
  refine lv_iconst (v := 1) hx hb dL_law_1390 (by decide) ?_
  refine lv_iadd hx hb dL_law_1391 ?_
  refine va_sld hx hb hXs hbl hbA hG.2.2 hb1 dL_law_1392 ?_
  refine lv_aload_n hx hb dL_law_1393 rfl (lv_at hl 3 rfl) ?_
  replace hf := bd_some hf
  obtain ⟨q1, eq1, hf⟩ := hf
  refine lC_calli hL hG (lC_runSW F hL hX hG (c_L_toPreach l w hst n (g (x4 + (1 : Int32)).toNatClampNeg) _ _ eq1) csw_183 ⟨by decide, by decide⟩ rfl hl.1 rfl (Nat.le_of_ble_eq_true rfl) dL_law_1394 ⟨by show 100 + 4 * j + 1 ≤ 601024; omega, by show 20000 + 24 * j + 6 ≤ 7293034; omega⟩) (fun H locs hG => ?_)
  refine W.widen (k := 100 + 4 * j + 4) (n := 20000 + 24 * j + 24) (by omega) (by omega) ?_
  refine lv_istore (lv' := [(5, .int q1.1), (0, .ref b), (1, .ref (w.2.2.1 0)), (2, .ref (ρ2 0)), (3, .ref (w.2.2.1 60)), (4, .int x4)]) hx hb dL_law_1397 hl (by decide) rfl (fun ls hl => ?_)
  refine lv_aload_n hx hb dL_law_1399 rfl (lv_at hl 3 rfl) ?_
  refine lv_aload_n hx hb dL_law_1400 rfl (lv_at hl 1 rfl) ?_
  refine lv_iload hx hb dL_law_1401 (lv_at hl 5 rfl) ?_
  refine lv_iconst (v := 1) hx hb dL_law_1403 (by decide) ?_
  refine lv_iadd hx hb dL_law_1404 ?_
  refine va_sld hx hb hXs hbl hbA hG.2.2 hb1 dL_law_1405 ?_
  replace hf := bd_some hf
  obtain ⟨q2, eq2, hf⟩ := hf
  refine lM_calli hL hG (lM_runV F hL hG (c_X9_toPreach l (wM w ρ2) x0_ok n (g (x4 + (1 : Int32)).toNatClampNeg) _ _ eq2) cv_L_185 ⟨by decide, by decide⟩ rfl hl.1 rfl (Nat.le_of_ble_eq_true rfl) dL_law_1406 ⟨by show 100 + 4 * j + 4 ≤ 601024; omega, by show 20000 + 24 * j + 24 ≤ 7293034; omega⟩) (fun H locs hG => ?_)
  refine lv_istore (lv' := [(6, .int q2.1), (5, .int q1.1), (0, .ref b), (1, .ref (w.2.2.1 0)), (2, .ref (ρ2 0)), (3, .ref (w.2.2.1 60)), (4, .int x4)]) hx hb dL_law_1409 hl (by decide) rfl (fun ls hl => ?_)
  refine lv_aload_n hx hb dL_law_1411 rfl (lv_at hl 4 rfl) ?_
  replace hf := bd_some hf
  obtain ⟨q3, eq3, hf⟩ := hf
  refine lM_calli hL hG (lM_runV F hL hG (c_X9_thrown l (wM w ρ2) x0_ok n  _ _ eq3) cv_L_110 ⟨by decide, by decide⟩ rfl hl.1 rfl (Nat.le_of_ble_eq_true rfl) dL_law_1412 ⟨by show 100 + 4 * j + 4 ≤ 601024; omega, by show 20000 + 24 * j + 24 ≤ 7293034; omega⟩) (fun H locs hG => ?_)
  refine lv_iload hx hb dL_law_1415 (lv_at hl 1 rfl) ?_
  refine lv_icmp_eq (tgt := 1422) hx hb dL_law_1417 (by decide) (fun c4 => ?_) (fun c4 => ?_)
  · replace hf := if_t c4 hf
    refine lv_iload hx hb dL_law_1422 (lv_at hl 1 rfl) ?_
    refine lv_if_ne (tgt := 1439) hx hb dL_law_1424 (by decide) (fun c5 => ?_) (fun c5 => ?_)
    · replace hf := if_f c5 hf
      refine lv_goto (tgt := 2170) hx hb dL_law_1439 (by decide) ?_
      refine lv_iinc (v := (x4 + (6 : Int32))) (lv' := [(4, .int (x4 + (6 : Int32))), (6, .int q2.1), (5, .int q1.1), (0, .ref b), (1, .ref (w.2.2.1 0)), (2, .ref (ρ2 0)), (3, .ref (w.2.2.1 60))]) hx hb dL_law_2170 hl (k := 6) rfl rfl (by decide) rfl (fun ls hl => ?_)
      refine lv_goto (tgt := 23) hx hb dL_law_2173 (by decide) ?_
      cases hf
      refine W.widen (k := 100 + 4 * (j + 1)) (n := 20000 + 24 * (j + 1)) (by omega) (by omega) ?_
      exact K _ _ ls hG (lv_sub hl [3, 4, 5, 6, 0] rfl)
    · replace hf := if_t c5 hf
      refine lv_aload_n hx hb dL_law_1427 rfl (lv_at hl 5 rfl) ?_
      refine lv_iconst (v := 0) hx hb dL_law_1428 (by decide) ?_
      refine l_out F hG dL_law_1429 ?_
      refine lv_iload hx hb dL_law_1430 (lv_at hl 0 rfl) ?_
      refine lv_i2l hx hb dL_law_1432 rfl ?_
      refine W.lcmp hx hb dL_law_1433 ?_
      refine lv_if_eq (tgt := 1439) hx hb dL_law_1434 (by decide) (fun c6 => ?_) (fun c6 => ?_)
      · replace hf := if_t c6 hf
        refine lv_goto (tgt := 2170) hx hb dL_law_1439 (by decide) ?_
        refine lv_iinc (v := (x4 + (6 : Int32))) (lv' := [(4, .int (x4 + (6 : Int32))), (6, .int q2.1), (5, .int q1.1), (0, .ref b), (1, .ref (w.2.2.1 0)), (2, .ref (ρ2 0)), (3, .ref (w.2.2.1 60))]) hx hb dL_law_2170 hl (k := 6) rfl rfl (by decide) rfl (fun ls hl => ?_)
        refine lv_goto (tgt := 23) hx hb dL_law_2173 (by decide) ?_
        cases hf
        refine W.widen (k := 100 + 4 * (j + 1)) (n := 20000 + 24 * (j + 1)) (by omega) (by omega) ?_
        exact K _ _ ls hG (lv_sub hl [3, 4, 5, 6, 0] rfl)
      · replace hf := if_f c6 hf
        cases hf
  · replace hf := if_f c4 hf
    cases hf

def lw_c23 (n : Nat) (g : Nat → Int32) (x4 : Int32) (M M2 : Mem) : Option (Mem × Mem) := bd (f_L_row n (g (x4 + (1 : Int32)).toNatClampNeg) (g (x4 + (2 : Int32)).toNatClampNeg) M) (fun q1 => bd (f_X9_row n (g (x4 + (1 : Int32)).toNatClampNeg) (g (x4 + (2 : Int32)).toNatClampNeg) M2) (fun q2 => bd (f_X9_thrown n  q2.2) (fun q3 => if q3.1 = q1.1 then (if q1.1 = 0 then (if (lg_cmp (gj q1.2 60 0) q2.1.toInt64) = 0 then (some (q1.2, q3.2)) else (none)) else (some (q1.2, q3.2))) else (none))))
set_option maxHeartbeats 4000000 in
set_option maxRecDepth 100000 in
theorem lw_case23 {p : Program} {l : Launch} {e : Env} {s : State} {m : MethodId} {below : List Frame} {meth : Method} {c : Code} {b L : Nat} {g : Nat → Int32} {w : Wd} {ρ2 : Nat → Nat} (C9 : LC p l s m c b L g w ρ2) (n j : Nat) (hj : j < 512) (x4 : Int32) (hbs : ∀ k : Int32, k = 0 ∨ k = 1 ∨ k = 2 ∨ k = 3 ∨ k = 4 ∨ k = 5 → vp_in (x4 + k) L) (M M2 M9 M8 : Mem) (hf : lw_c23 n g x4 M M2 = some (M9, M8)) (K : ∀ (H : Heap) (locs : List Loc) (ls : Array Slot), LG w ρ2 s M9 M8 H locs → lv_has ls 7 [(0, .ref b), (1, .ref (w.2.2.1 0)), (2, .ref (ρ2 0)), (3, .ref (w.2.2.1 60)), (4, .int (x4 + (6 : Int32)))] → W p l e room_1 s m #[Value.ref b] below meth c H locs (100 + 4 * (j + 1)) (20000 + 24 * (j + 1)) (lw_Z below #[Value.ref b] s) (F0 m 23 ls [])) (H : Heap) (locs : List Loc) (ls : Array Slot) (hG : LG w ρ2 s M M2 H locs) (hl : lv_has ls 7 [(0, .ref b), (1, .ref (w.2.2.1 0)), (2, .ref (ρ2 0)), (3, .ref (w.2.2.1 60)), (4, .int x4)]) : W p l e room_1 s m #[Value.ref b] below meth c H locs (100 + 4 * j) (20000 + 24 * j) (lw_Z below #[Value.ref b] s) (F0 m 1442 ls []) := by
  obtain ⟨F, hst, hL, hX, hXs, hbl⟩ := C9
  have hx := F.1.1
  have hb := F.1.2.1
  have hbA : ¬ A0 s b := Nat.not_le.mpr hbl
  have hb1 := hbs 1 (by decide)
  have hb2 := hbs 2 (by decide)
  have hb3 := hbs 3 (by decide)
  have hb4 := hbs 4 (by decide)
  have hb5 := hbs 5 (by decide)
  unfold lw_c23 at hf
  refine lv_aload_n hx hb dL_law_1442 rfl (lv_at hl 1 rfl) ?_
  refine lv_aload_n hx hb dL_law_1443 rfl (lv_at hl 0 rfl) ?_
  refine lv_iload hx hb dL_law_1444 (lv_at hl 4 rfl) ?_
  refine lv_iconst (v := 1) hx hb dL_law_1446 (by decide) ?_
  refine lv_iadd hx hb dL_law_1447 ?_
  refine va_sld hx hb hXs hbl hbA hG.2.2 hb1 dL_law_1448 ?_
  refine lv_aload_n hx hb dL_law_1449 rfl (lv_at hl 0 rfl) ?_
  refine lv_iload hx hb dL_law_1450 (lv_at hl 4 rfl) ?_
  refine lv_iconst (v := 2) hx hb dL_law_1452 (by decide) ?_
  refine lv_iadd hx hb dL_law_1453 ?_
  refine va_sld hx hb hXs hbl hbA hG.2.2 hb2 dL_law_1454 ?_
  refine lv_aload_n hx hb dL_law_1455 rfl (lv_at hl 3 rfl) ?_
  replace hf := bd_some hf
  obtain ⟨q1, eq1, hf⟩ := hf
  refine lC_calli hL hG (lC_runSW F hL hX hG (c_L_row l w hst n (g (x4 + (1 : Int32)).toNatClampNeg) (g (x4 + (2 : Int32)).toNatClampNeg) _ _ eq1) csw_186 ⟨by decide, by decide⟩ rfl hl.1 rfl (Nat.le_of_ble_eq_true rfl) dL_law_1456 ⟨by show 100 + 4 * j + 2 ≤ 601024; omega, by show 20000 + 24 * j + 12 ≤ 7293034; omega⟩) (fun H locs hG => ?_)
  refine W.widen (k := 100 + 4 * j + 4) (n := 20000 + 24 * j + 24) (by omega) (by omega) ?_
  refine lv_istore (lv' := [(5, .int q1.1), (0, .ref b), (1, .ref (w.2.2.1 0)), (2, .ref (ρ2 0)), (3, .ref (w.2.2.1 60)), (4, .int x4)]) hx hb dL_law_1459 hl (by decide) rfl (fun ls hl => ?_)
  refine lv_aload_n hx hb dL_law_1461 rfl (lv_at hl 3 rfl) ?_
  refine lv_aload_n hx hb dL_law_1462 rfl (lv_at hl 1 rfl) ?_
  refine lv_iload hx hb dL_law_1463 (lv_at hl 5 rfl) ?_
  refine lv_iconst (v := 1) hx hb dL_law_1465 (by decide) ?_
  refine lv_iadd hx hb dL_law_1466 ?_
  refine va_sld hx hb hXs hbl hbA hG.2.2 hb1 dL_law_1467 ?_
  refine lv_aload_n hx hb dL_law_1468 rfl (lv_at hl 1 rfl) ?_
  refine lv_iload hx hb dL_law_1469 (lv_at hl 5 rfl) ?_
  refine lv_iconst (v := 2) hx hb dL_law_1471 (by decide) ?_
  refine lv_iadd hx hb dL_law_1472 ?_
  refine va_sld hx hb hXs hbl hbA hG.2.2 hb2 dL_law_1473 ?_
  replace hf := bd_some hf
  obtain ⟨q2, eq2, hf⟩ := hf
  refine lM_calli hL hG (lM_runV F hL hG (c_X9_row l (wM w ρ2) x0_ok n (g (x4 + (1 : Int32)).toNatClampNeg) (g (x4 + (2 : Int32)).toNatClampNeg) _ _ eq2) cv_L_188 ⟨by decide, by decide⟩ rfl hl.1 rfl (Nat.le_of_ble_eq_true rfl) dL_law_1474 ⟨by show 100 + 4 * j + 4 ≤ 601024; omega, by show 20000 + 24 * j + 24 ≤ 7293034; omega⟩) (fun H locs hG => ?_)
  refine lv_istore (lv' := [(6, .int q2.1), (5, .int q1.1), (0, .ref b), (1, .ref (w.2.2.1 0)), (2, .ref (ρ2 0)), (3, .ref (w.2.2.1 60)), (4, .int x4)]) hx hb dL_law_1477 hl (by decide) rfl (fun ls hl => ?_)
  refine lv_aload_n hx hb dL_law_1479 rfl (lv_at hl 4 rfl) ?_
  replace hf := bd_some hf
  obtain ⟨q3, eq3, hf⟩ := hf
  refine lM_calli hL hG (lM_runV F hL hG (c_X9_thrown l (wM w ρ2) x0_ok n  _ _ eq3) cv_L_110 ⟨by decide, by decide⟩ rfl hl.1 rfl (Nat.le_of_ble_eq_true rfl) dL_law_1480 ⟨by show 100 + 4 * j + 4 ≤ 601024; omega, by show 20000 + 24 * j + 24 ≤ 7293034; omega⟩) (fun H locs hG => ?_)
  refine lv_iload hx hb dL_law_1483 (lv_at hl 1 rfl) ?_
  refine lv_icmp_eq (tgt := 1490) hx hb dL_law_1485 (by decide) (fun c4 => ?_) (fun c4 => ?_)
  · replace hf := if_t c4 hf
    refine lv_iload hx hb dL_law_1490 (lv_at hl 1 rfl) ?_
    refine lv_if_ne (tgt := 1507) hx hb dL_law_1492 (by decide) (fun c5 => ?_) (fun c5 => ?_)
    · replace hf := if_f c5 hf
      refine lv_goto (tgt := 2170) hx hb dL_law_1507 (by decide) ?_
      refine lv_iinc (v := (x4 + (6 : Int32))) (lv' := [(4, .int (x4 + (6 : Int32))), (6, .int q2.1), (5, .int q1.1), (0, .ref b), (1, .ref (w.2.2.1 0)), (2, .ref (ρ2 0)), (3, .ref (w.2.2.1 60))]) hx hb dL_law_2170 hl (k := 6) rfl rfl (by decide) rfl (fun ls hl => ?_)
      refine lv_goto (tgt := 23) hx hb dL_law_2173 (by decide) ?_
      cases hf
      refine W.widen (k := 100 + 4 * (j + 1)) (n := 20000 + 24 * (j + 1)) (by omega) (by omega) ?_
      exact K _ _ ls hG (lv_sub hl [3, 4, 5, 6, 0] rfl)
    · replace hf := if_t c5 hf
      refine lv_aload_n hx hb dL_law_1495 rfl (lv_at hl 5 rfl) ?_
      refine lv_iconst (v := 0) hx hb dL_law_1496 (by decide) ?_
      refine l_out F hG dL_law_1497 ?_
      refine lv_iload hx hb dL_law_1498 (lv_at hl 0 rfl) ?_
      refine lv_i2l hx hb dL_law_1500 rfl ?_
      refine W.lcmp hx hb dL_law_1501 ?_
      refine lv_if_eq (tgt := 1507) hx hb dL_law_1502 (by decide) (fun c6 => ?_) (fun c6 => ?_)
      · replace hf := if_t c6 hf
        refine lv_goto (tgt := 2170) hx hb dL_law_1507 (by decide) ?_
        refine lv_iinc (v := (x4 + (6 : Int32))) (lv' := [(4, .int (x4 + (6 : Int32))), (6, .int q2.1), (5, .int q1.1), (0, .ref b), (1, .ref (w.2.2.1 0)), (2, .ref (ρ2 0)), (3, .ref (w.2.2.1 60))]) hx hb dL_law_2170 hl (k := 6) rfl rfl (by decide) rfl (fun ls hl => ?_)
        refine lv_goto (tgt := 23) hx hb dL_law_2173 (by decide) ?_
        cases hf
        refine W.widen (k := 100 + 4 * (j + 1)) (n := 20000 + 24 * (j + 1)) (by omega) (by omega) ?_
        exact K _ _ ls hG (lv_sub hl [3, 4, 5, 6, 0] rfl)
      · replace hf := if_f c6 hf
        cases hf
  · replace hf := if_f c4 hf
    cases hf

def lw_c24 (n : Nat) (g : Nat → Int32) (x4 : Int32) (M M2 : Mem) : Option (Mem × Mem) := bd (f_L_toMortar n (g (x4 + (1 : Int32)).toNatClampNeg) M) (fun q1 => bd (f_X9_toMortar n (g (x4 + (1 : Int32)).toNatClampNeg) M2) (fun q2 => bd (f_X9_thrown n  q2.2) (fun q3 => if q3.1 = q1.1 then (if q1.1 = 0 then (if (lg_cmp (gj q1.2 60 0) q2.1.toInt64) = 0 then (some (q1.2, q3.2)) else (none)) else (some (q1.2, q3.2))) else (none))))
set_option maxHeartbeats 4000000 in
set_option maxRecDepth 100000 in
theorem lw_case24 {p : Program} {l : Launch} {e : Env} {s : State} {m : MethodId} {below : List Frame} {meth : Method} {c : Code} {b L : Nat} {g : Nat → Int32} {w : Wd} {ρ2 : Nat → Nat} (C9 : LC p l s m c b L g w ρ2) (n j : Nat) (hj : j < 512) (x4 : Int32) (hbs : ∀ k : Int32, k = 0 ∨ k = 1 ∨ k = 2 ∨ k = 3 ∨ k = 4 ∨ k = 5 → vp_in (x4 + k) L) (M M2 M9 M8 : Mem) (hf : lw_c24 n g x4 M M2 = some (M9, M8)) (K : ∀ (H : Heap) (locs : List Loc) (ls : Array Slot), LG w ρ2 s M9 M8 H locs → lv_has ls 7 [(0, .ref b), (1, .ref (w.2.2.1 0)), (2, .ref (ρ2 0)), (3, .ref (w.2.2.1 60)), (4, .int (x4 + (6 : Int32)))] → W p l e room_1 s m #[Value.ref b] below meth c H locs (100 + 4 * (j + 1)) (20000 + 24 * (j + 1)) (lw_Z below #[Value.ref b] s) (F0 m 23 ls [])) (H : Heap) (locs : List Loc) (ls : Array Slot) (hG : LG w ρ2 s M M2 H locs) (hl : lv_has ls 7 [(0, .ref b), (1, .ref (w.2.2.1 0)), (2, .ref (ρ2 0)), (3, .ref (w.2.2.1 60)), (4, .int x4)]) : W p l e room_1 s m #[Value.ref b] below meth c H locs (100 + 4 * j) (20000 + 24 * j) (lw_Z below #[Value.ref b] s) (F0 m 1510 ls []) := by
  obtain ⟨F, hst, hL, hX, hXs, hbl⟩ := C9
  have hx := F.1.1
  have hb := F.1.2.1
  have hbA : ¬ A0 s b := Nat.not_le.mpr hbl
  have hb1 := hbs 1 (by decide)
  have hb2 := hbs 2 (by decide)
  have hb3 := hbs 3 (by decide)
  have hb4 := hbs 4 (by decide)
  have hb5 := hbs 5 (by decide)
  unfold lw_c24 at hf
  refine lv_aload_n hx hb dL_law_1510 rfl (lv_at hl 1 rfl) ?_
  refine lv_aload_n hx hb dL_law_1511 rfl (lv_at hl 0 rfl) ?_
  refine lv_iload hx hb dL_law_1512 (lv_at hl 4 rfl) ?_
  refine lv_iconst (v := 1) hx hb dL_law_1514 (by decide) ?_
  refine lv_iadd hx hb dL_law_1515 ?_
  refine va_sld hx hb hXs hbl hbA hG.2.2 hb1 dL_law_1516 ?_
  refine lv_aload_n hx hb dL_law_1517 rfl (lv_at hl 3 rfl) ?_
  replace hf := bd_some hf
  obtain ⟨q1, eq1, hf⟩ := hf
  refine lC_calli hL hG (lC_runSW F hL hX hG (c_L_toMortar l w hst n (g (x4 + (1 : Int32)).toNatClampNeg) _ _ eq1) csw_189 ⟨by decide, by decide⟩ rfl hl.1 rfl (Nat.le_of_ble_eq_true rfl) dL_law_1518 ⟨by show 100 + 4 * j + 1 ≤ 601024; omega, by show 20000 + 24 * j + 6 ≤ 7293034; omega⟩) (fun H locs hG => ?_)
  refine W.widen (k := 100 + 4 * j + 4) (n := 20000 + 24 * j + 24) (by omega) (by omega) ?_
  refine lv_istore (lv' := [(5, .int q1.1), (0, .ref b), (1, .ref (w.2.2.1 0)), (2, .ref (ρ2 0)), (3, .ref (w.2.2.1 60)), (4, .int x4)]) hx hb dL_law_1521 hl (by decide) rfl (fun ls hl => ?_)
  refine lv_aload_n hx hb dL_law_1523 rfl (lv_at hl 3 rfl) ?_
  refine lv_aload_n hx hb dL_law_1524 rfl (lv_at hl 1 rfl) ?_
  refine lv_iload hx hb dL_law_1525 (lv_at hl 5 rfl) ?_
  refine lv_iconst (v := 1) hx hb dL_law_1527 (by decide) ?_
  refine lv_iadd hx hb dL_law_1528 ?_
  refine va_sld hx hb hXs hbl hbA hG.2.2 hb1 dL_law_1529 ?_
  replace hf := bd_some hf
  obtain ⟨q2, eq2, hf⟩ := hf
  refine lM_calli hL hG (lM_runV F hL hG (c_X9_toMortar l (wM w ρ2) x0_ok n (g (x4 + (1 : Int32)).toNatClampNeg) _ _ eq2) cv_L_191 ⟨by decide, by decide⟩ rfl hl.1 rfl (Nat.le_of_ble_eq_true rfl) dL_law_1530 ⟨by show 100 + 4 * j + 4 ≤ 601024; omega, by show 20000 + 24 * j + 24 ≤ 7293034; omega⟩) (fun H locs hG => ?_)
  refine lv_istore (lv' := [(6, .int q2.1), (5, .int q1.1), (0, .ref b), (1, .ref (w.2.2.1 0)), (2, .ref (ρ2 0)), (3, .ref (w.2.2.1 60)), (4, .int x4)]) hx hb dL_law_1533 hl (by decide) rfl (fun ls hl => ?_)
  refine lv_aload_n hx hb dL_law_1535 rfl (lv_at hl 4 rfl) ?_
  replace hf := bd_some hf
  obtain ⟨q3, eq3, hf⟩ := hf
  refine lM_calli hL hG (lM_runV F hL hG (c_X9_thrown l (wM w ρ2) x0_ok n  _ _ eq3) cv_L_110 ⟨by decide, by decide⟩ rfl hl.1 rfl (Nat.le_of_ble_eq_true rfl) dL_law_1536 ⟨by show 100 + 4 * j + 4 ≤ 601024; omega, by show 20000 + 24 * j + 24 ≤ 7293034; omega⟩) (fun H locs hG => ?_)
  refine lv_iload hx hb dL_law_1539 (lv_at hl 1 rfl) ?_
  refine lv_icmp_eq (tgt := 1546) hx hb dL_law_1541 (by decide) (fun c4 => ?_) (fun c4 => ?_)
  · replace hf := if_t c4 hf
    refine lv_iload hx hb dL_law_1546 (lv_at hl 1 rfl) ?_
    refine lv_if_ne (tgt := 1563) hx hb dL_law_1548 (by decide) (fun c5 => ?_) (fun c5 => ?_)
    · replace hf := if_f c5 hf
      refine lv_goto (tgt := 2170) hx hb dL_law_1563 (by decide) ?_
      refine lv_iinc (v := (x4 + (6 : Int32))) (lv' := [(4, .int (x4 + (6 : Int32))), (6, .int q2.1), (5, .int q1.1), (0, .ref b), (1, .ref (w.2.2.1 0)), (2, .ref (ρ2 0)), (3, .ref (w.2.2.1 60))]) hx hb dL_law_2170 hl (k := 6) rfl rfl (by decide) rfl (fun ls hl => ?_)
      refine lv_goto (tgt := 23) hx hb dL_law_2173 (by decide) ?_
      cases hf
      refine W.widen (k := 100 + 4 * (j + 1)) (n := 20000 + 24 * (j + 1)) (by omega) (by omega) ?_
      exact K _ _ ls hG (lv_sub hl [3, 4, 5, 6, 0] rfl)
    · replace hf := if_t c5 hf
      refine lv_aload_n hx hb dL_law_1551 rfl (lv_at hl 5 rfl) ?_
      refine lv_iconst (v := 0) hx hb dL_law_1552 (by decide) ?_
      refine l_out F hG dL_law_1553 ?_
      refine lv_iload hx hb dL_law_1554 (lv_at hl 0 rfl) ?_
      refine lv_i2l hx hb dL_law_1556 rfl ?_
      refine W.lcmp hx hb dL_law_1557 ?_
      refine lv_if_eq (tgt := 1563) hx hb dL_law_1558 (by decide) (fun c6 => ?_) (fun c6 => ?_)
      · replace hf := if_t c6 hf
        refine lv_goto (tgt := 2170) hx hb dL_law_1563 (by decide) ?_
        refine lv_iinc (v := (x4 + (6 : Int32))) (lv' := [(4, .int (x4 + (6 : Int32))), (6, .int q2.1), (5, .int q1.1), (0, .ref b), (1, .ref (w.2.2.1 0)), (2, .ref (ρ2 0)), (3, .ref (w.2.2.1 60))]) hx hb dL_law_2170 hl (k := 6) rfl rfl (by decide) rfl (fun ls hl => ?_)
        refine lv_goto (tgt := 23) hx hb dL_law_2173 (by decide) ?_
        cases hf
        refine W.widen (k := 100 + 4 * (j + 1)) (n := 20000 + 24 * (j + 1)) (by omega) (by omega) ?_
        exact K _ _ ls hG (lv_sub hl [3, 4, 5, 6, 0] rfl)
      · replace hf := if_f c6 hf
        cases hf
  · replace hf := if_f c4 hf
    cases hf

def lw_c25 (n : Nat) (g : Nat → Int32) (x4 : Int32) (M M2 : Mem) : Option (Mem × Mem) := bd (f_X8_see n (g (x4 + (1 : Int32)).toNatClampNeg) (g (x4 + (2 : Int32)).toNatClampNeg) M) (fun q1 => bd (f_X9_see n (g (x4 + (1 : Int32)).toNatClampNeg) (g (x4 + (2 : Int32)).toNatClampNeg) M2) (fun q2 => if q1.1 = q2.1 then (some (q1.2, q2.2)) else (none)))
set_option maxHeartbeats 4000000 in
set_option maxRecDepth 100000 in
theorem lw_case25 {p : Program} {l : Launch} {e : Env} {s : State} {m : MethodId} {below : List Frame} {meth : Method} {c : Code} {b L : Nat} {g : Nat → Int32} {w : Wd} {ρ2 : Nat → Nat} (C9 : LC p l s m c b L g w ρ2) (n j : Nat) (hj : j < 512) (x4 : Int32) (hbs : ∀ k : Int32, k = 0 ∨ k = 1 ∨ k = 2 ∨ k = 3 ∨ k = 4 ∨ k = 5 → vp_in (x4 + k) L) (M M2 M9 M8 : Mem) (hf : lw_c25 n g x4 M M2 = some (M9, M8)) (K : ∀ (H : Heap) (locs : List Loc) (ls : Array Slot), LG w ρ2 s M9 M8 H locs → lv_has ls 7 [(0, .ref b), (1, .ref (w.2.2.1 0)), (2, .ref (ρ2 0)), (3, .ref (w.2.2.1 60)), (4, .int (x4 + (6 : Int32)))] → W p l e room_1 s m #[Value.ref b] below meth c H locs (100 + 4 * (j + 1)) (20000 + 24 * (j + 1)) (lw_Z below #[Value.ref b] s) (F0 m 23 ls [])) (H : Heap) (locs : List Loc) (ls : Array Slot) (hG : LG w ρ2 s M M2 H locs) (hl : lv_has ls 7 [(0, .ref b), (1, .ref (w.2.2.1 0)), (2, .ref (ρ2 0)), (3, .ref (w.2.2.1 60)), (4, .int x4)]) : W p l e room_1 s m #[Value.ref b] below meth c H locs (100 + 4 * j) (20000 + 24 * j) (lw_Z below #[Value.ref b] s) (F0 m 1566 ls []) := by
  obtain ⟨F, hst, hL, hX, hXs, hbl⟩ := C9
  have hx := F.1.1
  have hb := F.1.2.1
  have hbA : ¬ A0 s b := Nat.not_le.mpr hbl
  have hb1 := hbs 1 (by decide)
  have hb2 := hbs 2 (by decide)
  have hb3 := hbs 3 (by decide)
  have hb4 := hbs 4 (by decide)
  have hb5 := hbs 5 (by decide)
  unfold lw_c25 at hf
  refine lv_aload_n hx hb dL_law_1566 rfl (lv_at hl 1 rfl) ?_
  refine lv_aload_n hx hb dL_law_1567 rfl (lv_at hl 0 rfl) ?_
  refine lv_iload hx hb dL_law_1568 (lv_at hl 4 rfl) ?_
  refine lv_iconst (v := 1) hx hb dL_law_1570 (by decide) ?_
  refine lv_iadd hx hb dL_law_1571 ?_
  refine va_sld hx hb hXs hbl hbA hG.2.2 hb1 dL_law_1572 ?_
  refine lv_aload_n hx hb dL_law_1573 rfl (lv_at hl 0 rfl) ?_
  refine lv_iload hx hb dL_law_1574 (lv_at hl 4 rfl) ?_
  refine lv_iconst (v := 2) hx hb dL_law_1576 (by decide) ?_
  refine lv_iadd hx hb dL_law_1577 ?_
  refine va_sld hx hb hXs hbl hbA hG.2.2 hb2 dL_law_1578 ?_
  replace hf := bd_some hf
  obtain ⟨q1, eq1, hf⟩ := hf
  refine lC_calli hL hG (lC_runV F hL hX hG (c_X8_see l w n (g (x4 + (1 : Int32)).toNatClampNeg) (g (x4 + (2 : Int32)).toNatClampNeg) _ _ eq1) cv_L_192 ⟨by decide, by decide⟩ rfl hl.1 rfl (Nat.le_of_ble_eq_true rfl) dL_law_1579 ⟨by show 100 + 4 * j  ≤ 601024; omega, by show 20000 + 24 * j  ≤ 7293034; omega⟩) (fun H locs hG => ?_)
  refine lv_aload_n hx hb dL_law_1582 rfl (lv_at hl 2 rfl) ?_
  refine lv_aload_n hx hb dL_law_1583 rfl (lv_at hl 0 rfl) ?_
  refine lv_iload hx hb dL_law_1584 (lv_at hl 4 rfl) ?_
  refine lv_iconst (v := 1) hx hb dL_law_1586 (by decide) ?_
  refine lv_iadd hx hb dL_law_1587 ?_
  refine va_sld hx hb hXs hbl hbA hG.2.2 hb1 dL_law_1588 ?_
  refine lv_aload_n hx hb dL_law_1589 rfl (lv_at hl 0 rfl) ?_
  refine lv_iload hx hb dL_law_1590 (lv_at hl 4 rfl) ?_
  refine lv_iconst (v := 2) hx hb dL_law_1592 (by decide) ?_
  refine lv_iadd hx hb dL_law_1593 ?_
  refine va_sld hx hb hXs hbl hbA hG.2.2 hb2 dL_law_1594 ?_
  replace hf := bd_some hf
  obtain ⟨q2, eq2, hf⟩ := hf
  refine lM_calli hL hG (lM_runV F hL hG (c_X9_see l (wM w ρ2) x0_ok n (g (x4 + (1 : Int32)).toNatClampNeg) (g (x4 + (2 : Int32)).toNatClampNeg) _ _ eq2) cv_L_195 ⟨by decide, by decide⟩ rfl hl.1 rfl (Nat.le_of_ble_eq_true rfl) dL_law_1595 ⟨by show 100 + 4 * j  ≤ 601024; omega, by show 20000 + 24 * j  ≤ 7293034; omega⟩) (fun H locs hG => ?_)
  refine lv_icmp_eq (tgt := 2170) hx hb dL_law_1598 (by decide) (fun c3 => ?_) (fun c3 => ?_)
  · replace hf := if_t c3 hf
    refine lv_iinc (v := (x4 + (6 : Int32))) (lv' := [(4, .int (x4 + (6 : Int32))), (0, .ref b), (1, .ref (w.2.2.1 0)), (2, .ref (ρ2 0)), (3, .ref (w.2.2.1 60))]) hx hb dL_law_2170 hl (k := 4) rfl rfl (by decide) rfl (fun ls hl => ?_)
    refine lv_goto (tgt := 23) hx hb dL_law_2173 (by decide) ?_
    cases hf
    refine W.widen (k := 100 + 4 * (j + 1)) (n := 20000 + 24 * (j + 1)) (by omega) (by omega) ?_
    exact K _ _ ls hG (lv_sub hl [1, 2, 3, 4, 0] rfl)
  · replace hf := if_f c3 hf
    cases hf

def lw_c26 (n : Nat) (g : Nat → Int32) (x4 : Int32) (M M2 : Mem) : Option (Mem × Mem) := bd (f_X8_forget n  M) (fun q1 => bd (f_X9_forget n  M2) (fun q2 => some (q1, q2)))
set_option maxHeartbeats 4000000 in
set_option maxRecDepth 100000 in
theorem lw_case26 {p : Program} {l : Launch} {e : Env} {s : State} {m : MethodId} {below : List Frame} {meth : Method} {c : Code} {b L : Nat} {g : Nat → Int32} {w : Wd} {ρ2 : Nat → Nat} (C9 : LC p l s m c b L g w ρ2) (n j : Nat) (hj : j < 512) (x4 : Int32) (hbs : ∀ k : Int32, k = 0 ∨ k = 1 ∨ k = 2 ∨ k = 3 ∨ k = 4 ∨ k = 5 → vp_in (x4 + k) L) (M M2 M9 M8 : Mem) (hf : lw_c26 n g x4 M M2 = some (M9, M8)) (K : ∀ (H : Heap) (locs : List Loc) (ls : Array Slot), LG w ρ2 s M9 M8 H locs → lv_has ls 7 [(0, .ref b), (1, .ref (w.2.2.1 0)), (2, .ref (ρ2 0)), (3, .ref (w.2.2.1 60)), (4, .int (x4 + (6 : Int32)))] → W p l e room_1 s m #[Value.ref b] below meth c H locs (100 + 4 * (j + 1)) (20000 + 24 * (j + 1)) (lw_Z below #[Value.ref b] s) (F0 m 23 ls [])) (H : Heap) (locs : List Loc) (ls : Array Slot) (hG : LG w ρ2 s M M2 H locs) (hl : lv_has ls 7 [(0, .ref b), (1, .ref (w.2.2.1 0)), (2, .ref (ρ2 0)), (3, .ref (w.2.2.1 60)), (4, .int x4)]) : W p l e room_1 s m #[Value.ref b] below meth c H locs (100 + 4 * j) (20000 + 24 * j) (lw_Z below #[Value.ref b] s) (F0 m 1603 ls []) := by
  obtain ⟨F, hst, hL, hX, hXs, hbl⟩ := C9
  have hx := F.1.1
  have hb := F.1.2.1
  have hbA : ¬ A0 s b := Nat.not_le.mpr hbl
  have hb1 := hbs 1 (by decide)
  have hb2 := hbs 2 (by decide)
  have hb3 := hbs 3 (by decide)
  have hb4 := hbs 4 (by decide)
  have hb5 := hbs 5 (by decide)
  unfold lw_c26 at hf
  refine lv_aload_n hx hb dL_law_1603 rfl (lv_at hl 1 rfl) ?_
  replace hf := bd_some hf
  obtain ⟨q1, eq1, hf⟩ := hf
  refine lC_callv hL hG (lC_runV F hL hX hG (c_X8_forget l w n  _ _ eq1) cv_L_196 ⟨by decide, by decide⟩ rfl hl.1 rfl (Nat.le_of_ble_eq_true rfl) dL_law_1604 ⟨by show 100 + 4 * j  ≤ 601024; omega, by show 20000 + 24 * j  ≤ 7293034; omega⟩) (fun H locs hG => ?_)
  refine lv_aload_n hx hb dL_law_1607 rfl (lv_at hl 2 rfl) ?_
  replace hf := bd_some hf
  obtain ⟨q2, eq2, hf⟩ := hf
  refine lM_callv hL hG (lM_runV F hL hG (c_X9_forget l (wM w ρ2) x0_ok n  _ _ eq2) cv_L_199 ⟨by decide, by decide⟩ rfl hl.1 rfl (Nat.le_of_ble_eq_true rfl) dL_law_1608 ⟨by show 100 + 4 * j  ≤ 601024; omega, by show 20000 + 24 * j  ≤ 7293034; omega⟩) (fun H locs hG => ?_)
  refine lv_goto (tgt := 2170) hx hb dL_law_1611 (by decide) ?_
  refine lv_iinc (v := (x4 + (6 : Int32))) (lv' := [(4, .int (x4 + (6 : Int32))), (0, .ref b), (1, .ref (w.2.2.1 0)), (2, .ref (ρ2 0)), (3, .ref (w.2.2.1 60))]) hx hb dL_law_2170 hl (k := 4) rfl rfl (by decide) rfl (fun ls hl => ?_)
  refine lv_goto (tgt := 23) hx hb dL_law_2173 (by decide) ?_
  cases hf
  refine W.widen (k := 100 + 4 * (j + 1)) (n := 20000 + 24 * (j + 1)) (by omega) (by omega) ?_
  exact K _ _ ls hG (lv_sub hl [1, 2, 3, 4, 0] rfl)

def lw_c27 (n : Nat) (g : Nat → Int32) (x4 : Int32) (M M2 : Mem) : Option (Mem × Mem) := bd (f_L_heavy n (g (x4 + (1 : Int32)).toNatClampNeg) M) (fun q1 => bd (f_X9_heavy n (g (x4 + (1 : Int32)).toNatClampNeg) M2) (fun q2 => bd (f_X9_thrown n  q2.2) (fun q3 => if q3.1 = q1.1 then (if q1.1 = 0 then (if (lg_cmp (gj q1.2 60 0) q2.1.toInt64) = 0 then (some (q1.2, q3.2)) else (none)) else (some (q1.2, q3.2))) else (none))))
set_option maxHeartbeats 4000000 in
set_option maxRecDepth 100000 in
theorem lw_case27 {p : Program} {l : Launch} {e : Env} {s : State} {m : MethodId} {below : List Frame} {meth : Method} {c : Code} {b L : Nat} {g : Nat → Int32} {w : Wd} {ρ2 : Nat → Nat} (C9 : LC p l s m c b L g w ρ2) (n j : Nat) (hj : j < 512) (x4 : Int32) (hbs : ∀ k : Int32, k = 0 ∨ k = 1 ∨ k = 2 ∨ k = 3 ∨ k = 4 ∨ k = 5 → vp_in (x4 + k) L) (M M2 M9 M8 : Mem) (hf : lw_c27 n g x4 M M2 = some (M9, M8)) (K : ∀ (H : Heap) (locs : List Loc) (ls : Array Slot), LG w ρ2 s M9 M8 H locs → lv_has ls 7 [(0, .ref b), (1, .ref (w.2.2.1 0)), (2, .ref (ρ2 0)), (3, .ref (w.2.2.1 60)), (4, .int (x4 + (6 : Int32)))] → W p l e room_1 s m #[Value.ref b] below meth c H locs (100 + 4 * (j + 1)) (20000 + 24 * (j + 1)) (lw_Z below #[Value.ref b] s) (F0 m 23 ls [])) (H : Heap) (locs : List Loc) (ls : Array Slot) (hG : LG w ρ2 s M M2 H locs) (hl : lv_has ls 7 [(0, .ref b), (1, .ref (w.2.2.1 0)), (2, .ref (ρ2 0)), (3, .ref (w.2.2.1 60)), (4, .int x4)]) : W p l e room_1 s m #[Value.ref b] below meth c H locs (100 + 4 * j) (20000 + 24 * j) (lw_Z below #[Value.ref b] s) (F0 m 1614 ls []) := by
  obtain ⟨F, hst, hL, hX, hXs, hbl⟩ := C9
  have hx := F.1.1
  have hb := F.1.2.1
  have hbA : ¬ A0 s b := Nat.not_le.mpr hbl
  have hb1 := hbs 1 (by decide)
  have hb2 := hbs 2 (by decide)
  have hb3 := hbs 3 (by decide)
  have hb4 := hbs 4 (by decide)
  have hb5 := hbs 5 (by decide)
  unfold lw_c27 at hf
  refine lv_aload_n hx hb dL_law_1614 rfl (lv_at hl 1 rfl) ?_
  refine lv_aload_n hx hb dL_law_1615 rfl (lv_at hl 0 rfl) ?_
  refine lv_iload hx hb dL_law_1616 (lv_at hl 4 rfl) ?_
  refine lv_iconst (v := 1) hx hb dL_law_1618 (by decide) ?_
  refine lv_iadd hx hb dL_law_1619 ?_
  refine va_sld hx hb hXs hbl hbA hG.2.2 hb1 dL_law_1620 ?_
  refine lv_aload_n hx hb dL_law_1621 rfl (lv_at hl 3 rfl) ?_
  replace hf := bd_some hf
  obtain ⟨q1, eq1, hf⟩ := hf
  refine lC_calli hL hG (lC_runSW F hL hX hG (c_L_heavy l w hst n (g (x4 + (1 : Int32)).toNatClampNeg) _ _ eq1) csw_200 ⟨by decide, by decide⟩ rfl hl.1 rfl (Nat.le_of_ble_eq_true rfl) dL_law_1622 ⟨by show 100 + 4 * j + 1 ≤ 601024; omega, by show 20000 + 24 * j + 6 ≤ 7293034; omega⟩) (fun H locs hG => ?_)
  refine W.widen (k := 100 + 4 * j + 4) (n := 20000 + 24 * j + 24) (by omega) (by omega) ?_
  refine lv_istore (lv' := [(5, .int q1.1), (0, .ref b), (1, .ref (w.2.2.1 0)), (2, .ref (ρ2 0)), (3, .ref (w.2.2.1 60)), (4, .int x4)]) hx hb dL_law_1625 hl (by decide) rfl (fun ls hl => ?_)
  refine lv_aload_n hx hb dL_law_1627 rfl (lv_at hl 3 rfl) ?_
  refine lv_aload_n hx hb dL_law_1628 rfl (lv_at hl 1 rfl) ?_
  refine lv_iload hx hb dL_law_1629 (lv_at hl 5 rfl) ?_
  refine lv_iconst (v := 1) hx hb dL_law_1631 (by decide) ?_
  refine lv_iadd hx hb dL_law_1632 ?_
  refine va_sld hx hb hXs hbl hbA hG.2.2 hb1 dL_law_1633 ?_
  replace hf := bd_some hf
  obtain ⟨q2, eq2, hf⟩ := hf
  refine lM_calli hL hG (lM_runV F hL hG (c_X9_heavy l (wM w ρ2) x0_ok n (g (x4 + (1 : Int32)).toNatClampNeg) _ _ eq2) cv_L_202 ⟨by decide, by decide⟩ rfl hl.1 rfl (Nat.le_of_ble_eq_true rfl) dL_law_1634 ⟨by show 100 + 4 * j + 4 ≤ 601024; omega, by show 20000 + 24 * j + 24 ≤ 7293034; omega⟩) (fun H locs hG => ?_)
  refine lv_istore (lv' := [(6, .int q2.1), (5, .int q1.1), (0, .ref b), (1, .ref (w.2.2.1 0)), (2, .ref (ρ2 0)), (3, .ref (w.2.2.1 60)), (4, .int x4)]) hx hb dL_law_1637 hl (by decide) rfl (fun ls hl => ?_)
  refine lv_aload_n hx hb dL_law_1639 rfl (lv_at hl 4 rfl) ?_
  replace hf := bd_some hf
  obtain ⟨q3, eq3, hf⟩ := hf
  refine lM_calli hL hG (lM_runV F hL hG (c_X9_thrown l (wM w ρ2) x0_ok n  _ _ eq3) cv_L_110 ⟨by decide, by decide⟩ rfl hl.1 rfl (Nat.le_of_ble_eq_true rfl) dL_law_1640 ⟨by show 100 + 4 * j + 4 ≤ 601024; omega, by show 20000 + 24 * j + 24 ≤ 7293034; omega⟩) (fun H locs hG => ?_)
  refine lv_iload hx hb dL_law_1643 (lv_at hl 1 rfl) ?_
  refine lv_icmp_eq (tgt := 1650) hx hb dL_law_1645 (by decide) (fun c4 => ?_) (fun c4 => ?_)
  · replace hf := if_t c4 hf
    refine lv_iload hx hb dL_law_1650 (lv_at hl 1 rfl) ?_
    refine lv_if_ne (tgt := 1667) hx hb dL_law_1652 (by decide) (fun c5 => ?_) (fun c5 => ?_)
    · replace hf := if_f c5 hf
      refine lv_goto (tgt := 2170) hx hb dL_law_1667 (by decide) ?_
      refine lv_iinc (v := (x4 + (6 : Int32))) (lv' := [(4, .int (x4 + (6 : Int32))), (6, .int q2.1), (5, .int q1.1), (0, .ref b), (1, .ref (w.2.2.1 0)), (2, .ref (ρ2 0)), (3, .ref (w.2.2.1 60))]) hx hb dL_law_2170 hl (k := 6) rfl rfl (by decide) rfl (fun ls hl => ?_)
      refine lv_goto (tgt := 23) hx hb dL_law_2173 (by decide) ?_
      cases hf
      refine W.widen (k := 100 + 4 * (j + 1)) (n := 20000 + 24 * (j + 1)) (by omega) (by omega) ?_
      exact K _ _ ls hG (lv_sub hl [3, 4, 5, 6, 0] rfl)
    · replace hf := if_t c5 hf
      refine lv_aload_n hx hb dL_law_1655 rfl (lv_at hl 5 rfl) ?_
      refine lv_iconst (v := 0) hx hb dL_law_1656 (by decide) ?_
      refine l_out F hG dL_law_1657 ?_
      refine lv_iload hx hb dL_law_1658 (lv_at hl 0 rfl) ?_
      refine lv_i2l hx hb dL_law_1660 rfl ?_
      refine W.lcmp hx hb dL_law_1661 ?_
      refine lv_if_eq (tgt := 1667) hx hb dL_law_1662 (by decide) (fun c6 => ?_) (fun c6 => ?_)
      · replace hf := if_t c6 hf
        refine lv_goto (tgt := 2170) hx hb dL_law_1667 (by decide) ?_
        refine lv_iinc (v := (x4 + (6 : Int32))) (lv' := [(4, .int (x4 + (6 : Int32))), (6, .int q2.1), (5, .int q1.1), (0, .ref b), (1, .ref (w.2.2.1 0)), (2, .ref (ρ2 0)), (3, .ref (w.2.2.1 60))]) hx hb dL_law_2170 hl (k := 6) rfl rfl (by decide) rfl (fun ls hl => ?_)
        refine lv_goto (tgt := 23) hx hb dL_law_2173 (by decide) ?_
        cases hf
        refine W.widen (k := 100 + 4 * (j + 1)) (n := 20000 + 24 * (j + 1)) (by omega) (by omega) ?_
        exact K _ _ ls hG (lv_sub hl [3, 4, 5, 6, 0] rfl)
      · replace hf := if_f c6 hf
        cases hf
  · replace hf := if_f c4 hf
    cases hf

def lw_c28 (n : Nat) (g : Nat → Int32) (x4 : Int32) (M M2 : Mem) : Option (Mem × Mem) := bd (f_L_look n (g (x4 + (1 : Int32)).toNatClampNeg) M) (fun q1 => bd (f_X9_look n (g (x4 + (1 : Int32)).toNatClampNeg) M2) (fun q2 => bd (f_X9_thrown n  q2.2) (fun q3 => if q3.1 = q1.1 then (if q1.1 = 0 then (if (lg_cmp (gj q1.2 60 0) q2.1.toInt64) = 0 then (some (q1.2, q3.2)) else (none)) else (some (q1.2, q3.2))) else (none))))
set_option maxHeartbeats 4000000 in
set_option maxRecDepth 100000 in
theorem lw_case28 {p : Program} {l : Launch} {e : Env} {s : State} {m : MethodId} {below : List Frame} {meth : Method} {c : Code} {b L : Nat} {g : Nat → Int32} {w : Wd} {ρ2 : Nat → Nat} (C9 : LC p l s m c b L g w ρ2) (n j : Nat) (hj : j < 512) (x4 : Int32) (hbs : ∀ k : Int32, k = 0 ∨ k = 1 ∨ k = 2 ∨ k = 3 ∨ k = 4 ∨ k = 5 → vp_in (x4 + k) L) (M M2 M9 M8 : Mem) (hf : lw_c28 n g x4 M M2 = some (M9, M8)) (K : ∀ (H : Heap) (locs : List Loc) (ls : Array Slot), LG w ρ2 s M9 M8 H locs → lv_has ls 7 [(0, .ref b), (1, .ref (w.2.2.1 0)), (2, .ref (ρ2 0)), (3, .ref (w.2.2.1 60)), (4, .int (x4 + (6 : Int32)))] → W p l e room_1 s m #[Value.ref b] below meth c H locs (100 + 4 * (j + 1)) (20000 + 24 * (j + 1)) (lw_Z below #[Value.ref b] s) (F0 m 23 ls [])) (H : Heap) (locs : List Loc) (ls : Array Slot) (hG : LG w ρ2 s M M2 H locs) (hl : lv_has ls 7 [(0, .ref b), (1, .ref (w.2.2.1 0)), (2, .ref (ρ2 0)), (3, .ref (w.2.2.1 60)), (4, .int x4)]) : W p l e room_1 s m #[Value.ref b] below meth c H locs (100 + 4 * j) (20000 + 24 * j) (lw_Z below #[Value.ref b] s) (F0 m 1670 ls []) := by
  obtain ⟨F, hst, hL, hX, hXs, hbl⟩ := C9
  have hx := F.1.1
  have hb := F.1.2.1
  have hbA : ¬ A0 s b := Nat.not_le.mpr hbl
  have hb1 := hbs 1 (by decide)
  have hb2 := hbs 2 (by decide)
  have hb3 := hbs 3 (by decide)
  have hb4 := hbs 4 (by decide)
  have hb5 := hbs 5 (by decide)
  unfold lw_c28 at hf
  refine lv_aload_n hx hb dL_law_1670 rfl (lv_at hl 1 rfl) ?_
  refine lv_aload_n hx hb dL_law_1671 rfl (lv_at hl 0 rfl) ?_
  refine lv_iload hx hb dL_law_1672 (lv_at hl 4 rfl) ?_
  refine lv_iconst (v := 1) hx hb dL_law_1674 (by decide) ?_
  refine lv_iadd hx hb dL_law_1675 ?_
  refine va_sld hx hb hXs hbl hbA hG.2.2 hb1 dL_law_1676 ?_
  refine lv_aload_n hx hb dL_law_1677 rfl (lv_at hl 3 rfl) ?_
  replace hf := bd_some hf
  obtain ⟨q1, eq1, hf⟩ := hf
  refine lC_calli hL hG (lC_runSW F hL hX hG (c_L_look l w hst n (g (x4 + (1 : Int32)).toNatClampNeg) _ _ eq1) csw_203 ⟨by decide, by decide⟩ rfl hl.1 rfl (Nat.le_of_ble_eq_true rfl) dL_law_1678 ⟨by show 100 + 4 * j + 1 ≤ 601024; omega, by show 20000 + 24 * j + 6 ≤ 7293034; omega⟩) (fun H locs hG => ?_)
  refine W.widen (k := 100 + 4 * j + 4) (n := 20000 + 24 * j + 24) (by omega) (by omega) ?_
  refine lv_istore (lv' := [(5, .int q1.1), (0, .ref b), (1, .ref (w.2.2.1 0)), (2, .ref (ρ2 0)), (3, .ref (w.2.2.1 60)), (4, .int x4)]) hx hb dL_law_1681 hl (by decide) rfl (fun ls hl => ?_)
  refine lv_aload_n hx hb dL_law_1683 rfl (lv_at hl 3 rfl) ?_
  refine lv_aload_n hx hb dL_law_1684 rfl (lv_at hl 1 rfl) ?_
  refine lv_iload hx hb dL_law_1685 (lv_at hl 5 rfl) ?_
  refine lv_iconst (v := 1) hx hb dL_law_1687 (by decide) ?_
  refine lv_iadd hx hb dL_law_1688 ?_
  refine va_sld hx hb hXs hbl hbA hG.2.2 hb1 dL_law_1689 ?_
  replace hf := bd_some hf
  obtain ⟨q2, eq2, hf⟩ := hf
  refine lM_calli hL hG (lM_runV F hL hG (c_X9_look l (wM w ρ2) x0_ok n (g (x4 + (1 : Int32)).toNatClampNeg) _ _ eq2) cv_L_205 ⟨by decide, by decide⟩ rfl hl.1 rfl (Nat.le_of_ble_eq_true rfl) dL_law_1690 ⟨by show 100 + 4 * j + 4 ≤ 601024; omega, by show 20000 + 24 * j + 24 ≤ 7293034; omega⟩) (fun H locs hG => ?_)
  refine lv_istore (lv' := [(6, .int q2.1), (5, .int q1.1), (0, .ref b), (1, .ref (w.2.2.1 0)), (2, .ref (ρ2 0)), (3, .ref (w.2.2.1 60)), (4, .int x4)]) hx hb dL_law_1693 hl (by decide) rfl (fun ls hl => ?_)
  refine lv_aload_n hx hb dL_law_1695 rfl (lv_at hl 4 rfl) ?_
  replace hf := bd_some hf
  obtain ⟨q3, eq3, hf⟩ := hf
  refine lM_calli hL hG (lM_runV F hL hG (c_X9_thrown l (wM w ρ2) x0_ok n  _ _ eq3) cv_L_110 ⟨by decide, by decide⟩ rfl hl.1 rfl (Nat.le_of_ble_eq_true rfl) dL_law_1696 ⟨by show 100 + 4 * j + 4 ≤ 601024; omega, by show 20000 + 24 * j + 24 ≤ 7293034; omega⟩) (fun H locs hG => ?_)
  refine lv_iload hx hb dL_law_1699 (lv_at hl 1 rfl) ?_
  refine lv_icmp_eq (tgt := 1706) hx hb dL_law_1701 (by decide) (fun c4 => ?_) (fun c4 => ?_)
  · replace hf := if_t c4 hf
    refine lv_iload hx hb dL_law_1706 (lv_at hl 1 rfl) ?_
    refine lv_if_ne (tgt := 1723) hx hb dL_law_1708 (by decide) (fun c5 => ?_) (fun c5 => ?_)
    · replace hf := if_f c5 hf
      refine lv_goto (tgt := 2170) hx hb dL_law_1723 (by decide) ?_
      refine lv_iinc (v := (x4 + (6 : Int32))) (lv' := [(4, .int (x4 + (6 : Int32))), (6, .int q2.1), (5, .int q1.1), (0, .ref b), (1, .ref (w.2.2.1 0)), (2, .ref (ρ2 0)), (3, .ref (w.2.2.1 60))]) hx hb dL_law_2170 hl (k := 6) rfl rfl (by decide) rfl (fun ls hl => ?_)
      refine lv_goto (tgt := 23) hx hb dL_law_2173 (by decide) ?_
      cases hf
      refine W.widen (k := 100 + 4 * (j + 1)) (n := 20000 + 24 * (j + 1)) (by omega) (by omega) ?_
      exact K _ _ ls hG (lv_sub hl [3, 4, 5, 6, 0] rfl)
    · replace hf := if_t c5 hf
      refine lv_aload_n hx hb dL_law_1711 rfl (lv_at hl 5 rfl) ?_
      refine lv_iconst (v := 0) hx hb dL_law_1712 (by decide) ?_
      refine l_out F hG dL_law_1713 ?_
      refine lv_iload hx hb dL_law_1714 (lv_at hl 0 rfl) ?_
      refine lv_i2l hx hb dL_law_1716 rfl ?_
      refine W.lcmp hx hb dL_law_1717 ?_
      refine lv_if_eq (tgt := 1723) hx hb dL_law_1718 (by decide) (fun c6 => ?_) (fun c6 => ?_)
      · replace hf := if_t c6 hf
        refine lv_goto (tgt := 2170) hx hb dL_law_1723 (by decide) ?_
        refine lv_iinc (v := (x4 + (6 : Int32))) (lv' := [(4, .int (x4 + (6 : Int32))), (6, .int q2.1), (5, .int q1.1), (0, .ref b), (1, .ref (w.2.2.1 0)), (2, .ref (ρ2 0)), (3, .ref (w.2.2.1 60))]) hx hb dL_law_2170 hl (k := 6) rfl rfl (by decide) rfl (fun ls hl => ?_)
        refine lv_goto (tgt := 23) hx hb dL_law_2173 (by decide) ?_
        cases hf
        refine W.widen (k := 100 + 4 * (j + 1)) (n := 20000 + 24 * (j + 1)) (by omega) (by omega) ?_
        exact K _ _ ls hG (lv_sub hl [3, 4, 5, 6, 0] rfl)
      · replace hf := if_f c6 hf
        cases hf
  · replace hf := if_f c4 hf
    cases hf

def lw_c29 (n : Nat) (g : Nat → Int32) (x4 : Int32) (M M2 : Mem) : Option (Mem × Mem) := bd (f_L_gales n (g (x4 + (1 : Int32)).toNatClampNeg) (g (x4 + (2 : Int32)).toNatClampNeg) M) (fun q1 => bd (f_X9_gales n (g (x4 + (1 : Int32)).toNatClampNeg) (g (x4 + (2 : Int32)).toNatClampNeg) M2) (fun q2 => bd (f_X9_thrown n  q2.2) (fun q3 => if q3.1 = q1.1 then (if q1.1 = 0 then (if (lg_cmp (gj q1.2 60 0) q2.1.toInt64) = 0 then (some (q1.2, q3.2)) else (none)) else (some (q1.2, q3.2))) else (none))))
set_option maxHeartbeats 4000000 in
set_option maxRecDepth 100000 in
theorem lw_case29 {p : Program} {l : Launch} {e : Env} {s : State} {m : MethodId} {below : List Frame} {meth : Method} {c : Code} {b L : Nat} {g : Nat → Int32} {w : Wd} {ρ2 : Nat → Nat} (C9 : LC p l s m c b L g w ρ2) (n j : Nat) (hj : j < 512) (x4 : Int32) (hbs : ∀ k : Int32, k = 0 ∨ k = 1 ∨ k = 2 ∨ k = 3 ∨ k = 4 ∨ k = 5 → vp_in (x4 + k) L) (M M2 M9 M8 : Mem) (hf : lw_c29 n g x4 M M2 = some (M9, M8)) (K : ∀ (H : Heap) (locs : List Loc) (ls : Array Slot), LG w ρ2 s M9 M8 H locs → lv_has ls 7 [(0, .ref b), (1, .ref (w.2.2.1 0)), (2, .ref (ρ2 0)), (3, .ref (w.2.2.1 60)), (4, .int (x4 + (6 : Int32)))] → W p l e room_1 s m #[Value.ref b] below meth c H locs (100 + 4 * (j + 1)) (20000 + 24 * (j + 1)) (lw_Z below #[Value.ref b] s) (F0 m 23 ls [])) (H : Heap) (locs : List Loc) (ls : Array Slot) (hG : LG w ρ2 s M M2 H locs) (hl : lv_has ls 7 [(0, .ref b), (1, .ref (w.2.2.1 0)), (2, .ref (ρ2 0)), (3, .ref (w.2.2.1 60)), (4, .int x4)]) : W p l e room_1 s m #[Value.ref b] below meth c H locs (100 + 4 * j) (20000 + 24 * j) (lw_Z below #[Value.ref b] s) (F0 m 1726 ls []) := by
  obtain ⟨F, hst, hL, hX, hXs, hbl⟩ := C9
  have hx := F.1.1
  have hb := F.1.2.1
  have hbA : ¬ A0 s b := Nat.not_le.mpr hbl
  have hb1 := hbs 1 (by decide)
  have hb2 := hbs 2 (by decide)
  have hb3 := hbs 3 (by decide)
  have hb4 := hbs 4 (by decide)
  have hb5 := hbs 5 (by decide)
  unfold lw_c29 at hf
  refine lv_aload_n hx hb dL_law_1726 rfl (lv_at hl 1 rfl) ?_
  refine lv_aload_n hx hb dL_law_1727 rfl (lv_at hl 0 rfl) ?_
  refine lv_iload hx hb dL_law_1728 (lv_at hl 4 rfl) ?_
  refine lv_iconst (v := 1) hx hb dL_law_1730 (by decide) ?_
  refine lv_iadd hx hb dL_law_1731 ?_
  refine va_sld hx hb hXs hbl hbA hG.2.2 hb1 dL_law_1732 ?_
  refine lv_aload_n hx hb dL_law_1733 rfl (lv_at hl 0 rfl) ?_
  refine lv_iload hx hb dL_law_1734 (lv_at hl 4 rfl) ?_
  refine lv_iconst (v := 2) hx hb dL_law_1736 (by decide) ?_
  refine lv_iadd hx hb dL_law_1737 ?_
  refine va_sld hx hb hXs hbl hbA hG.2.2 hb2 dL_law_1738 ?_
  refine lv_aload_n hx hb dL_law_1739 rfl (lv_at hl 3 rfl) ?_
  replace hf := bd_some hf
  obtain ⟨q1, eq1, hf⟩ := hf
  refine lC_calli hL hG (lC_runSW F hL hX hG (c_L_gales l w hst n (g (x4 + (1 : Int32)).toNatClampNeg) (g (x4 + (2 : Int32)).toNatClampNeg) _ _ eq1) csw_206 ⟨by decide, by decide⟩ rfl hl.1 rfl (Nat.le_of_ble_eq_true rfl) dL_law_1740 ⟨by show 100 + 4 * j + 2 ≤ 601024; omega, by show 20000 + 24 * j + 12 ≤ 7293034; omega⟩) (fun H locs hG => ?_)
  refine W.widen (k := 100 + 4 * j + 4) (n := 20000 + 24 * j + 24) (by omega) (by omega) ?_
  refine lv_istore (lv' := [(5, .int q1.1), (0, .ref b), (1, .ref (w.2.2.1 0)), (2, .ref (ρ2 0)), (3, .ref (w.2.2.1 60)), (4, .int x4)]) hx hb dL_law_1743 hl (by decide) rfl (fun ls hl => ?_)
  refine lv_aload_n hx hb dL_law_1745 rfl (lv_at hl 3 rfl) ?_
  refine lv_aload_n hx hb dL_law_1746 rfl (lv_at hl 1 rfl) ?_
  refine lv_iload hx hb dL_law_1747 (lv_at hl 5 rfl) ?_
  refine lv_iconst (v := 1) hx hb dL_law_1749 (by decide) ?_
  refine lv_iadd hx hb dL_law_1750 ?_
  refine va_sld hx hb hXs hbl hbA hG.2.2 hb1 dL_law_1751 ?_
  refine lv_aload_n hx hb dL_law_1752 rfl (lv_at hl 1 rfl) ?_
  refine lv_iload hx hb dL_law_1753 (lv_at hl 5 rfl) ?_
  refine lv_iconst (v := 2) hx hb dL_law_1755 (by decide) ?_
  refine lv_iadd hx hb dL_law_1756 ?_
  refine va_sld hx hb hXs hbl hbA hG.2.2 hb2 dL_law_1757 ?_
  replace hf := bd_some hf
  obtain ⟨q2, eq2, hf⟩ := hf
  refine lM_calli hL hG (lM_runV F hL hG (c_X9_gales l (wM w ρ2) x0_ok n (g (x4 + (1 : Int32)).toNatClampNeg) (g (x4 + (2 : Int32)).toNatClampNeg) _ _ eq2) cv_L_208 ⟨by decide, by decide⟩ rfl hl.1 rfl (Nat.le_of_ble_eq_true rfl) dL_law_1758 ⟨by show 100 + 4 * j + 4 ≤ 601024; omega, by show 20000 + 24 * j + 24 ≤ 7293034; omega⟩) (fun H locs hG => ?_)
  refine lv_istore (lv' := [(6, .int q2.1), (5, .int q1.1), (0, .ref b), (1, .ref (w.2.2.1 0)), (2, .ref (ρ2 0)), (3, .ref (w.2.2.1 60)), (4, .int x4)]) hx hb dL_law_1761 hl (by decide) rfl (fun ls hl => ?_)
  refine lv_aload_n hx hb dL_law_1763 rfl (lv_at hl 4 rfl) ?_
  replace hf := bd_some hf
  obtain ⟨q3, eq3, hf⟩ := hf
  refine lM_calli hL hG (lM_runV F hL hG (c_X9_thrown l (wM w ρ2) x0_ok n  _ _ eq3) cv_L_110 ⟨by decide, by decide⟩ rfl hl.1 rfl (Nat.le_of_ble_eq_true rfl) dL_law_1764 ⟨by show 100 + 4 * j + 4 ≤ 601024; omega, by show 20000 + 24 * j + 24 ≤ 7293034; omega⟩) (fun H locs hG => ?_)
  refine lv_iload hx hb dL_law_1767 (lv_at hl 1 rfl) ?_
  refine lv_icmp_eq (tgt := 1774) hx hb dL_law_1769 (by decide) (fun c4 => ?_) (fun c4 => ?_)
  · replace hf := if_t c4 hf
    refine lv_iload hx hb dL_law_1774 (lv_at hl 1 rfl) ?_
    refine lv_if_ne (tgt := 1791) hx hb dL_law_1776 (by decide) (fun c5 => ?_) (fun c5 => ?_)
    · replace hf := if_f c5 hf
      refine lv_goto (tgt := 2170) hx hb dL_law_1791 (by decide) ?_
      refine lv_iinc (v := (x4 + (6 : Int32))) (lv' := [(4, .int (x4 + (6 : Int32))), (6, .int q2.1), (5, .int q1.1), (0, .ref b), (1, .ref (w.2.2.1 0)), (2, .ref (ρ2 0)), (3, .ref (w.2.2.1 60))]) hx hb dL_law_2170 hl (k := 6) rfl rfl (by decide) rfl (fun ls hl => ?_)
      refine lv_goto (tgt := 23) hx hb dL_law_2173 (by decide) ?_
      cases hf
      refine W.widen (k := 100 + 4 * (j + 1)) (n := 20000 + 24 * (j + 1)) (by omega) (by omega) ?_
      exact K _ _ ls hG (lv_sub hl [3, 4, 5, 6, 0] rfl)
    · replace hf := if_t c5 hf
      refine lv_aload_n hx hb dL_law_1779 rfl (lv_at hl 5 rfl) ?_
      refine lv_iconst (v := 0) hx hb dL_law_1780 (by decide) ?_
      refine l_out F hG dL_law_1781 ?_
      refine lv_iload hx hb dL_law_1782 (lv_at hl 0 rfl) ?_
      refine lv_i2l hx hb dL_law_1784 rfl ?_
      refine W.lcmp hx hb dL_law_1785 ?_
      refine lv_if_eq (tgt := 1791) hx hb dL_law_1786 (by decide) (fun c6 => ?_) (fun c6 => ?_)
      · replace hf := if_t c6 hf
        refine lv_goto (tgt := 2170) hx hb dL_law_1791 (by decide) ?_
        refine lv_iinc (v := (x4 + (6 : Int32))) (lv' := [(4, .int (x4 + (6 : Int32))), (6, .int q2.1), (5, .int q1.1), (0, .ref b), (1, .ref (w.2.2.1 0)), (2, .ref (ρ2 0)), (3, .ref (w.2.2.1 60))]) hx hb dL_law_2170 hl (k := 6) rfl rfl (by decide) rfl (fun ls hl => ?_)
        refine lv_goto (tgt := 23) hx hb dL_law_2173 (by decide) ?_
        cases hf
        refine W.widen (k := 100 + 4 * (j + 1)) (n := 20000 + 24 * (j + 1)) (by omega) (by omega) ?_
        exact K _ _ ls hG (lv_sub hl [3, 4, 5, 6, 0] rfl)
      · replace hf := if_f c6 hf
        cases hf
  · replace hf := if_f c4 hf
    cases hf

def lw_c30 (n : Nat) (g : Nat → Int32) (x4 : Int32) (M M2 : Mem) : Option (Mem × Mem) := bd (f_L_game n (g (x4 + (1 : Int32)).toNatClampNeg) (g (x4 + (2 : Int32)).toNatClampNeg) (g (x4 + (3 : Int32)).toNatClampNeg) M) (fun q1 => bd (f_X9_game n (g (x4 + (1 : Int32)).toNatClampNeg) (g (x4 + (2 : Int32)).toNatClampNeg) (g (x4 + (3 : Int32)).toNatClampNeg) M2) (fun q2 => bd (f_X9_thrown n  q2.2) (fun q3 => if q3.1 = q1.1 then (if q1.1 = 0 then (if (lg_cmp (gj q1.2 60 0) q2.1.toInt64) = 0 then (some (q1.2, q3.2)) else (none)) else (some (q1.2, q3.2))) else (none))))
set_option maxHeartbeats 4000000 in
set_option maxRecDepth 100000 in
theorem lw_case30 {p : Program} {l : Launch} {e : Env} {s : State} {m : MethodId} {below : List Frame} {meth : Method} {c : Code} {b L : Nat} {g : Nat → Int32} {w : Wd} {ρ2 : Nat → Nat} (C9 : LC p l s m c b L g w ρ2) (n j : Nat) (hj : j < 512) (x4 : Int32) (hbs : ∀ k : Int32, k = 0 ∨ k = 1 ∨ k = 2 ∨ k = 3 ∨ k = 4 ∨ k = 5 → vp_in (x4 + k) L) (M M2 M9 M8 : Mem) (hf : lw_c30 n g x4 M M2 = some (M9, M8)) (K : ∀ (H : Heap) (locs : List Loc) (ls : Array Slot), LG w ρ2 s M9 M8 H locs → lv_has ls 7 [(0, .ref b), (1, .ref (w.2.2.1 0)), (2, .ref (ρ2 0)), (3, .ref (w.2.2.1 60)), (4, .int (x4 + (6 : Int32)))] → W p l e room_1 s m #[Value.ref b] below meth c H locs (100 + 4 * (j + 1)) (20000 + 24 * (j + 1)) (lw_Z below #[Value.ref b] s) (F0 m 23 ls [])) (H : Heap) (locs : List Loc) (ls : Array Slot) (hG : LG w ρ2 s M M2 H locs) (hl : lv_has ls 7 [(0, .ref b), (1, .ref (w.2.2.1 0)), (2, .ref (ρ2 0)), (3, .ref (w.2.2.1 60)), (4, .int x4)]) : W p l e room_1 s m #[Value.ref b] below meth c H locs (100 + 4 * j) (20000 + 24 * j) (lw_Z below #[Value.ref b] s) (F0 m 1794 ls []) := by
  obtain ⟨F, hst, hL, hX, hXs, hbl⟩ := C9
  have hx := F.1.1
  have hb := F.1.2.1
  have hbA : ¬ A0 s b := Nat.not_le.mpr hbl
  have hb1 := hbs 1 (by decide)
  have hb2 := hbs 2 (by decide)
  have hb3 := hbs 3 (by decide)
  have hb4 := hbs 4 (by decide)
  have hb5 := hbs 5 (by decide)
  unfold lw_c30 at hf
  refine lv_aload_n hx hb dL_law_1794 rfl (lv_at hl 1 rfl) ?_
  refine lv_aload_n hx hb dL_law_1795 rfl (lv_at hl 0 rfl) ?_
  refine lv_iload hx hb dL_law_1796 (lv_at hl 4 rfl) ?_
  refine lv_iconst (v := 1) hx hb dL_law_1798 (by decide) ?_
  refine lv_iadd hx hb dL_law_1799 ?_
  refine va_sld hx hb hXs hbl hbA hG.2.2 hb1 dL_law_1800 ?_
  refine lv_aload_n hx hb dL_law_1801 rfl (lv_at hl 0 rfl) ?_
  refine lv_iload hx hb dL_law_1802 (lv_at hl 4 rfl) ?_
  refine lv_iconst (v := 2) hx hb dL_law_1804 (by decide) ?_
  refine lv_iadd hx hb dL_law_1805 ?_
  refine va_sld hx hb hXs hbl hbA hG.2.2 hb2 dL_law_1806 ?_
  refine lv_aload_n hx hb dL_law_1807 rfl (lv_at hl 0 rfl) ?_
  refine lv_iload hx hb dL_law_1808 (lv_at hl 4 rfl) ?_
  refine lv_iconst (v := 3) hx hb dL_law_1810 (by decide) ?_
  refine lv_iadd hx hb dL_law_1811 ?_
  refine va_sld hx hb hXs hbl hbA hG.2.2 hb3 dL_law_1812 ?_
  refine lv_aload_n hx hb dL_law_1813 rfl (lv_at hl 3 rfl) ?_
  replace hf := bd_some hf
  obtain ⟨q1, eq1, hf⟩ := hf
  refine lC_calli hL hG (lC_runSW F hL hX hG (c_L_game l w hst n (g (x4 + (1 : Int32)).toNatClampNeg) (g (x4 + (2 : Int32)).toNatClampNeg) (g (x4 + (3 : Int32)).toNatClampNeg) _ _ eq1) csw_209 ⟨by decide, by decide⟩ rfl hl.1 rfl (Nat.le_of_ble_eq_true rfl) dL_law_1814 ⟨by show 100 + 4 * j + 4 ≤ 601024; omega, by show 20000 + 24 * j + 24 ≤ 7293034; omega⟩) (fun H locs hG => ?_)
  refine W.widen (k := 100 + 4 * j + 4) (n := 20000 + 24 * j + 24) (by omega) (by omega) ?_
  refine lv_istore (lv' := [(5, .int q1.1), (0, .ref b), (1, .ref (w.2.2.1 0)), (2, .ref (ρ2 0)), (3, .ref (w.2.2.1 60)), (4, .int x4)]) hx hb dL_law_1817 hl (by decide) rfl (fun ls hl => ?_)
  refine lv_aload_n hx hb dL_law_1819 rfl (lv_at hl 3 rfl) ?_
  refine lv_aload_n hx hb dL_law_1820 rfl (lv_at hl 1 rfl) ?_
  refine lv_iload hx hb dL_law_1821 (lv_at hl 5 rfl) ?_
  refine lv_iconst (v := 1) hx hb dL_law_1823 (by decide) ?_
  refine lv_iadd hx hb dL_law_1824 ?_
  refine va_sld hx hb hXs hbl hbA hG.2.2 hb1 dL_law_1825 ?_
  refine lv_aload_n hx hb dL_law_1826 rfl (lv_at hl 1 rfl) ?_
  refine lv_iload hx hb dL_law_1827 (lv_at hl 5 rfl) ?_
  refine lv_iconst (v := 2) hx hb dL_law_1829 (by decide) ?_
  refine lv_iadd hx hb dL_law_1830 ?_
  refine va_sld hx hb hXs hbl hbA hG.2.2 hb2 dL_law_1831 ?_
  refine lv_aload_n hx hb dL_law_1832 rfl (lv_at hl 1 rfl) ?_
  refine lv_iload hx hb dL_law_1833 (lv_at hl 5 rfl) ?_
  refine lv_iconst (v := 3) hx hb dL_law_1835 (by decide) ?_
  refine lv_iadd hx hb dL_law_1836 ?_
  refine va_sld hx hb hXs hbl hbA hG.2.2 hb3 dL_law_1837 ?_
  replace hf := bd_some hf
  obtain ⟨q2, eq2, hf⟩ := hf
  refine lM_calli hL hG (lM_runV F hL hG (c_X9_game l (wM w ρ2) x0_ok n (g (x4 + (1 : Int32)).toNatClampNeg) (g (x4 + (2 : Int32)).toNatClampNeg) (g (x4 + (3 : Int32)).toNatClampNeg) _ _ eq2) cv_L_211 ⟨by decide, by decide⟩ rfl hl.1 rfl (Nat.le_of_ble_eq_true rfl) dL_law_1838 ⟨by show 100 + 4 * j + 4 ≤ 601024; omega, by show 20000 + 24 * j + 24 ≤ 7293034; omega⟩) (fun H locs hG => ?_)
  refine lv_istore (lv' := [(6, .int q2.1), (5, .int q1.1), (0, .ref b), (1, .ref (w.2.2.1 0)), (2, .ref (ρ2 0)), (3, .ref (w.2.2.1 60)), (4, .int x4)]) hx hb dL_law_1841 hl (by decide) rfl (fun ls hl => ?_)
  refine lv_aload_n hx hb dL_law_1843 rfl (lv_at hl 4 rfl) ?_
  replace hf := bd_some hf
  obtain ⟨q3, eq3, hf⟩ := hf
  refine lM_calli hL hG (lM_runV F hL hG (c_X9_thrown l (wM w ρ2) x0_ok n  _ _ eq3) cv_L_110 ⟨by decide, by decide⟩ rfl hl.1 rfl (Nat.le_of_ble_eq_true rfl) dL_law_1844 ⟨by show 100 + 4 * j + 4 ≤ 601024; omega, by show 20000 + 24 * j + 24 ≤ 7293034; omega⟩) (fun H locs hG => ?_)
  refine lv_iload hx hb dL_law_1847 (lv_at hl 1 rfl) ?_
  refine lv_icmp_eq (tgt := 1854) hx hb dL_law_1849 (by decide) (fun c4 => ?_) (fun c4 => ?_)
  · replace hf := if_t c4 hf
    refine lv_iload hx hb dL_law_1854 (lv_at hl 1 rfl) ?_
    refine lv_if_ne (tgt := 1871) hx hb dL_law_1856 (by decide) (fun c5 => ?_) (fun c5 => ?_)
    · replace hf := if_f c5 hf
      refine lv_goto (tgt := 2170) hx hb dL_law_1871 (by decide) ?_
      refine lv_iinc (v := (x4 + (6 : Int32))) (lv' := [(4, .int (x4 + (6 : Int32))), (6, .int q2.1), (5, .int q1.1), (0, .ref b), (1, .ref (w.2.2.1 0)), (2, .ref (ρ2 0)), (3, .ref (w.2.2.1 60))]) hx hb dL_law_2170 hl (k := 6) rfl rfl (by decide) rfl (fun ls hl => ?_)
      refine lv_goto (tgt := 23) hx hb dL_law_2173 (by decide) ?_
      cases hf
      refine W.widen (k := 100 + 4 * (j + 1)) (n := 20000 + 24 * (j + 1)) (by omega) (by omega) ?_
      exact K _ _ ls hG (lv_sub hl [3, 4, 5, 6, 0] rfl)
    · replace hf := if_t c5 hf
      refine lv_aload_n hx hb dL_law_1859 rfl (lv_at hl 5 rfl) ?_
      refine lv_iconst (v := 0) hx hb dL_law_1860 (by decide) ?_
      refine l_out F hG dL_law_1861 ?_
      refine lv_iload hx hb dL_law_1862 (lv_at hl 0 rfl) ?_
      refine lv_i2l hx hb dL_law_1864 rfl ?_
      refine W.lcmp hx hb dL_law_1865 ?_
      refine lv_if_eq (tgt := 1871) hx hb dL_law_1866 (by decide) (fun c6 => ?_) (fun c6 => ?_)
      · replace hf := if_t c6 hf
        refine lv_goto (tgt := 2170) hx hb dL_law_1871 (by decide) ?_
        refine lv_iinc (v := (x4 + (6 : Int32))) (lv' := [(4, .int (x4 + (6 : Int32))), (6, .int q2.1), (5, .int q1.1), (0, .ref b), (1, .ref (w.2.2.1 0)), (2, .ref (ρ2 0)), (3, .ref (w.2.2.1 60))]) hx hb dL_law_2170 hl (k := 6) rfl rfl (by decide) rfl (fun ls hl => ?_)
        refine lv_goto (tgt := 23) hx hb dL_law_2173 (by decide) ?_
        cases hf
        refine W.widen (k := 100 + 4 * (j + 1)) (n := 20000 + 24 * (j + 1)) (by omega) (by omega) ?_
        exact K _ _ ls hG (lv_sub hl [3, 4, 5, 6, 0] rfl)
      · replace hf := if_f c6 hf
        cases hf
  · replace hf := if_f c4 hf
    cases hf

def lw_c31 (n : Nat) (g : Nat → Int32) (x4 : Int32) (M M2 : Mem) : Option (Mem × Mem) := bd (f_L_years n (g (x4 + (1 : Int32)).toNatClampNeg) (g (x4 + (2 : Int32)).toNatClampNeg) (g (x4 + (3 : Int32)).toNatClampNeg) M) (fun q1 => bd (f_X9_years n (g (x4 + (1 : Int32)).toNatClampNeg) (g (x4 + (2 : Int32)).toNatClampNeg) (g (x4 + (3 : Int32)).toNatClampNeg) M2) (fun q2 => bd (f_X9_thrown n  q2.2) (fun q3 => if q3.1 = q1.1 then (if q1.1 = 0 then (if (lg_cmp (gj q1.2 60 0) q2.1.toInt64) = 0 then (some (q1.2, q3.2)) else (none)) else (some (q1.2, q3.2))) else (none))))
set_option maxHeartbeats 4000000 in
set_option maxRecDepth 100000 in
theorem lw_case31 {p : Program} {l : Launch} {e : Env} {s : State} {m : MethodId} {below : List Frame} {meth : Method} {c : Code} {b L : Nat} {g : Nat → Int32} {w : Wd} {ρ2 : Nat → Nat} (C9 : LC p l s m c b L g w ρ2) (n j : Nat) (hj : j < 512) (x4 : Int32) (hbs : ∀ k : Int32, k = 0 ∨ k = 1 ∨ k = 2 ∨ k = 3 ∨ k = 4 ∨ k = 5 → vp_in (x4 + k) L) (M M2 M9 M8 : Mem) (hf : lw_c31 n g x4 M M2 = some (M9, M8)) (K : ∀ (H : Heap) (locs : List Loc) (ls : Array Slot), LG w ρ2 s M9 M8 H locs → lv_has ls 7 [(0, .ref b), (1, .ref (w.2.2.1 0)), (2, .ref (ρ2 0)), (3, .ref (w.2.2.1 60)), (4, .int (x4 + (6 : Int32)))] → W p l e room_1 s m #[Value.ref b] below meth c H locs (100 + 4 * (j + 1)) (20000 + 24 * (j + 1)) (lw_Z below #[Value.ref b] s) (F0 m 23 ls [])) (H : Heap) (locs : List Loc) (ls : Array Slot) (hG : LG w ρ2 s M M2 H locs) (hl : lv_has ls 7 [(0, .ref b), (1, .ref (w.2.2.1 0)), (2, .ref (ρ2 0)), (3, .ref (w.2.2.1 60)), (4, .int x4)]) : W p l e room_1 s m #[Value.ref b] below meth c H locs (100 + 4 * j) (20000 + 24 * j) (lw_Z below #[Value.ref b] s) (F0 m 1874 ls []) := by
  obtain ⟨F, hst, hL, hX, hXs, hbl⟩ := C9
  have hx := F.1.1
  have hb := F.1.2.1
  have hbA : ¬ A0 s b := Nat.not_le.mpr hbl
  have hb1 := hbs 1 (by decide)
  have hb2 := hbs 2 (by decide)
  have hb3 := hbs 3 (by decide)
  have hb4 := hbs 4 (by decide)
  have hb5 := hbs 5 (by decide)
  unfold lw_c31 at hf
  refine lv_aload_n hx hb dL_law_1874 rfl (lv_at hl 1 rfl) ?_
  refine lv_aload_n hx hb dL_law_1875 rfl (lv_at hl 0 rfl) ?_
  refine lv_iload hx hb dL_law_1876 (lv_at hl 4 rfl) ?_
  refine lv_iconst (v := 1) hx hb dL_law_1878 (by decide) ?_
  refine lv_iadd hx hb dL_law_1879 ?_
  refine va_sld hx hb hXs hbl hbA hG.2.2 hb1 dL_law_1880 ?_
  refine lv_aload_n hx hb dL_law_1881 rfl (lv_at hl 0 rfl) ?_
  refine lv_iload hx hb dL_law_1882 (lv_at hl 4 rfl) ?_
  refine lv_iconst (v := 2) hx hb dL_law_1884 (by decide) ?_
  refine lv_iadd hx hb dL_law_1885 ?_
  refine va_sld hx hb hXs hbl hbA hG.2.2 hb2 dL_law_1886 ?_
  refine lv_aload_n hx hb dL_law_1887 rfl (lv_at hl 0 rfl) ?_
  refine lv_iload hx hb dL_law_1888 (lv_at hl 4 rfl) ?_
  refine lv_iconst (v := 3) hx hb dL_law_1890 (by decide) ?_
  refine lv_iadd hx hb dL_law_1891 ?_
  refine va_sld hx hb hXs hbl hbA hG.2.2 hb3 dL_law_1892 ?_
  refine lv_aload_n hx hb dL_law_1893 rfl (lv_at hl 3 rfl) ?_
  replace hf := bd_some hf
  obtain ⟨q1, eq1, hf⟩ := hf
  refine lC_calli hL hG (lC_runSW F hL hX hG (c_L_years l w hst n (g (x4 + (1 : Int32)).toNatClampNeg) (g (x4 + (2 : Int32)).toNatClampNeg) (g (x4 + (3 : Int32)).toNatClampNeg) _ _ eq1) csw_212 ⟨by decide, by decide⟩ rfl hl.1 rfl (Nat.le_of_ble_eq_true rfl) dL_law_1894 ⟨by show 100 + 4 * j + 2 ≤ 601024; omega, by show 20000 + 24 * j + 12 ≤ 7293034; omega⟩) (fun H locs hG => ?_)
  refine W.widen (k := 100 + 4 * j + 4) (n := 20000 + 24 * j + 24) (by omega) (by omega) ?_
  refine lv_istore (lv' := [(5, .int q1.1), (0, .ref b), (1, .ref (w.2.2.1 0)), (2, .ref (ρ2 0)), (3, .ref (w.2.2.1 60)), (4, .int x4)]) hx hb dL_law_1897 hl (by decide) rfl (fun ls hl => ?_)
  refine lv_aload_n hx hb dL_law_1899 rfl (lv_at hl 3 rfl) ?_
  refine lv_aload_n hx hb dL_law_1900 rfl (lv_at hl 1 rfl) ?_
  refine lv_iload hx hb dL_law_1901 (lv_at hl 5 rfl) ?_
  refine lv_iconst (v := 1) hx hb dL_law_1903 (by decide) ?_
  refine lv_iadd hx hb dL_law_1904 ?_
  refine va_sld hx hb hXs hbl hbA hG.2.2 hb1 dL_law_1905 ?_
  refine lv_aload_n hx hb dL_law_1906 rfl (lv_at hl 1 rfl) ?_
  refine lv_iload hx hb dL_law_1907 (lv_at hl 5 rfl) ?_
  refine lv_iconst (v := 2) hx hb dL_law_1909 (by decide) ?_
  refine lv_iadd hx hb dL_law_1910 ?_
  refine va_sld hx hb hXs hbl hbA hG.2.2 hb2 dL_law_1911 ?_
  refine lv_aload_n hx hb dL_law_1912 rfl (lv_at hl 1 rfl) ?_
  refine lv_iload hx hb dL_law_1913 (lv_at hl 5 rfl) ?_
  refine lv_iconst (v := 3) hx hb dL_law_1915 (by decide) ?_
  refine lv_iadd hx hb dL_law_1916 ?_
  refine va_sld hx hb hXs hbl hbA hG.2.2 hb3 dL_law_1917 ?_
  replace hf := bd_some hf
  obtain ⟨q2, eq2, hf⟩ := hf
  refine lM_calli hL hG (lM_runV F hL hG (c_X9_years l (wM w ρ2) x0_ok n (g (x4 + (1 : Int32)).toNatClampNeg) (g (x4 + (2 : Int32)).toNatClampNeg) (g (x4 + (3 : Int32)).toNatClampNeg) _ _ eq2) cv_L_214 ⟨by decide, by decide⟩ rfl hl.1 rfl (Nat.le_of_ble_eq_true rfl) dL_law_1918 ⟨by show 100 + 4 * j + 4 ≤ 601024; omega, by show 20000 + 24 * j + 24 ≤ 7293034; omega⟩) (fun H locs hG => ?_)
  refine lv_istore (lv' := [(6, .int q2.1), (5, .int q1.1), (0, .ref b), (1, .ref (w.2.2.1 0)), (2, .ref (ρ2 0)), (3, .ref (w.2.2.1 60)), (4, .int x4)]) hx hb dL_law_1921 hl (by decide) rfl (fun ls hl => ?_)
  refine lv_aload_n hx hb dL_law_1923 rfl (lv_at hl 4 rfl) ?_
  replace hf := bd_some hf
  obtain ⟨q3, eq3, hf⟩ := hf
  refine lM_calli hL hG (lM_runV F hL hG (c_X9_thrown l (wM w ρ2) x0_ok n  _ _ eq3) cv_L_110 ⟨by decide, by decide⟩ rfl hl.1 rfl (Nat.le_of_ble_eq_true rfl) dL_law_1924 ⟨by show 100 + 4 * j + 4 ≤ 601024; omega, by show 20000 + 24 * j + 24 ≤ 7293034; omega⟩) (fun H locs hG => ?_)
  refine lv_iload hx hb dL_law_1927 (lv_at hl 1 rfl) ?_
  refine lv_icmp_eq (tgt := 1934) hx hb dL_law_1929 (by decide) (fun c4 => ?_) (fun c4 => ?_)
  · replace hf := if_t c4 hf
    refine lv_iload hx hb dL_law_1934 (lv_at hl 1 rfl) ?_
    refine lv_if_ne (tgt := 1951) hx hb dL_law_1936 (by decide) (fun c5 => ?_) (fun c5 => ?_)
    · replace hf := if_f c5 hf
      refine lv_goto (tgt := 2170) hx hb dL_law_1951 (by decide) ?_
      refine lv_iinc (v := (x4 + (6 : Int32))) (lv' := [(4, .int (x4 + (6 : Int32))), (6, .int q2.1), (5, .int q1.1), (0, .ref b), (1, .ref (w.2.2.1 0)), (2, .ref (ρ2 0)), (3, .ref (w.2.2.1 60))]) hx hb dL_law_2170 hl (k := 6) rfl rfl (by decide) rfl (fun ls hl => ?_)
      refine lv_goto (tgt := 23) hx hb dL_law_2173 (by decide) ?_
      cases hf
      refine W.widen (k := 100 + 4 * (j + 1)) (n := 20000 + 24 * (j + 1)) (by omega) (by omega) ?_
      exact K _ _ ls hG (lv_sub hl [3, 4, 5, 6, 0] rfl)
    · replace hf := if_t c5 hf
      refine lv_aload_n hx hb dL_law_1939 rfl (lv_at hl 5 rfl) ?_
      refine lv_iconst (v := 0) hx hb dL_law_1940 (by decide) ?_
      refine l_out F hG dL_law_1941 ?_
      refine lv_iload hx hb dL_law_1942 (lv_at hl 0 rfl) ?_
      refine lv_i2l hx hb dL_law_1944 rfl ?_
      refine W.lcmp hx hb dL_law_1945 ?_
      refine lv_if_eq (tgt := 1951) hx hb dL_law_1946 (by decide) (fun c6 => ?_) (fun c6 => ?_)
      · replace hf := if_t c6 hf
        refine lv_goto (tgt := 2170) hx hb dL_law_1951 (by decide) ?_
        refine lv_iinc (v := (x4 + (6 : Int32))) (lv' := [(4, .int (x4 + (6 : Int32))), (6, .int q2.1), (5, .int q1.1), (0, .ref b), (1, .ref (w.2.2.1 0)), (2, .ref (ρ2 0)), (3, .ref (w.2.2.1 60))]) hx hb dL_law_2170 hl (k := 6) rfl rfl (by decide) rfl (fun ls hl => ?_)
        refine lv_goto (tgt := 23) hx hb dL_law_2173 (by decide) ?_
        cases hf
        refine W.widen (k := 100 + 4 * (j + 1)) (n := 20000 + 24 * (j + 1)) (by omega) (by omega) ?_
        exact K _ _ ls hG (lv_sub hl [3, 4, 5, 6, 0] rfl)
      · replace hf := if_f c6 hf
        cases hf
  · replace hf := if_f c4 hf
    cases hf

def lw_c32 (n : Nat) (g : Nat → Int32) (x4 : Int32) (M M2 : Mem) : Option (Mem × Mem) := bd (f_L_share n (g (x4 + (1 : Int32)).toNatClampNeg) (g (x4 + (2 : Int32)).toNatClampNeg) M) (fun q1 => bd (f_X9_share n (g (x4 + (1 : Int32)).toNatClampNeg) (g (x4 + (2 : Int32)).toNatClampNeg) M2) (fun q2 => bd (f_X9_thrown n  q2.2) (fun q3 => if q3.1 = q1.1 then (if q1.1 = 0 then (if (lg_cmp (gj q1.2 60 0) q2.1.toInt64) = 0 then (some (q1.2, q3.2)) else (none)) else (some (q1.2, q3.2))) else (none))))
set_option maxHeartbeats 4000000 in
set_option maxRecDepth 100000 in
theorem lw_case32 {p : Program} {l : Launch} {e : Env} {s : State} {m : MethodId} {below : List Frame} {meth : Method} {c : Code} {b L : Nat} {g : Nat → Int32} {w : Wd} {ρ2 : Nat → Nat} (C9 : LC p l s m c b L g w ρ2) (n j : Nat) (hj : j < 512) (x4 : Int32) (hbs : ∀ k : Int32, k = 0 ∨ k = 1 ∨ k = 2 ∨ k = 3 ∨ k = 4 ∨ k = 5 → vp_in (x4 + k) L) (M M2 M9 M8 : Mem) (hf : lw_c32 n g x4 M M2 = some (M9, M8)) (K : ∀ (H : Heap) (locs : List Loc) (ls : Array Slot), LG w ρ2 s M9 M8 H locs → lv_has ls 7 [(0, .ref b), (1, .ref (w.2.2.1 0)), (2, .ref (ρ2 0)), (3, .ref (w.2.2.1 60)), (4, .int (x4 + (6 : Int32)))] → W p l e room_1 s m #[Value.ref b] below meth c H locs (100 + 4 * (j + 1)) (20000 + 24 * (j + 1)) (lw_Z below #[Value.ref b] s) (F0 m 23 ls [])) (H : Heap) (locs : List Loc) (ls : Array Slot) (hG : LG w ρ2 s M M2 H locs) (hl : lv_has ls 7 [(0, .ref b), (1, .ref (w.2.2.1 0)), (2, .ref (ρ2 0)), (3, .ref (w.2.2.1 60)), (4, .int x4)]) : W p l e room_1 s m #[Value.ref b] below meth c H locs (100 + 4 * j) (20000 + 24 * j) (lw_Z below #[Value.ref b] s) (F0 m 1954 ls []) := by
  obtain ⟨F, hst, hL, hX, hXs, hbl⟩ := C9
  have hx := F.1.1
  have hb := F.1.2.1
  have hbA : ¬ A0 s b := Nat.not_le.mpr hbl
  have hb1 := hbs 1 (by decide)
  have hb2 := hbs 2 (by decide)
  have hb3 := hbs 3 (by decide)
  have hb4 := hbs 4 (by decide)
  have hb5 := hbs 5 (by decide)
  unfold lw_c32 at hf
  refine lv_aload_n hx hb dL_law_1954 rfl (lv_at hl 1 rfl) ?_
  refine lv_aload_n hx hb dL_law_1955 rfl (lv_at hl 0 rfl) ?_
  refine lv_iload hx hb dL_law_1956 (lv_at hl 4 rfl) ?_
  refine lv_iconst (v := 1) hx hb dL_law_1958 (by decide) ?_
  refine lv_iadd hx hb dL_law_1959 ?_
  refine va_sld hx hb hXs hbl hbA hG.2.2 hb1 dL_law_1960 ?_
  refine lv_aload_n hx hb dL_law_1961 rfl (lv_at hl 0 rfl) ?_
  refine lv_iload hx hb dL_law_1962 (lv_at hl 4 rfl) ?_
  refine lv_iconst (v := 2) hx hb dL_law_1964 (by decide) ?_
  refine lv_iadd hx hb dL_law_1965 ?_
  refine va_sld hx hb hXs hbl hbA hG.2.2 hb2 dL_law_1966 ?_
  refine lv_aload_n hx hb dL_law_1967 rfl (lv_at hl 3 rfl) ?_
  replace hf := bd_some hf
  obtain ⟨q1, eq1, hf⟩ := hf
  refine lC_calli hL hG (lC_runSW F hL hX hG (c_L_share l w hst n (g (x4 + (1 : Int32)).toNatClampNeg) (g (x4 + (2 : Int32)).toNatClampNeg) _ _ eq1) csw_215 ⟨by decide, by decide⟩ rfl hl.1 rfl (Nat.le_of_ble_eq_true rfl) dL_law_1968 ⟨by show 100 + 4 * j + 2 ≤ 601024; omega, by show 20000 + 24 * j + 12 ≤ 7293034; omega⟩) (fun H locs hG => ?_)
  refine W.widen (k := 100 + 4 * j + 4) (n := 20000 + 24 * j + 24) (by omega) (by omega) ?_
  refine lv_istore (lv' := [(5, .int q1.1), (0, .ref b), (1, .ref (w.2.2.1 0)), (2, .ref (ρ2 0)), (3, .ref (w.2.2.1 60)), (4, .int x4)]) hx hb dL_law_1971 hl (by decide) rfl (fun ls hl => ?_)
  refine lv_aload_n hx hb dL_law_1973 rfl (lv_at hl 3 rfl) ?_
  refine lv_aload_n hx hb dL_law_1974 rfl (lv_at hl 1 rfl) ?_
  refine lv_iload hx hb dL_law_1975 (lv_at hl 5 rfl) ?_
  refine lv_iconst (v := 1) hx hb dL_law_1977 (by decide) ?_
  refine lv_iadd hx hb dL_law_1978 ?_
  refine va_sld hx hb hXs hbl hbA hG.2.2 hb1 dL_law_1979 ?_
  refine lv_aload_n hx hb dL_law_1980 rfl (lv_at hl 1 rfl) ?_
  refine lv_iload hx hb dL_law_1981 (lv_at hl 5 rfl) ?_
  refine lv_iconst (v := 2) hx hb dL_law_1983 (by decide) ?_
  refine lv_iadd hx hb dL_law_1984 ?_
  refine va_sld hx hb hXs hbl hbA hG.2.2 hb2 dL_law_1985 ?_
  replace hf := bd_some hf
  obtain ⟨q2, eq2, hf⟩ := hf
  refine lM_calli hL hG (lM_runV F hL hG (c_X9_share l (wM w ρ2) x0_ok n (g (x4 + (1 : Int32)).toNatClampNeg) (g (x4 + (2 : Int32)).toNatClampNeg) _ _ eq2) cv_L_217 ⟨by decide, by decide⟩ rfl hl.1 rfl (Nat.le_of_ble_eq_true rfl) dL_law_1986 ⟨by show 100 + 4 * j + 4 ≤ 601024; omega, by show 20000 + 24 * j + 24 ≤ 7293034; omega⟩) (fun H locs hG => ?_)
  refine lv_istore (lv' := [(6, .int q2.1), (5, .int q1.1), (0, .ref b), (1, .ref (w.2.2.1 0)), (2, .ref (ρ2 0)), (3, .ref (w.2.2.1 60)), (4, .int x4)]) hx hb dL_law_1989 hl (by decide) rfl (fun ls hl => ?_)
  refine lv_aload_n hx hb dL_law_1991 rfl (lv_at hl 4 rfl) ?_
  replace hf := bd_some hf
  obtain ⟨q3, eq3, hf⟩ := hf
  refine lM_calli hL hG (lM_runV F hL hG (c_X9_thrown l (wM w ρ2) x0_ok n  _ _ eq3) cv_L_110 ⟨by decide, by decide⟩ rfl hl.1 rfl (Nat.le_of_ble_eq_true rfl) dL_law_1992 ⟨by show 100 + 4 * j + 4 ≤ 601024; omega, by show 20000 + 24 * j + 24 ≤ 7293034; omega⟩) (fun H locs hG => ?_)
  refine lv_iload hx hb dL_law_1995 (lv_at hl 1 rfl) ?_
  refine lv_icmp_eq (tgt := 2002) hx hb dL_law_1997 (by decide) (fun c4 => ?_) (fun c4 => ?_)
  · replace hf := if_t c4 hf
    refine lv_iload hx hb dL_law_2002 (lv_at hl 1 rfl) ?_
    refine lv_if_ne (tgt := 2019) hx hb dL_law_2004 (by decide) (fun c5 => ?_) (fun c5 => ?_)
    · replace hf := if_f c5 hf
      refine lv_goto (tgt := 2170) hx hb dL_law_2019 (by decide) ?_
      refine lv_iinc (v := (x4 + (6 : Int32))) (lv' := [(4, .int (x4 + (6 : Int32))), (6, .int q2.1), (5, .int q1.1), (0, .ref b), (1, .ref (w.2.2.1 0)), (2, .ref (ρ2 0)), (3, .ref (w.2.2.1 60))]) hx hb dL_law_2170 hl (k := 6) rfl rfl (by decide) rfl (fun ls hl => ?_)
      refine lv_goto (tgt := 23) hx hb dL_law_2173 (by decide) ?_
      cases hf
      refine W.widen (k := 100 + 4 * (j + 1)) (n := 20000 + 24 * (j + 1)) (by omega) (by omega) ?_
      exact K _ _ ls hG (lv_sub hl [3, 4, 5, 6, 0] rfl)
    · replace hf := if_t c5 hf
      refine lv_aload_n hx hb dL_law_2007 rfl (lv_at hl 5 rfl) ?_
      refine lv_iconst (v := 0) hx hb dL_law_2008 (by decide) ?_
      refine l_out F hG dL_law_2009 ?_
      refine lv_iload hx hb dL_law_2010 (lv_at hl 0 rfl) ?_
      refine lv_i2l hx hb dL_law_2012 rfl ?_
      refine W.lcmp hx hb dL_law_2013 ?_
      refine lv_if_eq (tgt := 2019) hx hb dL_law_2014 (by decide) (fun c6 => ?_) (fun c6 => ?_)
      · replace hf := if_t c6 hf
        refine lv_goto (tgt := 2170) hx hb dL_law_2019 (by decide) ?_
        refine lv_iinc (v := (x4 + (6 : Int32))) (lv' := [(4, .int (x4 + (6 : Int32))), (6, .int q2.1), (5, .int q1.1), (0, .ref b), (1, .ref (w.2.2.1 0)), (2, .ref (ρ2 0)), (3, .ref (w.2.2.1 60))]) hx hb dL_law_2170 hl (k := 6) rfl rfl (by decide) rfl (fun ls hl => ?_)
        refine lv_goto (tgt := 23) hx hb dL_law_2173 (by decide) ?_
        cases hf
        refine W.widen (k := 100 + 4 * (j + 1)) (n := 20000 + 24 * (j + 1)) (by omega) (by omega) ?_
        exact K _ _ ls hG (lv_sub hl [3, 4, 5, 6, 0] rfl)
      · replace hf := if_f c6 hf
        cases hf
  · replace hf := if_f c4 hf
    cases hf

def lw_c33 (n : Nat) (g : Nat → Int32) (x4 : Int32) (M M2 : Mem) : Option (Mem × Mem) := bd (f_L_heaviest n (g (x4 + (1 : Int32)).toNatClampNeg) M) (fun q1 => bd (f_X9_heaviest n (g (x4 + (1 : Int32)).toNatClampNeg) M2) (fun q2 => bd (f_X9_thrown n  q2.2) (fun q3 => if q3.1 = q1.1 then (if q1.1 = 0 then (if (lg_cmp (gj q1.2 60 0) q2.1.toInt64) = 0 then (some (q1.2, q3.2)) else (none)) else (some (q1.2, q3.2))) else (none))))
set_option maxHeartbeats 4000000 in
set_option maxRecDepth 100000 in
theorem lw_case33 {p : Program} {l : Launch} {e : Env} {s : State} {m : MethodId} {below : List Frame} {meth : Method} {c : Code} {b L : Nat} {g : Nat → Int32} {w : Wd} {ρ2 : Nat → Nat} (C9 : LC p l s m c b L g w ρ2) (n j : Nat) (hj : j < 512) (x4 : Int32) (hbs : ∀ k : Int32, k = 0 ∨ k = 1 ∨ k = 2 ∨ k = 3 ∨ k = 4 ∨ k = 5 → vp_in (x4 + k) L) (M M2 M9 M8 : Mem) (hf : lw_c33 n g x4 M M2 = some (M9, M8)) (K : ∀ (H : Heap) (locs : List Loc) (ls : Array Slot), LG w ρ2 s M9 M8 H locs → lv_has ls 7 [(0, .ref b), (1, .ref (w.2.2.1 0)), (2, .ref (ρ2 0)), (3, .ref (w.2.2.1 60)), (4, .int (x4 + (6 : Int32)))] → W p l e room_1 s m #[Value.ref b] below meth c H locs (100 + 4 * (j + 1)) (20000 + 24 * (j + 1)) (lw_Z below #[Value.ref b] s) (F0 m 23 ls [])) (H : Heap) (locs : List Loc) (ls : Array Slot) (hG : LG w ρ2 s M M2 H locs) (hl : lv_has ls 7 [(0, .ref b), (1, .ref (w.2.2.1 0)), (2, .ref (ρ2 0)), (3, .ref (w.2.2.1 60)), (4, .int x4)]) : W p l e room_1 s m #[Value.ref b] below meth c H locs (100 + 4 * j) (20000 + 24 * j) (lw_Z below #[Value.ref b] s) (F0 m 2022 ls []) := by
  obtain ⟨F, hst, hL, hX, hXs, hbl⟩ := C9
  have hx := F.1.1
  have hb := F.1.2.1
  have hbA : ¬ A0 s b := Nat.not_le.mpr hbl
  have hb1 := hbs 1 (by decide)
  have hb2 := hbs 2 (by decide)
  have hb3 := hbs 3 (by decide)
  have hb4 := hbs 4 (by decide)
  have hb5 := hbs 5 (by decide)
  unfold lw_c33 at hf
  refine lv_aload_n hx hb dL_law_2022 rfl (lv_at hl 1 rfl) ?_
  refine lv_aload_n hx hb dL_law_2023 rfl (lv_at hl 0 rfl) ?_
  refine lv_iload hx hb dL_law_2024 (lv_at hl 4 rfl) ?_
  refine lv_iconst (v := 1) hx hb dL_law_2026 (by decide) ?_
  refine lv_iadd hx hb dL_law_2027 ?_
  refine va_sld hx hb hXs hbl hbA hG.2.2 hb1 dL_law_2028 ?_
  refine lv_aload_n hx hb dL_law_2029 rfl (lv_at hl 3 rfl) ?_
  replace hf := bd_some hf
  obtain ⟨q1, eq1, hf⟩ := hf
  refine lC_calli hL hG (lC_runSW F hL hX hG (c_L_heaviest l w hst n (g (x4 + (1 : Int32)).toNatClampNeg) _ _ eq1) csw_218 ⟨by decide, by decide⟩ rfl hl.1 rfl (Nat.le_of_ble_eq_true rfl) dL_law_2030 ⟨by show 100 + 4 * j + 1 ≤ 601024; omega, by show 20000 + 24 * j + 6 ≤ 7293034; omega⟩) (fun H locs hG => ?_)
  refine W.widen (k := 100 + 4 * j + 4) (n := 20000 + 24 * j + 24) (by omega) (by omega) ?_
  refine lv_istore (lv' := [(5, .int q1.1), (0, .ref b), (1, .ref (w.2.2.1 0)), (2, .ref (ρ2 0)), (3, .ref (w.2.2.1 60)), (4, .int x4)]) hx hb dL_law_2033 hl (by decide) rfl (fun ls hl => ?_)
  refine lv_aload_n hx hb dL_law_2035 rfl (lv_at hl 3 rfl) ?_
  refine lv_aload_n hx hb dL_law_2036 rfl (lv_at hl 1 rfl) ?_
  refine lv_iload hx hb dL_law_2037 (lv_at hl 5 rfl) ?_
  refine lv_iconst (v := 1) hx hb dL_law_2039 (by decide) ?_
  refine lv_iadd hx hb dL_law_2040 ?_
  refine va_sld hx hb hXs hbl hbA hG.2.2 hb1 dL_law_2041 ?_
  replace hf := bd_some hf
  obtain ⟨q2, eq2, hf⟩ := hf
  refine lM_calli hL hG (lM_runV F hL hG (c_X9_heaviest l (wM w ρ2) x0_ok n (g (x4 + (1 : Int32)).toNatClampNeg) _ _ eq2) cv_L_220 ⟨by decide, by decide⟩ rfl hl.1 rfl (Nat.le_of_ble_eq_true rfl) dL_law_2042 ⟨by show 100 + 4 * j + 4 ≤ 601024; omega, by show 20000 + 24 * j + 24 ≤ 7293034; omega⟩) (fun H locs hG => ?_)
  refine lv_istore (lv' := [(6, .int q2.1), (5, .int q1.1), (0, .ref b), (1, .ref (w.2.2.1 0)), (2, .ref (ρ2 0)), (3, .ref (w.2.2.1 60)), (4, .int x4)]) hx hb dL_law_2045 hl (by decide) rfl (fun ls hl => ?_)
  refine lv_aload_n hx hb dL_law_2047 rfl (lv_at hl 4 rfl) ?_
  replace hf := bd_some hf
  obtain ⟨q3, eq3, hf⟩ := hf
  refine lM_calli hL hG (lM_runV F hL hG (c_X9_thrown l (wM w ρ2) x0_ok n  _ _ eq3) cv_L_110 ⟨by decide, by decide⟩ rfl hl.1 rfl (Nat.le_of_ble_eq_true rfl) dL_law_2048 ⟨by show 100 + 4 * j + 4 ≤ 601024; omega, by show 20000 + 24 * j + 24 ≤ 7293034; omega⟩) (fun H locs hG => ?_)
  refine lv_iload hx hb dL_law_2051 (lv_at hl 1 rfl) ?_
  refine lv_icmp_eq (tgt := 2058) hx hb dL_law_2053 (by decide) (fun c4 => ?_) (fun c4 => ?_)
  · replace hf := if_t c4 hf
    refine lv_iload hx hb dL_law_2058 (lv_at hl 1 rfl) ?_
    refine lv_if_ne (tgt := 2075) hx hb dL_law_2060 (by decide) (fun c5 => ?_) (fun c5 => ?_)
    · replace hf := if_f c5 hf
      refine lv_goto (tgt := 2170) hx hb dL_law_2075 (by decide) ?_
      refine lv_iinc (v := (x4 + (6 : Int32))) (lv' := [(4, .int (x4 + (6 : Int32))), (6, .int q2.1), (5, .int q1.1), (0, .ref b), (1, .ref (w.2.2.1 0)), (2, .ref (ρ2 0)), (3, .ref (w.2.2.1 60))]) hx hb dL_law_2170 hl (k := 6) rfl rfl (by decide) rfl (fun ls hl => ?_)
      refine lv_goto (tgt := 23) hx hb dL_law_2173 (by decide) ?_
      cases hf
      refine W.widen (k := 100 + 4 * (j + 1)) (n := 20000 + 24 * (j + 1)) (by omega) (by omega) ?_
      exact K _ _ ls hG (lv_sub hl [3, 4, 5, 6, 0] rfl)
    · replace hf := if_t c5 hf
      refine lv_aload_n hx hb dL_law_2063 rfl (lv_at hl 5 rfl) ?_
      refine lv_iconst (v := 0) hx hb dL_law_2064 (by decide) ?_
      refine l_out F hG dL_law_2065 ?_
      refine lv_iload hx hb dL_law_2066 (lv_at hl 0 rfl) ?_
      refine lv_i2l hx hb dL_law_2068 rfl ?_
      refine W.lcmp hx hb dL_law_2069 ?_
      refine lv_if_eq (tgt := 2075) hx hb dL_law_2070 (by decide) (fun c6 => ?_) (fun c6 => ?_)
      · replace hf := if_t c6 hf
        refine lv_goto (tgt := 2170) hx hb dL_law_2075 (by decide) ?_
        refine lv_iinc (v := (x4 + (6 : Int32))) (lv' := [(4, .int (x4 + (6 : Int32))), (6, .int q2.1), (5, .int q1.1), (0, .ref b), (1, .ref (w.2.2.1 0)), (2, .ref (ρ2 0)), (3, .ref (w.2.2.1 60))]) hx hb dL_law_2170 hl (k := 6) rfl rfl (by decide) rfl (fun ls hl => ?_)
        refine lv_goto (tgt := 23) hx hb dL_law_2173 (by decide) ?_
        cases hf
        refine W.widen (k := 100 + 4 * (j + 1)) (n := 20000 + 24 * (j + 1)) (by omega) (by omega) ?_
        exact K _ _ ls hG (lv_sub hl [3, 4, 5, 6, 0] rfl)
      · replace hf := if_f c6 hf
        cases hf
  · replace hf := if_f c4 hf
    cases hf

def lw_c34 (n : Nat) (g : Nat → Int32) (x4 : Int32) (M M2 : Mem) : Option (Mem × Mem) := bd (f_L_toProp n (g (x4 + (1 : Int32)).toNatClampNeg) (g (x4 + (2 : Int32)).toNatClampNeg) M) (fun q1 => bd (f_X9_toProp n (g (x4 + (1 : Int32)).toNatClampNeg) (g (x4 + (2 : Int32)).toNatClampNeg) M2) (fun q2 => bd (f_X9_thrown n  q2.2) (fun q3 => if q3.1 = q1.1 then (if q1.1 = 0 then (if (lg_cmp (gj q1.2 60 0) q2.1.toInt64) = 0 then (some (q1.2, q3.2)) else (none)) else (some (q1.2, q3.2))) else (none))))
set_option maxHeartbeats 4000000 in
set_option maxRecDepth 100000 in
theorem lw_case34 {p : Program} {l : Launch} {e : Env} {s : State} {m : MethodId} {below : List Frame} {meth : Method} {c : Code} {b L : Nat} {g : Nat → Int32} {w : Wd} {ρ2 : Nat → Nat} (C9 : LC p l s m c b L g w ρ2) (n j : Nat) (hj : j < 512) (x4 : Int32) (hbs : ∀ k : Int32, k = 0 ∨ k = 1 ∨ k = 2 ∨ k = 3 ∨ k = 4 ∨ k = 5 → vp_in (x4 + k) L) (M M2 M9 M8 : Mem) (hf : lw_c34 n g x4 M M2 = some (M9, M8)) (K : ∀ (H : Heap) (locs : List Loc) (ls : Array Slot), LG w ρ2 s M9 M8 H locs → lv_has ls 7 [(0, .ref b), (1, .ref (w.2.2.1 0)), (2, .ref (ρ2 0)), (3, .ref (w.2.2.1 60)), (4, .int (x4 + (6 : Int32)))] → W p l e room_1 s m #[Value.ref b] below meth c H locs (100 + 4 * (j + 1)) (20000 + 24 * (j + 1)) (lw_Z below #[Value.ref b] s) (F0 m 23 ls [])) (H : Heap) (locs : List Loc) (ls : Array Slot) (hG : LG w ρ2 s M M2 H locs) (hl : lv_has ls 7 [(0, .ref b), (1, .ref (w.2.2.1 0)), (2, .ref (ρ2 0)), (3, .ref (w.2.2.1 60)), (4, .int x4)]) : W p l e room_1 s m #[Value.ref b] below meth c H locs (100 + 4 * j) (20000 + 24 * j) (lw_Z below #[Value.ref b] s) (F0 m 2078 ls []) := by
  obtain ⟨F, hst, hL, hX, hXs, hbl⟩ := C9
  have hx := F.1.1
  have hb := F.1.2.1
  have hbA : ¬ A0 s b := Nat.not_le.mpr hbl
  have hb1 := hbs 1 (by decide)
  have hb2 := hbs 2 (by decide)
  have hb3 := hbs 3 (by decide)
  have hb4 := hbs 4 (by decide)
  have hb5 := hbs 5 (by decide)
  unfold lw_c34 at hf
  refine lv_aload_n hx hb dL_law_2078 rfl (lv_at hl 1 rfl) ?_
  refine lv_aload_n hx hb dL_law_2079 rfl (lv_at hl 0 rfl) ?_
  refine lv_iload hx hb dL_law_2080 (lv_at hl 4 rfl) ?_
  refine lv_iconst (v := 1) hx hb dL_law_2082 (by decide) ?_
  refine lv_iadd hx hb dL_law_2083 ?_
  refine va_sld hx hb hXs hbl hbA hG.2.2 hb1 dL_law_2084 ?_
  refine lv_aload_n hx hb dL_law_2085 rfl (lv_at hl 0 rfl) ?_
  refine lv_iload hx hb dL_law_2086 (lv_at hl 4 rfl) ?_
  refine lv_iconst (v := 2) hx hb dL_law_2088 (by decide) ?_
  refine lv_iadd hx hb dL_law_2089 ?_
  refine va_sld hx hb hXs hbl hbA hG.2.2 hb2 dL_law_2090 ?_
  refine lv_aload_n hx hb dL_law_2091 rfl (lv_at hl 3 rfl) ?_
  replace hf := bd_some hf
  obtain ⟨q1, eq1, hf⟩ := hf
  refine lC_calli hL hG (lC_runSW F hL hX hG (c_L_toProp l w hst n (g (x4 + (1 : Int32)).toNatClampNeg) (g (x4 + (2 : Int32)).toNatClampNeg) _ _ eq1) csw_221 ⟨by decide, by decide⟩ rfl hl.1 rfl (Nat.le_of_ble_eq_true rfl) dL_law_2092 ⟨by show 100 + 4 * j + 2 ≤ 601024; omega, by show 20000 + 24 * j + 12 ≤ 7293034; omega⟩) (fun H locs hG => ?_)
  refine W.widen (k := 100 + 4 * j + 4) (n := 20000 + 24 * j + 24) (by omega) (by omega) ?_
  refine lv_istore (lv' := [(5, .int q1.1), (0, .ref b), (1, .ref (w.2.2.1 0)), (2, .ref (ρ2 0)), (3, .ref (w.2.2.1 60)), (4, .int x4)]) hx hb dL_law_2095 hl (by decide) rfl (fun ls hl => ?_)
  refine lv_aload_n hx hb dL_law_2097 rfl (lv_at hl 3 rfl) ?_
  refine lv_aload_n hx hb dL_law_2098 rfl (lv_at hl 1 rfl) ?_
  refine lv_iload hx hb dL_law_2099 (lv_at hl 5 rfl) ?_
  refine lv_iconst (v := 1) hx hb dL_law_2101 (by decide) ?_
  refine lv_iadd hx hb dL_law_2102 ?_
  refine va_sld hx hb hXs hbl hbA hG.2.2 hb1 dL_law_2103 ?_
  refine lv_aload_n hx hb dL_law_2104 rfl (lv_at hl 1 rfl) ?_
  refine lv_iload hx hb dL_law_2105 (lv_at hl 5 rfl) ?_
  refine lv_iconst (v := 2) hx hb dL_law_2107 (by decide) ?_
  refine lv_iadd hx hb dL_law_2108 ?_
  refine va_sld hx hb hXs hbl hbA hG.2.2 hb2 dL_law_2109 ?_
  replace hf := bd_some hf
  obtain ⟨q2, eq2, hf⟩ := hf
  refine lM_calli hL hG (lM_runV F hL hG (c_X9_toProp l (wM w ρ2) x0_ok n (g (x4 + (1 : Int32)).toNatClampNeg) (g (x4 + (2 : Int32)).toNatClampNeg) _ _ eq2) cv_L_223 ⟨by decide, by decide⟩ rfl hl.1 rfl (Nat.le_of_ble_eq_true rfl) dL_law_2110 ⟨by show 100 + 4 * j + 4 ≤ 601024; omega, by show 20000 + 24 * j + 24 ≤ 7293034; omega⟩) (fun H locs hG => ?_)
  refine lv_istore (lv' := [(6, .int q2.1), (5, .int q1.1), (0, .ref b), (1, .ref (w.2.2.1 0)), (2, .ref (ρ2 0)), (3, .ref (w.2.2.1 60)), (4, .int x4)]) hx hb dL_law_2113 hl (by decide) rfl (fun ls hl => ?_)
  refine lv_aload_n hx hb dL_law_2115 rfl (lv_at hl 4 rfl) ?_
  replace hf := bd_some hf
  obtain ⟨q3, eq3, hf⟩ := hf
  refine lM_calli hL hG (lM_runV F hL hG (c_X9_thrown l (wM w ρ2) x0_ok n  _ _ eq3) cv_L_110 ⟨by decide, by decide⟩ rfl hl.1 rfl (Nat.le_of_ble_eq_true rfl) dL_law_2116 ⟨by show 100 + 4 * j + 4 ≤ 601024; omega, by show 20000 + 24 * j + 24 ≤ 7293034; omega⟩) (fun H locs hG => ?_)
  refine lv_iload hx hb dL_law_2119 (lv_at hl 1 rfl) ?_
  refine lv_icmp_eq (tgt := 2126) hx hb dL_law_2121 (by decide) (fun c4 => ?_) (fun c4 => ?_)
  · replace hf := if_t c4 hf
    refine lv_iload hx hb dL_law_2126 (lv_at hl 1 rfl) ?_
    refine lv_if_ne (tgt := 2143) hx hb dL_law_2128 (by decide) (fun c5 => ?_) (fun c5 => ?_)
    · replace hf := if_f c5 hf
      refine lv_goto (tgt := 2170) hx hb dL_law_2143 (by decide) ?_
      refine lv_iinc (v := (x4 + (6 : Int32))) (lv' := [(4, .int (x4 + (6 : Int32))), (6, .int q2.1), (5, .int q1.1), (0, .ref b), (1, .ref (w.2.2.1 0)), (2, .ref (ρ2 0)), (3, .ref (w.2.2.1 60))]) hx hb dL_law_2170 hl (k := 6) rfl rfl (by decide) rfl (fun ls hl => ?_)
      refine lv_goto (tgt := 23) hx hb dL_law_2173 (by decide) ?_
      cases hf
      refine W.widen (k := 100 + 4 * (j + 1)) (n := 20000 + 24 * (j + 1)) (by omega) (by omega) ?_
      exact K _ _ ls hG (lv_sub hl [3, 4, 5, 6, 0] rfl)
    · replace hf := if_t c5 hf
      refine lv_aload_n hx hb dL_law_2131 rfl (lv_at hl 5 rfl) ?_
      refine lv_iconst (v := 0) hx hb dL_law_2132 (by decide) ?_
      refine l_out F hG dL_law_2133 ?_
      refine lv_iload hx hb dL_law_2134 (lv_at hl 0 rfl) ?_
      refine lv_i2l hx hb dL_law_2136 rfl ?_
      refine W.lcmp hx hb dL_law_2137 ?_
      refine lv_if_eq (tgt := 2143) hx hb dL_law_2138 (by decide) (fun c6 => ?_) (fun c6 => ?_)
      · replace hf := if_t c6 hf
        refine lv_goto (tgt := 2170) hx hb dL_law_2143 (by decide) ?_
        refine lv_iinc (v := (x4 + (6 : Int32))) (lv' := [(4, .int (x4 + (6 : Int32))), (6, .int q2.1), (5, .int q1.1), (0, .ref b), (1, .ref (w.2.2.1 0)), (2, .ref (ρ2 0)), (3, .ref (w.2.2.1 60))]) hx hb dL_law_2170 hl (k := 6) rfl rfl (by decide) rfl (fun ls hl => ?_)
        refine lv_goto (tgt := 23) hx hb dL_law_2173 (by decide) ?_
        cases hf
        refine W.widen (k := 100 + 4 * (j + 1)) (n := 20000 + 24 * (j + 1)) (by omega) (by omega) ?_
        exact K _ _ ls hG (lv_sub hl [3, 4, 5, 6, 0] rfl)
      · replace hf := if_f c6 hf
        cases hf
  · replace hf := if_f c4 hf
    cases hf

def lw_c35 (n : Nat) (g : Nat → Int32) (x4 : Int32) (M M2 : Mem) : Option (Mem × Mem) := bd (f_X8_image n  M) (fun q1 => bd (f_X9_image n  M2) (fun q2 => some (q1, q2)))
set_option maxHeartbeats 4000000 in
set_option maxRecDepth 100000 in
theorem lw_case35 {p : Program} {l : Launch} {e : Env} {s : State} {m : MethodId} {below : List Frame} {meth : Method} {c : Code} {b L : Nat} {g : Nat → Int32} {w : Wd} {ρ2 : Nat → Nat} (C9 : LC p l s m c b L g w ρ2) (n j : Nat) (hj : j < 512) (x4 : Int32) (hbs : ∀ k : Int32, k = 0 ∨ k = 1 ∨ k = 2 ∨ k = 3 ∨ k = 4 ∨ k = 5 → vp_in (x4 + k) L) (M M2 M9 M8 : Mem) (hf : lw_c35 n g x4 M M2 = some (M9, M8)) (K : ∀ (H : Heap) (locs : List Loc) (ls : Array Slot), LG w ρ2 s M9 M8 H locs → lv_has ls 7 [(0, .ref b), (1, .ref (w.2.2.1 0)), (2, .ref (ρ2 0)), (3, .ref (w.2.2.1 60)), (4, .int (x4 + (6 : Int32)))] → W p l e room_1 s m #[Value.ref b] below meth c H locs (100 + 4 * (j + 1)) (20000 + 24 * (j + 1)) (lw_Z below #[Value.ref b] s) (F0 m 23 ls [])) (H : Heap) (locs : List Loc) (ls : Array Slot) (hG : LG w ρ2 s M M2 H locs) (hl : lv_has ls 7 [(0, .ref b), (1, .ref (w.2.2.1 0)), (2, .ref (ρ2 0)), (3, .ref (w.2.2.1 60)), (4, .int x4)]) : W p l e room_1 s m #[Value.ref b] below meth c H locs (100 + 4 * j) (20000 + 24 * j) (lw_Z below #[Value.ref b] s) (F0 m 2146 ls []) := by
  obtain ⟨F, hst, hL, hX, hXs, hbl⟩ := C9
  have hx := F.1.1
  have hb := F.1.2.1
  have hbA : ¬ A0 s b := Nat.not_le.mpr hbl
  have hb1 := hbs 1 (by decide)
  have hb2 := hbs 2 (by decide)
  have hb3 := hbs 3 (by decide)
  have hb4 := hbs 4 (by decide)
  have hb5 := hbs 5 (by decide)
  unfold lw_c35 at hf
  refine lv_aload_n hx hb dL_law_2146 rfl (lv_at hl 1 rfl) ?_
  replace hf := bd_some hf
  obtain ⟨q1, eq1, hf⟩ := hf
  refine lC_callv hL hG (lC_runV F hL hX hG (c_X8_image l w n  _ _ eq1) cv_L_224 ⟨by decide, by decide⟩ rfl hl.1 rfl (Nat.le_of_ble_eq_true rfl) dL_law_2147 ⟨by show 100 + 4 * j  ≤ 601024; omega, by show 20000 + 24 * j  ≤ 7293034; omega⟩) (fun H locs hG => ?_)
  refine lv_aload_n hx hb dL_law_2150 rfl (lv_at hl 2 rfl) ?_
  replace hf := bd_some hf
  obtain ⟨q2, eq2, hf⟩ := hf
  refine lM_callv hL hG (lM_runV F hL hG (c_X9_image l (wM w ρ2) x0_ok n  _ _ eq2) cv_L_227 ⟨by decide, by decide⟩ rfl hl.1 rfl (Nat.le_of_ble_eq_true rfl) dL_law_2151 ⟨by show 100 + 4 * j  ≤ 601024; omega, by show 20000 + 24 * j  ≤ 7293034; omega⟩) (fun H locs hG => ?_)
  refine lv_goto (tgt := 2170) hx hb dL_law_2154 (by decide) ?_
  refine lv_iinc (v := (x4 + (6 : Int32))) (lv' := [(4, .int (x4 + (6 : Int32))), (0, .ref b), (1, .ref (w.2.2.1 0)), (2, .ref (ρ2 0)), (3, .ref (w.2.2.1 60))]) hx hb dL_law_2170 hl (k := 4) rfl rfl (by decide) rfl (fun ls hl => ?_)
  refine lv_goto (tgt := 23) hx hb dL_law_2173 (by decide) ?_
  cases hf
  refine W.widen (k := 100 + 4 * (j + 1)) (n := 20000 + 24 * (j + 1)) (by omega) (by omega) ?_
  exact K _ _ ls hG (lv_sub hl [1, 2, 3, 4, 0] rfl)

def lw_c36 (n : Nat) (g : Nat → Int32) (x4 : Int32) (M M2 : Mem) : Option (Mem × Mem) := bd (f_X8_restore n  M) (fun q1 => bd (f_X9_restore n  M2) (fun q2 => if q1.1 = q2.1 then (some (q1.2, q2.2)) else (none)))
set_option maxHeartbeats 4000000 in
set_option maxRecDepth 100000 in
theorem lw_case36 {p : Program} {l : Launch} {e : Env} {s : State} {m : MethodId} {below : List Frame} {meth : Method} {c : Code} {b L : Nat} {g : Nat → Int32} {w : Wd} {ρ2 : Nat → Nat} (C9 : LC p l s m c b L g w ρ2) (n j : Nat) (hj : j < 512) (x4 : Int32) (hbs : ∀ k : Int32, k = 0 ∨ k = 1 ∨ k = 2 ∨ k = 3 ∨ k = 4 ∨ k = 5 → vp_in (x4 + k) L) (M M2 M9 M8 : Mem) (hf : lw_c36 n g x4 M M2 = some (M9, M8)) (K : ∀ (H : Heap) (locs : List Loc) (ls : Array Slot), LG w ρ2 s M9 M8 H locs → lv_has ls 7 [(0, .ref b), (1, .ref (w.2.2.1 0)), (2, .ref (ρ2 0)), (3, .ref (w.2.2.1 60)), (4, .int (x4 + (6 : Int32)))] → W p l e room_1 s m #[Value.ref b] below meth c H locs (100 + 4 * (j + 1)) (20000 + 24 * (j + 1)) (lw_Z below #[Value.ref b] s) (F0 m 23 ls [])) (H : Heap) (locs : List Loc) (ls : Array Slot) (hG : LG w ρ2 s M M2 H locs) (hl : lv_has ls 7 [(0, .ref b), (1, .ref (w.2.2.1 0)), (2, .ref (ρ2 0)), (3, .ref (w.2.2.1 60)), (4, .int x4)]) : W p l e room_1 s m #[Value.ref b] below meth c H locs (100 + 4 * j) (20000 + 24 * j) (lw_Z below #[Value.ref b] s) (F0 m 2157 ls []) := by
  obtain ⟨F, hst, hL, hX, hXs, hbl⟩ := C9
  have hx := F.1.1
  have hb := F.1.2.1
  have hbA : ¬ A0 s b := Nat.not_le.mpr hbl
  have hb1 := hbs 1 (by decide)
  have hb2 := hbs 2 (by decide)
  have hb3 := hbs 3 (by decide)
  have hb4 := hbs 4 (by decide)
  have hb5 := hbs 5 (by decide)
  unfold lw_c36 at hf
  refine lv_aload_n hx hb dL_law_2157 rfl (lv_at hl 1 rfl) ?_
  replace hf := bd_some hf
  obtain ⟨q1, eq1, hf⟩ := hf
  refine lC_calli hL hG (lC_runV F hL hX hG (c_X8_restore l w n  _ _ eq1) cv_L_228 ⟨by decide, by decide⟩ rfl hl.1 rfl (Nat.le_of_ble_eq_true rfl) dL_law_2158 ⟨by show 100 + 4 * j  ≤ 601024; omega, by show 20000 + 24 * j  ≤ 7293034; omega⟩) (fun H locs hG => ?_)
  refine lv_aload_n hx hb dL_law_2161 rfl (lv_at hl 2 rfl) ?_
  replace hf := bd_some hf
  obtain ⟨q2, eq2, hf⟩ := hf
  refine lM_calli hL hG (lM_runV F hL hG (c_X9_restore l (wM w ρ2) x0_ok n  _ _ eq2) cv_L_232 ⟨by decide, by decide⟩ rfl hl.1 rfl (Nat.le_of_ble_eq_true rfl) dL_law_2162 ⟨by show 100 + 4 * j  ≤ 601024; omega, by show 20000 + 24 * j  ≤ 7293034; omega⟩) (fun H locs hG => ?_)
  refine lv_icmp_eq (tgt := 2170) hx hb dL_law_2165 (by decide) (fun c3 => ?_) (fun c3 => ?_)
  · replace hf := if_t c3 hf
    refine lv_iinc (v := (x4 + (6 : Int32))) (lv' := [(4, .int (x4 + (6 : Int32))), (0, .ref b), (1, .ref (w.2.2.1 0)), (2, .ref (ρ2 0)), (3, .ref (w.2.2.1 60))]) hx hb dL_law_2170 hl (k := 4) rfl rfl (by decide) rfl (fun ls hl => ?_)
    refine lv_goto (tgt := 23) hx hb dL_law_2173 (by decide) ?_
    cases hf
    refine W.widen (k := 100 + 4 * (j + 1)) (n := 20000 + 24 * (j + 1)) (by omega) (by omega) ?_
    exact K _ _ ls hG (lv_sub hl [1, 2, 3, 4, 0] rfl)
  · replace hf := if_f c3 hf
    cases hf
def lw_step (n : Nat) (g : Nat → Int32) (x4 : Int32) (M M2 : Mem) : Option (Mem × Mem) := if (g x4.toNatClampNeg &&& (63 : Int32)) = (0 : Int32) then lw_c0 n g x4 M M2 else if (g x4.toNatClampNeg &&& (63 : Int32)) = (1 : Int32) then lw_c1 n g x4 M M2 else if (g x4.toNatClampNeg &&& (63 : Int32)) = (2 : Int32) then lw_c2 n g x4 M M2 else if (g x4.toNatClampNeg &&& (63 : Int32)) = (3 : Int32) then lw_c3 n g x4 M M2 else if (g x4.toNatClampNeg &&& (63 : Int32)) = (4 : Int32) then lw_c4 n g x4 M M2 else if (g x4.toNatClampNeg &&& (63 : Int32)) = (5 : Int32) then lw_c5 n g x4 M M2 else if (g x4.toNatClampNeg &&& (63 : Int32)) = (6 : Int32) then lw_c6 n g x4 M M2 else if (g x4.toNatClampNeg &&& (63 : Int32)) = (7 : Int32) then lw_c7 n g x4 M M2 else if (g x4.toNatClampNeg &&& (63 : Int32)) = (8 : Int32) then lw_c8 n g x4 M M2 else if (g x4.toNatClampNeg &&& (63 : Int32)) = (9 : Int32) then lw_c9 n g x4 M M2 else if (g x4.toNatClampNeg &&& (63 : Int32)) = (10 : Int32) then lw_c10 n g x4 M M2 else if (g x4.toNatClampNeg &&& (63 : Int32)) = (11 : Int32) then lw_c11 n g x4 M M2 else if (g x4.toNatClampNeg &&& (63 : Int32)) = (12 : Int32) then lw_c12 n g x4 M M2 else if (g x4.toNatClampNeg &&& (63 : Int32)) = (13 : Int32) then lw_c13 n g x4 M M2 else if (g x4.toNatClampNeg &&& (63 : Int32)) = (14 : Int32) then lw_c14 n g x4 M M2 else if (g x4.toNatClampNeg &&& (63 : Int32)) = (15 : Int32) then lw_c15 n g x4 M M2 else if (g x4.toNatClampNeg &&& (63 : Int32)) = (16 : Int32) then lw_c16 n g x4 M M2 else if (g x4.toNatClampNeg &&& (63 : Int32)) = (17 : Int32) then lw_c17 n g x4 M M2 else if (g x4.toNatClampNeg &&& (63 : Int32)) = (18 : Int32) then lw_c18 n g x4 M M2 else if (g x4.toNatClampNeg &&& (63 : Int32)) = (19 : Int32) then lw_c19 n g x4 M M2 else if (g x4.toNatClampNeg &&& (63 : Int32)) = (20 : Int32) then lw_c20 n g x4 M M2 else if (g x4.toNatClampNeg &&& (63 : Int32)) = (21 : Int32) then lw_c21 n g x4 M M2 else if (g x4.toNatClampNeg &&& (63 : Int32)) = (22 : Int32) then lw_c22 n g x4 M M2 else if (g x4.toNatClampNeg &&& (63 : Int32)) = (23 : Int32) then lw_c23 n g x4 M M2 else if (g x4.toNatClampNeg &&& (63 : Int32)) = (24 : Int32) then lw_c24 n g x4 M M2 else if (g x4.toNatClampNeg &&& (63 : Int32)) = (25 : Int32) then lw_c25 n g x4 M M2 else if (g x4.toNatClampNeg &&& (63 : Int32)) = (26 : Int32) then lw_c26 n g x4 M M2 else if (g x4.toNatClampNeg &&& (63 : Int32)) = (27 : Int32) then lw_c27 n g x4 M M2 else if (g x4.toNatClampNeg &&& (63 : Int32)) = (28 : Int32) then lw_c28 n g x4 M M2 else if (g x4.toNatClampNeg &&& (63 : Int32)) = (29 : Int32) then lw_c29 n g x4 M M2 else if (g x4.toNatClampNeg &&& (63 : Int32)) = (30 : Int32) then lw_c30 n g x4 M M2 else if (g x4.toNatClampNeg &&& (63 : Int32)) = (31 : Int32) then lw_c31 n g x4 M M2 else if (g x4.toNatClampNeg &&& (63 : Int32)) = (32 : Int32) then lw_c32 n g x4 M M2 else if (g x4.toNatClampNeg &&& (63 : Int32)) = (33 : Int32) then lw_c33 n g x4 M M2 else if (g x4.toNatClampNeg &&& (63 : Int32)) = (34 : Int32) then lw_c34 n g x4 M M2 else if (g x4.toNatClampNeg &&& (63 : Int32)) = (35 : Int32) then lw_c35 n g x4 M M2 else if (g x4.toNatClampNeg &&& (63 : Int32)) = (36 : Int32) then lw_c36 n g x4 M M2 else some (M, M2)
