theorem m_134 : (.classLink RL 8 RX8 : Cond) ∈ WS := ws_mem 134 (by decide +kernel) (by decide +kernel)
theorem m_135 : (.instantiable RX8 15 : Cond) ∈ WS := ws_mem 135 (by decide +kernel) (by decide +kernel)
theorem m_1295 : (.classLink RL 96 RX9 : Cond) ∈ WS := ws_mem 1295 (by decide +kernel) (by decide +kernel)
theorem m_1296 : (.instantiable RX9 65 : Cond) ∈ WS := ws_mem 1296 (by decide +kernel) (by decide +kernel)
theorem m_136 : (.methodLink RL 95 yX8_init : Cond) ∈ WS := ws_mem 136 (by decide +kernel) (by decide +kernel)
theorem m_138 : (.code yX8_init cX8_init 1 none : Cond) ∈ WS := ws_mem 138 (by decide +kernel) (by decide +kernel)
theorem m_137 : (.instanceMethod yX8_init : Cond) ∈ WS := ws_mem 137 (by decide +kernel) (by decide +kernel)
theorem m_1297 : (.methodLink RL 98 yX9_init : Cond) ∈ WS := ws_mem 1297 (by decide +kernel) (by decide +kernel)
theorem m_1299 : (.code yX9_init cX9_init 1 none : Cond) ∈ WS := ws_mem 1299 (by decide +kernel) (by decide +kernel)
theorem m_1298 : (.instanceMethod yX9_init : Cond) ∈ WS := ws_mem 1298 (by decide +kernel) (by decide +kernel)
theorem lkn_L_8 : LnkN RL 8 5 [.null, .null, .null, .null, .null, .null, .null, .null, .null, .null, .null, .null, .null, .int 0, .int 0] := ⟨RX8, TX8, 15, tyX8, rfl, wi_X8, tyX8_ok, m_134, m_135, m_108, by decide +kernel, rfl⟩
theorem lkn_L_96 : LnkN RL 96 6 [.int 0, .int 0, .int 0, .int 0, .int 0, .int 0, .int 0, .int 0, .null, .null, .null, .int 0, .int 0, .int 0, .null, .int 0, .int 0, .int 0, .int 0, .int 0, .int 0, .int 0, .long 0, .int 0, .int 0, .int 0, .int 0, .int 0, .int 0, .int 0, .int 0, .int 0, .int 0, .int 0, .int 0, .int 0, .int 0, .null, .null, .null, .null, .null, .null, .null, .null, .null, .int 0, .null, .int 0, .int 0, .null, .null, .int 0, .null, .int 0, .null, .null, .null, .int 0, .int 0, .int 0, .int 0, .null, .null, .null] := ⟨RX9, TX9, 65, tyX9, rfl, wi_X9, tyX9_ok, m_1295, m_1296, m_116, by decide +kernel, rfl⟩
/-! The start: both objects are made; their cells as the two worlds. -/
def rhoC (a : Nat) (q : Nat → Nat) (o : Nat) : Nat → Nat := fun i => match i with
  | 0 => a
  | 1 => q 0
  | 2 => q 35
  | 3 => q 36
  | 4 => q 1
  | 5 => q 2
  | 6 => q 3
  | 7 => q 4
  | 8 => q 5
  | 9 => q 6
  | 10 => q 7
  | 11 => q 8
  | 12 => q 9
  | 13 => q 10
  | 14 => q 11
  | 15 => q 12
  | 16 => q 13
  | 17 => q 14
  | 18 => q 15
  | 19 => q 16
  | 20 => q 17
  | 21 => q 18
  | 22 => q 24
  | 23 => q 25
  | 24 => q 26
  | 25 => q 27
  | 26 => q 28
  | 27 => q 29
  | 28 => q 39
  | 29 => q 40
  | 30 => q 41
  | 31 => q 42
  | 32 => q 43
  | 33 => q 44
  | 34 => q 19
  | 35 => q 20
  | 36 => q 30
  | 37 => q 31
  | 38 => q 21
  | 39 => q 22
  | 40 => q 23
  | 41 => q 32
  | 42 => q 33
  | 43 => q 34
  | 44 => q 37
  | 45 => q 38
  | 46 => q 45
  | 47 => q 46
  | 48 => q 47
  | 49 => q 48
  | 50 => q 49
  | 51 => q 50
  | 52 => q 51
  | 53 => q 52
  | 54 => q 53
  | 55 => q 54
  | 56 => q 55
  | 57 => q 56
  | 58 => q 57
  | 59 => q 58
  | _ => o
def posC : Nat → Nat := fun i => match i with
  | 0 => 0
  | 1 => 1
  | 2 => 36
  | 3 => 37
  | 4 => 2
  | 5 => 3
  | 6 => 4
  | 7 => 5
  | 8 => 6
  | 9 => 7
  | 10 => 8
  | 11 => 9
  | 12 => 10
  | 13 => 11
  | 14 => 12
  | 15 => 13
  | 16 => 14
  | 17 => 15
  | 18 => 16
  | 19 => 17
  | 20 => 18
  | 21 => 19
  | 22 => 25
  | 23 => 26
  | 24 => 27
  | 25 => 28
  | 26 => 29
  | 27 => 30
  | 28 => 40
  | 29 => 41
  | 30 => 42
  | 31 => 43
  | 32 => 44
  | 33 => 45
  | 34 => 20
  | 35 => 21
  | 36 => 31
  | 37 => 32
  | 38 => 22
  | 39 => 23
  | 40 => 24
  | 41 => 33
  | 42 => 34
  | 43 => 35
  | 44 => 38
  | 45 => 39
  | 46 => 46
  | 47 => 47
  | 48 => 48
  | 49 => 49
  | 50 => 50
  | 51 => 51
  | 52 => 52
  | 53 => 53
  | 54 => 54
  | 55 => 55
  | 56 => 56
  | 57 => 57
  | 58 => 58
  | 59 => 59
  | _ => 84
def rhoM (b : Nat) (q : Nat → Nat) : Nat → Nat := fun i => match i with
  | 0 => b
  | k + 1 => q k
def mcI : Nat → Nat → Int32 := fun i => match i with
  | 0 => fun k => match k with | 12 => 53 | 13 => -1 | _ => 0
  | 44 => fun k => match k with | 2 => 46 | 9 => 32 | 10 => 21 | _ => 0
  | 46 => fun k => match k with | 8 => 9 | 9 => 10 | _ => 0
  | 53 => fun k => match k with | 8 => 9 | 9 => 10 | _ => 0
  | 49 => (upd (upd (upd (fun _ => (0 : Int32)) (0 : Int32).toNatClampNeg (-1 : Int32)) (1 : Int32).toNatClampNeg (-1 : Int32)) (2 : Int32).toNatClampNeg (-1 : Int32))
  | 50 => (upd (upd (upd (fun _ => (0 : Int32)) (0 : Int32).toNatClampNeg (-1 : Int32)) (1 : Int32).toNatClampNeg (-1 : Int32)) (2 : Int32).toNatClampNeg (-1 : Int32))
  | 56 => (upd (upd (upd (fun _ => (0 : Int32)) (0 : Int32).toNatClampNeg (-1 : Int32)) (1 : Int32).toNatClampNeg (-1 : Int32)) (2 : Int32).toNatClampNeg (-1 : Int32))
  | 57 => (upd (upd (upd (fun _ => (0 : Int32)) (0 : Int32).toNatClampNeg (-1 : Int32)) (1 : Int32).toNatClampNeg (-1 : Int32)) (2 : Int32).toNatClampNeg (-1 : Int32))
  | _ => fun _ => 0
def mc0 : Mem := (mcI, fun _ _ => 0)
def mmI : Nat → Nat → Int32 := fun i => match i with
  | 0 => fun k => match k with | 2 => 9 | 3 => 10 | 5 => -1 | 6 => -1 | 7 => -1 | 13 => -1 | 52 => -1 | _ => 0
  | _ => fun _ => 0
def mm0 : Mem := (mmI, fun _ _ => 0)
def allW (w : Wd) (a : Nat) (q : Nat → Nat) (b : Nat) (r : Nat → Nat) (o : Nat) : va_W := (([] ++ L_X8 w a q) ++ L_X9 w b r) ++ [(o, .inl (w.2.1 1, 1, .inr (.inl (fun _ => (0 : Int64)))))]
set_option maxRecDepth 100000 in
set_option maxHeartbeats 4000000 in
theorem fitC (w : Wd) (a : Nat) (q : Nat → Nat) (b : Nat) (r : Nat → Nat) (o : Nat) : ∀ i, i < 61 → (allW w a q b r o)[posC i]? = some (rhoC a q o i, cel (w.1, w.2.1, rhoC a q o, w.2.2.2) layC mc0 i) := fun i hi => match i, hi with
  | 0, _ => rfl
  | 1, _ => rfl
  | 2, _ => rfl
  | 3, _ => rfl
  | 4, _ => rfl
  | 5, _ => rfl
  | 6, _ => rfl
  | 7, _ => rfl
  | 8, _ => rfl
  | 9, _ => rfl
  | 10, _ => rfl
  | 11, _ => rfl
  | 12, _ => rfl
  | 13, _ => rfl
  | 14, _ => rfl
  | 15, _ => rfl
  | 16, _ => rfl
  | 17, _ => rfl
  | 18, _ => rfl
  | 19, _ => rfl
  | 20, _ => rfl
  | 21, _ => rfl
  | 22, _ => rfl
  | 23, _ => rfl
  | 24, _ => rfl
  | 25, _ => rfl
  | 26, _ => rfl
  | 27, _ => rfl
  | 28, _ => rfl
  | 29, _ => rfl
  | 30, _ => rfl
  | 31, _ => rfl
  | 32, _ => rfl
  | 33, _ => rfl
  | 34, _ => rfl
  | 35, _ => rfl
  | 36, _ => rfl
  | 37, _ => rfl
  | 38, _ => rfl
  | 39, _ => rfl
  | 40, _ => rfl
  | 41, _ => rfl
  | 42, _ => rfl
  | 43, _ => rfl
  | 44, _ => rfl
  | 45, _ => rfl
  | 46, _ => rfl
  | 47, _ => rfl
  | 48, _ => rfl
  | 49, _ => rfl
  | 50, _ => rfl
  | 51, _ => rfl
  | 52, _ => rfl
  | 53, _ => rfl
  | 54, _ => rfl
  | 55, _ => rfl
  | 56, _ => rfl
  | 57, _ => rfl
  | 58, _ => rfl
  | 59, _ => rfl
  | 60, _ => rfl
  | k + 61, h => absurd h (by omega)
set_option maxRecDepth 100000 in
set_option maxHeartbeats 4000000 in
theorem fitM (w : Wd) (ρ : Nat → Nat) (a : Nat) (q : Nat → Nat) (b : Nat) (r : Nat → Nat) (o : Nat) : ∀ i, i < 24 → (allW w a q b r o)[60 + i]? = some (rhoM b r i, cel (wM (w.1, w.2.1, ρ, w.2.2.2) (rhoM b r)) layM mm0 i) := fun i hi => match i, hi with
  | 0, _ => rfl
  | 1, _ => rfl
  | 2, _ => rfl
  | 3, _ => rfl
  | 4, _ => rfl
  | 5, _ => rfl
  | 6, _ => rfl
  | 7, _ => rfl
  | 8, _ => rfl
  | 9, _ => rfl
  | 10, _ => rfl
  | 11, _ => rfl
  | 12, _ => rfl
  | 13, _ => rfl
  | 14, _ => rfl
  | 15, _ => rfl
  | 16, _ => rfl
  | 17, _ => rfl
  | 18, _ => rfl
  | 19, _ => rfl
  | 20, _ => rfl
  | 21, _ => rfl
  | 22, _ => rfl
  | 23, _ => rfl
  | k + 24, h => absurd h (by omega)
theorem posC_inj : ∀ i, i < 61 → ∀ j, j < 61 → posC i = posC j → i = j := by decide +kernel
theorem posC_M : ∀ i, i < 61 → ∀ j, j < 24 → posC i ≠ 60 + j := by decide +kernel
theorem fit_LD {w : Wd} {A : Nat → Prop} {H0 : Heap} {a b o : Nat} {q r : Nat → Nat} {H : Heap} {locs : List Loc} (hG : GL w A H0 (allW w a q b r o) H locs) : LD (rhoC a q o) (rhoM b r) A := by
  obtain ⟨-, hD, -⟩ := hG
  refine ⟨fun i j hi hj h => ?_, fun i j hi hj h => ?_, fun i j hi hj h => ?_, fun i hi => ?_, fun i hi => ?_⟩
  · exact posC_inj i hi j hj (hD.1 _ _ _ _ (fitC w a q b r o i hi) (fitC w a q b r o j hj) h)
  · have := hD.1 _ _ _ _ (fitM w (rhoC a q o) a q b r o i hi) (fitM w (rhoC a q o) a q b r o j hj) h
    omega
  · exact posC_M i hi j hj (hD.1 _ _ _ _ (fitC w a q b r o i hi) (fitM w (rhoC a q o) a q b r o j hj) h)
  · exact hD.2 _ _ (fitC w a q b r o i hi)
  · exact hD.2 _ _ (fitM w (rhoC a q o) a q b r o i hi)
theorem fit_LG {w : Wd} {s : State} {a b o : Nat} {q r : Nat → Nat} {H : Heap} {locs : List Loc} (hG : GL w (A0 s) s.heap (allW w a q b r o) H locs) : LG (w.1, w.2.1, rhoC a q o, w.2.2.2) (rhoM b r) s mc0 mm0 H locs := by
  obtain ⟨hP, -, hS⟩ := hG
  refine ⟨fun k x hk => ?_, fun k x hk => ?_, hS⟩
  · obtain ⟨h1, h2⟩ := gw_of hk
    rw [h2]
    exact hP _ _ (fitC w a q b r o k h1)
  · obtain ⟨h1, h2⟩ := gw_of hk
    rw [h2]
    exact hP _ _ (fitM w (rhoC a q o) a q b r o k h1)
set_option maxHeartbeats 4000000 in
set_option maxRecDepth 100000 in
theorem law_walk {p : Program} {l : Launch} {e : Env} {s : State} {m : MethodId} {below : List Frame} {meth : Method} {c : Code} {b L : Nat} {g : Nat → Int32} {w : Wd} (F : FX w p m c cL_law 7 s #[Value.ref b] RL) (hst : l.stackTraces = false) (hXI : XI w (A0 s) s s.heap) (hX : XN (YC w) (A0 s) s s.heap) (hXs : va_X b L g s s.heap) (hbl : b < s.heap.size) (hr : meth.sig.returnType = ret) (hlk : meth.locks = false) (hLb : L ≤ 3072) (n : Nat) (R : Mem → Mem → Prop) (hR0 : R mc0 mm0) (hR : ∀ (x4 : Int32) (M M2 : Mem), R M M2 → ∃ M9 M8, lw_step n g x4 M M2 = some (M9, M8) ∧ R M9 M8) : W p l e room_1 s m #[Value.ref b] below meth c s.heap [] 0 0 (lw_Z below #[Value.ref b] s) (entryFrame m ([Value.ref b] : List Value).toArray 7) := by
  have hl := lv_entry [Value.ref b] (n := 7) (Nat.le_of_ble_eq_true rfl)
  rw [lg_entry_eq]
  generalize ((lg_sl [Value.ref b] ++ List.replicate (7 - (lg_sl [Value.ref b]).length) Slot.unset).toArray) = ls at hl
  have hl : lv_has ls 7 [(0, .ref b)] := hl
  have hx := F.1.1
  have hb := F.1.2.1
  have hA : ∀ q, s.heap.size ≤ q → A0 s q := fun q h => h
  have hG : GL w (A0 s) s.heap [] s.heap [] := ⟨fun k q h => (by cases h), ⟨fun i j x y hi => (by cases hi), fun k q h => (by cases h)⟩, va_S.rf⟩
  refine k_new F hG hA lkn_L_8 (by decide) (by decide) dL_law_0 (fun a H hG => ?_)
  have hG : GL w (A0 s) s.heap ([] ++ [(a, e0_X8)]) H _ := hG
  refine lv_dup hx hb dL_law_3 rfl ?_
  refine k_call hG hA (k_runI (xi_ok w) F hA hXI hG (c_X8_init l w a) m_136 m_138 m_108 m_137 ⟨by decide +kernel, by decide +kernel, by decide +kernel⟩ rfl ⟨by decide, by decide⟩ hl.1 (Nat.le_of_ble_eq_true rfl) dL_law_4 ⟨by decide, by decide⟩) (fun q H locs hG => ?_)
  refine lv_astore_n (lv' := [(1, .ref a), (0, .ref b)]) hx hb dL_law_7 rfl hl (by decide) rfl (fun ls hl => ?_)
  refine k_new F hG hA lkn_L_96 (by decide) (by decide) dL_law_8 (fun b2 H hG => ?_)
  have hG : GL w (A0 s) s.heap (([] ++ L_X8 w a q) ++ [(b2, e0_X9)]) H _ := hG
  refine lv_dup hx hb dL_law_11 rfl ?_
  refine k_call hG hA (k_runI (xi_ok w) F hA hXI hG (c_X9_init l w b2) m_1297 m_1299 m_116 m_1298 ⟨by decide +kernel, by decide +kernel, by decide +kernel⟩ rfl ⟨by decide, by decide⟩ hl.1 (Nat.le_of_ble_eq_true rfl) dL_law_12 ⟨by decide, by decide⟩) (fun r H locs hG => ?_)
  refine lv_astore_n (lv' := [(2, .ref b2), (1, .ref a), (0, .ref b)]) hx hb dL_law_15 rfl hl (by decide) rfl (fun ls hl => ?_)
  refine lv_iconst (v := 1) hx hb dL_law_16 (by decide) ?_
  refine k_newa (atype := .long) (N' := 1) (a0 := (1, .inr (.inl (fun _ => (0 : Int64))))) F hG hA m_292 1 rfl (fun h9 => h9) (fun _ => rfl) (by decide) (by decide) (by decide) (by decide) (by decide) dL_law_17 (fun o H hG => ?_)
  have hG : GL w (A0 s) s.heap (allW w a q b2 r o) H _ := hG
  refine lv_astore_n (lv' := [(3, .ref o), (2, .ref b2), (1, .ref a), (0, .ref b)]) hx hb dL_law_19 rfl hl (by decide) rfl (fun ls hl => ?_)
  refine lv_iconst (v := 0) hx hb dL_law_20 (by decide) ?_
  refine lv_istore (lv' := [(4, .int 0), (3, .ref o), (2, .ref b2), (1, .ref a), (0, .ref b)]) hx hb dL_law_21 hl (by decide) rfl (fun ls hl => ?_)
  refine W.widen (k := 100 + 4 * 0) (n := 20000 + 24 * 0) (by decide) (by decide) ?_
  have C9 : LC p l s m c b L g (w.1, w.2.1, rhoC a q o, w.2.2.2) (rhoM b2 r) := ⟨F, hst, fit_LD hG, hX, hXs, hbl⟩
  exact law_loop C9 hr hlk hLb n R hR (L + 1) 0 (by omega) (by omega) 0 rfl mc0 mm0 hR0 H locs ls (fit_LG hG) (lv_sub hl [4, 3, 2, 1, 0] rfl)
