/-! Long.bitCount, byte by byte. -/
theorem and256 {a b c d : Nat} (hb : b < 256) (hd : d < 256) : (256 * a + b) &&& (256 * c + d) = 256 * (a &&& c) + (b &&& d) := by
  have h8 : ∀ x y, y < 256 → ∀ i, (256 * x + y).testBit i = if i < 8 then y.testBit i else x.testBit (i - 8) := fun x y hy i => by
    rw [show (256 : Nat) = 2 ^ 8 from rfl]
    exact Nat.testBit_two_pow_mul_add x (i := 8) hy i
  apply Nat.eq_of_testBit_eq
  intro i
  have hbd : b &&& d < 256 := Nat.lt_of_le_of_lt Nat.and_le_left hb
  rw [Nat.testBit_and, h8 a b hb, h8 c d hd, h8 _ _ hbd]
  by_cases c1 : i < 8
  · rw [if_pos c1, if_pos c1, if_pos c1, Nat.testBit_and]
  · rw [if_neg c1, if_neg c1, if_neg c1, Nat.testBit_and]
def rep (c : Nat) : Nat → Nat
  | 0 => 0
  | k + 1 => 256 * rep c k + c
def g1b (b : Nat) : Nat := b - ((b / 2) &&& 85)
def g2b (b : Nat) : Nat := (b &&& 51) + ((b / 4) &&& 51)
def g3b (b : Nat) : Nat := (b + b / 16) &&& 15
def vlB : List Nat → Nat
  | [] => 0
  | b :: l => 256 * vlB l + b
theorem sh1 : ∀ t, t < 2 → ∀ c, c < 128 → (128 * t + c) &&& 85 = c &&& 85 := by decide +kernel
theorem sh2 : ∀ t, t < 4 → ∀ c, c < 64 → (64 * t + c) &&& 51 = c &&& 51 := by decide +kernel
theorem sh3 : ∀ t, t < 5 → ∀ c, c < 120 → (16 * t + c) &&& 15 = c &&& 15 := by decide +kernel
theorem P1 : ∀ (l : List Nat), (∀ b, b ∈ l → b < 256) → vlB l - ((vlB l / 2) &&& rep 85 l.length) = vlB (l.map g1b)
  | [], _ => rfl
  | b :: l, h => by
    have hb := h b (List.mem_cons_self ..)
    have ih := P1 l (fun x hx => h x (List.mem_cons_of_mem _ hx))
    have e1 : (256 * vlB l + b) / 2 = 256 * (vlB l / 2) + (128 * (vlB l % 2) + b / 2) := by omega
    have le1 : (vlB l / 2) &&& rep 85 l.length ≤ vlB l := Nat.le_trans Nat.and_le_left (Nat.div_le_self _ _)
    have le2 : (b / 2) &&& 85 ≤ b := Nat.le_trans Nat.and_le_left (Nat.div_le_self _ _)
    show 256 * vlB l + b - (((256 * vlB l + b) / 2) &&& (256 * rep 85 l.length + 85)) = 256 * vlB (l.map g1b) + g1b b
    rw [e1, and256 (by omega) (by decide), sh1 _ (by omega) _ (by omega), ← ih]
    unfold g1b
    omega
theorem P2 : ∀ (l : List Nat), (∀ b, b ∈ l → b < 256) → (vlB l &&& rep 51 l.length) + ((vlB l / 4) &&& rep 51 l.length) = vlB (l.map g2b)
  | [], _ => rfl
  | b :: l, h => by
    have hb := h b (List.mem_cons_self ..)
    have ih := P2 l (fun x hx => h x (List.mem_cons_of_mem _ hx))
    have e1 : (256 * vlB l + b) / 4 = 256 * (vlB l / 4) + (64 * (vlB l % 4) + b / 4) := by omega
    show ((256 * vlB l + b) &&& (256 * rep 51 l.length + 51)) + (((256 * vlB l + b) / 4) &&& (256 * rep 51 l.length + 51)) = 256 * vlB (l.map g2b) + g2b b
    rw [e1, and256 hb (by decide), and256 (by omega) (by decide), sh2 _ (by omega) _ (by omega), ← ih]
    unfold g2b
    omega
theorem vl_mod : ∀ (l : List Nat), (∀ b, b ∈ l → b ≤ 68 ∧ b % 16 ≤ 4) → vlB l % 16 ≤ 4
  | [], _ => by decide
  | b :: l, h => by
    have := (h b (List.mem_cons_self ..)).2
    show (256 * vlB l + b) % 16 ≤ 4
    omega
theorem P3 : ∀ (l : List Nat), (∀ b, b ∈ l → b ≤ 68 ∧ b % 16 ≤ 4) → (vlB l + vlB l / 16) &&& rep 15 l.length = vlB (l.map g3b)
  | [], _ => rfl
  | b :: l, h => by
    have hb := h b (List.mem_cons_self ..)
    have ih := P3 l (fun x hx => h x (List.mem_cons_of_mem _ hx))
    have hm := vl_mod l (fun x hx => h x (List.mem_cons_of_mem _ hx))
    have e1 : 256 * vlB l + b + (256 * vlB l + b) / 16 = 256 * (vlB l + vlB l / 16) + (16 * (vlB l % 16) + (b + b / 16)) := by omega
    show (256 * vlB l + b + (256 * vlB l + b) / 16) &&& (256 * rep 15 l.length + 15) = 256 * vlB (l.map g3b) + g3b b
    rw [e1, and256 (by omega) (by decide), sh3 _ (by omega) _ (by omega), ih]
    rfl
theorem byte_all : ∀ b, b < 256 → g1b b < 256 ∧ g2b (g1b b) ≤ 68 ∧ g2b (g1b b) % 16 ≤ 4 ∧ g3b (g2b (g1b b)) = cntN (fun o => b.testBit o) 8 := by decide +kernel
theorem dvK {A B K : Nat} (h0 : 0 < K) (h : A < K) : (A + K * B) / K = B := by
  rw [Nat.add_mul_div_left _ _ h0, Nat.div_eq_of_lt h, Nat.zero_add]
theorem lw1 (b0 b1 b2 b3 b4 b5 b6 b7 : Nat) : 256 * (256 * (256 * (256 * (256 * (256 * (256 * (256 * 0 + b7) + b6) + b5) + b4) + b3) + b2) + b1) + b0 = b0 + 256 * ((b1) + 256 * (b2) + 65536 * (b3) + 16777216 * (b4) + 4294967296 * (b5) + 1099511627776 * (b6) + 281474976710656 * (b7)) := by omega
theorem lw2 (b0 b1 b2 b3 b4 b5 b6 b7 : Nat) : b0 + 256 * ((b1) + 256 * (b2) + 65536 * (b3) + 16777216 * (b4) + 4294967296 * (b5) + 1099511627776 * (b6) + 281474976710656 * (b7)) + ((b1) + 256 * (b2) + 65536 * (b3) + 16777216 * (b4) + 4294967296 * (b5) + 1099511627776 * (b6) + 281474976710656 * (b7)) = (b0 + b1) + 256 * (b1 + b2) + 65536 * (b2 + b3) + 16777216 * (b3 + b4) + 4294967296 * (b4 + b5) + 1099511627776 * (b5 + b6) + 281474976710656 * (b6 + b7) + 72057594037927936 * (b7) := by omega
theorem lw3 (b0 b1 b2 b3 b4 b5 b6 b7 : Nat) : (b0 + b1) + 256 * (b1 + b2) + 65536 * (b2 + b3) + 16777216 * (b3 + b4) + 4294967296 * (b4 + b5) + 1099511627776 * (b5 + b6) + 281474976710656 * (b6 + b7) + 72057594037927936 * (b7) = ((b0 + b1) + 256 * (b1 + b2)) + 65536 * ((b2 + b3) + 256 * (b3 + b4) + 65536 * (b4 + b5) + 16777216 * (b5 + b6) + 4294967296 * (b6 + b7) + 1099511627776 * (b7)) := by omega
theorem lw4 (b0 b1 b2 b3 b4 b5 b6 b7 : Nat) : (b0 + b1) + 256 * (b1 + b2) + 65536 * (b2 + b3) + 16777216 * (b3 + b4) + 4294967296 * (b4 + b5) + 1099511627776 * (b5 + b6) + 281474976710656 * (b6 + b7) + 72057594037927936 * (b7) + ((b2 + b3) + 256 * (b3 + b4) + 65536 * (b4 + b5) + 16777216 * (b5 + b6) + 4294967296 * (b6 + b7) + 1099511627776 * (b7)) = (b0 + b1 + b2 + b3) + 256 * (b1 + b2 + b3 + b4) + 65536 * (b2 + b3 + b4 + b5) + 16777216 * (b3 + b4 + b5 + b6) + 4294967296 * (b4 + b5 + b6 + b7) + 1099511627776 * (b5 + b6 + b7) + 281474976710656 * (b6 + b7) + 72057594037927936 * (b7) := by omega
theorem lw5 (b0 b1 b2 b3 b4 b5 b6 b7 : Nat) : (b0 + b1 + b2 + b3) + 256 * (b1 + b2 + b3 + b4) + 65536 * (b2 + b3 + b4 + b5) + 16777216 * (b3 + b4 + b5 + b6) + 4294967296 * (b4 + b5 + b6 + b7) + 1099511627776 * (b5 + b6 + b7) + 281474976710656 * (b6 + b7) + 72057594037927936 * (b7) = ((b0 + b1 + b2 + b3) + 256 * (b1 + b2 + b3 + b4) + 65536 * (b2 + b3 + b4 + b5) + 16777216 * (b3 + b4 + b5 + b6)) + 4294967296 * ((b4 + b5 + b6 + b7) + 256 * (b5 + b6 + b7) + 65536 * (b6 + b7) + 16777216 * (b7)) := by omega
theorem lw6 (b0 b1 b2 b3 b4 b5 b6 b7 : Nat) : (b0 + b1 + b2 + b3) + 256 * (b1 + b2 + b3 + b4) + 65536 * (b2 + b3 + b4 + b5) + 16777216 * (b3 + b4 + b5 + b6) + 4294967296 * (b4 + b5 + b6 + b7) + 1099511627776 * (b5 + b6 + b7) + 281474976710656 * (b6 + b7) + 72057594037927936 * (b7) + ((b4 + b5 + b6 + b7) + 256 * (b5 + b6 + b7) + 65536 * (b6 + b7) + 16777216 * (b7)) = (b0 + b1 + b2 + b3 + b4 + b5 + b6 + b7) + 256 * (((b1 + b2 + b3 + b4) + (b5 + b6 + b7)) + 256 * ((b2 + b3 + b4 + b5) + (b6 + b7)) + 65536 * ((b3 + b4 + b5 + b6) + (b7)) + 16777216 * (b4 + b5 + b6 + b7) + 4294967296 * (b5 + b6 + b7) + 1099511627776 * (b6 + b7) + 281474976710656 * (b7)) := by omega
theorem md7 {A K : Nat} (h : A < 128) : (A + 256 * K) % 128 = A := by omega
theorem last3 {b0 b1 b2 b3 b4 b5 b6 b7 W W4 W5 : Nat} (h0 : b0 ≤ 8) (h1 : b1 ≤ 8) (h2 : b2 ≤ 8) (h3 : b3 ≤ 8) (h4 : b4 ≤ 8) (h5 : b5 ≤ 8) (h6 : b6 ≤ 8) (h7 : b7 ≤ 8) (hW : W = 256 * (256 * (256 * (256 * (256 * (256 * (256 * (256 * 0 + b7) + b6) + b5) + b4) + b3) + b2) + b1) + b0) (hW4 : W4 = W + W / 256) (hW5 : W5 = W4 + W4 / 65536) : (W5 + W5 / 4294967296) % 128 = b0 + b1 + b2 + b3 + b4 + b5 + b6 + b7 ∧ W5 + W5 / 4294967296 < 2 ^ 63 ∧ W5 < 2 ^ 63 ∧ W4 < 2 ^ 63 ∧ W < 2 ^ 63 := by
  have w1 : W / 256 = (b1) + 256 * (b2) + 65536 * (b3) + 16777216 * (b4) + 4294967296 * (b5) + 1099511627776 * (b6) + 281474976710656 * (b7) := by
    rw [hW, lw1]
    exact dvK (by decide) (by clear hW hW4 hW5; omega)
  have e4 : W4 = (b0 + b1) + 256 * (b1 + b2) + 65536 * (b2 + b3) + 16777216 * (b3 + b4) + 4294967296 * (b4 + b5) + 1099511627776 * (b5 + b6) + 281474976710656 * (b6 + b7) + 72057594037927936 * (b7) := by
    rw [hW4, w1, hW, lw1]
    exact lw2 b0 b1 b2 b3 b4 b5 b6 b7
  have w2 : W4 / 65536 = (b2 + b3) + 256 * (b3 + b4) + 65536 * (b4 + b5) + 16777216 * (b5 + b6) + 4294967296 * (b6 + b7) + 1099511627776 * (b7) := by
    rw [e4, lw3]
    exact dvK (by decide) (by clear hW hW4 hW5 w1 e4; omega)
  have e5 : W5 = (b0 + b1 + b2 + b3) + 256 * (b1 + b2 + b3 + b4) + 65536 * (b2 + b3 + b4 + b5) + 16777216 * (b3 + b4 + b5 + b6) + 4294967296 * (b4 + b5 + b6 + b7) + 1099511627776 * (b5 + b6 + b7) + 281474976710656 * (b6 + b7) + 72057594037927936 * (b7) := by
    rw [hW5, w2, e4]
    exact lw4 b0 b1 b2 b3 b4 b5 b6 b7
  have w3 : W5 / 4294967296 = (b4 + b5 + b6 + b7) + 256 * (b5 + b6 + b7) + 65536 * (b6 + b7) + 16777216 * (b7) := by
    rw [e5, lw5]
    exact dvK (by decide) (by clear hW hW4 hW5 w1 w2 e4 e5; omega)
  refine ⟨?_, ?_, ?_, ?_, ?_⟩
  · rw [w3, e5, lw6]
    exact md7 (by clear hW hW4 hW5 w1 w2 w3 e4 e5; omega)
  · rw [w3, e5]
    clear hW hW4 hW5 w1 w2 w3 e4 e5
    omega
  · rw [e5]
    clear hW hW4 hW5 w1 w2 w3 e4 e5
    omega
  · rw [e4]
    clear hW hW4 hW5 w1 w2 w3 e4 e5
    omega
  · rw [hW]
    clear hW hW4 hW5 w1 w2 w3 e4 e5
    omega
theorem lN_and (a b : Nat) : lN a &&& lN b = lN (a &&& b) := by
  apply Int64.toBitVec_inj.mp
  rw [Int64.toBitVec_and]
  show BitVec.ofNat 64 a &&& BitVec.ofNat 64 b = BitVec.ofNat 64 (a &&& b)
  rw [BitVec.ofNat_and]
theorem lN_ushr {a : Nat} (ha : a < 2 ^ 64) (s : Int32) (k : Nat) (hs : ((s.toInt64.toUInt64 &&& Int64.toUInt64 63).toBitVec % 64).toNat = k) : (((lN a).toUInt64 >>> (s.toInt64.toUInt64 &&& Int64.toUInt64 63)).toInt64) = lN (a / 2 ^ k) := by
  apply Int64.toBitVec_inj.mp
  have e : ((lN a).toUInt64 >>> (s.toInt64.toUInt64 &&& Int64.toUInt64 63)).toInt64.toBitVec = (BitVec.ofNat 64 a) >>> k := by
    rw [← hs]
    exact UInt64.toBitVec_shiftRight _ _
  rw [e]
  apply BitVec.eq_of_toNat_eq
  show _ = (BitVec.ofNat 64 (a / 2 ^ k)).toNat
  rw [BitVec.toNat_ushiftRight, BitVec.toNat_ofNat, BitVec.toNat_ofNat, Nat.mod_eq_of_lt ha, Nat.shiftRight_eq_div_pow, Nat.mod_eq_of_lt (Nat.lt_of_le_of_lt (Nat.div_le_self _ _) ha)]
def byB (X j : Nat) : Nat := X / 256 ^ j % 256
theorem bits_by {X j o : Nat} (ho : o < 8) : (byB X j).testBit o = X.testBit (8 * j + o) := by
  unfold byB
  rw [show (256 : Nat) ^ j = 2 ^ (8 * j) by rw [Nat.pow_mul], show X / 2 ^ (8 * j) % 256 = X / 2 ^ (8 * j) % 2 ^ 8 from rfl, Nat.testBit_mod_two_pow, decide_eq_true ho, Bool.true_and, Nat.testBit_div_two_pow, Nat.add_comm]
theorem cnt_app {f : Nat → Bool} {a : Nat} : ∀ b, cntN f (a + b) = cntN f a + cntN (fun o => f (a + o)) b
  | 0 => rfl
  | b + 1 => by
    rw [show a + (b + 1) = (a + b) + 1 from rfl, cntN, cntN, cnt_app b]
    omega
theorem cnt_by {X j : Nat} : cntN (fun o => (byB X j).testBit o) 8 = cntN (fun o => X.testBit (8 * j + o)) 8 := cntN_congr (fun o ho => bits_by ho)
theorem by_all {X : Nat} (h : X < 2 ^ 64) : X = vlB [byB X 0, byB X 1, byB X 2, byB X 3, byB X 4, byB X 5, byB X 6, byB X 7] := by
  show X = 256 * (256 * (256 * (256 * (256 * (256 * (256 * (256 * 0 + byB X 7) + byB X 6) + byB X 5) + byB X 4) + byB X 3) + byB X 2) + byB X 1) + byB X 0
  have s : ∀ j, X / 256 ^ j = 256 * (X / 256 ^ (j + 1)) + byB X j := fun j => by
    unfold byB
    have := Nat.div_add_mod (X / 256 ^ j) 256
    rw [Nat.div_div_eq_div_mul, ← Nat.pow_succ] at this
    exact this.symm
  have z : X / 256 ^ 8 = 0 := Nat.div_eq_of_lt h
  have s0 := s 0
  rw [Nat.pow_zero, Nat.div_one, s 1, s 2, s 3, s 4, s 5, s 6, s 7, z] at s0
  exact s0
theorem bc64 {n X : Nat} {M : Mem} (h : X < 2 ^ 64) : f_J13_bitCount_95d88 n (lN X) M = some (nI (cntN (fun o => X.testBit o) 64), M) := by
  have hb : ∀ j, byB X j < 256 := fun j => Nat.mod_lt _ (by decide)
  obtain ⟨l, hl⟩ : ∃ l, l = [byB X 0, byB X 1, byB X 2, byB X 3, byB X 4, byB X 5, byB X 6, byB X 7] := ⟨_, rfl⟩
  have hlen : l.length = 8 := by rw [hl]; rfl
  have hmem : ∀ b, b ∈ l → b < 256 := fun b hm => by
    rw [hl] at hm
    simp only [List.mem_cons, List.not_mem_nil, or_false] at hm
    rcases hm with rfl | rfl | rfl | rfl | rfl | rfl | rfl | rfl <;> exact hb _
  have e0 : X = vlB l := by rw [hl]; exact by_all h
  have p1 := P1 l hmem
  have p2 := P2 (l.map g1b) (fun b hm => by
    obtain ⟨a, ha, rfl⟩ := List.mem_map.mp hm
    exact (byte_all a (hmem a ha)).1)
  have p3 := P3 ((l.map g1b).map g2b) (fun b hm => by
    obtain ⟨a, ha, rfl⟩ := List.mem_map.mp hm
    obtain ⟨a', ha', rfl⟩ := List.mem_map.mp ha
    exact ⟨(byte_all a' (hmem a' ha')).2.1, (byte_all a' (hmem a' ha')).2.2.1⟩)
  rw [← e0] at p1
  rw [List.length_map, hlen] at p2
  rw [List.length_map, List.length_map, hlen] at p3
  rw [hlen] at p1
  have r85 : rep 85 8 = 6148914691236517205 := by decide
  have r51 : rep 51 8 = 3689348814741910323 := by decide
  have r15 : rep 15 8 = 1085102592571150095 := by decide
  rw [r85] at p1
  rw [r51] at p2
  rw [r15] at p3
  obtain ⟨Y1, hY1⟩ : ∃ Y, Y = vlB (l.map g1b) := ⟨_, rfl⟩
  obtain ⟨Y2, hY2⟩ : ∃ Y, Y = vlB ((l.map g1b).map g2b) := ⟨_, rfl⟩
  obtain ⟨Y3, hY3⟩ : ∃ Y, Y = vlB (((l.map g1b).map g2b).map g3b) := ⟨_, rfl⟩
  rw [← hY1] at p1 p2
  rw [← hY2] at p2 p3
  rw [← hY3] at p3
  have g3le : ∀ b, b < 256 → g3b (g2b (g1b b)) ≤ 8 := fun b hb => by
    rw [(byte_all b hb).2.2.2]
    exact cntN_le
  have hL := last3 (W := Y3) (W4 := Y3 + Y3 / 256) (W5 := Y3 + Y3 / 256 + (Y3 + Y3 / 256) / 65536) (g3le _ (hb 0)) (g3le _ (hb 1)) (g3le _ (hb 2)) (g3le _ (hb 3)) (g3le _ (hb 4)) (g3le _ (hb 5)) (g3le _ (hb 6)) (g3le _ (hb 7)) (by rw [hY3, hl]; rfl) rfl rfl
  obtain ⟨L1, L2, L3, L4, L5⟩ := hL
  have hX1 : Y1 < 2 ^ 64 := by
    rw [← p1]
    omega
  have hX2a : Y2 < 2 ^ 63 := by
    have a1 : Y1 &&& 3689348814741910323 ≤ 3689348814741910323 := Nat.and_le_right
    have a2 : Y1 / 4 &&& 3689348814741910323 ≤ 3689348814741910323 := Nat.and_le_right
    omega
  have t1 : lN X - (((lN X).toUInt64 >>> ((1 : Int32).toInt64.toUInt64 &&& Int64.toUInt64 63)).toInt64 &&& (6148914691236517205 : Int64)) = lN Y1 := by
    rw [lN_ushr h 1 1 (by decide), show (6148914691236517205 : Int64) = lN 6148914691236517205 from rfl, lN_and, lN_sub (Nat.le_trans Nat.and_le_left (Nat.div_le_self _ _)), show (2 : Nat) ^ 1 = 2 from rfl, p1]
  have t2 : (lN Y1 &&& (3689348814741910323 : Int64)) + (((lN Y1).toUInt64 >>> ((2 : Int32).toInt64.toUInt64 &&& Int64.toUInt64 63)).toInt64 &&& (3689348814741910323 : Int64)) = lN Y2 := by
    rw [lN_ushr hX1 2 2 (by decide), show (3689348814741910323 : Int64) = lN 3689348814741910323 from rfl, lN_and, lN_and, lN_add, show (2 : Nat) ^ 2 = 4 from rfl, p2]
  have t3 : (lN Y2 + ((lN Y2).toUInt64 >>> ((4 : Int32).toInt64.toUInt64 &&& Int64.toUInt64 63)).toInt64) &&& (1085102592571150095 : Int64) = lN Y3 := by
    rw [lN_ushr (by omega) 4 4 (by decide), show (1085102592571150095 : Int64) = lN 1085102592571150095 from rfl, lN_add, lN_and, show (2 : Nat) ^ 4 = 16 from rfl, p3]
  have t4 : lN Y3 + ((lN Y3).toUInt64 >>> ((8 : Int32).toInt64.toUInt64 &&& Int64.toUInt64 63)).toInt64 = lN (Y3 + Y3 / 256) := by
    rw [lN_ushr (by omega) 8 8 (by decide), lN_add]
  have t5 : lN (Y3 + Y3 / 256) + ((lN (Y3 + Y3 / 256)).toUInt64 >>> ((16 : Int32).toInt64.toUInt64 &&& Int64.toUInt64 63)).toInt64 = lN (Y3 + Y3 / 256 + (Y3 + Y3 / 256) / 65536) := by
    rw [lN_ushr (by omega) 16 16 (by decide), lN_add]
  have t6 : lN (Y3 + Y3 / 256 + (Y3 + Y3 / 256) / 65536) + ((lN (Y3 + Y3 / 256 + (Y3 + Y3 / 256) / 65536)).toUInt64 >>> ((32 : Int32).toInt64.toUInt64 &&& Int64.toUInt64 63)).toInt64 = lN (Y3 + Y3 / 256 + (Y3 + Y3 / 256) / 65536 + (Y3 + Y3 / 256 + (Y3 + Y3 / 256) / 65536) / 4294967296) := by
    rw [lN_ushr (by omega) 32 32 (by decide), lN_add]
  have fin : cntN (fun o => X.testBit o) 64 = g3b (g2b (g1b (byB X 0))) + g3b (g2b (g1b (byB X 1))) + g3b (g2b (g1b (byB X 2))) + g3b (g2b (g1b (byB X 3))) + g3b (g2b (g1b (byB X 4))) + g3b (g2b (g1b (byB X 5))) + g3b (g2b (g1b (byB X 6))) + g3b (g2b (g1b (byB X 7))) := by
    have q : ∀ j, g3b (g2b (g1b (byB X j))) = cntN (fun o => X.testBit (8 * j + o)) 8 := fun j => ((byte_all _ (hb j)).2.2.2).trans cnt_by
    rw [q, q, q, q, q, q, q, q, show (64 : Nat) = 56 + 8 from rfl, cnt_app, show (56 : Nat) = 48 + 8 from rfl, cnt_app, show (48 : Nat) = 40 + 8 from rfl, cnt_app, show (40 : Nat) = 32 + 8 from rfl, cnt_app, show (32 : Nat) = 24 + 8 from rfl, cnt_app, show (24 : Nat) = 16 + 8 from rfl, cnt_app, show (16 : Nat) = 8 + 8 from rfl, cnt_app]
    simp
  unfold f_J13_bitCount_95d88
  rw [t1, t2, t3, t4, t5, t6, lN_i, pk_and _ 7 (by decide)]
  have em : (nI (Y3 + Y3 / 256 + (Y3 + Y3 / 256) / 65536 + (Y3 + Y3 / 256 + (Y3 + Y3 / 256) / 65536) / 4294967296)).toBitVec.toNat % 2 ^ 7 = (Y3 + Y3 / 256 + (Y3 + Y3 / 256) / 65536 + (Y3 + Y3 / 256 + (Y3 + Y3 / 256) / 65536) / 4294967296) % 128 := by
    show (BitVec.ofNat 32 _).toNat % 2 ^ 7 = _
    rw [BitVec.toNat_ofNat]
    omega
  rw [em, L1, ← fin]
