/-! The tape, and what was seen. -/
theorem sar_and (x : BitVec 32) (s : Nat) (hs : s ≤ 24) : x.sshiftRight s &&& 255#32 = (x >>> s) &&& 255#32 := by
  apply BitVec.eq_of_getLsbD_eq
  intro i hi
  rw [BitVec.getLsbD_and, BitVec.getLsbD_and, BitVec.getLsbD_sshiftRight, BitVec.getLsbD_ushiftRight]
  by_cases c : i < 8
  · rw [if_pos (by omega), decide_eq_false (by omega : ¬ 32 ≤ i)]
    rfl
  · have h : (255#32).getLsbD i = false := by
      rw [BitVec.getLsbD_ofNat, Nat.testBit_lt_two_pow (Nat.lt_of_lt_of_le (by decide : 255 < 2 ^ 8) (Nat.pow_le_pow_right (by decide) (by omega)))]
      simp
    rw [h]
    simp
theorem se_and (y : BitVec 32) : (y &&& 255#32).signExtend 8 = y.signExtend 8 := by
  apply BitVec.eq_of_getLsbD_eq
  intro i hi
  rw [BitVec.getLsbD_signExtend, BitVec.getLsbD_signExtend, if_pos (by omega), if_pos (by omega), BitVec.getLsbD_and]
  have h : (255#32).getLsbD i = true := by
    rcases (show i = 0 ∨ i = 1 ∨ i = 2 ∨ i = 3 ∨ i = 4 ∨ i = 5 ∨ i = 6 ∨ i = 7 by omega) with rfl | rfl | rfl | rfl | rfl | rfl | rfl | rfl <;> rfl
  rw [h, Bool.and_true]
def byt (x : Int32) (s : Nat) : Nat := ((x.toBitVec >>> s) &&& 255#32).toNat
theorem byt_lt (x : Int32) (s : Nat) : byt x s < 256 := by
  unfold byt
  rw [BitVec.toNat_and]
  exact Nat.lt_of_le_of_lt Nat.and_le_right (by decide)
theorem m_byt (x s : Int32) (k : Nat) (hs : ((s &&& 31).toBitVec.smod 32).toNat = k) (hk : k ≤ 24) : (x >>> (s &&& 31)) &&& (255 : Int32) = nI (byt x k) := by
  apply Int32.toBitVec_inj.mp
  rw [Int32.toBitVec_and]
  show x.toBitVec.sshiftRight ((s &&& 31).toBitVec.smod 32).toNat &&& 255#32 = BitVec.ofNat 32 (byt x k)
  rw [hs, sar_and _ _ hk]
  unfold byt
  rw [BitVec.ofNat_toNat, BitVec.setWidth_eq]
theorem c_byt (x s : Int32) (k : Nat) (hs : ((s.toUInt32 &&& Int32.toUInt32 31).toBitVec % 32).toNat = k) : vp_nar .byte (((x.toUInt32 >>> (s.toUInt32 &&& Int32.toUInt32 31)).toInt32).toInt8.toInt32) = sb (byt x k) := by
  have e0 : ∀ z : Int32, vp_nar .byte z.toInt8.toInt32 = z.toInt8.toInt32 := fun z => by
    unfold vp_nar
    rw [pk_nb]
  have e : (x.toUInt32 >>> (s.toUInt32 &&& Int32.toUInt32 31)).toInt32.toBitVec = x.toBitVec >>> k := by
    rw [← hs]
    exact UInt32.toBitVec_shiftRight _ _
  rw [e0]
  unfold sb
  congr 1
  apply Int8.toBitVec_inj.mp
  show ((x.toUInt32 >>> (s.toUInt32 &&& Int32.toUInt32 31)).toInt32).toBitVec.signExtend 8 = (nI (byt x k)).toBitVec.signExtend 8
  rw [e, ← se_and]
  show _ = (BitVec.ofNat 32 (byt x k)).signExtend 8
  unfold byt
  rw [BitVec.ofNat_toNat, BitVec.setWidth_eq]
def Ab.fd (A : Ab) (b : Nat) : Ab := A.setTape (A.tape ++ [b])
def Ab.fd4 (A : Ab) (x : Int32) : Ab := (((A.fd (byt x 24)).fd (byt x 16)).fd (byt x 8)).fd (byt x 0)
theorem appN_get {l : List Nat} {s x : Nat} {k : Nat} (h : (l ++ [s])[k]? = some x) : (k < l.length ∧ l[k]? = some x) ∨ (k = l.length ∧ x = s) := by
  by_cases c : k < l.length
  · rw [List.getElem?_append_left c] at h
    exact Or.inl ⟨c, h⟩
  · rw [List.getElem?_append_right (by omega)] at h
    by_cases c2 : k = l.length
    · subst c2
      rw [Nat.sub_self] at h
      simp only [List.getElem?_cons_zero, Option.some.injEq] at h
      exact Or.inr ⟨rfl, h.symm⟩
    · rw [List.getElem?_eq_none (by simp only [List.length_cons, List.length_nil]; omega)] at h
      cases h
section Q
variable {n : Nat} {A : Ab} {M M2 : Mem} {x1 x2 x3 x4 x5 : Int32}
theorem fd_len {b : Nat} : (A.fd b).tape.length = A.tape.length + 1 := List.length_append
theorem fd_good {b : Nat} (g : A.Good) (hl : A.tape.length < 700) (hb : b < 256) : (A.fd b).Good := ⟨g.g_t, g.g_n, g.g_d, g.g_a, g.g_s, g.g_i, by rw [fd_len]; omega, fun c hc => by
  rcases List.mem_append.mp hc with h | h
  · exact g.g_bb c h
  · rw [List.mem_singleton.mp h]
    exact hb⟩
theorem cFd {b : Nat} (hC : RC A M) : RC (A.fd b) (si (si M 45 A.tape.length (sb b)) 44 3 (nI (A.tape.length + 1))) := by
  refine rc_setTape hC ((kq.rf.si (by unfold VC_setTape; omega) _).si (by unfold VC_setTape; omega) _) ?_ (fun k x hk => ?_)
  · rw [gi_si, if_pos ⟨rfl, rfl⟩, List.length_append]
    rfl
  · rw [gi_si, if_neg (by omega), gi_si]
    rcases appN_get hk with ⟨c, hx⟩ | ⟨c, hx⟩
    · rw [if_neg (by omega)]
      exact hC.r_b k x hx
    · rw [if_pos ⟨rfl, c⟩, hx]
theorem mFd {b : Nat} (g : A.Good) (hM : RM A M2) : RM (A.fd b) (si (si M2 3 A.tape.length (nI b)) 0 11 (nI (A.tape.length + 1))) := by
  refine rm_setTape g hM ((kq.rf.si (by unfold VM_setTape; omega) _).si (by unfold VM_setTape; omega) _) ?_ (fun k x hk => ?_)
  · rw [gi_si, if_pos ⟨rfl, rfl⟩, List.length_append]
    rfl
  · rw [gi_si, if_neg (by omega), gi_si]
    rcases appN_get hk with ⟨c, hx⟩ | ⟨c, hx⟩
    · rw [if_neg (by omega)]
      exact hM.s_b k x hx
    · rw [if_pos ⟨rfl, c⟩, hx]
theorem cApp1 {x s : Int32} {k : Nat} (hC : RC A M) (hl : A.tape.length < 700) (h0 : ¬ s < 0) (hs : ((s.toUInt32 &&& Int32.toUInt32 31).toBitVec % 32).toNat = k) : ∃ M', b_X2_append_3 n x (s, M) = some (.inl (s + (-8 : Int32), M')) ∧ RC (A.fd (byt x k)) M' := by
  refine ⟨_, ?_, cFd hC⟩
  rw [b_X2_append_3]
  try simp only []
  rw [if_neg h0, hC.r_l, if_neg (show ¬ (700 : Int32) ≤ nI A.tape.length from nI_ge (b := 700) hl (by decide)), ck_pos (n_in hl (by decide)), nI_clamp (by omega), c_byt x s k hs, show gi (si M 45 A.tape.length (sb (byt x k))) 44 3 = nI A.tape.length by rw [gi_si, if_neg (by omega)]; exact hC.r_l, nI_1]
theorem mApp1 {x s : Int32} {k : Nat} (g : A.Good) (hM : RM A M2) (hl : A.tape.length < 700) (h0 : ¬ s < 0) (hs : ((s &&& 31).toBitVec.smod 32).toNat = k) (hk : k ≤ 24) : ∃ M', b_X9_lays_3 n x (s, M2) = some (.inl (s + (-8 : Int32), M')) ∧ RM (A.fd (byt x k)) M' := by
  refine ⟨_, ?_, mFd g hM⟩
  rw [b_X9_lays_3]
  try simp only []
  rw [if_neg h0, hM.s_l, ck_pos (n_in hl (by decide)), nI_clamp (by omega), m_byt x s k hs hk, show gi (si M2 3 A.tape.length (nI (byt x k))) 0 11 = nI A.tape.length by rw [gi_si, if_neg (by omega)]; exact hM.s_l, nI_1]
theorem fd4_len {x : Int32} : (A.fd4 x).tape.length = A.tape.length + 4 := by
  unfold Ab.fd4
  rw [fd_len, fd_len, fd_len, fd_len]
theorem fd4_good {x : Int32} (g : A.Good) (hl : A.tape.length + 4 ≤ 700) : (A.fd4 x).Good := by
  unfold Ab.fd4
  have g1 := fd_good (b := byt x 24) g (by omega) (byt_lt _ _)
  have g2 := fd_good (b := byt x 16) g1 (by rw [fd_len]; omega) (byt_lt _ _)
  have g3 := fd_good (b := byt x 8) g2 (by rw [fd_len, fd_len]; omega) (byt_lt _ _)
  exact fd_good g3 (by rw [fd_len, fd_len, fd_len]; omega) (byt_lt _ _)
theorem cAppend {x : Int32} (hn : 100 < n) (hC : RC A M) (hl : A.tape.length + 4 ≤ 700) : ∃ M', f_X2_append n x M = some M' ∧ RC (A.fd4 x) M' := by
  obtain ⟨m, rfl⟩ : ∃ m, n = m + 5 := ⟨n - 5, by omega⟩
  obtain ⟨M1, q1, r1⟩ := cApp1 (n := m + 5) (x := x) (s := 24) (k := 24) hC (by omega) (by decide) (by decide)
  obtain ⟨M2, q2, r2⟩ := cApp1 (n := m + 5) (x := x) (s := 16) (k := 16) r1 (by rw [fd_len]; omega) (by decide) (by decide)
  obtain ⟨M3, q3, r3⟩ := cApp1 (n := m + 5) (x := x) (s := 8) (k := 8) r2 (by rw [fd_len, fd_len]; omega) (by decide) (by decide)
  obtain ⟨M4, q4, r4⟩ := cApp1 (n := m + 5) (x := x) (s := 0) (k := 0) r3 (by rw [fd_len, fd_len, fd_len]; omega) (by decide) (by decide)
  refine ⟨M4, ?_, r4⟩
  unfold f_X2_append
  rw [gl_inl q1, show (24 : Int32) + (-8) = 16 from rfl, gl_inl q2, show (16 : Int32) + (-8) = 8 from rfl, gl_inl q3, show (8 : Int32) + (-8) = 0 from rfl, gl_inl q4]
  refine gl_mr ?_
  rw [b_X2_append_3]
  try simp only []
  rw [if_pos (by decide)]
theorem mAppend {x : Int32} (hn : 100 < n) (g : A.Good) (hM : RM A M2) (hl : A.tape.length + 4 ≤ 700) : ∃ M', f_X9_lays n x M2 = some M' ∧ RM (A.fd4 x) M' := by
  obtain ⟨m, rfl⟩ : ∃ m, n = m + 5 := ⟨n - 5, by omega⟩
  have g1 := fd_good (b := byt x 24) g (by omega) (byt_lt _ _)
  have g2 := fd_good (b := byt x 16) g1 (by rw [fd_len]; omega) (byt_lt _ _)
  have g3 := fd_good (b := byt x 8) g2 (by rw [fd_len, fd_len]; omega) (byt_lt _ _)
  obtain ⟨M1, q1, r1⟩ := mApp1 (n := m + 5) (x := x) (s := 24) (k := 24) g hM (by omega) (by decide) (by decide) (by decide)
  obtain ⟨M2, q2, r2⟩ := mApp1 (n := m + 5) (x := x) (s := 16) (k := 16) g1 r1 (by rw [fd_len]; omega) (by decide) (by decide) (by decide)
  obtain ⟨M3, q3, r3⟩ := mApp1 (n := m + 5) (x := x) (s := 8) (k := 8) g2 r2 (by rw [fd_len, fd_len]; omega) (by decide) (by decide) (by decide)
  obtain ⟨M4, q4, r4⟩ := mApp1 (n := m + 5) (x := x) (s := 0) (k := 0) g3 r3 (by rw [fd_len, fd_len, fd_len]; omega) (by decide) (by decide) (by decide)
  refine ⟨M4, ?_, r4⟩
  unfold f_X9_lays
  rw [gl_inl q1, show (24 : Int32) + (-8) = 16 from rfl, gl_inl q2, show (16 : Int32) + (-8) = 8 from rfl, gl_inl q3, show (8 : Int32) + (-8) = 0 from rfl, gl_inl q4]
  refine gl_mr ?_
  rw [b_X9_lays_3]
  try simp only []
  rw [if_pos (by decide)]
theorem qFeed (hn : 3000 < n) (g : A.Good) (hC : RC A M) (hM : RM A M2) : QP (f_X8_feed n x1 x2 x3 x4 x5 M) (f_X9_feed n x1 x2 x3 x4 x5 M2) := by
  have hM' := hM.thr g 0
  have hb := g.g_b
  unfold f_X8_feed f_X9_feed
  rw [hC.r_l, hM'.s_l, show (20 : Int32) = nI 20 from rfl, nI_add]
  by_cases c : A.tape.length + 20 ≤ 700
  · rw [if_pos (show nI (A.tape.length + 20) ≤ (700 : Int32) from nI_le (b := 700) c (by decide)), if_pos (show nI (A.tape.length + 20) ≤ (700 : Int32) from nI_le (b := 700) c (by decide))]
    have e1 : ((A.fd4 x1).tape.length) = A.tape.length + 4 := fd4_len
    have e2 : (((A.fd4 x1).fd4 x2).tape.length) = A.tape.length + 8 := by rw [fd4_len, e1]
    have e3 : ((((A.fd4 x1).fd4 x2).fd4 x3).tape.length) = A.tape.length + 12 := by rw [fd4_len, e2]
    have e4 : (((((A.fd4 x1).fd4 x2).fd4 x3).fd4 x4).tape.length) = A.tape.length + 16 := by rw [fd4_len, e3]
    have g1 := fd4_good (x := x1) g (by omega)
    have g2 := fd4_good (x := x2) g1 (by omega)
    have g3 := fd4_good (x := x3) g2 (by omega)
    have g4 := fd4_good (x := x4) g3 (by omega)
    have g5 := fd4_good (x := x5) g4 (by omega)
    obtain ⟨N1, q1, r1⟩ := cAppend (n := n) (x := x1) (by omega) hC (by omega)
    obtain ⟨N2, q2, r2⟩ := cAppend (n := n) (x := x2) (by omega) r1 (by omega)
    obtain ⟨N3, q3, r3⟩ := cAppend (n := n) (x := x3) (by omega) r2 (by omega)
    obtain ⟨N4, q4, r4⟩ := cAppend (n := n) (x := x4) (by omega) r3 (by omega)
    obtain ⟨N5, q5, r5⟩ := cAppend (n := n) (x := x5) (by omega) r4 (by omega)
    obtain ⟨O1, p1, s1⟩ := mAppend (n := n) (x := x1) (by omega) g hM' (by omega)
    obtain ⟨O2, p2, s2⟩ := mAppend (n := n) (x := x2) (by omega) g1 s1 (by omega)
    obtain ⟨O3, p3, s3⟩ := mAppend (n := n) (x := x3) (by omega) g2 s2 (by omega)
    obtain ⟨O4, p4, s4⟩ := mAppend (n := n) (x := x4) (by omega) g3 s3 (by omega)
    obtain ⟨O5, p5, s5⟩ := mAppend (n := n) (x := x5) (by omega) g4 s4 (by omega)
    rw [q1, p1]
    simp only [bd]
    rw [q2, p2]
    simp only []
    rw [q3, p3]
    simp only []
    rw [q4, p4]
    simp only []
    rw [q5, p5]
    simp only []
    rw [r5.r_l, s5.s_l]
    exact ⟨_, _, _, rfl, rfl, _, g5, r5, s5⟩
  · rw [if_neg (show ¬ nI (A.tape.length + 20) ≤ (700 : Int32) from nI_ge (a := 700) (by omega) (by omega)), if_neg (show ¬ nI (A.tape.length + 20) ≤ (700 : Int32) from nI_ge (a := 700) (by omega) (by omega))]
    exact ⟨_, _, _, rfl, rfl, _, g, hC, hM'⟩
theorem qFault (g : A.Good) (hC : RC A M) (hM : RM A M2) : QP (f_X8_fault n M) (f_X9_fault n M2) := by
  have hM' := hM.thr g 0
  unfold f_X8_fault f_X9_fault
  rw [hC.r_f, hM'.s_f]
  exact ⟨_, _, _, rfl, rfl, _, g, hC, hM'⟩
theorem seen_good {q : List (Nat × Nat)} (g : A.Good) (gq : SeG q) : (A.setSeen q).Good := ⟨g.g_t, g.g_n, g.g_d, g.g_a, gq, g.g_i, g.g_b, g.g_bb⟩
theorem qForget (g : A.Good) (hC : RC A M) (hM : RM A M2) : ∃ N N2, f_X8_forget n M = some N ∧ f_X9_forget n M2 = some N2 ∧ RR N N2 := by
  have hM' := hM.thr g 0
  refine ⟨_, _, rfl, rfl, A.setSeen [], seen_good g ⟨by decide, fun p hp => by cases hp⟩, rc_setSeen hC (kq.rf.si (by unfold VC_setSeen; omega) _) ⟨?_, fun k p hk => by cases hk⟩, rm_setSeen g hM' (kq.rf.si (by unfold VM_setSeen; omega) _) ⟨?_, fun k p hk => by cases hk⟩⟩
  · rw [gi_si, if_pos ⟨rfl, rfl⟩]
    rfl
  · rw [gi_si, if_pos ⟨rfl, rfl⟩]
    rfl
end Q
