/-! The reference begins to read, and ends. -/
def VTm (t k : Nat) : Prop := (t = 0 ∧ 11 ≤ k ∧ k ≤ 36) ∨ (5 ≤ t ∧ t ≤ 11)
section B
variable {f : Nat → Nat} {e n : Nat} {M : Mem}
theorem mFill6 (hn : 800 < n) : ∃ M', gl (b_X9_town_104 n) n ((0 : Int32), M) = j_X9_town_123 n M' ∧ (∀ p, p < 54 → gi M' 6 p = 0) ∧ kq (fun t _ => t = 6) M M' := by
  obtain ⟨N, m, ⟨a1, a2⟩, e⟩ := gl_k (body := b_X9_town_104 n) (fun k (M' : Mem) => (nI k, M')) 54 (fun k M' => (∀ p, p < k → gi M' 6 p = 0) ∧ kq (fun t _ => t = 6) M M') (fun k M' hk hI => by
    obtain ⟨a1, a2⟩ := hI
    refine ⟨si M' 6 k 0, ?_, fun p hp => ?_, a2.si rfl _⟩
    · rw [b_X9_town_104]
      try dsimp only []
      rw [if_neg (show ¬ (54 : Int32) ≤ nI k from nI_ge (b := 54) hk (by decide)), ck_pos (n_in hk (by decide)), nI_clamp (by omega), nI_1]
    · rw [gi_si]
      by_cases c : p = k
      · subst c
        rw [if_pos ⟨rfl, rfl⟩]
      · rw [if_neg (by omega)]
        exact a1 p (by omega)) n 0 M (by omega) (by omega) ⟨fun p hp => absurd hp (by omega), kq.rf⟩
  refine ⟨N, ?_, a1, a2⟩
  rw [show ((0 : Int32), M) = (nI 0, M) from rfl, e]
  refine gl_mr ?_
  rw [b_X9_town_104]
  try dsimp only []
  rw [if_pos (show (54 : Int32) ≤ nI 54 by decide)]
theorem mBegin (he : e ≤ 700) (hf : ∀ q, f q < 256) (hn : 800 < n) {ts : List Tok} (hx : Lx f e 0 ts) (h0 : gi M 0 0 = 0) (hb : ∀ q, q < e → gi M 3 q = nI (f q)) : ∃ M', j_X9_town_23 n 1 (nI e) M = gl (b_X9_town_132 n) n M' ∧ DT f e 0 τ0 ts M' ∧ kq VTm M M' ∧ gi M' 0 11 = 0 := by
  unfold j_X9_town_23
  rw [mRight_yes h0]
  dsimp only [bd]
  rw [if_neg (show ¬ (1 : Int32) = 0 by decide)]
  obtain ⟨M1, hM1⟩ : ∃ M1, M1 = si (si (si (si (si (si (si (si (si (si (si (si (si (si M 0 11 (0 : Int32)) 0 13 (-1 : Int32)) 0 12 (0 : Int32)) 0 15 (nI e)) 0 16 (0 : Int32)) 0 23 (0 : Int32)) 0 24 (-1 : Int32)) 0 25 (-1 : Int32)) 0 26 (0 : Int32)) 0 27 (0 : Int32)) 0 28 (0 : Int32)) 0 29 (-1 : Int32)) 0 30 (-1 : Int32)) 0 31 (-1 : Int32) := ⟨_, rfl⟩
  rw [← hM1]
  have k1 : kq (fun t k => t = 0 ∧ 11 ≤ k ∧ k ≤ 31) M M1 := by
    rw [hM1]
    exact (((((((((((((kq.rf.si (by omega) _).si (by omega) _).si (by omega) _).si (by omega) _).si (by omega) _).si (by omega) _).si (by omega) _).si (by omega) _).si (by omega) _).si (by omega) _).si (by omega) _).si (by omega) _).si (by omega) _).si (by omega) _
  have g11 : gi M1 0 11 = 0 := by rw [hM1]; simp [gi_si]
  have g12 : gi M1 0 12 = 0 := by rw [hM1]; simp [gi_si]
  have g13 : gi M1 0 13 = -1 := by rw [hM1]; simp [gi_si]
  have g15 : gi M1 0 15 = nI e := by rw [hM1]; simp [gi_si]
  have g16 : gi M1 0 16 = 0 := by rw [hM1]; simp [gi_si]
  have g23 : gi M1 0 23 = 0 := by rw [hM1]; simp [gi_si]
  have g24 : gi M1 0 24 = -1 := by rw [hM1]; simp [gi_si]
  have g25 : gi M1 0 25 = -1 := by rw [hM1]; simp [gi_si]
  have g26 : gi M1 0 26 = 0 := by rw [hM1]; simp [gi_si]
  have g27 : gi M1 0 27 = 0 := by rw [hM1]; simp [gi_si]
  have g28 : gi M1 0 28 = 0 := by rw [hM1]; simp [gi_si]
  have g29 : gi M1 0 29 = -1 := by rw [hM1]; simp [gi_si]
  have g30 : gi M1 0 30 = -1 := by rw [hM1]; simp [gi_si]
  have g31 : gi M1 0 31 = -1 := by rw [hM1]; simp [gi_si]
  obtain ⟨M2, a1, a2, a3⟩ := mFill6 (n := n) (M := M1) hn
  rw [a1]
  unfold j_X9_town_123
  obtain ⟨M3, hM3⟩ : ∃ M3, M3 = si M2 0 32 (0 : Int32) := ⟨_, rfl⟩
  rw [← hM3]
  have k3 : kq (fun t k => (t = 0 ∧ 11 ≤ k ∧ k ≤ 32) ∨ t = 6) M M3 := by
    rw [hM3]
    exact ((k1.mono (fun t k q => by omega)).tr (a3.mono (fun t k q => by omega))).si (by omega) _
  have r0 : ∀ k, ¬ k = 32 → gi M3 0 k = gi M1 0 k := fun k hk => by rw [hM3, gi_si, if_neg (by omega), a3 _ _ (by omega)]
  have r6 : ∀ k, k < 54 → gi M3 6 k = 0 := fun k hk => by rw [hM3, gi_si, if_neg (by omega)]; exact a2 k hk
  obtain ⟨M4, b1, b2, b3⟩ := mStep hx.hd he hf hn ((r0 _ (by decide)).trans g15) (fun q hq => by rw [k3 _ _ (by omega)]; exact hb q hq) ((r0 _ (by decide)).trans g16)
  rw [b1]
  dsimp only [bd]
  have s0' : ∀ k, (k < 16 ∨ 22 < k) → ¬ k = 32 → gi M4 0 k = gi M1 0 k := fun k hk h2 => by rw [b3 _ _ (by unfold VTk; omega), r0 k h2]
  have s6 : ∀ k, k < 54 → gi M4 6 k = 0 := fun k hk => by rw [b3 _ _ (by unfold VTk; omega)]; exact r6 k hk
  refine ⟨M4, rfl, ⟨⟨⟨0, hx⟩, b2⟩, (s0' _ (by omega) (by decide)).trans g12, (s0' _ (by omega) (by decide)).trans g13, (s0' _ (by omega) (by decide)).trans g27, (s0' _ (by omega) (by decide)).trans g28, fun c hc => absurd hc (Nat.not_lt_zero c), fun c _ hc => absurd hc (Nat.not_lt_zero c), ⟨s6 _ (by decide), s6 _ (by decide), s6 _ (by decide), s6 _ (by decide)⟩, (s0' _ (by omega) (by decide)).trans g23, fun c hc => absurd hc (Nat.not_lt_zero c), fun c hc => absurd hc (Nat.not_lt_zero c), fun v _ hv => s6 _ (by omega), ⟨(s0' _ (by omega) (by decide)).trans g24, fun _ => rfl⟩, ⟨(s0' _ (by omega) (by decide)).trans g25, fun _ => rfl⟩, (s0' _ (by omega) (by decide)).trans g26, fun c hc => absurd hc (Nat.not_lt_zero c), ⟨?_, Nat.zero_le _⟩, fun r hr => ?_⟩, ?_, (s0' _ (by omega) (by decide)).trans g11⟩
  · rw [b3 _ _ (by unfold VTk; omega), hM3, gi_si, if_pos ⟨rfl, rfl⟩]
    rfl
  · show gi M4 0 (29 + r) = -1
    rw [s0' _ (by omega) (by omega)]
    rcases (by omega : r = 0 ∨ r = 1 ∨ r = 2) with q | q | q
    · rw [q]; exact g29
    · rw [q]; exact g30
    · rw [q]; exact g31
  · exact (k3.mono (fun t k q => by unfold VTm; omega)).tr (b3.mono (fun t k q => by unfold VTk at q; unfold VTm; omega))
variable {s : Nat} {τ : Td}
theorem mCopy6 (hn : 800 < n) : ∃ M', gl (b_X9_town_283 n) n ((0 : Int32), M) = j_X9_town_307 n M' ∧ (∀ p, p < 54 → gi M' 12 p = gi M 6 p) ∧ kq (fun t _ => t = 12) M M' := by
  obtain ⟨N, m, ⟨a1, a2⟩, e⟩ := gl_k (body := b_X9_town_283 n) (fun k (M' : Mem) => (nI k, M')) 54 (fun k M' => (∀ p, p < k → gi M' 12 p = gi M 6 p) ∧ kq (fun t _ => t = 12) M M') (fun k M' hk hI => by
    obtain ⟨a1, a2⟩ := hI
    refine ⟨si M' 12 k (gi M 6 k), ?_, fun p hp => ?_, a2.si rfl _⟩
    · rw [b_X9_town_283]
      try dsimp only []
      rw [if_neg (show ¬ (54 : Int32) ≤ nI k from nI_ge (b := 54) hk (by decide)), ck_pos (n_in hk (by decide)), ck_pos (n_in (by omega) (by decide)), nI_clamp (by omega), a2 _ _ (by omega), nI_1]
    · rw [gi_si]
      by_cases c : p = k
      · subst c
        rw [if_pos ⟨rfl, rfl⟩]
      · rw [if_neg (by omega)]
        exact a1 p (by omega)) n 0 M (by omega) (by omega) ⟨fun p hp => absurd hp (by omega), kq.rf⟩
  refine ⟨N, ?_, a1, a2⟩
  rw [show ((0 : Int32), M) = (nI 0, M) from rfl, e]
  refine gl_mr ?_
  rw [b_X9_town_283]
  try dsimp only []
  rw [if_pos (show (54 : Int32) ≤ nI 54 by decide)]
theorem mPlanC (hn : 800 < n) {h p : Nat} (hp : h + p ≤ 16) (h27 : gi M 0 27 = nI h) (h28 : gi M 0 28 = nI p) : ∃ M', j_X9_town_307 n M = j_X9_town_363 n M' ∧ (∀ i, i < p → gi M' 12 (6 + h + i) = gi M 7 i ∧ gi M' 12 (22 + h + i) = gi M 8 i) ∧ kq (fun t q => t = 12 ∧ ((6 + h ≤ q ∧ q < 6 + h + p) ∨ (22 + h ≤ q ∧ q < 22 + h + p))) M M' := by
  obtain ⟨N, m, ⟨a1, a2⟩, e⟩ := gl_k (body := b_X9_town_309 n) (fun k (M' : Mem) => (nI k, M')) p (fun k M' => (∀ i, i < k → gi M' 12 (6 + h + i) = gi M 7 i ∧ gi M' 12 (22 + h + i) = gi M 8 i) ∧ kq (fun t q => t = 12 ∧ ((6 + h ≤ q ∧ q < 6 + h + p) ∨ (22 + h ≤ q ∧ q < 22 + h + p))) M M') (fun k M' hk hI => by
    obtain ⟨a1, a2⟩ := hI
    have c27 : gi M' 0 27 = nI h := (a2 _ _ (by omega)).trans h27
    have c27' : ∀ q x, gi (si M' 12 q x) 0 27 = nI h := fun q x => by rw [gi_si, if_neg (by omega), c27]
    have c28 : gi M' 0 28 = nI p := (a2 _ _ (by omega)).trans h28
    have u1 : ((6 : Int32) + nI h) + nI k = nI (6 + h + k) := by rw [show (6 : Int32) + nI h = nI (6 + h) from nI_add 6 h, nI_add]
    have u2 : ((22 : Int32) + nI h) + nI k = nI (22 + h + k) := by rw [show (22 : Int32) + nI h = nI (22 + h) from nI_add 22 h, nI_add]
    have zk : (nI k).toNatClampNeg = k := nI_clamp (by omega)
    have z1 : (nI (6 + h + k)).toNatClampNeg = 6 + h + k := nI_clamp (by omega)
    have z2 : (nI (22 + h + k)).toNatClampNeg = 22 + h + k := nI_clamp (by omega)
    have i0 : inb (nI k) 16 := n_in (by omega) (by decide)
    have i1 : inb (nI (6 + h + k)) 108 := n_in (by omega) (by decide)
    have i2 : inb (nI (22 + h + k)) 108 := n_in (by omega) (by decide)
    refine ⟨si (si M' 12 (6 + h + k) (gi M 7 k)) 12 (22 + h + k) (gi M 8 k), ?_, fun i hi => ?_, (a2.si (by omega) _).si (by omega) _⟩
    · rw [b_X9_town_309]
      try dsimp only []
      rw [c28, if_neg (nI_ge hk (by omega)), c27, u1]
      simp only [ck_pos i0, ck_pos i1, z1, zk, c27', u2, ck_pos i2, z2]
      rw [show gi (si M' 12 (6 + h + k) (gi M' 7 k)) 8 k = gi M 8 k by rw [gi_si, if_neg (by omega), a2 _ _ (by omega)], a2 7 k (by omega), nI_1]
    · by_cases c : i = k
      · subst c
        rw [gi_si, if_neg (by omega), gi_si, if_pos ⟨rfl, rfl⟩, gi_si, if_pos ⟨rfl, rfl⟩]
        exact ⟨rfl, rfl⟩
      · rw [gi_si, if_neg (by omega), gi_si, if_neg (by omega), gi_si, if_neg (by omega), gi_si, if_neg (by omega)]
        exact a1 i (by omega)) n 0 M (by omega) (by omega) ⟨fun i hi => absurd hi (by omega), kq.rf⟩
  refine ⟨N, ?_, a1, a2⟩
  unfold j_X9_town_307
  rw [show ((0 : Int32), M) = (nI 0, M) from rfl, e]
  refine gl_mr ?_
  rw [b_X9_town_309]
  try dsimp only []
  rw [a2 _ _ (by omega), h28, if_pos (nI_le (Nat.le_refl _) (by omega))]
def VTe (t k : Nat) : Prop := (t = 0 ∧ ((1 ≤ k ∧ k ≤ 7) ∨ k = 46 ∨ k = 54 ∨ k = 59)) ∨ t = 1 ∨ t = 2 ∨ t = 12
theorem mFinish (he : e ≤ 700) (hn : 1500 < n) (h : DT f e s τ [] M) (hG : τ.s.Good τ.wd) (hT : τ.t.Good) : ∃ M', j_X9_town_153 n M = some (0, M') ∧ StR τ.wd τ.s 12 0 M' ∧ TwM τ.wd τ.t M' ∧ gi M' 0 46 = 0 ∧ gi M' 0 54 = 0 ∧ gi M' 0 59 = 0 ∧ kq VTe M M' := by
  have hh := hG.h_hung
  have hal := hG.h_all
  have hw8 := hG.h_wd
  have hgr := hT.h_ground
  have hco := hT.h_cost
  have h8 := hT.h_winds
  have hs2 : s ≤ 2 * e := h.d_s.2
  obtain ⟨M1, hM1⟩ : ∃ M1, M1 = si M 0 1 (nI τ.wd) := ⟨_, rfl⟩
  obtain ⟨M2, hM2⟩ : ∃ M2, M2 = si M1 0 2 (nI τ.t.ground) := ⟨_, rfl⟩
  have r1 : ∀ t k, ¬ (t = 0 ∧ k = 1) → gi M1 t k = gi M t k := fun t k q => by rw [hM1, gi_si, if_neg q]
  have r2 : ∀ t k, ¬ (t = 0 ∧ (k = 1 ∨ k = 2)) → gi M2 t k = gi M t k := fun t k q => by rw [hM2, gi_si, if_neg (by omega), r1 _ _ (by omega)]
  have e201 : j_X9_town_153 n M = j_X9_town_201 n (nI τ.t.ground) M1 := by
    unfold j_X9_town_153
    rw [h.good]
    dsimp only [bd]
    rw [if_neg (show ¬ (1 : Int32) = 0 by decide), h.d_w, ← hM1, r1 _ _ (by omega), h.d_g.1]
    by_cases c : τ.gt = true
    · rw [if_pos c, if_neg (nNeg (by omega))]
    · rw [if_neg c, if_pos (show (-1 : Int32) = -1 from rfl), h.d_g.2 (by simpa using c)]
      rfl
  have e222 : j_X9_town_201 n (nI τ.t.ground) M1 = j_X9_town_222 n (nI τ.t.cost) M2 := by
    unfold j_X9_town_201
    rw [← hM2, r2 _ _ (by omega), h.d_c.1]
    by_cases c : τ.ct = true
    · rw [if_pos c, if_neg (nNeg (by omega))]
    · rw [if_neg c, if_pos (show (-1 : Int32) = -1 from rfl), h.d_c.2 (by simpa using c)]
      rfl
  rw [e201, e222]
  unfold j_X9_town_222
  obtain ⟨M3, hM3⟩ : ∃ M3, M3 = si (si (si (si (si M2 0 3 (nI τ.t.cost)) 0 4 (gi M 0 26)) 0 5 (gi M 0 29)) 0 6 (gi M 0 30)) 0 7 (gi M 0 31) := ⟨_, rfl⟩
  have e3 : (si (si (si (si (si M2 0 3 (nI τ.t.cost)) 0 4 (gi (si M2 0 3 (nI τ.t.cost)) 0 26)) 0 5 (gi (si (si M2 0 3 (nI τ.t.cost)) 0 4 (gi (si M2 0 3 (nI τ.t.cost)) 0 26)) 0 29)) 0 6 (gi (si (si (si M2 0 3 (nI τ.t.cost)) 0 4 (gi (si M2 0 3 (nI τ.t.cost)) 0 26)) 0 5 (gi (si (si M2 0 3 (nI τ.t.cost)) 0 4 (gi (si M2 0 3 (nI τ.t.cost)) 0 26)) 0 29)) 0 30)) 0 7 (gi (si (si (si (si M2 0 3 (nI τ.t.cost)) 0 4 (gi (si M2 0 3 (nI τ.t.cost)) 0 26)) 0 5 (gi (si (si M2 0 3 (nI τ.t.cost)) 0 4 (gi (si M2 0 3 (nI τ.t.cost)) 0 26)) 0 29)) 0 6 (gi (si (si (si M2 0 3 (nI τ.t.cost)) 0 4 (gi (si M2 0 3 (nI τ.t.cost)) 0 26)) 0 5 (gi (si (si M2 0 3 (nI τ.t.cost)) 0 4 (gi (si M2 0 3 (nI τ.t.cost)) 0 26)) 0 29)) 0 30)) 0 31)) = M3 := by
    have w1 : gi (si M2 0 3 (nI τ.t.cost)) 0 26 = gi M 0 26 := by rw [gi_si, if_neg (by omega), r2 _ _ (by omega)]
    rw [w1]
    have w2 : gi (si (si M2 0 3 (nI τ.t.cost)) 0 4 (gi M 0 26)) 0 29 = gi M 0 29 := by rw [gi_si, if_neg (by omega), gi_si, if_neg (by omega), r2 _ _ (by omega)]
    rw [w2]
    have w3 : gi (si (si (si M2 0 3 (nI τ.t.cost)) 0 4 (gi M 0 26)) 0 5 (gi M 0 29)) 0 30 = gi M 0 30 := by rw [gi_si, if_neg (by omega), gi_si, if_neg (by omega), gi_si, if_neg (by omega), r2 _ _ (by omega)]
    rw [w3]
    have w4 : gi (si (si (si (si M2 0 3 (nI τ.t.cost)) 0 4 (gi M 0 26)) 0 5 (gi M 0 29)) 0 6 (gi M 0 30)) 0 31 = gi M 0 31 := by rw [gi_si, if_neg (by omega), gi_si, if_neg (by omega), gi_si, if_neg (by omega), gi_si, if_neg (by omega), r2 _ _ (by omega)]
    rw [w4, hM3]
  rw [e3]
  have k3 : kq (fun t k => t = 0 ∧ 1 ≤ k ∧ k ≤ 7) M M3 := by
    rw [hM3, hM2, hM1]
    exact ((((((kq.rf.si (by omega) _).si (by omega) _).si (by omega) _).si (by omega) _).si (by omega) _).si (by omega) _).si (by omega) _
  have f1 : gi M3 0 1 = nI τ.wd := by rw [hM3, hM2, hM1]; simp [gi_si]
  have f2 : gi M3 0 2 = nI τ.t.ground := by rw [hM3, hM2, hM1]; simp [gi_si]
  have f3 : gi M3 0 3 = nI τ.t.cost := by rw [hM3, hM2, hM1]; simp [gi_si]
  have f4 : gi M3 0 4 = nI τ.t.winds := by rw [← h.d_n, hM3, hM2, hM1]; simp [gi_si]
  have f5 : ∀ r, r < 3 → gi M3 0 (5 + r) = gi M 0 (29 + r) := by
    intro r hr
    rcases (by omega : r = 0 ∨ r = 1 ∨ r = 2) with q | q | q
    · rw [q, hM3, hM2, hM1]; simp [gi_si]
    · rw [q, hM3, hM2, hM1]; simp [gi_si]
    · rw [q, hM3, hM2, hM1]; simp [gi_si]
  obtain ⟨M4, a1, a2, a3⟩ := mCopies (n := n) (M2 := M3) (n1 := 8) (r1 := 5) (r2 := 1) (by omega) (by decide) (by decide)
  obtain ⟨M5, b1, b2, b3⟩ := mCopies (n := n) (M2 := M4) (n1 := 1400) (r1 := 9) (r2 := 2) (by omega) (by decide) (by decide)
  rw [a1]
  dsimp only [bd]
  rw [b1]
  dsimp only []
  have a3' : kq (fun t _ => t = 1) M3 M4 := fun t k q => a3.1 t k q
  have b3' : kq (fun t _ => t = 2) M4 M5 := fun t k q => b3.1 t k q
  have k5 : kq (fun t k => (t = 0 ∧ 1 ≤ k ∧ k ≤ 7) ∨ t = 1 ∨ t = 2) M M5 := ((k3.mono (fun t k q => by omega)).tr (a3'.mono (fun t k q => by omega))).tr (b3'.mono (fun t k q => by omega))
  have k35 : kq (fun t k => t = 1 ∨ t = 2) M3 M5 := (a3'.mono (fun t k q => by omega)).tr (b3'.mono (fun t k q => by omega))
  obtain ⟨M6, c1, c2, c3⟩ := mCopy6 (n := n) (M := M5) (by omega)
  rw [c1]
  have g27 : gi M6 0 27 = nI τ.s.hung := by rw [c3 _ _ (by omega), k5 _ _ (by omega), h.d_h]
  have g28 : gi M6 0 28 = nI (τ.s.all - τ.s.hung) := by rw [c3 _ _ (by omega), k5 _ _ (by omega), h.d_p]
  obtain ⟨M7, d1, d2, d3⟩ := mPlanC (n := n) (M := M6) (h := τ.s.hung) (p := τ.s.all - τ.s.hung) (by omega) (by omega) g27 g28
  rw [d1]
  unfold j_X9_town_363
  have h27 : gi M7 0 27 = nI τ.s.hung := (d3 _ _ (by omega)).trans g27
  have h28 : gi M7 0 28 = nI (τ.s.all - τ.s.hung) := (d3 _ _ (by omega)).trans g28
  have z3 : (3 : Int32).toNatClampNeg = 3 := rfl
  have z4 : (4 : Int32).toNatClampNeg = 4 := rfl
  rw [z3, z4, show gi (si M7 12 3 (gi M7 0 27)) 0 27 = nI τ.s.hung by rw [gi_si, if_neg (by omega), h27], show gi (si M7 12 3 (gi M7 0 27)) 0 28 = nI (τ.s.all - τ.s.hung) by rw [gi_si, if_neg (by omega), h28], h27, nI_add, show τ.s.hung + (τ.s.all - τ.s.hung) = τ.s.all by omega]
  obtain ⟨M8, hM8⟩ : ∃ M8, M8 = si (si (si (si (si M7 12 3 (nI τ.s.hung)) 12 4 (nI τ.s.all)) 0 46 (0 : Int32)) 0 54 (0 : Int32)) 0 59 (0 : Int32) := ⟨_, rfl⟩
  rw [← hM8]
  have k8 : kq (fun t k => (t = 12 ∧ (k = 3 ∨ k = 4)) ∨ (t = 0 ∧ (k = 46 ∨ k = 54 ∨ k = 59))) M7 M8 := by
    rw [hM8]
    exact ((((kq.rf.si (by omega) _).si (by omega) _).si (by omega) _).si (by omega) _).si (by omega) _
  have row12 : ∀ q, q < 54 → ¬ q = 3 → ¬ q = 4 → ¬ ((6 + τ.s.hung ≤ q ∧ q < 6 + τ.s.hung + (τ.s.all - τ.s.hung)) ∨ (22 + τ.s.hung ≤ q ∧ q < 22 + τ.s.hung + (τ.s.all - τ.s.hung))) → gi M8 12 q = gi M 6 q := by
    intro q q1 q2 q3 q4
    rw [k8 _ _ (by omega), d3 _ _ (by omega), c2 q q1, k5 _ _ (by omega)]
  have kk : kq VTe M M8 := ((((k5.mono (fun t k q => by unfold VTe; omega)).tr (c3.mono (fun t k q => by unfold VTe; omega))).tr (d3.mono (fun t k q => by unfold VTe; omega))).tr (k8.mono (fun t k q => by unfold VTe; omega)))
  have keep0 : ∀ k, 1 ≤ k → k ≤ 7 → gi M8 0 k = gi M3 0 k := fun k _ _ => by rw [k8 _ _ (by omega), d3 _ _ (by omega), c3 _ _ (by omega), k35 _ _ (by omega)]
  refine ⟨M8, rfl, ⟨?_, ?_, ?_, ?_, ?_, ?_, fun c hc => ?_, fun c hc => ?_, fun v hv => ?_, fun v hv => ?_⟩, ⟨?_, ?_, ?_, ?_, fun i hi => ?_, fun r hr => ?_⟩, ?_, ?_, ?_, kk⟩
  · rw [row12 0 (by decide) (by decide) (by decide) (by omega)]
    exact h.d_0.1
  · rw [row12 (0 + 1) (by decide) (by decide) (by decide) (by omega)]
    exact h.d_0.2.1
  · rw [row12 (0 + 2) (by decide) (by decide) (by decide) (by omega)]
    exact h.d_0.2.2.1
  · rw [hM8]; simp [gi_si]
  · rw [hM8]; simp [gi_si]
  · rw [row12 (0 + 5) (by decide) (by decide) (by decide) (by omega)]
    exact h.d_0.2.2.2
  · by_cases c1 : c < τ.s.hung
    · rw [row12 _ (by omega) (by omega) (by omega) (by omega), Nat.zero_add]
      exact (h.d_hw c c1).1
    · have := (d2 (c - τ.s.hung) (by omega)).1
      rw [show 6 + τ.s.hung + (c - τ.s.hung) = 0 + 6 + c by omega] at this
      rw [k8 _ _ (by omega), this, c3 _ _ (by omega), k5 _ _ (by omega)]
      exact (h.d_pw c (by omega) hc).1
  · by_cases c1 : c < τ.s.hung
    · rw [row12 _ (by omega) (by omega) (by omega) (by omega), Nat.zero_add]
      exact (h.d_hw c c1).2
    · have := (d2 (c - τ.s.hung) (by omega)).2
      rw [show 22 + τ.s.hung + (c - τ.s.hung) = 0 + 22 + c by omega] at this
      rw [k8 _ _ (by omega), this, c3 _ _ (by omega), k5 _ _ (by omega)]
      exact (h.d_pw c (by omega) hc).2
  · rw [row12 _ (by omega) (by omega) (by omega) (by omega), Nat.zero_add]
    exact h.d_ff v hv
  · rw [row12 _ (by omega) (by omega) (by omega) (by omega), Nat.zero_add]
    exact h.d_b v hv
  · rw [keep0 _ (by decide) (by decide), f1]
  · rw [keep0 _ (by decide) (by decide), f2]
  · rw [keep0 _ (by decide) (by decide), f3]
  · rw [keep0 _ (by decide) (by decide), f4]
  · rw [k8 _ _ (by omega), d3 _ _ (by omega), c3 _ _ (by omega), b3' _ _ (by omega), a2 i (by omega), k3 _ _ (by omega)]
    exact h.d_i i hi
  · have hR := h.d_r r hr
    have h0r : gi M8 0 (5 + r) = gi M 0 (29 + r) := by rw [keep0 _ (by omega) (by omega), f5 r hr]
    cases hru : τ.t.rule r with
    | none =>
      rw [hru] at hR
      exact h0r.trans hR
    | some p =>
      rw [hru] at hR
      obtain ⟨f0, x1, x2, x3⟩ := hR
      refine ⟨f0, h0r.trans x1, by omega, cod2_rng p f0 (fun q q1 q2 => ?_) x3⟩
      rw [k8 _ _ (by omega), d3 _ _ (by omega), c3 _ _ (by omega), b2 q (by omega), a3' _ _ (by omega), k3 _ _ (by omega)]
  · rw [hM8]; simp [gi_si]
  · rw [hM8]; simp [gi_si]
  · rw [hM8]; simp [gi_si]
end B
