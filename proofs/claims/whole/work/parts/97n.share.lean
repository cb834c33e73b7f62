/-! Who gives how much, all through. -/
theorem sumN_add {f h : Nat → Nat} : ∀ k, sumN (fun w => f w + h w) k = sumN f k + sumN h k
  | 0 => rfl
  | k + 1 => by
    rw [sumN, sumN, sumN, sumN_add k]
    omega
def Tw.togN (T : Tw) (wd : Nat) (s : Sp) : Nat → Nat
  | 0 => 0
  | k + 1 => T.togN wd s k + sumN (T.gv wd (T.ahead wd s k)) wd
theorem sumN_zero : ∀ k, sumN (fun _ => 0) k = 0
  | 0 => rfl
  | k + 1 => by rw [sumN, sumN_zero k]
theorem tog_is {T : Tw} {wd : Nat} {s : Sp} : ∀ k, T.togN wd s k = sumN (fun w => T.gaveN wd s w k) wd
  | 0 => (sumN_zero wd).symm
  | k + 1 => by
    have e : (fun w => T.gaveN wd s w (k + 1)) = fun w => T.gaveN wd s w k + T.gv wd (T.ahead wd s k) w := by
      funext w
      rfl
    rw [Tw.togN, tog_is k, e, sumN_add]
section Q
variable {n : Nat} {A : Ab} {M M2 : Mem} {x1 x2 x3 : Int32}
theorem qShare (hn : 3000 < n) (g : A.Good) (hC : RC A M) (hM : RM A M2) : QQ k12 (f_X8_share n x1 x2 M) (f_X9_share n x1 x2 M2) := by
  have hda := g.g_d
  have hwd := g.g_n.h_wd
  have hM' := hM.thr g 0
  have h0 := thr0 M2
  unfold f_X8_share f_X9_share
  refine qq_ward g hC hM' h0 k12_11 (fun w hw e => ?_)
  dsimp only
  refine qq_from0 g hC hM' h0 k12_22 (by decide) (fun d hd e2 => ?_)
  dsimp only
  obtain ⟨j, cb⟩ := hC.cb g
  obtain ⟨N1, q1, c1⟩ := cStart (n := n) cb kq.rf
  obtain ⟨N3, q3, c3⟩ := mGoesTo (n := n) (d := d) (by omega) (by omega) (hM'.mb g) kp.rf hM'.s_w
  subst e e2
  obtain ⟨N2, m, c2, q2⟩ := gl_k (body := b_X8_share_23 n (nI w) (nI d)) (fun k (M' : Mem) => (nI (A.tw.gaveN A.wd A.now w k), nI (A.tw.togN A.wd A.now k), nI k, M')) d (fun k M' => CT A.wd j A.tw M (A.tw.ahead A.wd A.now k) M') (fun k M' hk hI => by
    have hda := ahead_day (T := A.tw) (wd := A.wd) (s := A.now) k
    obtain ⟨M1, q1, c1, r1⟩ := cTrialDay (n := n) (by omega) hI (by omega)
    refine ⟨M1, ?_, c1⟩
    rw [b_X8_share_23]
    try simp only []
    rw [if_neg (nI_ge hk (by omega)), q1]
    simp only [bd]
    rw [ck_pos (n_in (by omega) (by decide)), nI_clamp (by omega), r1 w hw, cGave (by omega) c1.c_g c1.c_st r1]
    try simp only []
    rw [nI_add, nI_add, nI_1]
    rfl) n 0 N1 (by omega) (by omega) c1
  have rC := hC.ct c2
  have rM := hM'.mt g c3
  have t3 := c3.thr.trans h0
  have hsum : ∀ k, k ≤ A.wd → sumN (fun v => A.tw.gaveN A.wd A.now v d) k ≤ 1200 * k := fun k hk => sumN_le (fun v hv => by
    have := gaveN_le (T := A.tw) (w := v) g.g_n (by omega) d (by omega)
    omega)
  have hs8 := hsum A.wd (Nat.le_refl _)
  have hl : gl (b_X9_share_35 n (nI w)) n ((0 : Int32), (0 : Int32), N3) = j_X9_share_60 n (nI w) (nI (A.tw.togN A.wd A.now d)) N3 := by
    obtain ⟨u, m, -, ee⟩ := gl_k (body := b_X9_share_35 n (nI w)) (fun k (_ : Unit) => (nI (sumN (fun v => A.tw.gaveN A.wd A.now v d) k), nI k, N3)) A.wd (fun k _ => True) (fun k u hk _ => by
      refine ⟨(), ?_, trivial⟩
      rw [b_X9_share_35]
      simp only [c3.m_tw.wards]
      rw [if_neg (nI_ge hk (by omega)), ck_pos (n_in (by omega) (by decide)), nI_clamp (by omega), c3.m_gv k hk, nI_add, nI_1]
      rfl) n 0 () (by omega) (by omega) trivial
    rw [show ((0 : Int32), (0 : Int32), N3) = (nI (sumN (fun v => A.tw.gaveN A.wd A.now v d) 0), nI 0, N3) from rfl, ee]
    refine gl_mr ?_
    rw [b_X9_share_35]
    simp only [c3.m_tw.wards]
    rw [if_pos (nI_le (Nat.le_refl _) (by omega)), tog_is]
  rw [q1]
  simp only [bd]
  rw [q3]
  try simp only []
  rw [hl, show ((0 : Int32), (0 : Int32), (0 : Int32), N1) = (nI (A.tw.gaveN A.wd A.now w 0), nI (A.tw.togN A.wd A.now 0), nI 0, N1) from rfl, q2, gl_mr (o := j_X8_share_63 n (nI (A.tw.gaveN A.wd A.now w d)) (nI (A.tw.togN A.wd A.now d)) N2) (by
    rw [b_X8_share_23]
    try simp only []
    rw [if_pos (nI_le (Nat.le_refl _) (by omega))])]
  unfold j_X8_share_63 j_X9_share_60
  have ht := tog_is (T := A.tw) (wd := A.wd) (s := A.now) d
  by_cases c : A.tw.togN A.wd A.now d = 0
  · rw [c, if_pos (by decide), if_pos (by decide)]
    exact qq_yes g rC rM t3 k12_00
  · have hne : ¬ nI (A.tw.togN A.wd A.now d) = 0 := nI_ne0 (by omega) (by omega)
    rw [if_neg (nI_nle (by omega) (by omega)), if_neg hne, ck_pos hne, ck_pos (n_in (by omega) (by decide)), ck_pos hne, nI_clamp (by omega), c3.m_gv w hw, Int32.mul_comm (nI (A.tw.gaveN A.wd A.now w d)) 100]
    exact qq_yes g rC rM t3 k12_00
theorem qThrough (hn : 3000 < n) (g : A.Good) (hC : RC A M) (hM : RM A M2) : QQ k12 (f_X8_through n x1 x2 M) (f_X9_through n x1 x2 M2) := by
  have hda := g.g_d
  have hwd := g.g_n.h_wd
  have hM' := hM.thr g 0
  have h0 := thr0 M2
  have hgr := g.g_t.h_ground
  unfold f_X8_through f_X9_through
  refine qq_what (m := 3) (by decide) g hC hM' h0 k12_11 (fun w hw e => ?_)
  dsimp only
  refine qq_from1 g hC hM' h0 k12_22 (by decide) (fun d hd1 hd e2 => ?_)
  dsimp only
  subst e2
  obtain ⟨j, cb'⟩ := hC.cb g
  obtain ⟨N1, q1, c1⟩ := cStart (n := n) cb' kq.rf
  obtain ⟨N2, q2, c2⟩ := mxStart (n := n) (by omega) (hM'.mb g) kp.rf hM'.s_w
  rw [q1, q2]
  simp only [bd]
  refine qq_pq k12_00 ?_
  refine ok2_for (fun k (a : (Int32 × Int32 × Int32) × (Int32 × Int32 × Int32 × Int32) × Mem × Mem) => (a.1.1, a.1.2.1, a.2.1.1, a.2.1.2.1, a.1.2.2, nI (k + 1), a.2.2.1)) (fun k a => (a.1.1, a.1.2.1, a.2.1.2.2.1, a.2.1.2.2.2, a.1.2.2, nI (k + 1), a.2.2.2)) d
    (fun k a => CT A.wd j A.tw M (A.tw.ahead A.wd A.now k) a.2.2.1 ∧ MX A.wd A.tw (si M2 0 0 0) (A.tw.ahead A.wd A.now k) a.2.2.2 ∧ ((k = 0 ∧ a.2.1 = ((1 : Int32), (0 : Int32), (0 : Int32), (-1 : Int32))) ∨ (0 < k ∧ ∃ r m : Int32, a.2.1 = (r, m, r, m)))) (fun k a hk hI => ?_) (fun a hI => ?_) n n 0 ((0, 0, 0), ((1 : Int32), (0 : Int32), (0 : Int32), (-1 : Int32)), N1, N2) (by omega) (by omega) (by omega) ⟨c1, c2, Or.inl ⟨rfl, rfl⟩⟩
  · obtain ⟨⟨a1, a2, a3⟩, a4, a5, a6⟩ := a
    obtain ⟨b1, b2, b3⟩ := hI
    have hd2 := ahead_day (T := A.tw) (wd := A.wd) (s := A.now) k
    obtain ⟨O1, p1, d1, r1⟩ := cTrialDay (n := n) (by omega) b1 (by omega)
    obtain ⟨O2, p2, d2, r2⟩ := mxDay (n := n) (by omega) b2 (by omega)
    have d2' := d2
    obtain ⟨fa, gv, d2x⟩ := d2
    have hg := d1.c_g
    have hh := hg.h_hung
    have hal := hg.h_all
    have hle := hg.h_lean
    have hj := d1.c_jj
    have hjn : (gi O1 0 12).toNatClampNeg = j := by
      rw [d1.c_j, nI_clamp (by omega)]
    have hsum := sumN_le (f := A.tw.gv A.wd (A.tw.ahead A.wd A.now k)) (B := 20) (k := A.wd) (fun v hv => gv_le (ahead_good g.g_n k (by omega)) hv)
    have hdone := mDone (n := n) (b := 54) (by decide) hg g.g_t d2x.m_st d2x.m_tw
    rw [b_X8_through_30, b_X9_through_47]
    try simp only []
    rw [if_neg (nI_nlt (a := d) (b := k + 1) (by omega) (by omega)), if_neg (nI_nlt (a := d) (b := k + 1) (by omega) (by omega)), p1, p2]
    simp only [bd]
    unfold f_J9_max_7cf53
    rw [d1.c_st.lean, d2x.lean]
    -- the worst lean
    have key : ∀ w1 : Int32, (bd (f_X9_isDone n (54 : Int32) O2) (fun q6 => if q6.1 = 0 then (j_X9_through_98 n (0 : Int32) a2 (nI d) x2 w1 a4.2.2.1 a4.2.2.2 a3 (nI (k + 1)) q6.2) else (j_X9_through_98 n (1 : Int32) a2 (nI d) x2 w1 a4.2.2.1 a4.2.2.2 a3 (nI (k + 1)) q6.2))) = j_X9_through_81 n w1 (nI d) x2 a2 a4.2.2.1 a4.2.2.2 a3 (nI (k + 1)) O2 := fun _ => rfl
    have fin : ∀ w1 : Int32, (∃ a' : (Int32 × Int32 × Int32) × (Int32 × Int32 × Int32 × Int32) × Mem × Mem, ck (isTwB ((gi O1 0 12).toNatClampNeg)) (if (gi O1 10 6) < (gi O1 ((gi O1 0 12).toNatClampNeg) 8) then (j_X8_through_76 n (0 : Int32) a2 (nI d) x2 w1 a4.1 a4.2.1 a3 (nI (k + 1)) O1) else (j_X8_through_76 n (1 : Int32) a2 (nI d) x2 w1 a4.1 a4.2.1 a3 (nI (k + 1)) O1)) = some (.inl (a'.1.1, a'.1.2.1, a'.2.1.1, a'.2.1.2.1, a'.1.2.2, nI (k + 1 + 1), a'.2.2.1)) ∧ j_X9_through_81 n w1 (nI d) x2 a2 a4.2.2.1 a4.2.2.2 a3 (nI (k + 1)) O2 = some (.inl (a'.1.1, a'.1.2.1, a'.2.1.2.2.1, a'.2.1.2.2.2, a'.1.2.2, nI (k + 1 + 1), a'.2.2.2)) ∧ (CT A.wd j A.tw M (A.tw.ahead A.wd A.now (k + 1)) a'.2.2.1 ∧ MX A.wd A.tw (si M2 0 0 0) (A.tw.ahead A.wd A.now (k + 1)) a'.2.2.2 ∧ ((k + 1 = 0 ∧ a'.2.1 = ((1 : Int32), (0 : Int32), (0 : Int32), (-1 : Int32))) ∨ (0 < k + 1 ∧ ∃ r m : Int32, a'.2.1 = (r, m, r, m))))) := fun w1 => by
      rw [hjn, ck_pos (by rcases hj with rfl | rfl <;> decide), d1.c_st.hung, d1.c_tw.ground, ← key, show (54 : Int32) = nI 54 from rfl, hdone]
      simp only [bd]
      have fin2 : ∀ t0 : Int32, (∃ a' : (Int32 × Int32 × Int32) × (Int32 × Int32 × Int32 × Int32) × Mem × Mem, j_X8_through_76 n t0 a2 (nI d) x2 w1 a4.1 a4.2.1 a3 (nI (k + 1)) O1 = some (.inl (a'.1.1, a'.1.2.1, a'.2.1.1, a'.2.1.2.1, a'.1.2.2, nI (k + 1 + 1), a'.2.2.1)) ∧ j_X9_through_98 n t0 a2 (nI d) x2 w1 a4.2.2.1 a4.2.2.2 a3 (nI (k + 1)) O2 = some (.inl (a'.1.1, a'.1.2.1, a'.2.1.2.2.1, a'.2.1.2.2.2, a'.1.2.2, nI (k + 1 + 1), a'.2.2.2)) ∧ (CT A.wd j A.tw M (A.tw.ahead A.wd A.now (k + 1)) a'.2.2.1 ∧ MX A.wd A.tw (si M2 0 0 0) (A.tw.ahead A.wd A.now (k + 1)) a'.2.2.2 ∧ ((k + 1 = 0 ∧ a'.2.1 = ((1 : Int32), (0 : Int32), (0 : Int32), (-1 : Int32))) ∨ (0 < k + 1 ∧ ∃ r m : Int32, a'.2.1 = (r, m, r, m))))) := fun t0 => by
        have fin3 : ∀ t1 : Int32, (∃ a' : (Int32 × Int32 × Int32) × (Int32 × Int32 × Int32 × Int32) × Mem × Mem, j_X8_through_96 n t1 a3 (nI d) x2 w1 (a2 + t0) a4.1 a4.2.1 (nI (k + 1)) O1 = some (.inl (a'.1.1, a'.1.2.1, a'.2.1.1, a'.2.1.2.1, a'.1.2.2, nI (k + 1 + 1), a'.2.2.1)) ∧ j_X9_through_118 n t1 a3 (nI d) x2 w1 (a2 + t0) a4.2.2.1 a4.2.2.2 (nI (k + 1)) O2 = some (.inl (a'.1.1, a'.1.2.1, a'.2.1.2.2.1, a'.2.1.2.2.2, a'.1.2.2, nI (k + 1 + 1), a'.2.2.2)) ∧ (CT A.wd j A.tw M (A.tw.ahead A.wd A.now (k + 1)) a'.2.2.1 ∧ MX A.wd A.tw (si M2 0 0 0) (A.tw.ahead A.wd A.now (k + 1)) a'.2.2.2 ∧ ((k + 1 = 0 ∧ a'.2.1 = ((1 : Int32), (0 : Int32), (0 : Int32), (-1 : Int32))) ∨ (0 < k + 1 ∧ ∃ r m : Int32, a'.2.1 = (r, m, r, m))))) := fun t1 => by
          unfold j_X8_through_96 j_X9_through_118
          rw [cGave (by omega) d1.c_g d1.c_st r1]
          simp only [bd]
          rw [r2]
          unfold j_X8_through_123 j_X9_through_143
          rw [nI_1]
          rcases b3 with ⟨k0, b3⟩ | ⟨k0, r, m, b3⟩
          · have b3 : a4 = ((1 : Int32), (0 : Int32), (0 : Int32), (-1 : Int32)) := b3
            subst k0 b3
            try simp only []
            have cm : (-1 : Int32) < nI (sumN (A.tw.gv A.wd (A.tw.ahead A.wd A.now 0)) A.wd) := by
              rw [Int32.lt_iff_toInt_lt, nI_toInt (by omega), show (-1 : Int32).toInt = -1 from rfl]
              omega
            rw [if_pos cm]
            by_cases c0 : sumN (A.tw.gv A.wd (A.tw.ahead A.wd A.now 0)) A.wd = 0
            · rw [c0, if_pos (by decide)]
              exact ⟨((w1, a2 + t0, a3 + t1), (1, 0, 1, 0), O1, O2), rfl, rfl, d1, d2', Or.inr ⟨by omega, 1, 0, rfl⟩⟩
            · rw [if_neg (show ¬ nI (sumN (A.tw.gv A.wd (A.tw.ahead A.wd A.now 0)) A.wd) ≤ 0 from nI_nle (by omega) (by omega))]
              exact ⟨((w1, a2 + t0, a3 + t1), (nI (0 + 1), nI (sumN (A.tw.gv A.wd (A.tw.ahead A.wd A.now 0)) A.wd), nI (0 + 1), nI (sumN (A.tw.gv A.wd (A.tw.ahead A.wd A.now 0)) A.wd)), O1, O2), rfl, rfl, d1, d2', Or.inr ⟨by omega, _, _, rfl⟩⟩
          · have b3 : a4 = (r, m, r, m) := b3
            subst b3
            try simp only []
            by_cases c0 : nI (sumN (A.tw.gv A.wd (A.tw.ahead A.wd A.now k)) A.wd) ≤ m
            · rw [if_pos c0, if_neg (Int32.not_lt.mpr c0)]
              exact ⟨((w1, a2 + t0, a3 + t1), (r, m, r, m), O1, O2), rfl, rfl, d1, d2', Or.inr ⟨by omega, _, _, rfl⟩⟩
            · rw [if_neg c0, if_pos (Int32.not_le.mp c0)]
              exact ⟨((w1, a2 + t0, a3 + t1), (nI (k + 1), nI (sumN (A.tw.gv A.wd (A.tw.ahead A.wd A.now k)) A.wd), nI (k + 1), nI (sumN (A.tw.gv A.wd (A.tw.ahead A.wd A.now k)) A.wd)), O1, O2), rfl, rfl, d1, d2', Or.inr ⟨by omega, _, _, rfl⟩⟩
        unfold j_X8_through_76 j_X9_through_98
        rw [d1.c_st.fell, d2x.fell]
        by_cases c : nI (A.tw.nxt A.wd (A.tw.ahead A.wd A.now k)).fell = 0
        · rw [if_pos c, if_pos c]
          exact fin3 1
        · rw [if_neg c, if_neg c]
          exact fin3 0
      by_cases c : (A.tw.nxt A.wd (A.tw.ahead A.wd A.now k)).hung < A.tw.ground
      · rw [if_pos (nI_lt c (by omega)), if_pos c, if_pos (by decide)]
        exact fin2 0
      · rw [if_neg (nI_nlt (by omega) (by omega)), if_neg c, if_neg (by decide)]
        exact fin2 1
    by_cases c : a1 < nI (A.tw.nxt A.wd (A.tw.ahead A.wd A.now k)).lean
    · rw [if_pos c, if_neg (Int32.not_le.mpr c)]
      exact Or.inl (fin _)
    · rw [if_neg c, if_pos (Int32.not_lt.mp c)]
      exact Or.inl (fin _)
  · obtain ⟨⟨a1, a2, a3⟩, a4, a5, a6⟩ := a
    obtain ⟨b1, b2, b3⟩ := hI
    rcases b3 with ⟨k0, b3⟩ | ⟨k0, r, m, b3⟩
    · omega
    · have b3 : a4 = (r, m, r, m) := b3
      subst b3 e
      rw [b_X8_through_30, b_X9_through_47]
      try simp only []
      rw [if_pos (nI_lt (a := d) (b := d + 1) (by omega) (by omega)), if_pos (nI_lt (a := d) (b := d + 1) (by omega) (by omega))]
      unfold j_X8_through_129 j_X9_through_149
      have ff : ∀ v : Int32, ∃ x y, mr (some ((0 : Nat), v, a5)) = (some (.inr x) : Option ((Int32 × Int32 × Int32 × Int32 × Int32 × Int32 × Mem) ⊕ Rx)) ∧ mr (some (v, a6)) = (some (.inr y) : Option ((Int32 × Int32 × Int32 × Int32 × Int32 × Int32 × Mem) ⊕ (Int32 × Mem))) ∧ PQ x y := fun v => ⟨_, _, rfl, rfl, rfl, rfl, ⟨A, g, hC.ct b1, hM'.mx g b2⟩, b2.thr.trans h0⟩
      rcases (show w = 0 ∨ w = 1 ∨ w = 2 ∨ w = 3 by omega) with rfl | rfl | rfl | rfl
      · rw [if_pos (by decide), if_pos (by decide)]
        exact ff _
      · rw [if_neg (by decide), if_pos (by decide), if_neg (by decide), if_pos (by decide)]
        exact ff _
      · rw [if_neg (by decide), if_neg (by decide), if_pos (by decide), if_neg (by decide), if_neg (by decide), if_pos (by decide)]
        exact ff _
      · rw [if_neg (by decide), if_neg (by decide), if_neg (by decide), if_neg (by decide), if_neg (by decide), if_neg (by decide)]
        exact ff _
end Q
