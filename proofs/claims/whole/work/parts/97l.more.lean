/-! More questions of days to come. -/
def MX (wd : Nat) (T : Tw) (M0 : Mem) (s : Sp) (M : Mem) : Prop := ∃ fa gv, MT wd T M0 (-1) fa gv s M
theorem mxDay {n wd : Nat} {T : Tw} {s : Sp} {M0 M : Mem} (hn : 2000 < n) (h : MX wd T M0 s M) (hd : s.day < 20000) : ∃ M', f_X9_dayGoes n (54 : Int32) M = some M' ∧ MX wd T M0 (T.nxt wd s) M' ∧ gi M' 0 49 = nI (sumN (T.gv wd s) wd) := by
  obtain ⟨fa, gv, h⟩ := h
  obtain ⟨M', q, c, r⟩ := mTrialDay hn h hd
  exact ⟨M', q, ⟨_, _, c⟩, r⟩
theorem RM.mx {A : Ab} {M2 M2' : Mem} {wd : Nat} {T : Tw} {s : Sp} (g : A.Good) (h : RM A M2) (e : MX wd T M2 s M2') : RM A M2' := by
  obtain ⟨fa, gv, e⟩ := e
  exact h.mt g e
theorem MX.thr {wd : Nat} {T : Tw} {s : Sp} {M0 M' : Mem} (e : MX wd T M0 s M') : gi M' 0 0 = gi M0 0 0 := by
  obtain ⟨fa, gv, e⟩ := e
  exact e.thr
theorem mxStart {n wd : Nat} {T : Tw} {s : Sp} {M0 M : Mem} (hn : 2000 < n) (h : MB wd T s M0) (e : kp VT M0 M) (hw : gi M 0 52 = -1) : ∃ M', f_X9_tries n M = some M' ∧ MX wd T M0 s M' := by
  obtain ⟨M', q, c⟩ := mStart hn h e
  rw [hw] at c
  exact ⟨M', q, _, _, c⟩
section Q
variable {n : Nat} {A : Ab} {M M2 : Mem} {x1 x2 x3 : Int32}
theorem qReaches (hn : 3000 < n) (g : A.Good) (hC : RC A M) (hM : RM A M2) : QQ k2 (f_X8_reaches n x1 M) (f_X9_reaches n x1 M2) := by
  have hda := g.g_d
  have hM' := hM.thr g 0
  have h0 := thr0 M2
  unfold f_X8_reaches f_X9_reaches f_X8_requireFrom0 j_X8_requireFrom0_9
  by_cases ca : x1 < 0
  · rw [if_pos ca, mWithin_no (Or.inl ca)]
    simp only [bd]
    rw [mRight_no h0 (by decide)]
    exact qq_no g hC hM' k2_21 (by decide)
  · by_cases cb : x1 ≤ (16 : Int32)
    · obtain ⟨j, cb'⟩ := hC.cb g
      obtain ⟨N1, q1, c1⟩ := cStart (n := n) cb' kq.rf
      obtain ⟨N2, q2, c2⟩ := mxStart (n := n) (by omega) (hM'.mb g) kp.rf hM'.s_w
      rw [if_neg ca, if_pos cb, mWithin_yes ca (Int32.not_lt.mpr cb)]
      simp only [bd]
      rw [mRight_yes h0]
      try simp only []
      rw [if_pos trivial, if_neg (by decide), q1, q2]
      refine qq_pq k2_00 ?_
      refine ok2_for (fun k (a : Mem × Mem) => (nI k, a.1)) (fun k (a : Mem × Mem) => (nI k, a.2)) 61 (fun k a => CT A.wd j A.tw M (A.tw.ahead A.wd A.now k) a.1 ∧ MX A.wd A.tw (si M2 0 0 0) (A.tw.ahead A.wd A.now k) a.2) (fun k a hk hI => ?_) (fun a hI => ?_) n n 0 (N1, N2) (by omega) (by omega) (by omega) ⟨c1, c2⟩
      · obtain ⟨b1, b2⟩ := hI
        have hd2 := ahead_day (T := A.tw) (wd := A.wd) (s := A.now) k
        have hh : gi a.2 12 (57 : Int32).toNatClampNeg = nI (A.tw.ahead A.wd A.now k).hung := by
          obtain ⟨fa, gv, b2⟩ := b2
          exact b2.hung
        rw [b_X8_reaches_12, b_X9_reaches_28]
        try simp only []
        rw [if_neg (show ¬ (60 : Int32) < nI k from nI_nlt (a := 60) (by omega) (by omega)), if_neg (show ¬ (60 : Int32) < nI k from nI_nlt (a := 60) (by omega) (by omega)), b1.c_st.hung, hh]
        by_cases c : nI (A.tw.ahead A.wd A.now k).hung < x1
        · obtain ⟨O1, p1, d1, -⟩ := cTrialDay (n := n) (by omega) b1 (by omega)
          obtain ⟨O2, p2, d2, -⟩ := mxDay (n := n) (by omega) b2 (by omega)
          rw [if_pos c, if_pos c, p1, p2]
          refine Or.inl ⟨(O1, O2), ?_, ?_, d1, d2⟩
          · simp only [bd, nI_1]
          · simp only [bd, nI_1]
        · rw [if_neg c, if_neg c]
          exact Or.inr ⟨_, _, rfl, rfl, rfl, rfl, ⟨A, g, hC.ct b1, hM'.mx g b2⟩, b2.thr.trans h0⟩
      · obtain ⟨b1, b2⟩ := hI
        rw [b_X8_reaches_12, b_X9_reaches_28]
        try simp only []
        rw [if_pos (show (60 : Int32) < nI 61 by decide), if_pos (show (60 : Int32) < nI 61 by decide)]
        exact ⟨_, _, rfl, rfl, rfl, rfl, ⟨A, g, hC.ct b1, hM'.mx g b2⟩, b2.thr.trans h0⟩
    · rw [if_neg ca, if_neg cb, mWithin_no (Or.inr (Int32.not_le.mp cb))]
      simp only [bd]
      rw [mRight_no h0 (by decide)]
      exact qq_no g hC hM' k2_21 (by decide)
theorem qp_of {fC fM : Option (Int32 × Mem)} (h : ∃ x y, fC = some x ∧ fM = some y ∧ (x.1 = y.1 ∧ RR x.2 y.2)) : QP fC fM := by
  obtain ⟨⟨v, M'⟩, ⟨v', M2'⟩, h1, h2, h3, h4⟩ := h
  have h3 : v = v' := h3
  subst h3
  exact ⟨v, M', M2', h1, h2, h4⟩
theorem qFalls (hn : 3000 < n) (g : A.Good) (hC : RC A M) (hM : RM A M2) : QP (f_X8_falls n M) (f_X9_falls n M2) := by
  have hda := g.g_d
  have hM' := hM.thr g 0
  obtain ⟨j, cb'⟩ := hC.cb g
  obtain ⟨N1, q1, c1⟩ := cStart (n := n) cb' kq.rf
  obtain ⟨N2, q2, c2⟩ := mStart (n := n) (by omega) (hM'.mb g) kp.rf
  rw [hM'.s_w] at c2
  unfold f_X8_falls f_X9_falls
  rw [q1, q2]
  simp only [bd]
  refine qp_of ?_
  refine ok2_for (fun k (a : Mem × Mem) => (nI (k + 1), a.1)) (fun k (a : Mem × Mem) => (nI (k + 1), a.2)) 60 (fun k a => CT A.wd j A.tw M (A.tw.ahead A.wd A.now k) a.1 ∧ ∃ gv, MT A.wd A.tw (si M2 0 0 0) (-1) (nI 0) gv (A.tw.ahead A.wd A.now k) a.2) (fun k a hk hI => ?_) (fun a hI => ?_) n n 0 (N1, N2) (by omega) (by omega) (by omega) ⟨c1, _, c2⟩
  · obtain ⟨b1, gv, b2⟩ := hI
    have hd2 := ahead_day (T := A.tw) (wd := A.wd) (s := A.now) k
    rw [b_X8_falls_6, b_X9_falls_11]
    try simp only []
    rw [if_neg (show ¬ (60 : Int32) < nI (k + 1) from nI_nlt (a := 60) (by omega) (by omega)), if_neg (show ¬ (60 : Int32) < nI (k + 1) from nI_nlt (a := 60) (by omega) (by omega))]
    obtain ⟨O1, p1, d1, -⟩ := cTrialDay (n := n) (by omega) b1 (by omega)
    obtain ⟨O2, p2, d2, -⟩ := mTrialDay (n := n) (by omega) b2 (by omega)
    have hf := d1.c_g.h_fell
    have e2 : nI 0 + nI (A.tw.nxt A.wd (A.tw.ahead A.wd A.now k)).fell = nI (A.tw.nxt A.wd (A.tw.ahead A.wd A.now k)).fell := Int32.zero_add _
    rw [e2] at d2
    rw [p1, p2]
    simp only [bd]
    rw [d1.c_st.fell, d2.m_fa]
    by_cases c : (A.tw.nxt A.wd (A.tw.ahead A.wd A.now k)).fell = 0
    · rw [c] at d2
      rw [c, if_pos (by decide), if_pos (by decide)]
      refine Or.inl ⟨(O1, O2), ?_, ?_, d1, _, d2⟩
      · simp only [nI_1]
      · simp only [nI_1]
    · rw [if_neg (nI_nle (by omega) (by omega)), if_neg (nI_nle (by omega) (by omega))]
      exact Or.inr ⟨_, _, rfl, rfl, rfl, ⟨A, g, hC.ct d1, hM'.mt g d2⟩⟩
  · obtain ⟨b1, gv, b2⟩ := hI
    rw [b_X8_falls_6, b_X9_falls_11]
    try simp only []
    rw [if_pos (show (60 : Int32) < nI (60 + 1) by decide), if_pos (show (60 : Int32) < nI (60 + 1) by decide)]
    exact ⟨_, _, rfl, rfl, rfl, ⟨A, g, hC.ct b1, hM'.mt g b2⟩⟩
theorem qPious (hn : 3000 < n) (g : A.Good) (hC : RC A M) (hM : RM A M2) : QQ k12 (f_X8_pious n x1 x2 M) (f_X9_pious n x1 x2 M2) := by
  have hda := g.g_d
  have hwd := g.g_n.h_wd
  have hM' := hM.thr g 0
  have h0 := thr0 M2
  unfold f_X8_pious f_X9_pious
  refine qq_ward g hC hM' h0 k12_11 (fun w hw e => ?_)
  dsimp only
  refine qq_from1 g hC hM' h0 k12_22 (by decide) (fun d hd1 hd e2 => ?_)
  dsimp only
  subst e e2
  obtain ⟨j, cb'⟩ := hC.cb g
  obtain ⟨N1, q1, c1⟩ := cStart (n := n) cb' kq.rf
  obtain ⟨N2, q2, c2⟩ := mxStart (n := n) (by omega) (hM'.mb g) kp.rf hM'.s_w
  rw [q1, q2]
  simp only [bd]
  refine qq_pq k12_00 ?_
  refine ok2_for (fun k (a : Int32 × Mem × Mem) => (a.1, nI k, a.2.1)) (fun k (a : Int32 × Mem × Mem) => (a.1, nI k, a.2.2)) d (fun k a => CT A.wd j A.tw M (A.tw.ahead A.wd A.now k) a.2.1 ∧ MX A.wd A.tw (si M2 0 0 0) (A.tw.ahead A.wd A.now k) a.2.2) (fun k a hk hI => ?_) (fun a hI => ?_) n n 0 (0, N1, N2) (by omega) (by omega) (by omega) ⟨c1, c2⟩
  · obtain ⟨b1, b2⟩ := hI
    have hd2 := ahead_day (T := A.tw) (wd := A.wd) (s := A.now) k
    obtain ⟨O1, p1, d1, -⟩ := cTrialDay (n := n) (by omega) b1 (by omega)
    obtain ⟨O2, p2, d2, -⟩ := mxDay (n := n) (by omega) b2 (by omega)
    have hf : inb ((92 : Int32) + nI w) 108 ∧ gi O2 12 ((92 : Int32) + nI w).toNatClampNeg = nI ((A.tw.ahead A.wd A.now (k + 1)).faith w) := by
      obtain ⟨fa, gv, d2⟩ := d2
      exact d2.faith hw
    have hf1 : gi O1 13 w = nI ((A.tw.ahead A.wd A.now (k + 1)).faith w) := d1.c_st.faith w hw
    rw [b_X8_pious_18, b_X9_pious_34]
    try simp only []
    rw [if_neg (nI_ge hk (by omega)), if_neg (nI_ge hk (by omega)), p1, p2]
    simp only [bd]
    rw [ck_pos (n_in (by omega) (by decide)), ck_pos hf.1, hf.2, nI_clamp (by omega), hf1]
    unfold j_X8_pious_48 j_X9_pious_66
    by_cases c : nI ((A.tw.ahead A.wd A.now (k + 1)).faith w) < (50 : Int32)
    · rw [if_pos c, if_pos c]
      refine Or.inl ⟨(a.1 + 0, O1, O2), ?_, ?_, d1, d2⟩
      · simp only [nI_1]
      · simp only [nI_1]
    · rw [if_neg c, if_neg c]
      refine Or.inl ⟨(a.1 + 1, O1, O2), ?_, ?_, d1, d2⟩
      · simp only [nI_1]
      · simp only [nI_1]
  · obtain ⟨b1, b2⟩ := hI
    rw [b_X8_pious_18, b_X9_pious_34]
    try simp only []
    rw [if_pos (nI_le (Nat.le_refl _) (by omega)), if_pos (nI_le (Nat.le_refl _) (by omega))]
    exact ⟨_, _, rfl, rfl, rfl, rfl, ⟨A, g, hC.ct b1, hM'.mx g b2⟩, b2.thr.trans h0⟩
end Q
