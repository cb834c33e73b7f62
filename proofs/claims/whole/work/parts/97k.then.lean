/-! Questions of days to come. -/
section R
variable {wd : Nat} {T : Tw} {s : Sp} {ow fa : Int32} {gv : Nat → Int32} {M0 M : Mem}
theorem MT.hung (e : MT wd T M0 ow fa gv s M) : gi M 12 (57 : Int32).toNatClampNeg = nI s.hung := e.m_st.hung
theorem MT.lean (e : MT wd T M0 ow fa gv s M) : gi M 12 (56 : Int32).toNatClampNeg = nI s.lean := e.m_st.lean
theorem MT.money (e : MT wd T M0 ow fa gv s M) : gi M 12 (55 : Int32).toNatClampNeg = nI s.money := e.m_st.money
theorem MT.all (e : MT wd T M0 ow fa gv s M) : gi M 12 (58 : Int32).toNatClampNeg = nI s.all := e.m_st.all
theorem MT.fell (e : MT wd T M0 ow fa gv s M) : gi M 12 (59 : Int32).toNatClampNeg = nI s.fell := e.m_st.fell
theorem MT.faith {w : Nat} (e : MT wd T M0 ow fa gv s M) (hw : w < wd) : inb ((92 : Int32) + nI w) 108 ∧ gi M 12 ((92 : Int32) + nI w).toNatClampNeg = nI (s.faith w) := by
  have h1 := e.m_g.h_wd
  rw [show (92 : Int32) + nI w = nI (92 + w) from nI_add 92 w]
  refine ⟨n_in (by omega) (by decide), ?_⟩
  rw [nI_clamp (by omega)]
  exact e.m_st.faith w hw
theorem MT.weight {c : Nat} (e : MT wd T M0 ow fa gv s M) (hc : c < s.all) : inb ((60 : Int32) + nI c) 108 ∧ gi M 12 ((60 : Int32) + nI c).toNatClampNeg = nI (s.weight c) := by
  have h1 := e.m_g.h_all
  rw [show (60 : Int32) + nI c = nI (60 + c) from nI_add 60 c]
  refine ⟨n_in (by omega) (by decide), ?_⟩
  rw [nI_clamp (by omega)]
  exact e.m_st.weight c hc
end R
theorem k12_00 : k12 0 0 := Or.inl ⟨rfl, rfl⟩
theorem k12_11 : k12 1 1 := Or.inr (Or.inl ⟨rfl, rfl⟩)
theorem k12_22 : k12 2 2 := Or.inr (Or.inr ⟨rfl, rfl⟩)
theorem k1_00 : k1 0 0 := Or.inl ⟨rfl, rfl⟩
theorem k1_11 : k1 1 1 := Or.inr ⟨rfl, rfl⟩
theorem k2_00 : k2 0 0 := Or.inl ⟨rfl, rfl⟩
theorem k2_21 : k2 2 1 := Or.inr ⟨rfl, rfl⟩
theorem thr0 (M : Mem) : gi (si M 0 0 (0 : Int32)) 0 0 = 0 := by rw [gi_si, if_pos ⟨rfl, rfl⟩]
section Q
variable {n : Nat} {A : Ab} {M M2 : Mem} {x1 x2 x3 : Int32}
theorem qThen (hn : 3000 < n) (g : A.Good) (hC : RC A M) (hM : RM A M2) : QQ k12 (f_X8_then n x1 x2 M) (f_X9_then n x1 x2 M2) := by
  have hda := g.g_d
  have hM' := hM.thr g 0
  have h0 := thr0 M2
  unfold f_X8_then f_X9_then
  refine qq_what (m := 6) (by decide) g hC hM' h0 k12_11 (fun w hw e => ?_)
  dsimp only
  refine qq_from0 g hC hM' h0 k12_22 (by decide) (fun d hd e2 => ?_)
  dsimp only
  obtain ⟨j, cb⟩ := hC.cb g
  obtain ⟨N1, q1, c1⟩ := cStart (n := n) cb kq.rf
  obtain ⟨N2, q2, c2⟩ := cGo (n := n) (d := d) (by omega) (by omega) c1 (by omega)
  obtain ⟨N3, q3, c3⟩ := mGoesTo (n := n) (d := d) (by omega) (by omega) (hM'.mb g) kp.rf hM'.s_w
  have rC := hC.ct c2
  have rM := hM'.mt g c3
  have t3 := c3.thr.trans h0
  have g3 := c3.m_g
  have b1 := g3.h_hung
  have b2 := g3.h_all
  subst e e2
  rw [q1]
  simp only [bd]
  rw [q2, q3]
  try simp only []
  rw [c2.c_st.hung, c2.c_st.lean, c2.c_st.money, c2.c_st.all, c3.hung, c3.lean, c3.money, c3.all, c3.m_fa]
  have fin : ∀ v : Int32, QQ k12 (some (0, v, N2)) (some (v, N3)) := fun v => qq_yes g rC rM t3 k12_00
  rcases (show w = 0 ∨ w = 1 ∨ w = 2 ∨ w = 3 ∨ w = 4 ∨ w = 5 ∨ w = 6 by omega) with rfl | rfl | rfl | rfl | rfl | rfl | rfl
  · rw [if_pos (by decide), if_pos (by decide)]
    exact fin _
  · rw [if_neg (by decide), if_pos (by decide), if_neg (by decide), if_pos (by decide), cWeightHung (by omega) c2.c_g c2.c_st, show (54 : Int32) = nI 54 from rfl, mWeight (by omega) (by decide) g3 c3.m_st]
    exact fin _
  · rw [if_neg (by decide), if_neg (by decide), if_pos (by decide), if_neg (by decide), if_neg (by decide), if_pos (by decide)]
    exact fin _
  · rw [if_neg (by decide), if_neg (by decide), if_neg (by decide), if_pos (by decide), if_neg (by decide), if_neg (by decide), if_neg (by decide), if_pos (by decide)]
    exact fin _
  · rw [if_neg (by decide), if_neg (by decide), if_neg (by decide), if_neg (by decide), if_pos (by decide), if_neg (by decide), if_neg (by decide), if_neg (by decide), if_neg (by decide), if_pos (by decide)]
    exact fin _
  · rw [if_neg (by decide), if_neg (by decide), if_neg (by decide), if_neg (by decide), if_neg (by decide), if_pos (by decide), if_neg (by decide), if_neg (by decide), if_neg (by decide), if_neg (by decide), if_neg (by decide), if_pos (by decide)]
    exact fin _
  · by_cases c : (A.tw.ahead A.wd A.now d).hung = 0
    · rw [c, if_neg (by decide), if_neg (by decide), if_neg (by decide), if_neg (by decide), if_neg (by decide), if_neg (by decide), if_pos (by decide), if_neg (by decide), if_neg (by decide), if_neg (by decide), if_neg (by decide), if_neg (by decide), if_neg (by decide), if_pos (by decide)]
      exact fin _
    · have p0 : nI (A.tw.ahead A.wd A.now d).hung - (1 : Int32) = nI ((A.tw.ahead A.wd A.now d).hung - 1) := pk_sub (b := 1) (by omega)
      have p1 : (60 : Int32) + nI (A.tw.ahead A.wd A.now d).hung - (1 : Int32) = (60 : Int32) + nI ((A.tw.ahead A.wd A.now d).hung - 1) := by
        rw [Int32.sub_eq_add_neg, Int32.add_assoc, ← Int32.sub_eq_add_neg, p0]
      have p2 := c3.weight (c := (A.tw.ahead A.wd A.now d).hung - 1) (by omega)
      rw [if_neg (by decide), if_neg (by decide), if_neg (by decide), if_neg (by decide), if_neg (by decide), if_neg (by decide), if_neg (nI_nle (by omega) (by omega)), if_neg (by decide), if_neg (by decide), if_neg (by decide), if_neg (by decide), if_neg (by decide), if_neg (by decide), if_neg (nI_ne0 (by omega) (by omega)), p0, p1, ck_pos (n_in (by omega) (by decide)), ck_pos p2.1, p2.2, nI_clamp (by omega), c2.c_st.weight _ (by omega)]
      exact fin _
theorem qWardThen (hn : 3000 < n) (g : A.Good) (hC : RC A M) (hM : RM A M2) : QQ k12 (f_X8_wardThen n x1 x2 x3 M) (f_X9_wardThen n x1 x2 x3 M2) := by
  have hda := g.g_d
  have hwd := g.g_n.h_wd
  have hM' := hM.thr g 0
  have h0 := thr0 M2
  unfold f_X8_wardThen f_X9_wardThen
  refine qq_ward g hC hM' h0 k12_11 (fun w hw e => ?_)
  dsimp only
  refine qq_what (m := 1) (by decide) g hC hM' h0 k12_11 (fun u hu e3 => ?_)
  dsimp only
  refine qq_from0 g hC hM' h0 k12_22 (by decide) (fun d hd e2 => ?_)
  dsimp only
  obtain ⟨j, cb⟩ := hC.cb g
  obtain ⟨N1, q1, c1⟩ := cStart (n := n) cb kq.rf
  obtain ⟨N3, q3, c3⟩ := mGoesTo (n := n) (d := d) (by omega) (by omega) (hM'.mb g) kp.rf hM'.s_w
  subst e e2
  obtain ⟨N2, m, c2, q2⟩ := gl_k (body := b_X8_wardThen_26 n (nI w) (nI d) x3) (fun k (M' : Mem) => (nI (A.tw.gaveN A.wd A.now w k), nI k, M')) d (fun k M' => CT A.wd j A.tw M (A.tw.ahead A.wd A.now k) M') (fun k M' hk hI => by
    have hda := ahead_day (T := A.tw) (wd := A.wd) (s := A.now) k
    obtain ⟨M1, q1, c1, r1⟩ := cTrialDay (n := n) (by omega) hI (by omega)
    refine ⟨M1, ?_, c1⟩
    rw [b_X8_wardThen_26]
    try simp only []
    rw [if_neg (nI_ge hk (by omega)), q1]
    simp only [bd]
    rw [ck_pos (n_in (by omega) (by decide)), nI_clamp (by omega), r1 w hw, nI_add, nI_1]
    rfl) n 0 N1 (by omega) (by omega) c1
  have rC := hC.ct c2
  have rM := hM'.mt g c3
  have t3 := c3.thr.trans h0
  rw [q1]
  simp only [bd]
  rw [q3]
  try simp only []
  rw [show ((0 : Int32), (0 : Int32), N1) = (nI (A.tw.gaveN A.wd A.now w 0), nI 0, N1) from rfl, q2, gl_mr (o := j_X8_wardThen_56 n (nI w) x3 (nI (A.tw.gaveN A.wd A.now w d)) N2) (by
    rw [b_X8_wardThen_26]
    try simp only []
    rw [if_pos (nI_le (Nat.le_refl _) (by omega))])]
  unfold j_X8_wardThen_56
  subst e3
  have p2 := c3.faith hw
  rcases (show u = 0 ∨ u = 1 by omega) with rfl | rfl
  · rw [if_pos (by decide), if_pos (by decide), ck_pos p2.1, p2.2, ck_pos (n_in (by omega) (by decide)), nI_clamp (by omega), c2.c_st.faith w hw]
    exact qq_yes g rC rM t3 k12_00
  · rw [if_neg (by decide), if_neg (by decide), ck_pos (n_in (by omega) (by decide)), nI_clamp (by omega), c3.m_gv w hw]
    exact qq_yes g rC rM t3 k12_00
end Q
