/-! Where to mortar, when to prop. -/
section Q
variable {n : Nat} {A : Ab} {M M2 : Mem} {x1 x2 x3 x4 x5 : Int32}
theorem add1_76 {c : Nat} (hc : c < 16) : inb ((76 : Int32) + nI c) 108 ∧ ((76 : Int32) + nI c).toNatClampNeg = 54 + 22 + c := by
  rw [show (76 : Int32) + nI c = nI (76 + c) from nI_add 76 c, nI_clamp (by omega)]
  exact ⟨n_in (by omega) (by decide), by omega⟩
theorem add1_22 {c : Nat} (hc : c < 16) : inb ((22 : Int32) + nI c) 108 ∧ ((22 : Int32) + nI c).toNatClampNeg = 0 + 22 + c := by
  rw [show (22 : Int32) + nI c = nI (22 + c) from nI_add 22 c, nI_clamp (by omega)]
  exact ⟨n_in (by omega) (by decide), by omega⟩
theorem qToMortar (hn : 3000 < n) (g : A.Good) (hC : RC A M) (hM : RM A M2) : QQ k2 (f_X8_toMortar n x1 M) (f_X9_toMortar n x1 M2) := by
  have hda := g.g_d
  have hM' := hM.thr g 0
  have h0 := thr0 M2
  have hh := g.g_n.h_hung
  have ha := g.g_n.h_all
  unfold f_X8_toMortar f_X9_toMortar
  refine qq_from1 g hC hM' h0 k2_21 (by decide) (fun d hd1 hd e2 => ?_)
  dsimp only
  subst e2
  obtain ⟨j, cb⟩ := hC.cb g
  have mb := hM'.mb g
  obtain ⟨N1, q1, c1⟩ := cStart (n := n) cb kq.rf
  obtain ⟨N2, q2, c2⟩ := cGo (n := n) (d := d) (by omega) (by omega) c1 (by omega)
  obtain ⟨N3, q3, c3⟩ := mGoesTo (n := n) (d := d) (by omega) (by omega) mb kp.rf hM'.s_w
  rw [q1]
  simp only [bd]
  rw [q2, q3]
  simp only []
  rw [c2.c_st.hung, c3.hung]
  refine qq_pq k2_00 ?_
  refine ok2_for (fun k (a : Int32 × Int32 × Mem × Mem) => (a.1, a.2.1, nI k, a.2.2.1)) (fun k (a : Int32 × Int32 × Mem × Mem) => (a.1, a.2.1, nI k, a.2.2.2)) A.now.hung (fun k a => kq VC M a.2.2.1 ∧ kp VT (si M2 0 0 0) a.2.2.2 ∧ gi a.2.2.2 0 52 = -1) (fun k a hk hI => ?_) (fun a hI => ?_) n n 0 (nI (A.tw.ahead A.wd A.now d).hung, -1, N2, N3) (by omega) (by omega) (by omega) ⟨c2.c_sm, c3.m_k, c3.m_w⟩
  · obtain ⟨a1, a2, a3, a4⟩ := a
    obtain ⟨b1, b2, b3⟩ := hI
    have b1 : kq VC M a3 := b1
    have b2 : kp VT (si M2 0 0 0) a4 := b2
    have b3 : gi a4 0 52 = -1 := b3
    have cb' := cb.keep b1
    have rM := hM'.vt g b2 b3
    have u1 : gi a4 12 (3 : Int32).toNatClampNeg = nI A.now.hung := rM.s_n.hung
    have u2 : gi a3 6 k = nI (A.now.mortar k) := cb'.b_st.mortar k (by omega)
    have u3 := add1_22 (c := k) (by omega)
    have u4 := add1_76 (c := k) (by omega)
    have hmo := g.g_n.h_mortar k (by omega)
    have i2 : inb (nI k) 16 := n_in (by omega) (by decide)
    have z2 : (nI k).toNatClampNeg = k := nI_clamp (by omega)
    rw [b_X8_toMortar_27, b_X9_toMortar_35]
    try simp only []
    rw [cb'.b_st.hung, u1, if_neg (nI_ge hk (by omega)), if_neg (nI_ge hk (by omega))]
    simp only [ck_pos i2, z2, ck_pos u3.1, u3.2, ck_pos u4.1, u4.2]
    rw [u2, rM.s_n.mortar k (by omega)]
    unfold j_X8_toMortar_100 j_X9_toMortar_112
    by_cases c9 : A.now.mortar k = 9
    · rw [c9, if_pos (by decide), if_pos (by decide)]
      exact Or.inl ⟨(a1, a2, a3, a4), by rw [nI_1], by rw [nI_1], b1, b2, b3⟩
    · rw [if_neg (show ¬ (9 : Int32) ≤ nI (A.now.mortar k) from nI_ge (b := 9) (by omega) (by decide)), if_neg (show ¬ nI (A.now.mortar k) = (9 : Int32) from fun q => c9 ((nI_eq (b := 9) (by omega) (by decide)).mp q))]
      obtain ⟨O1, p1, d1⟩ := cStart (n := n) cb b1
      obtain ⟨O2, p2, d2⟩ := mStart (n := n) (by omega) mb b2
      rw [b3] at d2
      have f3 : gi O1 12 k = nI (A.now.mortar k) := d1.c_st.mortar k (by omega)
      have gN : (A.now.setMortar (up1 A.now.mortar k (A.now.mortar k + 1))).Good A.wd := mortar_good g.g_n (by omega)
      have d3 := CTV.up (s' := A.now.setMortar (up1 A.now.mortar k (A.now.mortar k + 1))) d1 (t := 12) (k := k) (x := nI (A.now.mortar k + 1)) (by omega) (cMortarRow (i := 10) d1.c_st (fun v _ => rfl)) gN
      have d4 := MT.up (s' := A.now.setMortar (up1 A.now.mortar k (A.now.mortar k + 1))) d2 (p := 54 + 22 + k) (x := nI (A.now.mortar k + 1)) (by omega) (mMortarRow (b := 54) g.g_n (by omega) d2.m_st (fun v _ => rfl)) gN
      have hdd : (A.now.setMortar (up1 A.now.mortar k (A.now.mortar k + 1))).day = A.now.day := rfl
      obtain ⟨P1, t1, f1⟩ := cGo (n := n) (d := d) (by omega) (by omega) d3 (by omega)
      obtain ⟨P2, t2, f2⟩ := mGo (n := n) (d := d) (by omega) (by omega) d4 (by omega)
      rw [p1, p2]
      simp only [bd]
      rw [f3, d2.m_st.mortar k (by omega), nI_1, t1, t2]
      simp only []
      rw [f1.c_st.hung, f2.hung]
      by_cases c : nI (A.tw.ahead A.wd (A.now.setMortar (up1 A.now.mortar k (A.now.mortar k + 1))) d).hung ≤ a1
      · rw [if_pos c, if_neg (Int32.not_lt.mpr c)]
        exact Or.inl ⟨(a1, a2, P1, P2), by rw [nI_1], by rw [nI_1], f1.c_sm, f2.m_k, f2.m_w⟩
      · rw [if_neg c, if_pos (Int32.not_le.mp c)]
        exact Or.inl ⟨(_, nI k, P1, P2), by rw [nI_1], by rw [nI_1], f1.c_sm, f2.m_k, f2.m_w⟩
  · obtain ⟨a1, a2, a3, a4⟩ := a
    obtain ⟨b1, b2, b3⟩ := hI
    have b1 : kq VC M a3 := b1
    have b2 : kp VT (si M2 0 0 0) a4 := b2
    have b3 : gi a4 0 52 = -1 := b3
    have cb' := cb.keep b1
    have rM := hM'.vt g b2 b3
    have u1 : gi a4 12 (3 : Int32).toNatClampNeg = nI A.now.hung := rM.s_n.hung
    rw [b_X8_toMortar_27, b_X9_toMortar_35]
    try simp only []
    rw [cb'.b_st.hung, u1, if_pos (nI_le (Nat.le_refl _) (by omega)), if_pos (nI_le (Nat.le_refl _) (by omega))]
    exact ⟨_, _, rfl, rfl, rfl, rfl, ⟨A, g, hC.kq b1, rM⟩, (b2.1 0 0 (by unfold VT VM; omega)).trans h0⟩
theorem qToProp (hn : 3000 < n) (g : A.Good) (hC : RC A M) (hM : RM A M2) : QQ k12 (f_X8_toProp n x1 x2 M) (f_X9_toProp n x1 x2 M2) := by
  have hda := g.g_d
  have hM' := hM.thr g 0
  have h0 := thr0 M2
  unfold f_X8_toProp f_X9_toProp
  refine qq_what (m := 1) (by decide) g hC hM' h0 k12_11 (fun w hw e => ?_)
  dsimp only
  refine qq_from1 g hC hM' h0 k12_22 (by decide) (fun d hd1 hd e2 => ?_)
  dsimp only
  subst e2
  obtain ⟨j, cb⟩ := hC.cb g
  have hj := cb.b_jj
  have mb := hM'.mb g
  rw [cCopy_is]
  simp only [bd]
  have e16 : kq VC M (cpS 16 4 M) := cpS_same.kq (fun t k ht => by unfold VC; omega)
  have s16 : StC A.wd A.now 16 (cpS 16 4 M) := cpS_st (by omega) g.g_n cb.b_st
  refine qq_pq k12_00 ?_
  refine ok2_for (fun k (a : Int32 × (Int32 × Int32) × Mem × Mem) => (a.1, a.2.1.1, nI k, a.2.2.1)) (fun k (a : Int32 × (Int32 × Int32) × Mem × Mem) => (a.1, a.2.1.2, nI k, a.2.2.2)) (d + 1) (fun k a => StC A.wd (A.tw.ahead A.wd A.now k) 16 a.2.2.1 ∧ kq VC M a.2.2.1 ∧ kp VT (si M2 0 0 0) a.2.2.2 ∧ gi a.2.2.2 0 52 = -1 ∧ ((k = 0 ∧ a.1 = -1) ∨ (0 < k ∧ a.2.1.1 = a.2.1.2))) (fun k a hk hI => ?_) (fun a hI => ?_) n n 0 (-1, (0, -1), cpS 16 4 M, si M2 0 0 0) (by omega) (by omega) (by omega) ⟨s16, e16, kp.rf, hM'.s_w, Or.inl ⟨rfl, rfl⟩⟩
  · obtain ⟨a1, ⟨a2, a2'⟩, a3, a4⟩ := a
    obtain ⟨b0, b1, b2, b3, b4⟩ := hI
    have b0 : StC A.wd (A.tw.ahead A.wd A.now k) 16 a3 := b0
    have b1 : kq VC M a3 := b1
    have b2 : kp VT (si M2 0 0 0) a4 := b2
    have b3 : gi a4 0 52 = -1 := b3
    have b4 : (k = 0 ∧ a1 = -1) ∨ (0 < k ∧ a2 = a2') := b4
    have cb' := cb.keep b1
    have hdk := ahead_day (T := A.tw) (wd := A.wd) (s := A.now) k
    have gk := ahead_good (T := A.tw) g.g_n k (by omega)
    have gN : ((A.tw.ahead A.wd A.now k).setLean 0).Good A.wd := lean_good gk (by decide)
    have hdd : ((A.tw.ahead A.wd A.now k).setLean 0).day = (A.tw.ahead A.wd A.now k).day := rfl
    -- the class' trial
    have e1 : kq (fun t _ => dA 10 j t) a3 (cpS 10 16 a3) := cpS_same.kq (fun t k ht => by unfold dA; omega)
    have d1 : CTV (fun t _ => dA 10 j t) A.wd j A.tw a3 (A.tw.ahead A.wd A.now k) (cpS 10 16 a3) := ⟨cpS_st (by omega) gk b0, cb'.b_tw.kq e1 (fun t k _ _ => by unfold dA; omega), (e1 _ _ (by unfold dA; omega)).trans cb'.b_j, hj, gk, g.g_t, fun t k ht => ht, e1⟩
    have d3 := CTV.up d1 (t := 10) (k := 10) (x := nI 0) (by omega) (d1.c_st.sLean (x := 0)) gN
    obtain ⟨P1, t1, f1⟩ := cGo (n := n) (d := d - k) (by omega) (by omega) d3 (by omega)
    obtain ⟨O2, p2, d2⟩ := mGoesTo (n := n) (d := k) (by omega) (by omega) mb b2 b3
    have d4 := MT.up d2 (p := 54 + 2) (x := nI 0) (by omega) (d2.m_st.sLean gk (x := 0)) gN
    obtain ⟨P2, t2, f2⟩ := mGo (n := n) (d := d - k) (by omega) (by omega) d4 (by omega)
    -- the second one's day
    have e5 : kq VC a3 P1 := f1.c_sm.mono (fun t k ht => by unfold dA at ht; unfold VC; omega)
    have s5 : StC A.wd (A.tw.ahead A.wd A.now k) 16 P1 := b0.kq f1.c_sm (fun t k _ _ => by unfold dA; omega)
    have cb5 := cb'.keep e5
    obtain ⟨Q1, v1, w1, -, w3, -⟩ := cDay (n := n) (wind := A.tw.windOn (A.tw.ahead A.wd A.now k).day) (by omega) gk g.g_t (i := 16) (by omega) s5 cb5.b_tw
    have hjn : (gi P1 0 12).toNatClampNeg = j := by
      rw [cb5.b_j, nI_clamp (by omega)]
    have e6 : kq VC M Q1 := (b1.tr e5).tr (w3.kq (fun t k ht => by unfold dA at ht; unfold VC; omega))
    have j85 : ∀ y z : Int32, j_X8_toProp_85 n (nI d) x2 y z (nI k) P1 = some (.inl (y, z, nI (k + 1), Q1)) := fun y z => by
      unfold j_X8_toProp_85
      rw [hjn, ck_pos (by rcases hj with rfl | rfl <;> decide), ck_pos (by rcases hj with rfl | rfl <;> decide), s5.day, cWindOn g.g_t cb5.b_tw (by omega)]
      simp only [bd]
      rw [v1, nI_1]
    have hhu := f1.c_g.h_hung
    have hal := f1.c_g.h_all
    rw [b_X8_toProp_28, b_X9_toProp_34]
    try simp only []
    rw [if_neg (nI_nlt (a := d) (b := k) (by omega) (by omega)), if_neg (nI_nlt (a := d) (b := k) (by omega) (by omega)), cCopy_is, p2]
    simp only [bd]
    rw [pk_sub (by omega), show si (cpS 10 16 a3) 10 10 (0 : Int32) = si (cpS 10 16 a3) 10 10 (nI 0) from rfl, t1, show si O2 12 (56 : Int32).toNatClampNeg (0 : Int32) = si O2 12 (54 + 2) (nI 0) from rfl, t2]
    simp only []
    rw [f1.c_st.hung, f2.hung, j85, j85]
    unfold j_X9_toProp_88
    rw [nI_1]
    by_cases c : nI (A.tw.ahead A.wd ((A.tw.ahead A.wd A.now k).setLean 0) (d - k)).hung ≤ a1
    · rw [if_pos c, if_neg (Int32.not_lt.mpr c)]
      rcases b4 with ⟨rfl, ha1⟩ | ⟨hk0, hb⟩
      · exfalso
        rw [ha1, Int32.le_iff_toInt_le, nI_toInt (by omega), show (-1 : Int32).toInt = -1 from rfl] at c
        omega
      · exact Or.inl ⟨(a1, (a2, a2'), Q1, P2), rfl, rfl, w1, e6, f2.m_k, f2.m_w, Or.inr ⟨by omega, hb⟩⟩
    · rw [if_neg c, if_pos (Int32.not_le.mp c)]
      exact Or.inl ⟨(_, (nI k, nI k), Q1, P2), rfl, rfl, w1, e6, f2.m_k, f2.m_w, Or.inr ⟨by omega, rfl⟩⟩
  · obtain ⟨a1, ⟨a2, a2'⟩, a3, a4⟩ := a
    obtain ⟨b0, b1, b2, b3, b4⟩ := hI
    have b1 : kq VC M a3 := b1
    have b2 : kp VT (si M2 0 0 0) a4 := b2
    have b3 : gi a4 0 52 = -1 := b3
    have b4 : (d + 1 = 0 ∧ a1 = -1) ∨ (0 < d + 1 ∧ a2 = a2') := b4
    have b5 : a2 = a2' := by
      rcases b4 with ⟨h1, -⟩ | ⟨-, h2⟩
      · omega
      · exact h2
    subst b5 e
    have rM := hM'.vt g b2 b3
    rw [b_X8_toProp_28, b_X9_toProp_34]
    try simp only []
    rw [if_pos (nI_lt (a := d) (b := d + 1) (by omega) (by omega)), if_pos (nI_lt (a := d) (b := d + 1) (by omega) (by omega))]
    unfold j_X8_toProp_116 j_X9_toProp_94
    rcases (show w = 0 ∨ w = 1 by omega) with rfl | rfl
    · rw [if_pos (by decide), if_pos (by decide)]
      exact ⟨_, _, rfl, rfl, rfl, rfl, ⟨A, g, hC.kq b1, rM⟩, (b2.1 0 0 (by unfold VT VM; omega)).trans h0⟩
    · rw [if_neg (by decide), if_neg (by decide)]
      exact ⟨_, _, rfl, rfl, rfl, rfl, ⟨A, g, hC.kq b1, rM⟩, (b2.1 0 0 (by unfold VT VM; omega)).trans h0⟩
end Q
