/-! Restore, course, ward. -/
section Q
variable {n : Nat} {A : Ab} {M M2 : Mem} {x1 x2 x3 x4 x5 : Int32}
theorem qRestore (hn : 3000 < n) (g : A.Good) (hC : RC A M) (hM : RM A M2) : QP (f_X8_restore n M) (f_X9_restore n M2) := by
  have hM' := hM.thr g 0
  have iC := hC.r_i
  have iM := hM'.s_i
  have iG := g.g_i
  unfold f_X8_restore f_X9_restore
  cases hA : A.img with
  | none =>
    rw [hA] at iC iM
    have iC : gi M 0 14 = 0 := iC
    have iM : gi (si M2 0 0 0) 0 59 = 0 := iM
    rw [iC, iM, if_pos rfl, if_pos rfl]
    exact ⟨_, _, _, rfl, rfl, _, g, hC, hM'⟩
  | some p =>
    obtain ⟨s, l, q⟩ := p
    rw [hA] at iC iM iG
    obtain ⟨u1, u2, u3, u4⟩ := iC
    obtain ⟨v1, v2, v3, v4⟩ := iM
    obtain ⟨g1, g2, g3, g4⟩ := iG
    rw [u1, v1, if_neg (by decide), if_neg (by decide)]
    have im : (A.setAll s l q).Good := ⟨g.g_t, g1, g2, g3, g4, g.g_i, g.g_b, g.g_bb⟩
    have s1 : StC A.wd s 4 (cpS 4 22 M) := cpS_st (by omega) g1 u2
    have e1 : kq (fun t _ => 4 ≤ t ∧ t ≤ 8) M (cpS 4 22 M) := cpS_same.kq (fun t k ht => by omega)
    obtain ⟨a2, e2⟩ := cpT_ac (a := 34) (a1 := 36) (M := cpS 4 22 M) (by omega) g3 (u3.kq e1 (fun t k _ _ => by omega))
    obtain ⟨a3, e3⟩ := cpE_se (u := 38) (u1 := 41) (M := cpT 34 36 (cpS 4 22 M)) (by omega) g4 ((u4.kq e1 (fun t k _ _ => by omega)).kq e2 (fun t k _ _ => by omega))
    have rC : RC (A.setAll s l q) (cpE 38 41 (cpT 34 36 (cpS 4 22 M))) := rc_setAll hC (((e1.mono (fun t k ht => by unfold VC_setAll; omega)).tr (e2.mono (fun t k ht => by unfold VC_setAll; omega))).tr (e3.mono (fun t k ht => by unfold VC_setAll; omega))) ((s1.kq e2 (fun t k _ _ => by omega)).kq e3 (fun t k _ _ => by omega)) (a2.kq e3 (fun t k _ _ => by omega)) a3
    have x61 : gi (si (si M2 0 0 0) 0 46 (gi (si M2 0 0 0) 0 60)) 0 61 = gi (si M2 0 0 0) 0 61 := by rw [gi_si, if_neg (by omega)]
    have k1 : kq (fun t k => t = 0 ∧ (k = 46 ∨ k = 54)) (si M2 0 0 0) (si (si (si M2 0 0 0) 0 46 (gi (si M2 0 0 0) 0 60)) 0 54 (gi (si M2 0 0 0) 0 61)) := (kq.rf.si (by omega) _).si (by omega) _
    obtain ⟨N, m, ⟨b1, b2⟩, ee⟩ := gl_k (body := b_X9_restore_32 n) (fun k (M' : Mem) => (nI k, M')) 54 (fun k M' => (∀ p, p < k → gi M' 12 (0 + p) = gi (si M2 0 0 0) 21 (0 + p)) ∧ kq (fun t _ => t = 12) (si (si (si M2 0 0 0) 0 46 (gi (si M2 0 0 0) 0 60)) 0 54 (gi (si M2 0 0 0) 0 61)) M') (fun k M' hk hI => by
      obtain ⟨b1, b2⟩ := hI
      refine ⟨si M' 12 k (gi (si M2 0 0 0) 21 k), ?_, fun p hp => ?_, b2.si rfl _⟩
      · rw [b_X9_restore_32]
        try simp only []
        rw [if_neg (show ¬ (54 : Int32) ≤ nI k from nI_ge (b := 54) hk (by decide)), ck_pos (n_in (by omega) (by decide)), ck_pos (n_in (by omega) (by decide)), nI_clamp (by omega), b2 21 k (by omega), k1 21 k (by omega), nI_1]
      · rw [gi_si, Nat.zero_add]
        by_cases c : p = k
        · subst c
          rw [if_pos ⟨rfl, rfl⟩]
        · rw [if_neg (by omega)]
          have := b1 p (by omega)
          rw [Nat.zero_add] at this
          exact this) n 0 _ (by omega) (by omega) ⟨fun p hp => absurd hp (by omega), kq.rf⟩
    obtain ⟨N1, p1, c1, d1⟩ := mCopies (n := n) (n1 := 2160) (r1 := 22) (r2 := 13) (M2 := N) (by omega) (by decide) (by decide)
    obtain ⟨N2, p2, c2, d2⟩ := mCopies (n := n) (n1 := 16) (r1 := 23) (r2 := 18) (M2 := N1) (by omega) (by decide) (by decide)
    have d1' : kq (fun t _ => t = 13) N N1 := d1.kq (fun _ _ q => q)
    have d2' : kq (fun t _ => t = 18) N1 N2 := d2.kq (fun _ _ q => q)
    have s2 : StR A.wd s 12 0 N := v2.copy g1 b1
    have s3 : StR A.wd s 12 0 N2 := (s2.kq g1 d1' (fun k _ _ => by omega)).kq g1 d2' (fun k _ _ => by omega)
    have z : ∀ k, gi N2 0 k = gi (si (si (si M2 0 0 0) 0 46 (gi (si M2 0 0 0) 0 60)) 0 54 (gi (si M2 0 0 0) 0 61)) 0 k := fun k => by rw [d2' 0 k (by omega), d1' 0 k (by omega), b2 0 k (by omega)]
    have s4 : ActM A.wd l 13 46 N2 := ActM.cp (M := si M2 0 0 0) g3 v3 (by rw [z 46, gi_si, if_neg (by omega), gi_si, if_pos ⟨rfl, rfl⟩]) (fun p hp => by rw [d2' 13 p (by omega), c1 p hp, b2 22 p (by omega), k1 22 p (by omega)])
    have s5 : SeM q 18 54 N2 := SeM.cp (M := si M2 0 0 0) g4 v4 (by rw [z 54, gi_si, if_pos ⟨rfl, rfl⟩]) (fun p hp => by rw [c2 p hp, d1' 23 p (by omega), b2 23 p (by omega), k1 23 p (by omega)])
    have rM : RM (A.setAll s l q) N2 := rm_setAll g hM' ((((k1.mono (fun t k ht => by unfold VM_setAll; omega)).tr (b2.mono (fun t k ht => by unfold VM_setAll; omega))).tr (d1'.mono (fun t k ht => by unfold VM_setAll; omega))).tr (d2'.mono (fun t k ht => by unfold VM_setAll; omega))) s3 s4 s5
    refine ⟨1, _, N2, ?_, ?_, _, im, rC, rM⟩
    · rw [cCopy_is]
      simp only [bd]
      rw [cActs_is]
      simp only []
      rw [cSeen_is]
    · rw [x61, show ∀ X : Mem, ((0 : Int32), X) = (nI 0, X) from fun _ => rfl, ee]
      refine gl_mr ?_
      rw [b_X9_restore_32]
      try simp only []
      rw [if_pos (show (54 : Int32) ≤ nI 54 by decide)]
      unfold j_X9_restore_56
      rw [p1]
      simp only [bd]
      rw [p2]
theorem nI_cases {x : Int32} (m : Nat) (hm : m < 1000) : (∃ w, w ≤ m ∧ x = nI w) ∨ (x < 0 ∨ nI m < x) := by
  by_cases c : x < 0
  · exact Or.inr (Or.inl c)
  · by_cases c2 : x ≤ nI m
    · obtain ⟨w, hj, rfl⟩ := nI_of c
      exact Or.inl ⟨w, (nI_leI hj (by omega)).mp c2, rfl⟩
    · exact Or.inr (Or.inr (Int32.not_le.mp c2))
theorem ne_out {x : Int32} {m k : Nat} (hm : m < 1000) (hk : k ≤ m) (h : x < 0 ∨ nI m < x) : ¬ x = nI k := fun e => by
  subst e
  rcases h with h | h
  · exact nI_nlt (b := 0) (by omega) (by omega) h
  · exact nI_nlt (a := m) (by omega) (by omega) h
theorem mWhat_no {m : Nat} (h0 : gi M2 0 0 = 0) (h : x1 < 0 ∨ nI m < x1) : f_X9_isWhat n x1 (nI m) M2 = some (0, si M2 0 0 1) := by
  unfold f_X9_isWhat
  rw [mWithin_no h]
  exact rt_no h0 (by decide) rfl
theorem mWhat_yes {m w : Nat} (h0 : gi M2 0 0 = 0) (hm : m < 1000) (hw : w ≤ m) : f_X9_isWhat n (nI w) (nI m) M2 = some (1, M2) := by
  unfold f_X9_isWhat
  rw [mWithin_yes (show ¬ nI w < (0 : Int32) from nI_nlt (b := 0) (by omega) (by omega)) (nI_nlt (by omega) (by omega))]
  exact rt_yes h0 rfl
theorem qCourse (g : A.Good) (hC : RC A M) (hM : RM A M2) : QQ k1 (f_X8_course n x1 x2 M) (f_X9_course n x1 x2 M2) := by
  have hM' := hM.thr g 0
  have h0 := thr0 M2
  have hh := g.g_n.h_hung
  have ha := g.g_n.h_all
  have hu : gi (si M2 0 0 0) 12 (4 : Int32).toNatClampNeg = nI A.now.all := hM'.s_n.all
  have hv : gi (si M2 0 0 0) 12 (3 : Int32).toNatClampNeg = nI A.now.hung := hM'.s_n.hung
  have no : j_X9_course_24 n x1 x2 (si M2 0 0 0) = some (0, si (si M2 0 0 0) 0 0 1) := by
    unfold j_X9_course_24 j_X9_course_25
    rw [mRight_no h0 (by decide)]
    rfl
  unfold f_X8_course f_X9_course j_X8_course_15
  rw [hC.r_n.all, hu]
  by_cases c1 : x1 < 0
  · rw [if_pos c1, if_pos c1, no]
    exact qq_no g hC hM' k1_11 (by decide)
  · obtain ⟨c, hj, rfl⟩ := nI_of c1
    by_cases c2 : c < A.now.all
    · have i1 : inb ((6 : Int32) + nI c) 108 ∧ ((6 : Int32) + nI c).toNatClampNeg = 0 + 6 + c := by
        rw [show (6 : Int32) + nI c = nI (6 + c) from nI_add 6 c, nI_clamp (by omega)]
        exact ⟨n_in (by omega) (by decide), by omega⟩
      have i2 : inb ((22 : Int32) + nI c) 108 ∧ ((22 : Int32) + nI c).toNatClampNeg = 0 + 22 + c := by
        rw [show (22 : Int32) + nI c = nI (22 + c) from nI_add 22 c, nI_clamp (by omega)]
        exact ⟨n_in (by omega) (by decide), by omega⟩
      have f1 : gi M 5 c = nI (A.now.weight c) := hC.r_n.weight c c2
      have f2 : gi M 6 c = nI (A.now.mortar c) := hC.r_n.mortar c c2
      have fin : ∀ v : Int32, QQ k1 (some (0, v, M)) (some (v, si M2 0 0 0)) := fun v => qq_yes g hC hM' h0 k1_00
      rw [if_neg c1, if_pos (nI_lt c2 (by omega)), if_neg c1, if_neg (nI_ge c2 (by omega))]
      unfold j_X9_course_25
      rw [mRight_yes h0]
      simp only [bd]
      rw [if_neg (show ¬ (1 : Int32) = 0 by decide), show (2 : Int32) = nI 2 from rfl]
      rcases nI_cases (x := x2) 2 (by decide) with ⟨w, hw, rfl⟩ | ho
      · rw [mWhat_yes h0 (by decide) hw]
        simp only []
        rcases (show w = 0 ∨ w = 1 ∨ w = 2 by omega) with rfl | rfl | rfl
        · rw [if_pos (by decide), if_neg (by decide), if_pos (by decide), ck_pos (n_in (by omega) (by decide)), nI_clamp (by omega), f1, ck_pos i1.1, i1.2, hM'.s_n.weight c c2]
          exact fin _
        · rw [if_neg (by decide), if_pos (by decide), if_neg (by decide), if_neg (by decide), if_pos (by decide), ck_pos (n_in (by omega) (by decide)), nI_clamp (by omega), f2, ck_pos i2.1, i2.2, hM'.s_n.mortar c c2]
          exact fin _
        · rw [if_neg (by decide), if_neg (by decide), if_pos (by decide), hC.r_n.hung]
          by_cases c3 : A.now.hung ≤ c
          · rw [if_pos (nI_le c3 (by omega)), if_neg (by decide), if_neg (by decide), if_neg (by decide), hv, if_pos (nI_le c3 (by omega))]
            exact fin _
          · rw [if_neg (nI_ge (by omega) (by omega)), if_neg (by decide), if_neg (by decide), if_neg (by decide), hv, if_neg (nI_ge (by omega) (by omega))]
            exact fin _
      · rw [mWhat_no h0 ho, if_neg (show ¬ x2 = (0 : Int32) from ne_out (k := 0) (by decide) (by decide) ho), if_neg (show ¬ x2 = (1 : Int32) from ne_out (k := 1) (by decide) (by decide) ho), if_neg (show ¬ x2 = nI 2 from ne_out (k := 2) (by decide) (by decide) ho)]
        exact qq_no g hC hM' k1_11 (by decide)
    · rw [if_neg c1, if_neg (nI_nlt (by omega) (by omega)), if_neg c1, if_pos (nI_le (by omega) (by omega)), no]
      exact qq_no g hC hM' k1_11 (by decide)
theorem qWard (hn : 3000 < n) (g : A.Good) (hC : RC A M) (hM : RM A M2) : QQ k1 (f_X8_ward n x1 x2 M) (f_X9_ward n x1 x2 M2) := by
  have hM' := hM.thr g 0
  have h0 := thr0 M2
  have hwd := g.g_n.h_wd
  unfold f_X8_ward f_X9_ward
  refine qq_ward g hC hM' h0 k1_11 (fun w hw e => ?_)
  dsimp only
  subst e
  have i1 : inb ((38 : Int32) + nI w) 108 ∧ ((38 : Int32) + nI w).toNatClampNeg = 0 + 38 + w := by
    rw [show (38 : Int32) + nI w = nI (38 + w) from nI_add 38 w, nI_clamp (by omega)]
    exact ⟨n_in (by omega) (by decide), by omega⟩
  have i2 : inb ((46 : Int32) + nI w) 108 ∧ ((46 : Int32) + nI w).toNatClampNeg = 0 + 46 + w := by
    rw [show (46 : Int32) + nI w = nI (46 + w) from nI_add 46 w, nI_clamp (by omega)]
    exact ⟨n_in (by omega) (by decide), by omega⟩
  have f1 : gi M 7 w = nI (A.now.faith w) := hC.r_n.faith w hw
  have f2 : gi M 8 w = nI (A.now.beside w) := hC.r_n.beside w hw
  have fin : ∀ v : Int32, QQ k1 (some (0, v, M)) (some (v, si M2 0 0 0)) := fun v => qq_yes g hC hM' h0 k1_00
  rw [show (3 : Int32) = nI 3 from rfl]
  rcases nI_cases (x := x2) 3 (by decide) with ⟨u, hu, rfl⟩ | ho
  · rw [mWhat_yes h0 (by decide) hu]
    simp only [bd]
    rcases (show u = 0 ∨ u = 1 ∨ u = 2 ∨ u = 3 by omega) with rfl | rfl | rfl | rfl
    · rw [if_pos (by decide), if_neg (by decide), if_pos (by decide), ck_pos (n_in (by omega) (by decide)), nI_clamp (by omega), f1, ck_pos i1.1, i1.2, hM'.s_n.faith w hw]
      exact fin _
    · rw [if_neg (by decide), if_pos (by decide), if_neg (by decide), if_neg (by decide), if_pos (by decide), ck_pos (n_in (by omega) (by decide)), nI_clamp (by omega), f2, ck_pos i2.1, i2.2, hM'.s_n.beside w hw]
      exact fin _
    · rw [if_neg (by decide), if_neg (by decide), if_pos (by decide), if_neg (by decide), if_neg (by decide), if_neg (by decide), if_pos (by decide), cDoubters (by omega) g.g_n hC.r_n]
      simp only []
      rw [cDoubt g.g_n hC.r_n hw, show f_X9_doubtOf n (0 : Int32) (nI w) (si M2 0 0 0) = some (nI (A.now.doubt A.wd w), si M2 0 0 0) from mDoubt (n := n) (b := 0) (by omega) (by decide) g.g_n hM'.s_n hM'.s_t.wards hw]
      exact fin _
    · obtain ⟨j, cb⟩ := hC.cb g
      have hj := cb.b_jj
      have hjn : (gi M 0 12).toNatClampNeg = j := by
        rw [cb.b_j, nI_clamp (by omega)]
      obtain ⟨N1, q1, e1⟩ := cGift (n := n) (d := A.now.doubt A.wd w) (by omega) g.g_n g.g_t hw (i := 4) (by omega) cb.b_st cb.b_tw
      obtain ⟨N2, q2, e2⟩ := mGives (n := n) (b := 0) (by omega) (by decide) g.g_n g.g_t hM'.s_n hM'.s_t hw
      rw [if_neg (by decide), if_neg (by decide), if_neg (by decide), if_pos (by decide), if_neg (by decide), if_neg (by decide), if_neg (by decide), if_neg (by decide), hjn, ck_pos (by rcases hj with rfl | rfl <;> decide), cDoubters (by omega) g.g_n hC.r_n]
      simp only []
      rw [cDoubt g.g_n hC.r_n hw]
      simp only []
      rw [q1, show f_X9_givesBy n (0 : Int32) (nI w) (si M2 0 0 0) = some (A.tw.gift A.now w (A.now.doubt A.wd w), N2) from q2]
      refine qq_yes g (hC.kq (e1.kq (fun t k ht => by unfold scr at ht; unfold VC; omega))) (hM'.kq g (e2.kq (fun t k ht => by unfold scm at ht; unfold VR; omega))) ?_ k1_00
      exact (e2.1 0 0 (by unfold scm; omega)).trans h0
  · rw [mWhat_no h0 ho, if_neg (show ¬ x2 = (0 : Int32) from ne_out (k := 0) (by decide) (by decide) ho), if_neg (show ¬ x2 = (1 : Int32) from ne_out (k := 1) (by decide) (by decide) ho), if_neg (show ¬ x2 = (2 : Int32) from ne_out (k := 2) (by decide) (by decide) ho), if_neg (show ¬ x2 = nI 3 from ne_out (k := 3) (by decide) (by decide) ho)]
    exact qq_no g hC hM' k1_11 (by decide)
end Q
