/-! Acts. -/
def bump (f : Nat → Int32) (k : Nat) (i : Nat) : Int32 := if i = k then f i + 1 else f i
section Q
variable {n : Nat} {A : Ab} {M M2 : Mem} {x1 x2 x3 : Int32}
theorem rf_good {f : Nat → Int32} (g : A.Good) : (A.setRf f).Good := ⟨g.g_t, g.g_n, g.g_d, g.g_a, g.g_s, g.g_i, g.g_b, g.g_bb⟩
theorem cRefuse {k : Nat} (hk : k < 3) (hC : RC A M) : ∃ M', f_X8_refuse n (nI k) M = some (-1, M') ∧ RC (A.setRf (bump A.rf k)) M' := by
  refine ⟨si M 1 k (A.rf k + 1), ?_, rc_setRf hC (kq.rf.si (V := VC_setRf) rfl _) (fun i hi => ?_)⟩
  · unfold f_X8_refuse
    rw [ck_pos (n_in hk (by decide)), ck_pos (n_in hk (by decide)), nI_clamp (by omega), hC.r_r k hk]
  · rw [gi_si]
    unfold bump
    by_cases c : i = k
    · subst c
      rw [if_pos ⟨rfl, rfl⟩, if_pos rfl]
    · rw [if_neg (by omega), if_neg c]
      exact hC.r_r i hi
theorem mRefuse {k : Nat} (hk : k < 3) (g : A.Good) (hM : RM A M2) : ∃ M', f_X9_refuses n (nI k) M2 = some (-1, M') ∧ RM (A.setRf (bump A.rf k)) M' ∧ gi M' 0 0 = gi M2 0 0 := by
  refine ⟨si M2 4 k (A.rf k + 1), ?_, rm_setRf g hM (kq.rf.si (Or.inl rfl) _) (fun i hi => ?_), ?_⟩
  · unfold f_X9_refuses
    rw [ck_pos (n_in hk (by decide)), ck_pos (n_in hk (by decide)), nI_clamp (by omega), hM.s_r k hk]
  · rw [gi_si]
    unfold bump
    by_cases c : i = k
    · subst c
      rw [if_pos ⟨rfl, rfl⟩, if_pos rfl]
    · rw [if_neg (by omega), if_neg c]
      exact hM.s_r i hi
  · rw [gi_si, if_neg (by omega)]
/-- both keep the act -/
theorem bothKeep (hn : 3000 < n) (g : A.Good) (hC : RC A M) (hM : RM A M2) : ∃ N N2, f_X1_keep n 34 4 M = some N ∧ f_X9_keeps n M2 = some N2 ∧ RC (A.setNA A.now (keepL A.acts A.now)) N ∧ RM (A.setNA A.now (keepL A.acts A.now)) N2 ∧ (A.setNA A.now (keepL A.acts A.now)).Good ∧ gi N2 0 0 = gi M2 0 0 := by
  obtain ⟨N, q1, a1, e1⟩ := cKeep (n := n) (by omega) g.g_n hC.r_n g.g_a hC.r_a
  obtain ⟨N2, q2, a2, e2⟩ := mKeep (n := n) hn g.g_n hM.s_n g.g_a hM.s_a
  refine ⟨N, N2, q1, q2, rcNA hC (e1.mono (fun t k ht => by unfold VA VC; omega)) (hC.r_n.kq e1 (fun t k _ _ => by omega)) a1, rmNA g hM (e2.mono (fun t k ht => by unfold VB VR; omega)) (hM.s_n.kq g.g_n e2 (fun k _ _ => by omega)) a2, na_good g g.g_n g.g_d (keep_good g.g_a g.g_n g.g_d), e2 0 0 (by omega)⟩
theorem rfQP {k : Nat} (hk : k < 3) (g : A.Good) (hC : RC A M) (hM : RM A M2) : QP (bd (f_X8_refuse n (nI k) M) (fun q1 => some (q1.1, q1.2))) (bd (f_X9_refuses n (nI k) M2) (fun q1 => some (q1.1, q1.2))) := by
  obtain ⟨N, q1, r1⟩ := cRefuse (n := n) hk hC
  obtain ⟨N2, q2, r2, -⟩ := mRefuse (n := n) hk g hM
  rw [q1, q2]
  exact ⟨_, N, N2, rfl, rfl, ⟨_, rf_good g, r1, r2⟩⟩
theorem qDays (hn : 3000 < n) (g : A.Good) (hC : RC A M) (hM : RM A M2) : QP (f_X8_days n x1 M) (f_X9_days n x1 M2) := by
  have hda := g.g_d
  have hM' := hM.thr g 0
  have no := rfQP (n := n) (k := 1) (by decide) g hC hM'
  unfold f_X8_days f_X9_days j_X8_days_26 j_X9_days_29
  have hd2 : gi (si M2 0 0 0) 12 (0 : Int32).toNatClampNeg = nI A.now.day := hM'.s_n.day
  by_cases c1 : x1 < (1 : Int32)
  · rw [if_pos c1, mWithin_no (Or.inl c1)]
    exact no
  · by_cases c2 : (20 : Int32) < x1
    · rw [if_neg c1, if_pos c2, mWithin_no (Or.inr c2)]
      exact no
    · have c6 : ¬ x1 < 0 := fun q => c1 (Int32.lt_trans q (by decide))
      obtain ⟨d, hj, rfl⟩ := nI_of c6
      have c4 := (nI_leI (b := 20) hj (by omega)).mp (Int32.not_lt.mp c2)
      have c5 : ¬ d < 1 := fun q => c1 ((nI_ltI (b := 1) hj (by omega)).mpr q)
      rw [if_neg c1, if_neg c2, mWithin_yes c1 c2]
      have ee : ∀ (X Y : Option (Int32 × Mem)), (bd (some ((1 : Int32), si M2 0 0 0)) (fun q4 => if q4.1 = 0 then X else Y)) = Y := fun _ _ => rfl
      simp only [bd]
      rw [if_neg (show ¬ (1 : Int32) = 0 by decide), hC.r_n.day, hd2, nI_add]
      by_cases c7 : A.now.day + d ≤ 9999
      · rw [if_pos (show nI (A.now.day + d) ≤ (9999 : Int32) from nI_le (b := 9999) c7 (by decide)), if_pos (show nI (A.now.day + d) ≤ (9999 : Int32) from nI_le (b := 9999) c7 (by decide))]
        obtain ⟨N, N2, q1, q2, rC, rM, g', h0⟩ := bothKeep hn g hC hM'
        rw [q1, q2]
        simp only []
        obtain ⟨j, cb⟩ := rC.cb g'
        have hjj := cb.b_jj
        refine qp_of ?_
        refine ok2_for (fun k (a : Mem × Mem) => (nI k, a.1)) (fun k (a : Mem × Mem) => (nI k, a.2)) d (fun k a => StC A.wd (A.tw.ahead A.wd A.now k) 4 a.1 ∧ TwC A.tw j a.1 ∧ same (dA 4 j) N a.1 ∧ StR A.wd (A.tw.ahead A.wd A.now k) 12 0 a.2 ∧ TwM A.wd A.tw a.2 ∧ kp (VM 0) N2 a.2) (fun k a hk hI => ?_) (fun a hI => ?_) n n 0 (N, N2) (by omega) (by omega) (by omega) ⟨cb.b_st, cb.b_tw, same.rf, rM.s_n, rM.s_t, kp.rf⟩
        · obtain ⟨b1, b2, b3, b4, b5, b6⟩ := hI
          have hd3 := ahead_day (T := A.tw) (wd := A.wd) (s := A.now) k
          have gk := ahead_good (T := A.tw) g.g_n k (by omega)
          have hj12 : gi a.1 0 12 = nI j := (b3.1 _ _ (by unfold dA; omega)).trans cb.b_j
          have hjn : (gi a.1 0 12).toNatClampNeg = j := by
            rw [hj12, nI_clamp (by omega)]
          obtain ⟨O1, p1, d1, d2, d3, -⟩ := cDay (n := n) (wind := A.tw.windOn (A.tw.ahead A.wd A.now k).day) (by omega) gk g.g_t (i := 4) (by omega) b1 b2
          obtain ⟨O2, p2, f1, f2, f3, -⟩ := mDay (n := n) (b := 0) (by omega) (by decide) gk g.g_t b4 b5 (Or.inl ⟨(b6.1 0 52 (by unfold VM; omega)).trans rM.s_w, rfl⟩)
          refine Or.inl ⟨(O1, O2), ?_, ?_, d1, d2, b3.tr d3, f1, f2, b6.tr f3⟩
          · rw [b_X8_days_45]
            try simp only []
            rw [if_neg (nI_ge hk (by omega)), hjn, ck_pos (by rcases hjj with rfl | rfl <;> decide), ck_pos (by rcases hjj with rfl | rfl <;> decide), b1.day, cWindOn g.g_t b2 (by omega)]
            simp only [bd]
            rw [p1, nI_1]
          · rw [b_X9_days_41]
            try simp only []
            rw [if_neg (nI_ge hk (by omega)), show (0 : Int32) = nI 0 from rfl, p2]
            simp only [bd]
            rw [nI_1]
        · obtain ⟨b1, b2, b3, b4, b5, b6⟩ := hI
          have hd3 := ahead_day (T := A.tw) (wd := A.wd) (s := A.now) d
          have gk := ahead_good (T := A.tw) g.g_n d (by omega)
          have hdd : gi a.2 12 (0 : Int32).toNatClampNeg = nI (A.tw.ahead A.wd A.now d).day := b4.day
          rw [b_X8_days_45, b_X9_days_41]
          try simp only []
          rw [if_pos (nI_le (Nat.le_refl _) (by omega)), if_pos (nI_le (Nat.le_refl _) (by omega)), b1.day, hdd]
          have e1 : kq VA N a.1 := b3.kq (fun t k ht => by unfold dA at ht; unfold VA VC; omega)
          have e2 : kq VB N2 a.2 := b6.kq (fun t k ht => by unfold VM at ht; unfold VB VR; omega)
          exact ⟨_, _, rfl, rfl, rfl, _, na_good g' gk (by omega) g'.g_a, rcNA rC e1 b1 (rC.r_a.kq (b3.kq (V := fun t _ => dA 4 j t) (fun _ _ q => q)) (fun t k h1 h2 => by unfold dA; omega)), rmNA g' rM e2 b4 (rM.s_a.kq g'.g_a (b6.kq (W := VM 0) (fun _ _ q => q)) (by unfold VM; omega) (fun k => by unfold VM; omega))⟩
      · rw [if_neg (show ¬ nI (A.now.day + d) ≤ (9999 : Int32) from nI_ge (a := 9999) (by omega) (by omega)), if_neg (show ¬ nI (A.now.day + d) ≤ (9999 : Int32) from nI_ge (a := 9999) (by omega) (by omega))]
        exact no
theorem qGive (hn : 3000 < n) (g : A.Good) (hC : RC A M) (hM : RM A M2) : QP (f_X8_give n x1 M) (f_X9_give n x1 M2) := by
  have hM' := hM.thr g 0
  have no := rfQP (n := n) (k := 1) (by decide) g hC hM'
  unfold f_X8_give f_X9_give j_X8_give_11
  by_cases c1 : x1 < (1 : Int32)
  · rw [if_pos c1, mWithin_no (Or.inl c1)]
    exact no
  · by_cases c2 : x1 ≤ (99 : Int32)
    · have c6 : ¬ x1 < 0 := fun q => c1 (Int32.lt_trans q (by decide))
      obtain ⟨d, hj, rfl⟩ := nI_of c6
      have c4 := (nI_leI (b := 99) hj (by omega)).mp c2
      rw [if_neg c1, if_pos c2, mWithin_yes c1 (Int32.not_lt.mpr c2)]
      simp only [bd]
      rw [if_neg (show ¬ (1 : Int32) = 0 by decide)]
      obtain ⟨N, N2, q1, q2, rC, rM, g', h0⟩ := bothKeep hn g hC hM'
      have hmo := g.g_n.h_money
      have hd2 : gi N2 12 (1 : Int32).toNatClampNeg = nI A.now.money := rM.s_n.money
      rw [q1, q2]
      simp only []
      rw [cReceive (wd := A.wd) (s := A.now) g.g_n rC.r_n (by omega), hd2, nI_add, mBounded, show bndI (nI (A.now.money + d)) 0 999 = nI (if 999 < A.now.money + d then 999 else A.now.money + d) from bnd_nat (hi := 999) (by omega) (by decide)]
      simp only []
      have m1 : (if 999 < A.now.money + d then 999 else A.now.money + d) ≤ 999 := by split <;> omega
      have gN := money_good (x := if 999 < A.now.money + d then 999 else A.now.money + d) g.g_n m1
      refine ⟨nI (if 999 < A.now.money + d then 999 else A.now.money + d), _, _, ?_, ?_, _, na_good g' gN g.g_d g'.g_a, rcNA rC (kq.rf.si (by unfold VA VC; omega) _) (rC.r_n.sMoney) (rC.r_a.kq (kq.rf.si (V := fun t _ => t = 4) rfl _) (fun t k h1 h2 => by omega)), rmNA g' rM (kq.rf.si (by unfold VB VR; omega) _) (rM.s_n.sMoney g.g_n) (rM.s_a.kq g'.g_a (kq.rf.si (V := fun t _ => t = 12) rfl _) (by omega) (fun k => by omega))⟩
      · rw [gi_si, if_pos ⟨rfl, rfl⟩]
      · rw [gi_si, if_pos ⟨rfl, rfl⟩]
        rfl
    · rw [if_neg c1, if_neg c2, mWithin_no (Or.inr (Int32.not_le.mp c2))]
      exact no
theorem qProp (hn : 3000 < n) (g : A.Good) (hC : RC A M) (hM : RM A M2) : QP (f_X8_prop n M) (f_X9_prop n M2) := by
  have hM' := hM.thr g 0
  have no := rfQP (n := n) (k := 1) (by decide) g hC hM'
  have hle := g.g_n.h_lean
  have hl : gi (si M2 0 0 0) 12 (2 : Int32).toNatClampNeg = nI A.now.lean := hM'.s_n.lean
  unfold f_X8_prop f_X9_prop
  rw [hC.r_n.lean, hl]
  by_cases c : A.now.lean = 0
  · rw [c, if_pos (by decide), if_pos (by decide)]
    exact no
  · have hne : ¬ nI A.now.lean = 0 := nI_ne0 (by omega) (by omega)
    obtain ⟨N, N2, q1, q2, rC, rM, g', h0⟩ := bothKeep hn g hC hM'
    rw [if_neg hne, if_neg hne, q1, q2]
    simp only [bd]
    have gN := lean_good (x := 0) g.g_n (by decide)
    refine ⟨nI A.now.lean, _, _, ?_, rfl, _, na_good g' gN g.g_d g'.g_a, rcNA rC (kq.rf.si (by unfold VA VC; omega) _) (rC.r_n.sLean (x := 0)) (rC.r_a.kq (kq.rf.si (V := fun t _ => t = 4) rfl _) (fun t k h1 h2 => by omega)), rmNA g' rM (kq.rf.si (by unfold VB VR; omega) _) (rM.s_n.sLean g.g_n (x := 0)) (rM.s_a.kq g'.g_a (kq.rf.si (V := fun t _ => t = 12) rfl _) (by omega) (fun k => by omega))⟩
    rw [show gi N 4 10 = nI A.now.lean from rC.r_n.lean]
    rfl
end Q
