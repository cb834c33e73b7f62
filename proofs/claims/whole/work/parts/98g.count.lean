/-! Parts, and what is counted. -/
section Gr
variable {wd : Nat} {s : Sp}
def Rch (s : Sp) (wd u v : Nat) : Prop := (s.rc wd 0 u 8).testBit v = true
theorem z0 (w : Nat) : (0 : Nat).testBit w = false := Nat.zero_testBit w
theorem rc_v {u v k : Nat} (g : s.Good wd) (hu : u < wd) (h : (s.rc wd 0 u k).testBit v = true) : v < wd := by
  by_cases c : v < wd
  · exact c
  · rw [bits_of_lt (rc_lt g hu k) (by omega)] at h
    cases h
theorem rc_tr {u v k : Nat} (g : s.Good wd) (hu : u < wd) (hv : v < wd) (h : (s.rc wd 0 u k).testBit v = true) : ∀ m x, (s.rc wd 0 v m).testBit x = true → (s.rc wd 0 u (k + m)).testBit x = true
  | 0, x, hx => by
    rw [pow_bit.mp hx]
    exact h
  | m + 1, x, hx => by
    have h1 := (rs_iff g (rc_lt g hv m)).mp hx
    rcases h1.2.2 with h2 | ⟨w, h2, h3, h4⟩
    · exact rc_sub g hu (z0 u) (rc_tr g hu hv h m x h2)
    · exact (rs_iff g (rc_lt g hu (k + m))).mpr ⟨h1.1, h1.2.1, Or.inr ⟨w, h2, rc_tr g hu hv h m w h3, h4⟩⟩
theorem Rch.tr {u v x : Nat} (g : s.Good wd) (hu : u < wd) (h : Rch s wd u v) (h2 : Rch s wd v x) : Rch s wd u x := rc_in8 g hu (z0 u) (rc_tr g hu (rc_v g hu h) h 8 x h2)
theorem rc_sy {u : Nat} (g : s.Good wd) (hu : u < wd) : ∀ k v, (s.rc wd 0 u k).testBit v = true → Rch s wd v u
  | 0, v, h => by
    have := pow_bit.mp h
    subst this
    exact rc_in8 (k := 0) g hu (z0 v) (pow_bit.mpr rfl)
  | k + 1, v, h => by
    have h1 := (rs_iff g (rc_lt g hu k)).mp h
    rcases h1.2.2 with h2 | ⟨w, h2, h3, h4⟩
    · exact rc_sy g hu k v h2
    · have h5 : (s.beside v).testBit w = true := by
        rw [← g.h_sym w v h2 h1.1]
        exact h4
      have h6 : Rch s wd v w := rc_in8 (k := 1) g h1.1 (z0 v) ((rs_iff g (rc_lt g h1.1 0)).mpr ⟨h2, z0 w, Or.inr ⟨v, h1.1, pow_bit.mpr rfl, h5⟩⟩)
      exact h6.tr g h1.1 (rc_sy g hu k w h3)
def newW (s : Sp) (wd w : Nat) : Bool := !anyN (fun u => (s.rc wd 0 u 8).testBit w) w
theorem cParts {n i : Nat} {M : Mem} (hn : 3000 < n) (g : s.Good wd) (h : StC wd s i M) : f_X5_parts n i M = some (nI (cntN (newW s wd) wd), M) := by
  have hw := g.h_wd
  have hp : 2 ^ wd ≤ 2 ^ 8 := Nat.pow_le_pow_right (by decide) hw
  unfold f_X5_parts
  obtain ⟨S, m, ⟨c1, c2⟩, ee⟩ := gl_k (body := b_X5_parts_6 n i) (fun k (S : Nat) => (nI S, nI (cntN (newW s wd) k), nI k, M)) wd (fun k S => S < 2 ^ wd ∧ ∀ v, S.testBit v = true ↔ ∃ u, u < k ∧ Rch s wd u v) (fun k S hk hI => by
    obtain ⟨c1, c2⟩ := hI
    have hb := (bit_if (S := S) (o := k) (by omega) (by omega)).2
    have hnew : newW s wd k = true ↔ S.testBit k = false := by
      unfold newW
      rw [Bool.not_eq_true', Bool.eq_false_iff, ne_eq, anyN_iff]
      constructor
      · intro h0
        cases e : S.testBit k with
        | false => rfl
        | true => exact absurd ((c2 k).mp e) h0
      · intro h0 h1
        rw [(c2 k).mpr h1] at h0
        cases h0
    rw [b_X5_parts_6]
    try simp only []
    rw [h.wards, if_neg (nI_ge hk (by omega))]
    unfold j_X5_parts_34
    by_cases c : S.testBit k = false
    · rw [if_pos (hb.mpr c), show (0 : Int32) = nI 0 from rfl, cReached (B := 0) (by omega) g h hk]
      simp only [bd]
      refine ⟨S ||| s.rc wd 0 k 8, ?_, Nat.or_lt_two_pow c1 (rc_lt g hk 8), fun v => ?_⟩
      · rw [nI_or, nI_1, nI_1, cntN, hnew.mpr c]
        rfl
      · rw [Nat.testBit_or, Bool.or_eq_true, c2 v]
        constructor
        · rintro (⟨u, h1, h2⟩ | h2)
          · exact ⟨u, by omega, h2⟩
          · exact ⟨k, by omega, h2⟩
        · rintro ⟨u, h1, h2⟩
          by_cases cu : u = k
          · subst cu
            exact Or.inr h2
          · exact Or.inl ⟨u, by omega, h2⟩
    · have c' : S.testBit k = true := by
        cases e : S.testBit k with
        | true => rfl
        | false => exact absurd e c
      have hn' : newW s wd k = false := by
        cases e : newW s wd k with
        | false => rfl
        | true => exact absurd (hnew.mp e) c
      rw [if_neg (fun q => c (hb.mp q))]
      refine ⟨S, ?_, c1, fun v => ?_⟩
      · rw [nI_1, cntN, hn']
        rfl
      · rw [c2 v]
        constructor
        · rintro ⟨u, h1, h2⟩
          exact ⟨u, by omega, h2⟩
        · rintro ⟨u, h1, h2⟩
          by_cases cu : u = k
          · subst cu
            obtain ⟨u', h3, h4⟩ := (c2 u).mp c'
            exact ⟨u', h3, h4.tr g (by omega) h2⟩
          · exact ⟨u, by omega, h2⟩) n 0 0 (by omega) (by omega) ⟨Nat.two_pow_pos wd, fun v => ⟨fun q => (by rw [Nat.zero_testBit] at q; cases q), fun ⟨u, hu, _⟩ => absurd hu (by omega)⟩⟩
  rw [show ((0 : Int32), (0 : Int32), (0 : Int32), M) = (nI 0, nI (cntN (newW s wd) 0), nI 0, M) from rfl, ee]
  refine gl_mr ?_
  rw [b_X5_parts_6]
  try simp only []
  rw [h.wards, if_pos (nI_le (Nat.le_refl _) (by omega))]
theorem mParts {n : Nat} {M : Mem} (hn : 3000 < n) (g : s.Good wd) (h : StR wd s 12 0 M) (hwd : gi M 0 1 = nI wd) : f_X9_parts n M = some (nI (cntN (newW s wd) wd), M) := by
  have hw := g.h_wd
  have hp : 2 ^ wd ≤ 2 ^ 8 := Nat.pow_le_pow_right (by decide) hw
  unfold f_X9_parts
  obtain ⟨u, m, -, ee⟩ := gl_k (body := b_X9_parts_4 n) (fun k (_ : Unit) => (nI (cntN (newW s wd) k), nI k, M)) wd (fun k _ => True) (fun k u hk _ => by
    refine ⟨(), ?_, trivial⟩
    have hl := rc_lt (B := 0) g hk 8
    have hpos := Nat.two_pow_pos k
    have hand : s.rc wd 0 k 8 &&& (2 ^ k - 1) = 0 ↔ newW s wd k = true := by
      unfold newW
      rw [Bool.not_eq_true', Bool.eq_false_iff, ne_eq, anyN_iff]
      constructor
      · intro h0
        rintro ⟨u, h1, h2⟩
        have h3 : (s.rc wd 0 k 8).testBit u = true := rc_sy g (by omega) 8 k h2
        have h4 : (s.rc wd 0 k 8 &&& (2 ^ k - 1)).testBit u = true := by
          rw [Nat.testBit_and, h3, Nat.testBit_two_pow_sub_one, decide_eq_true h1]
          rfl
        rw [h0, Nat.zero_testBit] at h4
        cases h4
      · intro h0
        apply Nat.eq_of_testBit_eq
        intro u
        rw [Nat.zero_testBit, Nat.testBit_and, Nat.testBit_two_pow_sub_one]
        by_cases c : u < k
        · cases e : (s.rc wd 0 k 8).testBit u with
          | false => rfl
          | true => exact absurd ⟨u, c, rc_sy g hk 8 u e⟩ h0
        · rw [decide_eq_false c, Bool.and_false]
    rw [b_X9_parts_4]
    try simp only []
    rw [hwd, if_neg (nI_ge hk (by omega)), show (0 : Int32) = nI 0 from rfl, mHanging (B := 0) (by omega) g h hwd hk (z0 k)]
    simp only [bd]
    rw [one_sh k (by omega), show nI (2 ^ k) - (1 : Int32) = nI (2 ^ k - 1) from pk_sub (b := 1) (by omega), nI_and]
    unfold j_X9_parts_33
    rw [cntN]
    by_cases c : s.rc wd 0 k 8 &&& (2 ^ k - 1) = 0
    · rw [if_pos (show nI (s.rc wd 0 k 8 &&& (2 ^ k - 1)) = nI 0 by rw [c]), hand.mp c, nI_1, nI_1]
      rfl
    · have hn' : newW s wd k = false := by
        cases e : newW s wd k with
        | false => rfl
        | true => exact absurd (hand.mpr e) c
      rw [if_neg (show ¬ nI (s.rc wd 0 k 8 &&& (2 ^ k - 1)) = nI 0 from fun q => c ((nI_and0 (by omega)).mp q)), hn', nI_add, nI_1]
      rfl) n 0 () (by omega) (by omega) trivial
  rw [show ((0 : Int32), (0 : Int32), M) = (nI (cntN (newW s wd) 0), nI 0, M) from rfl, ee]
  refine gl_mr ?_
  rw [b_X9_parts_4]
  try simp only []
  rw [hwd, if_pos (nI_le (Nat.le_refl _) (by omega))]
end Gr
section Q
variable {n : Nat} {A : Ab} {M M2 : Mem} {x1 x2 x3 x4 x5 : Int32}
theorem qCount (hn : 3000 < n) (g : A.Good) (hC : RC A M) (hM : RM A M2) : QQ k1 (f_X8_count n x1 M) (f_X9_count n x1 M2) := by
  have hM' := hM.thr g 0
  have h0 := thr0 M2
  have hh := g.g_n.h_hung
  have ha := g.g_n.h_all
  have hle := g.g_n.h_lean
  have hgr := g.g_t.h_ground
  rcases nI_cases (x := x1) 21 (by decide) with ⟨w, hw, rfl⟩ | ho
  · have pre : ∀ X : Int32 × Mem → Option (Int32 × Mem), (bd (f_X9_within n (nI w) (0 : Int32) (21 : Int32) (si M2 0 0 (0 : Int32))) (fun q1 => bd (f_X9_right n q1.1 (1 : Int32) q1.2) (fun q2 => if q2.1 = 0 then (some ((0 : Int32), q2.2)) else X q2))) = X (1, si M2 0 0 0) := fun X => by
      rw [mWithin_yes (show ¬ nI w < (0 : Int32) from nI_nlt (b := 0) (by omega) (by omega)) (show ¬ (21 : Int32) < nI w from nI_nlt (a := 21) (by omega) (by omega))]
      simp only [bd]
      rw [mRight_yes h0]
      rfl
    have fin : ∀ v : Int32, f_X8_count n (nI w) M = some (0, v, M) → f_X9_count n (nI w) M2 = some (v, si M2 0 0 0) → QQ k1 (f_X8_count n (nI w) M) (f_X9_count n (nI w) M2) := fun v e1 e2 => by
      rw [e1, e2]
      exact qq_yes g hC hM' h0 k1_00
    obtain ⟨j, cb⟩ := hC.cb g
    have hj := cb.b_jj
    have hjn : (gi M 0 12).toNatClampNeg = j := by
      rw [cb.b_j, nI_clamp (by omega)]
    have st := hC.r_n
    have sm := hM'.s_n
    have mw := hM'.s_t.wards
    have z0 : (0 : Int32).toNatClampNeg = 0 := rfl
    have z1 : (1 : Int32).toNatClampNeg = 1 := rfl
    have z2 : (2 : Int32).toNatClampNeg = 2 := rfl
    have u0 : gi (si M2 0 0 0) 12 (0 : Int32).toNatClampNeg = nI A.now.day := sm.day
    have u1 : gi (si M2 0 0 0) 12 (1 : Int32).toNatClampNeg = nI A.now.money := sm.money
    have u2 : gi (si M2 0 0 0) 12 (2 : Int32).toNatClampNeg = nI A.now.lean := sm.lean
    have u3 : gi (si M2 0 0 0) 12 (3 : Int32).toNatClampNeg = nI A.now.hung := sm.hung
    have u4 : gi (si M2 0 0 0) 12 (4 : Int32).toNatClampNeg = nI A.now.all := sm.all
    have u5 : gi (si M2 0 0 0) 12 (5 : Int32).toNatClampNeg = nI A.now.fell := sm.fell
    have mW : f_X9_weightOf n (0 : Int32) (si M2 0 0 0) = some (nI A.now.ws, si M2 0 0 0) := mWeight (b := 0) (by omega) (by decide) g.g_n sm
    have mS : f_X9_strengthOf n (0 : Int32) (si M2 0 0 0) = some (nI (A.now.fs A.wd / 10 + A.now.ms), si M2 0 0 0) := mStrength (b := 0) (by omega) (by decide) g.g_n sm mw
    have mD : f_X9_isDone n (0 : Int32) (si M2 0 0 0) = some (if A.now.hung < A.tw.ground then (0 : Int32) else 1, si M2 0 0 0) := mDone (b := 0) (by decide) g.g_n g.g_t sm hM'.s_t
    have mQ : f_X9_doubters n (0 : Int32) (si M2 0 0 0) = some (nI (A.now.dset A.wd), si M2 0 0 0) := mDoubters (b := 0) (by omega) (by decide) g.g_n sm mw
    rcases (show w = 0 ∨ w = 1 ∨ w = 2 ∨ w = 3 ∨ w = 4 ∨ w = 5 ∨ w = 6 ∨ w = 7 ∨ w = 8 ∨ w = 9 ∨ w = 10 ∨ w = 11 ∨ w = 12 ∨ w = 13 ∨ w = 14 ∨ w = 15 ∨ w = 16 ∨ w = 17 ∨ w = 18 ∨ w = 19 ∨ w = 20 ∨ w = 21 by omega) with rfl | rfl | rfl | rfl | rfl | rfl | rfl | rfl | rfl | rfl | rfl | rfl | rfl | rfl | rfl | rfl | rfl | rfl | rfl | rfl | rfl | rfl
    · refine fin (nI A.now.hung) ?_ ?_
      · unfold f_X8_count
        rw [if_pos (by decide), st.hung]
      · unfold f_X9_count
        rw [pre]
        try simp only []
        rw [if_pos (by decide), u3]
    · refine fin (nI A.now.all - nI A.now.hung) ?_ ?_
      · unfold f_X8_count
        rw [if_neg (by decide), if_pos (by decide), st.all, st.hung]
      · unfold f_X9_count
        rw [pre]
        try simp only []
        rw [if_neg (by decide), if_pos (by decide), u4, u3]
    · refine fin (nI A.wd) ?_ ?_
      · unfold f_X8_count
        rw [if_neg (by decide), if_neg (by decide), if_pos (by decide), st.wards]
      · unfold f_X9_count
        rw [pre]
        try simp only []
        rw [if_neg (by decide), if_neg (by decide), if_pos (by decide), mw]
    · refine fin (nI A.now.day) ?_ ?_
      · unfold f_X8_count
        rw [if_neg (by decide), if_neg (by decide), if_neg (by decide), if_pos (by decide), st.day]
      · unfold f_X9_count
        rw [pre]
        try simp only []
        rw [if_neg (by decide), if_neg (by decide), if_neg (by decide), if_pos (by decide), u0]
    · refine fin (nI A.now.money) ?_ ?_
      · unfold f_X8_count
        rw [if_neg (by decide), if_neg (by decide), if_neg (by decide), if_neg (by decide), if_pos (by decide), st.money]
      · unfold f_X9_count
        rw [pre]
        try simp only []
        rw [if_neg (by decide), if_neg (by decide), if_neg (by decide), if_neg (by decide), if_pos (by decide), u1]
    · refine fin (nI A.now.lean) ?_ ?_
      · unfold f_X8_count
        rw [if_neg (by decide), if_neg (by decide), if_neg (by decide), if_neg (by decide), if_neg (by decide), if_pos (by decide), st.lean]
      · unfold f_X9_count
        rw [pre]
        try simp only []
        rw [if_neg (by decide), if_neg (by decide), if_neg (by decide), if_neg (by decide), if_neg (by decide), if_pos (by decide), u2]
    · refine fin (nI A.now.ws) ?_ ?_
      · unfold f_X8_count
        rw [if_neg (by decide), if_neg (by decide), if_neg (by decide), if_neg (by decide), if_neg (by decide), if_neg (by decide), if_pos (by decide), cWeightHung (by omega) g.g_n st]
        rfl
      · unfold f_X9_count
        rw [pre]
        try simp only []
        rw [if_neg (by decide), if_neg (by decide), if_neg (by decide), if_neg (by decide), if_neg (by decide), if_neg (by decide), if_pos (by decide), mW]
        rfl
    · refine fin (nI (A.now.fs A.wd / 10 + A.now.ms)) ?_ ?_
      · unfold f_X8_count
        rw [if_neg (by decide), if_neg (by decide), if_neg (by decide), if_neg (by decide), if_neg (by decide), if_neg (by decide), if_neg (by decide), if_pos (by decide), cStrength (by omega) g.g_n st]
        rfl
      · unfold f_X9_count
        rw [pre]
        try simp only []
        rw [if_neg (by decide), if_neg (by decide), if_neg (by decide), if_neg (by decide), if_neg (by decide), if_neg (by decide), if_neg (by decide), if_pos (by decide), mS]
        rfl
    · refine fin (A.now.spare A.wd) ?_ ?_
      · unfold f_X8_count
        rw [if_neg (by decide), if_neg (by decide), if_neg (by decide), if_neg (by decide), if_neg (by decide), if_neg (by decide), if_neg (by decide), if_neg (by decide), if_pos (by decide), cSpare (by omega) g.g_n st]
        rfl
      · unfold f_X9_count
        rw [pre]
        try simp only []
        rw [if_neg (by decide), if_neg (by decide), if_neg (by decide), if_neg (by decide), if_neg (by decide), if_neg (by decide), if_neg (by decide), if_neg (by decide), if_pos (by decide), mS]
        simp only [bd]
        rw [mW]
        simp only []
        rw [u2, show (5 : Int32) = nI 5 from rfl, pk_div (by omega) (by decide) (by decide)]
        rfl
    · obtain ⟨N2, q2, e2, e3⟩ := mBears (n := n) (T := A.tw) hn (hM'.mb g)
      have e1 : f_X8_count n (nI 9) M = some (0, nI (A.now.brs A.wd (A.now.all - A.now.hung)), M) := by
        unfold f_X8_count
        rw [if_neg (by decide), if_neg (by decide), if_neg (by decide), if_neg (by decide), if_neg (by decide), if_neg (by decide), if_neg (by decide), if_neg (by decide), if_neg (by decide), if_pos (by decide), cBears hn g.g_n st]
        rfl
      have e4 : f_X9_count n (nI 9) M2 = some (nI (A.now.brs A.wd (A.now.all - A.now.hung)), N2) := by
        unfold f_X9_count
        rw [pre]
        try simp only []
        rw [if_neg (by decide), if_neg (by decide), if_neg (by decide), if_neg (by decide), if_neg (by decide), if_neg (by decide), if_neg (by decide), if_neg (by decide), if_neg (by decide), if_pos (by decide), q2]
        rfl
      rw [e1, e4]
      exact qq_yes g hC (hM'.vt g e2 e3) ((e2.1 0 0 (by unfold VT VM; omega)).trans h0) k1_00
    · refine fin (if A.now.hung < A.tw.ground then (0 : Int32) else 1) ?_ ?_
      · unfold f_X8_count
        rw [if_neg (by decide), if_neg (by decide), if_neg (by decide), if_neg (by decide), if_neg (by decide), if_neg (by decide), if_neg (by decide), if_neg (by decide), if_neg (by decide), if_neg (by decide), if_pos (by decide), hjn, ck_pos (by rcases hj with rfl | rfl <;> decide), st.hung, cb.b_tw.ground]
        by_cases c : A.now.hung < A.tw.ground
        · rw [if_pos (nI_lt c (by omega)), if_pos c]
        · rw [if_neg (nI_nlt (by omega) (by omega)), if_neg c]
      · unfold f_X9_count
        rw [pre]
        try simp only []
        rw [if_neg (by decide), if_neg (by decide), if_neg (by decide), if_neg (by decide), if_neg (by decide), if_neg (by decide), if_neg (by decide), if_neg (by decide), if_neg (by decide), if_neg (by decide), if_pos (by decide), mD]
        simp only [bd]
        by_cases c : A.now.hung < A.tw.ground
        · rw [if_pos c, if_pos rfl]
        · rw [if_neg c, if_neg (by decide)]
    · refine fin (nI A.now.fell) ?_ ?_
      · unfold f_X8_count
        rw [if_neg (by decide), if_neg (by decide), if_neg (by decide), if_neg (by decide), if_neg (by decide), if_neg (by decide), if_neg (by decide), if_neg (by decide), if_neg (by decide), if_neg (by decide), if_neg (by decide), if_pos (by decide), st.fell]
      · unfold f_X9_count
        rw [pre]
        try simp only []
        rw [if_neg (by decide), if_neg (by decide), if_neg (by decide), if_neg (by decide), if_neg (by decide), if_neg (by decide), if_neg (by decide), if_neg (by decide), if_neg (by decide), if_neg (by decide), if_neg (by decide), if_pos (by decide), u5]
    · refine fin (nI (cntN (newW A.now A.wd) A.wd)) ?_ ?_
      · unfold f_X8_count
        rw [if_neg (by decide), if_neg (by decide), if_neg (by decide), if_neg (by decide), if_neg (by decide), if_neg (by decide), if_neg (by decide), if_neg (by decide), if_neg (by decide), if_neg (by decide), if_neg (by decide), if_neg (by decide), if_pos (by decide), cParts hn g.g_n st]
        rfl
      · unfold f_X9_count
        rw [pre]
        try simp only []
        rw [if_neg (by decide), if_neg (by decide), if_neg (by decide), if_neg (by decide), if_neg (by decide), if_neg (by decide), if_neg (by decide), if_neg (by decide), if_neg (by decide), if_neg (by decide), if_neg (by decide), if_neg (by decide), if_pos (by decide), mParts hn g.g_n sm mw]
        rfl
    · refine fin (eU A.now A.wd 0 (A.now.ev A.wd (2 ^ A.wd / 2))) ?_ ?_
      · unfold f_X8_count
        rw [if_neg (by decide), if_neg (by decide), if_neg (by decide), if_neg (by decide), if_neg (by decide), if_neg (by decide), if_neg (by decide), if_neg (by decide), if_neg (by decide), if_neg (by decide), if_neg (by decide), if_neg (by decide), if_neg (by decide), if_pos (by decide)]
        have := cEvenU hn g.g_n st
        rw [cEven hn g.g_n st] at this ⊢
        simp only [bd] at this ⊢
        rw [this]
      · unfold f_X9_count
        rw [pre]
        try simp only []
        rw [if_neg (by decide), if_neg (by decide), if_neg (by decide), if_neg (by decide), if_neg (by decide), if_neg (by decide), if_neg (by decide), if_neg (by decide), if_neg (by decide), if_neg (by decide), if_neg (by decide), if_neg (by decide), if_neg (by decide), if_pos (by decide), mEven hn g.g_n sm mw]
        rfl
    · refine fin (eB (A.now.ev A.wd (2 ^ A.wd / 2))) ?_ ?_
      · unfold f_X8_count
        rw [if_neg (by decide), if_neg (by decide), if_neg (by decide), if_neg (by decide), if_neg (by decide), if_neg (by decide), if_neg (by decide), if_neg (by decide), if_neg (by decide), if_neg (by decide), if_neg (by decide), if_neg (by decide), if_neg (by decide), if_neg (by decide), if_pos (by decide), cEven hn g.g_n st]
        rfl
      · unfold f_X9_count
        rw [pre]
        try simp only []
        rw [if_neg (by decide), if_neg (by decide), if_neg (by decide), if_neg (by decide), if_neg (by decide), if_neg (by decide), if_neg (by decide), if_neg (by decide), if_neg (by decide), if_neg (by decide), if_neg (by decide), if_neg (by decide), if_neg (by decide), if_neg (by decide), if_pos (by decide), mEven hn g.g_n sm mw]
        rfl
    · refine fin (nI (A.now.dset A.wd)) ?_ ?_
      · unfold f_X8_count
        rw [if_neg (by decide), if_neg (by decide), if_neg (by decide), if_neg (by decide), if_neg (by decide), if_neg (by decide), if_neg (by decide), if_neg (by decide), if_neg (by decide), if_neg (by decide), if_neg (by decide), if_neg (by decide), if_neg (by decide), if_neg (by decide), if_neg (by decide), if_pos (by decide), cDoubters (by omega) g.g_n st]
        rfl
      · unfold f_X9_count
        rw [pre]
        try simp only []
        rw [if_neg (by decide), if_neg (by decide), if_neg (by decide), if_neg (by decide), if_neg (by decide), if_neg (by decide), if_neg (by decide), if_neg (by decide), if_neg (by decide), if_neg (by decide), if_neg (by decide), if_neg (by decide), if_neg (by decide), if_neg (by decide), if_neg (by decide), if_pos (by decide), mQ]
        rfl
    · obtain ⟨f, f1, f2, f3, f4⟩ := hC.r_a
      refine fin (nI A.acts.length) ?_ ?_
      · unfold f_X8_count
        rw [if_neg (by decide), if_neg (by decide), if_neg (by decide), if_neg (by decide), if_neg (by decide), if_neg (by decide), if_neg (by decide), if_neg (by decide), if_neg (by decide), if_neg (by decide), if_neg (by decide), if_neg (by decide), if_neg (by decide), if_neg (by decide), if_neg (by decide), if_neg (by decide), if_pos (by decide), f3]
      · unfold f_X9_count
        rw [pre]
        try simp only []
        rw [if_neg (by decide), if_neg (by decide), if_neg (by decide), if_neg (by decide), if_neg (by decide), if_neg (by decide), if_neg (by decide), if_neg (by decide), if_neg (by decide), if_neg (by decide), if_neg (by decide), if_neg (by decide), if_neg (by decide), if_neg (by decide), if_neg (by decide), if_neg (by decide), if_pos (by decide), hM'.s_a.1]
    · refine fin (nI A.seen.length) ?_ ?_
      · unfold f_X8_count
        rw [if_neg (by decide), if_neg (by decide), if_neg (by decide), if_neg (by decide), if_neg (by decide), if_neg (by decide), if_neg (by decide), if_neg (by decide), if_neg (by decide), if_neg (by decide), if_neg (by decide), if_neg (by decide), if_neg (by decide), if_neg (by decide), if_neg (by decide), if_neg (by decide), if_neg (by decide), if_pos (by decide), hC.r_s.1]
      · unfold f_X9_count
        rw [pre]
        try simp only []
        rw [if_neg (by decide), if_neg (by decide), if_neg (by decide), if_neg (by decide), if_neg (by decide), if_neg (by decide), if_neg (by decide), if_neg (by decide), if_neg (by decide), if_neg (by decide), if_neg (by decide), if_neg (by decide), if_neg (by decide), if_neg (by decide), if_neg (by decide), if_neg (by decide), if_neg (by decide), if_pos (by decide), hM'.s_s.1]
    · refine fin (nI A.tape.length) ?_ ?_
      · unfold f_X8_count
        rw [if_neg (by decide), if_neg (by decide), if_neg (by decide), if_neg (by decide), if_neg (by decide), if_neg (by decide), if_neg (by decide), if_neg (by decide), if_neg (by decide), if_neg (by decide), if_neg (by decide), if_neg (by decide), if_neg (by decide), if_neg (by decide), if_neg (by decide), if_neg (by decide), if_neg (by decide), if_neg (by decide), if_pos (by decide), hC.r_l]
      · unfold f_X9_count
        rw [pre]
        try simp only []
        rw [if_neg (by decide), if_neg (by decide), if_neg (by decide), if_neg (by decide), if_neg (by decide), if_neg (by decide), if_neg (by decide), if_neg (by decide), if_neg (by decide), if_neg (by decide), if_neg (by decide), if_neg (by decide), if_neg (by decide), if_neg (by decide), if_neg (by decide), if_neg (by decide), if_neg (by decide), if_neg (by decide), if_pos (by decide), hM'.s_l]
    · refine fin (A.rf 0) ?_ ?_
      · unfold f_X8_count
        rw [if_neg (by decide), if_neg (by decide), if_neg (by decide), if_neg (by decide), if_neg (by decide), if_neg (by decide), if_neg (by decide), if_neg (by decide), if_neg (by decide), if_neg (by decide), if_neg (by decide), if_neg (by decide), if_neg (by decide), if_neg (by decide), if_neg (by decide), if_neg (by decide), if_neg (by decide), if_neg (by decide), if_neg (by decide), if_pos (by decide), show gi M 1 (0 : Int32).toNatClampNeg = A.rf 0 from hC.r_r 0 (by decide)]
      · unfold f_X9_count
        rw [pre]
        try simp only []
        rw [if_neg (by decide), if_neg (by decide), if_neg (by decide), if_neg (by decide), if_neg (by decide), if_neg (by decide), if_neg (by decide), if_neg (by decide), if_neg (by decide), if_neg (by decide), if_neg (by decide), if_neg (by decide), if_neg (by decide), if_neg (by decide), if_neg (by decide), if_neg (by decide), if_neg (by decide), if_neg (by decide), if_neg (by decide), show nI 19 - (19 : Int32) = nI 0 from rfl, ck_pos (n_in (by decide) (by decide)), show gi (si M2 0 0 0) 4 (nI 0).toNatClampNeg = A.rf 0 from hM'.s_r 0 (by decide)]
    · refine fin (A.rf 1) ?_ ?_
      · unfold f_X8_count
        rw [if_neg (by decide), if_neg (by decide), if_neg (by decide), if_neg (by decide), if_neg (by decide), if_neg (by decide), if_neg (by decide), if_neg (by decide), if_neg (by decide), if_neg (by decide), if_neg (by decide), if_neg (by decide), if_neg (by decide), if_neg (by decide), if_neg (by decide), if_neg (by decide), if_neg (by decide), if_neg (by decide), if_neg (by decide), if_neg (by decide), if_pos (by decide), show gi M 1 (1 : Int32).toNatClampNeg = A.rf 1 from hC.r_r 1 (by decide)]
      · unfold f_X9_count
        rw [pre]
        try simp only []
        rw [if_neg (by decide), if_neg (by decide), if_neg (by decide), if_neg (by decide), if_neg (by decide), if_neg (by decide), if_neg (by decide), if_neg (by decide), if_neg (by decide), if_neg (by decide), if_neg (by decide), if_neg (by decide), if_neg (by decide), if_neg (by decide), if_neg (by decide), if_neg (by decide), if_neg (by decide), if_neg (by decide), if_neg (by decide), show nI 20 - (19 : Int32) = nI 1 from rfl, ck_pos (n_in (by decide) (by decide)), show gi (si M2 0 0 0) 4 (nI 1).toNatClampNeg = A.rf 1 from hM'.s_r 1 (by decide)]
    · refine fin (A.rf 2) ?_ ?_
      · unfold f_X8_count
        rw [if_neg (by decide), if_neg (by decide), if_neg (by decide), if_neg (by decide), if_neg (by decide), if_neg (by decide), if_neg (by decide), if_neg (by decide), if_neg (by decide), if_neg (by decide), if_neg (by decide), if_neg (by decide), if_neg (by decide), if_neg (by decide), if_neg (by decide), if_neg (by decide), if_neg (by decide), if_neg (by decide), if_neg (by decide), if_neg (by decide), if_neg (by decide), if_pos (by decide), show gi M 1 (2 : Int32).toNatClampNeg = A.rf 2 from hC.r_r 2 (by decide)]
      · unfold f_X9_count
        rw [pre]
        try simp only []
        rw [if_neg (by decide), if_neg (by decide), if_neg (by decide), if_neg (by decide), if_neg (by decide), if_neg (by decide), if_neg (by decide), if_neg (by decide), if_neg (by decide), if_neg (by decide), if_neg (by decide), if_neg (by decide), if_neg (by decide), if_neg (by decide), if_neg (by decide), if_neg (by decide), if_neg (by decide), if_neg (by decide), if_neg (by decide), show nI 21 - (19 : Int32) = nI 2 from rfl, ck_pos (n_in (by decide) (by decide)), show gi (si M2 0 0 0) 4 (nI 2).toNatClampNeg = A.rf 2 from hM'.s_r 2 (by decide)]
  · have e1 : f_X8_count n x1 M = some (1, 0, M) := by
      unfold f_X8_count
      rw [if_neg (show ¬ x1 = (0 : Int32) from ne_out (k := 0) (by decide) (by decide) ho), if_neg (show ¬ x1 = (1 : Int32) from ne_out (k := 1) (by decide) (by decide) ho), if_neg (show ¬ x1 = (2 : Int32) from ne_out (k := 2) (by decide) (by decide) ho), if_neg (show ¬ x1 = (3 : Int32) from ne_out (k := 3) (by decide) (by decide) ho), if_neg (show ¬ x1 = (4 : Int32) from ne_out (k := 4) (by decide) (by decide) ho), if_neg (show ¬ x1 = (5 : Int32) from ne_out (k := 5) (by decide) (by decide) ho), if_neg (show ¬ x1 = (6 : Int32) from ne_out (k := 6) (by decide) (by decide) ho), if_neg (show ¬ x1 = (7 : Int32) from ne_out (k := 7) (by decide) (by decide) ho), if_neg (show ¬ x1 = (8 : Int32) from ne_out (k := 8) (by decide) (by decide) ho), if_neg (show ¬ x1 = (9 : Int32) from ne_out (k := 9) (by decide) (by decide) ho), if_neg (show ¬ x1 = (10 : Int32) from ne_out (k := 10) (by decide) (by decide) ho), if_neg (show ¬ x1 = (11 : Int32) from ne_out (k := 11) (by decide) (by decide) ho), if_neg (show ¬ x1 = (12 : Int32) from ne_out (k := 12) (by decide) (by decide) ho), if_neg (show ¬ x1 = (13 : Int32) from ne_out (k := 13) (by decide) (by decide) ho), if_neg (show ¬ x1 = (14 : Int32) from ne_out (k := 14) (by decide) (by decide) ho), if_neg (show ¬ x1 = (15 : Int32) from ne_out (k := 15) (by decide) (by decide) ho), if_neg (show ¬ x1 = (16 : Int32) from ne_out (k := 16) (by decide) (by decide) ho), if_neg (show ¬ x1 = (17 : Int32) from ne_out (k := 17) (by decide) (by decide) ho), if_neg (show ¬ x1 = (18 : Int32) from ne_out (k := 18) (by decide) (by decide) ho), if_neg (show ¬ x1 = (19 : Int32) from ne_out (k := 19) (by decide) (by decide) ho), if_neg (show ¬ x1 = (20 : Int32) from ne_out (k := 20) (by decide) (by decide) ho), if_neg (show ¬ x1 = (21 : Int32) from ne_out (k := 21) (by decide) (by decide) ho)]
    have e2 : f_X9_count n x1 M2 = some (0, si (si M2 0 0 0) 0 0 1) := by
      unfold f_X9_count
      rw [mWithin_no (show x1 < 0 ∨ (21 : Int32) < x1 from ho)]
      simp only [bd]
      rw [mRight_no h0 (by decide)]
      rfl
    rw [e1, e2]
    exact qq_no g hC hM' k1_11 (by decide)
end Q
