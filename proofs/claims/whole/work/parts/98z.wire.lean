/-! All calls, one by one. -/
theorem rr_0 : RR mc0 mm0 := by
  refine ⟨(0, (9, 10, 0, fun _ => 0, fun _ => none), (0, 0, 0, 0, 0, 0, fun _ => 0, fun _ => 0, fun _ => 0, fun _ => 0), [], [], none, fun _ => 0, [], -1), ?_, ?_, ?_⟩
  · refine ⟨⟨by decide, by decide, by decide, fun k hk => absurd hk (Nat.not_lt_zero k), fun r _ => trivial⟩, ⟨by decide, by decide, by decide, by decide, by decide, by decide, by decide, fun c hc => absurd hc (Nat.not_lt_zero c), fun c hc => absurd hc (Nat.not_lt_zero c), fun c hc => absurd hc (Nat.not_lt_zero c), fun c hc => absurd hc (Nat.not_lt_zero c), fun v w hv => absurd hv (Nat.not_lt_zero v), fun c hc => absurd hc (Nat.not_lt_zero c)⟩, by decide, ⟨by decide, fun s hs => (by cases hs)⟩, ⟨by decide, fun s hs => (by cases hs)⟩, trivial, by decide, fun b hb => (by cases hb)⟩
  · refine ⟨⟨53, Or.inr rfl, rfl, rfl, ⟨rfl, rfl, rfl, fun k hk => absurd hk (Nat.not_lt_zero k), fun r hr => ?_⟩⟩, ⟨rfl, rfl, rfl, rfl, rfl, rfl, rfl, fun c hc => absurd hc (Nat.not_lt_zero c), fun c hc => absurd hc (Nat.not_lt_zero c), fun c hc => absurd hc (Nat.not_lt_zero c), fun c hc => absurd hc (Nat.not_lt_zero c)⟩, ⟨0, by decide, rfl, rfl, fun k s hk => (by cases hk)⟩, ⟨rfl, fun k p hk => (by cases hk)⟩, rfl, fun k _ => rfl, rfl, fun k b hk => (by cases hk), rfl⟩
    rcases (show r = 0 ∨ r = 1 ∨ r = 2 by omega) with rfl | rfl | rfl <;> rfl
  · refine ⟨⟨rfl, rfl, rfl, rfl, rfl, rfl, fun c hc => absurd hc (Nat.not_lt_zero c), fun c hc => absurd hc (Nat.not_lt_zero c), fun c hc => absurd hc (Nat.not_lt_zero c), fun c hc => absurd hc (Nat.not_lt_zero c)⟩, ⟨rfl, rfl, rfl, rfl, fun k hk => absurd hk (Nat.not_lt_zero k), fun r hr => ?_⟩, ⟨rfl, fun k s hk => (by cases hk)⟩, ⟨rfl, fun k p hk => (by cases hk)⟩, rfl, fun k _ => rfl, rfl, fun k b hk => (by cases hk), rfl, rfl⟩
    rcases (show r = 0 ∨ r = 1 ∨ r = 2 by omega) with rfl | rfl | rfl <;> rfl
theorem lw_st {n t : Nat} {x1 x2 : Int32} {M M2 : Mem} (h : QQ k1 (f_X8_street n x1 x2 (nI t) M) (f_X9_street n x1 x2 (nI t) M2)) : ∃ M9 M8, (bd (f_L_street n x1 x2 (nI t) M) (fun q2 => bd (f_X9_street n x1 x2 (nI t) M2) (fun q4 => bd (f_X9_thrown n q4.2) (fun q5 => if q5.1 = q2.1 then (if q2.1 = 0 then (if q4.1 = 0 then (if (lg_cmp (gj q2.2 60 0) (0 : Int64)) = 0 then (some (q2.2, q5.2)) else (none)) else (if (lg_cmp (gj q2.2 60 0) (1 : Int64)) = 0 then (some (q2.2, q5.2)) else (none))) else (some (q2.2, q5.2))) else (none))))) = some (M9, M8) ∧ RR M9 M8 := by
  obtain ⟨k, v, M', v', M2', h1, h2, h3, h5, h6⟩ := h
  unfold f_L_street f_X9_thrown
  rw [h1, h2]
  rcases h5 with ⟨rfl, hc⟩ | ⟨rfl, hc⟩
  · have h6 := h6 rfl
    subst h6
    simp only [bd]
    by_cases c : v' = 0
    · subst c
      refine ⟨sj M' 60 0 0, M2', ?_, h3.sj 0⟩
      show (if gi M2' 0 0 = 0 then _ else none) = _
      rw [if_pos hc]
      show (if lg_cmp (gj (sj M' 60 0 0) 60 0) 0 = 0 then _ else none) = _
      rw [gj_sj0, cmp_self, if_pos rfl]
      rfl
    · refine ⟨sj M' 60 0 1, M2', ?_, h3.sj 1⟩
      simp only [if_neg c, if_true]
      show (if gi M2' 0 0 = 0 then _ else none) = _
      rw [if_pos hc]
      show (if lg_cmp (gj (sj M' 60 0 1) 60 0) 1 = 0 then _ else none) = _
      rw [gj_sj0, cmp_self, if_pos rfl]
      rfl
  · refine ⟨M', M2', ?_, h3⟩
    simp only [bd]
    show (if gi M2' 0 0 = 1 then _ else none) = _
    rw [if_pos hc]
    rfl
theorem lw_all {n : Nat} (hn : 20000 < n) (hTown : ∀ (A : Ab) (M M2 : Mem) (x : Int32), A.Good → RC A M → RM A M2 → QQ k2 (f_X8_town n x M) (f_X9_town n x M2)) (xs : Nat → Int32) (x4 : Int32) (M M2 : Mem) (h : RR M M2) : ∃ M9 M8, lw_step n xs x4 M M2 = some (M9, M8) ∧ RR M9 M8 := by
  obtain ⟨A, g, hC, hM⟩ := h
  have hn3 : 3000 < n := by omega
  unfold lw_step
  by_cases c0 : (xs x4.toNatClampNeg &&& (63 : Int32)) = (0 : Int32)
  · rw [if_pos c0]
    exact lw_p (qFeed hn3 g hC hM)
  rw [if_neg c0]
  by_cases c1 : (xs x4.toNatClampNeg &&& (63 : Int32)) = (1 : Int32)
  · rw [if_pos c1]
    exact lw_2 (hTown A M M2 _ g hC hM)
  rw [if_neg c1]
  by_cases c2 : (xs x4.toNatClampNeg &&& (63 : Int32)) = (2 : Int32)
  · rw [if_pos c2]
    exact lw_p (qFault g hC hM)
  rw [if_neg c2]
  by_cases c3 : (xs x4.toNatClampNeg &&& (63 : Int32)) = (3 : Int32)
  · rw [if_pos c3]
    exact lw_1 (qCount hn3 g hC hM)
  rw [if_neg c3]
  by_cases c4 : (xs x4.toNatClampNeg &&& (63 : Int32)) = (4 : Int32)
  · rw [if_pos c4]
    exact lw_1 (qCourse g hC hM)
  rw [if_neg c4]
  by_cases c5 : (xs x4.toNatClampNeg &&& (63 : Int32)) = (5 : Int32)
  · rw [if_pos c5]
    exact lw_1 (qWard hn3 g hC hM)
  rw [if_neg c5]
  by_cases c6 : (xs x4.toNatClampNeg &&& (63 : Int32)) = (6 : Int32)
  · rw [if_pos c6]
    exact lw_p (qDays hn3 g hC hM)
  rw [if_neg c6]
  by_cases c7 : (xs x4.toNatClampNeg &&& (63 : Int32)) = (7 : Int32)
  · rw [if_pos c7]
    exact lw_p (qGive hn3 g hC hM)
  rw [if_neg c7]
  by_cases c8 : (xs x4.toNatClampNeg &&& (63 : Int32)) = (8 : Int32)
  · rw [if_pos c8]
    exact lw_1 (qPreach hn3 g hC hM)
  rw [if_neg c8]
  by_cases c9 : (xs x4.toNatClampNeg &&& (63 : Int32)) = (9 : Int32)
  · rw [if_pos c9]
    exact lw_1 (qMortar hn3 g hC hM)
  rw [if_neg c9]
  by_cases c10 : (xs x4.toNatClampNeg &&& (63 : Int32)) = (10 : Int32)
  · rw [if_pos c10]
    exact lw_p (qProp hn3 g hC hM)
  rw [if_neg c10]
  by_cases c11 : (xs x4.toNatClampNeg &&& (63 : Int32)) = (11 : Int32)
  · rw [if_pos c11]
    unfold lw_c11
    by_cases ct : xs (x4 + (3 : Int32)).toNatClampNeg = 0
    · simp only [if_pos ct]
      exact lw_st (t := 0) (qStreet (by decide) hn3 g hC hM)
    · simp only [if_neg ct]
      exact lw_st (t := 1) (qStreet (by decide) hn3 g hC hM)
  rw [if_neg c11]
  by_cases c12 : (xs x4.toNatClampNeg &&& (63 : Int32)) = (12 : Int32)
  · rw [if_pos c12]
    exact lw_p (qUndo hn3 g hC hM)
  rw [if_neg c12]
  by_cases c13 : (xs x4.toNatClampNeg &&& (63 : Int32)) = (13 : Int32)
  · rw [if_pos c13]
    exact lw_12 (qThen hn3 g hC hM)
  rw [if_neg c13]
  by_cases c14 : (xs x4.toNatClampNeg &&& (63 : Int32)) = (14 : Int32)
  · rw [if_pos c14]
    exact lw_12 (qWardThen hn3 g hC hM)
  rw [if_neg c14]
  by_cases c15 : (xs x4.toNatClampNeg &&& (63 : Int32)) = (15 : Int32)
  · rw [if_pos c15]
    exact lw_2 (qReaches hn3 g hC hM)
  rw [if_neg c15]
  by_cases c16 : (xs x4.toNatClampNeg &&& (63 : Int32)) = (16 : Int32)
  · rw [if_pos c16]
    exact lw_p (qFalls hn3 g hC hM)
  rw [if_neg c16]
  by_cases c17 : (xs x4.toNatClampNeg &&& (63 : Int32)) = (17 : Int32)
  · rw [if_pos c17]
    exact lw_12 (qLater hn3 g hC hM)
  rw [if_neg c17]
  by_cases c18 : (xs x4.toNatClampNeg &&& (63 : Int32)) = (18 : Int32)
  · rw [if_pos c18]
    exact lw_12 (qThrough hn3 g hC hM)
  rw [if_neg c18]
  by_cases c19 : (xs x4.toNatClampNeg &&& (63 : Int32)) = (19 : Int32)
  · rw [if_pos c19]
    exact lw_12 (qPious hn3 g hC hM)
  rw [if_neg c19]
  by_cases c20 : (xs x4.toNatClampNeg &&& (63 : Int32)) = (20 : Int32)
  · rw [if_pos c20]
    exact lw_1 (qFar hn3 g hC hM)
  rw [if_neg c20]
  by_cases c21 : (xs x4.toNatClampNeg &&& (63 : Int32)) = (21 : Int32)
  · rw [if_pos c21]
    exact lw_1 (qApart hn3 g hC hM)
  rw [if_neg c21]
  by_cases c22 : (xs x4.toNatClampNeg &&& (63 : Int32)) = (22 : Int32)
  · rw [if_pos c22]
    exact lw_2 (qToPreach hn3 g hC hM)
  rw [if_neg c22]
  by_cases c23 : (xs x4.toNatClampNeg &&& (63 : Int32)) = (23 : Int32)
  · rw [if_pos c23]
    exact lw_12 (qRow hn g hC hM)
  rw [if_neg c23]
  by_cases c24 : (xs x4.toNatClampNeg &&& (63 : Int32)) = (24 : Int32)
  · rw [if_pos c24]
    exact lw_2 (qToMortar hn3 g hC hM)
  rw [if_neg c24]
  by_cases c25 : (xs x4.toNatClampNeg &&& (63 : Int32)) = (25 : Int32)
  · rw [if_pos c25]
    exact lw_p (qSee g hC hM)
  rw [if_neg c25]
  by_cases c26 : (xs x4.toNatClampNeg &&& (63 : Int32)) = (26 : Int32)
  · rw [if_pos c26]
    obtain ⟨N, N2, q1, q2, rr⟩ := qForget (n := n) g hC hM
    unfold lw_c26
    rw [q1, q2]
    exact ⟨N, N2, rfl, rr⟩
  rw [if_neg c26]
  by_cases c27 : (xs x4.toNatClampNeg &&& (63 : Int32)) = (27 : Int32)
  · rw [if_pos c27]
    exact lw_1 (qHeavy hn3 g hC hM)
  rw [if_neg c27]
  by_cases c28 : (xs x4.toNatClampNeg &&& (63 : Int32)) = (28 : Int32)
  · rw [if_pos c28]
    exact lw_1 (qLook hn3 g hC hM)
  rw [if_neg c28]
  by_cases c29 : (xs x4.toNatClampNeg &&& (63 : Int32)) = (29 : Int32)
  · rw [if_pos c29]
    exact lw_2 (qGales hn3 g hC hM)
  rw [if_neg c29]
  by_cases c30 : (xs x4.toNatClampNeg &&& (63 : Int32)) = (30 : Int32)
  · rw [if_pos c30]
    exact lw_12 (qGame hn3 g hC hM)
  rw [if_neg c30]
  by_cases c31 : (xs x4.toNatClampNeg &&& (63 : Int32)) = (31 : Int32)
  · rw [if_pos c31]
    exact lw_12 (qYears hn3 g hC hM)
  rw [if_neg c31]
  by_cases c32 : (xs x4.toNatClampNeg &&& (63 : Int32)) = (32 : Int32)
  · rw [if_pos c32]
    exact lw_12 (qShare hn3 g hC hM)
  rw [if_neg c32]
  by_cases c33 : (xs x4.toNatClampNeg &&& (63 : Int32)) = (33 : Int32)
  · rw [if_pos c33]
    exact lw_2 (qHeaviest hn3 g hC hM)
  rw [if_neg c33]
  by_cases c34 : (xs x4.toNatClampNeg &&& (63 : Int32)) = (34 : Int32)
  · rw [if_pos c34]
    exact lw_12 (qToProp hn3 g hC hM)
  rw [if_neg c34]
  by_cases c35 : (xs x4.toNatClampNeg &&& (63 : Int32)) = (35 : Int32)
  · rw [if_pos c35]
    obtain ⟨N, N2, q1, q2, rr⟩ := qImage (n := n) hn3 g hC hM
    unfold lw_c35
    rw [q1, q2]
    exact ⟨N, N2, rfl, rr⟩
  rw [if_neg c35]
  by_cases c36 : (xs x4.toNatClampNeg &&& (63 : Int32)) = (36 : Int32)
  · rw [if_pos c36]
    exact lw_p (qRestore hn3 g hC hM)
  rw [if_neg c36]
  exact ⟨M, M2, rfl, A, g, hC, hM⟩
