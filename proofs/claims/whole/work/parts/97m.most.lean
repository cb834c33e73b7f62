/-! Who believes most, what is heaviest, who gives how much, all through. -/
def argm (f : Nat → Nat) : Nat → Option Nat
  | 0 => none
  | k + 1 => match argm f k with
    | none => some k
    | some b => if f b < f k then some k else some b
def eO : Option Nat → Int32
  | none => -1
  | some b => nI b
theorem argm_lt {f : Nat → Nat} : ∀ {k b : Nat}, argm f k = some b → b < k
  | 0, b, h => by cases h
  | k + 1, b, h => by
    rw [argm] at h
    cases hk : argm f k with
    | none =>
      rw [hk] at h
      cases h
      omega
    | some c =>
      rw [hk] at h
      have h1 := argm_lt hk
      have h : (if f c < f k then some k else some c) = some b := h
      by_cases c2 : f c < f k
      · rw [if_pos c2] at h
        cases h
        omega
      · rw [if_neg c2] at h
        cases h
        omega
theorem argm_none {f : Nat → Nat} : ∀ {k : Nat}, argm f k = none → k = 0
  | 0, _ => rfl
  | k + 1, h => by
    rw [argm] at h
    cases hk : argm f k with
    | none => rw [hk] at h; cases h
    | some c =>
      rw [hk] at h
      have h : (if f c < f k then some k else some c) = none := h
      split at h <;> cases h
section C
variable {n i wd : Nat} {M : Mem} {s : Sp}
theorem cMostFaithful (hn : 100 < n) (g : s.Good wd) (h : StC wd s i M) : f_X4_mostFaithful n i M = some (eO (argm s.faith wd), M) := by
  have h1 := g.h_wd
  refine is_ok ?_
  unfold f_X4_mostFaithful
  refine ok_for (fun k (_ : Unit) => (eO (argm s.faith k), (match argm s.faith k with | none => (-1 : Int32) | some b => nI (s.faith b)), nI k, M)) wd (fun k _ => True) (fun k a hk _ => ?_) (fun a _ => ?_) n 0 () (by omega) (by omega) trivial
  · simp only [b_X4_mostFaithful_6, h.wards]
    rw [if_neg (nI_ge hk (by omega)), ck_pos (n_in (by omega) (by decide)), ck_pos (n_in (by omega) (by decide)), nI_clamp (by omega), h.faith k hk]
    unfold j_X4_mostFaithful_33
    have hfk := g.h_faith k hk
    cases e : argm s.faith k with
    | none =>
      try simp only []
      have c : ¬ nI (s.faith k) ≤ (-1 : Int32) := by
        rw [Int32.le_iff_toInt_le, nI_toInt (by omega), show (-1 : Int32).toInt = -1 from rfl]
        omega
      rw [if_neg c]
      refine ok_inl ⟨(), ?_, trivial⟩
      simp only [argm, e, eO, nI_1]
    | some b =>
      have hb := argm_lt e
      have hfb := g.h_faith b (by omega)
      try simp only []
      by_cases c : s.faith b < s.faith k
      · rw [if_neg (nI_ge c (by omega))]
        refine ok_inl ⟨(), ?_, trivial⟩
        simp only [argm, e, if_pos c, eO, nI_1]
      · rw [if_pos (nI_le (by omega) (by omega))]
        refine ok_inl ⟨(), ?_, trivial⟩
        simp only [argm, e, if_neg c, eO, nI_1]
  · simp only [b_X4_mostFaithful_6, h.wards]
    exact ok_ite (fun c => ok_mr (ok_some rfl)) (fun c => absurd (nI_le (Nat.le_refl _) (by omega)) c)
theorem cHeaviest (hn : 100 < n) (g : s.Good wd) (h : StC wd s i M) : f_X4_heaviestHung n i M = some (eO (argm s.weight s.hung), M) := by
  have h1 := g.h_hung
  have h2 := g.h_all
  refine is_ok ?_
  unfold f_X4_heaviestHung
  refine ok_for (fun k (_ : Unit) => (eO (argm s.weight k), (match argm s.weight k with | none => (0 : Int32) | some b => nI (s.weight b)), nI k, M)) s.hung (fun k _ => True) (fun k a hk _ => ?_) (fun a _ => ?_) n 0 () (by omega) (by omega) trivial
  · simp only [b_X4_heaviestHung_6, h.hung]
    rw [if_neg (nI_ge hk (by omega)), ck_pos (n_in (by omega) (by decide)), ck_pos (n_in (by omega) (by decide)), nI_clamp (by omega), h.weight k (by omega)]
    unfold j_X4_heaviestHung_33
    have hfk := g.h_weight k (by omega)
    cases e : argm s.weight k with
    | none =>
      try simp only []
      rw [if_neg (show ¬ nI (s.weight k) ≤ 0 from nI_nle (by omega) (by omega))]
      refine ok_inl ⟨(), ?_, trivial⟩
      simp only [argm, e, eO, nI_1]
    | some b =>
      have hb := argm_lt e
      have hfb := g.h_weight b (by omega)
      try simp only []
      by_cases c : s.weight b < s.weight k
      · rw [if_neg (nI_ge c (by omega))]
        refine ok_inl ⟨(), ?_, trivial⟩
        simp only [argm, e, if_pos c, eO, nI_1]
      · rw [if_pos (nI_le (by omega) (by omega))]
        refine ok_inl ⟨(), ?_, trivial⟩
        simp only [argm, e, if_neg c, eO, nI_1]
  · simp only [b_X4_heaviestHung_6, h.hung]
    exact ok_ite (fun c => ok_mr (ok_some rfl)) (fun c => absurd (nI_le (Nat.le_refl _) (by omega)) c)
theorem cGave {f : Nat → Nat} (hn : 100 < n) (g : s.Good wd) (h : StC wd s i M) (hf : ∀ w, w < wd → gi M (i + 5) w = nI (f w)) : f_X4_gaveTogether n i M = some (nI (sumN f wd), M) := by
  have h1 := g.h_wd
  refine is_ok ?_
  unfold f_X4_gaveTogether
  refine ok_for (fun k (_ : Unit) => (nI (sumN f k), nI k, M)) wd (fun k _ => True) (fun k a hk _ => ?_) (fun a _ => ?_) n 0 () (by omega) (by omega) trivial
  · simp only [b_X4_gaveTogether_4, h.wards]
    rw [if_neg (nI_ge hk (by omega)), ck_pos (n_in (by omega) (by decide)), nI_clamp (by omega), hf k hk]
    refine ok_inl ⟨(), ?_, trivial⟩
    simp only [nI_add, nI_1, sumN]
  · simp only [b_X4_gaveTogether_4, h.wards]
    exact ok_ite (fun c => ok_mr (ok_some rfl)) (fun c => absurd (nI_le (Nat.le_refl _) (by omega)) c)
end C
theorem mDoubters {n b wd : Nat} {M : Mem} {s : Sp} (hn : 1000 < n) (hb : b ≤ 54) (g : s.Good wd) (h : StR wd s 12 b M) (hwd : gi M 0 1 = nI wd) : f_X9_doubters n (nI b) M = some (nI (s.dset wd), M) := by
  have h1 := g.h_wd
  refine is_ok ?_
  unfold f_X9_doubters
  refine ok_for (fun k (_ : Unit) => (nI (s.dset k), nI k, M)) wd (fun k _ => True) (fun k a hk _ => ?_) (fun a _ => ?_) n 0 () (by omega) (by omega) trivial
  · simp only [b_X9_doubters_4, hwd]
    rw [if_neg (nI_ge hk (by omega)), nA_38, nI_add, ck_pos (n_in (by omega) (by decide)), nI_clamp (by omega), h.faith k hk]
    have hf := g.h_faith k hk
    unfold j_X9_doubters_36
    by_cases c : s.faith k < 10
    · rw [if_neg (show ¬ (10 : Int32) ≤ nI (s.faith k) from nI_ge (b := 10) c (by decide)), one_sh k (by omega)]
      refine ok_inl ⟨(), ?_, trivial⟩
      simp only [nI_1, Sp.dset, if_pos c, nI_or]
    · rw [if_pos (show (10 : Int32) ≤ nI (s.faith k) from nI_le (a := 10) (by omega) (by omega))]
      refine ok_inl ⟨(), ?_, trivial⟩
      rw [show (0 : Int32) = nI 0 from rfl, nI_or, Nat.or_zero]
      simp only [nI_1, Sp.dset, if_neg c]
  · simp only [b_X9_doubters_4, hwd]
    exact ok_ite (fun c => ok_mr (ok_some rfl)) (fun c => absurd (nI_le (Nat.le_refl _) (by omega)) c)
section Q
variable {n : Nat} {A : Ab} {M M2 : Mem} {x1 x2 x3 : Int32}
theorem qLater (hn : 3000 < n) (g : A.Good) (hC : RC A M) (hM : RM A M2) : QQ k12 (f_X8_later n x1 x2 M) (f_X9_later n x1 x2 M2) := by
  have hda := g.g_d
  have hM' := hM.thr g 0
  have h0 := thr0 M2
  unfold f_X8_later f_X9_later
  refine qq_what (m := 1) (by decide) g hC hM' h0 k12_11 (fun w hw e => ?_)
  dsimp only
  refine qq_from0 g hC hM' h0 k12_22 (by decide) (fun d hd e2 => ?_)
  dsimp only
  obtain ⟨j, cb⟩ := hC.cb g
  obtain ⟨N1, q1, c1⟩ := cStart (n := n) cb kq.rf
  obtain ⟨N2, q2, c2⟩ := cGo (n := n) (d := d) (by omega) (by omega) c1 (by omega)
  obtain ⟨N3, q3, c3⟩ := mGoesTo (n := n) (d := d) (by omega) (by omega) (hM'.mb g) kp.rf hM'.s_w
  have rC := hC.ct c2
  have rM := hM'.mt g c3
  have t3 := c3.thr.trans h0
  have g3 := c3.m_g
  have h1 := g3.h_wd
  subst e2
  rw [q1]
  simp only [bd]
  rw [q2, q3]
  try simp only []
  have hl : gl (b_X9_later_36 n x2) n ((-1 : Int32), (0 : Int32), N3) = j_X9_later_81 n x2 (eO (argm (A.tw.ahead A.wd A.now d).faith A.wd)) N3 := by
    obtain ⟨u, m, -, ee⟩ := gl_k (body := b_X9_later_36 n x2) (fun k (_ : Unit) => (eO (argm (A.tw.ahead A.wd A.now d).faith k), nI k, N3)) A.wd (fun k _ => True) (fun k u hk _ => by
      refine ⟨(), ?_, trivial⟩
      rw [b_X9_later_36]
      simp only [c3.m_tw.wards]
      rw [if_neg (nI_ge hk (by omega))]
      unfold j_X9_later_72 j_X9_later_75
      cases e : argm (A.tw.ahead A.wd A.now d).faith k with
      | none =>
        rw [if_pos (show eO none = (-1 : Int32) from rfl)]
        simp only [argm, e, eO, nI_1]
      | some b =>
        have hb := argm_lt e
        have hfb := g3.h_faith b (by omega)
        have hfk := g3.h_faith k hk
        have p1 := c3.faith hk
        have p2 := c3.faith (w := b) (by omega)
        rw [show eO (some b) = nI b from rfl, if_neg (nI_nm1 (by omega)), ck_pos p1.1, ck_pos p2.1, p1.2, p2.2]
        by_cases c : (A.tw.ahead A.wd A.now d).faith b < (A.tw.ahead A.wd A.now d).faith k
        · rw [if_neg (nI_ge c (by omega))]
          simp only [argm, e, if_pos c, eO, nI_1]
        · rw [if_pos (nI_le (by omega) (by omega))]
          simp only [argm, e, if_neg c, eO, nI_1]) n 0 () (by omega) (by omega) trivial
    rw [show ((-1 : Int32), (0 : Int32), N3) = (eO (argm (A.tw.ahead A.wd A.now d).faith 0), nI 0, N3) from rfl, ee]
    refine gl_mr ?_
    rw [b_X9_later_36]
    simp only [c3.m_tw.wards]
    rw [if_pos (nI_le (Nat.le_refl _) (by omega))]
  rw [hl]
  unfold j_X9_later_81
  subst e
  rcases (show w = 0 ∨ w = 1 by omega) with rfl | rfl
  · rw [if_pos (by decide), if_pos (by decide), cDoubters (by omega) c2.c_g c2.c_st, show (54 : Int32) = nI 54 from rfl, mDoubters (by omega) (by decide) g3 c3.m_st c3.m_tw.wards]
    exact qq_yes g rC rM t3 k12_00
  · rw [if_neg (by decide), if_neg (by decide), cMostFaithful (by omega) c2.c_g c2.c_st]
    exact qq_yes g rC rM t3 k12_00
theorem qHeaviest (hn : 3000 < n) (g : A.Good) (hC : RC A M) (hM : RM A M2) : QQ k2 (f_X8_heaviest n x1 M) (f_X9_heaviest n x1 M2) := by
  have hda := g.g_d
  have hM' := hM.thr g 0
  have h0 := thr0 M2
  unfold f_X8_heaviest f_X9_heaviest
  refine qq_from0 g hC hM' h0 k2_21 (by decide) (fun d hd e2 => ?_)
  dsimp only
  obtain ⟨j, cb⟩ := hC.cb g
  obtain ⟨N1, q1, c1⟩ := cStart (n := n) cb kq.rf
  obtain ⟨N2, q2, c2⟩ := cGo (n := n) (d := d) (by omega) (by omega) c1 (by omega)
  obtain ⟨N3, q3, c3⟩ := mGoesTo (n := n) (d := d) (by omega) (by omega) (hM'.mb g) kp.rf hM'.s_w
  have rC := hC.ct c2
  have rM := hM'.mt g c3
  have t3 := c3.thr.trans h0
  have g3 := c3.m_g
  have h1 := g3.h_hung
  have h2 := g3.h_all
  subst e2
  rw [q1]
  simp only [bd]
  rw [q2, q3]
  try simp only []
  have hl : gl (b_X9_heaviest_26 n) n ((-1 : Int32), (0 : Int32), N3) = some (eO (argm (A.tw.ahead A.wd A.now d).weight (A.tw.ahead A.wd A.now d).hung), N3) := by
    obtain ⟨u, m, -, ee⟩ := gl_k (body := b_X9_heaviest_26 n) (fun k (_ : Unit) => (eO (argm (A.tw.ahead A.wd A.now d).weight k), nI k, N3)) (A.tw.ahead A.wd A.now d).hung (fun k _ => True) (fun k u hk _ => by
      refine ⟨(), ?_, trivial⟩
      rw [b_X9_heaviest_26]
      simp only [c3.hung]
      rw [if_neg (nI_ge hk (by omega))]
      unfold j_X9_heaviest_63 j_X9_heaviest_65
      cases e : argm (A.tw.ahead A.wd A.now d).weight k with
      | none =>
        rw [if_pos (show eO none = (-1 : Int32) from rfl)]
        simp only [argm, e, eO, nI_1]
      | some b =>
        have hb := argm_lt e
        have hfb := g3.h_weight b (by omega)
        have hfk := g3.h_weight k (by omega)
        have p1 := c3.weight (c := k) (by omega)
        have p2 := c3.weight (c := b) (by omega)
        rw [show eO (some b) = nI b from rfl, if_neg (nI_nm1 (by omega)), ck_pos p1.1, ck_pos p2.1, p1.2, p2.2]
        by_cases c : (A.tw.ahead A.wd A.now d).weight b < (A.tw.ahead A.wd A.now d).weight k
        · rw [if_neg (nI_ge c (by omega))]
          simp only [argm, e, if_pos c, eO, nI_1]
        · rw [if_pos (nI_le (by omega) (by omega))]
          simp only [argm, e, if_neg c, eO, nI_1]) n 0 () (by omega) (by omega) trivial
    rw [show ((-1 : Int32), (0 : Int32), N3) = (eO (argm (A.tw.ahead A.wd A.now d).weight 0), nI 0, N3) from rfl, ee]
    refine gl_mr ?_
    rw [b_X9_heaviest_26]
    simp only [c3.hung]
    rw [if_pos (nI_le (Nat.le_refl _) (by omega))]
  rw [hl, cHeaviest (by omega) c2.c_g c2.c_st]
  exact qq_yes g rC rM t3 k2_00
end Q
