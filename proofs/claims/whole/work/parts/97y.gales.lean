/-! Years, gales. -/
section Q
variable {n : Nat} {A : Ab} {M M2 : Mem} {x1 x2 x3 x4 x5 : Int32}
theorem qYears (hn : 3000 < n) (g : A.Good) (hC : RC A M) (hM : RM A M2) : QQ k12 (f_X8_years n x1 x2 x3 M) (f_X9_years n x1 x2 x3 M2) := by
  have hda := g.g_d
  have hM' := hM.thr g 0
  have h0 := thr0 M2
  unfold f_X8_years f_X9_years
  refine qq_what (m := 2) (by decide) g hC hM' h0 k12_11 (fun u hu e => ?_)
  dsimp only
  refine qq_from0 g hC hM' h0 k12_22 (by decide) (fun d hd e2 => ?_)
  dsimp only
  subst e2
  obtain ⟨j, cb⟩ := hC.cb g
  have mb := hM'.mb g
  obtain ⟨N1, q1, c1⟩ := cStart (n := n) cb kq.rf
  obtain ⟨N2, q2, c2⟩ := mStart (n := n) (by omega) mb kp.rf
  rw [hM'.s_w] at c2
  rw [q1, q2]
  simp only [bd]
  refine qq_pq k12_00 ?_
  refine ok2_for (fun k (a : (Int32 × Int32) × Sp × Mem × Mem) => (a.1.1, a.1.2, nI k, a.2.2.1)) (fun k (a : (Int32 × Int32) × Sp × Mem × Mem) => (nI k, a.2.2.2)) d (fun k a => CT A.wd j A.tw M a.2.1 a.2.2.1 ∧ (∃ gv, MT A.wd A.tw (si M2 0 0 0) (-1) a.1.1 gv a.2.1 a.2.2.2) ∧ gi a.2.2.2 0 58 = a.1.2 ∧ a.2.1.day = A.now.day + k) (fun k a hk hI => ?_) (fun a hI => ?_) n n 0 ((0, x1), A.now, N1, si N2 0 58 x1) (by omega) (by omega) (by omega) ⟨c1, ⟨_, c2.s58⟩, by rw [gi_si, if_pos ⟨rfl, rfl⟩], rfl⟩
  · obtain ⟨⟨a1, a2⟩, s, a3, a4⟩ := a
    obtain ⟨b1, ⟨gv, b2⟩, b3, b4⟩ := hI
    have b1 : CT A.wd j A.tw M s a3 := b1
    have b2 : MT A.wd A.tw (si M2 0 0 0) (-1) a1 gv s a4 := b2
    have b3 : gi a4 0 58 = a2 := b3
    have b4 : s.day = A.now.day + k := b4
    obtain ⟨l1, h1⟩ : ∃ l, nxs a2 = l := ⟨_, rfl⟩
    obtain ⟨l2, h2⟩ : ∃ l, nxs l1 = l := ⟨_, rfl⟩
    obtain ⟨l3, h3⟩ : ∃ l, nxs l2 = l := ⟨_, rfl⟩
    obtain ⟨va, ha⟩ : ∃ v, drw l1 = v := ⟨_, rfl⟩
    obtain ⟨vb, hb⟩ : ∃ v, drw l2 = v := ⟨_, rfl⟩
    obtain ⟨vc, hc⟩ : ∃ v, drw l3 = v := ⟨_, rfl⟩
    obtain ⟨O1, p1, d1⟩ := cChance (n := n) b1 h1 h2 h3 ha hb hc
    obtain ⟨O2, p2, d2, d3⟩ := mHappens (n := n) b2 b3 h1 h2 h3 ha hb hc
    have hday := (lk_good (wd := A.wd) (s := s) (a := va) (b := vb) (c := vc) (l1 := l1) (l2 := l2) (l3 := l3) b1.c_g).2
    obtain ⟨P1, r1, f1, -⟩ := cTrialDay (n := n) (by omega) d1 (by omega)
    obtain ⟨P2, r2, f2, -⟩ := mTrialDay (n := n) (by omega) d2 (by omega)
    have hseed : gi P2 0 58 = (s.lk A.wd va vb vc l1 l2 l3).2 := by
      obtain ⟨P3, r3, -, -, r4, -⟩ := mDay (n := n) (b := 54) (by omega) (by decide) d2.m_g d2.m_t d2.m_st d2.m_tw (Or.inl ⟨d2.m_w, rfl⟩)
      have e3 : P2 = P3 := by
        have := r2.symm.trans r3
        injection this
      rw [e3, r4.1 0 58 (by unfold VM; omega)]
      exact d3
    refine Or.inl ⟨((a1 + nI (A.tw.nxt A.wd (s.lk A.wd va vb vc l1 l2 l3).1).fell, (s.lk A.wd va vb vc l1 l2 l3).2), A.tw.nxt A.wd (s.lk A.wd va vb vc l1 l2 l3).1, P1, P2), ?_, ?_, f1, ⟨_, f2⟩, hseed, ?_⟩
    · rw [b_X8_years_24]
      try simp only []
      rw [if_neg (nI_ge hk (by omega)), p1]
      simp only [bd]
      rw [r1]
      simp only []
      rw [f1.c_st.fell, nI_1]
    · rw [b_X9_years_38]
      try simp only []
      rw [if_neg (nI_ge hk (by omega)), p2]
      simp only [bd]
      rw [r2]
      simp only []
      rw [nI_1]
    · show (A.tw.nxt A.wd (s.lk A.wd va vb vc l1 l2 l3).1).day = A.now.day + (k + 1)
      rw [nxt_day, hday, b4]
      omega
  · obtain ⟨⟨a1, a2⟩, s, a3, a4⟩ := a
    obtain ⟨b1, ⟨gv, b2⟩, b3, b4⟩ := hI
    have b1 : CT A.wd j A.tw M s a3 := b1
    have b2 : MT A.wd A.tw (si M2 0 0 0) (-1) a1 gv s a4 := b2
    subst e
    have rr : RR a3 a4 := ⟨A, g, hC.ct b1, hM'.mt g b2⟩
    have t0 := b2.thr.trans h0
    rw [b_X8_years_24, b_X9_years_38]
    try simp only []
    rw [if_pos (nI_le (Nat.le_refl _) (by omega)), if_pos (nI_le (Nat.le_refl _) (by omega))]
    unfold j_X8_years_63 j_X9_years_60
    have ff : ∀ v : Int32, ∃ x y, mr (some ((0 : Nat), v, a3)) = (some (.inr x) : Option ((Int32 × Int32 × Int32 × Mem) ⊕ Rx)) ∧ mr (some (v, a4)) = (some (.inr y) : Option ((Int32 × Mem) ⊕ (Int32 × Mem))) ∧ PQ x y := fun v => ⟨_, _, rfl, rfl, rfl, rfl, rr, t0⟩
    rcases (show u = 0 ∨ u = 1 ∨ u = 2 by omega) with rfl | rfl | rfl
    · rw [if_pos (by decide), if_pos (by decide), b1.c_st.hung, b2.hung]
      exact ff _
    · rw [if_neg (by decide), if_pos (by decide), if_neg (by decide), if_pos (by decide), b2.m_fa]
      exact ff _
    · rw [if_neg (by decide), if_neg (by decide), if_neg (by decide), if_neg (by decide), cFaithTogether (by omega) b1.c_g b1.c_st, b2.m_tw.wards, show (54 : Int32) = nI 54 from rfl, mFaith (by omega) (by decide) b2.m_g b2.m_st]
      exact ff _
end Q
def gwi (set i : Nat) : Nat := if set.testBit i then 9 else 0
def Tw.gale (T : Tw) (wd : Nat) (s : Sp) (set : Nat) : Nat → Sp
  | 0 => s
  | k + 1 => T.day wd (gwi set k) (T.gale wd s set k)
theorem gale_day {T : Tw} {wd set : Nat} {s : Sp} : ∀ k, (T.gale wd s set k).day = s.day + k
  | 0 => rfl
  | k + 1 => by rw [Tw.gale, day_day, gale_day k]; omega
def Tw.gfell (T : Tw) (wd : Nat) (s : Sp) (set : Nat) : Nat → Nat
  | 0 => 0
  | k + 1 => T.gfell wd s set k + (T.gale wd s set (k + 1)).fell
def gch (x2 : Int32) (set : Nat) : Nat → Int32
  | 0 => 1
  | k + 1 => gch x2 set k * (if set.testBit k then x2 else (10 : Int32) - x2)
theorem gfell_mono {T : Tw} {wd set : Nat} {s : Sp} {a : Nat} : ∀ b, a ≤ b → T.gfell wd s set a ≤ T.gfell wd s set b
  | 0, h => by rw [show a = 0 by omega]; exact Nat.le_refl _
  | b + 1, h => by
    by_cases c : a = b + 1
    · rw [c]; exact Nat.le_refl _
    · have := gfell_mono (T := T) (wd := wd) (set := set) (s := s) (a := a) b (by omega)
      rw [Tw.gfell]
      omega
theorem gale_good {T : Tw} {wd set : Nat} {s : Sp} (g : s.Good wd) : ∀ k, s.day + k ≤ 20000 → (T.gale wd s set k).Good wd
  | 0, _ => g
  | k + 1, h => by
    have := gale_day (T := T) (wd := wd) (set := set) (s := s) k
    exact day_good (gale_good g k (by omega)) (by omega)
section G
variable {n wd j d set : Nat} {T : Tw} {s : Sp} {M0 M : Mem}
theorem cStands (hn : 3000 < n) (cb : CB wd j T s M0) (e : kq VC M0 M) (hset : set < 256) (hd : d ≤ 5) : ∃ M', f_X8_standsInGales n (nI set) (nI d) M = some (if T.gfell wd s set d = 0 then (1 : Int32) else 0, M') ∧ kq VC M0 M' := by
  have hda := cb.b_d
  obtain ⟨N1, q1, c1⟩ := cStart (n := n) cb e
  unfold f_X8_standsInGales
  rw [q1]
  simp only [bd]
  have key : ok (fun r : Int32 × Mem => r.1 = (if T.gfell wd s set d = 0 then (1 : Int32) else 0) ∧ kq VC M0 r.2) (gl (b_X8_standsInGales_6 n (nI set) (nI d)) n ((0 : Int32), N1)) := by
    refine ok_for (fun k (a : Mem) => (nI k, a)) d (fun k a => CT wd j T M0 (T.gale wd s set k) a ∧ T.gfell wd s set k = 0) (fun k a hk hI => ?_) (fun a hI => ?_) n 0 N1 (by omega) (by omega) ⟨c1, rfl⟩
    · obtain ⟨b1, b2⟩ := hI
      have hj := b1.c_jj
      have hjn : (gi a 0 12).toNatClampNeg = j := by
        rw [b1.c_j, nI_clamp (by omega)]
      have hdk := gale_day (T := T) (wd := wd) (set := set) (s := s) k
      have hbit := bit_at set hset k (by omega)
      obtain ⟨O1, p1, f1, f2, f3, -⟩ := cDay (n := n) (wind := gwi set k) (by omega) b1.c_g b1.c_t (i := 10) (by omega) b1.c_st b1.c_tw
      have gk1 : (T.gale wd s set (k + 1)).Good wd := day_good b1.c_g (by omega)
      have hf := gk1.h_fell
      have c2 : CT wd j T M0 (T.gale wd s set (k + 1)) O1 := ⟨f1, f2, (f3.1 _ _ (by unfold dA; omega)).trans b1.c_j, hj, gk1, b1.c_t, b1.c_v, b1.c_sm.tr (f3.kq b1.c_v)⟩
      have e34 : ∀ t0 : Int32, t0 = nI (gwi set k) → ok (go (fun s_1 => ∃ a', s_1 = (nI (k + 1), a') ∧ CT wd j T M0 (T.gale wd s set (k + 1)) a' ∧ T.gfell wd s set (k + 1) = 0) (fun r : Int32 × Mem => r.1 = (if T.gfell wd s set d = 0 then (1 : Int32) else 0) ∧ kq VC M0 r.2)) (j_X8_standsInGales_34 n t0 j (nI set) (nI d) (nI k) a) := fun t0 ht => by
        unfold j_X8_standsInGales_34
        rw [ht, p1]
        simp only [bd]
        rw [c2.c_st.fell]
        by_cases c : (T.gale wd s set (k + 1)).fell = 0
        · rw [c, if_pos (show nI 0 ≤ 0 by decide)]
          exact ok_inl ⟨O1, by rw [nI_1], c2, by rw [Tw.gfell, b2, c]⟩
        · rw [if_neg (nI_nle (by omega) (by omega))]
          refine ok_mr (ok_some ⟨?_, c2.c_sm⟩)
          have h1 : T.gfell wd s set (k + 1) ≤ T.gfell wd s set d := gfell_mono d (by omega)
          have h2 : T.gfell wd s set (k + 1) = T.gfell wd s set k + (T.gale wd s set (k + 1)).fell := rfl
          show (0 : Int32) = _
          rw [if_neg (by omega)]
      simp only [b_X8_standsInGales_6]
      rw [if_neg (nI_ge hk (by omega)), hjn]
      refine ok_ck (by rcases hj with rfl | rfl <;> decide) ?_
      refine ok_ite (fun c => ?_) (fun c => ?_)
      · rw [decide_eq_true c] at hbit
        exact e34 9 (by unfold gwi; rw [if_pos hbit.symm]; rfl)
      · rw [decide_eq_false c] at hbit
        exact e34 0 (by unfold gwi; rw [← hbit]; rfl)
    · obtain ⟨b1, b2⟩ := hI
      simp only [b_X8_standsInGales_6]
      rw [if_pos (nI_le (Nat.le_refl _) (by omega))]
      refine ok_mr (ok_some ⟨?_, b1.c_sm⟩)
      show (1 : Int32) = _
      rw [if_pos b2]
  obtain ⟨⟨r, M'⟩, e1, e2, e3⟩ := key
  have e2 : r = _ := e2
  subst e2
  exact ⟨M', e1, e3⟩
theorem MT.s52 {ow fa y : Int32} {gv : Nat → Int32} (h : MT wd T M0 ow fa gv s M) : MT wd T M0 y fa gv s (si M 0 52 y) := by
  have e : kq (fun t k => t = 0 ∧ k = 52) M (si M 0 52 y) := kq.rf.si ⟨rfl, rfl⟩ _
  exact ⟨h.m_st.kq h.m_g e (fun k _ _ => by omega), h.m_tw.kq e (fun k _ _ => by omega) (fun k => by omega) (fun k => by omega), by rw [gi_si, if_pos ⟨rfl, rfl⟩], (e _ _ (by omega)).trans h.m_fa, fun w hw => (e _ _ (by omega)).trans (h.m_gv w hw), h.m_g, h.m_t, h.m_k.tr (kp.rf.si (by unfold VT; omega) _)⟩
theorem mGale {x2 x3 : Int32} (hn : 3000 < n) (mb : MB wd T s M0) (e : kp VT M0 M) (hset : set < 256) (hd : d ≤ 5) : ∃ M', (bd (f_X9_tries n M) (fun q8 => gl (b_X9_gales_62 n (nI d) x2 x3 (nI set)) n ((1 : Int32), (0 : Int32), q8))) = some (.inl (x3 + (if T.gfell wd s set d = 0 then gch x2 set d else 0), nI (set + 1), M')) ∧ kp VT M0 M' := by
  have hda := mb.n_d
  obtain ⟨N1, q1, c1⟩ := mStart (n := n) (by omega) mb e
  rw [q1]
  simp only [bd]
  obtain ⟨N2, m, ⟨ow, gv, c2⟩, ee⟩ := gl_k (body := b_X9_gales_62 n (nI d) x2 x3 (nI set)) (fun k (a : Mem) => (gch x2 set k, nI k, a)) d (fun k a => ∃ ow gv, MT wd T M0 ow (nI (T.gfell wd s set k)) gv (T.gale wd s set k) a) (fun k a hk hI => by
    obtain ⟨ow, gv, b1⟩ := hI
    have hdk := gale_day (T := T) (wd := wd) (set := set) (s := s) k
    have hbit := bit_at set hset k (by omega)
    have b2 := b1.s52 (y := nI (gwi set k))
    have hgw : gwi set k < 10 := by unfold gwi; split <;> decide
    obtain ⟨O1, p1, f1, f2, f3, f4, -, f6⟩ := mDay (n := n) (b := 54) (wind := gwi set k) (by omega) (by decide) b2.m_g b2.m_t b2.m_st b2.m_tw (Or.inr ⟨b2.m_w, hgw⟩)
    have gk1 : (T.gale wd s set (k + 1)).Good wd := day_good b1.m_g (by omega)
    have c2 : MT wd T M0 (nI (gwi set k)) (nI (T.gfell wd s set (k + 1))) (fun w => gv w + nI (T.gives wd (gwi set k) (T.gale wd s set k) w)) (T.gale wd s set (k + 1)) O1 := ⟨f1, f2, (f3.1 0 52 (by unfold VM; omega)).trans b2.m_w, by rw [f4, b2.m_fa, nI_add]; rfl, fun w hw => by rw [f6 w hw, b2.m_gv w hw], gk1, b1.m_t, b2.m_k.tr (f3.mono (fun t k ht => Or.inl ht))⟩
    refine ⟨O1, ?_, _, _, c2⟩
    have e116 : ∀ t0 : Int32, j_X9_gales_116 n t0 (gch x2 set k) (nI d) x2 x3 (nI set) (nI k) (si a 0 52 (nI (gwi set k))) = some (.inl (gch x2 set k * t0, nI (k + 1), O1)) := fun t0 => by
      unfold j_X9_gales_116
      rw [show (54 : Int32) = nI 54 from rfl, p1]
      simp only [bd]
      rw [nI_1]
    rw [b_X9_gales_62]
    try simp only []
    rw [if_neg (nI_ge hk (by omega))]
    unfold j_X9_gales_84 j_X9_gales_98
    by_cases c : ((nI set >>> (nI k &&& 31)) &&& (1 : Int32)) = (1 : Int32)
    · rw [decide_eq_true c] at hbit
      have eg : gwi set k = 9 := by unfold gwi; rw [if_pos hbit.symm]
      rw [eg] at e116
      rw [if_pos c, if_neg (by decide), if_neg (by decide), show (9 : Int32) = nI 9 from rfl, e116, gch, if_pos hbit.symm]
    · rw [decide_eq_false c] at hbit
      have eg : gwi set k = 0 := by unfold gwi; rw [← hbit]; rfl
      rw [eg] at e116
      rw [if_neg c, if_pos rfl, if_pos rfl, show si a 0 52 (0 : Int32) = si a 0 52 (nI 0) from rfl, e116, gch, ← hbit]
      rfl) n 0 N1 (by omega) (by omega) ⟨_, _, c1⟩
  have hle : ∀ k, k ≤ d → T.gfell wd s set k ≤ 16 * k := fun k => by
    induction k with
    | zero => intro _; exact Nat.le_refl _
    | succ k ih =>
      intro hk
      have h1 := ih (by omega)
      have h2 := (gale_good (T := T) (set := set) mb.n_g (k + 1) (by omega)).h_fell
      rw [Tw.gfell]
      omega
  have hl := hle d (Nat.le_refl _)
  refine ⟨N2, ?_, c2.m_k⟩
  rw [show ((1 : Int32), (0 : Int32), N1) = (gch x2 set 0, nI 0, N1) from rfl, ee]
  refine gl_mr ?_
  rw [b_X9_gales_62]
  try simp only []
  rw [if_pos (nI_le (Nat.le_refl _) (by omega))]
  unfold j_X9_gales_131 j_X9_gales_145
  rw [c2.m_fa]
  by_cases c : T.gfell wd s set d = 0
  · rw [c, if_pos (by decide), if_pos rfl, nI_1]
  · rw [if_neg (nI_ne0 (by omega) (by omega)), if_neg c, nI_1]
end G
section Q
variable {n : Nat} {A : Ab} {M M2 : Mem} {x1 x2 x3 x4 x5 : Int32}
theorem cGalesCh {d set : Nat} (hn : 3000 < n) (hset : set < 256) (hd : d ≤ 5) : gl (b_X8_gales_56 n (nI d) x2 x3 (nI set)) n ((1 : Int32), (0 : Int32), M) = some (.inl (x3 + gch x2 set d, nI (set + 1), M)) := by
  obtain ⟨u, m, -, ee⟩ := gl_k (body := b_X8_gales_56 n (nI d) x2 x3 (nI set)) (fun k (_ : Unit) => (gch x2 set k, nI k, M)) d (fun k _ => True) (fun k u hk _ => by
    refine ⟨(), ?_, trivial⟩
    have hbit := bit_at set hset k (by omega)
    rw [b_X8_gales_56]
    try simp only []
    rw [if_neg (nI_ge hk (by omega))]
    unfold j_X8_gales_83
    by_cases c : ((nI set >>> (nI k &&& 31)) &&& (1 : Int32)) = (1 : Int32)
    · rw [decide_eq_true c] at hbit
      rw [if_pos c, gch, if_pos hbit.symm, nI_1]
    · rw [decide_eq_false c] at hbit
      rw [if_neg c, gch, ← hbit, nI_1]
      rfl) n 0 () (by omega) (by omega) trivial
  rw [show ((1 : Int32), (0 : Int32), M) = (gch x2 set 0, nI 0, M) from rfl, ee]
  refine gl_mr ?_
  rw [b_X8_gales_56]
  try simp only []
  rw [if_pos (nI_le (Nat.le_refl _) (by omega))]
  unfold j_X8_gales_92 j_X8_gales_97
  rw [nI_1]
theorem qGales (hn : 3000 < n) (g : A.Good) (hC : RC A M) (hM : RM A M2) : QQ k2 (f_X8_gales n x1 x2 M) (f_X9_gales n x1 x2 M2) := by
  have hda := g.g_d
  have hM' := hM.thr g 0
  have h0 := thr0 M2
  have no : j_X9_gales_29 n x1 x2 (si M2 0 0 0) = some (0, si (si M2 0 0 0) 0 0 1) := by
    unfold j_X9_gales_29 j_X9_gales_30
    rw [mRight_no h0 (by decide)]
    rfl
  have nq : QQ k2 (some (2, (0 : Int32), M)) (some ((0 : Int32), si (si M2 0 0 0) 0 0 1)) := qq_no g hC hM' k2_21 (by decide)
  unfold f_X8_gales f_X9_gales j_X8_gales_10 f_X8_requireFrom0 j_X8_requireFrom0_9
  by_cases c1 : x1 < (1 : Int32)
  · rw [if_pos c1, mWithin_no (Or.inl c1)]
    simp only [bd]
    rw [if_pos trivial, no]
    exact nq
  · by_cases c2 : x1 ≤ (5 : Int32)
    · rw [if_neg c1, if_pos c2, mWithin_yes c1 (Int32.not_lt.mpr c2)]
      simp only [bd]
      rw [if_neg (show ¬ (1 : Int32) = 0 by decide)]
      by_cases c3 : x2 < 0
      · rw [if_pos c3, mWithin_no (Or.inl c3)]
        simp only []
        rw [if_pos trivial, no]
        exact nq
      · by_cases c4 : x2 ≤ (10 : Int32)
        · rw [if_neg c3, if_pos c4, mWithin_yes c3 (Int32.not_lt.mpr c4)]
          simp only []
          rw [if_pos trivial, if_neg (show ¬ (1 : Int32) = 0 by decide)]
          unfold j_X9_gales_30
          rw [mRight_yes h0]
          simp only [bd]
          rw [if_neg (show ¬ (1 : Int32) = 0 by decide)]
          have c6 : ¬ x1 < 0 := fun q => c1 (Int32.lt_trans q (by decide))
          obtain ⟨d, hj, rfl⟩ := nI_of c6
          have d5 := (nI_leI (b := 5) hj (by decide)).mp c2
          obtain ⟨j, cb⟩ := hC.cb g
          have mb := hM'.mb g
          have hp : 2 ^ d ≤ 2 ^ 5 := Nat.pow_le_pow_right (by decide) d5
          refine qq_pq k2_00 ?_
          refine ok2_for (fun k (a : Int32 × Mem × Mem) => (a.1, nI k, a.2.1)) (fun k (a : Int32 × Mem × Mem) => (a.1, nI k, a.2.2)) (2 ^ d) (fun k a => kq VC M a.2.1 ∧ kp VT (si M2 0 0 0) a.2.2) (fun k a hk hI => ?_) (fun a hI => ?_) n n 0 (0, M, si M2 0 0 0) (Nat.zero_le _) (by omega) (by omega) ⟨kq.rf, kp.rf⟩
          · obtain ⟨a1, a2, a3⟩ := a
            obtain ⟨b1, b2⟩ := hI
            obtain ⟨O1, p1, e1⟩ := cStands (n := n) (set := k) (d := d) hn cb b1 (by omega) d5
            obtain ⟨O2, p2, e2⟩ := mGale (n := n) (set := k) (d := d) (x2 := x2) (x3 := a1) hn mb b2 (by omega) d5
            refine Or.inl ⟨(a1 + (if A.tw.gfell A.wd A.now k d = 0 then gch x2 k d else 0), O1, O2), ?_, ?_, e1, e2⟩
            · rw [b_X8_gales_32]
              try simp only []
              rw [one_sh d (by omega), if_neg (nI_ge hk (by omega)), p1]
              simp only [bd]
              by_cases c : A.tw.gfell A.wd A.now k d = 0
              · rw [if_pos c, if_neg (by decide), cGalesCh hn (by omega) d5, if_pos c]
              · rw [if_neg c, if_pos rfl, if_neg c]
                unfold j_X8_gales_97
                rw [nI_1, show a1 + (0 : Int32) = a1 from Int32.add_zero a1]
            · rw [b_X9_gales_44]
              try simp only []
              rw [one_sh d (by omega), if_neg (nI_ge hk (by omega)), p2]
          · obtain ⟨a1, a2, a3⟩ := a
            obtain ⟨b1, b2⟩ := hI
            have b2 : kp VT (si M2 0 0 0) a3 := b2
            rw [b_X8_gales_32, b_X9_gales_44]
            try simp only []
            rw [one_sh d (by omega), if_pos (nI_le (Nat.le_refl _) (by omega)), if_pos (nI_le (Nat.le_refl _) (by omega))]
            have e3 : kp VT (si M2 0 0 0) (si a3 0 52 (-1)) := b2.si (by unfold VT; omega) _
            refine ⟨_, _, rfl, rfl, rfl, rfl, ⟨A, g, hC.kq b1, hM'.vt g e3 (by rw [gi_si, if_pos ⟨rfl, rfl⟩])⟩, ?_⟩
            exact (e3.1 0 0 (by unfold VT VM; omega)).trans h0
        · rw [if_neg c3, if_neg c4, mWithin_no (Or.inr (Int32.not_le.mp c4))]
          simp only []
          rw [if_pos trivial, no]
          exact nq
    · rw [if_neg c1, if_neg c2, mWithin_no (Or.inr (Int32.not_le.mp c2))]
      simp only [bd]
      rw [if_pos trivial, no]
      exact nq
end Q
