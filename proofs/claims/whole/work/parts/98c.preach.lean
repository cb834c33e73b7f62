/-! Whom to preach to. -/
def bcn (a : Nat) : Nat := cntN (fun o => a.testBit o) 8
theorem bitI_at : ∀ a, a < 256 → ∀ o, o < 8 → ((nI a >>> (nI o &&& 31)) &&& (1 : Int32)) = nI (if a.testBit o then 1 else 0) := by decide +kernel
theorem mBits {n a : Nat} {M : Mem} (hn : 100 < n) (ha : a < 256) : f_X9_bits n (nI a) M = some (nI (bcn a), M) := by
  refine is_ok ?_
  unfold f_X9_bits
  refine ok_for (fun k (_ : Unit) => (nI (cntN (fun o => a.testBit o) k), nI k, M)) 8 (fun k _ => True) (fun k u hk _ => ?_) (fun u _ => ?_) n 0 () (by omega) (by omega) trivial
  · simp only [b_X9_bits_4]
    rw [if_neg (show ¬ (8 : Int32) ≤ nI k from nI_ge (b := 8) hk (by decide)), bitI_at a ha k hk, nI_add, nI_1]
    exact ok_inl ⟨(), rfl, trivial⟩
  · simp only [b_X9_bits_4]
    rw [if_pos (show (8 : Int32) ≤ nI 8 by decide)]
    exact ok_mr (ok_some rfl)
theorem bcn_le {a wd : Nat} (h : a < 2 ^ wd) (hw : wd ≤ 8) : bcn a ≤ wd := by
  unfold bcn
  rw [cntN_ext (a := wd) hw (fun j hj => Nat.testBit_lt_two_pow (Nat.lt_of_lt_of_le h (Nat.pow_le_pow_right (by decide) hj)))]
  exact cntN_le
def Sp.pk (s : Sp) (set k : Nat) (w : Nat) : Nat := if w < k ∧ set.testBit w = true then bN (nI (s.faith w) + 10) 99 else s.faith w
def Sp.pre (wd : Nat) (s : Sp) (set : Nat) : Sp := s.setFaith (s.pk set wd)
theorem pk_good {wd set k : Nat} {s : Sp} (g : s.Good wd) : (s.setFaith (s.pk set k)).Good wd := faith_good g (fun w hw => by
  unfold Sp.pk
  split
  · exact (bN_is (hi := 99) (by decide)).2
  · exact g.h_faith w hw)
theorem pk_row {s : Sp} {set k v : Nat} (h : set.testBit k = true) : s.pk set (k + 1) v = if v = k then bN (nI (s.faith k) + 10) 99 else s.pk set k v := by
  unfold Sp.pk
  by_cases c : v = k
  · subst c
    rw [if_pos ⟨by omega, h⟩, if_pos rfl]
  · rw [if_neg c]
    by_cases c2 : v < k ∧ set.testBit v = true
    · rw [if_pos c2, if_pos ⟨by omega, c2.2⟩]
    · rw [if_neg c2, if_neg (fun q => c2 ⟨by omega, q.2⟩)]
theorem pk_no {s : Sp} {set k : Nat} (h : set.testBit k = false) : s.pk set (k + 1) = s.pk set k := by
  funext v
  unfold Sp.pk
  by_cases c : v = k
  · subst c
    rw [if_neg (fun q => by rw [h] at q; cases q.2), if_neg (by omega)]
  · by_cases c2 : v < k ∧ set.testBit v = true
    · rw [if_pos c2, if_pos ⟨by omega, c2.2⟩]
    · rw [if_neg c2, if_neg (fun q => c2 ⟨by omega, q.2⟩)]
def pst (T : Tw) (wd : Nat) (s : Sp) (d set : Nat) : Bool := T.fellN wd (s.pre wd set) d == 0
theorem fellN_mono {T : Tw} {wd : Nat} {s : Sp} {a : Nat} : ∀ b, a ≤ b → T.fellN wd s a ≤ T.fellN wd s b
  | 0, h => by rw [show a = 0 by omega]; exact Nat.le_refl _
  | b + 1, h => by
    by_cases c : a = b + 1
    · rw [c]; exact Nat.le_refl _
    · have := fellN_mono (T := T) (wd := wd) (s := s) (a := a) b (by omega)
      rw [Tw.fellN]
      omega
section S
variable {n wd j d set : Nat} {T : Tw} {s : Sp} {M0 M : Mem}
theorem cStandsP (hn : 3000 < n) (cb : CB wd j T s M0) (e : kq VC M0 M) (hset : set < 256) (hd : d ≤ 60) : ∃ M', f_X8_standsIfPreached n (nI set) (nI d) M = some (if pst T wd s d set = true then (1 : Int32) else 0, M') ∧ kq VC M0 M' := by
  have hda := cb.b_d
  have hwd := cb.b_g.h_wd
  obtain ⟨N1, q1, c1⟩ := cStart (n := n) cb e
  obtain ⟨N2, m, c2, ee⟩ := gl_k (body := b_X8_standsIfPreached_6 n (nI set) (nI d)) (fun k (X : Mem) => (nI k, X)) wd (fun k X => CT wd j T M0 (s.setFaith (s.pk set k)) X) (fun k X hk hI => by
    have hI : CT wd j T M0 (s.setFaith (s.pk set k)) X := hI
    have hbit := bit_at set hset k (by omega)
    rw [b_X8_standsIfPreached_6]
    try simp only []
    rw [hI.c_st.wards, if_neg (nI_ge hk (by omega))]
    unfold j_X8_standsIfPreached_36
    by_cases c : ((nI set >>> (nI k &&& 31)) &&& (1 : Int32)) = (1 : Int32)
    · rw [decide_eq_true c] at hbit
      have hfk : (s.setFaith (s.pk set k)).faith k = s.faith k := by
        show s.pk set k k = s.faith k
        unfold Sp.pk
        rw [if_neg (by omega)]
      rw [if_pos c, cAddFaith hI.c_g hI.c_st hk, hfk]
      refine ⟨_, by simp only [bd, nI_1], CTV.up hI (by omega) (cFaithRow (s := s.setFaith (s.pk set k)) (f := s.pk set (k + 1)) (i := 10) hI.c_st (fun v _ => pk_row hbit.symm)) (pk_good cb.b_g)⟩
    · rw [decide_eq_false c] at hbit
      rw [if_neg c, pk_no hbit.symm]
      exact ⟨X, by rw [nI_1], hI⟩) n 0 N1 (by omega) (by omega) (by
        have e0 : s.setFaith (s.pk set 0) = s := by
          have : s.pk set 0 = s.faith := by
            funext v
            unfold Sp.pk
            rw [if_neg (by omega)]
          rw [this]
          rfl
        rw [e0]
        exact c1)
  have c2 : CT wd j T M0 (s.pre wd set) N2 := c2
  have hdd : (s.pre wd set).day = s.day := rfl
  unfold f_X8_standsIfPreached
  rw [q1]
  simp only [bd]
  rw [show ((0 : Int32), N1) = (nI 0, N1) from rfl, ee, gl_mr (o := j_X8_standsIfPreached_42 n (nI d) N2) (by
    rw [b_X8_standsIfPreached_6]
    try simp only []
    rw [c2.c_st.wards, if_pos (nI_le (Nat.le_refl _) (by omega))])]
  unfold j_X8_standsIfPreached_42
  rcases gl_e (body := b_X8_standsIfPreached_44 n (nI d)) (E := fun t => t.1 = 0 ∧ pst T wd s d set = false ∧ kq VC M0 t.2) (fun k (X : Mem) => (nI k, X)) d (fun k X => CT wd j T M0 (T.ahead wd (s.pre wd set) k) X ∧ T.fellN wd (s.pre wd set) k = 0) (fun k X hk hI => by
    obtain ⟨b1, b2⟩ := hI
    have hdk := ahead_day (T := T) (wd := wd) (s := s.pre wd set) k
    obtain ⟨O, p1, p2, -⟩ := cTrialDay (n := n) (by omega) b1 (by omega)
    have hf := p2.c_g.h_fell
    rw [b_X8_standsIfPreached_44]
    try simp only []
    rw [if_neg (nI_ge hk (by omega)), p1]
    simp only [bd]
    rw [p2.c_st.fell]
    by_cases c : (T.nxt wd (T.ahead wd (s.pre wd set) k)).fell = 0
    · rw [c, if_pos (show nI 0 ≤ 0 by decide)]
      exact Or.inl ⟨O, by rw [nI_1], p2, by
        have e3 : T.fellN wd (s.pre wd set) (k + 1) = T.fellN wd (s.pre wd set) k + (T.nxt wd (T.ahead wd (s.pre wd set) k)).fell := rfl
        rw [e3, b2, c]⟩
    · rw [if_neg (nI_nle (by omega) (by omega))]
      refine Or.inr ⟨_, rfl, rfl, ?_, p2.c_sm⟩
      have h1 : T.fellN wd (s.pre wd set) (k + 1) ≤ T.fellN wd (s.pre wd set) d := fellN_mono d (by omega)
      have e3 : T.fellN wd (s.pre wd set) (k + 1) = T.fellN wd (s.pre wd set) k + (T.nxt wd (T.ahead wd (s.pre wd set) k)).fell := rfl
      unfold pst
      rw [beq_eq_false_iff_ne]
      omega) n 0 N2 (by omega) (by omega) ⟨c2, rfl⟩ with ⟨X, m2, ⟨e1, e2⟩, e3⟩ | ⟨⟨t1, t2⟩, e1, e2, e3, e4⟩
  · refine ⟨X, ?_, e1.c_sm⟩
    rw [show ((0 : Int32), N2) = (nI 0, N2) from rfl, e3, if_pos (show pst T wd s d set = true by unfold pst; rw [e2]; rfl)]
    refine gl_mr ?_
    rw [b_X8_standsIfPreached_44]
    try simp only []
    rw [if_pos (nI_le (Nat.le_refl _) (by omega))]
  · have e2 : t1 = 0 := e2
    subst e2
    refine ⟨t2, ?_, e4⟩
    rw [show ((0 : Int32), N2) = (nI 0, N2) from rfl, e1, if_neg (by rw [e3]; decide)]
theorem mStandsP {x2 : Int32} (hn : 3000 < n) (mb : MB wd T s M0) (e : kp VT M0 M) (hw : gi M 0 52 = -1) (hset : set < 256) (hd : d ≤ 60) : ∃ M', j_X9_toPreach_50 n (nI d) x2 (nI set) M = some (.inl (if pst T wd s d set = true then nI set else x2, nI (set + 1), M')) ∧ kp VT M0 M' ∧ gi M' 0 52 = -1 := by
  have hda := mb.n_d
  have hwd := mb.n_g.h_wd
  obtain ⟨N1, q1, c1⟩ := mStart (n := n) (by omega) mb e
  rw [hw] at c1
  obtain ⟨N2, m, c2, ee⟩ := gl_k (body := b_X9_toPreach_57 n (nI d) x2 (nI set)) (fun k (X : Mem) => (nI k, X)) wd (fun k X => MT wd T M0 (-1) (nI 0) (fun _ => nI 0) (s.setFaith (s.pk set k)) X) (fun k X hk hI => by
    have hbit := bit_at set hset k (by omega)
    rw [b_X9_toPreach_57]
    try simp only []
    rw [hI.m_tw.wards, if_neg (nI_ge hk (by omega))]
    unfold j_X9_toPreach_84
    by_cases c : ((nI set >>> (nI k &&& 31)) &&& (1 : Int32)) = (1 : Int32)
    · rw [decide_eq_true c] at hbit
      have hfk : (s.setFaith (s.pk set k)).faith k = s.faith k := by
        show s.pk set k k = s.faith k
        unfold Sp.pk
        rw [if_neg (by omega)]
      rw [if_pos c, show (54 : Int32) = nI 54 from rfl, mPreaches (by decide) hI.m_g hI.m_st hk, hfk]
      refine ⟨_, by simp only [bd, nI_1], MT.up hI (by omega) (mFaithRow (s := s.setFaith (s.pk set k)) (f := s.pk set (k + 1)) (b := 54) hI.m_g hk hI.m_st (fun v _ => pk_row hbit.symm)) (pk_good mb.n_g)⟩
    · rw [decide_eq_false c] at hbit
      rw [if_neg c, pk_no hbit.symm]
      exact ⟨X, by rw [nI_1], hI⟩) n 0 N1 (by omega) (by omega) (by
        have e0 : s.setFaith (s.pk set 0) = s := by
          have : s.pk set 0 = s.faith := by
            funext v
            unfold Sp.pk
            rw [if_neg (by omega)]
          rw [this]
          rfl
        rw [e0]
        exact c1)
  have c2 : MT wd T M0 (-1) (nI 0) (fun _ => nI 0) (s.pre wd set) N2 := c2
  have hdd : (s.pre wd set).day = s.day := rfl
  obtain ⟨P, p1, p2⟩ := mGo (n := n) (d := d) (by omega) (by omega) c2 (by omega)
  have gP : (s.pre wd set).Good wd := pk_good mb.n_g
  have hfl := fellN_le (T := T) gP d (by omega)
  have e0 : nI 0 + nI (T.fellN wd (s.pre wd set) d) = nI (T.fellN wd (s.pre wd set) d) := Int32.zero_add _
  rw [e0] at p2
  refine ⟨P, ?_, p2.m_k, p2.m_w⟩
  unfold j_X9_toPreach_50
  rw [q1]
  simp only [bd]
  rw [show ((0 : Int32), N1) = (nI 0, N1) from rfl, ee]
  refine gl_mr ?_
  rw [b_X9_toPreach_57]
  try simp only []
  rw [c2.m_tw.wards, if_pos (nI_le (Nat.le_refl _) (by omega))]
  unfold j_X9_toPreach_90
  rw [p1]
  simp only [bd]
  rw [p2.m_fa]
  unfold j_X9_toPreach_104 pst
  by_cases c : T.fellN wd (s.pre wd set) d = 0
  · rw [c, if_pos (show nI 0 = 0 from rfl), nI_1]
    simp
  · rw [if_neg (nI_ne0 (by omega) (by omega)), nI_1, if_neg (by simp [c])]
end S
/-- the best set: fewest, then first -/
def bestS (P : Nat → Bool) (N : Nat) : Option Nat → Prop
  | none => ∀ k, k < N → P k = false
  | some b => b < N ∧ P b = true ∧ ∀ k, k < N → P k = true → bcn b < bcn k ∨ (bcn b = bcn k ∧ b ≤ k)
theorem bestS_un {P : Nat → Bool} {N : Nat} {r r' : Option Nat} (h : bestS P N r) (h' : bestS P N r') : r = r' := by
  cases r with
  | none =>
    cases r' with
    | none => rfl
    | some b => exact absurd h'.2.1 (by rw [h b h'.1]; decide)
  | some a =>
    cases r' with
    | none => exact absurd h.2.1 (by rw [h' a h.1]; decide)
    | some b =>
      have h1 := h.2.2 b h'.1 h'.2.1
      have h2 := h'.2.2 a h.1 h.2.1
      have : a = b := by omega
      rw [this]
section Q
variable {n : Nat} {A : Ab} {M M2 : Mem} {x1 x2 x3 x4 x5 : Int32}
theorem mBest {d : Nat} (hn : 3000 < n) (g : A.Good) (hM : RM A M2) (hd : d ≤ 60) : ∃ r M', gl (b_X9_toPreach_21 n (nI d)) n ((-1 : Int32), (0 : Int32), M2) = some (eO r, M') ∧ bestS (pst A.tw A.wd A.now d) (2 ^ A.wd) r ∧ RM A M' ∧ gi M' 0 0 = gi M2 0 0 := by
  have hwd := g.g_n.h_wd
  have hp : 2 ^ A.wd ≤ 2 ^ 8 := Nat.pow_le_pow_right (by decide) hwd
  have mb := hM.mb g
  obtain ⟨⟨r, N⟩, m, ⟨c1, c2, c3⟩, ee⟩ := gl_k (body := b_X9_toPreach_21 n (nI d)) (fun k (a : Option Nat × Mem) => (eO a.1, nI k, a.2)) (2 ^ A.wd) (fun k a => bestS (pst A.tw A.wd A.now d) k a.1 ∧ kp VT M2 a.2 ∧ gi a.2 0 52 = -1) (fun k a hk hI => by
    obtain ⟨r, X⟩ := a
    obtain ⟨b1, b2, b3⟩ := hI
    have b1 : bestS (pst A.tw A.wd A.now d) k r := b1
    have b2 : kp VT M2 X := b2
    have b3 : gi X 0 52 = -1 := b3
    have hw1 : gi X 0 1 = nI A.wd := (b2.1 0 1 (by unfold VT VM; omega)).trans hM.s_t.wards
    obtain ⟨O, p1, p2, p3⟩ := mStandsP (n := n) (set := k) (d := d) (x2 := eO r) hn mb b2 b3 (by omega) hd
    rw [b_X9_toPreach_21]
    try simp only []
    rw [hw1, one_sh A.wd (by omega), if_neg (nI_ge hk (by omega))]
    cases r with
    | none =>
      rw [if_pos (show eO none = (-1 : Int32) from rfl), p1]
      cases hP : pst A.tw A.wd A.now d k with
      | true =>
        refine ⟨(some k, O), rfl, ⟨by omega, hP, fun i hi hPi => ?_⟩, p2, p3⟩
        by_cases c : i = k
        · exact Or.inr ⟨by rw [c], by omega⟩
        · exact absurd hPi (by rw [b1 i (by omega)]; decide)
      | false =>
        refine ⟨(none, O), rfl, fun i hi => ?_, p2, p3⟩
        by_cases c : i = k
        · rw [c]; exact hP
        · exact b1 i (by omega)
    | some b =>
      have hb := b1.1
      have h8 := bcn_le (a := k) hk hwd
      have h8' := bcn_le (a := b) (wd := A.wd) (by omega) hwd
      rw [show eO (some b) = nI b from rfl, if_neg (nI_nm1 (by omega)), mBits (by omega) (by omega)]
      simp only [bd]
      rw [mBits (by omega) (by omega)]
      simp only []
      by_cases c : bcn k < bcn b
      · rw [if_pos (nI_lt c (by omega)), show nI b = eO (some b) from rfl, p1]
        cases hP : pst A.tw A.wd A.now d k with
        | true =>
          refine ⟨(some k, O), rfl, ⟨by omega, hP, fun i hi hPi => ?_⟩, p2, p3⟩
          by_cases ci : i = k
          · exact Or.inr ⟨by rw [ci], by omega⟩
          · have := b1.2.2 i (by omega) hPi
            omega
        | false =>
          refine ⟨(some b, O), rfl, ⟨by omega, b1.2.1, fun i hi hPi => ?_⟩, p2, p3⟩
          by_cases ci : i = k
          · exact absurd hPi (by rw [ci, hP]; decide)
          · exact b1.2.2 i (by omega) hPi
      · rw [if_neg (nI_nlt (by omega) (by omega))]
        unfold j_X9_toPreach_104
        refine ⟨(some b, X), by rw [nI_1]; rfl, ⟨by omega, b1.2.1, fun i hi hPi => ?_⟩, b2, b3⟩
        by_cases ci : i = k
        · rw [ci]
          omega
        · exact b1.2.2 i (by omega) hPi) n 0 (none, M2) (Nat.zero_le _) (by omega) ⟨fun k hk => absurd hk (by omega), kp.rf, hM.s_w⟩
  have c2 : kp VT M2 N := c2
  have c3 : gi N 0 52 = -1 := c3
  have hw1 : gi N 0 1 = nI A.wd := (c2.1 0 1 (by unfold VT VM; omega)).trans hM.s_t.wards
  refine ⟨r, N, ?_, c1, hM.vt g c2 c3, c2.1 0 0 (by unfold VT VM; omega)⟩
  rw [show ((-1 : Int32), (0 : Int32), M2) = (eO none, nI 0, M2) from rfl, ee]
  refine gl_mr ?_
  rw [b_X9_toPreach_21]
  try simp only []
  rw [hw1, one_sh A.wd (by omega), if_pos (nI_le (Nat.le_refl _) (by omega))]
theorem cBest {d : Nat} (hn : 3000 < n) (g : A.Good) (hC : RC A M) (hd : d ≤ 60) : ∃ r M', gl (b_X8_toPreach_16 n (nI d) (nI (2 ^ A.wd))) n ((0 : Int32), M) = some (0, eO r, M') ∧ bestS (pst A.tw A.wd A.now d) (2 ^ A.wd) r ∧ RC A M' := by
  have hwd := g.g_n.h_wd
  have hp : 2 ^ A.wd ≤ 2 ^ 8 := Nat.pow_le_pow_right (by decide) hwd
  obtain ⟨j, cb⟩ := hC.cb g
  rcases gl_e (body := b_X8_toPreach_16 n (nI d) (nI (2 ^ A.wd))) (E := fun t => ∃ b X, t = (0, nI b, X) ∧ bestS (pst A.tw A.wd A.now d) (2 ^ A.wd) (some b) ∧ kq VC M X) (fun k (X : Mem) => (nI k, X)) (A.wd + 1) (fun k X => kq VC M X ∧ ∀ i, i < 2 ^ A.wd → bcn i < k → pst A.tw A.wd A.now d i = false) (fun k X hk hI => by
    obtain ⟨b1, b2⟩ := hI
    have inner : (∃ Y, gl (b_X8_toPreach_30 n (nI d) (nI (2 ^ A.wd)) (nI k)) n ((0 : Int32), X) = some (.inl (nI (k + 1), Y)) ∧ kq VC M Y ∧ ∀ i, i < 2 ^ A.wd → bcn i < k + 1 → pst A.tw A.wd A.now d i = false) ∨ (∃ b Y, gl (b_X8_toPreach_30 n (nI d) (nI (2 ^ A.wd)) (nI k)) n ((0 : Int32), X) = some (.inr (0, nI b, Y)) ∧ bestS (pst A.tw A.wd A.now d) (2 ^ A.wd) (some b) ∧ kq VC M Y) := by
      rcases gl_e (body := b_X8_toPreach_30 n (nI d) (nI (2 ^ A.wd)) (nI k)) (E := fun t => ∃ b Y, t = .inr (0, nI b, Y) ∧ bestS (pst A.tw A.wd A.now d) (2 ^ A.wd) (some b) ∧ kq VC M Y) (fun i (Y : Mem) => (nI i, Y)) (2 ^ A.wd) (fun i Y => kq VC M Y ∧ ∀ v, v < i → bcn v = k → pst A.tw A.wd A.now d v = false) (fun i Y hi hI => by
        obtain ⟨d1, d2⟩ := hI
        have h8 := bcn_le (a := i) hi hwd
        rw [b_X8_toPreach_30]
        try simp only []
        rw [if_neg (nI_ge hi (by omega)), bc_is, bc_256 i (by omega)]
        simp only [bd]
        unfold j_X8_toPreach_58
        by_cases c : bcn i = k
        · rw [if_pos (show nI (cntN (fun o => i.testBit o) 8) = nI k from congrArg nI c)]
          obtain ⟨O, p1, p2⟩ := cStandsP (n := n) (set := i) (d := d) hn cb d1 (by omega) hd
          rw [p1]
          cases hP : pst A.tw A.wd A.now d i with
          | true =>
            refine Or.inr ⟨_, rfl, i, O, rfl, ⟨hi, hP, fun v hv hPv => ?_⟩, p2⟩
            by_cases c1 : bcn v < k
            · exact absurd hPv (by rw [b2 v hv c1]; decide)
            · by_cases c3 : bcn v = k
              · by_cases c4 : v < i
                · exact absurd hPv (by rw [d2 v c4 c3]; decide)
                · exact Or.inr ⟨by omega, by omega⟩
              · exact Or.inl (by omega)
          | false =>
            refine Or.inl ⟨O, by simp only []; rw [nI_1]; rfl, p2, fun v hv hbv => ?_⟩
            by_cases cv : v = i
            · rw [cv]; exact hP
            · exact d2 v (by omega) hbv
        · rw [if_neg (show ¬ nI (cntN (fun o => i.testBit o) 8) = nI k from fun q => c ((nI_eq (a := bcn i) (by omega) (by omega)).mp q)), nI_1]
          refine Or.inl ⟨Y, rfl, d1, fun v hv hbv => ?_⟩
          by_cases cv : v = i
          · rw [cv] at hbv
            exact absurd hbv c
          · exact d2 v (by omega) hbv) n 0 X (Nat.zero_le _) (by omega) ⟨b1, fun v hv => absurd hv (by omega)⟩ with ⟨Y, m, ⟨e1, e2⟩, e3⟩ | ⟨t, e1, b, Y, e2, e3, e4⟩
      · refine Or.inl ⟨Y, ?_, e1, fun i hi hb => ?_⟩
        · rw [show ((0 : Int32), X) = (nI 0, X) from rfl, e3]
          refine gl_mr ?_
          rw [b_X8_toPreach_30]
          try simp only []
          rw [if_pos (nI_le (Nat.le_refl _) (by omega))]
          unfold j_X8_toPreach_64
          rw [nI_1]
        · by_cases c : bcn i = k
          · exact e2 i hi c
          · exact b2 i hi (by omega)
      · exact Or.inr ⟨b, Y, by rw [show ((0 : Int32), X) = (nI 0, X) from rfl, e1, e2], e3, e4⟩
    rw [b_X8_toPreach_16]
    try simp only []
    rw [(cb.keep b1).b_st.wards, if_neg (nI_nlt (a := A.wd) (b := k) (by omega) (by omega))]
    rcases inner with ⟨Y, f1, f2, f3⟩ | ⟨b, Y, f1, f2, f3⟩
    · exact Or.inl ⟨Y, f1, f2, f3⟩
    · exact Or.inr ⟨_, f1, b, Y, rfl, f2, f3⟩) n 0 M (by omega) (by omega) ⟨kq.rf, fun i _ h => absurd h (by omega)⟩ with ⟨X, m, ⟨e1, e2⟩, e3⟩ | ⟨t, e1, b, X, e2, e3, e4⟩
  · refine ⟨none, X, ?_, fun k hk => e2 k hk (by have := bcn_le hk hwd; omega), hC.kq e1⟩
    rw [show ((0 : Int32), M) = (nI 0, M) from rfl, e3]
    refine gl_mr ?_
    rw [b_X8_toPreach_16]
    try simp only []
    rw [(cb.keep e1).b_st.wards, if_pos (nI_lt (a := A.wd) (b := A.wd + 1) (by omega) (by omega))]
    rfl
  · exact ⟨some b, X, by rw [show ((0 : Int32), M) = (nI 0, M) from rfl, e1, e2]; rfl, e3, hC.kq e4⟩
theorem qToPreach (hn : 3000 < n) (g : A.Good) (hC : RC A M) (hM : RM A M2) : QQ k2 (f_X8_toPreach n x1 M) (f_X9_toPreach n x1 M2) := by
  have hwd := g.g_n.h_wd
  have hM' := hM.thr g 0
  have h0 := thr0 M2
  unfold f_X8_toPreach f_X9_toPreach
  refine qq_from1 g hC hM' h0 k2_21 (by decide) (fun d hd1 hd e2 => ?_)
  dsimp only
  subst e2
  obtain ⟨r, N, q1, b1, rC⟩ := cBest (n := n) hn g hC hd
  obtain ⟨r', N2, q2, b2, rM, t0⟩ := mBest (n := n) hn g hM' hd
  have := bestS_un b1 b2
  subst this
  rw [hC.r_n.wards, one_sh A.wd (by omega), q1, q2]
  exact qq_yes g rC rM (t0.trans h0) k2_00
end Q
