/-! What was seen: whether a tower leans so. -/
theorem gl_e {S T A : Type} {body : S → Option (S ⊕ T)} {E : T → Prop} (st : Nat → A → S) (N : Nat) (I : Nat → A → Prop) (hs : ∀ k a, k < N → I k a → (∃ a', body (st k a) = some (.inl (st (k + 1) a')) ∧ I (k + 1) a') ∨ (∃ t, body (st k a) = some (.inr t) ∧ E t)) : ∀ (n k : Nat) (a : A), k ≤ N → N - k < n → I k a → (∃ a' m, I N a' ∧ gl body n (st k a) = gl body (m + 1) (st N a')) ∨ (∃ t, gl body n (st k a) = some t ∧ E t) := by
  intro n
  induction n with
  | zero => intro k a _ h; omega
  | succ n ih =>
    intro k a hk hn hi
    by_cases hkN : k = N
    · subst hkN
      exact Or.inl ⟨a, n, hi, rfl⟩
    · rcases hs k a (by omega) hi with ⟨a', e, hi'⟩ | ⟨t, e, he⟩
      · rw [gl_inl e]
        exact ih (k + 1) a' (by omega) (by omega) hi'
      · exact Or.inr ⟨t, by rw [gl, e], he⟩
def allN (f : Nat → Bool) : Nat → Bool
  | 0 => true
  | k + 1 => allN f k && f k
theorem allN_iff {f : Nat → Bool} : ∀ {k : Nat}, allN f k = true ↔ ∀ i, i < k → f i = true
  | 0 => ⟨fun _ i hi => absurd hi (by omega), fun _ => rfl⟩
  | k + 1 => by
    rw [allN, Bool.and_eq_true, allN_iff (k := k)]
    constructor
    · intro h i hi
      by_cases c : i = k
      · rw [c]; exact h.2
      · exact h.1 i (by omega)
    · intro h
      exact ⟨fun i hi => h i (by omega), h k (by omega)⟩
def sd (q : List (Nat × Nat)) (i : Nat) : Nat := (q.getD i (0, 0)).1
def sl (q : List (Nat × Nat)) (i : Nat) : Nat := (q.getD i (0, 0)).2
theorem sq_get {q : List (Nat × Nat)} {i : Nat} (h : i < q.length) : q[i]? = some (sd q i, sl q i) := by
  unfold sd sl
  rw [List.getD_eq_getElem?_getD, List.getElem?_eq_getElem h]
  rfl
theorem sq_le {q : List (Nat × Nat)} {i : Nat} (g : SeG q) (h : i < q.length) : sd q i ≤ 20 ∧ sl q i ≤ 99 := g.2 _ (List.mem_of_getElem? (sq_get h))
def okAt (q : List (Nat × Nat)) (k l : Nat) : Bool := allN (fun i => !(sd q i == k) || sl q i == l) q.length
def okS (T : Tw) (wd : Nat) (s : Sp) (q : List (Nat × Nat)) : Bool := allN (fun i => (T.ahead wd s (sd q i)).lean == sl q i) q.length
theorem okS_iff {T : Tw} {wd N : Nat} {s : Sp} {q : List (Nat × Nat)} (hN : ∀ i, i < q.length → sd q i < N) : okS T wd s q = true ↔ ∀ k, k < N → okAt q k (T.ahead wd s k).lean = true := by
  unfold okS okAt
  rw [allN_iff]
  constructor
  · intro h k hk
    rw [allN_iff]
    intro i hi
    by_cases c : sd q i = k
    · have := h i hi
      rw [c] at this
      rw [beq_iff_eq] at this
      simp [this]
    · simp [c]
  · intro h i hi
    have := (allN_iff.mp (h (sd q i) (hN i hi))) i hi
    simp at this
    simp [this]
def mxL (q : List (Nat × Nat)) : Nat → Nat
  | 0 => 0
  | k + 1 => if mxL q k < sd q k + 1 then sd q k + 1 else mxL q k
theorem mxL_gt {q : List (Nat × Nat)} : ∀ {k i : Nat}, i < k → sd q i < mxL q k
  | k + 1, i, h => by
    rw [mxL]
    by_cases c : i = k
    · subst c
      split <;> omega
    · have := mxL_gt (q := q) (k := k) (i := i) (by omega)
      split <;> omega
theorem mxL_le {q : List (Nat × Nat)} (g : SeG q) : ∀ {k : Nat}, k ≤ q.length → mxL q k ≤ 21
  | 0, _ => Nat.zero_le _
  | k + 1, h => by
    have h1 := mxL_le g (k := k) (by omega)
    have h2 := (sq_le g (i := k) (by omega)).1
    rw [mxL]
    split <;> omega
def eL (L : Nat) : Int32 := if L = 0 then -1 else nI (L - 1)
theorem eL_toInt {L : Nat} (h : L < 1000) : (eL L).toInt = (L : Int) - 1 := by
  unfold eL
  by_cases c : L = 0
  · rw [if_pos c, c]
    rfl
  · rw [if_neg c, nI_toInt (by omega)]
    omega
section S
variable {n wd j : Nat} {T : Tw} {s : Sp} {M0 M : Mem} {q : List (Nat × Nat)}
theorem cLast (hn : 100 < n) (g : SeG q) (h : SeC q 38 M) : f_X3_lastDay n 38 M = some (eL (mxL q q.length), M) := by
  have h1 := g.1
  refine is_ok ?_
  unfold f_X3_lastDay
  refine ok_for (fun k (_ : Unit) => (eL (mxL q k), nI k, M)) q.length (fun k _ => True) (fun k a hk _ => ?_) (fun a _ => ?_) n 0 () (by omega) (by omega) trivial
  · have hh := h.2 k _ (sq_get hk)
    have hs := (sq_le g hk).1
    have hm := mxL_le g (k := k) (by omega)
    simp only [b_X3_lastDay_4, h.1]
    rw [if_neg (nI_ge hk (by omega)), ck_pos (n_in (by omega) (by decide)), nI_clamp (by omega), show gi M (38 + 1) k = nI (sd q k) from hh.1]
    unfold f_J9_max_7cf53
    by_cases c : mxL q k < sd q k + 1
    · rw [if_pos (show eL (mxL q k) < nI (sd q k) by rw [Int32.lt_iff_toInt_lt, eL_toInt (by omega), nI_toInt (by omega)]; omega)]
      refine ok_inl ⟨(), ?_, trivial⟩
      simp only [mxL, if_pos c, nI_1]
      unfold eL
      rw [if_neg (by omega)]
      rfl
    · rw [if_neg (show ¬ eL (mxL q k) < nI (sd q k) by rw [Int32.lt_iff_toInt_lt, eL_toInt (by omega), nI_toInt (by omega)]; omega)]
      refine ok_inl ⟨(), ?_, trivial⟩
      simp only [mxL, if_neg c, nI_1]
  · simp only [b_X3_lastDay_4, h.1]
    exact ok_ite (fun c => ok_mr (ok_some rfl)) (fun c => absurd (nI_le (Nat.le_refl _) (by omega)) c)
theorem cAllows {k l : Nat} (hn : 100 < n) (hk : k < 1000) (hl : l < 1000) (g : SeG q) (h : SeC q 38 M) : f_X3_allows n 38 (nI k) (nI l) M = some (if okAt q k l = true then (1 : Int32) else 0, M) := by
  have h1 := g.1
  unfold f_X3_allows
  have step : ∀ i, i < q.length → allN (fun i => !(sd q i == k) || sl q i == l) i = true → (b_X3_allows_2 n 38 (nI k) (nI l) (nI i, M) = some (.inl (nI (i + 1), M)) ∧ allN (fun i => !(sd q i == k) || sl q i == l) (i + 1) = true) ∨ (b_X3_allows_2 n 38 (nI k) (nI l) (nI i, M) = some (.inr (0, M)) ∧ okAt q k l = false) := fun i hi ha => by
    have hh := h.2 i _ (sq_get hi)
    have hs := sq_le g hi
    rw [b_X3_allows_2]
    simp only [h.1]
    rw [if_neg (nI_ge hi (by omega)), ck_pos (n_in (by omega) (by decide)), ck_pos (n_in (by omega) (by decide)), nI_clamp (by omega), show gi M (38 + 1) i = nI (sd q i) from hh.1, show gi M (38 + 2) i = nI (sl q i) from hh.2]
    unfold j_X3_allows_32
    by_cases c1 : sd q i = k
    · rw [if_pos (by rw [c1])]
      by_cases c2 : sl q i = l
      · rw [if_pos (by rw [c2]), nI_1]
        exact Or.inl ⟨rfl, by rw [allN, ha]; simp [c2]⟩
      · rw [if_neg (fun e => c2 ((nI_eq (by omega) (by omega)).mp e))]
        refine Or.inr ⟨rfl, ?_⟩
        cases e : okAt q k l with
        | false => rfl
        | true =>
          have := (allN_iff.mp e) i hi
          simp [c1, c2] at this
    · rw [if_neg (fun e => c1 ((nI_eq (by omega) (by omega)).mp e)), nI_1]
      exact Or.inl ⟨rfl, by rw [allN, ha]; simp [c1]⟩
  rcases gl_e (body := b_X3_allows_2 n 38 (nI k) (nI l)) (E := fun t => t = (0, M) ∧ okAt q k l = false) (fun i (_ : Unit) => (nI i, M)) q.length (fun i _ => allN (fun i => !(sd q i == k) || sl q i == l) i = true) (fun i a hi ha => by
    rcases step i hi ha with ⟨e1, e2⟩ | ⟨e1, e2⟩
    · exact Or.inl ⟨(), e1, e2⟩
    · exact Or.inr ⟨_, e1, rfl, e2⟩) n 0 () (by omega) (by omega) rfl with ⟨a', m, e1, e2⟩ | ⟨t, e1, e2, e3⟩
  · rw [show ((0 : Int32), M) = (nI 0, M) from rfl, e2, if_pos (show okAt q k l = true from e1)]
    refine gl_mr ?_
    rw [b_X3_allows_2]
    simp only [h.1]
    rw [if_pos (nI_le (Nat.le_refl _) (by omega))]
  · rw [show ((0 : Int32), M) = (nI 0, M) from rfl, e1, e2, if_neg (by rw [e3]; decide)]
theorem cTrialL {V : Nat → Nat → Prop} {M' : Mem} (hn : 1000 < n) (h : CTV V wd j T M0 s M) (e : f_X8_passTrialDay n M = some M') (hd : s.day < 20000) : M'.2 = M.2 := by
  have hj := h.c_jj
  obtain ⟨M1, q, -, -, a3, -⟩ := cDay (wind := T.windOn s.day) hn h.c_g h.c_t (i := 10) (by omega) h.c_st h.c_tw
  have e1 : f_X8_passTrialDay n M = some M1 := by
    unfold f_X8_passTrialDay
    have hjn : (gi M 0 12).toNatClampNeg = j := by
      rw [h.c_j, nI_clamp (by omega)]
    rw [hjn, ck_pos (by rcases hj with rfl | rfl <;> decide), ck_pos (by rcases hj with rfl | rfl <;> decide), h.c_st.day, cWindOn h.c_t h.c_tw (by omega)]
    simp only [bd]
    rw [q]
  rw [e] at e1
  injection e1 with e1
  rw [e1]
  exact a3.2
theorem cStartL {M' : Mem} (e : f_X8_startTrial n M = some M') : M'.2 = M.2 := by
  unfold f_X8_startTrial at e
  rw [cCopy_is] at e
  injection e with e
  rw [← e]
  rfl
theorem cSeenOK (hn : 3000 < n) (g : SeG q) (h : CT wd j T M0 s M) (hq : SeC q 38 M0) (hd : s.day ≤ 9999) : ∃ M', f_X8_leansAsSeen n M = some (if okS T wd s q = true then (1 : Int32) else 0, M') ∧ kq VC M0 M' ∧ M'.2 = M.2 := by
  have hL := mxL_le g (k := q.length) (Nat.le_refl _)
  have hN : ∀ i, i < q.length → sd q i < mxL q q.length := fun i hi => mxL_gt hi
  have sq : ∀ X, kq VC M0 X → SeC q 38 X := fun X e => hq.kq e (fun t k _ _ => by unfold VC; omega)
  unfold f_X8_leansAsSeen
  rw [cLast (by omega) g (sq M h.c_sm)]
  simp only [bd]
  rcases gl_e (body := b_X8_leansAsSeen_10 n (eL (mxL q q.length))) (E := fun t => t.1 = 0 ∧ okS T wd s q = false ∧ kq VC M0 t.2 ∧ t.2.2 = M.2) (fun i (X : Mem) => (nI i, X)) (mxL q q.length) (fun i X => (∀ m, m < i → okAt q m (T.ahead wd s m).lean = true) ∧ kq VC M0 X ∧ (i < mxL q q.length → CT wd j T M0 (T.ahead wd s i) X) ∧ X.2 = M.2) (fun i X hi hI => by
    obtain ⟨b1, b2, b3, bl⟩ := hI
    have b3 := b3 hi
    have hda := ahead_day (T := T) (wd := wd) (s := s) i
    have hle := b3.c_g.h_lean
    rw [b_X8_leansAsSeen_10]
    try simp only []
    rw [if_neg (show ¬ eL (mxL q q.length) < nI i by rw [Int32.lt_iff_toInt_lt, eL_toInt (by omega), nI_toInt (by omega)]; omega), b3.c_st.lean, cAllows (by omega) (by omega) (by omega) g (sq X b2)]
    simp only [bd]
    unfold j_X8_leansAsSeen_44
    by_cases c : okAt q i (T.ahead wd s i).lean = true
    · rw [if_pos c, if_neg (by decide)]
      have b4 : ∀ m, m < i + 1 → okAt q m (T.ahead wd s m).lean = true := fun m hm => by
        by_cases e : m = i
        · rw [e]; exact c
        · exact b1 m (by omega)
      by_cases c2 : eL (mxL q q.length) ≤ nI i
      · rw [if_pos c2]
        have c3 : mxL q q.length = i + 1 := by
          rw [Int32.le_iff_toInt_le, eL_toInt (by omega), nI_toInt (by omega)] at c2
          omega
        exact Or.inl ⟨X, by rw [nI_1], b4, b2, fun hh => absurd hh (by omega), bl⟩
      · rw [if_neg c2]
        obtain ⟨O, p1, p2, -⟩ := cTrialDay (n := n) (by omega) b3 (by omega)
        rw [p1]
        exact Or.inl ⟨O, by simp only [nI_1], b4, p2.c_sm, fun _ => p2, (cTrialL (n := n) (by omega) b3 p1 (by omega)).trans bl⟩
    · rw [if_neg c, if_pos rfl]
      refine Or.inr ⟨_, rfl, rfl, ?_, b2, bl⟩
      cases e : okS T wd s q with
      | false => rfl
      | true => exact absurd ((okS_iff hN).mp e i hi) c) n 0 M (by omega) (by omega) ⟨fun m hm => absurd hm (by omega), h.c_sm, fun _ => h, rfl⟩ with ⟨X, m, ⟨e1, e2, -, el⟩, e3⟩ | ⟨⟨t1, t2⟩, e1, e2, e3, e4, el⟩
  · refine ⟨X, ?_, e2, el⟩
    rw [show ((0 : Int32), M) = (nI 0, M) from rfl, e3, if_pos ((okS_iff hN).mpr e1)]
    refine gl_mr ?_
    rw [b_X8_leansAsSeen_10]
    try simp only []
    rw [if_pos (show eL (mxL q q.length) < nI (mxL q q.length) by rw [Int32.lt_iff_toInt_lt, eL_toInt (by omega), nI_toInt (by omega)]; omega)]
  · have e2 : t1 = 0 := e2
    subst e2
    refine ⟨t2, ?_, e4, el⟩
    rw [show ((0 : Int32), M) = (nI 0, M) from rfl, e1, if_neg (by rw [e3]; decide)]
theorem mSeenAt {k : Nat} {fa : Int32} {gv : Nat → Int32} (hn : 3000 < n) (hk : k < 1000) (g : SeG q) (h : MT wd T M0 (-1) fa gv s M) (hq : SeM q 18 54 M0) : gl (b_X9_isSeen_10 n (nI k)) n ((0 : Int32), M) = if okAt q k s.lean = true then j_X9_isSeen_58 n (nI k) M else some (.inr (0, M)) := by
  have h1 := g.1
  have hle := h.m_g.h_lean
  have hq' : SeM q 18 54 M := ⟨(h.m_k.1 0 54 (by unfold VT VM; omega)).trans hq.1, fun i p hp => ⟨(h.m_k.1 18 _ (by unfold VT VM; omega)).trans (hq.2 i p hp).1, (h.m_k.1 18 _ (by unfold VT VM; omega)).trans (hq.2 i p hp).2⟩⟩
  have step : ∀ i, i < q.length → allN (fun i => !(sd q i == k) || sl q i == s.lean) i = true → (b_X9_isSeen_10 n (nI k) (nI i, M) = some (.inl (nI (i + 1), M)) ∧ allN (fun i => !(sd q i == k) || sl q i == s.lean) (i + 1) = true) ∨ (b_X9_isSeen_10 n (nI k) (nI i, M) = some (.inr (.inr (0, M))) ∧ okAt q k s.lean = false) := fun i hi ha => by
    have hh := hq'.2 i _ (sq_get hi)
    have hs := sq_le g hi
    have y0 : (2 : Int32) * nI i = nI (2 * i) := pk_mul 2 _
    have i0 : inb (nI (2 * i)) 16 := n_in (by omega) (by decide)
    have i1 : inb (nI (2 * i + 1)) 16 := n_in (by omega) (by decide)
    have z0 : (nI (2 * i)).toNatClampNeg = 2 * i := nI_clamp (by omega)
    have z1 : (nI (2 * i + 1)).toNatClampNeg = 2 * i + 1 := nI_clamp (by omega)
    rw [b_X9_isSeen_10]
    simp only [hq'.1, y0, nI_1, ck_pos i0, ck_pos i1, z0, z1]
    rw [if_neg (nI_ge hi (by omega)), show gi M 18 (2 * i) = nI (sd q i) from hh.1, show gi M 18 (2 * i + 1) = nI (sl q i) from hh.2, h.lean]
    unfold j_X9_isSeen_52
    by_cases c1 : sd q i = k
    · rw [if_pos (by rw [c1])]
      by_cases c2 : sl q i = s.lean
      · rw [if_pos (by rw [c2]), nI_1]
        exact Or.inl ⟨rfl, by rw [allN, ha]; simp [c2]⟩
      · rw [if_neg (fun e => c2 ((nI_eq (by omega) (by omega)).mp e.symm))]
        refine Or.inr ⟨rfl, ?_⟩
        cases e : okAt q k s.lean with
        | false => rfl
        | true =>
          have := (allN_iff.mp e) i hi
          simp [c1, c2] at this
    · rw [if_neg (fun e => c1 ((nI_eq (by omega) (by omega)).mp e)), nI_1]
      exact Or.inl ⟨rfl, by rw [allN, ha]; simp [c1]⟩
  rcases gl_e (body := b_X9_isSeen_10 n (nI k)) (E := fun t => t = .inr (0, M) ∧ okAt q k s.lean = false) (fun i (_ : Unit) => (nI i, M)) q.length (fun i _ => allN (fun i => !(sd q i == k) || sl q i == s.lean) i = true) (fun i a hi ha => by
    rcases step i hi ha with ⟨e1, e2⟩ | ⟨e1, e2⟩
    · exact Or.inl ⟨(), e1, e2⟩
    · exact Or.inr ⟨_, e1, rfl, e2⟩) n 0 () (by omega) (by omega) rfl with ⟨a', m, e1, e2⟩ | ⟨t, e1, e2, e3⟩
  · rw [show ((0 : Int32), M) = (nI 0, M) from rfl, e2, if_pos (show okAt q k s.lean = true from e1)]
    refine gl_mr ?_
    rw [b_X9_isSeen_10]
    simp only [hq'.1]
    rw [if_pos (nI_le (Nat.le_refl _) (by omega))]
  · rw [show ((0 : Int32), M) = (nI 0, M) from rfl, e1, e2, if_neg (by rw [e3]; decide)]
    rfl
theorem MT.s19 {ow fa y : Int32} {gv : Nat → Int32} {k : Nat} (h : MT wd T M0 ow fa gv s M) : MT wd T M0 ow fa gv s (si M 19 k y) := by
  have e : kq (fun t _ => t = 19) M (si M 19 k y) := kq.rf.si (V := fun t _ => t = 19) rfl _
  exact ⟨h.m_st.kq h.m_g e (fun k _ _ => by omega), h.m_tw.kq e (fun k _ _ => by omega) (fun k => by omega) (fun k => by omega), (e _ _ (by omega)).trans h.m_w, (e _ _ (by omega)).trans h.m_fa, fun w hw => (e _ _ (by omega)).trans (h.m_gv w hw), h.m_g, h.m_t, h.m_k.tr (kp.rf.si (by unfold VT; omega) _)⟩
theorem mSeenOK {fa : Int32} {gv : Nat → Int32} (hn : 3000 < n) (g : SeG q) (h : MT wd T M0 (-1) fa gv s M) (hq : SeM q 18 54 M0) (hd : s.day ≤ 9999) : ∃ M', f_X9_isSeen n M = some (if okS T wd s q = true then (1 : Int32) else 0, M') ∧ kp VT M0 M' ∧ gi M' 0 52 = -1 ∧ (okS T wd s q = true → ∀ k, k < 5 → gi M' 19 k = nI (T.ahead wd s (k + 1)).lean) := by
  have hN : ∀ i, i < q.length → sd q i < 21 := fun i hi => by have := (sq_le g hi).1; omega
  unfold f_X9_isSeen
  rcases gl_e (body := b_X9_isSeen_2 n) (E := fun t => t.1 = 0 ∧ okS T wd s q = false ∧ kp VT M0 t.2 ∧ gi t.2 0 52 = -1) (fun i (X : Mem) => (nI i, X)) 21 (fun i X => (∀ m, m < i → okAt q m (T.ahead wd s m).lean = true) ∧ (∀ m, m < 5 → m + 1 < i → gi X 19 m = nI (T.ahead wd s (m + 1)).lean) ∧ ∃ fa gv, MT wd T M0 (-1) fa gv (T.ahead wd s i) X) (fun i X hi hI => by
    obtain ⟨b1, b2, fa, gv, b3⟩ := hI
    have hda := ahead_day (T := T) (wd := wd) (s := s) i
    rw [b_X9_isSeen_2]
    try simp only []
    rw [if_neg (show ¬ (20 : Int32) < nI i from nI_nlt (a := 20) (by omega) (by omega)), mSeenAt hn (by omega) g b3 hq]
    by_cases c : okAt q i (T.ahead wd s i).lean = true
    · rw [if_pos c]
      have b4 : ∀ m, m < i + 1 → okAt q m (T.ahead wd s m).lean = true := fun m hm => by
        by_cases e : m = i
        · rw [e]; exact c
        · exact b1 m (by omega)
      have j83 : ∀ (Y : Mem) (fa : Int32) (gv : Nat → Int32), MT wd T M0 (-1) fa gv (T.ahead wd s i) Y → (∀ m, m < 5 → m + 1 < i + 1 → gi Y 19 m = nI (T.ahead wd s (m + 1)).lean) → ∃ a', j_X9_isSeen_83 n (nI i) Y = some (.inl (nI (i + 1), a')) ∧ (∀ m, m < i + 1 → okAt q m (T.ahead wd s m).lean = true) ∧ (∀ m, m < 5 → m + 1 < i + 1 → gi a' 19 m = nI (T.ahead wd s (m + 1)).lean) ∧ ∃ fa gv, MT wd T M0 (-1) fa gv (T.ahead wd s (i + 1)) a' := fun Y fa gv c1 c2 => by
        obtain ⟨O, p1, p2, p3, p4, -⟩ := mDay (n := n) (b := 54) (by omega) (by decide) c1.m_g c1.m_t c1.m_st c1.m_tw (Or.inl ⟨c1.m_w, rfl⟩)
        obtain ⟨O', r1, r2, -⟩ := mTrialDay (n := n) (by omega) c1 (by omega)
        have eO : O' = O := by
          have := r1.symm.trans p1
          injection this
        subst eO
        refine ⟨O', ?_, b4, fun m h1 h2 => by rw [p4.1 19 m (by unfold VM; omega)]; exact c2 m h1 h2, _, _, r2⟩
        unfold j_X9_isSeen_83
        rw [r1]
        simp only [bd, nI_1]
      unfold j_X9_isSeen_58
      by_cases ci : i = 0
      · rw [if_pos (show nI i ≤ 0 by rw [ci]; decide)]
        exact Or.inl (j83 X fa gv b3 (fun m h1 h2 => absurd h2 (by omega)))
      · rw [if_neg (nI_nle (by omega) (by omega))]
        by_cases c6 : 6 ≤ i
        · rw [if_pos (show (6 : Int32) ≤ nI i from nI_le (a := 6) c6 (by omega))]
          exact Or.inl (j83 X fa gv b3 (fun m h1 h2 => b2 m h1 (by omega)))
        · have p0 : nI i - (1 : Int32) = nI (i - 1) := pk_sub (b := 1) (by omega)
          rw [if_neg (show ¬ (6 : Int32) ≤ nI i from nI_ge (b := 6) (by omega) (by decide)), p0, ck_pos (n_in (by omega) (by decide)), nI_clamp (by omega), b3.lean]
          refine Or.inl (j83 _ fa gv b3.s19 (fun m h1 h2 => ?_))
          rw [gi_si]
          by_cases cm : m = i - 1
          · rw [if_pos ⟨rfl, cm⟩, show m + 1 = i by omega]
          · rw [if_neg (by omega)]
            exact b2 m h1 (by omega)
    · rw [if_neg c]
      refine Or.inr ⟨_, rfl, rfl, ?_, b3.m_k, b3.m_w⟩
      cases e : okS T wd s q with
      | false => rfl
      | true => exact absurd ((okS_iff hN).mp e i hi) c) n 0 M (by omega) (by omega) ⟨fun m hm => absurd hm (by omega), fun m _ hm => absurd hm (by omega), _, _, h⟩ with ⟨X, m, ⟨e1, e2, fa', gv', e4⟩, e3⟩ | ⟨⟨t1, t2⟩, e1, e2, e3, e4, e5⟩
  · refine ⟨X, ?_, e4.m_k, e4.m_w, fun _ k hk => e2 k hk (by omega)⟩
    rw [show ((0 : Int32), M) = (nI 0, M) from rfl, e3, if_pos ((okS_iff hN).mpr e1)]
    refine gl_mr ?_
    rw [b_X9_isSeen_2]
    try simp only []
    rw [if_pos (show (20 : Int32) < nI 21 by decide)]
  · have e2 : t1 = 0 := e2
    subst e2
    refine ⟨t2, ?_, e4, e5, fun c => absurd c (by rw [e3]; decide)⟩
    rw [show ((0 : Int32), M) = (nI 0, M) from rfl, e1, if_neg (by rw [e3]; decide)]
end S
