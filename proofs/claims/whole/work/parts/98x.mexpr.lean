/-! The reference reads a rule: its rows. -/
def wc (o : Nat) : Nat := if o = 9 then 14 else am o
def cop (row : Nat → Int32) : Nat → List Op → Prop
  | _, [] => True
  | f, .inl v :: p => row f = 1 ∧ row (f + 1) = nI v ∧ cop row (f + 2) p
  | f, .inr (.inl k) :: p => row f = 2 ∧ row (f + 1) = nI (pm k) ∧ cop row (f + 2) p
  | f, .inr (.inr j) :: p => row f = nI (am j) ∧ cop row (f + 1) p
theorem len2_app : ∀ (p q : List Op), len2 (p ++ q) = len2 p + len2 q
  | [], q => (Nat.zero_add _).symm
  | .inl v :: p, q => by
    show 2 + len2 (p ++ q) = 2 + len2 p + len2 q
    rw [len2_app p q]
    omega
  | .inr (.inl v) :: p, q => by
    show 2 + len2 (p ++ q) = 2 + len2 p + len2 q
    rw [len2_app p q]
    omega
  | .inr (.inr v) :: p, q => by
    show 1 + len2 (p ++ q) = 1 + len2 p + len2 q
    rw [len2_app p q]
    omega
theorem cop_app {row : Nat → Int32} : ∀ (p q : List Op) (f : Nat), cop row f p → cop row (f + len2 p) q → cop row f (p ++ q)
  | [], q, f, _, h => h
  | .inl v :: p, q, f, h, h2 => ⟨h.1, h.2.1, cop_app p q (f + 2) h.2.2 (by
    rw [show f + 2 + len2 p = f + (2 + len2 p) by omega]
    exact h2)⟩
  | .inr (.inl v) :: p, q, f, h, h2 => ⟨h.1, h.2.1, cop_app p q (f + 2) h.2.2 (by
    rw [show f + 2 + len2 p = f + (2 + len2 p) by omega]
    exact h2)⟩
  | .inr (.inr v) :: p, q, f, h, h2 => ⟨h.1, cop_app p q (f + 1) h.2 (by
    rw [show f + 1 + len2 p = f + (1 + len2 p) by omega]
    exact h2)⟩
theorem cop_congr {row row' : Nat → Int32} : ∀ (p : List Op) (f : Nat), (∀ k, f ≤ k → k < f + len2 p → row' k = row k) → cop row f p → cop row' f p
  | [], f, _, _ => trivial
  | .inl v :: p, f, h, h2 => by
    have e : len2 (.inl v :: p) = 2 + len2 p := rfl
    rw [e] at h
    exact ⟨(h _ (by omega) (by omega)).trans h2.1, (h _ (by omega) (by omega)).trans h2.2.1, cop_congr p (f + 2) (fun k a b => h k (by omega) (by omega)) h2.2.2⟩
  | .inr (.inl v) :: p, f, h, h2 => by
    have e : len2 (.inr (.inl v) :: p) = 2 + len2 p := rfl
    rw [e] at h
    exact ⟨(h _ (by omega) (by omega)).trans h2.1, (h _ (by omega) (by omega)).trans h2.2.1, cop_congr p (f + 2) (fun k a b => h k (by omega) (by omega)) h2.2.2⟩
  | .inr (.inr v) :: p, f, h, h2 => by
    have e : len2 (.inr (.inr v) :: p) = 1 + len2 p := rfl
    rw [e] at h
    exact ⟨(h _ (by omega) (by omega)).trans h2.1, cop_congr p (f + 1) (fun k a b => h k (by omega) (by omega)) h2.2⟩
theorem cop_cod {row : Nat → Int32} : ∀ (p : List Op) (f : Nat), cop row f p → row (f + len2 p) = 0 → cod2 row f p
  | [], f, _, h => h
  | .inl v :: p, f, h, h2 => ⟨h.1, h.2.1, cop_cod p (f + 2) h.2.2 (by
    rw [show f + 2 + len2 p = f + (2 + len2 p) by omega]
    exact h2)⟩
  | .inr (.inl v) :: p, f, h, h2 => ⟨h.1, h.2.1, cop_cod p (f + 2) h.2.2 (by
    rw [show f + 2 + len2 p = f + (2 + len2 p) by omega]
    exact h2)⟩
  | .inr (.inr v) :: p, f, h, h2 => ⟨h.1, cop_cod p (f + 1) h.2 (by
    rw [show f + 1 + len2 p = f + (1 + len2 p) by omega]
    exact h2)⟩
def wts (row : Nat → Int32) : List Nat → Prop
  | [] => True
  | o :: W => row W.length = nI (wc o) ∧ o ≤ 9 ∧ wts row W
theorem wts_congr {row row' : Nat → Int32} : ∀ (W : List Nat), (∀ k, k < W.length → row' k = row k) → wts row W → wts row' W
  | [], _, _ => trivial
  | o :: W, h, h2 => ⟨(h _ (by simp)).trans h2.1, h2.2.1, wts_congr W (fun k hk => h k (by simp; omega)) h2.2.2⟩
theorem wts_le {row : Nat → Int32} : ∀ (W : List Nat), wts row W → ∀ o, o ∈ W → o ≤ 9
  | [], _, o, h => absurd h (List.not_mem_nil)
  | a :: W, h2, o, h => by
    rcases List.mem_cons.mp h with c | c
    · rw [c]; exact h2.2.1
    · exact wts_le W h2.2.2 o c
def tst (row : Nat → Int32) : List Bool → Prop
  | [] => True
  | b :: D => row (D.length + 1) = (if b then (1 : Int32) else 0) ∧ tst row D
theorem tst_congr {row row' : Nat → Int32} : ∀ (D : List Bool), (∀ k, k < D.length + 1 → row' k = row k) → tst row D → tst row' D
  | [], _, _ => trivial
  | b :: D, h, h2 => ⟨(h _ (by simp)).trans h2.1, tst_congr D (fun k hk => h k (by simp; omega)) h2.2⟩
def Vd (s t k : Nat) : Prop := (t = 0 ∧ (k = 32 ∨ k = 35)) ∨ (t = 9 ∧ s ≤ k)
def VXr (s t k : Nat) : Prop := (t = 0 ∧ (k = 12 ∨ k = 13 ∨ (16 ≤ k ∧ k ≤ 22) ∨ (32 ≤ k ∧ k ≤ 36))) ∨ (t = 9 ∧ s ≤ k) ∨ t = 10 ∨ t = 11
theorem Vd.x {s t k : Nat} (h : Vd s t k) : VXr s t k := by
  unfold Vd VXr at *
  omega
theorem VTk.x {s t k : Nat} (h : VTk t k) : VXr s t k := by
  unfold VTk VXr at *
  omega
theorem mStg (n : Nat) (M : Mem) : ∀ o, o < 9 → f_X9_strength n (nI (am o)) M = some (nI (stg o), M)
  | 0, _ => rfl
  | 1, _ => rfl
  | 2, _ => rfl
  | 3, _ => rfl
  | 4, _ => rfl
  | 5, _ => rfl
  | 6, _ => rfl
  | 7, _ => rfl
  | 8, _ => rfl
  | k + 9, h => absurd h (by omega)
theorem am_14 : ∀ o, o < 9 → nI (am o) < (14 : Int32) ∧ 1 ≤ stg o ∧ stg o < 7 := by decide +kernel
theorem mIsOpen (n : Nat) (M : Mem) {o : Nat} (ho : o ≤ 9) : f_X9_isOpen n (nI (wc o)) M = some (if o = 9 then 1 else 0, M) := by
  unfold f_X9_isOpen wc
  by_cases c : o = 9
  · rw [if_pos c, if_pos c, if_neg (by decide)]
  · rw [if_neg c, if_neg c, if_pos (am_14 o (by omega)).1]
theorem mPuts {n : Nat} {M : Mem} {t : Nat} (h : gi M 0 32 = nI t) (ht : t < 1400) (x : Int32) : f_X9_puts n x M = some (si (si M 9 t x) 0 32 (nI (t + 1))) := by
  have z : (nI t).toNatClampNeg = t := nI_clamp (by omega)
  unfold f_X9_puts
  rw [h, ck_pos (n_in ht (by decide))]
  simp only [z]
  rw [gi_si, if_neg (by omega), h, nI_1]
section D
variable {n s : Nat}
theorem mDrops {l : Nat} {x : Int32} (hx : x = nI l ∨ (x = 0 ∧ l = 1)) (hl : 1 ≤ l ∧ l ≤ 6) : ∀ (W : List Nat) (C : List Op) (N : Nat) (M : Mem), W.length < N → gi M 0 32 = nI (s + len2 C) → cop (gi M 9) s C → gi M 0 35 = nI W.length → wts (gi M 10) W → s + len2 C + W.length ≤ 1400 → W.length ≤ 950 →
    ∃ M', gl (b_X9_drops_0 n x) N M = some M' ∧ gi M' 0 32 = nI (s + len2 (C ++ (twW l W).map act)) ∧ cop (gi M' 9) s (C ++ (twW l W).map act) ∧ gi M' 0 35 = nI (dwW l W).length ∧ wts (gi M' 10) (dwW l W) ∧ kq (Vd s) M M' ∧ (∀ t k, gj M' t k = gj M t k) := by
  intro W
  induction W with
  | nil =>
    intro C N M hN h1 h2 h3 h4 h5 h6
    obtain ⟨N, rfl⟩ : ∃ k, N = k + 1 := ⟨N - 1, by have : ([] : List Nat).length = 0 := rfl; omega⟩
    have e : C ++ (twW l []).map act = C := by show C ++ [] = C; simp
    refine ⟨M, gl_mr ?_, by rw [e]; exact h1, by rw [e]; exact h2, h3, h4, kq.rf, fun _ _ => rfl⟩
    rw [b_X9_drops_0]
    try dsimp only []
    rw [h3, if_pos (show nI ([] : List Nat).length ≤ (0 : Int32) from by decide)]
  | cons o W ih =>
    intro C N M hN h1 h2 h3 h4 h5 h6
    rw [List.length_cons] at hN h3 h5 h6
    obtain ⟨N, rfl⟩ : ∃ k, N = k + 1 := ⟨N - 1, by omega⟩
    obtain ⟨w1, w2, w3⟩ := h4
    have p1 : nI (W.length + 1) - (1 : Int32) = nI W.length := nI_sub (a := W.length + 1) (b := 1) (by omega)
    have z : (nI W.length).toNatClampNeg = W.length := nI_clamp (by omega)
    have hb : b_X9_drops_0 n x M = (if o = 9 then mr (some M) else if nI (stg o) < x then mr (some M) else some (.inl (si (si (si M 0 35 (nI W.length)) 9 (s + len2 C) (nI (am o))) 0 32 (nI (s + len2 C + 1))))) := by
      rw [b_X9_drops_0]
      try dsimp only []
      rw [h3, if_neg (show ¬ nI (W.length + 1) ≤ (0 : Int32) from nI_ge (a := 0) (by omega) (by omega)), p1, ck_pos (n_in (by omega) (by decide))]
      simp only [z, w1]
      rw [mIsOpen n M w2]
      dsimp only [bd]
      by_cases c : o = 9
      · rw [if_pos c, if_neg (show ¬ (1 : Int32) = 0 by decide), if_pos c]
      · have g35 : gi (si M 0 35 (nI W.length)) 0 35 = nI W.length := by rw [gi_si, if_pos ⟨rfl, rfl⟩]
        have g10 : gi (si M 0 35 (nI W.length)) 10 W.length = nI (am o) := by rw [gi_si, if_neg (by omega), w1, wc, if_neg c]
        have g32 : gi (si M 0 35 (nI W.length)) 0 32 = nI (s + len2 C) := by rw [gi_si, if_neg (by omega), h1]
        rw [if_neg c, if_pos (show (0 : Int32) = 0 from rfl), h3, p1, ck_pos (n_in (by omega) (by decide)), if_neg c]
        simp only [z, w1]
        rw [show wc o = am o from if_neg c, mStg n M o (by omega)]
        dsimp only []
        rw [h3, p1, g35, ck_pos (n_in (by omega) (by decide))]
        simp only [z, g10]
        rw [mPuts g32 (by omega)]
    by_cases c : o = 9
    · rw [if_pos c] at hb
      have t1 : twW l (o :: W) = [] := by
        unfold twW
        rw [List.takeWhile_cons, if_neg (by rw [c]; simp [stg]; omega)]
      have t2 : dwW l (o :: W) = o :: W := by
        unfold dwW
        rw [List.dropWhile_cons, if_neg (by rw [c]; simp [stg]; omega)]
      have e : C ++ (twW l (o :: W)).map act = C := by rw [t1]; simp
      exact ⟨M, gl_mr hb, by rw [e]; exact h1, by rw [e]; exact h2, by rw [t2]; exact h3, by rw [t2]; exact ⟨w1, w2, w3⟩, kq.rf, fun _ _ => rfl⟩
    · obtain ⟨_, s1, s2⟩ := am_14 o (by omega)
      have hlt : nI (stg o) < x ↔ ¬ l ≤ stg o := by
        rcases hx with q | ⟨q1, q2⟩
        · rw [q]
          exact (nI_ltI (by omega) (by omega)).trans (by omega)
        · rw [q1]
          constructor
          · intro q
            exact absurd q (nI_pos (by omega))
          · intro q
            omega
      rw [if_neg c] at hb
      by_cases c2 : l ≤ stg o
      · rw [if_neg (fun q => hlt.mp q c2)] at hb
        have t1 : twW l (o :: W) = o :: twW l W := by
          unfold twW
          rw [List.takeWhile_cons, if_pos (by simpa using c2)]
        have t2 : dwW l (o :: W) = dwW l W := by
          unfold dwW
          rw [List.dropWhile_cons, if_pos (by simpa using c2)]
        have l1 : len2 (C ++ [act o]) = len2 C + 1 := by rw [len2_app]; rfl
        obtain ⟨M1, hM1⟩ : ∃ M1, M1 = si (si (si M 0 35 (nI W.length)) 9 (s + len2 C) (nI (am o))) 0 32 (nI (s + len2 C + 1)) := ⟨_, rfl⟩
        rw [← hM1] at hb
        have k1 : kq (Vd s) M M1 := by
          rw [hM1]
          exact ((kq.rf.si (by unfold Vd; omega) _).si (by unfold Vd; omega) _).si (by unfold Vd; omega) _
        have r9 : ∀ k, k < s + len2 C → gi M1 9 k = gi M 9 k := fun k hk => by rw [hM1, gi_si, if_neg (by omega), gi_si, if_neg (by omega), gi_si, if_neg (by omega)]
        have r9' : gi M1 9 (s + len2 C) = nI (am o) := by rw [hM1, gi_si, if_neg (by omega), gi_si, if_pos ⟨rfl, rfl⟩]
        obtain ⟨M', a1, a2, a3, a4, a5, a6, a7⟩ := ih (C ++ [act o]) N M1 (by omega) (by rw [hM1, gi_si, if_pos ⟨rfl, rfl⟩, l1, Nat.add_assoc]) (cop_app C [act o] s (cop_congr C s (fun k _ b => r9 k b) h2) ⟨r9', trivial⟩) (by rw [hM1, gi_si, if_neg (by omega), gi_si, if_neg (by omega), gi_si, if_pos ⟨rfl, rfl⟩]) (wts_congr W (fun k _ => k1 _ _ (by unfold Vd; omega)) w3) (by omega) (by omega)
        have e : C ++ (twW l (o :: W)).map act = C ++ [act o] ++ (twW l W).map act := by rw [t1]; simp
        refine ⟨M', by rw [gl_inl hb, a1], by rw [e]; exact a2, by rw [e]; exact a3, by rw [t2]; exact a4, by rw [t2]; exact a5, k1.tr a6, fun t k => (a7 t k).trans (by rw [hM1]; rfl)⟩
      · rw [if_pos (hlt.mpr c2)] at hb
        have t1 : twW l (o :: W) = [] := by
          unfold twW
          rw [List.takeWhile_cons, if_neg (by simpa using c2)]
        have t2 : dwW l (o :: W) = o :: W := by
          unfold dwW
          rw [List.dropWhile_cons, if_neg (by simpa using c2)]
        have e : C ++ (twW l (o :: W)).map act = C := by rw [t1]; simp
        exact ⟨M, gl_mr hb, by rw [e]; exact h1, by rw [e]; exact h2, by rw [t2]; exact h3, by rw [t2]; exact ⟨w1, w2, w3⟩, kq.rf, fun _ _ => rfl⟩
theorem mStgA (n : Nat) (M : Mem) (x : Int32) : ∃ y, f_X9_strength n x M = some (y, M) ∧ ¬ y < 0 := by
  unfold f_X9_strength
  repeat' split
  all_goals exact ⟨_, rfl, by decide⟩
/-- drops behind a fault -/
theorem mDropF : ∀ (m t N : Nat) (M : Mem), m < N → gi M 0 32 = nI t → gi M 0 35 = nI m → s ≤ t → t + m ≤ 1400 → m ≤ 950 →
    ∃ M' t', gl (b_X9_drops_0 n 0) N M = some M' ∧ gi M' 0 32 = nI t' ∧ s ≤ t' ∧ t' ≤ t + m ∧ kq (Vd s) M M' := by
  intro m
  induction m with
  | zero =>
    intro t N M hN h1 h3 h4 h5 h6
    obtain ⟨N, rfl⟩ : ∃ k, N = k + 1 := ⟨N - 1, by omega⟩
    refine ⟨M, t, gl_mr ?_, h1, h4, by omega, kq.rf⟩
    rw [b_X9_drops_0]
    try dsimp only []
    rw [h3, if_pos (show nI 0 ≤ (0 : Int32) from by decide)]
  | succ m ih =>
    intro t N M hN h1 h3 h4 h5 h6
    obtain ⟨N, rfl⟩ : ∃ k, N = k + 1 := ⟨N - 1, by omega⟩
    have p1 : nI (m + 1) - (1 : Int32) = nI m := nI_sub (a := m + 1) (b := 1) (by omega)
    have z : (nI m).toNatClampNeg = m := nI_clamp (by omega)
    obtain ⟨y, hy, hy0⟩ := mStgA n M (gi M 10 m)
    have g35 : gi (si M 0 35 (nI m)) 0 35 = nI m := by rw [gi_si, if_pos ⟨rfl, rfl⟩]
    have g32 : gi (si M 0 35 (nI m)) 0 32 = nI t := by rw [gi_si, if_neg (by omega), h1]
    obtain ⟨M1, hM1⟩ : ∃ M1, M1 = si (si (si M 0 35 (nI m)) 9 t (gi (si M 0 35 (nI m)) 10 m)) 0 32 (nI (t + 1)) := ⟨_, rfl⟩
    have hb : b_X9_drops_0 n 0 M = (if gi M 10 m < (14 : Int32) then some (.inl M1) else mr (some M)) := by
      rw [b_X9_drops_0]
      try dsimp only []
      rw [h3, if_neg (show ¬ nI (m + 1) ≤ (0 : Int32) from nI_ge (a := 0) (by omega) (by omega)), p1, ck_pos (n_in (by omega) (by decide))]
      simp only [z]
      by_cases c : gi M 10 m < (14 : Int32)
      · rw [show f_X9_isOpen n (gi M 10 m) M = some ((0 : Int32), M) from if_pos c]
        dsimp only [bd]
        rw [if_pos (show (0 : Int32) = 0 from rfl), h3, p1, ck_pos (n_in (by omega) (by decide))]
        simp only [z]
        rw [hy]
        dsimp only []
        rw [if_neg hy0, h3, p1, g35, ck_pos (n_in (by omega) (by decide)), if_pos c]
        simp only [z]
        rw [mPuts g32 (by omega), ← hM1]
      · rw [show f_X9_isOpen n (gi M 10 m) M = some ((1 : Int32), M) from if_neg c]
        dsimp only [bd]
        rw [if_neg (show ¬ (1 : Int32) = 0 by decide), if_neg c]
    by_cases c : gi M 10 m < (14 : Int32)
    · rw [if_pos c] at hb
      have k1 : kq (Vd s) M M1 := by
        rw [hM1]
        exact ((kq.rf.si (by unfold Vd; omega) _).si (by unfold Vd; omega) _).si (by unfold Vd; omega) _
      obtain ⟨M', t', a1, a2, a3, a4, a5⟩ := ih (t + 1) N M1 (by omega) (by rw [hM1, gi_si, if_pos ⟨rfl, rfl⟩]) (by rw [hM1, gi_si, if_neg (by omega), gi_si, if_neg (by omega), gi_si, if_pos ⟨rfl, rfl⟩]) (by omega) (by omega) (by omega)
      exact ⟨M', t', by rw [gl_inl hb, a1], a2, a3, by omega, k1.tr a5⟩
    · rw [if_neg c] at hb
      exact ⟨M, t, gl_mr hb, h1, h4, by omega, kq.rf⟩
theorem mOpened : ∀ (W : List Nat) (N : Nat) (M : Mem), W.length < N → W.length ≤ 950 → wts (gi M 10) W → gl (b_X9_isOpened_7 n) N (nI W.length - 1, M) = some (if 9 ∈ W then 1 else 0, M) := by
  intro W
  induction W with
  | nil =>
    intro N M hN h6 h4
    obtain ⟨N, rfl⟩ : ∃ k, N = k + 1 := ⟨N - 1, by have : ([] : List Nat).length = 0 := rfl; omega⟩
    exact gl_mr (o := some ((0 : Int32), M)) rfl
  | cons o W ih =>
    intro N M hN h6 h4
    rw [List.length_cons] at hN h6
    obtain ⟨N, rfl⟩ : ∃ k, N = k + 1 := ⟨N - 1, by omega⟩
    obtain ⟨w1, w2, w3⟩ := h4
    have p1 : nI (W.length + 1) - (1 : Int32) = nI W.length := nI_sub (a := W.length + 1) (b := 1) (by omega)
    have z : (nI W.length).toNatClampNeg = W.length := nI_clamp (by omega)
    have hb : b_X9_isOpened_7 n (nI W.length, M) = (if o = 9 then mr (some ((1 : Int32), M)) else some (.inl (nI W.length - 1, M))) := by
      rw [b_X9_isOpened_7]
      try dsimp only []
      rw [if_neg (nI_pos (by omega)), ck_pos (n_in (by omega) (by decide))]
      simp only [z, w1]
      rw [mIsOpen n M w2]
      dsimp only [bd]
      by_cases c : o = 9
      · rw [if_pos c, if_neg (show ¬ (1 : Int32) = 0 by decide), if_pos c]
        unfold j_X9_isOpened_29
        rw [if_neg (nI_pos (by omega))]
      · rw [if_neg c, if_pos (show (0 : Int32) = 0 from rfl), if_neg c, Int32.sub_eq_add_neg]
    rw [List.length_cons, p1]
    by_cases c : o = 9
    · rw [if_pos c] at hb
      rw [gl_mr hb, if_pos (by rw [c]; simp)]
    · rw [if_neg c] at hb
      rw [gl_inl hb, ih N M (by omega) (by omega) w3]
      have : (9 ∈ o :: W) ↔ 9 ∈ W := by
        rw [List.mem_cons]
        constructor
        · rintro (q | q)
          · exact absurd q.symm c
          · exact q
        · exact Or.inr
      by_cases c2 : 9 ∈ W
      · rw [if_pos c2, if_pos (this.mpr c2)]
      · rw [if_neg c2, if_neg (fun q => c2 (this.mp q))]
end D
