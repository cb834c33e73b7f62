/-! Days ahead, and two loops that go side by side. -/
theorem ok2_for {S1 T1 S2 T2 A : Type} {body1 : S1 → Option (S1 ⊕ T1)} {body2 : S2 → Option (S2 ⊕ T2)} {P : T1 → T2 → Prop} (st1 : Nat → A → S1) (st2 : Nat → A → S2) (N : Nat) (I : Nat → A → Prop)
    (hs : ∀ k a, k < N → I k a → (∃ a', body1 (st1 k a) = some (.inl (st1 (k + 1) a')) ∧ body2 (st2 k a) = some (.inl (st2 (k + 1) a')) ∧ I (k + 1) a') ∨ (∃ x y, body1 (st1 k a) = some (.inr x) ∧ body2 (st2 k a) = some (.inr y) ∧ P x y))
    (he : ∀ a, I N a → ∃ x y, body1 (st1 N a) = some (.inr x) ∧ body2 (st2 N a) = some (.inr y) ∧ P x y) : ∀ (n1 n2 k : Nat) (a : A), k ≤ N → N - k < n1 → N - k < n2 → I k a → ∃ x y, gl body1 n1 (st1 k a) = some x ∧ gl body2 n2 (st2 k a) = some y ∧ P x y := by
  intro n1
  induction n1 with
  | zero => intro n2 k a _ h; omega
  | succ n1 ih =>
    intro n2 k a hk h1 h2 hi
    obtain ⟨n2, rfl⟩ : ∃ q, n2 = q + 1 := ⟨n2 - 1, by omega⟩
    by_cases hkN : k = N
    · subst hkN
      obtain ⟨x, y, e1, e2, hp⟩ := he a hi
      exact ⟨x, y, by rw [gl, e1], by rw [gl, e2], hp⟩
    · rcases hs k a (by omega) hi with ⟨a', e1, e2, hi'⟩ | ⟨x, y, e1, e2, hp⟩
      · rw [gl_inl e1, gl_inl e2]
        exact ih n2 (k + 1) a' (by omega) (by omega) (by omega) hi'
      · exact ⟨x, y, by rw [gl, e1], by rw [gl, e2], hp⟩
def Tw.ahead (T : Tw) (wd : Nat) (s : Sp) : Nat → Sp
  | 0 => s
  | k + 1 => T.nxt wd (T.ahead wd s k)
theorem nxt_day {T : Tw} {wd : Nat} {s : Sp} : (T.nxt wd s).day = s.day + 1 := day_day
theorem ahead_day {T : Tw} {wd : Nat} {s : Sp} : ∀ k, (T.ahead wd s k).day = s.day + k
  | 0 => rfl
  | k + 1 => by rw [Tw.ahead, nxt_day, ahead_day k]; omega
theorem ahead_good {T : Tw} {wd : Nat} {s : Sp} (g : s.Good wd) : ∀ k, s.day + k ≤ 20000 → (T.ahead wd s k).Good wd
  | 0, _ => g
  | k + 1, h => by
    have := ahead_day (T := T) (wd := wd) (s := s) k
    exact day_good (ahead_good g k (by omega)) (by omega)
def Tw.fellN (T : Tw) (wd : Nat) (s : Sp) : Nat → Nat
  | 0 => 0
  | k + 1 => T.fellN wd s k + (T.ahead wd s (k + 1)).fell
def Tw.gaveN (T : Tw) (wd : Nat) (s : Sp) (w : Nat) : Nat → Nat
  | 0 => 0
  | k + 1 => T.gaveN wd s w k + T.gv wd (T.ahead wd s k) w
theorem fellN_le {T : Tw} {wd : Nat} {s : Sp} (g : s.Good wd) : ∀ k, s.day + k ≤ 20000 → T.fellN wd s k ≤ 16 * k
  | 0, _ => Nat.le_refl _
  | k + 1, h => by
    have h1 := fellN_le (T := T) g k (by omega)
    have h2 := (ahead_good (T := T) g (k + 1) h).h_fell
    rw [Tw.fellN]
    omega
theorem gv_le {T : Tw} {wd w : Nat} {s : Sp} (g : s.Good wd) (hw : w < wd) : T.gv wd s w ≤ 20 := (gift_is (T := T) (s1_good g) hw).2
theorem gaveN_le {T : Tw} {wd w : Nat} {s : Sp} (g : s.Good wd) (hw : w < wd) : ∀ k, s.day + k ≤ 20000 → T.gaveN wd s w k ≤ 20 * k
  | 0, _ => Nat.le_refl _
  | k + 1, h => by
    have h1 := gaveN_le (T := T) g hw k (by omega)
    have h2 := gv_le (T := T) (ahead_good (T := T) g k (by omega)) hw
    rw [Tw.gaveN]
    omega
section G
variable {n wd j d : Nat} {T : Tw} {s : Sp} {M0 M : Mem}
theorem cGo {V : Nat → Nat → Prop} (hn : 1000 < n) (hd : d < n) (h : CTV V wd j T M0 s M) (h2 : s.day + d ≤ 20000) : ∃ M', f_X8_go n (nI d) M = some (nI (T.fellN wd s d), M') ∧ CTV V wd j T M0 (T.ahead wd s d) M' := by
  obtain ⟨M', m, a1, e⟩ := gl_k (body := b_X8_go_4 n (nI d)) (fun k (M' : Mem) => (nI (T.fellN wd s k), nI k, M')) d (fun k M' => CTV V wd j T M0 (T.ahead wd s k) M') (fun k M' hk hI => by
    have hda := ahead_day (T := T) (wd := wd) (s := s) k
    obtain ⟨M1, q1, c1, -⟩ := cTrialDay hn hI (by omega)
    refine ⟨M1, ?_, c1⟩
    rw [b_X8_go_4]
    try simp only []
    rw [if_neg (nI_ge hk (by omega)), q1]
    simp only [bd]
    rw [c1.c_st.fell, nI_add, nI_1]
    rfl) n 0 M (by omega) (by omega) h
  refine ⟨M', ?_, a1⟩
  unfold f_X8_go
  rw [show ((0 : Int32), (0 : Int32), M) = (nI (T.fellN wd s 0), nI 0, M) from rfl, e]
  refine gl_mr ?_
  rw [b_X8_go_4]
  try simp only []
  rw [if_pos (nI_le (Nat.le_refl _) (by omega))]
theorem mGo {fa : Int32} {gv : Nat → Int32} (hn : 2000 < n) (hd : d < n) (h : MT wd T M0 (-1) fa gv s M) (h2 : s.day + d ≤ 20000) : ∃ M', f_X9_daysGo n (nI d) M = some M' ∧ MT wd T M0 (-1) (fa + nI (T.fellN wd s d)) (fun w => gv w + nI (T.gaveN wd s w d)) (T.ahead wd s d) M' := by
  obtain ⟨M', m, a1, e⟩ := gl_k (body := b_X9_daysGo_2 n (nI d)) (fun k (M' : Mem) => (nI k, M')) d (fun k M' => MT wd T M0 (-1) (fa + nI (T.fellN wd s k)) (fun w => gv w + nI (T.gaveN wd s w k)) (T.ahead wd s k) M') (fun k M' hk hI => by
    have hda := ahead_day (T := T) (wd := wd) (s := s) k
    obtain ⟨M1, q1, c1, -⟩ := mTrialDay hn hI (by omega)
    refine ⟨M1, ?_, ?_⟩
    · rw [b_X9_daysGo_2]
      try simp only []
      rw [if_neg (nI_ge hk (by omega)), q1]
      simp only [bd]
      rw [nI_1]
    · have e1 : fa + nI (T.fellN wd s k) + nI (T.nxt wd (T.ahead wd s k)).fell = fa + nI (T.fellN wd s (k + 1)) := by
        rw [Int32.add_assoc, nI_add]
        rfl
      have e2 : (fun w => gv w + nI (T.gaveN wd s w k) + nI (T.gv wd (T.ahead wd s k) w)) = fun w => gv w + nI (T.gaveN wd s w (k + 1)) := by
        funext w
        rw [Int32.add_assoc, nI_add]
        rfl
      rw [e1, e2] at c1
      exact c1) n 0 M (by omega) (by omega) (by
        have e1 : fa + nI (T.fellN wd s 0) = fa := Int32.add_zero fa
        have e2 : (fun w => gv w + nI (T.gaveN wd s w 0)) = gv := by
          funext w
          exact Int32.add_zero _
        rw [e1, e2]
        exact h)
  refine ⟨M', ?_, a1⟩
  unfold f_X9_daysGo
  rw [show ((0 : Int32), M) = (nI 0, M) from rfl, e]
  refine gl_mr ?_
  rw [b_X9_daysGo_2]
  try simp only []
  rw [if_pos (nI_le (Nat.le_refl _) (by omega))]
theorem mGoesTo (hn : 2000 < n) (hd : d ≤ 1000) (h : MB wd T s M0) (e : kp VT M0 M) (hw : gi M 0 52 = -1) : ∃ M', f_X9_goesTo n (nI d) M = some M' ∧ MT wd T M0 (-1) (nI (T.fellN wd s d)) (fun w => nI (T.gaveN wd s w d)) (T.ahead wd s d) M' := by
  have hda := h.n_d
  obtain ⟨M1, q1, c1⟩ := mStart hn h e
  rw [hw] at c1
  obtain ⟨M2, q2, c2⟩ := mGo hn (d := d) (by omega) c1 (by omega)
  refine ⟨M2, ?_, ?_⟩
  · unfold f_X9_goesTo
    rw [q1]
    simp only [bd]
    rw [q2]
  · have e1 : nI 0 + nI (T.fellN wd s d) = nI (T.fellN wd s d) := Int32.zero_add _
    have e2 : (fun w => nI 0 + nI (T.gaveN wd s w d)) = fun w => nI (T.gaveN wd s w d) := by
      funext w
      exact Int32.zero_add _
    rw [e1, e2] at c2
    exact c2
end G
