/-! The reference reads a rule. -/
def contO (n N1 : Nat) (o : Option ((Int32 × Int32 × Mem) ⊕ Mem)) : Option Mem := match o with
  | none => none
  | some (.inl q) => gl (b_X9_operand_4 n) N1 q
  | some (.inr x) => some x
theorem contO_gl {n N1 : Nat} {q : Int32 × Int32 × Mem} : gl (b_X9_operand_4 n) (N1 + 1) q = contO n N1 (b_X9_operand_4 n q) := by
  rw [gl]
  unfold contO
  rcases b_X9_operand_4 n q with _ | (a | a) <;> rfl
section O
variable {f : Nat → Nat} {e s r n : Nat} {C : List Op} {W : List Nat} {D : List Bool} {ts : List Tok} {M : Mem}
theorem partF {k p : Nat} (h : FS s k p M) : f_X9_part n M = some M := by
  unfold f_X9_part
  have := h.z_b
  rw [mBad h.z_k (by omega)]
  dsimp only [bd]
  rw [if_pos (show (0 : Int32) = 0 from rfl)]
theorem c120 : j_X9_operand_120 n M = f_X9_part n M := by
  unfold j_X9_operand_120
  cases f_X9_part n M <;> rfl
theorem o4_0 {N1 : Nat} {x2 : Int32} : gl (b_X9_operand_4 n) (N1 + 1) (x2, (0 : Int32), M) = f_X9_part n M := by
  rw [gl_mr (o := j_X9_operand_120 n M) (by
    rw [b_X9_operand_4]
    try dsimp only []
    rw [if_pos (show (0 : Int32) = 0 from rfl)])]
  exact c120
theorem o4_F {N1 : Nat} {x2 x3 : Int32} {k p : Nat} (h : FS s k p M) : gl (b_X9_operand_4 n) (N1 + 1) (x2, x3, M) = some M := by
  have hz := h.z_b
  by_cases c : x3 = 0
  · subst c
    rw [o4_0, partF h]
  · rw [gl_mr (o := j_X9_operand_120 n M) (by
      rw [b_X9_operand_4]
      try dsimp only []
      rw [if_neg c, mBad h.z_k (by omega)]
      dsimp only [bd]
      rw [if_pos (show (0 : Int32) = 0 from rfl)])]
    rw [c120, partF h]
theorem b18_75 (he : e ≤ 700) (hn : 800 < n) (h : RP f e s r C W D ts M) {m : Nat} {x2 : Int32} (hm : (m = 2 ∧ x2 = 1) ∨ (m = 1 ∧ x2 = 0)) (h1 : ¬ (m = 2 ∧ (hdT e ts).k = 1 ∧ (hdT e ts).v = 11)) (x4 : Int32) : b_X9_operand_18 n x2 (x4, M) = mr (j_X9_operand_75 n x2 M) := by
  rw [b_X9_operand_18]
  try dsimp only []
  rw [mGood h.a_f]
  dsimp only [bd]
  rw [if_neg (show ¬ (1 : Int32) = 0 by decide)]
  rcases hm with ⟨m2, x⟩ | ⟨_, x⟩
  · rw [x, if_neg (show ¬ (1 : Int32) = 0 by decide), mKnownS he hn h.a_t]
    dsimp only []
    rw [if_neg (fun q => h1 ⟨m2, (kwI_20 _).1.mp q⟩)]
  · rw [x, if_pos (show (0 : Int32) = 0 from rfl)]
theorem j75_s (hf : ∀ q, f q < 256) (h : RP f e s r C W D ts M) {x2 : Int32} : j_X9_operand_75 n x2 M = if (hdT e ts).k = 3 ∧ (hdT e ts).v = 40 then j_X9_operand_96 n 1 x2 M else some (.inl (x2, (0 : Int32), M)) := by
  unfold j_X9_operand_75
  rw [mGood h.a_f]
  dsimp only [bd]
  rw [if_neg (show ¬ (1 : Int32) = 0 by decide), show (40 : Int32) = nI 40 from rfl, mIsSign hf h.a_t (c := 40) (by decide)]
  by_cases c : (hdT e ts).k = 3 ∧ (hdT e ts).v = 40
  · rw [if_pos c, if_pos c]
    dsimp only []
    rw [if_neg (show ¬ (1 : Int32) = 0 by decide)]
  · rw [if_neg c, if_neg c]
    dsimp only []
    rw [if_pos (show (0 : Int32) = 0 from rfl)]
    unfold j_X9_operand_95 j_X9_operand_96
    rw [if_pos (show (0 : Int32) = 0 from rfl)]
    rfl
theorem dpK_b (T : Tok) : 1 ≤ dpK T ∧ dpK T ≤ 3 := by
  unfold dpK
  split <;> decide
theorem mDeepF (hf : ∀ q, f q < 256) (h : RP f e s r C W D ts M) (hb : s + len2 C + W.length < 1400) (hw : W.length ≤ 700) (hd : D.length = 6) : ∃ M', f_X9_deeper n M = some M' ∧ FS s (dpK (hdT e ts)) (hdT e ts).p M' ∧ kq (VXr s) M M' := by
  have tk := (h.a_t.tf hf).f_k
  have h56 : dpK (hdT e ts) = 2 → ∃ M', j_X9_deeper_56 n M = some M' ∧ FS s (dpK (hdT e ts)) (hdT e ts).p M' ∧ kq (VXr s) M M' := by
    intro hk
    obtain ⟨M0, w1, w2, w3, _⟩ := h.wrong (n := n) (k := 2) hb hw (by decide)
    unfold j_X9_deeper_56 j_X9_deeper_61
    rw [show f_X9_wrong n (2 : Int32) M = some M0 from w1]
    rw [hk]
    exact ⟨M0, rfl, w2, w3⟩
  unfold f_X9_deeper
  rw [h.a_d, hd, if_pos (show (6 : Int32) ≤ nI 6 from by decide), h.a_t.2.m_k]
  by_cases c2 : (hdT e ts).k = 2
  · rw [if_pos (by rw [c2]; rfl)]
    exact h56 (if_pos (Or.inl c2))
  rw [if_neg (ne_2 c2 (by omega))]
  by_cases c1 : (hdT e ts).k = 1
  · rw [if_pos (by rw [c1]; rfl)]
    exact h56 (if_pos (Or.inr (Or.inl c1)))
  rw [if_neg (ne_1 c1 (by omega)), show (40 : Int32) = nI 40 from rfl, mIsSign hf h.a_t (c := 40) (by decide)]
  dsimp only [bd]
  by_cases c : (hdT e ts).k = 3 ∧ (hdT e ts).v = 40
  · rw [if_pos c, if_neg (show ¬ (1 : Int32) = 0 by decide)]
    exact h56 (if_pos (Or.inr (Or.inr c)))
  · rw [if_neg c, if_pos (show (0 : Int32) = 0 from rfl)]
    have hk : dpK (hdT e ts) = 1 := if_neg (fun q => by
      rcases q with q | q | q
      · exact c2 q
      · exact c1 q
      · exact c q)
    obtain ⟨M0, w1, w2, w3, _⟩ := h.wrong (n := n) (k := 1) hb hw (by decide)
    unfold j_X9_deeper_61
    rw [show f_X9_wrong n (1 : Int32) M = some M0 from w1, hk]
    exact ⟨M0, rfl, w2, w3⟩
theorem mDeep (h : RP f e s r C W D ts M) (hd : D.length < 6) : ∃ M', f_X9_deeper n M = some M' ∧ RP f e s r C W (false :: D) ts M' ∧ kq (VXr s) M M' := by
  unfold f_X9_deeper
  have z : (nI (D.length + 1)).toNatClampNeg = D.length + 1 := nI_clamp (by omega)
  have g36 : gi (si M 0 36 (nI (D.length + 1))) 0 36 = nI (D.length + 1) := by rw [gi_si, if_pos ⟨rfl, rfl⟩]
  rw [h.a_d, if_neg (show ¬ (6 : Int32) ≤ nI D.length from nI_ge (b := 6) hd (by decide)), nI_1, g36, ck_pos (n_in (by omega) (by decide))]
  simp only [z]
  have g : ∀ t k, ¬ (t = 0 ∧ k = 36) → ¬ (t = 11 ∧ k = D.length + 1) → gi (si (si M 0 36 (nI (D.length + 1))) 11 (D.length + 1) 0) t k = gi M t k := fun t k h1 h2 => by rw [gi_si, if_neg h2, gi_si, if_neg h1]
  refine ⟨_, rfl, ⟨(h.a_t.st (by omega) (by omega) _).st (by omega) (by omega) _, (g _ _ (by omega) (by omega)).trans h.a_c, cop_congr C s (fun k _ _ => g _ _ (by omega) (by omega)) h.a_o, (g _ _ (by omega) (by omega)).trans h.a_w, wts_congr W (fun k _ => g _ _ (by omega) (by omega)) h.a_v, by rw [gi_si, if_neg (by omega), g36]; rfl, ⟨by rw [gi_si, if_pos ⟨rfl, rfl⟩]; rfl, tst_congr D (fun k hk => g _ _ (by omega) (by omega)) h.a_e⟩, (g _ _ (by omega) (by omega)).trans h.a_1, (g _ _ (by omega) (by omega)).trans h.a_2, (g _ _ (by omega) (by omega)).trans h.a_f, (g _ _ (by omega) (by omega)).trans h.a_g⟩, (kq.rf.si (by unfold VXr; omega) _).si (by unfold VXr; omega) _⟩
theorem OU.lift {T : Tok} {R : Res} {M1 : Mem} {o : Option Mem} (h : OU f e s r ts M1 R o) (k : kq (VXr s) M M1) : OU f e s r (T :: ts) M R o := by
  obtain ⟨M', k1, k2, k3⟩ := h
  refine ⟨M', k1, k.tr k2, ?_⟩
  rcases k3 with ⟨C', W', D', ts', a, b, c⟩ | z
  · exact Or.inl ⟨C', W', D', ts', a, b, Nat.lt_succ_of_lt c⟩
  · exact Or.inr z
end O
section P
variable {f : Nat → Nat} {e s r n : Nat}
theorem mOper (he : e ≤ 700) (hf : ∀ q, f q < 256) (hn : 800 < n) : ∀ (ts : List Tok) (m c : Nat) (x2 : Int32) (C : List Op) (W : List Nat) (D : List Bool) (N N1 : Nat) (M : Mem), RS f e s r C W D ts M → (m = 2 ∧ x2 = 1) ∨ (m = 1 ∧ x2 = 0) → c ≤ 6 → ts.length + 3 ≤ N → ts.length + 3 ≤ N1 → ts.length + 3 ≤ n → OU f e s r ts M (amR r e ts m c C W D) (contO n N1 (gl (b_X9_operand_18 n x2) N (nI c, M))) := by
  intro ts
  induction ts with
  | nil =>
    intro m c x2 C W D N N1 M h hm hc hN hN1 hn2
    obtain ⟨N, rfl⟩ : ∃ k, N = k + 1 := ⟨N - 1, by omega⟩
    obtain ⟨N1, rfl⟩ : ∃ k, N1 = k + 1 := ⟨N1 - 1, by omega⟩
    have h1 : ¬ (m = 2 ∧ (hdT e []).k = 1 ∧ (hdT e []).v = 11) := fun q => absurd q.2.1 (show ¬ (0 : Nat) = 1 by decide)
    have h2 : ¬ ((hdT e []).k = 3 ∧ (hdT e []).v = 40) := fun q => absurd q.1 (show ¬ (0 : Nat) = 3 by decide)
    rw [gl_mr (b18_75 he hn h.1 hm h1 _), j75_s hf h.1, if_neg h2]
    show OU _ _ _ _ _ _ _ (gl (b_X9_operand_4 n) (N1 + 1) (x2, (0 : Int32), M))
    rw [o4_0]
    exact mPart he hf hn h (by omega) h1 h2
  | cons T ts ih =>
    intro m c x2 C W D N N1 M h hm hc hN hN1 hn2
    rw [List.length_cons] at hN hN1 hn2
    obtain ⟨N, rfl⟩ : ∃ k, N = k + 1 := ⟨N - 1, by omega⟩
    obtain ⟨N1, rfl⟩ : ∃ k, N1 = k + 1 := ⟨N1 - 1, by omega⟩
    have hr := h.1
    obtain ⟨b1, b2, b3⟩ := h.p hf he
    have hm0 : ¬ m = 0 := by omega
    by_cases cn : m = 2 ∧ T.k = 1 ∧ T.v = 11
    · have hx2 : x2 = 1 := by
        rcases hm with q | q
        · exact q.2
        · exact absurd (q.1.symm.trans cn.1) (by decide)
      obtain ⟨b4, b5⟩ := b3 (show ¬ T.k = 0 by omega)
      have ea : amR r e (T :: ts) m c C W D = if c = 6 then .inl (2, T.p) else amR r e ts 2 (c + 1) C (0 :: W) D := by
        rw [amR, if_neg hm0, if_pos cn]
      rw [ea]
      by_cases c6 : c = 6
      · rw [if_pos c6]
        obtain ⟨M0, w1, w2, w3, _⟩ := hr.wrong (n := n) (k := 2) (by omega) b2 (by decide)
        have e1 : b_X9_operand_18 n x2 (nI c, M) = some (.inl (nI (c + 1), M0)) := by
          rw [b_X9_operand_18]
          try dsimp only []
          rw [mGood hr.a_f]
          dsimp only [bd]
          rw [if_neg (show ¬ (1 : Int32) = 0 by decide), hx2, if_neg (show ¬ (1 : Int32) = 0 by decide), mKnownS he hn hr.a_t]
          dsimp only []
          rw [if_pos ((kwI_20 (hdT e (T :: ts))).1.mpr cn.2), if_pos (by rw [c6]; rfl), show f_X9_wrong n (2 : Int32) M = some M0 from w1]
          dsimp only []
          unfold j_X9_operand_50
          rw [mBad w2.z_k (by decide)]
          dsimp only [bd]
          rw [if_pos (show (0 : Int32) = 0 from rfl), nI_1]
        obtain ⟨N, rfl⟩ : ∃ k, N = k + 1 := ⟨N - 1, by omega⟩
        have e2 : b_X9_operand_18 n x2 (nI (c + 1), M0) = mr (j_X9_operand_75 n x2 M0) := by
          rw [b_X9_operand_18]
          try dsimp only []
          rw [mBad w2.z_k (by decide)]
          dsimp only [bd]
          rw [if_pos (show (0 : Int32) = 0 from rfl)]
        have e3 : j_X9_operand_75 n x2 M0 = some (.inl (x2, (0 : Int32), M0)) := by
          unfold j_X9_operand_75
          rw [mBad w2.z_k (by decide)]
          dsimp only [bd]
          rw [if_pos (show (0 : Int32) = 0 from rfl)]
          unfold j_X9_operand_95 j_X9_operand_96
          rw [if_pos (show (0 : Int32) = 0 from rfl)]
          rfl
        rw [gl_inl e1, gl_mr e2, e3]
        show OU _ _ _ _ _ _ _ (gl (b_X9_operand_4 n) (N1 + 1) (x2, (0 : Int32), M0))
        rw [o4_F w2]
        exact ⟨M0, rfl, w3, Or.inr ⟨2, T.p, w2, rfl⟩⟩
      · rw [if_neg c6]
        obtain ⟨M1, p1, p2, p3⟩ := hr.wait (n := n) (o := 0) (x := 3) (by omega) (by decide) rfl
        obtain ⟨M2, q1, q2, q3⟩ := p2.go he hf hn
        have e1 : b_X9_operand_18 n x2 (nI c, M) = some (.inl (nI (c + 1), M2)) := by
          rw [b_X9_operand_18]
          try dsimp only []
          rw [mGood hr.a_f]
          dsimp only [bd]
          rw [if_neg (show ¬ (1 : Int32) = 0 by decide), hx2, if_neg (show ¬ (1 : Int32) = 0 by decide), mKnownS he hn hr.a_t]
          dsimp only []
          rw [if_pos ((kwI_20 (hdT e (T :: ts))).1.mpr cn.2), if_neg (show ¬ nI c = (6 : Int32) from fun q => c6 ((nI_eq (b := 6) (by omega) (by decide)).mp q))]
          unfold j_X9_operand_50
          rw [mGood hr.a_f]
          dsimp only [bd]
          rw [if_neg (show ¬ (1 : Int32) = 0 by decide), p1]
          dsimp only []
          rw [q1]
          dsimp only []
          rw [nI_1]
        rw [gl_inl e1]
        have hx : T.p + 1 ≤ (hdT e ts).p := hr.a_t.nxt hf (show ¬ T.k = 0 by omega)
        have hb1 : s + len2 C + W.length + 1 ≤ 2 * T.p := h.2.1.1
        have hb2 : W.length ≤ T.p := h.2.1.2
        refine (ih 2 (c + 1) x2 C (0 :: W) D N (N1 + 1) M2 ⟨q2, ⟨?_, ?_⟩, ?_, h.2.2.2⟩ (Or.inl ⟨rfl, hx2⟩) (by omega) (by omega) (by omega) (by omega)).lift (p3.tr (q3.mono (fun _ _ q => q.x)))
        · rw [List.length_cons]
          show s + len2 C + (W.length + 1) + 1 ≤ 2 * (hdT e ts).p
          omega
        · rw [List.length_cons]
          show W.length + 1 ≤ (hdT e ts).p
          omega
        · rw [List.count_cons_of_ne (by decide)]
          exact h.2.2.1
    · rw [gl_mr (b18_75 he hn hr hm cn _), j75_s hf hr]
      by_cases cp : T.k = 3 ∧ T.v = 40
      · obtain ⟨b4, b5⟩ := b3 (show ¬ T.k = 0 by omega)
        have ea : amR r e (T :: ts) m c C W D = if 6 ≤ D.length then .inl (dpK (hdT e ts), (hdT e ts).p) else amR r e ts 2 0 C (9 :: W) (false :: D) := by
          rw [amR, if_neg hm0, if_neg cn, if_pos cp]
        rw [ea, if_pos (show (hdT e (T :: ts)).k = 3 ∧ (hdT e (T :: ts)).v = 40 from cp)]
        obtain ⟨M1, p1, p2, p3⟩ := hr.wait (n := n) (o := 9) (x := 14) (by omega) (by decide) rfl
        obtain ⟨M2, q1, q2, q3⟩ := p2.go he hf hn
        have hx : T.p + 1 ≤ (hdT e ts).p := hr.a_t.nxt hf (show ¬ T.k = 0 by omega)
        have hb1 : s + len2 C + W.length + 1 ≤ 2 * T.p := h.2.1.1
        have hb2 : W.length ≤ T.p := h.2.1.2
        have q2' : RP f e s r C (9 :: W) D ts M2 := q2
        have hl : (9 :: W).length = W.length + 1 := rfl
        unfold j_X9_operand_96
        rw [if_neg (show ¬ (1 : Int32) = 0 by decide), p1]
        dsimp only [bd]
        rw [q1]
        dsimp only []
        by_cases c6 : 6 ≤ D.length
        · rw [if_pos c6]
          obtain ⟨M3, d1, d2, d3⟩ := mDeepF (n := n) hf q2' (by omega) (by omega) (by have := h.2.2.2; omega)
          rw [d1]
          show OU _ _ _ _ _ _ _ (gl (b_X9_operand_4 n) (N1 + 1) ((1 : Int32), (1 : Int32), M3))
          rw [o4_F d2]
          exact ⟨M3, rfl, (p3.tr (q3.mono (fun _ _ q => q.x))).tr d3, Or.inr ⟨_, _, d2, rfl⟩⟩
        · rw [if_neg c6]
          obtain ⟨M3, d1, d2, d3⟩ := mDeep (n := n) q2' (by omega)
          rw [d1]
          show OU _ _ _ _ _ _ _ (gl (b_X9_operand_4 n) (N1 + 1) ((1 : Int32), (1 : Int32), M3))
          have e4 : b_X9_operand_4 n ((1 : Int32), (1 : Int32), M3) = gl (b_X9_operand_18 n 1) n (nI 0, M3) := by
            rw [b_X9_operand_4]
            try dsimp only []
            rw [if_neg (show ¬ (1 : Int32) = 0 by decide), mGood d2.a_f]
            dsimp only [bd]
            rw [if_neg (show ¬ (1 : Int32) = 0 by decide)]
            rfl
          rw [contO_gl, e4]
          refine (ih 2 0 1 C (9 :: W) (false :: D) n N1 M3 ⟨d2, ⟨?_, ?_⟩, ?_, ?_⟩ (Or.inl ⟨rfl, rfl⟩) (by omega) (by omega) (by omega) (by omega)).lift ((p3.tr (q3.mono (fun _ _ q => q.x))).tr d3)
          · omega
          · omega
          · rw [List.count_cons_self, List.length_cons, h.2.2.1]
          · rw [List.length_cons]
            omega
      · rw [if_neg (show ¬ ((hdT e (T :: ts)).k = 3 ∧ (hdT e (T :: ts)).v = 40) from cp)]
        show OU _ _ _ _ _ _ _ (gl (b_X9_operand_4 n) (N1 + 1) (x2, (0 : Int32), M))
        rw [o4_0]
        exact mPart he hf hn h hm0 cn cp
theorem mOperand (he : e ≤ 700) (hf : ∀ q, f q < 256) (hn : 800 < n) {ts : List Tok} {m : Nat} {x2 : Int32} {C : List Op} {W : List Nat} {D : List Bool} {M : Mem} (h : RS f e s r C W D ts M) (hm : (m = 2 ∧ x2 = 1) ∨ (m = 1 ∧ x2 = 0)) (hl : ts.length ≤ 700) : OU f e s r ts M (amR r e ts m 0 C W D) (f_X9_operand n x2 M) := by
  unfold f_X9_operand
  obtain ⟨n', hn'⟩ : ∃ k, n = k + 1 := ⟨n - 1, by omega⟩
  have e4 : b_X9_operand_4 n (x2, (1 : Int32), M) = gl (b_X9_operand_18 n x2) n (nI 0, M) := by
    rw [b_X9_operand_4]
    try dsimp only []
    rw [if_neg (show ¬ (1 : Int32) = 0 by decide), mGood h.1.a_f]
    dsimp only [bd]
    rw [if_neg (show ¬ (1 : Int32) = 0 by decide)]
    rfl
  have e5 : gl (b_X9_operand_4 n) n (x2, (1 : Int32), M) = contO n n' (gl (b_X9_operand_18 n x2) n (nI 0, M)) := by
    rw [← e4, ← contO_gl, ← hn']
  rw [e5]
  exact mOper he hf hn ts m 0 x2 C W D n n' M h hm (by omega) (by omega) (by omega) (by omega)
end P
