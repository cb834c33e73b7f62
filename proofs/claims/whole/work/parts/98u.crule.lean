/-! The class reads a rule: rows of parts, tests, nots, the whole. -/
section L
variable {f : Nat → Nat} {e n j r d w : Nat} {M : Mem} {ts : List Tok} {rec : Int32 → Int32 → Mem → Option (Int32 × Mem)}
theorem cLoop {l : Nat} {body : Int32 × Int32 × Mem → Option ((Int32 × Int32 × Mem) ⊕ (Int32 × Mem))} {sub : Mem → Option (Int32 × Mem)}
    (he : e ≤ 700) (hf : ∀ q, f q < 256) (hn : 800 < n) (hj : j = 46 ∨ j = 53) (hr : r < 3) (hd : d ≤ 5) (h0 : ¬ l = 0) (h3 : l ≠ 3) (h4 : l ≠ 4) (hl : md l = md (l + 1)) (hnd : nd (l + 1) d + 1 ≤ nd l d) (h16 : 1 ≤ l ∧ l ≤ 6)
    (hsub : ∀ ts w M, CXt f e j w ts M → CR f e j r (l + 1) d w ts M (sub M))
    (hb0 : ∀ x M, body (0, x, M) = mr (some (0, M)))
    (hbT : ∀ i ts w M, CXt f e j w ts M → i < 700 → opS false (hdT e ts) = l → body (1, nI i, M) = bd (f_X2_step n M) (fun q1 => bd (sub q1) (fun q2 => ck (isTwB ((gi q2.2 44 2).toNatClampNeg)) (bd (f_X6_write n ((gi q2.2 44 2).toNatClampNeg) (nI r) (enc1 (act (opC (hdT e ts)))) q2.2) (fun q4 => some (.inl (q2.1, (nI i + (1 : Int32)), q4)))))))
    (hbF : ∀ i ts w M, CXt f e j w ts M → i ≤ 700 → ¬ opS false (hdT e ts) = l → body (1, nI i, M) = mr (some (1, M))) :
    ∀ (m N : Nat) (ts0 : List Tok) (M0 : Mem) (O : List Op) (ts : List Tok) (M : Mem) (i : Nat), ts.length ≤ m → m + 1 < N → i ≤ (hdT e ts).p → w ≤ (hdT e ts0).p → GoodC f e j r w ts0 M0 O ts M → Wf r l d O → Sim r e (l + 1) l d ts0 O ts → CR f e j r l d w ts0 M0 (gl body N (1, nI i, M)) := by
  have zj : (nI j).toNatClampNeg = j := nI_clamp (by omega)
  intro m
  induction m with
  | zero =>
    intro N ts0 M0 O ts M i hm hN hi hw g hwf hs
    obtain ⟨N, rfl⟩ : ∃ k, N = k + 1 := ⟨N - 1, by omega⟩
    have hts : ts = [] := List.length_eq_zero_iff.mp (by omega)
    subst hts
    have hno : ¬ opS false (hdT e []) = l := by
      intro c
      exact h0 c.symm
    have hi' : i ≤ e := hi
    rw [gl_mr (hbF i [] _ M g.g_x (by omega) hno)]
    exact Or.inl ⟨M, O, [], rfl, g, hwf, sim_end hs ((opS_b h0 h4).2 hno)⟩
  | succ m ih =>
    intro N ts0 M0 O ts M i hm hN hi hw g hwf hs
    obtain ⟨N, rfl⟩ : ∃ k, N = k + 1 := ⟨N - 1, by omega⟩
    have tf := g.g_x.q_s.tf hf
    have hpe := tf.f_p
    by_cases c : opS false (hdT e ts) = l
    · have hk0 : ¬ (hdT e ts).k = 0 := fun q => by
        unfold opS at c
        rw [q] at c
        exact h0 c.symm
      have hz := tf.f_z hk0
      obtain ⟨T, ts1, rfl⟩ := g.g_x.q_s.ne hk0
      obtain ⟨M1, a1, a2, a3⟩ := g.g_x.go he hf hn hj
      have pr : T.nx ≤ (hdT e ts1).p := g.g_x.q_s.pr
      have hz' : T.p < T.nx := hz.2
      have hi' : i ≤ T.p := hi
      have hbody := hbT i (T :: ts1) _ M g.g_x (by omega) c
      rw [a1] at hbody
      simp only [bd] at hbody
      rcases hsub ts1 _ M1 a2 with ⟨M2, O2, ts2, b1, b2, b3, b4⟩ | ⟨M2, k, p, b1, b2, b3⟩
      · obtain ⟨M3, c1, c2⟩ := good_bin (n := n) (a := opC T) he hf hj hr hw g a3 b2
        rw [b1] at hbody
        simp only [b2.g_x.q_j, zj] at hbody
        rw [ck_pos hj, show f_X6_write n j (nI r) (enc1 (act (opC (hdT e (T :: ts1))))) M2 = some M3 from c1, nI_1] at hbody
        rw [gl_inl hbody]
        have gp := b2.g_p
        have gl' := b2.g_l
        simp at hm
        exact ih N ts0 M0 _ ts2 M3 (i + 1) (by omega) (by omega) (by omega) hw c2 (hwf.bin hd hnd b3 opC_b) (sim_bin h0 hl h3 h4 hs ((opS_b h0 h4).1 c) b4)
      · have hj2 : gi M2 44 2 = nI j := (b2.b_k _ _ (by unfold VF VE; omega)).trans a2.q_j
        obtain ⟨M3, c1, c2, c3⟩ := bad_w (n := n) hj hr b2 hj2 (enc1 (act (opC (hdT e (T :: ts1)))))
        rw [b1] at hbody
        simp only [hj2, zj] at hbody
        rw [ck_pos hj, c1] at hbody
        obtain ⟨N, rfl⟩ : ∃ k, N = k + 1 := ⟨N - 1, by omega⟩
        rw [gl_inl hbody, gl_mr (hb0 _ M3)]
        exact Or.inr ⟨M3, k, p, rfl, ⟨c2.b_f, c2.b_p, ((g.g_k.mono (fun t k h => Or.inl (h.mono (Nat.zero_le _)))).tr (a3.mono (fun t k h => Or.inl h.ve))).tr c2.b_k, c2.b_w, c2.b_b⟩, flt_bin h0 h3 hs ((opS_b h0 h4).1 c) b3⟩
    · rw [gl_mr (hbF i ts _ M g.g_x (by omega) c)]
      exact Or.inl ⟨M, O, ts, rfl, g, hwf, sim_end hs ((opS_b h0 h4).2 c)⟩
theorem tl_len (hf : ∀ q, f q < 256) : ∀ (ts : List Tok) (p : Nat), Lx f e p ts → p + ts.length ≤ e
  | [], p, h => by
    have := h.x_p
    exact Nat.le_trans this.1 this.2
  | T :: ts, p, h => by
    have h1 := tl_len hf ts T.nx h.2.2
    have h2 := h.1.x_p
    have h3 := h.1.x_1 h.2.1
    simp
    omega
theorem SCt.len (hf : ∀ q, f q < 256) (h : SCt f e ts M) : ts.length ≤ e := by
  obtain ⟨⟨p, hp⟩, _⟩ := h
  have := tl_len hf ts p hp
  omega
/-- from the first one on -/
theorem cRowOf {l : Nat} {body : Int32 × Int32 × Mem → Option ((Int32 × Int32 × Mem) ⊕ (Int32 × Mem))} {sub : Mem → Option (Int32 × Mem)}
    (he : e ≤ 700) (hf : ∀ q, f q < 256) (hn : 800 < n) (hj : j = 46 ∨ j = 53) (hr : r < 3) (hd : d ≤ 5) (h0 : ¬ l = 0) (h3 : l ≠ 3) (h4 : l ≠ 4) (hl : md l = md (l + 1)) (hnd : nd (l + 1) d + 1 ≤ nd l d) (h16 : 1 ≤ l ∧ l ≤ 6)
    (hsub : ∀ ts w M, CXt f e j w ts M → CR f e j r (l + 1) d w ts M (sub M))
    (hb0 : ∀ x M, body (0, x, M) = mr (some (0, M)))
    (hbT : ∀ i ts w M, CXt f e j w ts M → i < 700 → opS false (hdT e ts) = l → body (1, nI i, M) = bd (f_X2_step n M) (fun q1 => bd (sub q1) (fun q2 => ck (isTwB ((gi q2.2 44 2).toNatClampNeg)) (bd (f_X6_write n ((gi q2.2 44 2).toNatClampNeg) (nI r) (enc1 (act (opC (hdT e ts)))) q2.2) (fun q4 => some (.inl (q2.1, (nI i + (1 : Int32)), q4)))))))
    (hbF : ∀ i ts w M, CXt f e j w ts M → i ≤ 700 → ¬ opS false (hdT e ts) = l → body (1, nI i, M) = mr (some (1, M)))
    (h : CXt f e j w ts M) : CR f e j r l d w ts M (bd (sub M) (fun q => gl body n (q.1, (0 : Int32), q.2))) := by
  rcases hsub ts w M h with ⟨M2, O2, ts2, b1, b2, b3, b4⟩ | ⟨M2, k, p, b1, b2, b3⟩
  · rw [b1]
    have := b2.g_x.q_s.len hf
    exact cLoop (n := n) (N := n) he hf hn hj hr hd h0 h3 h4 hl hnd h16 hsub hb0 hbT hbF ts2.length ts M O2 ts2 M2 0 (Nat.le_refl _) (by omega) (Nat.zero_le _) h.q_p b2 (b3.up (Nat.le_succ l) h16.1 (by omega)) (sim_lp hl b4)
  · rw [b1]
    obtain ⟨m, rfl⟩ : ∃ k, n = k + 1 := ⟨n - 1, by omega⟩
    refine Or.inr ⟨M2, k, p, gl_mr (hb0 _ M2), b2, flt_up hl b3⟩
theorem opS_6 {T : Tok} : opS false T = 6 ↔ T.k = 3 ∧ (T.v = 42 ∨ T.v = 47) := by
  unfold opS
  constructor
  · intro h
    split at h
    · split at h
      · omega
      · split at h <;> omega
    · split at h
      · split at h
        · rw [if_neg (by decide)] at h
          omega
        · split at h
          · omega
          · split at h
            · exact ⟨by assumption, by assumption⟩
            · omega
      · omega
  · intro h
    rw [if_neg (by omega), if_pos h.1, if_neg (by omega), if_neg (by omega), if_pos h.2]
theorem opS_5 {T : Tok} : opS false T = 5 ↔ T.k = 3 ∧ (T.v = 43 ∨ T.v = 45) := by
  unfold opS
  constructor
  · intro h
    split at h
    · split at h
      · omega
      · split at h <;> omega
    · split at h
      · split at h
        · rw [if_neg (by decide)] at h
          omega
        · split at h
          · exact ⟨by assumption, by assumption⟩
          · split at h <;> omega
      · omega
  · intro h
    rw [if_neg (by omega), if_pos h.1, if_neg (by omega), if_pos h.2]
theorem opS_2 {T : Tok} : opS false T = 2 ↔ T.k = 1 ∧ T.v = 10 := by
  unfold opS
  constructor
  · intro h
    split at h
    · split at h
      · exact ⟨by assumption, by assumption⟩
      · split at h <;> omega
    · split at h
      · split at h
        · rw [if_neg (by decide)] at h
          omega
        · split at h
          · omega
          · split at h <;> omega
      · omega
  · intro h
    rw [if_pos h.1, if_pos h.2]
theorem opS_1 {T : Tok} : opS false T = 1 ↔ T.k = 1 ∧ T.v = 9 := by
  unfold opS
  constructor
  · intro h
    split at h
    · split at h
      · omega
      · split at h
        · exact ⟨by assumption, by assumption⟩
        · omega
    · split at h
      · split at h
        · rw [if_neg (by decide)] at h
          omega
        · split at h
          · omega
          · split at h <;> omega
      · omega
  · intro h
    rw [if_pos h.1, if_neg (by omega), if_pos h.2]
theorem cProduct (he : e ≤ 700) (hf : ∀ q, f q < 256) (hn : 800 < n) (hj : j = 46 ∨ j = 53) (hr : r < 3) (hd : d ≤ 5) (hrec : RecOK f e j r d rec) (h : CXt f e j w ts M) : CR f e j r 6 d w ts M (f_X2_readProduct n rec (nI r) (nI d) M) := by
  unfold f_X2_readProduct
  refine cRowOf (l := 6) (sub := f_X2_readPart n rec (nI r) (nI d)) he hf hn hj hr hd (by decide) (by decide) (by decide) rfl (by unfold nd; simp) (by decide) (fun ts w M h => cPart he hf hn hj hr hd hrec h) (fun x M => ?_) (fun i ts w M h hi ho => ?_) (fun i ts w M h hi ho => ?_) h
  · rw [b_X2_readProduct_10]
    try simp only []
    rw [if_pos trivial, ck_pos (Or.inl trivial)]
    split <;> rfl
  · rw [b_X2_readProduct_10]
    try simp only []
    have hs := opS_6.mp ho
    rw [if_neg (show ¬ (700 : Int32) ≤ nI i from nI_ge (b := 700) hi (by decide)), if_neg (by decide), show (42 : Int32) = nI 42 from rfl, show (47 : Int32) = nI 47 from rfl, cIsSign hf h.q_s (by decide)]
    simp only [bd]
    have e40 : j_X2_readProduct_40 n rec (nI r) (nI d) (nI i) M = j_X2_readProduct_56 n rec (enc1 (act (opC (hdT e ts)))) (nI r) (nI d) (nI i) M := by
      unfold j_X2_readProduct_40
      rw [h.q_s.2.t_s hs.1]
      rcases hs.2 with hv | hv
      · have : opC (hdT e ts) = 7 := by
          unfold opC
          rw [if_neg (by omega), if_neg (by omega), if_neg (by omega), if_neg (by omega), if_neg (by omega), if_pos hv]
        rw [this, if_pos (by rw [hv]; rfl)]
        rfl
      · have : opC (hdT e ts) = 8 := by
          unfold opC
          rw [if_neg (by omega), if_neg (by omega), if_neg (by omega), if_neg (by omega), if_neg (by omega), if_neg (by omega)]
        rw [this, if_neg (by rw [hv]; decide)]
        rfl
    by_cases hv : (hdT e ts).v = 42
    · rw [if_pos (show (hdT e ts).k = 3 ∧ (hdT e ts).v = 42 from ⟨hs.1, hv⟩), if_neg (show ¬ (1 : Int32) = 0 by decide), e40]
      rfl
    · rw [if_neg (show ¬ ((hdT e ts).k = 3 ∧ (hdT e ts).v = 42) from fun q => hv q.2), if_pos (show (0 : Int32) = 0 from rfl), cIsSign hf h.q_s (by decide)]
      simp only []
      rw [if_pos (show (hdT e ts).k = 3 ∧ (hdT e ts).v = 47 by omega), if_neg (show ¬ (1 : Int32) = 0 by decide), e40]
      rfl
  · rw [b_X2_readProduct_10]
    try simp only []
    have hs : ¬ ((hdT e ts).k = 3 ∧ ((hdT e ts).v = 42 ∨ (hdT e ts).v = 47)) := fun q => ho (opS_6.mpr q)
    rw [if_neg (show ¬ (1 : Int32) = 0 by decide), show (42 : Int32) = nI 42 from rfl, show (47 : Int32) = nI 47 from rfl, cIsSign hf h.q_s (by decide)]
    simp only [bd]
    rw [if_neg (show ¬ ((hdT e ts).k = 3 ∧ (hdT e ts).v = 42) by omega), if_pos (show (0 : Int32) = 0 from rfl), cIsSign hf h.q_s (by decide)]
    simp only []
    rw [if_neg (show ¬ ((hdT e ts).k = 3 ∧ (hdT e ts).v = 47) by omega), if_pos (show (0 : Int32) = 0 from rfl), ck_pos (Or.inr trivial)]
    split <;> rfl
theorem cSum (he : e ≤ 700) (hf : ∀ q, f q < 256) (hn : 800 < n) (hj : j = 46 ∨ j = 53) (hr : r < 3) (hd : d ≤ 5) (hrec : RecOK f e j r d rec) (h : CXt f e j w ts M) : CR f e j r 5 d w ts M (f_X2_readSum n rec (nI r) (nI d) M) := by
  unfold f_X2_readSum
  refine cRowOf (l := 5) (sub := f_X2_readProduct n rec (nI r) (nI d)) he hf hn hj hr hd (by decide) (by decide) (by decide) rfl (by unfold nd; simp) (by decide) (fun ts w M h => cProduct he hf hn hj hr hd hrec h) (fun x M => ?_) (fun i ts w M h hi ho => ?_) (fun i ts w M h hi ho => ?_) h
  · rw [b_X2_readSum_10]
    try simp only []
    rw [if_pos trivial, ck_pos (Or.inl trivial)]
    split <;> rfl
  · rw [b_X2_readSum_10]
    try simp only []
    have hs := opS_5.mp ho
    rw [if_neg (show ¬ (700 : Int32) ≤ nI i from nI_ge (b := 700) hi (by decide)), if_neg (by decide), show (43 : Int32) = nI 43 from rfl, show (45 : Int32) = nI 45 from rfl, cIsSign hf h.q_s (by decide)]
    simp only [bd]
    have e40 : j_X2_readSum_40 n rec (nI r) (nI d) (nI i) M = j_X2_readSum_56 n rec (enc1 (act (opC (hdT e ts)))) (nI r) (nI d) (nI i) M := by
      unfold j_X2_readSum_40
      rw [h.q_s.2.t_s hs.1]
      rcases hs.2 with hv | hv
      · have : opC (hdT e ts) = 5 := by
          unfold opC
          rw [if_neg (by omega), if_neg (by omega), if_neg (by omega), if_pos hv]
        rw [this, if_pos (by rw [hv]; rfl)]
        rfl
      · have : opC (hdT e ts) = 6 := by
          unfold opC
          rw [if_neg (by omega), if_neg (by omega), if_neg (by omega), if_neg (by omega), if_pos hv]
        rw [this, if_neg (by rw [hv]; decide)]
        rfl
    by_cases hv : (hdT e ts).v = 43
    · rw [if_pos (show (hdT e ts).k = 3 ∧ (hdT e ts).v = 43 from ⟨hs.1, hv⟩), if_neg (show ¬ (1 : Int32) = 0 by decide), e40]
      rfl
    · rw [if_neg (show ¬ ((hdT e ts).k = 3 ∧ (hdT e ts).v = 43) from fun q => hv q.2), if_pos (show (0 : Int32) = 0 from rfl), cIsSign hf h.q_s (by decide)]
      simp only []
      rw [if_pos (show (hdT e ts).k = 3 ∧ (hdT e ts).v = 45 by omega), if_neg (show ¬ (1 : Int32) = 0 by decide), e40]
      rfl
  · rw [b_X2_readSum_10]
    try simp only []
    have hs : ¬ ((hdT e ts).k = 3 ∧ ((hdT e ts).v = 43 ∨ (hdT e ts).v = 45)) := fun q => ho (opS_5.mpr q)
    rw [if_neg (show ¬ (1 : Int32) = 0 by decide), show (43 : Int32) = nI 43 from rfl, show (45 : Int32) = nI 45 from rfl, cIsSign hf h.q_s (by decide)]
    simp only [bd]
    rw [if_neg (show ¬ ((hdT e ts).k = 3 ∧ (hdT e ts).v = 43) by omega), if_pos (show (0 : Int32) = 0 from rfl), cIsSign hf h.q_s (by decide)]
    simp only []
    rw [if_neg (show ¬ ((hdT e ts).k = 3 ∧ (hdT e ts).v = 45) by omega), if_pos (show (0 : Int32) = 0 from rfl), ck_pos (Or.inr trivial)]
    split <;> rfl
theorem cTest (he : e ≤ 700) (hf : ∀ q, f q < 256) (hn : 800 < n) (hj : j = 46 ∨ j = 53) (hr : r < 3) (hd : d ≤ 5) (hrec : RecOK f e j r d rec) (h : CXt f e j w ts M) : CR f e j r 4 d w ts M (f_X2_readTest n rec (nI r) (nI d) M) := by
  have zj : (nI j).toNatClampNeg = j := nI_clamp (by omega)
  unfold f_X2_readTest
  rcases cSum he hf hn hj hr hd hrec h with ⟨M2, O2, ts2, b1, b2, b3, b4⟩ | ⟨M2, k, p, b1, b2, b3⟩
  · rw [b1]
    simp only [bd]
    have w4 : Wf r 4 d O2 := b3.up (by decide) (by decide) (by decide)
    rw [if_neg (show ¬ (1 : Int32) = 0 by decide), show (60 : Int32) = nI 60 from rfl, show (61 : Int32) = nI 61 from rfl, cIsSign hf b2.g_x.q_s (by decide)]
    simp only []
    by_cases cc : isCmp (hdT e ts2)
    · have hk0 : ¬ (hdT e ts2).k = 0 := by
        have := cc.1
        omega
      obtain ⟨T, ts3, rfl⟩ := b2.g_x.q_s.ne hk0
      obtain ⟨M3, a1, a2, a3⟩ := b2.g_x.go he hf hn hj
      have e31 : j_X2_readTest_31 n rec (nI r) (nI d) M2 = j_X2_readTest_47 n rec (enc1 (act (opC T))) (nI r) (nI d) M2 := by
        unfold j_X2_readTest_31
        rw [b2.g_x.q_s.2.t_s cc.1]
        have ck3 : T.k = 3 := cc.1
        rcases cc.2 with hv | hv
        · have hv' : T.v = 60 := hv
          have : opC T = 3 := by
            unfold opC
            rw [if_neg (by omega), if_pos hv']
          rw [this, if_pos (by rw [hv]; rfl)]
          rfl
        · have hv' : T.v = 61 := hv
          have : opC T = 4 := by
            unfold opC
            rw [if_neg (by omega), if_neg (by omega), if_pos hv']
          rw [this, if_neg (by rw [hv]; decide)]
          rfl
      have goal : CR f e j r 4 d w ts M (j_X2_readTest_47 n rec (enc1 (act (opC T))) (nI r) (nI d) M2) := by
        unfold j_X2_readTest_47
        rw [a1]
        simp only [bd]
        rcases cSum he hf hn hj hr hd hrec a2 with ⟨M4, O4, ts4, c1, c2, c3, c4⟩ | ⟨M4, k, p, c1, c2, c3⟩
        · obtain ⟨M5, d1, d2⟩ := good_bin (n := n) (a := opC T) he hf hj hr h.q_p b2 a3 c2
          rw [c1]
          simp only [c2.g_x.q_j, zj]
          rw [ck_pos hj, d1]
          simp only []
          rw [ck_pos (Or.inr trivial)]
          exact Or.inl ⟨M5, _, ts4, rfl, d2, Wf.bin (l := 4) hd (by unfold nd; simp) w4 c3 opC_b, sim_t2 b4 cc c4⟩
        · have hj2 : gi M4 44 2 = nI j := (c2.b_k _ _ (by unfold VF VE; omega)).trans a2.q_j
          obtain ⟨M5, d1, d2, d3⟩ := bad_w (n := n) hj hr c2 hj2 (enc1 (act (opC T)))
          rw [c1]
          simp only [hj2, zj]
          rw [ck_pos hj, d1]
          simp only []
          rw [ck_pos (Or.inl trivial)]
          exact Or.inr ⟨M5, k, p, rfl, ⟨d2.b_f, d2.b_p, ((b2.g_k.mono (fun t k h => Or.inl (h.mono (Nat.zero_le _)))).tr (a3.mono (fun t k h => Or.inl h.ve))).tr d2.b_k, d2.b_w, d2.b_b⟩, flt_t2 b4 cc c3⟩
      by_cases hv : T.v = 60
      · rw [if_pos (show (hdT e (T :: ts3)).k = 3 ∧ (hdT e (T :: ts3)).v = 60 from ⟨cc.1, hv⟩), if_neg (show ¬ (1 : Int32) = 0 by decide), e31]
        exact goal
      · rw [if_neg (show ¬ ((hdT e (T :: ts3)).k = 3 ∧ (hdT e (T :: ts3)).v = 60) from fun q => hv q.2), if_pos (show (0 : Int32) = 0 from rfl), cIsSign hf b2.g_x.q_s (by decide)]
        simp only []
        rw [if_pos (show (hdT e (T :: ts3)).k = 3 ∧ (hdT e (T :: ts3)).v = 61 from ⟨cc.1, cc.2.resolve_left hv⟩), if_neg (show ¬ (1 : Int32) = 0 by decide), e31]
        exact goal
    · rw [if_neg (show ¬ ((hdT e ts2).k = 3 ∧ (hdT e ts2).v = 60) from fun q => cc ⟨q.1, Or.inl q.2⟩), if_pos (show (0 : Int32) = 0 from rfl), cIsSign hf b2.g_x.q_s (by decide)]
      simp only []
      rw [if_neg (show ¬ ((hdT e ts2).k = 3 ∧ (hdT e ts2).v = 61) from fun q => cc ⟨q.1, Or.inr q.2⟩), if_pos (show (0 : Int32) = 0 from rfl)]
      exact Or.inl ⟨M2, O2, ts2, rfl, b2, w4, sim_t1 b4 cc⟩
  · rw [b1]
    simp only [bd]
    rw [if_pos trivial]
    exact Or.inr ⟨M2, k, p, rfl, b2, flt_up (l := 4) rfl b3⟩
end L
