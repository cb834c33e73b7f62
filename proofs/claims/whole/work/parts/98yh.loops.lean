/-! Both read all lines. -/
section B
variable {f : Nat → Nat} {e j n : Nat}
theorem bothL (he : e ≤ 700) (hf : ∀ q, f q < 256) (hn : 800 < n) (hj : j = 46 ∨ j = 53) : ∀ (m : Nat) (ts : List Tok) (τ : Td) (w s i N N2 : Nat) (M M2 : Mem), ts.length ≤ m → CTd f e j w τ ts M → DT f e s τ ts M2 → i + ts.length ≤ 700 → ts.length + 2 ≤ N → ts.length + 2 ≤ N2 →
    (∃ k p M' M2', gl (b_X2_read_64 n) N ((1 : Int32), nI i, M) = some (nI k, M') ∧ gi M' 44 12 = nI p ∧ (1 ≤ k ∧ k ≤ 5) ∧ kq (VK j) M M' ∧ gl (b_X9_town_132 n) N2 M2 = j_X9_town_153 n M2' ∧ FT k p M2' ∧ kq VQ M2 M2') ∨
    (∃ τ' w' s' M' M2', gl (b_X2_read_64 n) N ((1 : Int32), nI i, M) = some (0, M') ∧ CTd f e j w' τ' [] M' ∧ kq (VK j) M M' ∧ gl (b_X9_town_132 n) N2 M2 = j_X9_town_153 n M2' ∧ DT f e s' τ' [] M2' ∧ kq VQ M2 M2') := by
  have hnil : ∀ (τ : Td) (w s i N N2 : Nat) (M M2 : Mem), CTd f e j w τ [] M → DT f e s τ [] M2 → (∃ τ' w' s' M' M2', gl (b_X2_read_64 n) (N + 1) ((1 : Int32), nI i, M) = some (0, M') ∧ CTd f e j w' τ' [] M' ∧ kq (VK j) M M' ∧ gl (b_X9_town_132 n) (N2 + 1) M2 = j_X9_town_153 n M2' ∧ DT f e s' τ' [] M2' ∧ kq VQ M2 M2') := by
    intro τ w s i N N2 M M2 hC hD
    have hk : gi M 44 7 = nI 0 := hC.c_x.q_s.2.t_k
    have hk2 : gi M2 0 17 = nI 0 := hD.d_t.2.m_k
    refine ⟨τ, w, s, M, M2, gl_mr ?_, hC, kq.rf, gl_mr ?_, hD, kq.rf⟩
    · rw [b_X2_read_64]
      try dsimp only []
      rw [hC.c_0, if_neg (show ¬ (1 : Int32) = 0 by decide), hk, if_pos (show nI 0 = (0 : Int32) from rfl)]
      split <;> rfl
    · rw [b_X9_town_132]
      try dsimp only []
      rw [hD.good]
      dsimp only [bd]
      rw [if_neg (show ¬ (1 : Int32) = 0 by decide), hk2, if_pos (show nI 0 = (0 : Int32) from rfl)]
  intro m
  induction m with
  | zero =>
    intro ts τ w s i N N2 M M2 hm hC hD hi hN hN2
    cases ts with
    | cons T ts => exact absurd hm (by simp)
    | nil =>
      obtain ⟨N, rfl⟩ : ∃ k, N = k + 1 := ⟨N - 1, by omega⟩
      obtain ⟨N2, rfl⟩ : ∃ k, N2 = k + 1 := ⟨N2 - 1, by omega⟩
      exact Or.inr (hnil τ w s i N N2 M M2 hC hD)
  | succ m ih =>
    intro ts τ w s i N N2 M M2 hm hC hD hi hN hN2
    cases ts with
    | nil =>
      obtain ⟨N, rfl⟩ : ∃ k, N = k + 1 := ⟨N - 1, by omega⟩
      obtain ⟨N2, rfl⟩ : ∃ k, N2 = k + 1 := ⟨N2 - 1, by omega⟩
      exact Or.inr (hnil τ w s i N N2 M M2 hC hD)
    | cons T ts =>
      rw [List.length_cons] at hm hi hN hN2
      obtain ⟨N, rfl⟩ : ∃ k, N = k + 2 := ⟨N - 2, by omega⟩
      obtain ⟨N2, rfl⟩ : ∃ k, N2 = k + 2 := ⟨N2 - 2, by omega⟩
      have hk0 : ¬ T.k = 0 := SCt.k0 hf hC.c_x.q_s
      have htf : TF e T := hC.c_x.q_s.tf hf
      have hk4 := htf.f_k
      have hk : gi M 44 7 = nI T.k := hC.c_x.q_s.2.t_k
      have hk2 : gi M2 0 17 = nI T.k := hD.d_t.2.m_k
      have b1 : b_X2_read_64 n ((1 : Int32), nI i, M) = bd (f_X2_readLine n M) (fun q4 => some (.inl (q4.1, nI (i + 1), q4.2))) := by
        rw [b_X2_read_64]
        try dsimp only []
        rw [if_neg (show ¬ (700 : Int32) ≤ nI i from nI_ge (b := 700) (by omega) (by decide)), if_neg (show ¬ (1 : Int32) = 0 by decide), hk, if_neg (nI_ne0 (by omega) (by omega)), nI_1]
      have b2 : b_X9_town_132 n M2 = bd (f_X9_line n M2) (fun q18 => some (.inl q18)) := by
        rw [b_X9_town_132]
        try dsimp only []
        rw [hD.good]
        dsimp only [bd]
        rw [if_neg (show ¬ (1 : Int32) = 0 by decide), hk2, if_neg (nI_ne0 (by omega) (by omega))]
      have cl := cLine (n := n) (L := ts.length) he hf hn hj hC (Nat.le_refl _)
      have ml := mLine (n := n) he hf hn hD hC.c_G.1 hC.c_G.2
      rcases cl with ⟨k, p, M', r1, r2, r3, r4, r5, r6⟩ | ⟨τ', ts', M', w', r1, r2, r3, r4, r5⟩
      · rcases ml with ⟨k', p', M2', q1, q2, q3, q4⟩ | ⟨τ', ts', M2', s', q1, q2, q3, q4⟩
        · rw [r1] at q1
          injection q1 with q1
          have e1 : k = k' := congrArg Prod.fst q1
          have e2 : p = p' := congrArg Prod.snd q1
          subst e1 e2
          rw [r2] at b1
          rw [q2] at b2
          refine Or.inl ⟨k, p, M', M2', ?_, r4, r5, r6, ?_, q3, q4⟩
          · rw [gl_inl (b1.trans rfl)]
            refine gl_mr ?_
            rw [b_X2_read_64]
            try dsimp only []
            rw [r3, if_pos (show (0 : Int32) = 0 from rfl)]
            split <;> rfl
          · rw [gl_inl (b2.trans rfl)]
            refine gl_mr ?_
            rw [b_X9_town_132]
            try dsimp only []
            rw [q3.bad]
            dsimp only [bd]
            rw [if_pos (show (0 : Int32) = 0 from rfl)]
        · rw [r1] at q1
          exact absurd q1 (by intro q; cases q)
      · rcases ml with ⟨k', p', M2', q1, q2, q3, q4⟩ | ⟨τ2, ts2, M2', s', q1, q2, q3, q4⟩
        · rw [r1] at q1
          exact absurd q1 (by intro q; cases q)
        · rw [r1] at q1
          injection q1 with q1
          have e1 : τ' = τ2 := congrArg Prod.fst q1
          have e2 : ts' = ts2 := congrArg Prod.snd q1
          subst e1 e2
          rw [r2] at b1
          rw [q2] at b2
          rw [gl_inl (b1.trans rfl), gl_inl (b2.trans rfl)]
          rcases ih ts' τ' w' s' (i + 1) (N + 1) (N2 + 1) M' M2' (by omega) r3 q3 (by omega) (by omega) (by omega) with ⟨k, p, N', N2', x1, x2, x3, x4, x5, x6, x7⟩ | ⟨τ3, w3, s3, N', N2', x1, x2, x3, x4, x5, x6⟩
          · exact Or.inl ⟨k, p, N', N2', x1, x2, x3, r4.tr x4, x5, x6, q4.tr x7⟩
          · exact Or.inr ⟨τ3, w3, s3, N', N2', x1, x2, r4.tr x3, x4, x5, q4.tr x6⟩
/-! what both begin with -/
theorem cFill {n0 r0 : Nat} {M : Mem} (h1 : n0 < n) (h2 : n0 < 2 ^ 31) (x : Int32) : ∃ M', f_J7_fill_53178 n n0 r0 x M = some M' ∧ (∀ p, p < n0 → gi M' r0 p = x) ∧ kq (fun t _ => t = r0) M M' := by
  obtain ⟨N, m, ⟨a1, a2⟩, e⟩ := gl_k (body := b_J7_fill_53178_5 n n0 r0 x (nI n0)) (fun k (M' : Mem) => (nI k, M')) n0 (fun k M' => (∀ p, p < k → gi M' r0 p = x) ∧ kq (fun t _ => t = r0) M M') (fun k M' hk hI => by
    obtain ⟨a1, a2⟩ := hI
    refine ⟨si M' r0 k x, ?_, fun p hp => ?_, a2.si rfl _⟩
    · rw [b_J7_fill_53178_5]
      try dsimp only []
      rw [if_neg (nI_ge hk h2), ck_pos (n_in hk h2), nI_clamp (by omega), nI_1]
    · rw [gi_si]
      by_cases c : p = k
      · subst c
        rw [if_pos ⟨rfl, rfl⟩]
      · rw [if_neg (by omega)]
        exact a1 p (by omega)) n 0 M (by omega) (by omega) ⟨fun p hp => absurd hp (by omega), kq.rf⟩
  refine ⟨N, ?_, a1, a2⟩
  unfold f_J7_fill_53178
  rw [show ((0 : Int32), M) = (nI 0, M) from rfl, e]
  refine gl_mr ?_
  rw [b_J7_fill_53178_5]
  try dsimp only []
  rw [if_pos (nI_le (Nat.le_refl _) h2)]
def s0 : Sp := (0, 0, 0, 0, 0, 0, fun _ => 0, fun _ => 0, fun _ => 0, fun _ => 0)
def t0 : Tw := (9, 10, 0, fun _ => 0, fun _ => none)
def τ0 : Td := (0, s0, t0, false, false)
theorem s0_good : s0.Good 0 := ⟨by decide, by decide, by decide, by decide, by decide, by decide, by decide, fun c hc => absurd hc (Nat.not_lt_zero c), fun c hc => absurd hc (Nat.not_lt_zero c), fun c hc => absurd hc (Nat.not_lt_zero c), fun c hc => absurd hc (Nat.not_lt_zero c), fun c _ hc => absurd hc (Nat.not_lt_zero c), fun c hc => absurd hc (Nat.not_lt_zero c)⟩
theorem t0_good : t0.Good := ⟨by decide, by decide, by decide, fun c hc => absurd hc (Nat.not_lt_zero c), fun _ _ => trivial⟩
def VTc (j t k : Nat) : Prop := (t = 44 ∧ 3 ≤ k ∧ k ≤ 14) ∨ (28 ≤ t ∧ t ≤ 32) ∨ (j ≤ t ∧ t ≤ j + 4)
theorem cBegin (he : e ≤ 700) (hf : ∀ q, f q < 256) (hn : 800 < n) (hj : j = 46 ∨ j = 53) {M : Mem} {ts : List Tok} (hx : Lx f e 0 ts) (h2 : gi M 44 2 = nI j) {len : Nat} (hl : gi M 44 3 = nI len) (hel : e ≤ len) (hlen : len ≤ 700) (hb : ∀ q, q < e → gi M 45 q = sb (f q)) : ∃ M', f_X2_read n (nI e) M = gl (b_X2_read_64 n) n ((1 : Int32), nI 0, M') ∧ CTd f e j 0 τ0 ts M' ∧ kq (VTc j) M M' ∧ gi M' 44 3 = 0 := by
  have zj : (nI j).toNatClampNeg = j := nI_clamp (by omega)
  unfold f_X2_read
  rw [h2]
  simp only [zj]
  rw [ck_pos (by unfold isTwB; omega)]
  unfold f_X6_clear f_X4_clear
  obtain ⟨A1, p1, p2, p3⟩ := cFill (n := n) (n0 := 3) (r0 := j + 3) (M := M) (by omega) (by decide) (-1 : Int32)
  obtain ⟨A2, q1, q2, q3⟩ := cFill (n := n) (n0 := 3) (r0 := j + 4) (M := A1) (by omega) (by decide) (-1 : Int32)
  obtain ⟨A3, hA3⟩ : ∃ A3, A3 = si (si (si (si A2 j 6 (0 : Int32)) j 7 (0 : Int32)) j 8 (9 : Int32)) j 9 (10 : Int32) := ⟨_, rfl⟩
  rw [p1]
  dsimp only [bd]
  rw [q1]
  dsimp only []
  rw [← hA3]
  obtain ⟨B1, b1, b2, b3⟩ := cFill (n := n) (n0 := 16) (r0 := 28 + 1) (M := A3) (by omega) (by decide) (0 : Int32)
  obtain ⟨B2, c1, c2, c3⟩ := cFill (n := n) (n0 := 16) (r0 := 28 + 2) (M := B1) (by omega) (by decide) (0 : Int32)
  obtain ⟨B3, d1, d2, d3⟩ := cFill (n := n) (n0 := 8) (r0 := 28 + 3) (M := B2) (by omega) (by decide) (0 : Int32)
  obtain ⟨B4, e1, e2, e3⟩ := cFill (n := n) (n0 := 8) (r0 := 28 + 4) (M := B3) (by omega) (by decide) (0 : Int32)
  obtain ⟨B5, hB5⟩ : ∃ B5, B5 = si (si (si (si (si (si (si B4 28 5 (0 : Int32)) 28 6 (0 : Int32)) 28 7 (0 : Int32)) 28 8 (0 : Int32)) 28 9 (0 : Int32)) 28 10 (0 : Int32)) 28 11 (0 : Int32) := ⟨_, rfl⟩
  rw [b1]
  dsimp only []
  rw [c1]
  dsimp only []
  rw [d1]
  dsimp only []
  rw [e1]
  dsimp only []
  rw [← hB5]
  have kA : kq (VTc j) M A3 := by
    rw [hA3]
    exact ((((((p3.mono (fun t k q => by unfold VTc; omega)).tr (q3.mono (fun t k q => by unfold VTc; omega))).si (by unfold VTc; omega) _).si (by unfold VTc; omega) _).si (by unfold VTc; omega) _).si (by unfold VTc; omega) _)
  have kB4 : kq (fun t _ => 29 ≤ t ∧ t ≤ 32) A3 B4 := (((b3.mono (fun t k q => by omega)).tr (c3.mono (fun t k q => by omega))).tr (d3.mono (fun t k q => by omega))).tr (e3.mono (fun t k q => by omega))
  have kB : kq (fun t _ => 28 ≤ t ∧ t ≤ 32) A3 B5 := by
    rw [hB5]
    exact (((((((kB4.mono (fun t k q => by omega)).si (by omega) _).si (by omega) _).si (by omega) _).si (by omega) _).si (by omega) _).si (by omega) _).si (by omega) _
  have k5 : kq (VTc j) M B5 := kA.tr (kB.mono (fun t k q => by unfold VTc; omega))
  have h443 : gi B5 44 3 = nI len := by
    rw [kB _ _ (by omega), hA3, gi_si, if_neg (by omega), gi_si, if_neg (by omega), gi_si, if_neg (by omega), gi_si, if_neg (by omega), q3 _ _ (by omega), p3 _ _ (by omega), hl]
  have h442 : gi B5 44 2 = nI j := by
    rw [k5 _ _ (by unfold VTc; omega), h2]
  have emin : f_J9_min_7cf53 n (nI e) (gi B5 44 3) B5 = some (nI e, B5) := by
    unfold f_J9_min_7cf53
    rw [h443, if_neg (nI_nlt hel (by omega))]
  rw [emin]
  dsimp only []
  obtain ⟨C, hCC⟩ : ∃ C, C = si (si (si (si (si (si (si B5 44 4 (nI e)) 44 3 (0 : Int32)) 44 6 (0 : Int32)) 44 11 (0 : Int32)) 44 12 (0 : Int32)) 44 13 (0 : Int32)) 44 14 (0 : Int32) := ⟨_, rfl⟩
  rw [← hCC]
  have kC : kq (fun t k => t = 44 ∧ 3 ≤ k ∧ k ≤ 14) B5 C := by
    rw [hCC]
    exact ((((((kq.rf.si (by omega) _).si (by omega) _).si (by omega) _).si (by omega) _).si (by omega) _).si (by omega) _).si (by omega) _
  have kMC : kq (VTc j) M C := k5.tr (kC.mono (fun t k q => by unfold VTc; omega))
  have C4 : gi C 44 4 = nI e := by rw [hCC]; simp [gi_si]
  have C6 : gi C 44 6 = nI 0 := by rw [hCC]; simp [gi_si]; rfl
  have C3 : gi C 44 3 = 0 := by rw [hCC]; simp [gi_si]
  have C11 : gi C 44 11 = 0 := by rw [hCC]; simp [gi_si]
  have C13 : gi C 44 13 = 0 := by rw [hCC]; simp [gi_si]
  have C14 : gi C 44 14 = 0 := by rw [hCC]; simp [gi_si]
  obtain ⟨M', a1, a2, a3⟩ := cStep hx.hd he hf hn C4 (fun q hq => by rw [kMC _ _ (by unfold VTc; omega)]; exact hb q hq) C6
  rw [a1]
  dsimp only []
  have kj : ∀ t k, j ≤ t → t ≤ j + 4 → gi M' t k = gi A3 t k := fun t k h1 h2 => by rw [a3 _ _ (by unfold VL; omega), kC _ _ (by omega), kB _ _ (by omega)]
  have ks : ∀ k, gi M' 28 k = gi B5 28 k := fun k => by rw [a3 _ _ (by unfold VL; omega), kC _ _ (by omega)]
  refine ⟨M', rfl, ⟨⟨⟨⟨0, hx⟩, a2⟩, ?_, ?_, Nat.zero_le _⟩, ⟨?_, ?_, ?_, ?_, ?_, ?_, ?_, fun c hc => absurd hc (Nat.not_lt_zero c), fun c hc => absurd hc (Nat.not_lt_zero c), fun c hc => absurd hc (Nat.not_lt_zero c), fun c hc => absurd hc (Nat.not_lt_zero c)⟩, fun v _ hv => ?_, ?_, ?_, ?_, Nat.zero_le _, ?_, ?_, ?_, fun c hc => absurd hc (Nat.not_lt_zero c), fun r hr => ?_, s0_good, t0_good⟩, kMC.tr (a3.mono (fun t k q => by unfold VL at q; unfold VTc; omega)), ?_⟩
  · rw [a3 _ _ (by unfold VL; omega), kC _ _ (by omega), h442]
  · rw [kj _ _ (by omega) (by omega), hA3]
    simp [gi_si]
    rfl
  · rw [ks, hB5]
    simp [gi_si]
    rfl
  · rw [ks, hB5]
    simp [gi_si]
    rfl
  · rw [ks, hB5]
    simp [gi_si]
    rfl
  · rw [ks, hB5]
    simp [gi_si]
    rfl
  · rw [ks, hB5]
    simp [gi_si]
    rfl
  · rw [ks, hB5]
    simp [gi_si]
    rfl
  · rw [ks, hB5]
    simp [gi_si]
    rfl
  · rw [a3 _ _ (by unfold VL; omega), kC _ _ (by omega), hB5]
    simp only [gi_si]
    rw [if_neg (by omega), if_neg (by omega), if_neg (by omega), if_neg (by omega), if_neg (by omega), if_neg (by omega), if_neg (by omega)]
    exact e2 v hv
  · rw [a3 _ _ (by unfold VL; omega), C13]
    rfl
  · rw [a3 _ _ (by unfold VL; omega), C14]
    rfl
  · rw [a3 _ _ (by unfold VL; omega), C11]
  · rw [kj _ _ (by omega) (by omega), hA3]
    simp [gi_si]
    rfl
  · rw [kj _ _ (by omega) (by omega), hA3]
    simp [gi_si]
    rfl
  · rw [kj _ _ (by omega) (by omega), hA3]
    simp [gi_si]
    rfl
  · show gi M' (j + 3) r = -1
    rw [kj _ _ (by omega) (by omega), hA3, gi_si, if_neg (by omega), gi_si, if_neg (by omega), gi_si, if_neg (by omega), gi_si, if_neg (by omega), q3 _ _ (by omega)]
    exact p2 r hr
  · rw [a3 _ _ (by unfold VL; omega), C3]
end B
