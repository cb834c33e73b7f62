/-! The reference reads winds, a rule, a line. -/
section M
variable {f : Nat → Nat} {e s n : Nat}
theorem mWindL (he : e ≤ 700) (hf : ∀ q, f q < 256) (hn : 800 < n) : ∀ (ts : List Tok) (τ : Td) (x1 : Int32) (N : Nat) (M : Mem), DT f e s τ ts M → τ.s.Good τ.wd → τ.t.winds ≤ 8 → x1 = (if τ.t.winds = 0 ∨ (hdT e ts).k = 2 then 1 else 0) → ts.length + 3 ≤ N → RU f e M (winR e ts τ) (bd (gl (b_X9_readsWinds_7 n) N (x1, M)) (fun q => j_X9_line_378 n q)) := by
  intro ts
  induction ts with
  | nil =>
    intro τ x1 N M h hG h8 hx hN
    obtain ⟨N, rfl⟩ : ∃ k, N = k + 1 := ⟨N - 1, by omega⟩
    by_cases c0 : τ.t.winds = 0
    · rw [if_pos (Or.inl c0)] at hx
      rcases mNum (n := n) he hf hn h (lo := 0) (hi := 9) (x1 := 0) (x2 := 9) (by decide) (by decide) rfl rfl with ⟨k, p, M1, x, b1, b2, b3, b4, b5⟩ | ⟨v, M1, b1, _⟩
      · rw [gl_mr (o := some M1) (by
          rw [b_X9_readsWinds_7]
          try dsimp only []
          rw [hx, if_neg (show ¬ (1 : Int32) = 0 by decide), h.good]
          dsimp only [bd]
          rw [if_neg (show ¬ (1 : Int32) = 0 by decide), h.d_n, c0, if_neg (show ¬ nI 0 = (8 : Int32) by decide)]
          unfold j_X9_readsWinds_40
          rw [b2]
          dsimp only [bd]
          rw [b3.bad]
          dsimp only []
          rw [if_pos (show (0 : Int32) = 0 from rfl)])]
        dsimp only [bd]
        have e1 : numR e 0 9 ([] : List Tok) = .inl (1, e) := rfl
        rw [e1] at b1
        injection b1 with b1
        have e2 : winR e [] τ = .inl (k, p) := by rw [← b1]; rfl
        rw [e2]
        exact RU.bad b3 b4
      · exact absurd b1 (by intro q; cases q)
    · rw [if_neg (show ¬ (τ.t.winds = 0 ∨ (hdT e ([] : List Tok)).k = 2) by
        rintro (q | q)
        · exact c0 q
        · exact absurd q (show ¬ (0 : Nat) = 2 by decide))] at hx
      rw [gl_mr (o := some M) (by
        rw [b_X9_readsWinds_7]
        try dsimp only []
        rw [hx, if_pos (show (0 : Int32) = 0 from rfl)])]
      exact mEndL (n := n) he hf hn h
  | cons T ts ih =>
    intro τ x1 N M h hG h8 hx hN
    rw [List.length_cons] at hN
    obtain ⟨N, rfl⟩ : ∃ k, N = k + 1 := ⟨N - 1, by omega⟩
    rw [show hdT e (T :: ts) = T from rfl] at hx
    have htf : TF e T := h.d_t.tf hf
    have hk4 := htf.f_k
    have hk : gi M 0 17 = nI T.k := h.d_t.2.m_k
    rw [winR]
    by_cases c : τ.t.winds = 0 ∨ T.k = 2
    · rw [if_pos c] at hx
      rw [if_pos c]
      by_cases c8 : τ.t.winds < 8
      · have e40 : b_X9_readsWinds_7 n (x1, M) = j_X9_readsWinds_40 n M := by
          rw [b_X9_readsWinds_7]
          try dsimp only []
          rw [hx, if_neg (show ¬ (1 : Int32) = 0 by decide), h.good]
          dsimp only [bd]
          rw [if_neg (show ¬ (1 : Int32) = 0 by decide), h.d_n, if_neg (show ¬ nI τ.t.winds = (8 : Int32) from fun q => absurd ((nI_eq (b := 8) (by omega) (by decide)).mp q) (by omega))]
        rcases mNum (n := n) he hf hn h (lo := 0) (hi := 9) (x1 := 0) (x2 := 9) (by decide) (by decide) rfl rfl with ⟨k, p, M1, x, b1, b2, b3, b4, b5⟩ | ⟨v, M1, b1, b2, b3, b4, b5, b6⟩
        · unfold numR at b1
          rw [show hdT e (T :: ts) = T from rfl] at b1
          by_cases cc : T.k = 2 ∧ T.nx - T.p ≤ 4 ∧ 0 ≤ T.v ∧ T.v ≤ 9
          · rw [if_pos cc] at b1
            exact absurd b1 (by intro q; cases q)
          · rw [if_neg cc] at b1
            injection b1 with b1
            rw [if_neg (fun q => cc ⟨q.1, q.2.1, Nat.zero_le _, q.2.2.2⟩), b1]
            rw [gl_mr (o := some M1) (by
              rw [e40]
              unfold j_X9_readsWinds_40
              rw [b2]
              dsimp only [bd]
              rw [b3.bad]
              dsimp only []
              rw [if_pos (show (0 : Int32) = 0 from rfl)])]
            exact RU.bad b3 b4
        · unfold numR at b1
          rw [show hdT e (T :: ts) = T from rfl] at b1
          by_cases cc : T.k = 2 ∧ T.nx - T.p ≤ 4 ∧ 0 ≤ T.v ∧ T.v ≤ 9
          · rw [if_pos cc] at b1
            have hv : T.v = v := by
              injection b1 with b1
              exact congrArg Prod.fst b1
            rw [if_pos ⟨cc.1, cc.2.1, c8, cc.2.2.2⟩, hv]
            have b3' : DT f e s τ ts M1 := b3
            have zw : (nI τ.t.winds).toNatClampNeg = τ.t.winds := nI_clamp (by omega)
            have iw : inb (nI τ.t.winds) 8 := n_in c8 (by decide)
            obtain ⟨M3, hM3⟩ : ∃ M3, M3 = si (si M1 5 τ.t.winds (nI v)) 0 26 (nI (τ.t.winds + 1)) := ⟨_, rfl⟩
            have k2 : kq (fun t q => (t = 5 ∧ q = τ.t.winds) ∨ (t = 0 ∧ q = 26)) M1 M3 := by rw [hM3]; exact (kq.rf.si (Or.inl ⟨rfl, rfl⟩) _).si (Or.inr ⟨rfl, rfl⟩) _
            have hD : DT f e s (τ.setT (τ.t.addI v)) ts M3 := by
              refine ⟨by rw [hM3]; exact (b3'.d_t.st (by omega) (by omega) _).st (by omega) (by omega) _, (k2 _ _ (by omega)).trans b3'.d_f, (k2 _ _ (by omega)).trans b3'.d_3, (k2 _ _ (by omega)).trans b3'.d_h, (k2 _ _ (by omega)).trans b3'.d_p, fun c hc => ⟨(k2 _ _ (by omega)).trans (b3'.d_hw c hc).1, (k2 _ _ (by omega)).trans (b3'.d_hw c hc).2⟩, fun c h1 hc => ⟨(k2 _ _ (by omega)).trans (b3'.d_pw c h1 hc).1, (k2 _ _ (by omega)).trans (b3'.d_pw c h1 hc).2⟩, ⟨(k2 _ _ (by omega)).trans b3'.d_0.1, (k2 _ _ (by omega)).trans b3'.d_0.2.1, (k2 _ _ (by omega)).trans b3'.d_0.2.2.1, (k2 _ _ (by omega)).trans b3'.d_0.2.2.2⟩, (k2 _ _ (by omega)).trans b3'.d_w, fun v hv => (k2 _ _ (by omega)).trans (b3'.d_ff v hv), fun v hv => (k2 _ _ (by omega)).trans (b3'.d_b v hv), fun v h1 h2 => (k2 _ _ (by omega)).trans (b3'.d_z v h1 h2), ⟨(k2 _ _ (by omega)).trans b3'.d_g.1, b3'.d_g.2⟩, ⟨(k2 _ _ (by omega)).trans b3'.d_c.1, b3'.d_c.2⟩, by rw [hM3, gi_si, if_pos ⟨rfl, rfl⟩]; rfl, fun i hi => ?_, ⟨(k2 _ _ (by omega)).trans b3'.d_s.1, b3'.d_s.2⟩, fun r hr => (b3'.d_r r hr).kq k2 (Nat.le_refl _) (by omega) (fun q _ => by omega)⟩
              have hi' : i < τ.t.winds + 1 := hi
              show gi M3 5 i = nI (updN τ.t.winds v τ.t.wind i)
              rw [hM3, gi_si, if_neg (by omega), gi_si]
              unfold updN
              by_cases q : i = τ.t.winds
              · rw [if_pos ⟨rfl, q⟩, if_pos q]
              · rw [if_neg (by omega), if_neg q]
                exact b3'.d_i i (by omega)
            have h17 : gi M3 0 17 = nI (hdT e ts).k := hD.d_t.2.m_k
            have htk := (hD.d_t.tf hf).f_k
            have e1 : b_X9_readsWinds_7 n (x1, M) = some (.inl (if (hdT e ts).k = 2 then (1 : Int32) else 0, M3)) := by
              rw [e40]
              unfold j_X9_readsWinds_40
              rw [b2]
              dsimp only [bd]
              rw [b3'.good]
              dsimp only []
              rw [if_neg (show ¬ (1 : Int32) = 0 by decide), b3'.d_n]
              simp only [ck_pos iw, zw]
              rw [show gi (si M1 5 τ.t.winds (nI v)) 0 26 = nI τ.t.winds by rw [gi_si, if_neg (by omega)]; exact b3'.d_n, nI_1, ← hM3, h17]
              by_cases q2 : (hdT e ts).k = 2
              · rw [if_pos (show nI (hdT e ts).k = (2 : Int32) by rw [q2]; rfl), if_pos q2]
                rfl
              · rw [if_neg (ne_2 q2 (by omega)), if_neg q2]
                rfl
            rw [gl_inl e1]
            refine (ih (τ.setT (τ.t.addI v)) _ N M3 hD hG (show τ.t.winds + 1 ≤ 8 by omega) ?_ (by omega)).of ((b4.mono (fun _ _ q => q.q)).tr (k2.mono (fun t q hq => by unfold VQ; omega)))
            have hz : ¬ (τ.setT (τ.t.addI v)).t.winds = 0 := show ¬ τ.t.winds + 1 = 0 by omega
            by_cases q2 : (hdT e ts).k = 2
            · rw [if_pos q2, if_pos (Or.inr q2)]
            · rw [if_neg q2, if_neg (by
                rintro (q | q)
                · exact hz q
                · exact q2 q)]
          · rw [if_neg cc] at b1
            exact absurd b1 (by intro q; cases q)
      · have ck2 : T.k = 2 := by omega
        have w8 : τ.t.winds = 8 := by omega
        rw [if_neg (fun q => c8 q.2.2.1), if_pos ck2]
        obtain ⟨M0, w1, w2, w3, w4⟩ := h.wrong (n := n) (k := 2) (x := 2) (by decide) rfl
        rw [gl_mr (o := some M0) (by
          rw [b_X9_readsWinds_7]
          try dsimp only []
          rw [hx, if_neg (show ¬ (1 : Int32) = 0 by decide), h.good]
          dsimp only [bd]
          rw [if_neg (show ¬ (1 : Int32) = 0 by decide), h.d_n, w8, if_pos (show nI 8 = (8 : Int32) from rfl), hk, if_pos (show nI T.k = (2 : Int32) by rw [ck2]; rfl), w1]
          dsimp only []
          unfold j_X9_readsWinds_40
          rw [mNumF w2]
          dsimp only [bd]
          rw [w2.bad]
          dsimp only []
          rw [if_pos (show (0 : Int32) = 0 from rfl)])]
        exact RU.bad w2 w3
    · rw [if_neg c] at hx
      rw [if_neg c]
      rw [gl_mr (o := some M) (by
        rw [b_X9_readsWinds_7]
        try dsimp only []
        rw [hx, if_pos (show (0 : Int32) = 0 from rfl)])]
      exact mEndL (n := n) he hf hn h
variable {τ : Td} {ts : List Tok} {M : Mem}
theorem mWindsL (he : e ≤ 700) (hf : ∀ q, f q < 256) (hn : 800 < n) {T : Tok} (h : DT f e s τ (T :: ts) M) (hG : τ.s.Good τ.wd) : RU f e M (if 0 < τ.t.winds then .inl (5, T.p) else winR e ts τ) (j_X9_line_226 n (if 0 < τ.t.winds then 1 else 0) 0 M) := by
  unfold j_X9_line_226
  by_cases c : 0 < τ.t.winds
  · rw [if_pos c, if_pos c]
    obtain ⟨M1, a1, a2, a3⟩ := mBegF (n := n) h (a := 0) (b := 1) (k := 5) (Or.inr ⟨rfl, rfl, rfl⟩)
    rw [a1]
    dsimp only [bd]
    rw [if_pos (show (0 : Int32) = 0 from rfl)]
    exact RU.bad a2 a3
  · rw [if_neg c, if_neg c]
    obtain ⟨M1, a1, a2, a3⟩ := mBeg (n := n) he hf hn h
    have a2' : DT f e s τ ts M1 := a2
    rw [a1]
    dsimp only [bd]
    rw [if_neg (show ¬ (1 : Int32) = 0 by decide)]
    have hlen : ts.length ≤ 700 := by
      obtain ⟨⟨p, hp⟩, _⟩ := a2'.d_t
      have := lx_len ts p hp
      omega
    have w0 : τ.t.winds = 0 := by omega
    have k2 : kq (fun t q => t = 0 ∧ q = 26) M1 (si M1 0 26 0) := kq.rf.si ⟨rfl, rfl⟩ _
    have hD : DT f e s τ ts (si M1 0 26 0) := ⟨a2'.d_t.st (by omega) (by omega) _, (k2 _ _ (by omega)).trans a2'.d_f, (k2 _ _ (by omega)).trans a2'.d_3, (k2 _ _ (by omega)).trans a2'.d_h, (k2 _ _ (by omega)).trans a2'.d_p, fun c hc => ⟨(k2 _ _ (by omega)).trans (a2'.d_hw c hc).1, (k2 _ _ (by omega)).trans (a2'.d_hw c hc).2⟩, fun c h1 hc => ⟨(k2 _ _ (by omega)).trans (a2'.d_pw c h1 hc).1, (k2 _ _ (by omega)).trans (a2'.d_pw c h1 hc).2⟩, ⟨(k2 _ _ (by omega)).trans a2'.d_0.1, (k2 _ _ (by omega)).trans a2'.d_0.2.1, (k2 _ _ (by omega)).trans a2'.d_0.2.2.1, (k2 _ _ (by omega)).trans a2'.d_0.2.2.2⟩, (k2 _ _ (by omega)).trans a2'.d_w, fun v hv => (k2 _ _ (by omega)).trans (a2'.d_ff v hv), fun v hv => (k2 _ _ (by omega)).trans (a2'.d_b v hv), fun v h1 h2 => (k2 _ _ (by omega)).trans (a2'.d_z v h1 h2), ⟨(k2 _ _ (by omega)).trans a2'.d_g.1, a2'.d_g.2⟩, ⟨(k2 _ _ (by omega)).trans a2'.d_c.1, a2'.d_c.2⟩, by rw [gi_si, if_pos ⟨rfl, rfl⟩, w0]; rfl, fun i hi => (k2 _ _ (by omega)).trans (a2'.d_i i hi), ⟨(k2 _ _ (by omega)).trans a2'.d_s.1, a2'.d_s.2⟩, fun r hr => (a2'.d_r r hr).kq k2 (Nat.le_refl _) (by omega) (fun q _ => by omega)⟩
    unfold f_X9_readsWinds
    exact (mWindL (n := n) he hf hn ts τ 1 n (si M1 0 26 0) hD hG (by omega) (by rw [if_pos (Or.inl w0)]) (by omega)).of (a3.si (by unfold VQ; omega) _)
theorem mRuleX (he : e ≤ 700) (hf : ∀ q, f q < 256) (hn : 800 < n) {T : Tok} {r : Nat} (hr : r < 3) (hk : ¬ T.k = 0) {lo hi : Int32} (hlo : lo = nI (if r = 0 then 0 else 3)) (hhi : hi = nI (if r = 0 then 5 else 8)) (h : DT f e s τ (T :: ts) M) : RU f e M (ruR e τ r T.p ts) (bd (f_X9_begins n 0 (if (τ.t.rule r).isSome = true then 1 else 0) M) (fun q15 => if q15.1 = 0 then (j_X9_line_378 n q15.2) else (bd (f_X9_expression n lo hi (si q15.2 0 (29 + r) (gi q15.2 0 32))) (fun q17 => j_X9_line_378 n q17)))) := by
  unfold ruR
  by_cases c : (τ.t.rule r).isSome = true
  · rw [if_pos c, if_pos c]
    obtain ⟨M1, a1, a2, a3⟩ := mBegF (n := n) h (a := 0) (b := 1) (k := 5) (Or.inr ⟨rfl, rfl, rfl⟩)
    rw [a1]
    dsimp only [bd]
    rw [if_pos (show (0 : Int32) = 0 from rfl)]
    exact RU.bad a2 a3
  · rw [if_neg c, if_neg c]
    obtain ⟨M1, a1, a2, a3⟩ := mBeg (n := n) he hf hn h
    have a2' : DT f e s τ ts M1 := a2
    have hx : T.p + 1 ≤ (hdT e ts).p := h.d_t.nxt hf hk
    have hs : s ≤ 2 * T.p := h.d_s.2
    rw [a1]
    dsimp only [bd]
    rw [if_neg (show ¬ (1 : Int32) = 0 by decide), a2'.d_s.1]
    obtain ⟨M2, hM2⟩ : ∃ M2, M2 = si M1 0 (29 + r) (nI s) := ⟨_, rfl⟩
    rw [← hM2]
    have k2 : kq (fun t q => t = 0 ∧ q = 29 + r) M1 M2 := by rw [hM2]; exact kq.rf.si ⟨rfl, rfl⟩ _
    have kq2 : kq VQ M M2 := a3.tr (k2.mono (fun t q hq => by unfold VQ; omega))
    have ex := mExpr (n := n) (s := s) (r := r) (M := M2) (ts := ts) he hf hn hlo hhi (by rw [hM2]; exact a2'.d_t.st (by omega) (by omega) _) ((k2 _ _ (by omega)).trans a2'.d_f) ((k2 _ _ (by omega)).trans a2'.d_3) ((k2 _ _ (by omega)).trans a2'.d_s.1) (by omega)
    obtain ⟨M3, x1, x2, x3⟩ := ex
    rw [x1]
    dsimp only []
    have kv : kq VQ M M3 := kq2.tr (x2.mono (fun t q hq => by unfold VXr at hq; unfold VQ; omega))
    rcases x3 with ⟨O, ts', y1, y2, y3, y4, y5, y6, y7⟩ | ⟨k, p, y1, y2, y3, y4, y5⟩
    · rw [y1]
      dsimp only []
      have kk : kq (fun t q => (t = 0 ∧ q = 29 + r) ∨ VXr s t q) M1 M3 := (k2.mono (fun _ _ q => Or.inl q)).tr (x2.mono (fun _ _ q => Or.inr q))
      have hD : DT f e (s + len2 O + 1) (τ.setT (τ.t.setR r O)) ts' M3 := by
        refine ⟨y2, y3, y7, (kk _ _ (by unfold VXr; omega)).trans a2'.d_h, (kk _ _ (by unfold VXr; omega)).trans a2'.d_p, fun c hc => ⟨(kk _ _ (by unfold VXr; omega)).trans (a2'.d_hw c hc).1, (kk _ _ (by unfold VXr; omega)).trans (a2'.d_hw c hc).2⟩, fun c h1 hc => ⟨(kk _ _ (by unfold VXr; omega)).trans (a2'.d_pw c h1 hc).1, (kk _ _ (by unfold VXr; omega)).trans (a2'.d_pw c h1 hc).2⟩, ⟨(kk _ _ (by unfold VXr; omega)).trans a2'.d_0.1, (kk _ _ (by unfold VXr; omega)).trans a2'.d_0.2.1, (kk _ _ (by unfold VXr; omega)).trans a2'.d_0.2.2.1, (kk _ _ (by unfold VXr; omega)).trans a2'.d_0.2.2.2⟩, (kk _ _ (by unfold VXr; omega)).trans a2'.d_w, fun v hv => (kk _ _ (by unfold VXr; omega)).trans (a2'.d_ff v hv), fun v hv => (kk _ _ (by unfold VXr; omega)).trans (a2'.d_b v hv), fun v h1 h2 => (kk _ _ (by unfold VXr; omega)).trans (a2'.d_z v h1 h2), ⟨(kk _ _ (by unfold VXr; omega)).trans a2'.d_g.1, a2'.d_g.2⟩, ⟨(kk _ _ (by unfold VXr; omega)).trans a2'.d_c.1, a2'.d_c.2⟩, (kk _ _ (by unfold VXr; omega)).trans a2'.d_n, fun i hi => (kk _ _ (by unfold VXr; omega)).trans (a2'.d_i i hi), ⟨y5, y6⟩, fun q hq => ?_⟩
        show RuX q (s + len2 O + 1) M3 (if q = r then some O else τ.t.rule q)
        by_cases cq : q = r
        · rw [if_pos cq, cq]
          refine ⟨s, ?_, by omega, y4⟩
          rw [x2 _ _ (by unfold VXr; omega), hM2, gi_si, if_pos ⟨rfl, rfl⟩]
        · rw [if_neg cq]
          exact (a2'.d_r q hq).kq kk (by omega) (by unfold VXr; omega) (fun i hi => by unfold VXr; omega)
      exact (mEndL (n := n) he hf hn hD).of kv
    · rw [y1]
      dsimp only []
      exact RU.bad ⟨y2, y3, by omega⟩ kv
theorem kw_el : ∀ v, v < 21 → 9 ≤ v → ¬ v = 15 → (1 ≤ kmW.getD v 0 ∧ kmW.getD v 0 ≤ 8) ∨ (18 ≤ kmW.getD v 0 ∧ kmW.getD v 0 ≤ 20) := by decide +kernel
theorem nNeg {a : Nat} (ha : a < 2 ^ 31) : ¬ nI a = (-1 : Int32) := fun q => nI_pos (n := a) ha (by rw [q]; decide)
theorem mLine (he : e ≤ 700) (hf : ∀ q, f q < 256) (hn : 800 < n) {T : Tok} (h : DT f e s τ (T :: ts) M) (hG : τ.s.Good τ.wd) (hT : τ.t.Good) : RU f e M (lnR e τ T ts) (f_X9_line n M) := by
  have h8 := hT.h_winds
  have hgr := hT.h_ground
  have hco := hT.h_cost
  have hh := hG.h_hung
  have hal := hG.h_all
  have hw8 := hG.h_wd
  have htf : TF e T := h.d_t.tf hf
  have hbad : RU f e M (.inl (1, T.p)) (bd (f_X9_wrong n (1 : Int32) M) (fun q50 => j_X9_line_378 n q50)) := by
    obtain ⟨M0, w1, w2, w3, w4⟩ := h.wrong (n := n) (k := 1) (x := 1) (by decide) rfl
    rw [w1]
    exact RU.bad w2 w3
  have e24 : f_X9_line n M = j_X9_line_24 n (if 16 ≤ τ.s.all then 1 else 0) (kwI T) M := by
    unfold f_X9_line
    rw [mKnownS he hn h.d_t]
    dsimp only [bd]
    rw [h.d_h, h.d_p, nI_add, show τ.s.hung + (τ.s.all - τ.s.hung) = τ.s.all by omega]
    by_cases c : 16 ≤ τ.s.all
    · rw [if_pos c, if_pos (show nI τ.s.all = (16 : Int32) from (nI_eq (b := 16) (by omega) (by decide)).mpr (by omega))]
      rfl
    · rw [if_neg c, if_neg (show ¬ nI τ.s.all = (16 : Int32) from fun q => absurd ((nI_eq (b := 16) (by omega) (by decide)).mp q) (by omega))]
      rfl
  rw [e24]
  have kwS : ∀ v, T.k = 1 → T.v = v → v < 21 → kwI T = nI (kmW.getD v 0) := by
    intro v q1 q2 q3
    unfold kwI
    rw [if_pos ⟨q1, by omega⟩, q2]
  have hrn : ∀ r, r < 3 → (gi M 0 (29 + r) = (-1 : Int32) ↔ (τ.t.rule r).isSome = false) := by
    intro r hr
    have hR := h.d_r r hr
    have hp := htf.f_p
    have hsp : s ≤ 2 * T.p := h.d_s.2
    cases hru : τ.t.rule r with
    | none =>
      rw [hru] at hR
      exact ⟨fun _ => rfl, fun _ => hR⟩
    | some p =>
      rw [hru] at hR
      obtain ⟨f0, r1, r2, r3⟩ := hR
      rw [r1]
      exact ⟨fun q => absurd q (nNeg (by omega)), fun q => absurd q (show ¬ (some p).isSome = false by simp)⟩
  unfold lnR j_X9_line_24
  by_cases c1 : T.k = 1
  · have hk0 : ¬ T.k = 0 := by omega
    have hv21 := htf.f_1 c1
    rw [if_neg (fun q => q c1)]
    by_cases v0 : T.v = 0
    · rw [if_pos v0, kwS 0 c1 v0 (by decide), if_pos (show nI (kmW.getD 0 0) = (9 : Int32) from rfl)]
      by_cases c : 16 ≤ τ.s.all
      · rw [if_pos c, if_pos c]
        obtain ⟨M1, a1, a2, a3⟩ := mBegF (n := n) h (a := 1) (b := 0) (k := 2) (Or.inl ⟨rfl, rfl, rfl⟩)
        rw [a1]
        dsimp only [bd]
        rw [if_pos (show (0 : Int32) = 0 from rfl)]
        exact RU.bad a2 a3
      · rw [if_neg c, if_neg c]
        obtain ⟨M1, a1, a2, a3⟩ := mBeg (n := n) he hf hn h
        rw [a1]
        dsimp only [bd]
        rw [if_neg (show ¬ (1 : Int32) = 0 by decide)]
        exact (mHung (n := n) (ts := ts) he hf hn a2 hG (by omega)).of a3
    rw [if_neg v0]
    by_cases v1 : T.v = 1
    · rw [if_pos v1, kwS 1 c1 v1 (by decide), if_neg (show ¬ nI (kmW.getD 1 0) = (9 : Int32) by decide), if_pos (show nI (kmW.getD 1 0) = (10 : Int32) from rfl)]
      by_cases c : 16 ≤ τ.s.all
      · rw [if_pos c, if_pos c]
        obtain ⟨M1, a1, a2, a3⟩ := mBegF (n := n) h (a := 1) (b := 0) (k := 2) (Or.inl ⟨rfl, rfl, rfl⟩)
        rw [a1]
        dsimp only [bd]
        rw [if_pos (show (0 : Int32) = 0 from rfl)]
        exact RU.bad a2 a3
      · rw [if_neg c, if_neg c]
        obtain ⟨M1, a1, a2, a3⟩ := mBeg (n := n) he hf hn h
        rw [a1]
        dsimp only [bd]
        rw [if_neg (show ¬ (1 : Int32) = 0 by decide)]
        exact (mPlan (n := n) (ts := ts) he hf hn a2 hG (by omega)).of a3
    rw [if_neg v1]
    by_cases v2 : T.v = 2
    · rw [if_pos v2, kwS 2 c1 v2 (by decide), if_neg (show ¬ nI (kmW.getD 2 0) = (9 : Int32) by decide), if_neg (show ¬ nI (kmW.getD 2 0) = (10 : Int32) by decide), if_pos (show nI (kmW.getD 2 0) = (11 : Int32) from rfl), h.d_g.1]
      have key := mGroundL (n := n) he hf hn h
      by_cases c : τ.gt = true
      · rw [if_pos c, if_pos c] at key
        rw [if_pos c, if_pos c, if_neg (nNeg (by omega))]
        exact key
      · rw [if_neg c, if_neg c] at key
        rw [if_neg c, if_neg c, if_pos (show (-1 : Int32) = -1 from rfl)]
        exact key
    rw [if_neg v2]
    by_cases v3 : T.v = 3
    · rw [if_pos v3, kwS 3 c1 v3 (by decide), if_neg (show ¬ nI (kmW.getD 3 0) = (9 : Int32) by decide), if_neg (show ¬ nI (kmW.getD 3 0) = (10 : Int32) by decide), if_neg (show ¬ nI (kmW.getD 3 0) = (11 : Int32) by decide), if_pos (show nI (kmW.getD 3 0) = (12 : Int32) from rfl), h.d_c.1]
      have key := mCostL (n := n) he hf hn h
      by_cases c : τ.ct = true
      · rw [if_pos c, if_pos c] at key
        rw [if_pos c, if_pos c, if_neg (nNeg (by omega))]
        exact key
      · rw [if_neg c, if_neg c] at key
        rw [if_neg c, if_neg c, if_pos (show (-1 : Int32) = -1 from rfl)]
        exact key
    rw [if_neg v3]
    by_cases v4 : T.v = 4
    · rw [if_pos v4, kwS 4 c1 v4 (by decide), if_neg (show ¬ nI (kmW.getD 4 0) = (9 : Int32) by decide), if_neg (show ¬ nI (kmW.getD 4 0) = (10 : Int32) by decide), if_neg (show ¬ nI (kmW.getD 4 0) = (11 : Int32) by decide), if_neg (show ¬ nI (kmW.getD 4 0) = (12 : Int32) by decide), if_pos (show nI (kmW.getD 4 0) = (13 : Int32) from rfl), h.d_w]
      have key := mWardL (n := n) he hf hn h hG
      by_cases c : 8 ≤ τ.wd
      · rw [if_pos c, if_pos c] at key
        rw [if_pos c, if_pos (show nI τ.wd = (8 : Int32) from (nI_eq (b := 8) (by omega) (by decide)).mpr (by omega))]
        exact key
      · rw [if_neg c, if_neg c] at key
        rw [if_neg c, if_neg (show ¬ nI τ.wd = (8 : Int32) from fun q => absurd ((nI_eq (b := 8) (by omega) (by decide)).mp q) (by omega))]
        exact key
    rw [if_neg v4]
    by_cases v5 : T.v = 5
    · rw [if_pos v5, kwS 5 c1 v5 (by decide), if_neg (show ¬ nI (kmW.getD 5 0) = (9 : Int32) by decide), if_neg (show ¬ nI (kmW.getD 5 0) = (10 : Int32) by decide), if_neg (show ¬ nI (kmW.getD 5 0) = (11 : Int32) by decide), if_neg (show ¬ nI (kmW.getD 5 0) = (12 : Int32) by decide), if_neg (show ¬ nI (kmW.getD 5 0) = (13 : Int32) by decide), if_pos (show nI (kmW.getD 5 0) = (14 : Int32) from rfl)]
      obtain ⟨M1, a1, a2, a3⟩ := mBeg (n := n) he hf hn h
      rw [a1]
      dsimp only [bd]
      rw [if_neg (show ¬ (1 : Int32) = 0 by decide)]
      exact (mStreetL (n := n) (ts := ts) he hf hn a2 hG).of a3
    rw [if_neg v5]
    by_cases v15 : T.v = 15
    · rw [if_pos v15, kwS 15 c1 v15 (by decide), if_neg (show ¬ nI (kmW.getD 15 0) = (9 : Int32) by decide), if_neg (show ¬ nI (kmW.getD 15 0) = (10 : Int32) by decide), if_neg (show ¬ nI (kmW.getD 15 0) = (11 : Int32) by decide), if_neg (show ¬ nI (kmW.getD 15 0) = (12 : Int32) by decide), if_neg (show ¬ nI (kmW.getD 15 0) = (13 : Int32) by decide), if_neg (show ¬ nI (kmW.getD 15 0) = (14 : Int32) by decide), if_pos (show nI (kmW.getD 15 0) = 0 from rfl), h.d_n]
      have key := mWindsL (n := n) he hf hn h hG
      by_cases c : 0 < τ.t.winds
      · rw [if_pos c, if_pos c] at key
        rw [if_pos c, if_neg (show ¬ nI τ.t.winds ≤ (0 : Int32) from nI_ge (a := 0) c (by omega))]
        exact key
      · rw [if_neg c, if_neg c] at key
        rw [if_neg c, if_pos (show nI τ.t.winds ≤ (0 : Int32) from nI_le (b := 0) (by omega) (by decide))]
        exact key
    rw [if_neg v15]
    by_cases v6 : T.v = 6
    · rw [if_pos v6, kwS 6 c1 v6 (by decide), if_neg (show ¬ nI (kmW.getD 6 0) = (9 : Int32) by decide), if_neg (show ¬ nI (kmW.getD 6 0) = (10 : Int32) by decide), if_neg (show ¬ nI (kmW.getD 6 0) = (11 : Int32) by decide), if_neg (show ¬ nI (kmW.getD 6 0) = (12 : Int32) by decide), if_neg (show ¬ nI (kmW.getD 6 0) = (13 : Int32) by decide), if_neg (show ¬ nI (kmW.getD 6 0) = (14 : Int32) by decide), if_neg (show ¬ nI (kmW.getD 6 0) = 0 by decide), if_pos (show nI (kmW.getD 6 0) = (15 : Int32) from rfl)]
      have key := mRuleX (n := n) (r := 0) (lo := 0) (hi := 5) he hf hn (by decide) hk0 rfl rfl h
      by_cases c : (τ.t.rule 0).isSome = true
      · rw [if_pos c] at key
        rw [if_neg (show ¬ gi M 0 29 = (-1 : Int32) from fun q => absurd ((hrn 0 (by decide)).mp q) (by rw [c]; decide))]
        exact key
      · rw [if_neg c] at key
        rw [if_pos (show gi M 0 29 = (-1 : Int32) from (hrn 0 (by decide)).mpr (by simpa using c))]
        exact key
    rw [if_neg v6]
    by_cases v7 : T.v = 7
    · rw [if_pos v7, kwS 7 c1 v7 (by decide), if_neg (show ¬ nI (kmW.getD 7 0) = (9 : Int32) by decide), if_neg (show ¬ nI (kmW.getD 7 0) = (10 : Int32) by decide), if_neg (show ¬ nI (kmW.getD 7 0) = (11 : Int32) by decide), if_neg (show ¬ nI (kmW.getD 7 0) = (12 : Int32) by decide), if_neg (show ¬ nI (kmW.getD 7 0) = (13 : Int32) by decide), if_neg (show ¬ nI (kmW.getD 7 0) = (14 : Int32) by decide), if_neg (show ¬ nI (kmW.getD 7 0) = 0 by decide), if_neg (show ¬ nI (kmW.getD 7 0) = (15 : Int32) by decide), if_pos (show nI (kmW.getD 7 0) = (16 : Int32) from rfl)]
      have key := mRuleX (n := n) (r := 1) (lo := 3) (hi := 8) he hf hn (by decide) hk0 rfl rfl h
      by_cases c : (τ.t.rule 1).isSome = true
      · rw [if_pos c] at key
        rw [if_neg (show ¬ gi M 0 30 = (-1 : Int32) from fun q => absurd ((hrn 1 (by decide)).mp q) (by rw [c]; decide))]
        exact key
      · rw [if_neg c] at key
        rw [if_pos (show gi M 0 30 = (-1 : Int32) from (hrn 1 (by decide)).mpr (by simpa using c))]
        exact key
    rw [if_neg v7]
    by_cases v8 : T.v = 8
    · rw [if_pos v8, kwS 8 c1 v8 (by decide), if_neg (show ¬ nI (kmW.getD 8 0) = (9 : Int32) by decide), if_neg (show ¬ nI (kmW.getD 8 0) = (10 : Int32) by decide), if_neg (show ¬ nI (kmW.getD 8 0) = (11 : Int32) by decide), if_neg (show ¬ nI (kmW.getD 8 0) = (12 : Int32) by decide), if_neg (show ¬ nI (kmW.getD 8 0) = (13 : Int32) by decide), if_neg (show ¬ nI (kmW.getD 8 0) = (14 : Int32) by decide), if_neg (show ¬ nI (kmW.getD 8 0) = 0 by decide), if_neg (show ¬ nI (kmW.getD 8 0) = (15 : Int32) by decide), if_neg (show ¬ nI (kmW.getD 8 0) = (16 : Int32) by decide), if_pos (show nI (kmW.getD 8 0) = (17 : Int32) from rfl)]
      have key := mRuleX (n := n) (r := 2) (lo := 3) (hi := 8) he hf hn (by decide) hk0 rfl rfl h
      by_cases c : (τ.t.rule 2).isSome = true
      · rw [if_pos c] at key
        rw [if_neg (show ¬ gi M 0 31 = (-1 : Int32) from fun q => absurd ((hrn 2 (by decide)).mp q) (by rw [c]; decide))]
        exact key
      · rw [if_neg c] at key
        rw [if_pos (show gi M 0 31 = (-1 : Int32) from (hrn 2 (by decide)).mpr (by simpa using c))]
        exact key
    rw [if_neg v8]
    have hne : ∀ c, c < 100 → ((9 ≤ c ∧ c ≤ 17) ∨ c = 0) → ¬ kwI T = nI c := by
      intro c hc hr q
      by_cases q21 : T.v < 21
      · rw [kwS T.v c1 rfl q21] at q
        have k1 := kw_el T.v q21 (by omega) v15
        have k2 := (nI_eq (by omega) (by omega)).mp q
        omega
      · unfold kwI at q
        rw [if_neg (fun z => q21 z.2)] at q
        exact nNeg (a := c) (by omega) q.symm
    rw [if_neg (show ¬ kwI T = (9 : Int32) from hne 9 (by decide) (by decide)), if_neg (show ¬ kwI T = (10 : Int32) from hne 10 (by decide) (by decide)), if_neg (show ¬ kwI T = (11 : Int32) from hne 11 (by decide) (by decide)), if_neg (show ¬ kwI T = (12 : Int32) from hne 12 (by decide) (by decide)), if_neg (show ¬ kwI T = (13 : Int32) from hne 13 (by decide) (by decide)), if_neg (show ¬ kwI T = (14 : Int32) from hne 14 (by decide) (by decide)), if_neg (show ¬ kwI T = 0 from hne 0 (by decide) (by decide)), if_neg (show ¬ kwI T = (15 : Int32) from hne 15 (by decide) (by decide)), if_neg (show ¬ kwI T = (16 : Int32) from hne 16 (by decide) (by decide)), if_neg (show ¬ kwI T = (17 : Int32) from hne 17 (by decide) (by decide))]
    exact hbad
  · have hkI : kwI T = -1 := by
      unfold kwI
      rw [if_neg (fun q => c1 q.1)]
    rw [if_pos c1, hkI, if_neg (by decide), if_neg (by decide), if_neg (by decide), if_neg (by decide), if_neg (by decide), if_neg (by decide), if_neg (by decide), if_neg (by decide), if_neg (by decide), if_neg (by decide)]
    exact hbad
end M
