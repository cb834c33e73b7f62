/-! The class reads a rule: nots, ands, ors, parentheses. -/
section L
variable {f : Nat → Nat} {e n j r d w : Nat} {M : Mem} {ts : List Tok} {rec : Int32 → Int32 → Mem → Option (Int32 × Mem)}
theorem rep_wfo {rest : List Op} {h : Nat} (h1 : 1 ≤ h) (hr : wfo rest h) : ∀ k, wfo (List.replicate k (act 0) ++ rest) h
  | 0 => hr
  | k + 1 => ⟨h1, rep_wfo h1 hr k⟩
theorem rep_allV {P : Nat → Prop} : ∀ k, allV P (List.replicate k (act 0))
  | 0 => trivial
  | k + 1 => rep_allV (P := P) k
theorem Wf.nots {O : List Op} (h : Wf r 4 d O) (k : Nat) : Wf r 3 d (O ++ List.replicate k (act 0)) :=
  ⟨allV_app h.1 (rep_allV k), fun q rest h1 h2 => by
    rw [List.append_assoc]
    exact h.2 q _ h1 (rep_wfo (by omega) h2 k)⟩
theorem rep_cod {row : Nat → Int32} {s : Nat} : ∀ k, (∀ i, i < k → row (s + i) = enc1 (act 0)) → cod row s (List.replicate k (act 0))
  | 0, _ => trivial
  | k + 1, h => ⟨h 0 (by omega), rep_cod (s := s + 1) k (fun i hi => by
    have := h (i + 1) (by omega)
    rw [show s + 1 + i = s + (i + 1) by omega]
    exact this)⟩
theorem nots_good {O : List Op} {ts1 ts2 : List Tok} {M1 : Mem} {k : Nat} (he : e ≤ 700) (hf : ∀ q, f q < 256) (hn : 800 < n) (hj : j = 46 ∨ j = 53) (hr : r < 3) (hk : k ≤ 6) (g : GoodC f e j r w ts1 M1 O ts2 M) (hw : w + k ≤ (hdT e ts1).p) :
    ∃ M3, gl (b_X2_readNot_51 n rec (nI r) (nI k) 1) n ((0 : Int32), M) = some (1, M3) ∧ CXt f e j (w + (O ++ List.replicate k (act 0)).length) ts2 M3 ∧ cod (gi M3 (j + 2)) w (O ++ List.replicate k (act 0)) ∧ kq (VE j r w) M1 M3 ∧ gi M3 (j + 4) r = nI (w + (O ++ List.replicate k (act 0)).length) := by
  have zj : (nI j).toNatClampNeg = j := nI_clamp (by omega)
  have gp := g.g_p
  have gpe := (g.g_x.q_s.tf hf).f_p
  obtain ⟨M3, m, ⟨i1, i2, i3, i4, i5, i6⟩, em⟩ := gl_k (body := b_X2_readNot_51 n rec (nI r) (nI k) 1) (fun i (M' : Mem) => (nI i, M')) k (fun i M' => SCt f e ts2 M' ∧ gi M' 44 2 = nI j ∧ gi M' j 6 = nI (w + O.length + i) ∧ (∀ q, q < i → gi M' (j + 2) (w + O.length + q) = enc1 (act 0)) ∧ kq (VE j r (w + O.length)) M M' ∧ gi M' (j + 4) r = nI (w + O.length + i)) (fun i M' hi hI => by
      obtain ⟨i1, i2, i3, i4, i5, i6⟩ := hI
      obtain ⟨M2, w', a1, a2, a3, a4, a5, a6, a7⟩ := cWr (f := f) (e := e) (n := n) hj hr (by omega) i2 i3 (-10 : Int32)
      obtain ⟨b1, b2, b3⟩ := a5 (by omega)
      refine ⟨M2, ?_, a7 _ i1, (a6 2).trans i2, by rw [a3, b1]; rfl, fun q hq => ?_, i5.tr (a4.mono (fun t k h => h.mono (by omega))), b3⟩
      · rw [b_X2_readNot_51]
        try simp only []
        rw [if_neg (nI_ge hi (by omega)), i2]
        simp only [zj]
        rw [ck_pos hj, a1]
        simp only [bd]
        rw [nI_1]
      · by_cases cq : q = i
        · subst cq
          exact b2
        · rw [a4 _ _ (by unfold VE; omega)]
          exact i4 q (by omega)) n 0 M (Nat.zero_le _) (by omega) ⟨g.g_x.q_s, g.g_x.q_j, g.g_x.q_w, fun q hq => absurd hq (by omega), kq.rf, g.g_t⟩
  have hl : (O ++ List.replicate k (act 0)).length = O.length + k := by simp
  refine ⟨M3, ?_, ⟨i1, i2, by rw [i3, hl]; congr 1; omega, by rw [hl]; omega⟩, cod_app (cod_kq g.g_c i5 (Nat.le_refl _) (by omega)) (rep_cod k i4), g.g_k.tr (i5.mono (fun t k h => h.mono (by omega))), by rw [i6, hl]; congr 1; omega⟩
  · refine Eq.trans em (gl_mr ?_)
    rw [b_X2_readNot_51]
    try simp only []
    rw [if_pos (nI_le (Nat.le_refl _) (by omega)), ck_pos (Or.inr trivial)]
theorem nots_bad {M0 : Mem} {k k' p : Nat} (hn : 800 < n) (hj : j = 46 ∨ j = 53) (hr : r < 3) (hk : k ≤ 6) (g : BadC j r 0 M0 k' p M) (h2 : gi M 44 2 = nI j) :
    ∃ M3, gl (b_X2_readNot_51 n rec (nI r) (nI k) 0) n ((0 : Int32), M) = some (0, M3) ∧ BadC j r 0 M0 k' p M3 := by
  have zj : (nI j).toNatClampNeg = j := nI_clamp (by omega)
  obtain ⟨M3, m, ⟨i1, i2⟩, em⟩ := gl_k (body := b_X2_readNot_51 n rec (nI r) (nI k) 0) (fun i (M' : Mem) => (nI i, M')) k (fun i M' => BadC j r 0 M0 k' p M' ∧ gi M' 44 2 = nI j) (fun i M' hi hI => by
      obtain ⟨i1, i2⟩ := hI
      obtain ⟨M2, a1, a2, a3⟩ := bad_w (n := n) hj hr i1 i2 (-10 : Int32)
      refine ⟨M2, ?_, a2, a3⟩
      rw [b_X2_readNot_51]
      try simp only []
      rw [if_neg (nI_ge hi (by omega)), i2]
      simp only [zj]
      rw [ck_pos hj, a1]
      simp only [bd]
      rw [nI_1]) n 0 M (Nat.zero_le _) (by omega) ⟨g, h2⟩
  refine ⟨M3, ?_, i1⟩
  refine Eq.trans em (gl_mr ?_)
  rw [b_X2_readNot_51]
  try simp only []
  rw [if_pos (nI_le (Nat.le_refl _) (by omega)), ck_pos (Or.inl trivial)]
theorem cNot (he : e ≤ 700) (hf : ∀ q, f q < 256) (hn : 800 < n) (hj : j = 46 ∨ j = 53) (hr : r < 3) (hd : d ≤ 5) (hrec : RecOK f e j r d rec) (h : CXt f e j w ts M) : CR f e j r 3 d w ts M (f_X2_readNot n rec (nI r) (nI d) M) := by
  have key : ∀ (m N k : Nat) (ts1 : List Tok) (M1 : Mem), 7 - k = m → m < N → k ≤ 6 → CXt f e j w ts1 M1 → NtI r e k ts ts1 → kq VL M M1 → (hdT e ts).p + k ≤ (hdT e ts1).p → ts1.length ≤ ts.length → CR f e j r 3 d w ts M (gl (b_X2_readNot_2 n rec (nI r) (nI d)) N (nI k, M1)) := by
    intro m
    induction m with
    | zero => intro N k ts1 M1 hm hN hk; omega
    | succ m ih =>
      intro N k ts1 M1 hm hN hk hx hnt hkq hp hl
      obtain ⟨N, rfl⟩ : ∃ k, N = k + 1 := ⟨N - 1, by omega⟩
      have hwp := h.q_p
      have hkE : kq (VE j r w) M M1 := hkq.mono (fun t k h => h.ve)
      have hkE0 : kq (VE j r 0) M M1 := hkq.mono (fun t k h => h.ve)
      have tf := hx.q_s.tf hf
      have hpe := tf.f_p
      have hbd : b_X2_readNot_2 n rec (nI r) (nI d) (nI k, M1) = if (hdT e ts1).k = 1 ∧ (hdT e ts1).v = 11 then (if k < 6 then bd (f_X2_step n M1) (fun q12 => some (.inl (nI (k + 1), q12))) else mr (j_X2_readNot_27 n rec M1)) else mr (j_X2_readNot_40 n rec (nI r) (nI d) (nI k) M1) := by
        rw [b_X2_readNot_2]
        try simp only []
        rw [if_neg (show ¬ (6 : Int32) < nI k from nI_nlt (a := 6) (b := k) hk (by decide)), cIsWord hf hx.q_s]
        simp only [bd]
        by_cases c : (hdT e ts1).k = 1 ∧ (hdT e ts1).v = 11
        · rw [if_pos c, if_pos c, if_neg (show ¬ (1 : Int32) = 0 by decide), nI_1]
          by_cases c6 : k < 6
          · rw [if_pos (show nI (k + 1) ≤ (6 : Int32) from nI_le (b := 6) (by omega) (by decide)), if_pos c6]
          · rw [if_neg (show ¬ nI (k + 1) ≤ (6 : Int32) from nI_ge (a := 6) (by omega) (by omega)), if_neg c6]
        · rw [if_neg c, if_neg c, if_pos (show (0 : Int32) = 0 from rfl)]
      by_cases c : (hdT e ts1).k = 1 ∧ (hdT e ts1).v = 11
      · obtain ⟨T, ts2, rfl⟩ := hx.q_s.ne (by omega)
        rw [if_pos c] at hbd
        by_cases c6 : k < 6
        · rw [if_pos c6] at hbd
          obtain ⟨M2, a1, a2, a3⟩ := hx.go he hf hn hj
          have pr : T.nx ≤ (hdT e ts2).p := hx.q_s.pr
          have hz : T.p < T.nx := (tf.f_z (by omega)).2
          have hp' : (hdT e ts).p + k ≤ T.p := hp
          rw [a1] at hbd
          simp only [bd] at hbd
          rw [gl_inl hbd]
          simp at hl
          exact ih N (k + 1) ts2 M2 (by omega) (by omega) (by omega) a2 (nt_s hnt c.1 c.2 c6) (hkq.tr a3) (by omega) (by omega)
        · rw [if_neg c6] at hbd
          have hk6 : k = 6 := by omega
          subst hk6
          rw [gl_mr hbd]
          unfold j_X2_readNot_27
          rw [show (2 : Int32) = nI 2 from rfl, cFail (Nat.zero_le n) hx.q_s 2]
          simp only [bd]
          rw [ck_pos (Or.inl trivial)]
          exact Or.inr ⟨_, 2, _, rfl, bad_f he hf hj hx.q_s hx.q_w (by omega) (by omega) hkE0, nt_f hnt c.1 c.2⟩
      · rw [if_neg c] at hbd
        rw [gl_mr hbd]
        unfold j_X2_readNot_40
        rcases cTest he hf hn hj hr hd hrec hx with ⟨M2, O, ts2, b1, b2, b3, b4⟩ | ⟨M2, k', p, b1, b2, b3⟩
        · rw [b1]
          simp only [bd]
          obtain ⟨M3, g1, g2, g3, g4, g5⟩ := nots_good (n := n) (rec := rec) (k := k) he hf hn hj hr hk b2 (by omega)
          have gp := b2.g_p
          have gl' := b2.g_l
          exact Or.inl ⟨M3, _, ts2, g1, ⟨g2, g3, hkE.tr g4, g5, by simp; omega, by omega⟩, b3.nots k, sim_nt hnt c b4 (fun b => opS_3)⟩
        · rw [b1]
          simp only [bd]
          obtain ⟨M3, g1, g2⟩ := nots_bad (n := n) (rec := rec) (k := k) hn hj hr hk b2 ((b2.b_k _ _ (by unfold VF VE; omega)).trans hx.q_j)
          exact Or.inr ⟨M3, k', p, g1, ⟨g2.b_f, g2.b_p, (hkE0.mono (fun _ _ q => Or.inl q)).tr g2.b_k, g2.b_w, g2.b_b⟩, flt_nt hnt c b3⟩
  unfold f_X2_readNot
  exact key 7 n 0 ts M rfl (by omega) (by omega) h nt_0 kq.rf (by omega) (Nat.le_refl _)
theorem cAnd (he : e ≤ 700) (hf : ∀ q, f q < 256) (hn : 800 < n) (hj : j = 46 ∨ j = 53) (hr : r < 3) (hd : d ≤ 5) (hrec : RecOK f e j r d rec) (h : CXt f e j w ts M) : CR f e j r 2 d w ts M (f_X2_readAnd n rec (nI r) (nI d) M) := by
  unfold f_X2_readAnd
  refine cRowOf (l := 2) (sub := f_X2_readNot n rec (nI r) (nI d)) he hf hn hj hr hd (by decide) (by decide) (by decide) rfl (by unfold nd; simp) (by decide) (fun ts w M h => cNot he hf hn hj hr hd hrec h) (fun x M => ?_) (fun i ts w M h hi ho => ?_) (fun i ts w M h hi ho => ?_) h
  · rw [b_X2_readAnd_10]
    try simp only []
    rw [if_pos trivial, ck_pos (Or.inl trivial)]
    split <;> rfl
  · rw [b_X2_readAnd_10]
    try simp only []
    have hs := opS_2.mp ho
    rw [if_neg (show ¬ (700 : Int32) ≤ nI i from nI_ge (b := 700) hi (by decide)), if_neg (by decide), cIsWord hf h.q_s]
    simp only [bd]
    have : opC (hdT e ts) = 2 := by
      unfold opC
      rw [if_pos hs.1, if_pos hs.2]
    rw [if_pos hs, if_neg (show ¬ (1 : Int32) = 0 by decide), this]
    rfl
  · rw [b_X2_readAnd_10]
    try simp only []
    have hs : ¬ ((hdT e ts).k = 1 ∧ (hdT e ts).v = 10) := fun q => ho (opS_2.mpr q)
    rw [if_neg (show ¬ (1 : Int32) = 0 by decide), cIsWord hf h.q_s]
    simp only [bd]
    rw [if_neg hs, if_pos (show (0 : Int32) = 0 from rfl), ck_pos (Or.inr trivial)]
    split <;> rfl
theorem cExprB (he : e ≤ 700) (hf : ∀ q, f q < 256) (hn : 800 < n) (hj : j = 46 ∨ j = 53) (hr : r < 3) (hd : d ≤ 5) (hrec : RecOK f e j r d rec) (h : CXt f e j w ts M) : CR f e j r 1 d w ts M (f_X2_readExprB n rec (nI r) (nI d) M) := by
  unfold f_X2_readExprB
  rw [if_pos (show nI d < (6 : Int32) from nI_lt (b := 6) (by omega) (by decide))]
  refine cRowOf (l := 1) (sub := f_X2_readAnd n rec (nI r) (nI d)) he hf hn hj hr hd (by decide) (by decide) (by decide) rfl (by unfold nd; simp) (by decide) (fun ts w M h => cAnd he hf hn hj hr hd hrec h) (fun x M => ?_) (fun i ts w M h hi ho => ?_) (fun i ts w M h hi ho => ?_) h
  · rw [b_X2_readExpr_61]
    try simp only []
    rw [if_pos trivial, ck_pos (Or.inl trivial)]
    split <;> rfl
  · rw [b_X2_readExpr_61]
    try simp only []
    have hs := opS_1.mp ho
    rw [if_neg (show ¬ (700 : Int32) ≤ nI i from nI_ge (b := 700) hi (by decide)), if_neg (by decide), cIsWord hf h.q_s]
    simp only [bd]
    have : opC (hdT e ts) = 1 := by
      unfold opC
      rw [if_pos hs.1, if_neg (by omega)]
    rw [if_pos hs, if_neg (show ¬ (1 : Int32) = 0 by decide), this]
    rfl
  · rw [b_X2_readExpr_61]
    try simp only []
    have hs : ¬ ((hdT e ts).k = 1 ∧ (hdT e ts).v = 9) := fun q => ho (opS_1.mpr q)
    rw [if_neg (show ¬ (1 : Int32) = 0 by decide), cIsWord hf h.q_s]
    simp only [bd]
    rw [if_neg hs, if_pos (show (0 : Int32) = 0 from rfl), ck_pos (Or.inr trivial)]
    split <;> rfl
theorem cExpr6 (hf : ∀ q, f q < 256) (h : CXt f e j w ts M) : f_X2_readExprB n rec (nI r) (nI 6) M = some (0, si (si M 44 11 (nI (dpK (hdT e ts)))) 44 12 (nI (hdT e ts).p)) := by
  have tf := h.q_s.tf hf
  have hk := tf.f_k
  have e47 : ∀ k, j_X2_readExpr_47 n rec (nI k) M = some (0, si (si M 44 11 (nI k)) 44 12 (nI (hdT e ts).p)) := fun k => by
    unfold j_X2_readExpr_47
    rw [cFail (Nat.zero_le n) h.q_s k]
    simp only [bd]
    rw [ck_pos (Or.inl trivial)]
  have e31 : j_X2_readExpr_31 n rec M = some (0, si (si M 44 11 (nI 2)) 44 12 (nI (hdT e ts).p)) := by
    unfold j_X2_readExpr_31 j_X2_readExpr_36
    rw [if_neg (by decide)]
    exact e47 2
  have e36 : j_X2_readExpr_36 n rec 0 M = some (0, si (si M 44 11 (nI 1)) 44 12 (nI (hdT e ts).p)) := by
    unfold j_X2_readExpr_36
    rw [if_pos rfl]
    exact e47 1
  unfold f_X2_readExprB
  rw [if_neg (show ¬ nI 6 < (6 : Int32) by decide), h.q_s.2.t_k, e31]
  by_cases c2 : (hdT e ts).k = 2
  · rw [if_pos (by rw [c2]; rfl), show dpK (hdT e ts) = 2 from if_pos (Or.inl c2)]
  · rw [if_neg (ne_2 c2 (by omega))]
    by_cases c1 : (hdT e ts).k = 1
    · rw [if_pos (by rw [c1]; rfl), show dpK (hdT e ts) = 2 from if_pos (Or.inr (Or.inl c1))]
    · rw [if_neg (ne_1 c1 (by omega)), show (40 : Int32) = nI 40 from rfl, cIsSign hf h.q_s (by decide)]
      simp only [bd]
      by_cases c3 : (hdT e ts).k = 3 ∧ (hdT e ts).v = 40
      · rw [if_pos c3, if_neg (show ¬ (1 : Int32) = 0 by decide), e31, show dpK (hdT e ts) = 2 from if_pos (Or.inr (Or.inr c3))]
      · rw [if_neg c3, if_pos (show (0 : Int32) = 0 from rfl), e36, show dpK (hdT e ts) = 1 from if_neg (by simp only [not_or]; exact ⟨c2, c1, c3⟩)]
theorem cExpr8 (he : e ≤ 700) (hf : ∀ q, f q < 256) (hn : 800 < n) (hj : j = 46 ∨ j = 53) (hr : r < 3) : ∀ (m d : Nat), d + m = 5 → ∀ k, m + 2 ≤ k → ∀ ts w M, CXt f e j w ts M → CR f e j r 1 d w ts M (f_X2_readExpr8 n k (nI r) (nI d) M)
  | 0, d, hm, k, hk, ts, w, M, h => by
    obtain ⟨k, rfl⟩ : ∃ q, k = q + 2 := ⟨k - 2, by omega⟩
    have hd : d = 5 := by omega
    subst hd
    exact cExprB he hf hn hj hr (by decide) ⟨fun c => absurd c (by decide), fun _ ts w M h => cExpr6 hf h⟩ h
  | m + 1, d, hm, k, hk, ts, w, M, h => by
    obtain ⟨k, rfl⟩ : ∃ q, k = q + 1 := ⟨k - 1, by omega⟩
    exact cExprB he hf hn hj hr (by omega) ⟨fun _ ts w M h => cExpr8 he hf hn hj hr m (d + 1) (by omega) k (by omega) ts w M h, fun c => absurd c (by omega)⟩ h
/-- a whole rule's text, as the reference's way through it says -/
theorem cExpr (he : e ≤ 700) (hf : ∀ q, f q < 256) (hn : 800 < n) (hj : j = 46 ∨ j = 53) (hr : r < 3) (h : CXt f e j w ts M) :
    (∃ M' O ts', f_X2_readExpr n (nI r) (0 : Int32) M = some (1, M') ∧ GoodC f e j r w ts M O ts' M' ∧ (wfo O 0 ∧ allV (vOK r) O) ∧ amR r e ts 2 0 [] [] [false] = .inr (O, ts')) ∨ (∃ M' k p, f_X2_readExpr n (nI r) (0 : Int32) M = some (0, M') ∧ BadC j r 0 M k p M' ∧ amR r e ts 2 0 [] [] [false] = .inl (k, p)) := by
  rcases cExpr8 he hf hn hj hr 5 0 rfl 8 (by decide) ts w M h with ⟨M', O, ts', b1, b2, b3, b4⟩ | ⟨M', k, p, b1, b2, b3⟩
  · refine Or.inl ⟨M', O, ts', b1, b2, ⟨?_, b3.1⟩, sim_top b4⟩
    have := b3.2 0 [] (by decide) rfl
    simpa using this
  · exact Or.inr ⟨M', k, p, b1, b2, flt_top b3⟩
end L
