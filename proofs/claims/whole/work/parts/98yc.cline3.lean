/-! The class reads winds, a rule, a line. -/
section L
variable {f : Nat → Nat} {e j n : Nat}
theorem cNoNum (hf : ∀ q, f q < 256) {ts : List Tok} {M : Mem} {L : Nat} (h : SCt f e ts M) (he : e ≤ 700) (hk : (hdT e ts).k = 2) : CU f e j L M (.inl (2, (hdT e ts).p)) (f_X2_isNumber n (0 : Int32) (-1 : Int32) M) := by
  have t := h.tf hf
  have hn := t.f_n
  have hv := t.f_2 hk
  have h43 : CU f e j L M (.inl (2, (hdT e ts).p)) (j_X2_isNumber_43 n M) := by
    unfold j_X2_isNumber_43
    exact (cBadX (n := n) (by decide) rfl h rfl).ck
  unfold f_X2_isNumber
  rw [h.2.t_k, if_pos (by rw [hk]; rfl), h.2.t_n, h.2.t_p, nI_sub hn.2, h.2.t_d hk]
  by_cases c : 4 < (hdT e ts).nx - (hdT e ts).p
  · rw [if_pos (show (4 : Int32) < nI ((hdT e ts).nx - (hdT e ts).p) from nI_lt (a := 4) c (by omega))]
    exact h43
  · rw [if_neg (show ¬ (4 : Int32) < nI ((hdT e ts).nx - (hdT e ts).p) from nI_nlt (a := 4) (by omega) (by decide)), if_neg (nI_pos (by omega)), if_neg (show ¬ nI (hdT e ts).v ≤ (-1 : Int32) from fun q => nI_pos (n := (hdT e ts).v) (by omega) (Int32.lt_of_le_of_lt q (by decide)))]
    exact h43
theorem cWindL (he : e ≤ 700) (hf : ∀ q, f q < 256) (hn : 800 < n) (hj : j = 46 ∨ j = 53) {L w : Nat} : ∀ (ts : List Tok) (τ : Td) (N : Nat) (M : Mem), CTd f e j w τ ts M → ts.length ≤ L → ts.length + 2 ≤ N → CU f e j L M (winR e ts τ) (gl (b_X2_readWinds_22 n) N (nI τ.t.winds, M)) := by
  intro ts
  induction ts with
  | nil =>
    intro τ N M h hL hN
    obtain ⟨N, rfl⟩ : ∃ k, N = k + 1 := ⟨N - 1, by omega⟩
    have h8 := h.c_G.2.h_winds
    have hk : gi M 44 7 = nI 0 := h.c_x.q_s.2.t_k
    by_cases c0 : τ.t.winds = 0
    · rcases cNum (n := n) he hf h (lo := 0) (hi := 9) (by decide) (by decide) with ⟨k, p, M2, b1, b2, b3⟩ | ⟨v, b1, _⟩
      · rw [gl_mr (o := some (0, M2)) (by
          rw [b_X2_readWinds_22]
          try dsimp only []
          rw [c0, if_neg (show ¬ (8 : Int32) < nI 0 by decide), if_pos (show nI 0 = (0 : Int32) from rfl)]
          unfold j_X2_readWinds_40 j_X2_readWinds_54
          rw [if_neg (show ¬ (8 : Int32) ≤ nI 0 by decide), show f_X2_isNumber n (0 : Int32) (9 : Int32) M = some (0, M2) from b2]
          dsimp only [bd]
          rw [if_pos (show (0 : Int32) = 0 from rfl)])]
        have e1 : numR e 0 9 ([] : List Tok) = .inl (1, e) := rfl
        rw [e1] at b1
        refine Or.inl ⟨k, p, M2, ?_, rfl, b3⟩
        injection b1 with b1
        rw [← b1]
        rfl
      · exact absurd b1 (by intro q; cases q)
    · rw [gl_mr (o := j_X2_readWinds_83 n M) (by
        rw [b_X2_readWinds_22]
        try dsimp only []
        rw [if_neg (show ¬ (8 : Int32) < nI τ.t.winds from nI_nlt (a := 8) h8 (by decide)), if_neg (nI_ne0 (by omega) (by omega)), hk, if_neg (by decide)])]
      unfold j_X2_readWinds_83
      exact (cEnd (n := n) he hf hn hj h hL).ck
  | cons T ts ih =>
    intro τ N M h hL hN
    rw [List.length_cons] at hL hN
    obtain ⟨N, rfl⟩ : ∃ k, N = k + 1 := ⟨N - 1, by omega⟩
    have h8 := h.c_G.2.h_winds
    have hk : gi M 44 7 = nI T.k := h.c_x.q_s.2.t_k
    have htf : TF e T := h.c_x.q_s.tf hf
    have hk4 := htf.f_k
    rw [winR]
    by_cases c : τ.t.winds = 0 ∨ T.k = 2
    · rw [if_pos c]
      have e40 : b_X2_readWinds_22 n (nI τ.t.winds, M) = j_X2_readWinds_40 n (nI τ.t.winds) M := by
        rw [b_X2_readWinds_22]
        try dsimp only []
        rw [if_neg (show ¬ (8 : Int32) < nI τ.t.winds from nI_nlt (a := 8) h8 (by decide))]
        by_cases c0 : τ.t.winds = 0
        · rw [if_pos (by rw [c0]; rfl)]
        · rw [if_neg (nI_ne0 (by omega) (by omega)), hk, if_pos (by rw [show T.k = 2 by omega]; rfl)]
      by_cases c8 : τ.t.winds < 8
      · rcases cNum (n := n) he hf h (lo := 0) (hi := 9) (by decide) (by decide) with ⟨k, p, M2, b1, b2, b3⟩ | ⟨v, b1, b2, b3, b4, b5⟩
        · rw [gl_mr (o := some (0, M2)) (by
            rw [e40]
            unfold j_X2_readWinds_40 j_X2_readWinds_54
            rw [if_neg (show ¬ (8 : Int32) ≤ nI τ.t.winds from nI_ge (b := 8) c8 (by decide)), show f_X2_isNumber n (0 : Int32) (9 : Int32) M = some (0, M2) from b2]
            dsimp only [bd]
            rw [if_pos (show (0 : Int32) = 0 from rfl)])]
          unfold numR at b1
          rw [show hdT e (T :: ts) = T from rfl] at b1
          by_cases cc : T.k = 2 ∧ T.nx - T.p ≤ 4 ∧ 0 ≤ T.v ∧ T.v ≤ 9
          · rw [if_pos cc] at b1
            exact absurd b1 (by intro q; cases q)
          · rw [if_neg cc] at b1
            rw [if_neg (fun q => cc ⟨q.1, q.2.1, Nat.zero_le _, q.2.2.2⟩)]
            refine Or.inl ⟨k, p, M2, ?_, rfl, b3⟩
            injection b1 with b1
            rw [← b1]
        · unfold numR at b1
          rw [show hdT e (T :: ts) = T from rfl] at b1
          by_cases cc : T.k = 2 ∧ T.nx - T.p ≤ 4 ∧ 0 ≤ T.v ∧ T.v ≤ 9
          · rw [if_pos cc] at b1
            have hv : T.v = v := by
              injection b1 with b1
              exact congrArg Prod.fst b1
            rw [if_pos ⟨cc.1, cc.2.1, c8, cc.2.2.2⟩, hv]
            have zj : (nI j).toNatClampNeg = j := nI_clamp (by omega)
            have zw : (nI τ.t.winds).toNatClampNeg = τ.t.winds := nI_clamp (by omega)
            obtain ⟨M3, hM3⟩ : ∃ M3, M3 = si (si M (j + 1) τ.t.winds (nI v)) j 7 (nI (τ.t.winds + 1)) := ⟨_, rfl⟩
            have eA : f_X6_addWind n j (nI v) M = some M3 := by
              unfold f_X6_addWind
              rw [h.c_7, if_neg (show ¬ (8 : Int32) ≤ nI τ.t.winds from nI_ge (b := 8) c8 (by decide)), ck_pos (n_in c8 (by decide))]
              simp only [zw]
              rw [gi_si, if_neg (by omega), h.c_7, nI_1, hM3]
            have k2 : kq (fun t k => (t = j + 1 ∧ k = τ.t.winds) ∨ (t = j ∧ k = 7)) M M3 := by rw [hM3]; exact (kq.rf.si (Or.inl ⟨rfl, rfl⟩) _).si (Or.inr ⟨rfl, rfl⟩) _
            have hC : CTd f e j w (τ.setT (τ.t.addI v)) (T :: ts) M3 := by
              refine ⟨h.c_x.kq k2 (fun q _ _ => by omega) (fun q => by omega) (by omega), h.c_s.kq k2 (fun t k _ _ => by omega), fun u h1 h2 => (k2 _ _ (by omega)).trans (h.c_b u h1 h2), (k2 _ _ (by omega)).trans h.c_g, (k2 _ _ (by omega)).trans h.c_c, (k2 _ _ (by omega)).trans h.c_0, h.c_d, (k2 _ _ (by omega)).trans h.c_8, (k2 _ _ (by omega)).trans h.c_9, by rw [hM3, gi_si, if_pos ⟨rfl, rfl⟩]; rfl, fun i hi => ?_, fun r hr => (h.c_r r hr).kq k2 (Nat.le_refl _) (by omega) (by omega) (fun q _ => by omega), h.c_G.1, addI_good h.c_G.2 c8 b5⟩
              have hi' : i < τ.t.winds + 1 := hi
              show gi M3 (j + 1) i = nI (updN τ.t.winds v τ.t.wind i)
              rw [hM3, gi_si, if_neg (by omega), gi_si]
              unfold updN
              by_cases q : i = τ.t.winds
              · rw [if_pos ⟨rfl, q⟩, if_pos q]
              · rw [if_neg (by omega), if_neg q]
                exact h.c_i i (by omega)
            obtain ⟨M4, i1, i2, i3⟩ := hC.go he hf hn hj
            have i2' : CTd f e j w (τ.setT (τ.t.addI v)) ts M4 := i2
            have e1 : b_X2_readWinds_22 n (nI τ.t.winds, M) = some (.inl (nI (τ.t.winds + 1), M4)) := by
              rw [e40]
              unfold j_X2_readWinds_40 j_X2_readWinds_54
              rw [if_neg (show ¬ (8 : Int32) ≤ nI τ.t.winds from nI_ge (b := 8) c8 (by decide)), show f_X2_isNumber n (0 : Int32) (9 : Int32) M = some (1, M) from b2]
              dsimp only [bd]
              rw [if_neg (show ¬ (1 : Int32) = 0 by decide), h.c_x.q_j]
              simp only [zj]
              rw [ck_pos (by unfold isTwB; omega), b3, eA]
              dsimp only []
              rw [i1]
              dsimp only []
              rw [nI_1]
            rw [gl_inl e1]
            exact (ih (τ.setT (τ.t.addI v)) N M4 i2' (by omega) (by omega)).of ((k2.mono (fun t k q => by unfold VK; omega)).tr i3)
          · rw [if_neg cc] at b1
            exact absurd b1 (by intro q; cases q)
      · have ck2 : T.k = 2 := by omega
        rw [if_neg (fun q => c8 q.2.2.1), if_pos ck2]
        rcases cNoNum (n := n) (j := j) (L := L) hf h.c_x.q_s he ck2 with ⟨k, p, M2, b1, b2, b3⟩ | ⟨_, _, _, _, b1, _⟩
        · rw [gl_mr (o := some (0, M2)) (by
            rw [e40]
            unfold j_X2_readWinds_40 j_X2_readWinds_54
            rw [if_pos (show (8 : Int32) ≤ nI τ.t.winds from nI_le (a := 8) (by omega) (by omega)), b2]
            dsimp only [bd]
            rw [if_pos (show (0 : Int32) = 0 from rfl)])]
          exact Or.inl ⟨k, p, M2, b1, rfl, b3⟩
        · exact absurd b1 (by intro q; cases q)
    · rw [if_neg c]
      rw [gl_mr (o := j_X2_readWinds_83 n M) (by
        rw [b_X2_readWinds_22]
        try dsimp only []
        rw [if_neg (show ¬ (8 : Int32) < nI τ.t.winds from nI_nlt (a := 8) h8 (by decide)), if_neg (nI_ne0 (by omega) (by omega)), hk, if_neg (ne_2 (by omega) (by omega))])]
      unfold j_X2_readWinds_83
      exact (cEnd (n := n) he hf hn hj h (by rw [List.length_cons]; exact hL)).ck
variable {w : Nat} {τ : Td} {ts : List Tok} {M : Mem}
theorem cWinds (he : e ≤ 700) (hf : ∀ q, f q < 256) (hn : 800 < n) (hj : j = 46 ∨ j = 53) {L : Nat} {T : Tok} (h : CTd f e j w τ (T :: ts) M) (hL : ts.length ≤ L) : CU f e j L M (if 0 < τ.t.winds then .inl (5, T.p) else winR e ts τ) (f_X2_readWinds n M) := by
  have h8 := h.c_G.2.h_winds
  have zj : (nI j).toNatClampNeg = j := nI_clamp (by omega)
  have hlen := SCt.len hf h.c_x.q_s
  rw [List.length_cons] at hlen
  unfold f_X2_readWinds
  rw [h.c_x.q_j]
  simp only [zj]
  rw [ck_pos (by unfold isTwB; omega), h.c_7]
  by_cases c : 0 < τ.t.winds
  · rw [if_pos c, if_neg (show ¬ nI τ.t.winds ≤ (0 : Int32) from nI_ge (a := 0) c (by omega))]
    exact (cBadX (n := n) (ts := T :: ts) (by decide) rfl h.c_x.q_s rfl).ck
  · rw [if_neg c, if_pos (show nI τ.t.winds ≤ (0 : Int32) from nI_le (b := 0) (by omega) (by decide))]
    obtain ⟨M1, a1, a2, a3⟩ := h.go he hf hn hj
    have a2' : CTd f e j w τ ts M1 := a2
    rw [a1]
    dsimp only [bd]
    have := cWindL (n := n) he hf hn hj ts τ n M1 a2' hL (by omega)
    rw [show τ.t.winds = 0 by omega] at this
    exact this.of a3
theorem cRuleL (he : e ≤ 700) (hf : ∀ q, f q < 256) (hn : 800 < n) (hj : j = 46 ∨ j = 53) {L r : Nat} {T : Tok} (hr : r < 3) (h : CTd f e j w τ (T :: ts) M) (hL : ts.length ≤ L) {x : Int32} (hx : x = nI r) : CU f e j L M (ruR e τ r T.p ts) (f_X2_readRule n x M) := by
  have zj : (nI j).toNatClampNeg = j := nI_clamp (by omega)
  have zr : (nI r).toNatClampNeg = r := nI_clamp (by omega)
  have hp := h.c_x.q_p
  have htp := (h.c_x.q_s.tf hf).f_p
  subst hx
  unfold f_X2_readRule ruR f_X6_hasRule
  rw [h.c_x.q_j]
  simp only [zj]
  have hR := h.c_r r hr
  rw [ck_pos (by unfold isTwB; omega), ck_pos (n_in hr (by decide))]
  simp only [zr]
  cases hru : τ.t.rule r with
  | some p =>
    rw [hru] at hR
    obtain ⟨f0, r1, r2, r3, r4⟩ := hR
    rw [r1, if_neg (show ¬ nI f0 = (-1 : Int32) from fun q => nI_pos (n := f0) (by omega) (by rw [q]; decide)), if_pos (show (Option.isSome (some p)) = true from rfl)]
    dsimp only [bd]
    rw [if_neg (show ¬ (1 : Int32) = 0 by decide)]
    exact (cBadX (n := n) (ts := T :: ts) (by decide) rfl h.c_x.q_s rfl).ck
  | none =>
    rw [hru] at hR
    have hR' : gi M (j + 3) r = -1 := hR
    rw [hR', if_pos (show (-1 : Int32) = -1 from rfl), if_neg (show ¬ (Option.isSome (none : Option (List Op))) = true by decide)]
    dsimp only [bd]
    rw [if_pos (show (0 : Int32) = 0 from rfl), h.c_x.q_j]
    simp only [zj]
    rw [ck_pos (by unfold isTwB; omega)]
    obtain ⟨M0, hM0⟩ : ∃ M0, M0 = si (si M (j + 3) r (nI w)) (j + 4) r (nI w) := ⟨_, rfl⟩
    have eB : f_X6_beginRule n j (nI r) M = some M0 := by
      unfold f_X6_beginRule
      rw [ck_pos (n_in hr (by decide)), ck_pos (n_in hr (by decide)), h.c_x.q_w]
      simp only [zr]
      rw [gi_si, if_neg (by omega), h.c_x.q_w, hM0]
    have k0 : kq (fun t k => (t = j + 3 ∨ t = j + 4) ∧ k = r) M M0 := by rw [hM0]; exact (kq.rf.si ⟨Or.inl rfl, rfl⟩ _).si ⟨Or.inr rfl, rfl⟩ _
    have hx0 : CXt f e j w (T :: ts) M0 := h.c_x.kq k0 (fun q _ _ => by omega) (fun q => by omega) (by omega)
    rw [eB]
    dsimp only []
    obtain ⟨M1, a1, a2, a3⟩ := hx0.go he hf hn hj
    have a2' : CXt f e j w ts M1 := a2
    rw [a1]
    dsimp only []
    have kv1 : kq (VK j) M M1 := (k0.mono (fun t k q => by unfold VK; omega)).tr (a3.mono (fun _ _ q => q.k))
    have kk1 : kq (fun t k => ((t = j + 3 ∨ t = j + 4) ∧ k = r) ∨ VL t k) M M1 := (k0.mono (fun _ _ q => Or.inl q)).tr (a3.mono (fun _ _ q => Or.inr q))
    rcases cExpr (n := n) he hf hn hj hr a2' with ⟨M2, O, ts', b1, b2, b3, b4⟩ | ⟨M2, k, p, b1, b2, b3⟩
    · rw [b1, b4]
      dsimp only []
      rw [if_neg (show ¬ (1 : Int32) = 0 by decide)]
      have kx := b2.g_k
      have kk : kq (fun t k => (((t = j + 3 ∨ t = j + 4) ∧ k = r) ∨ VL t k) ∨ VE j r w t k) M M2 := (kk1.mono (fun _ _ q => Or.inl q)).tr (kx.mono (fun _ _ q => Or.inr q))
      have hC : CTd f e j (w + O.length) (τ.setT (τ.t.setR r O)) ts' M2 := by
        refine ⟨b2.g_x, h.c_s.kq kk (fun t k _ _ => by unfold VL VE; omega), fun u h1 h2 => (kk _ _ (by unfold VL VE; omega)).trans (h.c_b u h1 h2), (kk _ _ (by unfold VL VE; omega)).trans h.c_g, (kk _ _ (by unfold VL VE; omega)).trans h.c_c, (kk _ _ (by unfold VL VE; omega)).trans h.c_0, h.c_d, (kk _ _ (by unfold VL VE; omega)).trans h.c_8, (kk _ _ (by unfold VL VE; omega)).trans h.c_9, (kk _ _ (by unfold VL VE; omega)).trans h.c_7, fun i hi => (kk _ _ (by unfold VL VE; omega)).trans (h.c_i i hi), fun q hq => ?_, h.c_G.1, setR_good h.c_G.2 ⟨b3.1, b3.2, ?_⟩⟩
        · show RuW j q (w + O.length) M2 (if q = r then some O else τ.t.rule q)
          by_cases c : q = r
          · rw [if_pos c, c]
            refine ⟨w, ?_, b2.g_t, Nat.le_refl _, b2.g_c⟩
            rw [kx _ _ (by unfold VE; omega), a3 _ _ (by unfold VL; omega), hM0, gi_si, if_neg (by omega), gi_si, if_pos ⟨rfl, rfl⟩]
          · rw [if_neg c]
            exact (h.c_r q hq).kq kk (by omega) (by unfold VL VE; omega) (by unfold VL VE; omega) (fun i hi => by unfold VL VE; omega)
        · have q1 := b2.g_x.q_p
          have q2 := (b2.g_x.q_s.tf hf).f_p
          omega
      have hkv : kq (VK j) M M2 := kv1.tr (kx.mono (fun t k q => by unfold VE at q; unfold VK; omega))
      have hl := b2.g_l
      have hend := (cEnd (n := n) (L := L) he hf hn hj hC (by omega)).of hkv
      rcases hend with ⟨k, p, M3, c1, c2, c3⟩ | ⟨τ', t2, M3, w', c1, c2, c3⟩
      · rw [c2]
        dsimp only []
        rw [if_pos (show (0 : Int32) = 0 from rfl)]
        exact Or.inl ⟨k, p, M3, c1, rfl, c3⟩
      · rw [c2]
        dsimp only []
        rw [if_neg (show ¬ (1 : Int32) = 0 by decide)]
        exact Or.inr ⟨τ', t2, M3, w', c1, rfl, c3⟩
    · rw [b1, b3]
      dsimp only []
      rw [if_pos (show (0 : Int32) = 0 from rfl)]
      have := b2.b_b
      exact Or.inl ⟨k, p, M2, rfl, rfl, b2.b_f, b2.b_p, ⟨this.1, this.2.1⟩, kv1.tr (b2.b_k.mono (fun t k q => by unfold VF VE at q; unfold VK; omega))⟩
theorem wOr_v : ∀ v, v < 22 → wOr.getD v 0 = nI v := by decide +kernel
theorem swL_0 : ∀ v, v < 22 → 9 ≤ v → ¬ v = 15 → swL.getD v 0 = 0 := by decide +kernel
theorem cLine (he : e ≤ 700) (hf : ∀ q, f q < 256) (hn : 800 < n) (hj : j = 46 ∨ j = 53) {L : Nat} {T : Tok} (h : CTd f e j w τ (T :: ts) M) (hL : ts.length ≤ L) : CU f e j L M (lnR e τ T ts) (f_X2_readLine n M) := by
  have htf : TF e T := h.c_x.q_s.tf hf
  have hk4 := htf.f_k
  have hk : gi M 44 7 = nI T.k := h.c_x.q_s.2.t_k
  have hbad : CU f e j L M (.inl (1, T.p)) (bd (f_X2_fail n (1 : Int32) M) (fun q35 => ck (q35.1 = 0 ∨ q35.1 = 1) (some (q35.1, q35.2)))) := (cBadX (n := n) (ts := T :: ts) (by decide) rfl h.c_x.q_s rfl).ck
  unfold f_X2_readLine lnR
  rw [hk]
  by_cases c1 : T.k = 1
  · have hv : gi M 44 10 = nI T.v := h.c_x.q_s.2.t_w c1
    have hv21 := htf.f_1 c1
    have zv : (nI T.v).toNatClampNeg = T.v := nI_clamp (by omega)
    rw [if_pos (show nI T.k = (1 : Int32) by rw [c1]; rfl), if_neg (fun q => q c1), hv]
    simp only [zv]
    rw [ck_pos (by omega), show f_Jx29ce0_ordinal_8abf5 n T.v M = some (nI T.v, M) from by unfold f_Jx29ce0_ordinal_8abf5; rw [wOr_v T.v (by omega)]]
    dsimp only [bd]
    rw [ck_pos (n_in (by omega) (by decide))]
    simp only [zv]
    by_cases v0 : T.v = 0
    · rw [v0, if_pos (show swL.getD 0 0 = (1 : Int32) from rfl), if_pos rfl]
      exact (cCourse (n := n) he hf hn hj h hL true rfl).ck
    rw [if_neg v0]
    by_cases v1 : T.v = 1
    · rw [v1, if_neg (show ¬ swL.getD 1 0 = (1 : Int32) by decide), if_pos (show swL.getD 1 0 = (2 : Int32) from rfl), if_pos rfl]
      exact (cCourse (n := n) he hf hn hj h hL false rfl).ck
    rw [if_neg v1]
    by_cases v2 : T.v = 2
    · rw [v2, if_neg (show ¬ swL.getD 2 0 = (1 : Int32) by decide), if_neg (show ¬ swL.getD 2 0 = (2 : Int32) by decide), if_pos (show swL.getD 2 0 = (3 : Int32) from rfl), if_pos rfl]
      exact (cGround (n := n) he hf hn hj h hL).ck
    rw [if_neg v2]
    by_cases v3 : T.v = 3
    · rw [v3, if_neg (show ¬ swL.getD 3 0 = (1 : Int32) by decide), if_neg (show ¬ swL.getD 3 0 = (2 : Int32) by decide), if_neg (show ¬ swL.getD 3 0 = (3 : Int32) by decide), if_pos (show swL.getD 3 0 = (4 : Int32) from rfl), if_pos rfl]
      exact (cCost (n := n) he hf hn hj h hL).ck
    rw [if_neg v3]
    by_cases v4 : T.v = 4
    · rw [v4, if_neg (show ¬ swL.getD 4 0 = (1 : Int32) by decide), if_neg (show ¬ swL.getD 4 0 = (2 : Int32) by decide), if_neg (show ¬ swL.getD 4 0 = (3 : Int32) by decide), if_neg (show ¬ swL.getD 4 0 = (4 : Int32) by decide), if_pos (show swL.getD 4 0 = (5 : Int32) from rfl), if_pos rfl]
      exact (cWard (n := n) he hf hn hj h hL).ck
    rw [if_neg v4]
    by_cases v5 : T.v = 5
    · rw [v5, if_neg (show ¬ swL.getD 5 0 = (1 : Int32) by decide), if_neg (show ¬ swL.getD 5 0 = (2 : Int32) by decide), if_neg (show ¬ swL.getD 5 0 = (3 : Int32) by decide), if_neg (show ¬ swL.getD 5 0 = (4 : Int32) by decide), if_neg (show ¬ swL.getD 5 0 = (5 : Int32) by decide), if_pos (show swL.getD 5 0 = (6 : Int32) from rfl), if_pos rfl]
      exact (cStreet (n := n) he hf hn hj h hL).ck
    rw [if_neg v5]
    by_cases v15 : T.v = 15
    · rw [v15, if_neg (show ¬ swL.getD 15 0 = (1 : Int32) by decide), if_neg (show ¬ swL.getD 15 0 = (2 : Int32) by decide), if_neg (show ¬ swL.getD 15 0 = (3 : Int32) by decide), if_neg (show ¬ swL.getD 15 0 = (4 : Int32) by decide), if_neg (show ¬ swL.getD 15 0 = (5 : Int32) by decide), if_neg (show ¬ swL.getD 15 0 = (6 : Int32) by decide), if_pos (show swL.getD 15 0 = (7 : Int32) from rfl), if_pos rfl]
      exact (cWinds (n := n) he hf hn hj h hL).ck
    rw [if_neg v15]
    by_cases v6 : T.v = 6
    · rw [v6, if_neg (show ¬ swL.getD 6 0 = (1 : Int32) by decide), if_neg (show ¬ swL.getD 6 0 = (2 : Int32) by decide), if_neg (show ¬ swL.getD 6 0 = (3 : Int32) by decide), if_neg (show ¬ swL.getD 6 0 = (4 : Int32) by decide), if_neg (show ¬ swL.getD 6 0 = (5 : Int32) by decide), if_neg (show ¬ swL.getD 6 0 = (6 : Int32) by decide), if_neg (show ¬ swL.getD 6 0 = (7 : Int32) by decide), if_pos (show swL.getD 6 0 = (8 : Int32) from rfl), if_pos rfl]
      exact (cRuleL (n := n) he hf hn hj (by decide) h hL rfl).ck
    rw [if_neg v6]
    by_cases v7 : T.v = 7
    · rw [v7, if_neg (show ¬ swL.getD 7 0 = (1 : Int32) by decide), if_neg (show ¬ swL.getD 7 0 = (2 : Int32) by decide), if_neg (show ¬ swL.getD 7 0 = (3 : Int32) by decide), if_neg (show ¬ swL.getD 7 0 = (4 : Int32) by decide), if_neg (show ¬ swL.getD 7 0 = (5 : Int32) by decide), if_neg (show ¬ swL.getD 7 0 = (6 : Int32) by decide), if_neg (show ¬ swL.getD 7 0 = (7 : Int32) by decide), if_neg (show ¬ swL.getD 7 0 = (8 : Int32) by decide), if_pos (show swL.getD 7 0 = (9 : Int32) from rfl), if_pos rfl]
      exact (cRuleL (n := n) he hf hn hj (by decide) h hL rfl).ck
    rw [if_neg v7]
    by_cases v8 : T.v = 8
    · rw [v8, if_neg (show ¬ swL.getD 8 0 = (1 : Int32) by decide), if_neg (show ¬ swL.getD 8 0 = (2 : Int32) by decide), if_neg (show ¬ swL.getD 8 0 = (3 : Int32) by decide), if_neg (show ¬ swL.getD 8 0 = (4 : Int32) by decide), if_neg (show ¬ swL.getD 8 0 = (5 : Int32) by decide), if_neg (show ¬ swL.getD 8 0 = (6 : Int32) by decide), if_neg (show ¬ swL.getD 8 0 = (7 : Int32) by decide), if_neg (show ¬ swL.getD 8 0 = (8 : Int32) by decide), if_neg (show ¬ swL.getD 8 0 = (9 : Int32) by decide), if_pos (show swL.getD 8 0 = (10 : Int32) from rfl), if_pos rfl]
      exact (cRuleL (n := n) he hf hn hj (by decide) h hL rfl).ck
    rw [if_neg v8, swL_0 T.v (by omega) (by omega) v15, if_neg (show ¬ (0 : Int32) = 1 by decide), if_neg (show ¬ (0 : Int32) = 2 by decide), if_neg (show ¬ (0 : Int32) = 3 by decide), if_neg (show ¬ (0 : Int32) = 4 by decide), if_neg (show ¬ (0 : Int32) = 5 by decide), if_neg (show ¬ (0 : Int32) = 6 by decide), if_neg (show ¬ (0 : Int32) = 7 by decide), if_neg (show ¬ (0 : Int32) = 8 by decide), if_neg (show ¬ (0 : Int32) = 9 by decide), if_neg (show ¬ (0 : Int32) = 10 by decide)]
    exact hbad
  · rw [if_neg (ne_1 c1 (by omega)), if_pos c1]
    exact hbad
end L
