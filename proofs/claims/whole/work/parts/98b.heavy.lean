/-! Which course may be heavier. -/
def Sp.gu (s : Sp) (g : Nat) : Sp := s.setWeight (up1 s.weight (g / 10) (g % 10))
def gss (T : Tw) (wd : Nat) (s : Sp) (q : List (Nat × Nat)) (g : Nat) : Bool := !(g % 10 == 0) && (!(s.weight (g / 10) == g % 10) && okS T wd (s.gu g) q)
theorem gu_good {wd g : Nat} {s : Sp} (gs : s.Good wd) (h : ¬ g % 10 = 0) : (s.gu g).Good wd := weight_good gs (by omega) (by omega)
theorem gu_day {g : Nat} {s : Sp} : (s.gu g).day = s.day := rfl
def fstO (f : Nat → Bool) : Nat → Option Nat
  | 0 => none
  | k + 1 => match fstO f k with
    | none => if f k then some k else none
    | some r => some r
theorem fstO_none {f : Nat → Bool} : ∀ {k : Nat}, fstO f k = none ↔ cntN f k = 0
  | 0 => ⟨fun _ => rfl, fun _ => rfl⟩
  | k + 1 => by
    have ih := fstO_none (f := f) (k := k)
    rw [fstO, cntN]
    cases e : fstO f k with
    | none =>
      have := ih.mp e
      cases f k with
      | true => simp
      | false => simp [this]
    | some r =>
      have : ¬ cntN f k = 0 := fun q => by
        rw [ih.mpr q] at e
        cases e
      simp
      intro h
      omega
theorem fstO_lt {f : Nat → Bool} : ∀ {k r : Nat}, fstO f k = some r → r < k
  | k + 1, r, h => by
    rw [fstO] at h
    cases e : fstO f k with
    | none =>
      rw [e] at h
      have h : (if f k = true then some k else none) = some r := h
      split at h
      · cases h; omega
      · cases h
    | some r' =>
      rw [e] at h
      have h : some r' = some r := h
      cases h
      have := fstO_lt e
      omega
section S
variable {n wd j : Nat} {T : Tw} {s : Sp} {M0 M : Mem} {q : List (Nat × Nat)}
theorem cMaybe {c w : Nat} (hn : 3000 < n) (g : SeG q) (cb : CB wd j T s M0) (e : kq VC M0 M) (hq : SeC q 38 M0) (hc : c < s.all) (h1 : 1 ≤ w) (h9 : w ≤ 9) : ∃ M', f_X8_maybeHeavy n (nI c) (nI w) M = some (if gss T wd s q (10 * c + w) = true then (1 : Int32) else 0, M') ∧ kq VC M0 M' ∧ M'.2 = M.2 := by
  have ha := cb.b_g.h_all
  have hw := cb.b_g.h_weight c hc
  have cb' := cb.keep e
  have d1 : (10 * c + w) / 10 = c := by omega
  have d2 : (10 * c + w) % 10 = w := by omega
  have hwc : gi M 5 c = nI (s.weight c) := cb'.b_st.weight c hc
  unfold f_X8_maybeHeavy gss
  have ic : inb (nI c) 16 := n_in (by omega) (by decide)
  have zc : (nI c).toNatClampNeg = c := nI_clamp (by omega)
  simp only [ck_pos ic, zc]
  rw [d1, d2, hwc]
  have w0 : (!(w == 0)) = true := by simp; omega
  rw [w0, Bool.true_and]
  by_cases c1 : s.weight c = w
  · rw [if_pos (by rw [c1])]
    refine ⟨M, ?_, e, rfl⟩
    simp [c1]
  · have c1' : (!(s.weight c == w)) = true := by simp [c1]
    rw [if_neg (fun x => c1 ((nI_eq (by omega) (by omega)).mp x)), c1', Bool.true_and]
    obtain ⟨N1, q1, k1⟩ := cStart (n := n) cb e
    have gN : (s.gu (10 * c + w)).Good wd := gu_good cb.b_g (by omega)
    have eg : s.gu (10 * c + w) = s.setWeight (up1 s.weight c w) := by
      unfold Sp.gu
      rw [d1, d2]
    rw [eg] at gN
    have k2 := CTV.up (s' := s.setWeight (up1 s.weight c w)) k1 (t := 11) (k := c) (x := nI w) (by omega) (cWeightRow (i := 10) k1.c_st (fun v _ => rfl)) gN
    obtain ⟨N2, q2, k3, kl⟩ := cSeenOK hn g k2 hq (by show s.day ≤ 9999; exact cb.b_d)
    rw [q1]
    simp only [bd]
    rw [q2, eg]
    refine ⟨N2, ?_, k3, kl.trans (show N1.2 = M.2 from cStartL q1)⟩
    simp only []
    by_cases c2 : okS T wd (s.setWeight (up1 s.weight c w)) q = true
    · rw [if_pos c2]
      exact ck_pos (Or.inr rfl)
    · rw [if_neg c2]
      exact ck_pos (Or.inl rfl)
theorem mGuess {v : Nat} (hn : 3000 < n) (g : SeG q) (mb : MB wd T s M0) (e : kp VT M0 M) (hw : gi M 0 52 = -1) (hq : SeM q 18 54 M0) (hv : v / 10 < s.all) : ∃ M', f_X9_isGuess n (nI v) M = some (if gss T wd s q v = true then (1 : Int32) else 0, M') ∧ kp VT M0 M' ∧ gi M' 0 52 = -1 ∧ (gss T wd s q v = true → ∀ k, k < 5 → gi M' 19 k = nI (T.ahead wd (s.gu v) (k + 1)).lean) := by
  have ha := mb.n_g.h_all
  have hwt := mb.n_g.h_weight (v / 10) hv
  have d1 : nI v / (10 : Int32) = nI (v / 10) := pk_div (d := 10) (by omega) (by decide) (by decide)
  have d2 : nI v - nI v / (10 : Int32) * (10 : Int32) = nI (v % 10) := pk_rem (d := 10) (by omega) (by decide) (by decide)
  unfold f_X9_isGuess gss
  rw [d2, d1]
  by_cases c0 : v % 10 = 0
  · rw [if_pos (by rw [c0]; rfl)]
    refine ⟨M, ?_, e, hw, fun hh => ?_⟩
    · simp [c0]
    · simp [c0] at hh
  · have w0 : (!(v % 10 == 0)) = true := by simp; omega
    have i1 : inb ((6 : Int32) + nI (v / 10)) 108 ∧ ((6 : Int32) + nI (v / 10)).toNatClampNeg = 0 + 6 + v / 10 := by
      rw [show (6 : Int32) + nI (v / 10) = nI (6 + v / 10) from nI_add 6 _, nI_clamp (by omega)]
      exact ⟨n_in (by omega) (by decide), by omega⟩
    have i2 : inb ((60 : Int32) + nI (v / 10)) 108 ∧ ((60 : Int32) + nI (v / 10)).toNatClampNeg = 54 + 6 + v / 10 := by
      rw [show (60 : Int32) + nI (v / 10) = nI (60 + v / 10) from nI_add 60 _, nI_clamp (by omega)]
      exact ⟨n_in (by omega) (by decide), by omega⟩
    have st : StR wd s 12 0 M := mb.n_st.kp mb.n_g e (fun k _ _ => by unfold VT VM; omega)
    rw [if_neg (nI_ne0 (by omega) (by omega)), w0, Bool.true_and]
    simp only [ck_pos i1.1, i1.2, ck_pos i2.1, i2.2]
    rw [st.weight (v / 10) hv]
    by_cases c1 : s.weight (v / 10) = v % 10
    · rw [if_pos (by rw [c1])]
      refine ⟨M, ?_, e, hw, fun hh => ?_⟩
      · simp [c1]
      · simp [c1] at hh
    · have c1' : (!(s.weight (v / 10) == v % 10)) = true := by simp [c1]
      rw [if_neg (fun x => c1 ((nI_eq (by omega) (by omega)).mp x)), c1', Bool.true_and]
      obtain ⟨N1, q1, k1⟩ := mStart (n := n) (by omega) mb e
      rw [hw] at k1
      have gN : (s.gu v).Good wd := gu_good mb.n_g c0
      have k2 := MT.up (s' := s.gu v) k1 (p := 54 + 6 + v / 10) (x := nI (v % 10)) (by omega) (mWeightRow (b := 54) mb.n_g hv k1.m_st (fun u _ => rfl)) gN
      obtain ⟨N2, q2, k3, k4, k5⟩ := mSeenOK hn g k2 hq (by show s.day ≤ 9999; exact mb.n_d)
      rw [q1]
      simp only [bd]
      rw [q2]
      refine ⟨N2, ?_, k3, k4, k5⟩
      simp only []
      by_cases c2 : okS T wd (s.gu v) q = true
      · rw [if_pos c2]
        exact ck_pos (Or.inr rfl)
      · rw [if_neg c2]
        exact ck_pos (Or.inl rfl)
end S
section Q
variable {n : Nat} {A : Ab} {M M2 : Mem} {x1 x2 x3 x4 x5 : Int32}
def Ab.gs (A : Ab) : Nat → Bool := gss A.tw A.wd A.now A.seen
theorem fst_step {f : Nat → Bool} {k : Nat} (h : f k = true) : eO (fstO f (k + 1)) = if cntN f k = 0 then nI k else eO (fstO f k) := by
  rw [fstO]
  cases e : fstO f k with
  | none =>
    rw [if_pos (fstO_none.mp e)]
    simp only [h, if_true]
    rfl
  | some r =>
    have : ¬ cntN f k = 0 := fun q => by
      rw [fstO_none.mpr q] at e
      cases e
    rw [if_neg this]
theorem fst_no {f : Nat → Bool} {k : Nat} (h : f k = false) : fstO f (k + 1) = fstO f k ∧ cntN f (k + 1) = cntN f k := by
  rw [fstO, cntN, h]
  constructor
  · cases fstO f k <;> rfl
  · rfl
theorem cHeavyIn {c : Nat} {j : Nat} (hn : 3000 < n) (g : A.Good) (cb : CB A.wd j A.tw A.now M2) (hq : SeC A.seen 38 M2) (e : kq VC M2 M) (hc : c < A.now.hung) : ∃ M', gl (b_X8_heavy_49 n x1 (nI c)) n (nI (cntN A.gs (10 * c)), eO (fstO A.gs (10 * c)), (1 : Int32), M) = j_X8_heavy_93 n x1 (nI (cntN A.gs (10 * (c + 1)))) (eO (fstO A.gs (10 * (c + 1)))) (nI c) M' ∧ kq VC M2 M' := by
  have hh := g.g_n.h_hung
  have ha := g.g_n.h_all
  have z : A.gs (10 * c) = false := by
    unfold Ab.gs gss
    have : 10 * c % 10 = 0 := by omega
    simp [this]
  have z1 := fst_no z
  obtain ⟨N, m, c1, ee⟩ := gl_k (body := b_X8_heavy_49 n x1 (nI c)) (fun k (X : Mem) => (nI (cntN A.gs (10 * c + (k + 1))), eO (fstO A.gs (10 * c + (k + 1))), nI (k + 1), X)) 9 (fun k X => kq VC M2 X) (fun k X hk hI => by
    obtain ⟨O, p1, p2, -⟩ := cMaybe (n := n) (c := c) (w := k + 1) hn g.g_s cb hI hq (by omega) (by omega) (by omega)
    have p1 : f_X8_maybeHeavy n (nI c) (nI (k + 1)) X = some (if A.gs (10 * c + (k + 1)) = true then (1 : Int32) else 0, O) := p1
    refine ⟨O, ?_, p2⟩
    have hcn := cntN_le (f := A.gs) (k := 10 * c + (k + 1))
    rw [b_X8_heavy_49]
    try simp only []
    rw [if_neg (show ¬ (9 : Int32) < nI (k + 1) from nI_nlt (a := 9) (by omega) (by omega)), p1]
    simp only [bd]
    unfold j_X8_heavy_87 j_X8_heavy_83 j_X8_heavy_87
    rw [show 10 * c + (k + 1 + 1) = 10 * c + (k + 1) + 1 by omega]
    cases hg : A.gs (10 * c + (k + 1)) with
    | false =>
      have := fst_no hg
      rw [if_pos (show (if false = true then (1 : Int32) else 0) = 0 from rfl), this.1, this.2, nI_1]
    | true =>
      rw [if_pos rfl, if_neg (by decide), fst_step hg, cntN, hg, nI_1, nI_1]
      by_cases c0 : cntN A.gs (10 * c + (k + 1)) = 0
      · rw [if_pos (by rw [c0]; rfl), if_pos c0, show (10 : Int32) = nI 10 from rfl, pk_mul, nI_add]
        rfl
      · rw [if_neg (nI_ne0 (by omega) (by omega)), if_neg c0]
        rfl) n 0 M (by omega) (by omega) e
  refine ⟨N, ?_, c1⟩
  have e0 : (nI (cntN A.gs (10 * c)), eO (fstO A.gs (10 * c)), (1 : Int32), M) = (nI (cntN A.gs (10 * c + (0 + 1))), eO (fstO A.gs (10 * c + (0 + 1))), nI (0 + 1), M) := by
    rw [show 10 * c + (0 + 1) = 10 * c + 1 by omega, z1.1, z1.2]
    rfl
  rw [e0, ee]
  refine gl_mr ?_
  rw [b_X8_heavy_49]
  try simp only []
  rw [if_pos (show (9 : Int32) < nI (9 + 1) by decide), show 10 * c + (9 + 1) = 10 * (c + 1) by omega]
theorem qHeavy (hn : 3000 < n) (g : A.Good) (hC : RC A M) (hM : RM A M2) : QQ k1 (f_X8_heavy n x1 M) (f_X9_heavy n x1 M2) := by
  have hda := g.g_d
  have hh := g.g_n.h_hung
  have ha := g.g_n.h_all
  have hM' := hM.thr g 0
  have h0 := thr0 M2
  unfold f_X8_heavy f_X9_heavy
  refine qq_what (m := 2) (by decide) g hC hM' h0 k1_11 (fun u hu e => ?_)
  dsimp only
  subst e
  obtain ⟨j, cb⟩ := hC.cb g
  have mb := hM'.mb g
  have sC := hC.r_s
  have sM := hM'.s_s
  by_cases c2 : u = 2
  · subst c2
    rw [if_pos (show nI 2 = (2 : Int32) from rfl), if_pos (show nI 2 = (2 : Int32) from rfl)]
    obtain ⟨N1, q1, d1⟩ := cStart (n := n) cb kq.rf
    obtain ⟨N2, q2, d2⟩ := mStart (n := n) (by omega) mb kp.rf
    rw [hM'.s_w] at d2
    obtain ⟨O1, p1, e1, -⟩ := cSeenOK hn g.g_s d1 sC hda
    obtain ⟨O2, p2, e2, e3, -⟩ := mSeenOK hn g.g_s d2 sM hda
    rw [q1, q2]
    simp only [bd]
    rw [p1, p2]
    simp only []
    have t0 : gi O2 0 0 = 0 := (e2.1 0 0 (by unfold VT VM; omega)).trans h0
    by_cases c : okS A.tw A.wd A.now A.seen = true
    · rw [if_pos c, if_neg (show ¬ (1 : Int32) = 0 by decide), if_neg (show ¬ (1 : Int32) = 0 by decide)]
      exact qq_yes g (hC.kq e1) (hM'.vt g e2 e3) t0 k1_00
    · rw [if_neg c, if_pos rfl, if_pos rfl]
      exact qq_yes g (hC.kq e1) (hM'.vt g e2 e3) t0 k1_00
  · have hne : ¬ nI u = (2 : Int32) := fun q => c2 ((nI_eq (b := 2) (by omega) (by decide)).mp q)
    rw [if_neg hne, if_neg hne]
    obtain ⟨N, m, c1, ee⟩ := gl_k (body := b_X8_heavy_34 n (nI u)) (fun k (X : Mem) => (nI (cntN A.gs (10 * k)), eO (fstO A.gs (10 * k)), nI k, X)) A.now.hung (fun k X => kq VC M X) (fun k X hk hI => by
      obtain ⟨O, p1, p2⟩ := cHeavyIn (n := n) (x1 := nI u) hn g cb sC hI hk
      refine ⟨O, ?_, p2⟩
      rw [b_X8_heavy_34]
      try simp only []
      rw [(cb.keep hI).b_st.hung, if_neg (nI_ge hk (by omega)), p1]
      unfold j_X8_heavy_93
      rw [nI_1]) n 0 M (by omega) (by omega) kq.rf
    obtain ⟨N2, m2, ⟨d1, d2⟩, ee2⟩ := gl_k (body := b_X9_heavy_45 n (nI u)) (fun k (X : Mem) => (nI (cntN A.gs k), eO (fstO A.gs k), nI k, X)) (10 * A.now.hung) (fun k X => kp VT (si M2 0 0 0) X ∧ gi X 0 52 = -1) (fun k X hk hI => by
      obtain ⟨b1, b2⟩ := hI
      obtain ⟨O, p1, p2, p3, -⟩ := mGuess (n := n) (v := k) hn g.g_s mb b1 b2 sM (by omega)
      have p1 : f_X9_isGuess n (nI k) X = some (if A.gs k = true then (1 : Int32) else 0, O) := p1
      refine ⟨O, ?_, p2, p3⟩
      have rM := hM'.vt g b1 b2
      have u1 : gi X 12 (3 : Int32).toNatClampNeg = nI A.now.hung := rM.s_n.hung
      have hcn := cntN_le (f := A.gs) (k := k)
      rw [b_X9_heavy_45]
      try simp only []
      rw [u1, show (10 : Int32) = nI 10 from rfl, pk_mul, if_neg (nI_ge hk (by omega)), p1]
      simp only [bd]
      unfold j_X9_heavy_82
      cases hg : A.gs k with
      | false =>
        have := fst_no hg
        rw [if_pos (show (if false = true then (1 : Int32) else 0) = 0 from rfl), this.1, this.2, nI_1]
      | true =>
        rw [if_pos rfl, if_neg (by decide), fst_step hg, cntN, hg, nI_1, nI_1]
        by_cases c0 : cntN A.gs k = 0
        · rw [if_pos (by rw [fstO_none.mpr c0]; rfl), if_pos c0]
          rfl
        · rw [if_neg c0]
          cases er : fstO A.gs k with
          | none => exact absurd (fstO_none.mp er) c0
          | some r =>
            have := fstO_lt er
            rw [show eO (some r) = nI r from rfl, if_neg (nI_nm1 (by omega))]
            rfl) n 0 (si M2 0 0 0) (by omega) (by omega) ⟨kp.rf, hM'.s_w⟩
    rw [show ((0 : Int32), (-1 : Int32), (0 : Int32), M) = (nI (cntN A.gs (10 * 0)), eO (fstO A.gs (10 * 0)), nI 0, M) from rfl, ee, show ((0 : Int32), (-1 : Int32), (0 : Int32), si M2 0 0 0) = (nI (cntN A.gs 0), eO (fstO A.gs 0), nI 0, si M2 0 0 0) from rfl, ee2]
    have rM := hM'.vt g d1 d2
    have u1 : gi N2 12 (3 : Int32).toNatClampNeg = nI A.now.hung := rM.s_n.hung
    have t0 : gi N2 0 0 = 0 := (d1.1 0 0 (by unfold VT VM; omega)).trans h0
    rw [gl_mr (o := j_X8_heavy_99 n (nI u) (nI (cntN A.gs (10 * A.now.hung))) (eO (fstO A.gs (10 * A.now.hung))) N) (by
      rw [b_X8_heavy_34]
      try simp only []
      rw [(cb.keep c1).b_st.hung, if_pos (nI_le (Nat.le_refl _) (by omega))]), gl_mr (o := j_X9_heavy_88 n (nI u) (nI (cntN A.gs (10 * A.now.hung))) (eO (fstO A.gs (10 * A.now.hung))) N2) (by
      rw [b_X9_heavy_45]
      try simp only []
      rw [u1, show (10 : Int32) = nI 10 from rfl, pk_mul, if_pos (nI_le (Nat.le_refl _) (by omega))])]
    unfold j_X8_heavy_99 j_X9_heavy_88
    rcases (show u = 0 ∨ u = 1 by omega) with rfl | rfl
    · rw [if_pos (by decide), if_pos (by decide)]
      exact qq_yes g (hC.kq c1) rM t0 k1_00
    · rw [if_neg (by decide), if_neg (by decide)]
      exact qq_yes g (hC.kq c1) rM t0 k1_00
end Q
