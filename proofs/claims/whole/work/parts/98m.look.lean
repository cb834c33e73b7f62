/-! Where to look next. -/
section Q
variable {n : Nat} {A : Ab} {M M2 : Mem} {x1 x2 x3 x4 x5 : Int32}
/-- the lean behind k + 1 days, by a guess -/
def Ab.fl (A : Ab) (k g : Nat) : Nat := (A.tw.ahead A.wd (A.now.gu g) (k + 1)).lean
theorem fl_lt {k g : Nat} (gA : A.Good) (hg : A.gs g = true) (hk : k < 100) : A.fl k g < 100 := by
  have h0 : ¬ g % 10 = 0 := fun q => by
    unfold Ab.gs gss at hg
    rw [q] at hg
    cases hg
  have hda := gA.g_d
  have := (ahead_good (T := A.tw) (gu_good gA.g_n h0) (k + 1) (by rw [gu_day]; omega)).h_lean
  unfold Ab.fl
  omega
/-- the row of longs that are met -/
def MetC (A : Ab) (G : Nat) (X : Mem) : Prop := ∀ i h, i < 5 → h < 2 → gj X 2 (2 * i + h) = lN (mtB A.gs A.fl i h G)
theorem cMeet {j c w : Nat} (hn : 3000 < n) (g : A.Good) (cb : CB A.wd j A.tw A.now M2) (e : kq VC M2 M) (hc : c < A.now.all) (h1 : 1 ≤ w) (h9 : w ≤ 9) (hg : A.gs (10 * c + w) = true) (hm : MetC A (10 * c + w) M) : ∃ M', f_X8_meetLeans n (nI c) (nI w) M = some M' ∧ kq VC M2 M' ∧ MetC A (10 * c + w + 1) M' := by
  have ha := g.g_n.h_all
  have hda := g.g_d
  have d1 : (10 * c + w) / 10 = c := by omega
  have d2 : (10 * c + w) % 10 = w := by omega
  obtain ⟨N1, q1, k1⟩ := cStart (n := n) cb e
  have eg : A.now.gu (10 * c + w) = A.now.setWeight (up1 A.now.weight c w) := by
    unfold Sp.gu
    rw [d1, d2]
  have gN : (A.now.gu (10 * c + w)).Good A.wd := gu_good g.g_n (by omega)
  have k2 : CT A.wd j A.tw M2 (A.now.gu (10 * c + w)) (si N1 11 c (nI w)) := by
    rw [eg] at gN ⊢
    exact CTV.up k1 (t := 11) (k := c) (x := nI w) (by omega) (cWeightRow (i := 10) k1.c_st (fun v _ => rfl)) gN
  have hlong : ∀ i, gj (si N1 11 c (nI w)) 2 i = gj M 2 i := fun i => by
    have := cStartL q1
    show N1.2 2 i = M.2 2 i
    rw [this]
  obtain ⟨N2, m, ⟨c1, c2⟩, ee⟩ := gl_k (body := b_X8_meetLeans_16 n) (fun k (X : Mem) => (nI k, X)) 5 (fun k X => CT A.wd j A.tw M2 (A.tw.ahead A.wd (A.now.gu (10 * c + w)) k) X ∧ ∀ i h, i < 5 → h < 2 → gj X 2 (2 * i + h) = lN (mtB A.gs A.fl i h (if i < k then 10 * c + w + 1 else 10 * c + w))) (fun k X hk hI => by
    obtain ⟨b1, b2⟩ := hI
    have hdk := ahead_day (T := A.tw) (wd := A.wd) (s := A.now.gu (10 * c + w)) k
    have hdg : (A.now.gu (10 * c + w)).day = A.now.day := rfl
    obtain ⟨O, p1, p2, -⟩ := cTrialDay (n := n) (by omega) b1 (by omega)
    have pl := cTrialL (n := n) (by omega) b1 p1 (by omega)
    have hl := fl_lt (k := k) g hg (by omega)
    have hle : gi O 10 10 = nI (A.fl k (10 * c + w)) := p2.c_st.lean
    have hq : A.fl k (10 * c + w) / 64 < 2 := by omega
    have i1 : inb (nI (2 * k + A.fl k (10 * c + w) / 64)) 10 := n_in (by omega) (by decide)
    have z1 : (nI (2 * k + A.fl k (10 * c + w) / 64)).toNatClampNeg = 2 * k + A.fl k (10 * c + w) / 64 := nI_clamp (by omega)
    have hlO : ∀ i, gj O 2 i = gj X 2 i := fun i => by
      show O.2 2 i = X.2 2 i
      rw [pl]
    have b2k := b2 k (A.fl k (10 * c + w) / 64) hk hq
    rw [if_neg (by omega)] at b2k
    refine ⟨sj O 2 (2 * k + A.fl k (10 * c + w) / 64) (lN (mtB A.gs A.fl k (A.fl k (10 * c + w) / 64) (10 * c + w) ||| 2 ^ (A.fl k (10 * c + w) % 64))), ?_, ?_, fun i h hi hh => ?_⟩
    · rw [b_X8_meetLeans_16]
      try simp only []
      rw [if_neg (show ¬ (5 : Int32) ≤ nI k from nI_ge (b := 5) hk (by decide)), p1]
      simp only [bd]
      rw [hle, lk_hi _ (by omega), lk_sh _ (by omega), show (2 : Int32) = nI 2 from rfl, pk_mul, nI_add]
      simp only [ck_pos i1, z1]
      rw [hlO, b2k, lN_or, nI_1]
    · have e9 : kq (fun _ _ => False) O (sj O 2 (2 * k + A.fl k (10 * c + w) / 64) (lN (mtB A.gs A.fl k (A.fl k (10 * c + w) / 64) (10 * c + w) ||| 2 ^ (A.fl k (10 * c + w) % 64)))) := kq.rf.sj _ _ _
      exact CTV.upk p2 (e9.mono (fun _ _ q => q.elim)) (p2.c_st.kq e9 (fun _ _ _ _ q => q)) p2.c_g
    · rw [gj_sj]
      by_cases ci : i = k
      · subst ci
        rw [if_pos (show i < i + 1 by omega), mtB]
        by_cases ch : h = A.fl i (10 * c + w) / 64
        · subst ch
          rw [if_pos ⟨rfl, rfl⟩, if_pos ⟨hg, rfl⟩]
        · rw [if_neg (by omega), if_neg (fun q => ch q.2.symm), hlO]
          have := b2 i h hi hh
          rw [if_neg (by omega)] at this
          exact this
      · rw [if_neg (by omega), hlO]
        have := b2 i h hi hh
        by_cases ck : i < k
        · rw [if_pos ck] at this
          rw [if_pos (by omega)]
          exact this
        · rw [if_neg ck] at this
          rw [if_neg (by omega)]
          exact this) n 0 (si N1 11 c (nI w)) (by omega) (by omega) ⟨k2, fun i h hi hh => by
    rw [if_neg (by omega), hlong]
    exact hm i h hi hh⟩
  refine ⟨N2, ?_, c1.c_sm, fun i h hi hh => ?_⟩
  · unfold f_X8_meetLeans
    rw [q1]
    simp only [bd]
    rw [ck_pos (n_in (by omega) (by decide)), nI_clamp (by omega), show ∀ X : Mem, ((0 : Int32), X) = (nI 0, X) from fun _ => rfl, ee]
    refine gl_mr ?_
    rw [b_X8_meetLeans_16]
    try simp only []
    rw [if_pos (show (5 : Int32) ≤ nI 5 by decide)]
  · have := c2 i h hi hh
    rw [if_pos hi] at this
    exact this
theorem met_no {G : Nat} {X : Mem} (h : A.gs G = false) (hm : MetC A G X) : MetC A (G + 1) X := fun i q hi hq => by
  rw [hm i q hi hq, mtB, if_neg (fun c => by rw [h] at c; cases c.1)]
theorem cLookAll {j : Nat} (hn : 3000 < n) (g : A.Good) (hC : RC A M) (cb : CB A.wd j A.tw A.now M) : ∃ N, bd (f_J7_fill_d0a16 n 10 2 (0 : Int64) M) (fun q14 => gl (b_X8_look_15 n x1) n ((0 : Int32), q14)) = j_X8_look_61 n x1 N ∧ kq VC M N ∧ MetC A (10 * A.now.hung) N := by
  have hh := g.g_n.h_hung
  have ha := g.g_n.h_all
  have sC := hC.r_s
  -- nothing is met
  obtain ⟨F, mF, ⟨f1, f2⟩, eF⟩ := gl_k (body := b_J7_fill_d0a16_6 n 10 2 (0 : Int64) (nI 10)) (fun k (X : Mem) => (nI k, X)) 10 (fun k X => kq (fun _ _ => False) M X ∧ ∀ i, i < k → gj X 2 i = 0) (fun k X hk hI => by
    obtain ⟨b1, b2⟩ := hI
    refine ⟨sj X 2 k 0, ?_, b1.sj _ _ _, fun i hi => ?_⟩
    · rw [b_J7_fill_d0a16_6]
      try simp only []
      rw [if_neg (nI_ge hk (by decide)), ck_pos (n_in hk (by decide)), nI_clamp (by omega), nI_1]
    · rw [gj_sj]
      by_cases c : i = k
      · rw [if_pos ⟨rfl, c⟩]
      · rw [if_neg (by omega)]
        exact b2 i (by omega)) n 0 M (by omega) (by omega) ⟨kq.rf, fun i hi => absurd hi (by omega)⟩
  have eFill : f_J7_fill_d0a16 n 10 2 (0 : Int64) M = some F := by
    unfold f_J7_fill_d0a16
    rw [show ((0 : Int32), M) = (nI 0, M) from rfl, eF]
    refine gl_mr ?_
    rw [b_J7_fill_d0a16_6]
    try simp only []
    rw [if_pos (nI_le (Nat.le_refl _) (by decide))]
  have kF : kq VC M F := f1.mono (fun _ _ q => q.elim)
  have mF0 : MetC A (10 * 0) F := fun i h hi hq => f2 (2 * i + h) (by omega)
  rw [eFill]
  simp only [bd]
  obtain ⟨N, m, ⟨c1, c2⟩, ee⟩ := gl_k (body := b_X8_look_15 n x1) (fun k (X : Mem) => (nI k, X)) A.now.hung (fun k X => kq VC M X ∧ MetC A (10 * k) X) (fun c X hc hI => by
    obtain ⟨b1, b2⟩ := hI
    have z : A.gs (10 * c) = false := by
      unfold Ab.gs gss
      have : 10 * c % 10 = 0 := by omega
      simp [this]
    obtain ⟨Y, m9, ⟨e1, e2⟩, e3⟩ := gl_k (body := b_X8_look_28 n x1 (nI c)) (fun k (Y : Mem) => (nI (k + 1), Y)) 9 (fun k Y => kq VC M Y ∧ MetC A (10 * c + (k + 1)) Y) (fun k Y hk hI => by
      obtain ⟨d1, d2⟩ := hI
      obtain ⟨O, p1, p2, p3⟩ := cMaybe (n := n) (c := c) (w := k + 1) hn g.g_s cb d1 sC (by omega) (by omega) (by omega)
      have p1 : f_X8_maybeHeavy n (nI c) (nI (k + 1)) Y = some (if A.gs (10 * c + (k + 1)) = true then (1 : Int32) else 0, O) := p1
      have d2' : MetC A (10 * c + (k + 1)) O := fun i h hi hq => by
        rw [← d2 i h hi hq]
        show O.2 2 _ = Y.2 2 _
        rw [p3]
      rw [b_X8_look_28]
      try simp only []
      rw [if_neg (show ¬ (9 : Int32) < nI (k + 1) from nI_nlt (a := 9) (by omega) (by omega)), p1]
      simp only [bd]
      unfold j_X8_look_49
      rw [show 10 * c + (k + 1 + 1) = 10 * c + (k + 1) + 1 by omega]
      cases hg : A.gs (10 * c + (k + 1)) with
      | false =>
        rw [if_pos (show (if false = true then (1 : Int32) else 0) = 0 from rfl), nI_1]
        exact ⟨O, rfl, p2, met_no hg d2'⟩
      | true =>
        obtain ⟨O', r1, r2, r3⟩ := cMeet (n := n) (c := c) (w := k + 1) hn g cb p2 (by omega) (by omega) (by omega) hg d2'
        rw [if_neg (show ¬ (if true = true then (1 : Int32) else 0) = 0 by decide), r1]
        exact ⟨O', by simp only [nI_1], r2, r3⟩) n 0 X (by omega) (by omega) ⟨b1, met_no z b2⟩
    refine ⟨Y, ?_, e1, ?_⟩
    · rw [b_X8_look_15]
      try simp only []
      rw [(cb.keep b1).b_st.hung, if_neg (nI_ge hc (by omega)), show ((1 : Int32), X) = (nI (0 + 1), X) from rfl, e3]
      refine gl_mr ?_
      rw [b_X8_look_28]
      try simp only []
      rw [if_pos (show (9 : Int32) < nI (9 + 1) by decide)]
      unfold j_X8_look_55
      rw [nI_1]
    · rw [show 10 * (c + 1) = 10 * c + (9 + 1) by omega]
      exact e2) n 0 F (by omega) (by omega) ⟨kF, mF0⟩
  refine ⟨N, ?_, c1, c2⟩
  rw [show ((0 : Int32), F) = (nI 0, F) from rfl, ee]
  refine gl_mr ?_
  rw [b_X8_look_15]
  try simp only []
  rw [(cb.keep c1).b_st.hung, if_pos (nI_le (Nat.le_refl _) (by omega))]
/-- how many unlike ones behind i + 1 days -/
def Ab.unl (A : Ab) (i : Nat) : Nat := cntN (frs (fun a => A.fl i (gth A.gs (10 * A.now.hung) a))) (cntN A.gs (10 * A.now.hung))
def bsO (U : Nat → Nat) : Nat → Nat × Option Nat
  | 0 => (0, none)
  | k + 1 => if (bsO U k).1 < U k then (U k, some (k + 1)) else bsO U k
theorem unl_le {i : Nat} (g : A.Good) : A.unl i ≤ 160 := by
  have hh := g.g_n.h_hung
  have ha := g.g_n.h_all
  have h1 := cntN_le (f := frs (fun a => A.fl i (gth A.gs (10 * A.now.hung) a))) (k := cntN A.gs (10 * A.now.hung))
  have h2 := cntN_le (f := A.gs) (k := 10 * A.now.hung)
  unfold Ab.unl
  omega
theorem bsO_le (g : A.Good) : ∀ k, (bsO A.unl k).1 ≤ 160
  | 0 => Nat.zero_le _
  | k + 1 => by
    rw [bsO]
    split
    · exact unl_le g
    · exact bsO_le g k
theorem cLookEnd (hn : 3000 < n) (g : A.Good) (hm : MetC A (10 * A.now.hung) M) : j_X8_look_61 n x1 M = j_X8_look_123 n x1 (nI (bsO A.unl 5).1) (eO (bsO A.unl 5).2) M := by
  unfold j_X8_look_61
  obtain ⟨u, m, -, ee⟩ := gl_k (body := b_X8_look_68 n x1) (fun k (_ : Unit) => (nI (bsO A.unl k).1, eO (bsO A.unl k).2, nI k, M)) 5 (fun k _ => True) (fun k u hk _ => by
    refine ⟨(), ?_, trivial⟩
    have i1 : inb (nI (2 * k)) 10 := n_in (by omega) (by decide)
    have i2 : inb (nI (2 * k + 1)) 10 := n_in (by omega) (by decide)
    have z1 : (nI (2 * k)).toNatClampNeg = 2 * k := nI_clamp (by omega)
    have z2 : (nI (2 * k + 1)).toNatClampNeg = 2 * k + 1 := nI_clamp (by omega)
    have y0 : (2 : Int32) * nI k = nI (2 * k) := pk_mul 2 _
    have hU : cntN (fun o => (mtB A.gs A.fl k 0 (10 * A.now.hung)).testBit o) 64 + cntN (fun o => (mtB A.gs A.fl k 1 (10 * A.now.hung)).testBit o) 64 = A.unl k := unlike_is (fun v _ hv => by have := fl_lt (k := k) g hv (by omega); omega)
    have h1 := bsO_le g k
    have h2 := unl_le (i := k) g
    rw [b_X8_look_68]
    simp only [y0, nI_1, ck_pos i1, ck_pos i2, z1, z2]
    rw [if_neg (show ¬ (5 : Int32) ≤ nI k from nI_ge (b := 5) hk (by decide)), show gj M 2 (2 * k) = lN (mtB A.gs A.fl k 0 (10 * A.now.hung)) from hm k 0 hk (by decide), bc64 mt_lt]
    simp only [bd]
    rw [hm k 1 hk (by decide), bc64 mt_lt]
    simp only []
    rw [nI_add, hU]
    unfold j_X8_look_117
    rw [bsO, nI_1]
    by_cases c : (bsO A.unl k).1 < A.unl k
    · rw [if_neg (nI_ge c (by omega)), if_pos c]
      rfl
    · rw [if_pos (nI_le (by omega) (by omega)), if_neg c]) n 0 () (by omega) (by omega) trivial
  rw [show ((0 : Int32), (-1 : Int32), (0 : Int32), M) = (nI (bsO A.unl 0).1, eO (bsO A.unl 0).2, nI 0, M) from rfl, ee]
  refine gl_mr ?_
  rw [b_X8_look_68]
  try simp only []
  rw [if_pos (show (5 : Int32) ≤ nI 5 by decide)]
end Q
