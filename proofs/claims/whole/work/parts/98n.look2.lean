/-! Where to look next: the reference; both. -/
section Q
variable {n : Nat} {A : Ab} {M M2 : Mem} {x1 x2 x3 x4 x5 : Int32}
def SoR (A : Ab) (G : Nat) (X : Mem) : Prop := ∀ g k, g < G → A.gs g = true → k < 5 → gi X 20 (5 * cntN A.gs g + k) = nI (A.fl k g)
theorem mLookAll (hn : 3000 < n) (g : A.Good) (hM : RM A M2) : ∃ N, gl (b_X9_look_20 n x1) n ((0 : Int32), (0 : Int32), M2) = j_X9_look_86 n x1 (nI (cntN A.gs (10 * A.now.hung))) N ∧ RM A N ∧ gi N 0 0 = gi M2 0 0 ∧ SoR A (10 * A.now.hung) N := by
  have hh := g.g_n.h_hung
  have ha := g.g_n.h_all
  obtain ⟨N, m, ⟨c1, c2, c3⟩, ee⟩ := gl_k (body := b_X9_look_20 n x1) (fun k (X : Mem) => (nI (cntN A.gs k), nI k, X)) (10 * A.now.hung) (fun k X => RM A X ∧ gi X 0 0 = gi M2 0 0 ∧ SoR A k X) (fun k X hk hI => by
    obtain ⟨b1, b2, b3⟩ := hI
    have mb := b1.mb g
    obtain ⟨O, p1, p2, p3, p4⟩ := mGuess (n := n) (v := k) hn g.g_s mb kp.rf b1.s_w b1.s_s (by omega)
    have p1 : f_X9_isGuess n (nI k) X = some (if A.gs k = true then (1 : Int32) else 0, O) := p1
    have rO := b1.vt g p2 p3
    have t0 : gi O 0 0 = gi M2 0 0 := (p2.1 0 0 (by unfold VT VM; omega)).trans b2
    have h20 : ∀ q, gi O 20 q = gi X 20 q := fun q => p2.1 20 q (by unfold VT VM; omega)
    have u1 : gi X 12 (3 : Int32).toNatClampNeg = nI A.now.hung := b1.s_n.hung
    have hcn := cntN_le (f := A.gs) (k := k)
    rw [b_X9_look_20]
    try simp only []
    rw [u1, show (10 : Int32) = nI 10 from rfl, pk_mul, if_neg (nI_ge hk (by omega)), p1]
    simp only [bd]
    unfold j_X9_look_80
    cases hg : A.gs k with
    | false =>
      rw [if_pos (show (if false = true then (1 : Int32) else 0) = 0 from rfl), nI_1, cntN, hg]
      refine ⟨O, rfl, rO, t0, fun v q hv hgv hq => ?_⟩
      by_cases cv : v = k
      · rw [cv, hg] at hgv
        cases hgv
      · rw [h20]
        exact b3 v q (by omega) hgv hq
    | true =>
      rw [if_neg (show ¬ (if true = true then (1 : Int32) else 0) = 0 by decide)]
      have p4 := p4 hg
      obtain ⟨Y, m9, ⟨e1, e2, e3⟩, ee⟩ := gl_k (body := b_X9_look_47 n x1 (nI (cntN A.gs k)) (nI k)) (fun i (Y : Mem) => (nI i, Y)) 5 (fun i Y => kq (fun t _ => t = 20) O Y ∧ (∀ q, q < i → gi Y 20 (5 * cntN A.gs k + q) = nI (A.fl q k)) ∧ (∀ q, q < 5 * cntN A.gs k → gi Y 20 q = gi O 20 q)) (fun i Y hi hI => by
        obtain ⟨d1, d2, d3⟩ := hI
        have i1 : inb (nI i) 5 := n_in hi (by decide)
        have i2 : inb (nI (5 * cntN A.gs k + i)) 720 := by
          have : cntN A.gs k ≤ 9 * A.now.hung ∨ True := Or.inr trivial
          exact n_in (by
            have h9 : cntN A.gs k ≤ 143 := by
              have h8 : ∀ c, cntN A.gs (10 * c) ≤ 9 * c := fun c => by
                induction c with
                | zero => exact Nat.le_refl _
                | succ c ih =>
                  have z : A.gs (10 * c) = false := by
                    unfold Ab.gs gss
                    have : 10 * c % 10 = 0 := by omega
                    simp [this]
                  rw [show 10 * (c + 1) = 10 * c + 1 + 9 by omega, cnt_app, cntN, z]
                  have := cntN_le (f := fun o => A.gs (10 * c + 1 + o)) (k := 9)
                  simp
                  omega
              have h7 := h8 A.now.hung
              have := cnt_lt2 hg hk
              omega
            omega) (by decide)
        have z1 : (nI i).toNatClampNeg = i := nI_clamp (by omega)
        have z2 : (nI (5 * cntN A.gs k + i)).toNatClampNeg = 5 * cntN A.gs k + i := nI_clamp (by omega)
        refine ⟨si Y 20 (5 * cntN A.gs k + i) (nI (A.fl i k)), ?_, d1.si rfl _, fun q hq => ?_, fun q hq => ?_⟩
        · rw [b_X9_look_47]
          try simp only []
          rw [if_neg (show ¬ (5 : Int32) ≤ nI i from nI_ge (b := 5) hi (by decide)), show (5 : Int32) = nI 5 from rfl, pk_mul, nI_add, ck_pos i1, ck_pos i2, z1, z2, d1 19 i (by omega), p4 i hi, nI_1]
          rfl
        · rw [gi_si]
          by_cases cq : q = i
          · subst cq
            rw [if_pos ⟨rfl, rfl⟩]
          · rw [if_neg (by omega)]
            exact d2 q (by omega)
        · rw [gi_si, if_neg (by omega)]
          exact d3 q hq) n 0 O (by omega) (by omega) ⟨kq.rf, fun q hq => absurd hq (by omega), fun _ _ => rfl⟩
      refine ⟨Y, ?_, rO.kq g (e1.mono (fun t q ht => by unfold VR; omega)), (e1 0 0 (by omega)).trans t0, fun v q hv hgv hq => ?_⟩
      · rw [show ((0 : Int32), O) = (nI 0, O) from rfl, ee]
        refine gl_mr ?_
        rw [b_X9_look_47]
        try simp only []
        rw [if_pos (show (5 : Int32) ≤ nI 5 by decide)]
        unfold j_X9_look_77 j_X9_look_80
        rw [nI_1, nI_1, cntN, hg]
        rfl
      · by_cases cv : v = k
        · subst cv
          exact e2 q hq
        · have hlt := cnt_lt2 hgv (show v < k by omega)
          rw [e3 _ (by omega), h20]
          exact b3 v q (by omega) hgv hq) n 0 M2 (Nat.zero_le _) (by omega) ⟨hM, rfl, fun v q hv => absurd hv (by omega)⟩
  have u1 : gi N 12 (3 : Int32).toNatClampNeg = nI A.now.hung := c1.s_n.hung
  refine ⟨N, ?_, c1, c2, c3⟩
  rw [show ((0 : Int32), (0 : Int32), M2) = (nI (cntN A.gs 0), nI 0, M2) from rfl, ee]
  refine gl_mr ?_
  rw [b_X9_look_20]
  try simp only []
  rw [u1, show (10 : Int32) = nI 10 from rfl, pk_mul, if_pos (nI_le (Nat.le_refl _) (by omega))]
theorem mLookIn {m k a : Nat} {arr : Nat → Nat} (hn : 3000 < n) (ha : a < m) (hm : m ≤ 144) (hk : k < 5) (hrow : ∀ b, b < m → gi M2 20 (5 * b + k) = nI (arr b)) (harr : ∀ b, b < m → arr b < 1000) : gl (b_X9_look_118 n x1 (nI m) x3 x4 (nI k) x5 (nI a)) n ((1 : Int32), (0 : Int32), M2) = j_X9_look_170 n x1 (nI m) x3 x4 (nI k) x5 (nI a) (if frs arr a = true then (1 : Int32) else 0) M2 := by
  have e5 : ∀ v, (5 : Int32) * nI v + nI k = nI (5 * v + k) := fun v => by
    rw [show (5 : Int32) = nI 5 from rfl, pk_mul, nI_add]
  have step : ∀ b, b < a → b_X9_look_118 n x1 (nI m) x3 x4 (nI k) x5 (nI a) ((1 : Int32), nI b, M2) = some (.inl (if arr b = arr a then (0 : Int32) else 1, nI (b + 1), M2)) := fun b hb => by
    have i1 : inb (nI (5 * a + k)) 720 := n_in (by omega) (by decide)
    have i2 : inb (nI (5 * b + k)) 720 := n_in (by omega) (by decide)
    have z1 : (nI (5 * a + k)).toNatClampNeg = 5 * a + k := nI_clamp (by omega)
    have z2 : (nI (5 * b + k)).toNatClampNeg = 5 * b + k := nI_clamp (by omega)
    have h1 := harr a ha
    have h2 := harr b (by omega)
    rw [b_X9_look_118]
    simp only [e5, ck_pos i1, ck_pos i2, z1, z2]
    rw [if_neg (nI_ge hb (by omega)), if_neg (show ¬ (1 : Int32) = 0 by decide), hrow a ha, hrow b (by omega)]
    unfold j_X9_look_162
    rw [nI_1]
    by_cases c : arr b = arr a
    · rw [if_pos (by rw [c]), if_pos c]
    · rw [if_neg (fun q => c ((nI_eq (by omega) (by omega)).mp q).symm), if_neg c]
  have zero : ∀ b q, b ≤ a → gl (b_X9_look_118 n x1 (nI m) x3 x4 (nI k) x5 (nI a)) (q + 1) ((0 : Int32), nI b, M2) = j_X9_look_170 n x1 (nI m) x3 x4 (nI k) x5 (nI a) 0 M2 := fun b q hb => by
    refine gl_mr ?_
    rw [b_X9_look_118]
    try simp only []
    by_cases c : a ≤ b
    · rw [if_pos (nI_le c (by omega))]
    · rw [if_neg (nI_ge (by omega) (by omega)), if_pos trivial]
  -- by how many are left
  have main : ∀ r b q, b + r = a → r < q → allN (fun c => !(arr c == arr a)) b = true → gl (b_X9_look_118 n x1 (nI m) x3 x4 (nI k) x5 (nI a)) q ((1 : Int32), nI b, M2) = j_X9_look_170 n x1 (nI m) x3 x4 (nI k) x5 (nI a) (if frs arr a = true then (1 : Int32) else 0) M2 := fun r => by
    induction r with
    | zero =>
      intro b q hb hq hall
      obtain ⟨q, rfl⟩ : ∃ p, q = p + 1 := ⟨q - 1, by omega⟩
      have hb : b = a := by omega
      subst hb
      rw [if_pos (show frs arr b = true from hall)]
      refine gl_mr ?_
      rw [b_X9_look_118]
      try simp only []
      rw [if_pos (nI_le (Nat.le_refl _) (by omega))]
    | succ r ih =>
      intro b q hb hq hall
      obtain ⟨q, rfl⟩ : ∃ p, q = p + 1 := ⟨q - 1, by omega⟩
      rw [gl_inl (step b (by omega))]
      by_cases c : arr b = arr a
      · rw [if_pos c]
        have hf : frs arr a = false := by
          cases e : frs arr a with
          | false => rfl
          | true =>
            have := allN_iff.mp e b (by omega)
            rw [c] at this
            simp at this
        obtain ⟨q, rfl⟩ : ∃ p, q = p + 1 := ⟨q - 1, by omega⟩
        rw [zero (b + 1) q (by omega), hf]
        rfl
      · rw [if_neg c]
        exact ih (b + 1) q (by omega) (by omega) (by rw [allN, hall]; simp [c])
  exact main a 0 n (by omega) (by omega) rfl
theorem mLookEnd (hn : 3000 < n) (g : A.Good) (hr : SoR A (10 * A.now.hung) M2) : j_X9_look_86 n x1 (nI (cntN A.gs (10 * A.now.hung))) M2 = j_X9_look_216 n x1 (eO (bsO A.unl 5).2) (nI (bsO A.unl 5).1) M2 := by
  have hh := g.g_n.h_hung
  have ha := g.g_n.h_all
  have h8 : ∀ c, cntN A.gs (10 * c) ≤ 9 * c := fun c => by
    induction c with
    | zero => exact Nat.le_refl _
    | succ c ih =>
      have z : A.gs (10 * c) = false := by
        unfold Ab.gs gss
        have : 10 * c % 10 = 0 := by omega
        simp [this]
      rw [show 10 * (c + 1) = 10 * c + 1 + 9 by omega, cnt_app, cntN, z]
      have := cntN_le (f := fun o => A.gs (10 * c + 1 + o)) (k := 9)
      simp
      omega
  have hm := h8 A.now.hung
  have inner : ∀ (k : Nat) (y z : Int32), k < 5 → gl (b_X9_look_106 n x1 (nI (cntN A.gs (10 * A.now.hung))) y z (nI k)) n ((0 : Int32), (0 : Int32), M2) = j_X9_look_191 n x1 (nI (cntN A.gs (10 * A.now.hung))) y z (nI k) (nI (A.unl k)) M2 := fun k y z hk => by
    have hrow : ∀ b, b < cntN A.gs (10 * A.now.hung) → gi M2 20 (5 * b + k) = nI ((fun a => A.fl k (gth A.gs (10 * A.now.hung) a)) b) := fun b hb => by
      have hg := gth_ok hb
      have := hr _ k hg.2.1 hg.1 hk
      rw [hg.2.2] at this
      exact this
    have harr : ∀ b, b < cntN A.gs (10 * A.now.hung) → (fun a => A.fl k (gth A.gs (10 * A.now.hung) a)) b < 1000 := fun b hb => by
      have hg := gth_ok hb
      have := fl_lt (k := k) g hg.1 (by omega)
      show A.fl k _ < 1000
      omega
    obtain ⟨u, m, -, ee⟩ := gl_k (body := b_X9_look_106 n x1 (nI (cntN A.gs (10 * A.now.hung))) y z (nI k)) (fun a (_ : Unit) => (nI (cntN (frs (fun a => A.fl k (gth A.gs (10 * A.now.hung) a))) a), nI a, M2)) (cntN A.gs (10 * A.now.hung)) (fun k _ => True) (fun a u ha _ => by
      refine ⟨(), ?_, trivial⟩
      rw [b_X9_look_106]
      try simp only []
      rw [if_neg (nI_ge ha (by omega)), mLookIn (arr := fun a => A.fl k (gth A.gs (10 * A.now.hung) a)) hn ha (by omega) hk hrow harr]
      unfold j_X9_look_170 j_X9_look_182
      rw [cntN]
      cases hf : frs (fun a => A.fl k (gth A.gs (10 * A.now.hung) a)) a with
      | true =>
        rw [if_neg (show ¬ (if true = true then (1 : Int32) else 0) = 0 by decide), nI_1, nI_1]
        rfl
      | false =>
        rw [if_pos (show (if false = true then (1 : Int32) else 0) = 0 from rfl), nI_1, show (0 : Int32) = nI 0 from rfl, nI_add]
        rfl) n 0 () (Nat.zero_le _) (by omega) trivial
    rw [show ((0 : Int32), (0 : Int32), M2) = (nI (cntN (frs (fun a => A.fl k (gth A.gs (10 * A.now.hung) a))) 0), nI 0, M2) from rfl, ee]
    refine gl_mr ?_
    rw [b_X9_look_106]
    try simp only []
    rw [if_pos (nI_le (Nat.le_refl _) (by omega))]
    rfl
  unfold j_X9_look_86
  obtain ⟨u, m, -, ee⟩ := gl_k (body := b_X9_look_94 n x1 (nI (cntN A.gs (10 * A.now.hung)))) (fun k (_ : Unit) => (eO (bsO A.unl k).2, nI (bsO A.unl k).1, nI k, M2)) 5 (fun k _ => True) (fun k u hk _ => by
    refine ⟨(), ?_, trivial⟩
    have h1 := bsO_le g k
    have h2 := unl_le (i := k) g
    rw [b_X9_look_94]
    try simp only []
    rw [if_neg (show ¬ (5 : Int32) ≤ nI k from nI_ge (b := 5) hk (by decide)), inner k _ _ hk]
    unfold j_X9_look_191 j_X9_look_210
    rw [nI_1, bsO]
    by_cases c : (bsO A.unl k).1 < A.unl k
    · rw [if_pos (nI_lt c (by omega)), if_pos c]
      rfl
    · rw [if_neg (nI_nlt (by omega) (by omega)), if_neg c]) n 0 () (by omega) (by omega) trivial
  rw [show ((-1 : Int32), (0 : Int32), (0 : Int32), M2) = (eO (bsO A.unl 0).2, nI (bsO A.unl 0).1, nI 0, M2) from rfl, ee]
  refine gl_mr ?_
  rw [b_X9_look_94]
  try simp only []
  rw [if_pos (show (5 : Int32) ≤ nI 5 by decide)]
theorem qLook (hn : 3000 < n) (g : A.Good) (hC : RC A M) (hM : RM A M2) : QQ k1 (f_X8_look n x1 M) (f_X9_look n x1 M2) := by
  have hM' := hM.thr g 0
  have h0 := thr0 M2
  unfold f_X8_look f_X9_look
  refine qq_what (m := 1) (by decide) g hC hM' h0 k1_11 (fun u hu e => ?_)
  dsimp only
  subst e
  obtain ⟨j, cb⟩ := hC.cb g
  obtain ⟨N, q1, e1, e2⟩ := cLookAll (n := n) (x1 := nI u) hn g hC cb
  obtain ⟨N2, q2, f1, f2, f3⟩ := mLookAll (n := n) (x1 := nI u) hn g hM'
  rw [q1, q2, cLookEnd hn g e2, mLookEnd hn g f3]
  have fin : ∀ v : Int32, QQ k1 (some (0, v, N)) (some (v, N2)) := fun v => qq_yes g (hC.kq e1) f1 (f2.trans h0) k1_00
  unfold j_X8_look_123 j_X9_look_216
  rcases (show u = 0 ∨ u = 1 by omega) with rfl | rfl
  · rw [if_pos (by decide), if_pos (by decide)]
    exact fin _
  · rw [if_neg (show ¬ nI 1 = 0 by decide), if_neg (show ¬ nI 1 = 0 by decide)]
    exact fin _
end Q
