/-! The class' step. -/
theorem sb_32 : ∀ b, b < 256 → (sb b = (32 : Int32) ↔ b = 32) ∧ (sb b = (10 : Int32) ↔ b = 10) := by decide +kernel
theorem ne_1 {a : Nat} (h : ¬ a = 1) (ha : a < 2 ^ 31) : ¬ nI a = (1 : Int32) := fun c => h ((nI_eq (b := 1) ha (by decide)).mp c)
theorem ne_2 {a : Nat} (h : ¬ a = 2) (ha : a < 2 ^ 31) : ¬ nI a = (2 : Int32) := fun c => h ((nI_eq (b := 2) ha (by decide)).mp c)
theorem ne_3 {a : Nat} (h : ¬ a = 3) (ha : a < 2 ^ 31) : ¬ nI a = (3 : Int32) := fun c => h ((nI_eq (b := 3) ha (by decide)).mp c)
section S
variable {f : Nat → Nat} {e p n : Nat} {M : Mem} {T : Tok}
theorem cSkip (hx : LexR f e p T) (he : e ≤ 700) (hf : ∀ q, f q < 256) : ∀ (m q N : Nat) (M : Mem), T.p - q = m → p ≤ q → q ≤ T.p → m < N → gi M 44 4 = nI e → (∀ i, i < e → gi M 45 i = sb (f i)) → gi M 44 5 = nI q →
    ∃ M', gl (b_X2_step_8 n) N M = j_X2_step_60 n M' ∧ gi M' 44 5 = nI T.p ∧ kq VL M M' := by
  have hpe := hx.x_p
  intro m
  induction m with
  | zero =>
    intro q N M hm h1 h2 hN h4 hb h5
    obtain ⟨N, rfl⟩ : ∃ k, N = k + 1 := ⟨N - 1, by omega⟩
    have hq : q = T.p := by omega
    subst hq
    refine ⟨M, gl_mr ?_, h5, kq.rf⟩
    rw [b_X2_step_8]
    try simp only []
    rw [h4, h5]
    by_cases c : e ≤ T.p
    · rw [if_pos (nI_le c (by omega))]
    · have hn := hx.x_n (by omega)
      have z : (nI T.p).toNatClampNeg = T.p := nI_clamp (by omega)
      rw [if_neg (nI_ge (by omega) (by omega)), ck_pos (n_in (by omega) (by decide))]
      simp only [z, hb T.p (by omega)]
      rw [if_neg (fun c => hn.1 ((sb_32 _ (hf _)).1.mp c)), ck_pos (n_in (by omega) (by decide)), if_neg (fun c => hn.2 ((sb_32 _ (hf _)).2.mp c))]
  | succ m ih =>
    intro q N M hm h1 h2 hN h4 hb h5
    obtain ⟨N, rfl⟩ : ∃ k, N = k + 1 := ⟨N - 1, by omega⟩
    have hq := hx.x_b q h1 (by omega)
    have e1 : b_X2_step_8 n M = some (.inl (si M 44 5 (nI (q + 1)))) := by
      rw [b_X2_step_8]
      try simp only []
      have z : (nI q).toNatClampNeg = q := nI_clamp (by omega)
      rw [h4, h5, if_neg (nI_ge (by omega) (by omega)), ck_pos (n_in (by omega) (by decide))]
      simp only [z, hb q (by omega)]
      have e47 : j_X2_step_47 n M = some (.inl (si M 44 5 (nI (q + 1)))) := by
        unfold j_X2_step_47
        rw [h5, nI_1]
      rw [e47]
      rcases hq with hq | hq
      · rw [if_pos ((sb_32 _ (hf _)).1.mpr hq)]
      · rw [if_neg (fun c => absurd ((sb_32 _ (hf _)).1.mp c) (by omega)), ck_pos (n_in (by omega) (by decide)), if_pos ((sb_32 _ (hf _)).2.mpr hq)]
    have k1 : kq VL M (si M 44 5 (nI (q + 1))) := kq.rf.si (by unfold VL; omega) _
    obtain ⟨M', a1, a2, a3⟩ := ih (q + 1) N (si M 44 5 (nI (q + 1))) (by omega) (by omega) (by omega) (by omega) (by rw [k1 _ _ (by unfold VL; omega)]; exact h4) (fun i hi => by rw [k1 _ _ (by unfold VL; omega)]; exact hb i hi) (by rw [gi_si, if_pos ⟨rfl, rfl⟩])
    exact ⟨M', by rw [gl_inl e1, a1], a2, k1.tr a3⟩
theorem cRow (hx : LexR f e p T) (he : e ≤ 700) (hf : ∀ q, f q < 256) (hn : 20 < n) (hpe : T.p < e) (hk : T.k = 1 ∨ T.k = 2) : ∀ (m q N : Nat) (M : Mem), T.nx - q = m → T.p ≤ q → q ≤ T.nx → m < N → gi M 44 4 = nI e → (∀ i, i < e → gi M 45 i = sb (f i)) → gi M 44 6 = nI q → gi M 44 7 = nI T.k →
    ∃ M', gl (b_X2_step_157 n 1) N M = j_X2_step_204 n M' ∧ gi M' 44 6 = nI T.nx ∧ kq (fun t k => t = 44 ∧ k = 6) M M' := by
  obtain ⟨hr1, hr2⟩ := hx.x_r hpe hk
  have h1' := hx.x_1 hpe
  intro m
  induction m with
  | zero =>
    intro q N M hm h1 h2 hN h4 hb h6 h7
    obtain ⟨N, rfl⟩ : ∃ k, N = k + 1 := ⟨N - 1, by omega⟩
    have hq : q = T.nx := by omega
    subst hq
    refine ⟨M, gl_mr ?_, h6, kq.rf⟩
    rw [b_X2_step_157]
    try simp only []
    rw [if_neg (by decide), h4, h6]
    by_cases c : e ≤ T.nx
    · rw [if_pos (nI_le c (by omega))]
    · have hn' := hr2 (by omega)
      have hk4 := kd_ne (f T.nx)
      rw [if_neg (nI_ge (by omega) (by omega)), ck_pos (n_in (by omega) (by decide)), nI_clamp (by omega), hb _ (by omega), cKind hn (hf _)]
      simp only [bd]
      rw [h7, if_neg (fun c => hn' ((nI_eq (by omega) (by omega)).mp c))]
  | succ m ih =>
    intro q N M hm h1 h2 hN h4 hb h6 h7
    obtain ⟨N, rfl⟩ : ∃ k, N = k + 1 := ⟨N - 1, by omega⟩
    have hq := hr1 q h1 (by omega)
    have e1 : b_X2_step_157 n 1 M = some (.inl (si M 44 6 (nI (q + 1)))) := by
      rw [b_X2_step_157]
      try simp only []
      rw [if_neg (by decide), h4, h6, if_neg (nI_ge (by omega) (by omega)), ck_pos (n_in (by omega) (by decide)), nI_clamp (by omega), hb _ (by omega), cKind hn (hf _), hq]
      simp only [bd]
      rw [h7, if_pos rfl, h6, nI_1]
    have k1 : kq (fun t k => t = 44 ∧ k = 6) M (si M 44 6 (nI (q + 1))) := kq.rf.si (by omega) _
    obtain ⟨M', a1, a2, a3⟩ := ih (q + 1) N (si M 44 6 (nI (q + 1))) (by omega) (by omega) (by omega) (by omega) (by rw [k1 _ _ (by omega)]; exact h4) (fun i hi => by rw [k1 _ _ (by omega)]; exact hb i hi) (by rw [gi_si, if_pos ⟨rfl, rfl⟩]) (by rw [k1 _ _ (by omega)]; exact h7)
    exact ⟨M', by rw [gl_inl e1, a1], a2, k1.tr a3⟩
theorem cRow0 (hn : 0 < n) (M : Mem) : gl (b_X2_step_157 n 0) n M = j_X2_step_204 n M := by
  obtain ⟨m, rfl⟩ : ∃ k, n = k + 1 := ⟨n - 1, by omega⟩
  exact gl_mr rfl
/-- behind the first byte -/
theorem c204 (hx : LexR f e p T) (he : e ≤ 700) (hn : 800 < n) (hpe : T.p < e) (h4 : gi M 44 4 = nI e) (hb : ∀ i, i < e → gi M 45 i = sb (f i)) (h5 : gi M 44 5 = nI T.p) (h6 : gi M 44 6 = nI T.nx) (h7 : gi M 44 7 = nI T.k) (h9 : T.k = 3 → gi M 44 9 = nI T.v) :
    ∃ M', j_X2_step_204 n M = some M' ∧ TkC f e T M' ∧ kq VL M M' := by
  have h1' := hx.x_1 hpe
  have hk4 := kd_ne (f T.p)
  rw [← hx.x_k hpe] at hk4
  unfold j_X2_step_204
  rw [h5, h6, h7]
  by_cases c1 : T.k = 1
  · obtain ⟨hr1, hr2⟩ := hx.x_r hpe (Or.inl c1)
    have hv := hx.x_v1 c1
    have hv2 := wfi_le (slc f T.p (T.nx - T.p)) 21
    rw [if_pos (by rw [c1]; rfl), cOf (by omega) hb (fun i h1 h2 => by
      have := hr1 i h1 h2
      rw [c1] at this
      have := kd_1.mp this
      omega) h1'.1 h1'.2 he]
    simp only [bd]
    rw [ck_pos (by omega), ← hv]
    have k1 : kq VL M (si M 44 10 (nI T.v)) := kq.rf.si (by unfold VL; omega) _
    refine ⟨_, rfl, ⟨by rw [k1 _ _ (by unfold VL; omega)]; exact h4, fun q hq => by rw [k1 _ _ (by unfold VL; omega)]; exact hb q hq, by simp [gi_si, h5], by simp [gi_si, h6], by simp [gi_si, h7], fun _ => by simp [gi_si], fun c => absurd c (by omega), fun c => absurd c (by omega)⟩, k1⟩
  · rw [if_neg (ne_1 c1 (by omega))]
    by_cases c2 : T.k = 2
    · obtain ⟨hr1, hr2⟩ := hx.x_r hpe (Or.inr c2)
      have hv := hx.x_v2 c2
      rw [if_pos (by rw [c2]; rfl), cDigits (by omega) hb (fun i h1 h2 => (hr1 i h1 h2).trans c2) h5 h6 h1'.1 h1'.2 he]
      simp only [bd]
      rw [← hv]
      have k1 : kq VL M (si M 44 8 (nI T.v)) := kq.rf.si (by unfold VL; omega) _
      refine ⟨_, rfl, ⟨by rw [k1 _ _ (by unfold VL; omega)]; exact h4, fun q hq => by rw [k1 _ _ (by unfold VL; omega)]; exact hb q hq, by simp [gi_si, h5], by simp [gi_si, h6], by simp [gi_si, h7], fun c => absurd c (by omega), fun _ => by simp [gi_si], fun c => absurd c (by omega)⟩, k1⟩
    · rw [if_neg (ne_2 c2 (by omega))]
      exact ⟨M, rfl, ⟨h4, hb, h5, h6, h7, fun c => absurd c c1, fun c => absurd c c2, h9⟩, kq.rf⟩
theorem c96 (hx : LexR f e p T) (he : e ≤ 700) (hf : ∀ q, f q < 256) (hn : 800 < n) (hpe : T.p < e) (h4 : gi M 44 4 = nI e) (hb : ∀ i, i < e → gi M 45 i = sb (f i)) (h5 : gi M 44 5 = nI T.p) (h6 : gi M 44 6 = nI T.p) :
    ∃ M', j_X2_step_96 n (nI T.k) M = some M' ∧ TkC f e T M' ∧ kq VL M M' := by
  have h1' := hx.x_1 hpe
  have hkk := hx.x_k hpe
  have hk4 := kd_ne (f T.p)
  rw [← hkk] at hk4
  obtain ⟨q1, q2, q3⟩ := chP_sb (f T.p) (hf _)
  have hM2 : ∀ M2, M2 = si (si (si M 44 7 (nI T.k)) 44 9 (nI (f T.p))) 44 6 (nI (T.p + 1)) → j_X2_step_96 n (nI T.k) M = (if T.k = 1 ∨ T.k = 2 then gl (b_X2_step_157 n 1) n M2 else gl (b_X2_step_157 n 0) n M2) := by
    intro M2 hM2
    have g7 : gi (si M 44 7 (nI T.k)) 44 7 = nI T.k := by rw [gi_si, if_pos ⟨rfl, rfl⟩]
    have g5 : gi (si M 44 7 (nI T.k)) 44 5 = nI T.p := by rw [gi_si, if_neg (by omega), h5]
    have g45 : gi (si M 44 7 (nI T.k)) 45 T.p = sb (f T.p) := by rw [gi_si, if_neg (by omega), hb _ hpe]
    have g6 : gi (si (si M 44 7 (nI T.k)) 44 9 (nI (f T.p))) 44 6 = nI T.p := by rw [gi_si, if_neg (by omega), gi_si, if_neg (by omega), h6]
    have g77 : gi M2 44 7 = nI T.k := by rw [hM2, gi_si, if_neg (by omega), gi_si, if_neg (by omega), g7]
    unfold j_X2_step_96
    have z : (nI T.p).toNatClampNeg = T.p := nI_clamp (by omega)
    have q1' : (((sb (f T.p)) &&& (255 : Int32)).toUInt32 % 65536).toInt32 = nI (f T.p) := q1
    rw [g7, if_neg (nI_ne0 (by omega) (by omega)), g5, ck_pos (n_in (by omega) (by decide))]
    simp only [z, g45, q1', g6, nI_1, ← hM2, g77]
    unfold j_X2_step_151 j_X2_step_156
    by_cases c1 : T.k = 1
    · rw [if_pos (by rw [c1]; rfl), if_pos (Or.inl c1)]
    · rw [if_neg (ne_1 c1 (by omega))]
      by_cases c2 : T.k = 2
      · rw [if_pos (by rw [c2]; rfl), if_pos (Or.inr c2)]
      · rw [if_neg (ne_2 c2 (by omega)), if_neg (by omega)]
  obtain ⟨M2, hM⟩ : ∃ M2, M2 = si (si (si M 44 7 (nI T.k)) 44 9 (nI (f T.p))) 44 6 (nI (T.p + 1)) := ⟨_, rfl⟩
  rw [hM2 M2 hM]
  have k2 : kq VL M M2 := by rw [hM]; exact ((kq.rf.si (by unfold VL; omega) _).si (by unfold VL; omega) _).si (by unfold VL; omega) _
  have m4 : gi M2 44 4 = nI e := by rw [k2 _ _ (by unfold VL; omega)]; exact h4
  have mb : ∀ i, i < e → gi M2 45 i = sb (f i) := fun i hi => by rw [k2 _ _ (by unfold VL; omega)]; exact hb i hi
  have m5 : gi M2 44 5 = nI T.p := by rw [hM]; simp [gi_si, h5]
  have m6 : gi M2 44 6 = nI (T.p + 1) := by rw [hM]; simp [gi_si]
  have m7 : gi M2 44 7 = nI T.k := by rw [hM]; simp [gi_si]
  have m9 : gi M2 44 9 = nI (f T.p) := by rw [hM]; simp [gi_si]
  by_cases c : T.k = 1 ∨ T.k = 2
  · rw [if_pos c]
    obtain ⟨M3, a1, a2, a3⟩ := cRow (n := n) hx he hf (by omega) hpe c (T.nx - (T.p + 1)) (T.p + 1) n M2 rfl (by omega) (by omega) (by omega) m4 mb m6 m7
    rw [a1]
    obtain ⟨M4, b1, b2, b3⟩ := c204 (M := M3) hx he hn hpe (by rw [a3 _ _ (by omega)]; exact m4) (fun i hi => by rw [a3 _ _ (by omega)]; exact mb i hi) (by rw [a3 _ _ (by omega)]; exact m5) a2 (by rw [a3 _ _ (by omega)]; exact m7) (fun c' => absurd c' (by omega))
    exact ⟨M4, b1, b2, (k2.tr (a3.mono (fun t k h => by unfold VL; omega))).tr b3⟩
  · rw [if_neg c, cRow0 (by omega)]
    have hs := hx.x_s hpe (by omega) (by omega)
    obtain ⟨M4, b1, b2, b3⟩ := c204 (M := M2) hx he hn hpe m4 mb m5 (by rw [hs]; exact m6) m7 (fun c' => by rw [hx.x_v3 c']; exact m9)
    exact ⟨M4, b1, b2, k2.tr b3⟩
theorem cStep (hx : LexR f e p T) (he : e ≤ 700) (hf : ∀ q, f q < 256) (hn : 800 < n) (h4 : gi M 44 4 = nI e) (hb : ∀ i, i < e → gi M 45 i = sb (f i)) (h6 : gi M 44 6 = nI p) :
    ∃ M', f_X2_step n M = some M' ∧ TkC f e T M' ∧ kq VL M M' := by
  have hpe := hx.x_p
  have k1 : kq VL M (si M 44 5 (nI p)) := kq.rf.si (by unfold VL; omega) _
  obtain ⟨M1, a1, a2, a3⟩ := cSkip (n := n) hx he hf (T.p - p) p n (si M 44 5 (nI p)) rfl (Nat.le_refl _) hpe.1 (by omega) (by rw [k1 _ _ (by unfold VL; omega)]; exact h4) (fun i hi => by rw [k1 _ _ (by unfold VL; omega)]; exact hb i hi) (by rw [gi_si, if_pos ⟨rfl, rfl⟩])
  have k2 := k1.tr a3
  have k3 : kq VL M (si M1 44 6 (nI T.p)) := k2.si (by unfold VL; omega) _
  have m4 : gi (si M1 44 6 (nI T.p)) 44 4 = nI e := by rw [k3 _ _ (by unfold VL; omega)]; exact h4
  have mb : ∀ i, i < e → gi (si M1 44 6 (nI T.p)) 45 i = sb (f i) := fun i hi => by rw [k3 _ _ (by unfold VL; omega)]; exact hb i hi
  have m5 : gi (si M1 44 6 (nI T.p)) 44 5 = nI T.p := by rw [gi_si, if_neg (by omega)]; exact a2
  have m6 : gi (si M1 44 6 (nI T.p)) 44 6 = nI T.p := by rw [gi_si, if_pos ⟨rfl, rfl⟩]
  unfold f_X2_step
  rw [h6, a1]
  unfold j_X2_step_60
  rw [a2, m4, m5]
  by_cases c : e ≤ T.p
  · rw [if_pos (nI_le c (by omega))]
    have hT := hx.x_e (by omega)
    have hTp : T.p = e := by omega
    unfold j_X2_step_96
    rw [show gi (si (si M1 44 6 (nI T.p)) 44 7 0) 44 7 = 0 by rw [gi_si, if_pos ⟨rfl, rfl⟩], if_pos rfl]
    refine ⟨_, rfl, ?_, k3.si (by unfold VL; omega) _⟩
    have hk0 : T.k = 0 := by rw [hT]
    have hnx : T.nx = T.p := by rw [hT]
    exact ⟨by rw [gi_si, if_neg (by omega)]; exact m4, fun i hi => by rw [gi_si, if_neg (by omega)]; exact mb i hi, by rw [gi_si, if_neg (by omega)]; exact m5, by rw [gi_si, if_neg (by omega), hnx]; exact m6, by rw [gi_si, if_pos ⟨rfl, rfl⟩, hk0]; rfl, fun c => absurd c (by omega), fun c => absurd c (by omega), fun c => absurd c (by omega)⟩
  · rw [if_neg (nI_ge (by omega) (by omega)), ck_pos (n_in (by omega) (by decide)), nI_clamp (by omega), mb _ (by omega), cKind (by omega) (hf _)]
    simp only [bd]
    rw [← hx.x_k (by omega)]
    obtain ⟨M4, b1, b2, b3⟩ := c96 (M := si M1 44 6 (nI T.p)) hx he hf hn (by omega) m4 mb m5 m6
    exact ⟨M4, b1, b2, k3.tr b3⟩
end S
