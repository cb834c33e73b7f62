/-! The class reads a token. -/
def VL (t k : Nat) : Prop := t = 44 ∧ 5 ≤ k ∧ k ≤ 10
def TkC (f : Nat → Nat) (e : Nat) (T : Tok) (M : Mem) : Prop := (gi M 44 4 = nI e) ∧ (∀ q, q < e → gi M 45 q = sb (f q)) ∧ (gi M 44 5 = nI T.p) ∧ (gi M 44 6 = nI T.nx) ∧ (gi M 44 7 = nI T.k) ∧ (T.k = 1 → gi M 44 10 = nI T.v) ∧ (T.k = 2 → gi M 44 8 = nI T.v) ∧ (T.k = 3 → gi M 44 9 = nI T.v)
theorem TkC.t_e {f : Nat → Nat} {e : Nat} {T : Tok} {M : Mem} (h : TkC f e T M) : gi M 44 4 = nI e := h.1
theorem TkC.t_b {f : Nat → Nat} {e : Nat} {T : Tok} {M : Mem} (h : TkC f e T M) : ∀ q, q < e → gi M 45 q = sb (f q) := h.2.1
theorem TkC.t_p {f : Nat → Nat} {e : Nat} {T : Tok} {M : Mem} (h : TkC f e T M) : gi M 44 5 = nI T.p := h.2.2.1
theorem TkC.t_n {f : Nat → Nat} {e : Nat} {T : Tok} {M : Mem} (h : TkC f e T M) : gi M 44 6 = nI T.nx := h.2.2.2.1
theorem TkC.t_k {f : Nat → Nat} {e : Nat} {T : Tok} {M : Mem} (h : TkC f e T M) : gi M 44 7 = nI T.k := h.2.2.2.2.1
theorem TkC.t_w {f : Nat → Nat} {e : Nat} {T : Tok} {M : Mem} (h : TkC f e T M) : T.k = 1 → gi M 44 10 = nI T.v := h.2.2.2.2.2.1
theorem TkC.t_d {f : Nat → Nat} {e : Nat} {T : Tok} {M : Mem} (h : TkC f e T M) : T.k = 2 → gi M 44 8 = nI T.v := h.2.2.2.2.2.2.1
theorem TkC.t_s {f : Nat → Nat} {e : Nat} {T : Tok} {M : Mem} (h : TkC f e T M) : T.k = 3 → gi M 44 9 = nI T.v := h.2.2.2.2.2.2.2
theorem w_tab : ∀ k, k < 21 → (wtab.getD k []).length = sLen.getD k 0 ∧ sLen.getD k 0 ≤ 8 := by decide +kernel
theorem w_chr : ∀ k, k < 21 → ∀ a, a < 8 → a < sLen.getD k 0 → narrow .char (.int (((((sByt.getD k []).getD a 0) &&& (255 : Int32)).toUInt32 % 65536).toInt32)) = .int (((((sByt.getD k []).getD a 0) &&& (255 : Int32)).toUInt32 % 65536).toInt32) ∧ ((((sByt.getD k []).getD a 0) &&& (255 : Int32)).toUInt32 % 65536).toInt32 = nI ((wtab.getD k []).getD a 0) ∧ (wtab.getD k []).getD a 0 < 128 := by decide +kernel
theorem cCharAt (n : Nat) (M : Mem) {k a : Nat} (hk : k < 21) (ha : a < sLen.getD k 0) : f_J0_charAt_5068e n k (nI a) M = some (nI ((wtab.getD k []).getD a 0), M) := by
  have h8 := (w_tab k hk).2
  obtain ⟨h1, h2, h3⟩ := w_chr k hk a (by omega) ha
  have e : f_J1_charAt_3b067 n k (nI a) M = some (((((sByt.getD k []).getD a 0) &&& (255 : Int32)).toUInt32 % 65536).toInt32, M) := by
    unfold f_J1_charAt_3b067 f_J0_checkIndex_df160 f_J3_checkIndex_8e157
    rw [if_neg (nI_pos (by omega)), if_pos (nI_lt ha (by omega))]
    simp only [bd]
    rw [ck_pos (n_in ha (by omega)), nI_clamp (by omega)]
  unfold f_J0_charAt_5068e
  rw [show f_J0_isLatin1_aae02 n k M = some ((1 : Int32), M) from rfl]
  simp only [bd]
  rw [if_neg (by decide), e]
  simp only []
  rw [ck_pos h1, h2]
section W
variable {f : Nat → Nat} {e p q n : Nat} {M : Mem} {T : Tok}
theorem cSame (hb : ∀ i, i < e → gi M 45 i = sb (f i)) (hf : ∀ i, p ≤ i → i < q → f i < 128) (hq : q ≤ e) (he : e ≤ 700) {k : Nat} (hk : k < 21) : ∀ (m a N : Nat), sLen.getD k 0 - a = m → m < N → a ≤ sLen.getD k 0 → p + a ≤ q → (∀ i, i < a → (wtab.getD k []).getD i 0 = f (p + i)) →
    gl (b_X7_of_23 n (nI p) (nI q) (nI k) k) N (nI a, M) = if wtab.getD k [] = slc f p (q - p) then some (.inr (k, M)) else some (.inl (nI (k + 1), M)) := by
  have hw := w_tab k hk
  have hends : ∀ a, a ≤ sLen.getD k 0 → p + a ≤ q → (wtab.getD k [] = slc f p (q - p) ↔ (a = sLen.getD k 0 ∧ p + a = q)) → j_X7_of_63 n (nI p) (nI q) (nI k) k (nI a) M = if wtab.getD k [] = slc f p (q - p) then some (.inr (k, M)) else some (.inl (nI (k + 1), M)) := by
    intro a h1 h2 h3
    unfold j_X7_of_63
    rw [w_len n M k (by omega)]
    simp only [bd]
    by_cases c1 : a = sLen.getD k 0
    · rw [if_pos (by rw [c1]), nI_add]
      by_cases c2 : p + a = q
      · rw [if_pos (by rw [c2]), if_pos (h3.mpr ⟨c1, c2⟩)]
        unfold j_X7_of_81
        rw [ck_pos (n_in (by omega) (by decide)), nI_clamp (by omega)]
        rfl
      · rw [if_neg (fun c => c2 ((nI_eq (by omega) (by omega)).mp c)), if_neg (fun c => c2 (h3.mp c).2)]
        unfold j_X7_of_87
        rw [nI_1]
    · rw [if_neg (fun c => c1 ((nI_eq (by omega) (by omega)).mp c)), if_neg (fun c => c1 (h3.mp c).1)]
      unfold j_X7_of_87
      rw [nI_1]
  intro m
  induction m with
  | zero =>
    intro a N hm hN h1 h2 h3
    obtain ⟨N, rfl⟩ : ∃ k, N = k + 1 := ⟨N - 1, by omega⟩
    have c1 : a = sLen.getD k 0 := by omega
    rw [gl_mr (o := j_X7_of_63 n (nI p) (nI q) (nI k) k (nI a) M) (by
      rw [b_X7_of_23]
      try simp only []
      rw [w_len n M k (by omega)]
      simp only [bd]
      rw [if_pos (nI_le (by omega) (by omega))])]
    refine hends a h1 h2 ⟨fun c => ⟨c1, ?_⟩, fun c => ?_⟩
    · have := congrArg List.length c
      rw [hw.1, slc_len] at this
      omega
    · apply List.ext_getElem?
      intro i
      by_cases ci : i < a
      · have hl : i < (wtab.getD k []).length := by omega
        rw [slc_get (by omega), ← h3 i ci]
        generalize wtab.getD k [] = w at hl
        rw [List.getD_eq_getElem?_getD, List.getElem?_eq_getElem hl]
        rfl
      · rw [List.getElem?_eq_none (by omega), List.getElem?_eq_none (by rw [slc_len]; omega)]
  | succ m ih =>
    intro a N hm hN h1 h2 h3
    obtain ⟨N, rfl⟩ : ∃ k, N = k + 1 := ⟨N - 1, by omega⟩
    by_cases c2 : q ≤ p + a
    · rw [gl_mr (o := j_X7_of_63 n (nI p) (nI q) (nI k) k (nI a) M) (by
        rw [b_X7_of_23]
        try simp only []
        rw [w_len n M k (by omega)]
        simp only [bd]
        rw [if_neg (nI_ge (by omega) (by omega)), nI_add, if_pos (nI_le (by omega) (by omega))])]
      refine hends a h1 h2 ⟨fun c => ?_, fun c => absurd c.1 (by omega)⟩
      have := congrArg List.length c
      rw [hw.1, slc_len] at this
      omega
    · have hbb := hf (p + a) (by omega) (by omega)
      have hbd : (if nI ((wtab.getD k []).getD a 0) = gi M 45 (p + a) then some (.inl (nI (a + 1), M)) else mr (j_X7_of_63 n (nI p) (nI q) (nI k) k (nI a) M)) = b_X7_of_23 n (nI p) (nI q) (nI k) k (nI a, M) := by
        rw [b_X7_of_23]
        try simp only []
        rw [w_len n M k (by omega)]
        simp only [bd]
        rw [if_neg (nI_ge (by omega) (by omega)), nI_add, if_neg (nI_ge (by omega) (by omega)), cCharAt n M hk (by omega)]
        simp only []
        rw [ck_pos (n_in (by omega) (by decide)), nI_clamp (by omega), nI_1]
      rw [hb _ (by omega), sb_l _ hbb] at hbd
      have hw128 := (w_chr k hk a (by omega) (by omega)).2.2
      by_cases c3 : (wtab.getD k []).getD a 0 = f (p + a)
      · rw [if_pos (by rw [c3])] at hbd
        rw [gl_inl hbd.symm]
        refine ih (a + 1) N (by omega) (by omega) (by omega) (by omega) (fun i hi => ?_)
        by_cases ci : i = a
        · subst ci; exact c3
        · exact h3 i (by omega)
      · rw [if_neg (fun c => c3 ((nI_eq (by omega) (by omega)).mp c))] at hbd
        rw [gl_mr hbd.symm]
        refine hends a h1 h2 ⟨fun c => absurd ?_ c3, fun c => absurd c.1 (by omega)⟩
        rw [c, List.getD_eq_getElem?_getD, slc_get (by omega)]
        rfl
theorem wfi_le (s : List Nat) : ∀ m, wfi s m ≤ 21
  | 0 => Nat.le_refl _
  | m + 1 => by
    rw [wfi]
    split
    · omega
    · exact wfi_le s m
theorem cOf (hn : 100 < n) (hb : ∀ i, i < e → gi M 45 i = sb (f i)) (hf : ∀ i, p ≤ i → i < q → f i < 128) (hp : p < q) (hq : q ≤ e) (he : e ≤ 700) : f_X7_of n (nI p) (nI q) M = some (wfi (slc f p (q - p)) 21, M) := by
  have hend : ∀ N, 2 < N → gl (b_X7_of_2 n (nI p) (nI q)) N (nI 21, M) = some (21, M) := by
    intro N hN
    obtain ⟨N, rfl⟩ : ∃ k, N = k + 2 := ⟨N - 2, by omega⟩
    obtain ⟨n, rfl⟩ : ∃ k, n = k + 1 := ⟨n - 1, by omega⟩
    rw [gl_inl (s' := (nI 22, M))]
    · exact gl_mr (o := some (21, M)) rfl
    · rw [b_X7_of_2]
      try simp only []
      rw [if_neg (show ¬ (22 : Int32) ≤ nI 21 from nI_ge (a := 21) (b := 22) (by decide) (by decide)), ck_pos (n_in (by decide) (by decide)), nI_clamp (by decide), gl_mr (o := some (.inl (nI 22, M)))]
      rw [b_X7_of_23]
      try simp only []
      rw [w_len _ M 21 (by decide)]
      simp only [bd]
      rw [if_pos (by decide)]
      unfold j_X7_of_63
      rw [w_len _ M 21 (by decide)]
      simp only [bd]
      rw [if_pos (show (0 : Int32) = nI (sLen.getD 21 0) from rfl), show nI p + (0 : Int32) = nI p from nI_add p 0, if_neg (fun c => absurd ((nI_eq (by omega) (by omega)).mp c) (by omega))]
      rfl
  have key : ∀ m N, m + 2 < N → m ≤ 21 → gl (b_X7_of_2 n (nI p) (nI q)) N (nI (21 - m), M) = some (wfi (slc f p (q - p)) m, M) := by
    intro m
    induction m with
    | zero => intro N hN _; exact hend N (by omega)
    | succ m ih =>
      intro N hN hm
      obtain ⟨N, rfl⟩ : ∃ k, N = k + 1 := ⟨N - 1, by omega⟩
      have hw := w_tab (21 - (m + 1)) (by omega)
      have hbd : b_X7_of_2 n (nI p) (nI q) (nI (21 - (m + 1)), M) = if wtab.getD (21 - (m + 1)) [] = slc f p (q - p) then some (.inr (21 - (m + 1), M)) else some (.inl (nI (21 - (m + 1) + 1), M)) := by
        rw [b_X7_of_2]
        try simp only []
        rw [if_neg (show ¬ (22 : Int32) ≤ nI (21 - (m + 1)) from nI_ge (b := 22) (by omega) (by decide)), ck_pos (n_in (by omega) (by decide)), nI_clamp (by omega)]
        exact cSame hb hf hq he (by omega) _ 0 n rfl (by omega) (by omega) (by omega) (fun i hi => absurd hi (by omega))
      rw [wfi]
      by_cases c : wtab.getD (21 - (m + 1)) [] = slc f p (q - p)
      · rw [if_pos c] at hbd ⊢
        rw [gl, hbd]
      · rw [if_neg c] at hbd ⊢
        rw [gl_inl hbd, show 21 - (m + 1) + 1 = 21 - m by omega]
        exact ih N (by omega) (by omega)
  unfold f_X7_of
  exact key 21 n (by omega) (by omega)
theorem dvl_lt {m : Nat} (h : ∀ i, i < m → 48 ≤ f (p + i) ∧ f (p + i) ≤ 57) : dvl f p m < 10 ^ m := by
  induction m with
  | zero => exact Nat.one_pos
  | succ m ih =>
    have h1 := ih (fun i hi => h i (by omega))
    have h2 := h m (by omega)
    rw [dvl, Nat.pow_succ]
    omega
theorem nI_dig {a b : Nat} (hb : 48 ≤ b) : nI a * (10 : Int32) + nI b - (48 : Int32) = nI (a * 10 + (b - 48)) := by
  have h1 : nI a * (10 : Int32) = nI (a * 10) := by
    show nI a * nI 10 = _
    exact (Int32.ofNat_mul a 10).symm
  have h2 : a * 10 + b = a * 10 + (b - 48) + 48 := by omega
  rw [h1, nI_add, h2, ← nI_add]
  show _ + (48 : Int32) - 48 = _
  rw [Int32.add_sub_cancel]
theorem cDigits (hn : 10 < n) (hb : ∀ i, i < e → gi M 45 i = sb (f i)) (hf : ∀ i, p ≤ i → i < q → kd (f i) = 2) (hp : gi M 44 5 = nI p) (hq : gi M 44 6 = nI q) (hpq : p < q) (hqe : q ≤ e) (he : e ≤ 700) : f_X2_valueOfDigits n M = some (nI (dvl f p (min 4 (q - p))), M) := by
  obtain ⟨a, m, ha, em⟩ := gl_k (body := b_X2_valueOfDigits_7 n) (fun k (a : Int32) => (a, nI (p + k), M)) (min 4 (q - p)) (fun k a => a = nI (dvl f p k)) (fun k a hk ha => by
    have hd := kd_2.mp (hf (p + k) (by omega) (by omega))
    refine ⟨nI (dvl f p (k + 1)), ?_, rfl⟩
    rw [b_X2_valueOfDigits_7]
    try simp only []
    rw [hq, if_neg (nI_ge (by omega) (by omega)), hp, show nI p + (4 : Int32) = nI (p + 4) from nI_add p 4, if_neg (nI_ge (by omega) (by omega)), ck_pos (n_in (by omega) (by decide)), nI_clamp (by omega), hb _ (by omega), sb_l _ (by omega), ha, nI_dig hd.1, nI_1]
    rfl) n 0 0 (by omega) (by omega) rfl
  unfold f_X2_valueOfDigits
  rw [hp]
  refine Eq.trans em ?_
  refine gl_mr ?_
  rw [b_X2_valueOfDigits_7]
  try simp only []
  rw [hq, hp, show nI p + (4 : Int32) = nI (p + 4) from nI_add p 4, ha]
  by_cases c : q ≤ p + min 4 (q - p)
  · rw [if_pos (nI_le c (by omega))]
  · rw [if_neg (nI_ge (by omega) (by omega)), if_pos (nI_le (by omega) (by omega))]
end W
