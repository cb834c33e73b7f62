/-! The reference reads a token. -/
theorem lN_shl {a : Nat} : (lN a) <<< ((5 : Int32).toInt64 &&& 63) = lN (a * 32) := by
  apply Int64.toBitVec_inj.mp
  have e : ((lN a) <<< ((5 : Int32).toInt64 &&& 63)).toBitVec = (BitVec.ofNat 64 a) <<< 5 := Int64.toBitVec_shiftLeft _ _
  rw [e]
  apply BitVec.eq_of_toNat_eq
  show _ = (BitVec.ofNat 64 (a * 32)).toNat
  rw [BitVec.toNat_shiftLeft, BitVec.toNat_ofNat, BitVec.toNat_ofNat, Nat.shiftLeft_eq]
  omega
theorem lN_pk {a b : Nat} (hb : b < 32) : ((lN a) <<< ((5 : Int32).toInt64 &&& 63)) ||| lN b = lN (a * 32 + b) := by
  rw [lN_shl, lN_or]
  congr 1
  rw [show a * 32 = a <<< 5 from (Nat.shiftLeft_eq a 5).symm, Nat.shiftLeft_add_eq_or_of_lt (i := 5) hb]
theorem lN_inj {a b : Nat} (ha : a < 2 ^ 63) (hb : b < 2 ^ 63) (h : lN a = lN b) : a = b := by
  have := congrArg (fun x => x.toBitVec.toNat) h
  have h2 : (BitVec.ofNat 64 a).toNat = (BitVec.ofNat 64 b).toNat := this
  rw [BitVec.toNat_ofNat, BitVec.toNat_ofNat] at h2
  omega
theorem lN_ch : ∀ b, b < 123 → 96 < b → (nI b - (96 : Int32)).toInt64 = lN (b - 96) := by decide +kernel
def pkr : List Nat → Nat
  | [] => 0
  | b :: l => pkr l * 32 + (b - 96)
def lett (s : List Nat) : Prop := ∀ b, b ∈ s → 97 ≤ b ∧ b ≤ 122
theorem pkr_inj : ∀ (s t : List Nat), lett s → lett t → pkr s = pkr t → s = t
  | [], [], _, _, _ => rfl
  | b :: s, [], h1, _, h => by
    have := h1 b (List.mem_cons_self ..)
    unfold pkr at h
    omega
  | [], b :: s, _, h1, h => by
    have := h1 b (List.mem_cons_self ..)
    unfold pkr at h
    omega
  | a :: s, b :: t, h1, h2, h => by
    have c1 := h1 a (List.mem_cons_self ..)
    have c2 := h2 b (List.mem_cons_self ..)
    have h' : pkr s * 32 + (a - 96) = pkr t * 32 + (b - 96) := h
    have := pkr_inj s t (fun x hx => h1 x (List.mem_cons_of_mem _ hx)) (fun x hx => h2 x (List.mem_cons_of_mem _ hx)) (by omega)
    rw [this, show a = b by omega]
theorem pkr_lt : ∀ (s : List Nat), lett s → pkr s < 32 ^ s.length
  | [], _ => by decide
  | b :: s, h => by
    have := pkr_lt s (fun x hx => h x (List.mem_cons_of_mem _ hx))
    have c := h b (List.mem_cons_self ..)
    rw [pkr, List.length_cons, Nat.pow_succ]
    omega
def pk (s : List Nat) : Nat := pkr s.reverse
theorem pk_inj {s t : List Nat} (h1 : lett s) (h2 : lett t) (h : pk s = pk t) : s = t := by
  have := pkr_inj s.reverse t.reverse (fun b hb => h1 b (List.mem_reverse.mp hb)) (fun b hb => h2 b (List.mem_reverse.mp hb)) h
  simpa using this
theorem pkw_lt {s : List Nat} (h1 : lett s) (h : s.length ≤ 8) : pk s < 2 ^ 63 := by
  have := pkr_lt s.reverse (fun b hb => h1 b (List.mem_reverse.mp hb))
  rw [List.length_reverse] at this
  have h3 : 32 ^ s.length ≤ 32 ^ 8 := Nat.pow_le_pow_right (by decide) h
  have h4 : (32 : Nat) ^ 8 < 2 ^ 63 := by decide
  exact Nat.lt_of_lt_of_le this (Nat.le_of_lt (Nat.lt_of_le_of_lt h3 h4))
theorem slc_s {f : Nat → Nat} {p m : Nat} : slc f p (m + 1) = slc f p m ++ [f (p + m)] := by
  unfold slc
  rw [List.range_succ, List.map_append]
  rfl
theorem pk_s {f : Nat → Nat} {p m : Nat} : pk (slc f p (m + 1)) = pk (slc f p m) * 32 + (f (p + m) - 96) := by
  unfold pk
  rw [slc_s, List.reverse_append]
  rfl
def VTk (t k : Nat) : Prop := t = 0 ∧ 16 ≤ k ∧ k ≤ 22
def bt (f : Nat → Nat) (e q : Nat) : Nat := if q < e then f q else 0
def TkM (f : Nat → Nat) (e : Nat) (T : Tok) (M : Mem) : Prop := (gi M 0 15 = nI e) ∧ (∀ q, q < e → gi M 3 q = nI (f q)) ∧ (gi M 0 18 = nI T.p) ∧ (gi M 0 16 = nI T.nx) ∧ (gi M 0 17 = nI T.k) ∧ (gi M 0 19 = nI (T.nx - T.p)) ∧ (T.k = 2 → gi M 0 20 = nI T.v) ∧ (T.k = 3 → gi M 0 21 = nI T.v) ∧ (T.k = 1 → T.nx - T.p ≤ 8 → gj M 0 22 = lN (pk (slc f T.p (T.nx - T.p))))
theorem TkM.m_e {f : Nat → Nat} {e : Nat} {T : Tok} {M : Mem} (h : TkM f e T M) : gi M 0 15 = nI e := h.1
theorem TkM.m_b {f : Nat → Nat} {e : Nat} {T : Tok} {M : Mem} (h : TkM f e T M) : ∀ q, q < e → gi M 3 q = nI (f q) := h.2.1
theorem TkM.m_p {f : Nat → Nat} {e : Nat} {T : Tok} {M : Mem} (h : TkM f e T M) : gi M 0 18 = nI T.p := h.2.2.1
theorem TkM.m_n {f : Nat → Nat} {e : Nat} {T : Tok} {M : Mem} (h : TkM f e T M) : gi M 0 16 = nI T.nx := h.2.2.2.1
theorem TkM.m_k {f : Nat → Nat} {e : Nat} {T : Tok} {M : Mem} (h : TkM f e T M) : gi M 0 17 = nI T.k := h.2.2.2.2.1
theorem TkM.m_l {f : Nat → Nat} {e : Nat} {T : Tok} {M : Mem} (h : TkM f e T M) : gi M 0 19 = nI (T.nx - T.p) := h.2.2.2.2.2.1
theorem TkM.m_d {f : Nat → Nat} {e : Nat} {T : Tok} {M : Mem} (h : TkM f e T M) : T.k = 2 → gi M 0 20 = nI T.v := h.2.2.2.2.2.2.1
theorem TkM.m_s {f : Nat → Nat} {e : Nat} {T : Tok} {M : Mem} (h : TkM f e T M) : T.k = 3 → gi M 0 21 = nI T.v := h.2.2.2.2.2.2.2.1
theorem TkM.m_w {f : Nat → Nat} {e : Nat} {T : Tok} {M : Mem} (h : TkM f e T M) : T.k = 1 → T.nx - T.p ≤ 8 → gj M 0 22 = lN (pk (slc f T.p (T.nx - T.p))) := h.2.2.2.2.2.2.2.2
section S
variable {f : Nat → Nat} {e p n : Nat} {M : Mem} {T : Tok}
theorem TkM.st (h : TkM f e T M) {t k : Nat} (h1 : ¬ (t = 0 ∧ 15 ≤ k ∧ k ≤ 22)) (h3 : ¬ t = 3) (x : Int32) : TkM f e T (si M t k x) := by
  have g : ∀ q, 15 ≤ q → q ≤ 22 → gi (si M t k x) 0 q = gi M 0 q := fun q a b => by rw [gi_si, if_neg (by omega)]
  refine ⟨(g _ (by decide) (by decide)).trans h.m_e, fun q hq => ?_, (g _ (by decide) (by decide)).trans h.m_p, (g _ (by decide) (by decide)).trans h.m_n, (g _ (by decide) (by decide)).trans h.m_k, (g _ (by decide) (by decide)).trans h.m_l, fun c => (g _ (by decide) (by decide)).trans (h.m_d c), fun c => (g _ (by decide) (by decide)).trans (h.m_s c), fun c d => h.m_w c d⟩
  rw [gi_si, if_neg (by omega)]
  exact h.m_b q hq
theorem mByte (he : e ≤ 700) (h1 : gi M 0 15 = nI e) (hb : ∀ i, i < e → gi M 3 i = nI (f i)) {q : Nat} (hq : q ≤ 700) : f_X9_byteAt n (nI q) M = some (nI (bt f e q), M) := by
  unfold f_X9_byteAt bt
  rw [h1]
  by_cases c : e ≤ q
  · rw [if_pos (nI_le c (by omega)), if_neg (by omega)]
    rfl
  · rw [if_neg (nI_ge (by omega) (by omega)), ck_pos (n_in (by omega) (by decide)), nI_clamp (by omega), hb q (by omega), if_pos (by omega)]
theorem isL : ∀ b, b < 256 → (nI b < (97 : Int32) ↔ b < 97) ∧ ((122 : Int32) < nI b ↔ 122 < b) ∧ (nI b < (48 : Int32) ↔ b < 48) ∧ ((57 : Int32) < nI b ↔ 57 < b) := by decide +kernel
theorem mLetter {b : Nat} (hb : b < 256) : f_X9_isLetter n (nI b) M = some (if kd b = 1 then 1 else 0, M) := by
  obtain ⟨a1, a2, a3, a4⟩ := isL b hb
  unfold f_X9_isLetter
  by_cases c : kd b = 1
  · have := kd_1.mp c
    rw [if_neg (fun q => absurd (a1.mp q) (by omega)), if_neg (fun q => absurd (a2.mp q) (by omega)), if_pos c]
  · rw [if_neg c]
    by_cases c1 : b < 97
    · rw [if_pos (a1.mpr c1)]
    · rw [if_neg (fun q => c1 (a1.mp q)), if_pos (a2.mpr (Nat.lt_of_not_le (fun q => c (kd_1.mpr ⟨by omega, q⟩))))]
theorem mDigit {b : Nat} (hb : b < 256) : f_X9_isDigit n (nI b) M = some (if kd b = 2 then 1 else 0, M) := by
  obtain ⟨a1, a2, a3, a4⟩ := isL b hb
  unfold f_X9_isDigit
  by_cases c : kd b = 2
  · have := kd_2.mp c
    rw [if_neg (fun q => absurd (a3.mp q) (by omega)), if_neg (fun q => absurd (a4.mp q) (by omega)), if_pos c]
  · rw [if_neg c]
    by_cases c1 : b < 48
    · rw [if_pos (a3.mpr c1)]
    · rw [if_neg (fun q => c1 (a3.mp q)), if_pos (a4.mpr (Nat.lt_of_not_le (fun q => c (kd_2.mpr ⟨by omega, q⟩))))]
theorem bt_lt (hf : ∀ q, f q < 256) (q : Nat) : bt f e q < 256 := by
  unfold bt
  split
  · exact hf q
  · decide
theorem nI_32 {b : Nat} (hb : b < 256) : (nI b = (32 : Int32) ↔ b = 32) ∧ (nI b = (10 : Int32) ↔ b = 10) :=
  ⟨nI_eq (b := 32) (by omega) (by decide), nI_eq (b := 10) (by omega) (by decide)⟩
theorem mSkip (hx : LexR f e p T) (he : e ≤ 700) (hf : ∀ q, f q < 256) : ∀ (m q N : Nat) (M : Mem), T.p - q = m → p ≤ q → q ≤ T.p → m < N → gi M 0 15 = nI e → (∀ i, i < e → gi M 3 i = nI (f i)) → gi M 0 16 = nI q →
    ∃ M', gl (b_X9_goes_0 n) N M = j_X9_goes_50 n M' ∧ gi M' 0 16 = nI T.p ∧ kq VTk M M' := by
  have hpe := hx.x_p
  intro m
  induction m with
  | zero =>
    intro q N M hm h1 h2 hN h4 hb h5
    obtain ⟨N, rfl⟩ : ∃ k, N = k + 1 := ⟨N - 1, by omega⟩
    have hq : q = T.p := by omega
    subst hq
    refine ⟨M, gl_mr ?_, h5, kq.rf⟩
    rw [b_X9_goes_0]
    try dsimp only []
    rw [h4, h5]
    by_cases c : e ≤ T.p
    · rw [if_pos (nI_le c (by omega))]
    · have hn := hx.x_n (by omega)
      have eb : bt f e T.p = f T.p := if_pos (by omega)
      rw [if_neg (nI_ge (by omega) (by omega)), mByte he h4 hb (by omega), eb]
      dsimp only [bd]
      rw [if_neg (fun c => hn.1 ((nI_32 (hf _)).1.mp c)), h5, mByte he h4 hb (by omega), eb]
      try dsimp only []
      rw [if_neg (fun c => hn.2 ((nI_32 (hf _)).2.mp c))]
  | succ m ih =>
    intro q N M hm h1 h2 hN h4 hb h5
    obtain ⟨N, rfl⟩ : ∃ k, N = k + 1 := ⟨N - 1, by omega⟩
    have hq := hx.x_b q h1 (by omega)
    have eb : bt f e q = f q := if_pos (by omega)
    have e1 : b_X9_goes_0 n M = some (.inl (si M 0 16 (nI (q + 1)))) := by
      have e47 : j_X9_goes_37 n M = some (.inl (si M 0 16 (nI (q + 1)))) := by
        unfold j_X9_goes_37
        rw [h5, nI_1]
      rw [b_X9_goes_0]
      try dsimp only []
      rw [h4, h5, if_neg (nI_ge (by omega) (by omega)), mByte he h4 hb (by omega), eb]
      dsimp only [bd]
      rw [e47]
      rcases hq with hq | hq
      · rw [if_pos ((nI_32 (hf _)).1.mpr hq)]
      · rw [if_neg (fun c => absurd ((nI_32 (hf _)).1.mp c) (by omega)), h5, mByte he h4 hb (by omega), eb]
        try dsimp only []
        rw [if_pos ((nI_32 (hf _)).2.mpr hq), e47]
    have k1 : kq VTk M (si M 0 16 (nI (q + 1))) := kq.rf.si (by unfold VTk; omega) _
    obtain ⟨M', a1, a2, a3⟩ := ih (q + 1) N (si M 0 16 (nI (q + 1))) (by omega) (by omega) (by omega) (by omega) (by rw [k1 _ _ (by unfold VTk; omega)]; exact h4) (fun i hi => by rw [k1 _ _ (by unfold VTk; omega)]; exact hb i hi) (by rw [gi_si, if_pos ⟨rfl, rfl⟩])
    exact ⟨M', by rw [gl_inl e1, a1], a2, k1.tr a3⟩
theorem bt_nx (hx : LexR f e p T) (hpe : T.p < e) (hk : T.k = 1 ∨ T.k = 2) : ¬ kd (bt f e T.nx) = T.k := by
  unfold bt
  by_cases c : T.nx < e
  · rw [if_pos c]
    exact (hx.x_r hpe hk).2 c
  · rw [if_neg c, show kd 0 = 4 from rfl]
    omega
theorem mWordL (hx : LexR f e p T) (he : e ≤ 700) (hf : ∀ q, f q < 256) (hpe : T.p < e) (hk : T.k = 1) : ∀ (m q N : Nat) (M : Mem), T.nx - q = m → T.p ≤ q → q ≤ T.nx → m < N → gi M 0 15 = nI e → (∀ i, i < e → gi M 3 i = nI (f i)) → gi M 0 16 = nI q → gi M 0 18 = nI T.p → gj M 0 22 = lN (pk (slc f T.p (min 8 (q - T.p)))) →
    ∃ M', gl (b_X9_goes_108 n) N M = j_X9_goes_172 n M' ∧ gi M' 0 16 = nI T.nx ∧ gj M' 0 22 = lN (pk (slc f T.p (min 8 (T.nx - T.p)))) ∧ kq (fun t k => t = 0 ∧ k = 16) M M' := by
  obtain ⟨hr1, hr2⟩ := hx.x_r hpe (Or.inl hk)
  have h1' := hx.x_1 hpe
  intro m
  induction m with
  | zero =>
    intro q N M hm h1 h2 hN h4 hb h6 h7 h8
    obtain ⟨N, rfl⟩ : ∃ k, N = k + 1 := ⟨N - 1, by omega⟩
    have hq : q = T.nx := by omega
    subst hq
    refine ⟨M, gl_mr ?_, h6, h8, kq.rf⟩
    rw [b_X9_goes_108]
    try dsimp only []
    have := bt_nx hx hpe (Or.inl hk)
    rw [hk] at this
    rw [h6, mByte he h4 hb (by omega)]
    dsimp only [bd]
    rw [mLetter (bt_lt hf _), if_neg this]
    try dsimp only []
    rw [if_pos (show (0 : Int32) = 0 from rfl)]
  | succ m ih =>
    intro q N M hm h1 h2 hN h4 hb h6 h7 h8
    obtain ⟨N, rfl⟩ : ∃ k, N = k + 1 := ⟨N - 1, by omega⟩
    have hq := hr1 q h1 (by omega)
    rw [hk] at hq
    have hq' := kd_1.mp hq
    have eb : bt f e q = f q := if_pos (by omega)
    obtain ⟨M1, hM1, e1⟩ : ∃ M1, (gj M1 0 22 = lN (pk (slc f T.p (min 8 (q + 1 - T.p)))) ∧ gi M1 0 16 = nI (q + 1) ∧ kq (fun t k => t = 0 ∧ k = 16) M M1) ∧ b_X9_goes_108 n M = some (.inl M1) := by
      rw [b_X9_goes_108]
      try dsimp only []
      rw [h6, mByte he h4 hb (by omega), eb]
      dsimp only [bd]
      rw [mLetter (hf _), if_pos hq]
      try dsimp only []
      rw [if_neg (show ¬ (1 : Int32) = 0 by decide), h6, h7, nI_sub h1]
      by_cases c : 8 ≤ q - T.p
      · rw [if_pos (show (8 : Int32) ≤ nI (q - T.p) from nI_le (a := 8) c (by omega))]
        unfold j_X9_goes_159
        rw [h6, nI_1]
        refine ⟨_, ⟨?_, by rw [gi_si, if_pos ⟨rfl, rfl⟩], kq.rf.si (by omega) _⟩, rfl⟩
        rw [gj_si, h8]
        congr 3
        omega
      · rw [if_neg (show ¬ (8 : Int32) ≤ nI (q - T.p) from nI_ge (b := 8) (by omega) (by decide)), mByte he h4 hb (by omega), eb]
        try dsimp only []
        rw [h8, lN_ch _ (by omega) (by omega), lN_pk (by omega)]
        unfold j_X9_goes_159
        rw [gi_sj, h6, nI_1]
        refine ⟨_, ⟨?_, by rw [gi_si, if_pos ⟨rfl, rfl⟩], (kq.rf.sj _ _ _).si (by omega) _⟩, rfl⟩
        rw [gj_si, gj_sj, if_pos ⟨rfl, rfl⟩]
        have z1 : min 8 (q + 1 - T.p) = min 8 (q - T.p) + 1 := by omega
        have z2 : T.p + min 8 (q - T.p) = q := by omega
        rw [z1, pk_s, z2]
    obtain ⟨b1, b2, k1⟩ := hM1
    obtain ⟨M', a1, a2, a3, a4⟩ := ih (q + 1) N M1 (by omega) (by omega) (by omega) (by omega) (by rw [k1 _ _ (by omega)]; exact h4) (fun i hi => by rw [k1 _ _ (by omega)]; exact hb i hi) b2 (by rw [k1 _ _ (by omega)]; exact h7) b1
    exact ⟨M', by rw [gl_inl e1, a1], a2, a3, k1.tr a4⟩
theorem mNumL (hx : LexR f e p T) (he : e ≤ 700) (hf : ∀ q, f q < 256) (hpe : T.p < e) (hk : T.k = 2) : ∀ (m q N : Nat) (M : Mem), T.nx - q = m → T.p ≤ q → q ≤ T.nx → m < N → gi M 0 15 = nI e → (∀ i, i < e → gi M 3 i = nI (f i)) → gi M 0 16 = nI q → gi M 0 18 = nI T.p → gi M 0 20 = nI (dvl f T.p (min 4 (q - T.p))) →
    ∃ M', gl (b_X9_goes_187 n) N M = j_X9_goes_250 n M' ∧ gi M' 0 16 = nI T.nx ∧ gi M' 0 20 = nI (dvl f T.p (min 4 (T.nx - T.p))) ∧ kq (fun t k => t = 0 ∧ (k = 16 ∨ k = 20)) M M' := by
  obtain ⟨hr1, hr2⟩ := hx.x_r hpe (Or.inr hk)
  have h1' := hx.x_1 hpe
  intro m
  induction m with
  | zero =>
    intro q N M hm h1 h2 hN h4 hb h6 h7 h8
    obtain ⟨N, rfl⟩ : ∃ k, N = k + 1 := ⟨N - 1, by omega⟩
    have hq : q = T.nx := by omega
    subst hq
    refine ⟨M, gl_mr ?_, h6, h8, kq.rf⟩
    rw [b_X9_goes_187]
    try dsimp only []
    have := bt_nx hx hpe (Or.inr hk)
    rw [hk] at this
    rw [h6, mByte he h4 hb (by omega)]
    dsimp only [bd]
    rw [mDigit (bt_lt hf _), if_neg this]
    try dsimp only []
    rw [if_pos (show (0 : Int32) = 0 from rfl)]
  | succ m ih =>
    intro q N M hm h1 h2 hN h4 hb h6 h7 h8
    obtain ⟨N, rfl⟩ : ∃ k, N = k + 1 := ⟨N - 1, by omega⟩
    have hq := hr1 q h1 (by omega)
    rw [hk] at hq
    have hq' := kd_2.mp hq
    have eb : bt f e q = f q := if_pos (by omega)
    obtain ⟨M1, hM1, e1⟩ : ∃ M1, (gi M1 0 20 = nI (dvl f T.p (min 4 (q + 1 - T.p))) ∧ gi M1 0 16 = nI (q + 1) ∧ kq (fun t k => t = 0 ∧ (k = 16 ∨ k = 20)) M M1) ∧ b_X9_goes_187 n M = some (.inl M1) := by
      rw [b_X9_goes_187]
      try dsimp only []
      rw [h6, mByte he h4 hb (by omega), eb]
      dsimp only [bd]
      rw [mDigit (hf _), if_pos hq]
      try dsimp only []
      rw [if_neg (show ¬ (1 : Int32) = 0 by decide), h6, h7, nI_sub h1]
      by_cases c : 4 ≤ q - T.p
      · rw [if_pos (show (4 : Int32) ≤ nI (q - T.p) from nI_le (a := 4) c (by omega))]
        unfold j_X9_goes_237
        rw [h6, nI_1]
        refine ⟨_, ⟨?_, by rw [gi_si, if_pos ⟨rfl, rfl⟩], kq.rf.si (by omega) _⟩, rfl⟩
        rw [gi_si, if_neg (by omega), h8]
        congr 2
        omega
      · rw [if_neg (show ¬ (4 : Int32) ≤ nI (q - T.p) from nI_ge (b := 4) (by omega) (by decide)), mByte he h4 hb (by omega), eb]
        try dsimp only []
        rw [h8, Int32.mul_comm, nI_dig hq'.1]
        unfold j_X9_goes_237
        rw [gi_si, if_neg (by omega), h6, nI_1]
        refine ⟨_, ⟨?_, by rw [gi_si, if_pos ⟨rfl, rfl⟩], (kq.rf.si (by omega) _).si (by omega) _⟩, rfl⟩
        rw [gi_si, if_neg (by omega), gi_si, if_pos ⟨rfl, rfl⟩]
        have z1 : min 4 (q + 1 - T.p) = min 4 (q - T.p) + 1 := by omega
        have z2 : T.p + min 4 (q - T.p) = q := by omega
        rw [z1, dvl, z2]
    obtain ⟨b1, b2, k1⟩ := hM1
    obtain ⟨M', a1, a2, a3, a4⟩ := ih (q + 1) N M1 (by omega) (by omega) (by omega) (by omega) (by rw [k1 _ _ (by omega)]; exact h4) (fun i hi => by rw [k1 _ _ (by omega)]; exact hb i hi) b2 (by rw [k1 _ _ (by omega)]; exact h7) b1
    exact ⟨M', by rw [gl_inl e1, a1], a2, a3, k1.tr a4⟩
theorem kd_3 {b : Nat} : (kd b = 3 → b = 59 ∨ b = 40 ∨ b = 41 ∨ b = 43 ∨ b = 45 ∨ b = 42 ∨ b = 47 ∨ b = 60 ∨ b = 61) ∧ (b = 59 ∨ b = 40 ∨ b = 41 ∨ b = 43 ∨ b = 45 ∨ b = 42 ∨ b = 47 ∨ b = 60 ∨ b = 61 → kd b = 3) := by
  unfold kd
  constructor
  · intro h
    split at h
    · omega
    · split at h
      · omega
      · split at h
        · assumption
        · omega
  · intro h
    rw [if_neg (by omega), if_neg (by omega), if_pos h]
theorem mSigns {b k : Nat} (hb : b < 256) (h1 : ¬ kd b = 1) (h2 : ¬ kd b = 2) (hk : k = kd b) (M : Mem) : (if nI b = (59 : Int32) then j_X9_goes_323 n M else if nI b = (40 : Int32) then j_X9_goes_323 n M else if nI b = (41 : Int32) then j_X9_goes_323 n M else if nI b = (43 : Int32) then j_X9_goes_323 n M else if nI b = (45 : Int32) then j_X9_goes_323 n M else if nI b = (42 : Int32) then j_X9_goes_323 n M else if nI b = (47 : Int32) then j_X9_goes_323 n M else if nI b = (60 : Int32) then j_X9_goes_323 n M else if nI b = (61 : Int32) then j_X9_goes_323 n M else j_X9_goes_328 n 4 M) = j_X9_goes_331 n (si M 0 17 (nI k)) := by
  have q59 : nI b = (59 : Int32) ↔ b = 59 := nI_eq (b := 59) (by omega) (by decide)
  have q40 : nI b = (40 : Int32) ↔ b = 40 := nI_eq (b := 40) (by omega) (by decide)
  have q41 : nI b = (41 : Int32) ↔ b = 41 := nI_eq (b := 41) (by omega) (by decide)
  have q43 : nI b = (43 : Int32) ↔ b = 43 := nI_eq (b := 43) (by omega) (by decide)
  have q45 : nI b = (45 : Int32) ↔ b = 45 := nI_eq (b := 45) (by omega) (by decide)
  have q42 : nI b = (42 : Int32) ↔ b = 42 := nI_eq (b := 42) (by omega) (by decide)
  have q47 : nI b = (47 : Int32) ↔ b = 47 := nI_eq (b := 47) (by omega) (by decide)
  have q60 : nI b = (60 : Int32) ↔ b = 60 := nI_eq (b := 60) (by omega) (by decide)
  have q61 : nI b = (61 : Int32) ↔ b = 61 := nI_eq (b := 61) (by omega) (by decide)
  have e3 : k = 3 → j_X9_goes_323 n M = j_X9_goes_331 n (si M 0 17 (nI k)) := fun c => by rw [c]; rfl
  have e4 : k = 4 → j_X9_goes_328 n 4 M = j_X9_goes_331 n (si M 0 17 (nI k)) := fun c => by rw [c]; rfl
  have hk4 := kd_ne b
  by_cases c : kd b = 3
  · rw [e3 (hk.trans c)]
    have := kd_3.1 c
    by_cases a1 : b = 59
    · rw [if_pos (q59.mpr a1)]
    rw [if_neg (fun x => a1 (q59.mp x))]
    by_cases a2 : b = 40
    · rw [if_pos (q40.mpr a2)]
    rw [if_neg (fun x => a2 (q40.mp x))]
    by_cases a3 : b = 41
    · rw [if_pos (q41.mpr a3)]
    rw [if_neg (fun x => a3 (q41.mp x))]
    by_cases a4 : b = 43
    · rw [if_pos (q43.mpr a4)]
    rw [if_neg (fun x => a4 (q43.mp x))]
    by_cases a5 : b = 45
    · rw [if_pos (q45.mpr a5)]
    rw [if_neg (fun x => a5 (q45.mp x))]
    by_cases a6 : b = 42
    · rw [if_pos (q42.mpr a6)]
    rw [if_neg (fun x => a6 (q42.mp x))]
    by_cases a7 : b = 47
    · rw [if_pos (q47.mpr a7)]
    rw [if_neg (fun x => a7 (q47.mp x))]
    by_cases a8 : b = 60
    · rw [if_pos (q60.mpr a8)]
    rw [if_neg (fun x => a8 (q60.mp x)), if_pos (q61.mpr (by omega))]
  · have c4 : kd b = 4 := by omega
    have m : ¬ (b = 59 ∨ b = 40 ∨ b = 41 ∨ b = 43 ∨ b = 45 ∨ b = 42 ∨ b = 47 ∨ b = 60 ∨ b = 61) := fun x => c (kd_3.2 x)
    rw [e4 (hk.trans c4), if_neg (fun x => m (by have := q59.mp x; omega)), if_neg (fun x => m (by have := q40.mp x; omega)), if_neg (fun x => m (by have := q41.mp x; omega)), if_neg (fun x => m (by have := q43.mp x; omega)), if_neg (fun x => m (by have := q45.mp x; omega)), if_neg (fun x => m (by have := q42.mp x; omega)), if_neg (fun x => m (by have := q47.mp x; omega)), if_neg (fun x => m (by have := q60.mp x; omega)), if_neg (fun x => m (by have := q61.mp x; omega))]
/-- the end of a token -/
theorem m331 (h4 : gi M 0 15 = nI e) (hb : ∀ i, i < e → gi M 3 i = nI (f i)) (hle : T.p ≤ T.nx) (h6 : gi M 0 16 = nI T.nx) (h8 : gi M 0 18 = nI T.p) (hd : T.k = 2 → gi M 0 20 = nI T.v) (hs : T.k = 3 → gi M 0 21 = nI T.v) (hw : T.k = 1 → T.nx - T.p ≤ 8 → gj M 0 22 = lN (pk (slc f T.p (T.nx - T.p)))) : ∃ M', j_X9_goes_331 n (si M 0 17 (nI T.k)) = some M' ∧ TkM f e T M' ∧ kq VTk M M' := by
  unfold j_X9_goes_331
  have g : ∀ q x y, q ≠ 17 → q ≠ 19 → gi (si (si M 0 17 x) 0 19 y) 0 q = gi M 0 q := fun q x y a b => by rw [gi_si, if_neg (by omega), gi_si, if_neg (by omega)]
  rw [gi_si, if_neg (by decide), gi_si, if_neg (by decide), h6, h8, nI_sub hle]
  refine ⟨_, rfl, ⟨(g _ _ _ (by decide) (by decide)).trans h4, fun q hq => ?_, (g _ _ _ (by decide) (by decide)).trans h8, (g _ _ _ (by decide) (by decide)).trans h6, ?_, ?_, fun c => (g _ _ _ (by decide) (by decide)).trans (hd c), fun c => (g _ _ _ (by decide) (by decide)).trans (hs c), fun c d => (hw c d)⟩, (kq.rf.si (by unfold VTk; omega) _).si (by unfold VTk; omega) _⟩
  · rw [gi_si, if_neg (by omega), gi_si, if_neg (by omega)]
    exact hb q hq
  · rw [gi_si, if_neg (by decide), gi_si, if_pos ⟨rfl, rfl⟩]
  · rw [gi_si, if_pos ⟨rfl, rfl⟩]
theorem mStep (hx : LexR f e p T) (he : e ≤ 700) (hf : ∀ q, f q < 256) (hn : 800 < n) (h4 : gi M 0 15 = nI e) (hb : ∀ i, i < e → gi M 3 i = nI (f i)) (h6 : gi M 0 16 = nI p) : ∃ M', f_X9_goes n M = some M' ∧ TkM f e T M' ∧ kq VTk M M' := by
  have hpe := hx.x_p
  obtain ⟨M0, a1, a2, a3⟩ := mSkip (n := n) hx he hf (T.p - p) p n M rfl (Nat.le_refl _) hpe.1 (by omega) h4 hb h6
  unfold f_X9_goes
  rw [a1]
  have b4 : gi M0 0 15 = nI e := (a3 _ _ (by unfold VTk; omega)).trans h4
  have bb : ∀ i, i < e → gi M0 3 i = nI (f i) := fun i hi => (a3 _ _ (by unfold VTk; omega)).trans (hb i hi)
  obtain ⟨M1, hM1⟩ : ∃ M1, M1 = si (sj (si M0 0 18 (nI T.p)) 0 22 (0 : Int64)) 0 20 (0 : Int32) := ⟨_, rfl⟩
  obtain ⟨M2, hM2⟩ : ∃ M2, M2 = si M1 0 21 (nI (bt f e T.p)) := ⟨_, rfl⟩
  have k1 : kq VTk M0 M1 := by rw [hM1]; exact ((kq.rf.si (by unfold VTk; omega) _).sj _ _ _).si (by unfold VTk; omega) _
  have k2 : kq VTk M0 M2 := by rw [hM2]; exact k1.si (by unfold VTk; omega) _
  have g16 : gi M1 0 16 = nI T.p := by rw [hM1, gi_si, if_neg (by decide), gi_sj, gi_si, if_neg (by decide), a2]
  have c4 : gi M1 0 15 = nI e := (k1 _ _ (by unfold VTk; omega)).trans b4
  have cb : ∀ i, i < e → gi M1 3 i = nI (f i) := fun i hi => (k1 _ _ (by unfold VTk; omega)).trans (bb i hi)
  have d4 : gi M2 0 15 = nI e := (k2 _ _ (by unfold VTk; omega)).trans b4
  have db : ∀ i, i < e → gi M2 3 i = nI (f i) := fun i hi => (k2 _ _ (by unfold VTk; omega)).trans (bb i hi)
  have d16 : gi M2 0 16 = nI T.p := by rw [hM2, gi_si, if_neg (by decide), g16]
  have d18 : gi M2 0 18 = nI T.p := by rw [hM2, gi_si, if_neg (by decide), hM1, gi_si, if_neg (by decide), gi_sj, gi_si, if_pos ⟨rfl, rfl⟩]
  have d20 : gi M2 0 20 = nI 0 := by rw [hM2, gi_si, if_neg (by decide), hM1, gi_si, if_pos ⟨rfl, rfl⟩]; rfl
  have d21 : gi M2 0 21 = nI (bt f e T.p) := by rw [hM2, gi_si, if_pos ⟨rfl, rfl⟩]
  have d22 : gj M2 0 22 = lN 0 := by rw [hM2, gj_si, hM1, gj_si, gj_sj, if_pos ⟨rfl, rfl⟩]; rfl
  have kk : kq VTk M M2 := a3.tr k2
  unfold j_X9_goes_50
  rw [a2, ← hM1, g16, mByte he c4 cb (by omega)]
  dsimp only [bd]
  rw [← hM2, d16, d4]
  by_cases c : T.p < e
  · have eb : bt f e T.p = f T.p := if_pos c
    have h1' := hx.x_1 c
    have hk := hx.x_k c
    rw [if_pos (nI_lt c (by omega)), eb, mLetter (hf _)]
    by_cases c1 : kd (f T.p) = 1
    · have k1 : T.k = 1 := hk.trans c1
      rw [if_pos c1]
      try dsimp only []
      rw [if_neg (show ¬ (1 : Int32) = 0 by decide)]
      obtain ⟨M3, e1, e2, e3, e4⟩ := mWordL (n := n) hx he hf c k1 (T.nx - T.p) T.p n M2 rfl (Nat.le_refl _) (by omega) (by omega) d4 db d16 d18 (by rw [d22, Nat.sub_self]; rfl)
      rw [e1]
      unfold j_X9_goes_172
      obtain ⟨M4, f1, f2, f3⟩ := m331 (n := n) (T := T) (M := M3) ((e4 _ _ (by omega)).trans d4) (fun i hi => (e4 _ _ (by omega)).trans (db i hi)) (by omega) e2 ((e4 _ _ (by omega)).trans d18) (fun q => absurd q (by omega)) (fun q => absurd q (by omega)) (fun _ q => by rw [e3, Nat.min_eq_right q])
      rw [k1] at f1
      exact ⟨M4, f1, f2, (kk.tr (e4.mono (fun t k q => by unfold VTk; omega))).tr f3⟩
    · rw [if_neg c1]
      try dsimp only []
      rw [if_pos (show (0 : Int32) = 0 from rfl), mDigit (hf _)]
      by_cases c2 : kd (f T.p) = 2
      · have k1 : T.k = 2 := hk.trans c2
        rw [if_pos c2]
        try dsimp only []
        rw [if_neg (show ¬ (1 : Int32) = 0 by decide)]
        obtain ⟨M3, e1, e2, e3, e4⟩ := mNumL (n := n) hx he hf c k1 (T.nx - T.p) T.p n M2 rfl (Nat.le_refl _) (by omega) (by omega) d4 db d16 d18 (by rw [d20, Nat.sub_self]; rfl)
        rw [e1]
        unfold j_X9_goes_250
        obtain ⟨M4, f1, f2, f3⟩ := m331 (n := n) (T := T) (M := M3) ((e4 _ _ (by omega)).trans d4) (fun i hi => (e4 _ _ (by omega)).trans (db i hi)) (by omega) e2 ((e4 _ _ (by omega)).trans d18) (fun q => by rw [e3, hx.x_v2 k1]) (fun q => absurd q (by omega)) (fun q => absurd q (by omega))
        rw [k1] at f1
        exact ⟨M4, f1, f2, (kk.tr (e4.mono (fun t k q => by unfold VTk; omega))).tr f3⟩
      · rw [if_neg c2]
        try dsimp only []
        rw [if_pos (show (0 : Int32) = 0 from rfl), d16, nI_1, mSigns (hf _) c1 c2 hk]
        have hnx := hx.x_s c (by omega) (by omega)
        obtain ⟨M4, f1, f2, f3⟩ := m331 (n := n) (f := f) (e := e) (T := T) (M := si M2 0 16 (nI (T.p + 1))) (by rw [gi_si, if_neg (by decide)]; exact d4) (fun i hi => by rw [gi_si, if_neg (by omega)]; exact db i hi) (by omega) (by rw [gi_si, if_pos ⟨rfl, rfl⟩, hnx]) (by rw [gi_si, if_neg (by decide)]; exact d18) (fun q => absurd q (by omega)) (fun q => by rw [gi_si, if_neg (by decide), d21, eb, hx.x_v3 q]) (fun q => absurd q (by omega))
        exact ⟨M4, f1, f2, (kk.si (by unfold VTk; omega) _).tr f3⟩
  · rw [if_neg (nI_nlt (by omega) (by omega))]
    have hT := hx.x_e (by omega)
    have hTp : T.p = e := by omega
    have t1 : T.nx = e := by rw [hT]
    have t2 : T.k = 0 := by rw [hT]
    obtain ⟨M4, f1, f2, f3⟩ := m331 (n := n) (f := f) (e := e) (T := T) (M := M2) d4 db (by omega) (by rw [d16, t1, hTp]) d18 (fun q => absurd q (by omega)) (fun q => absurd q (by omega)) (fun q => absurd q (by omega))
    rw [t2] at f1
    exact ⟨M4, f1, f2, kk.tr f3⟩
end S
/-! words -/
def cmW : List Nat := [15, 16, 17, 12, 13, 14, 18, 19, 20, 0, 1, 2, 3, 4, 5, 6, 7, 8, 10, 9, 11]
def kmW : List Nat := [9, 10, 11, 12, 13, 14, 15, 16, 17, 19, 18, 20, 3, 4, 5, 0, 1, 2, 6, 7, 8]
def rtab (i : Nat) : List Nat := wtab.getD (cmW.getD i 0) []
theorem mLetters (n : Nat) (M : Mem) : ∀ i, i < 21 → f_X9_letters n (nI i) M = some (lN (pk (rtab i)), M)
  | 0, _ => rfl
  | 1, _ => rfl
  | 2, _ => rfl
  | 3, _ => rfl
  | 4, _ => rfl
  | 5, _ => rfl
  | 6, _ => rfl
  | 7, _ => rfl
  | 8, _ => rfl
  | 9, _ => rfl
  | 10, _ => rfl
  | 11, _ => rfl
  | 12, _ => rfl
  | 13, _ => rfl
  | 14, _ => rfl
  | 15, _ => rfl
  | 16, _ => rfl
  | 17, _ => rfl
  | 18, _ => rfl
  | 19, _ => rfl
  | 20, _ => rfl
  | k + 21, h => absurd h (by omega)
theorem km_1 : ∀ w, w < 21 → kmW.getD w 0 < 21 ∧ rtab (kmW.getD w 0) = wtab.getD w [] := by decide +kernel
theorem km_2 : ∀ i, i < 21 → cmW.getD i 0 < 21 := by decide +kernel
theorem km_3 : ∀ i, i < 21 → ∀ k, k < 21 → rtab i = rtab k → i = k := by decide +kernel
theorem rt_lett : ∀ i, i < 21 → lett (rtab i) ∧ (rtab i).length ≤ 8 := by
  have : ∀ i, i < 21 → (rtab i).all (fun b => decide (97 ≤ b ∧ b ≤ 122)) = true ∧ (rtab i).length ≤ 8 := by decide +kernel
  intro i hi
  refine ⟨fun b hb => ?_, (this i hi).2⟩
  have := List.all_eq_true.mp (this i hi).1 b hb
  simpa using this
theorem wfi_sp (s : List Nat) : ∀ m, m ≤ 21 → (wfi s m = 21 ∧ ∀ k, 21 - m ≤ k → k < 21 → ¬ wtab.getD k [] = s) ∨ (wfi s m < 21 ∧ wtab.getD (wfi s m) [] = s)
  | 0, _ => Or.inl ⟨rfl, fun k h1 h2 => absurd h1 (by omega)⟩
  | m + 1, hm => by
    rw [wfi]
    by_cases c : wtab.getD (21 - (m + 1)) [] = s
    · rw [if_pos c]
      exact Or.inr ⟨by omega, c⟩
    · rw [if_neg c]
      rcases wfi_sp s m (by omega) with ⟨h1, h2⟩ | h
      · refine Or.inl ⟨h1, fun k a b => ?_⟩
        by_cases ck : k = 21 - (m + 1)
        · rw [ck]; exact c
        · exact h2 k (by omega) b
      · exact Or.inr h
def kwI (T : Tok) : Int32 := if T.k = 1 ∧ T.v < 21 then nI (kmW.getD T.v 0) else -1
theorem lgc {a b : Int64} : lg_cmp a b = 0 ↔ a = b := by
  unfold lg_cmp
  constructor
  · intro h
    split at h
    · exact absurd h (by decide)
    · split at h
      · assumption
      · exact absurd h (by decide)
  · intro h
    subst h
    simp
section K
variable {f : Nat → Nat} {e p n : Nat} {M : Mem} {T : Tok}
theorem mKnown (hx : LexR f e p T) (he : e ≤ 700) (hn : 800 < n) (h : TkM f e T M) : f_X9_knownWord n M = some (kwI T, M) := by
  unfold f_X9_knownWord kwI
  have hk4 : T.k ≤ 4 := by
    by_cases c : T.p < e
    · rw [hx.x_k c]
      exact (kd_ne _).2
    · have hT := hx.x_e (by have := hx.x_p; omega)
      rw [hT]
      exact (by decide : (0 : Nat) ≤ 4)
  rw [h.m_k]
  by_cases c1 : T.k = 1
  · have hpe : T.p < e := by
      have := hx.x_p
      by_cases c : T.p = e
      · have hT := hx.x_e c
        rw [hT] at c1
        exact absurd c1 (show ¬ (0 : Nat) = 1 by decide)
      · omega
    have h1' := hx.x_1 hpe
    obtain ⟨hr1, hr2⟩ := hx.x_r hpe (Or.inl c1)
    have hl : lett (slc f T.p (T.nx - T.p)) := by
      intro b hb
      unfold slc at hb
      obtain ⟨i, hi, rfl⟩ := List.mem_map.mp hb
      have hi' := List.mem_range.mp hi
      exact kd_1.mp ((hr1 (T.p + i) (by omega) (by omega)).trans c1)
    rw [if_pos (by rw [c1]; rfl), h.m_l]
    have hv := hx.x_v1 c1
    rcases wfi_sp (slc f T.p (T.nx - T.p)) 21 (Nat.le_refl _) with ⟨w1, w2⟩ | ⟨w1, w2⟩
    · rw [if_neg (show ¬ (T.k = 1 ∧ T.v < 21) by omega)]
      by_cases c8 : T.nx - T.p ≤ 8
      · rw [if_pos (show nI (T.nx - T.p) ≤ (8 : Int32) from nI_le (b := 8) c8 (by decide))]
        have hg := h.m_w c1 c8
        have hgo : ∀ (m i N : Nat), 21 - i = m → i ≤ 21 → m < N → gl (b_X9_knownWord_21 n) N (nI i, M) = some ((-1 : Int32), M) := by
          intro m
          induction m with
          | zero =>
            intro i N hm hi hN
            obtain ⟨N, rfl⟩ : ∃ k, N = k + 1 := ⟨N - 1, by omega⟩
            refine gl_mr ?_
            rw [b_X9_knownWord_21]
            try dsimp only []
            rw [if_pos (show (21 : Int32) ≤ nI i from nI_le (a := 21) (by omega) (by omega))]
          | succ m ih =>
            intro i N hm hi hN
            obtain ⟨N, rfl⟩ : ∃ k, N = k + 1 := ⟨N - 1, by omega⟩
            have e1 : b_X9_knownWord_21 n (nI i, M) = some (.inl (nI (i + 1), M)) := by
              rw [b_X9_knownWord_21]
              try dsimp only []
              rw [if_neg (show ¬ (21 : Int32) ≤ nI i from nI_ge (b := 21) (by omega) (by decide)), mLetters n M i (by omega)]
              dsimp only [bd]
              rw [if_neg (fun q => ?_), nI_1]
              have q' := lgc.mp q
              rw [hg] at q'
              have r1 := rt_lett i (by omega)
              have q2 := pk_inj r1.1 hl (lN_inj (pkw_lt r1.1 r1.2) (pkw_lt hl (by rw [slc_len]; exact c8)) q')
              exact w2 (cmW.getD i 0) (Nat.zero_le _) (km_2 i (by omega)) q2
            rw [gl_inl e1]
            exact ih (i + 1) N (by omega) (by omega) (by omega)
        exact hgo 21 0 n rfl (by decide) (by omega)
      · rw [if_neg (show ¬ nI (T.nx - T.p) ≤ (8 : Int32) from nI_ge (a := 8) (by omega) (by omega))]
    · have hv21 : T.v < 21 := by omega
      rw [if_pos (show T.k = 1 ∧ T.v < 21 from ⟨c1, hv21⟩)]
      rw [← hv] at w2
      obtain ⟨z1, z2⟩ := km_1 T.v hv21
      obtain ⟨k0, hk0⟩ : ∃ k0, kmW.getD T.v 0 = k0 := ⟨_, rfl⟩
      rw [hk0] at z1 z2 ⊢
      have r0 := rt_lett k0 z1
      rw [z2, w2] at r0
      have c8 : T.nx - T.p ≤ 8 := by have := r0.2; rw [slc_len] at this; exact this
      rw [if_pos (show nI (T.nx - T.p) ≤ (8 : Int32) from nI_le (b := 8) c8 (by decide))]
      have hg := h.m_w c1 c8
      have hgo : ∀ (m i N : Nat), k0 - i = m → i ≤ k0 → m < N → gl (b_X9_knownWord_21 n) N (nI i, M) = some (nI k0, M) := by
        intro m
        induction m with
        | zero =>
          intro i N hm hi hN
          obtain ⟨N, rfl⟩ : ∃ k, N = k + 1 := ⟨N - 1, by omega⟩
          have hik : i = k0 := by omega
          subst hik
          refine gl_mr ?_
          rw [b_X9_knownWord_21]
          try dsimp only []
          rw [if_neg (show ¬ (21 : Int32) ≤ nI i from nI_ge (b := 21) (by omega) (by decide)), mLetters n M i (by omega)]
          dsimp only [bd]
          rw [if_pos (lgc.mpr (by rw [hg, z2, w2]))]
        | succ m ih =>
          intro i N hm hi hN
          obtain ⟨N, rfl⟩ : ∃ k, N = k + 1 := ⟨N - 1, by omega⟩
          have e1 : b_X9_knownWord_21 n (nI i, M) = some (.inl (nI (i + 1), M)) := by
            rw [b_X9_knownWord_21]
            try dsimp only []
            rw [if_neg (show ¬ (21 : Int32) ≤ nI i from nI_ge (b := 21) (by omega) (by decide)), mLetters n M i (by omega)]
            dsimp only [bd]
            rw [if_neg (fun q => ?_), nI_1]
            have q' := lgc.mp q
            rw [hg] at q'
            have r1 := rt_lett i (by omega)
            have q2 := pk_inj r1.1 hl (lN_inj (pkw_lt r1.1 r1.2) (pkw_lt hl (by rw [slc_len]; exact c8)) q')
            have := km_3 i (by omega) k0 z1 (by rw [q2, z2, w2])
            omega
          rw [gl_inl e1]
          exact ih (i + 1) N (by omega) (by omega) (by omega)
      exact hgo k0 0 n rfl (Nat.zero_le _) (by omega)
  · rw [if_neg (ne_1 c1 (by omega)), if_neg (fun q => c1 q.1)]
end K
/-! tokens of the reference -/
def SRt (f : Nat → Nat) (e : Nat) (ts : List Tok) (M : Mem) : Prop := (∃ p, Lx f e p ts) ∧ TkM f e (hdT e ts) M
section G
variable {f : Nat → Nat} {e n : Nat} {M : Mem} {ts : List Tok}
theorem SRt.tf (hf : ∀ q, f q < 256) (h : SRt f e ts M) : TF e (hdT e ts) := by
  obtain ⟨⟨p, hp⟩, _⟩ := h
  exact lex_tf hf hp.hd
theorem SRt.st (h : SRt f e ts M) {t k : Nat} (h1 : ¬ (t = 0 ∧ 15 ≤ k ∧ k ≤ 22)) (h3 : ¬ t = 3) (x : Int32) : SRt f e ts (si M t k x) := ⟨h.1, h.2.st h1 h3 x⟩
theorem mGoS (he : e ≤ 700) (hf : ∀ q, f q < 256) (hn : 800 < n) (h : SRt f e ts M) : ∃ M', f_X9_goes n M = some M' ∧ SRt f e ts.tail M' ∧ kq VTk M M' := by
  obtain ⟨⟨p, hp⟩, h2⟩ := h
  have h3 := hp.tl
  obtain ⟨M', a1, a2, a3⟩ := mStep h3.hd he hf hn h2.m_e h2.m_b h2.m_n
  exact ⟨M', a1, ⟨⟨_, h3⟩, a2⟩, a3⟩
theorem mIsSign (hf : ∀ q, f q < 256) (h : SRt f e ts M) {c : Nat} (hc : c < 256) : f_X9_isSign n (nI c) M = some (if (hdT e ts).k = 3 ∧ (hdT e ts).v = c then 1 else 0, M) := by
  have t := h.tf hf
  have hk := t.f_k
  unfold f_X9_isSign
  rw [h.2.m_k]
  by_cases c3 : (hdT e ts).k = 3
  · have hv := t.f_3 c3
    rw [if_pos (by rw [c3]; rfl), h.2.m_s c3]
    by_cases cv : (hdT e ts).v = c
    · rw [if_pos (by rw [cv]), if_pos ⟨c3, cv⟩]
    · rw [if_neg (fun q => cv ((nI_eq (by omega) (by omega)).mp q)), if_neg (fun q => cv q.2)]
  · rw [if_neg (ne_3 c3 (by omega)), if_neg (fun q => c3 q.1)]
theorem mKnownS (he : e ≤ 700) (hn : 800 < n) (h : SRt f e ts M) : f_X9_knownWord n M = some (kwI (hdT e ts), M) := by
  obtain ⟨⟨p, hp⟩, h2⟩ := h
  exact mKnown hp.hd he hn h2
end G
