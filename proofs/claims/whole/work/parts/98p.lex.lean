/-! Bytes to tokens: both sides read the same ones. -/
def kd (b : Nat) : Nat := if 97 ≤ b ∧ b ≤ 122 then 1 else if 48 ≤ b ∧ b ≤ 57 then 2 else if b = 59 ∨ b = 40 ∨ b = 41 ∨ b = 43 ∨ b = 45 ∨ b = 42 ∨ b = 47 ∨ b = 60 ∨ b = 61 then 3 else 4
def dvl (f : Nat → Nat) (p : Nat) : Nat → Nat
  | 0 => 0
  | m + 1 => dvl f p m * 10 + (f (p + m) - 48)
def wtab : List (List Nat) := [[104, 117, 110, 103], [112, 108, 97, 110], [103, 114, 111, 117, 110, 100], [99, 111, 115, 116], [119, 97, 114, 100], [115, 116, 114, 101, 101, 116], [108, 101, 97, 110, 115], [103, 105, 118, 101, 115], [98, 101, 108, 105, 101, 118, 101, 115], [111, 114], [97, 110, 100], [110, 111, 116], [108, 101, 97, 110], [104, 101, 105, 103, 104, 116], [100, 97, 121], [119, 105, 110, 100], [119, 101, 105, 103, 104, 116], [109, 111, 114, 116, 97, 114], [102, 97, 105, 116, 104], [100, 111, 117, 98, 116], [102, 101, 108, 108]]
def wfi (s : List Nat) : Nat → Nat
  | 0 => 21
  | m + 1 => if wtab.getD (21 - (m + 1)) [] = s then 21 - (m + 1) else wfi s m
def slc (f : Nat → Nat) (p len : Nat) : List Nat := (List.range len).map (fun i => f (p + i))
theorem slc_len {f : Nat → Nat} {p len : Nat} : (slc f p len).length = len := by
  unfold slc
  simp
theorem slc_get {f : Nat → Nat} {p len i : Nat} (h : i < len) : (slc f p len)[i]? = some (f (p + i)) := by
  unfold slc
  simp [h]
def LexR (f : Nat → Nat) (e p : Nat) (T : Tok) : Prop := (p ≤ T.p ∧ T.p ≤ e) ∧ (∀ q, p ≤ q → q < T.p → f q = 32 ∨ f q = 10) ∧ (T.p < e → ¬ f T.p = 32 ∧ ¬ f T.p = 10) ∧ (T.p = e → T = (e, e, 0, 0)) ∧ (T.p < e → T.k = kd (f T.p)) ∧ (T.p < e → T.p < T.nx ∧ T.nx ≤ e) ∧ (T.p < e → T.k = 1 ∨ T.k = 2 → (∀ q, T.p ≤ q → q < T.nx → kd (f q) = T.k) ∧ (T.nx < e → ¬ kd (f T.nx) = T.k)) ∧ (T.p < e → ¬ T.k = 1 → ¬ T.k = 2 → T.nx = T.p + 1) ∧ (T.k = 1 → T.v = wfi (slc f T.p (T.nx - T.p)) 21) ∧ (T.k = 2 → T.v = dvl f T.p (min 4 (T.nx - T.p))) ∧ (T.k = 3 → T.v = f T.p)
theorem LexR.x_p {f : Nat → Nat} {e p : Nat} {T : Tok} (h : LexR f e p T) : p ≤ T.p ∧ T.p ≤ e := h.1
theorem LexR.x_b {f : Nat → Nat} {e p : Nat} {T : Tok} (h : LexR f e p T) : ∀ q, p ≤ q → q < T.p → f q = 32 ∨ f q = 10 := h.2.1
theorem LexR.x_n {f : Nat → Nat} {e p : Nat} {T : Tok} (h : LexR f e p T) : T.p < e → ¬ f T.p = 32 ∧ ¬ f T.p = 10 := h.2.2.1
theorem LexR.x_e {f : Nat → Nat} {e p : Nat} {T : Tok} (h : LexR f e p T) : T.p = e → T = (e, e, 0, 0) := h.2.2.2.1
theorem LexR.x_k {f : Nat → Nat} {e p : Nat} {T : Tok} (h : LexR f e p T) : T.p < e → T.k = kd (f T.p) := h.2.2.2.2.1
theorem LexR.x_1 {f : Nat → Nat} {e p : Nat} {T : Tok} (h : LexR f e p T) : T.p < e → T.p < T.nx ∧ T.nx ≤ e := h.2.2.2.2.2.1
theorem LexR.x_r {f : Nat → Nat} {e p : Nat} {T : Tok} (h : LexR f e p T) : T.p < e → T.k = 1 ∨ T.k = 2 → (∀ q, T.p ≤ q → q < T.nx → kd (f q) = T.k) ∧ (T.nx < e → ¬ kd (f T.nx) = T.k) := h.2.2.2.2.2.2.1
theorem LexR.x_s {f : Nat → Nat} {e p : Nat} {T : Tok} (h : LexR f e p T) : T.p < e → ¬ T.k = 1 → ¬ T.k = 2 → T.nx = T.p + 1 := h.2.2.2.2.2.2.2.1
theorem LexR.x_v1 {f : Nat → Nat} {e p : Nat} {T : Tok} (h : LexR f e p T) : T.k = 1 → T.v = wfi (slc f T.p (T.nx - T.p)) 21 := h.2.2.2.2.2.2.2.2.1
theorem LexR.x_v2 {f : Nat → Nat} {e p : Nat} {T : Tok} (h : LexR f e p T) : T.k = 2 → T.v = dvl f T.p (min 4 (T.nx - T.p)) := h.2.2.2.2.2.2.2.2.2.1
theorem LexR.x_v3 {f : Nat → Nat} {e p : Nat} {T : Tok} (h : LexR f e p T) : T.k = 3 → T.v = f T.p := h.2.2.2.2.2.2.2.2.2.2
theorem kd_ne (b : Nat) : ¬ kd b = 0 ∧ kd b ≤ 4 := by
  unfold kd
  repeat' split
  all_goals decide
theorem run_ex (f : Nat → Nat) (P : Nat → Prop) (hP : ∀ q, P q ∨ ¬ P q) : ∀ (m p e : Nat), e - p = m → p ≤ e → ∃ q, p ≤ q ∧ q ≤ e ∧ (∀ i, p ≤ i → i < q → P i) ∧ (q < e → ¬ P q)
  | 0, p, e, hm, hp => ⟨p, Nat.le_refl _, hp, fun i h1 h2 => absurd h1 (by omega), fun c => absurd c (by omega)⟩
  | m + 1, p, e, hm, hp => by
    rcases hP p with c | c
    · obtain ⟨q, h1, h2, h3, h4⟩ := run_ex f P hP m (p + 1) e (by omega) (by omega)
      refine ⟨q, by omega, h2, fun i hi hj => ?_, h4⟩
      by_cases ci : i = p
      · subst ci; exact c
      · exact h3 i (by omega) hj
    · exact ⟨p, Nat.le_refl _, hp, fun i h1 h2 => absurd h1 (by omega), fun _ => c⟩
theorem lex_ex (f : Nat → Nat) (e p : Nat) (hp : p ≤ e) : ∃ T, LexR f e p T := by
  obtain ⟨a, h1, h2, h3, h4⟩ := run_ex f (fun q => f q = 32 ∨ f q = 10) (fun q => Decidable.em _) (e - p) p e rfl hp
  by_cases c : a = e
  · subst c
    exact ⟨(a, a, 0, 0), ⟨h1, Nat.le_refl _⟩, h3, fun c => absurd c (Nat.lt_irrefl _), fun _ => rfl, fun c => absurd c (Nat.lt_irrefl _), fun c => absurd c (Nat.lt_irrefl _), fun c => absurd c (Nat.lt_irrefl _), fun c => absurd c (Nat.lt_irrefl _), fun c => absurd c (show ¬ (0 : Nat) = 1 by decide), fun c => absurd c (show ¬ (0 : Nat) = 2 by decide), fun c => absurd c (show ¬ (0 : Nat) = 3 by decide)⟩
  · have h4' := h4 (by omega)
    have hn : ¬ f a = 32 ∧ ¬ f a = 10 := ⟨fun c => h4' (Or.inl c), fun c => h4' (Or.inr c)⟩
    by_cases ck : kd (f a) = 1 ∨ kd (f a) = 2
    · obtain ⟨b, g1, g2, g3, g4⟩ := run_ex f (fun q => kd (f q) = kd (f a)) (fun q => Decidable.em _) (e - (a + 1)) (a + 1) e rfl (by omega)
      refine ⟨(a, b, kd (f a), if kd (f a) = 1 then wfi (slc f a (b - a)) 21 else dvl f a (min 4 (b - a))), ⟨h1, h2⟩, h3, fun _ => hn, fun q => absurd q c, fun _ => rfl, fun _ => ⟨g1, g2⟩, fun _ _ => ⟨fun q hq hq2 => ?_, g4⟩, fun _ q1 q2 => absurd ck (by simp only [not_or]; exact ⟨q1, q2⟩), fun q => if_pos q, fun q => if_neg (by rw [show kd (f a) = 2 from q]; decide), fun q => ?_⟩
      · by_cases cq : q = a
        · subst cq; rfl
        · have hq' : a ≤ q := hq
          exact g3 q (by omega) hq2
      · have q' : kd (f a) = 3 := q
        omega
    · refine ⟨(a, a + 1, kd (f a), f a), ⟨h1, h2⟩, h3, fun _ => hn, fun q => absurd q c, fun _ => rfl, fun _ => ⟨Nat.lt_succ_self a, ?_⟩, fun _ q => absurd q ck, fun _ _ _ => rfl, fun q => absurd (Or.inl q) ck, fun q => absurd (Or.inr q) ck, fun _ => rfl⟩
      show a + 1 ≤ e
      omega
def Lx (f : Nat → Nat) (e : Nat) : Nat → List Tok → Prop
  | p, [] => LexR f e p (e, e, 0, 0)
  | p, T :: ts => LexR f e p T ∧ T.p < e ∧ Lx f e T.nx ts
theorem lx_ex (f : Nat → Nat) (e : Nat) : ∀ (m p : Nat), e - p = m → p ≤ e → ∃ ts, Lx f e p ts := by
  intro m
  induction m using Nat.strongRecOn with
  | ind m ih =>
    intro p hm hp
    obtain ⟨T, hT⟩ := lex_ex f e p hp
    have h1 := hT.x_p
    by_cases c : T.p = e
    · have := hT.x_e c
      rw [this] at hT
      exact ⟨[], hT⟩
    · have h2 := hT.x_1 (by omega)
      obtain ⟨ts, hts⟩ := ih (e - T.nx) (by omega) T.nx rfl h2.2
      exact ⟨T :: ts, hT, by omega, hts⟩
theorem Lx.hd {f : Nat → Nat} {e p : Nat} {ts : List Tok} (h : Lx f e p ts) : LexR f e p (hdT e ts) := by
  cases ts with
  | nil => exact h
  | cons T ts => exact h.1
theorem lx_end (f : Nat → Nat) (e : Nat) : LexR f e e (e, e, 0, 0) :=
  ⟨⟨Nat.le_refl _, Nat.le_refl _⟩, fun q h1 h2 => absurd h1 (Nat.not_le.mpr h2), fun c => absurd c (Nat.lt_irrefl _), fun _ => rfl, fun c => absurd c (Nat.lt_irrefl _), fun c => absurd c (Nat.lt_irrefl _), fun c => absurd c (Nat.lt_irrefl _), fun c => absurd c (Nat.lt_irrefl _), fun c => absurd c (show ¬ (0 : Nat) = 1 by decide), fun c => absurd c (show ¬ (0 : Nat) = 2 by decide), fun c => absurd c (show ¬ (0 : Nat) = 3 by decide)⟩
theorem Lx.tl {f : Nat → Nat} {e p : Nat} {ts : List Tok} (h : Lx f e p ts) : Lx f e (hdT e ts).nx ts.tail := by
  cases ts with
  | nil => exact lx_end f e
  | cons T ts => exact h.2.2
/-! letters -/
theorem kd_1 {b : Nat} : kd b = 1 ↔ 97 ≤ b ∧ b ≤ 122 := by
  unfold kd
  constructor
  · intro h
    split at h
    · assumption
    · split at h
      · omega
      · split at h <;> omega
  · intro h
    rw [if_pos h]
theorem kd_2 {b : Nat} : kd b = 2 ↔ 48 ≤ b ∧ b ≤ 57 := by
  unfold kd
  constructor
  · intro h
    split at h
    · omega
    · split at h
      · assumption
      · split at h <;> omega
  · intro h
    rw [if_neg (by omega), if_pos h]
theorem sb_l : ∀ b, b < 128 → sb b = nI b := by decide +kernel
def ixP (x : Int32) : Int32 := if (59 : Int32) = x then 0 else if (40 : Int32) = x then 1 else if (41 : Int32) = x then 2 else if (43 : Int32) = x then 3 else if (45 : Int32) = x then 4 else if (42 : Int32) = x then 5 else if (47 : Int32) = x then 6 else if (60 : Int32) = x then 7 else if (61 : Int32) = x then 8 else -1
theorem cIx {n : Nat} (hn : 20 < n) (N : Nat) (M : Mem) (x : Int32) : gl (b_J1_indexOfChar_4cfef_7 N 22 (9 : Int32) x) n ((0 : Int32), M) = some (ixP x, M) := by
  obtain ⟨n, rfl⟩ : ∃ k, n = k + 12 := ⟨n - 12, by omega⟩
  unfold ixP
  by_cases c : (59 : Int32) = x
  · rw [if_pos c]
    exact gl_mr (o := some ((0 : Int32), M)) (by rw [b_J1_indexOfChar_4cfef_7]; exact if_pos c)
  rw [if_neg c, gl_inl (s' := ((1 : Int32), M)) (by rw [b_J1_indexOfChar_4cfef_7]; exact if_neg c)]
  by_cases c : (40 : Int32) = x
  · rw [if_pos c]
    exact gl_mr (o := some ((1 : Int32), M)) (by rw [b_J1_indexOfChar_4cfef_7]; exact if_pos c)
  rw [if_neg c, gl_inl (s' := ((2 : Int32), M)) (by rw [b_J1_indexOfChar_4cfef_7]; exact if_neg c)]
  by_cases c : (41 : Int32) = x
  · rw [if_pos c]
    exact gl_mr (o := some ((2 : Int32), M)) (by rw [b_J1_indexOfChar_4cfef_7]; exact if_pos c)
  rw [if_neg c, gl_inl (s' := ((3 : Int32), M)) (by rw [b_J1_indexOfChar_4cfef_7]; exact if_neg c)]
  by_cases c : (43 : Int32) = x
  · rw [if_pos c]
    exact gl_mr (o := some ((3 : Int32), M)) (by rw [b_J1_indexOfChar_4cfef_7]; exact if_pos c)
  rw [if_neg c, gl_inl (s' := ((4 : Int32), M)) (by rw [b_J1_indexOfChar_4cfef_7]; exact if_neg c)]
  by_cases c : (45 : Int32) = x
  · rw [if_pos c]
    exact gl_mr (o := some ((4 : Int32), M)) (by rw [b_J1_indexOfChar_4cfef_7]; exact if_pos c)
  rw [if_neg c, gl_inl (s' := ((5 : Int32), M)) (by rw [b_J1_indexOfChar_4cfef_7]; exact if_neg c)]
  by_cases c : (42 : Int32) = x
  · rw [if_pos c]
    exact gl_mr (o := some ((5 : Int32), M)) (by rw [b_J1_indexOfChar_4cfef_7]; exact if_pos c)
  rw [if_neg c, gl_inl (s' := ((6 : Int32), M)) (by rw [b_J1_indexOfChar_4cfef_7]; exact if_neg c)]
  by_cases c : (47 : Int32) = x
  · rw [if_pos c]
    exact gl_mr (o := some ((6 : Int32), M)) (by rw [b_J1_indexOfChar_4cfef_7]; exact if_pos c)
  rw [if_neg c, gl_inl (s' := ((7 : Int32), M)) (by rw [b_J1_indexOfChar_4cfef_7]; exact if_neg c)]
  by_cases c : (60 : Int32) = x
  · rw [if_pos c]
    exact gl_mr (o := some ((7 : Int32), M)) (by rw [b_J1_indexOfChar_4cfef_7]; exact if_pos c)
  rw [if_neg c, gl_inl (s' := ((8 : Int32), M)) (by rw [b_J1_indexOfChar_4cfef_7]; exact if_neg c)]
  by_cases c : (61 : Int32) = x
  · rw [if_pos c]
    exact gl_mr (o := some ((8 : Int32), M)) (by rw [b_J1_indexOfChar_4cfef_7]; exact if_pos c)
  rw [if_neg c, gl_inl (s' := ((9 : Int32), M)) (by rw [b_J1_indexOfChar_4cfef_7]; exact if_neg c)]
  exact gl_mr (o := some ((-1 : Int32), M)) (by rw [b_J1_indexOfChar_4cfef_7]; rfl)
def chP (x : Int32) : Int32 := ((x &&& (255 : Int32)).toUInt32 % 65536).toInt32
theorem chP_sb : ∀ b, b < 256 → chP (sb b) = nI b ∧ ¬ chP (sb b) < 0 ∧ ¬ (255 : Int32) < chP (sb b) := by decide +kernel
theorem w_len (n : Nat) (M : Mem) : ∀ k, k < 23 → f_J0_length_8abf5 n k M = some (nI (sLen.getD k 0), M) := by
  intro k hk
  have : ∀ k, k < 23 → (nI (sLen.getD k 0)) >>> ((0 : Int32) &&& 31) = nI (sLen.getD k 0) := by decide +kernel
  have h := this k hk
  unfold f_J0_length_8abf5
  rw [show f_J0_coder_7d493 n k M = some ((0 : Int32), M) from rfl]
  simp only [bd, h]
theorem cIndexOf {n : Nat} (hn : 20 < n) (M : Mem) {x : Int32} (h1 : ¬ x < 0) (h2 : ¬ (255 : Int32) < x) : f_J0_indexOf_0f7a4 n 22 x M = some (ixP x.toInt8.toInt32, M) := by
  have e : f_J1_indexOf_4cfef n 22 x 0 (9 : Int32) M = some (ixP x.toInt8.toInt32, M) := by
    unfold f_J1_indexOf_4cfef f_J1_canEncode_9a6ad
    rw [if_neg h1, if_neg h2]
    show bd (f_J1_indexOfChar_4cfef n 22 x 0 9 M) _ = _
    unfold f_J1_indexOfChar_4cfef
    rw [cIx hn]
    rfl
  unfold f_J0_indexOf_0f7a4 f_J0_indexOf_7cf53
  rw [show f_J0_isLatin1_aae02 n 22 M = some ((1 : Int32), M) from rfl]
  simp only [bd]
  rw [if_neg (by decide), show f_J0_length_8abf5 n 22 M = some ((9 : Int32), M) from w_len n M 22 (by decide)]
  simp only []
  rw [e]
def kiP (x : Int32) : Int32 := if x < (97 : Int32) then (if x < (48 : Int32) then (if ixP (chP x).toInt8.toInt32 < 0 then 4 else 3) else if (57 : Int32) < x then (if ixP (chP x).toInt8.toInt32 < 0 then 4 else 3) else 2) else if (122 : Int32) < x then (if x < (48 : Int32) then (if ixP (chP x).toInt8.toInt32 < 0 then 4 else 3) else if (57 : Int32) < x then (if ixP (chP x).toInt8.toInt32 < 0 then 4 else 3) else 2) else 1
theorem kiP_is : ∀ b, b < 256 → kiP (sb b) = nI (kd b) := by decide +kernel
theorem cKind {n b : Nat} (hn : 20 < n) (hb : b < 256) (M : Mem) : f_X2_kindOf n (sb b) M = some (nI (kd b), M) := by
  obtain ⟨h0, h1, h2⟩ := chP_sb b hb
  rw [← kiP_is b hb]
  generalize sb b = x at h1 h2
  have e28 : j_X2_kindOf_28 n x M = some (if ixP (chP x).toInt8.toInt32 < 0 then 4 else 3, M) := by
    unfold j_X2_kindOf_28
    rw [show ((x &&& (255 : Int32)).toUInt32 % 65536).toInt32 = chP x from rfl, cIndexOf hn M h1 h2]
    simp only [bd]
    by_cases c : ixP (chP x).toInt8.toInt32 < 0
    · rw [if_pos c, if_pos c]
    · rw [if_neg c, if_neg c]
  have e14 : j_X2_kindOf_14 n x M = some (if x < (48 : Int32) then (if ixP (chP x).toInt8.toInt32 < 0 then 4 else 3) else if (57 : Int32) < x then (if ixP (chP x).toInt8.toInt32 < 0 then 4 else 3) else 2, M) := by
    unfold j_X2_kindOf_14
    rw [e28]
    by_cases c : x < (48 : Int32)
    · rw [if_pos c, if_pos c]
    · rw [if_neg c, if_neg c]
      by_cases c2 : (57 : Int32) < x
      · rw [if_pos c2, if_pos c2]
      · rw [if_neg c2, if_neg c2]
  unfold f_X2_kindOf kiP
  rw [e14]
  by_cases c : x < (97 : Int32)
  · rw [if_pos c, if_pos c]
  · rw [if_neg c, if_neg c]
    by_cases c2 : (122 : Int32) < x
    · rw [if_pos c2, if_pos c2]
    · rw [if_neg c2, if_neg c2]
