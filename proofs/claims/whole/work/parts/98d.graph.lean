/-! Streets: how far, in parts, cut. -/
def anyN (f : Nat → Bool) : Nat → Bool
  | 0 => false
  | k + 1 => anyN f k || f k
theorem anyN_iff {f : Nat → Bool} : ∀ {k : Nat}, anyN f k = true ↔ ∃ i, i < k ∧ f i = true
  | 0 => ⟨fun h => (by cases h), fun ⟨i, hi, _⟩ => absurd hi (by omega)⟩
  | k + 1 => by
    rw [anyN, Bool.or_eq_true, anyN_iff (k := k)]
    constructor
    · rintro (⟨i, hi, h⟩ | h)
      · exact ⟨i, by omega, h⟩
      · exact ⟨k, by omega, h⟩
    · rintro ⟨i, hi, h⟩
      by_cases c : i = k
      · rw [← c]; exact Or.inr h
      · exact Or.inl ⟨i, by omega, h⟩
def Sp.spr (s : Sp) (S : Nat) : Nat → Nat
  | 0 => S
  | k + 1 => if S.testBit k then s.spr S k ||| s.beside k else s.spr S k
theorem spr_bit {s : Sp} {S v : Nat} : ∀ k, (s.spr S k).testBit v = (S.testBit v || anyN (fun w => S.testBit w && (s.beside w).testBit v) k)
  | 0 => by simp [Sp.spr, anyN]
  | k + 1 => by
    rw [Sp.spr, anyN]
    cases hb : S.testBit k with
    | true =>
      simp only [if_true, Nat.testBit_or, spr_bit k, Bool.true_and, Bool.or_assoc]
    | false =>
      simp only [Bool.false_eq_true, if_false, spr_bit k, Bool.false_and, Bool.or_false]
def Sp.sp (wd : Nat) (s : Sp) (S : Nat) : Nat := s.spr S wd
theorem lt_of_bits {S wd : Nat} (h : ∀ v, wd ≤ v → S.testBit v = false) : S < 2 ^ wd := Nat.lt_pow_two_of_testBit S (fun v hv => h v hv)
theorem bits_of_lt {S wd v : Nat} (h : S < 2 ^ wd) (hv : wd ≤ v) : S.testBit v = false := Nat.testBit_lt_two_pow (Nat.lt_of_lt_of_le h (Nat.pow_le_pow_right (by decide) hv))
theorem sp_iff {wd : Nat} {s : Sp} {S v : Nat} : (s.sp wd S).testBit v = true ↔ (S.testBit v = true ∨ ∃ w, w < wd ∧ S.testBit w = true ∧ (s.beside w).testBit v = true) := by
  unfold Sp.sp
  rw [spr_bit, Bool.or_eq_true, anyN_iff]
  constructor
  · rintro (h | ⟨w, h1, h2⟩)
    · exact Or.inl h
    · rw [Bool.and_eq_true] at h2
      exact Or.inr ⟨w, h1, h2.1, h2.2⟩
  · rintro (h | ⟨w, h1, h2, h3⟩)
    · exact Or.inl h
    · exact Or.inr ⟨w, h1, by rw [h2, h3]; rfl⟩
def msk (B : Nat) : Nat := B ^^^ 4294967295
theorem msk_bit {B v : Nat} (hv : v < 32) : (msk B).testBit v = !B.testBit v := by
  unfold msk
  have h : (4294967295 : Nat).testBit v = true := by
    rw [show (4294967295 : Nat) = 2 ^ 32 - 1 from rfl, Nat.testBit_two_pow_sub_one]
    simp [hv]
  rw [Nat.testBit_xor, h, Bool.xor_true]
def Sp.rs (wd : Nat) (s : Sp) (B S : Nat) : Nat := s.sp wd S &&& msk B
section Gr
variable {wd : Nat} {s : Sp} {B : Nat}
theorem sp_lt {S : Nat} (g : s.Good wd) (h : S < 2 ^ wd) : s.sp wd S < 2 ^ wd := lt_of_bits (fun v hv => by
  cases e : (s.sp wd S).testBit v with
  | false => rfl
  | true =>
    rcases sp_iff.mp e with h1 | ⟨w, h1, h2, h3⟩
    · rw [bits_of_lt h hv] at h1
      cases h1
    · rw [bits_of_lt (g.h_beside w h1) hv] at h3
      cases h3)
theorem rs_iff {S v : Nat} (g : s.Good wd) (h : S < 2 ^ wd) : (s.rs wd B S).testBit v = true ↔ (v < wd ∧ B.testBit v = false ∧ (S.testBit v = true ∨ ∃ w, w < wd ∧ S.testBit w = true ∧ (s.beside w).testBit v = true)) := by
  have hw := g.h_wd
  unfold Sp.rs
  rw [Nat.testBit_and, Bool.and_eq_true, sp_iff]
  constructor
  · rintro ⟨h1, h2⟩
    have hv : v < wd := by
      by_cases c : v < wd
      · exact c
      · have := bits_of_lt (sp_lt g h) (show wd ≤ v by omega)
        rw [sp_iff.mpr h1] at this
        cases this
    rw [msk_bit (by omega)] at h2
    exact ⟨hv, by simpa using h2, h1⟩
  · rintro ⟨h1, h2, h3⟩
    exact ⟨h3, by rw [msk_bit (by omega), h2]; rfl⟩
theorem rs_lt {S : Nat} (g : s.Good wd) (h : S < 2 ^ wd) : s.rs wd B S < 2 ^ wd := lt_of_bits (fun v hv => by
  cases e : (s.rs wd B S).testBit v with
  | false => rfl
  | true => exact absurd ((rs_iff g h).mp e).1 (by omega))
def Sp.rc (wd : Nat) (s : Sp) (B w : Nat) : Nat → Nat
  | 0 => 2 ^ w
  | k + 1 => s.rs wd B (s.rc wd B w k)
theorem pow_bit {w v : Nat} : (2 ^ w).testBit v = true ↔ v = w := by
  rw [Nat.testBit_two_pow]
  constructor
  · intro h
    have := of_decide_eq_true h
    omega
  · intro h
    exact decide_eq_true h.symm
theorem rc_lt {w : Nat} (g : s.Good wd) (hw : w < wd) : ∀ k, s.rc wd B w k < 2 ^ wd
  | 0 => Nat.pow_lt_pow_right (by decide) hw
  | k + 1 => rs_lt g (rc_lt g hw k)
theorem rc_dis {w : Nat} (g : s.Good wd) (hw : w < wd) (hB : B.testBit w = false) : ∀ k v, (s.rc wd B w k).testBit v = true → B.testBit v = false
  | 0, v, h => by
    rw [pow_bit.mp h]
    exact hB
  | k + 1, v, h => ((rs_iff g (rc_lt g hw k)).mp h).2.1
theorem rc_sub {w k v : Nat} (g : s.Good wd) (hw : w < wd) (hB : B.testBit w = false) (h : (s.rc wd B w k).testBit v = true) : (s.rc wd B w (k + 1)).testBit v = true := by
  refine (rs_iff g (rc_lt g hw k)).mpr ⟨?_, rc_dis g hw hB k v h, Or.inl h⟩
  by_cases c : v < wd
  · exact c
  · rw [bits_of_lt (rc_lt g hw k) (by omega)] at h
    cases h
theorem cnt_lt {f f' : Nat → Bool} : ∀ {N : Nat}, (∀ v, v < N → f v = true → f' v = true) → (∃ v, v < N ∧ f v = false ∧ f' v = true) → cntN f N < cntN f' N
  | 0, _, ⟨v, hv, _⟩ => absurd hv (by omega)
  | N + 1, h, ⟨v, hv, h1, h2⟩ => by
    rw [cntN, cntN]
    by_cases c : v = N
    · subst c
      have hle : cntN f v ≤ cntN f' v := by
        have : ∀ M, (∀ u, u < M → f u = true → f' u = true) → cntN f M ≤ cntN f' M := fun M => by
          induction M with
          | zero => intro _; exact Nat.le_refl _
          | succ M ih =>
            intro hM
            have i1 := ih (fun u hu => hM u (by omega))
            rw [cntN, cntN]
            cases e : f M with
            | false => simp; split <;> omega
            | true => rw [hM M (by omega) e]; simp; omega
        exact this v (fun u hu => h u (by omega))
      rw [h1, h2]
      simp
      omega
    · have ih := cnt_lt (N := N) (fun u hu => h u (by omega)) ⟨v, by omega, h1, h2⟩
      cases e : f N with
      | false => simp; split <;> omega
      | true => rw [h N (by omega) e]; simp; omega
theorem rc_grow {w : Nat} (g : s.Good wd) (hw : w < wd) (hB : B.testBit w = false) : ∀ m, (∀ j, j < m → s.rc wd B w (j + 1) ≠ s.rc wd B w j) → m + 1 ≤ cntN (fun v => (s.rc wd B w m).testBit v) wd
  | 0, _ => by
    have : cntN (fun _ => false) wd < cntN (fun v => (s.rc wd B w 0).testBit v) wd := cnt_lt (fun v _ h => by cases h) ⟨w, hw, rfl, pow_bit.mpr rfl⟩
    omega
  | m + 1, h => by
    have ih := rc_grow g hw hB m (fun j hj => h j (by omega))
    have hne := h m (by omega)
    obtain ⟨v, hv⟩ : ∃ v, (s.rc wd B w (m + 1)).testBit v ≠ (s.rc wd B w m).testBit v := Classical.byContradiction (fun q => hne (Nat.eq_of_testBit_eq (fun v => Classical.byContradiction (fun q2 => q ⟨v, q2⟩))))
    have h1 : (s.rc wd B w m).testBit v = false := by
      cases e : (s.rc wd B w m).testBit v with
      | false => rfl
      | true => exact absurd ((rc_sub g hw hB e).trans e.symm) hv
    have h2 : (s.rc wd B w (m + 1)).testBit v = true := by
      cases e : (s.rc wd B w (m + 1)).testBit v with
      | true => rfl
      | false => exact absurd (e.trans h1.symm) hv
    have hvw : v < wd := by
      by_cases c : v < wd
      · exact c
      · rw [bits_of_lt (rc_lt g hw (m + 1)) (by omega)] at h2
        cases h2
    have := cnt_lt (f := fun v => (s.rc wd B w m).testBit v) (f' := fun v => (s.rc wd B w (m + 1)).testBit v) (N := wd) (fun u _ hu => rc_sub g hw hB hu) ⟨v, hvw, h1, h2⟩
    omega
theorem least {P : Nat → Prop} : ∀ m, (∃ j, j < m ∧ P j) → ∃ J, J < m ∧ P J ∧ ∀ i, i < J → ¬ P i
  | 0, ⟨j, hj, _⟩ => absurd hj (by omega)
  | m + 1, h => by
    by_cases c : ∃ j, j < m ∧ P j
    · obtain ⟨J, h1, h2, h3⟩ := least m c
      exact ⟨J, by omega, h2, h3⟩
    · obtain ⟨j, hj, hp⟩ := h
      have : j = m := by
        by_cases e : j < m
        · exact absurd ⟨j, e, hp⟩ c
        · omega
      subst this
      exact ⟨j, by omega, hp, fun i hi hpi => c ⟨i, hi, hpi⟩⟩
theorem rc_fix {w : Nat} (g : s.Good wd) (hw : w < wd) (hB : B.testBit w = false) : ∃ J, J < wd ∧ s.rc wd B w (J + 1) = s.rc wd B w J ∧ ∀ i, i < J → s.rc wd B w (i + 1) ≠ s.rc wd B w i := by
  refine least wd (Classical.byContradiction (fun q => ?_))
  have h1 := rc_grow g hw hB wd (fun j hj hp => q ⟨j, hj, hp⟩)
  have h2 := cntN_le (f := fun v => (s.rc wd B w wd).testBit v) (k := wd)
  omega
theorem rc_stay {w J : Nat} (h : s.rc wd B w (J + 1) = s.rc wd B w J) : ∀ d, s.rc wd B w (J + d) = s.rc wd B w J
  | 0 => rfl
  | d + 1 => by
    show s.rs wd B (s.rc wd B w (J + d)) = _
    rw [rc_stay h d]
    exact h
theorem rc_8 {w k : Nat} (g : s.Good wd) (hw : w < wd) (hB : B.testBit w = false) (hk : wd ≤ k + 1) : s.rc wd B w k = s.rc wd B w 8 := by
  have hw8 := g.h_wd
  obtain ⟨J, h1, h2, -⟩ := rc_fix g hw hB
  have e1 := rc_stay h2 (k - J)
  have e2 := rc_stay h2 (8 - J)
  rw [show J + (k - J) = k by omega] at e1
  rw [show J + (8 - J) = 8 by omega] at e2
  rw [e1, e2]
/-! the class -/
theorem cSpread {n i S : Nat} {M : Mem} (hn : 100 < n) (g : s.Good wd) (h : StC wd s i M) (hS : S < 2 ^ wd) : f_X5_spread n i (nI S) M = some (nI (s.sp wd S), M) := by
  have hw := g.h_wd
  have hS8 : S < 256 := Nat.lt_of_lt_of_le hS (Nat.pow_le_pow_right (by decide) hw : 2 ^ wd ≤ 2 ^ 8)
  refine is_ok ?_
  unfold f_X5_spread
  refine ok_for (fun k (_ : Unit) => (nI (s.spr S k), nI k, M)) wd (fun k _ => True) (fun k u hk _ => ?_) (fun u _ => ?_) n 0 () (by omega) (by omega) trivial
  · have hbit := bit_at S hS8 k (by omega)
    simp only [b_X5_spread_4, h.wards]
    rw [if_neg (nI_ge hk (by omega))]
    unfold j_X5_spread_30
    by_cases c : ((nI S >>> (nI k &&& 31)) &&& (1 : Int32)) = (1 : Int32)
    · rw [decide_eq_true c] at hbit
      rw [if_pos c, ck_pos (n_in (by omega) (by decide)), nI_clamp (by omega), h.beside k hk, nI_or, nI_1]
      refine ok_inl ⟨(), ?_, trivial⟩
      rw [Sp.spr, if_pos hbit.symm]
    · rw [decide_eq_false c] at hbit
      rw [if_neg c, nI_1]
      refine ok_inl ⟨(), ?_, trivial⟩
      rw [Sp.spr, ← hbit]
      rfl
  · simp only [b_X5_spread_4, h.wards]
    exact ok_ite (fun c => ok_mr (ok_some rfl)) (fun c => absurd (nI_le (Nat.le_refl _) (by omega)) c)
theorem m1_is : (-1 : Int32) = nI 4294967295 := by decide
theorem cReached {n i w : Nat} {M : Mem} (hn : 100 < n) (g : s.Good wd) (h : StC wd s i M) (hw : w < wd) : f_X5_reached n i (nI w) (nI B) M = some (nI (s.rc wd B w 8), M) := by
  have hwd := g.h_wd
  refine is_ok ?_
  unfold f_X5_reached
  rw [one_sh w (by omega)]
  refine ok_for (fun k (_ : Unit) => (nI (s.rc wd B w k), nI k, M)) 8 (fun k _ => True) (fun k u hk _ => ?_) (fun u _ => ?_) n 0 () (by omega) (by omega) trivial
  · simp only [b_X5_reached_7]
    rw [if_neg (show ¬ (8 : Int32) ≤ nI k from nI_ge (b := 8) hk (by decide)), cSpread hn g h (rc_lt g hw k)]
    simp only [bd]
    rw [m1_is, nI_xor, nI_and, nI_1]
    exact ok_inl ⟨(), rfl, trivial⟩
  · simp only [b_X5_reached_7]
    rw [if_pos (show (8 : Int32) ≤ nI 8 by decide)]
    exact ok_mr (ok_some rfl)
/-! the reference -/
def Sp.hk (s : Sp) (B S : Nat) : Nat → Nat
  | 0 => S
  | k + 1 => if S.testBit k then s.hk B S k ||| (s.beside k &&& msk B) else s.hk B S k
theorem hk_bit {S v : Nat} : ∀ k, (s.hk B S k).testBit v = (S.testBit v || anyN (fun w => S.testBit w && ((s.beside w).testBit v && (msk B).testBit v)) k)
  | 0 => by simp [Sp.hk, anyN]
  | k + 1 => by
    rw [Sp.hk, anyN]
    cases hb : S.testBit k with
    | true =>
      simp only [if_true, Nat.testBit_or, Nat.testBit_and, hk_bit k, Bool.true_and, Bool.or_assoc]
    | false =>
      simp only [Bool.false_eq_true, if_false, hk_bit k, Bool.false_and, Bool.or_false]
theorem hk_rs {S : Nat} (g : s.Good wd) (h : S < 2 ^ wd) (hd : ∀ v, S.testBit v = true → B.testBit v = false) : s.hk B S wd = s.rs wd B S := by
  have hw := g.h_wd
  apply Nat.eq_of_testBit_eq
  intro v
  rw [Bool.eq_iff_iff, hk_bit, rs_iff g h, Bool.or_eq_true, anyN_iff]
  constructor
  · rintro (h1 | ⟨w, h1, h2⟩)
    · refine ⟨?_, hd v h1, Or.inl h1⟩
      by_cases c : v < wd
      · exact c
      · rw [bits_of_lt h (by omega)] at h1
        cases h1
    · rw [Bool.and_eq_true, Bool.and_eq_true] at h2
      have hv : v < wd := by
        by_cases c : v < wd
        · exact c
        · have h3 := h2.2.1
          rw [bits_of_lt (g.h_beside w h1) (by omega)] at h3
          cases h3
      have h4 := h2.2.2
      rw [msk_bit (by omega)] at h4
      exact ⟨hv, by simpa using h4, Or.inr ⟨w, h1, h2.1, h2.2.1⟩⟩
  · rintro ⟨h1, h2, h3 | ⟨w, h3, h4, h5⟩⟩
    · exact Or.inl h3
    · refine Or.inr ⟨w, h3, ?_⟩
      rw [h4, h5, msk_bit (by omega), h2]
      rfl
theorem mHanging {n w : Nat} {M : Mem} (hn : 100 < n) (g : s.Good wd) (h : StR wd s 12 0 M) (hwd1 : gi M 0 1 = nI wd) (hw : w < wd) (hB : B.testBit w = false) : f_X9_hanging n (nI w) (nI B) M = some (nI (s.rc wd B w 8), M) := by
  have hwd := g.h_wd
  have hp : 2 ^ wd ≤ 2 ^ 8 := Nat.pow_le_pow_right (by decide) hwd
  obtain ⟨J, j1, j2, j3⟩ := rc_fix g hw hB
  have inner : ∀ S, S < 2 ^ wd → gl (b_X9_hanging_19 n (nI B) (nI S)) n (nI S, (0 : Int32), M) = some (.inl (nI (s.hk B S wd), nI S, M)) := fun S hS => by
    obtain ⟨u, m, -, ee⟩ := gl_k (body := b_X9_hanging_19 n (nI B) (nI S)) (fun k (_ : Unit) => (nI (s.hk B S k), nI k, M)) wd (fun k _ => True) (fun k u hk _ => by
      refine ⟨(), ?_, trivial⟩
      have hbit := bit_at S (by omega) k (by omega)
      have i1 : inb ((46 : Int32) + nI k) 108 ∧ ((46 : Int32) + nI k).toNatClampNeg = 0 + 46 + k := by
        rw [show (46 : Int32) + nI k = nI (46 + k) from nI_add 46 k, nI_clamp (by omega)]
        exact ⟨n_in (by omega) (by decide), by omega⟩
      rw [b_X9_hanging_19]
      try simp only []
      rw [hwd1, if_neg (nI_ge hk (by omega))]
      unfold j_X9_hanging_58
      by_cases c : ((nI S >>> (nI k &&& 31)) &&& (1 : Int32)) = (1 : Int32)
      · rw [decide_eq_true c] at hbit
        rw [if_pos c, ck_pos i1.1, i1.2, h.beside k hk, m1_is, nI_xor, nI_and, nI_or, nI_1, Sp.hk, if_pos hbit.symm]
        rfl
      · rw [decide_eq_false c] at hbit
        rw [if_neg c, show (0 : Int32) = nI 0 from rfl, nI_or, Nat.or_zero, nI_1, Sp.hk, ← hbit]
        rfl) n 0 () (by omega) (by omega) trivial
    rw [show (nI S, (0 : Int32), M) = (nI (s.hk B S 0), nI 0, M) from rfl, ee]
    refine gl_mr ?_
    rw [b_X9_hanging_19]
    try simp only []
    rw [hwd1, if_pos (nI_le (Nat.le_refl _) (by omega))]
    rfl
  have step : ∀ k x, x ≠ s.rc wd B w k → x < 2 ^ 31 → b_X9_hanging_7 n (nI B) (nI (s.rc wd B w k), nI x, M) = some (.inl (nI (s.rc wd B w (k + 1)), nI (s.rc wd B w k), M)) := fun k x hx hx2 => by
    have hl := rc_lt (B := B) g hw k
    rw [b_X9_hanging_7]
    try simp only []
    rw [if_neg (fun q => hx ((nI_eq hx2 (by omega)).mp q)), inner _ hl, hk_rs g hl (rc_dis g hw hB k)]
    rfl
  unfold f_X9_hanging
  rw [one_sh w (by omega)]
  obtain ⟨m, hm⟩ : ∃ m, n = m + 1 := ⟨n - 1, by omega⟩
  have e0 : gl (b_X9_hanging_7 n (nI B)) n (nI (2 ^ w), (0 : Int32), M) = gl (b_X9_hanging_7 n (nI B)) m (nI (s.rc wd B w 1), nI (s.rc wd B w 0), M) := by
    have := step 0 0 (by show 0 ≠ 2 ^ w; have := Nat.two_pow_pos w; omega) (by decide)
    have h1 : gl (b_X9_hanging_7 n (nI B)) (m + 1) (nI (s.rc wd B w 0), nI 0, M) = gl (b_X9_hanging_7 n (nI B)) m (nI (s.rc wd B w (0 + 1)), nI (s.rc wd B w 0), M) := gl_inl this
    rw [← hm] at h1
    exact h1
  rw [e0]
  obtain ⟨u, m2, -, ee⟩ := gl_k (body := b_X9_hanging_7 n (nI B)) (fun k (_ : Unit) => (nI (s.rc wd B w (k + 1)), nI (s.rc wd B w k), M)) J (fun k _ => True) (fun k u hk _ => by
    refine ⟨(), step (k + 1) _ (fun q => j3 k hk q.symm) (by have := rc_lt (B := B) g hw k; omega), trivial⟩) m 0 () (by omega) (by omega) trivial
  rw [show (nI (s.rc wd B w 1), nI (s.rc wd B w 0), M) = (nI (s.rc wd B w (0 + 1)), nI (s.rc wd B w 0), M) from rfl, ee]
  have e8 : s.rc wd B w 8 = s.rc wd B w J := by
    have := rc_stay j2 (8 - J)
    rw [show J + (8 - J) = 8 by omega] at this
    exact this
  rw [e8, ← j2]
  refine gl_mr ?_
  rw [b_X9_hanging_7]
  try simp only []
  rw [if_pos trivial]
end Gr
