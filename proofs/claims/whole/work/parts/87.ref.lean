/-! The reference: sums, doubt, what its rules say. -/
theorem nA_0 (b : Nat) : nI b + (0 : Int32) = nI b := nI_add b 0
theorem nA_2 (b : Nat) : nI b + (2 : Int32) = nI (b + 2) := nI_add b 2
theorem nA_3 (b : Nat) : nI b + (3 : Int32) = nI (b + 3) := nI_add b 3
theorem nA_4 (b : Nat) : nI b + (4 : Int32) = nI (b + 4) := nI_add b 4
theorem nA_5 (b : Nat) : nI b + (5 : Int32) = nI (b + 5) := nI_add b 5
theorem nA_6 (b : Nat) : nI b + (6 : Int32) = nI (b + 6) := nI_add b 6
theorem nA_22 (b : Nat) : nI b + (22 : Int32) = nI (b + 22) := nI_add b 22
theorem nA_38 (b : Nat) : nI b + (38 : Int32) = nI (b + 38) := nI_add b 38
theorem nA_46 (b : Nat) : nI b + (46 : Int32) = nI (b + 46) := nI_add b 46
theorem bit_at : ∀ a, a < 256 → ∀ o, o < 8 → decide (((nI a >>> (nI o &&& 31)) &&& (1 : Int32)) = 1) = a.testBit o := by decide +kernel
def RuM (r : Nat) (M : Mem) : Option (List Op) → Prop
  | none => gi M 0 (5 + r) = -1
  | some p => ∃ f, gi M 0 (5 + r) = nI f ∧ f + len2 p < 1400 ∧ cod2 (gi M 2) f p
def TwM (wd : Nat) (T : Tw) (M : Mem) : Prop := (gi M 0 1 = nI wd) ∧ (gi M 0 2 = nI T.ground) ∧ (gi M 0 3 = nI T.cost) ∧ (gi M 0 4 = nI T.winds) ∧ (∀ k, k < T.winds → gi M 1 k = nI (T.wind k)) ∧ (∀ r, r < 3 → RuM r M (T.rule r))
theorem TwM.wards {wd : Nat} {T : Tw} {M : Mem} (h : TwM wd T M) : gi M 0 1 = nI wd := h.1
theorem TwM.ground {wd : Nat} {T : Tw} {M : Mem} (h : TwM wd T M) : gi M 0 2 = nI T.ground := h.2.1
theorem TwM.cost {wd : Nat} {T : Tw} {M : Mem} (h : TwM wd T M) : gi M 0 3 = nI T.cost := h.2.2.1
theorem TwM.winds {wd : Nat} {T : Tw} {M : Mem} (h : TwM wd T M) : gi M 0 4 = nI T.winds := h.2.2.2.1
theorem TwM.wind {wd : Nat} {T : Tw} {M : Mem} (h : TwM wd T M) : ∀ k, k < T.winds → gi M 1 k = nI (T.wind k) := h.2.2.2.2.1
theorem TwM.rule {wd : Nat} {T : Tw} {M : Mem} (h : TwM wd T M) : ∀ r, r < 3 → RuM r M (T.rule r) := h.2.2.2.2.2
def cntN (f : Nat → Bool) : Nat → Nat
  | 0 => 0
  | k + 1 => cntN f k + (if f k then 1 else 0)
theorem cntN_le {f : Nat → Bool} : ∀ {k : Nat}, cntN f k ≤ k
  | 0 => Nat.le_refl _
  | k + 1 => by
    have := cntN_le (f := f) (k := k)
    rw [cntN]
    split <;> omega
def Sp.doubts (s : Sp) (w : Nat) (o : Nat) : Bool := (s.beside w).testBit o && decide (s.faith o < 10)
def Sp.doubt (wd : Nat) (s : Sp) (w : Nat) : Nat := cntN (s.doubts w) wd
section MS
variable {n b wd : Nat} {M : Mem} {s : Sp} {T : Tw}
theorem mSum {a m : Nat} (hn : 1000 < n) (hb : b + a + m ≤ 108) : f_X9_sumOf n (nI b) (nI a) (nI m) M = some (sumI (fun k => gi M 12 (b + a + k)) m, M) := by
  refine is_ok ?_
  unfold f_X9_sumOf
  refine ok_for (fun k (x : Int32) => (x, nI k, M)) m (fun k x => x = sumI (fun k => gi M 12 (b + a + k)) k) (fun k x hk hx => ?_) (fun x hx => ?_) n 0 0 (by omega) (by omega) rfl
  · simp only [b_X9_sumOf_6, nI_add]
    refine ok_ite (fun c => absurd c (nI_ge hk (by omega))) (fun c => ?_)
    refine ok_ck (n_in (by omega) (by decide)) (ok_inl ⟨x + gi M 12 (nI (b + a + k)).toNatClampNeg, by rw [nI_1], ?_⟩)
    rw [nI_clamp (by omega), hx, sumI]
  · simp only [b_X9_sumOf_6]
    exact ok_ite (fun c => ok_mr (ok_some (by rw [hx]))) (fun c => absurd (nI_le (Nat.le_refl _) (by omega)) c)
theorem mWeight (hn : 1000 < n) (hb : b ≤ 54) (g : s.Good wd) (h : StR wd s 12 b M) : f_X9_weightOf n (nI b) M = some (nI s.ws, M) := by
  have h1 := g.h_hung
  have h2 := g.h_all
  unfold f_X9_weightOf
  rw [nA_3, ck, if_pos (n_in (by omega) (by decide)), nI_clamp (by omega), h.hung, show (6 : Int32) = nI 6 from rfl, mSum hn (by omega), sumI_N (g := s.weight) (fun j hj => h.weight j (by omega))]
  rfl
theorem mMortar (hn : 1000 < n) (hb : b ≤ 54) (g : s.Good wd) (h : StR wd s 12 b M) : f_X9_mortarOf n (nI b) M = some (nI s.ms, M) := by
  have h1 := g.h_hung
  have h2 := g.h_all
  unfold f_X9_mortarOf
  rw [nA_3, ck, if_pos (n_in (by omega) (by decide)), nI_clamp (by omega), h.hung, show (22 : Int32) = nI 22 from rfl, mSum hn (by omega), sumI_N (g := s.mortar) (fun j hj => h.mortar j (by omega))]
  rfl
theorem mFaith (hn : 1000 < n) (hb : b ≤ 54) (g : s.Good wd) (h : StR wd s 12 b M) : f_X9_sumOf n (nI b) (38 : Int32) (nI wd) M = some (nI (s.fs wd), M) := by
  have h1 := g.h_wd
  rw [show (38 : Int32) = nI 38 from rfl, mSum hn (by omega), sumI_N (g := s.faith) (fun j hj => h.faith j (by omega))]
  rfl
theorem mStrength (hn : 1000 < n) (hb : b ≤ 54) (g : s.Good wd) (h : StR wd s 12 b M) (hw : gi M 0 1 = nI wd) : f_X9_strengthOf n (nI b) M = some (nI (s.fs wd / 10 + s.ms), M) := by
  have h1 := g.fs_le
  unfold f_X9_strengthOf
  rw [hw, mFaith hn hb g h]
  simp only [bd]
  rw [mMortar hn hb g h]
  simp only []
  rw [show (10 : Int32) = nI 10 from rfl, pk_div (by omega) (by decide) (by decide), nI_add]
theorem mDoubt {w : Nat} (hn : 1000 < n) (hb : b ≤ 54) (g : s.Good wd) (h : StR wd s 12 b M) (hwd : gi M 0 1 = nI wd) (hw : w < wd) : f_X9_doubtOf n (nI b) (nI w) M = some (nI (s.doubt wd w), M) := by
  have h1 := g.h_wd
  have h2 := g.h_beside w hw
  have h3 : s.beside w < 256 := Nat.lt_of_lt_of_le h2 (Nat.pow_le_pow_right (by decide) h1 : 2 ^ wd ≤ 2 ^ 8)
  refine is_ok ?_
  unfold f_X9_doubtOf
  refine ok_for (fun k (x : Int32) => (x, nI k, M)) wd (fun k x => x = nI (cntN (s.doubts w) k)) (fun k x hk hx => ?_) (fun x hx => ?_) n 0 0 (by omega) (by omega) rfl
  · simp only [b_X9_doubtOf_5, hwd, nA_46, nA_38, nI_add]
    refine ok_ite (fun c => absurd c (nI_ge hk (by omega))) (fun _ => ?_)
    refine ok_ck (n_in (by omega) (by decide)) ?_
    rw [nI_clamp (show b + 46 + w < 2 ^ 31 by omega), h.beside w hw]
    have hbit := bit_at (s.beside w) h3 k (by omega)
    refine ok_ite (fun c => ?_) (fun c => ?_)
    · rw [decide_eq_true c] at hbit
      refine ok_ck (n_in (by omega) (by decide)) ?_
      rw [nI_clamp (show b + 38 + k < 2 ^ 31 by omega), h.faith k hk]
      have hf := g.h_faith k hk
      refine ok_ite (fun c2 => ?_) (fun c2 => ?_)
      · have c3 : 10 ≤ s.faith k := (nI_leI (a := 10) (by decide) (by omega)).mp c2
        rw [j_X9_doubtOf_56, j_X9_doubtOf_57]
        refine ok_inl ⟨x + 0, by rw [nI_1], ?_⟩
        rw [hx, cntN, Sp.doubts, ← hbit, decide_eq_false (by omega)]
        exact nI_add _ 0
      · have c3 : ¬ 10 ≤ s.faith k := fun q => c2 ((nI_leI (a := 10) (by decide) (by omega)).mpr q)
        rw [j_X9_doubtOf_57]
        refine ok_inl ⟨x + 1, by rw [nI_1], ?_⟩
        rw [hx, cntN, Sp.doubts, ← hbit, decide_eq_true (by omega)]
        exact nI_add _ 1
    · rw [decide_eq_false c] at hbit
      rw [j_X9_doubtOf_56, j_X9_doubtOf_57]
      refine ok_inl ⟨x + 0, by rw [nI_1], ?_⟩
      rw [hx, cntN, Sp.doubts, ← hbit]
      exact nI_add _ 0
  · simp only [b_X9_doubtOf_5, hwd]
    exact ok_ite (fun c => ok_mr (ok_some (by rw [hx]; rfl))) (fun c => absurd (nI_le (Nat.le_refl _) (by omega)) c)
end MS
