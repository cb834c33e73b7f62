/-! The spec in the middle: what is now. -/
abbrev Sp : Type := Nat × Nat × Nat × Nat × Nat × Nat × (Nat → Nat) × (Nat → Nat) × (Nat → Nat) × (Nat → Nat)
abbrev Sp.all (s : Sp) : Nat := s.1
abbrev Sp.hung (s : Sp) : Nat := s.2.1
abbrev Sp.day (s : Sp) : Nat := s.2.2.1
abbrev Sp.money (s : Sp) : Nat := s.2.2.2.1
abbrev Sp.lean (s : Sp) : Nat := s.2.2.2.2.1
abbrev Sp.fell (s : Sp) : Nat := s.2.2.2.2.2.1
abbrev Sp.weight (s : Sp) : Nat → Nat := s.2.2.2.2.2.2.1
abbrev Sp.mortar (s : Sp) : Nat → Nat := s.2.2.2.2.2.2.2.1
abbrev Sp.faith (s : Sp) : Nat → Nat := s.2.2.2.2.2.2.2.2.1
abbrev Sp.beside (s : Sp) : Nat → Nat := s.2.2.2.2.2.2.2.2.2
/-- bounds that always hold -/
def Sp.Good (wd : Nat) (s : Sp) : Prop := (wd ≤ 8) ∧ (s.hung ≤ s.all) ∧ (s.all ≤ 16) ∧ (s.day ≤ 20000) ∧ (s.money ≤ 999) ∧ (s.lean ≤ 99) ∧ (s.fell ≤ 16) ∧ (∀ c, c < s.all → 1 ≤ s.weight c ∧ s.weight c ≤ 9) ∧ (∀ c, c < s.all → s.mortar c ≤ 9) ∧ (∀ w, w < wd → s.faith w ≤ 99) ∧ (∀ w, w < wd → s.beside w < 2 ^ wd) ∧ (∀ v w, v < wd → w < wd → (s.beside v).testBit w = (s.beside w).testBit v) ∧ (∀ w, w < wd → (s.beside w).testBit w = false)
theorem Sp.Good.h_wd {wd : Nat} {s : Sp} (h : Sp.Good wd s) : wd ≤ 8 := h.1
theorem Sp.Good.h_hung {wd : Nat} {s : Sp} (h : Sp.Good wd s) : s.hung ≤ s.all := h.2.1
theorem Sp.Good.h_all {wd : Nat} {s : Sp} (h : Sp.Good wd s) : s.all ≤ 16 := h.2.2.1
theorem Sp.Good.h_day {wd : Nat} {s : Sp} (h : Sp.Good wd s) : s.day ≤ 20000 := h.2.2.2.1
theorem Sp.Good.h_money {wd : Nat} {s : Sp} (h : Sp.Good wd s) : s.money ≤ 999 := h.2.2.2.2.1
theorem Sp.Good.h_lean {wd : Nat} {s : Sp} (h : Sp.Good wd s) : s.lean ≤ 99 := h.2.2.2.2.2.1
theorem Sp.Good.h_fell {wd : Nat} {s : Sp} (h : Sp.Good wd s) : s.fell ≤ 16 := h.2.2.2.2.2.2.1
theorem Sp.Good.h_weight {wd : Nat} {s : Sp} (h : Sp.Good wd s) : ∀ c, c < s.all → 1 ≤ s.weight c ∧ s.weight c ≤ 9 := h.2.2.2.2.2.2.2.1
theorem Sp.Good.h_mortar {wd : Nat} {s : Sp} (h : Sp.Good wd s) : ∀ c, c < s.all → s.mortar c ≤ 9 := h.2.2.2.2.2.2.2.2.1
theorem Sp.Good.h_faith {wd : Nat} {s : Sp} (h : Sp.Good wd s) : ∀ w, w < wd → s.faith w ≤ 99 := h.2.2.2.2.2.2.2.2.2.1
theorem Sp.Good.h_beside {wd : Nat} {s : Sp} (h : Sp.Good wd s) : ∀ w, w < wd → s.beside w < 2 ^ wd := h.2.2.2.2.2.2.2.2.2.2.1
theorem Sp.Good.h_sym {wd : Nat} {s : Sp} (h : Sp.Good wd s) : ∀ v w, v < wd → w < wd → (s.beside v).testBit w = (s.beside w).testBit v := h.2.2.2.2.2.2.2.2.2.2.2.1
theorem Sp.Good.h_self {wd : Nat} {s : Sp} (h : Sp.Good wd s) : ∀ w, w < wd → (s.beside w).testBit w = false := h.2.2.2.2.2.2.2.2.2.2.2.2
/-- the class' rows at thing i hold it -/
def StC (wd : Nat) (s : Sp) (i : Nat) (M : Mem) : Prop := (gi M i 5 = nI s.all) ∧ (gi M i 6 = nI s.hung) ∧ (gi M i 7 = nI wd) ∧ (gi M i 8 = nI s.day) ∧ (gi M i 9 = nI s.money) ∧ (gi M i 10 = nI s.lean) ∧ (gi M i 11 = nI s.fell) ∧ (∀ c, c < s.all → gi M (i + 1) c = nI (s.weight c)) ∧ (∀ c, c < s.all → gi M (i + 2) c = nI (s.mortar c)) ∧ (∀ w, w < wd → gi M (i + 3) w = nI (s.faith w)) ∧ (∀ w, w < wd → gi M (i + 4) w = nI (s.beside w))
theorem StC.all {wd : Nat} {s : Sp} {i : Nat} {M : Mem} (h : StC wd s i M) : gi M i 5 = nI s.all := h.1
theorem StC.hung {wd : Nat} {s : Sp} {i : Nat} {M : Mem} (h : StC wd s i M) : gi M i 6 = nI s.hung := h.2.1
theorem StC.wards {wd : Nat} {s : Sp} {i : Nat} {M : Mem} (h : StC wd s i M) : gi M i 7 = nI wd := h.2.2.1
theorem StC.day {wd : Nat} {s : Sp} {i : Nat} {M : Mem} (h : StC wd s i M) : gi M i 8 = nI s.day := h.2.2.2.1
theorem StC.money {wd : Nat} {s : Sp} {i : Nat} {M : Mem} (h : StC wd s i M) : gi M i 9 = nI s.money := h.2.2.2.2.1
theorem StC.lean {wd : Nat} {s : Sp} {i : Nat} {M : Mem} (h : StC wd s i M) : gi M i 10 = nI s.lean := h.2.2.2.2.2.1
theorem StC.fell {wd : Nat} {s : Sp} {i : Nat} {M : Mem} (h : StC wd s i M) : gi M i 11 = nI s.fell := h.2.2.2.2.2.2.1
theorem StC.weight {wd : Nat} {s : Sp} {i : Nat} {M : Mem} (h : StC wd s i M) : ∀ c, c < s.all → gi M (i + 1) c = nI (s.weight c) := h.2.2.2.2.2.2.2.1
theorem StC.mortar {wd : Nat} {s : Sp} {i : Nat} {M : Mem} (h : StC wd s i M) : ∀ c, c < s.all → gi M (i + 2) c = nI (s.mortar c) := h.2.2.2.2.2.2.2.2.1
theorem StC.faith {wd : Nat} {s : Sp} {i : Nat} {M : Mem} (h : StC wd s i M) : ∀ w, w < wd → gi M (i + 3) w = nI (s.faith w) := h.2.2.2.2.2.2.2.2.2.1
theorem StC.beside {wd : Nat} {s : Sp} {i : Nat} {M : Mem} (h : StC wd s i M) : ∀ w, w < wd → gi M (i + 4) w = nI (s.beside w) := h.2.2.2.2.2.2.2.2.2.2
/-- a row of the reference holds it: thing t, from place b on -/
def StR (wd : Nat) (s : Sp) (t b : Nat) (M : Mem) : Prop := (gi M t b = nI s.day) ∧ (gi M t (b + 1) = nI s.money) ∧ (gi M t (b + 2) = nI s.lean) ∧ (gi M t (b + 3) = nI s.hung) ∧ (gi M t (b + 4) = nI s.all) ∧ (gi M t (b + 5) = nI s.fell) ∧ (∀ c, c < s.all → gi M t (b + 6 + c) = nI (s.weight c)) ∧ (∀ c, c < s.all → gi M t (b + 22 + c) = nI (s.mortar c)) ∧ (∀ w, w < wd → gi M t (b + 38 + w) = nI (s.faith w)) ∧ (∀ w, w < wd → gi M t (b + 46 + w) = nI (s.beside w))
theorem StR.day {wd : Nat} {s : Sp} {t b : Nat} {M : Mem} (h : StR wd s t b M) : gi M t b = nI s.day := h.1
theorem StR.money {wd : Nat} {s : Sp} {t b : Nat} {M : Mem} (h : StR wd s t b M) : gi M t (b + 1) = nI s.money := h.2.1
theorem StR.lean {wd : Nat} {s : Sp} {t b : Nat} {M : Mem} (h : StR wd s t b M) : gi M t (b + 2) = nI s.lean := h.2.2.1
theorem StR.hung {wd : Nat} {s : Sp} {t b : Nat} {M : Mem} (h : StR wd s t b M) : gi M t (b + 3) = nI s.hung := h.2.2.2.1
theorem StR.all {wd : Nat} {s : Sp} {t b : Nat} {M : Mem} (h : StR wd s t b M) : gi M t (b + 4) = nI s.all := h.2.2.2.2.1
theorem StR.fell {wd : Nat} {s : Sp} {t b : Nat} {M : Mem} (h : StR wd s t b M) : gi M t (b + 5) = nI s.fell := h.2.2.2.2.2.1
theorem StR.weight {wd : Nat} {s : Sp} {t b : Nat} {M : Mem} (h : StR wd s t b M) : ∀ c, c < s.all → gi M t (b + 6 + c) = nI (s.weight c) := h.2.2.2.2.2.2.1
theorem StR.mortar {wd : Nat} {s : Sp} {t b : Nat} {M : Mem} (h : StR wd s t b M) : ∀ c, c < s.all → gi M t (b + 22 + c) = nI (s.mortar c) := h.2.2.2.2.2.2.2.1
theorem StR.faith {wd : Nat} {s : Sp} {t b : Nat} {M : Mem} (h : StR wd s t b M) : ∀ w, w < wd → gi M t (b + 38 + w) = nI (s.faith w) := h.2.2.2.2.2.2.2.2.1
theorem StR.beside {wd : Nat} {s : Sp} {t b : Nat} {M : Mem} (h : StR wd s t b M) : ∀ w, w < wd → gi M t (b + 46 + w) = nI (s.beside w) := h.2.2.2.2.2.2.2.2.2
def sumN (f : Nat → Nat) : Nat → Nat
  | 0 => 0
  | k + 1 => sumN f k + f k
theorem sumN_le {f : Nat → Nat} {B : Nat} : ∀ {k : Nat}, (∀ j, j < k → f j ≤ B) → sumN f k ≤ B * k
  | 0, _ => Nat.zero_le _
  | k + 1, h => by
    have h1 := sumN_le (k := k) (fun j hj => h j (by omega))
    have h2 := h k (by omega)
    rw [sumN, Nat.mul_succ]
    omega
theorem sumN_congr {f g : Nat → Nat} : ∀ {k : Nat}, (∀ j, j < k → f j = g j) → sumN f k = sumN g k
  | 0, _ => rfl
  | k + 1, h => by
    rw [sumN, sumN, sumN_congr (fun j hj => h j (by omega)), h k (by omega)]
theorem sumI_N {f : Nat → Int32} {g : Nat → Nat} : ∀ {k : Nat}, (∀ j, j < k → f j = nI (g j)) → sumI f k = nI (sumN g k)
  | 0, _ => rfl
  | k + 1, h => by
    rw [sumI, sumN, sumI_N (fun j hj => h j (by omega)), h k (by omega), nI_add]
def Sp.ws (s : Sp) : Nat := sumN s.weight s.hung
def Sp.ms (s : Sp) : Nat := sumN s.mortar s.hung
def Sp.fs (wd : Nat) (s : Sp) : Nat := sumN s.faith wd
section CS
variable {n i wd : Nat} {M : Mem} {s : Sp}
theorem cWeightHung (hn : 100 < n) (g : s.Good wd) (h : StC wd s i M) : f_X4_weightHung n i M = some (nI s.ws, M) := by
  have h1 := g.h_hung
  have h2 := g.h_all
  rw [weightHung_is h.hung (by omega) (by omega), sumI_N (g := s.weight) (fun j hj => h.weight j (by omega))]
  rfl
theorem cMortarHung (hn : 100 < n) (g : s.Good wd) (h : StC wd s i M) : f_X4_mortarHung n i M = some (nI s.ms, M) := by
  have h1 := g.h_hung
  have h2 := g.h_all
  have e : f_X4_mortarHung n i M = some (sumI (gi M (i + 2)) s.hung, M) := by
    refine is_ok ?_
    unfold f_X4_mortarHung
    refine ok_for (fun k (a : Int32) => (a, nI k, M)) s.hung (fun k a => a = sumI (gi M (i + 2)) k) (fun k a hk ha => ?_) (fun a ha => ?_) n 0 0 (by omega) (by omega) rfl
    · simp only [b_X4_mortarHung_4, h.hung]
      refine ok_ite (fun c => absurd c (nI_ge hk (by omega))) (fun c => ?_)
      refine ok_ck (n_in (by omega) (by decide)) (ok_inl ⟨a + gi M (i + 2) (nI k).toNatClampNeg, by rw [nI_1], ?_⟩)
      rw [nI_clamp (by omega), ha, sumI]
    · simp only [b_X4_mortarHung_4, h.hung]
      exact ok_ite (fun c => ok_mr (ok_some (by rw [ha]))) (fun c => absurd (nI_le (Nat.le_refl _) (by omega)) c)
  rw [e, sumI_N (g := s.mortar) (fun j hj => h.mortar j (by omega))]
  rfl
theorem cFaithTogether (hn : 100 < n) (g : s.Good wd) (h : StC wd s i M) : f_X4_faithTogether n i M = some (nI (s.fs wd), M) := by
  have h1 := g.h_wd
  have e : f_X4_faithTogether n i M = some (sumI (gi M (i + 3)) wd, M) := by
    refine is_ok ?_
    unfold f_X4_faithTogether
    refine ok_for (fun k (a : Int32) => (a, nI k, M)) wd (fun k a => a = sumI (gi M (i + 3)) k) (fun k a hk ha => ?_) (fun a ha => ?_) n 0 0 (by omega) (by omega) rfl
    · simp only [b_X4_faithTogether_4, h.wards]
      refine ok_ite (fun c => absurd c (nI_ge hk (by omega))) (fun c => ?_)
      refine ok_ck (n_in (by omega) (by decide)) (ok_inl ⟨a + gi M (i + 3) (nI k).toNatClampNeg, by rw [nI_1], ?_⟩)
      rw [nI_clamp (by omega), ha, sumI]
    · simp only [b_X4_faithTogether_4, h.wards]
      exact ok_ite (fun c => ok_mr (ok_some (by rw [ha]))) (fun c => absurd (nI_le (Nat.le_refl _) (by omega)) c)
  rw [e, sumI_N (g := s.faith) (fun j hj => h.faith j (by omega))]
  rfl
theorem Sp.Good.ws_le (g : s.Good wd) : s.ws ≤ 144 := by
  have h1 := g.h_hung
  have h2 := g.h_all
  have := sumN_le (f := s.weight) (B := 9) (k := s.hung) (fun j hj => (g.h_weight j (by omega)).2)
  unfold Sp.ws
  omega
theorem Sp.Good.ms_le (g : s.Good wd) : s.ms ≤ 144 := by
  have h1 := g.h_hung
  have h2 := g.h_all
  have := sumN_le (f := s.mortar) (B := 9) (k := s.hung) (fun j hj => g.h_mortar j (by omega))
  unfold Sp.ms
  omega
theorem Sp.Good.fs_le (g : s.Good wd) : s.fs wd ≤ 792 := by
  have h1 := g.h_wd
  have := sumN_le (f := s.faith) (B := 99) (k := wd) (fun j hj => g.h_faith j hj)
  unfold Sp.fs
  omega
theorem cStrength (hn : 100 < n) (g : s.Good wd) (h : StC wd s i M) : f_X4_strength n i M = some (nI (s.fs wd / 10 + s.ms), M) := by
  have h1 := g.fs_le
  unfold f_X4_strength
  rw [cFaithTogether hn g h]
  simp only [bd]
  rw [cMortarHung hn g h]
  simp only [bd]
  rw [nk, pk_div (by omega) (by decide) (by decide), nI_add]
end CS
