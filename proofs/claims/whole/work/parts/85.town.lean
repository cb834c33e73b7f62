/-! What stays, and what a town's rules say. -/
def same (A : Nat → Prop) (M M' : Mem) : Prop := (∀ t k, ¬ A t → gi M' t k = gi M t k) ∧ M'.2 = M.2
theorem same.rf {A : Nat → Prop} {M : Mem} : same A M M := ⟨fun _ _ _ => rfl, rfl⟩
theorem same.tr {A : Nat → Prop} {M M' M2 : Mem} (h : same A M M') (h2 : same A M' M2) : same A M M2 := ⟨fun t k ht => (h2.1 t k ht).trans (h.1 t k ht), h2.2.trans h.2⟩
theorem same.mono {A B : Nat → Prop} {M M' : Mem} (h : same A M M') (hAB : ∀ t, A t → B t) : same B M M' := ⟨fun t k ht => h.1 t k (fun c => ht (hAB t c)), h.2⟩
theorem same.si {A : Nat → Prop} {M M' : Mem} (h : same A M M') {i : Nat} (hi : A i) (k : Nat) (x : Int32) : same A M (si M' i k x) := ⟨fun t q ht => by
  rw [gi_si, if_neg (fun c : t = i ∧ q = k => ht (c.1.symm ▸ hi))]
  exact h.1 t q ht, h.2⟩
theorem same.sa {A : Nat → Prop} {M M' : Mem} (h : same A M M') {i : Nat} (hi : A i) (g : Nat → Int32) : same A M (sa M' i g) := ⟨fun t q ht => by
  rw [gi_sa, if_neg (fun c : t = i => ht (c.symm ▸ hi))]
  exact h.1 t q ht, h.2⟩
theorem sa_self (M : Mem) (i : Nat) : sa M i (M.1 i) = M := by
  unfold sa
  have : va_up M.1 i (M.1 i) = M.1 := by
    funext j
    unfold va_up
    by_cases h : j = i <;> simp [h]
  rw [this]
theorem StC.same {wd i : Nat} {s : Sp} {A : Nat → Prop} {M M' : Mem} (h : StC wd s i M) (e : same A M M') (h0 : ¬ A i) (h1 : ¬ A (i + 1)) (h2 : ¬ A (i + 2)) (h3 : ¬ A (i + 3)) (h4 : ¬ A (i + 4)) : StC wd s i M' :=
  ⟨(e.1 _ _ h0).trans h.all, (e.1 _ _ h0).trans h.hung, (e.1 _ _ h0).trans h.wards, (e.1 _ _ h0).trans h.day, (e.1 _ _ h0).trans h.money, (e.1 _ _ h0).trans h.lean, (e.1 _ _ h0).trans h.fell, fun c hc => (e.1 _ _ h1).trans (h.weight c hc), fun c hc => (e.1 _ _ h2).trans (h.mortar c hc), fun c hc => (e.1 _ _ h3).trans (h.faith c hc), fun c hc => (e.1 _ _ h4).trans (h.beside c hc)⟩
def allV (P : Nat → Prop) : List Op → Prop
  | [] => True
  | .inl _ :: p => allV P p
  | .inr (.inl k) :: p => P k ∧ allV P p
  | .inr (.inr _) :: p => allV P p
theorem fold_congr {vals vals' : Nat → Int32} {P : Nat → Prop} (h : ∀ k, k < 9 → P k → vals k = vals' k) : ∀ (p : List Op) (st : List Int32) (q : Nat), wfo p q → allV P p → p.foldl (stp vals) st = p.foldl (stp vals') st
  | [], _, _, _, _ => rfl
  | .inl v :: p, st, q, hw, ha => fold_congr h p (nI v :: st) (q + 1) hw.2.2 ha
  | .inr (.inl k) :: p, st, q, hw, ha => by
    show p.foldl (stp vals) (vals k :: st) = p.foldl (stp vals') (vals' k :: st)
    rw [h k hw.1 ha.1]
    exact fold_congr h p _ (q + 1) hw.2.2 ha.2
  | .inr (.inr 0) :: p, st, q, hw, ha => by
    have e : stp vals st (.inr (.inr 0)) = stp vals' st (.inr (.inr 0)) := by cases st <;> rfl
    show p.foldl (stp vals) (stp vals st _) = p.foldl (stp vals') (stp vals' st _)
    rw [e]
    exact fold_congr h p _ q hw.2 ha
  | .inr (.inr (j + 1)) :: p, st, q, hw, ha => by
    have e : stp vals st (.inr (.inr (j + 1))) = stp vals' st (.inr (.inr (j + 1))) := by
      rcases st with _ | ⟨b, _ | ⟨a, r⟩⟩ <;> rfl
    show p.foldl (stp vals) (stp vals st _) = p.foldl (stp vals') (stp vals' st _)
    rw [e]
    exact fold_congr h p _ (q - 1) hw.2.2.2 ha
abbrev Tw : Type := Nat × Nat × Nat × (Nat → Nat) × (Nat → Option (List Op))
abbrev Tw.ground (s : Tw) : Nat := s.1
abbrev Tw.cost (s : Tw) : Nat := s.2.1
abbrev Tw.winds (s : Tw) : Nat := s.2.2.1
abbrev Tw.wind (s : Tw) : Nat → Nat := s.2.2.2.1
abbrev Tw.rule (s : Tw) : Nat → Option (List Op) := s.2.2.2.2
def vOK (r k : Nat) : Prop := if r = 0 then k < 6 else k < 3 ∨ 6 ≤ k
def RuG (r : Nat) : Option (List Op) → Prop
  | none => True
  | some p => wfo p 0 ∧ allV (vOK r) p ∧ p.length ≤ 700
def Tw.Good (T : Tw) : Prop := (2 ≤ T.ground ∧ T.ground ≤ 16) ∧ (1 ≤ T.cost ∧ T.cost ≤ 99) ∧ (T.winds ≤ 8) ∧ (∀ k, k < T.winds → T.wind k ≤ 9) ∧ (∀ r, r < 3 → RuG r (T.rule r))
theorem Tw.Good.h_ground {T : Tw} (h : Tw.Good T) : 2 ≤ T.ground ∧ T.ground ≤ 16 := h.1
theorem Tw.Good.h_cost {T : Tw} (h : Tw.Good T) : 1 ≤ T.cost ∧ T.cost ≤ 99 := h.2.1
theorem Tw.Good.h_winds {T : Tw} (h : Tw.Good T) : T.winds ≤ 8 := h.2.2.1
theorem Tw.Good.h_wind {T : Tw} (h : Tw.Good T) : ∀ k, k < T.winds → T.wind k ≤ 9 := h.2.2.2.1
theorem Tw.Good.h_rule {T : Tw} (h : Tw.Good T) : ∀ r, r < 3 → RuG r (T.rule r) := h.2.2.2.2
def RuC (j r : Nat) (M : Mem) : Option (List Op) → Prop
  | none => gi M (j + 3) r = -1
  | some p => ∃ f, gi M (j + 3) r = nI f ∧ gi M (j + 4) r = nI (f + p.length) ∧ f + p.length ≤ 700 ∧ cod (gi M (j + 2)) f p
def TwC (T : Tw) (j : Nat) (M : Mem) : Prop := (gi M j 8 = nI T.ground) ∧ (gi M j 9 = nI T.cost) ∧ (gi M j 7 = nI T.winds) ∧ (∀ k, k < T.winds → gi M (j + 1) k = nI (T.wind k)) ∧ (∀ r, r < 3 → RuC j r M (T.rule r))
theorem TwC.ground {T : Tw} {j : Nat} {M : Mem} (h : TwC T j M) : gi M j 8 = nI T.ground := h.1
theorem TwC.cost {T : Tw} {j : Nat} {M : Mem} (h : TwC T j M) : gi M j 9 = nI T.cost := h.2.1
theorem TwC.winds {T : Tw} {j : Nat} {M : Mem} (h : TwC T j M) : gi M j 7 = nI T.winds := h.2.2.1
theorem TwC.wind {T : Tw} {j : Nat} {M : Mem} (h : TwC T j M) : ∀ k, k < T.winds → gi M (j + 1) k = nI (T.wind k) := h.2.2.2.1
theorem TwC.rule {T : Tw} {j : Nat} {M : Mem} (h : TwC T j M) : ∀ r, r < 3 → RuC j r M (T.rule r) := h.2.2.2.2
theorem cod_congr {row row' : Nat → Int32} : ∀ {p : List Op} {f : Nat}, (∀ k, row' k = row k) → cod row f p → cod row' f p
  | [], _, _, _ => trivial
  | _ :: _, _, h, hc => ⟨(h _).trans hc.1, cod_congr h hc.2⟩
theorem TwC.same {T : Tw} {j : Nat} {A : Nat → Prop} {M M' : Mem} (h : TwC T j M) (e : same A M M') (h0 : ¬ A j) (h1 : ¬ A (j + 1)) (h2 : ¬ A (j + 2)) (h3 : ¬ A (j + 3)) (h4 : ¬ A (j + 4)) : TwC T j M' := by
  refine ⟨(e.1 _ _ h0).trans h.ground, (e.1 _ _ h0).trans h.cost, (e.1 _ _ h0).trans h.winds, fun k hk => (e.1 _ _ h1).trans (h.wind k hk), fun r hr => ?_⟩
  have hh := h.rule r hr
  cases hT : T.rule r with
  | none =>
    rw [hT] at hh
    exact (e.1 _ _ h3).trans hh
  | some p =>
    rw [hT] at hh
    obtain ⟨f, a1, a2, a3, a4⟩ := hh
    exact ⟨f, (e.1 _ _ h3).trans a1, (e.1 _ _ h4).trans a2, a3, cod_congr (fun k => e.1 _ _ h2) a4⟩
def bndI (x lo hi : Int32) : Int32 := if lo ≤ x then (if x ≤ hi then x else hi) else lo
theorem cWithin (n : Nat) (x lo hi : Int32) (M : Mem) : f_X8_within n x lo hi M = some (bndI x lo hi, M) := by
  unfold f_X8_within f_J9_min_7cf53 bndI
  by_cases h1 : lo ≤ x
  · rw [if_pos h1, if_pos h1]
    by_cases h2 : x ≤ hi
    · rw [if_neg (Int32.not_lt.mpr h2), if_pos h2]
      rfl
    · rw [if_pos (Int32.not_le.mp h2), if_neg h2]
      rfl
  · rw [if_neg h1, if_neg h1]
theorem mBounded (n : Nat) (x lo hi : Int32) (M : Mem) : f_X9_bounded n x lo hi M = some (bndI x lo hi, M) := by
  unfold f_X9_bounded bndI
  by_cases h1 : lo ≤ x
  · rw [if_pos h1, if_pos h1]
    by_cases h2 : x ≤ hi
    · rw [if_pos h2, if_pos h2]
    · rw [if_neg h2, if_neg h2]
  · rw [if_neg h1, if_neg h1]
theorem cRun {n j r : Nat} {M : Mem} {p : List Op} (hn : 1000 < n) (hr : r < 3) (hw : wfo p 0) (h : RuC j r M (some p)) : ∃ g, f_X6_run n j (nI r) M = some (runP (gi M (j + 5)) p, sa M (j + 6) g) := by
  obtain ⟨f, a1, a2, a3, a4⟩ := h
  obtain ⟨g, hg⟩ := cRun_gl n j r (f + p.length) M hr a3 a2 p [] f n (M.1 (j + 6)) hw (by simp) a4 rfl trivial (by omega)
  refine ⟨g, ?_⟩
  rw [sa_self] at hg
  unfold f_X6_run
  rw [ck, if_pos (n_in hr (by decide)), nI_clamp (by omega), a1]
  exact hg
