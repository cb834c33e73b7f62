/-! Courses fall: the spec, the class. -/
def Sp.drop (wd ground : Nat) : Nat → Sp → Nat × Sp
  | 0, s => (0, s)
  | f + 1, s => if 0 < s.hung ∧ s.hung < ground ∧ s.fs wd / 10 + s.ms < s.ws + s.lean / 5 then ((Sp.drop wd ground f s.low).1 + 1, (Sp.drop wd ground f s.low).2) else (0, s)
theorem drop_good {wd ground : Nat} : ∀ (f : Nat) (s : Sp), s.Good wd → (Sp.drop wd ground f s).2.Good wd ∧ (Sp.drop wd ground f s).1 ≤ s.hung
  | 0, s, g => ⟨g, Nat.zero_le _⟩
  | f + 1, s, g => by
    rw [Sp.drop]
    by_cases c : 0 < s.hung ∧ s.hung < ground ∧ s.fs wd / 10 + s.ms < s.ws + s.lean / 5
    · rw [if_pos c]
      have ih := drop_good (ground := ground) f s.low (Sp.low_good g c.1)
      refine ⟨ih.1, ?_⟩
      have h2 : (Sp.drop wd ground f s.low).1 ≤ s.hung - 1 := ih.2
      show (Sp.drop wd ground f s.low).1 + 1 ≤ s.hung
      omega
    · rw [if_neg c]
      exact ⟨g, Nat.zero_le _⟩
theorem ws_low {s : Sp} (h0 : 0 < s.hung) : s.low.ws + s.weight (s.hung - 1) = s.ws := by
  unfold Sp.ws
  show sumN (fun c => if s.hung ≤ c + 1 then s.weight (c + 1) else s.weight c) (s.hung - 1) + s.weight (s.hung - 1) = sumN s.weight s.hung
  rw [sumN_congr (g := s.weight) (fun j hj => if_neg (by omega))]
  obtain ⟨k, hk⟩ : ∃ k, s.hung = k + 1 := ⟨s.hung - 1, by omega⟩
  rw [hk]
  rfl
theorem ms_low {s : Sp} (h0 : 0 < s.hung) : s.low.ms + s.mortar (s.hung - 1) = s.ms := by
  unfold Sp.ms
  show sumN (fun c => if s.hung ≤ c + 1 then s.mortar (c + 1) else s.mortar c) (s.hung - 1) + s.mortar (s.hung - 1) = sumN s.mortar s.hung
  rw [sumN_congr (g := s.mortar) (fun j hj => if_neg (by omega))]
  obtain ⟨k, hk⟩ : ∃ k, s.hung = k + 1 := ⟨s.hung - 1, by omega⟩
  rw [hk]
  rfl
/-- what is spare, as the class keeps it -/
def Sp.spare (wd : Nat) (s : Sp) : Int32 := nI (s.fs wd / 10 + s.ms) - nI s.ws - nI (s.lean / 5)
theorem spare_neg {wd : Nat} {s : Sp} (g : s.Good wd) : s.spare wd < 0 ↔ s.fs wd / 10 + s.ms < s.ws + s.lean / 5 := by
  have h1 := g.fs_le
  have h2 := g.ms_le
  have h3 := g.ws_le
  have h4 := g.h_lean
  have e : s.spare wd = nI (s.fs wd / 10 + s.ms) - nI (s.ws + s.lean / 5) := by
    unfold Sp.spare
    rw [← nI_add s.ws, Int32.sub_sub]
  rw [e, Int32.lt_iff_toInt_lt, pk_sub_toInt (by omega) (by omega), show (0 : Int32).toInt = 0 from rfl]
  omega
theorem i_cancel (A m c w d : Int32) : A + m - (c + w) - d + (w - m) = A - c - d := by grind
theorem spare_low {wd : Nat} {s : Sp} (h0 : 0 < s.hung) : s.spare wd + (nI (s.weight (s.hung - 1)) - nI (s.mortar (s.hung - 1))) = s.low.spare wd := by
  have e1 := ws_low h0
  have e2 := ms_low h0
  unfold Sp.spare
  rw [← e1, ← e2, show s.low.fs wd = s.fs wd from rfl, show s.low.lean = s.lean from rfl, ← Nat.add_assoc, ← nI_add (s.fs wd / 10 + s.low.ms), ← nI_add s.low.ws]
  exact i_cancel _ _ _ _ _
