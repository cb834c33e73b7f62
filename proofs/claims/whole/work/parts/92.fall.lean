/-! The lowest course falls: the class. -/
def rw2 (i : Nat) : Nat → Prop := fun t => t = i + 1 ∨ t = i + 2
def rw3 (i : Nat) : Nat → Prop := fun t => t = i ∨ t = i + 1 ∨ t = i + 2
def shf (h c : Nat) (f : Nat → Nat) (k : Nat) : Nat := if h ≤ k + 1 ∧ k + 1 < c then f (k + 1) else f k
theorem cTake {n i wd : Nat} {M : Mem} {s : Sp} (hn : 1000 < n) (g : s.Good wd) (h : StC wd s i M) (h0 : 0 < s.hung) : ∃ M', f_X4_takeLowest n i M = some M' ∧ StC wd s.low i M' ∧ same (rw3 i) M M' := by
  have h1 := g.h_hung
  have h2 := g.h_all
  have key : ok (fun M' => StC wd s.low i M' ∧ same (rw3 i) M M') (f_X4_takeLowest n i M) := by
    unfold f_X4_takeLowest
    rw [h.hung]
    refine ok_for (fun c (M' : Mem) => (nI c, M')) s.all (fun c M' => same (rw2 i) M M' ∧ (∀ k, k < s.all → gi M' (i + 1) k = nI (shf s.hung c s.weight k)) ∧ (∀ k, k < s.all → gi M' (i + 2) k = nI (shf s.hung c s.mortar k)) ∧ s.hung ≤ c) (fun c M' hc hI => ?_) (fun M' hI => ?_) n s.hung M h1 (by omega) ⟨same.rf, fun k hk => ?_, fun k hk => ?_, Nat.le_refl _⟩
    · obtain ⟨e, w1, w2, hhc⟩ := hI
      have hi : gi M' i 5 = nI s.all := (e.1 i 5 (by unfold rw2; omega)).trans h.all
      obtain ⟨c, rfl⟩ : ∃ d, c = d + 1 := ⟨c - 1, by omega⟩
      simp only [b_X4_takeLowest_5, hi, nI_pred]
      refine ok_ite (fun q => absurd q (nI_ge hc (by omega))) (fun _ => ?_)
      refine ok_ck (n_in (by omega) (by decide)) (ok_ck (n_in (by omega) (by decide)) (ok_ck (n_in (by omega) (by decide)) (ok_ck (n_in (by omega) (by decide)) ?_)))
      rw [nI_clamp (show c < 2 ^ 31 by omega), nI_clamp (show c + 1 < 2 ^ 31 by omega)]
      refine ok_inl ⟨_, by rw [nI_1], (e.si (Or.inl rfl) _ _).si (Or.inr rfl) _ _, fun k hk => ?_, fun k hk => ?_, by omega⟩
      · have hx := w1 (c + 1) hc
        have hy := w1 k hk
        simp only [gi_si, show ¬ (i + 1 = i + 2) by omega, false_and, if_false, true_and]
        by_cases hkc : k = c
        · subst hkc
          rw [if_pos rfl, hx]
          unfold shf
          rw [if_neg (by omega), if_pos (by omega)]
        · rw [if_neg hkc, hy]
          unfold shf
          by_cases hq : s.hung ≤ k + 1 ∧ k + 1 < c + 1
          · rw [if_pos hq, if_pos (by omega)]
          · rw [if_neg hq, if_neg (by omega)]
      · have hx := w2 (c + 1) hc
        have hy := w2 k hk
        simp only [gi_si, show ¬ (i + 2 = i + 1) by omega, false_and, if_false, true_and]
        by_cases hkc : k = c
        · subst hkc
          rw [if_pos rfl, hx]
          unfold shf
          rw [if_neg (by omega), if_pos (by omega)]
        · rw [if_neg hkc, hy]
          unfold shf
          by_cases hq : s.hung ≤ k + 1 ∧ k + 1 < c + 1
          · rw [if_pos hq, if_pos (by omega)]
          · rw [if_neg hq, if_neg (by omega)]
    · obtain ⟨e, w1, w2, hhc⟩ := hI
      have hi : ∀ k, gi M' i k = gi M i k := fun k => e.1 i k (by unfold rw2; omega)
      simp only [b_X4_takeLowest_5, hi, h.all]
      refine ok_ite (fun _ => ok_mr ?_) (fun q => absurd (nI_le (Nat.le_refl _) (by omega)) q)
      have p1 : nI s.hung - (1 : Int32) = nI (s.hung - 1) := pk_sub (b := 1) (by omega)
      have p2 : nI s.all - (1 : Int32) = nI (s.all - 1) := pk_sub (b := 1) (by omega)
      have e3 : same (rw3 i) M M' := e.mono (fun t ht => Or.inr ht)
      have ne1 : ¬ i + 1 = i := by omega
      have ne2 : ¬ i + 2 = i := by omega
      have ne3 : ¬ i + 3 = i := by omega
      have ne4 : ¬ i + 4 = i := by omega
      refine ok_some ⟨⟨?_, ?_, ?_, ?_, ?_, ?_, ?_, fun c hc => ?_, fun c hc => ?_, fun w hw => ?_, fun w hw => ?_⟩, (e3.si (Or.inl rfl) _ _).si (Or.inl rfl) _ _⟩
      · simp [gi_si, hi, h.all, p2, Sp.low]
      · simp [gi_si, hi, h.hung, p1, Sp.low]
      · simp [gi_si, hi, h.wards]
      · simp [gi_si, hi, h.day, Sp.low]
      · simp [gi_si, hi, h.money, Sp.low]
      · simp [gi_si, hi, h.lean, Sp.low]
      · simp [gi_si, hi, h.fell, Sp.low]
      · have hc : c < s.all - 1 := hc
        simp only [gi_si, ne1, false_and, if_false]
        rw [w1 c (by omega)]
        show nI (shf _ _ _ _) = nI (if s.hung ≤ c + 1 then s.weight (c + 1) else s.weight c)
        unfold shf
        by_cases hq : s.hung ≤ c + 1
        · rw [if_pos (by omega), if_pos hq]
        · rw [if_neg (by omega), if_neg hq]
      · have hc : c < s.all - 1 := hc
        simp only [gi_si, ne2, false_and, if_false]
        rw [w2 c (by omega)]
        show nI (shf _ _ _ _) = nI (if s.hung ≤ c + 1 then s.mortar (c + 1) else s.mortar c)
        unfold shf
        by_cases hq : s.hung ≤ c + 1
        · rw [if_pos (by omega), if_pos hq]
        · rw [if_neg (by omega), if_neg hq]
      · simp only [gi_si, ne3, false_and, if_false]
        exact (e.1 _ _ (by unfold rw2; omega)).trans (h.faith w hw)
      · simp only [gi_si, ne4, false_and, if_false]
        exact (e.1 _ _ (by unfold rw2; omega)).trans (h.beside w hw)
    · rw [h.weight k hk]
      unfold shf
      rw [if_neg (by omega)]
    · rw [h.mortar k hk]
      unfold shf
      rw [if_neg (by omega)]
  obtain ⟨M', e, hh⟩ := key
  exact ⟨M', e, hh⟩
