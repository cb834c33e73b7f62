/-! The lowest course falls: the reference. -/
def only (t : Nat) : Nat → Prop := fun q => q = t
theorem nA_1 (b : Nat) : nI b + (1 : Int32) = nI (b + 1) := nI_1 b
theorem mFalls {n b wd : Nat} {M : Mem} {s : Sp} (hn : 1000 < n) (hb : b ≤ 54) (g : s.Good wd) (h : StR wd s 12 b M) (h0 : 0 < s.hung) : ∃ M', f_X9_lowestFalls n (nI b) M = some M' ∧ StR wd s.low 12 b M' ∧ same (only 12) M M' ∧ ∀ p, (p < b ∨ b + 54 ≤ p) → gi M' 12 p = gi M 12 p := by
  have h1 := g.h_hung
  have h2 := g.h_all
  have key : ok (fun M' => StR wd s.low 12 b M' ∧ same (only 12) M M' ∧ ∀ p, (p < b ∨ b + 54 ≤ p) → gi M' 12 p = gi M 12 p) (f_X9_lowestFalls n (nI b) M) := by
    unfold f_X9_lowestFalls
    have p0 : nI s.hung - (1 : Int32) = nI (s.hung - 1) := pk_sub (b := 1) (by omega)
    rw [nA_3]
    refine ok_ck (n_in (by omega) (by decide)) ?_
    rw [nI_clamp (by omega), h.hung, p0]
    refine ok_for (fun c (M' : Mem) => (nI c, M')) (s.all - 1) (fun c M' => same (only 12) M M' ∧ (∀ p, (p < b + 6 ∨ b + 38 ≤ p) → gi M' 12 p = gi M 12 p) ∧ (∀ k, k < s.all → gi M' 12 (b + 6 + k) = nI (shf s.hung (c + 1) s.weight k)) ∧ (∀ k, k < s.all → gi M' 12 (b + 22 + k) = nI (shf s.hung (c + 1) s.mortar k)) ∧ s.hung ≤ c + 1) (fun c M' hc hI => ?_) (fun M' hI => ?_) n (s.hung - 1) M (by omega) (by omega) ⟨same.rf, fun _ _ => rfl, fun k hk => ?_, fun k hk => ?_, by omega⟩
    · obtain ⟨e, o, w1, w2, hhc⟩ := hI
      have hi : gi M' 12 (b + 4) = nI s.all := (o _ (by omega)).trans h.all
      simp only [b_X9_lowestFalls_13, nA_4, nA_6, nA_22, nI_add, nA_1]
      refine ok_ck (n_in (by omega) (by decide)) ?_
      rw [nI_clamp (show b + 4 < 2 ^ 31 by omega), hi]
      refine ok_ite (fun q => absurd q (nI_ge (by omega) (by omega))) (fun _ => ?_)
      refine ok_ck (n_in (by omega) (by decide)) (ok_ck (n_in (by omega) (by decide)) (ok_ck (n_in (by omega) (by decide)) (ok_ck (n_in (by omega) (by decide)) ?_)))
      rw [nI_clamp (show b + 6 + c < 2 ^ 31 by omega), nI_clamp (show b + 6 + c + 1 < 2 ^ 31 by omega), nI_clamp (show b + 22 + c < 2 ^ 31 by omega), nI_clamp (show b + 22 + c + 1 < 2 ^ 31 by omega)]
      refine ok_inl ⟨_, rfl, (e.si (show only 12 12 from rfl) _ _).si (show only 12 12 from rfl) _ _, fun p hp => ?_, fun k hk => ?_, fun k hk => ?_, by omega⟩
      · rw [gi_si, if_neg (by omega), gi_si, if_neg (by omega)]
        exact o p hp
      · have hx := w1 (c + 1) (by omega)
        have hy := w1 k hk
        rw [gi_si, if_neg (by omega), gi_si]
        by_cases hkc : k = c
        · subst hkc
          rw [if_pos ⟨rfl, rfl⟩, show b + 6 + k + 1 = b + 6 + (k + 1) by omega, hx]
          unfold shf
          rw [if_neg (by omega), if_pos (by omega)]
        · rw [if_neg (by omega), hy]
          unfold shf
          by_cases hq : s.hung ≤ k + 1 ∧ k + 1 < c + 1
          · rw [if_pos hq, if_pos (by omega)]
          · rw [if_neg hq, if_neg (by omega)]
      · have hx := w2 (c + 1) (by omega)
        have hy := w2 k hk
        rw [gi_si]
        by_cases hkc : k = c
        · subst hkc
          rw [if_pos ⟨rfl, rfl⟩, gi_si, if_neg (by omega), show b + 22 + k + 1 = b + 22 + (k + 1) by omega, hx]
          unfold shf
          rw [if_neg (by omega), if_pos (by omega)]
        · rw [if_neg (by omega), gi_si, if_neg (by omega), hy]
          unfold shf
          by_cases hq : s.hung ≤ k + 1 ∧ k + 1 < c + 1
          · rw [if_pos hq, if_pos (by omega)]
          · rw [if_neg hq, if_neg (by omega)]
    · obtain ⟨e, o, w1, w2, hhc⟩ := hI
      have hi : gi M' 12 (b + 4) = nI s.all := (o _ (by omega)).trans h.all
      have hj : gi M' 12 (b + 3) = nI s.hung := (o _ (by omega)).trans h.hung
      have p2 : nI s.all - (1 : Int32) = nI (s.all - 1) := pk_sub (b := 1) (by omega)
      simp only [b_X9_lowestFalls_13, nA_4, nA_1]
      refine ok_ck (n_in (by omega) (by decide)) ?_
      rw [nI_clamp (show b + 4 < 2 ^ 31 by omega), hi]
      refine ok_ite (fun _ => ok_mr ?_) (fun q => absurd (nI_le (show s.all ≤ s.all - 1 + 1 by omega) (by omega)) q)
      unfold j_X9_lowestFalls_81
      rw [nA_3, nA_4]
      refine ok_ck (n_in (by omega) (by decide)) (ok_ck (n_in (by omega) (by decide)) (ok_ck (n_in (by omega) (by decide)) (ok_ck (n_in (by omega) (by decide)) ?_)))
      rw [nI_clamp (show b + 3 < 2 ^ 31 by omega), nI_clamp (show b + 4 < 2 ^ 31 by omega), gi_si, if_neg (by omega), hi, hj, p0, p2]
      have oo : ∀ p, p ≠ b + 3 → p ≠ b + 4 → gi (si (si M' 12 (b + 3) (nI (s.hung - 1))) 12 (b + 4) (nI (s.all - 1))) 12 p = gi M' 12 p := fun p q1 q2 => by
        rw [gi_si, if_neg (by omega), gi_si, if_neg (by omega)]
      refine ok_some ⟨⟨?_, ?_, ?_, ?_, ?_, ?_, fun c hc => ?_, fun c hc => ?_, fun w hw => ?_, fun w hw => ?_⟩, (e.si (show only 12 12 from rfl) _ _).si (show only 12 12 from rfl) _ _, fun p hp => ?_⟩
      · exact (oo _ (by omega) (by omega)).trans ((o _ (by omega)).trans h.day)
      · exact (oo _ (by omega) (by omega)).trans ((o _ (by omega)).trans h.money)
      · exact (oo _ (by omega) (by omega)).trans ((o _ (by omega)).trans h.lean)
      · rw [gi_si, if_neg (by omega), gi_si, if_pos ⟨rfl, rfl⟩]
        rfl
      · rw [gi_si, if_pos ⟨rfl, rfl⟩]
        rfl
      · exact (oo _ (by omega) (by omega)).trans ((o _ (by omega)).trans h.fell)
      · have hc : c < s.all - 1 := hc
        refine (oo _ (by omega) (by omega)).trans ((w1 c (by omega)).trans ?_)
        show nI (shf _ _ _ _) = nI (if s.hung ≤ c + 1 then s.weight (c + 1) else s.weight c)
        unfold shf
        by_cases hq : s.hung ≤ c + 1
        · rw [if_pos (by omega), if_pos hq]
        · rw [if_neg (by omega), if_neg hq]
      · have hc : c < s.all - 1 := hc
        refine (oo _ (by omega) (by omega)).trans ((w2 c (by omega)).trans ?_)
        show nI (shf _ _ _ _) = nI (if s.hung ≤ c + 1 then s.mortar (c + 1) else s.mortar c)
        unfold shf
        by_cases hq : s.hung ≤ c + 1
        · rw [if_pos (by omega), if_pos hq]
        · rw [if_neg (by omega), if_neg hq]
      · exact (oo _ (by omega) (by omega)).trans ((o _ (by omega)).trans (h.faith w hw))
      · exact (oo _ (by omega) (by omega)).trans ((o _ (by omega)).trans (h.beside w hw))
      · exact (oo _ (by omega) (by omega)).trans (o _ (by omega))
    · rw [h.weight k hk]
      unfold shf
      rw [if_neg (by omega)]
    · rw [h.mortar k hk]
      unfold shf
      rw [if_neg (by omega)]
  obtain ⟨M', e, hh⟩ := key
  exact ⟨M', e, hh⟩
