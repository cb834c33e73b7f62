/-! Courses fall: the class' loop. -/
theorem cDrop_gl {i wd ground N : Nat} (hN : 1000 < N) (hg : ground ≤ 16) : ∀ (f n k : Nat) (s : Sp) (M : Mem), s.Good wd → StC wd s i M → s.hung ≤ f → f + k ≤ 16 → f < n → ∃ M', gl (b_X4_dropLowest_5 N i (nI ground)) n (nI k, s.spare wd, M) = some (nI (k + (Sp.drop wd ground f s).1), M') ∧ StC wd (Sp.drop wd ground f s).2 i M' ∧ same (rw3 i) M M' := by
  intro f
  induction f with
  | zero =>
    intro n k s M g h hf hk hn
    obtain ⟨n, rfl⟩ : ∃ q, n = q + 1 := ⟨n - 1, by omega⟩
    have h0 : s.hung = 0 := by omega
    refine ⟨M, ?_, h, same.rf⟩
    rw [gl, b_X4_dropLowest_5]
    simp only [h.hung, h0]
    by_cases c : (16 : Int32) ≤ nI k
    · rw [if_pos c]; rfl
    · rw [if_neg c, if_pos (show nI 0 ≤ 0 by decide)]; rfl
  | succ f ih =>
    intro n k s M g h hf hk hn
    obtain ⟨n, rfl⟩ : ∃ q, n = q + 1 := ⟨n - 1, by omega⟩
    have h1 := g.h_hung
    have h2 := g.h_all
    have c16 : ¬ (16 : Int32) ≤ nI k := nI_ge (b := 16) (by omega) (by decide)
    rw [gl, b_X4_dropLowest_5]
    simp only [h.hung]
    rw [if_neg c16, Sp.drop]
    by_cases c1 : 0 < s.hung
    · rw [if_neg (nI_nle c1 (by omega))]
      by_cases c2 : s.hung < ground
      · rw [if_neg (nI_ge c2 (by omega))]
        by_cases c3 : s.spare wd < 0
        · have c4 := (spare_neg g).mp c3
          rw [if_neg (Int32.not_le.mpr c3), if_pos ⟨c1, c2, c4⟩]
          have p0 : nI s.hung - (1 : Int32) = nI (s.hung - 1) := pk_sub (b := 1) (by omega)
          obtain ⟨M1, q1, q2, q3⟩ := cTake hN g h c1
          obtain ⟨M2, r1, r2, r3⟩ := ih n (k + 1) s.low M1 (Sp.low_good g c1) q2 (by show s.hung - 1 ≤ f; omega) (by omega) (by omega)
          refine ⟨M2, ?_, r2, q3.tr r3⟩
          rw [p0, ck, if_pos (n_in (by omega) (by decide)), ck, if_pos (n_in (by omega) (by decide)), q1]
          simp only [bd]
          rw [nI_clamp (by omega), h.weight _ (by omega), h.mortar _ (by omega), spare_low c1, nI_1, r1, show k + 1 + (Sp.drop wd ground f s.low).1 = k + ((Sp.drop wd ground f s.low).1 + 1) by omega]
        · have c4 : ¬ (s.fs wd / 10 + s.ms < s.ws + s.lean / 5) := fun q => c3 ((spare_neg g).mpr q)
          rw [if_pos (Int32.not_lt.mp c3), if_neg (fun q => c4 q.2.2)]
          exact ⟨M, rfl, h, same.rf⟩
      · rw [if_pos (nI_le (by omega) (by omega)), if_neg (fun q => c2 q.2.1)]
        exact ⟨M, rfl, h, same.rf⟩
    · rw [if_pos (show nI s.hung ≤ 0 by rw [show s.hung = 0 by omega]; decide), if_neg (fun q => c1 q.1)]
      exact ⟨M, rfl, h, same.rf⟩
