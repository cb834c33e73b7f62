/-! Courses fall: the reference's loop. -/
theorem gl_mr {σ τ : Type} {body : σ → Option (σ ⊕ τ)} {n : Nat} {s : σ} {o : Option τ} (h : body s = mr o) : gl body (n + 1) s = o := by
  rw [gl, h]
  cases o <;> rfl
theorem gl_inl {σ τ : Type} {body : σ → Option (σ ⊕ τ)} {n : Nat} {s s' : σ} (h : body s = some (.inl s')) : gl body (n + 1) s = gl body n s' := by
  rw [gl, h]
theorem mDone {n b wd : Nat} {M : Mem} {s : Sp} {T : Tw} (hb : b ≤ 54) (g : s.Good wd) (gT : T.Good) (h : StR wd s 12 b M) (t : TwM wd T M) : f_X9_isDone n (nI b) M = some (if s.hung < T.ground then (0 : Int32) else 1, M) := by
  have h1 := g.h_hung
  have h2 := g.h_all
  have h3 := gT.h_ground
  unfold f_X9_isDone
  rw [nA_3, ck, if_pos (n_in (by omega) (by decide)), nI_clamp (by omega), h.hung, t.ground]
  by_cases c : s.hung < T.ground
  · rw [if_pos (nI_lt c (by omega)), if_pos c]
  · rw [if_neg (nI_nlt (by omega) (by omega)), if_neg c]
theorem mDrop_gl {b wd N : Nat} {T : Tw} (hN : 1000 < N) (hb : b ≤ 54) (gT : T.Good) : ∀ (f n k : Nat) (s : Sp) (M : Mem), s.Good wd → StR wd s 12 b M → TwM wd T M → s.hung ≤ f → f < n → ∃ M', gl (b_X9_dayGoes_171 N (nI b)) n (nI k, M) = j_X9_dayGoes_225 N (nI b) (nI (k + (Sp.drop wd T.ground f s).1)) M' ∧ StR wd (Sp.drop wd T.ground f s).2 12 b M' ∧ same (only 12) M M' ∧ ∀ p, (p < b ∨ b + 54 ≤ p) → gi M' 12 p = gi M 12 p := by
  intro f
  induction f with
  | zero =>
    intro n k s M g h t hf hn
    obtain ⟨n, rfl⟩ : ∃ q, n = q + 1 := ⟨n - 1, by omega⟩
    have h0 : s.hung = 0 := by omega
    refine ⟨M, gl_mr ?_, h, same.rf, fun _ _ => rfl⟩
    rw [b_X9_dayGoes_171]
    simp only [mDone hb g gT h t, bd]
    by_cases c : s.hung < T.ground
    · simp only [if_pos c]
      rw [if_pos trivial, nA_3, ck, if_pos (n_in (by omega) (by decide)), nI_clamp (by omega), h.hung, h0, if_pos (show nI 0 ≤ 0 by decide)]
      rfl
    · simp only [if_neg c]
      rw [if_neg (by decide)]
      rfl
  | succ f ih =>
    intro n k s M g h t hf hn
    obtain ⟨n, rfl⟩ : ∃ q, n = q + 1 := ⟨n - 1, by omega⟩
    have h1 := g.h_hung
    have h2 := g.h_all
    have h3 := g.fs_le
    have h4 := g.ms_le
    have h5 := g.ws_le
    have h6 := g.h_lean
    rw [Sp.drop]
    by_cases c2 : s.hung < T.ground
    · by_cases c1 : 0 < s.hung
      · have body : b_X9_dayGoes_171 N (nI b) (nI k, M) = (if nI (s.ws + s.lean / 5) ≤ nI (s.fs wd / 10 + s.ms) then (mr (j_X9_dayGoes_225 N (nI b) (nI k) M)) else (bd (f_X9_lowestFalls N (nI b) M) (fun q21 => some (.inl ((nI k + (1 : Int32)), q21))))) := by
          rw [b_X9_dayGoes_171]
          simp only [mDone hb g gT h t, bd, if_pos c2]
          rw [if_pos trivial, nA_3, ck, if_pos (n_in (by omega) (by decide)), nI_clamp (by omega), h.hung, if_neg (nI_nle c1 (by omega)), mWeight hN hb g h]
          simp only []
          rw [nA_2, ck, if_pos (n_in (by omega) (by decide)), nI_clamp (by omega), h.lean, mStrength hN hb g h t.wards]
          simp only []
          rw [show (5 : Int32) = nI 5 from rfl, pk_div (by omega) (by decide) (by decide), nI_add]
        by_cases c4 : s.fs wd / 10 + s.ms < s.ws + s.lean / 5
        · rw [if_pos ⟨c1, c2, c4⟩]
          obtain ⟨M1, q1, q2, q3, q4⟩ := mFalls hN hb g h c1
          have t1 : TwM wd T M1 := t.same q3 (by unfold only; omega) (by unfold only; omega) (by unfold only; omega)
          obtain ⟨M2, r1, r2, r3, r4⟩ := ih n (k + 1) s.low M1 (Sp.low_good g c1) q2 t1 (by show s.hung - 1 ≤ f; omega) (by omega)
          refine ⟨M2, ?_, r2, q3.tr r3, fun p hp => (r4 p hp).trans (q4 p hp)⟩
          rw [gl_inl (s' := (nI (k + 1), M1)) (by
            rw [body, if_neg (nI_ge c4 (by omega)), q1]
            simp only [bd, nI_1]), r1, show k + 1 + (Sp.drop wd T.ground f s.low).1 = k + ((Sp.drop wd T.ground f s.low).1 + 1) by omega]
        · rw [if_neg (fun q => c4 q.2.2)]
          refine ⟨M, gl_mr ?_, h, same.rf, fun _ _ => rfl⟩
          rw [body, if_pos (nI_le (by omega) (by omega))]
          rfl
      · rw [if_neg (fun q => c1 q.1)]
        refine ⟨M, gl_mr ?_, h, same.rf, fun _ _ => rfl⟩
        rw [b_X9_dayGoes_171]
        simp only [mDone hb g gT h t, bd, if_pos c2]
        rw [if_pos trivial, nA_3, ck, if_pos (n_in (by omega) (by decide)), nI_clamp (by omega), h.hung, show s.hung = 0 by omega, if_pos (show nI 0 ≤ 0 by decide)]
        rfl
    · rw [if_neg (fun q => c2 q.2.1)]
      refine ⟨M, gl_mr ?_, h, same.rf, fun _ _ => rfl⟩
      rw [b_X9_dayGoes_171]
      simp only [mDone hb g gT h t, bd, if_neg c2]
      rw [if_neg (by decide)]
      rfl
