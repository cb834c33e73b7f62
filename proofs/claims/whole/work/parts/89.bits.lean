/-! Sets of wards as bits. -/
theorem nI_and (a b : Nat) : nI a &&& nI b = nI (a &&& b) := by
  apply Int32.toBitVec_inj.mp
  rw [Int32.toBitVec_and]
  show BitVec.ofNat 32 a &&& BitVec.ofNat 32 b = BitVec.ofNat 32 (a &&& b)
  rw [BitVec.ofNat_and]
theorem nI_or (a b : Nat) : nI a ||| nI b = nI (a ||| b) := by
  apply Int32.toBitVec_inj.mp
  rw [Int32.toBitVec_or]
  show BitVec.ofNat 32 a ||| BitVec.ofNat 32 b = BitVec.ofNat 32 (a ||| b)
  rw [BitVec.ofNat_or]
theorem one_sh : ∀ k, k < 31 → (1 : Int32) <<< (nI k &&& 31) = nI (2 ^ k) := by decide +kernel
def Sp.dset (s : Sp) : Nat → Nat
  | 0 => 0
  | k + 1 => if s.faith k < 10 then s.dset k ||| 2 ^ k else s.dset k
theorem dset_bit (s : Sp) (o : Nat) : ∀ k, (s.dset k).testBit o = (decide (o < k) && decide (s.faith o < 10))
  | 0 => by simp [Sp.dset]
  | k + 1 => by
    have ih := dset_bit s o k
    rw [Sp.dset]
    by_cases hf : s.faith k < 10
    · rw [if_pos hf, Nat.testBit_or, ih, Nat.testBit_two_pow]
      by_cases ho : o = k
      · subst ho; simp [hf]
      · have : decide (k = o) = false := by simp; omega
        rw [this, Bool.or_false]
        congr 1
        simp only [decide_eq_decide]
        omega
    · rw [if_neg hf, ih]
      by_cases ho : o = k
      · subst ho; simp [hf]
      · congr 1
        simp only [decide_eq_decide]
        omega
theorem cDoubters {n i wd : Nat} {M : Mem} {s : Sp} (hn : 1000 < n) (g : s.Good wd) (h : StC wd s i M) : f_X4_doubters n i M = some (nI (s.dset wd), M) := by
  have h1 := g.h_wd
  refine is_ok ?_
  unfold f_X4_doubters
  refine ok_for (fun k (x : Int32) => (x, nI k, M)) wd (fun k x => x = nI (s.dset k)) (fun k x hk hx => ?_) (fun x hx => ?_) n 0 0 (by omega) (by omega) rfl
  · simp only [b_X4_doubters_4, h.wards]
    refine ok_ite (fun c => absurd c (nI_ge hk (by omega))) (fun _ => ?_)
    refine ok_ck (n_in (by omega) (by decide)) ?_
    rw [nI_clamp (show k < 2 ^ 31 by omega), h.faith k hk]
    have hf := g.h_faith k hk
    refine ok_ite (fun c2 => ?_) (fun c2 => ?_)
    · have c3 : 10 ≤ s.faith k := (nI_leI (a := 10) (by decide) (by omega)).mp c2
      rw [j_X4_doubters_29]
      refine ok_inl ⟨x, by rw [nI_1], ?_⟩
      rw [hx, Sp.dset, if_neg (by omega)]
    · have c3 : ¬ 10 ≤ s.faith k := fun q => c2 ((nI_leI (a := 10) (by decide) (by omega)).mpr q)
      rw [j_X4_doubters_29]
      refine ok_inl ⟨x ||| ((1 : Int32) <<< (nI k &&& 31)), by rw [nI_1], ?_⟩
      rw [hx, Sp.dset, if_pos (by omega), one_sh k (by omega), nI_or]
  · simp only [b_X4_doubters_4, h.wards]
    exact ok_ite (fun c => ok_mr (ok_some (by rw [hx]))) (fun c => absurd (nI_le (Nat.le_refl _) (by omega)) c)
