/-! How many doubt beside a ward: the class counts bits. -/
def bcE (x : Int32) : Int32 := ((f_J6_bitCount_0f7a4 0 x mc0).getD (0, mc0)).1
theorem bc_is (n : Nat) (x : Int32) (M : Mem) : f_J6_bitCount_0f7a4 n x M = some (bcE x, M) := rfl
theorem bc_256 : ∀ a, a < 256 → bcE (nI a) = nI (cntN (fun o => a.testBit o) 8) := by decide +kernel
theorem cntN_congr {f g : Nat → Bool} : ∀ {k : Nat}, (∀ j, j < k → f j = g j) → cntN f k = cntN g k
  | 0, _ => rfl
  | k + 1, h => by
    rw [cntN, cntN, cntN_congr (fun j hj => h j (by omega)), h k (by omega)]
theorem cntN_ext {f : Nat → Bool} {a : Nat} : ∀ {b : Nat}, a ≤ b → (∀ j, a ≤ j → f j = false) → cntN f b = cntN f a
  | 0, h, _ => by rw [show a = 0 by omega]
  | b + 1, h, hf => by
    by_cases hab : a = b + 1
    · rw [hab]
    · rw [cntN, cntN_ext (b := b) (by omega) hf, hf b (by omega)]
      rfl
theorem cDoubt {n i wd w : Nat} {M : Mem} {s : Sp} (g : s.Good wd) (h : StC wd s i M) (hw : w < wd) : f_X4_doubt n i (nI w) (nI (s.dset wd)) M = some (nI (s.doubt wd w), M) := by
  have h1 := g.h_wd
  have h2 := g.h_beside w hw
  have h3 : s.beside w < 256 := Nat.lt_of_lt_of_le h2 (Nat.pow_le_pow_right (by decide) h1 : 2 ^ wd ≤ 2 ^ 8)
  unfold f_X4_doubt
  rw [ck, if_pos (n_in (by omega) (by decide)), nI_clamp (by omega), h.beside w hw, nI_and, bc_is, bc_256 _ (Nat.lt_of_le_of_lt Nat.and_le_left h3)]
  simp only [bd]
  have e : cntN (fun o => (s.beside w &&& s.dset wd).testBit o) 8 = s.doubt wd w := by
    unfold Sp.doubt
    rw [cntN_ext (a := wd) h1 (fun j hj => ?_)]
    · refine cntN_congr (fun j hj => ?_)
      simp only [Nat.testBit_and, dset_bit, Sp.doubts]
      rw [decide_eq_true hj, Bool.true_and]
    · simp only [Nat.testBit_and, dset_bit]
      rw [decide_eq_false (by omega : ¬ j < wd), Bool.false_and, Bool.and_false]
  rw [e]
