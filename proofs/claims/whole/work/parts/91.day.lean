/-! A day, in the spec. -/
def bN (x : Int32) (hi : Nat) : Nat := (bndI x 0 (nI hi)).toNatClampNeg
theorem bN_is {x : Int32} {hi : Nat} (hh : hi < 2 ^ 31) : bndI x 0 (nI hi) = nI (bN x hi) ∧ bN x hi ≤ hi := by
  unfold bN bndI
  by_cases h1 : (0 : Int32) ≤ x
  · obtain ⟨j, hj, rfl⟩ := nI_of (Int32.not_lt.mpr h1)
    rw [if_pos h1]
    by_cases h2 : nI j ≤ nI hi
    · have h3 := (nI_leI hj hh).mp h2
      rw [if_pos h2, nI_clamp hj]
      exact ⟨rfl, h3⟩
    · rw [if_neg h2, nI_clamp hh]
      exact ⟨rfl, Nat.le_refl _⟩
  · rw [if_neg h1]
    exact ⟨rfl, Nat.zero_le _⟩
def Sp.setLean (s : Sp) (x : Nat) : Sp := (s.all, s.hung, s.day, s.money, x, s.fell, s.weight, s.mortar, s.faith, s.beside)
def Sp.setMoney (s : Sp) (x : Nat) : Sp := (s.all, s.hung, s.day, x, s.lean, s.fell, s.weight, s.mortar, s.faith, s.beside)
def Sp.setFell (s : Sp) (x : Nat) : Sp := (s.all, s.hung, s.day, s.money, s.lean, x, s.weight, s.mortar, s.faith, s.beside)
def Sp.setFaith (s : Sp) (f : Nat → Nat) : Sp := (s.all, s.hung, s.day, s.money, s.lean, s.fell, s.weight, s.mortar, f, s.beside)
def Sp.hang (s : Sp) (cost : Nat) : Sp := if cost ≤ s.money ∧ s.hung < s.all then (s.all, s.hung + 1, s.day, s.money - cost, s.lean, s.fell, s.weight, s.mortar, s.faith, s.beside) else s
/-- the lowest course falls -/
def Sp.low (s : Sp) : Sp := (s.all - 1, s.hung - 1, s.day, s.money, s.lean, s.fell, fun c => if s.hung ≤ c + 1 then s.weight (c + 1) else s.weight c, fun c => if s.hung ≤ c + 1 then s.mortar (c + 1) else s.mortar c, s.faith, s.beside)
def Sp.weak (wd : Nat) (s : Sp) : Prop := s.fs wd / 10 + s.ms < s.ws + s.lean / 5
theorem Sp.low_good {wd : Nat} {s : Sp} (g : s.Good wd) (h : 0 < s.hung) : s.low.Good wd := by
  obtain ⟨a1, a2, a3, a4, a5, a6, a7, a8, a9, a10, a11, a12, a13⟩ := g
  have h1 : s.low.all = s.all - 1 := rfl
  refine ⟨a1, ?_, ?_, a4, a5, a6, a7, fun c hc => ?_, fun c hc => ?_, a10, a11, a12, a13⟩
  · show s.hung - 1 ≤ s.all - 1
    omega
  · show s.all - 1 ≤ 16
    omega
  · have hc : c < s.all - 1 := hc
    show 1 ≤ (if s.hung ≤ c + 1 then s.weight (c + 1) else s.weight c) ∧ (if s.hung ≤ c + 1 then s.weight (c + 1) else s.weight c) ≤ 9
    split
    · exact a8 (c + 1) (by show c + 1 < s.all; omega)
    · exact a8 c (by show c < s.all; omega)
  · have hc : c < s.all - 1 := hc
    show (if s.hung ≤ c + 1 then s.mortar (c + 1) else s.mortar c) ≤ 9
    split
    · exact a9 (c + 1) (by show c + 1 < s.all; omega)
    · exact a9 c (by show c < s.all; omega)
