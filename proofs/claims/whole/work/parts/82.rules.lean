/-! Rules: a number (inl), a value by its place (inr inl), an act (inr inr: 0 not, 1 or, 2 and, 3 less, 4 equal, 5 plus, 6 minus, 7 times, 8 over). -/
abbrev Op : Type := Nat ⊕ Nat ⊕ Nat
def enc1 : Op → Int32
  | .inl v => nI v
  | .inr (.inl k) => (-1 : Int32) - nI k
  | .inr (.inr j) => (-10 : Int32) - nI j
def joinI (j : Nat) (a b : Int32) : Int32 :=
  if j = 8 then (if b = 0 then 0 else a / b) else if j = 7 then a * b else if j = 6 then a - b else if j = 5 then a + b
  else if j = 4 then (if a = b then 1 else 0) else if j = 3 then (if b ≤ a then 0 else 1)
  else if j = 2 then (if a = 0 then 0 else if b = 0 then 0 else 1) else (if a = 0 then (if b = 0 then 0 else 1) else 1)
def stp (vals : Nat → Int32) : List Int32 → Op → List Int32
  | st, .inl v => nI v :: st
  | st, .inr (.inl k) => vals k :: st
  | a :: r, .inr (.inr 0) => (if a = 0 then 1 else 0) :: r
  | b :: a :: r, .inr (.inr (j + 1)) => joinI (j + 1) a b :: r
  | st, _ => st
/-- from a height on, no act lacks what it works on, and never more than 31 wait -/
def wfo : List Op → Nat → Prop
  | [], h => h = 1
  | .inl v :: p, h => v ≤ 9999 ∧ h < 32 ∧ wfo p (h + 1)
  | .inr (.inl k) :: p, h => k < 9 ∧ h < 32 ∧ wfo p (h + 1)
  | .inr (.inr 0) :: p, h => 1 ≤ h ∧ wfo p h
  | .inr (.inr (j + 1)) :: p, h => j < 8 ∧ 2 ≤ h ∧ h ≤ 32 ∧ wfo p (h - 1)
def runP (vals : Nat → Int32) (p : List Op) : Int32 := (p.foldl (stp vals) []).headD 0
def stk (g : Nat → Int32) : List Int32 → Prop
  | [] => True
  | a :: r => g r.length = a ∧ stk g r
theorem stk_up {g : Nat → Int32} {q : Nat} {x : Int32} : ∀ {st : List Int32}, st.length ≤ q → stk g st → stk (upd g q x) st
  | [], _, _ => trivial
  | a :: r, hq, h => ⟨by
      have : r.length < q := hq
      rw [← h.1]
      unfold upd
      rw [if_neg (by omega)], stk_up (Nat.le_of_lt hq) h.2⟩
theorem upd_at (g : Nat → Int32) (q : Nat) (x : Int32) : upd g q x q = x := by simp [upd]
theorem stk_push {g : Nat → Int32} {x : Int32} {st : List Int32} (h : stk g st) : stk (upd g st.length x) (x :: st) := ⟨upd_at _ _ _, stk_up (Nat.le_refl _) h⟩
def cod (row : Nat → Int32) : Nat → List Op → Prop
  | _, [] => True
  | f, o :: p => row f = enc1 o ∧ cod row (f + 1) p
theorem si_sa (M : Mem) (i k : Nat) (g : Nat → Int32) (x : Int32) : si (sa M i g) i k x = sa M i (upd g k x) := by
  unfold si sa
  have h : ∀ f : Nat → Int32, va_up (va_up M.1 i g) i f = va_up M.1 i f := fun f => by
    funext j
    unfold va_up
    by_cases hj : j = i <;> simp [hj]
  simp only [h]
  have h2 : va_up M.1 i g i = g := by simp [va_up]
  rw [h2]
theorem gi_sa_ne {M : Mem} {i j k : Nat} {g : Nat → Int32} (h : j ≠ i) : gi (sa M i g) j k = gi M j k := by rw [gi_sa, if_neg h]
theorem gi_sa_eq {M : Mem} {i k : Nat} {g : Nat → Int32} : gi (sa M i g) i k = g k := by rw [gi_sa, if_pos rfl]
theorem e_num {v : Nat} (h : v ≤ 9999) : ¬ nI v ≤ (-10 : Int32) ∧ ¬ nI v < 0 := by
  have h1 : (nI v).toInt = (v : Int) := nI_toInt (by omega)
  refine ⟨fun c => ?_, nI_pos (by omega)⟩
  have h2 := Int32.le_iff_toInt_le.mp c
  rw [h1, show (-10 : Int32).toInt = -10 from rfl] at h2
  omega
theorem e_val : ∀ k, k < 9 → ¬ ((-1 : Int32) - nI k ≤ (-10 : Int32)) ∧ (-1 : Int32) - nI k < 0 ∧ (-1 : Int32) - ((-1 : Int32) - nI k) = nI k := by decide +kernel
theorem e_act : ∀ j, j < 8 → (-10 : Int32) - nI (j + 1) ≤ (-10 : Int32) ∧ ¬ ((-10 : Int32) - nI (j + 1) = (-10 : Int32)) ∧ ¬ ((-10 : Int32) ≤ (-10 : Int32) - nI (j + 1)) := by decide +kernel
theorem cJoin (n : Nat) (M : Mem) (a b : Int32) : ∀ j, j < 8 → f_X6_join n ((-10 : Int32) - nI (j + 1)) a b M = some (joinI (j + 1) a b, M)
  | 0, _ => by unfold f_X6_join joinI; simp only [show (-10 : Int32) - nI (0 + 1) = -11 from rfl]; by_cases h1 : a = 0 <;> by_cases h2 : b = 0 <;> simp [h1, h2]
  | 1, _ => by unfold f_X6_join joinI; simp only [show (-10 : Int32) - nI (1 + 1) = -12 from rfl]; by_cases h1 : a = 0 <;> by_cases h2 : b = 0 <;> simp [h1, h2]
  | 2, _ => by unfold f_X6_join joinI; simp only [show (-10 : Int32) - nI (2 + 1) = -13 from rfl]; by_cases h1 : b ≤ a <;> simp [h1]
  | 3, _ => by unfold f_X6_join joinI; simp only [show (-10 : Int32) - nI (3 + 1) = -14 from rfl]; by_cases h1 : a = b <;> simp [h1]
  | 4, _ => by unfold f_X6_join joinI; simp only [show (-10 : Int32) - nI (4 + 1) = -15 from rfl]; simp
  | 5, _ => by unfold f_X6_join joinI; simp only [show (-10 : Int32) - nI (5 + 1) = -16 from rfl]; simp
  | 6, _ => by unfold f_X6_join joinI; simp only [show (-10 : Int32) - nI (6 + 1) = -17 from rfl]; simp
  | 7, _ => by unfold f_X6_join joinI; simp only [show (-10 : Int32) - nI (7 + 1) = -18 from rfl]; by_cases h1 : b = 0 <;> simp [h1, ck]
  | j + 8, h => absurd h (by omega)
