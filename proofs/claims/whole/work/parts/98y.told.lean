/-! What a text tells: its lines, as a function of tokens. -/
abbrev Td : Type := Nat × Sp × Tw × Bool × Bool
abbrev Td.wd (s : Td) : Nat := s.1
abbrev Td.s (s : Td) : Sp := s.2.1
abbrev Td.t (s : Td) : Tw := s.2.2.1
abbrev Td.gt (s : Td) : Bool := s.2.2.2.1
abbrev Td.ct (s : Td) : Bool := s.2.2.2.2
abbrev LR : Type := (Nat × Nat) ⊕ (Td × List Tok)
def numR (e lo hi : Nat) (ts : List Tok) : (Nat × Nat) ⊕ (Nat × List Tok) := if (hdT e ts).k = 2 ∧ (hdT e ts).nx - (hdT e ts).p ≤ 4 ∧ lo ≤ (hdT e ts).v ∧ (hdT e ts).v ≤ hi then .inr ((hdT e ts).v, ts.tail) else .inl (if (hdT e ts).k = 2 then 2 else 1, (hdT e ts).p)
def endR (e : Nat) (τ : Td) (ts : List Tok) : LR := if (hdT e ts).k = 3 ∧ (hdT e ts).v = 59 then .inr (τ, ts.tail) else .inl (1, (hdT e ts).p)
def insN (h x : Nat) (g : Nat → Nat) (c : Nat) : Nat := if c < h then g c else if c = h then x else g (c - 1)
def Sp.posC (s : Sp) (hg : Bool) : Nat := if hg then s.hung else s.all
def Sp.addC (s : Sp) (hg : Bool) (a b : Nat) : Sp := (s.all + 1, (if hg then s.hung + 1 else s.hung), s.day, s.money, s.lean, s.fell, insN (s.posC hg) a s.weight, insN (s.posC hg) b s.mortar, s.faith, s.beside)
def updN (k x : Nat) (g : Nat → Nat) (c : Nat) : Nat := if c = k then x else g c
def Sp.addW (s : Sp) (wd v : Nat) : Sp := (s.all, s.hung, s.day, s.money, s.lean, s.fell, s.weight, s.mortar, updN wd v s.faith, updN wd 0 s.beside)
def Tw.setG (T : Tw) (v : Nat) : Tw := (v, T.cost, T.winds, T.wind, T.rule)
def Tw.setC (T : Tw) (v : Nat) : Tw := (T.ground, v, T.winds, T.wind, T.rule)
def Tw.addI (T : Tw) (v : Nat) : Tw := (T.ground, T.cost, T.winds + 1, updN T.winds v T.wind, T.rule)
def Tw.setR (T : Tw) (r : Nat) (O : List Op) : Tw := (T.ground, T.cost, T.winds, T.wind, fun q => if q = r then some O else T.rule q)
def Td.setS (τ : Td) (s : Sp) : Td := (τ.wd, s, τ.t, τ.gt, τ.ct)
def Td.setT (τ : Td) (T : Tw) : Td := (τ.wd, τ.s, T, τ.gt, τ.ct)
def Td.addW (τ : Td) (v : Nat) : Td := (τ.wd + 1, τ.s.addW τ.wd v, τ.t, τ.gt, τ.ct)
def Td.setG (τ : Td) (v : Nat) : Td := (τ.wd, τ.s, τ.t.setG v, true, τ.ct)
def Td.setC (τ : Td) (v : Nat) : Td := (τ.wd, τ.s, τ.t.setC v, τ.gt, true)
def bR {α : Type} (x : (Nat × Nat) ⊕ α) (k : α → LR) : LR := match x with
  | .inl y => .inl y
  | .inr y => k y
def crsR (e : Nat) (τ : Td) (hg : Bool) (ts : List Tok) : LR := bR (numR e 1 9 ts) (fun x => bR (numR e 0 9 x.2) (fun y => endR e (τ.setS (τ.s.addC hg x.1 y.1)) y.2))
def wdR (e wd : Nat) (ts : List Tok) : (Nat × Nat) ⊕ (Nat × List Tok) := if (hdT e ts).k = 2 ∧ (hdT e ts).nx - (hdT e ts).p ≤ 4 then (if (hdT e ts).v < wd then .inr ((hdT e ts).v, ts.tail) else .inl (3, (hdT e ts).p)) else .inl (if (hdT e ts).k = 2 then 2 else 1, (hdT e ts).p)
def strR (e : Nat) (τ : Td) (ts : List Tok) : LR := bR (wdR e τ.wd ts) (fun x => bR (wdR e τ.wd x.2) (fun y => if y.1 = x.1 ∨ (τ.s.beside x.1).testBit y.1 = true then .inl (4, (hdT e x.2).p) else endR e (τ.setS (τ.s.setBeside (τ.s.tb x.1 y.1))) y.2))
def winR (e : Nat) : List Tok → Td → LR
  | [], τ => .inl (1, e)
  | T :: ts, τ => if τ.t.winds = 0 ∨ T.k = 2 then (if T.k = 2 ∧ T.nx - T.p ≤ 4 ∧ τ.t.winds < 8 ∧ T.v ≤ 9 then winR e ts (τ.setT (τ.t.addI T.v)) else .inl (if T.k = 2 then 2 else 1, T.p)) else endR e τ (T :: ts)
def ruR (e : Nat) (τ : Td) (r p : Nat) (ts : List Tok) : LR := if (τ.t.rule r).isSome = true then .inl (5, p) else match amR r e ts 2 0 [] [] [false] with
  | .inl x => .inl x
  | .inr x => endR e (τ.setT (τ.t.setR r x.1)) x.2
def lnR (e : Nat) (τ : Td) (T : Tok) (ts : List Tok) : LR :=
  if ¬ T.k = 1 then .inl (1, T.p)
  else if T.v = 0 then (if 16 ≤ τ.s.all then .inl (2, T.p) else crsR e τ true ts)
  else if T.v = 1 then (if 16 ≤ τ.s.all then .inl (2, T.p) else crsR e τ false ts)
  else if T.v = 2 then (if τ.gt = true then .inl (5, T.p) else bR (numR e 2 16 ts) (fun x => endR e (τ.setG x.1) x.2))
  else if T.v = 3 then (if τ.ct = true then .inl (5, T.p) else bR (numR e 1 99 ts) (fun x => endR e (τ.setC x.1) x.2))
  else if T.v = 4 then (if 8 ≤ τ.wd then .inl (2, T.p) else bR (numR e 0 99 ts) (fun x => endR e (τ.addW x.1) x.2))
  else if T.v = 5 then strR e τ ts
  else if T.v = 15 then (if 0 < τ.t.winds then .inl (5, T.p) else winR e ts τ)
  else if T.v = 6 then ruR e τ 0 T.p ts
  else if T.v = 7 then ruR e τ 1 T.p ts
  else if T.v = 8 then ruR e τ 2 T.p ts
  else .inl (1, T.p)
/-! bounds -/
theorem addC_good {wd : Nat} {s : Sp} {hg : Bool} {a b : Nat} (g : s.Good wd) (h : s.all < 16) (ha : 1 ≤ a ∧ a ≤ 9) (hb : b ≤ 9) : (s.addC hg a b).Good wd := by
  have h1 := g.h_hung
  refine ⟨g.h_wd, ?_, h, g.h_day, g.h_money, g.h_lean, g.h_fell, fun c hc => ?_, fun c hc => ?_, g.h_faith, g.h_beside, g.h_sym, g.h_self⟩
  · show (if hg then s.hung + 1 else s.hung) ≤ s.all + 1
    split <;> omega
  · have hc' : c < s.all + 1 := hc
    show 1 ≤ insN (s.posC hg) a s.weight c ∧ insN (s.posC hg) a s.weight c ≤ 9
    have hp : s.posC hg ≤ s.all := by unfold Sp.posC; split <;> omega
    unfold insN
    by_cases c1 : c < s.posC hg
    · rw [if_pos c1]
      exact g.h_weight c (by omega)
    · rw [if_neg c1]
      by_cases c2 : c = s.posC hg
      · rw [if_pos c2]
        exact ha
      · rw [if_neg c2]
        exact g.h_weight (c - 1) (by omega)
  · have hc' : c < s.all + 1 := hc
    show insN (s.posC hg) b s.mortar c ≤ 9
    have hp : s.posC hg ≤ s.all := by unfold Sp.posC; split <;> omega
    unfold insN
    by_cases c1 : c < s.posC hg
    · rw [if_pos c1]
      exact g.h_mortar c (by omega)
    · rw [if_neg c1]
      by_cases c2 : c = s.posC hg
      · rw [if_pos c2]
        exact hb
      · rw [if_neg c2]
        exact g.h_mortar (c - 1) (by omega)
theorem addW_good {wd v : Nat} {s : Sp} (g : s.Good wd) (h : wd < 8) (hv : v ≤ 99) : (s.addW wd v).Good (wd + 1) := by
  have hb : ∀ w, w < wd → ∀ u, wd ≤ u → (s.beside w).testBit u = false := fun w hw u hu => Nat.testBit_lt_two_pow (Nat.lt_of_lt_of_le (g.h_beside w hw) (Nat.pow_le_pow_right (by decide) hu))
  refine ⟨h, g.h_hung, g.h_all, g.h_day, g.h_money, g.h_lean, g.h_fell, g.h_weight, g.h_mortar, fun w hw => ?_, fun w hw => ?_, fun x w hx hw => ?_, fun w hw => ?_⟩
  · show updN wd v s.faith w ≤ 99
    unfold updN
    by_cases c : w = wd
    · rw [if_pos c]; exact hv
    · rw [if_neg c]; exact g.h_faith w (by omega)
  · show updN wd 0 s.beside w < 2 ^ (wd + 1)
    unfold updN
    by_cases c : w = wd
    · rw [if_pos c]; exact Nat.two_pow_pos _
    · rw [if_neg c]
      exact Nat.lt_of_lt_of_le (g.h_beside w (by omega)) (Nat.pow_le_pow_right (by decide) (by omega))
  · show (updN wd 0 s.beside x).testBit w = (updN wd 0 s.beside w).testBit x
    unfold updN
    by_cases c : x = wd
    · by_cases c2 : w = wd
      · rw [if_pos c, if_pos c2, c, c2]
      · rw [if_pos c, if_neg c2, Nat.zero_testBit, hb w (by omega) x (by omega)]
    · by_cases c2 : w = wd
      · rw [if_neg c, if_pos c2, Nat.zero_testBit, hb x (by omega) w (by omega)]
      · rw [if_neg c, if_neg c2]
        exact g.h_sym x w (by omega) (by omega)
  · show (updN wd 0 s.beside w).testBit w = false
    unfold updN
    by_cases c : w = wd
    · rw [if_pos c, Nat.zero_testBit]
    · rw [if_neg c]; exact g.h_self w (by omega)
theorem setG_good {T : Tw} {v : Nat} (g : T.Good) (hv : 2 ≤ v ∧ v ≤ 16) : (T.setG v).Good := ⟨hv, g.h_cost, g.h_winds, g.h_wind, g.h_rule⟩
theorem setC_good {T : Tw} {v : Nat} (g : T.Good) (hv : 1 ≤ v ∧ v ≤ 99) : (T.setC v).Good := ⟨g.h_ground, hv, g.h_winds, g.h_wind, g.h_rule⟩
theorem addI_good {T : Tw} {v : Nat} (g : T.Good) (h : T.winds < 8) (hv : v ≤ 9) : (T.addI v).Good := by
  refine ⟨g.h_ground, g.h_cost, h, fun k hk => ?_, g.h_rule⟩
  have hk' : k < T.winds + 1 := hk
  show updN T.winds v T.wind k ≤ 9
  unfold updN
  by_cases c : k = T.winds
  · rw [if_pos c]; exact hv
  · rw [if_neg c]; exact g.h_wind k (by omega)
theorem setR_good {T : Tw} {r : Nat} {O : List Op} (g : T.Good) (h : RuG r (some O)) : (T.setR r O).Good := by
  refine ⟨g.h_ground, g.h_cost, g.h_winds, g.h_wind, fun q hq => ?_⟩
  show RuG q (if q = r then some O else T.rule q)
  by_cases c : q = r
  · rw [if_pos c, c]; exact h
  · rw [if_neg c]; exact g.h_rule q hq
