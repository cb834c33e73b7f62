/-! The words that are used: the good ones of the tables. -/
def WS : List Cond := lw_tbl.filter goodWord
theorem ws_mem {w : Cond} (i : Nat) (h : lw_tbl[i]? = some w) (hg : goodWord w = true) : w ∈ WS := List.mem_filter.mpr ⟨List.mem_of_getElem? h, hg⟩
theorem ws_good {w : Cond} (h : w ∈ WS) : goodWord w = true := (List.mem_filter.mp h).2
theorem ws_GoodIn {ws : List Cond} (h : ∀ w ∈ ws, w ∈ WS) : GoodIn WS ws := fun w hw => ⟨h w hw, good_of_word (ws_good (h w hw))⟩
theorem ws_V {own C : String} {idx : Nat} {y : MethodName} {cc : ByteArray} {nL : Nat} {ret : Option FieldType} (h1 : Cond.methodLink own idx y ∈ WS) (h2 : Cond.instanceMethod y ∈ WS) (h3 : Cond.selects C y y ∈ WS) (h4 : Cond.initialized C ∈ WS) (h5 : Cond.code y cc nL ret ∈ WS) : GoodIn WS (wsV own idx C y (Cond.code y cc nL ret :: WS)) := by
  refine ws_GoodIn (fun w hw => ?_)
  simp only [wsV, List.cons_append, List.nil_append, List.mem_cons] at hw
  rcases hw with rfl | rfl | rfl | rfl | rfl | h
  · exact h1
  · exact h2
  · exact h3
  · exact h4
  · exact h5
  · exact h
theorem ws_S {own : String} {idx : Nat} {y : MethodName} {cc : ByteArray} {nL : Nat} {ret : Option FieldType} (h1 : Cond.methodLink own idx y ∈ WS) (h2 : Cond.static y ∈ WS) (h4 : Cond.initialized y.cls ∈ WS) (h5 : Cond.code y cc nL ret ∈ WS) : GoodIn WS (va_wsS own idx y (Cond.code y cc nL ret :: WS)) := by
  refine ws_GoodIn (fun w hw => ?_)
  simp only [va_wsS, List.cons_append, List.nil_append, List.mem_cons] at hw
  rcases hw with rfl | rfl | rfl | rfl | h
  · exact h1
  · exact h2
  · exact h4
  · exact h5
  · exact h
/-! What a call of a method is, as a function: a memory of rows of ints and of longs, by number and place. -/
abbrev Mem : Type := (Nat → Nat → Int32) × (Nat → Nat → Int64)
def gi (M : Mem) (i k : Nat) : Int32 := M.1 i k
def gj (M : Mem) (i k : Nat) : Int64 := M.2 i k
def si (M : Mem) (i k : Nat) (x : Int32) : Mem := (va_up M.1 i (upd (M.1 i) k x), M.2)
def sj (M : Mem) (i k : Nat) (x : Int64) : Mem := (M.1, va_up M.2 i (vp_updL (M.2 i) k x))
def sa (M : Mem) (i : Nat) (f : Nat → Int32) : Mem := (va_up M.1 i f, M.2)
theorem gi_si (M : Mem) (i k j q : Nat) (x : Int32) : gi (si M i k x) j q = if j = i ∧ q = k then x else gi M j q := by
  simp only [gi, si, va_up, upd]
  by_cases h : j = i
  · subst h
    by_cases h2 : q = k <;> simp [h2, upd]
  · simp [h]
theorem gj_si (M : Mem) (i k j q : Nat) (x : Int32) : gj (si M i k x) j q = gj M j q := rfl
theorem gi_sj (M : Mem) (i k j q : Nat) (x : Int64) : gi (sj M i k x) j q = gi M j q := rfl
theorem gj_sj (M : Mem) (i k j q : Nat) (x : Int64) : gj (sj M i k x) j q = if j = i ∧ q = k then x else gj M j q := by
  simp only [gj, sj, va_up, vp_updL]
  by_cases h : j = i
  · subst h
    by_cases h2 : q = k <;> simp [h2, vp_updL]
  · simp [h]
theorem gi_sa (M : Mem) (i j q : Nat) (f : Nat → Int32) : gi (sa M i f) j q = if j = i then f q else gi M j q := by
  simp only [gi, sa, va_up]
  by_cases h : j = i <;> simp [h]
theorem gj_sa (M : Mem) (i j q : Nat) (f : Nat → Int32) : gj (sa M i f) j q = gj M j q := rfl
/-- which kind a thing of the world is (its class' number, or 20 ints, 21 longs, 22 bytes, 23 booleans), how many places, what a field is (0 an int, 1 a long, 2 a thing whose number is held, 3 a constant whose number is held, c + 4 the thing c) -/
abbrev Lay : Type := Nat → Nat × Nat × (Nat → Nat)
abbrev Wd : Type := va_G × (Nat → ClassId) × (Nat → Nat) × (Nat → Nat)
def fvv (ρ ad : Nat → Nat) (M : Mem) (i k : Nat) : Nat → Value
  | 0 => .int (gi M i k)
  | 1 => .long (gj M i k)
  | 2 => .ref (ρ (gi M i k).toNatClampNeg)
  | 3 => .ref (ad (gi M i k).toNatClampNeg)
  | c + 4 => .ref (ρ c)
def cel (w : Wd) (lay : Lay) (M : Mem) (i : Nat) : va_E :=
  if (lay i).1 < 20 then .inr ((lay i).1, (List.range (lay i).2.1).map (fun k => fvv w.2.2.1 w.2.2.2 M i k ((lay i).2.2 k)))
  else if (lay i).1 = 21 then .inl (w.2.1 1, (lay i).2.1, .inr (.inl (M.2 i)))
  else .inl (w.2.1 ((lay i).1 - 20), (lay i).2.1, .inl (M.1 i))
def gw (w : Wd) (lay : Lay) (nc : Nat) (M : Mem) : va_W := (List.range nc).map (fun i => (w.2.2.1 i, cel w lay M i))
theorem gw_at {w : Wd} {lay : Lay} {nc i : Nat} {M : Mem} (h : i < nc) : (gw w lay nc M)[i]? = some (w.2.2.1 i, cel w lay M i) := by simp [gw, h]
theorem gw_of {w : Wd} {lay : Lay} {nc k : Nat} {M : Mem} {q : Nat × va_E} (h : (gw w lay nc M)[k]? = some q) : k < nc ∧ q = (w.2.2.1 k, cel w lay M k) := by
  have hk : k < nc := by
    rcases Nat.lt_or_ge k nc with g | g
    · exact g
    · rw [List.getElem?_eq_none (by simp [gw]; exact g)] at h
      cases h
  rw [gw_at hk] at h
  exact ⟨hk, (Option.some.inj h).symm⟩
theorem gw_set {w : Wd} {lay : Lay} {nc i : Nat} {M M' : Mem} (hi : i < nc) (hj : ∀ j, j ≠ i → cel w lay M' j = cel w lay M j) : (gw w lay nc M).set i (w.2.2.1 i, cel w lay M' i) = gw w lay nc M' := by
  apply List.ext_getElem?
  intro k
  by_cases hk : k = i
  · subst hk
    rw [List.getElem?_set_self (by simp [gw]; exact hi), gw_at hi]
  · rw [List.getElem?_set_ne (Ne.symm hk)]
    rcases Nat.lt_or_ge k nc with g | g
    · rw [gw_at g, gw_at g, hj k hk]
    · rw [List.getElem?_eq_none (by simp [gw]; exact g), List.getElem?_eq_none (by simp [gw]; exact g)]
abbrev isO (lay : Lay) (nc i t n : Nat) (f : Nat → Nat) : Prop := i < nc ∧ lay i = (t, n, f)
theorem cel_o {w : Wd} {lay : Lay} {M : Mem} {i t n : Nat} {f : Nat → Nat} (h : lay i = (t, n, f)) (ht : t < 20) : cel w lay M i = .inr (t, (List.range n).map (fun k => fvv w.2.2.1 w.2.2.2 M i k (f k))) := by simp [cel, h, ht]
theorem cel_i {w : Wd} {lay : Lay} {M : Mem} {i n : Nat} {f : Nat → Nat} (h : lay i = (20, n, f)) : cel w lay M i = .inl (w.2.1 0, n, .inl (M.1 i)) := by simp [cel, h]
theorem cel_j {w : Wd} {lay : Lay} {M : Mem} {i n : Nat} {f : Nat → Nat} (h : lay i = (21, n, f)) : cel w lay M i = .inl (w.2.1 1, n, .inr (.inl (M.2 i))) := by simp [cel, h]
theorem cel_b {w : Wd} {lay : Lay} {M : Mem} {i n : Nat} {f : Nat → Nat} (h : lay i = (22, n, f)) : cel w lay M i = .inl (w.2.1 2, n, .inl (M.1 i)) := by simp [cel, h]
theorem cel_z {w : Wd} {lay : Lay} {M : Mem} {i n : Nat} {f : Nat → Nat} (h : lay i = (23, n, f)) : cel w lay M i = .inl (w.2.1 3, n, .inl (M.1 i)) := by simp [cel, h]
theorem cel_si_ne {w : Wd} {lay : Lay} {M : Mem} {i j k : Nat} {x : Int32} (h : j ≠ i) : cel w lay (si M i k x) j = cel w lay M j := by
  have h1 : ∀ q c, fvv w.2.2.1 w.2.2.2 (si M i k x) j q c = fvv w.2.2.1 w.2.2.2 M j q c := by
    intro q c
    match c with
    | 0 => simp [fvv, gi_si, h]
    | 1 => rfl
    | 2 => simp [fvv, gi_si, h]
    | 3 => simp [fvv, gi_si, h]
    | c + 4 => rfl
  have h2 : (si M i k x).1 j = M.1 j := by simp [si, va_up, h]
  simp only [cel, h1, h2]
  rfl
theorem cel_sj_ne {w : Wd} {lay : Lay} {M : Mem} {i j k : Nat} {x : Int64} (h : j ≠ i) : cel w lay (sj M i k x) j = cel w lay M j := by
  have h1 : ∀ q c, fvv w.2.2.1 w.2.2.2 (sj M i k x) j q c = fvv w.2.2.1 w.2.2.2 M j q c := by
    intro q c
    match c with
    | 0 => rfl
    | 1 => simp [fvv, gj_sj, h]
    | 2 => rfl
    | 3 => rfl
    | c + 4 => rfl
  have h2 : (sj M i k x).2 j = M.2 j := by simp [sj, va_up, h]
  simp only [cel, h1, h2]
  rfl
theorem cel_sa_ne {w : Wd} {lay : Lay} {M : Mem} {i j : Nat} {f : Nat → Int32} (h : j ≠ i) : cel w lay (sa M i f) j = cel w lay M j := by
  have h1 : ∀ q c, fvv w.2.2.1 w.2.2.2 (sa M i f) j q c = fvv w.2.2.1 w.2.2.2 M j q c := by
    intro q c
    match c with
    | 0 => simp [fvv, gi_sa, h]
    | 1 => rfl
    | 2 => simp [fvv, gi_sa, h]
    | 3 => simp [fvv, gi_sa, h]
    | c + 4 => rfl
  have h2 : (sa M i f).1 j = M.1 j := by simp [sa, va_up, h]
  simp only [cel, h1, h2]
  rfl
/-- a field is written: the object's row then -/
theorem fs_si {ρ ad : Nat → Nat} {M : Mem} {i k n : Nat} {f : Nat → Nat} {x : Int32} {v : Value} (hk : k < n) (hv : fvv ρ ad (si M i k x) i k (f k) = v) : ((List.range n).map (fun q => fvv ρ ad M i q (f q))).set k v = (List.range n).map (fun q => fvv ρ ad (si M i k x) i q (f q)) := by
  apply List.ext_getElem?
  intro q
  by_cases hq : q = k
  · subst hq
    rw [List.getElem?_set_self (by simp; exact hk)]
    simp [hk, hv]
  · rw [List.getElem?_set_ne (Ne.symm hq)]
    rcases Nat.lt_or_ge q n with g | g
    · simp only [List.getElem?_map, List.getElem?_range g, Option.map_some]
      congr 1
      generalize f q = c
      match c with
      | 0 => simp [fvv, gi_si, hq]
      | 1 => rfl
      | 2 => simp [fvv, gi_si, hq]
      | 3 => simp [fvv, gi_si, hq]
      | c + 4 => rfl
    · rw [List.getElem?_eq_none (by simp; exact g), List.getElem?_eq_none (by simp; exact g)]
theorem fs_sj {ρ ad : Nat → Nat} {M : Mem} {i k n : Nat} {f : Nat → Nat} {x : Int64} {v : Value} (hk : k < n) (hv : fvv ρ ad (sj M i k x) i k (f k) = v) : ((List.range n).map (fun q => fvv ρ ad M i q (f q))).set k v = (List.range n).map (fun q => fvv ρ ad (sj M i k x) i q (f q)) := by
  apply List.ext_getElem?
  intro q
  by_cases hq : q = k
  · subst hq
    rw [List.getElem?_set_self (by simp; exact hk)]
    simp [hk, hv]
  · rw [List.getElem?_set_ne (Ne.symm hq)]
    rcases Nat.lt_or_ge q n with g | g
    · simp only [List.getElem?_map, List.getElem?_range g, Option.map_some]
      congr 1
      generalize f q = c
      match c with
      | 0 => rfl
      | 1 => simp [fvv, gj_sj, hq]
      | 2 => rfl
      | 3 => rfl
      | c + 4 => rfl
    · rw [List.getElem?_eq_none (by simp; exact g), List.getElem?_eq_none (by simp; exact g)]
theorem fs_get {ρ ad : Nat → Nat} {M : Mem} {i k n : Nat} {f : Nat → Nat} (hk : k < n) : ((List.range n).map (fun q => fvv ρ ad M i q (f q)))[k]? = some (fvv ρ ad M i k (f k)) := by simp [hk]
/-! loops: a body that goes on (inl) or ends (inr) -/
def gl {σ τ : Type} (body : σ → Option (σ ⊕ τ)) : Nat → σ → Option τ
  | 0, _ => none
  | n + 1, s => match body s with
    | none => none
    | some (.inl s') => gl body n s'
    | some (.inr x) => some x
theorem gl_run {σ τ : Type} {body : σ → Option (σ ⊕ τ)} {P : σ → Prop} {xf : τ} (step : ∀ (s : σ) (r : σ ⊕ τ), body s = some r → (∀ s', r = .inl s' → P s') → (∀ x, r = .inr x → x = xf) → P s) : ∀ (n : Nat) (s : σ), gl body n s = some xf → P s := by
  intro n
  induction n with
  | zero => intro s h; cases h
  | succ n ih =>
    intro s h
    rw [gl] at h
    cases hb : body s with
    | none => rw [hb] at h; cases h
    | some r =>
      rw [hb] at h
      cases r with
      | inl s' => exact step s _ hb (fun s2 e => by cases e; exact ih s' h) (fun x e => by cases e)
      | inr x => exact step s _ hb (fun s2 e => by cases e) (fun x2 e => by cases e; exact Option.some.inj h)
def mr {σ τ : Type} (o : Option τ) : Option (σ ⊕ τ) := match o with
  | none => none
  | some x => some (.inr x)
theorem mr_some {σ τ : Type} {o : Option τ} {r : σ ⊕ τ} (h : mr o = some r) : ∃ x, o = some x ∧ r = .inr x := by
  cases o with
  | none => cases h
  | some x => exact ⟨x, rfl, (Option.some.inj h).symm⟩
def bd {α β : Type} (o : Option α) (k : α → Option β) : Option β := match o with
  | none => none
  | some x => k x
theorem bd_some {α β : Type} {o : Option α} {k : α → Option β} {r : β} (h : bd o k = some r) : ∃ x, o = some x ∧ k x = some r := by
  cases o with
  | none => cases h
  | some x => exact ⟨x, rfl, h⟩
theorem if_t {α : Type} {c : Prop} [Decidable c] {a b r : α} (hc : c) (h : (if c then a else b) = r) : a = r := by rw [if_pos hc] at h; exact h
theorem if_f {α : Type} {c : Prop} [Decidable c] {a b r : α} (hc : ¬ c) (h : (if c then a else b) = r) : b = r := by rw [if_neg hc] at h; exact h
/-- a place within a row -/
abbrev inb (x : Int32) (n : Nat) : Prop := ¬ (x < 0 ∨ n ≤ x.toNatClampNeg)
def ck {α : Type} (c : Prop) [Decidable c] (o : Option α) : Option α := if c then o else none
theorem ck_some {α : Type} {c : Prop} [Decidable c] {o : Option α} {r : α} (h : ck c o = some r) : c ∧ o = some r := by
  unfold ck at h
  by_cases hc : c
  · rw [if_pos hc] at h; exact ⟨hc, h⟩
  · rw [if_neg hc] at h; cases h
