/-! Tokens, and the reference's way through a rule, as a function of them. -/
abbrev Tok : Type := Nat × Nat × Nat × Nat
abbrev Tok.p (s : Tok) : Nat := s.1
abbrev Tok.nx (s : Tok) : Nat := s.2.1
abbrev Tok.k (s : Tok) : Nat := s.2.2.1
abbrev Tok.v (s : Tok) : Nat := s.2.2.2
def act (j : Nat) : Op := .inr (.inr j)
def stg (o : Nat) : Nat := ([3, 1, 2, 4, 4, 5, 5, 6, 6] : List Nat).getD o 0
def opS (b : Bool) (T : Tok) : Nat :=
  if T.k = 1 then (if T.v = 10 then 2 else if T.v = 9 then 1 else 0)
  else if T.k = 3 then (if T.v = 60 ∨ T.v = 61 then (if b then 0 else 4) else if T.v = 43 ∨ T.v = 45 then 5 else if T.v = 42 ∨ T.v = 47 then 6 else 0)
  else 0
def opC (T : Tok) : Nat := if T.k = 1 then (if T.v = 10 then 2 else 1) else if T.v = 60 then 3 else if T.v = 61 then 4 else if T.v = 43 then 5 else if T.v = 45 then 6 else if T.v = 42 then 7 else 8
def hdT (e : Nat) : List Tok → Tok
  | [] => (e, e, 0, 0)
  | T :: _ => T
def dpK (T : Tok) : Nat := if T.k = 2 ∨ T.k = 1 ∨ (T.k = 3 ∧ T.v = 40) then 2 else 1
def vlb (r v : Nat) : Bool := decide (12 ≤ v ∧ v ≤ 20 ∧ (if r = 0 then v < 18 else v < 15 ∨ 18 ≤ v))
abbrev Res : Type := (Nat × Nat) ⊕ (List Op × List Tok)
def twW (s : Nat) (W : List Nat) : List Nat := W.takeWhile (fun o => decide (s ≤ stg o))
def dwW (s : Nat) (W : List Nat) : List Nat := W.dropWhile (fun o => decide (s ≤ stg o))
def nxB (s : Nat) (b : Bool) : Bool := if s ≤ 2 then false else if s = 4 then true else b
/-- m = 0: behind an operand; 1: an operand, no not ahead of it; 2: an operand, c nots were read -/
def amR (r e : Nat) : List Tok → Nat → Nat → List Op → List Nat → List Bool → Res
  | [], m, _, C, W, D => if m = 0 ∧ D.length ≤ 1 then .inr (C ++ W.map act, []) else .inl (1, e)
  | T :: ts, m, c, C, W, D =>
    if m = 0 then
      (if opS (D.headD false) T = 0 then
        (if T.k = 3 ∧ T.v = 41 ∧ 9 ∈ W then amR r e ts 0 0 (C ++ (twW 1 W).map act) (dwW 1 W).tail D.tail
         else if D.length ≤ 1 then .inr (C ++ W.map act, T :: ts) else .inl (1, T.p))
       else amR r e ts (if opS (D.headD false) T ≤ 2 then 2 else 1) 0 (C ++ (twW (opS (D.headD false) T) W).map act) (opC T :: dwW (opS (D.headD false) T) W) (nxB (opS (D.headD false) T) (D.headD false) :: D.tail))
    else if m = 2 ∧ T.k = 1 ∧ T.v = 11 then
      (if c = 6 then .inl (2, T.p) else amR r e ts 2 (c + 1) C (0 :: W) D)
    else if T.k = 3 ∧ T.v = 40 then
      (if 6 ≤ D.length then .inl (dpK (hdT e ts), (hdT e ts).p) else amR r e ts 2 0 C (9 :: W) (false :: D))
    else if T.k = 2 then
      (if 4 < T.nx - T.p then .inl (2, T.p) else amR r e ts 0 0 (C ++ [.inl T.v]) W D)
    else if T.k = 1 then
      (if vlb r T.v = true then amR r e ts 0 0 (C ++ [.inr (.inl (T.v - 12))]) W D else .inl (3, T.p))
    else .inl (1, T.p)
theorem am_0 {r e : Nat} {T : Tok} {ts : List Tok} {C : List Op} {W : List Nat} {b : Bool} {D : List Bool} : amR r e (T :: ts) 0 0 C W (b :: D) =
      (if opS b T = 0 then
        (if T.k = 3 ∧ T.v = 41 ∧ 9 ∈ W then amR r e ts 0 0 (C ++ (twW 1 W).map act) (dwW 1 W).tail D
         else if D.length = 0 then .inr (C ++ W.map act, T :: ts) else .inl (1, T.p))
       else amR r e ts (if opS b T ≤ 2 then 2 else 1) 0 (C ++ (twW (opS b T) W).map act) (opC T :: dwW (opS b T) W) (nxB (opS b T) b :: D)) := by
  rw [amR, if_pos rfl]
  have : ((b :: D).length ≤ 1) = (D.length = 0) := by simp
  simp only [this]
  rfl
def Eb (l : Nat) : List Nat → Prop
  | [] => True
  | o :: _ => stg o < l
theorem Eb.mono {l l' : Nat} {W : List Nat} (h : Eb l W) (hl : l ≤ l') : Eb l' W := by
  cases W with
  | nil => trivial
  | cons o W => exact Nat.lt_of_lt_of_le h hl
theorem tw_app {l : Nat} : ∀ {P W : List Nat}, (∀ o, o ∈ P → l ≤ stg o) → Eb l W → twW l (P ++ W) = P ∧ dwW l (P ++ W) = W
  | [], [], _, _ => ⟨rfl, rfl⟩
  | [], o :: W, _, h => by
    have h' : ¬ l ≤ stg o := Nat.not_le.mpr h
    unfold twW dwW
    simp [h']
  | o :: P, W, hp, h => by
    have h1 := hp o (List.mem_cons_self ..)
    have h2 := tw_app (P := P) (W := W) (fun o ho => hp o (List.mem_cons_of_mem _ ho)) h
    unfold twW dwW at h2 ⊢
    simp [h1, h2.1, h2.2]
def md (l : Nat) : Nat := if l ≤ 3 then 2 else 1
def Suit (l d : Nat) (W : List Nat) (D : List Bool) : Prop := D.length = d + 1 ∧ Eb l W ∧ (l ≤ 4 → D.headD false = false)
def Sim (r e m l d : Nat) (ts : List Tok) (O : List Op) (ts' : List Tok) : Prop := ∀ C W D, Suit l d W D → ∃ O1 P b, O = O1 ++ P.map act ∧ (∀ o, o ∈ P → l ≤ stg o) ∧ amR r e ts (md l) 0 C W D = amR r e ts' 0 0 (C ++ O1) (P ++ W) (b :: D.tail) ∧ (5 ≤ l → b = D.headD false) ∧ opS b (hdT e ts') < m
def Flt (r e l d : Nat) (ts : List Tok) (k p : Nat) : Prop := ∀ C W D, Suit l d W D → amR r e ts (md l) 0 C W D = .inl (k, p)
theorem opS_C {b : Bool} {T : Tok} (h : ¬ opS b T = 0) : stg (opC T) = opS b T := by
  unfold opS opC at *
  by_cases h1 : T.k = 1
  · simp only [h1, if_true] at *
    by_cases h2 : T.v = 10
    · simp only [h2, if_true]; rfl
    · by_cases h3 : T.v = 9
      · simp only [h3]; rfl
      · simp [h2, h3] at h
  · by_cases h3 : T.k = 3
    · simp only [h3, if_true] at *
      by_cases a1 : T.v = 60
      · cases b <;> simp [a1] at *; rfl
      by_cases a2 : T.v = 61
      · cases b <;> simp [a2] at *; rfl
      by_cases a3 : T.v = 43
      · simp [a3]; rfl
      by_cases a4 : T.v = 45
      · simp [a4]; rfl
      by_cases a5 : T.v = 42
      · simp [a5]; rfl
      by_cases a6 : T.v = 47
      · simp [a6]; rfl
      simp [a1, a2, a3, a4, a5, a6] at h
    · simp [h1, h3] at h
theorem opS_le (b : Bool) (T : Tok) : opS b T < 7 := by
  unfold opS
  split
  · split <;> (try split) <;> decide
  · split
    · split
      · split <;> decide
      · split <;> (try split) <;> decide
    · decide
section R
variable {r e l d : Nat} {ts ts1 ts2 ts3 : List Tok} {O O2 : List Op} {T : Tok}
theorem Suit.up (hl : md l = md (l + 1)) {W : List Nat} {D : List Bool} (h : Suit l d W D) : Suit (l + 1) d W D :=
  ⟨h.1, h.2.1.mono (Nat.le_succ l), fun c => h.2.2 (by omega)⟩
theorem sim_lp (hl : md l = md (l + 1)) (h : Sim r e (l + 1) (l + 1) d ts O ts1) : Sim r e (l + 1) l d ts O ts1 := by
  intro C W D hs
  obtain ⟨O1, P, b, h1, h2, h3, h4, h5⟩ := h C W D (hs.up hl)
  exact ⟨O1, P, b, h1, fun o ho => Nat.le_of_succ_le (h2 o ho), by rw [hl]; exact h3, fun c => h4 (by omega), h5⟩
theorem flt_up {k p : Nat} (hl : md l = md (l + 1)) (h : Flt r e (l + 1) d ts k p) : Flt r e l d ts k p := by
  intro C W D hs
  rw [hl]
  exact h C W D (hs.up hl)
def isOp (l : Nat) (T : Tok) : Prop := ∀ b, opS b T = l
theorem am_op {b : Bool} {C : List Op} {W P : List Nat} {D : List Bool} (h0 : ¬ l = 0) (ho : opS b T = l) (hp : ∀ o, o ∈ P → l ≤ stg o) (hW : Eb l W) :
    amR r e (T :: ts) 0 0 C (P ++ W) (b :: D) = amR r e ts (md (l + 1)) 0 (C ++ P.map act) (opC T :: W) (nxB l b :: D) := by
  rw [am_0, ho, if_neg h0, (tw_app hp hW).1, (tw_app hp hW).2]
  have : (if l ≤ 2 then 2 else 1) = md (l + 1) := by unfold md; split <;> split <;> omega
  rw [this]
theorem sim_bin (h0 : ¬ l = 0) (hl : md l = md (l + 1) ) (h3 : l ≠ 3) (h4 : l ≠ 4) (h : Sim r e (l + 1) l d ts O (T :: ts2)) (ho : isOp l T) (h2 : Sim r e (l + 1) (l + 1) d ts2 O2 ts3) : Sim r e (l + 1) l d ts (O ++ (O2 ++ [act (opC T)])) ts3 := by
  intro C W D hs
  obtain ⟨O1, P, b, a1, a2, a3, a4, a5⟩ := h C W D hs
  rw [am_op h0 (ho b) a2 hs.2.1] at a3
  have hst : stg (opC T) = l := by
    have := opS_C (b := b) (T := T) (by rw [ho b]; exact h0)
    rw [this, ho b]
  obtain ⟨O3, P3, b3, c1, c2, c3, c4, c5⟩ := h2 (C ++ O1 ++ P.map act) (opC T :: W) (nxB l b :: D.tail) ⟨by
    have := hs.1
    cases D with
    | nil => simp at this
    | cons x D => simpa using this, by show stg (opC T) < l + 1; omega, fun c => by
      show nxB l b = false
      unfold nxB
      rw [if_pos (by omega)]⟩
  refine ⟨O1 ++ P.map act ++ O3, P3 ++ [opC T], b3, ?_, fun o ho => ?_, ?_, fun c => ?_, c5⟩
  · rw [a1, c1]
    simp [List.append_assoc]
  · rcases List.mem_append.mp ho with h | h
    · exact Nat.le_of_succ_le (c2 o h)
    · simp at h
      subst h
      omega
  · rw [a3, c3]
    simp [List.append_assoc]
  · have := c4 (by omega)
    rw [this]
    show nxB l b = _
    unfold nxB
    rw [if_neg (by omega), if_neg h4, a4 c]
theorem sim_end (h : Sim r e (l + 1) l d ts O ts1) (ho : ∀ b, ¬ opS b (hdT e ts1) = l) : Sim r e l l d ts O ts1 := by
  intro C W D hs
  obtain ⟨O1, P, b, a1, a2, a3, a4, a5⟩ := h C W D hs
  have := ho b
  exact ⟨O1, P, b, a1, a2, a3, a4, by omega⟩
theorem flt_bin {k p : Nat} (h0 : ¬ l = 0) (h3 : l ≠ 3) (h : Sim r e (l + 1) l d ts O (T :: ts2)) (ho : isOp l T) (h2 : Flt r e (l + 1) d ts2 k p) : Flt r e l d ts k p := by
  intro C W D hs
  obtain ⟨O1, P, b, a1, a2, a3, a4, a5⟩ := h C W D hs
  rw [am_op h0 (ho b) a2 hs.2.1] at a3
  have hst : stg (opC T) = l := by
    have := opS_C (b := b) (T := T) (by rw [ho b]; exact h0)
    rw [this, ho b]
  rw [a3]
  have h4 : l ≠ 4 := fun c => by
    have h1 := ho true
    have h2 := ho false
    subst c
    unfold opS at h1
    by_cases c1 : T.k = 1
    · simp only [c1, if_true] at h1
      split at h1
      · omega
      · split at h1 <;> omega
    · by_cases c3 : T.k = 3
      · simp only [c3, if_true] at h1
        rw [if_neg (by decide)] at h1
        split at h1
        · omega
        · split at h1
          · omega
          · split at h1 <;> omega
      · simp [c1, c3] at h1
  exact h2 _ _ _ ⟨by
    have := hs.1
    cases D with
    | nil => simp at this
    | cons x D => simpa using this, by show stg (opC T) < l + 1; omega, fun c => by
      show nxB l b = false
      unfold nxB
      rw [if_pos (by omega)]⟩
def isCmp (T : Tok) : Prop := T.k = 3 ∧ (T.v = 60 ∨ T.v = 61)
theorem cmp_S (h : isCmp T) : opS false T = 4 := by
  unfold opS
  rw [if_neg (by rw [h.1]; decide), if_pos h.1, if_pos h.2]
  rfl
theorem opS_4 {b : Bool} (h : ¬ isCmp T) : ¬ opS b T = 4 := by
  intro h1
  unfold opS at h1
  by_cases c1 : T.k = 1
  · simp only [c1, if_true] at h1
    split at h1
    · omega
    · split at h1 <;> omega
  · by_cases c3 : T.k = 3
    · by_cases c : T.v = 60 ∨ T.v = 61
      · exact h ⟨c3, c⟩
      · simp only [c3, if_true] at h1
        rw [if_neg (by decide), if_neg c] at h1
        split at h1
        · omega
        · split at h1 <;> omega
    · simp [c1, c3] at h1
theorem opS_t : ¬ opS true T = 4 := by
  intro h1
  unfold opS at h1
  by_cases c1 : T.k = 1
  · simp only [c1, if_true] at h1
    split at h1
    · omega
    · split at h1 <;> omega
  · by_cases c3 : T.k = 3
    · simp only [c3, if_true] at h1
      rw [if_neg (by decide)] at h1
      split at h1
      · omega
      · split at h1
        · omega
        · split at h1 <;> omega
    · simp [c1, c3] at h1
theorem sim_t1 (h : Sim r e 5 5 d ts O ts1) (hc : ¬ isCmp (hdT e ts1)) : Sim r e 4 4 d ts O ts1 := by
  intro C W D hs
  obtain ⟨O1, P, b, a1, a2, a3, a4, a5⟩ := h C W D (Suit.up (l := 4) rfl hs)
  have := opS_4 (b := b) hc
  exact ⟨O1, P, b, a1, fun o ho => Nat.le_of_succ_le (a2 o ho), a3, fun c => absurd c (by decide), by omega⟩
theorem suit_t {W : List Nat} {D : List Bool} (hs : Suit 4 d W D) (hc : isCmp T) : Suit 5 d (opC T :: W) (nxB 4 false :: D.tail) := ⟨by
    have := hs.1
    cases D with
    | nil => simp at this
    | cons x D => simpa using this, by
    have := opS_C (b := false) (T := T) (by rw [cmp_S hc]; decide)
    show stg (opC T) < 5
    rw [this, cmp_S hc]
    decide, fun c => absurd c (by decide)⟩
theorem sim_t2 (h : Sim r e 5 5 d ts O (T :: ts2)) (hc : isCmp T) (h2 : Sim r e 5 5 d ts2 O2 ts3) : Sim r e 4 4 d ts (O ++ (O2 ++ [act (opC T)])) ts3 := by
  intro C W D hs
  obtain ⟨O1, P, b, a1, a2, a3, a4, a5⟩ := h C W D (Suit.up (l := 4) rfl hs)
  have hb : b = false := (a4 (by decide)).trans (hs.2.2 (by decide))
  subst hb
  rw [am_op (l := 4) (by decide) (cmp_S hc) (fun o ho => Nat.le_of_succ_le (a2 o ho)) hs.2.1] at a3
  obtain ⟨O3, P3, b3, c1, c2, c3, c4, c5⟩ := h2 (C ++ O1 ++ P.map act) (opC T :: W) _ (suit_t hs hc)
  have hst : stg (opC T) = 4 := by
    have := opS_C (b := false) (T := T) (by rw [cmp_S hc]; decide)
    rw [this, cmp_S hc]
  have hb3 : b3 = true := (c4 (by decide)).trans rfl
  subst hb3
  refine ⟨O1 ++ P.map act ++ O3, P3 ++ [opC T], true, ?_, fun o ho => ?_, ?_, fun c => absurd c (by decide), ?_⟩
  · rw [a1, c1]
    simp [List.append_assoc]
  · rcases List.mem_append.mp ho with h | h
    · exact Nat.le_of_succ_le (c2 o h)
    · simp at h
      subst h
      omega
  · rw [show md 4 = md 5 from rfl, a3, c3]
    simp [List.append_assoc]
  · have := opS_t (T := hdT e ts3)
    omega
theorem flt_t2 {k p : Nat} (h : Sim r e 5 5 d ts O (T :: ts2)) (hc : isCmp T) (h2 : Flt r e 5 d ts2 k p) : Flt r e 4 d ts k p := by
  intro C W D hs
  obtain ⟨O1, P, b, a1, a2, a3, a4, a5⟩ := h C W D (Suit.up (l := 4) rfl hs)
  have hb : b = false := (a4 (by decide)).trans (hs.2.2 (by decide))
  subst hb
  rw [am_op (l := 4) (by decide) (cmp_S hc) (fun o ho => Nat.le_of_succ_le (a2 o ho)) hs.2.1] at a3
  rw [show md 4 = md 5 from rfl, a3]
  exact h2 _ _ _ (suit_t hs hc)
/-! nots -/
def NtI (r e k : Nat) (ts ts1 : List Tok) : Prop := ∀ C W D, amR r e ts 2 0 C W D = amR r e ts1 2 k C (List.replicate k 0 ++ W) D
theorem nt_0 : NtI r e 0 ts ts := fun _ _ _ => rfl
theorem nt_s {k : Nat} (h : NtI r e k ts (T :: ts2)) (hk : T.k = 1) (hv : T.v = 11) (h6 : k < 6) : NtI r e (k + 1) ts ts2 := by
  intro C W D
  rw [h C W D, amR, if_neg (by decide), if_pos ⟨rfl, hk, hv⟩, if_neg (by omega)]
  rfl
theorem nt_f (h : NtI r e 6 ts (T :: ts2)) (hk : T.k = 1) (hv : T.v = 11) : Flt r e 3 d ts 2 T.p := by
  intro C W D _
  rw [show md 3 = 2 from rfl, h C W D, amR, if_neg (by decide), if_pos ⟨rfl, hk, hv⟩, if_pos rfl]
theorem am_21 {k : Nat} {C : List Op} {W : List Nat} {D : List Bool} (h : ¬ ((hdT e ts).k = 1 ∧ (hdT e ts).v = 11)) : amR r e ts 2 k C W D = amR r e ts 1 0 C W D := by
  cases ts with
  | nil =>
    rw [amR, amR, if_neg (by simp), if_neg (by simp)]
  | cons T ts =>
    rw [amR, amR, if_neg (show ¬ (2 : Nat) = 0 by decide), if_neg (fun c => h c.2), if_neg (show ¬ (1 : Nat) = 0 by decide), if_neg (show ¬ ((1 : Nat) = 2 ∧ T.k = 1 ∧ T.v = 11) from fun c => absurd c.1 (by decide))]
theorem rep_stg {k o : Nat} (h : o ∈ List.replicate k 0) : o = 0 := by
  rw [List.mem_replicate] at h
  exact h.2
theorem rep_suit {k : Nat} {W : List Nat} {D : List Bool} (hs : Suit 3 d W D) : Suit 4 d (List.replicate k 0 ++ W) D := ⟨hs.1, by
    cases k with
    | zero => exact hs.2.1.mono (by decide)
    | succ k => exact (by decide : stg 0 < 4), fun _ => hs.2.2 (by decide)⟩
theorem sim_nt {k : Nat} (h : NtI r e k ts ts1) (hn : ¬ ((hdT e ts1).k = 1 ∧ (hdT e ts1).v = 11)) (h2 : Sim r e 4 4 d ts1 O ts3) (hs3 : ∀ b, ¬ opS b (hdT e ts3) = 3) : Sim r e 3 3 d ts (O ++ List.replicate k (act 0)) ts3 := by
  intro C W D hs
  obtain ⟨O3, P3, b3, c1, c2, c3, c4, c5⟩ := h2 C (List.replicate k 0 ++ W) D (rep_suit hs)
  refine ⟨O3, P3 ++ List.replicate k 0, b3, ?_, fun o ho => ?_, ?_, fun c => absurd c (by decide), ?_⟩
  · rw [c1]
    simp [List.append_assoc]
  · rcases List.mem_append.mp ho with h | h
    · exact Nat.le_of_succ_le (c2 o h)
    · rw [rep_stg h]
      decide
  · rw [show md 3 = 2 from rfl, h C W D, am_21 hn, show (1 : Nat) = md 4 from rfl, c3, List.append_assoc]
  · have := hs3 b3
    omega
theorem opS_3 {b : Bool} : ¬ opS b T = 3 := by
  intro h1
  unfold opS at h1
  by_cases c1 : T.k = 1
  · simp only [c1, if_true] at h1
    split at h1
    · omega
    · split at h1 <;> omega
  · by_cases c3 : T.k = 3
    · simp only [c3, if_true] at h1
      rw [if_neg (by decide)] at h1
      split at h1
      · split at h1 <;> omega
      · split at h1
        · omega
        · split at h1 <;> omega
    · simp [c1, c3] at h1
theorem flt_nt {k k' p : Nat} (h : NtI r e k ts ts1) (hn : ¬ ((hdT e ts1).k = 1 ∧ (hdT e ts1).v = 11)) (h2 : Flt r e 4 d ts1 k' p) : Flt r e 3 d ts k' p := by
  intro C W D hs
  rw [show md 3 = 2 from rfl, h C W D, am_21 hn, show (1 : Nat) = md 4 from rfl]
  exact h2 _ _ _ (rep_suit hs)
/-! parts -/
theorem suit_D {W : List Nat} {D : List Bool} (hs : Suit l d W D) : D.headD false :: D.tail = D := by
  have := hs.1
  cases D with
  | nil => simp at this
  | cons x D => rfl
theorem sim_num (hk : T.k = 2) (h4 : ¬ 4 < T.nx - T.p) : Sim r e 7 7 d (T :: ts) [.inl T.v] ts := by
  intro C W D hs
  refine ⟨[.inl T.v], [], D.headD false, rfl, fun o ho => absurd ho (List.not_mem_nil), ?_, fun _ => rfl, opS_le _ _⟩
  rw [suit_D hs, amR, if_neg (by decide), if_neg (by rintro ⟨c, _⟩; exact absurd c (by decide)), if_neg (by rw [hk]; simp), if_pos hk, if_neg h4]
  rfl
theorem flt_num (hk : T.k = 2) (h4 : 4 < T.nx - T.p) : Flt r e 7 d (T :: ts) 2 T.p := by
  intro C W D hs
  rw [amR, if_neg (by decide), if_neg (by rintro ⟨c, _⟩; exact absurd c (by decide)), if_neg (by rw [hk]; simp), if_pos hk, if_pos h4]
theorem sim_val (hk : T.k = 1) (hv : vlb r T.v = true) : Sim r e 7 7 d (T :: ts) [.inr (.inl (T.v - 12))] ts := by
  intro C W D hs
  refine ⟨[.inr (.inl (T.v - 12))], [], D.headD false, rfl, fun o ho => absurd ho (List.not_mem_nil), ?_, fun _ => rfl, opS_le _ _⟩
  rw [suit_D hs, amR, if_neg (by decide), if_neg (by rintro ⟨c, _⟩; exact absurd c (by decide)), if_neg (by rw [hk]; simp), if_neg (by rw [hk]; decide), if_pos hk, if_pos hv]
  rfl
theorem flt_val (hk : T.k = 1) (hv : ¬ vlb r T.v = true) : Flt r e 7 d (T :: ts) 3 T.p := by
  intro C W D hs
  rw [amR, if_neg (by decide), if_neg (by rintro ⟨c, _⟩; exact absurd c (by decide)), if_neg (by rw [hk]; simp), if_neg (by rw [hk]; decide), if_pos hk, if_neg hv]
theorem flt_no (h1 : ¬ (hdT e ts).k = 1) (h2 : ¬ (hdT e ts).k = 2) (h3 : ¬ ((hdT e ts).k = 3 ∧ (hdT e ts).v = 40)) : Flt r e 7 d ts 1 (hdT e ts).p := by
  intro C W D hs
  cases ts with
  | nil =>
    rw [amR, if_neg (by rintro ⟨c, _⟩; exact absurd c (by decide))]
    rfl
  | cons T ts =>
    rw [amR, if_neg (by decide), if_neg (by rintro ⟨c, _⟩; exact absurd c (by decide)), if_neg (show ¬ (T.k = 3 ∧ T.v = 40) from h3), if_neg (show ¬ T.k = 2 from h2), if_neg (show ¬ T.k = 1 from h1)]
    rfl
theorem am_par {C : List Op} {W : List Nat} {D : List Bool} (hk : T.k = 3) (hv : T.v = 40) (h6 : ¬ 6 ≤ D.length) : amR r e (T :: ts) 1 0 C W D = amR r e ts 2 0 C (9 :: W) (false :: D) := by
  rw [amR, if_neg (by decide), if_neg (by rintro ⟨c, _⟩; exact absurd c (by decide)), if_pos ⟨hk, hv⟩, if_neg h6]
theorem suit_par {W : List Nat} {D : List Bool} (hs : Suit l d W D) : Suit 1 (d + 1) (9 :: W) (false :: D) := ⟨by
    have := hs.1
    simp [this], by show stg 9 < 1; decide, fun _ => rfl⟩
theorem flt_par5 (hk : T.k = 3) (hv : T.v = 40) (h5 : 5 ≤ d) : Flt r e 7 d (T :: ts) (dpK (hdT e ts)) (hdT e ts).p := by
  intro C W D hs
  rw [show md 7 = 1 from rfl, amR, if_neg (by decide), if_neg (by rintro ⟨c, _⟩; exact absurd c (by decide)), if_pos ⟨hk, hv⟩, if_pos (by rw [hs.1]; omega)]
theorem flt_par {k p : Nat} (hk : T.k = 3) (hv : T.v = 40) (h5 : d < 5) (h : Flt r e 1 (d + 1) ts k p) : Flt r e 7 d (T :: ts) k p := by
  intro C W D hs
  rw [show md 7 = 1 from rfl, am_par hk hv (by rw [hs.1]; omega), show (2 : Nat) = md 1 from rfl]
  exact h _ _ _ (suit_par hs)
theorem sim_par (hk : T.k = 3) (hv : T.v = 40) (h5 : d < 5) {T2 : Tok} (h : Sim r e 1 1 (d + 1) ts O (T2 :: ts2)) (hk2 : T2.k = 3) (hv2 : T2.v = 41) : Sim r e 7 7 d (T :: ts) O ts2 := by
  intro C W D hs
  obtain ⟨O1, P, b, a1, a2, a3, a4, a5⟩ := h C (9 :: W) (false :: D) (suit_par hs)
  refine ⟨O, [], D.headD false, by simp, fun o ho => absurd ho (List.not_mem_nil), ?_, fun _ => rfl, opS_le _ _⟩
  have a5' : opS b T2 = 0 := Nat.lt_one_iff.mp a5
  rw [show md 7 = 1 from rfl, am_par hk hv (by rw [hs.1]; omega), show (2 : Nat) = md 1 from rfl, a3, am_0, if_pos a5', if_pos ⟨hk2, hv2, by simp⟩, (tw_app a2 (show Eb 1 (9 :: W) from (by decide : stg 9 < 1))).1, (tw_app a2 (show Eb 1 (9 :: W) from (by decide : stg 9 < 1))).2, a1, suit_D hs, List.append_assoc]
  rfl
theorem flt_par2 (hk : T.k = 3) (hv : T.v = 40) (h5 : d < 5) (h : Sim r e 1 1 (d + 1) ts O ts2) (hn : ¬ ((hdT e ts2).k = 3 ∧ (hdT e ts2).v = 41)) : Flt r e 7 d (T :: ts) 1 (hdT e ts2).p := by
  intro C W D hs
  obtain ⟨O1, P, b, a1, a2, a3, a4, a5⟩ := h C (9 :: W) (false :: D) (suit_par hs)
  rw [show md 7 = 1 from rfl, am_par hk hv (by rw [hs.1]; omega), show (2 : Nat) = md 1 from rfl, a3]
  cases ts2 with
  | nil =>
    rw [amR, if_neg (by simp [hs.1])]
    rfl
  | cons T2 ts2 =>
    have a5' : opS b T2 = 0 := Nat.lt_one_iff.mp a5
    rw [am_0, if_pos a5', if_neg (fun c => hn ⟨c.1, c.2.1⟩), if_neg (by simp [hs.1])]
    rfl
/-! the whole rule -/
theorem sim_top (h : Sim r e 1 1 0 ts O ts2) : amR r e ts 2 0 [] [] [false] = .inr (O, ts2) := by
  obtain ⟨O1, P, b, a1, a2, a3, a4, a5⟩ := h [] [] [false] ⟨rfl, trivial, fun _ => rfl⟩
  rw [show (2 : Nat) = md 1 from rfl, a3]
  cases ts2 with
  | nil =>
    rw [amR, if_pos (by simp), a1]
    simp
  | cons T2 ts2 =>
    have a5' : opS b T2 = 0 := Nat.lt_one_iff.mp a5
    rw [show ([false] : List Bool).tail = [] from rfl, am_0, if_pos a5', if_neg (fun c => ?_), if_pos (by simp), a1]
    · simp
    · have := c.2.2
      simp at this
      have := a2 9 this
      exact absurd this (by decide)
theorem flt_top {k p : Nat} (h : Flt r e 1 0 ts k p) : amR r e ts 2 0 [] [] [false] = .inl (k, p) := h [] [] [false] ⟨rfl, trivial, fun _ => rfl⟩
end R
