/-! The pure part: a function answers, and what its answer keeps. -/
def ok {α : Type} (P : α → Prop) (o : Option α) : Prop := ∃ x, o = some x ∧ P x
theorem ok_some {α : Type} {P : α → Prop} {x : α} (h : P x) : ok P (some x) := ⟨x, rfl, h⟩
theorem ok_bd {α β : Type} {o : Option α} {k : α → Option β} {Q : α → Prop} {P : β → Prop} (h : ok Q o) (hk : ∀ x, Q x → ok P (k x)) : ok P (bd o k) := by
  obtain ⟨x, rfl, hx⟩ := h
  exact hk x hx
theorem ok_ck {α : Type} {c : Prop} [Decidable c] {o : Option α} {P : α → Prop} (hc : c) (h : ok P o) : ok P (ck c o) := by
  unfold ck
  rw [if_pos hc]
  exact h
theorem ok_ite {α : Type} {c : Prop} [Decidable c] {a b : Option α} {P : α → Prop} (h1 : c → ok P a) (h2 : ¬ c → ok P b) : ok P (if c then a else b) := by
  by_cases h : c
  · rw [if_pos h]; exact h1 h
  · rw [if_neg h]; exact h2 h
theorem ok_mono {α : Type} {o : Option α} {P Q : α → Prop} (h : ok P o) (hq : ∀ x, P x → Q x) : ok Q o := by
  obtain ⟨x, e, hx⟩ := h
  exact ⟨x, e, hq x hx⟩
theorem ok_is {α : Type} {o : Option α} {x : α} (h : o = some x) : ok (fun r => r = x) o := ⟨x, h, rfl⟩
theorem is_ok {α : Type} {o : Option α} {x : α} (h : ok (fun r => r = x) o) : o = some x := by
  obtain ⟨y, e, rfl⟩ := h
  exact e
/-- what a loop's body leaves: it goes on, or ends -/
def go {σ τ : Type} (I : σ → Prop) (P : τ → Prop) : σ ⊕ τ → Prop
  | .inl s => I s
  | .inr x => P x
theorem ok_mr {σ τ : Type} {o : Option τ} {I : σ → Prop} {P : τ → Prop} (h : ok P o) : ok (go I P) (mr o) := by
  obtain ⟨x, rfl, hx⟩ := h
  exact ⟨.inr x, rfl, hx⟩
theorem ok_inl {σ τ : Type} {s : σ} {I : σ → Prop} {P : τ → Prop} (h : I s) : ok (go I P) (some (.inl s) : Option (σ ⊕ τ)) := ⟨_, rfl, h⟩
theorem ok_gl {σ τ : Type} {body : σ → Option (σ ⊕ τ)} {P : τ → Prop} (I : σ → Prop) (μ : σ → Nat) (h : ∀ s, I s → ok (go (fun s' => I s' ∧ μ s' < μ s) P) (body s)) : ∀ (n : Nat) (s : σ), I s → μ s < n → ok P (gl body n s) := by
  intro n
  induction n with
  | zero => intro s _ h2; omega
  | succ n ih =>
    intro s h1 h2
    obtain ⟨r, e, hr⟩ := h s h1
    rw [gl, e]
    cases r with
    | inl s' => exact ih s' hr.1 (by have := hr.2; omega)
    | inr x => exact ok_some hr
/-- a loop that counts from k to N -/
theorem ok_for {S T A : Type} {body : S → Option (S ⊕ T)} {P : T → Prop} (st : Nat → A → S) (N : Nat) (I : Nat → A → Prop)
    (hs : ∀ k a, k < N → I k a → ok (go (fun s => ∃ a', s = st (k + 1) a' ∧ I (k + 1) a') P) (body (st k a)))
    (he : ∀ a, I N a → ok (go (fun _ => False) P) (body (st N a))) : ∀ (n k : Nat) (a : A), k ≤ N → N - k < n → I k a → ok P (gl body n (st k a)) := by
  intro n
  induction n with
  | zero => intro k a _ h; omega
  | succ n ih =>
    intro k a hk hn hi
    rw [gl]
    by_cases hkN : k = N
    · subst hkN
      obtain ⟨r, e, hr⟩ := he a hi
      rw [e]
      cases r with
      | inl s' => exact hr.elim
      | inr x => exact ok_some hr
    · obtain ⟨r, e, hr⟩ := hs k a (by omega) hi
      rw [e]
      cases r with
      | inl s' =>
        obtain ⟨a', rfl, hi'⟩ := hr
        exact ih (k + 1) a' (by omega) (by omega) hi'
      | inr x => exact ok_some hr
/-! numbers -/
theorem nk (k : Nat) : (OfNat.ofNat k : Int32) = nI k := rfl
theorem n_addL (a k : Nat) : nI a + (OfNat.ofNat k : Int32) = nI (a + k) := nI_add a k
theorem n_addR (a k : Nat) : (OfNat.ofNat k : Int32) + nI a = nI (k + a) := nI_add k a
theorem n_in {c N : Nat} (h : c < N) (hN : N < 2 ^ 31) : inb (nI c) N := nI_in h hN
/-- the sum of the first ones -/
def sumI (f : Nat → Int32) : Nat → Int32
  | 0 => 0
  | k + 1 => sumI f k + f k
theorem sumI_congr {f g : Nat → Int32} : ∀ {k : Nat}, (∀ j, j < k → f j = g j) → sumI f k = sumI g k
  | 0, _ => rfl
  | k + 1, h => by
    rw [sumI, sumI, sumI_congr (fun j hj => h j (by omega)), h k (by omega)]
theorem weightHung_is {n i h : Nat} {M : Mem} (hh : gi M i 6 = nI h) (h16 : h ≤ 16) (hn : 16 < n) : f_X4_weightHung n i M = some (sumI (gi M (i + 1)) h, M) := by
  refine is_ok ?_
  unfold f_X4_weightHung
  refine ok_for (fun k (a : Int32) => (a, nI k, M)) h (fun k a => a = sumI (gi M (i + 1)) k) (fun k a hk ha => ?_) (fun a ha => ?_) n 0 0 (by omega) (by omega) rfl
  · simp only [b_X4_weightHung_4, hh]
    refine ok_ite (fun c => absurd c (nI_ge hk (by omega))) (fun c => ?_)
    refine ok_ck (n_in (by omega) (by decide)) (ok_inl ⟨a + gi M (i + 1) (nI k).toNatClampNeg, by rw [nI_1], ?_⟩)
    rw [nI_clamp (by omega), ha, sumI]
  · simp only [b_X4_weightHung_4, hh]
    refine ok_ite (fun c => ok_mr (ok_some (by rw [ha]))) (fun c => absurd (nI_le (Nat.le_refl _) (by omega)) c)
