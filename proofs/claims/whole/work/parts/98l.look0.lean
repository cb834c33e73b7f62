/-! Unlike leans are counted: bits that are met, first ones. -/
theorem cnt_upd {f : Nat → Bool} {x : Nat} : ∀ {N : Nat}, cntN (fun v => f v || x == v) N = cntN f N + (if x < N ∧ f x = false then 1 else 0)
  | 0 => by simp [cntN]
  | N + 1 => by
    rw [cntN, cntN, cnt_upd (N := N)]
    by_cases c : x = N
    · subst c
      cases e : f x with
      | true => simp
      | false => simp
    · have c' : (x == N) = false := by simpa using c
      simp only [c', Bool.or_false]
      by_cases c2 : x < N ∧ f x = false
      · rw [if_pos c2, if_pos (show x < N + 1 ∧ f x = false from ⟨by omega, c2.2⟩)]
        omega
      · rw [if_neg c2, if_neg (show ¬ (x < N + 1 ∧ f x = false) from fun q => c2 ⟨by omega, q.2⟩)]
        omega
def frs (arr : Nat → Nat) (a : Nat) : Bool := allN (fun b => !(arr b == arr a)) a
theorem frs_cnt {arr : Nat → Nat} {N : Nat} : ∀ {m : Nat}, (∀ a, a < m → arr a < N) → cntN (frs arr) m = cntN (fun v => anyN (fun a => arr a == v) m) N
  | 0, _ => by
    have : ∀ K, cntN (fun v => anyN (fun a => arr a == v) 0) K = 0 := fun K => by
      induction K with
      | zero => rfl
      | succ K ih => rw [cntN, ih]; rfl
    rw [this]
    rfl
  | m + 1, h => by
    have ih := frs_cnt (arr := arr) (N := N) (m := m) (fun a ha => h a (by omega))
    have e : (fun v => anyN (fun a => arr a == v) (m + 1)) = fun v => (anyN (fun a => arr a == v) m || arr m == v) := rfl
    rw [cntN, ih, e, cnt_upd]
    congr 1
    have hm := h m (by omega)
    have e2 : frs arr m = true ↔ anyN (fun a => arr a == arr m) m = false := by
      unfold frs
      rw [allN_iff, Bool.eq_false_iff, ne_eq, anyN_iff]
      constructor
      · rintro h1 ⟨b, hb, h2⟩
        have := h1 b hb
        rw [h2] at this
        cases this
      · intro h1 b hb
        cases e3 : arr b == arr m with
        | false => rfl
        | true => exact absurd ⟨b, hb, e3⟩ h1
    by_cases c : frs arr m = true
    · rw [if_pos c, if_pos ⟨hm, e2.mp c⟩]
    · rw [if_neg c, if_neg (fun q => c (e2.mpr q.2))]
/-- the a-th one that is so -/
def gth (f : Nat → Bool) : Nat → Nat → Nat
  | 0, _ => 0
  | N + 1, a => if f N = true ∧ cntN f N = a then N else gth f N a
theorem cnt_lt2 {f : Nat → Bool} {g : Nat} (hf : f g = true) : ∀ {N : Nat}, g < N → cntN f g < cntN f N
  | N + 1, h => by
    rw [cntN]
    by_cases c : g = N
    · subst c
      rw [hf]
      simp
    · have := cnt_lt2 hf (N := N) (by omega)
      omega
theorem gth_is {f : Nat → Bool} {g : Nat} (hf : f g = true) : ∀ {N : Nat}, g < N → gth f N (cntN f g) = g
  | N + 1, h => by
    rw [gth]
    by_cases c : g = N
    · subst c
      rw [if_pos ⟨hf, rfl⟩]
    · have := cnt_lt2 hf (N := N) (by omega)
      rw [if_neg (by omega)]
      exact gth_is hf (by omega)
theorem gth_ok {f : Nat → Bool} : ∀ {N a : Nat}, a < cntN f N → f (gth f N a) = true ∧ gth f N a < N ∧ cntN f (gth f N a) = a
  | N + 1, a, h => by
    rw [cntN] at h
    rw [gth]
    by_cases c : f N = true ∧ cntN f N = a
    · rw [if_pos c]
      exact ⟨c.1, by omega, c.2⟩
    · rw [if_neg c]
      have h2 : a < cntN f N := by
        cases e : f N with
        | true =>
          rw [e] at h
          have : ¬ cntN f N = a := fun q => c ⟨e, q⟩
          simp at h
          omega
        | false =>
          rw [e] at h
          simpa using h
      have := gth_ok h2
      exact ⟨this.1, by omega, this.2.2⟩
def mtB (gs : Nat → Bool) (F : Nat → Nat → Nat) (i h : Nat) : Nat → Nat
  | 0 => 0
  | g + 1 => if gs g = true ∧ F i g / 64 = h then mtB gs F i h g ||| 2 ^ (F i g % 64) else mtB gs F i h g
theorem mt_bit {gs : Nat → Bool} {F : Nat → Nat → Nat} {i h o : Nat} (ho : o < 64) : ∀ {G : Nat}, (mtB gs F i h G).testBit o = true ↔ ∃ g, g < G ∧ gs g = true ∧ F i g = 64 * h + o
  | 0 => by
    rw [mtB, Nat.zero_testBit]
    exact ⟨fun q => (by cases q), fun ⟨g, hg, _⟩ => absurd hg (by omega)⟩
  | G + 1 => by
    have ih := mt_bit (gs := gs) (F := F) (i := i) (h := h) ho (G := G)
    rw [mtB]
    by_cases c : gs G = true ∧ F i G / 64 = h
    · rw [if_pos c, Nat.testBit_or, Bool.or_eq_true, ih, pow_bit]
      constructor
      · rintro (⟨g, h1, h2⟩ | h1)
        · exact ⟨g, by omega, h2⟩
        · exact ⟨G, by omega, c.1, by have := c.2; omega⟩
      · rintro ⟨g, h1, h2, h3⟩
        by_cases cg : g = G
        · subst cg
          exact Or.inr (by omega)
        · exact Or.inl ⟨g, by omega, h2, h3⟩
    · rw [if_neg c, ih]
      constructor
      · rintro ⟨g, h1, h2⟩
        exact ⟨g, by omega, h2⟩
      · rintro ⟨g, h1, h2, h3⟩
        by_cases cg : g = G
        · subst cg
          exact absurd ⟨h2, by omega⟩ c
        · exact ⟨g, by omega, h2, h3⟩
theorem mt_lt {gs : Nat → Bool} {F : Nat → Nat → Nat} {i h : Nat} : ∀ {G : Nat}, mtB gs F i h G < 2 ^ 64
  | 0 => by rw [mtB]; decide
  | G + 1 => by
    rw [mtB]
    split
    · exact Nat.or_lt_two_pow mt_lt (Nat.pow_lt_pow_right (by decide) (Nat.mod_lt _ (by decide)))
    · exact mt_lt
/-- both counts -/
theorem unlike_is {gs : Nat → Bool} {F : Nat → Nat → Nat} {i G : Nat} (hF : ∀ g, g < G → gs g = true → F i g < 128) : cntN (fun o => (mtB gs F i 0 G).testBit o) 64 + cntN (fun o => (mtB gs F i 1 G).testBit o) 64 = cntN (frs (fun a => F i (gth gs G a))) (cntN gs G) := by
  rw [frs_cnt (N := 128) (fun a ha => by
    have := gth_ok ha
    exact hF _ this.2.1 this.1), show (128 : Nat) = 64 + 64 from rfl, cnt_app]
  have key : ∀ v, anyN (fun a => F i (gth gs G a) == v) (cntN gs G) = true ↔ ∃ g, g < G ∧ gs g = true ∧ F i g = v := fun v => by
    rw [anyN_iff]
    constructor
    · rintro ⟨a, ha, h1⟩
      have := gth_ok ha
      exact ⟨_, this.2.1, this.1, by simpa using h1⟩
    · rintro ⟨g, h1, h2, h3⟩
      exact ⟨cntN gs g, cnt_lt2 h2 h1, by rw [gth_is h2 h1]; simpa using h3⟩
  congr 1
  · refine cntN_congr (fun o ho => ?_)
    rw [Bool.eq_iff_iff, mt_bit ho, key, Nat.mul_zero, Nat.zero_add]
  · refine cntN_congr (fun o ho => ?_)
    rw [Bool.eq_iff_iff, mt_bit ho, key, Nat.mul_one]
theorem lN_or (a b : Nat) : lN a ||| lN b = lN (a ||| b) := by
  apply Int64.toBitVec_inj.mp
  rw [Int64.toBitVec_or]
  show BitVec.ofNat 64 a ||| BitVec.ofNat 64 b = BitVec.ofNat 64 (a ||| b)
  rw [BitVec.ofNat_or]
theorem lk_sh : ∀ l, l < 100 → (1 : Int64) <<< ((nI l &&& (63 : Int32)).toInt64 &&& 63) = lN (2 ^ (l % 64)) := by decide +kernel
theorem lk_hi : ∀ l, l < 100 → ((nI l >>> ((6 : Int32) &&& 31)) &&& (1 : Int32)) = nI (l / 64) := by decide +kernel
