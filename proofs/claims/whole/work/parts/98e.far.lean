/-! How far, cut, parts. -/
section Gr
variable {wd : Nat} {s : Sp} {B : Nat}
theorem rs_0 {S : Nat} (g : s.Good wd) (h : S < 2 ^ wd) : s.rs wd 0 S = s.sp wd S := by
  apply Nat.eq_of_testBit_eq
  intro v
  rw [Bool.eq_iff_iff, rs_iff g h, sp_iff]
  constructor
  · rintro ⟨_, _, h3⟩
    exact h3
  · intro h3
    refine ⟨?_, Nat.zero_testBit v, h3⟩
    by_cases c : v < wd
    · exact c
    · have := bits_of_lt (sp_lt g h) (show wd ≤ v by omega)
      rw [sp_iff.mpr h3] at this
      cases this
theorem rc_mono {w v k : Nat} (g : s.Good wd) (hw : w < wd) (hB : B.testBit w = false) (h : (s.rc wd B w k).testBit v = true) : ∀ d, (s.rc wd B w (k + d)).testBit v = true
  | 0 => h
  | d + 1 => rc_sub g hw hB (rc_mono g hw hB h d)
theorem rc_in8 {w v k : Nat} (g : s.Good wd) (hw : w < wd) (hB : B.testBit w = false) (h : (s.rc wd B w k).testBit v = true) : (s.rc wd B w 8).testBit v = true := by
  have hwd := g.h_wd
  have h1 := rc_mono g hw hB h 8
  rw [rc_8 g hw hB (show wd ≤ k + 8 + 1 by omega)] at h1
  exact h1
end Gr
section Q
variable {n : Nat} {A : Ab} {M M2 : Mem} {x1 x2 x3 x4 x5 : Int32}
theorem bit_if {S o : Nat} (hS : S < 256) (ho : o < 8) : (((nI S >>> (nI o &&& 31)) &&& (1 : Int32)) = (1 : Int32) ↔ S.testBit o = true) ∧ (((nI S >>> (nI o &&& 31)) &&& (1 : Int32)) = 0 ↔ S.testBit o = false) := by
  rw [bitI_at S hS o ho]
  cases S.testBit o with
  | true => exact ⟨⟨fun _ => rfl, fun _ => rfl⟩, ⟨fun h => absurd h (by decide), fun h => absurd h (by decide)⟩⟩
  | false => exact ⟨⟨fun h => absurd h (by decide), fun h => absurd h (by decide)⟩, ⟨fun _ => rfl, fun _ => rfl⟩⟩
theorem mFarIn {S o k : Nat} (hn : 100 < n) (g : A.Good) (hM : RM A M2) (hS : S < 2 ^ A.wd) : gl (b_X9_far_57 n (nI o) (nI k) (nI S)) n (nI S, (0 : Int32), M2) = some (.inl (nI (A.now.sp A.wd S), nI (k + 1), M2)) := by
  have hwd := g.g_n.h_wd
  have hp : 2 ^ A.wd ≤ 2 ^ 8 := Nat.pow_le_pow_right (by decide) hwd
  obtain ⟨u, m, -, ee⟩ := gl_k (body := b_X9_far_57 n (nI o) (nI k) (nI S)) (fun k (_ : Unit) => (nI (A.now.spr S k), nI k, M2)) A.wd (fun k _ => True) (fun i u hi _ => by
    refine ⟨(), ?_, trivial⟩
    have hb := (bit_if (S := S) (o := i) (by omega) (by omega)).1
    have i1 : inb ((46 : Int32) + nI i) 108 ∧ ((46 : Int32) + nI i).toNatClampNeg = 0 + 46 + i := by
      rw [show (46 : Int32) + nI i = nI (46 + i) from nI_add 46 i, nI_clamp (by omega)]
      exact ⟨n_in (by omega) (by decide), by omega⟩
    rw [b_X9_far_57]
    try simp only []
    rw [hM.s_t.wards, if_neg (nI_ge hi (by omega))]
    unfold j_X9_far_92
    by_cases c : ((nI S >>> (nI i &&& 31)) &&& (1 : Int32)) = (1 : Int32)
    · rw [if_pos c, ck_pos i1.1, i1.2, hM.s_n.beside i hi, nI_or, nI_1, Sp.spr, if_pos (hb.mp c)]
    · rw [if_neg c, show (0 : Int32) = nI 0 from rfl, nI_or, Nat.or_zero, nI_1, Sp.spr, if_neg (fun q => c (hb.mpr q))]) n 0 () (by omega) (by omega) trivial
  rw [show (nI S, (0 : Int32), M2) = (nI (A.now.spr S 0), nI 0, M2) from rfl, ee]
  refine gl_mr ?_
  rw [b_X9_far_57]
  try simp only []
  rw [hM.s_t.wards, if_pos (nI_le (Nat.le_refl _) (by omega))]
  unfold j_X9_far_100
  rw [nI_1]
  rfl
def farE (s : Sp) (wd w o N : Nat) (v : Int32) : Prop := (∃ D, D < N ∧ v = nI D ∧ (s.rc wd 0 w D).testBit o = true ∧ ∀ i, i < D → (s.rc wd 0 w i).testBit o = false) ∨ (v = -1 ∧ ∀ i, i < N → (s.rc wd 0 w i).testBit o = false)
theorem cFar {w o : Nat} (hn : 100 < n) (g : A.Good) (hC : RC A M) (hw : w < A.wd) (ho : o < A.wd) : ∃ v, f_X5_distance n 4 (nI w) (nI o) M = some (v, M) ∧ farE A.now A.wd w o 8 v := by
  have hwd := g.g_n.h_wd
  have hp : 2 ^ A.wd ≤ 2 ^ 8 := Nat.pow_le_pow_right (by decide) hwd
  unfold f_X5_distance
  rw [one_sh w (by omega)]
  rcases gl_e (body := b_X5_distance_7 n 4 (nI o)) (E := fun t => t.2 = M ∧ farE A.now A.wd w o 8 t.1) (fun k (_ : Unit) => (nI (A.now.rc A.wd 0 w k), nI k, M)) 8 (fun k _ => ∀ i, i < k → (A.now.rc A.wd 0 w i).testBit o = false) (fun k u hk hI => by
    have hl := rc_lt (B := 0) g.g_n hw k
    have hb := (bit_if (S := A.now.rc A.wd 0 w k) (o := o) (by omega) (by omega)).1
    rw [b_X5_distance_7]
    try simp only []
    rw [if_neg (show ¬ (8 : Int32) ≤ nI k from nI_ge (b := 8) hk (by decide))]
    by_cases c : ((nI (A.now.rc A.wd 0 w k) >>> (nI o &&& 31)) &&& (1 : Int32)) = (1 : Int32)
    · rw [if_pos c]
      exact Or.inr ⟨_, rfl, rfl, Or.inl ⟨k, hk, rfl, hb.mp c, hI⟩⟩
    · rw [if_neg c, cSpread hn g.g_n hC.r_n hl]
      refine Or.inl ⟨(), ?_, fun i hi => ?_⟩
      · simp only [bd]
        rw [nI_1, Sp.rc, rs_0 g.g_n hl]
      · by_cases ci : i = k
        · rw [ci]
          cases e : (A.now.rc A.wd 0 w k).testBit o with
          | false => rfl
          | true => exact absurd (hb.mpr e) c
        · exact hI i (by omega)) n 0 () (by omega) (by omega) (fun i hi => absurd hi (by omega)) with ⟨u, m, e1, e2⟩ | ⟨⟨t1, t2⟩, e1, e2, e3⟩
  · refine ⟨-1, ?_, Or.inr ⟨rfl, e1⟩⟩
    rw [show (nI (2 ^ w), (0 : Int32), M) = (nI (A.now.rc A.wd 0 w 0), nI 0, M) from rfl, e2]
    refine gl_mr ?_
    rw [b_X5_distance_7]
    try simp only []
    rw [if_pos (show (8 : Int32) ≤ nI 8 by decide)]
  · have e2 : t2 = M := e2
    subst e2
    exact ⟨t1, by rw [show (nI (2 ^ w), (0 : Int32), t2) = (nI (A.now.rc A.wd 0 w 0), nI 0, t2) from rfl, e1], e3⟩
theorem mFar {w o : Nat} (hn : 100 < n) (g : A.Good) (hM : RM A M2) (hw : w < A.wd) (ho : o < A.wd) : ∃ v, gl (b_X9_far_30 n (nI o)) n (nI (2 ^ w), (0 : Int32), M2) = some (v, M2) ∧ farE A.now A.wd w o (A.wd + 1) v := by
  have hwd := g.g_n.h_wd
  have hp : 2 ^ A.wd ≤ 2 ^ 8 := Nat.pow_le_pow_right (by decide) hwd
  rcases gl_e (body := b_X9_far_30 n (nI o)) (E := fun t => t.2 = M2 ∧ farE A.now A.wd w o (A.wd + 1) t.1) (fun k (_ : Unit) => (nI (A.now.rc A.wd 0 w k), nI k, M2)) (A.wd + 1) (fun k _ => ∀ i, i < k → (A.now.rc A.wd 0 w i).testBit o = false) (fun k u hk hI => by
    have hl := rc_lt (B := 0) g.g_n hw k
    have hb := (bit_if (S := A.now.rc A.wd 0 w k) (o := o) (by omega) (by omega)).1
    rw [b_X9_far_30]
    try simp only []
    rw [hM.s_t.wards, if_neg (nI_nlt (a := A.wd) (b := k) (by omega) (by omega))]
    by_cases c : ((nI (A.now.rc A.wd 0 w k) >>> (nI o &&& 31)) &&& (1 : Int32)) = (1 : Int32)
    · rw [if_pos c]
      exact Or.inr ⟨_, rfl, rfl, Or.inl ⟨k, hk, rfl, hb.mp c, hI⟩⟩
    · rw [if_neg c, mFarIn hn g hM hl]
      refine Or.inl ⟨(), ?_, fun i hi => ?_⟩
      · rw [Sp.rc, rs_0 g.g_n hl]
      · by_cases ci : i = k
        · rw [ci]
          cases e : (A.now.rc A.wd 0 w k).testBit o with
          | false => rfl
          | true => exact absurd (hb.mpr e) c
        · exact hI i (by omega)) n 0 () (by omega) (by omega) (fun i hi => absurd hi (by omega)) with ⟨u, m, e1, e2⟩ | ⟨⟨t1, t2⟩, e1, e2, e3⟩
  · refine ⟨-1, ?_, Or.inr ⟨rfl, e1⟩⟩
    rw [show (nI (2 ^ w), (0 : Int32), M2) = (nI (A.now.rc A.wd 0 w 0), nI 0, M2) from rfl, e2]
    refine gl_mr ?_
    rw [b_X9_far_30]
    try simp only []
    rw [hM.s_t.wards, if_pos (nI_lt (a := A.wd) (b := A.wd + 1) (by omega) (by omega))]
  · have e2 : t2 = M2 := e2
    subst e2
    exact ⟨t1, by rw [show (nI (2 ^ w), (0 : Int32), t2) = (nI (A.now.rc A.wd 0 w 0), nI 0, t2) from rfl, e1], e3⟩
theorem far_un {w o : Nat} {v v' : Int32} (g : A.Good) (hw : w < A.wd) (h : farE A.now A.wd w o 8 v) (h' : farE A.now A.wd w o (A.wd + 1) v') : v = v' := by
  have hwd := g.g_n.h_wd
  have hz : (0 : Nat).testBit w = false := Nat.zero_testBit w
  rcases h with ⟨D, d1, d2, d3, d4⟩ | ⟨d1, d2⟩
  · rcases h' with ⟨E, e1, e2, e3, e4⟩ | ⟨e1, e2⟩
    · have : D = E := by
        by_cases c1 : D < E
        · rw [e4 D c1] at d3; cases d3
        · by_cases c2 : E < D
          · rw [d4 E c2] at e3; cases e3
          · omega
      rw [d2, e2, this]
    · have h8 := rc_in8 g.g_n hw hz d3
      rw [← rc_8 g.g_n hw hz (show A.wd ≤ A.wd + 1 by omega), e2 A.wd (by omega)] at h8
      cases h8
  · rcases h' with ⟨E, e1, e2, e3, e4⟩ | ⟨e1, e2⟩
    · have h8 := rc_in8 g.g_n hw hz e3
      rw [← rc_8 g.g_n hw hz (show A.wd ≤ 7 + 1 by omega), d2 7 (by omega)] at h8
      cases h8
    · rw [d1, e1]
theorem qFar (hn : 3000 < n) (g : A.Good) (hC : RC A M) (hM : RM A M2) : QQ k1 (f_X8_far n x1 x2 M) (f_X9_far n x1 x2 M2) := by
  have hwd := g.g_n.h_wd
  have hM' := hM.thr g 0
  have h0 := thr0 M2
  unfold f_X8_far f_X9_far
  refine qq_ward g hC hM' h0 k1_11 (fun w hw e => ?_)
  dsimp only
  refine qq_ward g hC hM' h0 k1_11 (fun o ho e2 => ?_)
  dsimp only
  subst e e2
  obtain ⟨v, q1, f1⟩ := cFar (n := n) (by omega) g hC hw ho
  obtain ⟨v', q2, f2⟩ := mFar (n := n) (by omega) g hM' hw ho
  have := far_un g hw f1 f2
  subst this
  rw [q1, one_sh w (by omega), q2]
  exact qq_yes g hC hM' h0 k1_00
/-! to cut -/
def fo (P : Nat → Bool) : Nat → Option Nat
  | 0 => none
  | k + 1 => match fo P k with
    | none => if P k then some k else none
    | some b => if bcn k < bcn b ∧ P k = true then some k else some b
theorem fo_lt {P : Nat → Bool} : ∀ {k b : Nat}, fo P k = some b → b < k
  | k + 1, b, h => by
    rw [fo] at h
    cases e : fo P k with
    | none =>
      rw [e] at h
      have h : (if P k = true then some k else none) = some b := h
      split at h
      · cases h; omega
      · cases h
    | some r =>
      rw [e] at h
      have := fo_lt e
      have h : (if bcn k < bcn r ∧ P k = true then some k else some r) = some b := h
      split at h
      · cases h; omega
      · cases h; omega
theorem fo_none {P : Nat → Bool} {N : Nat} (h : ∀ k, k < N → P k = false) : ∀ k, k ≤ N → fo P k = none
  | 0, _ => rfl
  | k + 1, hk => by
    rw [fo, fo_none h k (by omega), h k (by omega)]
    rfl
def ends (w o : Nat) : Nat := 2 ^ w ||| 2 ^ o
def cutP (s : Sp) (wd w o : Nat) (k : Nat) : Bool := (k &&& ends w o == 0) && !(s.rc wd k w 8).testBit o
theorem ends_bit {w o k : Nat} (h : k &&& ends w o = 0) : k.testBit w = false ∧ k.testBit o = false := by
  have e1 : (k &&& ends w o).testBit w = false := by rw [h]; exact Nat.zero_testBit w
  have e2 : (k &&& ends w o).testBit o = false := by rw [h]; exact Nat.zero_testBit o
  unfold ends at e1 e2
  rw [Nat.testBit_and, Nat.testBit_or, pow_bit.mpr rfl, Bool.true_or, Bool.and_true] at e1
  rw [Nat.testBit_and, Nat.testBit_or, pow_bit.mpr (rfl : o = o), Bool.or_true, Bool.and_true] at e2
  exact ⟨e1, e2⟩
theorem cut_no {s : Sp} {wd w o : Nat} (g : s.Good wd) (hw : w < wd) (ho : o < wd) (h : w = o ∨ (s.beside w).testBit o = true) (k : Nat) : cutP s wd w o k = false := by
  unfold cutP
  by_cases c : k &&& ends w o = 0
  · have hb := ends_bit c
    have h8 : (s.rc wd k w 8).testBit o = true := by
      rcases h with h | h
      · exact rc_in8 (k := 0) g hw hb.1 (pow_bit.mpr h.symm)
      · exact rc_in8 (k := 1) g hw hb.1 ((rs_iff g (rc_lt g hw 0)).mpr ⟨ho, hb.2, Or.inr ⟨w, hw, pow_bit.mpr rfl, h⟩⟩)
    rw [h8]
    simp
  · simp [c]
theorem nI_and0 {a b : Nat} (ha : a < 256) : nI (a &&& b) = 0 ↔ a &&& b = 0 := by
  have : a &&& b ≤ a := Nat.and_le_left
  constructor
  · intro h
    exact (nI_eq (b := 0) (by omega) (by decide)).mp h
  · intro h
    rw [h]
    rfl
theorem mCut {w o : Nat} (hn : 3000 < n) (g : A.Good) (hM : RM A M2) (hw : w < A.wd) (ho : o < A.wd) : gl (b_X9_apart_28 n (nI w) (nI o)) n ((-1 : Int32), (0 : Int32), M2) = some (eO (fo (cutP A.now A.wd w o) (2 ^ A.wd)), M2) := by
  have hwd := g.g_n.h_wd
  have hp : 2 ^ A.wd ≤ 2 ^ 8 := Nat.pow_le_pow_right (by decide) hwd
  obtain ⟨u, m, -, ee⟩ := gl_k (body := b_X9_apart_28 n (nI w) (nI o)) (fun k (_ : Unit) => (eO (fo (cutP A.now A.wd w o) k), nI k, M2)) (2 ^ A.wd) (fun k _ => True) (fun k u hk _ => by
    refine ⟨(), ?_, trivial⟩
    rw [b_X9_apart_28]
    try simp only []
    rw [hM.s_t.wards, one_sh A.wd (by omega), if_neg (nI_ge hk (by omega)), one_sh w (by omega), one_sh o (by omega), nI_or, nI_and]
    unfold j_X9_apart_89
    by_cases c : k &&& ends w o = 0
    · have hb := ends_bit c
      have hl := rc_lt (B := k) g.g_n hw 8
      have hbb := (bit_if (S := A.now.rc A.wd k w 8) (o := o) (by omega) (by omega)).2
      have j72 : ∀ x : Int32, j_X9_apart_72 n (nI w) (nI o) x (nI k) M2 = some (.inl (if cutP A.now A.wd w o k = true then nI k else x, nI (k + 1), M2)) := fun x => by
        unfold j_X9_apart_72 j_X9_apart_89
        rw [mHanging (by omega) g.g_n hM.s_n hM.s_t.wards hw hb.1]
        simp only [bd]
        unfold cutP
        cases hc : (A.now.rc A.wd k w 8).testBit o with
        | false =>
          rw [if_pos (hbb.mpr hc), nI_1, c]
          rfl
        | true =>
          rw [if_neg (fun q => by rw [hbb.mp q] at hc; cases hc), nI_1, c]
          rfl
      rw [if_pos ((nI_and0 (b := 2 ^ w ||| 2 ^ o) (by omega)).mpr c)]
      cases e : fo (cutP A.now A.wd w o) k with
      | none =>
        rw [if_pos (show eO none = (-1 : Int32) from rfl), j72, fo, e]
        cases cutP A.now A.wd w o k <;> rfl
      | some b =>
        have hlt := fo_lt e
        have h8 := bcn_le (a := k) hk hwd
        have h8' := bcn_le (a := b) (wd := A.wd) (by omega) hwd
        rw [show eO (some b) = nI b from rfl, if_neg (nI_nm1 (by omega)), mBits (by omega) (by omega)]
        simp only [bd]
        rw [mBits (by omega) (by omega)]
        simp only []
        by_cases c2 : bcn k < bcn b
        · rw [if_pos (nI_lt c2 (by omega)), j72, fo, e]
          cases hP : cutP A.now A.wd w o k with
          | true => simp only [c2, and_self, if_true]; rfl
          | false => simp only [Bool.false_eq_true, and_false, if_false]; rfl
        · rw [if_neg (nI_nlt (by omega) (by omega)), fo, e, nI_1]
          simp only [c2, false_and, if_false]
          rfl
    · have hP : cutP A.now A.wd w o k = false := by
        unfold cutP
        simp [c]
      rw [if_neg (fun q => c ((nI_and0 (b := 2 ^ w ||| 2 ^ o) (by omega)).mp q)), fo, nI_1, hP]
      cases e : fo (cutP A.now A.wd w o) k with
      | none => rfl
      | some b => simp only [Bool.false_eq_true, and_false, if_false]) n 0 () (Nat.zero_le _) (by omega) trivial
  rw [show ((-1 : Int32), (0 : Int32), M2) = (eO (fo (cutP A.now A.wd w o) 0), nI 0, M2) from rfl, ee]
  refine gl_mr ?_
  rw [b_X9_apart_28]
  try simp only []
  rw [hM.s_t.wards, one_sh A.wd (by omega), if_pos (nI_le (Nat.le_refl _) (by omega))]
def eF : Option Nat → Int32
  | none => 9
  | some b => nI (bcn b)
theorem cCut {w o : Nat} (hn : 3000 < n) (g : A.Good) (hC : RC A M) (hw : w < A.wd) (ho : o < A.wd) : f_X5_leastCut n 4 (nI w) (nI o) M = some (eO (fo (cutP A.now A.wd w o) (2 ^ A.wd)), M) := by
  have hwd := g.g_n.h_wd
  have hp : 2 ^ A.wd ≤ 2 ^ 8 := Nat.pow_le_pow_right (by decide) hwd
  unfold f_X5_leastCut
  by_cases c0 : w = o
  · rw [if_pos (by rw [c0]), fo_none (fun k _ => cut_no g.g_n hw ho (Or.inl c0) k) _ (Nat.le_refl _)]
    rfl
  · rw [if_neg (fun q => c0 ((nI_eq (by omega) (by omega)).mp q))]
    have hbs := g.g_n.h_beside w hw
    have hbb := (bit_if (S := A.now.beside w) (o := o) (by omega) (by omega)).1
    have eS : f_X4_isStreet n 4 (nI w) (nI o) M = some (if (A.now.beside w).testBit o = true then (1 : Int32) else 0, M) := by
      unfold f_X4_isStreet
      rw [ck_pos (n_in (by omega) (by decide)), nI_clamp (by omega), hC.r_n.beside w hw]
      by_cases c : (A.now.beside w).testBit o = true
      · rw [if_pos (hbb.mpr c), if_pos c]
      · rw [if_neg (fun q => c (hbb.mp q)), if_neg c]
    rw [eS]
    simp only [bd]
    by_cases c1 : (A.now.beside w).testBit o = true
    · rw [if_pos c1, if_neg (by decide), fo_none (fun k _ => cut_no g.g_n hw ho (Or.inr c1) k) _ (Nat.le_refl _)]
      rfl
    · rw [if_neg c1, if_pos rfl, one_sh w (by omega), one_sh o (by omega), nI_or]
      obtain ⟨u, m, -, ee⟩ := gl_k (body := b_X5_leastCut_34 n 4 (nI w) (nI o) (nI (2 ^ w ||| 2 ^ o))) (fun k (_ : Unit) => (eO (fo (cutP A.now A.wd w o) k), eF (fo (cutP A.now A.wd w o) k), nI k, M)) (2 ^ A.wd) (fun k _ => True) (fun k u hk _ => by
        refine ⟨(), ?_, trivial⟩
        have h8 := bcn_le (a := k) hk hwd
        rw [b_X5_leastCut_34]
        try simp only []
        rw [hC.r_n.wards, one_sh A.wd (by omega), if_neg (nI_ge hk (by omega)), nI_and]
        by_cases c : k &&& ends w o = 0
        · have hb := ends_bit c
          have hl := rc_lt (B := k) g.g_n hw 8
          have hbb := (bit_if (S := A.now.rc A.wd k w 8) (o := o) (by omega) (by omega)).2
          have j67 : ∀ x y : Int32, j_X5_leastCut_67 n 4 (1 : Int32) (nI w) (nI o) (nI (2 ^ w ||| 2 ^ o)) x y (nI k) M = some (.inl (if cutP A.now A.wd w o k = true then nI k else x, if cutP A.now A.wd w o k = true then nI (bcn k) else y, nI (k + 1), M)) := fun x y => by
            unfold j_X5_leastCut_67 j_X5_leastCut_99
            rw [if_neg (by decide), cReached (by omega) g.g_n hC.r_n hw]
            simp only [bd]
            unfold cutP
            cases hc : (A.now.rc A.wd k w 8).testBit o with
            | false =>
              rw [if_pos (hbb.mpr hc), bc_is, bc_256 k (by omega)]
              simp only []
              rw [nI_1, c]
              rfl
            | true =>
              rw [if_neg (fun q => by rw [hbb.mp q] at hc; cases hc), nI_1, c]
              rfl
          rw [if_pos ((nI_and0 (b := 2 ^ w ||| 2 ^ o) (by omega)).mpr c), bc_is, bc_256 k (by omega)]
          simp only [bd]
          cases e : fo (cutP A.now A.wd w o) k with
          | none =>
            rw [if_neg (show ¬ eF none ≤ nI (cntN (fun o => k.testBit o) 8) from nI_ge (a := bcn k) (b := 9) (by omega) (by decide)), j67, fo, e]
            cases cutP A.now A.wd w o k <;> rfl
          | some b =>
            have hlt := fo_lt e
            have h8' := bcn_le (a := b) (wd := A.wd) (by omega) hwd
            by_cases c2 : bcn k < bcn b
            · rw [if_neg (show ¬ eF (some b) ≤ nI (cntN (fun o => k.testBit o) 8) from nI_ge (a := bcn k) (b := bcn b) c2 (by omega)), j67, fo, e]
              cases hP : cutP A.now A.wd w o k with
              | true => simp only [c2, and_self, if_true]; rfl
              | false => simp only [Bool.false_eq_true, and_false, if_false]
            · rw [if_pos (show eF (some b) ≤ nI (cntN (fun o => k.testBit o) 8) from nI_le (a := bcn b) (b := bcn k) (by omega) (by omega)), fo, e]
              unfold j_X5_leastCut_66 j_X5_leastCut_67 j_X5_leastCut_99
              rw [if_pos rfl, nI_1]
              simp only [c2, false_and, if_false]
        · have hP : cutP A.now A.wd w o k = false := by
            unfold cutP
            simp [c]
          rw [if_neg (fun q => c ((nI_and0 (b := 2 ^ w ||| 2 ^ o) (by omega)).mp q)), fo, hP]
          unfold j_X5_leastCut_66 j_X5_leastCut_67 j_X5_leastCut_99
          rw [if_pos rfl, nI_1]
          cases e : fo (cutP A.now A.wd w o) k with
          | none => rfl
          | some b => simp only [Bool.false_eq_true, and_false, if_false]) n 0 () (Nat.zero_le _) (by omega) trivial
      rw [show ((-1 : Int32), (9 : Int32), (0 : Int32), M) = (eO (fo (cutP A.now A.wd w o) 0), eF (fo (cutP A.now A.wd w o) 0), nI 0, M) from rfl, ee]
      refine gl_mr ?_
      rw [b_X5_leastCut_34]
      try simp only []
      rw [hC.r_n.wards, one_sh A.wd (by omega), if_pos (nI_le (Nat.le_refl _) (by omega))]
theorem qApart (hn : 3000 < n) (g : A.Good) (hC : RC A M) (hM : RM A M2) : QQ k1 (f_X8_apart n x1 x2 M) (f_X9_apart n x1 x2 M2) := by
  have hM' := hM.thr g 0
  have h0 := thr0 M2
  unfold f_X8_apart f_X9_apart
  refine qq_ward g hC hM' h0 k1_11 (fun w hw e => ?_)
  dsimp only
  refine qq_ward g hC hM' h0 k1_11 (fun o ho e2 => ?_)
  dsimp only
  subst e e2
  rw [cCut hn g hC hw ho, mCut hn g hM' hw ho]
  exact qq_yes g hC hM' h0 k1_00
end Q
