/-! Two sets, as even as may be; what may hang; parts. -/
def Sp.inS (s : Sp) (set : Nat) : Nat → Nat
  | 0 => 0
  | k + 1 => s.inS set k + (if set.testBit k then s.faith k else 0)
def Sp.outS (s : Sp) (set : Nat) : Nat → Nat
  | 0 => 0
  | k + 1 => s.outS set k + (if set.testBit k then 0 else s.faith k)
theorem in_out {s : Sp} {set : Nat} : ∀ k, s.inS set k + s.outS set k = sumN s.faith k
  | 0 => rfl
  | k + 1 => by
    have := in_out (s := s) (set := set) k
    rw [Sp.inS, Sp.outS, sumN]
    cases set.testBit k <;> simp <;> omega
def Sp.un (wd : Nat) (s : Sp) (set : Nat) : Nat := if s.outS set wd ≤ s.inS set wd then s.inS set wd - s.outS set wd else s.outS set wd - s.inS set wd
theorem i_ev1 (a b f : Int32) : a - b + f = a + f - b := by grind
theorem i_ev2 (a b f : Int32) : a - b + -f = a - (b + f) := by grind
theorem i_ev3 (a b : Int32) : -(a - b) = b - a := by grind
section Ev
variable {n wd i : Nat} {s : Sp} {M : Mem}
theorem inS_le {set k : Nat} (g : s.Good wd) (hk : k ≤ wd) : s.inS set k + s.outS set k ≤ 99 * k := by
  rw [in_out]
  exact sumN_le (fun j hj => g.h_faith j (by omega))
theorem cUneven {set : Nat} (hn : 100 < n) (g : s.Good wd) (h : StC wd s i M) (hs : set < 256) : f_X4_unevenness n i (nI set) M = some (nI (s.un wd set), M) := by
  have hw := g.h_wd
  have hle := inS_le (set := set) g (Nat.le_refl wd)
  unfold f_X4_unevenness
  obtain ⟨u, m, -, ee⟩ := gl_k (body := b_X4_unevenness_4 n i (nI set)) (fun k (_ : Unit) => (nI (s.inS set k) - nI (s.outS set k), nI k, M)) wd (fun k _ => True) (fun k u hk _ => by
    refine ⟨(), ?_, trivial⟩
    have hb := (bit_if (S := set) (o := k) hs (by omega)).1
    have i1 : inb (nI k) 8 := n_in (by omega) (by decide)
    have z1 : (nI k).toNatClampNeg = k := nI_clamp (by omega)
    rw [b_X4_unevenness_4]
    simp only [ck_pos i1, z1]
    rw [h.wards, if_neg (nI_ge hk (by omega)), h.faith k hk]
    unfold j_X4_unevenness_38
    by_cases c : ((nI set >>> (nI k &&& 31)) &&& (1 : Int32)) = (1 : Int32)
    · rw [if_pos c, i_ev1, nI_add, nI_1, Sp.inS, Sp.outS, if_pos (hb.mp c), if_pos (hb.mp c)]
      rfl
    · rw [if_neg c, i_ev2, nI_add, nI_1, Sp.inS, Sp.outS, if_neg (fun q => c (hb.mpr q)), if_neg (fun q => c (hb.mpr q))]
      rfl) n 0 () (by omega) (by omega) trivial
  rw [show ((0 : Int32), (0 : Int32), M) = (nI (s.inS set 0) - nI (s.outS set 0), nI 0, M) by rw [show nI (s.inS set 0) - nI (s.outS set 0) = (0 : Int32) from show nI 0 - nI 0 = (0 : Int32) by decide]; rfl, ee]
  refine gl_mr ?_
  rw [b_X4_unevenness_4]
  try simp only []
  rw [h.wards, if_pos (nI_le (Nat.le_refl _) (by omega))]
  unfold j_X4_unevenness_46 f_J9_abs_0f7a4 Sp.un
  by_cases c : s.outS set wd ≤ s.inS set wd
  · rw [if_pos c, pk_sub c, if_pos (show (0 : Int32) ≤ nI (s.inS set wd - s.outS set wd) from nI_le (a := 0) (by omega) (by omega))]
    rfl
  · rw [if_neg c, if_neg (show ¬ (0 : Int32) ≤ nI (s.inS set wd) - nI (s.outS set wd) by rw [Int32.le_iff_toInt_le, pk_sub_toInt (by omega) (by omega), show (0 : Int32).toInt = 0 from rfl]; omega), i_ev3, pk_sub (by omega)]
    rfl
def Sp.ev (wd : Nat) (s : Sp) : Nat → Option Nat
  | 0 => none
  | k + 1 => match s.ev wd k with
    | none => some (2 * k + 1)
    | some b => if s.un wd (2 * k + 1) < s.un wd b then some (2 * k + 1) else some b
theorem ev_lt : ∀ {k b : Nat}, s.ev wd k = some b → b < 2 * k
  | k + 1, b, h => by
    rw [Sp.ev] at h
    cases e : s.ev wd k with
    | none =>
      rw [e] at h
      cases h
      omega
    | some r =>
      rw [e] at h
      have := ev_lt e
      have h : (if s.un wd (2 * k + 1) < s.un wd r then some (2 * k + 1) else some r) = some b := h
      split at h
      · cases h; omega
      · cases h; omega
theorem ev_none : ∀ {k : Nat}, s.ev wd k = none → k = 0
  | 0, _ => rfl
  | k + 1, h => by
    rw [Sp.ev] at h
    cases e : s.ev wd k with
    | none => rw [e] at h; cases h
    | some r =>
      rw [e] at h
      have h : (if s.un wd (2 * k + 1) < s.un wd r then some (2 * k + 1) else some r) = none := h
      split at h <;> cases h
theorem un_le {set : Nat} (g : s.Good wd) : s.un wd set ≤ 792 := by
  have hw := g.h_wd
  have := inS_le (set := set) g (Nat.le_refl wd)
  unfold Sp.un
  split <;> omega
def eB : Option Nat → Int32
  | none => 0
  | some b => nI b
def eU (s : Sp) (wd : Nat) (d : Int32) : Option Nat → Int32
  | none => d
  | some b => nI (s.un wd b)
theorem cEven (hn : 3000 < n) (g : s.Good wd) (h : StC wd s i M) : f_X4_evenSet n i M = some (eB (s.ev wd (2 ^ wd / 2)), M) := by
  have hw := g.h_wd
  have hp : 2 ^ wd ≤ 2 ^ 8 := Nat.pow_le_pow_right (by decide) hw
  unfold f_X4_evenSet
  obtain ⟨u, m, -, ee⟩ := gl_k (body := b_X4_evenSet_8 n i) (fun k (_ : Unit) => (eB (s.ev wd k), eU s wd 793 (s.ev wd k), nI (2 * k + 1), M)) (2 ^ wd / 2) (fun k _ => True) (fun k u hk _ => by
    refine ⟨(), ?_, trivial⟩
    have hu := un_le (set := 2 * k + 1) g
    rw [b_X4_evenSet_8]
    try simp only []
    rw [h.wards, one_sh wd (by omega), if_neg (nI_ge (a := 2 * k + 1) (b := 2 ^ wd) (by omega) (by omega)), cUneven (by omega) g h (by omega)]
    simp only [bd]
    unfold j_X4_evenSet_36
    rw [nA_2, show 2 * k + 1 + 2 = 2 * (k + 1) + 1 by omega, Sp.ev]
    cases e : s.ev wd k with
    | none =>
      rw [if_neg (show ¬ eU s wd 793 none ≤ nI (s.un wd (2 * k + 1)) from nI_ge (b := 793) (by omega) (by decide))]
      rfl
    | some b =>
      have hb := un_le (set := b) g
      by_cases c : s.un wd (2 * k + 1) < s.un wd b
      · rw [if_neg (show ¬ eU s wd 793 (some b) ≤ nI (s.un wd (2 * k + 1)) from nI_ge c (by omega))]
        simp only [if_pos c]
        rfl
      · rw [if_pos (show eU s wd 793 (some b) ≤ nI (s.un wd (2 * k + 1)) from nI_le (by omega) (by omega))]
        simp only [if_neg c]) n 0 () (Nat.zero_le _) (by omega) trivial
  rw [show ((0 : Int32), (793 : Int32), (1 : Int32), M) = (eB (s.ev wd 0), eU s wd 793 (s.ev wd 0), nI (2 * 0 + 1), M) from rfl, ee]
  refine gl_mr ?_
  rw [b_X4_evenSet_8]
  try simp only []
  rw [h.wards, one_sh wd (by omega), if_pos (nI_le (by omega) (by omega))]
theorem cEvenU (hn : 3000 < n) (g : s.Good wd) (h : StC wd s i M) : bd (f_X4_evenSet n i M) (fun q22 => f_X4_unevenness n i q22.1 q22.2) = some (eU s wd 0 (s.ev wd (2 ^ wd / 2)), M) := by
  have hw := g.h_wd
  have hp : 2 ^ wd ≤ 2 ^ 8 := Nat.pow_le_pow_right (by decide) hw
  rw [cEven hn g h]
  simp only [bd]
  cases e : s.ev wd (2 ^ wd / 2) with
  | none =>
    have h0 := ev_none e
    have hwd0 : wd = 0 := by
      by_cases c : wd = 0
      · exact c
      · have : 2 ^ 1 ≤ 2 ^ wd := Nat.pow_le_pow_right (by decide) (by omega)
        omega
    rw [show eB none = nI 0 from rfl, cUneven (by omega) g h (by decide)]
    subst hwd0
    rfl
  | some b =>
    have := ev_lt e
    rw [show eB (some b) = nI b from rfl, cUneven (by omega) g h (by omega)]
    rfl
theorem mEvenIn {x1 x3 x4 : Int32} {k : Nat} (hn : 100 < n) (g : s.Good wd) (h : StR wd s 12 0 M) (hwd : gi M 0 1 = nI wd) (hk : k < 256) : gl (b_X9_even_39 n x1 (nI (s.fs wd)) x3 x4 (nI k)) n ((0 : Int32), (0 : Int32), M) = (if nI (s.un wd k) < x4 then some (.inl (nI k, nI (s.un wd k), nI (k + 2), M)) else some (.inl (x3, x4, nI (k + 2), M))) := by
  have hw := g.h_wd
  have hle := inS_le (set := k) g (Nat.le_refl wd)
  have hio := in_out (s := s) (set := k) wd
  obtain ⟨u, m, -, ee⟩ := gl_k (body := b_X9_even_39 n x1 (nI (s.fs wd)) x3 x4 (nI k)) (fun i (_ : Unit) => (nI (s.inS k i), nI i, M)) wd (fun k _ => True) (fun i u hi _ => by
    refine ⟨(), ?_, trivial⟩
    have i1 : inb ((38 : Int32) + nI i) 108 ∧ ((38 : Int32) + nI i).toNatClampNeg = 0 + 38 + i := by
      rw [show (38 : Int32) + nI i = nI (38 + i) from nI_add 38 i, nI_clamp (by omega)]
      exact ⟨n_in (by omega) (by decide), by omega⟩
    rw [b_X9_even_39]
    try simp only []
    rw [hwd, if_neg (nI_ge hi (by omega)), ck_pos i1.1, i1.2, h.faith i hi, bitI_at k hk i (by omega), pk_mul, nI_add, nI_1, Sp.inS]
    cases k.testBit i
    · simp
    · simp) n 0 () (by omega) (by omega) trivial
  rw [show ((0 : Int32), (0 : Int32), M) = (nI (s.inS k 0), nI 0, M) from rfl, ee]
  have hd : f_X9_differ n ((2 : Int32) * nI (s.inS k wd)) (nI (s.fs wd)) M = some (nI (s.un wd k), M) := by
    unfold f_X9_differ Sp.un
    have hfs : s.fs wd = s.inS k wd + s.outS k wd := hio.symm
    rw [show (2 : Int32) = nI 2 from rfl, pk_mul, hfs]
    by_cases c : s.outS k wd ≤ s.inS k wd
    · rw [if_pos (nI_le (by omega) (by omega)), if_pos c, pk_sub (by omega), show 2 * s.inS k wd - (s.inS k wd + s.outS k wd) = s.inS k wd - s.outS k wd by omega]
    · rw [if_neg (nI_ge (by omega) (by omega)), if_neg c, pk_sub (by omega), show s.inS k wd + s.outS k wd - 2 * s.inS k wd = s.outS k wd - s.inS k wd by omega]
  refine gl_mr ?_
  rw [b_X9_even_39]
  try simp only []
  rw [hwd, if_pos (nI_le (Nat.le_refl _) (by omega))]
  unfold j_X9_even_77
  rw [hd]
  simp only [bd]
  rw [hd]
  unfold j_X9_even_106
  rw [nA_2]
theorem mEven {x1 : Int32} (hn : 3000 < n) (g : s.Good wd) (h : StR wd s 12 0 M) (hwd : gi M 0 1 = nI wd) : f_X9_even n x1 M = some (if x1 = 0 then eU s wd 0 (s.ev wd (2 ^ wd / 2)) else eB (s.ev wd (2 ^ wd / 2)), M) := by
  have hw := g.h_wd
  have hp : 2 ^ wd ≤ 2 ^ 8 := Nat.pow_le_pow_right (by decide) hw
  unfold f_X9_even
  rw [hwd, show (0 : Int32) = nI 0 from rfl, mFaith (b := 0) (by omega) (by decide) g h]
  simp only [bd]
  obtain ⟨u, m, -, ee⟩ := gl_k (body := b_X9_even_22 n x1 (nI (s.fs wd))) (fun k (_ : Unit) => (eB (s.ev wd k), eU s wd 9999 (s.ev wd k), nI (2 * k + 1), M)) (2 ^ wd / 2) (fun k _ => True) (fun k u hk _ => by
    refine ⟨(), ?_, trivial⟩
    have hu := un_le (set := 2 * k + 1) g
    rw [b_X9_even_22]
    try simp only []
    rw [hwd, one_sh wd (by omega), if_neg (nI_ge (a := 2 * k + 1) (b := 2 ^ wd) (by omega) (by omega)), mEvenIn (by omega) g h hwd (by omega), show 2 * k + 1 + 2 = 2 * (k + 1) + 1 by omega, Sp.ev]
    cases e : s.ev wd k with
    | none =>
      rw [if_pos (show nI (s.un wd (2 * k + 1)) < eU s wd 9999 none from nI_lt (b := 9999) (by omega) (by decide))]
      rfl
    | some b =>
      have hb := un_le (set := b) g
      by_cases c : s.un wd (2 * k + 1) < s.un wd b
      · rw [if_pos (show nI (s.un wd (2 * k + 1)) < eU s wd 9999 (some b) from nI_lt c (by omega))]
        simp only [if_pos c]
        rfl
      · rw [if_neg (show ¬ nI (s.un wd (2 * k + 1)) < eU s wd 9999 (some b) from nI_nlt (by omega) (by omega))]
        simp only [if_neg c]) n 0 () (Nat.zero_le _) (by omega) trivial
  rw [show (nI 0, (9999 : Int32), (1 : Int32), M) = (eB (s.ev wd 0), eU s wd 9999 (s.ev wd 0), nI (2 * 0 + 1), M) from rfl, ee]
  refine gl_mr ?_
  rw [b_X9_even_22]
  try simp only []
  rw [hwd, one_sh wd (by omega), if_pos (nI_le (by omega) (by omega))]
  unfold j_X9_even_112
  by_cases c0 : x1 = 0
  · rw [if_pos c0, if_pos (show x1 = nI 0 from c0)]
    cases e : s.ev wd (2 ^ wd / 2) with
    | none =>
      rw [if_pos (show eU s wd 9999 none = (9999 : Int32) from rfl)]
      rfl
    | some b =>
      have hb := un_le (set := b) g
      rw [if_neg (show ¬ eU s wd 9999 (some b) = (9999 : Int32) from fun q => by
        have := (nI_eq (a := s.un wd b) (b := 9999) (by omega) (by decide)).mp q
        omega)]
      rfl
  · rw [if_neg c0, if_neg (show ¬ x1 = nI 0 from c0)]
/-! what may hang -/
theorem i_br (a w m d y x : Int32) : (a + m) - w - d + (y - x) = (a + (m + y)) - (w + x) - d := by grind
theorem hung_good {x : Nat} (g : s.Good wd) (hx : x ≤ s.all) : (s.setHung x).Good wd := ⟨g.h_wd, hx, g.h_all, g.h_day, g.h_money, g.h_lean, g.h_fell, g.h_weight, g.h_mortar, g.h_faith, g.h_beside, g.h_sym, g.h_self⟩
theorem spare_up {c : Nat} : (s.setHung c).spare wd + (nI (s.mortar c) - nI (s.weight c)) = (s.setHung (c + 1)).spare wd := by
  unfold Sp.spare
  have e1 : (s.setHung (c + 1)).ws = (s.setHung c).ws + s.weight c := rfl
  have e2 : (s.setHung (c + 1)).ms = (s.setHung c).ms + s.mortar c := rfl
  rw [e1, e2, show (s.setHung (c + 1)).fs wd = (s.setHung c).fs wd from rfl, show (s.setHung (c + 1)).lean = (s.setHung c).lean from rfl, ← nI_add, ← nI_add, ← nI_add, ← nI_add]
  exact i_br _ _ _ _ _ _
def Sp.brs (wd : Nat) (s : Sp) : Nat → Nat
  | 0 => 0
  | k + 1 => if (s.setHung (s.hung + k + 1)).spare wd < 0 then s.brs wd k else k + 1
theorem cBears (hn : 3000 < n) (g : s.Good wd) (h : StC wd s i M) : f_X4_bears n i M = some (nI (s.brs wd (s.all - s.hung)), M) := by
  have hh := g.h_hung
  have ha := g.h_all
  unfold f_X4_bears
  rw [cSpare (by omega) g h]
  simp only [bd]
  rw [h.hung]
  obtain ⟨u, m, -, ee⟩ := gl_k (body := b_X4_bears_12 n i) (fun k (_ : Unit) => ((s.setHung (s.hung + k)).spare wd, nI (s.brs wd k), nI (s.hung + k), M)) (s.all - s.hung) (fun k _ => True) (fun k u hk _ => by
    refine ⟨(), ?_, trivial⟩
    have i1 : inb (nI (s.hung + k)) 16 := n_in (by omega) (by decide)
    have z1 : (nI (s.hung + k)).toNatClampNeg = s.hung + k := nI_clamp (by omega)
    rw [b_X4_bears_12]
    simp only [ck_pos i1, z1]
    rw [h.all, if_neg (nI_ge (a := s.hung + k) (b := s.all) (by omega) (by omega)), h.mortar _ (by omega), h.weight _ (by omega), spare_up, h.hung, pk_sub (by omega), show s.hung + k - s.hung = k by omega, nI_1]
    unfold j_X4_bears_49
    rw [nI_1, Sp.brs]
    by_cases c : (s.setHung (s.hung + k + 1)).spare wd < 0
    · rw [if_pos c, if_pos c]
      rfl
    · rw [if_neg c, if_neg c]
      rfl) n 0 () (by omega) (by omega) trivial
  rw [show (s.spare wd, (0 : Int32), nI s.hung, M) = ((s.setHung (s.hung + 0)).spare wd, nI (s.brs wd 0), nI (s.hung + 0), M) from rfl, ee]
  refine gl_mr ?_
  rw [b_X4_bears_12]
  try simp only []
  rw [h.all, if_pos (nI_le (by omega) (by omega))]
theorem mBears {T : Tw} {M0 : Mem} (hn : 3000 < n) (mb : MB wd T s M0) : ∃ M', f_X9_bears n M0 = some (nI (s.brs wd (s.all - s.hung)), M') ∧ kp VT M0 M' ∧ gi M' 0 52 = -1 := by
  have g := mb.n_g
  have hh := g.h_hung
  have ha := g.h_all
  obtain ⟨N1, q1, c1⟩ := mStart (n := n) (by omega) mb kp.rf
  rw [mb.n_w] at c1
  have e0 : s.setHung (s.hung + 0) = s := rfl
  obtain ⟨N2, m, c2, ee⟩ := gl_k (body := b_X9_bears_8 n) (fun k (X : Mem) => (nI (s.brs wd k), nI (k + 1), X)) (s.all - s.hung) (fun k X => MT wd T M0 (-1) (nI 0) (fun _ => nI 0) (s.setHung (s.hung + k)) X) (fun k X hk hI => by
    have g1 : (s.setHung (s.hung + k + 1)).Good wd := hung_good g (by omega)
    have h1 := MT.up (s' := s.setHung (s.hung + k + 1)) hI (p := 54 + 3) (x := nI (s.hung + k + 1)) (by omega) (StR.sHung (s := s.setHung (s.hung + k)) hI.m_g hI.m_st) g1
    have hal : gi X 12 (58 : Int32).toNatClampNeg = nI s.all := hI.all
    have hhu : gi X 12 (57 : Int32).toNatClampNeg = nI (s.hung + k) := hI.hung
    have hle : gi (si X 12 (54 + 3) (nI (s.hung + k + 1))) 12 (2 : Int32).toNatClampNeg = nI s.lean := by
      rw [h1.m_k.1 12 _ (by unfold VT VM; show ¬ _; rw [show (2 : Int32).toNatClampNeg = 2 from rfl]; omega)]
      exact mb.n_st.lean
    have hlean := g.h_lean
    have f1 := g1.fs_le
    have f2 := g1.ms_le
    have f3 := g1.ws_le
    refine ⟨si X 12 (54 + 3) (nI (s.hung + k + 1)), ?_, h1⟩
    rw [b_X9_bears_8]
    try simp only []
    rw [hal, hhu, if_neg (nI_ge (by omega) (by omega)), nI_1, show si X 12 (57 : Int32).toNatClampNeg (nI (s.hung + k + 1)) = si X 12 (54 + 3) (nI (s.hung + k + 1)) from rfl, show (54 : Int32) = nI 54 from rfl, mWeight (by omega) (by decide) g1 h1.m_st]
    simp only [bd]
    rw [mStrength (by omega) (by decide) g1 h1.m_st h1.m_tw.wards]
    simp only []
    rw [hle, show (5 : Int32) = nI 5 from rfl, pk_div (by omega) (by decide) (by decide), nI_add]
    unfold j_X9_bears_62
    rw [nI_1, Sp.brs]
    have hsn := spare_neg g1
    have hl2 : (s.setHung (s.hung + k + 1)).lean = s.lean := rfl
    rw [hl2] at hsn
    by_cases c : (s.setHung (s.hung + k + 1)).spare wd < 0
    · rw [if_pos (nI_lt (hsn.mp c) (by omega)), if_pos c]
    · have c2 : ¬ ((s.setHung (s.hung + k + 1)).fs wd / 10 + (s.setHung (s.hung + k + 1)).ms < (s.setHung (s.hung + k + 1)).ws + s.lean / 5) := fun q => c (hsn.mpr q)
      rw [if_neg (nI_nlt (by omega) (by omega)), if_neg c]) n 0 N1 (by omega) (by omega) (by rw [e0]; exact c1)
  have hal : gi N2 12 (58 : Int32).toNatClampNeg = nI s.all := c2.all
  have hhu : gi N2 12 (57 : Int32).toNatClampNeg = nI (s.hung + (s.all - s.hung)) := c2.hung
  refine ⟨N2, ?_, c2.m_k, c2.m_w⟩
  unfold f_X9_bears
  rw [q1]
  simp only [bd]
  rw [show ((0 : Int32), (1 : Int32), N1) = (nI (s.brs wd 0), nI (0 + 1), N1) from rfl, ee]
  refine gl_mr ?_
  rw [b_X9_bears_8]
  try simp only []
  rw [hal, hhu, if_pos (nI_le (by omega) (by omega))]
end Ev
