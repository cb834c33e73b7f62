/-! Rows: the reference; both. -/
def usN (L f : Nat) : Nat → Nat
  | 0 => 0
  | m + 1 => usN L f m ||| 2 ^ dig L f (L - 1 - m)
section L
variable {n wd : Nat} {T : Tw} {s : Sp} {M0 M : Mem}
theorem mIsRow {L f : Nat} (hn : 3000 < n) (mb : MB wd T s M0) (e : kp VT M0 M) (hw : gi M 0 52 = -1) (hL : L < 5) (hLa : s.hung + L ≤ s.all) (hf : f < 10000) : ∃ M', f_X9_isRow n (nI f) (nI L) M = some (if vld L f = true then (1 : Int32) else 0, M') ∧ kp VT M0 M' ∧ gi M' 0 52 = -1 ∧ (vld L f = true → MT wd T M0 (-1) (nI 0) (fun _ => nI 0) (s.lay (dig L f) 0 L) M') := by
  have g := mb.n_g
  have ha := g.h_all
  obtain ⟨N1, q1, c1⟩ := mStart (n := n) (by omega) mb e
  rw [hw] at c1
  unfold f_X9_isRow
  rw [q1]
  simp only [bd]
  have em : ∀ m, m < L → f / 10 ^ m % 10 = dig L f (L - 1 - m) := fun m hm => by
    unfold dig
    rw [show L - 1 - (L - 1 - m) = m by omega]
  rcases gl_e (body := b_X9_isRow_14 n (nI L)) (E := fun t => t.1 = 0 ∧ vld L f = false ∧ kp VT M0 t.2 ∧ gi t.2 0 52 = -1) (fun m (X : Mem) => (nI (usN L f m), nI (f / 10 ^ m), nI (L - m) - (1 : Int32), X)) L (fun m X => (∀ a, L - m ≤ a → a < L → dig L f a < L) ∧ (∀ a b, L - m ≤ a → a < b → b < L → dig L f a ≠ dig L f b) ∧ (usN L f m < 16 ∧ ∀ v, (usN L f m).testBit v = true ↔ ∃ a, L - m ≤ a ∧ a < L ∧ dig L f a = v) ∧ MT wd T M0 (-1) (nI 0) (fun _ => nI 0) (s.lay (dig L f) (L - m) L) X) (fun m X hm hI => by
    obtain ⟨b1, b2, ⟨b3, b4⟩, b5⟩ := hI
    have hfm : f / 10 ^ m ≤ f := Nat.div_le_self _ _
    have x5 : nI (L - m) - (1 : Int32) = nI (L - 1 - m) := by
      rw [show nI (L - m) - (1 : Int32) = nI (L - m - 1) from pk_sub (b := 1) (by omega), show L - m - 1 = L - 1 - m by omega]
    have d1 : nI (f / 10 ^ m) / (10 : Int32) = nI (f / 10 ^ (m + 1)) := by
      rw [show nI (f / 10 ^ m) / (10 : Int32) = nI (f / 10 ^ m / 10) from pk_div (d := 10) (by omega) (by decide) (by decide), Nat.div_div_eq_div_mul, Nat.pow_succ]
    have d2 : nI (f / 10 ^ m) - nI (f / 10 ^ m) / (10 : Int32) * (10 : Int32) = nI (dig L f (L - 1 - m)) := by
      rw [show nI (f / 10 ^ m) - nI (f / 10 ^ m) / (10 : Int32) * (10 : Int32) = nI (f / 10 ^ m % 10) from pk_rem (d := 10) (by omega) (by decide) (by decide), em m hm]
    have hd10 : dig L f (L - 1 - m) < 10 := by
      rw [← em m hm]
      exact Nat.mod_lt _ (by decide)
    rw [b_X9_isRow_14]
    try simp only []
    rw [d2, d1, x5, if_neg (show ¬ nI (L - 1 - m) < (0 : Int32) from nI_nlt (b := 0) (by omega) (by omega))]
    by_cases c1 : L ≤ dig L f (L - 1 - m)
    · rw [if_pos (nI_le c1 (by omega))]
      refine Or.inr ⟨_, rfl, rfl, ?_, b5.m_k, b5.m_w⟩
      cases ev : vld L f with
      | false => rfl
      | true =>
        have := (vld_iff.mp ev).1 (L - 1 - m) (by omega)
        omega
    · have hb := (bit_if (S := usN L f m) (o := dig L f (L - 1 - m)) (by omega) (by omega)).1
      rw [if_neg (nI_ge (by omega) (by omega))]
      by_cases c2 : (usN L f m).testBit (dig L f (L - 1 - m)) = true
      · rw [if_pos (hb.mpr c2)]
        refine Or.inr ⟨_, rfl, rfl, ?_, b5.m_k, b5.m_w⟩
        cases ev : vld L f with
        | false => rfl
        | true =>
          obtain ⟨a, h1, h2, h3⟩ := (b4 _).mp c2
          exact absurd h3.symm ((vld_iff.mp ev).2 (L - 1 - m) a (by omega) h2)
      · rw [if_neg (fun q => c2 (hb.mp q))]
        have hu : gi X 12 (3 : Int32).toNatClampNeg = nI s.hung := (b5.m_k.1 12 3 (by unfold VT VM; omega)).trans mb.n_st.hung
        have st : StR wd s 12 0 X := mb.n_st.kp g b5.m_k (fun k _ _ => by unfold VT VM; omega)
        have g1 : ∀ y k, 54 ≤ k → gi (si X 12 k y) 12 (3 : Int32).toNatClampNeg = nI s.hung := fun y k hk => by
          rw [gi_si, if_neg (by rw [show (3 : Int32).toNatClampNeg = 3 from rfl]; omega)]
          exact hu
        have p6 : (6 : Int32) + (nI s.hung + nI (dig L f (L - 1 - m))) = nI (0 + 6 + (s.hung + dig L f (L - 1 - m))) := by
          rw [nI_add, show (6 : Int32) = nI 6 from rfl, nI_add]
        have p22 : (22 : Int32) + (nI s.hung + nI (dig L f (L - 1 - m))) = nI (0 + 22 + (s.hung + dig L f (L - 1 - m))) := by
          rw [nI_add, show (22 : Int32) = nI 22 from rfl, nI_add]
        have p60 : (60 : Int32) + nI s.hung + nI (L - 1 - m) = nI (60 + s.hung + (L - 1 - m)) := by
          rw [show (60 : Int32) = nI 60 from rfl, nI_add, nI_add]
        have p76 : (76 : Int32) + nI s.hung + nI (L - 1 - m) = nI (76 + s.hung + (L - 1 - m)) := by
          rw [show (76 : Int32) = nI 76 from rfl, nI_add, nI_add]
        have j1 : inb (nI (0 + 6 + (s.hung + dig L f (L - 1 - m)))) 108 := n_in (by omega) (by decide)
        have j2 : inb (nI (0 + 22 + (s.hung + dig L f (L - 1 - m)))) 108 := n_in (by omega) (by decide)
        have j3 : inb (nI (60 + s.hung + (L - 1 - m))) 108 := n_in (by omega) (by decide)
        have j4 : inb (nI (76 + s.hung + (L - 1 - m))) 108 := n_in (by omega) (by decide)
        have z1 : (nI (0 + 6 + (s.hung + dig L f (L - 1 - m)))).toNatClampNeg = 0 + 6 + (s.hung + dig L f (L - 1 - m)) := nI_clamp (by omega)
        have z2 : (nI (0 + 22 + (s.hung + dig L f (L - 1 - m)))).toNatClampNeg = 0 + 22 + (s.hung + dig L f (L - 1 - m)) := nI_clamp (by omega)
        have z3 : (nI (60 + s.hung + (L - 1 - m))).toNatClampNeg = 60 + s.hung + (L - 1 - m) := nI_clamp (by omega)
        have z4 : (nI (76 + s.hung + (L - 1 - m))).toNatClampNeg = 76 + s.hung + (L - 1 - m) := nI_clamp (by omega)
        have hk1 : L - m = L - 1 - m + 1 := by omega
        rw [hk1] at b5
        have gN : (s.lay (dig L f) (L - 1 - m) L).Good wd := lay_good g (fun a h1 h2 => by
          by_cases ca : a = L - 1 - m
          · subst ca
            omega
          · have := b1 a (by omega) h2
            omega)
        have ml := mLay (s := s) (P := dig L f) g (show L - 1 - m < L by omega) hLa b5.m_st
        have hk2 : L - (m + 1) = L - 1 - m := by omega
        refine Or.inl ⟨si (si X 12 (60 + s.hung + (L - 1 - m)) (nI (s.weight (s.hung + dig L f (L - 1 - m))))) 12 (76 + s.hung + (L - 1 - m)) (nI (s.mortar (s.hung + dig L f (L - 1 - m)))), ?_, ?_, ?_, ⟨?_, fun v => ?_⟩, ?_⟩
        · rw [hu, p6, p22, p60, ck_pos j1, ck_pos j3, ck_pos j2, z1, z3, z2, g1 _ _ (by omega), p76, ck_pos j4, z4, st.weight _ (by omega), show gi (si X 12 (60 + s.hung + (L - 1 - m)) (nI (s.weight (s.hung + dig L f (L - 1 - m))))) 12 (0 + 22 + (s.hung + dig L f (L - 1 - m))) = nI (s.mortar (s.hung + dig L f (L - 1 - m))) by rw [gi_si, if_neg (by omega)]; exact st.mortar _ (by omega), one_sh (dig L f (L - 1 - m)) (by omega), nI_or, hk2, show nI (L - 1 - m) + (-1 : Int32) = nI (L - 1 - m) - (1 : Int32) from (Int32.sub_eq_add_neg _ _).symm]
          rfl
        · intro a h1 h2
          by_cases ca : a = L - 1 - m
          · subst ca
            omega
          · exact b1 a (by omega) h2
        · intro a b h1 h2 h3 h4
          by_cases ca : a = L - 1 - m
          · subst ca
            exact c2 ((b4 _).mpr ⟨b, by omega, h3, h4.symm⟩)
          · exact b2 a b (by omega) h2 h3 h4
        · have hlt : 2 ^ dig L f (L - 1 - m) < 2 ^ 4 := Nat.pow_lt_pow_right (by decide) (by omega)
          exact Nat.or_lt_two_pow (n := 4) b3 hlt
        · rw [usN, Nat.testBit_or, Bool.or_eq_true, b4 v, pow_bit]
          constructor
          · rintro (⟨a, h1, h2, h3⟩ | h3)
            · exact ⟨a, by omega, h2, h3⟩
            · exact ⟨L - 1 - m, by omega, by omega, h3.symm⟩
          · rintro ⟨a, h1, h2, h3⟩
            by_cases ca : a = L - 1 - m
            · subst ca
              exact Or.inr h3.symm
            · exact Or.inl ⟨a, by omega, h2, h3⟩
        · rw [hk2]
          exact MT.upk b5 ((kp.rf.si (by omega) _).si (by omega) _) ml gN) n 0 N1 (by omega) (by omega) ⟨fun a h1 h2 => absurd h1 (by omega), fun a b h1 h2 h3 => absurd h1 (by omega), ⟨show 0 < 16 by decide, fun v => ⟨fun q => (by rw [show usN L f 0 = 0 from rfl, Nat.zero_testBit] at q; cases q), fun ⟨a, h1, h2, _⟩ => absurd h1 (by omega)⟩⟩, by
    rw [Nat.sub_zero, lay_L]
    exact c1⟩ with ⟨X, m, ⟨e1, e2, -, e4⟩, e3⟩ | ⟨⟨t1, t2⟩, e1, e2, e3, e4, e5⟩
  · have hv : vld L f = true := vld_iff.mpr ⟨fun a h => e1 a (by omega) h, fun a b h1 h2 => e2 a b (by omega) h1 h2⟩
    rw [Nat.sub_self] at e4
    refine ⟨X, ?_, e4.m_k, e4.m_w, fun _ => e4⟩
    rw [show ((0 : Int32), nI f, nI L - (1 : Int32), N1) = (nI (usN L f 0), nI (f / 10 ^ 0), nI (L - 0) - (1 : Int32), N1) by rw [Nat.pow_zero, Nat.div_one, Nat.sub_zero]; rfl, e3, if_pos hv]
    refine gl_mr ?_
    rw [b_X9_isRow_14]
    try simp only []
    rw [Nat.sub_self, if_pos (show nI 0 - (1 : Int32) < 0 by decide)]
  · have e2 : t1 = 0 := e2
    subst e2
    refine ⟨t2, ?_, e4, e5, fun c => absurd c (by rw [e3]; decide)⟩
    rw [show ((0 : Int32), nI f, nI L - (1 : Int32), N1) = (nI (usN L f 0), nI (f / 10 ^ 0), nI (L - 0) - (1 : Int32), N1) by rw [Nat.pow_zero, Nat.div_one, Nat.sub_zero]; rfl, e1, if_neg (by rw [e3]; decide)]
end L
def rwS (H : Nat → Nat) (r : Option (Nat × Nat)) (k : Nat) : Option (Nat × Nat) := match r with
  | none => some (H k, k)
  | some p => if p.1 < H k then some (H k, k) else some p
def rM : Option (Nat × Nat) → Int32
  | none => -1
  | some p => nI p.1
def rB : Option (Nat × Nat) → Int32
  | none => -1
  | some p => nI p.2
theorem rw_step {H : Nat → Nat} {r : Option (Nat × Nat)} {k : Nat} (hH : H k ≤ 100) (hr : ∀ p, r = some p → p.1 ≤ 100) : (nI (H k) ≤ rM r ∧ rwS H r k = r) ∨ (rM r < nI (H k) ∧ rwS H r k = some (H k, k)) := by
  cases r with
  | none =>
    refine Or.inr ⟨?_, rfl⟩
    show (-1 : Int32) < nI (H k)
    rw [Int32.lt_iff_toInt_lt, nI_toInt (by omega), show (-1 : Int32).toInt = -1 from rfl]
    omega
  | some p =>
    have := hr p rfl
    by_cases c : p.1 < H k
    · exact Or.inr ⟨nI_lt c (by omega), if_pos c⟩
    · exact Or.inl ⟨nI_le (by omega) (by omega), if_neg c⟩
theorem rw_le {H : Nat → Nat} (hH : ∀ k, H k ≤ 100) : ∀ (l : List Nat) (r : Option (Nat × Nat)), (∀ p, r = some p → p.1 ≤ 100) → ∀ p, l.foldl (rwS H) r = some p → p.1 ≤ 100
  | [], r, h, p, hp => h p hp
  | k :: l, r, h, p, hp => rw_le hH l (rwS H r k) (fun p' hp' => by
    cases r with
    | none =>
      cases hp'
      exact hH k
    | some q =>
      have h1 : (if q.1 < H k then some (H k, k) else some q) = some p' := hp'
      split at h1
      · cases h1; exact hH k
      · cases h1; exact h _ rfl) p hp
section Q
variable {n : Nat} {A : Ab} {M M2 : Mem} {x1 x2 x3 x4 x5 : Int32}
def Ab.rl (A : Ab) : Nat := if 4 ≤ A.now.all - A.now.hung then 4 else A.now.all - A.now.hung
def Ab.rh (A : Ab) (d k : Nat) : Nat := (A.tw.ahead A.wd (A.now.lay (dig A.rl k) 0 A.rl) d).hung
theorem qRow (hn : 20000 < n) (g : A.Good) (hC : RC A M) (hM : RM A M2) : QQ k12 (f_X8_row n x1 x2 M) (f_X9_row n x1 x2 M2) := by
  have hda := g.g_d
  have hh := g.g_n.h_hung
  have ha := g.g_n.h_all
  have hM' := hM.thr g 0
  have h0 := thr0 M2
  unfold f_X8_row f_X9_row
  refine qq_what (m := 1) (by decide) g hC hM' h0 k12_11 (fun u hu e => ?_)
  dsimp only
  refine qq_from1 g hC hM' h0 k12_22 (by decide) (fun d hd1 hd e2 => ?_)
  dsimp only
  subst e e2
  obtain ⟨j, cb⟩ := hC.cb g
  have mb := hM'.mb g
  have hL5 : A.rl < 5 := by unfold Ab.rl; split <;> omega
  have hLa : A.now.hung + A.rl ≤ A.now.all := by unfold Ab.rl; split <;> omega
  have u3 : gi (si M2 0 0 0) 12 (3 : Int32).toNatClampNeg = nI A.now.hung := hM'.s_n.hung
  have u4 : gi (si M2 0 0 0) 12 (4 : Int32).toNatClampNeg = nI A.now.all := hM'.s_n.all
  have emin : f_J9_min_7cf53 n (4 : Int32) (nI A.now.all - nI A.now.hung) M = some (nI A.rl, M) := by
    unfold f_J9_min_7cf53 Ab.rl
    rw [pk_sub hh]
    by_cases c : 4 ≤ A.now.all - A.now.hung
    · rw [if_neg (show ¬ nI (A.now.all - A.now.hung) < (4 : Int32) from nI_nlt (b := 4) c (by omega)), if_pos c]
      rfl
    · rw [if_pos (show nI (A.now.all - A.now.hung) < (4 : Int32) from nI_lt (b := 4) (by omega) (by decide)), if_neg c]
  have e60 : (if (4 : Int32) ≤ (nI A.now.all - nI A.now.hung) then (j_X9_row_60 n (4 : Int32) (nI d) (nI u) (si M2 0 0 0)) else (j_X9_row_60 n (nI A.now.all - nI A.now.hung) (nI d) (nI u) (si M2 0 0 0))) = gl (b_X9_row_114 n (nI d) (nI u) (nI A.rl) (nI (10 ^ A.rl))) n ((-1 : Int32), (-1 : Int32), (0 : Int32), si M2 0 0 0) := by
    have e1 : (if (4 : Int32) ≤ (nI A.now.all - nI A.now.hung) then (j_X9_row_60 n (4 : Int32) (nI d) (nI u) (si M2 0 0 0)) else (j_X9_row_60 n (nI A.now.all - nI A.now.hung) (nI d) (nI u) (si M2 0 0 0))) = j_X9_row_60 n (nI A.rl) (nI d) (nI u) (si M2 0 0 0) := by
      unfold Ab.rl
      rw [pk_sub hh]
      by_cases c : 4 ≤ A.now.all - A.now.hung
      · rw [if_pos (show (4 : Int32) ≤ nI (A.now.all - A.now.hung) from nI_le (a := 4) c (by omega)), if_pos c]
        rfl
      · rw [if_neg (show ¬ (4 : Int32) ≤ nI (A.now.all - A.now.hung) from nI_ge (b := 4) (by omega) (by decide)), if_neg c]
    rw [e1]
    unfold j_X9_row_60 j_X9_row_109
    generalize A.rl = L at hL5 ⊢
    rcases (show L = 0 ∨ L = 1 ∨ L = 2 ∨ L = 3 ∨ L = 4 by omega) with rfl | rfl | rfl | rfl | rfl
    · rw [if_pos (by decide)]
      rfl
    · rw [if_neg (by decide), if_pos (by decide)]
      rfl
    · rw [if_neg (by decide), if_neg (by decide), if_pos (by decide)]
      rfl
    · rw [if_neg (by decide), if_neg (by decide), if_neg (by decide), if_pos (by decide)]
      rfl
    · rw [if_neg (by decide), if_neg (by decide), if_neg (by decide), if_neg (by decide)]
      rfl
  rw [hC.r_n.all, hC.r_n.hung, emin, u3, u4, e60]
  simp only [bd]
  obtain ⟨fa1, fa2, fa3⟩ := fac_at A.rl hL5
  have i5 : inb (nI A.rl) 5 := n_in (by omega) (by decide)
  have z5 : (nI A.rl).toNatClampNeg = A.rl := nI_clamp (by omega)
  have hp4 : 10 ^ A.rl ≤ 10 ^ 4 := Nat.pow_le_pow_right (by decide) (by omega)
  have lgood : ∀ k, vld A.rl k = true → (A.now.lay (dig A.rl k) 0 A.rl).Good A.wd := fun k hv => lay_good g.g_n (fun m _ hm => by have := (vld_iff.mp hv).1 m hm; omega)
  have ldd : ∀ k, (A.now.lay (dig A.rl k) 0 A.rl).day = A.now.day := fun _ => rfl
  have hHv : ∀ k, vld A.rl k = true → A.rh d k ≤ 100 := fun k hv => by
    have gg := ahead_good (T := A.tw) (lgood k hv) d (by rw [ldd]; omega)
    have h1 := gg.h_hung
    have h2 := gg.h_all
    unfold Ab.rh
    omega
  -- the height by figures, made small where they are no row
  have hH : ∀ k, (if vld A.rl k = true then A.rh d k else 0) ≤ 100 := fun k => by
    by_cases c : vld A.rl k = true
    · rw [if_pos c]; exact hHv k c
    · rw [if_neg c]; exact Nat.zero_le _
  -- the class
  obtain ⟨N, m, c1, ee⟩ := gl_k (body := b_X8_row_38 n (nI d) (nI u) (nI A.rl)) (fun i (X : Mem) => (rM (((List.range i).map (figN A.rl)).foldl (rwS (fun k => if vld A.rl k = true then A.rh d k else 0)) none), rB (((List.range i).map (figN A.rl)).foldl (rwS (fun k => if vld A.rl k = true then A.rh d k else 0)) none), nI i, X)) (facN A.rl) (fun i X => kq VC M X) (fun i X hi hI => by
    obtain ⟨N1, q1, k1⟩ := cStart (n := n) cb hI
    obtain ⟨N2, q2, k2⟩ := cLayRow (n := n) (by omega) cb k1 hL5 hLa hi
    obtain ⟨N3, q3, k3⟩ := cGo (n := n) (d := d) (by omega) (by omega) k2 (by rw [ldd]; omega)
    have hv := vld_fig hL5 hi
    have est : ((List.range (i + 1)).map (figN A.rl)).foldl (rwS (fun k => if vld A.rl k = true then A.rh d k else 0)) none = rwS (fun k => if vld A.rl k = true then A.rh d k else 0) (((List.range i).map (figN A.rl)).foldl (rwS (fun k => if vld A.rl k = true then A.rh d k else 0)) none) (figN A.rl i) := by
      rw [List.range_succ, List.map_append, List.foldl_append]
      rfl
    have hst := rw_step (H := fun k => if vld A.rl k = true then A.rh d k else 0) (k := figN A.rl i) (hH _) (rw_le hH _ none (fun p hp => by cases hp) : ∀ p, ((List.range i).map (figN A.rl)).foldl (rwS (fun k => if vld A.rl k = true then A.rh d k else 0)) none = some p → p.1 ≤ 100)
    rw [if_pos hv] at hst
    refine ⟨N3, ?_, k3.c_sm⟩
    rw [b_X8_row_38]
    simp only [ck_pos i5, z5, fa1]
    rw [if_neg (nI_ge hi (by omega)), q1]
    simp only [bd]
    rw [q2]
    simp only []
    rw [q3]
    simp only []
    rw [show gi N3 10 6 = nI (A.rh d (figN A.rl i)) from k3.c_st.hung]
    unfold j_X8_row_92
    rw [est, nI_1]
    rcases hst with ⟨h1, h2⟩ | ⟨h1, h2⟩
    · rw [if_pos h1, h2]
    · rw [if_neg (Int32.not_le.mpr h1), h2]
      rfl) n 0 M (Nat.zero_le _) (by omega) kq.rf
  -- the reference
  obtain ⟨N2, m2, ⟨d1, d2⟩, ee2⟩ := gl_k (body := b_X9_row_114 n (nI d) (nI u) (nI A.rl) (nI (10 ^ A.rl))) (fun k (X : Mem) => (rM (((List.range k).filter (vld A.rl)).foldl (rwS (fun k => if vld A.rl k = true then A.rh d k else 0)) none), rB (((List.range k).filter (vld A.rl)).foldl (rwS (fun k => if vld A.rl k = true then A.rh d k else 0)) none), nI k, X)) (10 ^ A.rl) (fun k X => kp VT (si M2 0 0 0) X ∧ gi X 0 52 = -1) (fun k X hk hI => by
    obtain ⟨b1, b2⟩ := hI
    obtain ⟨O, p1, p2, p3, p4⟩ := mIsRow (n := n) (L := A.rl) (f := k) (by omega) mb b1 b2 hL5 hLa (by omega)
    rw [b_X9_row_114]
    try simp only []
    rw [if_neg (nI_ge hk (by omega)), p1]
    simp only [bd]
    unfold j_X9_row_167
    rw [nI_1]
    cases hv : vld A.rl k with
    | false =>
      rw [if_pos (show (if false = true then (1 : Int32) else 0) = 0 from rfl)]
      refine ⟨O, ?_, p2, p3⟩
      rw [List.range_succ, List.filter_append, show [k].filter (vld A.rl) = [] by simp [hv], List.append_nil]
    | true =>
      obtain ⟨Q, r1, r2⟩ := mGo (n := n) (d := d) (by omega) (by omega) (p4 hv) (by rw [ldd]; omega)
      have est : ((List.range (k + 1)).filter (vld A.rl)).foldl (rwS (fun k => if vld A.rl k = true then A.rh d k else 0)) none = rwS (fun k => if vld A.rl k = true then A.rh d k else 0) (((List.range k).filter (vld A.rl)).foldl (rwS (fun k => if vld A.rl k = true then A.rh d k else 0)) none) k := by
        rw [List.range_succ, List.filter_append, show [k].filter (vld A.rl) = [k] by simp [hv], List.foldl_append]
        rfl
      have hst := rw_step (H := fun k => if vld A.rl k = true then A.rh d k else 0) (k := k) (hH _) (rw_le hH _ none (fun p hp => by cases hp) : ∀ p, ((List.range k).filter (vld A.rl)).foldl (rwS (fun k => if vld A.rl k = true then A.rh d k else 0)) none = some p → p.1 ≤ 100)
      rw [if_pos hv] at hst
      rw [if_neg (show ¬ (if true = true then (1 : Int32) else 0) = 0 by decide), r1]
      simp only []
      rw [show gi Q 12 (57 : Int32).toNatClampNeg = nI (A.rh d k) from r2.hung, est]
      refine ⟨Q, ?_, r2.m_k, r2.m_w⟩
      rcases hst with ⟨h1, h2⟩ | ⟨h1, h2⟩
      · rw [if_neg (Int32.not_lt.mpr h1), h2]
      · rw [if_pos h1, h2]
        rfl) n 0 (si M2 0 0 0) (Nat.zero_le _) (by omega) ⟨kp.rf, hM'.s_w⟩
  rw [show ((-1 : Int32), (-1 : Int32), (0 : Int32), M) = (rM (((List.range 0).map (figN A.rl)).foldl (rwS (fun k => if vld A.rl k = true then A.rh d k else 0)) none), rB (((List.range 0).map (figN A.rl)).foldl (rwS (fun k => if vld A.rl k = true then A.rh d k else 0)) none), nI 0, M) from rfl, ee, show ((-1 : Int32), (-1 : Int32), (0 : Int32), si M2 0 0 0) = (rM (((List.range 0).filter (vld A.rl)).foldl (rwS (fun k => if vld A.rl k = true then A.rh d k else 0)) none), rB (((List.range 0).filter (vld A.rl)).foldl (rwS (fun k => if vld A.rl k = true then A.rh d k else 0)) none), nI 0, si M2 0 0 0) from rfl, ee2, fig_all A.rl hL5]
  generalize ((List.range (facN A.rl)).map (figN A.rl)).foldl (rwS (fun k => if vld A.rl k = true then A.rh d k else 0)) none = R
  rw [gl_mr (o := j_X8_row_98 n (nI u) (nI A.rl) (rM R) (rB R) N) (by
    rw [b_X8_row_38]
    simp only [ck_pos i5, z5, fa1]
    rw [if_pos (nI_le (Nat.le_refl _) (by omega))]), gl_mr (o := j_X9_row_173 n (nI u) (nI A.rl) (rM R) (rB R) N2) (by
    rw [b_X9_row_114]
    try simp only []
    rw [if_pos (nI_le (Nat.le_refl _) (by omega))])]
  have t0 : gi N2 0 0 = 0 := (d1.1 0 0 (by unfold VT VM; omega)).trans h0
  have fin : ∀ v : Int32, QQ k12 (some (0, v, N)) (some (v, N2)) := fun v => qq_yes g (hC.kq c1) (hM'.vt g d1 d2) t0 k12_00
  unfold j_X8_row_98 j_X9_row_173
  rcases (show u = 0 ∨ u = 1 by omega) with rfl | rfl
  · rw [if_pos (by decide), if_pos (by decide)]
    exact fin _
  · rw [if_neg (show ¬ nI 1 = 0 by decide), if_neg (show ¬ nI 1 = 0 by decide)]
    by_cases c : A.rl = 0
    · rw [c, if_pos (by decide), if_pos (by decide)]
      exact fin _
    · rw [if_neg (nI_ne0 (by omega) (by omega)), if_neg (nI_ne0 (by omega) (by omega))]
      exact fin _
end Q
