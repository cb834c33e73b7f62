/-! A game of two wards who give. -/
def Sp.gen (s : Sp) (w : Nat) : Sp := (s.setMoney (if 999 < s.money + 5 then 999 else s.money + 5)).setFaith (up1 s.faith w (bN (nI (s.faith w) + (-5 : Int32)) 99))
def Sp.genIf (s : Sp) (x w : Nat) : Sp := if x = 1 then s.gen w else s
theorem gen_good {wd w : Nat} {s : Sp} (g : s.Good wd) : (s.gen w).Good wd := faith1_good (money_good g (by split <;> omega)) (bN_is (hi := 99) (by decide)).2
theorem genIf_good {wd x w : Nat} {s : Sp} (g : s.Good wd) : (s.genIf x w).Good wd := by
  unfold Sp.genIf
  split
  · exact gen_good g
  · exact g
theorem genIf_day {x w : Nat} {s : Sp} : (s.genIf x w).day = s.day := by
  unfold Sp.genIf
  split <;> rfl
theorem up1_comm {f : Nat → Nat} {a b x y : Nat} (h : a ≠ b) : up1 (up1 f a x) b y = up1 (up1 f b y) a x := by
  funext v
  unfold up1
  by_cases c : v = b
  · rw [if_pos c, if_neg (by omega), if_pos c]
  · rw [if_neg c, if_neg c]
def Sp.genV (s : Sp) (w v : Nat) : Sp := (s.setMoney (if 999 < s.money + 5 then 999 else s.money + 5)).setFaith (up1 s.faith w v)
theorem genV_comm {s : Sp} {a b u v : Nat} (h : a ≠ b) : (s.genV a u).genV b v = (s.genV b v).genV a u := by
  have e : up1 (up1 s.faith a u) b v = up1 (up1 s.faith b v) a u := up1_comm h
  obtain ⟨s1, s2, s3, s4, s5, s6, s7, s8, s9, s10⟩ := s
  have e : up1 (up1 s9 a u) b v = up1 (up1 s9 b v) a u := e
  show ((s1, s2, s3, _, s5, s6, s7, s8, up1 (up1 s9 a u) b v, s10) : Sp) = (s1, s2, s3, _, s5, s6, s7, s8, up1 (up1 s9 b v) a u, s10)
  rw [e]
  rfl
theorem gen_is (s : Sp) (w : Nat) : s.gen w = s.genV w (bN (nI (s.faith w) + (-5 : Int32)) 99) := rfl
theorem genV_f {s : Sp} {a b u : Nat} (h : a ≠ b) : (s.genV a u).faith b = s.faith b := by
  show up1 s.faith a u b = s.faith b
  unfold up1
  rw [if_neg (by omega)]
theorem gen_comm {s : Sp} {a b : Nat} (h : a ≠ b) : (s.gen a).gen b = (s.gen b).gen a := by
  obtain ⟨u, hu⟩ : ∃ u, bN (nI (s.faith a) + (-5 : Int32)) 99 = u := ⟨_, rfl⟩
  obtain ⟨v, hv⟩ : ∃ v, bN (nI (s.faith b) + (-5 : Int32)) 99 = v := ⟨_, rfl⟩
  rw [gen_is s a, gen_is s b, hu, hv, gen_is (s.genV a u) b, genV_f h, hv, gen_is (s.genV b v) a, genV_f (fun q => h q.symm), hu]
  exact genV_comm h
theorem genIf_comm {s : Sp} {x y a b : Nat} (h : a ≠ b) : (s.genIf x a).genIf y b = (s.genIf y b).genIf x a := by
  unfold Sp.genIf
  by_cases c1 : x = 1
  · by_cases c2 : y = 1
    · rw [if_pos c1, if_pos c2, if_pos c1, if_pos c2]
      exact gen_comm h
    · rw [if_neg c2, if_neg c2]
  · rw [if_neg c1, if_neg c1]
section G
variable {n wd j w x : Nat} {T : Tw} {s : Sp} {M0 M : Mem}
theorem cGen {V : Nat → Nat → Prop} (h : CTV V wd j T M0 s M) (hw : w < wd) (hx : x ≤ 1) : ∃ M', f_X8_beGenerous n (nI w) (nI x) M = some M' ∧ CTV V wd j T M0 (s.genIf x w) M' := by
  unfold f_X8_beGenerous Sp.genIf
  by_cases c : x = 1
  · have g1 := money_good (x := if 999 < s.money + 5 then 999 else s.money + 5) h.c_g (by split <;> omega)
    have h1 := CTV.up h (t := 10) (k := 9) (x := nI (if 999 < s.money + 5 then 999 else s.money + 5)) (by omega) h.c_st.sMoney g1
    have h2 := CTV.up (s' := s.gen w) h1 (t := 13) (k := w) (x := nI (bN (nI (s.faith w) + (-5 : Int32)) 99)) (by omega) (cFaithRow (i := 10) h1.c_st (fun v _ => rfl)) (gen_good h.c_g)
    rw [c, if_pos (show nI 1 = (1 : Int32) from rfl), if_pos rfl, show (5 : Int32) = nI 5 from rfl, cReceive (wd := wd) h.c_g h.c_st (by decide)]
    simp only [bd]
    rw [cAddFaith g1 h1.c_st hw]
    exact ⟨_, rfl, h2⟩
  · rw [if_neg (show ¬ nI x = (1 : Int32) from fun q => c ((nI_eq (b := 1) (by omega) (by decide)).mp q)), if_neg c]
    exact ⟨M, rfl, h⟩
theorem mGen {ow fa : Int32} {gv : Nat → Int32} (h : MT wd T M0 ow fa gv s M) (hw : w < wd) : ∃ M', f_X9_generous n (nI w) M = some M' ∧ MT wd T M0 ow fa gv (s.gen w) M' := by
  have hwd := h.m_g.h_wd
  have hmo := h.m_g.h_money
  have g1 := money_good (x := if 999 < s.money + 5 then 999 else s.money + 5) h.m_g (by split <;> omega)
  have h1 := MT.up h (p := 54 + 1) (x := nI (if 999 < s.money + 5 then 999 else s.money + 5)) (by omega) (h.m_st.sMoney h.m_g) g1
  have h2 := MT.up (s' := s.gen w) h1 (p := 54 + 38 + w) (x := nI (bN (nI (s.faith w) + (-5 : Int32)) 99)) (by omega) (mFaithRow (b := 54) g1 hw h1.m_st (fun v _ => rfl)) (gen_good h.m_g)
  have i1 : inb ((92 : Int32) + nI w) 108 ∧ ((92 : Int32) + nI w).toNatClampNeg = 54 + 38 + w := by
    rw [show (92 : Int32) + nI w = nI (92 + w) from nI_add 92 _, nI_clamp (by omega)]
    exact ⟨n_in (by omega) (by decide), by omega⟩
  have f1 := h1.m_st.faith w hw
  have e5 : nI (s.faith w) - (5 : Int32) = nI (s.faith w) + (-5 : Int32) := Int32.sub_eq_add_neg _ _
  unfold f_X9_generous
  rw [h.money, show (5 : Int32) = nI 5 from rfl, nI_add, mBounded, show bndI (nI (s.money + 5)) 0 999 = nI (if 999 < s.money + 5 then 999 else s.money + 5) from bnd_nat (hi := 999) (by omega) (by decide)]
  simp only [bd, ck_pos i1.1, i1.2]
  rw [show si M 12 (55 : Int32).toNatClampNeg (nI (if 999 < s.money + 5 then 999 else s.money + 5)) = si M 12 (54 + 1) (nI (if 999 < s.money + 5 then 999 else s.money + 5)) from rfl, f1, show nI ((s.setMoney (if 999 < s.money + 5 then 999 else s.money + 5)).faith w) - nI 5 = nI (s.faith w) + (-5 : Int32) from e5, mBounded]
  simp only []
  rw [show bndI (nI (s.faith w) + (-5 : Int32)) 0 99 = nI (bN (nI (s.faith w) + (-5 : Int32)) 99) from (bN_is (hi := 99) (by decide)).1]
  exact ⟨_, rfl, h2⟩
def Tw.play (T : Tw) (wd : Nat) (s : Sp) (a b x y : Nat) : Sp := T.ahead wd ((s.genIf x a).genIf y b) 6
def Tw.gain (T : Tw) (wd : Nat) (s : Sp) (a b x y : Nat) : Int32 := nI ((T.play wd s a b x y).faith a) + (2 : Int32) * nI (T.play wd s a b x y).hung - (4 : Int32) * nI x
theorem mGains {a b y : Nat} (hn : 3000 < n) (mb : MB wd T s M0) (e : kp VT M0 M) (hw : gi M 0 52 = -1) (ha : a < wd) (hb : b < wd) (hx : x ≤ 1) (hy : y ≤ 1) : ∃ M', f_X9_gains n (nI a) (nI b) (nI x) (nI y) M = some (T.gain wd s a b x y, M') ∧ kp VT M0 M' ∧ gi M' 0 52 = -1 := by
  have hda := mb.n_d
  obtain ⟨N1, q1, c1⟩ := mStart (n := n) (by omega) mb e
  rw [hw] at c1
  have j25 : ∀ (M1 : Mem) (fa : Int32) (gv : Nat → Int32), MT wd T M0 (-1) fa gv ((s.genIf x a).genIf y b) M1 → ∃ M', j_X9_gains_25 n (nI a) (nI x) M1 = some (T.gain wd s a b x y, M') ∧ kp VT M0 M' ∧ gi M' 0 52 = -1 := fun M1 fa gv c => by
    have hd1 : ((s.genIf x a).genIf y b).day = s.day := by rw [genIf_day, genIf_day]
    obtain ⟨P, p1, p2⟩ := mGo (n := n) (d := 6) (by omega) (by omega) c (by omega)
    have f1 := p2.faith ha
    unfold j_X9_gains_25
    rw [show (6 : Int32) = nI 6 from rfl, p1]
    simp only [bd]
    rw [ck_pos f1.1, f1.2, p2.hung]
    exact ⟨P, rfl, p2.m_k, p2.m_w⟩
  have j14 : ∀ (M1 : Mem) (fa : Int32) (gv : Nat → Int32), MT wd T M0 (-1) fa gv (s.genIf x a) M1 → ∃ M', j_X9_gains_14 n (nI a) (nI b) (nI x) (nI y) M1 = some (T.gain wd s a b x y, M') ∧ kp VT M0 M' ∧ gi M' 0 52 = -1 := fun M1 fa gv c => by
    unfold j_X9_gains_14
    by_cases cy : y = 1
    · obtain ⟨P, p1, p2⟩ := mGen (n := n) c hb
      rw [if_pos (show nI y = (1 : Int32) by rw [cy]; rfl), p1]
      exact j25 P fa gv (by unfold Sp.genIf; rw [if_pos cy]; exact p2)
    · rw [if_neg (show ¬ nI y = (1 : Int32) from fun q => cy ((nI_eq (b := 1) (by omega) (by decide)).mp q))]
      exact j25 M1 fa gv (by
        have e9 : (s.genIf x a).genIf y b = s.genIf x a := if_neg cy
        rw [e9]
        exact c)
  unfold f_X9_gains
  rw [q1]
  simp only [bd]
  by_cases cx : x = 1
  · obtain ⟨P, p1, p2⟩ := mGen (n := n) c1 ha
    rw [if_pos (show nI x = (1 : Int32) by rw [cx]; rfl), p1]
    have e9 : s.genIf x a = s.gen a := if_pos cx
    exact j14 P _ _ (by rw [e9]; exact p2)
  · rw [if_neg (show ¬ nI x = (1 : Int32) from fun q => cx ((nI_eq (b := 1) (by omega) (by decide)).mp q))]
    have e9 : s.genIf x a = s := if_neg cx
    exact j14 N1 _ _ (by rw [e9]; exact c1)
/-- what the class' row of gains holds -/
def G3 (T : Tw) (wd : Nat) (s : Sp) (a b : Nat) (k : Nat) (M : Mem) : Prop := ∀ x y, x ≤ 1 → y ≤ 1 → 2 * x + y < k → gi M 3 (2 * x + y) = T.gain wd s a b x y ∧ gi M 3 (4 + (2 * x + y)) = T.gain wd s b a y x
theorem cPlay {a b y : Nat} (hn : 3000 < n) (cb : CB wd j T s M0) (e : kq VC M0 M) (ha : a < wd) (hb : b < wd) (hab : a ≠ b) (hx : x ≤ 1) (hy : y ≤ 1) (h3 : G3 T wd s a b (2 * x + y) M) : ∃ M', f_X8_playGame n (nI a) (nI b) (nI (2 * x + y)) M = some M' ∧ kq VC M0 M' ∧ G3 T wd s a b (2 * x + y + 1) M' := by
  have hda := cb.b_d
  have hwd := cb.b_g.h_wd
  obtain ⟨N1, q1, c1⟩ := cStart (n := n) (M := M) cb e
  have e1 : kq (fun t _ => 10 ≤ t ∧ t ≤ 14) M N1 := by
    have : f_X8_startTrial n M = some (cpS 10 4 M) := by
      unfold f_X8_startTrial
      rw [cCopy_is]
      rfl
    rw [this] at q1
    injection q1 with q1
    rw [← q1]
    exact cpS_same.kq (fun t k ht => by omega)
  have c1' : CTV (fun t _ => dA 10 j t) wd j T N1 s N1 := ⟨c1.c_st, c1.c_tw, c1.c_j, c1.c_jj, c1.c_g, c1.c_t, fun t k ht => ht, kq.rf⟩
  have hj := c1.c_jj
  obtain ⟨N2, q2, c2⟩ := cGen (n := n) c1' ha hx
  obtain ⟨N3, q3, c3⟩ := cGen (n := n) c2 hb hy
  have hd1 : ((s.genIf x a).genIf y b).day = s.day := by rw [genIf_day, genIf_day]
  obtain ⟨N4, q4, c4⟩ := cGo (n := n) (d := 6) (by omega) (by omega) c3 (by omega)
  have x1 : nI (2 * x + y) >>> ((1 : Int32) &&& 31) = nI x := by
    rw [pk_shrN (by omega) _ 1 (by decide)]
    congr 1
    omega
  have x2 : nI (2 * x + y) &&& (1 : Int32) = nI y := by
    rw [pk_andN (by omega) 1 (by decide)]
    congr 1
    omega
  have i1 : inb (nI a) 8 := n_in (by omega) (by decide)
  have i2 : inb (nI (2 * x + y)) 8 := n_in (by omega) (by decide)
  have i3 : inb (nI b) 8 := n_in (by omega) (by decide)
  have i4 : inb ((4 : Int32) + nI (2 * x + y)) 8 ∧ ((4 : Int32) + nI (2 * x + y)).toNatClampNeg = 4 + (2 * x + y) := by
    rw [show (4 : Int32) + nI (2 * x + y) = nI (4 + (2 * x + y)) from nI_add 4 _, nI_clamp (by omega)]
    exact ⟨n_in (by omega) (by decide), rfl⟩
  have z1 : (nI a).toNatClampNeg = a := nI_clamp (by omega)
  have z2 : (nI (2 * x + y)).toNatClampNeg = 2 * x + y := nI_clamp (by omega)
  have z3 : (nI b).toNatClampNeg = b := nI_clamp (by omega)
  have f1 : gi N4 13 a = nI ((T.play wd s a b x y).faith a) := c4.c_st.faith a ha
  have f2 : gi N4 13 b = nI ((T.play wd s a b x y).faith b) := c4.c_st.faith b hb
  have f3 : gi N4 10 6 = nI (T.play wd s a b x y).hung := c4.c_st.hung
  have e4 : ∀ k, gi N4 3 k = gi M 3 k := fun k => (c4.c_sm 3 k (by unfold dA; omega)).trans (e1 3 k (by omega))
  have pl : T.play wd s b a y x = T.play wd s a b x y := by
    unfold Tw.play
    rw [genIf_comm (fun q => hab q.symm)]
  refine ⟨si (si N4 3 (2 * x + y) (T.gain wd s a b x y)) 3 (4 + (2 * x + y)) (T.gain wd s b a y x), ?_, ?_, fun x' y' hx' hy' hlt => ?_⟩
  · unfold f_X8_playGame
    rw [q1]
    simp only [bd]
    rw [x1, x2, q2]
    simp only []
    rw [q3]
    simp only []
    rw [show (6 : Int32) = nI 6 from rfl, q4]
    simp only [ck_pos i1, ck_pos i2, ck_pos i3, ck_pos i4.1, z1, z2, z3, i4.2]
    rw [f1, f3, show gi (si N4 3 (2 * x + y) (nI ((T.play wd s a b x y).faith a) + (2 : Int32) * nI (T.play wd s a b x y).hung - (4 : Int32) * nI x)) 13 b = nI ((T.play wd s a b x y).faith b) by rw [gi_si, if_neg (by omega)]; exact f2, show gi (si N4 3 (2 * x + y) (nI ((T.play wd s a b x y).faith a) + (2 : Int32) * nI (T.play wd s a b x y).hung - (4 : Int32) * nI x)) 10 6 = nI (T.play wd s a b x y).hung by rw [gi_si, if_neg (by omega)]; exact f3]
    unfold Tw.gain
    rw [pl]
  · have k1 : kq VC N1 N4 := c4.c_sm.mono (fun t k ht => by unfold dA at ht; unfold VC; omega)
    exact ((c1.c_sm.tr k1).si (by unfold VC; omega) _).si (by unfold VC; omega) _
  · by_cases c : 2 * x' + y' = 2 * x + y
    · have ex : x' = x := by omega
      have ey : y' = y := by omega
      subst ex ey
      rw [gi_si, if_neg (by omega), gi_si, if_pos ⟨rfl, rfl⟩, gi_si, if_pos ⟨rfl, rfl⟩]
      exact ⟨rfl, rfl⟩
    · have h4 := h3 x' y' hx' hy' (by omega)
      refine ⟨Eq.trans ?_ h4.1, Eq.trans ?_ h4.2⟩
      · rw [gi_si, if_neg (by omega), gi_si, if_neg (by omega)]
        exact e4 _
      · rw [gi_si, if_neg (by omega), gi_si, if_neg (by omega)]
        exact e4 _
theorem cRests {a b y : Nat} (hx : x ≤ 1) (hy : y ≤ 1) (h3 : G3 T wd s a b 4 M) : f_X8_rests n (nI (2 * x + y)) M = some (if T.gain wd s a b x y < T.gain wd s a b (1 - x) y then (0 : Int32) else if T.gain wd s b a y x < T.gain wd s b a (1 - y) x then (0 : Int32) else 1, M) := by
  have x1 : nI (2 * x + y) ^^^ (2 : Int32) = nI (2 * (1 - x) + y) := by
    rcases (show x = 0 ∨ x = 1 by omega) with rfl | rfl <;> rcases (show y = 0 ∨ y = 1 by omega) with rfl | rfl <;> decide
  have x2 : nI (2 * x + y) ^^^ (1 : Int32) = nI (2 * x + (1 - y)) := by
    rcases (show x = 0 ∨ x = 1 by omega) with rfl | rfl <;> rcases (show y = 0 ∨ y = 1 by omega) with rfl | rfl <;> decide
  have a1 := h3 x y hx hy (by omega)
  have a2 := h3 (1 - x) y (by omega) hy (by omega)
  have a3 := h3 x (1 - y) hx (by omega) (by omega)
  unfold f_X8_rests
  rw [x1, x2, show (4 : Int32) + nI (2 * x + (1 - y)) = nI (4 + (2 * x + (1 - y))) from nI_add 4 _, show (4 : Int32) + nI (2 * x + y) = nI (4 + (2 * x + y)) from nI_add 4 _]
  have i1 : inb (nI (2 * (1 - x) + y)) 8 := n_in (by omega) (by decide)
  have i2 : inb (nI (2 * x + y)) 8 := n_in (by omega) (by decide)
  have i3 : inb (nI (4 + (2 * x + (1 - y)))) 8 := n_in (by omega) (by decide)
  have i4 : inb (nI (4 + (2 * x + y))) 8 := n_in (by omega) (by decide)
  have z1 : (nI (2 * (1 - x) + y)).toNatClampNeg = 2 * (1 - x) + y := nI_clamp (by omega)
  have z2 : (nI (2 * x + y)).toNatClampNeg = 2 * x + y := nI_clamp (by omega)
  have z3 : (nI (4 + (2 * x + (1 - y)))).toNatClampNeg = 4 + (2 * x + (1 - y)) := nI_clamp (by omega)
  have z4 : (nI (4 + (2 * x + y))).toNatClampNeg = 4 + (2 * x + y) := nI_clamp (by omega)
  simp only [ck_pos i1, ck_pos i2, ck_pos i3, ck_pos i4, z1, z2, z3, z4]
  rw [a1.1, a1.2, a2.1, a3.2]
  by_cases c1 : T.gain wd s a b x y < T.gain wd s a b (1 - x) y
  · rw [if_pos c1, if_pos c1]
  · rw [if_neg c1, if_neg c1]
    by_cases c2 : T.gain wd s b a y x < T.gain wd s b a (1 - y) x
    · rw [if_pos c2, if_pos c2]
    · rw [if_neg c2, if_neg c2]
end G
