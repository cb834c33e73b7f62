/-! Years by a seed. -/
theorem sar_and15 (x : BitVec 32) : x.sshiftRight 16 &&& 32767#32 = (x >>> 16) &&& 32767#32 := by
  apply BitVec.eq_of_getLsbD_eq
  intro i hi
  rw [BitVec.getLsbD_and, BitVec.getLsbD_and, BitVec.getLsbD_sshiftRight, BitVec.getLsbD_ushiftRight]
  by_cases c : i < 15
  · rw [if_pos (by omega), decide_eq_false (by omega : ¬ 32 ≤ i)]
    rfl
  · have h : (32767#32).getLsbD i = false := by
      rw [BitVec.getLsbD_ofNat, Nat.testBit_lt_two_pow (Nat.lt_of_lt_of_le (by decide : 32767 < 2 ^ 15) (Nat.pow_le_pow_right (by decide) (by omega)))]
      simp
    rw [h]
    simp
def nxs (x : Int32) : Int32 := x * (1103515245 : Int32) + (12345 : Int32)
def drw (x : Int32) : Nat := ((x.toBitVec >>> 16) &&& 32767#32).toNat
theorem drw_lt (x : Int32) : drw x < 32768 := by
  unfold drw
  rw [BitVec.toNat_and]
  exact Nat.lt_of_le_of_lt Nat.and_le_right (by decide)
theorem m_drw (x : Int32) : (x >>> ((16 : Int32) &&& 31)) &&& (32767 : Int32) = nI (drw x) := by
  apply Int32.toBitVec_inj.mp
  rw [Int32.toBitVec_and]
  show x.toBitVec.sshiftRight (((16 : Int32) &&& 31).toBitVec.smod 32).toNat &&& 32767#32 = BitVec.ofNat 32 (drw x)
  rw [show ((((16 : Int32) &&& 31).toBitVec.smod 32).toNat) = 16 from rfl, sar_and15]
  unfold drw
  rw [BitVec.ofNat_toNat, BitVec.setWidth_eq]
theorem c_drw (x : Int32) : ((x.toUInt32 >>> ((16 : Int32).toUInt32 &&& Int32.toUInt32 31)).toInt32) &&& (32767 : Int32) = nI (drw x) := by
  apply Int32.toBitVec_inj.mp
  rw [Int32.toBitVec_and]
  have e : (x.toUInt32 >>> ((16 : Int32).toUInt32 &&& Int32.toUInt32 31)).toInt32.toBitVec = x.toBitVec >>> 16 := UInt32.toBitVec_shiftRight _ _
  rw [e]
  show _ = BitVec.ofNat 32 (drw x)
  unfold drw
  rw [BitVec.ofNat_toNat, BitVec.setWidth_eq]
  rfl
theorem cDraw {n m : Nat} {x : Int32} {M : Mem} (h0 : 0 < m) (hm : m < 1000) : f_X4_draw n x (nI m) M = some (nI (drw x % m), M) := by
  have := drw_lt x
  have hne : ¬ nI m = 0 := nI_ne0 (by omega) (by omega)
  unfold f_X4_draw
  rw [if_neg (nI_nle h0 (by omega)), ck_pos hne, c_drw, pk_rem (by omega) h0 (by omega)]
theorem mDraw {n m : Nat} {M : Mem} (h0 : 0 < m) (hm : m < 1000) : f_X9_draw n (nI m) M = some (nI (drw (nxs (gi M 0 58)) % m), si M 0 58 (nxs (gi M 0 58))) := by
  have := drw_lt (nxs (gi M 0 58))
  have hne : ¬ nI m = 0 := nI_ne0 (by omega) (by omega)
  unfold f_X9_draw
  rw [ck_pos hne, show gi (si M 0 58 (gi M 0 58 * (1103515245 : Int32) + (12345 : Int32))) 0 58 = nxs (gi M 0 58) by rw [gi_si, if_pos ⟨rfl, rfl⟩]; rfl, m_drw, pk_rem (by omega) h0 (by omega)]
  rfl
theorem cNext (n : Nat) (x : Int32) (M : Mem) : f_X4_nextSeed n x M = some (nxs x, M) := rfl
def Sp.lk (wd : Nat) (s : Sp) (a b c : Nat) (l1 l2 l3 : Int32) : Sp × Int32 :=
  if a % 6 = 0 ∧ 0 < wd then (s.setFaith (up1 s.faith (b % wd) (c % 100)), l3)
  else if a % 6 = 1 then (s.setMoney (b % 50), l2)
  else if a % 6 = 2 ∧ 0 < s.hung then (s.setMortar (up1 s.mortar (b % s.hung) 0), l2)
  else (s, l1)
theorem lk_good {wd : Nat} {s : Sp} {a b c : Nat} {l1 l2 l3 : Int32} (g : s.Good wd) : (s.lk wd a b c l1 l2 l3).1.Good wd ∧ (s.lk wd a b c l1 l2 l3).1.day = s.day := by
  unfold Sp.lk
  by_cases c1 : a % 6 = 0 ∧ 0 < wd
  · rw [if_pos c1]
    exact ⟨faith1_good g (by omega), rfl⟩
  · rw [if_neg c1]
    by_cases c2 : a % 6 = 1
    · rw [if_pos c2]
      exact ⟨money_good g (by omega), rfl⟩
    · rw [if_neg c2]
      by_cases c3 : a % 6 = 2 ∧ 0 < s.hung
      · rw [if_pos c3]
        exact ⟨mortar_good g (by decide), rfl⟩
      · rw [if_neg c3]
        exact ⟨g, rfl⟩
section L
variable {n wd j : Nat} {T : Tw} {s : Sp} {M0 M : Mem} {x l1 l2 l3 : Int32} {a b c : Nat}
theorem cChance {V : Nat → Nat → Prop} (h : CTV V wd j T M0 s M) (h1 : nxs x = l1) (h2 : nxs l1 = l2) (h3 : nxs l2 = l3) (ha : drw l1 = a) (hb : drw l2 = b) (hc : drw l3 = c) : ∃ M', f_X4_chance n 10 x M = some ((s.lk wd a b c l1 l2 l3).2, M') ∧ CTV V wd j T M0 (s.lk wd a b c l1 l2 l3).1 M' := by
  have g := h.c_g
  have gl := (lk_good (a := a) (b := b) (c := c) (l1 := l1) (l2 := l2) (l3 := l3) g).1
  have hw := g.h_wd
  have hh := g.h_hung
  have hal := g.h_all
  have e59 : j_X4_chance_59 n 10 l1 (nI (a % 6)) M = (if a % 6 = 1 then some (l2, si M 10 9 (nI (b % 50))) else if a % 6 = 2 ∧ 0 < s.hung then some (l2, si M 12 (b % s.hung) (nI 0)) else some (l1, M)) := by
    unfold j_X4_chance_59
    by_cases c1 : a % 6 = 1
    · rw [if_pos c1, c1, if_pos (show nI 1 = (1 : Int32) from rfl)]
      rw [cNext, h2]
      simp only [bd]
      rw [show (50 : Int32) = nI 50 from rfl, cDraw (by decide) (by decide), hb]
    · rw [if_neg c1, if_neg (show ¬ nI (a % 6) = (1 : Int32) from fun q => c1 ((nI_eq (b := 1) (by omega) (by decide)).mp q))]
      by_cases c2 : a % 6 = 2
      · rw [c2, if_pos (show nI 2 = (2 : Int32) from rfl), h.c_st.hung]
        by_cases c3 : 0 < s.hung
        · have ml := Nat.mod_lt b c3
          rw [if_neg (nI_nle c3 (by omega)), if_pos ⟨rfl, c3⟩]
          rw [cNext, h2]
          simp only [bd]
          rw [h.c_st.hung, cDraw c3 (by omega), hb]
          simp only []
          rw [ck_pos (n_in (by omega) (by decide)), nI_clamp (by omega)]
          rfl
        · rw [show s.hung = 0 by omega, if_pos (show nI 0 ≤ 0 by decide), if_neg (by omega)]
      · rw [if_neg (show ¬ nI (a % 6) = (2 : Int32) from fun q => c2 ((nI_eq (b := 2) (by omega) (by decide)).mp q)), if_neg (fun q => c2 q.1)]
  have main : ¬ (a % 6 = 0 ∧ 0 < wd) → f_X4_chance n 10 x M = j_X4_chance_59 n 10 l1 (nI (a % 6)) M := fun c0 => by
    unfold f_X4_chance
    rw [cNext, h1]
    simp only [bd]
    rw [show (6 : Int32) = nI 6 from rfl, cDraw (by decide) (by decide), ha]
    simp only []
    by_cases c1 : a % 6 = 0
    · rw [if_pos (by rw [c1]; rfl), h.c_st.wards, if_pos (by rw [show wd = 0 by omega]; decide)]
    · rw [if_neg (nI_ne0 (by omega) (by omega))]
  by_cases c0 : a % 6 = 0 ∧ 0 < wd
  · have ml := Nat.mod_lt b c0.2
    have el : s.lk wd a b c l1 l2 l3 = (s.setFaith (up1 s.faith (b % wd) (c % 100)), l3) := if_pos c0
    rw [el] at gl
    rw [el]
    refine ⟨si M 13 (b % wd) (nI (c % 100)), ?_, CTV.up h (by omega) (cFaithRow (i := 10) h.c_st (fun v _ => rfl)) gl⟩
    unfold f_X4_chance
    rw [cNext, h1]
    simp only [bd]
    rw [show (6 : Int32) = nI 6 from rfl, cDraw (by decide) (by decide), ha]
    simp only []
    rw [c0.1, if_pos (show nI 0 = (0 : Int32) from rfl), h.c_st.wards, if_neg (nI_nle c0.2 (by omega)), cNext, h2]
    simp only []
    rw [h.c_st.wards, cDraw c0.2 (by omega), hb]
    simp only []
    rw [cNext, h3]
    simp only []
    rw [show (100 : Int32) = nI 100 from rfl, cDraw (by decide) (by decide), hc]
    simp only []
    rw [ck_pos (n_in (by omega) (by decide)), nI_clamp (by omega)]
  · have el : s.lk wd a b c l1 l2 l3 = if a % 6 = 1 then (s.setMoney (b % 50), l2) else if a % 6 = 2 ∧ 0 < s.hung then (s.setMortar (up1 s.mortar (b % s.hung) 0), l2) else (s, l1) := if_neg c0
    rw [main c0, e59, el]
    rw [el] at gl
    by_cases c1 : a % 6 = 1
    · rw [if_pos c1] at gl
      rw [if_pos c1, if_pos c1]
      exact ⟨_, rfl, CTV.up h (by omega) h.c_st.sMoney gl⟩
    · rw [if_neg c1] at gl
      rw [if_neg c1, if_neg c1]
      by_cases c2 : a % 6 = 2 ∧ 0 < s.hung
      · rw [if_pos c2] at gl
        rw [if_pos c2, if_pos c2]
        exact ⟨_, rfl, CTV.up h (by omega) (cMortarRow (i := 10) h.c_st (fun v _ => rfl)) gl⟩
      · rw [if_neg c2, if_neg c2]
        exact ⟨_, rfl, h⟩
theorem MT.s58 {ow fa y : Int32} {gv : Nat → Int32} (h : MT wd T M0 ow fa gv s M) : MT wd T M0 ow fa gv s (si M 0 58 y) := by
  have e : kq (fun t k => t = 0 ∧ k = 58) M (si M 0 58 y) := kq.rf.si ⟨rfl, rfl⟩ _
  exact ⟨h.m_st.kq h.m_g e (fun k _ _ => by omega), h.m_tw.kq e (fun k _ _ => by omega) (fun k => by omega) (fun k => by omega), (e _ _ (by omega)).trans h.m_w, (e _ _ (by omega)).trans h.m_fa, fun w hw => (e _ _ (by omega)).trans (h.m_gv w hw), h.m_g, h.m_t, h.m_k.tr (kp.rf.si (by unfold VT; omega) _)⟩
theorem mHappens {ow fa : Int32} {gv : Nat → Int32} (h : MT wd T M0 ow fa gv s M) (hx : gi M 0 58 = x) (h1 : nxs x = l1) (h2 : nxs l1 = l2) (h3 : nxs l2 = l3) (ha : drw l1 = a) (hb : drw l2 = b) (hc : drw l3 = c) : ∃ M', f_X9_happens n M = some M' ∧ MT wd T M0 ow fa gv (s.lk wd a b c l1 l2 l3).1 M' ∧ gi M' 0 58 = (s.lk wd a b c l1 l2 l3).2 := by
  have g := h.m_g
  have gl := (lk_good (a := a) (b := b) (c := c) (l1 := l1) (l2 := l2) (l3 := l3) g).1
  have hw := g.h_wd
  have hh := g.h_hung
  have hal := g.h_all
  have y1 : gi (si M 0 58 l1) 0 58 = l1 := by rw [gi_si, if_pos ⟨rfl, rfl⟩]
  have k1 := h.s58 (y := l1)
  have y2 : gi (si (si M 0 58 l1) 0 58 l2) 0 58 = l2 := by rw [gi_si, if_pos ⟨rfl, rfl⟩]
  have k2 := k1.s58 (y := l2)
  unfold f_X9_happens
  rw [show (6 : Int32) = nI 6 from rfl, mDraw (by decide) (by decide), hx, h1, ha]
  simp only [bd]
  by_cases c0 : a % 6 = 0 ∧ 0 < wd
  · have ml := Nat.mod_lt b c0.2
    have el : s.lk wd a b c l1 l2 l3 = (s.setFaith (up1 s.faith (b % wd) (c % 100)), l3) := if_pos c0
    rw [el] at gl
    rw [c0.1, if_pos (show nI 0 = (0 : Int32) from rfl), k1.m_tw.wards, if_neg (nI_nle c0.2 (by omega)), mDraw c0.2 (by omega), y1, h2, hb, el]
    simp only []
    rw [show (100 : Int32) = nI 100 from rfl, mDraw (by decide) (by decide), y2, h3, hc]
    simp only []
    have k3 := k2.s58 (y := l3)
    have i1 : inb ((92 : Int32) + nI (b % wd)) 108 ∧ ((92 : Int32) + nI (b % wd)).toNatClampNeg = 54 + 38 + b % wd := by
      rw [show (92 : Int32) + nI (b % wd) = nI (92 + b % wd) from nI_add 92 _, nI_clamp (by omega)]
      exact ⟨n_in (by omega) (by decide), by omega⟩
    rw [ck_pos i1.1, i1.2]
    have e42 : ∀ X : Mem, j_X9_happens_42 n (nI 0) X = some X := fun X => by
      unfold j_X9_happens_42 j_X9_happens_60
      rw [if_neg (by decide), if_neg (by decide)]
    rw [e42]
    refine ⟨_, rfl, MT.up k3 (by omega) (mFaithRow (b := 54) g ml k3.m_st (fun v _ => rfl)) gl, ?_⟩
    rw [gi_si, if_neg (by omega), gi_si, if_pos ⟨rfl, rfl⟩]
  · have el : s.lk wd a b c l1 l2 l3 = if a % 6 = 1 then (s.setMoney (b % 50), l2) else if a % 6 = 2 ∧ 0 < s.hung then (s.setMortar (up1 s.mortar (b % s.hung) 0), l2) else (s, l1) := if_neg c0
    have e9 : ∀ X : Mem → Option Mem, (if nI (a % 6) = 0 then (if gi (si M 0 58 l1) 0 1 ≤ 0 then j_X9_happens_42 n (nI (a % 6)) (si M 0 58 l1) else X (si M 0 58 l1)) else j_X9_happens_42 n (nI (a % 6)) (si M 0 58 l1)) = j_X9_happens_42 n (nI (a % 6)) (si M 0 58 l1) := fun X => by
      by_cases c1 : a % 6 = 0
      · rw [if_pos (by rw [c1]; rfl), k1.m_tw.wards, if_pos (by rw [show wd = 0 by omega]; decide)]
      · rw [if_neg (nI_ne0 (by omega) (by omega))]
    have e42 : ∃ M', j_X9_happens_42 n (nI (a % 6)) (si M 0 58 l1) = some M' ∧ MT wd T M0 ow fa gv (s.lk wd a b c l1 l2 l3).1 M' ∧ gi M' 0 58 = (s.lk wd a b c l1 l2 l3).2 := by
      unfold j_X9_happens_42 j_X9_happens_60
      rw [el]
      rw [el] at gl
      by_cases c1 : a % 6 = 1
      · rw [if_pos c1] at gl
        rw [if_pos c1, c1, if_pos (show nI 1 = (1 : Int32) from rfl), show (50 : Int32) = nI 50 from rfl, mDraw (by decide) (by decide), y1, h2, hb]
        simp only [bd]
        rw [if_neg (by decide)]
        refine ⟨_, rfl, MT.up (p := 54 + 1) k2 (by omega) (k2.m_st.sMoney g) gl, ?_⟩
        rw [show (55 : Int32).toNatClampNeg = 55 from rfl, gi_si, if_neg (by omega), gi_si, if_pos ⟨rfl, rfl⟩]
      · rw [if_neg c1] at gl
        rw [if_neg c1, if_neg (show ¬ nI (a % 6) = (1 : Int32) from fun q => c1 ((nI_eq (b := 1) (by omega) (by decide)).mp q))]
        by_cases c2 : a % 6 = 2
        · rw [c2, if_pos (show nI 2 = (2 : Int32) from rfl), k1.hung]
          by_cases c3 : 0 < s.hung
          · have ml := Nat.mod_lt b c3
            rw [if_pos ⟨c2, c3⟩] at gl
            rw [if_neg (nI_nle c3 (by omega)), if_pos ⟨rfl, c3⟩, mDraw c3 (by omega), y1, h2, hb]
            simp only [bd]
            have i1 : inb ((76 : Int32) + nI (b % s.hung)) 108 ∧ ((76 : Int32) + nI (b % s.hung)).toNatClampNeg = 54 + 22 + b % s.hung := by
              rw [show (76 : Int32) + nI (b % s.hung) = nI (76 + b % s.hung) from nI_add 76 _, nI_clamp (by omega)]
              exact ⟨n_in (by omega) (by decide), by omega⟩
            rw [ck_pos i1.1, i1.2]
            refine ⟨_, rfl, MT.up (x := nI 0) k2 (by omega) (mMortarRow (b := 54) g (by omega) k2.m_st (fun v _ => rfl)) gl, ?_⟩
            rw [gi_si, if_neg (by omega), gi_si, if_pos ⟨rfl, rfl⟩]
          · rw [show s.hung = 0 by omega, if_pos (show nI 0 ≤ 0 by decide), if_neg (by omega)]
            exact ⟨_, rfl, k1, y1⟩
        · rw [if_neg (show ¬ nI (a % 6) = (2 : Int32) from fun q => c2 ((nI_eq (b := 2) (by omega) (by decide)).mp q)), if_neg (fun q => c2 q.1)]
          exact ⟨_, rfl, k1, y1⟩
    obtain ⟨M', q1, q2, q3⟩ := e42
    refine ⟨M', ?_, q2, q3⟩
    rw [← q1]
    by_cases c1 : a % 6 = 0
    · rw [if_pos (by rw [c1]; rfl), k1.m_tw.wards, if_pos (by rw [show wd = 0 by omega]; decide)]
    · rw [if_neg (nI_ne0 (by omega) (by omega))]
end L
