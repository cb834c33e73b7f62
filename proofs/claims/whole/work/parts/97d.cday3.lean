/-! The class' day, whole. -/
def Tw.s1 (T : Tw) (wind : Nat) (s : Sp) : Sp := s.setLean (bN (nI s.lean + T.leaning s wind) 99)
def Tw.gives (T : Tw) (wd wind : Nat) (s : Sp) (w : Nat) : Nat := T.giftN (T.s1 wind s) w ((T.s1 wind s).doubt wd w)
def Tw.s2 (T : Tw) (wd wind : Nat) (s : Sp) : Sp := ((T.s1 wind s).setMoney (T.rich wd (T.s1 wind s) wd)).hang T.cost
def Tw.fallen (T : Tw) (wd wind : Nat) (s : Sp) : Nat := (Sp.drop wd T.ground 16 (T.s2 wd wind s)).1
def Tw.s3 (T : Tw) (wd wind : Nat) (s : Sp) : Sp := (Sp.drop wd T.ground 16 (T.s2 wd wind s)).2.setFell (T.fallen wd wind s)
theorem day_is (T : Tw) (wd wind : Nat) (s : Sp) : T.day wd wind s = ((T.s3 wd wind s).setFaith (T.fk wd (T.s3 wd wind s) wd)).setDay ((T.s3 wd wind s).day + 1) := rfl
section D
variable {wd wind : Nat} {s : Sp} {T : Tw}
theorem lean_good {x : Nat} (g : s.Good wd) (hx : x ≤ 99) : (s.setLean x).Good wd := ⟨g.h_wd, g.h_hung, g.h_all, g.h_day, g.h_money, hx, g.h_fell, g.h_weight, g.h_mortar, g.h_faith, g.h_beside, g.h_sym, g.h_self⟩
theorem fell_good {x : Nat} (g : s.Good wd) (hx : x ≤ 16) : (s.setFell x).Good wd := ⟨g.h_wd, g.h_hung, g.h_all, g.h_day, g.h_money, g.h_lean, hx, g.h_weight, g.h_mortar, g.h_faith, g.h_beside, g.h_sym, g.h_self⟩
theorem day1_good {x : Nat} (g : s.Good wd) (hx : x ≤ 20000) : (s.setDay x).Good wd := ⟨g.h_wd, g.h_hung, g.h_all, hx, g.h_money, g.h_lean, g.h_fell, g.h_weight, g.h_mortar, g.h_faith, g.h_beside, g.h_sym, g.h_self⟩
theorem s1_good (g : s.Good wd) : (T.s1 wind s).Good wd := lean_good g (bN_is (hi := 99) (by decide)).2
theorem s2_good (g : s.Good wd) : (T.s2 wd wind s).Good wd := hang_good (money_good (s1_good g) (rich_le (s1_good g) _))
theorem fallen_le (g : s.Good wd) : T.fallen wd wind s ≤ 16 := by
  have g2 : (T.s2 wd wind s).Good wd := s2_good g
  have h1 := (drop_good (ground := T.ground) 16 _ g2).2
  have h2 := g2.h_hung
  have h3 := g2.h_all
  unfold Tw.fallen
  omega
theorem s3_good (g : s.Good wd) : (T.s3 wd wind s).Good wd := fell_good (drop_good 16 _ (s2_good g)).1 (fallen_le g)
theorem s3_alike : (T.s1 wind s).alike (T.s3 wd wind s) := by
  have h1 := drop_alike (wd := wd) (ground := T.ground) 16 (T.s2 wd wind s)
  have h2 := hang_alike (cost := T.cost) (s := (T.s1 wind s).setMoney (T.rich wd (T.s1 wind s) wd))
  exact ⟨h1.a_day.trans h2.a_day, h1.a_faith.trans h2.a_faith, h1.a_beside.trans h2.a_beside, h1.a_lean.trans h2.a_lean⟩
theorem day_day : (T.day wd wind s).day = s.day + 1 := by
  show (T.s3 wd wind s).day + 1 = s.day + 1
  rw [(s3_alike (T := T) (wd := wd) (wind := wind) (s := s)).a_day]
  rfl
theorem day_good (g : s.Good wd) (hd : s.day < 20000) : (T.day wd wind s).Good wd := by
  rw [day_is]
  refine day1_good (faith_good (s3_good g) (fk_le (s3_good g) wd)) ?_
  rw [(s3_alike (T := T) (wd := wd) (wind := wind) (s := s)).a_day]
  exact hd
theorem cDay {n i j : Nat} {M : Mem} (hn : 1000 < n) (g : s.Good wd) (gT : T.Good) (hij : i + 5 < j) (h : StC wd s i M) (t : TwC T j M) :
    ∃ M', f_X4_passDay n i j (nI wind) M = some M' ∧ StC wd (T.day wd wind s) i M' ∧ TwC T j M' ∧ same (dA i j) M M' ∧ ∀ w, w < wd → gi M' (i + 5) w = nI (T.gives wd wind s w) := by
  have hgr := gT.h_ground
  have hco := gT.h_cost
  obtain ⟨M1, q1, e1⟩ := cLeaning (wind := wind) hn g gT hij h t
  have b1 : StC wd s i M1 := cScr h hij e1
  have t1 := tScr t e1
  have h2 : StC wd (T.s1 wind s) i (si M1 i 10 (nI (bN (nI s.lean + T.leaning s wind) 99))) := b1.sLean
  have t2 : TwC T j (si M1 i 10 (nI (bN (nI s.lean + T.leaning s wind) 99))) := t1.same (same.rf.si (A := only i) rfl _ _) (by unfold only; omega) (by unfold only; omega) (by unfold only; omega) (by unfold only; omega) (by unfold only; omega)
  have g1 : (T.s1 wind s).Good wd := s1_good g
  obtain ⟨M3, q3, h3, t3, e3, r3⟩ := cGifts hn g1 gT hij h2 t2
  have g1' := money_good (x := T.rich wd (T.s1 wind s) wd) g1 (rich_le g1 wd)
  obtain ⟨M4, q4, h4, e4⟩ := cHang (n := n) (cost := T.cost) g1' hco.2 h3
  have g2 : (T.s2 wd wind s).Good wd := s2_good g
  have h4 : StC wd (T.s2 wd wind s) i M4 := h4
  have t4 : TwC T j M4 := t3.same e4 (by unfold only; omega) (by unfold only; omega) (by unfold only; omega) (by unfold only; omega) (by unfold only; omega)
  have k1 := g2.h_hung
  have k2 := g2.h_all
  obtain ⟨M5, q5, h5, e5⟩ := cDrop_gl (N := n) hn hgr.2 16 n 0 (T.s2 wd wind s) M4 g2 h4 (by omega) (by omega) (by omega)
  rw [Nat.zero_add] at q5
  have t5 : TwC T j M5 := t4.same e5 (by unfold rw3; omega) (by unfold rw3; omega) (by unfold rw3; omega) (by unfold rw3; omega) (by unfold rw3; omega)
  have h6 : StC wd (T.s3 wd wind s) i (si M5 i 11 (nI (T.fallen wd wind s))) := h5.sFell
  have t6 : TwC T j (si M5 i 11 (nI (T.fallen wd wind s))) := t5.same (same.rf.si (A := only i) rfl _ _) (by unfold only; omega) (by unfold only; omega) (by unfold only; omega) (by unfold only; omega) (by unfold only; omega)
  obtain ⟨M7, q7, h7, t7, e7, r7⟩ := cBelieve hn (s3_good g) gT hij h6 t6
  have hds : (T.s3 wd wind s).dset wd = (T.s1 wind s).dset wd := dset_congr (fun w => by rw [(s3_alike (T := T) (wd := wd) (wind := wind) (s := s)).a_faith]) wd
  rw [hds] at q7
  refine ⟨M7, ?_, h7, t7, ?_, fun w hw => ?_⟩
  · unfold f_X4_passDay
    rw [q1]
    simp only [bd]
    rw [h.lean, cWithin]
    simp only []
    rw [show bndI (nI s.lean + T.leaning s wind) 0 99 = nI (bN (nI s.lean + T.leaning s wind) 99) from (bN_is (hi := 99) (by decide)).1, cDoubters hn g1 h2]
    simp only []
    rw [q3]
    unfold j_X4_passDay_76
    rw [t3.cost, q4]
    simp only [bd]
    rw [cSpare (by omega) g2 h4]
    simp only []
    rw [t4.ground]
    unfold f_X4_dropLowest
    rw [show ((0 : Int32), (T.s2 wd wind s).spare wd, M4) = (nI 0, (T.s2 wd wind s).spare wd, M4) from rfl, q5]
    exact q7
  · have w1 : same (dA i j) M (si M1 i 10 (nI (bN (nI s.lean + T.leaning s wind) 99))) := (e1.mono (fun q hq => by unfold scr at hq; unfold dA; omega)).si (by unfold dA; omega) _ _
    have w3 : same (dA i j) _ M3 := w1.tr (e3.mono (fun q hq => by unfold dyA at hq; unfold dA; omega))
    have w4 := w3.tr (e4.mono (fun q hq => by unfold only at hq; unfold dA; omega))
    have w5 := w4.tr (e5.mono (fun q hq => by unfold rw3 at hq; unfold dA; omega))
    exact (w5.si (by unfold dA; omega) _ _).tr e7
  · rw [r7 w, gi_si, if_neg (by omega), e5.1 _ _ (by unfold rw3; omega), e4.1 _ _ (by unfold only; omega)]
    exact r3 w hw
end D
