/-! The reference's day, whole. -/
theorem mDay {n b wd wind : Nat} {M : Mem} {s : Sp} {T : Tw} (hn : 2000 < n) (hb : b ≤ 54) (g : s.Good wd) (gT : T.Good) (h : StR wd s 12 b M) (t : TwM wd T M) (hW : (gi M 0 52 = (-1 : Int32) ∧ wind = T.windOn s.day) ∨ (gi M 0 52 = nI wind ∧ wind < 10)) :
    ∃ M', f_X9_dayGoes n (nI b) M = some M' ∧ StR wd (T.day wd wind s) 12 b M' ∧ TwM wd T M' ∧ kp (VM b) M M' ∧ gi M' 0 48 = gi M 0 48 + nI (T.day wd wind s).fell ∧ gi M' 0 49 = nI (sumN (T.gives wd wind s) wd) ∧ ∀ w, w < wd → gi M' 14 w = gi M 14 w + nI (T.gives wd wind s w) := by
  obtain ⟨v, M1, q1, v1, e1⟩ := mLeans hn hb g gT h t hW
  have b1 : StR wd s 12 b M1 := rScm h e1
  have t1 := tScm t e1
  have g1 : (T.s1 wind s).Good wd := s1_good g
  have b2 : StR wd (T.s1 wind s) 12 b (si M1 12 (b + 2) (nI (bN (nI s.lean + T.leaning s wind) 99))) := b1.sLean g
  have k2 : kp (VM b) M1 (si M1 12 (b + 2) (nI (bN (nI s.lean + T.leaning s wind) 99))) := kp.rf.si (by unfold VM; omega) _
  have k3 : kp (fun t k => t = 0 ∧ k = 49) (si M1 12 (b + 2) (nI (bN (nI s.lean + T.leaning s wind) 99))) (si (si M1 12 (b + 2) (nI (bN (nI s.lean + T.leaning s wind) 99))) 0 49 (0 : Int32)) := kp.rf.si ⟨rfl, rfl⟩ _
  have b3 := b2.kp g1 k3 (fun q _ _ => by omega)
  have k3' : kp (VM b) M (si (si M1 12 (b + 2) (nI (bN (nI s.lean + T.leaning s wind) 99))) 0 49 (0 : Int32)) := ((scm_VM e1).tr k2).tr (k3.mono (fun t k ht => by unfold VM; omega))
  have t3 := tVM t k3'
  have x3 : gi (si (si M1 12 (b + 2) (nI (bN (nI s.lean + T.leaning s wind) 99))) 0 49 (0 : Int32)) 0 49 = nI 0 := by
    rw [gi_si, if_pos ⟨rfl, rfl⟩]
    rfl
  obtain ⟨M4, q4, b4, t4, k4, y4, z4, w4⟩ := mGifts hn hb g1 gT b3 t3 x3
  have g1' := money_good (x := T.rich wd (T.s1 wind s) wd) g1 (rich_le g1 wd)
  obtain ⟨M5, q5, b5, k5⟩ := mHang (n := n) hb g1' gT b4 t4
  have k5' : kp (VM b) M4 M5 := k5.mono (fun t k ht => by unfold VM; omega)
  have t5 := tVM t4 k5'
  have g2 : (T.s2 wd wind s).Good wd := s2_good g
  have r1 := g2.h_hung
  have r2 := g2.h_all
  obtain ⟨M6, q6, b6, e6, p6⟩ := mDrop_gl (N := n) (by omega) hb gT 16 n 0 (T.s2 wd wind s) M5 g2 b5 t5 (by omega) (by omega)
  rw [Nat.zero_add] at q6
  have k6 : kp (VM b) M5 M6 := ⟨fun t k ht => by
    by_cases c : t = 12
    · subst c
      exact p6 k (by unfold VM at ht; omega)
    · exact e6.1 t k c, e6.2⟩
  have t6 := tVM t5 k6
  have g6 : (Sp.drop wd T.ground 16 (T.s2 wd wind s)).2.Good wd := (drop_good 16 _ g2).1
  obtain ⟨M7, q7, e7, m7⟩ := mMore (fell := T.fallen wd wind s) hn hb g6 gT b6 t6
  have k7 : kp (VM b) M6 M7 := e7.kp (fun t k ht => by unfold VM; omega)
  have t7 := tVM t6 k7
  have b7 := b6.kp g6 (e7.kp (V := fun t _ => t = 15 ∨ t = 16 ∨ t = 17) (fun _ _ q => q)) (fun q _ _ => by omega)
  obtain ⟨M8, q8, b8, k8⟩ := mFaithL (T := T) hn hb g6 b7 t7 m7
  have k8' : kp (VM b) M7 M8 := k8.mono (fun t k ht => by unfold VM; omega)
  have g8 : ((Sp.drop wd T.ground 16 (T.s2 wd wind s)).2.setFaith (T.fl wd (Sp.drop wd T.ground 16 (T.s2 wd wind s)).2 (T.fallen wd wind s) wd)).Good wd := faith_good g6 (fun w hw => by
    show T.fl wd _ _ wd w ≤ 99
    unfold Tw.fl
    rw [if_pos hw]
    exact (bN_is (hi := 99) (by decide)).2)
  have b9 := b8.sFell g8 (x := T.fallen wd wind s)
  have g9 := fell_good g8 (fallen_le (T := T) (wind := wind) g)
  have y8 : gi M8 0 48 = gi M 0 48 := by
    rw [k8.1 0 48 (by omega), e7.1 0 48 (by omega), e6.1 0 48 (by unfold only; omega), k5.1 0 48 (by omega), y4, gi_si, if_neg (by omega), gi_si, if_neg (by omega)]
    exact e1.1 0 48 (by unfold scm; omega)
  have k9 : kp (VM b) M M8 := ((((k3'.tr k4).tr k5').tr k6).tr k7).tr k8'
  have b10 := b9.kp g9 (kp.rf.si (V := fun t k => t = 0 ∧ k = 48) ⟨rfl, rfl⟩ (gi M 0 48 + nI (T.fallen wd wind s))) (fun q _ _ => by omega)
  have b11 := b10.sDay g9 (x := (T.s3 wd wind s).day + 1)
  have k11 : kp (VM b) M (si (si (si M8 12 (b + 5) (nI (T.fallen wd wind s))) 0 48 (gi M 0 48 + nI (T.fallen wd wind s))) 12 b (nI ((T.s3 wd wind s).day + 1))) := ((k9.si (by unfold VM; omega) _).si (by unfold VM; omega) _).si (by unfold VM; omega) _
  refine ⟨_, ?_, b11, tVM t k11, k11, ?_, ?_, fun w hw => ?_⟩
  · unfold f_X9_dayGoes
    have i2 : inb (nI (b + 2)) 108 := n_in (by omega) (by decide)
    have z2 : (nI (b + 2)).toNatClampNeg = b + 2 := nI_clamp (by omega)
    simp only [nA_2, ck_pos i2, z2]
    rw [q1]
    simp only [bd]
    rw [mBounded, v1]
    simp only []
    rw [h.lean, mBounded]
    simp only []
    rw [show bndI (nI s.lean + T.leaning s wind) 0 99 = nI (bN (nI s.lean + T.leaning s wind) 99) from (bN_is (hi := 99) (by decide)).1, q4, q5]
    unfold j_X9_dayGoes_169
    rw [show ((0 : Int32), M5) = (nI 0, M5) from rfl, q6]
    rw [show j_X9_dayGoes_225 n (nI b) (nI (Sp.drop wd T.ground 16 (T.s2 wd wind s)).1) M6 = j_X9_dayGoes_225 n (nI b) (nI (T.fallen wd wind s)) M6 from rfl, q7, q8]
    unfold j_X9_dayGoes_312
    have i5 : inb (nI (b + 5)) 108 := n_in (by omega) (by decide)
    have i0 : inb (nI b) 108 := n_in (by omega) (by decide)
    have z5 : (nI (b + 5)).toNatClampNeg = b + 5 := nI_clamp (by omega)
    have z0 : (nI b).toNatClampNeg = b := nI_clamp (by omega)
    simp only [nA_5, nA_0, ck_pos i5, ck_pos i0, z5, z0]
    rw [show gi (si M8 12 (b + 5) (nI (T.fallen wd wind s))) 0 48 = gi M 0 48 by rw [gi_si, if_neg (by omega)]; exact y8, b10.day, nI_1]
    rfl
  · rw [gi_si, if_neg (by omega), gi_si, if_pos ⟨rfl, rfl⟩]
    rfl
  · rw [gi_si, if_neg (by omega), gi_si, if_neg (by omega), gi_si, if_neg (by omega), k8.1 0 49 (by omega), e7.1 0 49 (by omega), e6.1 0 49 (by unfold only; omega), k5.1 0 49 (by omega), z4]
    rfl
  · rw [gi_si, if_neg (by omega), gi_si, if_neg (by omega), gi_si, if_neg (by omega), k8.1 14 w (by omega), e7.1 14 w (by omega), e6.1 14 w (by unfold only; omega), k5.1 14 w (by omega), w4 w hw, gi_si, if_neg (by omega), gi_si, if_neg (by omega), e1.1 14 w (by unfold scm; omega)]
    rfl
