/-! A question: both answer alike, and both still hold the state. -/
theorem cmp_self (x : Int64) : lg_cmp x x = 0 := by
  unfold lg_cmp
  simp
def QQ (ks : Nat → Int32 → Prop) (fC : Option Rx) (fM : Option (Int32 × Mem)) : Prop :=
  ∃ k v M' v' M2', fC = some (k, v, M') ∧ fM = some (v', M2') ∧ RR M' M2' ∧ ks k (gi M2' 0 0) ∧ (k = 0 → v' = v)
def k1 (k : Nat) (c : Int32) : Prop := (k = 0 ∧ c = 0) ∨ (k = 1 ∧ c = 1)
def k2 (k : Nat) (c : Int32) : Prop := (k = 0 ∧ c = 0) ∨ (k = 2 ∧ c = 1)
def k12 (k : Nat) (c : Int32) : Prop := (k = 0 ∧ c = 0) ∨ (k = 1 ∧ c = 1) ∨ (k = 2 ∧ c = 2)
def wr1 (o : Option Rx) : Option (Int32 × Mem) := bd o (fun q1 => if q1.1 = 0 then (some ((0 : Int32), sj q1.2.2 60 (0 : Int32).toNatClampNeg q1.2.1.toInt64)) else (if q1.1 = 1 then (some ((1 : Int32), q1.2.2)) else (none)))
def wr2 (o : Option Rx) : Option (Int32 × Mem) := bd o (fun q1 => if q1.1 = 0 then (some ((0 : Int32), sj q1.2.2 60 (0 : Int32).toNatClampNeg q1.2.1.toInt64)) else (if q1.1 = 2 then (some ((1 : Int32), q1.2.2)) else (none)))
def wr12 (o : Option Rx) : Option (Int32 × Mem) := bd o (fun q1 => if q1.1 = 0 then (some ((0 : Int32), sj q1.2.2 60 (0 : Int32).toNatClampNeg q1.2.1.toInt64)) else (if q1.1 = 1 then (some ((1 : Int32), q1.2.2)) else (if q1.1 = 2 then (some ((2 : Int32), q1.2.2)) else (none))))
def lwq (n : Nat) (fL : Option (Int32 × Mem)) (fM : Option (Int32 × Mem)) : Option (Mem × Mem) := bd fL (fun q1 => bd fM (fun q2 => bd (f_X9_thrown n q2.2) (fun q3 => if q3.1 = q1.1 then (if q1.1 = 0 then (if (lg_cmp (gj q1.2 60 0) q2.1.toInt64) = 0 then (some (q1.2, q3.2)) else (none)) else (some (q1.2, q3.2))) else (none))))
theorem gj_sj0 (M : Mem) (x : Int64) : gj (sj M 60 0 x) 60 0 = x := by
  rw [gj_sj, if_pos ⟨rfl, rfl⟩]
theorem RC.sj {A : Ab} {M : Mem} (h : RC A M) (x : Int64) : RC A (sj M 60 0 x) := h.kq (kq.rf.sj 60 0 x)
theorem RR.sj {M M2 : Mem} (h : RR M M2) (x : Int64) : RR (sj M 60 0 x) M2 := by
  obtain ⟨A, g, h1, h2⟩ := h
  exact ⟨A, g, h1.sj x, h2⟩
theorem lw_0 {n : Nat} {fM : Option (Int32 × Mem)} {v v' : Int32} {M' M2' : Mem} (h2 : fM = some (v', M2')) (h3 : RR M' M2') (hc : gi M2' 0 0 = 0) (hv : v' = v) : ∃ M9 M8, lwq n (some ((0 : Int32), sj M' 60 0 v.toInt64)) fM = some (M9, M8) ∧ RR M9 M8 := by
  subst h2 hv
  refine ⟨sj M' 60 0 v'.toInt64, M2', ?_, h3.sj _⟩
  unfold lwq f_X9_thrown
  simp only [bd]
  rw [hc, if_pos rfl, if_pos trivial, gj_sj0, cmp_self, if_pos rfl]
theorem lw_t {n : Nat} {fM : Option (Int32 × Mem)} {v' c : Int32} {M' M2' : Mem} (h2 : fM = some (v', M2')) (h3 : RR M' M2') (hc : gi M2' 0 0 = c) (h0 : ¬ c = 0) : ∃ M9 M8, lwq n (some (c, M')) fM = some (M9, M8) ∧ RR M9 M8 := by
  subst h2 hc
  refine ⟨M', M2', ?_, h3⟩
  unfold lwq f_X9_thrown
  simp only [bd]
  rw [if_pos trivial, if_neg h0]
theorem lw_1 {n : Nat} {fC : Option Rx} {fM : Option (Int32 × Mem)} (h : QQ k1 fC fM) : ∃ M9 M8, lwq n (wr1 fC) fM = some (M9, M8) ∧ RR M9 M8 := by
  obtain ⟨k, v, M', v', M2', h1, h2, h3, h5, h6⟩ := h
  subst h1
  rcases h5 with ⟨rfl, hc⟩ | ⟨rfl, hc⟩
  · exact lw_0 h2 h3 hc (h6 rfl)
  · exact lw_t h2 h3 hc (by decide)
theorem lw_2 {n : Nat} {fC : Option Rx} {fM : Option (Int32 × Mem)} (h : QQ k2 fC fM) : ∃ M9 M8, lwq n (wr2 fC) fM = some (M9, M8) ∧ RR M9 M8 := by
  obtain ⟨k, v, M', v', M2', h1, h2, h3, h5, h6⟩ := h
  subst h1
  rcases h5 with ⟨rfl, hc⟩ | ⟨rfl, hc⟩
  · exact lw_0 h2 h3 hc (h6 rfl)
  · exact lw_t h2 h3 hc (by decide)
theorem lw_12 {n : Nat} {fC : Option Rx} {fM : Option (Int32 × Mem)} (h : QQ k12 fC fM) : ∃ M9 M8, lwq n (wr12 fC) fM = some (M9, M8) ∧ RR M9 M8 := by
  obtain ⟨k, v, M', v', M2', h1, h2, h3, h5, h6⟩ := h
  subst h1
  rcases h5 with ⟨rfl, hc⟩ | ⟨rfl, hc⟩ | ⟨rfl, hc⟩
  · exact lw_0 h2 h3 hc (h6 rfl)
  · exact lw_t h2 h3 hc (by decide)
  · exact lw_t h2 h3 hc (by decide)
/-- calls that don't throw -/
def lwp (fC fM : Option (Int32 × Mem)) : Option (Mem × Mem) := bd fC (fun q1 => bd fM (fun q2 => if q1.1 = q2.1 then (some (q1.2, q2.2)) else (none)))
def QP (fC fM : Option (Int32 × Mem)) : Prop := ∃ v M' M2', fC = some (v, M') ∧ fM = some (v, M2') ∧ RR M' M2'
theorem lw_p {fC fM : Option (Int32 × Mem)} (h : QP fC fM) : ∃ M9 M8, lwp fC fM = some (M9, M8) ∧ RR M9 M8 := by
  obtain ⟨v, M', M2', h1, h2, h3⟩ := h
  subst h1 h2
  refine ⟨M', M2', ?_, h3⟩
  unfold lwp
  simp only [bd]
  rw [if_pos trivial]
section Q
variable {n : Nat} {A : Ab} {M M2 : Mem} {ks : Nat → Int32 → Prop}
theorem RM.thr (g : A.Good) (h : RM A M2) (x : Int32) : RM A (si M2 0 0 x) := h.kq g (kq.rf.si (by unfold VR; omega) x)
theorem mRight_no {c : Int32} (h0 : gi M2 0 0 = 0) (hc : ¬ c = 0) : f_X9_right n 0 c M2 = some (0, si M2 0 0 c) := by
  unfold f_X9_right j_X9_right_16
  rw [if_pos h0, if_pos rfl, show gi (si M2 0 0 c) 0 0 = c by rw [gi_si, if_pos ⟨rfl, rfl⟩], if_neg hc]
theorem mRight_yes {c : Int32} (h0 : gi M2 0 0 = 0) : f_X9_right n 1 c M2 = some (1, M2) := by
  unfold f_X9_right j_X9_right_16
  rw [if_pos h0, if_neg (by decide), if_pos h0]
theorem mWithin_no {x lo hi : Int32} (h : x < lo ∨ hi < x) : f_X9_within n x lo hi M2 = some (0, M2) := by
  unfold f_X9_within
  by_cases c : x < lo
  · rw [if_pos c]
  · rw [if_neg c, if_pos (h.resolve_left c)]
theorem mWithin_yes {x lo hi : Int32} (h1 : ¬ x < lo) (h2 : ¬ hi < x) : f_X9_within n x lo hi M2 = some (1, M2) := by
  unfold f_X9_within
  rw [if_neg h1, if_neg h2]
theorem qq_no {k : Nat} {c v v' : Int32} (g : A.Good) (hC : RC A M) (hM : RM A M2) (hk : ks k c) (hk0 : ¬ k = 0) : QQ ks (some (k, v, M)) (some (v', si M2 0 0 c)) :=
  ⟨k, v, M, v', _, rfl, rfl, ⟨A, g, hC, hM.thr g c⟩, by rw [gi_si, if_pos ⟨rfl, rfl⟩]; exact hk, fun e => absurd e hk0⟩
theorem qq_yes {v : Int32} (g : A.Good) (hC : RC A M) (hM : RM A M2) (h0 : gi M2 0 0 = 0) (hk : ks 0 0) : QQ ks (some (0, v, M)) (some (v, M2)) :=
  ⟨0, v, M, v, M2, rfl, rfl, ⟨A, g, hC, hM⟩, by rw [h0]; exact hk, fun _ => rfl⟩
/-- both loops end alike -/
def PQ (x : Rx) (y : Int32 × Mem) : Prop := x.1 = 0 ∧ y.1 = x.2.1 ∧ RR x.2.2 y.2 ∧ gi y.2 0 0 = 0
theorem qq_pq {fC : Option Rx} {fM : Option (Int32 × Mem)} (hk : ks 0 0) (h : ∃ x y, fC = some x ∧ fM = some y ∧ PQ x y) : QQ ks fC fM := by
  obtain ⟨⟨k, v, M'⟩, ⟨v', M2'⟩, h1, h2, h3, h4, h5, h6⟩ := h
  have h3 : k = 0 := h3
  subst h3
  exact ⟨0, v, M', v', M2', h1, h2, h5, by rw [show gi M2' 0 0 = 0 from h6]; exact hk, fun _ => h4⟩
theorem qq_gn {fG : Option Rx} {fH : Option (Int32 × Mem)} {KC : Rx → Option Rx} {KM : Int32 × Mem → Option (Int32 × Mem)} {k : Nat} {c : Int32} (g : A.Good) (hC : RC A M) (hM : RM A M2) (e1 : fG = some (k, 0, M)) (e2 : fH = some (0, si M2 0 0 c)) (hk : ks k c) (hk0 : ¬ k = 0) :
    QQ ks (bd fG (fun q => if q.1 = 0 then KC q else some (q.1, (0 : Int32), q.2.2))) (bd fH (fun q => if q.1 = 0 then some ((0 : Int32), q.2) else KM q)) := by
  subst e1 e2
  have a1 : bd (some (k, (0 : Int32), M)) (fun q => if q.1 = 0 then KC q else some (q.1, (0 : Int32), q.2.2)) = some (k, 0, M) := if_neg hk0
  have a2 : bd (some ((0 : Int32), si M2 0 0 c)) (fun q => if q.1 = 0 then some ((0 : Int32), q.2) else KM q) = some (0, si M2 0 0 c) := rfl
  rw [a1, a2]
  exact qq_no g hC hM hk hk0
theorem qq_gy {fG : Option Rx} {fH : Option (Int32 × Mem)} {KC : Rx → Option Rx} {KM : Int32 × Mem → Option (Int32 × Mem)} (e1 : fG = some (0, 0, M)) (e2 : fH = some (1, M2)) (h : QQ ks (KC (0, 0, M)) (KM (1, M2))) :
    QQ ks (bd fG (fun q => if q.1 = 0 then KC q else some (q.1, (0 : Int32), q.2.2))) (bd fH (fun q => if q.1 = 0 then some ((0 : Int32), q.2) else KM q)) := by
  subst e1 e2
  have a1 : bd (some (0, (0 : Int32), M)) (fun q => if q.1 = 0 then KC q else some (q.1, (0 : Int32), q.2.2)) = KC (0, 0, M) := rfl
  have a2 : bd (some ((1 : Int32), M2)) (fun q => if q.1 = 0 then some ((0 : Int32), q.2) else KM q) = KM (1, M2) := rfl
  rw [a1, a2]
  exact h
theorem rt_no {t c : Int32} (h0 : gi M2 0 0 = 0) (hc : ¬ c = 0) (ht : t = 0) : bd (f_X9_right n t c M2) (fun q1 => ck (q1.1 = 0 ∨ q1.1 = 1) (some (q1.1, q1.2))) = some (0, si M2 0 0 c) := by
  rw [ht, mRight_no h0 hc]
  exact ck_pos (Or.inl rfl)
theorem rt_yes {t c : Int32} (h0 : gi M2 0 0 = 0) (ht : t = 1) : bd (f_X9_right n t c M2) (fun q1 => ck (q1.1 = 0 ∨ q1.1 = 1) (some (q1.1, q1.2))) = some (1, M2) := by
  rw [ht, mRight_yes h0]
  exact ck_pos (Or.inr rfl)
theorem qq_ward {x : Int32} {KC : Rx → Option Rx} {KM : Int32 × Mem → Option (Int32 × Mem)} (g : A.Good) (hC : RC A M) (hM : RM A M2) (h0 : gi M2 0 0 = 0) (hk : ks 1 1) (h : ∀ w, w < A.wd → x = nI w → QQ ks (KC (0, 0, M)) (KM (1, M2))) :
    QQ ks (bd (f_X8_requireWard n x M) (fun q => if q.1 = 0 then KC q else some (q.1, (0 : Int32), q.2.2))) (bd (f_X9_isWard n x M2) (fun q => if q.1 = 0 then some ((0 : Int32), q.2) else KM q)) := by
  have hw := g.g_n.h_wd
  by_cases c3 : x < 0
  · refine qq_gn (c := 1) g hC hM (k := 1) ?_ ?_ hk (by decide)
    · unfold f_X8_requireWard j_X8_requireWard_15
      rw [if_pos c3]
    · unfold f_X9_isWard j_X9_isWard_17 j_X9_isWard_18
      rw [if_pos c3]
      exact rt_no h0 (by decide) rfl
  · by_cases c : x < nI A.wd
    · obtain ⟨w, hj, rfl⟩ := nI_of c3
      have c4 := (nI_ltI hj (by omega)).mp c
      refine qq_gy ?_ ?_ (h w c4 rfl)
      · unfold f_X8_requireWard
        rw [hC.r_n.wards, if_neg c3, if_pos c]
      · unfold f_X9_isWard j_X9_isWard_18
        rw [hM.s_t.wards, if_neg c3, if_neg (Int32.not_le.mpr c)]
        exact rt_yes h0 rfl
    · refine qq_gn (c := 1) g hC hM (k := 1) ?_ ?_ hk (by decide)
      · unfold f_X8_requireWard j_X8_requireWard_15
        rw [hC.r_n.wards, if_neg c3, if_neg c]
      · unfold f_X9_isWard j_X9_isWard_17 j_X9_isWard_18
        rw [hM.s_t.wards, if_neg c3, if_pos (Int32.not_lt.mp c)]
        exact rt_no h0 (by decide) rfl
theorem qq_what {x : Int32} {m : Nat} {KC : Rx → Option Rx} {KM : Int32 × Mem → Option (Int32 × Mem)} (hm : m < 1000) (g : A.Good) (hC : RC A M) (hM : RM A M2) (h0 : gi M2 0 0 = 0) (hk : ks 1 1) (h : ∀ w, w ≤ m → x = nI w → QQ ks (KC (0, 0, M)) (KM (1, M2))) :
    QQ ks (bd (f_X8_requireWhat n x (nI m) M) (fun q => if q.1 = 0 then KC q else some (q.1, (0 : Int32), q.2.2))) (bd (f_X9_isWhat n x (nI m) M2) (fun q => if q.1 = 0 then some ((0 : Int32), q.2) else KM q)) := by
  by_cases c3 : x < 0
  · refine qq_gn (c := 1) g hC hM (k := 1) ?_ ?_ hk (by decide)
    · unfold f_X8_requireWhat j_X8_requireWhat_9
      rw [if_pos c3]
    · unfold f_X9_isWhat
      rw [mWithin_no (Or.inl c3)]
      exact rt_no h0 (by decide) rfl
  · by_cases c : x ≤ nI m
    · obtain ⟨w, hj, rfl⟩ := nI_of c3
      have c4 := (nI_leI hj (by omega)).mp c
      refine qq_gy ?_ ?_ (h w c4 rfl)
      · unfold f_X8_requireWhat
        rw [if_neg c3, if_pos c]
      · unfold f_X9_isWhat
        rw [mWithin_yes c3 (Int32.not_lt.mpr c)]
        exact rt_yes h0 rfl
    · refine qq_gn (c := 1) g hC hM (k := 1) ?_ ?_ hk (by decide)
      · unfold f_X8_requireWhat j_X8_requireWhat_9
        rw [if_neg c3, if_neg c]
      · unfold f_X9_isWhat
        rw [mWithin_no (Or.inr (Int32.not_le.mp c))]
        exact rt_no h0 (by decide) rfl
theorem qq_from0 {x c : Int32} {KC : Rx → Option Rx} {KM : Int32 × Mem → Option (Int32 × Mem)} (g : A.Good) (hC : RC A M) (hM : RM A M2) (h0 : gi M2 0 0 = 0) (hk : ks 2 c) (hc0 : ¬ c = 0) (h : ∀ w, w ≤ 60 → x = nI w → QQ ks (KC (0, 0, M)) (KM (1, M2))) :
    QQ ks (bd (f_X8_requireFrom0 n x (60 : Int32) M) (fun q => if q.1 = 0 then KC q else some (q.1, (0 : Int32), q.2.2))) (bd (f_X9_isSoon n x (0 : Int32) c M2) (fun q => if q.1 = 0 then some ((0 : Int32), q.2) else KM q)) := by
  by_cases c3 : x < 0
  · refine qq_gn (c := c) g hC hM (k := 2) ?_ ?_ hk (by decide)
    · unfold f_X8_requireFrom0 j_X8_requireFrom0_9
      rw [if_pos c3]
    · unfold f_X9_isSoon
      rw [mWithin_no (Or.inl c3)]
      exact rt_no h0 hc0 rfl
  · by_cases c5 : x ≤ (60 : Int32)
    · obtain ⟨w, hj, rfl⟩ := nI_of c3
      have c4 := (nI_leI (b := 60) hj (by omega)).mp c5
      refine qq_gy ?_ ?_ (h w c4 rfl)
      · unfold f_X8_requireFrom0
        rw [if_neg c3, if_pos c5]
      · unfold f_X9_isSoon
        rw [mWithin_yes c3 (Int32.not_lt.mpr c5)]
        exact rt_yes h0 rfl
    · refine qq_gn (c := c) g hC hM (k := 2) ?_ ?_ hk (by decide)
      · unfold f_X8_requireFrom0 j_X8_requireFrom0_9
        rw [if_neg c3, if_neg c5]
      · unfold f_X9_isSoon
        rw [mWithin_no (Or.inr (Int32.not_le.mp c5))]
        exact rt_no h0 hc0 rfl
theorem qq_from1 {x c : Int32} {KC : Rx → Option Rx} {KM : Int32 × Mem → Option (Int32 × Mem)} (g : A.Good) (hC : RC A M) (hM : RM A M2) (h0 : gi M2 0 0 = 0) (hk : ks 2 c) (hc0 : ¬ c = 0) (h : ∀ w, 1 ≤ w → w ≤ 60 → x = nI w → QQ ks (KC (0, 0, M)) (KM (1, M2))) :
    QQ ks (bd (f_X8_requireFrom1 n x M) (fun q => if q.1 = 0 then KC q else some (q.1, (0 : Int32), q.2.2))) (bd (f_X9_isSoon n x (1 : Int32) c M2) (fun q => if q.1 = 0 then some ((0 : Int32), q.2) else KM q)) := by
  by_cases c3 : x < (1 : Int32)
  · refine qq_gn (c := c) g hC hM (k := 2) ?_ ?_ hk (by decide)
    · unfold f_X8_requireFrom1 j_X8_requireFrom1_11
      rw [if_pos c3]
    · unfold f_X9_isSoon
      rw [mWithin_no (Or.inl c3)]
      exact rt_no h0 hc0 rfl
  · by_cases c5 : x ≤ (60 : Int32)
    · have c6 : ¬ x < 0 := fun q => c3 (Int32.lt_trans q (by decide))
      obtain ⟨w, hj, rfl⟩ := nI_of c6
      have c4 := (nI_leI (b := 60) hj (by omega)).mp c5
      have c7 : ¬ w < 1 := fun q => c3 ((nI_ltI (b := 1) hj (by omega)).mpr q)
      refine qq_gy ?_ ?_ (h w (by omega) c4 rfl)
      · unfold f_X8_requireFrom1
        rw [if_neg c3, if_pos c5]
      · unfold f_X9_isSoon
        rw [mWithin_yes c3 (Int32.not_lt.mpr c5)]
        exact rt_yes h0 rfl
    · refine qq_gn (c := c) g hC hM (k := 2) ?_ ?_ hk (by decide)
      · unfold f_X8_requireFrom1 j_X8_requireFrom1_11
        rw [if_neg c3, if_neg c5]
      · unfold f_X9_isSoon
        rw [mWithin_no (Or.inr (Int32.not_le.mp c5))]
        exact rt_no h0 hc0 rfl
theorem RC.cb (g : A.Good) (h : RC A M) : ∃ j, CB A.wd j A.tw A.now M := by
  obtain ⟨j, h1, h2, h3, h4⟩ := h.r_j
  exact ⟨j, h.r_n, h4, h2, h1, g.g_n, g.g_t, g.g_d⟩
theorem RM.mb (g : A.Good) (h : RM A M2) : MB A.wd A.tw A.now M2 := ⟨h.s_n, h.s_t, h.s_w, g.g_n, g.g_t, g.g_d⟩
theorem RC.ct {j wd : Nat} {T : Tw} {s : Sp} {M' : Mem} (h : RC A M) (e : CT wd j T M s M') : RC A M' := h.kq e.c_sm
theorem RM.vt {M2' : Mem} (g : A.Good) (h : RM A M2) (e : kp VT M2 M2') (hw : gi M2' 0 52 = -1) : RM A M2' := h.kq g (fun t k ht => by
  by_cases c : t = 0 ∧ k = 52
  · rw [c.1, c.2, hw, h.s_w]
  · exact e.1 t k (by unfold VT VM; unfold VR at ht; omega))
theorem RM.mt {wd : Nat} {T : Tw} {s : Sp} {fa : Int32} {gv : Nat → Int32} {M2' : Mem} (g : A.Good) (h : RM A M2) (e : MT wd T M2 (-1) fa gv s M2') : RM A M2' := h.vt g e.m_k e.m_w
theorem MT.thr {wd : Nat} {T : Tw} {s : Sp} {ow fa : Int32} {gv : Nat → Int32} {M0 M' : Mem} (e : MT wd T M0 ow fa gv s M') : gi M' 0 0 = gi M0 0 0 := e.m_k.1 0 0 (by unfold VT VM; omega)
end Q
