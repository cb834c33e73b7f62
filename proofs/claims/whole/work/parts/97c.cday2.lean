/-! The class' day: to hang, to fall, to believe. -/
def kp (V : Nat → Nat → Prop) (M M' : Mem) : Prop := (∀ t k, ¬ V t k → gi M' t k = gi M t k) ∧ M'.2 = M.2
theorem kp.rf {V : Nat → Nat → Prop} {M : Mem} : kp V M M := ⟨fun _ _ _ => rfl, rfl⟩
theorem kp.tr {V : Nat → Nat → Prop} {M M' M2 : Mem} (h : kp V M M') (h2 : kp V M' M2) : kp V M M2 := ⟨fun t k ht => (h2.1 t k ht).trans (h.1 t k ht), h2.2.trans h.2⟩
theorem kp.mono {V W : Nat → Nat → Prop} {M M' : Mem} (h : kp V M M') (hVW : ∀ t k, V t k → W t k) : kp W M M' := ⟨fun t k ht => h.1 t k (fun c => ht (hVW t k c)), h.2⟩
theorem kp.si {V : Nat → Nat → Prop} {M M' : Mem} (h : kp V M M') {i k : Nat} (hi : V i k) (x : Int32) : kp V M (si M' i k x) := ⟨fun t q ht => by
  rw [gi_si, if_neg (fun c : t = i ∧ q = k => ht (c.1.symm ▸ c.2.symm ▸ hi))]
  exact h.1 t q ht, h.2⟩
theorem same.kp {A : Nat → Prop} {V : Nat → Nat → Prop} {M M' : Mem} (h : same A M M') (hV : ∀ t k, A t → V t k) : kp V M M' := ⟨fun t k ht => h.1 t k (fun c => ht (hV t k c)), h.2⟩
def Sp.setHung (s : Sp) (x : Nat) : Sp := (s.all, x, s.day, s.money, s.lean, s.fell, s.weight, s.mortar, s.faith, s.beside)
def Sp.setDay (s : Sp) (x : Nat) : Sp := (s.all, s.hung, x, s.money, s.lean, s.fell, s.weight, s.mortar, s.faith, s.beside)
def Sp.setMortar (s : Sp) (f : Nat → Nat) : Sp := (s.all, s.hung, s.day, s.money, s.lean, s.fell, s.weight, f, s.faith, s.beside)
def Sp.setWeight (s : Sp) (f : Nat → Nat) : Sp := (s.all, s.hung, s.day, s.money, s.lean, s.fell, f, s.mortar, s.faith, s.beside)
def Sp.setBeside (s : Sp) (f : Nat → Nat) : Sp := (s.all, s.hung, s.day, s.money, s.lean, s.fell, s.weight, s.mortar, s.faith, f)
theorem StC.sHung {i wd x : Nat} {M : Mem} {s : Sp} (h : StC wd s i M) : StC wd (s.setHung x) i (si M i 6 (nI x)) := by
  have hr : ∀ q, q = 1 ∨ q = 2 ∨ q = 3 ∨ q = 4 → ∀ p, gi (si M i 6 (nI x)) (i + q) p = gi M (i + q) p := fun q hq p => by rw [gi_si, if_neg (by omega)]
  have hf : ∀ p, p ≠ 6 → gi (si M i 6 (nI x)) i p = gi M i p := fun p hp => by rw [gi_si, if_neg (by omega)]
  have hs : gi (si M i 6 (nI x)) i 6 = nI x := by rw [gi_si, if_pos ⟨rfl, rfl⟩]
  exact ⟨(hf _ (by decide)).trans h.all, hs, (hf _ (by decide)).trans h.wards, (hf _ (by decide)).trans h.day, (hf _ (by decide)).trans h.money, (hf _ (by decide)).trans h.lean, (hf _ (by decide)).trans h.fell, fun c hc => (hr 1 (by omega) c).trans (h.weight c hc), fun c hc => (hr 2 (by omega) c).trans (h.mortar c hc), fun c hc => (hr 3 (by omega) c).trans (h.faith c hc), fun c hc => (hr 4 (by omega) c).trans (h.beside c hc)⟩
theorem StC.sDay {i wd x : Nat} {M : Mem} {s : Sp} (h : StC wd s i M) : StC wd (s.setDay x) i (si M i 8 (nI x)) := by
  have hr : ∀ q, q = 1 ∨ q = 2 ∨ q = 3 ∨ q = 4 → ∀ p, gi (si M i 8 (nI x)) (i + q) p = gi M (i + q) p := fun q hq p => by rw [gi_si, if_neg (by omega)]
  have hf : ∀ p, p ≠ 8 → gi (si M i 8 (nI x)) i p = gi M i p := fun p hp => by rw [gi_si, if_neg (by omega)]
  have hs : gi (si M i 8 (nI x)) i 8 = nI x := by rw [gi_si, if_pos ⟨rfl, rfl⟩]
  exact ⟨(hf _ (by decide)).trans h.all, (hf _ (by decide)).trans h.hung, (hf _ (by decide)).trans h.wards, hs, (hf _ (by decide)).trans h.money, (hf _ (by decide)).trans h.lean, (hf _ (by decide)).trans h.fell, fun c hc => (hr 1 (by omega) c).trans (h.weight c hc), fun c hc => (hr 2 (by omega) c).trans (h.mortar c hc), fun c hc => (hr 3 (by omega) c).trans (h.faith c hc), fun c hc => (hr 4 (by omega) c).trans (h.beside c hc)⟩
theorem StC.sMoney {i wd x : Nat} {M : Mem} {s : Sp} (h : StC wd s i M) : StC wd (s.setMoney x) i (si M i 9 (nI x)) := by
  have hr : ∀ q, q = 1 ∨ q = 2 ∨ q = 3 ∨ q = 4 → ∀ p, gi (si M i 9 (nI x)) (i + q) p = gi M (i + q) p := fun q hq p => by rw [gi_si, if_neg (by omega)]
  have hf : ∀ p, p ≠ 9 → gi (si M i 9 (nI x)) i p = gi M i p := fun p hp => by rw [gi_si, if_neg (by omega)]
  have hs : gi (si M i 9 (nI x)) i 9 = nI x := by rw [gi_si, if_pos ⟨rfl, rfl⟩]
  exact ⟨(hf _ (by decide)).trans h.all, (hf _ (by decide)).trans h.hung, (hf _ (by decide)).trans h.wards, (hf _ (by decide)).trans h.day, hs, (hf _ (by decide)).trans h.lean, (hf _ (by decide)).trans h.fell, fun c hc => (hr 1 (by omega) c).trans (h.weight c hc), fun c hc => (hr 2 (by omega) c).trans (h.mortar c hc), fun c hc => (hr 3 (by omega) c).trans (h.faith c hc), fun c hc => (hr 4 (by omega) c).trans (h.beside c hc)⟩
theorem StC.sLean {i wd x : Nat} {M : Mem} {s : Sp} (h : StC wd s i M) : StC wd (s.setLean x) i (si M i 10 (nI x)) := by
  have hr : ∀ q, q = 1 ∨ q = 2 ∨ q = 3 ∨ q = 4 → ∀ p, gi (si M i 10 (nI x)) (i + q) p = gi M (i + q) p := fun q hq p => by rw [gi_si, if_neg (by omega)]
  have hf : ∀ p, p ≠ 10 → gi (si M i 10 (nI x)) i p = gi M i p := fun p hp => by rw [gi_si, if_neg (by omega)]
  have hs : gi (si M i 10 (nI x)) i 10 = nI x := by rw [gi_si, if_pos ⟨rfl, rfl⟩]
  exact ⟨(hf _ (by decide)).trans h.all, (hf _ (by decide)).trans h.hung, (hf _ (by decide)).trans h.wards, (hf _ (by decide)).trans h.day, (hf _ (by decide)).trans h.money, hs, (hf _ (by decide)).trans h.fell, fun c hc => (hr 1 (by omega) c).trans (h.weight c hc), fun c hc => (hr 2 (by omega) c).trans (h.mortar c hc), fun c hc => (hr 3 (by omega) c).trans (h.faith c hc), fun c hc => (hr 4 (by omega) c).trans (h.beside c hc)⟩
theorem StC.sFell {i wd x : Nat} {M : Mem} {s : Sp} (h : StC wd s i M) : StC wd (s.setFell x) i (si M i 11 (nI x)) := by
  have hr : ∀ q, q = 1 ∨ q = 2 ∨ q = 3 ∨ q = 4 → ∀ p, gi (si M i 11 (nI x)) (i + q) p = gi M (i + q) p := fun q hq p => by rw [gi_si, if_neg (by omega)]
  have hf : ∀ p, p ≠ 11 → gi (si M i 11 (nI x)) i p = gi M i p := fun p hp => by rw [gi_si, if_neg (by omega)]
  have hs : gi (si M i 11 (nI x)) i 11 = nI x := by rw [gi_si, if_pos ⟨rfl, rfl⟩]
  exact ⟨(hf _ (by decide)).trans h.all, (hf _ (by decide)).trans h.hung, (hf _ (by decide)).trans h.wards, (hf _ (by decide)).trans h.day, (hf _ (by decide)).trans h.money, (hf _ (by decide)).trans h.lean, hs, fun c hc => (hr 1 (by omega) c).trans (h.weight c hc), fun c hc => (hr 2 (by omega) c).trans (h.mortar c hc), fun c hc => (hr 3 (by omega) c).trans (h.faith c hc), fun c hc => (hr 4 (by omega) c).trans (h.beside c hc)⟩
theorem cFaithRow {i wd w x : Nat} {M : Mem} {s : Sp} {f : Nat → Nat} (h : StC wd s i M) (hf : ∀ v, v < wd → f v = if v = w then x else s.faith v) : StC wd (s.setFaith f) i (si M (i + 3) w (nI x)) := by
  have e : same (fun t => t = i + 3) M (si M (i + 3) w (nI x)) := same.rf.si (A := fun t => t = i + 3) rfl _ _
  have h' := fun (t k : Nat) (ht : ¬ t = i + 3) => e.1 t k ht
  refine ⟨(h' _ _ (by omega)).trans h.all, (h' _ _ (by omega)).trans h.hung, (h' _ _ (by omega)).trans h.wards, (h' _ _ (by omega)).trans h.day, (h' _ _ (by omega)).trans h.money, (h' _ _ (by omega)).trans h.lean, (h' _ _ (by omega)).trans h.fell, fun c hc => (h' _ _ (by omega)).trans (h.weight c hc), fun c hc => (h' _ _ (by omega)).trans (h.mortar c hc), fun v hv => ?_, fun v hv => (h' _ _ (by omega)).trans (h.beside v hv)⟩
  show gi (si M (i + 3) w (nI x)) (i + 3) v = nI (f v)
  rw [hf v hv, gi_si]
  by_cases c : v = w
  · rw [if_pos ⟨rfl, c⟩, if_pos c]
  · rw [if_neg (fun q => c q.2), if_neg c]
    exact h.faith v hv
theorem cAddFaith {n i wd w : Nat} {M : Mem} {s : Sp} {x : Int32} (g : s.Good wd) (h : StC wd s i M) (hw : w < wd) : f_X4_addFaith n i (nI w) x M = some (si M (i + 3) w (nI (bN (nI (s.faith w) + x) 99))) := by
  have h1 := g.h_wd
  unfold f_X4_addFaith
  have hc : (nI w).toNatClampNeg = w := nI_clamp (by omega)
  rw [ck, if_pos (n_in (by omega) (by decide)), show gi M (i + 3) (nI w).toNatClampNeg = nI (s.faith w) by rw [hc]; exact h.faith w hw, cWithin]
  simp only [bd]
  rw [ck, if_pos (n_in (by omega) (by decide)), hc, show bndI (nI (s.faith w) + x) 0 99 = nI (bN (nI (s.faith w) + x) 99) from (bN_is (hi := 99) (by decide)).1]
theorem cDoubtB {n i wd w : Nat} {M : Mem} {s : Sp} (g : s.Good wd) (h : gi M (i + 4) w = nI (s.beside w)) (hw : w < wd) : f_X4_doubt n i (nI w) (nI (s.dset wd)) M = some (nI (s.doubt wd w), M) := by
  have h1 := g.h_wd
  have h2 := g.h_beside w hw
  have h3 : s.beside w < 256 := Nat.lt_of_lt_of_le h2 (Nat.pow_le_pow_right (by decide) h1 : 2 ^ wd ≤ 2 ^ 8)
  unfold f_X4_doubt
  rw [ck, if_pos (n_in (by omega) (by decide)), nI_clamp (by omega), h, nI_and, bc_is, bc_256 _ (Nat.lt_of_le_of_lt Nat.and_le_left h3)]
  simp only [bd]
  have e : cntN (fun o => (s.beside w &&& s.dset wd).testBit o) 8 = s.doubt wd w := by
    unfold Sp.doubt
    rw [cntN_ext (a := wd) h1 (fun j hj => ?_)]
    · refine cntN_congr (fun j hj => ?_)
      simp only [Nat.testBit_and, dset_bit, Sp.doubts]
      rw [decide_eq_true hj, Bool.true_and]
    · simp only [Nat.testBit_and, dset_bit]
      rw [decide_eq_false (by omega : ¬ j < wd), Bool.false_and, Bool.and_false]
  rw [e]
theorem dset_congr {s s' : Sp} (h : ∀ w, s'.faith w = s.faith w) : ∀ k, s'.dset k = s.dset k
  | 0 => rfl
  | k + 1 => by rw [Sp.dset, Sp.dset, dset_congr h k, h k]
theorem cSpare {n i wd : Nat} {M : Mem} {s : Sp} (hn : 100 < n) (g : s.Good wd) (h : StC wd s i M) : f_X4_spare n i M = some (s.spare wd, M) := by
  have h4 := g.h_lean
  unfold f_X4_spare Sp.spare
  rw [cStrength hn g h]
  simp only [bd]
  rw [cWeightHung hn g h]
  simp only []
  rw [h.lean, show (5 : Int32) = nI 5 from rfl, pk_div (by omega) (by decide) (by decide)]
theorem cHang {n i wd cost : Nat} {M : Mem} {s : Sp} (g : s.Good wd) (hc : cost ≤ 99) (h : StC wd s i M) : ∃ M', f_X4_hangNext n i (nI cost) M = some M' ∧ StC wd (s.hang cost) i M' ∧ same (only i) M M' := by
  have h1 := g.h_money
  have h2 := g.h_hung
  have h3 := g.h_all
  unfold f_X4_hangNext Sp.hang
  rw [h.money, h.all, h.hung]
  by_cases c1 : s.money < cost
  · rw [if_pos (nI_lt c1 (by omega)), if_neg (by omega)]
    exact ⟨M, rfl, h, same.rf⟩
  · rw [if_neg (nI_nlt (by omega) (by omega))]
    by_cases c2 : s.all ≤ s.hung
    · rw [if_pos (nI_le c2 (by omega)), if_neg (by omega)]
      exact ⟨M, rfl, h, same.rf⟩
    · rw [if_neg (nI_ge (by omega) (by omega)), if_pos ⟨by omega, by omega⟩, pk_sub (by omega)]
      have a1 := h.sMoney (x := s.money - cost)
      refine ⟨_, rfl, ?_, (same.rf.si (A := only i) rfl _ _).si rfl _ _⟩
      rw [a1.hung, nI_1]
      exact a1.sHung (x := s.hung + 1)
theorem hang_good {wd cost : Nat} {s : Sp} (g : s.Good wd) : (s.hang cost).Good wd := by
  unfold Sp.hang
  by_cases c : cost ≤ s.money ∧ s.hung < s.all
  · rw [if_pos c]
    have h1 := g.h_money
    exact ⟨g.h_wd, by show s.hung + 1 ≤ s.all; omega, g.h_all, g.h_day, by show s.money - cost ≤ 999; omega, g.h_lean, g.h_fell, g.h_weight, g.h_mortar, g.h_faith, g.h_beside, g.h_sym, g.h_self⟩
  · rw [if_neg c]
    exact g
def Sp.alike (s s' : Sp) : Prop := (s'.day = s.day) ∧ (s'.faith = s.faith) ∧ (s'.beside = s.beside) ∧ (s'.lean = s.lean)
theorem Sp.alike.a_day {s s' : Sp} (h : Sp.alike s s') : s'.day = s.day := h.1
theorem Sp.alike.a_faith {s s' : Sp} (h : Sp.alike s s') : s'.faith = s.faith := h.2.1
theorem Sp.alike.a_beside {s s' : Sp} (h : Sp.alike s s') : s'.beside = s.beside := h.2.2.1
theorem Sp.alike.a_lean {s s' : Sp} (h : Sp.alike s s') : s'.lean = s.lean := h.2.2.2
theorem drop_alike {wd ground : Nat} : ∀ (f : Nat) (s : Sp), s.alike (Sp.drop wd ground f s).2
  | 0, s => ⟨rfl, rfl, rfl, rfl⟩
  | f + 1, s => by
    rw [Sp.drop]
    split
    · have ih := drop_alike (wd := wd) (ground := ground) f s.low
      exact ⟨ih.a_day, ih.a_faith, ih.a_beside, ih.a_lean⟩
    · exact ⟨rfl, rfl, rfl, rfl⟩
theorem hang_alike {cost : Nat} {s : Sp} : s.alike (s.hang cost) := by
  unfold Sp.hang
  split
  · exact ⟨rfl, rfl, rfl, rfl⟩
  · exact ⟨rfl, rfl, rfl, rfl⟩
theorem faith_good {wd : Nat} {s : Sp} {f : Nat → Nat} (g : s.Good wd) (hf : ∀ w, w < wd → f w ≤ 99) : (s.setFaith f).Good wd := ⟨g.h_wd, g.h_hung, g.h_all, g.h_day, g.h_money, g.h_lean, g.h_fell, g.h_weight, g.h_mortar, hf, g.h_beside, g.h_sym, g.h_self⟩
def dA (i j : Nat) : Nat → Prop := fun t => (i ≤ t ∧ t ≤ i + 5) ∨ t = j + 5 ∨ t = j + 6
def Tw.fk (T : Tw) (wd : Nat) (s : Sp) (k : Nat) (w : Nat) : Nat := if w < k then T.faithful wd s s.fell (fun v => s.doubt wd v) w else s.faith w
theorem fk_le {wd : Nat} {T : Tw} {s : Sp} (g : s.Good wd) (k : Nat) : ∀ w, w < wd → T.fk wd s k w ≤ 99 := fun w hw => by
  unfold Tw.fk
  split
  · exact (bN_is (hi := 99) (by decide)).2
  · exact g.h_faith w hw
theorem cBelieve {n i j wd : Nat} {M : Mem} {s : Sp} {T : Tw} (hn : 1000 < n) (g : s.Good wd) (gT : T.Good) (hij : i + 5 < j) (h : StC wd s i M) (t : TwC T j M) :
    ∃ M', gl (b_X4_passDay_103 n i j (nI (s.dset wd))) n ((0 : Int32), M) = some M' ∧ StC wd ((s.setFaith (T.fk wd s wd)).setDay (s.day + 1)) i M' ∧ TwC T j M' ∧ same (dA i j) M M' ∧ ∀ w, gi M' (i + 5) w = gi M (i + 5) w := by
  have h1 := g.h_wd
  obtain ⟨M', m, ⟨a1, a2, a3, a4⟩, e⟩ := gl_k (body := b_X4_passDay_103 n i j (nI (s.dset wd))) (fun k (M' : Mem) => (nI k, M')) wd (fun k M' => StC wd (s.setFaith (T.fk wd s k)) i M' ∧ TwC T j M' ∧ same (dA i j) M M' ∧ ∀ w, gi M' (i + 5) w = gi M (i + 5) w) (fun k M' hk hI => by
    obtain ⟨a1, a2, a3, a4⟩ := hI
    have gk : (s.setFaith (T.fk wd s k)).Good wd := faith_good g (fk_le g k)
    obtain ⟨M1, q1, e1⟩ := cBelief (d := s.doubt wd k) hn gk gT hk hij a1 a2
    have b1 : StC wd (s.setFaith (T.fk wd s k)) i M1 := cScr a1 hij e1
    have b2 := tScr a2 e1
    have hfk : (s.setFaith (T.fk wd s k)).faith k = s.faith k := by
      show T.fk wd s k k = s.faith k
      unfold Tw.fk
      rw [if_neg (by omega)]
    have hbel : T.belief (s.setFaith (T.fk wd s k)) k (s.doubt wd k) (s.setFaith (T.fk wd s k)).fell = T.belief s k (s.doubt wd k) s.fell := by
      unfold Tw.belief vW
      rw [hfk]
      rfl
    rw [hbel] at q1
    refine ⟨si M1 (i + 3) k (nI (bN (nI (s.faith k) + T.belief s k (s.doubt wd k) s.fell) 99)), ?_, ?_, ?_, ?_, ?_⟩
    · rw [b_X4_passDay_103]
      simp only [a1.wards]
      rw [if_neg (nI_ge hk (by omega)), cDoubtB g (a1.beside k hk) hk]
      simp only [bd]
      rw [q1]
      simp only []
      rw [cAddFaith gk b1 hk, hfk, nI_1]
    · refine cFaithRow (s := s.setFaith (T.fk wd s k)) (f := T.fk wd s (k + 1)) b1 (fun v hv => ?_)
      show T.fk wd s (k + 1) v = if v = k then _ else T.fk wd s k v
      unfold Tw.fk
      by_cases c : v = k
      · subst c
        rw [if_pos (by omega), if_pos rfl]
        rfl
      · rw [if_neg c]
        by_cases c2 : v < k
        · rw [if_pos c2, if_pos (by omega)]
        · rw [if_neg c2, if_neg (by omega)]
    · exact b2.same (same.rf.si (A := fun q => q = i + 3) rfl _ _) (by omega) (by omega) (by omega) (by omega) (by omega)
    · exact (a3.tr (e1.mono (fun q hq => by unfold scr at hq; unfold dA; omega))).si (by unfold dA; omega) _ _
    · intro w
      rw [gi_si, if_neg (by omega)]
      exact (e1.1 _ _ (by unfold scr; omega)).trans (a4 w)) n 0 M (by omega) (by omega) ⟨h, t, same.rf, fun _ => rfl⟩
  refine ⟨si M' i 8 (nI (s.day + 1)), ?_, ?_, ?_, ?_, ?_⟩
  · rw [show ((0 : Int32), M) = (nI 0, M) from rfl, e]
    refine gl_mr ?_
    rw [b_X4_passDay_103]
    simp only [a1.wards]
    rw [if_pos (nI_le (Nat.le_refl _) (by omega)), a1.day, show (s.setFaith (T.fk wd s wd)).day = s.day from rfl, nI_1]
  · exact a1.sDay (x := s.day + 1)
  · exact a2.same (same.rf.si (A := only i) rfl _ _) (by unfold only; omega) (by unfold only; omega) (by unfold only; omega) (by unfold only; omega) (by unfold only; omega)
  · exact a3.si (by unfold dA; omega) _ _
  · intro w
    rw [gi_si, if_neg (by omega)]
    exact a4 w
