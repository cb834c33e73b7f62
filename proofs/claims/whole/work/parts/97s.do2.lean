/-! More acts: sermons, mortar, streets, undo. -/
theorem cMortarRow {i wd c x : Nat} {M : Mem} {s : Sp} {f : Nat → Nat} (h : StC wd s i M) (hf : ∀ v, v < s.all → f v = if v = c then x else s.mortar v) : StC wd (s.setMortar f) i (si M (i + 2) c (nI x)) := by
  have h' : ∀ t k, ¬ t = i + 2 → gi (si M (i + 2) c (nI x)) t k = gi M t k := fun t k ht => by rw [gi_si, if_neg (by omega)]
  refine ⟨(h' _ _ (by omega)).trans h.all, (h' _ _ (by omega)).trans h.hung, (h' _ _ (by omega)).trans h.wards, (h' _ _ (by omega)).trans h.day, (h' _ _ (by omega)).trans h.money, (h' _ _ (by omega)).trans h.lean, (h' _ _ (by omega)).trans h.fell, fun c hc => (h' _ _ (by omega)).trans (h.weight c hc), fun v hv => ?_, fun v hv => (h' _ _ (by omega)).trans (h.faith v hv), fun v hv => (h' _ _ (by omega)).trans (h.beside v hv)⟩
  show gi (si M (i + 2) c (nI x)) (i + 2) v = nI (f v)
  rw [hf v hv, gi_si]
  by_cases e : v = c
  · rw [if_pos ⟨rfl, e⟩, if_pos e]
  · rw [if_neg (fun q => e q.2), if_neg e]
    exact h.mortar v hv
theorem cWeightRow {i wd c x : Nat} {M : Mem} {s : Sp} {f : Nat → Nat} (h : StC wd s i M) (hf : ∀ v, v < s.all → f v = if v = c then x else s.weight v) : StC wd (s.setWeight f) i (si M (i + 1) c (nI x)) := by
  have h' : ∀ t k, ¬ t = i + 1 → gi (si M (i + 1) c (nI x)) t k = gi M t k := fun t k ht => by rw [gi_si, if_neg (by omega)]
  refine ⟨(h' _ _ (by omega)).trans h.all, (h' _ _ (by omega)).trans h.hung, (h' _ _ (by omega)).trans h.wards, (h' _ _ (by omega)).trans h.day, (h' _ _ (by omega)).trans h.money, (h' _ _ (by omega)).trans h.lean, (h' _ _ (by omega)).trans h.fell, fun v hv => ?_, fun v hv => (h' _ _ (by omega)).trans (h.mortar v hv), fun v hv => (h' _ _ (by omega)).trans (h.faith v hv), fun v hv => (h' _ _ (by omega)).trans (h.beside v hv)⟩
  show gi (si M (i + 1) c (nI x)) (i + 1) v = nI (f v)
  rw [hf v hv, gi_si]
  by_cases e : v = c
  · rw [if_pos ⟨rfl, e⟩, if_pos e]
  · rw [if_neg (fun q => e q.2), if_neg e]
    exact h.weight v hv
theorem mMortarRow {b wd c x : Nat} {M : Mem} {s : Sp} {f : Nat → Nat} (g : s.Good wd) (hc : c < s.all) (h : StR wd s 12 b M) (hf : ∀ v, v < s.all → f v = if v = c then x else s.mortar v) : StR wd (s.setMortar f) 12 b (si M 12 (b + 22 + c) (nI x)) := by
  have h1 := g.h_all
  have h2 := g.h_wd
  have h' : ∀ k, ¬ k = b + 22 + c → gi (si M 12 (b + 22 + c) (nI x)) 12 k = gi M 12 k := fun k hk => by rw [gi_si, if_neg (by omega)]
  refine ⟨(h' _ (by omega)).trans h.day, (h' _ (by omega)).trans h.money, (h' _ (by omega)).trans h.lean, (h' _ (by omega)).trans h.hung, (h' _ (by omega)).trans h.all, (h' _ (by omega)).trans h.fell, fun c hc => (h' _ (by have : c < s.all := hc; omega)).trans (h.weight c hc), fun v hv => ?_, fun v hv => (h' _ (by omega)).trans (h.faith v hv), fun v hv => (h' _ (by omega)).trans (h.beside v hv)⟩
  show gi (si M 12 (b + 22 + c) (nI x)) 12 (b + 22 + v) = nI (f v)
  rw [hf v hv, gi_si]
  by_cases e : v = c
  · rw [if_pos ⟨rfl, by omega⟩, if_pos e]
  · rw [if_neg (by omega), if_neg e]
    exact h.mortar v hv
theorem mWeightRow {b wd c x : Nat} {M : Mem} {s : Sp} {f : Nat → Nat} (g : s.Good wd) (hc : c < s.all) (h : StR wd s 12 b M) (hf : ∀ v, v < s.all → f v = if v = c then x else s.weight v) : StR wd (s.setWeight f) 12 b (si M 12 (b + 6 + c) (nI x)) := by
  have h1 := g.h_all
  have h2 := g.h_wd
  have h' : ∀ k, ¬ k = b + 6 + c → gi (si M 12 (b + 6 + c) (nI x)) 12 k = gi M 12 k := fun k hk => by rw [gi_si, if_neg (by omega)]
  refine ⟨(h' _ (by omega)).trans h.day, (h' _ (by omega)).trans h.money, (h' _ (by omega)).trans h.lean, (h' _ (by omega)).trans h.hung, (h' _ (by omega)).trans h.all, (h' _ (by omega)).trans h.fell, fun v hv => ?_, fun c hc => (h' _ (by have : c < s.all := hc; omega)).trans (h.mortar c hc), fun v hv => (h' _ (by omega)).trans (h.faith v hv), fun v hv => (h' _ (by omega)).trans (h.beside v hv)⟩
  show gi (si M 12 (b + 6 + c) (nI x)) 12 (b + 6 + v) = nI (f v)
  rw [hf v hv, gi_si]
  by_cases e : v = c
  · rw [if_pos ⟨rfl, by omega⟩, if_pos e]
  · rw [if_neg (by omega), if_neg e]
    exact h.weight v hv
def up1 (f : Nat → Nat) (c x : Nat) (v : Nat) : Nat := if v = c then x else f v
theorem mortar_good {wd c x : Nat} {s : Sp} (g : s.Good wd) (hx : x ≤ 9) : (s.setMortar (up1 s.mortar c x)).Good wd := ⟨g.h_wd, g.h_hung, g.h_all, g.h_day, g.h_money, g.h_lean, g.h_fell, g.h_weight, fun v hv => by
  show up1 s.mortar c x v ≤ 9
  unfold up1
  split
  · exact hx
  · exact g.h_mortar v hv, g.h_faith, g.h_beside, g.h_sym, g.h_self⟩
theorem weight_good {wd c x : Nat} {s : Sp} (g : s.Good wd) (h1 : 1 ≤ x) (hx : x ≤ 9) : (s.setWeight (up1 s.weight c x)).Good wd := ⟨g.h_wd, g.h_hung, g.h_all, g.h_day, g.h_money, g.h_lean, g.h_fell, fun v hv => by
  show 1 ≤ up1 s.weight c x v ∧ up1 s.weight c x v ≤ 9
  unfold up1
  split
  · exact ⟨h1, hx⟩
  · exact g.h_weight v hv, g.h_mortar, g.h_faith, g.h_beside, g.h_sym, g.h_self⟩
theorem faith1_good {wd c x : Nat} {s : Sp} (g : s.Good wd) (hx : x ≤ 99) : (s.setFaith (up1 s.faith c x)).Good wd := faith_good g (fun v hv => by
  unfold up1
  split
  · exact hx
  · exact g.h_faith v hv)
theorem mPreaches {n b wd w : Nat} {M : Mem} {s : Sp} (hb : b ≤ 54) (g : s.Good wd) (h : StR wd s 12 b M) (hw : w < wd) : f_X9_preaches n (nI b) (nI w) M = some (si M 12 (b + 38 + w) (nI (bN (nI (s.faith w) + 10) 99))) := by
  have h1 := g.h_wd
  have i1 : inb (nI (b + 38 + w)) 108 := n_in (by omega) (by decide)
  have z1 : (nI (b + 38 + w)).toNatClampNeg = b + 38 + w := nI_clamp (by omega)
  unfold f_X9_preaches
  rw [nA_38, nI_add]
  simp only [ck_pos i1, z1]
  rw [h.faith w hw, mBounded]
  simp only [bd]
  rw [show bndI (nI (s.faith w) + 10) 0 99 = nI (bN (nI (s.faith w) + 10) 99) from (bN_is (hi := 99) (by decide)).1]
section Q
variable {n : Nat} {A : Ab} {M M2 : Mem} {x1 x2 x3 : Int32}
theorem rfQQ {k : Nat} {v v' : Int32} (hk : k < 3) (g : A.Good) (hC : RC A M) (hM : RM A M2) (h0 : gi M2 0 0 = 0) : ∃ N N2, f_X8_refuse n (nI k) M = some (-1, N) ∧ f_X9_refuses n (nI k) M2 = some (-1, N2) ∧ ∀ v : Int32, QQ k1 (some (0, v, N)) (some (v, N2)) := by
  obtain ⟨N, q1, r1⟩ := cRefuse (n := n) hk hC
  obtain ⟨N2, q2, r2, r3⟩ := mRefuse (n := n) hk g hM
  exact ⟨N, N2, q1, q2, fun v => qq_yes (rf_good g) r1 r2 (r3.trans h0) k1_00⟩
theorem qPreach (hn : 3000 < n) (g : A.Good) (hC : RC A M) (hM : RM A M2) : QQ k1 (f_X8_preach n x1 M) (f_X9_preach n x1 M2) := by
  have hM' := hM.thr g 0
  have h0 := thr0 M2
  have hwd := g.g_n.h_wd
  unfold f_X8_preach f_X9_preach
  refine qq_ward g hC hM' h0 k1_11 (fun w hw e => ?_)
  dsimp only
  subst e
  have i1 : inb ((38 : Int32) + nI w) 108 := by
    rw [show (38 : Int32) + nI w = nI (38 + w) from nI_add 38 w]
    exact n_in (by omega) (by decide)
  have z1 : ((38 : Int32) + nI w).toNatClampNeg = 38 + w := by
    rw [show (38 : Int32) + nI w = nI (38 + w) from nI_add 38 w]
    exact nI_clamp (by omega)
  have i2 : inb (nI w) 8 := n_in (by omega) (by decide)
  have z2 : (nI w).toNatClampNeg = w := nI_clamp (by omega)
  simp only [ck_pos i1, ck_pos i2, z1, z2]
  have f1 : gi M 7 w = nI (A.now.faith w) := hC.r_n.faith w hw
  have f2 : gi (si M2 0 0 0) 12 (38 + w) = nI (A.now.faith w) := by
    have := hM'.s_n.faith w hw
    rw [Nat.zero_add] at this
    exact this
  have hf := g.g_n.h_faith w hw
  rw [f1, f2]
  by_cases c : A.now.faith w = 99
  · obtain ⟨N, N2, q1, q2, r⟩ := rfQQ (n := n) (k := 1) (v := 0) (v' := 0) (by decide) g hC hM' h0
    rw [c, if_neg (by decide), if_pos (by decide), show (1 : Int32) = nI 1 from rfl, q1, q2]
    exact r _
  · obtain ⟨N, N2, q1, q2, rC, rM, g', hz⟩ := bothKeep hn g hC hM'
    rw [if_pos (show nI (A.now.faith w) < (99 : Int32) from nI_lt (b := 99) (by omega) (by decide)), if_neg (show ¬ nI (A.now.faith w) = (99 : Int32) from fun q => c ((nI_eq (b := 99) (by omega) (by decide)).mp q)), q1, q2]
    simp only [bd]
    rw [cAddFaith (s := A.now) g.g_n rC.r_n hw, show (0 : Int32) = nI 0 from rfl, mPreaches (s := A.now) (by decide) g.g_n rM.s_n hw]
    simp only []
    have gN : (A.now.setFaith (up1 A.now.faith w (bN (nI (A.now.faith w) + 10) 99))).Good A.wd := faith1_good g.g_n (bN_is (hi := 99) (by decide)).2
    refine ⟨0, nI (bN (nI (A.now.faith w) + 10) 99), _, _, _, ?_, ?_, ⟨_, na_good g' gN g.g_d g'.g_a, rcNA rC (kq.rf.si (by unfold VA VC; omega) _) (cFaithRow (s := A.now) rC.r_n (fun v _ => rfl)) (rC.r_a.kq (kq.rf.si (V := fun t _ => t = 7) rfl _) (fun t k h1 h2 => by omega)), rmNA g' rM (kq.rf.si (by unfold VB VR; omega) _) (mFaithRow (s := A.now) g.g_n hw rM.s_n (fun v _ => rfl)) (rM.s_a.kq g'.g_a (kq.rf.si (V := fun t _ => t = 12) rfl _) (by omega) (fun k => by omega))⟩, ?_, fun _ => rfl⟩
    · rw [gi_si, if_pos ⟨rfl, rfl⟩]
    · rw [gi_si, if_pos ⟨rfl, by omega⟩]
    · rw [gi_si, if_neg (by omega), hz, h0]
      exact k1_00
theorem qMortar (hn : 3000 < n) (g : A.Good) (hC : RC A M) (hM : RM A M2) : QQ k1 (f_X8_mortar n x1 M) (f_X9_mortar n x1 M2) := by
  have hM' := hM.thr g 0
  have h0 := thr0 M2
  have hh := g.g_n.h_hung
  have ha := g.g_n.h_all
  have hu : gi (si M2 0 0 0) 12 (3 : Int32).toNatClampNeg = nI A.now.hung := hM'.s_n.hung
  have no : j_X9_mortar_24 n x1 (si M2 0 0 0) = some (0, si (si M2 0 0 0) 0 0 1) := by
    unfold j_X9_mortar_24 j_X9_mortar_25
    rw [mRight_no h0 (by decide)]
    rfl
  unfold f_X8_mortar f_X9_mortar j_X8_mortar_15
  rw [hC.r_n.hung, hu]
  by_cases c1 : x1 < 0
  · rw [if_pos c1, if_pos c1, no]
    exact qq_no g hC hM' k1_11 (by decide)
  · obtain ⟨c, hj, rfl⟩ := nI_of c1
    by_cases c2 : c < A.now.hung
    · rw [if_neg c1, if_pos (nI_lt c2 (by omega)), if_neg c1, if_neg (nI_ge c2 (by omega))]
      unfold j_X9_mortar_25
      rw [mRight_yes h0]
      simp only [bd]
      rw [if_neg (show ¬ (1 : Int32) = 0 by decide)]
      have i1 : inb ((22 : Int32) + nI c) 108 := by
        rw [show (22 : Int32) + nI c = nI (22 + c) from nI_add 22 c]
        exact n_in (by omega) (by decide)
      have z1 : ((22 : Int32) + nI c).toNatClampNeg = 22 + c := by
        rw [show (22 : Int32) + nI c = nI (22 + c) from nI_add 22 c]
        exact nI_clamp (by omega)
      have i2 : inb (nI c) 16 := n_in (by omega) (by decide)
      have z2 : (nI c).toNatClampNeg = c := nI_clamp (by omega)
      simp only [ck_pos i1, ck_pos i2, z1, z2]
      have f1 : gi M 6 c = nI (A.now.mortar c) := hC.r_n.mortar c (by omega)
      have f2 : gi (si M2 0 0 0) 12 (22 + c) = nI (A.now.mortar c) := by
        have := hM'.s_n.mortar c (by omega)
        rw [Nat.zero_add] at this
        exact this
      have hf := g.g_n.h_mortar c (by omega)
      rw [f1, f2]
      by_cases c9 : A.now.mortar c = 9
      · obtain ⟨N, N2, q1, q2, r⟩ := rfQQ (n := n) (k := 1) (v := 0) (v' := 0) (by decide) g hC hM' h0
        rw [c9, if_neg (by decide), if_pos (by decide), show (1 : Int32) = nI 1 from rfl, q1, q2]
        exact r _
      · obtain ⟨N, N2, q1, q2, rC, rM, g', hz⟩ := bothKeep hn g hC hM'
        have f3 : gi N 6 c = nI (A.now.mortar c) := rC.r_n.mortar c (by show c < A.now.all; omega)
        have f4 : gi N2 12 (22 + c) = nI (A.now.mortar c) := by
          have := rM.s_n.mortar c (by show c < A.now.all; omega)
          rw [Nat.zero_add] at this
          exact this
        rw [if_pos (show nI (A.now.mortar c) < (9 : Int32) from nI_lt (b := 9) (by omega) (by decide)), if_neg (show ¬ nI (A.now.mortar c) = (9 : Int32) from fun q => c9 ((nI_eq (b := 9) (by omega) (by decide)).mp q)), q1, q2]
        simp only []
        rw [f3, f4, nI_1]
        have gN : (A.now.setMortar (up1 A.now.mortar c (A.now.mortar c + 1))).Good A.wd := mortar_good g.g_n (by omega)
        have e22 : 22 + c = 0 + 22 + c := by omega
        refine ⟨0, nI (A.now.mortar c + 1), _, _, _, ?_, ?_, ⟨_, na_good g' gN g.g_d g'.g_a, rcNA rC (kq.rf.si (by unfold VA VC; omega) _) (cMortarRow (s := A.now) (i := 4) rC.r_n (fun v _ => rfl)) (rC.r_a.kq (kq.rf.si (V := fun t _ => t = 6) rfl _) (fun t k h1 h2 => by omega)), rmNA g' rM (kq.rf.si (by unfold VB VR; omega) _) (mMortarRow (s := A.now) (b := 0) g.g_n (by omega) rM.s_n (fun v _ => rfl)) (rM.s_a.kq g'.g_a (kq.rf.si (V := fun t _ => t = 12) rfl _) (by omega) (fun k => by omega))⟩, ?_, fun _ => rfl⟩
        · rw [gi_si, if_pos ⟨rfl, rfl⟩]
        · rw [gi_si, if_pos ⟨rfl, rfl⟩, e22]
        · rw [gi_si, if_neg (by omega), hz, h0]
          exact k1_00
    · rw [if_neg c1, if_neg (nI_nlt (by omega) (by omega)), if_neg c1, if_pos (nI_le (by omega) (by omega)), no]
      exact qq_no g hC hM' k1_11 (by decide)
theorem qUndo (hn : 3000 < n) (g : A.Good) (hC : RC A M) (hM : RM A M2) : QP (f_X8_undo n M) (f_X9_undo n M2) := by
  have hM' := hM.thr g 0
  have hl := g.g_a.1
  obtain ⟨f, hf, h1, h2, h3⟩ := hC.r_a
  have ha := hM'.s_a
  unfold f_X8_undo f_X1_takeBack f_X9_undo
  rw [h2, ha.1]
  by_cases c : A.acts.length = 0
  · rw [c, if_pos (by decide), if_pos (by decide)]
    exact ⟨_, M, _, rfl, rfl, ⟨A, g, hC, hM'⟩⟩
  · have hne : ¬ nI A.acts.length = 0 := nI_ne0 (by omega) (by omega)
    have p0 : nI A.acts.length - (1 : Int32) = nI (A.acts.length - 1) := pk_sub (b := 1) (by omega)
    obtain ⟨s, hs⟩ : ∃ s, A.acts[A.acts.length - 1]? = some s := ⟨_, List.getElem?_eq_getElem (by omega)⟩
    have gs := g.g_a.2 s (List.mem_of_getElem? hs)
    rw [if_neg hne, if_neg hne, p0, show gi (si M 34 2 (nI (A.acts.length - 1))) 34 1 = nI f by rw [gi_si, if_neg (by omega)]; exact h1, show gi (si M 34 2 (nI (A.acts.length - 1))) 34 2 = nI (A.acts.length - 1) by rw [gi_si, if_pos ⟨rfl, rfl⟩], nI_add, show (40 : Int32) = nI 40 from rfl, pk_rem (by omega) (by decide) (by decide), show (30 : Int32) = nI 30 from rfl, pk_mul]
    have e0 : kq (fun t k => t = 34 ∧ k = 2) M (si M 34 2 (nI (A.acts.length - 1))) := kq.rf.si ⟨rfl, rfl⟩ _
    have sl : SlC A.wd s 35 ((f + (A.acts.length - 1)) % 40 * 30) (si M 34 2 (nI (A.acts.length - 1))) := (h3 _ s hs).kq e0 (fun k => by omega)
    obtain ⟨N, q1, a1, e1⟩ := cLoad (n := n) (i := 4) (by omega) gs.1 sl ((e0 4 7 (by omega)).trans hC.r_n.wards) (by omega) (by omega)
    have hdl : A.acts.dropLast.length = A.acts.length - 1 := List.length_dropLast
    have drop_get : ∀ (k : Nat) (x : Sp), A.acts.dropLast[k]? = some x → A.acts[k]? = some x := fun k x hk => by
      have := get_lt hk
      rw [List.getElem?_dropLast, if_pos (by omega)] at hk
      exact hk
    have gD : AcG A.wd A.acts.dropLast := ⟨by omega, fun x hx => g.g_a.2 x ((List.dropLast_sublist _).subset hx)⟩
    have aC : ActC A.wd A.acts.dropLast 34 N := ⟨f, hf, by rw [e1.1 34 1 (by omega), gi_si, if_neg (by omega)]; exact h1, by rw [e1.1 34 2 (by omega), gi_si, if_pos ⟨rfl, rfl⟩, hdl], fun k x hk => ((h3 k x (drop_get k x hk)).kq e0 (fun k => by omega)).kq (e1.kq (V := fun t _ => 4 ≤ t ∧ t ≤ 4 + 4) (fun t k ht => ht)) (fun k => by omega)⟩
    have r2 := ha.2 _ s hs
    obtain ⟨N2, m, ⟨b1, b2⟩, e2⟩ := gl_k (body := b_X9_undo_26 n) (fun k (M' : Mem) => (nI k, M')) 54 (fun k M' => (∀ p, p < k → gi M' 12 (0 + p) = gi (si M2 0 0 0) 13 (54 * (A.acts.length - 1) + p)) ∧ kq (fun t q => t = 12 ∧ q < 54) (si (si M2 0 0 0) 0 46 (nI (A.acts.length - 1))) M') (fun k M' hk hI => by
      obtain ⟨b1, b2⟩ := hI
      have i1 : inb (nI (54 * (A.acts.length - 1) + k)) 2160 := n_in (by omega) (by decide)
      have i2 : inb (nI k) 108 := n_in (by omega) (by decide)
      refine ⟨si M' 12 k (gi (si M2 0 0 0) 13 (54 * (A.acts.length - 1) + k)), ?_, fun p hp => ?_, b2.si (by omega) _⟩
      · rw [b_X9_undo_26]
        try simp only []
        rw [if_neg (show ¬ (54 : Int32) ≤ nI k from nI_ge (b := 54) hk (by decide)), b2 0 46 (by omega), gi_si, if_pos ⟨rfl, rfl⟩, show (54 : Int32) = nI 54 from rfl, pk_mul, nI_add, ck_pos i1, ck_pos i2, nI_clamp (by omega), nI_clamp (by omega), b2 13 _ (by omega), gi_si, if_neg (by omega), nI_1]
      · rw [gi_si, Nat.zero_add]
        by_cases c : p = k
        · subst c
          rw [if_pos ⟨rfl, rfl⟩]
        · rw [if_neg (by omega)]
          have := b1 p (by omega)
          rw [Nat.zero_add] at this
          exact this) n 0 _ (by omega) (by omega) ⟨fun p hp => absurd hp (by omega), kq.rf⟩
    have s2 : StR A.wd s 12 0 N2 := r2.copy gs.1 b1
    have k3 : kq (fun t k => t = 0 ∧ k = 46) (si M2 0 0 0) (si (si M2 0 0 0) 0 46 (nI (A.acts.length - 1))) := kq.rf.si ⟨rfl, rfl⟩ _
    have k4 : kq VB (si M2 0 0 0) N2 := (k3.mono (fun t k ht => by unfold VB VR; omega)).tr (b2.mono (fun t k ht => by unfold VB VR; omega))
    have n46 : gi N2 0 46 = nI (A.acts.length - 1) := by rw [b2 0 46 (by omega), gi_si, if_pos ⟨rfl, rfl⟩]
    have aM : ActM A.wd A.acts.dropLast 13 46 N2 := ⟨by rw [n46, hdl], fun k x hk => ((ha.2 k x (drop_get k x hk)).kq (gD.2 x (List.mem_of_getElem? hk)).1 k3 (fun q _ _ => by omega)).kq (gD.2 x (List.mem_of_getElem? hk)).1 b2 (fun q _ _ => by omega)⟩
    have n34 : gi N 34 2 = nI (A.acts.length - 1) := by rw [e1.1 34 2 (by omega), gi_si, if_pos ⟨rfl, rfl⟩]
    refine ⟨nI (A.acts.length - 1), N, N2, ?_, ?_, ⟨_, na_good g gs.1 gs.2 gD, rcNA hC ((e0.mono (fun t k ht => by unfold VA VC; omega)).tr (e1.kq (fun t k ht => by unfold VA VC; omega))) a1 aC, rmNA g hM' k4 s2 aM⟩⟩
    · rw [q1]
      show some (gi N 34 2, N) = _
      rw [n34]
    · rw [show ((0 : Int32), si (si M2 0 0 0) 0 46 (nI (A.acts.length - 1))) = (nI 0, si (si M2 0 0 0) 0 46 (nI (A.acts.length - 1))) from rfl, e2]
      refine gl_mr ?_
      rw [b_X9_undo_26]
      try simp only []
      rw [if_pos (show (54 : Int32) ≤ nI 54 by decide), n46]
end Q
