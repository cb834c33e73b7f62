/-! An act is kept, an act is undone. -/
def keepL (l : List Sp) (s : Sp) : List Sp := (if l.length = 40 then l.tail else l) ++ [s]
theorem slAway {wd r a b : Nat} {s : Sp} {M M' : Mem} (g : s.Good wd) (h : SlC wd s r b M) (e : kq (fun t k => t = r ∧ a ≤ k ∧ k < a + 30) M M') (hd : b + 30 ≤ a ∨ a + 30 ≤ b) : SlC wd s r b M' := by
  have h1 := g.h_wd
  have h2 := g.h_all
  exact ⟨fun c hc => (e _ _ (by omega)).trans (h.l_c c hc), fun c hc => (e _ _ (by omega)).trans (h.l_w c hc), (e _ _ (by omega)).trans h.l_all, (e _ _ (by omega)).trans h.l_hung, (e _ _ (by omega)).trans h.l_day, (e _ _ (by omega)).trans h.l_money, (e _ _ (by omega)).trans h.l_lean, (e _ _ (by omega)).trans h.l_fell⟩
theorem app_get {l : List Sp} {s x : Sp} {k : Nat} (h : (l ++ [s])[k]? = some x) : (k < l.length ∧ l[k]? = some x) ∨ (k = l.length ∧ x = s) := by
  by_cases c : k < l.length
  · rw [List.getElem?_append_left c] at h
    exact Or.inl ⟨c, h⟩
  · rw [List.getElem?_append_right (by omega)] at h
    by_cases c2 : k = l.length
    · subst c2
      rw [Nat.sub_self] at h
      simp only [List.getElem?_cons_zero, Option.some.injEq] at h
      exact Or.inr ⟨rfl, h.symm⟩
    · rw [List.getElem?_eq_none (by simp only [List.length_cons, List.length_nil]; omega)] at h
      cases h
theorem get_lt {α : Type} {l : List α} {x : α} {k : Nat} (h : l[k]? = some x) : k < l.length := by
  by_cases c : k < l.length
  · exact c
  · rw [List.getElem?_eq_none (by omega)] at h
    cases h
theorem cKeep32 {n f wd : Nat} {M : Mem} {s : Sp} {l : List Sp} (hn : 1000 < n) (g : s.Good wd) (h : StC wd s 4 M) (gl : ∀ x, x ∈ l → x.Good wd) (hf : f < 40) (hl : l.length < 40) (h1 : gi M 34 1 = nI f) (h2 : gi M 34 2 = nI l.length) (h3 : ∀ (k : Nat) (s : Sp), l[k]? = some s → SlC wd s 35 ((f + k) % 40 * 30) M) : ∃ M', j_X1_keep_32 n 34 4 M = some M' ∧ ActC wd (l ++ [s]) 34 M' ∧ kq (fun t _ => t = 34 ∨ t = 35) M M' := by
  obtain ⟨M1, q1, a1, e1⟩ := cSave (n := n) (i := 4) (r := 35) (a := (f + l.length) % 40 * 30) hn g h (by omega) (by omega)
  have x1 : gi M1 34 1 = nI f := (e1 _ _ (by omega)).trans h1
  have x2 : gi M1 34 2 = nI l.length := (e1 _ _ (by omega)).trans h2
  have k2 : kq (fun t k => t = 34 ∧ k = 2) M1 (si M1 34 2 (nI (l.length + 1))) := kq.rf.si ⟨rfl, rfl⟩ _
  refine ⟨si M1 34 2 (nI (l.length + 1)), ?_, ⟨f, hf, ?_, ?_, fun k x hk => ?_⟩, ?_⟩
  · unfold j_X1_keep_32
    rw [h1, h2, nI_add, show (40 : Int32) = nI 40 from rfl, pk_rem (by omega) (by decide) (by decide), show (30 : Int32) = nI 30 from rfl, pk_mul, q1]
    simp only [bd]
    rw [x2, nI_1]
  · rw [gi_si, if_neg (by omega)]
    exact x1
  · rw [gi_si, if_pos ⟨rfl, rfl⟩, List.length_append]
    rfl
  · rcases app_get hk with ⟨c, hx⟩ | ⟨c, hx⟩
    · exact (slAway (gl x (List.mem_of_getElem? hx)) (h3 k x hx) e1 (by omega)).kq k2 (fun k => by omega)
    · subst c hx
      exact a1.kq k2 (fun k => by omega)
  · exact (e1.mono (fun t k ht => by omega)).tr (k2.mono (fun t k ht => by omega))
theorem cKeep {n wd : Nat} {M : Mem} {s : Sp} {l : List Sp} (hn : 1000 < n) (g : s.Good wd) (h : StC wd s 4 M) (gl : AcG wd l) (ha : ActC wd l 34 M) : ∃ M', f_X1_keep n 34 4 M = some M' ∧ ActC wd (keepL l s) 34 M' ∧ kq (fun t _ => t = 34 ∨ t = 35) M M' := by
  obtain ⟨f, hf, h1, h2, h3⟩ := ha
  have hl := gl.1
  unfold f_X1_keep keepL
  rw [h2]
  by_cases c : l.length = 40
  · have e0 : kq (fun t k => t = 34 ∧ (k = 1 ∨ k = 2)) M (si (si M 34 1 (nI ((f + 1) % 40))) 34 2 (nI 39)) := (kq.rf.si (by omega) _).si (by omega) _
    have hs : StC wd s 4 (si (si M 34 1 (nI ((f + 1) % 40))) 34 2 (nI 39)) := h.kq e0 (fun t k _ _ => by omega)
    have ht : l.tail.length = 39 := by
      rw [List.length_tail, c]
    obtain ⟨M1, q1, a1, e1⟩ := cKeep32 (n := n) (f := (f + 1) % 40) (l := l.tail) hn g hs (fun x hx => (gl.2 x (List.mem_of_mem_tail hx)).1) (Nat.mod_lt _ (by decide)) (by omega) (by rw [gi_si, if_neg (by omega), gi_si, if_pos ⟨rfl, rfl⟩]) (by rw [gi_si, if_pos ⟨rfl, rfl⟩, ht]) (fun k x hk => by
      rw [List.getElem?_tail] at hk
      have := (h3 (k + 1) x hk).kq e0 (fun q => by omega)
      rw [show ((f + 1) % 40 + k) % 40 = (f + (k + 1)) % 40 by omega]
      exact this)
    refine ⟨M1, ?_, ?_, ?_⟩
    · rw [c, if_pos (show nI 40 = (40 : Int32) from rfl), h1, nI_1, show (40 : Int32) = nI 40 from rfl, pk_rem (by omega) (by decide) (by decide), show gi (si M 34 1 (nI ((f + 1) % 40))) 34 2 = nI 40 by rw [gi_si, if_neg (by omega), h2, c], show nI 40 - (1 : Int32) = nI 39 from rfl]
      exact q1
    · rw [if_pos c]
      exact a1
    · exact (e0.mono (fun t k ht => by omega)).tr e1
  · obtain ⟨M1, q1, a1, e1⟩ := cKeep32 (n := n) (f := f) (l := l) hn g h (fun x hx => (gl.2 x hx).1) hf (by omega) h1 h2 h3
    refine ⟨M1, ?_, ?_, e1⟩
    · rw [if_neg (show ¬ nI l.length = (40 : Int32) from fun q => c ((nI_eq (a := l.length) (b := 40) (by omega) (by decide)).mp q))]
      exact q1
    · rw [if_neg c]
      exact a1
theorem mKeep50 {n wd : Nat} {M : Mem} {s : Sp} {l : List Sp} (hn : 1000 < n) (g : s.Good wd) (h : StR wd s 12 0 M) (gA : ∀ x, x ∈ l → x.Good wd) (hl : l.length < 40) (ha : ActM wd l 13 46 M) : ∃ M', j_X9_keeps_50 n M = some M' ∧ ActM wd (l ++ [s]) 13 46 M' ∧ kq (fun t k => t = 13 ∨ (t = 0 ∧ k = 46)) M M' := by
  obtain ⟨M1, m, ⟨a1, a2⟩, e⟩ := gl_k (body := b_X9_keeps_52 n) (fun k (M' : Mem) => (nI k, M')) 54 (fun k M' => (∀ p, p < k → gi M' 13 (54 * l.length + p) = gi M 12 (0 + p)) ∧ kq (fun t q => t = 13 ∧ 54 * l.length ≤ q ∧ q < 54 * l.length + 54) M M') (fun k M' hk hI => by
    obtain ⟨a1, a2⟩ := hI
    have i1 : inb (nI (54 * l.length + k)) 2160 := n_in (by omega) (by decide)
    refine ⟨si M' 13 (54 * l.length + k) (gi M 12 k), ?_, fun p hp => ?_, a2.si (by omega) _⟩
    · rw [b_X9_keeps_52]
      try simp only []
      rw [if_neg (show ¬ (54 : Int32) ≤ nI k from nI_ge (b := 54) hk (by decide)), ck_pos (n_in (by omega) (by decide)), a2 0 46 (by omega), ha.1, show (54 : Int32) = nI 54 from rfl, pk_mul, nI_add, ck_pos i1, nI_clamp (by omega), nI_clamp (by omega), a2 12 k (by omega), nI_1]
    · rw [gi_si]
      by_cases c : p = k
      · subst c
        rw [if_pos ⟨rfl, rfl⟩, Nat.zero_add]
      · rw [if_neg (by omega)]
        exact a1 p (by omega)) n 0 M (by omega) (by omega) ⟨fun p hp => absurd hp (by omega), kq.rf⟩
  have k2 : kq (fun t k => t = 0 ∧ k = 46) M1 (si M1 0 46 (nI (l.length + 1))) := kq.rf.si ⟨rfl, rfl⟩ _
  refine ⟨si M1 0 46 (nI (l.length + 1)), ?_, ⟨?_, fun k x hk => ?_⟩, (a2.mono (fun t k ht => by omega)).tr (k2.mono (fun t k ht => by omega))⟩
  · unfold j_X9_keeps_50
    rw [show ((0 : Int32), M) = (nI 0, M) from rfl, e]
    refine gl_mr ?_
    rw [b_X9_keeps_52]
    try simp only []
    rw [if_pos (show (54 : Int32) ≤ nI 54 by decide), a2 0 46 (by omega), ha.1, nI_1]
  · rw [gi_si, if_pos ⟨rfl, rfl⟩, List.length_append]
    rfl
  · rcases app_get hk with ⟨c, hx⟩ | ⟨c, hx⟩
    · have gx := gA x (List.mem_of_getElem? hx)
      exact ((ha.2 k x hx).kq gx a2 (fun q h1 h2 => by omega)).kq gx k2 (fun q _ _ => by omega)
    · subst c hx
      exact (h.copy g a1).kq g k2 (fun q _ _ => by omega)
theorem mKeep {n wd : Nat} {M : Mem} {s : Sp} {l : List Sp} (hn : 3000 < n) (g : s.Good wd) (h : StR wd s 12 0 M) (gA : AcG wd l) (ha : ActM wd l 13 46 M) : ∃ M', f_X9_keeps n M = some M' ∧ ActM wd (keepL l s) 13 46 M' ∧ kq (fun t k => t = 13 ∨ (t = 0 ∧ k = 46)) M M' := by
  have hl := gA.1
  unfold f_X9_keeps keepL
  rw [ha.1]
  by_cases c : l.length = 40
  · obtain ⟨M1, m, ⟨a1, a2, a3⟩, e⟩ := gl_k (body := b_X9_keeps_12 n) (fun k (M' : Mem) => (nI (54 + k), M')) 2106 (fun k M' => (∀ p, p < k → gi M' 13 p = gi M 13 (p + 54)) ∧ (∀ p, k ≤ p → gi M' 13 p = gi M 13 p) ∧ kq (fun t q => t = 13) M M') (fun k M' hk hI => by
      obtain ⟨a1, a2, a3⟩ := hI
      refine ⟨si M' 13 k (gi M 13 (k + 54)), ?_, fun p hp => ?_, fun p hp => ?_, a3.si rfl _⟩
      · rw [b_X9_keeps_12]
        try simp only []
        have i1 : inb (nI (54 + k)) 2160 := n_in (by omega) (by decide)
        have i2 : inb (nI k) 2160 := n_in (by omega) (by decide)
        have p0 : nI (54 + k) - (54 : Int32) = nI k := by
          rw [show (54 : Int32) = nI 54 from rfl, pk_sub (by omega)]
          congr 1
          omega
        rw [if_neg (show ¬ (2160 : Int32) ≤ nI (54 + k) from nI_ge (b := 2160) (by omega) (by decide)), p0, ck_pos i1, ck_pos i2, nI_clamp (by omega), nI_clamp (by omega), a2 (54 + k) (by omega), nI_1, Nat.add_comm k 54]
        rfl
      · rw [gi_si]
        by_cases c2 : p = k
        · subst c2
          rw [if_pos ⟨rfl, rfl⟩]
        · rw [if_neg (by omega)]
          exact a1 p (by omega)
      · rw [gi_si, if_neg (by omega)]
        exact a2 p (by omega)) n 0 M (by omega) (by omega) ⟨fun p hp => absurd hp (by omega), fun _ _ => rfl, kq.rf⟩
    have ht : l.tail.length = 39 := by
      rw [List.length_tail, c]
    have k2 : kq (fun t k => t = 0 ∧ k = 46) M1 (si M1 0 46 (nI 39)) := kq.rf.si ⟨rfl, rfl⟩ _
    have hA : ActM wd l.tail 13 46 (si M1 0 46 (nI 39)) := ⟨by rw [gi_si, if_pos ⟨rfl, rfl⟩, ht], fun k x hk => by
      have hkl := get_lt hk
      rw [List.getElem?_tail] at hk
      have gx := (gA.2 x (List.mem_of_getElem? hk)).1
      refine StR.kq gx ((ha.2 (k + 1) x hk).copy (b' := 54 * k) (t' := 13) gx (fun p hp => ?_)) k2 (fun q _ _ => by omega)
      rw [a1 (54 * k + p) (by omega)]
      congr 1
      omega⟩
    have hs : StR wd s 12 0 (si M1 0 46 (nI 39)) := (h.kq g a3 (fun q _ _ => by omega)).kq g k2 (fun q _ _ => by omega)
    obtain ⟨M2, q2, b1, b2⟩ := mKeep50 (n := n) (by omega) g hs (fun x hx => (gA.2 x (List.mem_of_mem_tail hx)).1) (by omega) hA
    refine ⟨M2, ?_, ?_, ?_⟩
    · rw [c, if_pos (show nI 40 = (40 : Int32) from rfl), show ((54 : Int32), M) = (nI (54 + 0), M) from rfl, e]
      refine gl_mr ?_
      rw [b_X9_keeps_12]
      try simp only []
      rw [if_pos (show (2160 : Int32) ≤ nI (54 + 2106) by decide)]
      unfold j_X9_keeps_40
      rw [a3 0 46 (by omega), ha.1, c, show nI 40 - (1 : Int32) = nI 39 from rfl, q2]
    · rw [if_pos c]
      exact b1
    · exact ((a3.mono (fun t k ht => by omega)).tr (k2.mono (fun t k ht => by omega))).tr b2
  · obtain ⟨M2, q2, b1, b2⟩ := mKeep50 (n := n) (by omega) g h (fun x hx => (gA.2 x hx).1) (by omega) ha
    refine ⟨M2, ?_, ?_, b2⟩
    · rw [if_neg (show ¬ nI l.length = (40 : Int32) from fun q => c ((nI_eq (a := l.length) (b := 40) (by omega) (by decide)).mp q))]
      exact q2
    · rw [if_neg c]
      exact b1
theorem keep_good {wd : Nat} {l : List Sp} {s : Sp} (gA : AcG wd l) (g : s.Good wd) (hd : s.day ≤ 9999) : AcG wd (keepL l s) := by
  have hl := gA.1
  unfold keepL
  refine ⟨?_, fun x hx => ?_⟩
  · rw [List.length_append]
    by_cases c : l.length = 40
    · rw [if_pos c, List.length_tail, c]
      exact Nat.le_refl 40
    · rw [if_neg c]
      show l.length + 1 ≤ 40
      omega
  · rcases List.mem_append.mp hx with h | h
    · by_cases c : l.length = 40
      · rw [if_pos c] at h
        exact gA.2 x (List.mem_of_mem_tail h)
      · rw [if_neg c] at h
        exact gA.2 x h
    · rw [List.mem_singleton.mp h]
      exact ⟨g, hd⟩
/-- another now, other acts -/
def Ab.setNA (A : Ab) (s : Sp) (l : List Sp) : Ab := (A.wd, A.tw, s, l, A.seen, A.img, A.rf, A.tape, A.fp)
def VA (t k : Nat) : Prop := VC t k ∨ (4 ≤ t ∧ t ≤ 9) ∨ t = 34 ∨ t = 35
theorem rcNA {A : Ab} {M M' : Mem} {s : Sp} {l : List Sp} (h : RC A M) (e : kq VA M M') (hs : StC A.wd s 4 M') (ha : ActC A.wd l 34 M') : RC (A.setNA s l) M' := by
  refine ⟨?_, hs, ha, h.r_s.kq e (fun t k h1 h2 => by unfold VA VC; omega), ?_, fun k hk => (e _ _ (by unfold VA VC; omega)).trans (h.r_r k hk), (e _ _ (by unfold VA VC; omega)).trans h.r_l, fun k b hk => (e _ _ (by unfold VA VC; omega)).trans (h.r_b k b hk), (e _ _ (by unfold VA VC; omega)).trans h.r_f⟩
  · obtain ⟨j, h1, h2, h3, h4⟩ := h.r_j
    exact ⟨j, h1, (e _ _ (by unfold VA VC; omega)).trans h2, (e _ _ (by unfold VA VC; omega)).trans h3, h4.kq e (fun t k h5 h6 => by unfold VA VC; omega)⟩
  · have hi := h.r_i
    show ImC A.wd M' A.img
    cases hA : A.img with
    | none =>
      rw [hA] at hi
      exact (e _ _ (by unfold VA VC; omega)).trans hi
    | some p =>
      obtain ⟨s, l, q⟩ := p
      rw [hA] at hi
      obtain ⟨h1, h2, h3, h4⟩ := hi
      exact ⟨(e _ _ (by unfold VA VC; omega)).trans h1, h2.kq e (fun t k h1 h2 => by unfold VA VC; omega), h3.kq e (fun t k h1 h2 => by unfold VA VC; omega), h4.kq e (fun t k h1 h2 => by unfold VA VC; omega)⟩
def VB (t k : Nat) : Prop := VR t k ∨ t = 12 ∨ t = 13 ∨ (t = 0 ∧ k = 46)
theorem rmNA {A : Ab} {M M' : Mem} {s : Sp} {l : List Sp} (g : A.Good) (h : RM A M) (e : kq VB M M') (hs : StR A.wd s 12 0 M') (ha : ActM A.wd l 13 46 M') : RM (A.setNA s l) M' := by
  refine ⟨hs, h.s_t.kq e (fun k h1 h2 => by unfold VB VR; omega) (fun k => by unfold VB VR; omega) (fun k => by unfold VB VR; omega), ha, h.s_s.kq e (by unfold VB VR; omega) (fun k => by unfold VB VR; omega), ?_, fun k hk => (e _ _ (by unfold VB VR; omega)).trans (h.s_r k hk), (e _ _ (by unfold VB VR; omega)).trans h.s_l, fun k b hk => (e _ _ (by unfold VB VR; omega)).trans (h.s_b k b hk), (e _ _ (by unfold VB VR; omega)).trans h.s_f, (e _ _ (by unfold VB VR; omega)).trans h.s_w⟩
  have hi := h.s_i
  have gi' := g.g_i
  show ImM A.wd M' A.img
  cases hA : A.img with
  | none =>
    rw [hA] at hi
    exact (e _ _ (by unfold VB VR; omega)).trans hi
  | some p =>
    obtain ⟨s, l, q⟩ := p
    rw [hA] at hi gi'
    obtain ⟨h1, h2, h3, h4⟩ := hi
    obtain ⟨g1, g2, g3, g4⟩ := gi'
    exact ⟨(e _ _ (by unfold VB VR; omega)).trans h1, h2.kq g1 e (fun k _ _ => by unfold VB VR; omega), h3.kq g3 e (by unfold VB VR; omega) (fun k => by unfold VB VR; omega), h4.kq e (by unfold VB VR; omega) (fun k => by unfold VB VR; omega)⟩
theorem na_good {A : Ab} {s : Sp} {l : List Sp} (g : A.Good) (gs : s.Good A.wd) (hd : s.day ≤ 9999) (gA : AcG A.wd l) : (A.setNA s l).Good := ⟨g.g_t, gs, hd, gA, g.g_s, g.g_i, g.g_b, g.g_bb⟩
