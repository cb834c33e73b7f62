/-! What was seen, the image, streets. -/
theorem appP_get {l : List (Nat × Nat)} {s x : Nat × Nat} {k : Nat} (h : (l ++ [s])[k]? = some x) : (k < l.length ∧ l[k]? = some x) ∨ (k = l.length ∧ x = s) := by
  by_cases c : k < l.length
  · rw [List.getElem?_append_left c] at h
    exact Or.inl ⟨c, h⟩
  · rw [List.getElem?_append_right (by omega)] at h
    by_cases c2 : k = l.length
    · subst c2
      rw [Nat.sub_self] at h
      simp only [List.getElem?_cons_zero, Option.some.injEq] at h
      exact Or.inr ⟨rfl, h.symm⟩
    · rw [List.getElem?_eq_none (by simp only [List.length_cons, List.length_nil]; omega)] at h
      cases h
section Q
variable {n : Nat} {A : Ab} {M M2 : Mem} {x1 x2 x3 x4 x5 : Int32}
theorem qSee (g : A.Good) (hC : RC A M) (hM : RM A M2) : QP (f_X8_see n x1 x2 M) (f_X9_see n x1 x2 M2) := by
  have hM' := hM.thr g 0
  have hl := g.g_s.1
  have no := rfQP (n := n) (k := 2) (by decide) g hC hM'
  have sC := hC.r_s
  have sM := hM'.s_s
  have r24 : j_X8_see_24 n x1 x2 M = bd (f_X8_refuse n (nI 2) M) (fun q1 => some (q1.1, q1.2)) := by
    unfold j_X8_see_24 j_X8_see_25 j_X8_see_42
    rw [if_pos rfl]
    rfl
  have r34 : j_X9_see_34 n (si M2 0 0 0) = bd (f_X9_refuses n (nI 2) (si M2 0 0 0)) (fun q1 => some (q1.1, q1.2)) := rfl
  by_cases c8 : A.seen.length = 8
  · have e2 : f_X9_see n x1 x2 M2 = j_X9_see_34 n (si M2 0 0 0) := by
      unfold f_X9_see
      rw [sM.1, c8, if_pos (show nI 8 = (8 : Int32) from rfl)]
    have e1 : f_X8_see n x1 x2 M = bd (f_X8_refuse n (nI 2) M) (fun q1 => some (q1.1, q1.2)) := by
      have r25 : j_X8_see_25 n 1 x1 x2 M = bd (f_X8_refuse n (nI 2) M) (fun q1 => some (q1.1, q1.2)) := by
        unfold j_X8_see_25 j_X8_see_42 f_X3_add
        rw [if_neg (by decide), sC.1, c8, if_neg (show ¬ nI 8 < (8 : Int32) by decide)]
        rfl
      unfold f_X8_see
      rw [r24, r25]
      split
      · rfl
      · split
        · rfl
        · split
          · rfl
          · split
            · rfl
            · rfl
    rw [e1, e2, r34]
    exact no
  · have n8 : ¬ nI A.seen.length = (8 : Int32) := fun q => c8 ((nI_eq (b := 8) (by omega) (by decide)).mp q)
    unfold f_X8_see f_X9_see
    rw [sM.1, if_neg n8, r24]
    by_cases c1 : x1 < 0
    · rw [if_pos c1, mWithin_no (Or.inl c1)]
      exact no
    · by_cases c2 : (20 : Int32) < x1
      · rw [if_neg c1, if_pos c2, mWithin_no (Or.inr c2)]
        exact no
      · rw [if_neg c1, if_neg c2, mWithin_yes c1 c2]
        simp only [bd]
        rw [if_neg (show ¬ (1 : Int32) = 0 by decide)]
        by_cases c3 : x2 < 0
        · rw [if_pos c3, mWithin_no (Or.inl c3)]
          exact no
        · by_cases c4 : (99 : Int32) < x2
          · rw [if_neg c3, if_pos c4, mWithin_no (Or.inr c4)]
            exact no
          · rw [if_neg c3, if_neg c4, mWithin_yes c3 c4]
            simp only []
            rw [if_neg (show ¬ (1 : Int32) = 0 by decide)]
            obtain ⟨a, ha, rfl⟩ := nI_of c1
            obtain ⟨b, hb, rfl⟩ := nI_of c3
            have ha2 := (nI_leI (b := 20) ha (by decide)).mp (Int32.not_lt.mp c2)
            have hb2 := (nI_leI (b := 99) hb (by decide)).mp (Int32.not_lt.mp c4)
            have gq : SeG (A.seen ++ [(a, b)]) := ⟨by rw [List.length_append]; show A.seen.length + 1 ≤ 8; omega, fun p hp => by
              rcases List.mem_append.mp hp with h | h
              · exact g.g_s.2 p h
              · rw [List.mem_singleton.mp h]
                exact ⟨ha2, hb2⟩⟩
            -- the class
            have eC : j_X8_see_25 n 1 (nI a) (nI b) M = some (nI (A.seen.length + 1), si (si (si M 39 A.seen.length (nI a)) 40 A.seen.length (nI b)) 38 2 (nI (A.seen.length + 1))) := by
              unfold j_X8_see_25 f_X3_add
              rw [if_neg (by decide), sC.1, if_pos (show nI A.seen.length < (8 : Int32) from nI_lt (b := 8) (by omega) (by decide)), ck_pos (n_in (by omega) (by decide)), nI_clamp (by omega), show gi (si M (38 + 1) A.seen.length (nI a)) 38 2 = nI A.seen.length by rw [gi_si, if_neg (by omega)]; exact sC.1, ck_pos (n_in (by omega) (by decide)), nI_clamp (by omega), show gi (si (si M (38 + 1) A.seen.length (nI a)) (38 + 2) A.seen.length (nI b)) 38 2 = nI A.seen.length by rw [gi_si, if_neg (by omega), gi_si, if_neg (by omega)]; exact sC.1, nI_1]
              show some (gi (si (si (si M 39 A.seen.length (nI a)) 40 A.seen.length (nI b)) 38 2 (nI (A.seen.length + 1))) 38 2, _) = _
              rw [gi_si, if_pos ⟨rfl, rfl⟩]
            have rC : RC (A.setSeen (A.seen ++ [(a, b)])) (si (si (si M 39 A.seen.length (nI a)) 40 A.seen.length (nI b)) 38 2 (nI (A.seen.length + 1))) := by
              refine rc_setSeen hC (((kq.rf.si (by unfold VC_setSeen; omega) _).si (by unfold VC_setSeen; omega) _).si (by unfold VC_setSeen; omega) _) ⟨?_, fun k p hk => ?_⟩
              · rw [gi_si, if_pos ⟨rfl, rfl⟩, List.length_append]
                rfl
              · rcases appP_get hk with ⟨c, hx⟩ | ⟨c, hx⟩
                · rw [gi_si, if_neg (by omega), gi_si, if_neg (by omega), gi_si, if_neg (by omega), gi_si, if_neg (by omega), gi_si, if_neg (by omega), gi_si, if_neg (by omega)]
                  exact sC.2 k p hx
                · subst c hx
                  rw [gi_si, if_neg (by omega), gi_si, if_neg (by omega), gi_si, if_pos ⟨rfl, rfl⟩, gi_si, if_neg (by omega), gi_si, if_pos ⟨rfl, rfl⟩]
                  exact ⟨rfl, rfl⟩
            have rM : RM (A.setSeen (A.seen ++ [(a, b)])) (si (si (si (si M2 0 0 0) 18 (2 * A.seen.length) (nI a)) 18 (2 * A.seen.length + 1) (nI b)) 0 54 (nI (A.seen.length + 1))) := by
              refine rm_setSeen g hM' (((kq.rf.si (by unfold VM_setSeen; omega) _).si (by unfold VM_setSeen; omega) _).si (by unfold VM_setSeen; omega) _) ⟨?_, fun k p hk => ?_⟩
              · rw [gi_si, if_pos ⟨rfl, rfl⟩, List.length_append]
                rfl
              · rcases appP_get hk with ⟨c, hx⟩ | ⟨c, hx⟩
                · have hh := sM.2 k p hx
                  refine ⟨Eq.trans ?_ hh.1, Eq.trans ?_ hh.2⟩
                  · rw [gi_si, if_neg (by omega), gi_si, if_neg (by omega), gi_si, if_neg (by omega)]
                  · rw [gi_si, if_neg (by omega), gi_si, if_neg (by omega), gi_si, if_neg (by omega)]
                · subst c hx
                  rw [gi_si, if_neg (by omega), gi_si, if_neg (by omega), gi_si, if_pos ⟨rfl, rfl⟩, gi_si, if_neg (by omega), gi_si, if_pos ⟨rfl, rfl⟩]
                  exact ⟨rfl, rfl⟩
            rw [eC]
            refine ⟨_, _, _, rfl, ?_, _, seen_good g gq, rC, rM⟩
            have x1 : gi (si (si M2 0 0 0) 18 (2 * A.seen.length) (nI a)) 0 54 = nI A.seen.length := by rw [gi_si, if_neg (by omega)]; exact sM.1
            have x2 : gi (si (si (si M2 0 0 0) 18 (2 * A.seen.length) (nI a)) 18 (2 * A.seen.length + 1) (nI b)) 0 54 = nI A.seen.length := by rw [gi_si, if_neg (by omega)]; exact x1
            have y0 : (2 : Int32) * nI A.seen.length = nI (2 * A.seen.length) := pk_mul 2 _
            have i0 : inb (nI (2 * A.seen.length)) 16 := n_in (by omega) (by decide)
            have i1 : inb (nI (2 * A.seen.length + 1)) 16 := n_in (by omega) (by decide)
            have z0 : (nI (2 * A.seen.length)).toNatClampNeg = 2 * A.seen.length := nI_clamp (by omega)
            have z1 : (nI (2 * A.seen.length + 1)).toNatClampNeg = 2 * A.seen.length + 1 := nI_clamp (by omega)
            simp only [sM.1, y0, ck_pos i0, z0, x1, nI_1, ck_pos i1, z1, x2]
            rw [gi_si, if_pos ⟨rfl, rfl⟩]
theorem mCopies {n1 r1 r2 : Nat} (h1 : n1 < n) (h2 : n1 < 2 ^ 31) (hr : r1 ≠ r2) : ∃ M', f_X9_copies n n1 r1 n1 r2 M2 = some M' ∧ (∀ p, p < n1 → gi M' r2 p = gi M2 r1 p) ∧ same (only r2) M2 M' := by
  obtain ⟨N, m, ⟨a1, a2⟩, e⟩ := gl_k (body := b_X9_copies_2 n n1 r1 n1 r2) (fun k (M' : Mem) => (nI k, M')) n1 (fun k M' => (∀ p, p < k → gi M' r2 p = gi M2 r1 p) ∧ same (only r2) M2 M') (fun k M' hk hI => by
    obtain ⟨a1, a2⟩ := hI
    refine ⟨si M' r2 k (gi M2 r1 k), ?_, fun p hp => ?_, a2.si rfl _ _⟩
    · rw [b_X9_copies_2]
      try simp only []
      rw [if_neg (nI_ge hk h2), ck_pos (n_in hk h2), ck_pos (n_in hk h2), nI_clamp (by omega), a2.1 r1 k hr, nI_1]
    · rw [gi_si]
      by_cases c : p = k
      · subst c
        rw [if_pos ⟨rfl, rfl⟩]
      · rw [if_neg (by omega)]
        exact a1 p (by omega)) n 0 M2 (by omega) (by omega) ⟨fun p hp => absurd hp (by omega), same.rf⟩
  refine ⟨N, ?_, a1, a2⟩
  unfold f_X9_copies
  rw [show ((0 : Int32), M2) = (nI 0, M2) from rfl, e]
  refine gl_mr ?_
  rw [b_X9_copies_2]
  try simp only []
  rw [if_pos (nI_le (Nat.le_refl _) h2)]
def cpT (a a1 : Nat) (M : Mem) : Mem := cpF a a1 2 (cpF a a1 1 (cpA a a1 1 1200 M))
theorem cActs_is (n a a1 : Nat) (M : Mem) : f_X1_copy n a a1 M = some (cpT a a1 M) := rfl
def cpE (u u1 : Nat) (M : Mem) : Mem := cpF u u1 2 (cpA u u1 2 8 (cpA u u1 1 8 M))
theorem cSeen_is (n u u1 : Nat) (M : Mem) : f_X3_copy n u u1 M = some (cpE u u1 M) := rfl
theorem cpT_ac {a a1 wd : Nat} {l : List Sp} (hd : a1 + 2 ≤ a ∨ a + 2 ≤ a1) (gA : AcG wd l) (h : ActC wd l a1 M) : ActC wd l a (cpT a a1 M) ∧ kq (fun t _ => t = a ∨ t = a + 1) M (cpT a a1 M) := by
  obtain ⟨f, h1, h2, h3, h4⟩ := h
  have row : ∀ p, p < 1200 → gi (cpT a a1 M) (a + 1) p = gi M (a1 + 1) p := fun p hp => by
    unfold cpT
    rw [gi_cpF, if_neg (by omega), gi_cpF, if_neg (by omega), gi_cpA, if_pos rfl, if_pos hp]
  refine ⟨⟨f, h1, ?_, ?_, fun k s hk => ?_⟩, fun t k ht => ?_⟩
  · unfold cpT
    rw [gi_cpF, if_neg (by omega), gi_cpF, if_pos ⟨rfl, rfl⟩, gi_cpA, if_neg (by omega)]
    exact h2
  · unfold cpT
    rw [gi_cpF, if_pos ⟨rfl, rfl⟩, gi_cpF, if_neg (by omega), gi_cpA, if_neg (by omega)]
    exact h3
  · have g := (gA.2 s (List.mem_of_getElem? hk)).1
    have b1 := g.h_all
    have b2 := g.h_wd
    have hh := h4 k s hk
    have hm : (f + k) % 40 < 40 := Nat.mod_lt _ (by decide)
    exact ⟨fun c hc => (row _ (by omega)).trans (hh.l_c c hc), fun c hc => (row _ (by omega)).trans (hh.l_w c hc), (row _ (by omega)).trans hh.l_all, (row _ (by omega)).trans hh.l_hung, (row _ (by omega)).trans hh.l_day, (row _ (by omega)).trans hh.l_money, (row _ (by omega)).trans hh.l_lean, (row _ (by omega)).trans hh.l_fell⟩
  · unfold cpT
    rw [gi_cpF, if_neg (by omega), gi_cpF, if_neg (by omega), gi_cpA, if_neg (by omega)]
theorem cpE_se {u u1 : Nat} {q : List (Nat × Nat)} (hd : u1 + 3 ≤ u ∨ u + 3 ≤ u1) (gq : SeG q) (h : SeC q u1 M) : SeC q u (cpE u u1 M) ∧ kq (fun t _ => u ≤ t ∧ t ≤ u + 2) M (cpE u u1 M) := by
  have hl := gq.1
  refine ⟨⟨?_, fun k p hk => ?_⟩, fun t k ht => ?_⟩
  · unfold cpE
    rw [gi_cpF, if_pos ⟨rfl, rfl⟩, gi_cpA, if_neg (by omega), gi_cpA, if_neg (by omega)]
    exact h.1
  · have hkl := get_lt hk
    unfold cpE
    rw [gi_cpF, if_neg (by omega), gi_cpA, if_neg (by omega), gi_cpA, if_pos rfl, if_pos (by omega), gi_cpF, if_neg (by omega), gi_cpA, if_pos rfl, if_pos (by omega), gi_cpA, if_neg (by omega)]
    exact h.2 k p hk
  · unfold cpE
    rw [gi_cpF, if_neg (by omega), gi_cpA, if_neg (by omega), gi_cpA, if_neg (by omega)]
theorem ActM.cp {wd t f t' f' : Nat} {l : List Sp} {M' : Mem} (gA : AcG wd l) (h : ActM wd l t f M) (h0 : gi M' 0 f' = gi M 0 f) (hr : ∀ p, p < 2160 → gi M' t' p = gi M t p) : ActM wd l t' f' M' := by
  have hl := gA.1
  exact ⟨h0.trans h.1, fun k s hk => (h.2 k s hk).copy (gA.2 s (List.mem_of_getElem? hk)).1 (fun p hp => hr _ (by have := get_lt hk; omega))⟩
theorem SeM.cp {t f t' f' : Nat} {q : List (Nat × Nat)} {M' : Mem} (gq : SeG q) (h : SeM q t f M) (h0 : gi M' 0 f' = gi M 0 f) (hr : ∀ p, p < 16 → gi M' t' p = gi M t p) : SeM q t' f' M' := by
  have hl := gq.1
  exact ⟨h0.trans h.1, fun k p hk => by
    have := get_lt hk
    exact ⟨(hr _ (by omega)).trans (h.2 k p hk).1, (hr _ (by omega)).trans (h.2 k p hk).2⟩⟩
theorem qImage (hn : 3000 < n) (g : A.Good) (hC : RC A M) (hM : RM A M2) : ∃ N N2, f_X8_image n M = some N ∧ f_X9_image n M2 = some N2 ∧ RR N N2 := by
  have hM' := hM.thr g 0
  have im : (A.setImg (some (A.now, A.acts, A.seen))).Good := ⟨g.g_t, g.g_n, g.g_d, g.g_a, g.g_s, ⟨g.g_n, g.g_d, g.g_a, g.g_s⟩, g.g_b, g.g_bb⟩
  -- the class
  have s1 : StC A.wd A.now 22 (cpS 22 4 M) := cpS_st (by omega) g.g_n hC.r_n
  have e1 : kq (fun t _ => 22 ≤ t ∧ t ≤ 26) M (cpS 22 4 M) := cpS_same.kq (fun t k ht => by omega)
  obtain ⟨a2, e2⟩ := cpT_ac (a := 36) (a1 := 34) (M := cpS 22 4 M) (by omega) g.g_a (hC.r_a.kq e1 (fun t k _ _ => by omega))
  obtain ⟨a3, e3⟩ := cpE_se (u := 41) (u1 := 38) (M := cpT 36 34 (cpS 22 4 M)) (by omega) g.g_s ((hC.r_s.kq e1 (fun t k _ _ => by omega)).kq e2 (fun t k _ _ => by omega))
  have e4 : kq (fun t k => t = 0 ∧ k = 14) (cpE 41 38 (cpT 36 34 (cpS 22 4 M))) (si (cpE 41 38 (cpT 36 34 (cpS 22 4 M))) 0 14 (1 : Int32)) := kq.rf.si ⟨rfl, rfl⟩ _
  have rC : RC (A.setImg (some (A.now, A.acts, A.seen))) (si (cpE 41 38 (cpT 36 34 (cpS 22 4 M))) 0 14 (1 : Int32)) := rc_setImg hC ((((e1.mono (fun t k ht => by unfold VC_setImg; omega)).tr (e2.mono (fun t k ht => by unfold VC_setImg; omega))).tr (e3.mono (fun t k ht => by unfold VC_setImg; omega))).tr (e4.mono (fun t k ht => by unfold VC_setImg; omega))) ⟨by rw [gi_si, if_pos ⟨rfl, rfl⟩], ((s1.kq e2 (fun t k _ _ => by omega)).kq e3 (fun t k _ _ => by omega)).kq e4 (fun t k _ _ => by omega), (a2.kq e3 (fun t k _ _ => by omega)).kq e4 (fun t k _ _ => by omega), a3.kq e4 (fun t k _ _ => by omega)⟩
  -- the reference
  have x46 : gi (si (si M2 0 0 0) 0 59 1) 0 46 = gi (si M2 0 0 0) 0 46 := by rw [gi_si, if_neg (by omega)]
  have x54 : gi (si (si (si M2 0 0 0) 0 59 1) 0 60 (gi (si M2 0 0 0) 0 46)) 0 54 = gi (si M2 0 0 0) 0 54 := by rw [gi_si, if_neg (by omega), gi_si, if_neg (by omega)]
  have k1 : kq (fun t k => t = 0 ∧ (k = 59 ∨ k = 60 ∨ k = 61)) (si M2 0 0 0) (si (si (si (si M2 0 0 0) 0 59 1) 0 60 (gi (si M2 0 0 0) 0 46)) 0 61 (gi (si M2 0 0 0) 0 54)) := ((kq.rf.si (by omega) _).si (by omega) _).si (by omega) _
  obtain ⟨N, m, ⟨b1, b2⟩, ee⟩ := gl_k (body := b_X9_image_28 n) (fun k (M' : Mem) => (nI k, M')) 54 (fun k M' => (∀ p, p < k → gi M' 21 (0 + p) = gi (si M2 0 0 0) 12 (0 + p)) ∧ kq (fun t _ => t = 21) (si (si (si (si M2 0 0 0) 0 59 1) 0 60 (gi (si M2 0 0 0) 0 46)) 0 61 (gi (si M2 0 0 0) 0 54)) M') (fun k M' hk hI => by
    obtain ⟨b1, b2⟩ := hI
    refine ⟨si M' 21 k (gi (si M2 0 0 0) 12 k), ?_, fun p hp => ?_, b2.si rfl _⟩
    · rw [b_X9_image_28]
      try simp only []
      rw [if_neg (show ¬ (54 : Int32) ≤ nI k from nI_ge (b := 54) hk (by decide)), ck_pos (n_in (by omega) (by decide)), ck_pos (n_in (by omega) (by decide)), nI_clamp (by omega), b2 12 k (by omega), k1 12 k (by omega), nI_1]
    · rw [gi_si, Nat.zero_add]
      by_cases c : p = k
      · subst c
        rw [if_pos ⟨rfl, rfl⟩]
      · rw [if_neg (by omega)]
        have := b1 p (by omega)
        rw [Nat.zero_add] at this
        exact this) n 0 _ (by omega) (by omega) ⟨fun p hp => absurd hp (by omega), kq.rf⟩
  obtain ⟨N1, p1, c1, d1⟩ := mCopies (n := n) (n1 := 2160) (r1 := 13) (r2 := 22) (M2 := N) (by omega) (by decide) (by decide)
  obtain ⟨N2, p2, c2, d2⟩ := mCopies (n := n) (n1 := 16) (r1 := 18) (r2 := 23) (M2 := N1) (by omega) (by decide) (by decide)
  have d1' : kq (fun t _ => t = 22) N N1 := d1.kq (fun _ _ q => q)
  have d2' : kq (fun t _ => t = 23) N1 N2 := d2.kq (fun _ _ q => q)
  have s2 : StR A.wd A.now 21 0 N := hM'.s_n.copy g.g_n b1
  have s3 : StR A.wd A.now 21 0 N2 := (s2.kq g.g_n d1' (fun k _ _ => by omega)).kq g.g_n d2' (fun k _ _ => by omega)
  have z : ∀ k, (k = 59 ∨ k = 60 ∨ k = 61) → gi N2 0 k = gi (si (si (si (si M2 0 0 0) 0 59 1) 0 60 (gi (si M2 0 0 0) 0 46)) 0 61 (gi (si M2 0 0 0) 0 54)) 0 k := fun k hk => by rw [d2' 0 k (by omega), d1' 0 k (by omega), b2 0 k (by omega)]
  have s4 : ActM A.wd A.acts 22 60 N2 := ActM.cp (M := si M2 0 0 0) g.g_a hM'.s_a (by rw [z 60 (by omega), gi_si, if_neg (by omega), gi_si, if_pos ⟨rfl, rfl⟩]) (fun p hp => by rw [d2' 22 p (by omega), c1 p hp, b2 13 p (by omega), k1 13 p (by omega)])
  have s5 : SeM A.seen 23 61 N2 := SeM.cp (M := si M2 0 0 0) g.g_s hM'.s_s (by rw [z 61 (by omega), gi_si, if_pos ⟨rfl, rfl⟩]) (fun p hp => by rw [c2 p hp, d1' 18 p (by omega), b2 18 p (by omega), k1 18 p (by omega)])
  have rM : RM (A.setImg (some (A.now, A.acts, A.seen))) N2 := rm_setImg g hM' ((((k1.mono (fun t k ht => by unfold VM_setImg; omega)).tr (b2.mono (fun t k ht => by unfold VM_setImg; omega))).tr (d1'.mono (fun t k ht => by unfold VM_setImg; omega))).tr (d2'.mono (fun t k ht => by unfold VM_setImg; omega))) ⟨by rw [z 59 (by omega), gi_si, if_neg (by omega), gi_si, if_neg (by omega), gi_si, if_pos ⟨rfl, rfl⟩], s3, s4, s5⟩
  refine ⟨_, N2, ?_, ?_, _, im, rC, rM⟩
  · unfold f_X8_image
    rw [cCopy_is]
    simp only [bd]
    rw [cActs_is]
    simp only []
    rw [cSeen_is]
  · unfold f_X9_image
    rw [x46, x54, show ∀ X : Mem, ((0 : Int32), X) = (nI 0, X) from fun _ => rfl, ee]
    refine gl_mr ?_
    rw [b_X9_image_28]
    try simp only []
    rw [if_pos (show (54 : Int32) ≤ nI 54 by decide)]
    unfold j_X9_image_52
    rw [p1]
    simp only [bd]
    rw [p2]
end Q
