/-! The game, whole. -/
section Q
variable {n : Nat} {A : Ab} {M M2 : Mem} {x1 x2 x3 x4 x5 : Int32}
theorem half_c {k : Nat} (hk : k < 4) : nI k >>> ((1 : Int32) &&& 31) = nI (k / 2) ∧ nI k &&& (1 : Int32) = nI (k % 2) := by
  constructor
  · exact pk_shrN (by omega) _ 1 (by decide)
  · exact pk_andN (by omega) 1 (by decide)
theorem half_m {k : Nat} (hk : k < 4) : nI k / (2 : Int32) = nI (k / 2) ∧ nI k - nI k / (2 : Int32) * (2 : Int32) = nI (k % 2) :=
  ⟨pk_div (d := 2) (by omega) (by decide) (by decide), pk_rem (d := 2) (by omega) (by decide) (by decide)⟩
theorem qGame (hn : 3000 < n) (g : A.Good) (hC : RC A M) (hM : RM A M2) : QQ k12 (f_X8_game n x1 x2 x3 M) (f_X9_game n x1 x2 x3 M2) := by
  have hda := g.g_d
  have hwd := g.g_n.h_wd
  have hM' := hM.thr g 0
  have h0 := thr0 M2
  unfold f_X8_game f_X9_game
  refine qq_ward g hC hM' h0 k12_11 (fun a ha e => ?_)
  dsimp only
  refine qq_ward g hC hM' h0 k12_11 (fun b hb e2 => ?_)
  dsimp only
  refine qq_what (m := 1) (by decide) g hC hM' h0 k12_11 (fun u hu e3 => ?_)
  dsimp only
  subst e e2 e3
  by_cases hab : a = b
  · subst hab
    rw [if_pos rfl, if_pos rfl]
    unfold j_X9_game_41
    rw [mRight_no h0 (by decide)]
    exact qq_no g hC hM' k12_22 (by decide)
  · have hne : ¬ nI a = nI b := fun q => hab ((nI_eq (by omega) (by omega)).mp q)
    rw [if_neg hne, if_neg hne]
    unfold j_X9_game_41
    rw [mRight_yes h0]
    simp only [bd]
    rw [if_neg (show ¬ (1 : Int32) = 0 by decide)]
    obtain ⟨j, cb⟩ := hC.cb g
    have mb := hM'.mb g
    -- the class plays four times
    obtain ⟨N, m, ⟨c1, c2⟩, ee⟩ := gl_k (body := b_X8_game_34 n (nI a) (nI b) (nI u)) (fun k (X : Mem) => (nI k, X)) 4 (fun k X => kq VC M X ∧ G3 A.tw A.wd A.now a b k X) (fun k X hk hI => by
      obtain ⟨c1, c2⟩ := hI
      have ek : k = 2 * (k / 2) + k % 2 := by omega
      rw [ek] at c2
      obtain ⟨O, p1, p2, p3⟩ := cPlay (n := n) (x := k / 2) (y := k % 2) hn cb c1 ha hb hab (by omega) (by omega) c2
      rw [← ek] at p1 p3
      refine ⟨O, ?_, p2, p3⟩
      rw [b_X8_game_34]
      try simp only []
      rw [if_neg (show ¬ (4 : Int32) ≤ nI k from nI_ge (b := 4) hk (by decide)), p1]
      simp only [bd]
      rw [nI_1]) n 0 M (by omega) (by omega) ⟨kq.rf, fun x y _ _ h => absurd h (by omega)⟩
    rw [show ((0 : Int32), M) = (nI 0, M) from rfl, ee, gl_mr (o := j_X8_game_54 n (nI u) N) (by
      rw [b_X8_game_34]
      try simp only []
      rw [if_pos (show (4 : Int32) ≤ nI 4 by decide)])]
    unfold j_X8_game_54
    refine qq_pq k12_00 ?_
    refine ok2_for (fun k (p : Int32 × Int32 × Mem) => (p.1, p.2.1, nI k, N)) (fun k (p : Int32 × Int32 × Mem) => (p.1, p.2.1, nI k, p.2.2)) 4 (fun k p => kp VT (si M2 0 0 0) p.2.2 ∧ gi p.2.2 0 52 = -1 ∧ ((p.1 = 0 ∧ p.2.1 = -1) ∨ (∃ q, q < 2 ^ 20 ∧ 0 < q ∧ q ≤ k ∧ p.1 = nI q) ∧ ∃ r, r < 2 ^ 31 ∧ p.2.1 = nI r)) (fun k p hk hI => ?_) (fun p hI => ?_) n n 0 (0, -1, si M2 0 0 0) (by omega) (by omega) (by omega) ⟨kp.rf, hM'.s_w, Or.inl ⟨rfl, rfl⟩⟩
    · obtain ⟨p1, p2, p3⟩ := p
      obtain ⟨b1, b2, b3⟩ := hI
      have b1 : kp VT (si M2 0 0 0) p3 := b1
      have b2 : gi p3 0 52 = -1 := b2
      have ek : k = 2 * (k / 2) + k % 2 := by omega
      have hc := half_c hk
      have hm := half_m hk
      have rs := cRests (n := n) (x := k / 2) (y := k % 2) (by omega) (by omega) c2
      rw [← ek] at rs
      have s1 : (1 : Int32) - nI (k / 2) = nI (1 - k / 2) := pk_sub (a := 1) (by omega)
      have s2 : (1 : Int32) - nI (k % 2) = nI (1 - k % 2) := pk_sub (a := 1) (by omega)
      obtain ⟨O1, t1, r1, v1⟩ := mGains (n := n) (a := a) (b := b) (x := 1 - k / 2) (y := k % 2) hn mb b1 b2 ha hb (by omega) (by omega)
      obtain ⟨O2, t2, r2, v2⟩ := mGains (n := n) (a := a) (b := b) (x := k / 2) (y := k % 2) hn mb r1 v1 ha hb (by omega) (by omega)
      obtain ⟨O3, t3, r3, v3⟩ := mGains (n := n) (a := b) (b := a) (x := 1 - k % 2) (y := k / 2) hn mb r2 v2 hb ha (by omega) (by omega)
      obtain ⟨O4, t4, r4, v4⟩ := mGains (n := n) (a := b) (b := a) (x := k % 2) (y := k / 2) hn mb r3 v3 hb ha (by omega) (by omega)
      rw [b_X8_game_63, b_X9_game_59]
      try simp only []
      rw [if_neg (show ¬ (4 : Int32) ≤ nI k from nI_ge (b := 4) hk (by decide)), if_neg (show ¬ (4 : Int32) ≤ nI k from nI_ge (b := 4) hk (by decide)), rs, hc.1, hc.2, hm.2, hm.1, s1, s2, t1]
      simp only [bd]
      rw [t2]
      simp only []
      unfold j_X8_game_105 j_X9_game_149 j_X8_game_100 j_X8_game_105
      rw [nI_1]
      by_cases c1 : A.tw.gain A.wd A.now a b (k / 2) (k % 2) < A.tw.gain A.wd A.now a b (1 - k / 2) (k % 2)
      · rw [if_pos c1, if_pos rfl, if_pos c1]
        refine Or.inl ⟨(p1, p2, O2), rfl, rfl, r2, v2, ?_⟩
        rcases b3 with b3 | ⟨⟨q, q1, q2, q3, q4⟩, b3⟩
        · exact Or.inl b3
        · exact Or.inr ⟨⟨q, q1, q2, by omega, q4⟩, b3⟩
      · rw [if_neg c1, if_neg c1, t3]
        simp only []
        rw [t4]
        simp only []
        by_cases c2 : A.tw.gain A.wd A.now b a (k % 2) (k / 2) < A.tw.gain A.wd A.now b a (1 - k % 2) (k / 2)
        · rw [if_pos c2, if_pos rfl, if_neg (Int32.not_le.mpr c2)]
          refine Or.inl ⟨(p1, p2, O4), rfl, rfl, r4, v4, ?_⟩
          rcases b3 with b3 | ⟨⟨q, q1, q2, q3, q4⟩, b3⟩
          · exact Or.inl b3
          · exact Or.inr ⟨⟨q, q1, q2, by omega, q4⟩, b3⟩
        · rw [if_neg c2, if_neg (by decide), if_pos (Int32.not_lt.mp c2)]
          rcases b3 with ⟨z1, z2⟩ | ⟨⟨q, q1, q2, q3, q4⟩, r, w1, w2⟩
          · have z1 : p1 = 0 := z1
            have z2 : p2 = -1 := z2
            subst z1 z2
            rw [if_pos rfl, if_pos rfl]
            refine Or.inl ⟨((0 : Int32) + 1, (10 : Int32) * nI (k / 2) + nI (k % 2), O4), rfl, rfl, r4, v4, Or.inr ⟨⟨1, by decide, by decide, by omega, rfl⟩, 10 * (k / 2) + k % 2, by omega, ?_⟩⟩
            show (10 : Int32) * nI (k / 2) + nI (k % 2) = _
            rw [show (10 : Int32) = nI 10 from rfl, pk_mul, nI_add]
          · have q4 : p1 = nI q := q4
            have w2 : p2 = nI r := w2
            subst q4 w2
            rw [if_neg (nI_ne0 (by omega) (by omega)), if_neg (nI_nm1 w1)]
            exact Or.inl ⟨(nI q + 1, nI r, O4), rfl, rfl, r4, v4, Or.inr ⟨⟨q + 1, by omega, by omega, by omega, nI_1 q⟩, r, w1, rfl⟩⟩
    · obtain ⟨p1, p2, p3⟩ := p
      obtain ⟨b1, b2, b3⟩ := hI
      have b1 : kp VT (si M2 0 0 0) p3 := b1
      have b2 : gi p3 0 52 = -1 := b2
      have rr : RR N p3 := ⟨A, g, hC.kq c1, hM'.vt g b1 b2⟩
      have t0 : gi p3 0 0 = 0 := (b1.1 0 0 (by unfold VT VM; omega)).trans h0
      rw [b_X8_game_63, b_X9_game_59]
      try simp only []
      rw [if_pos (show (4 : Int32) ≤ nI 4 by decide), if_pos (show (4 : Int32) ≤ nI 4 by decide)]
      unfold j_X8_game_111 j_X9_game_155
      rcases (show u = 0 ∨ u = 1 by omega) with rfl | rfl
      · rw [if_pos (by decide), if_pos (by decide)]
        exact ⟨_, _, rfl, rfl, rfl, rfl, rr, t0⟩
      · rw [if_neg (by decide), if_neg (by decide)]
        exact ⟨_, _, rfl, rfl, rfl, rfl, rr, t0⟩
end Q
