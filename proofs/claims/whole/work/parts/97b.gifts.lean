/-! The class' day: the gifts. -/
theorem money_good {wd x : Nat} {s : Sp} (g : s.Good wd) (hx : x ≤ 999) : (s.setMoney x).Good wd := ⟨g.h_wd, g.h_hung, g.h_all, g.h_day, hx, g.h_lean, g.h_fell, g.h_weight, g.h_mortar, g.h_faith, g.h_beside, g.h_sym, g.h_self⟩
theorem dset_money {s : Sp} {x : Nat} : ∀ k, (s.setMoney x).dset k = s.dset k
  | 0 => rfl
  | k + 1 => by rw [Sp.dset, Sp.dset, dset_money k]; rfl
def dyA (i j : Nat) : Nat → Prop := fun t => t = i ∨ t = i + 5 ∨ t = j + 5 ∨ t = j + 6
theorem scr_dy {i j : Nat} {M M' : Mem} (e : same (scr j) M M') : same (dyA i j) M M' := e.mono (fun t ht => by unfold scr at ht; unfold dyA; omega)
theorem cGifts {n i j wd : Nat} {M : Mem} {s : Sp} {T : Tw} (hn : 1000 < n) (g : s.Good wd) (gT : T.Good) (hij : i + 5 < j) (h : StC wd s i M) (t : TwC T j M) :
    ∃ M', gl (b_X4_passDay_29 n i j (nI (s.dset wd))) n ((0 : Int32), M) = j_X4_passDay_76 n i j (nI (s.dset wd)) M' ∧ StC wd (s.setMoney (T.rich wd s wd)) i M' ∧ TwC T j M' ∧ same (dyA i j) M M' ∧ ∀ w, w < wd → gi M' (i + 5) w = nI (T.giftN s w (s.doubt wd w)) := by
  have h1 := g.h_wd
  obtain ⟨M', m, ⟨a1, a2, a3, a4⟩, e⟩ := gl_k (body := b_X4_passDay_29 n i j (nI (s.dset wd))) (fun k (M' : Mem) => (nI k, M')) wd (fun k M' => StC wd (s.setMoney (T.rich wd s k)) i M' ∧ TwC T j M' ∧ same (dyA i j) M M' ∧ ∀ w, w < k → gi M' (i + 5) w = nI (T.giftN s w (s.doubt wd w))) (fun k M' hk hI => by
    obtain ⟨a1, a2, a3, a4⟩ := hI
    have gk := money_good g (rich_le (T := T) g k)
    obtain ⟨M1, q1, e1⟩ := cGift (d := s.doubt wd k) hn gk gT hk hij a1 a2
    obtain ⟨p1, p2⟩ := gift_is (T := T) (d := s.doubt wd k) gk hk
    have hD : f_X4_doubt n i (nI k) (nI (s.dset wd)) M' = some (nI (s.doubt wd k), M') := by
      have := cDoubt (n := n) gk a1 hk
      rw [dset_money] at this
      exact this
    have b1 : StC wd (s.setMoney (T.rich wd s k)) i M1 := cScr a1 hij e1
    have b2 := tScr a2 e1
    refine ⟨si (si M1 (i + 5) k (nI (T.giftN s k (s.doubt wd k)))) i 9 (nI (T.rich wd s (k + 1))), ?_, ?_, ?_, ?_, ?_⟩
    · rw [b_X4_passDay_29]
      simp only [a1.wards]
      rw [if_neg (nI_ge hk (by omega)), hD]
      simp only [bd]
      rw [q1]
      simp only []
      have p3 : T.gift (s.setMoney (T.rich wd s k)) k (s.doubt wd k) = nI (T.giftN s k (s.doubt wd k)) := p1
      have p4 : T.giftN s k (s.doubt wd k) ≤ 20 := p2
      rw [ck, if_pos (n_in (by omega) (by decide)), ck, if_pos (n_in (by omega) (by decide)), nI_clamp (by omega), p3, gi_si, if_pos ⟨rfl, rfl⟩, cReceive (wd := wd) gk (b1.same (same.rf.si (A := fun t => t = i + 5) rfl _ _) (by omega) (by omega) (by omega) (by omega) (by omega)) (by omega), nI_1]
      rfl
    · exact cMoney (s := s.setMoney (T.rich wd s k)) (b1.same (same.rf.si (A := fun t => t = i + 5) rfl _ _) (by omega) (by omega) (by omega) (by omega) (by omega))
    · exact b2.same ((same.rf.si (A := dyA i j) (Or.inr (Or.inl rfl)) _ _).si (Or.inl rfl) _ _) (by unfold dyA; omega) (by unfold dyA; omega) (by unfold dyA; omega) (by unfold dyA; omega) (by unfold dyA; omega)
    · exact ((a3.tr (scr_dy e1)).si (Or.inr (Or.inl rfl)) _ _).si (Or.inl rfl) _ _
    · intro w hw
      rw [gi_si, if_neg (by omega), gi_si]
      by_cases hwk : w = k
      · subst hwk
        rw [if_pos ⟨rfl, rfl⟩]
      · rw [if_neg (by omega)]
        exact (e1.1 _ _ (by unfold scr; omega)).trans (a4 w (by omega))) n 0 M (by omega) (by omega) ⟨h, t, same.rf, fun w hw => absurd hw (by omega)⟩
  refine ⟨M', ?_, a1, a2, a3, a4⟩
  rw [show ((0 : Int32), M) = (nI 0, M) from rfl, e]
  refine gl_mr ?_
  rw [b_X4_passDay_29]
  simp only [a1.wards]
  rw [if_pos (nI_le (Nat.le_refl _) (by omega))]
