/-! The reference reads a line. -/
section M
variable {f : Nat → Nat} {e s n : Nat} {τ : Td} {ts : List Tok} {M : Mem}
theorem nSum {a b : Nat} (k : Nat) (hk : k + a = b) {x : Int32} (hx : x = nI k) : x + nI a = nI b := by
  rw [hx, nI_add, hk]
/-! a course -/
theorem DT.addH (h : DT f e s τ ts M) (hG : τ.s.Good τ.wd) (a b : Nat) {M' : Mem} (k : kq (fun t q => (t = 6 ∧ (q = 6 + τ.s.hung ∨ q = 22 + τ.s.hung)) ∨ (t = 0 ∧ q = 27)) M M') (ht : SRt f e ts M') (h1 : gi M' 6 (6 + τ.s.hung) = nI a) (h2 : gi M' 6 (22 + τ.s.hung) = nI b) (h3 : gi M' 0 27 = nI (τ.s.hung + 1)) (hall : τ.s.all < 16) : DT f e s (τ.setS (τ.s.addC true a b)) ts M' := by
  have hh := hG.h_hung
  have hw := hG.h_wd
  refine ⟨ht, (k _ _ (by omega)).trans h.d_f, (k _ _ (by omega)).trans h.d_3, h3, ?_, fun c hc => ?_, fun c hc1 hc => ?_, ⟨(k _ _ (by omega)).trans h.d_0.1, (k _ _ (by omega)).trans h.d_0.2.1, (k _ _ (by omega)).trans h.d_0.2.2.1, (k _ _ (by omega)).trans h.d_0.2.2.2⟩, (k _ _ (by omega)).trans h.d_w, fun v hv => (k _ _ (by have hv' : v < τ.wd := hv; omega)).trans (h.d_ff v hv), fun v hv => (k _ _ (by have hv' : v < τ.wd := hv; omega)).trans (h.d_b v hv), fun v h1 h2 => (k _ _ (by omega)).trans (h.d_z v h1 h2), ⟨(k _ _ (by omega)).trans h.d_g.1, h.d_g.2⟩, ⟨(k _ _ (by omega)).trans h.d_c.1, h.d_c.2⟩, (k _ _ (by omega)).trans h.d_n, fun i hi => (k _ _ (by omega)).trans (h.d_i i hi), ⟨(k _ _ (by omega)).trans h.d_s.1, h.d_s.2⟩, fun r hr => (h.d_r r hr).kq k (Nat.le_refl _) (by omega) (fun q _ => by omega)⟩
  · show gi M' 0 28 = nI (τ.s.all + 1 - (τ.s.hung + 1))
    rw [k _ _ (by omega), h.d_p]
    congr 1
    omega
  · have hc' : c < τ.s.hung + 1 := hc
    show gi M' 6 (6 + c) = nI (insN τ.s.hung a τ.s.weight c) ∧ gi M' 6 (22 + c) = nI (insN τ.s.hung b τ.s.mortar c)
    unfold insN
    by_cases c1 : c < τ.s.hung
    · rw [if_pos c1, if_pos c1, k _ _ (by omega), k _ _ (by omega)]
      exact h.d_hw c c1
    · have c2 : c = τ.s.hung := by omega
      rw [if_neg c1, if_neg c1, if_pos c2, if_pos c2, c2]
      exact ⟨h1, h2⟩
  · have hc' : c < τ.s.all + 1 := hc
    have hc1' : τ.s.hung + 1 ≤ c := hc1
    show gi M' 7 (c - (τ.s.hung + 1)) = nI (insN τ.s.hung a τ.s.weight c) ∧ gi M' 8 (c - (τ.s.hung + 1)) = nI (insN τ.s.hung b τ.s.mortar c)
    unfold insN
    rw [if_neg (by omega), if_neg (by omega), if_neg (by omega), if_neg (by omega), k _ _ (by omega), k _ _ (by omega), show c - (τ.s.hung + 1) = c - 1 - τ.s.hung by omega]
    exact h.d_pw (c - 1) (by omega) (by omega)
theorem DT.addP (h : DT f e s τ ts M) (hG : τ.s.Good τ.wd) (a b : Nat) {M' : Mem} (k : kq (fun t q => ((t = 7 ∨ t = 8) ∧ q = τ.s.all - τ.s.hung) ∨ (t = 0 ∧ q = 28)) M M') (ht : SRt f e ts M') (h1 : gi M' 7 (τ.s.all - τ.s.hung) = nI a) (h2 : gi M' 8 (τ.s.all - τ.s.hung) = nI b) (h3 : gi M' 0 28 = nI (τ.s.all - τ.s.hung + 1)) : DT f e s (τ.setS (τ.s.addC false a b)) ts M' := by
  have hh := hG.h_hung
  refine ⟨ht, (k _ _ (by omega)).trans h.d_f, (k _ _ (by omega)).trans h.d_3, (k _ _ (by omega)).trans h.d_h, ?_, fun c hc => ?_, fun c hc1 hc => ?_, ⟨(k _ _ (by omega)).trans h.d_0.1, (k _ _ (by omega)).trans h.d_0.2.1, (k _ _ (by omega)).trans h.d_0.2.2.1, (k _ _ (by omega)).trans h.d_0.2.2.2⟩, (k _ _ (by omega)).trans h.d_w, fun v hv => (k _ _ (by omega)).trans (h.d_ff v hv), fun v hv => (k _ _ (by omega)).trans (h.d_b v hv), fun v h1 h2 => (k _ _ (by omega)).trans (h.d_z v h1 h2), ⟨(k _ _ (by omega)).trans h.d_g.1, h.d_g.2⟩, ⟨(k _ _ (by omega)).trans h.d_c.1, h.d_c.2⟩, (k _ _ (by omega)).trans h.d_n, fun i hi => (k _ _ (by omega)).trans (h.d_i i hi), ⟨(k _ _ (by omega)).trans h.d_s.1, h.d_s.2⟩, fun r hr => (h.d_r r hr).kq k (Nat.le_refl _) (by omega) (fun q _ => by omega)⟩
  · show gi M' 0 28 = nI (τ.s.all + 1 - τ.s.hung)
    rw [h3]
    congr 1
    omega
  · have hc' : c < τ.s.hung := hc
    show gi M' 6 (6 + c) = nI (insN τ.s.all a τ.s.weight c) ∧ gi M' 6 (22 + c) = nI (insN τ.s.all b τ.s.mortar c)
    unfold insN
    rw [if_pos (by omega), if_pos (by omega), k _ _ (by omega), k _ _ (by omega)]
    exact h.d_hw c hc'
  · have hc' : c < τ.s.all + 1 := hc
    have hc1' : τ.s.hung ≤ c := hc1
    show gi M' 7 (c - τ.s.hung) = nI (insN τ.s.all a τ.s.weight c) ∧ gi M' 8 (c - τ.s.hung) = nI (insN τ.s.all b τ.s.mortar c)
    unfold insN
    by_cases c1 : c < τ.s.all
    · rw [if_pos c1, if_pos c1, k _ _ (by omega), k _ _ (by omega)]
      exact h.d_pw c hc1' c1
    · have c2 : c = τ.s.all := by omega
      rw [if_neg c1, if_neg c1, if_pos c2, if_pos c2, c2]
      exact ⟨h1, h2⟩
theorem mHung (he : e ≤ 700) (hf : ∀ q, f q < 256) (hn : 800 < n) (h : DT f e s τ ts M) (hG : τ.s.Good τ.wd) (hall : τ.s.all < 16) : RU f e M (crsR e τ true ts) (bd (f_X9_readsHung n M) (fun q => j_X9_line_378 n q)) := by
  have hh := hG.h_hung
  have s1 : (6 : Int32) + nI τ.s.hung = nI (6 + τ.s.hung) := nI_add 6 _
  have s2 : (22 : Int32) + nI τ.s.hung = nI (22 + τ.s.hung) := nI_add 22 _
  have z1 : (nI (6 + τ.s.hung)).toNatClampNeg = 6 + τ.s.hung := nI_clamp (by omega)
  have z2 : (nI (22 + τ.s.hung)).toNatClampNeg = 22 + τ.s.hung := nI_clamp (by omega)
  have i1 : inb (nI (6 + τ.s.hung)) 54 := n_in (by omega) (by decide)
  have i2 : inb (nI (22 + τ.s.hung)) 54 := n_in (by omega) (by decide)
  unfold f_X9_readsHung crsR
  rcases mNum (n := n) he hf hn h (lo := 1) (hi := 9) (x1 := 1) (x2 := 9) (by decide) (by decide) rfl rfl with ⟨k, p, M1, x, b1, b2, b3, b4, b5⟩ | ⟨v, M1, b1, b2, b3, b4, b5, b6⟩
  · rw [b2, bR_l b1, h.d_h, s1]
    dsimp only [bd]
    simp only [ck_pos i1, z1]
    have g27 : gi (si M1 6 (6 + τ.s.hung) x) 0 27 = nI τ.s.hung := by rw [gi_si, if_neg (by omega), b5 _ _ (by omega), h.d_h]
    have f1 := b3.st (t := 6) (q := 6 + τ.s.hung) (by omega) x
    rw [mNumF f1]
    dsimp only []
    rw [g27, s2]
    simp only [ck_pos i2, z2]
    exact RU.bad ((f1.st (by omega) _).st (by omega) _) (((b4.si (by unfold VQ; omega) _).si (by unfold VQ; omega) _).si (by unfold VQ; omega) _)
  · rw [b2, bR_r b1, h.d_h, s1]
    dsimp only [bd]
    simp only [ck_pos i1, z1]
    obtain ⟨M2, hM2⟩ : ∃ M2, M2 = si M1 6 (6 + τ.s.hung) (nI v) := ⟨_, rfl⟩
    have g27 : gi M2 0 27 = nI τ.s.hung := by rw [hM2, gi_si, if_neg (by omega), b3.d_h]
    rw [← hM2, g27, s2]
    have k2 : kq (fun t q => t = 6 ∧ q = 6 + τ.s.hung) M1 M2 := by rw [hM2]; exact kq.rf.si ⟨rfl, rfl⟩ _
    have hD2 : DT f e s τ ts.tail M2 := by
      have hw := hG.h_wd
      exact ⟨by rw [hM2]; exact b3.d_t.st (by omega) (by omega) _, (k2 _ _ (by omega)).trans b3.d_f, (k2 _ _ (by omega)).trans b3.d_3, (k2 _ _ (by omega)).trans b3.d_h, (k2 _ _ (by omega)).trans b3.d_p, fun c hc => ⟨(k2 _ _ (by omega)).trans (b3.d_hw c hc).1, (k2 _ _ (by omega)).trans (b3.d_hw c hc).2⟩, fun c h1 hc => ⟨(k2 _ _ (by omega)).trans (b3.d_pw c h1 hc).1, (k2 _ _ (by omega)).trans (b3.d_pw c h1 hc).2⟩, ⟨(k2 _ _ (by omega)).trans b3.d_0.1, (k2 _ _ (by omega)).trans b3.d_0.2.1, (k2 _ _ (by omega)).trans b3.d_0.2.2.1, (k2 _ _ (by omega)).trans b3.d_0.2.2.2⟩, (k2 _ _ (by omega)).trans b3.d_w, fun v hv => (k2 _ _ (by omega)).trans (b3.d_ff v hv), fun v hv => (k2 _ _ (by omega)).trans (b3.d_b v hv), fun v h1 h2 => (k2 _ _ (by omega)).trans (b3.d_z v h1 h2), ⟨(k2 _ _ (by omega)).trans b3.d_g.1, b3.d_g.2⟩, ⟨(k2 _ _ (by omega)).trans b3.d_c.1, b3.d_c.2⟩, (k2 _ _ (by omega)).trans b3.d_n, fun i hi => (k2 _ _ (by omega)).trans (b3.d_i i hi), ⟨(k2 _ _ (by omega)).trans b3.d_s.1, b3.d_s.2⟩, fun r hr => (b3.d_r r hr).kq k2 (Nat.le_refl _) (by omega) (fun q _ => by omega)⟩
    have kq2 : kq VQ M M2 := (b4.mono (fun _ _ q => q.q)).tr (k2.mono (fun t q hq => by unfold VQ; omega))
    rcases mNum (n := n) he hf hn hD2 (lo := 0) (hi := 9) (x1 := 0) (x2 := 9) (by decide) (by decide) rfl rfl with ⟨k, p, M3, x, e1, e2, e3, e4, e5⟩ | ⟨u, M3, e1, e2, e3, e4, e5, e6⟩
    · rw [e2, bR_l e1]
      dsimp only []
      simp only [ck_pos i2, z2]
      exact RU.bad ((e3.st (by omega) _).st (by omega) _) (((kq2.tr e4).si (by unfold VQ; omega) _).si (by unfold VQ; omega) _)
    · rw [e2, bR_r e1]
      dsimp only []
      simp only [ck_pos i2, z2]
      have e27 : gi (si M3 6 (22 + τ.s.hung) (nI u)) 0 27 = nI τ.s.hung := by rw [gi_si, if_neg (by omega), e3.d_h]
      rw [e27, nI_1]
      have hv6 : gi M3 6 (6 + τ.s.hung) = nI v := by
        rw [e4 _ _ (by unfold VTk; omega), hM2, gi_si, if_pos ⟨rfl, rfl⟩]
      have hD4 := e3.addH hG v u (M' := si (si M3 6 (22 + τ.s.hung) (nI u)) 0 27 (nI (τ.s.hung + 1))) ((kq.rf.si (Or.inl ⟨rfl, Or.inr rfl⟩) _).si (Or.inr ⟨rfl, rfl⟩) _) ((e3.d_t.st (by omega) (by omega) _).st (by omega) (by omega) _) (by rw [gi_si, if_neg (by omega), gi_si, if_neg (by omega)]; exact hv6) (by rw [gi_si, if_neg (by omega), gi_si, if_pos ⟨rfl, rfl⟩]) (by rw [gi_si, if_pos ⟨rfl, rfl⟩]) hall
      exact (mEndL (n := n) he hf hn hD4).of (((kq2.tr (e4.mono (fun _ _ q => q.q))).si (by unfold VQ; omega) _).si (by unfold VQ; omega) _)
end M
