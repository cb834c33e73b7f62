/-! The reference reads a line: the other kinds. -/
def Qe (τ : Td) (s t q : Nat) : Prop := (t = 0 ∧ (q = 12 ∨ q = 13 ∨ (23 ≤ q ∧ q ≤ 32))) ∨ (t = 6 ∧ (q ≤ 2 ∨ q = 5 ∨ (6 ≤ q ∧ q < 6 + τ.s.hung) ∨ (22 ≤ q ∧ q < 22 + τ.s.hung) ∨ (38 ≤ q ∧ q < 38 + τ.wd) ∨ (46 ≤ q ∧ q < 54))) ∨ ((t = 7 ∨ t = 8) ∧ q < τ.s.all - τ.s.hung) ∨ (t = 5 ∧ q < τ.t.winds) ∨ (t = 9 ∧ q < s)
section M
variable {f : Nat → Nat} {e s n : Nat} {τ : Td} {ts : List Tok} {M : Mem}
theorem DT.ke {V : Nat → Nat → Prop} {M' : Mem} (h : DT f e s τ ts M) (hG : τ.s.Good τ.wd) (k : kq V M M') (ht : SRt f e ts M') (hv : ∀ t q, Qe τ s t q → ¬ V t q) : DT f e s τ ts M' := by
  have hw := hG.h_wd
  exact ⟨ht, (k _ _ (hv _ _ (by unfold Qe; omega))).trans h.d_f, (k _ _ (hv _ _ (by unfold Qe; omega))).trans h.d_3, (k _ _ (hv _ _ (by unfold Qe; omega))).trans h.d_h, (k _ _ (hv _ _ (by unfold Qe; omega))).trans h.d_p, fun c hc => ⟨(k _ _ (hv _ _ (by unfold Qe; omega))).trans (h.d_hw c hc).1, (k _ _ (hv _ _ (by unfold Qe; omega))).trans (h.d_hw c hc).2⟩, fun c h1 hc => ⟨(k _ _ (hv _ _ (by unfold Qe; omega))).trans (h.d_pw c h1 hc).1, (k _ _ (hv _ _ (by unfold Qe; omega))).trans (h.d_pw c h1 hc).2⟩, ⟨(k _ _ (hv _ _ (by unfold Qe; omega))).trans h.d_0.1, (k _ _ (hv _ _ (by unfold Qe; omega))).trans h.d_0.2.1, (k _ _ (hv _ _ (by unfold Qe; omega))).trans h.d_0.2.2.1, (k _ _ (hv _ _ (by unfold Qe; omega))).trans h.d_0.2.2.2⟩, (k _ _ (hv _ _ (by unfold Qe; omega))).trans h.d_w, fun v hv' => (k _ _ (hv _ _ (by unfold Qe; omega))).trans (h.d_ff v hv'), fun v hv' => (k _ _ (hv _ _ (by unfold Qe; omega))).trans (h.d_b v hv'), fun v h1 h2 => (k _ _ (hv _ _ (by unfold Qe; omega))).trans (h.d_z v h1 h2), ⟨(k _ _ (hv _ _ (by unfold Qe; omega))).trans h.d_g.1, h.d_g.2⟩, ⟨(k _ _ (hv _ _ (by unfold Qe; omega))).trans h.d_c.1, h.d_c.2⟩, (k _ _ (hv _ _ (by unfold Qe; omega))).trans h.d_n, fun i hi => (k _ _ (hv _ _ (by unfold Qe; omega))).trans (h.d_i i hi), ⟨(k _ _ (hv _ _ (by unfold Qe; omega))).trans h.d_s.1, h.d_s.2⟩, fun r hr => (h.d_r r hr).kq k (Nat.le_refl _) (hv _ _ (by unfold Qe; omega)) (fun q hq => hv _ _ (by unfold Qe; omega))⟩
theorem mPlan (he : e ≤ 700) (hf : ∀ q, f q < 256) (hn : 800 < n) (h : DT f e s τ ts M) (hG : τ.s.Good τ.wd) (hall : τ.s.all < 16) : RU f e M (crsR e τ false ts) (bd (f_X9_readsPlan n M) (fun q => j_X9_line_378 n q)) := by
  have hh := hG.h_hung
  have z1 : (nI (τ.s.all - τ.s.hung)).toNatClampNeg = τ.s.all - τ.s.hung := nI_clamp (by omega)
  have i1 : inb (nI (τ.s.all - τ.s.hung)) 16 := n_in (by omega) (by decide)
  unfold f_X9_readsPlan crsR
  rcases mNum (n := n) he hf hn h (lo := 1) (hi := 9) (x1 := 1) (x2 := 9) (by decide) (by decide) rfl rfl with ⟨k, p, M1, x, b1, b2, b3, b4, b5⟩ | ⟨v, M1, b1, b2, b3, b4, b5, b6⟩
  · rw [b2, bR_l b1, h.d_p]
    dsimp only [bd]
    simp only [ck_pos i1, z1]
    have g28 : gi (si M1 7 (τ.s.all - τ.s.hung) x) 0 28 = nI (τ.s.all - τ.s.hung) := by rw [gi_si, if_neg (by omega), b5 _ _ (by omega), h.d_p]
    have f1 := b3.st (t := 7) (q := τ.s.all - τ.s.hung) (by omega) x
    rw [mNumF f1]
    dsimp only []
    rw [g28]
    simp only [ck_pos i1, z1]
    exact RU.bad ((f1.st (by omega) _).st (by omega) _) (((b4.si (by unfold VQ; omega) _).si (by unfold VQ; omega) _).si (by unfold VQ; omega) _)
  · rw [b2, bR_r b1, h.d_p]
    dsimp only [bd]
    simp only [ck_pos i1, z1]
    obtain ⟨M2, hM2⟩ : ∃ M2, M2 = si M1 7 (τ.s.all - τ.s.hung) (nI v) := ⟨_, rfl⟩
    have g28 : gi M2 0 28 = nI (τ.s.all - τ.s.hung) := by rw [hM2, gi_si, if_neg (by omega), b3.d_p]
    rw [← hM2, g28]
    have k2 : kq (fun t q => t = 7 ∧ q = τ.s.all - τ.s.hung) M1 M2 := by rw [hM2]; exact kq.rf.si ⟨rfl, rfl⟩ _
    have hD2 : DT f e s τ ts.tail M2 := b3.ke hG k2 (by rw [hM2]; exact b3.d_t.st (by omega) (by omega) _) (fun t q hq => by unfold Qe at hq; omega)
    have kq2 : kq VQ M M2 := (b4.mono (fun _ _ q => q.q)).tr (k2.mono (fun t q hq => by unfold VQ; omega))
    rcases mNum (n := n) he hf hn hD2 (lo := 0) (hi := 9) (x1 := 0) (x2 := 9) (by decide) (by decide) rfl rfl with ⟨k, p, M3, x, e1, e2, e3, e4, e5⟩ | ⟨u, M3, e1, e2, e3, e4, e5, e6⟩
    · rw [e2, bR_l e1]
      dsimp only []
      simp only [ck_pos i1, z1]
      exact RU.bad ((e3.st (by omega) _).st (by omega) _) (((kq2.tr e4).si (by unfold VQ; omega) _).si (by unfold VQ; omega) _)
    · rw [e2, bR_r e1]
      dsimp only []
      simp only [ck_pos i1, z1]
      have e28 : gi (si M3 8 (τ.s.all - τ.s.hung) (nI u)) 0 28 = nI (τ.s.all - τ.s.hung) := by rw [gi_si, if_neg (by omega), e3.d_p]
      rw [e28, nI_1]
      have hv7 : gi M3 7 (τ.s.all - τ.s.hung) = nI v := by rw [e4 _ _ (by unfold VTk; omega), hM2, gi_si, if_pos ⟨rfl, rfl⟩]
      have hD4 := e3.addP hG v u (M' := si (si M3 8 (τ.s.all - τ.s.hung) (nI u)) 0 28 (nI (τ.s.all - τ.s.hung + 1))) ((kq.rf.si (Or.inl ⟨Or.inr rfl, rfl⟩) _).si (Or.inr ⟨rfl, rfl⟩) _) ((e3.d_t.st (by omega) (by omega) _).st (by omega) (by omega) _) (by rw [gi_si, if_neg (by omega), gi_si, if_neg (by omega)]; exact hv7) (by rw [gi_si, if_neg (by omega), gi_si, if_pos ⟨rfl, rfl⟩]) (by rw [gi_si, if_pos ⟨rfl, rfl⟩])
      exact (mEndL (n := n) he hf hn hD4).of (((kq2.tr (e4.mono (fun _ _ q => q.q))).si (by unfold VQ; omega) _).si (by unfold VQ; omega) _)
theorem mGroundL (he : e ≤ 700) (hf : ∀ q, f q < 256) (hn : 800 < n) {T : Tok} (h : DT f e s τ (T :: ts) M) : RU f e M (if τ.gt = true then .inl (5, T.p) else bR (numR e 2 16 ts) (fun x => endR e (τ.setG x.1) x.2)) (j_X9_line_90 n (if τ.gt = true then 1 else 0) 0 M) := by
  unfold j_X9_line_90
  by_cases c : τ.gt = true
  · rw [if_pos c, if_pos c]
    obtain ⟨M1, a1, a2, a3⟩ := mBegF (n := n) h (a := 0) (b := 1) (k := 5) (Or.inr ⟨rfl, rfl, rfl⟩)
    rw [a1]
    dsimp only [bd]
    rw [if_pos (show (0 : Int32) = 0 from rfl)]
    exact RU.bad a2 a3
  · rw [if_neg c, if_neg c]
    obtain ⟨M1, a1, a2, a3⟩ := mBeg (n := n) he hf hn h
    have a2' : DT f e s τ ts M1 := a2
    rw [a1]
    dsimp only [bd]
    rw [if_neg (show ¬ (1 : Int32) = 0 by decide)]
    rcases mNum (n := n) he hf hn a2' (lo := 2) (hi := 16) (x1 := 2) (x2 := 16) (by decide) (by decide) rfl rfl with ⟨k, p, M2, x, b1, b2, b3, b4, b5⟩ | ⟨v, M2, b1, b2, b3, b4, b5, b6⟩
    · rw [b2, bR_l b1]
      dsimp only []
      exact RU.bad (b3.st (by omega) _) ((a3.tr b4).si (by unfold VQ; omega) _)
    · rw [b2, bR_r b1]
      dsimp only []
      have k2 : kq (fun t q => t = 0 ∧ q = 24) M2 (si M2 0 24 (nI v)) := kq.rf.si ⟨rfl, rfl⟩ _
      have hD : DT f e s (τ.setG v) ts.tail (si M2 0 24 (nI v)) := ⟨b3.d_t.st (by omega) (by omega) _, (k2 _ _ (by omega)).trans b3.d_f, (k2 _ _ (by omega)).trans b3.d_3, (k2 _ _ (by omega)).trans b3.d_h, (k2 _ _ (by omega)).trans b3.d_p, fun c hc => ⟨(k2 _ _ (by omega)).trans (b3.d_hw c hc).1, (k2 _ _ (by omega)).trans (b3.d_hw c hc).2⟩, fun c h1 hc => ⟨(k2 _ _ (by omega)).trans (b3.d_pw c h1 hc).1, (k2 _ _ (by omega)).trans (b3.d_pw c h1 hc).2⟩, ⟨(k2 _ _ (by omega)).trans b3.d_0.1, (k2 _ _ (by omega)).trans b3.d_0.2.1, (k2 _ _ (by omega)).trans b3.d_0.2.2.1, (k2 _ _ (by omega)).trans b3.d_0.2.2.2⟩, (k2 _ _ (by omega)).trans b3.d_w, fun v hv => (k2 _ _ (by omega)).trans (b3.d_ff v hv), fun v hv => (k2 _ _ (by omega)).trans (b3.d_b v hv), fun v h1 h2 => (k2 _ _ (by omega)).trans (b3.d_z v h1 h2), ⟨by rw [gi_si, if_pos ⟨rfl, rfl⟩]; rfl, fun q => absurd q (show ¬ true = false by decide)⟩, ⟨(k2 _ _ (by omega)).trans b3.d_c.1, b3.d_c.2⟩, (k2 _ _ (by omega)).trans b3.d_n, fun i hi => (k2 _ _ (by omega)).trans (b3.d_i i hi), ⟨(k2 _ _ (by omega)).trans b3.d_s.1, b3.d_s.2⟩, fun r hr => (b3.d_r r hr).kq k2 (Nat.le_refl _) (by omega) (fun q _ => by omega)⟩
      exact (mEndL (n := n) he hf hn hD).of ((a3.tr (b4.mono (fun _ _ q => q.q))).si (by unfold VQ; omega) _)
theorem mCostL (he : e ≤ 700) (hf : ∀ q, f q < 256) (hn : 800 < n) {T : Tok} (h : DT f e s τ (T :: ts) M) : RU f e M (if τ.ct = true then .inl (5, T.p) else bR (numR e 1 99 ts) (fun x => endR e (τ.setC x.1) x.2)) (j_X9_line_131 n (if τ.ct = true then 1 else 0) 0 M) := by
  unfold j_X9_line_131
  by_cases c : τ.ct = true
  · rw [if_pos c, if_pos c]
    obtain ⟨M1, a1, a2, a3⟩ := mBegF (n := n) h (a := 0) (b := 1) (k := 5) (Or.inr ⟨rfl, rfl, rfl⟩)
    rw [a1]
    dsimp only [bd]
    rw [if_pos (show (0 : Int32) = 0 from rfl)]
    exact RU.bad a2 a3
  · rw [if_neg c, if_neg c]
    obtain ⟨M1, a1, a2, a3⟩ := mBeg (n := n) he hf hn h
    have a2' : DT f e s τ ts M1 := a2
    rw [a1]
    dsimp only [bd]
    rw [if_neg (show ¬ (1 : Int32) = 0 by decide)]
    rcases mNum (n := n) he hf hn a2' (lo := 1) (hi := 99) (x1 := 1) (x2 := 99) (by decide) (by decide) rfl rfl with ⟨k, p, M2, x, b1, b2, b3, b4, b5⟩ | ⟨v, M2, b1, b2, b3, b4, b5, b6⟩
    · rw [b2, bR_l b1]
      dsimp only []
      exact RU.bad (b3.st (by omega) _) ((a3.tr b4).si (by unfold VQ; omega) _)
    · rw [b2, bR_r b1]
      dsimp only []
      have k2 : kq (fun t q => t = 0 ∧ q = 25) M2 (si M2 0 25 (nI v)) := kq.rf.si ⟨rfl, rfl⟩ _
      have hD : DT f e s (τ.setC v) ts.tail (si M2 0 25 (nI v)) := ⟨b3.d_t.st (by omega) (by omega) _, (k2 _ _ (by omega)).trans b3.d_f, (k2 _ _ (by omega)).trans b3.d_3, (k2 _ _ (by omega)).trans b3.d_h, (k2 _ _ (by omega)).trans b3.d_p, fun c hc => ⟨(k2 _ _ (by omega)).trans (b3.d_hw c hc).1, (k2 _ _ (by omega)).trans (b3.d_hw c hc).2⟩, fun c h1 hc => ⟨(k2 _ _ (by omega)).trans (b3.d_pw c h1 hc).1, (k2 _ _ (by omega)).trans (b3.d_pw c h1 hc).2⟩, ⟨(k2 _ _ (by omega)).trans b3.d_0.1, (k2 _ _ (by omega)).trans b3.d_0.2.1, (k2 _ _ (by omega)).trans b3.d_0.2.2.1, (k2 _ _ (by omega)).trans b3.d_0.2.2.2⟩, (k2 _ _ (by omega)).trans b3.d_w, fun v hv => (k2 _ _ (by omega)).trans (b3.d_ff v hv), fun v hv => (k2 _ _ (by omega)).trans (b3.d_b v hv), fun v h1 h2 => (k2 _ _ (by omega)).trans (b3.d_z v h1 h2), ⟨(k2 _ _ (by omega)).trans b3.d_g.1, b3.d_g.2⟩, ⟨by rw [gi_si, if_pos ⟨rfl, rfl⟩]; rfl, fun q => absurd q (show ¬ true = false by decide)⟩, (k2 _ _ (by omega)).trans b3.d_n, fun i hi => (k2 _ _ (by omega)).trans (b3.d_i i hi), ⟨(k2 _ _ (by omega)).trans b3.d_s.1, b3.d_s.2⟩, fun r hr => (b3.d_r r hr).kq k2 (Nat.le_refl _) (by omega) (fun q _ => by omega)⟩
      exact (mEndL (n := n) he hf hn hD).of ((a3.tr (b4.mono (fun _ _ q => q.q))).si (by unfold VQ; omega) _)
theorem mWardL (he : e ≤ 700) (hf : ∀ q, f q < 256) (hn : 800 < n) {T : Tok} (h : DT f e s τ (T :: ts) M) (hG : τ.s.Good τ.wd) : RU f e M (if 8 ≤ τ.wd then .inl (2, T.p) else bR (numR e 0 99 ts) (fun x => endR e (τ.addW x.1) x.2)) (j_X9_line_172 n (if 8 ≤ τ.wd then 1 else 0) M) := by
  have hw8 := hG.h_wd
  have hh := hG.h_hung
  have ha := hG.h_all
  unfold j_X9_line_172
  by_cases c : 8 ≤ τ.wd
  · rw [if_pos c, if_pos c]
    obtain ⟨M1, a1, a2, a3⟩ := mBegF (n := n) h (a := 1) (b := 0) (k := 2) (Or.inl ⟨rfl, rfl, rfl⟩)
    rw [a1]
    dsimp only [bd]
    rw [if_pos (show (0 : Int32) = 0 from rfl)]
    exact RU.bad a2 a3
  · rw [if_neg c, if_neg c]
    obtain ⟨M1, a1, a2, a3⟩ := mBeg (n := n) he hf hn h
    have a2' : DT f e s τ ts M1 := a2
    rw [a1]
    dsimp only [bd]
    rw [if_neg (show ¬ (1 : Int32) = 0 by decide)]
    unfold f_X9_readsWard
    have s1 : (38 : Int32) + nI τ.wd = nI (38 + τ.wd) := nI_add 38 _
    have z1 : (nI (38 + τ.wd)).toNatClampNeg = 38 + τ.wd := nI_clamp (by omega)
    have i1 : inb (nI (38 + τ.wd)) 54 := n_in (by omega) (by decide)
    rw [a2'.d_w, s1]
    simp only [ck_pos i1, z1]
    rcases mNum (n := n) he hf hn a2' (lo := 0) (hi := 99) (x1 := 0) (x2 := 99) (by decide) (by decide) rfl rfl with ⟨k, p, M2, x, b1, b2, b3, b4, b5⟩ | ⟨v, M2, b1, b2, b3, b4, b5, b6⟩
    · rw [b2, bR_l b1]
      dsimp only [bd]
      have f1 := b3.st (t := 6) (q := 38 + τ.wd) (by omega) x
      rw [f1.bad]
      dsimp only []
      rw [if_pos (show (0 : Int32) = 0 from rfl)]
      exact RU.bad f1 ((a3.tr b4).si (by unfold VQ; omega) _)
    · rw [b2, bR_r b1]
      dsimp only [bd]
      obtain ⟨M3, hM3⟩ : ∃ M3, M3 = si M2 6 (38 + τ.wd) (nI v) := ⟨_, rfl⟩
      have k3 : kq (fun t q => t = 6 ∧ q = 38 + τ.wd) M2 M3 := by rw [hM3]; exact kq.rf.si ⟨rfl, rfl⟩ _
      have hD3 : DT f e s τ ts.tail M3 := b3.ke hG k3 (by rw [hM3]; exact b3.d_t.st (by omega) (by omega) _) (fun t q hq => by unfold Qe at hq; omega)
      rw [← hM3, hD3.good]
      dsimp only []
      rw [if_neg (show ¬ (1 : Int32) = 0 by decide), hD3.d_w, nI_1]
      have k2 : kq (fun t q => t = 0 ∧ q = 23) M3 (si M3 0 23 (nI (τ.wd + 1))) := kq.rf.si ⟨rfl, rfl⟩ _
      have hD : DT f e s (τ.addW v) ts.tail (si M3 0 23 (nI (τ.wd + 1))) := by
        refine ⟨hD3.d_t.st (by omega) (by omega) _, (k2 _ _ (by omega)).trans hD3.d_f, (k2 _ _ (by omega)).trans hD3.d_3, (k2 _ _ (by omega)).trans hD3.d_h, (k2 _ _ (by omega)).trans hD3.d_p, fun c hc => ⟨(k2 _ _ (by omega)).trans (hD3.d_hw c hc).1, (k2 _ _ (by omega)).trans (hD3.d_hw c hc).2⟩, fun c h1 hc => ⟨(k2 _ _ (by omega)).trans (hD3.d_pw c h1 hc).1, (k2 _ _ (by omega)).trans (hD3.d_pw c h1 hc).2⟩, ⟨(k2 _ _ (by omega)).trans hD3.d_0.1, (k2 _ _ (by omega)).trans hD3.d_0.2.1, (k2 _ _ (by omega)).trans hD3.d_0.2.2.1, (k2 _ _ (by omega)).trans hD3.d_0.2.2.2⟩, by rw [gi_si, if_pos ⟨rfl, rfl⟩]; rfl, fun u hu => ?_, fun u hu => ?_, fun u h1 h2 => ?_, ⟨(k2 _ _ (by omega)).trans hD3.d_g.1, hD3.d_g.2⟩, ⟨(k2 _ _ (by omega)).trans hD3.d_c.1, hD3.d_c.2⟩, (k2 _ _ (by omega)).trans hD3.d_n, fun i hi => (k2 _ _ (by omega)).trans (hD3.d_i i hi), ⟨(k2 _ _ (by omega)).trans hD3.d_s.1, hD3.d_s.2⟩, fun r hr => (hD3.d_r r hr).kq k2 (Nat.le_refl _) (by omega) (fun q _ => by omega)⟩
        · have hu' : u < τ.wd + 1 := hu
          show gi (si M3 0 23 (nI (τ.wd + 1))) 6 (38 + u) = nI (updN τ.wd v τ.s.faith u)
          rw [k2 _ _ (by omega)]
          unfold updN
          by_cases q : u = τ.wd
          · rw [if_pos q, hM3, gi_si, if_pos ⟨rfl, by omega⟩]
          · rw [if_neg q]
            exact hD3.d_ff u (by omega)
        · have hu' : u < τ.wd + 1 := hu
          show gi (si M3 0 23 (nI (τ.wd + 1))) 6 (46 + u) = nI (updN τ.wd 0 τ.s.beside u)
          rw [k2 _ _ (by omega)]
          unfold updN
          by_cases q : u = τ.wd
          · rw [if_pos q]
            exact hD3.d_z u (by omega) (by omega)
          · rw [if_neg q]
            exact hD3.d_b u (by omega)
        · have h1' : τ.wd + 1 ≤ u := h1
          rw [k2 _ _ (by omega)]
          exact hD3.d_z u (by omega) h2
      exact (mEndL (n := n) he hf hn hD).of (((a3.tr (b4.mono (fun _ _ q => q.q))).tr (k3.mono (fun t q hq => by unfold VQ; omega))).tr (k2.mono (fun t q hq => by unfold VQ; omega)))
theorem mHere (hf : ∀ q, f q < 256) (h : DT f e s τ ts M) (hG : τ.s.Good τ.wd) (he : e ≤ 700) : (∃ k p M', wdR e τ.wd ts = .inl (k, p) ∧ f_X9_isWardHere n M = some (0, M') ∧ FT k p M' ∧ kq VQ M M') ∨ (∃ v, wdR e τ.wd ts = .inr (v, ts.tail) ∧ f_X9_isWardHere n M = some (1, M) ∧ gi M 0 20 = nI v ∧ v < τ.wd) := by
  have hw8 := hG.h_wd
  have t := h.d_t.tf hf
  have hk := t.f_k
  have hnx := t.f_n
  have h57F : ∀ k p M', FT k p M' → j_X9_isWardHere_57 n M' = some (0, M') := by
    intro k p M' hM'
    unfold j_X9_isWardHere_57
    rw [hM'.bad]
    dsimp only [bd]
    rw [ck_pos (Or.inl rfl)]
  unfold f_X9_isWardHere wdR
  rw [h.good]
  dsimp only [bd]
  rw [if_neg (show ¬ (1 : Int32) = 0 by decide), h.d_t.2.m_k, h.d_t.2.m_l]
  by_cases c2 : (hdT e ts).k = 2
  · have hv := t.f_2 c2
    have h20 := h.d_t.2.m_d c2
    rw [if_pos (show nI (hdT e ts).k = (2 : Int32) by rw [c2]; rfl)]
    by_cases c4 : (hdT e ts).nx - (hdT e ts).p ≤ 4
    · rw [if_pos (show nI ((hdT e ts).nx - (hdT e ts).p) ≤ (4 : Int32) from nI_le (b := 4) c4 (by decide)), if_pos ⟨c2, c4⟩, h20, h.d_w]
      by_cases cv : (hdT e ts).v < τ.wd
      · rw [if_pos (nI_lt cv (by omega)), if_pos cv]
        refine Or.inr ⟨_, rfl, ?_, rfl, cv⟩
        unfold j_X9_isWardHere_57
        rw [h.good]
        dsimp only [bd]
        rw [ck_pos (Or.inr rfl)]
      · obtain ⟨M0, w1, w2, w3, w4⟩ := h.wrong (n := n) (k := 3) (x := 3) (by decide) rfl
        rw [if_neg (nI_nlt (by omega) (by omega)), if_neg cv, w1]
        dsimp only []
        rw [h57F _ _ _ w2]
        exact Or.inl ⟨3, _, M0, rfl, rfl, w2, w3⟩
    · obtain ⟨M0, w1, w2, w3, w4⟩ := h.wrong (n := n) (k := 2) (x := 2) (by decide) rfl
      rw [if_neg (show ¬ nI ((hdT e ts).nx - (hdT e ts).p) ≤ (4 : Int32) from nI_ge (a := 4) (by omega) (by omega)), if_neg (fun q => c4 q.2), w1, if_pos c2]
      dsimp only []
      rw [h57F _ _ _ w2]
      exact Or.inl ⟨2, _, M0, rfl, rfl, w2, w3⟩
  · obtain ⟨M0, w1, w2, w3, w4⟩ := h.wrong (n := n) (k := 1) (x := 1) (by decide) rfl
    rw [if_neg (ne_2 c2 (by omega)), if_neg (fun q => c2 q.1), w1, if_neg c2]
    dsimp only []
    rw [h57F _ _ _ w2]
    exact Or.inl ⟨1, _, M0, rfl, rfl, w2, w3⟩
theorem st_or : ∀ a, a < 256 → ∀ o, o < 8 → a.testBit o = false → a ||| 2 ^ o = a ^^^ 2 ^ o := by decide +kernel
theorem mStreetL (he : e ≤ 700) (hf : ∀ q, f q < 256) (hn : 800 < n) (h : DT f e s τ ts M) (hG : τ.s.Good τ.wd) : RU f e M (strR e τ ts) (bd (f_X9_readsStreet n M) (fun q => j_X9_line_378 n q)) := by
  have hw8 := hG.h_wd
  unfold f_X9_readsStreet strR
  rcases mHere (n := n) hf h hG he with ⟨k, p, M1, b1, b2, b3, b4⟩ | ⟨a, b1, b2, b3, b4⟩
  · rw [b2, bR_l b1]
    dsimp only [bd]
    rw [if_pos (show (0 : Int32) = 0 from rfl)]
    exact RU.bad b3 b4
  rw [b2, bR_r b1]
  dsimp only [bd]
  rw [if_neg (show ¬ (1 : Int32) = 0 by decide)]
  obtain ⟨M1, a1, a2, a3⟩ := h.go he hf hn
  rw [a1]
  dsimp only []
  rcases mHere (n := n) hf a2 hG he with ⟨k, p, M2, d1, d2, d3, d4⟩ | ⟨b, d1, d2, d3, d4⟩
  · rw [d2, bR_l d1]
    dsimp only []
    rw [if_pos (show (0 : Int32) = 0 from rfl)]
    exact RU.bad d3 ((a3.mono (fun _ _ q => q.q)).tr d4)
  rw [d2, bR_r d1]
  dsimp only []
  rw [if_neg (show ¬ (1 : Int32) = 0 by decide), b3, d3]
  have s1 : (46 : Int32) + nI a = nI (46 + a) := nI_add 46 a
  have s2 : (46 : Int32) + nI b = nI (46 + b) := nI_add 46 b
  have z1 : (nI (46 + a)).toNatClampNeg = 46 + a := nI_clamp (by omega)
  have z2 : (nI (46 + b)).toNatClampNeg = 46 + b := nI_clamp (by omega)
  have i1 : inb (nI (46 + a)) 54 := n_in (by omega) (by decide)
  have i2 : inb (nI (46 + b)) 54 := n_in (by omega) (by decide)
  have hbad : RU f e M (.inl (4, (hdT e ts.tail).p)) (bd (j_X9_readsStreet_52 n (nI a) (nI b) M1) (fun q => j_X9_line_378 n q)) := by
    obtain ⟨M0, w1, w2, w3, w4⟩ := a2.wrong (n := n) (k := 4) (x := 4) (by decide) rfl
    unfold j_X9_readsStreet_52
    rw [w1]
    dsimp only [bd]
    unfold j_X9_readsStreet_57
    rw [w2.bad]
    dsimp only [bd]
    rw [if_pos (show (0 : Int32) = 0 from rfl)]
    exact RU.bad w2 ((a3.mono (fun _ _ q => q.q)).tr w3)
  by_cases cab : b = a
  · rw [if_pos (show b = a ∨ (τ.s.beside a).testBit b = true from Or.inl cab), if_pos (show nI a = nI b by rw [cab])]
    exact hbad
  · rw [if_neg (show ¬ nI a = nI b from fun q => cab ((nI_eq (by omega) (by omega)).mp q).symm), s1]
    simp only [ck_pos i1, z1, a2.d_b a b4]
    have hp : 2 ^ τ.wd ≤ 2 ^ 8 := Nat.pow_le_pow_right (by decide) hw8
    have ga := hG.h_beside a b4
    have gb := hG.h_beside b d4
    have hbb := (bit_if (S := τ.s.beside a) (o := b) (by omega) (by omega)).1
    by_cases c : (τ.s.beside a).testBit b = true
    · rw [if_pos (show b = a ∨ (τ.s.beside a).testBit b = true from Or.inr c), if_pos (hbb.mpr c)]
      exact hbad
    · rw [if_neg (show ¬ (b = a ∨ (τ.s.beside a).testBit b = true) by
        rintro (q | q)
        · exact cab q
        · exact c q), if_neg (fun q => c (hbb.mp q))]
      have cf : (τ.s.beside a).testBit b = false := by
        cases q : (τ.s.beside a).testBit b with
        | true => exact absurd q c
        | false => rfl
      have cf2 : (τ.s.beside b).testBit a = false := by rw [← hG.h_sym a b b4 d4]; exact cf
      unfold j_X9_readsStreet_57
      rw [a2.good]
      dsimp only [bd]
      rw [if_neg (show ¬ (1 : Int32) = 0 by decide), s1, s2]
      simp only [ck_pos i1, ck_pos i2, z1, z2]
      rw [one_sh a (by omega), one_sh b (by omega), a2.d_b a b4, nI_or, st_or _ (by omega) b (by omega) cf, show gi (si M1 6 (46 + a) (nI (τ.s.beside a ^^^ 2 ^ b))) 6 (46 + b) = nI (τ.s.beside b) by rw [gi_si, if_neg (by omega)]; exact a2.d_b b d4, nI_or, st_or _ (by omega) a (by omega) cf2]
      obtain ⟨M3, hM3⟩ : ∃ M3, M3 = si (si M1 6 (46 + a) (nI (τ.s.beside a ^^^ 2 ^ b))) 6 (46 + b) (nI (τ.s.beside b ^^^ 2 ^ a)) := ⟨_, rfl⟩
      rw [← hM3]
      have k2 : kq (fun t q => t = 6 ∧ (q = 46 + a ∨ q = 46 + b)) M1 M3 := by rw [hM3]; exact (kq.rf.si ⟨rfl, Or.inl rfl⟩ _).si ⟨rfl, Or.inr rfl⟩ _
      have hh := hG.h_hung
      have hal := hG.h_all
      have hD : DT f e s (τ.setS (τ.s.setBeside (τ.s.tb a b))) ts.tail M3 := by
        refine ⟨by rw [hM3]; exact (a2.d_t.st (by omega) (by omega) _).st (by omega) (by omega) _, (k2 _ _ (by omega)).trans a2.d_f, (k2 _ _ (by omega)).trans a2.d_3, (k2 _ _ (by omega)).trans a2.d_h, (k2 _ _ (by omega)).trans a2.d_p, fun c hc => ⟨(k2 _ _ (by have hc' : c < τ.s.hung := hc; omega)).trans (a2.d_hw c hc).1, (k2 _ _ (by have hc' : c < τ.s.hung := hc; omega)).trans (a2.d_hw c hc).2⟩, fun c h1 hc => ⟨(k2 _ _ (by omega)).trans (a2.d_pw c h1 hc).1, (k2 _ _ (by omega)).trans (a2.d_pw c h1 hc).2⟩, ⟨(k2 _ _ (by omega)).trans a2.d_0.1, (k2 _ _ (by omega)).trans a2.d_0.2.1, (k2 _ _ (by omega)).trans a2.d_0.2.2.1, (k2 _ _ (by omega)).trans a2.d_0.2.2.2⟩, (k2 _ _ (by omega)).trans a2.d_w, fun v hv => (k2 _ _ (by have hv' : v < τ.wd := hv; omega)).trans (a2.d_ff v hv), fun v hv => ?_, fun v h1 h2 => (k2 _ _ (by have h1' : τ.wd ≤ v := h1; omega)).trans (a2.d_z v h1 h2), ⟨(k2 _ _ (by omega)).trans a2.d_g.1, a2.d_g.2⟩, ⟨(k2 _ _ (by omega)).trans a2.d_c.1, a2.d_c.2⟩, (k2 _ _ (by omega)).trans a2.d_n, fun i hi => (k2 _ _ (by omega)).trans (a2.d_i i hi), ⟨(k2 _ _ (by omega)).trans a2.d_s.1, a2.d_s.2⟩, fun r hr => (a2.d_r r hr).kq k2 (Nat.le_refl _) (by omega) (fun q _ => by omega)⟩
        show gi M3 6 (46 + v) = nI (τ.s.tb a b v)
        unfold Sp.tb
        rw [hM3, gi_si]
        by_cases c1 : v = a
        · subst c1
          rw [if_neg (by omega), gi_si, if_pos ⟨rfl, rfl⟩, if_pos rfl]
        · rw [if_neg c1]
          by_cases c2 : v = b
          · rw [if_pos ⟨rfl, by omega⟩, if_pos c2]
          · rw [if_neg (by omega), gi_si, if_neg (by omega), if_neg c2]
            exact a2.d_b v hv
      obtain ⟨M4, g1, g2, g3⟩ := hD.go he hf hn
      rw [g1]
      exact (mEndL (n := n) he hf hn g2).of (((a3.mono (fun _ _ q => q.q)).tr (k2.mono (fun t q hq => by unfold VQ; omega))).tr (g3.mono (fun _ _ q => q.q)))
end M
