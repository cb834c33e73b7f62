/-! The class reads a line. -/
section L
variable {f : Nat → Nat} {e j w n : Nat} {τ : Td} {ts : List Tok} {M : Mem}
theorem tl_le {L : Nat} {ts : List Tok} (h : ts.length ≤ L) : ts.tail.length ≤ L := by
  rw [List.length_tail]
  omega
theorem bR_l {α : Type} {x : (Nat × Nat) ⊕ α} {y : Nat × Nat} {k : α → LR} (h : x = .inl y) : bR x k = .inl y := by rw [h]; rfl
theorem bR_r {α : Type} {x : (Nat × Nat) ⊕ α} {y : α} {k : α → LR} (h : x = .inr y) : bR x k = k y := by rw [h]; rfl
theorem cCourse (he : e ≤ 700) (hf : ∀ q, f q < 256) (hn : 800 < n) (hj : j = 46 ∨ j = 53) {L : Nat} {T : Tok} (h : CTd f e j w τ (T :: ts) M) (hL : ts.length ≤ L) (hg : Bool) {x : Int32} (hx : x = if hg then 1 else 0) : CU f e j L M (if 16 ≤ τ.s.all then .inl (2, T.p) else crsR e τ hg ts) (f_X2_readCourse n x M) := by
  have hall := h.c_G.1.h_all
  unfold f_X2_readCourse
  rw [h.c_s.all]
  by_cases c : 16 ≤ τ.s.all
  · rw [if_pos c, if_neg (show ¬ nI τ.s.all < (16 : Int32) from nI_nlt (b := 16) c (by omega))]
    exact (cBadX (n := n) (ts := T :: ts) (by decide) rfl h.c_x.q_s rfl).ck
  · rw [if_neg c, if_pos (show nI τ.s.all < (16 : Int32) from nI_lt (b := 16) (by omega) (by decide))]
    obtain ⟨M1, a1, a2, a3⟩ := h.go he hf hn hj
    have a2' : CTd f e j w τ ts M1 := a2
    rw [a1]
    dsimp only [bd]
    unfold crsR
    rcases cNum (n := n) he hf a2' (lo := 1) (hi := 9) (by decide) (by decide) with ⟨k, p, M2, b1, b2, b3⟩ | ⟨v, b1, b2, b3, b4, b5⟩
    · rw [show f_X2_isNumber n (1 : Int32) (9 : Int32) M1 = some (0, M2) from b2, bR_l b1]
      dsimp only []
      rw [if_pos (show (0 : Int32) = 0 from rfl)]
      exact CU.of (M1 := M1) (Or.inl ⟨k, p, M2, rfl, rfl, b3⟩) (a3)
    rw [show f_X2_isNumber n (1 : Int32) (9 : Int32) M1 = some (1, M1) from b2, bR_r b1]
    dsimp only []
    rw [if_neg (show ¬ (1 : Int32) = 0 by decide)]
    obtain ⟨M2, d1, d2, d3⟩ := a2'.go he hf hn hj
    rw [d1]
    dsimp only []
    rcases cNum (n := n) he hf d2 (lo := 0) (hi := 9) (by decide) (by decide) with ⟨k, p, M3, e1, e2, e3⟩ | ⟨u, e1, e2, e3, e4, e5⟩
    · rw [show f_X2_isNumber n (0 : Int32) (9 : Int32) M2 = some (0, M3) from e2, bR_l e1]
      dsimp only []
      rw [if_pos (show (0 : Int32) = 0 from rfl)]
      exact CU.of (M1 := M2) (Or.inl ⟨k, p, M3, rfl, rfl, e3⟩) ((a3.tr d3))
    rw [show f_X2_isNumber n (0 : Int32) (9 : Int32) M2 = some (1, M2) from e2, bR_r e1]
    dsimp only []
    rw [if_neg (show ¬ (1 : Int32) = 0 by decide), b3, e3]
    obtain ⟨M3, g1, g2, g3⟩ := cAdd (n := n) (a := v) (b := u) hn hg d2.c_G.1 d2.c_s (by omega) hx
    rw [g1]
    dsimp only []
    have hC : CTd f e j w (τ.setS (τ.s.addC hg v u)) ts.tail M3 := by
      have hx3 : CXt f e j w ts.tail M3 := d2.c_x.kq g3 (fun q _ _ => by unfold VA1; omega) (fun q => by unfold VA1; omega) (by unfold VA1; omega)
      exact ⟨hx3, g2, fun v h1 h2 => (g3 _ _ (by unfold VA1; omega)).trans (d2.c_b v h1 h2), (g3 _ _ (by unfold VA1; omega)).trans d2.c_g, (g3 _ _ (by unfold VA1; omega)).trans d2.c_c, (g3 _ _ (by unfold VA1; omega)).trans d2.c_0, d2.c_d, (g3 _ _ (by unfold VA1; omega)).trans d2.c_8, (g3 _ _ (by unfold VA1; omega)).trans d2.c_9, (g3 _ _ (by unfold VA1; omega)).trans d2.c_7, fun i hi => (g3 _ _ (by unfold VA1; omega)).trans (d2.c_i i hi), fun r hr => (d2.c_r r hr).kq g3 (Nat.le_refl _) (by unfold VA1; omega) (by unfold VA1; omega) (fun q _ => by unfold VA1; omega), addC_good d2.c_G.1 (by omega) ⟨b4, b5⟩ e5, d2.c_G.2⟩
    obtain ⟨M4, i1, i2, i3⟩ := hC.go he hf hn hj
    rw [i1]
    dsimp only []
    exact ((cEnd (n := n) he hf hn hj i2 (tl_le (tl_le hL))).ck).of (((a3.tr d3).tr (g3.mono (fun t k q => by unfold VA1 at q; unfold VK; omega))).tr i3)
theorem cGround (he : e ≤ 700) (hf : ∀ q, f q < 256) (hn : 800 < n) (hj : j = 46 ∨ j = 53) {L : Nat} {T : Tok} (h : CTd f e j w τ (T :: ts) M) (hL : ts.length ≤ L) : CU f e j L M (if τ.gt = true then .inl (5, T.p) else bR (numR e 2 16 ts) (fun x => endR e (τ.setG x.1) x.2)) (f_X2_readGround n M) := by
  unfold f_X2_readGround
  rw [h.c_g]
  by_cases c : τ.gt = true
  · rw [if_pos c, if_pos c, if_neg (show ¬ (1 : Int32) = 0 by decide)]
    exact (cBadX (n := n) (ts := T :: ts) (by decide) rfl h.c_x.q_s rfl).ck
  · rw [if_neg c, if_neg c, if_pos (show (0 : Int32) = 0 from rfl)]
    have k0 : kq (fun t k => t = 44 ∧ k = 13) M (si M 44 13 1) := kq.rf.si ⟨rfl, rfl⟩ _
    have hx0 : CXt f e j w (T :: ts) (si M 44 13 1) := h.c_x.kq k0 (fun q _ _ => by omega) (fun q => by omega) (by omega)
    obtain ⟨M1, a1, a2, a3⟩ := hx0.go he hf hn hj
    have a2' : CXt f e j w ts M1 := a2
    rw [a1]
    dsimp only [bd]
    have kk : kq (fun t k => (t = 44 ∧ k = 13) ∨ VL t k) M M1 := (k0.mono (fun _ _ q => Or.inl q)).tr (a3.mono (fun _ _ q => Or.inr q))
    have kv : kq (VK j) M M1 := kk.mono (fun t k q => by unfold VL at q; unfold VK; omega)
    have hT : CTd f e j w (τ.setG τ.t.ground) ts M1 := ⟨a2', h.c_s.kq kk (fun t k _ _ => by unfold VL; omega), fun v h1 h2 => (kk _ _ (by unfold VL; omega)).trans (h.c_b v h1 h2), by rw [a3 _ _ (by unfold VL; omega), gi_si, if_pos ⟨rfl, rfl⟩]; rfl, (kk _ _ (by unfold VL; omega)).trans h.c_c, (kk _ _ (by unfold VL; omega)).trans h.c_0, h.c_d, (kk _ _ (by unfold VL; omega)).trans h.c_8, (kk _ _ (by unfold VL; omega)).trans h.c_9, (kk _ _ (by unfold VL; omega)).trans h.c_7, fun i hi => (kk _ _ (by unfold VL; omega)).trans (h.c_i i hi), fun r hr => (h.c_r r hr).kq kk (Nat.le_refl _) (by unfold VL; omega) (by unfold VL; omega) (fun q _ => by unfold VL; omega), h.c_G.1, setG_good h.c_G.2 h.c_G.2.h_ground⟩
    rcases cNum (n := n) he hf hT (lo := 2) (hi := 16) (by decide) (by decide) with ⟨k, p, M2, b1, b2, b3⟩ | ⟨v, b1, b2, b3, b4, b5⟩
    · rw [show f_X2_isNumber n (2 : Int32) (16 : Int32) M1 = some (0, M2) from b2, bR_l b1]
      dsimp only []
      rw [if_pos (show (0 : Int32) = 0 from rfl)]
      exact CU.of (M1 := M1) (Or.inl ⟨k, p, M2, rfl, rfl, b3⟩) (kv)
    rw [show f_X2_isNumber n (2 : Int32) (16 : Int32) M1 = some (1, M1) from b2, bR_r b1]
    dsimp only []
    have zj : (nI j).toNatClampNeg = j := nI_clamp (by omega)
    rw [if_neg (show ¬ (1 : Int32) = 0 by decide), a2'.q_j]
    simp only [zj]
    rw [ck_pos (by unfold isTwB; omega), b3]
    have k2 : kq (fun t k => t = j ∧ k = 8) M1 (si M1 j 8 (nI v)) := kq.rf.si ⟨rfl, rfl⟩ _
    have hC : CTd f e j w (τ.setG v) ts (si M1 j 8 (nI v)) := ⟨a2'.kq k2 (fun q _ _ => by omega) (fun q => by omega) (by omega), hT.c_s.kq k2 (fun t k _ _ => by omega), fun v h1 h2 => (k2 _ _ (by omega)).trans (hT.c_b v h1 h2), (k2 _ _ (by omega)).trans hT.c_g, (k2 _ _ (by omega)).trans hT.c_c, (k2 _ _ (by omega)).trans hT.c_0, hT.c_d, by rw [gi_si, if_pos ⟨rfl, rfl⟩]; rfl, (k2 _ _ (by omega)).trans hT.c_9, (k2 _ _ (by omega)).trans hT.c_7, fun i hi => (k2 _ _ (by omega)).trans (hT.c_i i hi), fun r hr => (hT.c_r r hr).kq k2 (Nat.le_refl _) (by omega) (by omega) (fun q _ => by omega), hT.c_G.1, setG_good h.c_G.2 ⟨b4, b5⟩⟩
    obtain ⟨M4, i1, i2, i3⟩ := hC.go he hf hn hj
    rw [i1]
    dsimp only []
    exact ((cEnd (n := n) he hf hn hj i2 (tl_le hL)).ck).of ((kv.tr (k2.mono (fun t k q => by unfold VK; omega))).tr i3)
theorem cCost (he : e ≤ 700) (hf : ∀ q, f q < 256) (hn : 800 < n) (hj : j = 46 ∨ j = 53) {L : Nat} {T : Tok} (h : CTd f e j w τ (T :: ts) M) (hL : ts.length ≤ L) : CU f e j L M (if τ.ct = true then .inl (5, T.p) else bR (numR e 1 99 ts) (fun x => endR e (τ.setC x.1) x.2)) (f_X2_readCost n M) := by
  unfold f_X2_readCost
  rw [h.c_c]
  by_cases c : τ.ct = true
  · rw [if_pos c, if_pos c, if_neg (show ¬ (1 : Int32) = 0 by decide)]
    exact (cBadX (n := n) (ts := T :: ts) (by decide) rfl h.c_x.q_s rfl).ck
  · rw [if_neg c, if_neg c, if_pos (show (0 : Int32) = 0 from rfl)]
    have k0 : kq (fun t k => t = 44 ∧ k = 14) M (si M 44 14 1) := kq.rf.si ⟨rfl, rfl⟩ _
    have hx0 : CXt f e j w (T :: ts) (si M 44 14 1) := h.c_x.kq k0 (fun q _ _ => by omega) (fun q => by omega) (by omega)
    obtain ⟨M1, a1, a2, a3⟩ := hx0.go he hf hn hj
    have a2' : CXt f e j w ts M1 := a2
    rw [a1]
    dsimp only [bd]
    have kk : kq (fun t k => (t = 44 ∧ k = 14) ∨ VL t k) M M1 := (k0.mono (fun _ _ q => Or.inl q)).tr (a3.mono (fun _ _ q => Or.inr q))
    have kv : kq (VK j) M M1 := kk.mono (fun t k q => by unfold VL at q; unfold VK; omega)
    have hT : CTd f e j w (τ.setC τ.t.cost) ts M1 := ⟨a2', h.c_s.kq kk (fun t k _ _ => by unfold VL; omega), fun v h1 h2 => (kk _ _ (by unfold VL; omega)).trans (h.c_b v h1 h2), (kk _ _ (by unfold VL; omega)).trans h.c_g, by rw [a3 _ _ (by unfold VL; omega), gi_si, if_pos ⟨rfl, rfl⟩]; rfl, (kk _ _ (by unfold VL; omega)).trans h.c_0, h.c_d, (kk _ _ (by unfold VL; omega)).trans h.c_8, (kk _ _ (by unfold VL; omega)).trans h.c_9, (kk _ _ (by unfold VL; omega)).trans h.c_7, fun i hi => (kk _ _ (by unfold VL; omega)).trans (h.c_i i hi), fun r hr => (h.c_r r hr).kq kk (Nat.le_refl _) (by unfold VL; omega) (by unfold VL; omega) (fun q _ => by unfold VL; omega), h.c_G.1, setC_good h.c_G.2 h.c_G.2.h_cost⟩
    rcases cNum (n := n) he hf hT (lo := 1) (hi := 99) (by decide) (by decide) with ⟨k, p, M2, b1, b2, b3⟩ | ⟨v, b1, b2, b3, b4, b5⟩
    · rw [show f_X2_isNumber n (1 : Int32) (99 : Int32) M1 = some (0, M2) from b2, bR_l b1]
      dsimp only []
      rw [if_pos (show (0 : Int32) = 0 from rfl)]
      exact CU.of (M1 := M1) (Or.inl ⟨k, p, M2, rfl, rfl, b3⟩) (kv)
    rw [show f_X2_isNumber n (1 : Int32) (99 : Int32) M1 = some (1, M1) from b2, bR_r b1]
    dsimp only []
    have zj : (nI j).toNatClampNeg = j := nI_clamp (by omega)
    rw [if_neg (show ¬ (1 : Int32) = 0 by decide), a2'.q_j]
    simp only [zj]
    rw [ck_pos (by unfold isTwB; omega), b3]
    have k2 : kq (fun t k => t = j ∧ k = 9) M1 (si M1 j 9 (nI v)) := kq.rf.si ⟨rfl, rfl⟩ _
    have hC : CTd f e j w (τ.setC v) ts (si M1 j 9 (nI v)) := ⟨a2'.kq k2 (fun q _ _ => by omega) (fun q => by omega) (by omega), hT.c_s.kq k2 (fun t k _ _ => by omega), fun v h1 h2 => (k2 _ _ (by omega)).trans (hT.c_b v h1 h2), (k2 _ _ (by omega)).trans hT.c_g, (k2 _ _ (by omega)).trans hT.c_c, (k2 _ _ (by omega)).trans hT.c_0, hT.c_d, (k2 _ _ (by omega)).trans hT.c_8, by rw [gi_si, if_pos ⟨rfl, rfl⟩]; rfl, (k2 _ _ (by omega)).trans hT.c_7, fun i hi => (k2 _ _ (by omega)).trans (hT.c_i i hi), fun r hr => (hT.c_r r hr).kq k2 (Nat.le_refl _) (by omega) (by omega) (fun q _ => by omega), hT.c_G.1, setC_good h.c_G.2 ⟨b4, b5⟩⟩
    obtain ⟨M4, i1, i2, i3⟩ := hC.go he hf hn hj
    rw [i1]
    dsimp only []
    exact ((cEnd (n := n) he hf hn hj i2 (tl_le hL)).ck).of ((kv.tr (k2.mono (fun t k q => by unfold VK; omega))).tr i3)
theorem cWard (he : e ≤ 700) (hf : ∀ q, f q < 256) (hn : 800 < n) (hj : j = 46 ∨ j = 53) {L : Nat} {T : Tok} (h : CTd f e j w τ (T :: ts) M) (hL : ts.length ≤ L) : CU f e j L M (if 8 ≤ τ.wd then .inl (2, T.p) else bR (numR e 0 99 ts) (fun x => endR e (τ.addW x.1) x.2)) (f_X2_readWard n M) := by
  have hwd := h.c_G.1.h_wd
  unfold f_X2_readWard
  rw [h.c_s.wards]
  by_cases c : 8 ≤ τ.wd
  · rw [if_pos c, if_neg (show ¬ nI τ.wd < (8 : Int32) from nI_nlt (b := 8) c (by omega))]
    exact (cBadX (n := n) (ts := T :: ts) (by decide) rfl h.c_x.q_s rfl).ck
  · rw [if_neg c, if_pos (show nI τ.wd < (8 : Int32) from nI_lt (b := 8) (by omega) (by decide))]
    obtain ⟨M1, a1, a2, a3⟩ := h.go he hf hn hj
    have a2' : CTd f e j w τ ts M1 := a2
    rw [a1]
    dsimp only [bd]
    rcases cNum (n := n) he hf a2' (lo := 0) (hi := 99) (by decide) (by decide) with ⟨k, p, M2, b1, b2, b3⟩ | ⟨v, b1, b2, b3, b4, b5⟩
    · rw [show f_X2_isNumber n (0 : Int32) (99 : Int32) M1 = some (0, M2) from b2, bR_l b1]
      dsimp only []
      rw [if_pos (show (0 : Int32) = 0 from rfl)]
      exact CU.of (M1 := M1) (Or.inl ⟨k, p, M2, rfl, rfl, b3⟩) (a3)
    rw [show f_X2_isNumber n (0 : Int32) (99 : Int32) M1 = some (1, M1) from b2, bR_r b1]
    dsimp only []
    have zw : (nI τ.wd).toNatClampNeg = τ.wd := nI_clamp (by omega)
    have eA : f_X4_addWard n 28 (nI v) M1 = some (si (si M1 31 τ.wd (nI v)) 28 7 (nI (τ.wd + 1))) := by
      unfold f_X4_addWard
      rw [a2'.c_s.wards, if_neg (show ¬ (8 : Int32) ≤ nI τ.wd from nI_ge (b := 8) (by omega) (by decide)), ck_pos (n_in (by omega) (by decide))]
      simp only [zw]
      rw [gi_si, if_neg (by omega), a2'.c_s.wards, nI_1]
    rw [if_neg (show ¬ (1 : Int32) = 0 by decide), b3, eA]
    dsimp only []
    obtain ⟨M3, hM3⟩ : ∃ M3, M3 = si (si M1 31 τ.wd (nI v)) 28 7 (nI (τ.wd + 1)) := ⟨_, rfl⟩
    rw [← hM3]
    have k2 : kq (fun t k => (t = 31 ∧ k = τ.wd) ∨ (t = 28 ∧ k = 7)) M1 M3 := by rw [hM3]; exact (kq.rf.si (Or.inl ⟨rfl, rfl⟩) _).si (Or.inr ⟨rfl, rfl⟩) _
    have hC : CTd f e j w (τ.addW v) ts M3 := by
      refine ⟨a2'.c_x.kq k2 (fun q _ _ => by omega) (fun q => by omega) (by omega), ⟨(k2 _ _ (by omega)).trans a2'.c_s.all, (k2 _ _ (by omega)).trans a2'.c_s.hung, by rw [hM3, gi_si, if_pos ⟨rfl, rfl⟩]; rfl, (k2 _ _ (by omega)).trans a2'.c_s.day, (k2 _ _ (by omega)).trans a2'.c_s.money, (k2 _ _ (by omega)).trans a2'.c_s.lean, (k2 _ _ (by omega)).trans a2'.c_s.fell, fun c hc => (k2 _ _ (by omega)).trans (a2'.c_s.weight c hc), fun c hc => (k2 _ _ (by omega)).trans (a2'.c_s.mortar c hc), fun u hu => ?_, fun u hu => ?_⟩, fun u h1 h2 => ?_, (k2 _ _ (by omega)).trans a2'.c_g, (k2 _ _ (by omega)).trans a2'.c_c, (k2 _ _ (by omega)).trans a2'.c_0, a2'.c_d, (k2 _ _ (by omega)).trans a2'.c_8, (k2 _ _ (by omega)).trans a2'.c_9, (k2 _ _ (by omega)).trans a2'.c_7, fun i hi => (k2 _ _ (by omega)).trans (a2'.c_i i hi), fun r hr => (a2'.c_r r hr).kq k2 (Nat.le_refl _) (by omega) (by omega) (fun q _ => by omega), addW_good h.c_G.1 (by omega) b5, h.c_G.2⟩
      · have hu' : u < τ.wd + 1 := hu
        show gi M3 31 u = nI (updN τ.wd v τ.s.faith u)
        rw [hM3, gi_si, if_neg (by omega), gi_si]
        unfold updN
        by_cases q : u = τ.wd
        · rw [if_pos ⟨rfl, q⟩, if_pos q]
        · rw [if_neg (by omega), if_neg q]
          exact a2'.c_s.faith u (by omega)
      · have hu' : u < τ.wd + 1 := hu
        show gi M3 32 u = nI (updN τ.wd 0 τ.s.beside u)
        rw [hM3, gi_si, if_neg (by omega), gi_si, if_neg (by omega)]
        unfold updN
        by_cases q : u = τ.wd
        · rw [if_pos q]
          exact a2'.c_b u (by omega) (by omega)
        · rw [if_neg q]
          exact a2'.c_s.beside u (by omega)
      · have h1' : τ.wd + 1 ≤ u := h1
        rw [k2 _ _ (by omega)]
        exact a2'.c_b u (by omega) h2
    obtain ⟨M4, i1, i2, i3⟩ := hC.go he hf hn hj
    rw [i1]
    dsimp only []
    exact ((cEnd (n := n) he hf hn hj i2 (tl_le hL)).ck).of ((a3.tr (k2.mono (fun t k q => by unfold VK; omega))).tr i3)
theorem cTold (he : e ≤ 700) (hf : ∀ q, f q < 256) (h : CTd f e j w τ ts M) : (∃ k p M', wdR e τ.wd ts = .inl (k, p) ∧ f_X2_isToldWard n M = some (0, M') ∧ gi M' 44 11 = nI k ∧ gi M' 44 12 = nI p ∧ (1 ≤ k ∧ k ≤ 5) ∧ kq (VK j) M M') ∨ (∃ v, wdR e τ.wd ts = .inr (v, ts.tail) ∧ f_X2_isToldWard n M = some (1, M) ∧ gi M 44 8 = nI v ∧ v < τ.wd) := by
  have hwd := h.c_G.1.h_wd
  have t := h.c_x.q_s.tf hf
  have eN := cIsNumber (n := n) hf h.c_x.q_s he (lo := 0) (hi := 9999) (by decide) (by decide)
  unfold f_X2_isToldWard wdR
  by_cases c : (hdT e ts).k = 2 ∧ (hdT e ts).nx - (hdT e ts).p ≤ 4
  · have hv := t.f_2 c.1
    rw [if_pos (show (hdT e ts).k = 2 ∧ (hdT e ts).nx - (hdT e ts).p ≤ 4 ∧ 0 ≤ (hdT e ts).v ∧ (hdT e ts).v ≤ 9999 from ⟨c.1, c.2, Nat.zero_le _, hv⟩)] at eN
    rw [show f_X2_isNumber n (0 : Int32) (9999 : Int32) M = some (1, M) from eN, if_pos c]
    dsimp only [bd]
    rw [if_neg (show ¬ (1 : Int32) = 0 by decide), h.c_x.q_s.2.t_d c.1, h.c_s.wards]
    by_cases c2 : (hdT e ts).v < τ.wd
    · rw [if_pos (nI_lt c2 (by omega)), if_pos c2]
      exact Or.inr ⟨_, rfl, rfl, rfl, c2⟩
    · rw [if_neg (nI_nlt (by omega) (by omega)), if_neg c2, show f_X2_fail n (3 : Int32) M = some (0, si (si M 44 11 (nI 3)) 44 12 (nI (hdT e ts).p)) from cFail (Nat.zero_le _) h.c_x.q_s 3]
      dsimp only []
      rw [if_pos (show (0 : Int32) = 0 from rfl)]
      exact Or.inl ⟨_, _, _, rfl, rfl, by rw [gi_si, if_neg (by omega), gi_si, if_pos ⟨rfl, rfl⟩], by rw [gi_si, if_pos ⟨rfl, rfl⟩], by decide, (kq.rf.si (by unfold VK; omega) _).si (by unfold VK; omega) _⟩
  · rw [if_neg (show ¬ ((hdT e ts).k = 2 ∧ (hdT e ts).nx - (hdT e ts).p ≤ 4 ∧ 0 ≤ (hdT e ts).v ∧ (hdT e ts).v ≤ 9999) from fun q => c ⟨q.1, q.2.1⟩)] at eN
    rw [show f_X2_isNumber n (0 : Int32) (9999 : Int32) M = _ from eN, if_neg c]
    dsimp only [bd]
    rw [if_pos (show (0 : Int32) = 0 from rfl)]
    exact Or.inl ⟨_, _, _, rfl, rfl, by rw [gi_si, if_neg (by omega), gi_si, if_pos ⟨rfl, rfl⟩], by rw [gi_si, if_pos ⟨rfl, rfl⟩], by split <;> decide, (kq.rf.si (by unfold VK; omega) _).si (by unfold VK; omega) _⟩
theorem cStreet (he : e ≤ 700) (hf : ∀ q, f q < 256) (hn : 800 < n) (hj : j = 46 ∨ j = 53) {L : Nat} {T : Tok} (h : CTd f e j w τ (T :: ts) M) (hL : ts.length ≤ L) : CU f e j L M (strR e τ ts) (f_X2_readStreet n M) := by
  have hwd := h.c_G.1.h_wd
  unfold f_X2_readStreet strR
  obtain ⟨M1, a1, a2, a3⟩ := h.go he hf hn hj
  have a2' : CTd f e j w τ ts M1 := a2
  rw [a1]
  dsimp only [bd]
  rcases cTold (n := n) he hf a2' with ⟨k, p, M2, b1, b2, b3⟩ | ⟨a, b1, b2, b3, b4⟩
  · rw [b2, bR_l b1]
    dsimp only []
    rw [if_pos (show (0 : Int32) = 0 from rfl)]
    exact CU.of (M1 := M1) (Or.inl ⟨k, p, M2, rfl, rfl, b3⟩) (a3)
  rw [b2, bR_r b1]
  dsimp only []
  rw [if_neg (show ¬ (1 : Int32) = 0 by decide)]
  obtain ⟨M2, d1, d2, d3⟩ := a2'.go he hf hn hj
  rw [d1]
  dsimp only []
  rcases cTold (n := n) he hf d2 with ⟨k, p, M3, e1, e2, e3⟩ | ⟨b, e1, e2, e3, e4⟩
  · rw [e2, bR_l e1]
    dsimp only []
    rw [if_pos (show (0 : Int32) = 0 from rfl)]
    exact CU.of (M1 := M2) (Or.inl ⟨k, p, M3, rfl, rfl, e3⟩) ((a3.tr d3))
  rw [e2, bR_r e1]
  dsimp only []
  rw [if_neg (show ¬ (1 : Int32) = 0 by decide), b3, e3]
  have hbad : CU f e j L M2 (.inl (4, (hdT e ts.tail).p)) (j_X2_readStreet_54 n M2) := by
    unfold j_X2_readStreet_54
    exact (cBadX (n := n) (ts := ts.tail) (by decide) rfl d2.c_x.q_s rfl).ck
  by_cases cab : b = a
  · rw [if_pos (show b = a ∨ (τ.s.beside a).testBit b = true from Or.inl cab), if_pos (show nI b = nI a by rw [cab])]
    exact hbad.of (a3.tr d3)
  · rw [if_neg (fun q => cab ((nI_eq (by omega) (by omega)).mp q))]
    have hp : 2 ^ τ.wd ≤ 2 ^ 8 := Nat.pow_le_pow_right (by decide) hwd
    have ga := h.c_G.1.h_beside a b4
    have hbb := (bit_if (S := τ.s.beside a) (o := b) (by omega) (by omega)).1
    have eS : f_X4_isStreet n 28 (nI a) (nI b) M2 = some (if (τ.s.beside a).testBit b = true then 1 else 0, M2) := by
      unfold f_X4_isStreet
      rw [ck_pos (n_in (by omega) (by decide)), nI_clamp (by omega), d2.c_s.beside a b4]
      by_cases c : (τ.s.beside a).testBit b = true
      · rw [if_pos (hbb.mpr c), if_pos c]
      · rw [if_neg (fun q => c (hbb.mp q)), if_neg c]
    rw [eS]
    dsimp only []
    by_cases c : (τ.s.beside a).testBit b = true
    · rw [if_pos c, if_neg (show ¬ (1 : Int32) = 0 by decide), if_pos (Or.inr c)]
      exact hbad.of (a3.tr d3)
    · rw [if_neg c, if_pos (show (0 : Int32) = 0 from rfl), if_neg (by
        rintro (q | q)
        · exact cab q
        · exact c q)]
      have s1 : gi M2 32 a = nI (τ.s.beside a) := d2.c_s.beside a b4
      have s2 : gi M2 32 b = nI (τ.s.beside b) := d2.c_s.beside b e4
      obtain ⟨M3, hM3⟩ : ∃ M3, M3 = si (si M2 (28 + 4) a (nI (τ.s.beside a ^^^ 2 ^ b))) (28 + 4) b (nI (τ.s.beside b ^^^ 2 ^ a)) := ⟨_, rfl⟩
      have eT : f_X4_turnStreet n 28 (nI a) (nI b) M2 = some M3 := by
        have j1 : inb (nI a) 8 := n_in (by omega) (by decide)
        have j2 : inb (nI b) 8 := n_in (by omega) (by decide)
        have z1 : (nI a).toNatClampNeg = a := nI_clamp (by omega)
        have z2 : (nI b).toNatClampNeg = b := nI_clamp (by omega)
        unfold f_X4_turnStreet
        simp only [ck_pos j1, ck_pos j2, z1, z2]
        rw [one_sh a (by omega), one_sh b (by omega), show gi M2 (28 + 4) a = nI (τ.s.beside a) from s1, nI_xor, show gi (si M2 (28 + 4) a (nI (τ.s.beside a ^^^ 2 ^ b))) (28 + 4) b = nI (τ.s.beside b) by rw [gi_si, if_neg (by omega)]; exact s2, nI_xor, hM3]
      rw [e3, eT]
      dsimp only []
      have k2 : kq (fun t k => t = 32 ∧ k < τ.wd) M2 M3 := by rw [hM3]; exact (kq.rf.si ⟨rfl, b4⟩ _).si ⟨rfl, e4⟩ _
      have hC : CTd f e j w (τ.setS (τ.s.setBeside (τ.s.tb a b))) ts.tail M3 := ⟨d2.c_x.kq k2 (fun q _ _ => by omega) (fun q => by omega) (by omega), by rw [hM3]; exact cTb (Ne.symm cab) d2.c_s, fun u h1 h2 => (k2 _ _ (by have h1' : τ.wd ≤ u := h1; omega)).trans (d2.c_b u h1 h2), (k2 _ _ (by omega)).trans d2.c_g, (k2 _ _ (by omega)).trans d2.c_c, (k2 _ _ (by omega)).trans d2.c_0, d2.c_d, (k2 _ _ (by omega)).trans d2.c_8, (k2 _ _ (by omega)).trans d2.c_9, (k2 _ _ (by omega)).trans d2.c_7, fun i hi => (k2 _ _ (by omega)).trans (d2.c_i i hi), fun r hr => (d2.c_r r hr).kq k2 (Nat.le_refl _) (by omega) (by omega) (fun q _ => by omega), tb_good h.c_G.1 b4 e4 (Ne.symm cab), h.c_G.2⟩
      obtain ⟨M4, i1, i2, i3⟩ := hC.go he hf hn hj
      rw [i1]
      dsimp only []
      exact ((cEnd (n := n) he hf hn hj i2 (tl_le (tl_le hL))).ck).of (((a3.tr d3).tr (k2.mono (fun t k q => by unfold VK; omega))).tr i3)
end L
