/-! The class reads a line: pieces. -/
def RuW (j r w : Nat) (M : Mem) : Option (List Op) → Prop
  | none => gi M (j + 3) r = -1
  | some p => ∃ f, gi M (j + 3) r = nI f ∧ gi M (j + 4) r = nI (f + p.length) ∧ f + p.length ≤ w ∧ cod (gi M (j + 2)) f p
def CTd (f : Nat → Nat) (e j w : Nat) (τ : Td) (ts : List Tok) (M : Mem) : Prop := (CXt f e j w ts M) ∧ (StC τ.wd τ.s 28 M) ∧ (∀ v, τ.wd ≤ v → v < 8 → gi M 32 v = 0) ∧ (gi M 44 13 = (if τ.gt = true then (1 : Int32) else 0)) ∧ (gi M 44 14 = (if τ.ct = true then (1 : Int32) else 0)) ∧ (gi M 44 11 = 0) ∧ (τ.s.day ≤ 9999) ∧ (gi M j 8 = nI τ.t.ground) ∧ (gi M j 9 = nI τ.t.cost) ∧ (gi M j 7 = nI τ.t.winds) ∧ (∀ k, k < τ.t.winds → gi M (j + 1) k = nI (τ.t.wind k)) ∧ (∀ r, r < 3 → RuW j r w M (τ.t.rule r)) ∧ (τ.s.Good τ.wd ∧ τ.t.Good)
theorem CTd.c_x {f : Nat → Nat} {e j w : Nat} {τ : Td} {ts : List Tok} {M : Mem} (h : CTd f e j w τ ts M) : CXt f e j w ts M := h.1
theorem CTd.c_s {f : Nat → Nat} {e j w : Nat} {τ : Td} {ts : List Tok} {M : Mem} (h : CTd f e j w τ ts M) : StC τ.wd τ.s 28 M := h.2.1
theorem CTd.c_b {f : Nat → Nat} {e j w : Nat} {τ : Td} {ts : List Tok} {M : Mem} (h : CTd f e j w τ ts M) : ∀ v, τ.wd ≤ v → v < 8 → gi M 32 v = 0 := h.2.2.1
theorem CTd.c_g {f : Nat → Nat} {e j w : Nat} {τ : Td} {ts : List Tok} {M : Mem} (h : CTd f e j w τ ts M) : gi M 44 13 = (if τ.gt = true then (1 : Int32) else 0) := h.2.2.2.1
theorem CTd.c_c {f : Nat → Nat} {e j w : Nat} {τ : Td} {ts : List Tok} {M : Mem} (h : CTd f e j w τ ts M) : gi M 44 14 = (if τ.ct = true then (1 : Int32) else 0) := h.2.2.2.2.1
theorem CTd.c_0 {f : Nat → Nat} {e j w : Nat} {τ : Td} {ts : List Tok} {M : Mem} (h : CTd f e j w τ ts M) : gi M 44 11 = 0 := h.2.2.2.2.2.1
theorem CTd.c_d {f : Nat → Nat} {e j w : Nat} {τ : Td} {ts : List Tok} {M : Mem} (h : CTd f e j w τ ts M) : τ.s.day ≤ 9999 := h.2.2.2.2.2.2.1
theorem CTd.c_8 {f : Nat → Nat} {e j w : Nat} {τ : Td} {ts : List Tok} {M : Mem} (h : CTd f e j w τ ts M) : gi M j 8 = nI τ.t.ground := h.2.2.2.2.2.2.2.1
theorem CTd.c_9 {f : Nat → Nat} {e j w : Nat} {τ : Td} {ts : List Tok} {M : Mem} (h : CTd f e j w τ ts M) : gi M j 9 = nI τ.t.cost := h.2.2.2.2.2.2.2.2.1
theorem CTd.c_7 {f : Nat → Nat} {e j w : Nat} {τ : Td} {ts : List Tok} {M : Mem} (h : CTd f e j w τ ts M) : gi M j 7 = nI τ.t.winds := h.2.2.2.2.2.2.2.2.2.1
theorem CTd.c_i {f : Nat → Nat} {e j w : Nat} {τ : Td} {ts : List Tok} {M : Mem} (h : CTd f e j w τ ts M) : ∀ k, k < τ.t.winds → gi M (j + 1) k = nI (τ.t.wind k) := h.2.2.2.2.2.2.2.2.2.2.1
theorem CTd.c_r {f : Nat → Nat} {e j w : Nat} {τ : Td} {ts : List Tok} {M : Mem} (h : CTd f e j w τ ts M) : ∀ r, r < 3 → RuW j r w M (τ.t.rule r) := h.2.2.2.2.2.2.2.2.2.2.2.1
theorem CTd.c_G {f : Nat → Nat} {e j w : Nat} {τ : Td} {ts : List Tok} {M : Mem} (h : CTd f e j w τ ts M) : τ.s.Good τ.wd ∧ τ.t.Good := h.2.2.2.2.2.2.2.2.2.2.2.2
def VK (j t k : Nat) : Prop := (t = 44 ∧ 5 ≤ k ∧ k ≤ 14) ∨ (28 ≤ t ∧ t ≤ 32) ∨ (j ≤ t ∧ t ≤ j + 4)
def Pl (j w t k : Nat) : Prop := (28 ≤ t ∧ t ≤ 32) ∨ (t = 44 ∧ (k = 11 ∨ k = 13 ∨ k = 14)) ∨ (t = j ∧ 7 ≤ k ∧ k ≤ 9) ∨ t = j + 1 ∨ t = j + 3 ∨ t = j + 4 ∨ (t = j + 2 ∧ k < w)
theorem cod_rng {row row' : Nat → Int32} : ∀ {p : List Op} {f : Nat}, (∀ k, f ≤ k → k < f + p.length → row' k = row k) → cod row f p → cod row' f p
  | [], _, _, _ => trivial
  | o :: p, f, h, hc => ⟨(h _ (Nat.le_refl _) (by simp)).trans hc.1, cod_rng (fun k h1 h2 => h k (by omega) (by simp; omega)) hc.2⟩
theorem RuW.kq {j r w w' : Nat} {o : Option (List Op)} {V : Nat → Nat → Prop} {M M' : Mem} (h : RuW j r w M o) (k : kq V M M') (hw : w ≤ w') (h3 : ¬ V (j + 3) r) (h4 : ¬ V (j + 4) r) (h2 : ∀ q, q < w → ¬ V (j + 2) q) : RuW j r w' M' o := by
  cases o with
  | none => exact (k _ _ h3).trans h
  | some p =>
    obtain ⟨f, a1, a2, a3, a4⟩ := h
    exact ⟨f, (k _ _ h3).trans a1, (k _ _ h4).trans a2, by omega, cod_rng (fun q q1 q2 => k _ _ (h2 q (by omega))) a4⟩
section L
variable {f : Nat → Nat} {e j w n : Nat} {τ : Td} {ts : List Tok} {M : Mem}
theorem CTd.fr {w' : Nat} {ts' : List Tok} {V : Nat → Nat → Prop} {M' : Mem} (h : CTd f e j w τ ts M) (k : kq V M M') (hx : CXt f e j w' ts' M') (hw : w ≤ w') (hv : ∀ t q, Pl j w t q → ¬ V t q) : CTd f e j w' τ ts' M' :=
  ⟨hx, h.c_s.kq k (fun t q h1 h2 => hv _ _ (by unfold Pl; omega)), fun v h1 h2 => (k _ _ (hv _ _ (by unfold Pl; omega))).trans (h.c_b v h1 h2), (k _ _ (hv _ _ (by unfold Pl; omega))).trans h.c_g, (k _ _ (hv _ _ (by unfold Pl; omega))).trans h.c_c, (k _ _ (hv _ _ (by unfold Pl; omega))).trans h.c_0, h.c_d, (k _ _ (hv _ _ (by unfold Pl; omega))).trans h.c_8, (k _ _ (hv _ _ (by unfold Pl; omega))).trans h.c_9, (k _ _ (hv _ _ (by unfold Pl; omega))).trans h.c_7, fun i hi => (k _ _ (hv _ _ (by unfold Pl; omega))).trans (h.c_i i hi), fun r hr => (h.c_r r hr).kq k hw (hv _ _ (by unfold Pl; omega)) (hv _ _ (by unfold Pl; omega)) (fun q hq => hv _ _ (by unfold Pl; omega)), h.c_G⟩
theorem CXt.kq {V : Nat → Nat → Prop} {M' : Mem} (h : CXt f e j w ts M) (k : kq V M M') (hv : ∀ q, 2 ≤ q → q ≤ 10 → ¬ V 44 q) (hb : ∀ q, ¬ V 45 q) (hj : ¬ V j 6) : CXt f e j w ts M' :=
  ⟨h.q_s.kq k (fun q hq => hv q (by omega) (by omega)) hb, (k _ _ (hv _ (by omega) (by omega))).trans h.q_j, (k _ _ hj).trans h.q_w, h.q_p⟩
theorem VL.k {j t k : Nat} (h : VL t k) : VK j t k := by
  unfold VK VL at *
  omega
theorem CTd.go (he : e ≤ 700) (hf : ∀ q, f q < 256) (hn : 800 < n) (hj : j = 46 ∨ j = 53) (h : CTd f e j w τ ts M) : ∃ M', f_X2_step n M = some M' ∧ CTd f e j w τ ts.tail M' ∧ kq (VK j) M M' := by
  obtain ⟨M', a1, a2, a3⟩ := h.c_x.go he hf hn hj
  exact ⟨M', a1, h.fr a3 a2 (Nat.le_refl _) (fun t q hq => by unfold Pl at hq; unfold VL; omega), a3.mono (fun _ _ q => q.k)⟩
def CU (f : Nat → Nat) (e j L : Nat) (M : Mem) (R : LR) (o : Option (Int32 × Mem)) : Prop := (∃ k p M', R = .inl (k, p) ∧ o = some (0, M') ∧ gi M' 44 11 = nI k ∧ gi M' 44 12 = nI p ∧ (1 ≤ k ∧ k ≤ 5) ∧ kq (VK j) M M') ∨ (∃ τ' ts' M' w', R = .inr (τ', ts') ∧ o = some (1, M') ∧ CTd f e j w' τ' ts' M' ∧ kq (VK j) M M' ∧ ts'.length ≤ L)
theorem CU.of {L : Nat} {M1 : Mem} {R : LR} {o : Option (Int32 × Mem)} (h : CU f e j L M1 R o) (k : kq (VK j) M M1) : CU f e j L M R o := by
  rcases h with ⟨a, p, M', h1, h2, h3, h4, h5, h6⟩ | ⟨τ', ts', M', w', h1, h2, h3, h4, h5⟩
  · exact Or.inl ⟨a, p, M', h1, h2, h3, h4, h5, k.tr h6⟩
  · exact Or.inr ⟨τ', ts', M', w', h1, h2, h3, k.tr h4, h5⟩
theorem CU.ck {L : Nat} {R : LR} {o : Option (Int32 × Mem)} (h : CU f e j L M R o) : CU f e j L M R (bd o (fun q => ck (q.1 = 0 ∨ q.1 = 1) (some (q.1, q.2)))) := by
  rcases h with ⟨a, p, M', h1, h2, h3⟩ | ⟨τ', ts', M', w', h1, h2, h3⟩
  · rw [h2]
    exact Or.inl ⟨a, p, M', h1, rfl, h3⟩
  · rw [h2]
    exact Or.inr ⟨τ', ts', M', w', h1, rfl, h3⟩
theorem cBadX {k p L : Nat} (hk : 1 ≤ k ∧ k ≤ 5) (hp : p = (hdT e ts).p) (h : SCt f e ts M) {x : Int32} (hx : x = nI k) : CU f e j L M (.inl (k, p)) (f_X2_fail n x M) := by
  rw [hx, cFail (Nat.zero_le _) h, hp]
  exact Or.inl ⟨k, _, _, rfl, rfl, by rw [gi_si, if_neg (by omega), gi_si, if_pos ⟨rfl, rfl⟩], by rw [gi_si, if_pos ⟨rfl, rfl⟩], hk, (kq.rf.si (by unfold VK; omega) _).si (by unfold VK; omega) _⟩
theorem cEnd (he : e ≤ 700) (hf : ∀ q, f q < 256) (hn : 800 < n) (hj : j = 46 ∨ j = 53) {L : Nat} (h : CTd f e j w τ ts M) (hL : ts.length ≤ L) : CU f e j L M (endR e τ ts) (f_X2_endLine n M) := by
  unfold f_X2_endLine endR
  rw [show (59 : Int32) = nI 59 from rfl, cIsSign hf h.c_x.q_s (by decide)]
  dsimp only [bd]
  by_cases c : (hdT e ts).k = 3 ∧ (hdT e ts).v = 59
  · rw [if_pos c, if_pos c, if_neg (show ¬ (1 : Int32) = 0 by decide)]
    obtain ⟨M', a1, a2, a3⟩ := h.go he hf hn hj
    rw [a1]
    exact Or.inr ⟨τ, ts.tail, M', w, rfl, rfl, a2, a3, by rw [List.length_tail]; omega⟩
  · rw [if_neg c, if_neg c, if_pos (show (0 : Int32) = 0 from rfl)]
    exact (cBadX (n := n) (by decide) rfl h.c_x.q_s rfl).ck
theorem cNum (he : e ≤ 700) (hf : ∀ q, f q < 256) (h : CTd f e j w τ ts M) {lo hi : Nat} (hh : hi ≤ 9999) (hlo : lo ≤ hi) : (∃ k p M', numR e lo hi ts = .inl (k, p) ∧ f_X2_isNumber n (nI lo) (nI hi) M = some (0, M') ∧ gi M' 44 11 = nI k ∧ gi M' 44 12 = nI p ∧ (1 ≤ k ∧ k ≤ 5) ∧ kq (VK j) M M') ∨ (∃ v, numR e lo hi ts = .inr (v, ts.tail) ∧ f_X2_isNumber n (nI lo) (nI hi) M = some (1, M) ∧ gi M 44 8 = nI v ∧ lo ≤ v ∧ v ≤ hi) := by
  rw [cIsNumber hf h.c_x.q_s he hh hlo]
  unfold numR
  by_cases c : (hdT e ts).k = 2 ∧ (hdT e ts).nx - (hdT e ts).p ≤ 4 ∧ lo ≤ (hdT e ts).v ∧ (hdT e ts).v ≤ hi
  · rw [if_pos c, if_pos c]
    exact Or.inr ⟨_, rfl, rfl, h.c_x.q_s.2.t_d c.1, c.2.2.1, c.2.2.2⟩
  · rw [if_neg c, if_neg c]
    exact Or.inl ⟨_, _, _, rfl, rfl, by rw [gi_si, if_neg (by omega), gi_si, if_pos ⟨rfl, rfl⟩], by rw [gi_si, if_pos ⟨rfl, rfl⟩], by split <;> decide, (kq.rf.si (by unfold VK; omega) _).si (by unfold VK; omega) _⟩
/-! a course -/
theorem cShift {q all : Nat} {x1 x2 x3 : Int32} (hall : all < 16) (hq : q ≤ all) (W B : Nat → Int32) : ∀ (m c N : Nat) (M : Mem), c - q = m → q ≤ c → c ≤ all → m < N → (∀ i, i < all + 1 → gi M 29 i = if i ≤ c then (if i < all then W i else gi M 29 i) else W (i - 1)) → (∀ i, i < all + 1 → gi M 30 i = if i ≤ c then (if i < all then B i else gi M 30 i) else B (i - 1)) →
    ∃ M', gl (b_X4_addCourse_33 n 28 x1 x2 x3 (nI q)) N (nI c, M) = j_X4_addCourse_78 n 28 x1 x2 x3 (nI q) M' ∧ (∀ i, i < all + 1 → ¬ i = q → gi M' 29 i = if i < q then W i else W (i - 1)) ∧ (∀ i, i < all + 1 → ¬ i = q → gi M' 30 i = if i < q then B i else B (i - 1)) ∧ kq (fun t _ => t = 29 ∨ t = 30) M M' := by
  intro m
  induction m with
  | zero =>
    intro c N M hm h1 h2 hN hW hB
    obtain ⟨N, rfl⟩ : ∃ k, N = k + 1 := ⟨N - 1, by omega⟩
    have hc : c = q := by omega
    subst hc
    refine ⟨M, gl_mr ?_, fun i hi hne => ?_, fun i hi hne => ?_, kq.rf⟩
    · rw [b_X4_addCourse_33]
      try dsimp only []
      rw [if_pos (nI_le (Nat.le_refl _) (by omega))]
    · rw [hW i hi]
      by_cases q1 : i < c
      · rw [if_pos (by omega), if_pos (by omega), if_pos q1]
      · rw [if_neg (by omega), if_neg q1]
    · rw [hB i hi]
      by_cases q1 : i < c
      · rw [if_pos (by omega), if_pos (by omega), if_pos q1]
      · rw [if_neg (by omega), if_neg q1]
  | succ m ih =>
    intro c N M hm h1 h2 hN hW hB
    obtain ⟨N, rfl⟩ : ∃ k, N = k + 1 := ⟨N - 1, by omega⟩
    have p1 : nI c - (1 : Int32) = nI (c - 1) := nI_sub (a := c) (b := 1) (by omega)
    have p2 : nI c + (-1 : Int32) = nI (c - 1) := by rw [← p1, Int32.sub_eq_add_neg]
    have z1 : (nI c).toNatClampNeg = c := nI_clamp (by omega)
    have z2 : (nI (c - 1)).toNatClampNeg = c - 1 := nI_clamp (by omega)
    have w1 : gi M 29 (c - 1) = W (c - 1) := by rw [hW (c - 1) (by omega), if_pos (by omega), if_pos (by omega)]
    have w2 : gi M 30 (c - 1) = B (c - 1) := by rw [hB (c - 1) (by omega), if_pos (by omega), if_pos (by omega)]
    obtain ⟨M1, hM1⟩ : ∃ M1, M1 = si (si M 29 c (W (c - 1))) 30 c (B (c - 1)) := ⟨_, rfl⟩
    have e1 : b_X4_addCourse_33 n 28 x1 x2 x3 (nI q) (nI c, M) = some (.inl (nI (c - 1), M1)) := by
      rw [b_X4_addCourse_33]
      try dsimp only []
      rw [if_neg (nI_ge (by omega) (by omega)), p1, p2, ck_pos (n_in (by omega) (by decide)), ck_pos (n_in (by omega) (by decide)), ck_pos (n_in (by omega) (by decide)), ck_pos (n_in (by omega) (by decide))]
      simp only [z1, z2]
      rw [show gi M (28 + 1) (c - 1) = W (c - 1) from w1, show gi (si M (28 + 1) c (W (c - 1))) (28 + 2) (c - 1) = B (c - 1) by rw [gi_si, if_neg (by omega)]; exact w2, hM1]
    have k1 : kq (fun t _ => t = 29 ∨ t = 30) M M1 := by rw [hM1]; exact (kq.rf.si (Or.inl rfl) _).si (Or.inr rfl) _
    obtain ⟨M', a1, a2, a3, a4⟩ := ih (c - 1) N M1 (by omega) (by omega) (by omega) (by omega) (fun i hi => by
        rw [hM1, gi_si, if_neg (by omega), gi_si]
        by_cases q1 : i = c
        · rw [if_pos ⟨rfl, q1⟩, if_neg (by omega), q1]
        · rw [if_neg (by omega)]
          by_cases q2 : i ≤ c - 1
          · rw [if_pos q2, if_pos (by omega), hW i hi, if_pos (by omega), if_pos (by omega)]
          · rw [if_neg q2, hW i hi, if_neg (by omega)]) (fun i hi => by
        rw [hM1, gi_si]
        by_cases q1 : i = c
        · rw [if_pos ⟨rfl, q1⟩, if_neg (by omega), q1]
        · rw [if_neg (by omega), gi_si, if_neg (by omega)]
          by_cases q2 : i ≤ c - 1
          · rw [if_pos q2, if_pos (by omega), hB i hi, if_pos (by omega), if_pos (by omega)]
          · rw [if_neg q2, hB i hi, if_neg (by omega)])
    exact ⟨M', by rw [gl_inl e1, a1], a2, a3, k1.tr a4⟩
def VA1 (t k : Nat) : Prop := (t = 28 ∧ (k = 5 ∨ k = 6)) ∨ t = 29 ∨ t = 30
theorem cAdd {wd a b : Nat} {s : Sp} (hn : 800 < n) (hg : Bool) (g : s.Good wd) (h : StC wd s 28 M) (hall : s.all < 16) {x3 : Int32} (hx : x3 = if hg then 1 else 0) : ∃ M', f_X4_addCourse n 28 (nI a) (nI b) x3 M = some M' ∧ StC wd (s.addC hg a b) 28 M' ∧ kq VA1 M M' := by
  have hh := g.h_hung
  have hq : s.posC hg ≤ s.all := by unfold Sp.posC; split <;> omega
  have e0 : f_X4_addCourse n 28 (nI a) (nI b) x3 M = gl (b_X4_addCourse_33 n 28 (nI a) (nI b) x3 (nI (s.posC hg))) n (nI s.all, M) := by
    unfold f_X4_addCourse j_X4_addCourse_25
    rw [h.all, h.hung, if_pos (show nI s.all < (16 : Int32) from nI_lt (b := 16) hall (by decide)), hx]
    cases hg with
    | true => rw [if_neg (by decide)]; rfl
    | false => rw [if_pos (by decide)]; rfl
  obtain ⟨M1, a1, a2, a3, a4⟩ := cShift (n := n) (q := s.posC hg) (all := s.all) (x1 := nI a) (x2 := nI b) (x3 := x3) hall hq (fun i => nI (s.weight i)) (fun i => nI (s.mortar i)) (s.all - s.posC hg) s.all n M rfl hq (Nat.le_refl _) (by omega) (fun i hi => by
    rw [if_pos (by omega)]
    by_cases c : i < s.all
    · rw [if_pos c]; exact h.weight i c
    · rw [if_neg c]) (fun i hi => by
    rw [if_pos (by omega)]
    by_cases c : i < s.all
    · rw [if_pos c]; exact h.mortar i c
    · rw [if_neg c])
  rw [e0, a1]
  obtain ⟨q, hqq⟩ : ∃ q, q = s.posC hg := ⟨_, rfl⟩
  rw [← hqq] at hq a1 a2 a3 ⊢
  have z : (nI q).toNatClampNeg = q := nI_clamp (by omega)
  have g5 : gi M1 28 5 = nI s.all := (a4 _ _ (by omega)).trans h.all
  have g6 : gi M1 28 6 = nI s.hung := (a4 _ _ (by omega)).trans h.hung
  obtain ⟨M2, hM2⟩ : ∃ M2, M2 = si (si M1 29 q (nI a)) 30 q (nI b) := ⟨_, rfl⟩
  have k2 : ∀ t k, ¬ t = 29 → ¬ t = 30 → gi M2 t k = gi M1 t k := fun t k h1 h2 => by rw [hM2, gi_si, if_neg (by omega), gi_si, if_neg (by omega)]
  have f5 : gi M2 28 5 = nI s.all := (k2 _ _ (by decide) (by decide)).trans g5
  have f6 : gi M2 28 6 = nI s.hung := (k2 _ _ (by decide) (by decide)).trans g6
  have f6' : ∀ x, gi (si M2 28 5 x) 28 6 = nI s.hung := fun x => by rw [gi_si, if_neg (by omega), f6]
  have e78 : j_X4_addCourse_78 n 28 (nI a) (nI b) x3 (nI q) M1 = some (si (si M2 28 5 (nI (s.all + 1))) 28 6 (nI (if hg then s.hung + 1 else s.hung))) := by
    unfold j_X4_addCourse_78
    rw [ck_pos (n_in (by omega) (by decide)), ck_pos (n_in (by omega) (by decide))]
    simp only [z]
    rw [show si (si M1 (28 + 1) q (nI a)) (28 + 2) q (nI b) = M2 from hM2.symm, f5, nI_1, f6', hx]
    cases hg with
    | true =>
      rw [if_neg (by decide), nI_1]
      rfl
    | false =>
      rw [if_pos (by decide), show nI s.hung + (0 : Int32) = nI s.hung from nI_add s.hung 0]
      rfl
  rw [e78]
  obtain ⟨M3, hM3⟩ : ∃ M3, M3 = si (si M2 28 5 (nI (s.all + 1))) 28 6 (nI (if hg then s.hung + 1 else s.hung)) := ⟨_, rfl⟩
  rw [← hM3]
  have k3 : kq VA1 M M3 := by
    rw [hM3, hM2]
    exact ((((a4.mono (fun t k q => by unfold VA1; omega)).si (by unfold VA1; omega) _).si (by unfold VA1; omega) _).si (by unfold VA1; omega) _).si (by unfold VA1; omega) _
  refine ⟨M3, rfl, ⟨by rw [hM3, gi_si, if_neg (by omega), gi_si, if_pos ⟨rfl, rfl⟩]; rfl, by rw [hM3, gi_si, if_pos ⟨rfl, rfl⟩]; rfl, (k3 _ _ (by unfold VA1; omega)).trans h.wards, (k3 _ _ (by unfold VA1; omega)).trans h.day, (k3 _ _ (by unfold VA1; omega)).trans h.money, (k3 _ _ (by unfold VA1; omega)).trans h.lean, (k3 _ _ (by unfold VA1; omega)).trans h.fell, fun c hc => ?_, fun c hc => ?_, fun v hv => (k3 _ _ (by unfold VA1; omega)).trans (h.faith v hv), fun v hv => (k3 _ _ (by unfold VA1; omega)).trans (h.beside v hv)⟩, k3⟩
  · have hc' : c < s.all + 1 := hc
    show gi M3 29 c = nI (insN (s.posC hg) a s.weight c)
    rw [hM3, gi_si, if_neg (by omega), gi_si, if_neg (by omega), hM2, gi_si, if_neg (by omega), gi_si, ← hqq]
    unfold insN
    by_cases c2 : c = q
    · rw [if_pos ⟨rfl, c2⟩, if_neg (by omega), if_pos c2]
    · rw [if_neg (by omega), a2 c hc' c2]
      by_cases c1 : c < q
      · rw [if_pos c1, if_pos c1]
      · rw [if_neg c1, if_neg c1, if_neg c2]
  · have hc' : c < s.all + 1 := hc
    show gi M3 30 c = nI (insN (s.posC hg) b s.mortar c)
    rw [hM3, gi_si, if_neg (by omega), gi_si, if_neg (by omega), hM2, gi_si, ← hqq]
    unfold insN
    by_cases c2 : c = q
    · rw [if_pos ⟨rfl, c2⟩, if_neg (by omega), if_pos c2]
    · rw [if_neg (by omega), gi_si, if_neg (by omega), a3 c hc' c2]
      by_cases c1 : c < q
      · rw [if_pos c1, if_pos c1]
      · rw [if_neg c1, if_neg c1, if_neg c2]
end L
