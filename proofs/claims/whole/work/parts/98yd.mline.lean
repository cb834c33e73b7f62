/-! The reference reads a line: pieces. -/
def RuX (r s : Nat) (M : Mem) : Option (List Op) → Prop
  | none => gi M 0 (29 + r) = -1
  | some p => ∃ f0, gi M 0 (29 + r) = nI f0 ∧ f0 + len2 p < s ∧ cod2 (gi M 9) f0 p
def DT (f : Nat → Nat) (e s : Nat) (τ : Td) (ts : List Tok) (M : Mem) : Prop := (SRt f e ts M) ∧ (gi M 0 12 = 0) ∧ (gi M 0 13 = -1) ∧ (gi M 0 27 = nI τ.s.hung) ∧ (gi M 0 28 = nI (τ.s.all - τ.s.hung)) ∧ (∀ c, c < τ.s.hung → gi M 6 (6 + c) = nI (τ.s.weight c) ∧ gi M 6 (22 + c) = nI (τ.s.mortar c)) ∧ (∀ c, τ.s.hung ≤ c → c < τ.s.all → gi M 7 (c - τ.s.hung) = nI (τ.s.weight c) ∧ gi M 8 (c - τ.s.hung) = nI (τ.s.mortar c)) ∧ (gi M 6 0 = nI τ.s.day ∧ gi M 6 1 = nI τ.s.money ∧ gi M 6 2 = nI τ.s.lean ∧ gi M 6 5 = nI τ.s.fell) ∧ (gi M 0 23 = nI τ.wd) ∧ (∀ v, v < τ.wd → gi M 6 (38 + v) = nI (τ.s.faith v)) ∧ (∀ v, v < τ.wd → gi M 6 (46 + v) = nI (τ.s.beside v)) ∧ (∀ v, τ.wd ≤ v → v < 8 → gi M 6 (46 + v) = 0) ∧ (gi M 0 24 = (if τ.gt = true then nI τ.t.ground else -1) ∧ (τ.gt = false → τ.t.ground = 9)) ∧ (gi M 0 25 = (if τ.ct = true then nI τ.t.cost else -1) ∧ (τ.ct = false → τ.t.cost = 10)) ∧ (gi M 0 26 = nI τ.t.winds) ∧ (∀ k, k < τ.t.winds → gi M 5 k = nI (τ.t.wind k)) ∧ (gi M 0 32 = nI s ∧ s ≤ 2 * (hdT e ts).p) ∧ (∀ r, r < 3 → RuX r s M (τ.t.rule r))
theorem DT.d_t {f : Nat → Nat} {e s : Nat} {τ : Td} {ts : List Tok} {M : Mem} (h : DT f e s τ ts M) : SRt f e ts M := h.1
theorem DT.d_f {f : Nat → Nat} {e s : Nat} {τ : Td} {ts : List Tok} {M : Mem} (h : DT f e s τ ts M) : gi M 0 12 = 0 := h.2.1
theorem DT.d_3 {f : Nat → Nat} {e s : Nat} {τ : Td} {ts : List Tok} {M : Mem} (h : DT f e s τ ts M) : gi M 0 13 = -1 := h.2.2.1
theorem DT.d_h {f : Nat → Nat} {e s : Nat} {τ : Td} {ts : List Tok} {M : Mem} (h : DT f e s τ ts M) : gi M 0 27 = nI τ.s.hung := h.2.2.2.1
theorem DT.d_p {f : Nat → Nat} {e s : Nat} {τ : Td} {ts : List Tok} {M : Mem} (h : DT f e s τ ts M) : gi M 0 28 = nI (τ.s.all - τ.s.hung) := h.2.2.2.2.1
theorem DT.d_hw {f : Nat → Nat} {e s : Nat} {τ : Td} {ts : List Tok} {M : Mem} (h : DT f e s τ ts M) : ∀ c, c < τ.s.hung → gi M 6 (6 + c) = nI (τ.s.weight c) ∧ gi M 6 (22 + c) = nI (τ.s.mortar c) := h.2.2.2.2.2.1
theorem DT.d_pw {f : Nat → Nat} {e s : Nat} {τ : Td} {ts : List Tok} {M : Mem} (h : DT f e s τ ts M) : ∀ c, τ.s.hung ≤ c → c < τ.s.all → gi M 7 (c - τ.s.hung) = nI (τ.s.weight c) ∧ gi M 8 (c - τ.s.hung) = nI (τ.s.mortar c) := h.2.2.2.2.2.2.1
theorem DT.d_0 {f : Nat → Nat} {e s : Nat} {τ : Td} {ts : List Tok} {M : Mem} (h : DT f e s τ ts M) : gi M 6 0 = nI τ.s.day ∧ gi M 6 1 = nI τ.s.money ∧ gi M 6 2 = nI τ.s.lean ∧ gi M 6 5 = nI τ.s.fell := h.2.2.2.2.2.2.2.1
theorem DT.d_w {f : Nat → Nat} {e s : Nat} {τ : Td} {ts : List Tok} {M : Mem} (h : DT f e s τ ts M) : gi M 0 23 = nI τ.wd := h.2.2.2.2.2.2.2.2.1
theorem DT.d_ff {f : Nat → Nat} {e s : Nat} {τ : Td} {ts : List Tok} {M : Mem} (h : DT f e s τ ts M) : ∀ v, v < τ.wd → gi M 6 (38 + v) = nI (τ.s.faith v) := h.2.2.2.2.2.2.2.2.2.1
theorem DT.d_b {f : Nat → Nat} {e s : Nat} {τ : Td} {ts : List Tok} {M : Mem} (h : DT f e s τ ts M) : ∀ v, v < τ.wd → gi M 6 (46 + v) = nI (τ.s.beside v) := h.2.2.2.2.2.2.2.2.2.2.1
theorem DT.d_z {f : Nat → Nat} {e s : Nat} {τ : Td} {ts : List Tok} {M : Mem} (h : DT f e s τ ts M) : ∀ v, τ.wd ≤ v → v < 8 → gi M 6 (46 + v) = 0 := h.2.2.2.2.2.2.2.2.2.2.2.1
theorem DT.d_g {f : Nat → Nat} {e s : Nat} {τ : Td} {ts : List Tok} {M : Mem} (h : DT f e s τ ts M) : gi M 0 24 = (if τ.gt = true then nI τ.t.ground else -1) ∧ (τ.gt = false → τ.t.ground = 9) := h.2.2.2.2.2.2.2.2.2.2.2.2.1
theorem DT.d_c {f : Nat → Nat} {e s : Nat} {τ : Td} {ts : List Tok} {M : Mem} (h : DT f e s τ ts M) : gi M 0 25 = (if τ.ct = true then nI τ.t.cost else -1) ∧ (τ.ct = false → τ.t.cost = 10) := h.2.2.2.2.2.2.2.2.2.2.2.2.2.1
theorem DT.d_n {f : Nat → Nat} {e s : Nat} {τ : Td} {ts : List Tok} {M : Mem} (h : DT f e s τ ts M) : gi M 0 26 = nI τ.t.winds := h.2.2.2.2.2.2.2.2.2.2.2.2.2.2.1
theorem DT.d_i {f : Nat → Nat} {e s : Nat} {τ : Td} {ts : List Tok} {M : Mem} (h : DT f e s τ ts M) : ∀ k, k < τ.t.winds → gi M 5 k = nI (τ.t.wind k) := h.2.2.2.2.2.2.2.2.2.2.2.2.2.2.2.1
theorem DT.d_s {f : Nat → Nat} {e s : Nat} {τ : Td} {ts : List Tok} {M : Mem} (h : DT f e s τ ts M) : gi M 0 32 = nI s ∧ s ≤ 2 * (hdT e ts).p := h.2.2.2.2.2.2.2.2.2.2.2.2.2.2.2.2.1
theorem DT.d_r {f : Nat → Nat} {e s : Nat} {τ : Td} {ts : List Tok} {M : Mem} (h : DT f e s τ ts M) : ∀ r, r < 3 → RuX r s M (τ.t.rule r) := h.2.2.2.2.2.2.2.2.2.2.2.2.2.2.2.2.2
def FT (k p : Nat) (M : Mem) : Prop := (gi M 0 12 = nI k) ∧ (gi M 0 13 = nI p) ∧ (1 ≤ k ∧ k ≤ 5)
theorem FT.u_k {k p : Nat} {M : Mem} (h : FT k p M) : gi M 0 12 = nI k := h.1
theorem FT.u_p {k p : Nat} {M : Mem} (h : FT k p M) : gi M 0 13 = nI p := h.2.1
theorem FT.u_b {k p : Nat} {M : Mem} (h : FT k p M) : 1 ≤ k ∧ k ≤ 5 := h.2.2
def VQ (t k : Nat) : Prop := (t = 0 ∧ (k = 12 ∨ k = 13 ∨ (16 ≤ k ∧ k ≤ 36))) ∨ (5 ≤ t ∧ t ≤ 11)
def Qd (s t q : Nat) : Prop := (t = 0 ∧ (q = 12 ∨ q = 13 ∨ (23 ≤ q ∧ q ≤ 32))) ∨ (5 ≤ t ∧ t ≤ 8) ∨ (t = 9 ∧ q < s)
theorem VTk.q {t k : Nat} (h : VTk t k) : VQ t k := by
  unfold VTk VQ at *
  omega
theorem cod2_rng {row row' : Nat → Int32} : ∀ (p : List Op) (f : Nat), (∀ k, f ≤ k → k ≤ f + len2 p → row' k = row k) → cod2 row f p → cod2 row' f p
  | [], f, h, h2 => (h f (Nat.le_refl _) (Nat.le_add_right _ _)).trans h2
  | .inl v :: p, f, h, h2 => by
    have e : len2 (.inl v :: p) = 2 + len2 p := rfl
    rw [e] at h
    exact ⟨(h _ (by omega) (by omega)).trans h2.1, (h _ (by omega) (by omega)).trans h2.2.1, cod2_rng p (f + 2) (fun k a b => h k (by omega) (by omega)) h2.2.2⟩
  | .inr (.inl v) :: p, f, h, h2 => by
    have e : len2 (.inr (.inl v) :: p) = 2 + len2 p := rfl
    rw [e] at h
    exact ⟨(h _ (by omega) (by omega)).trans h2.1, (h _ (by omega) (by omega)).trans h2.2.1, cod2_rng p (f + 2) (fun k a b => h k (by omega) (by omega)) h2.2.2⟩
  | .inr (.inr v) :: p, f, h, h2 => by
    have e : len2 (.inr (.inr v) :: p) = 1 + len2 p := rfl
    rw [e] at h
    exact ⟨(h _ (by omega) (by omega)).trans h2.1, cod2_rng p (f + 1) (fun k a b => h k (by omega) (by omega)) h2.2⟩
theorem RuX.kq {r s s' : Nat} {o : Option (List Op)} {V : Nat → Nat → Prop} {M M' : Mem} (h : RuX r s M o) (k : kq V M M') (hs : s ≤ s') (h0 : ¬ V 0 (29 + r)) (h9 : ∀ q, q < s → ¬ V 9 q) : RuX r s' M' o := by
  cases o with
  | none => exact (k _ _ h0).trans h
  | some p =>
    obtain ⟨f0, a1, a2, a3⟩ := h
    exact ⟨f0, (k _ _ h0).trans a1, by omega, cod2_rng p f0 (fun q q1 q2 => k _ _ (h9 q (by omega))) a3⟩
section M
variable {f : Nat → Nat} {e s n : Nat} {τ : Td} {ts : List Tok} {M : Mem}
theorem DT.fr {ts' : List Tok} {V : Nat → Nat → Prop} {M' : Mem} (h : DT f e s τ ts M) (k : kq V M M') (ht : SRt f e ts' M') (hs : s ≤ 2 * (hdT e ts').p) (hv : ∀ t q, Qd s t q → ¬ V t q) : DT f e s τ ts' M' :=
  ⟨ht, (k _ _ (hv _ _ (by unfold Qd; omega))).trans h.d_f, (k _ _ (hv _ _ (by unfold Qd; omega))).trans h.d_3, (k _ _ (hv _ _ (by unfold Qd; omega))).trans h.d_h, (k _ _ (hv _ _ (by unfold Qd; omega))).trans h.d_p, fun c hc => ⟨(k _ _ (hv _ _ (by unfold Qd; omega))).trans (h.d_hw c hc).1, (k _ _ (hv _ _ (by unfold Qd; omega))).trans (h.d_hw c hc).2⟩, fun c h1 hc => ⟨(k _ _ (hv _ _ (by unfold Qd; omega))).trans (h.d_pw c h1 hc).1, (k _ _ (hv _ _ (by unfold Qd; omega))).trans (h.d_pw c h1 hc).2⟩, ⟨(k _ _ (hv _ _ (by unfold Qd; omega))).trans h.d_0.1, (k _ _ (hv _ _ (by unfold Qd; omega))).trans h.d_0.2.1, (k _ _ (hv _ _ (by unfold Qd; omega))).trans h.d_0.2.2.1, (k _ _ (hv _ _ (by unfold Qd; omega))).trans h.d_0.2.2.2⟩, (k _ _ (hv _ _ (by unfold Qd; omega))).trans h.d_w, fun v hv' => (k _ _ (hv _ _ (by unfold Qd; omega))).trans (h.d_ff v hv'), fun v hv' => (k _ _ (hv _ _ (by unfold Qd; omega))).trans (h.d_b v hv'), fun v h1 h2 => (k _ _ (hv _ _ (by unfold Qd; omega))).trans (h.d_z v h1 h2), ⟨(k _ _ (hv _ _ (by unfold Qd; omega))).trans h.d_g.1, h.d_g.2⟩, ⟨(k _ _ (hv _ _ (by unfold Qd; omega))).trans h.d_c.1, h.d_c.2⟩, (k _ _ (hv _ _ (by unfold Qd; omega))).trans h.d_n, fun i hi => (k _ _ (hv _ _ (by unfold Qd; omega))).trans (h.d_i i hi), ⟨(k _ _ (hv _ _ (by unfold Qd; omega))).trans h.d_s.1, hs⟩, fun r hr => (h.d_r r hr).kq k (Nat.le_refl _) (hv _ _ (by unfold Qd; omega)) (fun q hq => hv _ _ (by unfold Qd; omega))⟩
theorem SRt.pr (hf : ∀ q, f q < 256) (h : SRt f e ts M) : (hdT e ts).p ≤ (hdT e ts.tail).p := by
  have h1 := (h.tf hf).f_n
  obtain ⟨⟨p, hp⟩, _⟩ := h
  have := hp.tl.hd.x_p.1
  omega
theorem DT.go (he : e ≤ 700) (hf : ∀ q, f q < 256) (hn : 800 < n) (h : DT f e s τ ts M) : ∃ M', f_X9_goes n M = some M' ∧ DT f e s τ ts.tail M' ∧ kq VTk M M' := by
  obtain ⟨M', a1, a2, a3⟩ := mGoS he hf hn h.d_t
  have h1 := h.d_t.pr hf
  have h2 := h.d_s.2
  exact ⟨M', a1, h.fr a3 a2 (by omega) (fun t q hq => by unfold Qd at hq; unfold VTk; omega), a3⟩
theorem FT.st {k p : Nat} (h : FT k p M) {t q : Nat} (hq : ¬ (t = 0 ∧ (q = 12 ∨ q = 13))) (x : Int32) : FT k p (si M t q x) :=
  ⟨by rw [gi_si, if_neg (by omega)]; exact h.u_k, by rw [gi_si, if_neg (by omega)]; exact h.u_p, h.u_b⟩
theorem FT.bad {k p : Nat} (h : FT k p M) : f_X9_isGood n M = some ((0 : Int32), M) := mBad h.u_k (by have := h.u_b; omega)
theorem DT.good (h : DT f e s τ ts M) : f_X9_isGood n M = some ((1 : Int32), M) := mGood h.d_f
theorem DT.wrong (h : DT f e s τ ts M) {k : Nat} (hk : 1 ≤ k ∧ k ≤ 5) {x : Int32} (hx : x = nI k) : ∃ M', f_X9_wrong n x M = some M' ∧ FT k (hdT e ts).p M' ∧ kq VQ M M' ∧ (∀ t q, ¬ (t = 0 ∧ (q = 12 ∨ q = 13)) → gi M' t q = gi M t q) := by
  unfold f_X9_wrong
  rw [if_pos h.d_f, gi_si, if_neg (by omega), h.d_t.2.m_p, hx]
  refine ⟨_, rfl, ⟨by rw [gi_si, if_neg (by omega), gi_si, if_pos ⟨rfl, rfl⟩], by rw [gi_si, if_pos ⟨rfl, rfl⟩], hk⟩, (kq.rf.si (by unfold VQ; omega) _).si (by unfold VQ; omega) _, fun t q hq => ?_⟩
  rw [gi_si, if_neg (by omega), gi_si, if_neg (by omega)]
def RU (f : Nat → Nat) (e : Nat) (M : Mem) (R : LR) (o : Option Mem) : Prop := (∃ k p M', R = .inl (k, p) ∧ o = some M' ∧ FT k p M' ∧ kq VQ M M') ∨ (∃ τ' ts' M' s', R = .inr (τ', ts') ∧ o = some M' ∧ DT f e s' τ' ts' M' ∧ kq VQ M M')
theorem RU.of {M1 : Mem} {R : LR} {o : Option Mem} (h : RU f e M1 R o) (k : kq VQ M M1) : RU f e M R o := by
  rcases h with ⟨a, p, M', h1, h2, h3, h4⟩ | ⟨τ', ts', M', s', h1, h2, h3, h4⟩
  · exact Or.inl ⟨a, p, M', h1, h2, h3, k.tr h4⟩
  · exact Or.inr ⟨τ', ts', M', s', h1, h2, h3, k.tr h4⟩
theorem m378F {k p : Nat} (h : FT k p M) : j_X9_line_378 n M = some M := by
  have hs : ∃ y, f_X9_isSign n (59 : Int32) M = some (y, M) := by
    unfold f_X9_isSign
    repeat' split
    all_goals exact ⟨_, rfl⟩
  obtain ⟨y, hy⟩ := hs
  unfold j_X9_line_378
  rw [hy]
  dsimp only [bd]
  unfold f_X9_need
  rw [h.bad]
  dsimp only [bd]
  rw [if_pos (show (0 : Int32) = 0 from rfl)]
theorem RU.bad {k p : Nat} {M1 : Mem} (h : FT k p M1) (q : kq VQ M M1) : RU f e M (.inl (k, p)) (j_X9_line_378 n M1) := by
  rw [m378F h]
  exact Or.inl ⟨k, p, M1, rfl, rfl, h, q⟩
theorem mEndL (he : e ≤ 700) (hf : ∀ q, f q < 256) (hn : 800 < n) (h : DT f e s τ ts M) : RU f e M (endR e τ ts) (j_X9_line_378 n M) := by
  unfold j_X9_line_378 endR
  by_cases c : (hdT e ts).k = 3 ∧ (hdT e ts).v = 59
  · rw [sgn1 hf h.d_t (c := 59) (x := 59) (by decide) rfl c, if_pos c]
    dsimp only [bd]
    unfold f_X9_need
    rw [h.good]
    dsimp only [bd]
    rw [if_neg (show ¬ (1 : Int32) = 0 by decide), if_neg (show ¬ (1 : Int32) = 0 by decide)]
    obtain ⟨M', a1, a2, a3⟩ := h.go he hf hn
    rw [a1]
    exact Or.inr ⟨τ, ts.tail, M', s, rfl, rfl, a2, a3.mono (fun _ _ q => q.q)⟩
  · rw [sgn0 hf h.d_t (c := 59) (x := 59) (by decide) rfl c, if_neg c]
    dsimp only [bd]
    unfold f_X9_need
    rw [h.good]
    dsimp only [bd]
    obtain ⟨M', a1, a2, a3, a4⟩ := h.wrong (n := n) (k := 1) (x := 1) (by decide) rfl
    rw [if_neg (show ¬ (1 : Int32) = 0 by decide), if_pos (show (0 : Int32) = 0 from rfl), a1]
    exact Or.inl ⟨1, _, M', rfl, rfl, a2, a3⟩
theorem mNumF {k p : Nat} (h : FT k p M) (x1 x2 : Int32) : f_X9_number n x1 x2 M = some ((0 : Int32), M) := by
  unfold f_X9_number
  rw [h.bad]
  dsimp only [bd]
  rw [if_pos (show (0 : Int32) = 0 from rfl)]
theorem mNum (he : e ≤ 700) (hf : ∀ q, f q < 256) (hn : 800 < n) (h : DT f e s τ ts M) {lo hi : Nat} (hh : hi ≤ 9999) (hlo : lo ≤ hi) {x1 x2 : Int32} (hx1 : x1 = nI lo) (hx2 : x2 = nI hi) : (∃ k p M' x, numR e lo hi ts = .inl (k, p) ∧ f_X9_number n x1 x2 M = some (x, M') ∧ FT k p M' ∧ kq VQ M M' ∧ (∀ t q, ¬ (t = 0 ∧ (q = 12 ∨ q = 13)) → gi M' t q = gi M t q)) ∨ (∃ v M', numR e lo hi ts = .inr (v, ts.tail) ∧ f_X9_number n x1 x2 M = some (nI v, M') ∧ DT f e s τ ts.tail M' ∧ kq VTk M M' ∧ lo ≤ v ∧ v ≤ hi) := by
  have t := h.d_t.tf hf
  have hk := t.f_k
  have hnx := t.f_n
  have h54 : ∀ M', f_X9_goes n M = some M' → j_X9_number_54 n M = some (gi M 0 20, M') := by
    intro M' hM'
    unfold j_X9_number_54
    rw [h.good]
    dsimp only [bd]
    rw [if_neg (show ¬ (1 : Int32) = 0 by decide), hM']
  have h54F : ∀ k p M', FT k p M' → j_X9_number_54 n M' = some (gi M' 0 20, M') := by
    intro k p M' hM'
    unfold j_X9_number_54
    rw [hM'.bad]
    dsimp only [bd]
    rw [if_pos (show (0 : Int32) = 0 from rfl)]
  unfold f_X9_number numR
  rw [h.good]
  dsimp only [bd]
  rw [if_neg (show ¬ (1 : Int32) = 0 by decide), h.d_t.2.m_k, h.d_t.2.m_l, hx1, hx2]
  by_cases c2 : (hdT e ts).k = 2
  · have hv := t.f_2 c2
    have h20 := h.d_t.2.m_d c2
    obtain ⟨M0, w1, w2, w3, w4⟩ := h.wrong (n := n) (k := 2) (x := 2) (by decide) rfl
    have h49 : j_X9_number_49 n M = some (gi M0 0 20, M0) := by
      unfold j_X9_number_49
      rw [w1]
      dsimp only [bd]
      exact h54F _ _ _ w2
    rw [if_pos (show nI (hdT e ts).k = (2 : Int32) by rw [c2]; rfl), h20, h49]
    by_cases c4 : (hdT e ts).nx - (hdT e ts).p ≤ 4
    · rw [if_neg (show ¬ (4 : Int32) < nI ((hdT e ts).nx - (hdT e ts).p) from nI_nlt (a := 4) c4 (by decide))]
      by_cases cl : lo ≤ (hdT e ts).v
      · rw [if_neg (nI_nlt cl (by omega))]
        by_cases ch : (hdT e ts).v ≤ hi
        · rw [if_pos (nI_le ch (by omega)), if_pos ⟨c2, c4, cl, ch⟩]
          obtain ⟨M', a1, a2, a3⟩ := h.go he hf hn
          rw [h54 M' a1, h20]
          exact Or.inr ⟨_, M', rfl, rfl, a2, a3, cl, ch⟩
        · rw [if_neg (nI_ge (by omega) (by omega)), if_neg (fun q => ch q.2.2.2), if_pos c2]
          exact Or.inl ⟨2, _, M0, _, rfl, rfl, w2, w3, w4⟩
      · rw [if_pos (nI_lt (by omega) (by omega)), if_neg (fun q => cl q.2.2.1), if_pos c2]
        exact Or.inl ⟨2, _, M0, _, rfl, rfl, w2, w3, w4⟩
    · rw [if_pos (show (4 : Int32) < nI ((hdT e ts).nx - (hdT e ts).p) from nI_lt (a := 4) (by omega) (by omega)), if_neg (fun q => c4 q.2.1), if_pos c2]
      exact Or.inl ⟨2, _, M0, _, rfl, rfl, w2, w3, w4⟩
  · obtain ⟨M0, w1, w2, w3, w4⟩ := h.wrong (n := n) (k := 1) (x := 1) (by decide) rfl
    rw [if_neg (ne_2 c2 (by omega)), w1, if_neg (fun q => c2 q.1), if_neg c2]
    dsimp only []
    rw [h54F _ _ _ w2]
    exact Or.inl ⟨1, _, M0, _, rfl, rfl, w2, w3, w4⟩
theorem mBeg (he : e ≤ 700) (hf : ∀ q, f q < 256) (hn : 800 < n) (h : DT f e s τ ts M) : ∃ M', f_X9_begins n 0 0 M = some ((1 : Int32), M') ∧ DT f e s τ ts.tail M' ∧ kq VQ M M' := by
  obtain ⟨M', a1, a2, a3⟩ := h.go he hf hn
  refine ⟨M', ?_, a2, a3.mono (fun _ _ q => q.q)⟩
  unfold f_X9_begins j_X9_begins_9 j_X9_begins_18
  rw [if_pos (show (0 : Int32) = 0 from rfl), if_pos (show (0 : Int32) = 0 from rfl), h.good]
  dsimp only [bd]
  rw [if_neg (show ¬ (1 : Int32) = 0 by decide), a1]
theorem mBegF (h : DT f e s τ ts M) {a b : Int32} {k : Nat} (hk : (a = 1 ∧ b = 0 ∧ k = 2) ∨ (a = 0 ∧ b = 1 ∧ k = 5)) : ∃ M', f_X9_begins n a b M = some ((0 : Int32), M') ∧ FT k (hdT e ts).p M' ∧ kq VQ M M' := by
  rcases hk with ⟨ha, hb, hk⟩ | ⟨ha, hb, hk⟩
  · obtain ⟨M', a1, a2, a3, _⟩ := h.wrong (n := n) (k := 2) (x := 2) (by decide) rfl
    refine ⟨M', ?_, by rw [hk]; exact a2, a3⟩
    unfold f_X9_begins j_X9_begins_9 j_X9_begins_18
    rw [ha, hb, if_neg (show ¬ (1 : Int32) = 0 by decide), a1]
    dsimp only [bd]
    rw [if_pos (show (0 : Int32) = 0 from rfl), a2.bad]
    dsimp only [bd]
    rw [if_pos (show (0 : Int32) = 0 from rfl)]
  · obtain ⟨M', a1, a2, a3, _⟩ := h.wrong (n := n) (k := 5) (x := 5) (by decide) rfl
    refine ⟨M', ?_, by rw [hk]; exact a2, a3⟩
    unfold f_X9_begins j_X9_begins_9 j_X9_begins_18
    rw [ha, hb, if_pos (show (0 : Int32) = 0 from rfl), if_neg (show ¬ (1 : Int32) = 0 by decide), a1]
    dsimp only [bd]
    rw [a2.bad]
    dsimp only [bd]
    rw [if_pos (show (0 : Int32) = 0 from rfl)]
end M
