/-! The whole state, in the middle, and what each side holds of it. -/
theorem TwM.kq {wd : Nat} {T : Tw} {V : Nat → Nat → Prop} {M M' : Mem} (h : TwM wd T M) (e : kq V M M') (h0 : ∀ k, 1 ≤ k → k ≤ 7 → ¬ V 0 k) (h1 : ∀ k, ¬ V 1 k) (h2 : ∀ k, ¬ V 2 k) : TwM wd T M' := by
  refine ⟨(e _ _ (h0 _ (by decide) (by decide))).trans h.wards, (e _ _ (h0 _ (by decide) (by decide))).trans h.ground, (e _ _ (h0 _ (by decide) (by decide))).trans h.cost, (e _ _ (h0 _ (by decide) (by decide))).trans h.winds, fun k hk => (e _ _ (h1 _)).trans (h.wind k hk), fun r hr => ?_⟩
  have hh := h.rule r hr
  cases hT : T.rule r with
  | none =>
    rw [hT] at hh
    exact (e _ _ (h0 _ (by omega) (by omega))).trans hh
  | some p =>
    rw [hT] at hh
    obtain ⟨f, a1, a2, a3⟩ := hh
    exact ⟨f, (e _ _ (h0 _ (by omega) (by omega))).trans a1, a2, cod2_congr (fun k => e _ _ (h2 _)) a3⟩
theorem StR.kq {wd t b : Nat} {s : Sp} {V : Nat → Nat → Prop} {M M' : Mem} (g : s.Good wd) (h : StR wd s t b M) (e : kq V M M') (hv : ∀ k, b ≤ k → k < b + 54 → ¬ V t k) : StR wd s t b M' :=
  h.copy g (fun p hp => e _ _ (hv _ (by omega) (by omega)))
/-- an act that is kept: packed cells of the class -/
def SlC (wd : Nat) (s : Sp) (t a : Nat) (M : Mem) : Prop := (∀ c, c < s.all → gi M t (a + c) = nI (s.weight c * 10 + s.mortar c)) ∧ (∀ w, w < wd → gi M t (a + 16 + w) = nI (s.beside w * 100 + s.faith w)) ∧ (gi M t (a + 24) = nI s.all) ∧ (gi M t (a + 25) = nI s.hung) ∧ (gi M t (a + 26) = nI s.day) ∧ (gi M t (a + 27) = nI s.money) ∧ (gi M t (a + 28) = nI s.lean) ∧ (gi M t (a + 29) = nI s.fell)
theorem SlC.l_c {wd : Nat} {s : Sp} {t a : Nat} {M : Mem} (h : SlC wd s t a M) : ∀ c, c < s.all → gi M t (a + c) = nI (s.weight c * 10 + s.mortar c) := h.1
theorem SlC.l_w {wd : Nat} {s : Sp} {t a : Nat} {M : Mem} (h : SlC wd s t a M) : ∀ w, w < wd → gi M t (a + 16 + w) = nI (s.beside w * 100 + s.faith w) := h.2.1
theorem SlC.l_all {wd : Nat} {s : Sp} {t a : Nat} {M : Mem} (h : SlC wd s t a M) : gi M t (a + 24) = nI s.all := h.2.2.1
theorem SlC.l_hung {wd : Nat} {s : Sp} {t a : Nat} {M : Mem} (h : SlC wd s t a M) : gi M t (a + 25) = nI s.hung := h.2.2.2.1
theorem SlC.l_day {wd : Nat} {s : Sp} {t a : Nat} {M : Mem} (h : SlC wd s t a M) : gi M t (a + 26) = nI s.day := h.2.2.2.2.1
theorem SlC.l_money {wd : Nat} {s : Sp} {t a : Nat} {M : Mem} (h : SlC wd s t a M) : gi M t (a + 27) = nI s.money := h.2.2.2.2.2.1
theorem SlC.l_lean {wd : Nat} {s : Sp} {t a : Nat} {M : Mem} (h : SlC wd s t a M) : gi M t (a + 28) = nI s.lean := h.2.2.2.2.2.2.1
theorem SlC.l_fell {wd : Nat} {s : Sp} {t a : Nat} {M : Mem} (h : SlC wd s t a M) : gi M t (a + 29) = nI s.fell := h.2.2.2.2.2.2.2
def ActC (wd : Nat) (l : List Sp) (t : Nat) (M : Mem) : Prop := ∃ f, f < 40 ∧ gi M t 1 = nI f ∧ gi M t 2 = nI l.length ∧ ∀ (k : Nat) (s : Sp), l[k]? = some s → SlC wd s (t + 1) ((f + k) % 40 * 30) M
def ActM (wd : Nat) (l : List Sp) (t f : Nat) (M : Mem) : Prop := gi M 0 f = nI l.length ∧ ∀ (k : Nat) (s : Sp), l[k]? = some s → StR wd s t (54 * k) M
def SeC (q : List (Nat × Nat)) (t : Nat) (M : Mem) : Prop := gi M t 2 = nI q.length ∧ ∀ (k : Nat) (p : Nat × Nat), q[k]? = some p → gi M (t + 1) k = nI p.1 ∧ gi M (t + 2) k = nI p.2
def SeM (q : List (Nat × Nat)) (t f : Nat) (M : Mem) : Prop := gi M 0 f = nI q.length ∧ ∀ (k : Nat) (p : Nat × Nat), q[k]? = some p → gi M t (2 * k) = nI p.1 ∧ gi M t (2 * k + 1) = nI p.2
abbrev Img : Type := Option (Sp × List Sp × List (Nat × Nat))
def ImC (wd : Nat) (M : Mem) : Img → Prop
  | none => gi M 0 14 = (0 : Int32)
  | some (s, l, q) => gi M 0 14 = (1 : Int32) ∧ StC wd s 22 M ∧ ActC wd l 36 M ∧ SeC q 41 M
def ImM (wd : Nat) (M : Mem) : Img → Prop
  | none => gi M 0 59 = (0 : Int32)
  | some (s, l, q) => gi M 0 59 = (1 : Int32) ∧ StR wd s 21 0 M ∧ ActM wd l 22 60 M ∧ SeM q 23 61 M
def AcG (wd : Nat) (l : List Sp) : Prop := l.length ≤ 40 ∧ ∀ s, s ∈ l → s.Good wd ∧ s.day ≤ 9999
def SeG (q : List (Nat × Nat)) : Prop := q.length ≤ 8 ∧ ∀ p, p ∈ q → p.1 ≤ 20 ∧ p.2 ≤ 99
def ImG (wd : Nat) : Img → Prop
  | none => True
  | some (s, l, q) => s.Good wd ∧ s.day ≤ 9999 ∧ AcG wd l ∧ SeG q
def sb (b : Nat) : Int32 := (nI b).toInt8.toInt32
abbrev Ab : Type := Nat × Tw × Sp × List Sp × List (Nat × Nat) × Img × (Nat → Int32) × List Nat × Int32
abbrev Ab.wd (s : Ab) : Nat := s.1
abbrev Ab.tw (s : Ab) : Tw := s.2.1
abbrev Ab.now (s : Ab) : Sp := s.2.2.1
abbrev Ab.acts (s : Ab) : List Sp := s.2.2.2.1
abbrev Ab.seen (s : Ab) : List (Nat × Nat) := s.2.2.2.2.1
abbrev Ab.img (s : Ab) : Img := s.2.2.2.2.2.1
abbrev Ab.rf (s : Ab) : Nat → Int32 := s.2.2.2.2.2.2.1
abbrev Ab.tape (s : Ab) : List Nat := s.2.2.2.2.2.2.2.1
abbrev Ab.fp (s : Ab) : Int32 := s.2.2.2.2.2.2.2.2
def Ab.Good (A : Ab) : Prop := (A.tw.Good) ∧ (A.now.Good A.wd) ∧ (A.now.day ≤ 9999) ∧ (AcG A.wd A.acts) ∧ (SeG A.seen) ∧ (ImG A.wd A.img) ∧ (A.tape.length ≤ 700) ∧ (∀ b, b ∈ A.tape → b < 256)
theorem Ab.Good.g_t {A : Ab} (h : Ab.Good A) : A.tw.Good := h.1
theorem Ab.Good.g_n {A : Ab} (h : Ab.Good A) : A.now.Good A.wd := h.2.1
theorem Ab.Good.g_d {A : Ab} (h : Ab.Good A) : A.now.day ≤ 9999 := h.2.2.1
theorem Ab.Good.g_a {A : Ab} (h : Ab.Good A) : AcG A.wd A.acts := h.2.2.2.1
theorem Ab.Good.g_s {A : Ab} (h : Ab.Good A) : SeG A.seen := h.2.2.2.2.1
theorem Ab.Good.g_i {A : Ab} (h : Ab.Good A) : ImG A.wd A.img := h.2.2.2.2.2.1
theorem Ab.Good.g_b {A : Ab} (h : Ab.Good A) : A.tape.length ≤ 700 := h.2.2.2.2.2.2.1
theorem Ab.Good.g_bb {A : Ab} (h : Ab.Good A) : ∀ b, b ∈ A.tape → b < 256 := h.2.2.2.2.2.2.2
def RC (A : Ab) (M : Mem) : Prop := (∃ j, (j = 46 ∨ j = 53) ∧ gi M 0 12 = nI j ∧ gi M 44 2 = nI (99 - j) ∧ TwC A.tw j M) ∧ (StC A.wd A.now 4 M) ∧ (ActC A.wd A.acts 34 M) ∧ (SeC A.seen 38 M) ∧ (ImC A.wd M A.img) ∧ (∀ k, k < 3 → gi M 1 k = A.rf k) ∧ (gi M 44 3 = nI A.tape.length) ∧ (∀ (k b : Nat), A.tape[k]? = some b → gi M 45 k = sb b) ∧ (gi M 0 13 = A.fp)
theorem RC.r_j {A : Ab} {M : Mem} (h : RC A M) : ∃ j, (j = 46 ∨ j = 53) ∧ gi M 0 12 = nI j ∧ gi M 44 2 = nI (99 - j) ∧ TwC A.tw j M := h.1
theorem RC.r_n {A : Ab} {M : Mem} (h : RC A M) : StC A.wd A.now 4 M := h.2.1
theorem RC.r_a {A : Ab} {M : Mem} (h : RC A M) : ActC A.wd A.acts 34 M := h.2.2.1
theorem RC.r_s {A : Ab} {M : Mem} (h : RC A M) : SeC A.seen 38 M := h.2.2.2.1
theorem RC.r_i {A : Ab} {M : Mem} (h : RC A M) : ImC A.wd M A.img := h.2.2.2.2.1
theorem RC.r_r {A : Ab} {M : Mem} (h : RC A M) : ∀ k, k < 3 → gi M 1 k = A.rf k := h.2.2.2.2.2.1
theorem RC.r_l {A : Ab} {M : Mem} (h : RC A M) : gi M 44 3 = nI A.tape.length := h.2.2.2.2.2.2.1
theorem RC.r_b {A : Ab} {M : Mem} (h : RC A M) : ∀ (k b : Nat), A.tape[k]? = some b → gi M 45 k = sb b := h.2.2.2.2.2.2.2.1
theorem RC.r_f {A : Ab} {M : Mem} (h : RC A M) : gi M 0 13 = A.fp := h.2.2.2.2.2.2.2.2
def RM (A : Ab) (M : Mem) : Prop := (StR A.wd A.now 12 0 M) ∧ (TwM A.wd A.tw M) ∧ (ActM A.wd A.acts 13 46 M) ∧ (SeM A.seen 18 54 M) ∧ (ImM A.wd M A.img) ∧ (∀ k, k < 3 → gi M 4 k = A.rf k) ∧ (gi M 0 11 = nI A.tape.length) ∧ (∀ (k b : Nat), A.tape[k]? = some b → gi M 3 k = nI b) ∧ (gi M 0 13 = A.fp) ∧ (gi M 0 52 = (-1 : Int32))
theorem RM.s_n {A : Ab} {M : Mem} (h : RM A M) : StR A.wd A.now 12 0 M := h.1
theorem RM.s_t {A : Ab} {M : Mem} (h : RM A M) : TwM A.wd A.tw M := h.2.1
theorem RM.s_a {A : Ab} {M : Mem} (h : RM A M) : ActM A.wd A.acts 13 46 M := h.2.2.1
theorem RM.s_s {A : Ab} {M : Mem} (h : RM A M) : SeM A.seen 18 54 M := h.2.2.2.1
theorem RM.s_i {A : Ab} {M : Mem} (h : RM A M) : ImM A.wd M A.img := h.2.2.2.2.1
theorem RM.s_r {A : Ab} {M : Mem} (h : RM A M) : ∀ k, k < 3 → gi M 4 k = A.rf k := h.2.2.2.2.2.1
theorem RM.s_l {A : Ab} {M : Mem} (h : RM A M) : gi M 0 11 = nI A.tape.length := h.2.2.2.2.2.2.1
theorem RM.s_b {A : Ab} {M : Mem} (h : RM A M) : ∀ (k b : Nat), A.tape[k]? = some b → gi M 3 k = nI b := h.2.2.2.2.2.2.2.1
theorem RM.s_f {A : Ab} {M : Mem} (h : RM A M) : gi M 0 13 = A.fp := h.2.2.2.2.2.2.2.2.1
theorem RM.s_w {A : Ab} {M : Mem} (h : RM A M) : gi M 0 52 = (-1 : Int32) := h.2.2.2.2.2.2.2.2.2
def RR (M M2 : Mem) : Prop := ∃ A : Ab, A.Good ∧ RC A M ∧ RM A M2
theorem SlC.kq {wd t a : Nat} {s : Sp} {V : Nat → Nat → Prop} {M M' : Mem} (h : SlC wd s t a M) (e : kq V M M') (hv : ∀ k, ¬ V t k) : SlC wd s t a M' :=
  ⟨fun c hc => (e _ _ (hv _)).trans (h.l_c c hc), fun c hc => (e _ _ (hv _)).trans (h.l_w c hc), (e _ _ (hv _)).trans h.l_all, (e _ _ (hv _)).trans h.l_hung, (e _ _ (hv _)).trans h.l_day, (e _ _ (hv _)).trans h.l_money, (e _ _ (hv _)).trans h.l_lean, (e _ _ (hv _)).trans h.l_fell⟩
theorem ActC.kq {wd t : Nat} {l : List Sp} {V : Nat → Nat → Prop} {M M' : Mem} (h : ActC wd l t M) (e : kq V M M') (hv : ∀ q k, t ≤ q → q ≤ t + 1 → ¬ V q k) : ActC wd l t M' := by
  obtain ⟨f, h1, h2, h3, h4⟩ := h
  exact ⟨f, h1, (e _ _ (hv _ _ (by omega) (by omega))).trans h2, (e _ _ (hv _ _ (by omega) (by omega))).trans h3, fun k s hk => (h4 k s hk).kq e (fun k => hv _ _ (by omega) (by omega))⟩
theorem SeC.kq {t : Nat} {q : List (Nat × Nat)} {V : Nat → Nat → Prop} {M M' : Mem} (h : SeC q t M) (e : kq V M M') (hv : ∀ q k, t ≤ q → q ≤ t + 2 → ¬ V q k) : SeC q t M' :=
  ⟨(e _ _ (hv _ _ (by omega) (by omega))).trans h.1, fun k p hk => ⟨(e _ _ (hv _ _ (by omega) (by omega))).trans (h.2 k p hk).1, (e _ _ (hv _ _ (by omega) (by omega))).trans (h.2 k p hk).2⟩⟩
theorem RC.kq {A : Ab} {M M' : Mem} (h : RC A M) (e : kq VC M M') : RC A M' := by
  refine ⟨?_, h.r_n.kq e (fun t k h1 h2 => by unfold VC; omega), h.r_a.kq e (fun t k h1 h2 => by unfold VC; omega), h.r_s.kq e (fun t k h1 h2 => by unfold VC; omega), ?_, fun k hk => (e _ _ (by unfold VC; omega)).trans (h.r_r k hk), (e _ _ (by unfold VC; omega)).trans h.r_l, fun k b hk => (e _ _ (by unfold VC; omega)).trans (h.r_b k b hk), (e _ _ (by unfold VC; omega)).trans h.r_f⟩
  · obtain ⟨j, h1, h2, h3, h4⟩ := h.r_j
    exact ⟨j, h1, (e _ _ (by unfold VC; omega)).trans h2, (e _ _ (by unfold VC; omega)).trans h3, h4.kq e (fun t k h5 h6 => by unfold VC; omega)⟩
  · have hi := h.r_i
    cases hA : A.img with
    | none =>
      rw [hA] at hi
      exact (e _ _ (by unfold VC; omega)).trans hi
    | some p =>
      obtain ⟨s, l, q⟩ := p
      rw [hA] at hi
      obtain ⟨h1, h2, h3, h4⟩ := hi
      exact ⟨(e _ _ (by unfold VC; omega)).trans h1, h2.kq e (fun t k h1 h2 => by unfold VC; omega), h3.kq e (fun t k h1 h2 => by unfold VC; omega), h4.kq e (fun t k h1 h2 => by unfold VC; omega)⟩
theorem ActM.kq {wd t f : Nat} {l : List Sp} {V : Nat → Nat → Prop} {M M' : Mem} (g : AcG wd l) (h : ActM wd l t f M) (e : kq V M M') (h0 : ¬ V 0 f) (hv : ∀ k, ¬ V t k) : ActM wd l t f M' :=
  ⟨(e _ _ h0).trans h.1, fun k s hk => (h.2 k s hk).kq (g.2 s (List.mem_of_getElem? hk)).1 e (fun k _ _ => hv k)⟩
theorem SeM.kq {t f : Nat} {q : List (Nat × Nat)} {V : Nat → Nat → Prop} {M M' : Mem} (h : SeM q t f M) (e : kq V M M') (h0 : ¬ V 0 f) (hv : ∀ k, ¬ V t k) : SeM q t f M' :=
  ⟨(e _ _ h0).trans h.1, fun k p hk => ⟨(e _ _ (hv _)).trans (h.2 k p hk).1, (e _ _ (hv _)).trans (h.2 k p hk).2⟩⟩
/-- what questions leave: the reference -/
def VR (t k : Nat) : Prop := t = 14 ∨ t = 15 ∨ t = 16 ∨ t = 17 ∨ t = 19 ∨ t = 20 ∨ (t = 0 ∧ (k = 0 ∨ k = 48 ∨ k = 49 ∨ k = 58)) ∨ (t = 12 ∧ 54 ≤ k)
theorem RM.kq {A : Ab} {M M' : Mem} (g : A.Good) (h : RM A M) (e : kq VR M M') : RM A M' := by
  refine ⟨h.s_n.kq g.g_n e (fun k h1 h2 => by unfold VR; omega), h.s_t.kq e (fun k h1 h2 => by unfold VR; omega) (fun k => by unfold VR; omega) (fun k => by unfold VR; omega), h.s_a.kq g.g_a e (by unfold VR; omega) (fun k => by unfold VR; omega), h.s_s.kq e (by unfold VR; omega) (fun k => by unfold VR; omega), ?_, fun k hk => (e _ _ (by unfold VR; omega)).trans (h.s_r k hk), (e _ _ (by unfold VR; omega)).trans h.s_l, fun k b hk => (e _ _ (by unfold VR; omega)).trans (h.s_b k b hk), (e _ _ (by unfold VR; omega)).trans h.s_f, (e _ _ (by unfold VR; omega)).trans h.s_w⟩
  have hi := h.s_i
  have gi' := g.g_i
  cases hA : A.img with
  | none =>
    rw [hA] at hi
    exact (e _ _ (by unfold VR; omega)).trans hi
  | some p =>
    obtain ⟨s, l, q⟩ := p
    rw [hA] at hi gi'
    obtain ⟨h1, h2, h3, h4⟩ := hi
    obtain ⟨g1, g2, g3, g4⟩ := gi'
    exact ⟨(e _ _ (by unfold VR; omega)).trans h1, h2.kq g1 e (fun k _ _ => by unfold VR; omega), h3.kq g3 e (by unfold VR; omega) (fun k => by unfold VR; omega), h4.kq e (by unfold VR; omega) (fun k => by unfold VR; omega)⟩
