/-! Other refusals, seen, a tape, an image. -/
def Ab.setRf (A : Ab) (f : Nat → Int32) : Ab := (A.wd, A.tw, A.now, A.acts, A.seen, A.img, f, A.tape, A.fp)
def VC_setRf (t k : Nat) : Prop := t = 1
def VM_setRf (t k : Nat) : Prop := t = 4 ∨ (t = 0 ∧ k = 0)
theorem rc_setRf {A : Ab} {M M' : Mem} {f : Nat → Int32} (h : RC A M) (e : kq VC_setRf M M') (xr_r : ∀ k, k < 3 → gi M' 1 k = f k) : RC (A.setRf f) M' := by
  refine ⟨?_, h.r_n.kq e (fun t k h1 h2 => by unfold VC_setRf; omega), h.r_a.kq e (fun t k h1 h2 => by unfold VC_setRf; omega), h.r_s.kq e (fun t k h1 h2 => by unfold VC_setRf; omega), ?_, xr_r, (e _ _ (by unfold VC_setRf; omega)).trans h.r_l, fun k b hk => (e _ _ (by unfold VC_setRf; omega)).trans (h.r_b k b hk), (e _ _ (by unfold VC_setRf; omega)).trans h.r_f⟩
  · obtain ⟨j, h1, h2, h3, h4⟩ := h.r_j
    exact ⟨j, h1, (e _ _ (by unfold VC_setRf; omega)).trans h2, (e _ _ (by unfold VC_setRf; omega)).trans h3, h4.kq e (fun t k h5 h6 => by unfold VC_setRf; omega)⟩
  · have hi := h.r_i
    show ImC A.wd M' A.img
    cases hA : A.img with
    | none =>
      rw [hA] at hi
      exact (e _ _ (by unfold VC_setRf; omega)).trans hi
    | some p =>
      obtain ⟨s, l, q⟩ := p
      rw [hA] at hi
      obtain ⟨h1, h2, h3, h4⟩ := hi
      exact ⟨(e _ _ (by unfold VC_setRf; omega)).trans h1, h2.kq e (fun t k h1 h2 => by unfold VC_setRf; omega), h3.kq e (fun t k h1 h2 => by unfold VC_setRf; omega), h4.kq e (fun t k h1 h2 => by unfold VC_setRf; omega)⟩
theorem rm_setRf {A : Ab} {M M' : Mem} {f : Nat → Int32} (g : A.Good) (h : RM A M) (e : kq VM_setRf M M') (xs_r : ∀ k, k < 3 → gi M' 4 k = f k) : RM (A.setRf f) M' := by
  refine ⟨h.s_n.kq g.g_n e (fun k h1 h2 => by unfold VM_setRf; omega), h.s_t.kq e (fun k h1 h2 => by unfold VM_setRf; omega) (fun k => by unfold VM_setRf; omega) (fun k => by unfold VM_setRf; omega), h.s_a.kq g.g_a e (by unfold VM_setRf; omega) (fun k => by unfold VM_setRf; omega), h.s_s.kq e (by unfold VM_setRf; omega) (fun k => by unfold VM_setRf; omega), ?_, xs_r, (e _ _ (by unfold VM_setRf; omega)).trans h.s_l, fun k b hk => (e _ _ (by unfold VM_setRf; omega)).trans (h.s_b k b hk), (e _ _ (by unfold VM_setRf; omega)).trans h.s_f, (e _ _ (by unfold VM_setRf; omega)).trans h.s_w⟩
  have hi := h.s_i
  have gi' := g.g_i
  show ImM A.wd M' A.img
  cases hA : A.img with
  | none =>
    rw [hA] at hi
    exact (e _ _ (by unfold VM_setRf; omega)).trans hi
  | some p =>
    obtain ⟨s, l, q⟩ := p
    rw [hA] at hi gi'
    obtain ⟨h1, h2, h3, h4⟩ := hi
    obtain ⟨g1, g2, g3, g4⟩ := gi'
    exact ⟨(e _ _ (by unfold VM_setRf; omega)).trans h1, h2.kq g1 e (fun k _ _ => by unfold VM_setRf; omega), h3.kq g3 e (by unfold VM_setRf; omega) (fun k => by unfold VM_setRf; omega), h4.kq e (by unfold VM_setRf; omega) (fun k => by unfold VM_setRf; omega)⟩
def Ab.setSeen (A : Ab) (q : List (Nat × Nat)) : Ab := (A.wd, A.tw, A.now, A.acts, q, A.img, A.rf, A.tape, A.fp)
def VC_setSeen (t k : Nat) : Prop := 38 ≤ t ∧ t ≤ 40
def VM_setSeen (t k : Nat) : Prop := t = 18 ∨ (t = 0 ∧ (k = 0 ∨ k = 54))
theorem rc_setSeen {A : Ab} {M M' : Mem} {q : List (Nat × Nat)} (h : RC A M) (e : kq VC_setSeen M M') (xr_s : SeC q 38 M') : RC (A.setSeen q) M' := by
  refine ⟨?_, h.r_n.kq e (fun t k h1 h2 => by unfold VC_setSeen; omega), h.r_a.kq e (fun t k h1 h2 => by unfold VC_setSeen; omega), xr_s, ?_, fun k hk => (e _ _ (by unfold VC_setSeen; omega)).trans (h.r_r k hk), (e _ _ (by unfold VC_setSeen; omega)).trans h.r_l, fun k b hk => (e _ _ (by unfold VC_setSeen; omega)).trans (h.r_b k b hk), (e _ _ (by unfold VC_setSeen; omega)).trans h.r_f⟩
  · obtain ⟨j, h1, h2, h3, h4⟩ := h.r_j
    exact ⟨j, h1, (e _ _ (by unfold VC_setSeen; omega)).trans h2, (e _ _ (by unfold VC_setSeen; omega)).trans h3, h4.kq e (fun t k h5 h6 => by unfold VC_setSeen; omega)⟩
  · have hi := h.r_i
    show ImC A.wd M' A.img
    cases hA : A.img with
    | none =>
      rw [hA] at hi
      exact (e _ _ (by unfold VC_setSeen; omega)).trans hi
    | some p =>
      obtain ⟨s, l, q⟩ := p
      rw [hA] at hi
      obtain ⟨h1, h2, h3, h4⟩ := hi
      exact ⟨(e _ _ (by unfold VC_setSeen; omega)).trans h1, h2.kq e (fun t k h1 h2 => by unfold VC_setSeen; omega), h3.kq e (fun t k h1 h2 => by unfold VC_setSeen; omega), h4.kq e (fun t k h1 h2 => by unfold VC_setSeen; omega)⟩
theorem rm_setSeen {A : Ab} {M M' : Mem} {q : List (Nat × Nat)} (g : A.Good) (h : RM A M) (e : kq VM_setSeen M M') (xs_s : SeM q 18 54 M') : RM (A.setSeen q) M' := by
  refine ⟨h.s_n.kq g.g_n e (fun k h1 h2 => by unfold VM_setSeen; omega), h.s_t.kq e (fun k h1 h2 => by unfold VM_setSeen; omega) (fun k => by unfold VM_setSeen; omega) (fun k => by unfold VM_setSeen; omega), h.s_a.kq g.g_a e (by unfold VM_setSeen; omega) (fun k => by unfold VM_setSeen; omega), xs_s, ?_, fun k hk => (e _ _ (by unfold VM_setSeen; omega)).trans (h.s_r k hk), (e _ _ (by unfold VM_setSeen; omega)).trans h.s_l, fun k b hk => (e _ _ (by unfold VM_setSeen; omega)).trans (h.s_b k b hk), (e _ _ (by unfold VM_setSeen; omega)).trans h.s_f, (e _ _ (by unfold VM_setSeen; omega)).trans h.s_w⟩
  have hi := h.s_i
  have gi' := g.g_i
  show ImM A.wd M' A.img
  cases hA : A.img with
  | none =>
    rw [hA] at hi
    exact (e _ _ (by unfold VM_setSeen; omega)).trans hi
  | some p =>
    obtain ⟨s, l, q⟩ := p
    rw [hA] at hi gi'
    obtain ⟨h1, h2, h3, h4⟩ := hi
    obtain ⟨g1, g2, g3, g4⟩ := gi'
    exact ⟨(e _ _ (by unfold VM_setSeen; omega)).trans h1, h2.kq g1 e (fun k _ _ => by unfold VM_setSeen; omega), h3.kq g3 e (by unfold VM_setSeen; omega) (fun k => by unfold VM_setSeen; omega), h4.kq e (by unfold VM_setSeen; omega) (fun k => by unfold VM_setSeen; omega)⟩
def Ab.setTape (A : Ab) (b : List Nat) : Ab := (A.wd, A.tw, A.now, A.acts, A.seen, A.img, A.rf, b, A.fp)
def VC_setTape (t k : Nat) : Prop := t = 45 ∨ (t = 44 ∧ k = 3)
def VM_setTape (t k : Nat) : Prop := t = 3 ∨ (t = 0 ∧ (k = 0 ∨ k = 11))
theorem rc_setTape {A : Ab} {M M' : Mem} {b : List Nat} (h : RC A M) (e : kq VC_setTape M M') (xr_l : gi M' 44 3 = nI b.length) (xr_b : ∀ (k x : Nat), b[k]? = some x → gi M' 45 k = sb x) : RC (A.setTape b) M' := by
  refine ⟨?_, h.r_n.kq e (fun t k h1 h2 => by unfold VC_setTape; omega), h.r_a.kq e (fun t k h1 h2 => by unfold VC_setTape; omega), h.r_s.kq e (fun t k h1 h2 => by unfold VC_setTape; omega), ?_, fun k hk => (e _ _ (by unfold VC_setTape; omega)).trans (h.r_r k hk), xr_l, xr_b, (e _ _ (by unfold VC_setTape; omega)).trans h.r_f⟩
  · obtain ⟨j, h1, h2, h3, h4⟩ := h.r_j
    exact ⟨j, h1, (e _ _ (by unfold VC_setTape; omega)).trans h2, (e _ _ (by unfold VC_setTape; omega)).trans h3, h4.kq e (fun t k h5 h6 => by unfold VC_setTape; omega)⟩
  · have hi := h.r_i
    show ImC A.wd M' A.img
    cases hA : A.img with
    | none =>
      rw [hA] at hi
      exact (e _ _ (by unfold VC_setTape; omega)).trans hi
    | some p =>
      obtain ⟨s, l, q⟩ := p
      rw [hA] at hi
      obtain ⟨h1, h2, h3, h4⟩ := hi
      exact ⟨(e _ _ (by unfold VC_setTape; omega)).trans h1, h2.kq e (fun t k h1 h2 => by unfold VC_setTape; omega), h3.kq e (fun t k h1 h2 => by unfold VC_setTape; omega), h4.kq e (fun t k h1 h2 => by unfold VC_setTape; omega)⟩
theorem rm_setTape {A : Ab} {M M' : Mem} {b : List Nat} (g : A.Good) (h : RM A M) (e : kq VM_setTape M M') (xs_l : gi M' 0 11 = nI b.length) (xs_b : ∀ (k x : Nat), b[k]? = some x → gi M' 3 k = nI x) : RM (A.setTape b) M' := by
  refine ⟨h.s_n.kq g.g_n e (fun k h1 h2 => by unfold VM_setTape; omega), h.s_t.kq e (fun k h1 h2 => by unfold VM_setTape; omega) (fun k => by unfold VM_setTape; omega) (fun k => by unfold VM_setTape; omega), h.s_a.kq g.g_a e (by unfold VM_setTape; omega) (fun k => by unfold VM_setTape; omega), h.s_s.kq e (by unfold VM_setTape; omega) (fun k => by unfold VM_setTape; omega), ?_, fun k hk => (e _ _ (by unfold VM_setTape; omega)).trans (h.s_r k hk), xs_l, xs_b, (e _ _ (by unfold VM_setTape; omega)).trans h.s_f, (e _ _ (by unfold VM_setTape; omega)).trans h.s_w⟩
  have hi := h.s_i
  have gi' := g.g_i
  show ImM A.wd M' A.img
  cases hA : A.img with
  | none =>
    rw [hA] at hi
    exact (e _ _ (by unfold VM_setTape; omega)).trans hi
  | some p =>
    obtain ⟨s, l, q⟩ := p
    rw [hA] at hi gi'
    obtain ⟨h1, h2, h3, h4⟩ := hi
    obtain ⟨g1, g2, g3, g4⟩ := gi'
    exact ⟨(e _ _ (by unfold VM_setTape; omega)).trans h1, h2.kq g1 e (fun k _ _ => by unfold VM_setTape; omega), h3.kq g3 e (by unfold VM_setTape; omega) (fun k => by unfold VM_setTape; omega), h4.kq e (by unfold VM_setTape; omega) (fun k => by unfold VM_setTape; omega)⟩
def Ab.setImg (A : Ab) (im : Img) : Ab := (A.wd, A.tw, A.now, A.acts, A.seen, im, A.rf, A.tape, A.fp)
def VC_setImg (t k : Nat) : Prop := (22 ≤ t ∧ t ≤ 27) ∨ t = 36 ∨ t = 37 ∨ (41 ≤ t ∧ t ≤ 43) ∨ (t = 0 ∧ k = 14)
def VM_setImg (t k : Nat) : Prop := t = 21 ∨ t = 22 ∨ t = 23 ∨ (t = 0 ∧ (k = 0 ∨ k = 59 ∨ k = 60 ∨ k = 61))
theorem rc_setImg {A : Ab} {M M' : Mem} {im : Img} (h : RC A M) (e : kq VC_setImg M M') (xr_i : ImC A.wd M' im) : RC (A.setImg im) M' := by
  refine ⟨?_, h.r_n.kq e (fun t k h1 h2 => by unfold VC_setImg; omega), h.r_a.kq e (fun t k h1 h2 => by unfold VC_setImg; omega), h.r_s.kq e (fun t k h1 h2 => by unfold VC_setImg; omega), xr_i, fun k hk => (e _ _ (by unfold VC_setImg; omega)).trans (h.r_r k hk), (e _ _ (by unfold VC_setImg; omega)).trans h.r_l, fun k b hk => (e _ _ (by unfold VC_setImg; omega)).trans (h.r_b k b hk), (e _ _ (by unfold VC_setImg; omega)).trans h.r_f⟩
  · obtain ⟨j, h1, h2, h3, h4⟩ := h.r_j
    exact ⟨j, h1, (e _ _ (by unfold VC_setImg; omega)).trans h2, (e _ _ (by unfold VC_setImg; omega)).trans h3, h4.kq e (fun t k h5 h6 => by unfold VC_setImg; omega)⟩
theorem rm_setImg {A : Ab} {M M' : Mem} {im : Img} (g : A.Good) (h : RM A M) (e : kq VM_setImg M M') (xs_i : ImM A.wd M' im) : RM (A.setImg im) M' := by
  exact ⟨h.s_n.kq g.g_n e (fun k h1 h2 => by unfold VM_setImg; omega), h.s_t.kq e (fun k h1 h2 => by unfold VM_setImg; omega) (fun k => by unfold VM_setImg; omega) (fun k => by unfold VM_setImg; omega), h.s_a.kq g.g_a e (by unfold VM_setImg; omega) (fun k => by unfold VM_setImg; omega), h.s_s.kq e (by unfold VM_setImg; omega) (fun k => by unfold VM_setImg; omega), xs_i, fun k hk => (e _ _ (by unfold VM_setImg; omega)).trans (h.s_r k hk), (e _ _ (by unfold VM_setImg; omega)).trans h.s_l, fun k b hk => (e _ _ (by unfold VM_setImg; omega)).trans (h.s_b k b hk), (e _ _ (by unfold VM_setImg; omega)).trans h.s_f, (e _ _ (by unfold VM_setImg; omega)).trans h.s_w⟩
def Ab.setAll (A : Ab) (s : Sp) (l : List Sp) (q : List (Nat × Nat)) : Ab := (A.wd, A.tw, s, l, q, A.img, A.rf, A.tape, A.fp)
def VC_setAll (t k : Nat) : Prop := (4 ≤ t ∧ t ≤ 9) ∨ t = 34 ∨ t = 35 ∨ (38 ≤ t ∧ t ≤ 40)
def VM_setAll (t k : Nat) : Prop := t = 12 ∨ t = 13 ∨ t = 18 ∨ (t = 0 ∧ (k = 0 ∨ k = 46 ∨ k = 54))
theorem rc_setAll {A : Ab} {M M' : Mem} {s : Sp} {l : List Sp} {q : List (Nat × Nat)} (h : RC A M) (e : kq VC_setAll M M') (xr_n : StC A.wd s 4 M') (xr_a : ActC A.wd l 34 M') (xr_s : SeC q 38 M') : RC (A.setAll s l q) M' := by
  refine ⟨?_, xr_n, xr_a, xr_s, ?_, fun k hk => (e _ _ (by unfold VC_setAll; omega)).trans (h.r_r k hk), (e _ _ (by unfold VC_setAll; omega)).trans h.r_l, fun k b hk => (e _ _ (by unfold VC_setAll; omega)).trans (h.r_b k b hk), (e _ _ (by unfold VC_setAll; omega)).trans h.r_f⟩
  · obtain ⟨j, h1, h2, h3, h4⟩ := h.r_j
    exact ⟨j, h1, (e _ _ (by unfold VC_setAll; omega)).trans h2, (e _ _ (by unfold VC_setAll; omega)).trans h3, h4.kq e (fun t k h5 h6 => by unfold VC_setAll; omega)⟩
  · have hi := h.r_i
    show ImC A.wd M' A.img
    cases hA : A.img with
    | none =>
      rw [hA] at hi
      exact (e _ _ (by unfold VC_setAll; omega)).trans hi
    | some p =>
      obtain ⟨s, l, q⟩ := p
      rw [hA] at hi
      obtain ⟨h1, h2, h3, h4⟩ := hi
      exact ⟨(e _ _ (by unfold VC_setAll; omega)).trans h1, h2.kq e (fun t k h1 h2 => by unfold VC_setAll; omega), h3.kq e (fun t k h1 h2 => by unfold VC_setAll; omega), h4.kq e (fun t k h1 h2 => by unfold VC_setAll; omega)⟩
theorem rm_setAll {A : Ab} {M M' : Mem} {s : Sp} {l : List Sp} {q : List (Nat × Nat)} (g : A.Good) (h : RM A M) (e : kq VM_setAll M M') (xs_n : StR A.wd s 12 0 M') (xs_a : ActM A.wd l 13 46 M') (xs_s : SeM q 18 54 M') : RM (A.setAll s l q) M' := by
  refine ⟨xs_n, h.s_t.kq e (fun k h1 h2 => by unfold VM_setAll; omega) (fun k => by unfold VM_setAll; omega) (fun k => by unfold VM_setAll; omega), xs_a, xs_s, ?_, fun k hk => (e _ _ (by unfold VM_setAll; omega)).trans (h.s_r k hk), (e _ _ (by unfold VM_setAll; omega)).trans h.s_l, fun k b hk => (e _ _ (by unfold VM_setAll; omega)).trans (h.s_b k b hk), (e _ _ (by unfold VM_setAll; omega)).trans h.s_f, (e _ _ (by unfold VM_setAll; omega)).trans h.s_w⟩
  have hi := h.s_i
  have gi' := g.g_i
  show ImM A.wd M' A.img
  cases hA : A.img with
  | none =>
    rw [hA] at hi
    exact (e _ _ (by unfold VM_setAll; omega)).trans hi
  | some p =>
    obtain ⟨s, l, q⟩ := p
    rw [hA] at hi gi'
    obtain ⟨h1, h2, h3, h4⟩ := hi
    obtain ⟨g1, g2, g3, g4⟩ := gi'
    exact ⟨(e _ _ (by unfold VM_setAll; omega)).trans h1, h2.kq g1 e (fun k _ _ => by unfold VM_setAll; omega), h3.kq g3 e (by unfold VM_setAll; omega) (fun k => by unfold VM_setAll; omega), h4.kq e (by unfold VM_setAll; omega) (fun k => by unfold VM_setAll; omega)⟩
