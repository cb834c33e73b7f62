/-! The class reads a rule: what each of its readers leaves. -/
def SCt (f : Nat → Nat) (e : Nat) (ts : List Tok) (M : Mem) : Prop := (∃ p, Lx f e p ts) ∧ TkC f e (hdT e ts) M
def VE (j r w t k : Nat) : Prop := (t = 44 ∧ 5 ≤ k ∧ k ≤ 10) ∨ (t = j ∧ k = 6) ∨ (t = j + 2 ∧ w ≤ k) ∨ (t = j + 4 ∧ k = r)
theorem VE.mono {j r w w' t k : Nat} (h : VE j r w' t k) (hw : w ≤ w') : VE j r w t k := by
  unfold VE at *
  omega
theorem VL.ve {j r w t k : Nat} (h : VL t k) : VE j r w t k := by
  unfold VE VL at *
  omega
def VF (j r w t k : Nat) : Prop := VE j r w t k ∨ (t = 44 ∧ (k = 11 ∨ k = 12))
theorem VF.mono {j r w w' t k : Nat} (h : VF j r w' t k) (hw : w ≤ w') : VF j r w t k := by
  unfold VF VE at *
  omega
def CXt (f : Nat → Nat) (e j w : Nat) (ts : List Tok) (M : Mem) : Prop := (SCt f e ts M) ∧ (gi M 44 2 = nI j) ∧ (gi M j 6 = nI w) ∧ (w ≤ (hdT e ts).p)
theorem CXt.q_s {f : Nat → Nat} {e j w : Nat} {ts : List Tok} {M : Mem} (h : CXt f e j w ts M) : SCt f e ts M := h.1
theorem CXt.q_j {f : Nat → Nat} {e j w : Nat} {ts : List Tok} {M : Mem} (h : CXt f e j w ts M) : gi M 44 2 = nI j := h.2.1
theorem CXt.q_w {f : Nat → Nat} {e j w : Nat} {ts : List Tok} {M : Mem} (h : CXt f e j w ts M) : gi M j 6 = nI w := h.2.2.1
theorem CXt.q_p {f : Nat → Nat} {e j w : Nat} {ts : List Tok} {M : Mem} (h : CXt f e j w ts M) : w ≤ (hdT e ts).p := h.2.2.2
def nd (l d : Nat) : Nat := 26 - 5 * d + ([0, 5, 4, 3, 3, 2, 1, 0] : List Nat).getD l 0
def Wf (r l d : Nat) (O : List Op) : Prop := allV (vOK r) O ∧ ∀ h rest, h + nd l d ≤ 32 → wfo rest (h + 1) → wfo (O ++ rest) h
def GoodC (f : Nat → Nat) (e j r w : Nat) (ts : List Tok) (M : Mem) (O : List Op) (ts' : List Tok) (M' : Mem) : Prop := (CXt f e j (w + O.length) ts' M') ∧ (cod (gi M' (j + 2)) w O) ∧ (kq (VE j r w) M M') ∧ (gi M' (j + 4) r = nI (w + O.length)) ∧ ((hdT e ts).p + O.length ≤ (hdT e ts').p) ∧ (ts'.length < ts.length)
theorem GoodC.g_x {f : Nat → Nat} {e j r w : Nat} {ts : List Tok} {M : Mem} {O : List Op} {ts' : List Tok} {M' : Mem} (h : GoodC f e j r w ts M O ts' M') : CXt f e j (w + O.length) ts' M' := h.1
theorem GoodC.g_c {f : Nat → Nat} {e j r w : Nat} {ts : List Tok} {M : Mem} {O : List Op} {ts' : List Tok} {M' : Mem} (h : GoodC f e j r w ts M O ts' M') : cod (gi M' (j + 2)) w O := h.2.1
theorem GoodC.g_k {f : Nat → Nat} {e j r w : Nat} {ts : List Tok} {M : Mem} {O : List Op} {ts' : List Tok} {M' : Mem} (h : GoodC f e j r w ts M O ts' M') : kq (VE j r w) M M' := h.2.2.1
theorem GoodC.g_t {f : Nat → Nat} {e j r w : Nat} {ts : List Tok} {M : Mem} {O : List Op} {ts' : List Tok} {M' : Mem} (h : GoodC f e j r w ts M O ts' M') : gi M' (j + 4) r = nI (w + O.length) := h.2.2.2.1
theorem GoodC.g_p {f : Nat → Nat} {e j r w : Nat} {ts : List Tok} {M : Mem} {O : List Op} {ts' : List Tok} {M' : Mem} (h : GoodC f e j r w ts M O ts' M') : (hdT e ts).p + O.length ≤ (hdT e ts').p := h.2.2.2.2.1
theorem GoodC.g_l {f : Nat → Nat} {e j r w : Nat} {ts : List Tok} {M : Mem} {O : List Op} {ts' : List Tok} {M' : Mem} (h : GoodC f e j r w ts M O ts' M') : ts'.length < ts.length := h.2.2.2.2.2
def BadC (j r w : Nat) (M : Mem) (k p : Nat) (M' : Mem) : Prop := (gi M' 44 11 = nI k) ∧ (gi M' 44 12 = nI p) ∧ (kq (VF j r w) M M') ∧ (∃ w', w' ≤ 700 ∧ gi M' j 6 = nI w') ∧ (1 ≤ k ∧ k ≤ 5 ∧ p ≤ 700)
theorem BadC.b_f {j r w : Nat} {M : Mem} {k p : Nat} {M' : Mem} (h : BadC j r w M k p M') : gi M' 44 11 = nI k := h.1
theorem BadC.b_p {j r w : Nat} {M : Mem} {k p : Nat} {M' : Mem} (h : BadC j r w M k p M') : gi M' 44 12 = nI p := h.2.1
theorem BadC.b_k {j r w : Nat} {M : Mem} {k p : Nat} {M' : Mem} (h : BadC j r w M k p M') : kq (VF j r w) M M' := h.2.2.1
theorem BadC.b_w {j r w : Nat} {M : Mem} {k p : Nat} {M' : Mem} (h : BadC j r w M k p M') : ∃ w', w' ≤ 700 ∧ gi M' j 6 = nI w' := h.2.2.2.1
theorem BadC.b_b {j r w : Nat} {M : Mem} {k p : Nat} {M' : Mem} (h : BadC j r w M k p M') : 1 ≤ k ∧ k ≤ 5 ∧ p ≤ 700 := h.2.2.2.2
def CR (f : Nat → Nat) (e j r l d w : Nat) (ts : List Tok) (M : Mem) (o : Option (Int32 × Mem)) : Prop :=
  (∃ M' O ts', o = some (1, M') ∧ GoodC f e j r w ts M O ts' M' ∧ Wf r l d O ∧ Sim r e l l d ts O ts') ∨ (∃ M' k p, o = some (0, M') ∧ BadC j r 0 M k p M' ∧ Flt r e l d ts k p)
theorem dvl_le {f : Nat → Nat} {p m : Nat} (hm : m ≤ 4) (h : ∀ i, i < m → 48 ≤ f (p + i) ∧ f (p + i) ≤ 57) : dvl f p m ≤ 9999 := by
  have h1 := dvl_lt h
  have h2 : 10 ^ m ≤ 10 ^ 4 := Nat.pow_le_pow_right (by decide) hm
  omega
def TF (e : Nat) (T : Tok) : Prop := (T.p ≤ e) ∧ (T.nx ≤ e ∧ T.p ≤ T.nx) ∧ (T.k ≤ 4) ∧ (T.k = 0 → T.p = e) ∧ (T.k = 1 → T.v ≤ 21) ∧ (T.k = 2 → T.v ≤ 9999) ∧ (T.k = 3 → T.v < 256) ∧ (¬ T.k = 0 → T.p < e ∧ T.p < T.nx)
theorem TF.f_p {e : Nat} {T : Tok} (h : TF e T) : T.p ≤ e := h.1
theorem TF.f_n {e : Nat} {T : Tok} (h : TF e T) : T.nx ≤ e ∧ T.p ≤ T.nx := h.2.1
theorem TF.f_k {e : Nat} {T : Tok} (h : TF e T) : T.k ≤ 4 := h.2.2.1
theorem TF.f_0 {e : Nat} {T : Tok} (h : TF e T) : T.k = 0 → T.p = e := h.2.2.2.1
theorem TF.f_1 {e : Nat} {T : Tok} (h : TF e T) : T.k = 1 → T.v ≤ 21 := h.2.2.2.2.1
theorem TF.f_2 {e : Nat} {T : Tok} (h : TF e T) : T.k = 2 → T.v ≤ 9999 := h.2.2.2.2.2.1
theorem TF.f_3 {e : Nat} {T : Tok} (h : TF e T) : T.k = 3 → T.v < 256 := h.2.2.2.2.2.2.1
theorem TF.f_z {e : Nat} {T : Tok} (h : TF e T) : ¬ T.k = 0 → T.p < e ∧ T.p < T.nx := h.2.2.2.2.2.2.2
theorem lex_tf {f : Nat → Nat} {e p : Nat} {T : Tok} (hf : ∀ q, f q < 256) (h : LexR f e p T) : TF e T := by
  have h1 := h.x_p
  by_cases c : T.p = e
  · have := h.x_e c
    have hk : T.k = 0 := by rw [this]
    have hn : T.nx = e := by rw [this]
    exact ⟨h1.2, by omega, by omega, fun _ => c, fun q => absurd q (by omega), fun q => absurd q (by omega), fun q => absurd q (by omega), fun q => absurd hk q⟩
  · have hk := h.x_k (by omega)
    have hk4 := kd_ne (f T.p)
    have hn := h.x_1 (by omega)
    refine ⟨h1.2, by omega, by omega, fun q => absurd q (by omega), fun q => ?_, fun q => ?_, fun q => ?_, fun _ => by omega⟩
    · rw [h.x_v1 q]
      exact wfi_le _ _
    · rw [h.x_v2 q]
      have hr := (h.x_r (by omega) (Or.inr q)).1
      exact dvl_le (by omega) (fun i hi => kd_2.mp ((hr (T.p + i) (by omega) (by omega)).trans q))
    · rw [h.x_v3 q]
      exact hf _
section E
variable {f : Nat → Nat} {e n j r d w : Nat} {M : Mem} {ts : List Tok}
theorem SCt.tf (hf : ∀ q, f q < 256) (h : SCt f e ts M) : TF e (hdT e ts) := by
  obtain ⟨⟨p, hp⟩, _⟩ := h
  exact lex_tf hf hp.hd
theorem SCt.ne (h : SCt f e ts M) (hk : ¬ (hdT e ts).k = 0) : ∃ T ts', ts = T :: ts' := by
  cases ts with
  | nil => exact absurd rfl hk
  | cons T ts => exact ⟨T, ts, rfl⟩
theorem SCt.k0 (hf : ∀ q, f q < 256) {T : Tok} (h : SCt f e (T :: ts) M) : ¬ T.k = 0 := by
  obtain ⟨⟨p, hp⟩, _⟩ := h
  have h1 := lex_tf hf hp.1
  have h2 := hp.2.1
  intro c
  have := h1.f_0 c
  omega
theorem SCt.pr (h : SCt f e ts M) : (hdT e ts).nx ≤ (hdT e ts.tail).p := by
  obtain ⟨⟨p, hp⟩, _⟩ := h
  exact hp.tl.hd.x_p.1
theorem cGoS (he : e ≤ 700) (hf : ∀ q, f q < 256) (hn : 800 < n) (h : SCt f e ts M) : ∃ M', f_X2_step n M = some M' ∧ SCt f e ts.tail M' ∧ kq VL M M' := by
  obtain ⟨⟨p, hp⟩, h2⟩ := h
  have h3 := hp.tl
  obtain ⟨M', a1, a2, a3⟩ := cStep h3.hd he hf hn h2.t_e h2.t_b h2.t_n
  exact ⟨M', a1, ⟨⟨_, h3⟩, a2⟩, a3⟩
theorem SCt.kq {V : Nat → Nat → Prop} {M' : Mem} (h : SCt f e ts M) (k : kq V M M') (hv : ∀ q, (4 ≤ q ∧ q ≤ 10) → ¬ V 44 q) (hb : ∀ q, ¬ V 45 q) : SCt f e ts M' := by
  obtain ⟨h1, h2⟩ := h
  exact ⟨h1, (k _ _ (hv _ (by omega))).trans h2.t_e, fun q hq => (k _ _ (hb _)).trans (h2.t_b q hq), (k _ _ (hv _ (by omega))).trans h2.t_p, (k _ _ (hv _ (by omega))).trans h2.t_n, (k _ _ (hv _ (by omega))).trans h2.t_k, fun c => (k _ _ (hv _ (by omega))).trans (h2.t_w c), fun c => (k _ _ (hv _ (by omega))).trans (h2.t_d c), fun c => (k _ _ (hv _ (by omega))).trans (h2.t_s c)⟩
theorem cIsSign (hf : ∀ q, f q < 256) (h : SCt f e ts M) {c : Nat} (hc : c < 256) : f_X2_isSign n (nI c) M = some (if (hdT e ts).k = 3 ∧ (hdT e ts).v = c then 1 else 0, M) := by
  have t := h.tf hf
  have hk := t.f_k
  unfold f_X2_isSign
  rw [h.2.t_k]
  by_cases c3 : (hdT e ts).k = 3
  · have hv := t.f_3 c3
    rw [if_pos (by rw [c3]; rfl), h.2.t_s c3]
    by_cases cv : (hdT e ts).v = c
    · rw [if_pos (by rw [cv]), if_pos ⟨c3, cv⟩]
    · rw [if_neg (fun q => cv ((nI_eq (by omega) (by omega)).mp q)), if_neg (fun q => cv q.2)]
  · rw [if_neg (ne_3 c3 (by omega)), if_neg (fun q => c3 q.1)]
theorem cIsWord (hf : ∀ q, f q < 256) (h : SCt f e ts M) {c : Nat} : f_X2_isWord n c M = some (if (hdT e ts).k = 1 ∧ (hdT e ts).v = c then 1 else 0, M) := by
  have t := h.tf hf
  have hk := t.f_k
  unfold f_X2_isWord
  rw [h.2.t_k]
  by_cases c3 : (hdT e ts).k = 1
  · have hv := t.f_1 c3
    have z : (nI (hdT e ts).v).toNatClampNeg = (hdT e ts).v := nI_clamp (by omega)
    rw [if_pos (by rw [c3]; rfl), h.2.t_w c3]
    simp only [z]
    rw [ck_pos (by omega)]
    by_cases cv : (hdT e ts).v = c
    · rw [if_pos cv, if_pos ⟨c3, cv⟩]
    · rw [if_neg cv, if_neg (fun q => cv q.2)]
  · rw [if_neg (ne_1 c3 (by omega)), if_neg (fun q => c3 q.1)]
theorem cWrite (hr : r < 3) (hw : w ≤ 700) (h : gi M j 6 = nI w) (x : Int32) : ∃ M' w', f_X6_write n j (nI r) x M = some M' ∧ w' ≤ 700 ∧ gi M' j 6 = nI w' ∧ kq (VE j r w) M M' ∧ (w < 700 → w' = w + 1 ∧ gi M' (j + 2) w = x ∧ gi M' (j + 4) r = nI (w + 1)) ∧ (∀ k, gi M' 44 k = gi M 44 k ∨ j = 44 ∨ j + 2 = 44 ∨ j + 4 = 44) := by
  unfold f_X6_write
  rw [h]
  by_cases c : 700 ≤ w
  · rw [if_pos (show (700 : Int32) ≤ nI w from nI_le (a := 700) c (by omega))]
    exact ⟨M, w, rfl, hw, h, kq.rf, fun q => absurd q (by omega), fun k => Or.inl rfl⟩
  · have g6 : gi (si M (j + 2) w x) j 6 = nI w := by rw [gi_si, if_neg (by omega), h]
    have g66 : gi (si (si M (j + 2) w x) j 6 (nI (w + 1))) j 6 = nI (w + 1) := by rw [gi_si, if_pos ⟨rfl, rfl⟩]
    have z : (nI w).toNatClampNeg = w := nI_clamp (by omega)
    have z2 : (nI r).toNatClampNeg = r := nI_clamp (by omega)
    rw [if_neg (show ¬ (700 : Int32) ≤ nI w from nI_ge (b := 700) (by omega) (by decide)), ck_pos (n_in (by omega) (by decide)), ck_pos (n_in hr (by decide))]
    simp only [z, z2, g6, nI_1, g66]
    refine ⟨_, w + 1, rfl, by omega, by rw [gi_si, if_neg (by omega), g66], ((kq.rf.si (by unfold VE; omega) _).si (by unfold VE; omega) _).si (by unfold VE; omega) _, fun _ => ⟨rfl, by rw [gi_si, if_neg (by omega), gi_si, if_neg (by omega), gi_si, if_pos ⟨rfl, rfl⟩], by rw [gi_si, if_pos ⟨rfl, rfl⟩]⟩, fun k => ?_⟩
    by_cases q1 : j = 44
    · exact Or.inr (Or.inl q1)
    by_cases q2 : j + 2 = 44
    · exact Or.inr (Or.inr (Or.inl q2))
    by_cases q3 : j + 4 = 44
    · exact Or.inr (Or.inr (Or.inr q3))
    · rw [gi_si, if_neg (by omega), gi_si, if_neg (by omega), gi_si, if_neg (by omega)]
      exact Or.inl rfl
theorem CXt.go (he : e ≤ 700) (hf : ∀ q, f q < 256) (hn : 800 < n) (hj : j = 46 ∨ j = 53) (h : CXt f e j w ts M) : ∃ M', f_X2_step n M = some M' ∧ CXt f e j w ts.tail M' ∧ kq VL M M' := by
  obtain ⟨M', a1, a2, a3⟩ := cGoS he hf hn h.q_s
  have hp := h.q_s.pr
  have ht := (h.q_s.tf hf).f_n
  have hq := h.q_p
  exact ⟨M', a1, ⟨a2, (a3 _ _ (by unfold VL; omega)).trans h.q_j, (a3 _ _ (by unfold VL; omega)).trans h.q_w, by omega⟩, a3⟩
theorem cFail (hn : 0 ≤ n) (h : SCt f e ts M) (k : Nat) : f_X2_fail n (nI k) M = some (0, si (si M 44 11 (nI k)) 44 12 (nI (hdT e ts).p)) := by
  unfold f_X2_fail
  rw [show gi (si M 44 11 (nI k)) 44 5 = gi M 44 5 by rw [gi_si, if_neg (by omega)], h.2.t_p]
theorem bad_f (he : e ≤ 700) (hf : ∀ q, f q < 256) (hj : j = 46 ∨ j = 53) {M0 : Mem} {w0 k w1 : Nat} (hs : SCt f e ts M) (hw : gi M j 6 = nI w1) (hw1 : w1 ≤ 700) (hk : 1 ≤ k ∧ k ≤ 5) (h0 : kq (VE j r w0) M0 M) : BadC j r w0 M0 k (hdT e ts).p (si (si M 44 11 (nI k)) 44 12 (nI (hdT e ts).p)) := by
  have := (hs.tf hf).f_p
  exact ⟨by rw [gi_si, if_neg (by omega), gi_si, if_pos ⟨rfl, rfl⟩], by rw [gi_si, if_pos ⟨rfl, rfl⟩], ((h0.mono (fun _ _ q => Or.inl q)).si (Or.inr ⟨rfl, Or.inl rfl⟩) _).si (Or.inr ⟨rfl, Or.inr rfl⟩) _, ⟨w1, hw1, by rw [gi_si, if_neg (by omega), gi_si, if_neg (by omega), hw]⟩, hk.1, hk.2, by omega⟩
/-- a code behind what was written -/
theorem cod_app {row : Nat → Int32} : ∀ {O O2 : List Op} {s : Nat}, cod row s O → cod row (s + O.length) O2 → cod row s (O ++ O2)
  | [], O2, s, _, h2 => by simpa using h2
  | o :: O, O2, s, h1, h2 => ⟨h1.1, cod_app h1.2 (by rw [show s + 1 + O.length = s + (o :: O).length by simp; omega]; exact h2)⟩
theorem cod_kq {j r w : Nat} {M M' : Mem} : ∀ {O : List Op} {s : Nat}, cod (gi M (j + 2)) s O → kq (VE j r w) M M' → s + O.length ≤ w → ¬ j + 2 = 44 → cod (gi M' (j + 2)) s O
  | [], s, _, _, _, _ => trivial
  | o :: O, s, h1, h2, h3, h4 => by
    simp at h3
    exact ⟨(h2 _ _ (by unfold VE; omega)).trans h1.1, cod_kq h1.2 h2 (by omega) h4⟩
theorem allV_app {P : Nat → Prop} : ∀ {O O2 : List Op}, allV P O → allV P O2 → allV P (O ++ O2)
  | [], _, _, h => h
  | .inl v :: O, O2, h1, h2 => allV_app (O := O) h1 h2
  | .inr (.inl k) :: O, O2, h1, h2 => ⟨h1.1, allV_app (O := O) h1.2 h2⟩
  | .inr (.inr k) :: O, O2, h1, h2 => allV_app (O := O) h1 h2
theorem nd_le {l l' d : Nat} (h : l ≤ l') (h0 : 1 ≤ l) (h7 : l' ≤ 7) : nd l' d ≤ nd l d := by
  unfold nd
  have : ∀ l', l' < 8 → ∀ l, l < 8 → 1 ≤ l → l ≤ l' → ([0, 5, 4, 3, 3, 2, 1, 0] : List Nat).getD l' 0 ≤ ([0, 5, 4, 3, 3, 2, 1, 0] : List Nat).getD l 0 := by decide
  have := this l' (by omega) l (by omega) h0 h
  omega
theorem Wf.up {l l' : Nat} {O : List Op} (h : Wf r l' d O) (hl : l ≤ l') (h0 : 1 ≤ l) (h7 : l' ≤ 7) : Wf r l d O :=
  ⟨h.1, fun q rest h1 h2 => h.2 q rest (by have := nd_le (d := d) hl h0 h7; omega) h2⟩
theorem Wf.bin {l a : Nat} {O O2 : List Op} (hd : d ≤ 5) (hl : nd (l + 1) d + 1 ≤ nd l d) (h1 : Wf r l d O) (h2 : Wf r (l + 1) d O2) (ha : 1 ≤ a ∧ a ≤ 8) : Wf r l d (O ++ (O2 ++ [act a])) := by
  refine ⟨allV_app h1.1 (allV_app h2.1 (by obtain ⟨a, rfl⟩ : ∃ b, a = b + 1 := ⟨a - 1, by omega⟩; exact trivial)), fun q rest h3 h4 => ?_⟩
  have h1d : 1 ≤ nd (l + 1) d := by unfold nd; omega
  rw [List.append_assoc, List.append_assoc]
  refine h1.2 q _ h3 (h2.2 (q + 1) _ (by omega) ?_)
  obtain ⟨a, rfl⟩ : ∃ b, a = b + 1 := ⟨a - 1, by omega⟩
  exact ⟨by omega, by omega, by omega, h4⟩
theorem opC_b {T : Tok} : 1 ≤ opC T ∧ opC T ≤ 8 := by
  unfold opC
  repeat' split
  all_goals decide
theorem opS_b {T : Tok} {l : Nat} (h0 : ¬ l = 0) (h4 : ¬ l = 4) : (opS false T = l → isOp l T) ∧ (¬ opS false T = l → ∀ b, ¬ opS b T = l) := by
  by_cases c : isCmp T
  · have h1 := cmp_S c
    refine ⟨fun q => absurd (h1.symm.trans q).symm h4, fun _ b => ?_⟩
    cases b with
    | false => rw [h1]; exact fun q => h4 q.symm
    | true =>
      unfold opS
      rw [if_neg (by rw [c.1]; decide), if_pos c.1, if_pos c.2, if_pos rfl]
      exact fun q => h0 q.symm
  · have : ∀ b, opS b T = opS false T := fun b => by
      unfold opS
      by_cases c1 : T.k = 1
      · rw [if_pos c1, if_pos c1]
      · rw [if_neg c1, if_neg c1]
        by_cases c3 : T.k = 3
        · rw [if_pos c3, if_pos c3, if_neg (fun q => c ⟨c3, q⟩), if_neg (fun q => c ⟨c3, q⟩)]
        · rw [if_neg c3, if_neg c3]
    exact ⟨fun q b => (this b).trans q, fun q b => by rw [this b]; exact q⟩
end E
