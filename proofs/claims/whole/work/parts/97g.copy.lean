/-! To copy a state, to try on the copy. -/
def cpA (i i1 q len : Nat) (M : Mem) : Mem := sa M (i + q) (va_cpy (M.1 (i1 + q)) (M.1 (i + q)) 0 0 len)
def cpF (i i1 k : Nat) (M : Mem) : Mem := si M i k (gi M i1 k)
theorem gi_cpA {i i1 q len t k : Nat} {M : Mem} : gi (cpA i i1 q len M) t k = if t = i + q then (if k < len then gi M (i1 + q) k else gi M (i + q) k) else gi M t k := by
  unfold cpA
  rw [gi_sa]
  by_cases c : t = i + q
  · rw [if_pos c, if_pos c]
    unfold va_cpy
    by_cases d : k < len
    · rw [if_pos ⟨by omega, by omega⟩, if_pos d, show 0 + (k - 0) = k by omega]
      rfl
    · rw [if_neg (by omega), if_neg d]
      rfl
  · rw [if_neg c, if_neg c]
theorem gi_cpF {i i1 k t q : Nat} {M : Mem} : gi (cpF i i1 k M) t q = if t = i ∧ q = k then gi M i1 k else gi M t q := by
  unfold cpF
  rw [gi_si]
def cpS (i i1 : Nat) (M : Mem) : Mem := cpF i i1 11 (cpF i i1 10 (cpF i i1 9 (cpF i i1 8 (cpF i i1 7 (cpF i i1 6 (cpF i i1 5 (cpA i i1 4 8 (cpA i i1 3 8 (cpA i i1 2 16 (cpA i i1 1 16 M))))))))))
theorem cCopy_is (n i i1 : Nat) (M : Mem) : f_X4_copy n i i1 M = some (cpS i i1 M) := rfl
theorem cpS_same {i i1 : Nat} {M : Mem} : same (fun t => i ≤ t ∧ t ≤ i + 4) M (cpS i i1 M) := by
  refine ⟨fun t k ht => ?_, rfl⟩
  unfold cpS
  simp only [gi_cpF, gi_cpA]
  rw [if_neg (by omega), if_neg (by omega), if_neg (by omega), if_neg (by omega), if_neg (by omega), if_neg (by omega), if_neg (by omega), if_neg (by omega), if_neg (by omega), if_neg (by omega), if_neg (by omega)]
theorem cpS_f {i i1 k : Nat} {M : Mem} (hd : i1 + 5 ≤ i ∨ i + 5 ≤ i1) (h5 : 5 ≤ k) (h11 : k ≤ 11) : gi (cpS i i1 M) i k = gi M i1 k := by
  have d0 : ¬ i1 = i := by omega
  have d1 : ¬ i1 = i + 1 := by omega
  have d2 : ¬ i1 = i + 2 := by omega
  have d3 : ¬ i1 = i + 3 := by omega
  have d4 : ¬ i1 = i + 4 := by omega
  unfold cpS
  rcases (show k = 5 ∨ k = 6 ∨ k = 7 ∨ k = 8 ∨ k = 9 ∨ k = 10 ∨ k = 11 by omega) with rfl | rfl | rfl | rfl | rfl | rfl | rfl <;> simp [gi_cpF, gi_cpA, d0, d1, d2, d3, d4]
theorem cpS_r {i i1 q k : Nat} {M : Mem} (hd : i1 + 5 ≤ i ∨ i + 5 ≤ i1) (hq : (1 ≤ q ∧ q ≤ 2 ∧ k < 16) ∨ (3 ≤ q ∧ q ≤ 4 ∧ k < 8)) : gi (cpS i i1 M) (i + q) k = gi M (i1 + q) k := by
  unfold cpS
  simp only [gi_cpF]
  rw [if_neg (by omega), if_neg (by omega), if_neg (by omega), if_neg (by omega), if_neg (by omega), if_neg (by omega), if_neg (by omega)]
  rcases (show q = 1 ∨ q = 2 ∨ q = 3 ∨ q = 4 by omega) with rfl | rfl | rfl | rfl
  · rw [gi_cpA, if_neg (by omega), gi_cpA, if_neg (by omega), gi_cpA, if_neg (by omega), gi_cpA, if_pos rfl, if_pos (by omega)]
  · rw [gi_cpA, if_neg (by omega), gi_cpA, if_neg (by omega), gi_cpA, if_pos rfl, if_pos (by omega), gi_cpA, if_neg (by omega)]
  · rw [gi_cpA, if_neg (by omega), gi_cpA, if_pos rfl, if_pos (by omega), gi_cpA, if_neg (by omega), gi_cpA, if_neg (by omega)]
  · rw [gi_cpA, if_pos rfl, if_pos (by omega), gi_cpA, if_neg (by omega), gi_cpA, if_neg (by omega), gi_cpA, if_neg (by omega)]
theorem cpS_st {i i1 wd : Nat} {M : Mem} {s : Sp} (hd : i1 + 5 ≤ i ∨ i + 5 ≤ i1) (g : s.Good wd) (h : StC wd s i1 M) : StC wd s i (cpS i i1 M) := by
  have h1 := g.h_all
  have h2 := g.h_wd
  exact ⟨(cpS_f hd (by decide) (by decide)).trans h.all, (cpS_f hd (by decide) (by decide)).trans h.hung, (cpS_f hd (by decide) (by decide)).trans h.wards, (cpS_f hd (by decide) (by decide)).trans h.day, (cpS_f hd (by decide) (by decide)).trans h.money, (cpS_f hd (by decide) (by decide)).trans h.lean, (cpS_f hd (by decide) (by decide)).trans h.fell, fun c hc => (cpS_r hd (by omega)).trans (h.weight c hc), fun c hc => (cpS_r hd (by omega)).trans (h.mortar c hc), fun c hc => (cpS_r hd (by omega)).trans (h.faith c hc), fun c hc => (cpS_r hd (by omega)).trans (h.beside c hc)⟩
theorem StR.copy {wd t b t' b' : Nat} {M M' : Mem} {s : Sp} (g : s.Good wd) (h : StR wd s t b M) (hc : ∀ p, p < 54 → gi M' t' (b' + p) = gi M t (b + p)) : StR wd s t' b' M' := by
  have h1 := g.h_all
  have h2 := g.h_wd
  exact ⟨(hc 0 (by decide)).trans h.day, (hc 1 (by decide)).trans h.money, (hc 2 (by decide)).trans h.lean, (hc 3 (by decide)).trans h.hung, (hc 4 (by decide)).trans h.all, (hc 5 (by decide)).trans h.fell, fun c hh => by
    have := hc (6 + c) (by omega)
    rw [← Nat.add_assoc, ← Nat.add_assoc] at this
    exact this.trans (h.weight c hh), fun c hh => by
    have := hc (22 + c) (by omega)
    rw [← Nat.add_assoc, ← Nat.add_assoc] at this
    exact this.trans (h.mortar c hh), fun c hh => by
    have := hc (38 + c) (by omega)
    rw [← Nat.add_assoc, ← Nat.add_assoc] at this
    exact this.trans (h.faith c hh), fun c hh => by
    have := hc (46 + c) (by omega)
    rw [← Nat.add_assoc, ← Nat.add_assoc] at this
    exact this.trans (h.beside c hh)⟩
theorem mTries {n wd : Nat} {M : Mem} {s : Sp} (hn : 1000 < n) (g : s.Good wd) (h : StR wd s 12 0 M) :
    ∃ M', f_X9_tries n M = some M' ∧ StR wd s 12 54 M' ∧ kp (VM 54) M M' ∧ gi M' 0 48 = nI 0 ∧ gi M' 0 49 = gi M 0 49 ∧ ∀ w, w < 8 → gi M' 14 w = nI 0 := by
  obtain ⟨M1, m, ⟨a1, a2⟩, e⟩ := gl_k (body := b_X9_tries_2 n) (fun k (M' : Mem) => (nI k, M')) 54 (fun k M' => (∀ p, p < k → gi M' 12 (54 + p) = gi M 12 (0 + p)) ∧ kp (fun t q => t = 12 ∧ 54 ≤ q ∧ q < 108) M M') (fun k M' hk hI => by
    obtain ⟨a1, a2⟩ := hI
    refine ⟨si M' 12 (54 + k) (gi M 12 k), ?_, fun p hp => ?_, a2.si (by omega) _⟩
    · rw [b_X9_tries_2]
      try simp only []
      rw [if_neg (show ¬ (54 : Int32) ≤ nI k from nI_ge (b := 54) hk (by decide)), ck, if_pos (n_in (by omega) (by decide)), show (54 : Int32) + nI k = nI (54 + k) from nI_add 54 k, ck, if_pos (n_in (by omega) (by decide)), nI_clamp (by omega), nI_clamp (by omega), a2.1 12 k (by omega), nI_1]
    · rw [gi_si]
      by_cases c : p = k
      · subst c
        rw [if_pos ⟨rfl, rfl⟩, Nat.zero_add]
      · rw [if_neg (by omega)]
        exact a1 p (by omega)) n 0 M (by omega) (by omega) ⟨fun p hp => absurd hp (by omega), kp.rf⟩
  have h1 : StR wd s 12 54 M1 := h.copy g a1
  obtain ⟨M2, m2, ⟨c1, c2⟩, e2⟩ := gl_k (body := b_X9_tries_31 n) (fun k (M' : Mem) => (nI k, M')) 8 (fun k M' => (∀ p, p < k → gi M' 14 p = nI 0) ∧ kp (fun t _ => t = 14) M1 M') (fun k M' hk hI => by
    obtain ⟨a1, a2⟩ := hI
    refine ⟨si M' 14 k (nI 0), ?_, fun p hp => ?_, a2.si (by omega) _⟩
    · rw [b_X9_tries_31]
      try simp only []
      rw [if_neg (show ¬ (8 : Int32) ≤ nI k from nI_ge (b := 8) hk (by decide)), ck, if_pos (n_in (by omega) (by decide)), nI_clamp (by omega), nI_1]
      rfl
    · rw [gi_si]
      by_cases c : p = k
      · subst c
        rw [if_pos ⟨rfl, rfl⟩]
      · rw [if_neg (by omega)]
        exact a1 p (by omega)) n 0 M1 (by omega) (by omega) ⟨fun p hp => absurd hp (by omega), kp.rf⟩
  have k2 : kp (fun t q => t = 14 ∨ (t = 0 ∧ q = 48)) M1 (si M2 0 48 (nI 0)) := (c2.mono (fun t q ht => Or.inl ht)).si (Or.inr ⟨rfl, rfl⟩) _
  refine ⟨si M2 0 48 (nI 0), ?_, h1.kp g k2 (fun q _ _ => by omega), (a2.mono (fun t q ht => by unfold VM; omega)).tr (k2.mono (fun t q ht => by unfold VM; omega)), by rw [gi_si, if_pos ⟨rfl, rfl⟩], ?_, fun w hw => ?_⟩
  · unfold f_X9_tries
    rw [show ((0 : Int32), M) = (nI 0, M) from rfl, e]
    refine gl_mr ?_
    rw [b_X9_tries_2]
    try simp only []
    rw [if_pos (show (54 : Int32) ≤ nI 54 by decide)]
    unfold j_X9_tries_29
    rw [show ((0 : Int32), M1) = (nI 0, M1) from rfl, e2]
    congr 1
  · rw [k2.1 0 49 (by omega), a2.1 0 49 (by omega)]
  · rw [gi_si, if_neg (by omega)]
    exact c1 w hw
def kq (V : Nat → Nat → Prop) (M M' : Mem) : Prop := ∀ t k, ¬ V t k → gi M' t k = gi M t k
theorem kq.rf {V : Nat → Nat → Prop} {M : Mem} : kq V M M := fun _ _ _ => rfl
theorem kq.tr {V : Nat → Nat → Prop} {M M' M2 : Mem} (h : kq V M M') (h2 : kq V M' M2) : kq V M M2 := fun t k ht => (h2 t k ht).trans (h t k ht)
theorem kq.mono {V W : Nat → Nat → Prop} {M M' : Mem} (h : kq V M M') (hVW : ∀ t k, V t k → W t k) : kq W M M' := fun t k ht => h t k (fun c => ht (hVW t k c))
theorem kq.si {V : Nat → Nat → Prop} {M M' : Mem} (h : kq V M M') {i k : Nat} (hi : V i k) (x : Int32) : kq V M (si M' i k x) := fun t q ht => by
  rw [gi_si, if_neg (fun c : t = i ∧ q = k => ht (c.1.symm ▸ c.2.symm ▸ hi))]
  exact h t q ht
theorem kq.sj {V : Nat → Nat → Prop} {M M' : Mem} (h : kq V M M') (i k : Nat) (x : Int64) : kq V M (sj M' i k x) := fun t q ht => h t q ht
theorem same.kq {A : Nat → Prop} {V : Nat → Nat → Prop} {M M' : Mem} (h : same A M M') (hV : ∀ t k, A t → V t k) : kq V M M' := fun t k ht => h.1 t k (fun c => ht (hV t k c))
theorem kp.kq {V W : Nat → Nat → Prop} {M M' : Mem} (h : kp V M M') (hVW : ∀ t k, V t k → W t k) : kq W M M' := fun t k ht => h.1 t k (fun c => ht (hVW t k c))
theorem StC.kq {wd i : Nat} {s : Sp} {V : Nat → Nat → Prop} {M M' : Mem} (h : StC wd s i M) (e : kq V M M') (hv : ∀ t k, i ≤ t → t ≤ i + 4 → ¬ V t k) : StC wd s i M' := by
  exact ⟨(e _ _ (hv _ _ (by omega) (by omega))).trans h.all, (e _ _ (hv _ _ (by omega) (by omega))).trans h.hung, (e _ _ (hv _ _ (by omega) (by omega))).trans h.wards, (e _ _ (hv _ _ (by omega) (by omega))).trans h.day, (e _ _ (hv _ _ (by omega) (by omega))).trans h.money, (e _ _ (hv _ _ (by omega) (by omega))).trans h.lean, (e _ _ (hv _ _ (by omega) (by omega))).trans h.fell, fun c hc => (e _ _ (hv _ _ (by omega) (by omega))).trans (h.weight c hc), fun c hc => (e _ _ (hv _ _ (by omega) (by omega))).trans (h.mortar c hc), fun c hc => (e _ _ (hv _ _ (by omega) (by omega))).trans (h.faith c hc), fun c hc => (e _ _ (hv _ _ (by omega) (by omega))).trans (h.beside c hc)⟩
theorem TwC.kq {j : Nat} {T : Tw} {V : Nat → Nat → Prop} {M M' : Mem} (h : TwC T j M) (e : kq V M M') (hv : ∀ t k, j ≤ t → t ≤ j + 4 → ¬ V t k) : TwC T j M' := by
  refine ⟨(e _ _ (hv _ _ (by omega) (by omega))).trans h.ground, (e _ _ (hv _ _ (by omega) (by omega))).trans h.cost, (e _ _ (hv _ _ (by omega) (by omega))).trans h.winds, fun k hk => (e _ _ (hv _ _ (by omega) (by omega))).trans (h.wind k hk), fun r hr => ?_⟩
  have hh := h.rule r hr
  cases hT : T.rule r with
  | none =>
    rw [hT] at hh
    exact (e _ _ (hv _ _ (by omega) (by omega))).trans hh
  | some p =>
    rw [hT] at hh
    obtain ⟨f, a1, a2, a3, a4⟩ := hh
    exact ⟨f, (e _ _ (hv _ _ (by omega) (by omega))).trans a1, (e _ _ (hv _ _ (by omega) (by omega))).trans a2, a3, cod_congr (fun k => e _ _ (hv _ _ (by omega) (by omega))) a4⟩
/-- what questions leave: the class -/
def VC (t _k : Nat) : Prop := t = 3 ∨ (10 ≤ t ∧ t ≤ 21) ∨ t = 51 ∨ t = 52 ∨ t = 58 ∨ t = 59
/-- the class tries -/
def CB (wd j : Nat) (T : Tw) (s : Sp) (M : Mem) : Prop := (StC wd s 4 M) ∧ (TwC T j M) ∧ (gi M 0 12 = nI j) ∧ (j = 46 ∨ j = 53) ∧ (s.Good wd) ∧ (T.Good) ∧ (s.day ≤ 9999)
theorem CB.b_st {wd j : Nat} {T : Tw} {s : Sp} {M : Mem} (h : CB wd j T s M) : StC wd s 4 M := h.1
theorem CB.b_tw {wd j : Nat} {T : Tw} {s : Sp} {M : Mem} (h : CB wd j T s M) : TwC T j M := h.2.1
theorem CB.b_j {wd j : Nat} {T : Tw} {s : Sp} {M : Mem} (h : CB wd j T s M) : gi M 0 12 = nI j := h.2.2.1
theorem CB.b_jj {wd j : Nat} {T : Tw} {s : Sp} {M : Mem} (h : CB wd j T s M) : j = 46 ∨ j = 53 := h.2.2.2.1
theorem CB.b_g {wd j : Nat} {T : Tw} {s : Sp} {M : Mem} (h : CB wd j T s M) : s.Good wd := h.2.2.2.2.1
theorem CB.b_t {wd j : Nat} {T : Tw} {s : Sp} {M : Mem} (h : CB wd j T s M) : T.Good := h.2.2.2.2.2.1
theorem CB.b_d {wd j : Nat} {T : Tw} {s : Sp} {M : Mem} (h : CB wd j T s M) : s.day ≤ 9999 := h.2.2.2.2.2.2
def CTV (V : Nat → Nat → Prop) (wd j : Nat) (T : Tw) (M0 : Mem) (s : Sp) (M : Mem) : Prop := (StC wd s 10 M) ∧ (TwC T j M) ∧ (gi M 0 12 = nI j) ∧ (j = 46 ∨ j = 53) ∧ (s.Good wd) ∧ (T.Good) ∧ (∀ t k, dA 10 j t → V t k) ∧ (kq V M0 M)
theorem CTV.c_st {V : Nat → Nat → Prop} {wd j : Nat} {T : Tw} {M0 : Mem} {s : Sp} {M : Mem} (h : CTV V wd j T M0 s M) : StC wd s 10 M := h.1
theorem CTV.c_tw {V : Nat → Nat → Prop} {wd j : Nat} {T : Tw} {M0 : Mem} {s : Sp} {M : Mem} (h : CTV V wd j T M0 s M) : TwC T j M := h.2.1
theorem CTV.c_j {V : Nat → Nat → Prop} {wd j : Nat} {T : Tw} {M0 : Mem} {s : Sp} {M : Mem} (h : CTV V wd j T M0 s M) : gi M 0 12 = nI j := h.2.2.1
theorem CTV.c_jj {V : Nat → Nat → Prop} {wd j : Nat} {T : Tw} {M0 : Mem} {s : Sp} {M : Mem} (h : CTV V wd j T M0 s M) : j = 46 ∨ j = 53 := h.2.2.2.1
theorem CTV.c_g {V : Nat → Nat → Prop} {wd j : Nat} {T : Tw} {M0 : Mem} {s : Sp} {M : Mem} (h : CTV V wd j T M0 s M) : s.Good wd := h.2.2.2.2.1
theorem CTV.c_t {V : Nat → Nat → Prop} {wd j : Nat} {T : Tw} {M0 : Mem} {s : Sp} {M : Mem} (h : CTV V wd j T M0 s M) : T.Good := h.2.2.2.2.2.1
theorem CTV.c_v {V : Nat → Nat → Prop} {wd j : Nat} {T : Tw} {M0 : Mem} {s : Sp} {M : Mem} (h : CTV V wd j T M0 s M) : ∀ t k, dA 10 j t → V t k := h.2.2.2.2.2.2.1
theorem CTV.c_sm {V : Nat → Nat → Prop} {wd j : Nat} {T : Tw} {M0 : Mem} {s : Sp} {M : Mem} (h : CTV V wd j T M0 s M) : kq V M0 M := h.2.2.2.2.2.2.2
abbrev CT (wd j : Nat) (T : Tw) (M0 : Mem) (s : Sp) (M : Mem) : Prop := CTV VC wd j T M0 s M
def Tw.nxt (T : Tw) (wd : Nat) (s : Sp) : Sp := T.day wd (T.windOn s.day) s
def Tw.gv (T : Tw) (wd : Nat) (s : Sp) : Nat → Nat := T.gives wd (T.windOn s.day) s
theorem CB.keep {wd j : Nat} {T : Tw} {s : Sp} {M M' : Mem} (h : CB wd j T s M) (e : kq VC M M') : CB wd j T s M' := by
  have hj := h.b_jj
  exact ⟨h.b_st.kq e (fun t k _ _ => by unfold VC; omega), h.b_tw.kq e (fun t k _ _ => by unfold VC; omega), (e _ _ (by unfold VC; omega)).trans h.b_j, hj, h.b_g, h.b_t, h.b_d⟩
theorem cStart {n wd j : Nat} {T : Tw} {s : Sp} {M0 M : Mem} (h : CB wd j T s M0) (e : kq VC M0 M) : ∃ M', f_X8_startTrial n M = some M' ∧ CT wd j T M0 s M' := by
  have hb := h.keep e
  have hj := h.b_jj
  have e2 : kq VC M (cpS 10 4 M) := cpS_same.kq (fun t k ht => by unfold VC; omega)
  refine ⟨cpS 10 4 M, ?_, cpS_st (by omega) h.b_g hb.b_st, (hb.keep e2).b_tw, (hb.keep e2).b_j, hj, h.b_g, h.b_t, fun t k ht => by unfold dA at ht; unfold VC; omega, e.tr e2⟩
  unfold f_X8_startTrial
  rw [cCopy_is]
  rfl
theorem nI_xor (a b : Nat) : nI a ^^^ nI b = nI (a ^^^ b) := by
  apply Int32.toBitVec_inj.mp
  rw [Int32.toBitVec_xor]
  show BitVec.ofNat 32 a ^^^ BitVec.ofNat 32 b = BitVec.ofNat 32 (a ^^^ b)
  rw [BitVec.ofNat_xor]
theorem cWindOn {n j d : Nat} {T : Tw} {M : Mem} (gT : T.Good) (t : TwC T j M) (hd : d < 2 ^ 30) : f_X6_windOn n j (nI d) M = some (nI (T.windOn d), M) := by
  have h1 := gT.h_winds
  unfold f_X6_windOn Tw.windOn
  rw [t.winds]
  by_cases hz : T.winds = 0
  · rw [hz, if_pos (show nI 0 ≤ 0 by decide), if_pos rfl]
    rfl
  · have hne : ¬ nI T.winds = 0 := nI_ne0 (by omega) (by omega)
    have hlt : d % T.winds < T.winds := Nat.mod_lt _ (by omega)
    rw [if_neg (nI_nle (by omega) (by omega)), if_neg hz]
    unfold f_J9_floorMod_7cf53
    rw [ck, if_pos hne]
    have hx : (0 : Int32) ≤ nI d ^^^ nI T.winds := by
      have hw : T.winds < 2 ^ 30 := by omega
      have hlt2 : d ^^^ T.winds < 2 ^ 30 := Nat.xor_lt_two_pow hd hw
      rw [nI_xor]
      exact nI_le (a := 0) (by omega) (by omega)
    rw [if_pos hx]
    simp only [bd]
    rw [pk_rem (by omega) (by omega) (by omega), ck, if_pos (n_in (by omega) (by decide)), nI_clamp (by omega), t.wind _ hlt]
theorem cTrialDay {V : Nat → Nat → Prop} {n wd j : Nat} {T : Tw} {s : Sp} {M0 M : Mem} (hn : 1000 < n) (h : CTV V wd j T M0 s M) (hd : s.day < 20000) : ∃ M', f_X8_passTrialDay n M = some M' ∧ CTV V wd j T M0 (T.nxt wd s) M' ∧ ∀ w, w < wd → gi M' 15 w = nI (T.gv wd s w) := by
  have hj := h.c_jj
  obtain ⟨M', q, a1, a2, a3, a4⟩ := cDay (wind := T.windOn s.day) hn h.c_g h.c_t (i := 10) (by omega) h.c_st h.c_tw
  refine ⟨M', ?_, ⟨a1, a2, (a3.1 _ _ (by unfold dA; omega)).trans h.c_j, hj, day_good h.c_g hd, h.c_t, h.c_v, h.c_sm.tr (a3.kq h.c_v)⟩, a4⟩
  unfold f_X8_passTrialDay
  have hjn : (gi M 0 12).toNatClampNeg = j := by
    rw [h.c_j, nI_clamp (by omega)]
  rw [hjn, ck, if_pos (by rcases hj with rfl | rfl <;> decide), ck, if_pos (by rcases hj with rfl | rfl <;> decide), h.c_st.day, cWindOn h.c_t h.c_tw (by omega)]
  simp only [bd]
  rw [q]
/-- the reference tries -/
def MB (wd : Nat) (T : Tw) (s : Sp) (M : Mem) : Prop := (StR wd s 12 0 M) ∧ (TwM wd T M) ∧ (gi M 0 52 = (-1 : Int32)) ∧ (s.Good wd) ∧ (T.Good) ∧ (s.day ≤ 9999)
theorem MB.n_st {wd : Nat} {T : Tw} {s : Sp} {M : Mem} (h : MB wd T s M) : StR wd s 12 0 M := h.1
theorem MB.n_tw {wd : Nat} {T : Tw} {s : Sp} {M : Mem} (h : MB wd T s M) : TwM wd T M := h.2.1
theorem MB.n_w {wd : Nat} {T : Tw} {s : Sp} {M : Mem} (h : MB wd T s M) : gi M 0 52 = (-1 : Int32) := h.2.2.1
theorem MB.n_g {wd : Nat} {T : Tw} {s : Sp} {M : Mem} (h : MB wd T s M) : s.Good wd := h.2.2.2.1
theorem MB.n_t {wd : Nat} {T : Tw} {s : Sp} {M : Mem} (h : MB wd T s M) : T.Good := h.2.2.2.2.1
theorem MB.n_d {wd : Nat} {T : Tw} {s : Sp} {M : Mem} (h : MB wd T s M) : s.day ≤ 9999 := h.2.2.2.2.2
def VT (t k : Nat) : Prop := VM 54 t k ∨ (t = 0 ∧ (k = 52 ∨ k = 58)) ∨ t = 19
def MT (wd : Nat) (T : Tw) (M0 : Mem) (ow : Int32) (fa : Int32) (gv : Nat → Int32) (s : Sp) (M : Mem) : Prop := (StR wd s 12 54 M) ∧ (TwM wd T M) ∧ (gi M 0 52 = ow) ∧ (gi M 0 48 = fa) ∧ (∀ w, w < wd → gi M 14 w = gv w) ∧ (s.Good wd) ∧ (T.Good) ∧ (kp VT M0 M)
theorem MT.m_st {wd : Nat} {T : Tw} {M0 : Mem} {ow : Int32} {fa : Int32} {gv : Nat → Int32} {s : Sp} {M : Mem} (h : MT wd T M0 ow fa gv s M) : StR wd s 12 54 M := h.1
theorem MT.m_tw {wd : Nat} {T : Tw} {M0 : Mem} {ow : Int32} {fa : Int32} {gv : Nat → Int32} {s : Sp} {M : Mem} (h : MT wd T M0 ow fa gv s M) : TwM wd T M := h.2.1
theorem MT.m_w {wd : Nat} {T : Tw} {M0 : Mem} {ow : Int32} {fa : Int32} {gv : Nat → Int32} {s : Sp} {M : Mem} (h : MT wd T M0 ow fa gv s M) : gi M 0 52 = ow := h.2.2.1
theorem MT.m_fa {wd : Nat} {T : Tw} {M0 : Mem} {ow : Int32} {fa : Int32} {gv : Nat → Int32} {s : Sp} {M : Mem} (h : MT wd T M0 ow fa gv s M) : gi M 0 48 = fa := h.2.2.2.1
theorem MT.m_gv {wd : Nat} {T : Tw} {M0 : Mem} {ow : Int32} {fa : Int32} {gv : Nat → Int32} {s : Sp} {M : Mem} (h : MT wd T M0 ow fa gv s M) : ∀ w, w < wd → gi M 14 w = gv w := h.2.2.2.2.1
theorem MT.m_g {wd : Nat} {T : Tw} {M0 : Mem} {ow : Int32} {fa : Int32} {gv : Nat → Int32} {s : Sp} {M : Mem} (h : MT wd T M0 ow fa gv s M) : s.Good wd := h.2.2.2.2.2.1
theorem MT.m_t {wd : Nat} {T : Tw} {M0 : Mem} {ow : Int32} {fa : Int32} {gv : Nat → Int32} {s : Sp} {M : Mem} (h : MT wd T M0 ow fa gv s M) : T.Good := h.2.2.2.2.2.2.1
theorem MT.m_k {wd : Nat} {T : Tw} {M0 : Mem} {ow : Int32} {fa : Int32} {gv : Nat → Int32} {s : Sp} {M : Mem} (h : MT wd T M0 ow fa gv s M) : kp VT M0 M := h.2.2.2.2.2.2.2
theorem mStart {n wd : Nat} {T : Tw} {s : Sp} {M0 M : Mem} (hn : 2000 < n) (h : MB wd T s M0) (e : kp VT M0 M) : ∃ M', f_X9_tries n M = some M' ∧ MT wd T M0 (gi M 0 52) (nI 0) (fun _ => nI 0) s M' := by
  have h1 : StR wd s 12 0 M := h.n_st.kp h.n_g e (fun k _ _ => by unfold VT VM; omega)
  have hw := h.n_g.h_wd
  obtain ⟨M', q, a1, a2, a3, a4, a5⟩ := mTries (n := n) (by omega) h.n_g h1
  have t1 : TwM wd T M := h.n_tw.kp e (fun k _ _ => by unfold VT VM; omega) (fun k => by unfold VT VM; omega) (fun k => by unfold VT VM; omega)
  exact ⟨M', q, a1, tVM t1 a2, a2.1 0 52 (by unfold VM; omega), a3, fun w hw => a5 w (by omega), h.n_g, h.n_t, e.tr (a2.mono (fun t k ht => Or.inl ht))⟩
theorem mTrialDay {n wd : Nat} {T : Tw} {s : Sp} {M0 M : Mem} {fa : Int32} {gv : Nat → Int32} (hn : 2000 < n) (h : MT wd T M0 (-1) fa gv s M) (hd : s.day < 20000) : ∃ M', f_X9_dayGoes n (54 : Int32) M = some M' ∧ MT wd T M0 (-1) (fa + nI (T.nxt wd s).fell) (fun w => gv w + nI (T.gv wd s w)) (T.nxt wd s) M' ∧ gi M' 0 49 = nI (sumN (T.gv wd s) wd) := by
  obtain ⟨M', q, a1, a2, a3, a4, a5, a6⟩ := mDay (b := 54) hn (by decide) h.m_g h.m_t h.m_st h.m_tw (Or.inl ⟨h.m_w, rfl⟩)
  exact ⟨M', q, ⟨a1, a2, (a3.1 0 52 (by unfold VM; omega)).trans h.m_w, by rw [a4, h.m_fa]; rfl, fun w hw => by rw [a6 w hw, h.m_gv w hw]; rfl, day_good h.m_g hd, h.m_t, h.m_k.tr (a3.mono (fun t k ht => Or.inl ht))⟩, a5⟩
theorem CTV.up {V : Nat → Nat → Prop} {wd j t k : Nat} {T : Tw} {s s' : Sp} {M0 M : Mem} {x : Int32} (h : CTV V wd j T M0 s M) (ht : 10 ≤ t ∧ t ≤ 14) (hs : StC wd s' 10 (si M t k x)) (g' : s'.Good wd) : CTV V wd j T M0 s' (si M t k x) := by
  have hj := h.c_jj
  have e : kq (fun q _ => 10 ≤ q ∧ q ≤ 14) M (si M t k x) := kq.rf.si ht _
  exact ⟨hs, h.c_tw.kq e (fun q r _ _ => by omega), (e _ _ (by omega)).trans h.c_j, hj, g', h.c_t, h.c_v, h.c_sm.tr (e.mono (fun q r hq => h.c_v q r (by unfold dA; omega)))⟩
theorem MT.up {wd p : Nat} {T : Tw} {s s' : Sp} {M0 M : Mem} {ow fa x : Int32} {gv : Nat → Int32} (h : MT wd T M0 ow fa gv s M) (hp : 54 ≤ p ∧ p < 108) (hs : StR wd s' 12 54 (si M 12 p x)) (g' : s'.Good wd) : MT wd T M0 ow fa gv s' (si M 12 p x) := by
  have e : kp (VM 54) M (si M 12 p x) := kp.rf.si (by unfold VM; omega) _
  refine ⟨hs, tVM h.m_tw e, ?_, ?_, fun w hw => ?_, g', h.m_t, h.m_k.tr (e.mono (fun t k ht => Or.inl ht))⟩
  · rw [gi_si, if_neg (by omega)]
    exact h.m_w
  · rw [gi_si, if_neg (by omega)]
    exact h.m_fa
  · rw [gi_si, if_neg (by omega)]
    exact h.m_gv w hw
