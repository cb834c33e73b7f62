/-! The reference reads an operand. -/
def RP (f : Nat → Nat) (e s r : Nat) (C : List Op) (W : List Nat) (D : List Bool) (ts : List Tok) (M : Mem) : Prop := (SRt f e ts M) ∧ (gi M 0 32 = nI (s + len2 C)) ∧ (cop (gi M 9) s C) ∧ (gi M 0 35 = nI W.length) ∧ (wts (gi M 10) W) ∧ (gi M 0 36 = nI D.length) ∧ (tst (gi M 11) D) ∧ (gi M 0 33 = nI (if r = 0 then 0 else 3)) ∧ (gi M 0 34 = nI (if r = 0 then 5 else 8)) ∧ (gi M 0 12 = 0) ∧ (gi M 0 13 = -1)
theorem RP.a_t {f : Nat → Nat} {e s r : Nat} {C : List Op} {W : List Nat} {D : List Bool} {ts : List Tok} {M : Mem} (h : RP f e s r C W D ts M) : SRt f e ts M := h.1
theorem RP.a_c {f : Nat → Nat} {e s r : Nat} {C : List Op} {W : List Nat} {D : List Bool} {ts : List Tok} {M : Mem} (h : RP f e s r C W D ts M) : gi M 0 32 = nI (s + len2 C) := h.2.1
theorem RP.a_o {f : Nat → Nat} {e s r : Nat} {C : List Op} {W : List Nat} {D : List Bool} {ts : List Tok} {M : Mem} (h : RP f e s r C W D ts M) : cop (gi M 9) s C := h.2.2.1
theorem RP.a_w {f : Nat → Nat} {e s r : Nat} {C : List Op} {W : List Nat} {D : List Bool} {ts : List Tok} {M : Mem} (h : RP f e s r C W D ts M) : gi M 0 35 = nI W.length := h.2.2.2.1
theorem RP.a_v {f : Nat → Nat} {e s r : Nat} {C : List Op} {W : List Nat} {D : List Bool} {ts : List Tok} {M : Mem} (h : RP f e s r C W D ts M) : wts (gi M 10) W := h.2.2.2.2.1
theorem RP.a_d {f : Nat → Nat} {e s r : Nat} {C : List Op} {W : List Nat} {D : List Bool} {ts : List Tok} {M : Mem} (h : RP f e s r C W D ts M) : gi M 0 36 = nI D.length := h.2.2.2.2.2.1
theorem RP.a_e {f : Nat → Nat} {e s r : Nat} {C : List Op} {W : List Nat} {D : List Bool} {ts : List Tok} {M : Mem} (h : RP f e s r C W D ts M) : tst (gi M 11) D := h.2.2.2.2.2.2.1
theorem RP.a_1 {f : Nat → Nat} {e s r : Nat} {C : List Op} {W : List Nat} {D : List Bool} {ts : List Tok} {M : Mem} (h : RP f e s r C W D ts M) : gi M 0 33 = nI (if r = 0 then 0 else 3) := h.2.2.2.2.2.2.2.1
theorem RP.a_2 {f : Nat → Nat} {e s r : Nat} {C : List Op} {W : List Nat} {D : List Bool} {ts : List Tok} {M : Mem} (h : RP f e s r C W D ts M) : gi M 0 34 = nI (if r = 0 then 5 else 8) := h.2.2.2.2.2.2.2.2.1
theorem RP.a_f {f : Nat → Nat} {e s r : Nat} {C : List Op} {W : List Nat} {D : List Bool} {ts : List Tok} {M : Mem} (h : RP f e s r C W D ts M) : gi M 0 12 = 0 := h.2.2.2.2.2.2.2.2.2.1
theorem RP.a_g {f : Nat → Nat} {e s r : Nat} {C : List Op} {W : List Nat} {D : List Bool} {ts : List Tok} {M : Mem} (h : RP f e s r C W D ts M) : gi M 0 13 = -1 := h.2.2.2.2.2.2.2.2.2.2
def RB (e s : Nat) (C : List Op) (W : List Nat) (ts : List Tok) : Prop := s + len2 C + W.length + 1 ≤ 2 * (hdT e ts).p ∧ W.length ≤ (hdT e ts).p
def RS (f : Nat → Nat) (e s r : Nat) (C : List Op) (W : List Nat) (D : List Bool) (ts : List Tok) (M : Mem) : Prop := RP f e s r C W D ts M ∧ RB e s C W ts ∧ W.count 9 + 1 = D.length ∧ D.length ≤ 6
def FS (s k p : Nat) (M : Mem) : Prop := (gi M 0 12 = nI k) ∧ (gi M 0 13 = nI p) ∧ (1 ≤ k ∧ k ≤ 3) ∧ (∃ t m, gi M 0 32 = nI t ∧ gi M 0 35 = nI m ∧ s ≤ t ∧ t + m < 1400 ∧ m ≤ 700)
theorem FS.z_k {s k p : Nat} {M : Mem} (h : FS s k p M) : gi M 0 12 = nI k := h.1
theorem FS.z_p {s k p : Nat} {M : Mem} (h : FS s k p M) : gi M 0 13 = nI p := h.2.1
theorem FS.z_b {s k p : Nat} {M : Mem} (h : FS s k p M) : 1 ≤ k ∧ k ≤ 3 := h.2.2.1
theorem FS.z_m {s k p : Nat} {M : Mem} (h : FS s k p M) : ∃ t m, gi M 0 32 = nI t ∧ gi M 0 35 = nI m ∧ s ≤ t ∧ t + m < 1400 ∧ m ≤ 700 := h.2.2.2
theorem mGood {n : Nat} {M : Mem} (h : gi M 0 12 = 0) : f_X9_isGood n M = some ((1 : Int32), M) := if_pos h
theorem mBad {n k : Nat} {M : Mem} (h : gi M 0 12 = nI k) (hk : 1 ≤ k ∧ k < 100) : f_X9_isGood n M = some ((0 : Int32), M) := if_neg (by rw [h]; exact nI_ne0 (by omega) (by omega))
theorem kw_20 : ∀ v, v < 21 → (nI (kmW.getD v 0) = (20 : Int32) ↔ v = 11) ∧ (nI (kmW.getD v 0) = (18 : Int32) ↔ v = 10) ∧ (nI (kmW.getD v 0) = (19 : Int32) ↔ v = 9) := by decide +kernel
theorem kwI_20 (T : Tok) : (kwI T = (20 : Int32) ↔ T.k = 1 ∧ T.v = 11) ∧ (kwI T = (18 : Int32) ↔ T.k = 1 ∧ T.v = 10) ∧ (kwI T = (19 : Int32) ↔ T.k = 1 ∧ T.v = 9) := by
  unfold kwI
  by_cases c : T.k = 1 ∧ T.v < 21
  · rw [if_pos c]
    obtain ⟨a, b, d⟩ := kw_20 T.v c.2
    exact ⟨a.trans ⟨fun q => ⟨c.1, q⟩, fun q => q.2⟩, b.trans ⟨fun q => ⟨c.1, q⟩, fun q => q.2⟩, d.trans ⟨fun q => ⟨c.1, q⟩, fun q => q.2⟩⟩
  · rw [if_neg c]
    refine ⟨⟨fun q => absurd q (by decide), fun q => absurd ⟨q.1, by omega⟩ c⟩, ⟨fun q => absurd q (by decide), fun q => absurd ⟨q.1, by omega⟩ c⟩, ⟨fun q => absurd q (by decide), fun q => absurd ⟨q.1, by omega⟩ c⟩⟩
def kwv (v : Nat) : Int32 := if v < 21 then nI (kmW.getD v 0) else -1
theorem kw_v0 : ∀ v, v < 22 → (vlb 0 v = true ↔ ¬ kwv v < (0 : Int32) ∧ kwv v ≤ (5 : Int32)) ∧ (vlb 1 v = true ↔ ¬ kwv v < (3 : Int32) ∧ kwv v ≤ (8 : Int32)) := by decide +kernel
theorem kw_v1 : ∀ v, v < 22 → 12 ≤ v ∧ v ≤ 20 → kwv v = nI (pm (v - 12)) := by decide +kernel
theorem vlb_12 (r v : Nat) (h : vlb r v = true) : 12 ≤ v ∧ v ≤ 20 := by
  unfold vlb at h
  have := of_decide_eq_true h
  omega
theorem kw_r (r v : Nat) (hv : v < 22) : vlb r v = true ↔ ¬ kwv v < nI (if r = 0 then 0 else 3) ∧ kwv v ≤ nI (if r = 0 then 5 else 8) := by
  by_cases c : r = 0
  · rw [if_pos c, if_pos c, c]
    exact (kw_v0 v hv).1
  · rw [if_neg c, if_neg c]
    have : vlb r v = vlb 1 v := by
      unfold vlb
      apply decide_eq_decide.mpr
      rw [if_neg c, if_neg (show ¬ (1 : Nat) = 0 by decide)]
    rw [this]
    exact (kw_v0 v hv).2
section O
variable {f : Nat → Nat} {e s r n : Nat} {C : List Op} {W : List Nat} {D : List Bool} {ts : List Tok} {M : Mem}
theorem SRt.kq {V : Nat → Nat → Prop} {M' : Mem} (h : SRt f e ts M) (k : kq V M M') (hg : ∀ t k, gj M' t k = gj M t k) (hv : ∀ q, 15 ≤ q → q ≤ 22 → ¬ V 0 q) (hb : ∀ q, ¬ V 3 q) : SRt f e ts M' := by
  obtain ⟨h1, h2⟩ := h
  exact ⟨h1, (k _ _ (hv _ (by omega) (by omega))).trans h2.m_e, fun q hq => (k _ _ (hb _)).trans (h2.m_b q hq), (k _ _ (hv _ (by omega) (by omega))).trans h2.m_p, (k _ _ (hv _ (by omega) (by omega))).trans h2.m_n, (k _ _ (hv _ (by omega) (by omega))).trans h2.m_k, (k _ _ (hv _ (by omega) (by omega))).trans h2.m_l, fun c => (k _ _ (hv _ (by omega) (by omega))).trans (h2.m_d c), fun c => (k _ _ (hv _ (by omega) (by omega))).trans (h2.m_s c), fun c d => (hg _ _).trans (h2.m_w c d)⟩
theorem SRt.nxt (hf : ∀ q, f q < 256) (h : SRt f e ts M) (hk : ¬ (hdT e ts).k = 0) : (hdT e ts).p + 1 ≤ (hdT e ts.tail).p := by
  have t := (h.tf hf).f_z hk
  obtain ⟨⟨p, hp⟩, _⟩ := h
  have := hp.tl.hd.x_p.1
  omega
theorem RP.go (he : e ≤ 700) (hf : ∀ q, f q < 256) (hn : 800 < n) (h : RP f e s r C W D ts M) : ∃ M', f_X9_goes n M = some M' ∧ RP f e s r C W D ts.tail M' ∧ kq VTk M M' := by
  obtain ⟨M', a1, a2, a3⟩ := mGoS he hf hn h.a_t
  exact ⟨M', a1, ⟨a2, (a3 _ _ (by unfold VTk; omega)).trans h.a_c, cop_congr C s (fun k _ _ => a3 _ _ (by unfold VTk; omega)) h.a_o, (a3 _ _ (by unfold VTk; omega)).trans h.a_w, wts_congr W (fun k _ => a3 _ _ (by unfold VTk; omega)) h.a_v, (a3 _ _ (by unfold VTk; omega)).trans h.a_d, tst_congr D (fun k _ => a3 _ _ (by unfold VTk; omega)) h.a_e, (a3 _ _ (by unfold VTk; omega)).trans h.a_1, (a3 _ _ (by unfold VTk; omega)).trans h.a_2, (a3 _ _ (by unfold VTk; omega)).trans h.a_f, (a3 _ _ (by unfold VTk; omega)).trans h.a_g⟩, a3⟩
theorem RP.wait (h : RP f e s r C W D ts M) (hw : W.length < 950) {o : Nat} (ho : o ≤ 9) {x : Int32} (hx : x = nI (wc o)) : ∃ M', f_X9_waitsFor n x M = some M' ∧ RP f e s r C (o :: W) D ts M' ∧ kq (VXr s) M M' := by
  have z : (nI W.length).toNatClampNeg = W.length := nI_clamp (by omega)
  unfold f_X9_waitsFor
  rw [h.a_w, ck_pos (n_in hw (by decide))]
  simp only [z]
  rw [gi_si, if_neg (by omega), h.a_w, nI_1]
  have g : ∀ t k, ¬ t = 10 → ¬ (t = 0 ∧ k = 35) → gi (si (si M 10 W.length x) 0 35 (nI (W.length + 1))) t k = gi M t k := fun t k h1 h2 => by rw [gi_si, if_neg h2, gi_si, if_neg (by omega)]
  refine ⟨_, rfl, ⟨(h.a_t.st (by omega) (by omega) _).st (by omega) (by omega) _, (g _ _ (by omega) (by omega)).trans h.a_c, cop_congr C s (fun k _ _ => g _ _ (by omega) (by omega)) h.a_o, by rw [gi_si, if_pos ⟨rfl, rfl⟩]; rfl, ⟨?_, ho, wts_congr W (fun k hk => ?_) h.a_v⟩, (g _ _ (by omega) (by omega)).trans h.a_d, tst_congr D (fun k _ => g _ _ (by omega) (by omega)) h.a_e, (g _ _ (by omega) (by omega)).trans h.a_1, (g _ _ (by omega) (by omega)).trans h.a_2, (g _ _ (by omega) (by omega)).trans h.a_f, (g _ _ (by omega) (by omega)).trans h.a_g⟩, (kq.rf.si (by unfold VXr; omega) _).si (by unfold VXr; omega) _⟩
  · rw [gi_si, if_neg (by omega), gi_si, if_pos ⟨rfl, rfl⟩, hx]
  · rw [gi_si, if_neg (by omega), gi_si, if_neg (by omega)]
theorem RP.drops (hn : 800 < n) (h : RP f e s r C W D ts M) {l : Nat} {x : Int32} (hx : x = nI l ∨ (x = 0 ∧ l = 1)) (hl : 1 ≤ l ∧ l ≤ 6) (hb : s + len2 C + W.length ≤ 1400) (hw : W.length ≤ 700) : ∃ M', f_X9_drops n x M = some M' ∧ RP f e s r (C ++ (twW l W).map act) (dwW l W) D ts M' ∧ kq (VXr s) M M' := by
  obtain ⟨M', a1, a2, a3, a4, a5, a6, a7⟩ := mDrops (n := n) hx hl W C n M (by omega) h.a_c h.a_o h.a_w h.a_v hb (by omega)
  exact ⟨M', a1, ⟨h.a_t.kq a6 a7 (fun q _ _ => by unfold Vd; omega) (fun q => by unfold Vd; omega), a2, a3, a4, a5, (a6 _ _ (by unfold Vd; omega)).trans h.a_d, tst_congr D (fun k _ => a6 _ _ (by unfold Vd; omega)) h.a_e, (a6 _ _ (by unfold Vd; omega)).trans h.a_1, (a6 _ _ (by unfold Vd; omega)).trans h.a_2, (a6 _ _ (by unfold Vd; omega)).trans h.a_f, (a6 _ _ (by unfold Vd; omega)).trans h.a_g⟩, a6.mono (fun _ _ q => q.x)⟩
theorem RP.wrong (h : RP f e s r C W D ts M) (hb : s + len2 C + W.length < 1400) (hw : W.length ≤ 700) {k : Nat} (hk : 1 ≤ k ∧ k ≤ 3) : ∃ M', f_X9_wrong n (nI k) M = some M' ∧ FS s k (hdT e ts).p M' ∧ kq (VXr s) M M' ∧ gi M' 0 32 = nI (s + len2 C) ∧ gi M' 0 35 = nI W.length ∧ gi M' 0 20 = gi M 0 20 := by
  unfold f_X9_wrong
  rw [if_pos h.a_f, gi_si, if_neg (by omega), h.a_t.2.m_p]
  have g : ∀ q, ¬ q = 12 → ¬ q = 13 → gi (si (si M 0 12 (nI k)) 0 13 (nI (hdT e ts).p)) 0 q = gi M 0 q := fun q h1 h2 => by rw [gi_si, if_neg (by omega), gi_si, if_neg (by omega)]
  refine ⟨_, rfl, ⟨by rw [gi_si, if_neg (by omega), gi_si, if_pos ⟨rfl, rfl⟩], by rw [gi_si, if_pos ⟨rfl, rfl⟩], hk, ⟨_, _, (g _ (by omega) (by omega)).trans h.a_c, (g _ (by omega) (by omega)).trans h.a_w, by omega, hb, hw⟩⟩, (kq.rf.si (by unfold VXr; omega) _).si (by unfold VXr; omega) _, (g _ (by omega) (by omega)).trans h.a_c, (g _ (by omega) (by omega)).trans h.a_w, g _ (by omega) (by omega)⟩
/-- two codes more -/
theorem put2X {t : Nat} (h : gi M 0 32 = nI t) (ht : t + 1 < 1400) (a b : Int32) (hs : s ≤ t) : ∃ M1 M2, f_X9_puts n a M = some M1 ∧ f_X9_puts n b M1 = some M2 ∧ gi M2 9 t = a ∧ gi M2 9 (t + 1) = b ∧ gi M2 0 32 = nI (t + 2) ∧ (∀ q k, ¬ (q = 0 ∧ k = 32) → ¬ (q = 9 ∧ (k = t ∨ k = t + 1)) → gi M2 q k = gi M q k) ∧ (∀ q k, gj M2 q k = gj M q k) ∧ kq (VXr s) M M2 ∧ gi M1 0 20 = gi M 0 20 := by
  refine ⟨_, _, mPuts h (by omega) a, mPuts (t := t + 1) (by rw [gi_si, if_pos ⟨rfl, rfl⟩]) (by omega) b, ?_, ?_, ?_, fun q k h1 h2 => ?_, fun _ _ => rfl, ?_, ?_⟩
  · rw [gi_si, if_neg (by omega), gi_si, if_neg (by omega), gi_si, if_neg (by omega), gi_si, if_pos ⟨rfl, rfl⟩]
  · rw [gi_si, if_neg (by omega), gi_si, if_pos ⟨rfl, rfl⟩]
  · rw [gi_si, if_pos ⟨rfl, rfl⟩]
  · rw [gi_si, if_neg (by omega), gi_si, if_neg (by omega), gi_si, if_neg (by omega), gi_si, if_neg (by omega)]
  · exact (((kq.rf.si (by unfold VXr; omega) _).si (by unfold VXr; omega) _).si (by unfold VXr; omega) _).si (by unfold VXr; omega) _
  · rw [gi_si, if_neg (by omega), gi_si, if_neg (by omega)]
theorem RP.put2 (h : RP f e s r C W D ts M) (hb : s + len2 C + 1 < 1400) {op : Op} {a b : Int32} (hl : len2 [op] = 2) (hc : ∀ (row : Nat → Int32) (t : Nat), row t = a → row (t + 1) = b → cop row t [op]) : ∃ M1 M2, f_X9_puts n a M = some M1 ∧ f_X9_puts n b M1 = some M2 ∧ RP f e s r (C ++ [op]) W D ts M2 ∧ kq (VXr s) M M2 ∧ gi M1 0 20 = gi M 0 20 := by
  obtain ⟨M1, M2, p1, p2, p3, p4, p5, p6, p7, p8, p9⟩ := put2X (n := n) h.a_c hb a b (s := s) (by omega)
  refine ⟨M1, M2, p1, p2, ⟨h.a_t.kq (V := fun q k => (q = 0 ∧ k = 32) ∨ (q = 9)) (fun q k hk => p6 q k (by omega) (by omega)) p7 (fun q _ _ => by omega) (fun q => by omega), by rw [p5, len2_app, hl]; congr 1, cop_app C [op] s (cop_congr C s (fun k _ hk => p6 _ _ (by omega) (by omega)) h.a_o) (hc _ _ p3 p4), (p6 _ _ (by omega) (by omega)).trans h.a_w, wts_congr W (fun k _ => p6 _ _ (by omega) (by omega)) h.a_v, (p6 _ _ (by omega) (by omega)).trans h.a_d, tst_congr D (fun k _ => p6 _ _ (by omega) (by omega)) h.a_e, (p6 _ _ (by omega) (by omega)).trans h.a_1, (p6 _ _ (by omega) (by omega)).trans h.a_2, (p6 _ _ (by omega) (by omega)).trans h.a_f, (p6 _ _ (by omega) (by omega)).trans h.a_g⟩, p8, p9⟩
def OU (f : Nat → Nat) (e s r : Nat) (ts : List Tok) (M : Mem) (R : Res) (o : Option Mem) : Prop := ∃ M', o = some M' ∧ kq (VXr s) M M' ∧ ((∃ C' W' D' ts', RS f e s r C' W' D' ts' M' ∧ R = amR r e ts' 0 0 C' W' D' ∧ ts'.length < ts.length) ∨ (∃ k p, FS s k p M' ∧ R = .inl (k, p)))
theorem p97F {k p : Nat} (h : FS s k p M) : j_X9_part_97 n M = some M := by
  unfold j_X9_part_97
  have := h.z_b
  rw [mBad h.z_k (by omega)]
  dsimp only [bd]
  rw [if_pos (show (0 : Int32) = 0 from rfl)]
theorem FS.put2 {k p t m : Nat} (h : FS s k p M) (h1 : gi M 0 32 = nI t) (h2 : gi M 0 35 = nI m) (hs : s ≤ t) (ht : t + 2 + m < 1400) (hm : m ≤ 700) (a b : Int32) : ∃ M1 M2, f_X9_puts n a M = some M1 ∧ f_X9_puts n b M1 = some M2 ∧ FS s k p M2 ∧ kq (VXr s) M M2 ∧ gi M1 0 20 = gi M 0 20 := by
  obtain ⟨M1, M2, p1, p2, p3, p4, p5, p6, p7, p8, p9⟩ := put2X (n := n) h1 (by omega) a b hs
  exact ⟨M1, M2, p1, p2, ⟨(p6 _ _ (by omega) (by omega)).trans h.z_k, (p6 _ _ (by omega) (by omega)).trans h.z_p, h.z_b, ⟨_, _, p5, (p6 _ _ (by omega) (by omega)).trans h2, by omega, ht, hm⟩⟩, p8, p9⟩
theorem RS.p (h : RS f e s r C W D ts M) (hf : ∀ q, f q < 256) (he : e ≤ 700) : s + len2 C + W.length + 1 ≤ 1400 ∧ W.length ≤ 700 ∧ (¬ (hdT e ts).k = 0 → s + len2 C + W.length + 3 ≤ 1400 ∧ W.length ≤ 699) := by
  have t := h.1.a_t.tf hf
  have h1 := t.f_p
  obtain ⟨h2, h3⟩ := h.2.1
  refine ⟨by omega, by omega, fun c => ?_⟩
  have := t.f_z c
  omega
theorem mPart (he : e ≤ 700) (hf : ∀ q, f q < 256) (hn : 800 < n) (h : RS f e s r C W D ts M) {m c : Nat} (hm : ¬ m = 0) (h1 : ¬ (m = 2 ∧ (hdT e ts).k = 1 ∧ (hdT e ts).v = 11)) (h2 : ¬ ((hdT e ts).k = 3 ∧ (hdT e ts).v = 40)) : OU f e s r ts M (amR r e ts m c C W D) (f_X9_part n M) := by
  have t := h.1.a_t.tf hf
  have tk := t.f_k
  obtain ⟨b1, b2, b3⟩ := h.p hf he
  have hr := h.1
  unfold f_X9_part
  rw [mGood hr.a_f]
  dsimp only [bd]
  rw [if_neg (show ¬ (1 : Int32) = 0 by decide), hr.a_t.2.m_k]
  by_cases c2 : (hdT e ts).k = 2
  · obtain ⟨T, ts', rfl⟩ : ∃ T ts', ts = T :: ts' := by
      cases ts with
      | nil => exact absurd c2 (show ¬ (0 : Nat) = 2 by decide)
      | cons T ts' => exact ⟨T, ts', rfl⟩
    have c2' : T.k = 2 := c2
    obtain ⟨b4, b5⟩ := b3 (by omega)
    have ea : amR r e (T :: ts') m c C W D = if 4 < T.nx - T.p then .inl (2, T.p) else amR r e ts' 0 0 (C ++ [.inl T.v]) W D := by
      rw [amR, if_neg hm, if_neg (show ¬ (m = 2 ∧ T.k = 1 ∧ T.v = 11) from h1), if_neg (show ¬ (T.k = 3 ∧ T.v = 40) from h2), if_pos c2']
    have hv : gi M 0 20 = nI T.v := hr.a_t.2.m_d c2
    have hl : gi M 0 19 = nI (T.nx - T.p) := hr.a_t.2.m_l
    have hTn : T.nx ≤ e ∧ T.p ≤ T.nx := t.f_n
    rw [if_pos (by rw [c2]; rfl), hl, ea]
    by_cases c4 : T.nx - T.p ≤ 4
    · rw [if_pos (show nI (T.nx - T.p) ≤ (4 : Int32) from nI_le (b := 4) c4 (by decide)), if_neg (by omega)]
      obtain ⟨M1, M2, p1, p2, p3, p4, p5⟩ := hr.put2 (n := n) (op := .inl T.v) (a := 1) (b := nI T.v) (by omega) rfl (fun row t q1 q2 => ⟨q1, q2, trivial⟩)
      unfold j_X9_part_29
      rw [p1]
      dsimp only [bd]
      rw [p5, hv, p2]
      dsimp only []
      unfold j_X9_part_97
      rw [mGood p3.a_f]
      dsimp only [bd]
      rw [if_neg (show ¬ (1 : Int32) = 0 by decide)]
      obtain ⟨M3, q1, q2, q3⟩ := p3.go he hf hn
      have hx := hr.a_t.nxt hf (by omega)
      rw [q1]
      refine ⟨M3, rfl, p4.tr (q3.mono (fun _ _ q => q.x)), Or.inl ⟨_, _, _, _, ⟨q2, ⟨?_, ?_⟩, h.2.2⟩, rfl, Nat.lt_succ_self _⟩⟩
      · have hh := h.2.1.1
        rw [len2_app]
        show s + (len2 C + 2) + W.length + 1 ≤ _
        omega
      · have hh := h.2.1.2
        omega
    · rw [if_neg (show ¬ nI (T.nx - T.p) ≤ (4 : Int32) from nI_ge (a := 4) (by omega) (by omega)), if_pos (by omega)]
      obtain ⟨M0, w1, w2, w3, w4, w5, w6⟩ := hr.wrong (n := n) (k := 2) (by omega) b2 (by decide)
      obtain ⟨M1, M2, p1, p2, p3, p4, p5⟩ := w2.put2 (n := n) w4 w5 (by omega) (by omega) (by omega) 1 (nI T.v)
      rw [show f_X9_wrong n (2 : Int32) M = some M0 from w1]
      dsimp only []
      unfold j_X9_part_29
      rw [p1]
      dsimp only [bd]
      rw [p5, w6, hv, p2]
      dsimp only []
      rw [p97F p3]
      exact ⟨M2, rfl, w3.tr p4, Or.inr ⟨2, T.p, p3, rfl⟩⟩
  · rw [if_neg (ne_2 c2 (by omega))]
    by_cases c1 : (hdT e ts).k = 1
    · obtain ⟨T, ts', rfl⟩ : ∃ T ts', ts = T :: ts' := by
        cases ts with
        | nil => exact absurd c1 (show ¬ (0 : Nat) = 1 by decide)
        | cons T ts' => exact ⟨T, ts', rfl⟩
      have c1' : T.k = 1 := c1
      obtain ⟨b4, b5⟩ := b3 (by omega)
      have ea : amR r e (T :: ts') m c C W D = if vlb r T.v = true then amR r e ts' 0 0 (C ++ [.inr (.inl (T.v - 12))]) W D else .inl (3, T.p) := by
        rw [amR, if_neg hm, if_neg (show ¬ (m = 2 ∧ T.k = 1 ∧ T.v = 11) from h1), if_neg (show ¬ (T.k = 3 ∧ T.v = 40) from h2), if_neg (show ¬ T.k = 2 from c2), if_pos c1']
      have hv : T.v ≤ 21 := t.f_1 c1
      have hkw : kwI T = kwv T.v := by
        unfold kwI kwv
        by_cases q : T.v < 21
        · rw [if_pos ⟨c1', q⟩, if_pos q]
        · rw [if_neg (fun x => q x.2), if_neg q]
      have hkr := kw_r r T.v (by omega)
      rw [if_pos (by rw [c1]; rfl), mKnownS he hn hr.a_t, show hdT e (T :: ts') = T from rfl, hkw, ea]
      dsimp only []
      rw [hr.a_1, hr.a_2]
      have hgd : vlb r T.v = true → OU f e s r (T :: ts') M (amR r e ts' 0 0 (C ++ [.inr (.inl (T.v - 12))]) W D) (j_X9_part_79 n (kwv T.v) M) := by
        intro cv
        have v12 := vlb_12 r T.v cv
        have kw := kw_v1 T.v (by omega) v12
        obtain ⟨M1, M2, p1, p2, p3, p4, p5⟩ := hr.put2 (n := n) (op := .inr (.inl (T.v - 12))) (a := 2) (b := kwv T.v) (by omega) rfl (fun row t q1 q2 => ⟨q1, q2.trans kw, trivial⟩)
        unfold j_X9_part_79
        rw [p1]
        dsimp only [bd]
        rw [p2]
        dsimp only []
        unfold j_X9_part_97
        rw [mGood p3.a_f]
        dsimp only [bd]
        rw [if_neg (show ¬ (1 : Int32) = 0 by decide)]
        obtain ⟨M3, q1, q2, q3⟩ := p3.go he hf hn
        have hx := hr.a_t.nxt hf (by omega)
        rw [q1]
        refine ⟨M3, rfl, p4.tr (q3.mono (fun _ _ q => q.x)), Or.inl ⟨_, _, _, _, ⟨q2, ⟨?_, ?_⟩, h.2.2⟩, rfl, Nat.lt_succ_self _⟩⟩
        · have hh := h.2.1.1
          rw [len2_app]
          show s + (len2 C + 2) + W.length + 1 ≤ _
          omega
        · have hh := h.2.1.2
          omega
      have hbd : OU f e s r (T :: ts') M (.inl (3, T.p)) (j_X9_part_74 n (kwv T.v) M) := by
        obtain ⟨M0, w1, w2, w3, w4, w5, w6⟩ := hr.wrong (n := n) (k := 3) (by omega) b2 (by decide)
        obtain ⟨M1, M2, p1, p2, p3, p4, p5⟩ := w2.put2 (n := n) w4 w5 (by omega) (by omega) (by omega) 2 (kwv T.v)
        unfold j_X9_part_74
        rw [show f_X9_wrong n (3 : Int32) M = some M0 from w1]
        dsimp only [bd]
        unfold j_X9_part_79
        rw [p1]
        dsimp only [bd]
        rw [p2]
        dsimp only []
        rw [p97F p3]
        exact ⟨M2, rfl, w3.tr p4, Or.inr ⟨3, T.p, p3, rfl⟩⟩
      by_cases cv : vlb r T.v = true
      · have := hkr.mp cv
        rw [if_neg this.1, if_pos this.2, if_pos cv]
        exact hgd cv
      · rw [if_neg cv]
        by_cases q1 : kwv T.v < nI (if r = 0 then 0 else 3)
        · rw [if_pos q1]
          exact hbd
        · rw [if_neg q1, if_neg (fun q2 => cv (hkr.mpr ⟨q1, q2⟩))]
          exact hbd
    · rw [if_neg (ne_1 c1 (by omega))]
      have ea : amR r e ts m c C W D = .inl (1, (hdT e ts).p) := by
        cases ts with
        | nil => rw [amR, if_neg (fun q => hm q.1)]; rfl
        | cons T ts' =>
          rw [amR, if_neg hm, if_neg (show ¬ (m = 2 ∧ T.k = 1 ∧ T.v = 11) from h1), if_neg (show ¬ (T.k = 3 ∧ T.v = 40) from h2), if_neg (show ¬ T.k = 2 from c2), if_neg (show ¬ T.k = 1 from c1)]
          rfl
      rw [ea]
      obtain ⟨M0, w1, w2, w3, w4, w5, w6⟩ := hr.wrong (n := n) (k := 1) (by omega) b2 (by decide)
      rw [show f_X9_wrong n (1 : Int32) M = some M0 from w1]
      dsimp only []
      rw [p97F w2]
      exact ⟨M0, rfl, w3, Or.inr ⟨1, _, w2, rfl⟩⟩
end O
