/-! The class reads a rule: parts, and rows of them. -/
theorem nI_sub {a b : Nat} (h : b ≤ a) : nI a - nI b = nI (a - b) := by
  have : nI a = nI (a - b) + nI b := by
    rw [nI_add]
    congr 1
    omega
  rw [this, Int32.add_sub_cancel]
def ivP (e0 : Nat) (x1 : Int32) : Int32 := if 0 ≤ (wVl.getD e0 0) then (if (3 : Int32) ≤ (wVl.getD e0 0) then (if x1 = 0 then (if (6 : Int32) ≤ (wVl.getD e0 0) then 0 else 1) else (if (wVl.getD e0 0) < (6 : Int32) then 0 else 1)) else 1) else 0
theorem cIsVal (n e0 : Nat) (x1 : Int32) (M : Mem) : f_X7_isValueOf n e0 x1 M = some (ivP e0 x1, M) := by
  unfold f_X7_isValueOf ivP
  repeat' split
  all_goals rfl
theorem ivP_is : ∀ v, v < 22 → ∀ r, r < 3 → ivP v (nI r) = if vlb r v = true then 1 else 0 := by decide +kernel
theorem vlb_a : ∀ v, v < 22 → 12 ≤ v → v ≤ 20 → (-1 : Int32) - (wVl.getD v 0) = enc1 (.inr (.inl (v - 12))) := by decide +kernel
theorem vlb_is {v r : Nat} (hv : v < 22) (h : vlb r v = true) : (-1 : Int32) - (wVl.getD v 0) = enc1 (.inr (.inl (v - 12))) ∧ v - 12 < 9 ∧ vOK r (v - 12) := by
  unfold vlb at h
  have h := of_decide_eq_true h
  refine ⟨vlb_a v hv h.1 h.2.1, by omega, ?_⟩
  have h3 := h.2.2
  unfold vOK
  by_cases c : r = 0
  · rw [if_pos c] at h3 ⊢
    omega
  · rw [if_neg c] at h3 ⊢
    omega
section E
variable {f : Nat → Nat} {e n j r d w : Nat} {M : Mem} {ts : List Tok}
theorem cWr (hj : j = 46 ∨ j = 53) (hr : r < 3) (hw : w ≤ 700) (h2 : gi M 44 2 = nI j) (h : gi M j 6 = nI w) (x : Int32) : ∃ M' w', f_X6_write n j (nI r) x M = some M' ∧ w' ≤ 700 ∧ gi M' j 6 = nI w' ∧ kq (VE j r w) M M' ∧ (w < 700 → w' = w + 1 ∧ gi M' (j + 2) w = x ∧ gi M' (j + 4) r = nI (w + 1)) ∧ (∀ k, gi M' 44 k = gi M 44 k) ∧ (∀ ts, SCt f e ts M → SCt f e ts M') := by
  obtain ⟨M', w', a1, a2, a3, a4, a5, a6⟩ := cWrite (n := n) hr hw h x
  have a7 : ∀ k, gi M' 44 k = gi M 44 k := fun k => by
    rcases a6 k with c | c | c | c
    · exact c
    · omega
    · omega
    · omega
  refine ⟨M', w', a1, a2, a3, a4, a5, a7, fun ts hs => ?_⟩
  exact hs.kq (V := fun t k => VE j r w t k ∧ ¬ t = 44) (fun t k ht => by
    by_cases c : t = 44
    · subst c; exact a7 k
    · exact a4 t k (fun q => ht ⟨q, c⟩)) (fun q _ c => c.2 rfl) (fun q c => by
    have := c.1
    unfold VE at this
    omega)
theorem good_bin {O O2 : List Op} {ts1 ts2 ts0 : List Tok} {T : Tok} {M0 M1 M2 : Mem} {a : Nat} (he : e ≤ 700) (hf : ∀ q, f q < 256) (hj : j = 46 ∨ j = 53) (hr : r < 3) (hw0 : w ≤ (hdT e ts0).p) (g : GoodC f e j r w ts0 M0 O (T :: ts1) M) (k1 : kq VL M M1) (g2 : GoodC f e j r (w + O.length) ts1 M1 O2 ts2 M2) :
    ∃ M3, f_X6_write n j (nI r) (enc1 (act a)) M2 = some M3 ∧ GoodC f e j r w ts0 M0 (O ++ (O2 ++ [act a])) ts2 M3 := by
  have p1 := g.g_p
  have p2 : T.nx ≤ (hdT e ts1).p := g.g_x.q_s.pr
  have p3 := (g.g_x.q_s.tf hf).f_z (g.g_x.q_s.k0 hf)
  have p3' : T.p < T.nx := p3.2
  have p4 := g2.g_p
  have p5 := (g2.g_x.q_s.tf hf).f_p
  have p6 : (hdT e (T :: ts1)).p = T.p := rfl
  have l1 := g.g_l
  have l2 := g2.g_l
  obtain ⟨M3, w', a1, a2, a3, a4, a5, a6, a7⟩ := cWr (f := f) (e := e) (n := n) hj hr (by omega) g2.g_x.q_j g2.g_x.q_w (enc1 (act a))
  obtain ⟨b1, b2, b3⟩ := a5 (by omega)
  have hlen : (O ++ (O2 ++ [act a])).length = O.length + O2.length + 1 := by simp; omega
  have kM : kq (VE j r (w + O.length)) M M3 := ((k1.mono (fun t k h => h.ve)).tr g2.g_k).tr (a4.mono (fun t k h => h.mono (by omega)))
  refine ⟨M3, a1, ⟨a7 _ g2.g_x.q_s, (a6 2).trans g2.g_x.q_j, by rw [a3, b1, hlen]; congr 1; omega, by rw [hlen]; omega⟩, ?_, ?_, by rw [b3, hlen]; congr 1; omega, by rw [hlen]; omega, by simp at l1; omega⟩
  · refine cod_app (cod_kq g.g_c kM (Nat.le_refl _) (by omega)) (cod_app (cod_kq g2.g_c a4 (Nat.le_refl _) (by omega)) ⟨b2, trivial⟩)
  · exact g.g_k.tr (kM.mono (fun t k h => h.mono (by omega)))
theorem bad_w {M0 : Mem} {k p : Nat} (hj : j = 46 ∨ j = 53) (hr : r < 3) (b : BadC j r 0 M0 k p M) (h2 : gi M 44 2 = nI j) (x : Int32) : ∃ M3, f_X6_write n j (nI r) x M = some M3 ∧ BadC j r 0 M0 k p M3 ∧ gi M3 44 2 = nI j := by
  obtain ⟨w', h3, h4⟩ := b.b_w
  obtain ⟨M3, w2, a1, a2, a3, a4, a5, a6, a7⟩ := cWr (f := fun _ => 0) (e := 0) (n := n) hj hr h3 h2 h4 x
  exact ⟨M3, a1, ⟨(a6 _).trans b.b_f, (a6 _).trans b.b_p, (b.b_k.mono (fun t k h => h.mono (Nat.zero_le _))).tr (a4.mono (fun t k h => Or.inl (h.mono (Nat.zero_le _)))), ⟨w2, a2, a3⟩, b.b_b⟩, (a6 2).trans h2⟩
end E
section P
variable {f : Nat → Nat} {e n j r d w : Nat} {M : Mem} {ts : List Tok} {rec : Int32 → Int32 → Mem → Option (Int32 × Mem)}
def RecOK (f : Nat → Nat) (e j r d : Nat) (rec : Int32 → Int32 → Mem → Option (Int32 × Mem)) : Prop :=
  (d < 5 → ∀ ts w M, CXt f e j w ts M → CR f e j r 1 (d + 1) w ts M (rec (nI r) (nI (d + 1)) M)) ∧ (5 ≤ d → ∀ ts w M, CXt f e j w ts M → rec (nI r) (nI (d + 1)) M = some (0, si (si M 44 11 (nI (dpK (hdT e ts)))) 44 12 (nI (hdT e ts).p)))
theorem cIsNumber (hf : ∀ q, f q < 256) (h : SCt f e ts M) (he : e ≤ 700) {lo hi : Nat} (hh : hi ≤ 9999) (hlo : lo ≤ hi) : f_X2_isNumber n (nI lo) (nI hi) M = some (if (hdT e ts).k = 2 ∧ (hdT e ts).nx - (hdT e ts).p ≤ 4 ∧ lo ≤ (hdT e ts).v ∧ (hdT e ts).v ≤ hi then (1, M) else (0, si (si M 44 11 (nI (if (hdT e ts).k = 2 then 2 else 1))) 44 12 (nI (hdT e ts).p))) := by
  have t := h.tf hf
  have hk := t.f_k
  have hnx := t.f_n
  have e43 : j_X2_isNumber_43 n M = some (0, si (si M 44 11 (nI 2)) 44 12 (nI (hdT e ts).p)) := by
    unfold j_X2_isNumber_43
    rw [show (2 : Int32) = nI 2 from rfl, cFail (Nat.zero_le n) h 2]
    simp only [bd]
    rw [ck_pos (Or.inl trivial)]
  unfold f_X2_isNumber
  rw [h.2.t_k, h.2.t_n, h.2.t_p, nI_sub hnx.2, e43]
  by_cases c2 : (hdT e ts).k = 2
  · have hv := t.f_2 c2
    rw [if_pos (by rw [c2]; rfl), h.2.t_d c2]
    simp only [c2, if_true]
    by_cases c4 : (hdT e ts).nx - (hdT e ts).p ≤ 4
    · rw [if_neg (show ¬ (4 : Int32) < nI _ from nI_nlt (b := (hdT e ts).nx - (hdT e ts).p) (a := 4) c4 (by decide))]
      by_cases c5 : lo ≤ (hdT e ts).v
      · rw [if_neg (nI_nlt c5 (by omega))]
        by_cases c6 : (hdT e ts).v ≤ hi
        · rw [if_pos (nI_le c6 (by omega)), if_pos ⟨trivial, c4, c5, c6⟩]
        · rw [if_neg (nI_ge (by omega) (by omega)), if_neg (fun q => c6 q.2.2.2)]
      · rw [if_pos (nI_lt (by omega) (by omega)), if_neg (fun q => c5 q.2.2.1)]
    · rw [if_pos (show (4 : Int32) < nI _ from nI_lt (a := 4) (by omega) (by omega)), if_neg (fun q => c4 q.2.1)]
  · rw [if_neg (ne_2 c2 (by omega)), if_neg (fun q => c2 q.1), if_neg c2, show (1 : Int32) = nI 1 from rfl, cFail (Nat.zero_le n) h 1]
    simp only [bd]
    rw [ck_pos (Or.inl trivial)]
/-- one code, and on -/
theorem good_one {o : Op} {l : Nat} (he : e ≤ 700) (hf : ∀ q, f q < 256) (hn : 800 < n) (hj : j = 46 ∨ j = 53) (hr : r < 3) (h : CXt f e j w ts M) (hk : ¬ (hdT e ts).k = 0) (hs : Sim r e l l d ts [o] ts.tail) (hw : Wf r l d [o]) :
    ∃ M1, f_X6_write n j (nI r) (enc1 o) M = some M1 ∧ CR f e j r l d w ts M (j_X2_readPart_114 n rec M1) := by
  have t := (h.q_s.tf hf).f_z hk
  have hp := h.q_p
  have pr := h.q_s.pr
  obtain ⟨T, ts', rfl⟩ := h.q_s.ne hk
  obtain ⟨M1, w', a1, a2, a3, a4, a5, a6, a7⟩ := cWr (f := f) (e := e) (n := n) hj hr (by omega) h.q_j h.q_w (enc1 o)
  obtain ⟨b1, b2, b3⟩ := a5 (by omega)
  obtain ⟨M2, c1, c2, c3⟩ := cGoS he hf hn (a7 _ h.q_s)
  refine ⟨M1, a1, Or.inl ⟨M2, [o], ts', ?_, ⟨⟨c2, ?_, ?_, ?_⟩, ⟨?_, trivial⟩, ?_, ?_, ?_, ?_⟩, hw, hs⟩⟩
  · unfold j_X2_readPart_114
    rw [c1]
    rfl
  · rw [c3 _ _ (by unfold VL; omega), a6]
    exact h.q_j
  · rw [c3 _ _ (by unfold VL; omega), a3, b1]
    rfl
  · show w + 1 ≤ _
    have pr' : T.nx ≤ (hdT e ts').p := pr
    have t' : T.p < T.nx := t.2
    have hp' : w ≤ T.p := hp
    omega
  · rw [c3 _ _ (by unfold VL; omega)]
    exact b2
  · exact a4.tr (c3.mono (fun t k h => h.ve))
  · rw [c3 _ _ (by unfold VL; omega), b3]
    rfl
  · show T.p + 1 ≤ _
    have pr' : T.nx ≤ (hdT e ts').p := pr
    have t' : T.p < T.nx := t.2
    omega
  · simp
theorem cPart (he : e ≤ 700) (hf : ∀ q, f q < 256) (hn : 800 < n) (hj : j = 46 ∨ j = 53) (hr : r < 3) (hd : d ≤ 5) (hrec : RecOK f e j r d rec) (h : CXt f e j w ts M) : CR f e j r 7 d w ts M (f_X2_readPart n rec (nI r) (nI d) M) := by
  have t := h.q_s.tf hf
  have hk4 := t.f_k
  have hpe := t.f_p
  have hwp := h.q_p
  have zj : (nI j).toNatClampNeg = j := nI_clamp (by omega)
  unfold f_X2_readPart
  rw [show (40 : Int32) = nI 40 from rfl, cIsSign hf h.q_s (by decide)]
  simp only [bd]
  by_cases c40 : (hdT e ts).k = 3 ∧ (hdT e ts).v = 40
  · rw [if_pos c40, if_neg (by decide), nI_1]
    obtain ⟨T, ts1, rfl⟩ := h.q_s.ne (by omega)
    obtain ⟨M1, a1, a2, a3⟩ := h.go he hf hn hj
    have a3' : kq (VE j r w) M M1 := a3.mono (fun t k h => h.ve)
    have pr : T.nx ≤ (hdT e ts1).p := h.q_s.pr
    have hT : T.p < T.nx := (t.f_z (by omega)).2
    have hT' : (hdT e (T :: ts1)).p = T.p := rfl
    rw [a1]
    simp only []
    by_cases c5 : d < 5
    · rcases hrec.1 c5 ts1 w M1 a2 with ⟨M2, O, ts2, b1, b2, b3, b4⟩ | ⟨M2, k, p, b1, b2, b3⟩
      · rw [b1]
        simp only []
        rw [if_neg (by decide), show (41 : Int32) = nI 41 from rfl, cIsSign hf b2.g_x.q_s (by decide)]
        simp only []
        by_cases c41 : (hdT e ts2).k = 3 ∧ (hdT e ts2).v = 41
        · rw [if_pos c41, if_neg (by decide)]
          obtain ⟨T2, ts3, rfl⟩ := b2.g_x.q_s.ne (by omega)
          obtain ⟨M3, c1, c2, c3⟩ := b2.g_x.go he hf hn hj
          have pr2 : T2.nx ≤ (hdT e ts3).p := b2.g_x.q_s.pr
          have hT2 := (b2.g_x.q_s.tf hf).f_n.2
          have hT2' : T2.p ≤ T2.nx := hT2
          have gp := b2.g_p
          have gl' := b2.g_l
          have hT2p : (hdT e (T2 :: ts3)).p = T2.p := rfl
          refine Or.inl ⟨M3, O, ts3, ?_, ⟨c2, ?_, ?_, ?_, ?_, ?_⟩, ?_, sim_par c40.1 c40.2 c5 b4 c41.1 c41.2⟩
          · unfold j_X2_readPart_114
            rw [c1]
            rfl
          · exact cod_kq (r := r) (w := w + O.length) b2.g_c (c3.mono (fun t k h => h.ve)) (Nat.le_refl _) (by omega)
          · exact (a3'.tr b2.g_k).tr (c3.mono (fun t k h => h.ve))
          · rw [c3 _ _ (by unfold VL; omega)]
            exact b2.g_t
          · omega
          · simp at gl' ⊢
            omega
          · refine ⟨b3.1, fun q rest h1 h2 => b3.2 q rest ?_ h2⟩
            unfold nd at *
            simp at *
            omega
        · rw [if_neg c41, if_pos rfl, show (1 : Int32) = nI 1 from rfl, cFail (Nat.zero_le n) b2.g_x.q_s 1]
          simp only []
          rw [ck_pos (Or.inl trivial)]
          have hh := b2.g_x.q_p
          have hh2 := (b2.g_x.q_s.tf hf).f_p
          exact Or.inr ⟨_, 1, (hdT e ts2).p, rfl, bad_f he hf hj b2.g_x.q_s b2.g_x.q_w (by omega) (by omega) ((a3'.tr b2.g_k).mono (fun t k h => h.mono (Nat.zero_le _))), flt_par2 c40.1 c40.2 c5 b4 c41⟩
      · rw [b1]
        simp only []
        rw [if_pos trivial]
        exact Or.inr ⟨M2, k, p, rfl, ⟨b2.b_f, b2.b_p, (a3'.mono (fun t k h => Or.inl (h.mono (Nat.zero_le _)))).tr b2.b_k, b2.b_w, b2.b_b⟩, flt_par c40.1 c40.2 c5 b3⟩
    · rw [hrec.2 (by omega) ts1 w M1 a2]
      simp only []
      rw [if_pos trivial]
      have hh := a2.q_p
      have hh2 := (a2.q_s.tf hf).f_p
      have hdp : 1 ≤ dpK (hdT e ts1) ∧ dpK (hdT e ts1) ≤ 5 := by unfold dpK; split <;> decide
      exact Or.inr ⟨_, dpK (hdT e ts1), (hdT e ts1).p, rfl, bad_f he hf hj a2.q_s a2.q_w (by omega) hdp (a3'.mono (fun t k h => h.mono (Nat.zero_le _))), flt_par5 c40.1 c40.2 (by omega)⟩
  · rw [if_neg c40, if_pos rfl, h.q_s.2.t_k]
    by_cases c1 : (hdT e ts).k = 1
    · obtain ⟨T, ts1, rfl⟩ := h.q_s.ne (by omega)
      have hv := t.f_1 c1
      have z : (nI (hdT e (T :: ts1)).v).toNatClampNeg = (hdT e (T :: ts1)).v := nI_clamp (by omega)
      rw [if_pos (by rw [c1]; rfl), h.q_s.2.t_w c1]
      simp only [z, cIsVal]
      rw [ck_pos (by omega), ivP_is _ (by omega) r hr]
      by_cases cv : vlb r (hdT e (T :: ts1)).v = true
      · obtain ⟨v1, v2, v3⟩ := vlb_is (by omega) cv
        rw [if_pos cv, if_neg (by decide), h.q_j, h.q_s.2.t_w c1]
        simp only [z, zj, v1]
        rw [ck_pos hj, ck_pos (by omega)]
        obtain ⟨M1, b1, b2⟩ := good_one (rec := rec) (l := 7) (d := d) he hf hn hj hr h (by omega) (sim_val c1 cv) ⟨⟨v3, trivial⟩, fun q rest h1 h2 => ⟨v2, by unfold nd at h1; simp at h1; omega, h2⟩⟩
        rw [show f_X6_write n j (nI r) (enc1 (.inr (.inl ((hdT e (T :: ts1)).v - 12)))) M = some M1 from b1]
        exact b2
      · rw [if_neg cv, if_pos rfl, show (3 : Int32) = nI 3 from rfl, cFail (Nat.zero_le n) h.q_s 3]
        simp only []
        rw [ck_pos (Or.inl trivial)]
        exact Or.inr ⟨_, 3, _, rfl, bad_f he hf hj h.q_s h.q_w (by omega) (by omega) kq.rf, flt_val c1 cv⟩
    · rw [if_neg (ne_1 c1 (by omega)), show (0 : Int32) = nI 0 from rfl, show (9999 : Int32) = nI 9999 from rfl, cIsNumber hf h.q_s he (Nat.le_refl _) (Nat.zero_le _)]
      simp only []
      by_cases cn : (hdT e ts).k = 2 ∧ (hdT e ts).nx - (hdT e ts).p ≤ 4 ∧ 0 ≤ (hdT e ts).v ∧ (hdT e ts).v ≤ 9999
      · rw [if_pos cn]
        simp only []
        obtain ⟨T, ts1, rfl⟩ := h.q_s.ne (by omega)
        rw [if_neg (by decide), h.q_j, h.q_s.2.t_d cn.1]
        simp only [zj]
        rw [ck_pos hj]
        obtain ⟨M1, b1, b2⟩ := good_one (rec := rec) (o := .inl T.v) (l := 7) (d := d) he hf hn hj hr h (by omega) (sim_num cn.1 (by have := cn.2.1; exact Nat.not_lt.mpr this)) ⟨trivial, fun q rest h1 h2 => ⟨cn.2.2.2, by unfold nd at h1; simp at h1; omega, h2⟩⟩
        rw [show nI (hdT e (T :: ts1)).v = enc1 (.inl T.v) from rfl, b1]
        exact b2
      · rw [if_neg cn]
        simp only []
        rw [if_pos (by rfl)]
        by_cases c2 : (hdT e ts).k = 2
        · rw [if_pos c2]
          have hv := t.f_2 c2
          obtain ⟨T, ts1, rfl⟩ := h.q_s.ne (by omega)
          exact Or.inr ⟨_, 2, _, rfl, bad_f he hf hj h.q_s h.q_w (by omega) (by omega) kq.rf, flt_num c2 (Nat.lt_of_not_le (fun q => cn ⟨c2, q, Nat.zero_le _, hv⟩))⟩
        · rw [if_neg c2]
          exact Or.inr ⟨_, 1, _, rfl, bad_f he hf hj h.q_s h.q_w (by omega) (by omega) kq.rf, flt_no c1 c2 c40⟩
end P
