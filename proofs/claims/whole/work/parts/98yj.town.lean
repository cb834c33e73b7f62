/-! The call town: both answer alike. -/
def Ab.failT (A : Ab) (x : Int32) : Ab := (A.wd, A.tw, A.now, A.acts, A.seen, A.img, bump A.rf 0, [], x)
def Ab.newT (A : Ab) (τ : Td) : Ab := (τ.wd, τ.t, τ.s, [], [], none, A.rf, [], -1)
theorem nilG {α : Type} {k : Nat} {b : α} (h : ([] : List α)[k]? = some b) : False := by simp at h
theorem nilM {α : Type} {b : α} (h : b ∈ ([] : List α)) : False := by simp at h
section Q
variable {n : Nat} {A : Ab} {M M2 M' : Mem}
def VFc (j t k : Nat) : Prop := VTc j t k ∨ (t = 0 ∧ k = 13) ∨ (t = 1 ∧ k = 0)
theorem rc_failT {jc : Nat} {x : Int32} (hjc : jc = 46 ∨ jc = 53) (h : RC A M) (h12 : gi M 0 12 = nI jc) (h2 : gi M 44 2 = nI (99 - jc)) (hT : TwC A.tw jc M) (e : kq (VFc (99 - jc)) M M') (h3 : gi M' 44 3 = 0) (h1 : gi M' 1 0 = A.rf 0 + 1) (hf : gi M' 0 13 = x) : RC (A.failT x) M' := by
  refine ⟨⟨jc, hjc, (e _ _ (by unfold VFc VTc; omega)).trans h12, (e _ _ (by unfold VFc VTc; omega)).trans h2, hT.kq e (fun t k h5 h6 => by unfold VFc VTc; omega)⟩, h.r_n.kq e (fun t k h1 h2 => by unfold VFc VTc; omega), h.r_a.kq e (fun t k h1 h2 => by unfold VFc VTc; omega), h.r_s.kq e (fun t k h1 h2 => by unfold VFc VTc; omega), ?_, fun k hk => ?_, h3, fun k b hk => (nilG hk).elim, hf⟩
  · have hi := h.r_i
    show ImC A.wd M' A.img
    cases hA : A.img with
    | none =>
      rw [hA] at hi
      exact (e _ _ (by unfold VFc VTc; omega)).trans hi
    | some p =>
      obtain ⟨s, l, q⟩ := p
      rw [hA] at hi
      obtain ⟨h1, h2, h3, h4⟩ := hi
      exact ⟨(e _ _ (by unfold VFc VTc; omega)).trans h1, h2.kq e (fun t k h1 h2 => by unfold VFc VTc; omega), h3.kq e (fun t k h1 h2 => by unfold VFc VTc; omega), h4.kq e (fun t k h1 h2 => by unfold VFc VTc; omega)⟩
  · show gi M' 1 k = bump A.rf 0 k
    unfold bump
    by_cases c : k = 0
    · rw [if_pos c, c]
      exact h1
    · rw [if_neg c, e _ _ (by unfold VFc VTc; omega)]
      exact h.r_r k hk
def VFm (t k : Nat) : Prop := VTm t k ∨ (t = 4 ∧ k = 0)
theorem rm_failT {x : Int32} (g : A.Good) (h : RM A M2) (e : kq VFm M2 M') (h3 : gi M' 0 11 = 0) (h1 : gi M' 4 0 = A.rf 0 + 1) (hf : gi M' 0 13 = x) : RM (A.failT x) M' := by
  refine ⟨h.s_n.kq g.g_n e (fun k h1 h2 => by unfold VFm VTm; omega), h.s_t.kq e (fun k h1 h2 => by unfold VFm VTm; omega) (fun k => by unfold VFm VTm; omega) (fun k => by unfold VFm VTm; omega), h.s_a.kq g.g_a e (by unfold VFm VTm; omega) (fun k => by unfold VFm VTm; omega), h.s_s.kq e (by unfold VFm VTm; omega) (fun k => by unfold VFm VTm; omega), ?_, fun k hk => ?_, h3, fun k b hk => (nilG hk).elim, hf, (e _ _ (by unfold VFm VTm; omega)).trans h.s_w⟩
  · have hi := h.s_i
    have gi' := g.g_i
    show ImM A.wd M' A.img
    cases hA : A.img with
    | none =>
      rw [hA] at hi
      exact (e _ _ (by unfold VFm VTm; omega)).trans hi
    | some p =>
      obtain ⟨s, l, q⟩ := p
      rw [hA] at hi gi'
      obtain ⟨h1, h2, h3, h4⟩ := hi
      obtain ⟨g1, g2, g3, g4⟩ := gi'
      exact ⟨(e _ _ (by unfold VFm VTm; omega)).trans h1, h2.kq g1 e (fun k _ _ => by unfold VFm VTm; omega), h3.kq g3 e (by unfold VFm VTm; omega) (fun k => by unfold VFm VTm; omega), h4.kq e (by unfold VFm VTm; omega) (fun k => by unfold VFm VTm; omega)⟩
  · show gi M' 4 k = bump A.rf 0 k
    unfold bump
    by_cases c : k = 0
    · rw [if_pos c, c]
      exact h1
    · rw [if_neg c, e _ _ (by unfold VFm VTm; omega)]
      exact h.s_r k hk
theorem failT_good {x : Int32} (g : A.Good) : (A.failT x).Good := ⟨g.g_t, g.g_n, g.g_d, g.g_a, g.g_s, g.g_i, Nat.zero_le _, fun b hb => (nilM hb).elim⟩
theorem newT_good {τ : Td} (hG : τ.s.Good τ.wd) (hT : τ.t.Good) (hd : τ.s.day ≤ 9999) : (A.newT τ).Good := ⟨hT, hG, hd, ⟨Nat.zero_le _, fun s hs => (nilM hs).elim⟩, ⟨Nat.zero_le _, fun s hs => (nilM hs).elim⟩, trivial, Nat.zero_le _, fun b hb => (nilM hb).elim⟩
theorem qTown (hn : 3000 < n) (g : A.Good) (hC : RC A M) (hM : RM A M2) {x : Int32} : QQ k2 (f_X8_town n x M) (f_X9_town n x M2) := by
  have hM' := hM.thr g 0
  have h0 := thr0 M2
  have hb7 := g.g_b
  have eno : j_X9_town_22 n x (si M2 0 0 0) = some (0, si (si M2 0 0 0) 0 0 1) := by
    unfold j_X9_town_22 j_X9_town_23
    rw [mRight_no h0 (by decide)]
    rfl
  unfold f_X8_town f_X9_town
  by_cases c0 : x < 0
  · rw [if_pos c0, if_pos c0, eno]
    exact qq_no g hC hM' k2_21 (by decide)
  · rw [if_neg c0, if_neg c0, hC.r_l, hM'.s_l]
    obtain ⟨e, he31, rfl⟩ := nI_of c0
    by_cases c1 : e ≤ A.tape.length
    · rw [if_pos (nI_le c1 (by omega)), if_neg (nI_nlt c1 (by omega))]
      have he : e ≤ 700 := by omega
      obtain ⟨f, hff⟩ : ∃ f : Nat → Nat, f = fun q => A.tape.getD q 0 := ⟨_, rfl⟩
      have hget : ∀ q, q < e → A.tape[q]? = some (f q) := by
        intro q hq
        rw [hff]
        show A.tape[q]? = some (A.tape.getD q 0)
        rw [List.getD_eq_getElem?_getD, List.getElem?_eq_getElem (by omega)]
        rfl
      have hf : ∀ q, f q < 256 := by
        intro q
        by_cases c : q < A.tape.length
        · rw [hff]
          show A.tape.getD q 0 < 256
          rw [List.getD_eq_getElem?_getD, List.getElem?_eq_getElem c]
          exact g.g_bb _ (List.getElem_mem c)
        · rw [hff]
          show A.tape.getD q 0 < 256
          rw [List.getD_eq_getElem?_getD, List.getElem?_eq_none (by omega)]
          decide
      obtain ⟨ts, hts⟩ := lx_ex f e (e - 0) 0 rfl (Nat.zero_le _)
      have hlen := lx_len ts 0 hts
      obtain ⟨jc, hjc, j1, j2, j3⟩ := hC.r_j
      have hj : 99 - jc = 46 ∨ 99 - jc = 53 := by omega
      obtain ⟨N, p1, p2, p3, p4⟩ := cBegin (n := n) he hf (by omega) hj hts j2 hC.r_l c1 hb7 (fun q hq => hC.r_b q _ (hget q hq))
      obtain ⟨N2, q1, q2, q3, q4⟩ := mBegin (n := n) (M := si M2 0 0 0) he hf (by omega) hts h0 (fun q hq => hM'.s_b q _ (hget q hq))
      rw [p1, q1]
      rcases bothL (n := n) he hf (by omega) hj ts.length ts τ0 0 0 0 n n N N2 (Nat.le_refl _) p2 q2 (by omega) (by omega) (by omega) with ⟨k, p, N', N2', x1, x2, x3, x4, x5, x6, x7⟩ | ⟨τ, w, s, N', N2', x1, x2, x3, x4, x5, x6⟩
      · rw [x1, x5]
        dsimp only [bd]
        rw [if_neg (nI_ne0 (by omega) (by omega)), x2]
        unfold j_X9_town_153
        rw [x6.bad]
        dsimp only [bd]
        rw [if_pos (show (0 : Int32) = 0 from rfl)]
        have z0 : (0 : Int32).toNatClampNeg = 0 := rfl
        have cC : kq (VTc (99 - jc)) M N' := p3.tr (x4.mono (fun t q hq => by unfold VK at hq; unfold VTc; omega))
        have cM : kq VTm (si M2 0 0 0) N2' := q3.tr (x7.mono (fun t q hq => by unfold VQ at hq; unfold VTm; omega))
        have t1 : gi (si N' 0 13 (nI p)) 1 0 = A.rf 0 := by
          rw [gi_si, if_neg (by omega), cC _ _ (by unfold VTc; omega)]
          exact hC.r_r 0 (by decide)
        have t2 : gi N2' 4 0 = A.rf 0 := by
          rw [cM _ _ (by unfold VTm; omega)]
          exact hM'.s_r 0 (by decide)
        rw [z0, t1, t2, gi_si, if_neg (by omega), x6.u_k]
        have rC : RC (A.failT (nI p)) (si (si N' 0 13 (nI p)) 1 0 (A.rf 0 + 1)) := rc_failT hjc hC j1 j2 j3 (((cC.mono (W := VFc (99 - jc)) (fun t q hq => Or.inl hq)).si (Or.inr (Or.inl ⟨rfl, rfl⟩)) _).si (Or.inr (Or.inr ⟨rfl, rfl⟩)) _) (by rw [gi_si, if_neg (by omega), gi_si, if_neg (by omega), x4 _ _ (by unfold VK; omega), p4]) (by rw [gi_si, if_pos ⟨rfl, rfl⟩]) (by rw [gi_si, if_neg (by omega), gi_si, if_pos ⟨rfl, rfl⟩])
        have rM : RM (A.failT (nI p)) (si N2' 4 0 (A.rf 0 + 1)) := rm_failT g hM' ((cM.mono (W := VFm) (fun t q hq => Or.inl hq)).si (Or.inr ⟨rfl, rfl⟩) _) (by rw [gi_si, if_neg (by omega), x7 _ _ (by unfold VQ; omega), q4]) (by rw [gi_si, if_pos ⟨rfl, rfl⟩]) (by rw [gi_si, if_neg (by omega)]; exact x6.u_p)
        refine ⟨0, nI k, _, nI k, _, rfl, rfl, ⟨_, failT_good g, rC, rM⟩, ?_, fun _ => rfl⟩
        rw [gi_si, if_neg (by omega), cM _ _ (by unfold VTm; omega), h0]
        exact k2_00
      · rw [x1, x4]
        dsimp only [bd]
        rw [if_pos (show (0 : Int32) = 0 from rfl)]
        obtain ⟨hG, hT⟩ := x2.c_G
        have hd := x2.c_d
        obtain ⟨O2, y1, y2, y3, y4, y5, y6, y7⟩ := mFinish (n := n) he (by omega) x5 hG hT
        rw [y1]
        have cC : kq (VTc (99 - jc)) M N' := p3.tr (x3.mono (fun t q hq => by unfold VK at hq; unfold VTc; omega))
        have cM : kq VTm (si M2 0 0 0) N2' := q3.tr (x6.mono (fun t q hq => by unfold VQ at hq; unfold VTm; omega))
        have u12 : gi (si N' 0 13 (-1 : Int32)) 0 12 = nI jc := by rw [gi_si, if_neg (by omega), cC _ _ (by unfold VTc; omega), j1]
        have u2 : gi (si N' 0 13 (-1 : Int32)) 44 2 = nI (99 - jc) := by rw [gi_si, if_neg (by omega), cC _ _ (by unfold VTc; omega), j2]
        have zc : (nI jc).toNatClampNeg = jc := nI_clamp (by omega)
        have zj : (nI (99 - jc)).toNatClampNeg = 99 - jc := nI_clamp (by omega)
        rw [u12]
        simp only [zc]
        rw [ck_pos (by unfold isTwB; omega)]
        unfold f_X2_swapTown
        rw [u2]
        simp only [zj]
        rw [ck_pos (by unfold isTwB; omega)]
        dsimp only []
        rw [ck_pos (by unfold isTwB; omega), cCopy_is]
        dsimp only []
        unfold f_X1_clear f_X3_clear
        dsimp only []
        obtain ⟨P, hP⟩ : ∃ P, P = si (si (si N' 0 13 (-1 : Int32)) 44 2 (nI jc)) 0 12 (nI (99 - jc)) := ⟨_, rfl⟩
        rw [← hP]
        obtain ⟨O, hO⟩ : ∃ O, O = si (si (si (si (cpS 4 28 P) 34 1 (0 : Int32)) 34 2 (0 : Int32)) 38 2 (0 : Int32)) 0 14 (0 : Int32) := ⟨_, rfl⟩
        rw [← hO]
        have kP : kq (fun t k => (t = 0 ∧ (k = 12 ∨ k = 13)) ∨ (t = 44 ∧ k = 2)) N' P := by
          rw [hP]
          exact ((kq.rf.si (by omega) _).si (by omega) _).si (by omega) _
        have kcp : kq (fun t _ => 4 ≤ t ∧ t ≤ 8) P (cpS 4 28 P) := cpS_same.kq (fun t k ht => by omega)
        have kO : kq (fun t k => (t = 34 ∧ (k = 1 ∨ k = 2)) ∨ (t = 38 ∧ k = 2) ∨ (t = 0 ∧ k = 14)) (cpS 4 28 P) O := by
          rw [hO]
          exact (((kq.rf.si (by omega) _).si (by omega) _).si (by omega) _).si (by omega) _
        have sP : StC τ.wd τ.s 28 P := x2.c_s.kq kP (fun t k _ _ => by omega)
        have s4 : StC τ.wd τ.s 4 O := (cpS_st (i := 4) (i1 := 28) (by omega) hG sP).kq kO (fun t k _ _ => by omega)
        have kN : kq (fun t k => (4 ≤ t ∧ t ≤ 8) ∨ (t = 0 ∧ (k = 12 ∨ k = 13 ∨ k = 14)) ∨ (t = 44 ∧ k = 2) ∨ t = 34 ∨ t = 38) N' O := ((kP.mono (fun t k q => by omega)).tr (kcp.mono (fun t k q => by omega))).tr (kO.mono (fun t k q => by omega))
        have hq0 := x2.c_x.q_p
        have hw7 : w ≤ 700 := by
          have : (hdT e ([] : List Tok)).p = e := rfl
          omega
        have hTC : TwC τ.t (99 - jc) O := by
          refine ⟨(kN _ _ (by omega)).trans x2.c_8, (kN _ _ (by omega)).trans x2.c_9, (kN _ _ (by omega)).trans x2.c_7, fun i hi => (kN _ _ (by omega)).trans (x2.c_i i hi), fun r hr => ?_⟩
          have hR := (x2.c_r r hr).kq kN (Nat.le_refl _) (by omega) (by omega) (fun q _ => by omega)
          cases hru : τ.t.rule r with
          | none =>
            rw [hru] at hR
            exact hR
          | some pp =>
            rw [hru] at hR
            obtain ⟨f0, v1, v2, v3, v4⟩ := hR
            exact ⟨f0, v1, v2, by omega, v4⟩
        have o12 : gi O 0 12 = nI (99 - jc) := by
          rw [kO _ _ (by omega), kcp _ _ (by omega), hP, gi_si, if_pos ⟨rfl, rfl⟩]
        have o2 : gi O 44 2 = nI (99 - (99 - jc)) := by
          rw [kO _ _ (by omega), kcp _ _ (by omega), hP, gi_si, if_neg (by omega), gi_si, if_pos ⟨rfl, rfl⟩]
          congr 1
          omega
        have o13 : gi O 0 13 = -1 := by
          rw [kO _ _ (by omega), kcp _ _ (by omega), hP, gi_si, if_neg (by omega), gi_si, if_neg (by omega), gi_si, if_pos ⟨rfl, rfl⟩]
        have rC : RC (A.newT τ) O := by
          refine ⟨⟨99 - jc, hj, o12, o2, hTC⟩, s4, ⟨0, by decide, by rw [hO]; simp [gi_si]; rfl, by rw [hO]; simp [gi_si]; rfl, fun k s hk => (nilG hk).elim⟩, ⟨by rw [hO]; simp [gi_si]; rfl, fun k s hk => (nilG hk).elim⟩, by show gi O 0 14 = 0; rw [hO]; simp [gi_si], fun k hk => ?_, ?_, fun k b hk => (nilG hk).elim, o13⟩
          · show gi O 1 k = A.rf k
            rw [kN _ _ (by omega), cC _ _ (by unfold VTc; omega)]
            exact hC.r_r k hk
          · show gi O 44 3 = nI 0
            rw [kN _ _ (by omega), x3 _ _ (by unfold VK; omega), p4]
            rfl
        have rM : RM (A.newT τ) O2 := by
          refine ⟨y2, y3, ⟨y4, fun k s hk => (nilG hk).elim⟩, ⟨y5, fun k s hk => (nilG hk).elim⟩, y6, fun k hk => ?_, ?_, fun k b hk => (nilG hk).elim, ?_, ?_⟩
          · show gi O2 4 k = A.rf k
            rw [y7 _ _ (by unfold VTe; omega), cM _ _ (by unfold VTm; omega)]
            exact hM'.s_r k hk
          · show gi O2 0 11 = nI 0
            rw [y7 _ _ (by unfold VTe; omega), x6 _ _ (by unfold VQ; omega), q4]
            rfl
          · show gi O2 0 13 = -1
            rw [y7 _ _ (by unfold VTe; omega)]
            exact x5.d_3
          · rw [y7 _ _ (by unfold VTe; omega), cM _ _ (by unfold VTm; omega)]
            exact hM'.s_w
        refine ⟨0, 0, O, 0, O2, rfl, rfl, ⟨_, newT_good hG hT hd, rC, rM⟩, ?_, fun _ => rfl⟩
        rw [y7 _ _ (by unfold VTe; omega), cM _ _ (by unfold VTm; omega), h0]
        exact k2_00
    · rw [if_neg (nI_ge (by omega) (by omega)), if_pos (nI_lt (by omega) (by omega)), eno]
      exact qq_no g hC hM' k2_21 (by decide)
end Q
