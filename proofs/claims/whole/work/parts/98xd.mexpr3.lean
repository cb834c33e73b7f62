/-! The reference reads a rule: the loop. -/
section Y
variable {f : Nat → Nat} {e s r n : Nat} {C : List Op} {W : List Nat} {D : List Bool} {ts : List Tok} {M : Mem}
def m3X (l d : Nat) (M : Mem) : Mem := if l ≤ 2 then si M 11 d 0 else if l = 4 then si M 11 d 1 else M
theorem opC_le (T : Tok) : opC T ≤ 8 := by
  unfold opC
  repeat' split
  all_goals omega
theorem RP.m3 {b : Bool} {l : Nat} (h : RP f e s r C W (b :: D) ts M) : RP f e s r C W (nxB l b :: D) ts (m3X l (D.length + 1) M) ∧ kq (VXr s) M (m3X l (D.length + 1) M) := by
  have hset : ∀ (x : Int32) (b' : Bool), x = (if b' then (1 : Int32) else 0) → RP f e s r C W (b' :: D) ts (si M 11 (D.length + 1) x) ∧ kq (VXr s) M (si M 11 (D.length + 1) x) := by
    intro x b' hx
    have g : ∀ t k, ¬ (t = 11 ∧ k = D.length + 1) → gi (si M 11 (D.length + 1) x) t k = gi M t k := fun t k h1 => by rw [gi_si, if_neg h1]
    exact ⟨⟨h.a_t.st (by omega) (by omega) _, (g _ _ (by omega)).trans h.a_c, cop_congr C s (fun k _ _ => g _ _ (by omega)) h.a_o, (g _ _ (by omega)).trans h.a_w, wts_congr W (fun k _ => g _ _ (by omega)) h.a_v, (g _ _ (by omega)).trans h.a_d, ⟨by rw [gi_si, if_pos ⟨rfl, rfl⟩, hx], tst_congr D (fun k hk => g _ _ (by omega)) h.a_e.2⟩, (g _ _ (by omega)).trans h.a_1, (g _ _ (by omega)).trans h.a_2, (g _ _ (by omega)).trans h.a_f, (g _ _ (by omega)).trans h.a_g⟩, kq.rf.si (by unfold VXr; omega) _⟩
  unfold m3X nxB
  by_cases c1 : l ≤ 2
  · rw [if_pos c1, if_pos c1]
    exact hset 0 false rfl
  · rw [if_neg c1, if_neg c1]
    by_cases c2 : l = 4
    · rw [if_pos c2, if_pos c2]
      exact hset 1 true rfl
    · rw [if_neg c2, if_neg c2]
      exact ⟨h, kq.rf⟩
def OC (f : Nat → Nat) (e s r : Nat) (ts : List Tok) (R : Res) (M5 : Mem) : Prop := (∃ C' W' D' ts', RS f e s r C' W' D' ts' M5 ∧ R = amR r e ts' 0 0 C' W' D' ∧ ts'.length < ts.length) ∨ (∃ k p, FS s k p M5 ∧ R = .inl (k, p))
theorem mOpc (he : e ≤ 700) (hf : ∀ q, f q < 256) (hn : 800 < n) {T : Tok} {b : Bool} {l : Nat} (h : RS f e s r C W (b :: D) (T :: ts) M) (hl : opS b T = l) (h0 : ¬ l = 0) (hlen : ts.length ≤ 700) : ∃ M1 M2 M4 M5, f_X9_drops n (nI l) M = some M1 ∧ SRt f e (T :: ts) M1 ∧ f_X9_waitsFor n (nI (wc (opC T))) M1 = some M2 ∧ gi M2 0 36 = nI (D.length + 1) ∧ f_X9_goes n (m3X l (D.length + 1) M2) = some M4 ∧ f_X9_operand n (if l ≤ 2 then 1 else 0) M4 = some M5 ∧ kq (VXr s) M M5 ∧ OC f e s r (T :: ts) (amR r e (T :: ts) 0 0 C W (b :: D)) M5 := by
  obtain ⟨b1, b2, b3⟩ := h.p hf he
  have hr := h.1
  have hl7 := opS_le b T
  have hk : ¬ T.k = 0 := by
    intro q
    unfold opS at hl
    rw [if_neg (by omega), if_neg (by omega)] at hl
    exact h0 hl.symm
  obtain ⟨b4, b5⟩ := b3 hk
  have hx : T.p + 1 ≤ (hdT e ts).p := hr.a_t.nxt hf hk
  have hb1 : s + len2 C + W.length + 1 ≤ 2 * T.p := h.2.1.1
  have hb2 : W.length ≤ T.p := h.2.1.2
  have tl := tw_len l W
  have tc := tw_cnt (l := l) (by omega) W
  have oc := opC_le T
  obtain ⟨M1, a1, a2, a3⟩ := hr.drops (n := n) hn (l := l) (x := nI l) (Or.inl rfl) (by omega) (by omega) b2
  obtain ⟨M2, p1, p2, p3⟩ := a2.wait (n := n) (o := opC T) (x := nI (wc (opC T))) (by omega) (by omega) rfl
  obtain ⟨q1, q2⟩ := p2.m3 (l := l)
  obtain ⟨M4, g1, g2, g3⟩ := q1.go he hf hn
  have g2' : RP f e s r (C ++ (twW l W).map act) (opC T :: dwW l W) (nxB l b :: D) ts M4 := g2
  have hl2 : len2 (C ++ (twW l W).map act) = len2 C + (twW l W).length := by rw [len2_app, len2_act]
  have hl3 : (opC T :: dwW l W).length = (dwW l W).length + 1 := rfl
  have hRS : RS f e s r (C ++ (twW l W).map act) (opC T :: dwW l W) (nxB l b :: D) ts M4 := by
    refine ⟨g2', ⟨by omega, by omega⟩, ?_, h.2.2.2⟩
    rw [List.count_cons_of_ne (by omega), tc]
    exact h.2.2.1
  obtain ⟨M5, o1, o2, o3⟩ := mOperand (n := n) he hf hn (m := if l ≤ 2 then 2 else 1) (x2 := if l ≤ 2 then 1 else 0) hRS (by
    by_cases c : l ≤ 2
    · rw [if_pos c, if_pos c]
      exact Or.inl ⟨rfl, rfl⟩
    · rw [if_neg c, if_neg c]
      exact Or.inr ⟨rfl, rfl⟩) hlen
  refine ⟨M1, M2, M4, M5, a1, a2.a_t, p1, p2.a_d, g1, o1, (((a3.tr p3).tr q2).tr (g3.mono (fun _ _ q => q.x))).tr o2, ?_⟩
  rw [am_0, hl, if_neg h0]
  rcases o3 with ⟨C', W', D', ts', x1, x2, x3⟩ | z
  · exact Or.inl ⟨C', W', D', ts', x1, x2, Nat.lt_succ_of_lt x3⟩
  · exact Or.inr z
theorem mClose (he : e ≤ 700) (hf : ∀ q, f q < 256) (hn : 800 < n) {T : Tok} {b : Bool} (h : RS f e s r C W (b :: D) (T :: ts) M) (hk : T.k = 3) (hv : T.v = 41) (h9 : 9 ∈ W) : ∃ M5, f_X9_closes n M = some M5 ∧ kq (VXr s) M M5 ∧ RS f e s r (C ++ (twW 1 W).map act) (dwW 1 W).tail D ts M5 := by
  obtain ⟨b1, b2, b3⟩ := h.p hf he
  have hr := h.1
  obtain ⟨b4, b5⟩ := b3 (show ¬ T.k = 0 by omega)
  have hx : T.p + 1 ≤ (hdT e ts).p := hr.a_t.nxt hf (show ¬ T.k = 0 by omega)
  have hb1 : s + len2 C + W.length + 1 ≤ 2 * T.p := h.2.1.1
  have hb2 : W.length ≤ T.p := h.2.1.2
  have tl := tw_len 1 W
  have tc := tw_cnt (l := 1) (by omega) W
  obtain ⟨W', hW'⟩ := dw_9 W (wts_le W hr.a_v) h9
  obtain ⟨M1, a1, a2, a3⟩ := hr.drops (n := n) hn (l := 1) (x := 0) (Or.inr ⟨rfl, rfl⟩) (by decide) (by omega) b2
  rw [hW'] at a2 tl tc ⊢
  have hl2 : len2 (C ++ (twW 1 W).map act) = len2 C + (twW 1 W).length := by rw [len2_app, len2_act]
  rw [List.length_cons] at tl
  rw [List.count_cons_self] at tc
  have hcd : W.count 9 + 1 = D.length + 1 := h.2.2.1
  have h6 : D.length + 1 ≤ 6 := h.2.2.2
  have s1 : gi M1 0 35 - (1 : Int32) = nI W'.length := by
    rw [a2.a_w, List.length_cons]
    exact nI_sub (a := W'.length + 1) (b := 1) (by omega)
  obtain ⟨M2, hM2⟩ : ∃ M2, M2 = si (si M1 0 35 (nI W'.length)) 0 36 (nI D.length) := ⟨_, rfl⟩
  have s2 : gi (si M1 0 35 (nI W'.length)) 0 36 - (1 : Int32) = nI D.length := by
    rw [gi_si, if_neg (by omega), a2.a_d, List.length_cons]
    exact nI_sub (a := D.length + 1) (b := 1) (by omega)
  have g : ∀ t k, ¬ (t = 0 ∧ (k = 35 ∨ k = 36)) → gi M2 t k = gi M1 t k := fun t k h1 => by rw [hM2, gi_si, if_neg (by omega), gi_si, if_neg (by omega)]
  have r2 : RP f e s r (C ++ (twW 1 W).map act) W' D (T :: ts) M2 := ⟨by rw [hM2]; exact (a2.a_t.st (by omega) (by omega) _).st (by omega) (by omega) _, (g _ _ (by omega)).trans a2.a_c, cop_congr _ s (fun k _ _ => g _ _ (by omega)) a2.a_o, by rw [hM2, gi_si, if_neg (by omega), gi_si, if_pos ⟨rfl, rfl⟩], wts_congr W' (fun k _ => g _ _ (by omega)) a2.a_v.2.2, by rw [hM2, gi_si, if_pos ⟨rfl, rfl⟩], tst_congr D (fun k hk => g _ _ (by omega)) a2.a_e.2, (g _ _ (by omega)).trans a2.a_1, (g _ _ (by omega)).trans a2.a_2, (g _ _ (by omega)).trans a2.a_f, (g _ _ (by omega)).trans a2.a_g⟩
  obtain ⟨M4, g1, g2, g3⟩ := r2.go he hf hn
  unfold f_X9_closes
  rw [a1]
  dsimp only [bd]
  rw [s1, s2, ← hM2, g1]
  refine ⟨M4, rfl, (a3.tr (by rw [hM2]; exact (kq.rf.si (by unfold VXr; omega) _).si (by unfold VXr; omega) _)).tr (g3.mono (fun _ _ q => q.x)), ⟨g2, ⟨?_, ?_⟩, ?_, ?_⟩⟩
  · show s + len2 (C ++ (twW 1 W).map act) + W'.length + 1 ≤ 2 * (hdT e ts).p
    omega
  · show W'.length ≤ (hdT e ts).p
    omega
  · show W'.count 9 + 1 = D.length
    omega
  · omega
theorem am_end {b : Bool} (h0 : opS b (hdT e ts) = 0) (h1 : ¬ ((hdT e ts).k = 3 ∧ (hdT e ts).v = 41 ∧ 9 ∈ W)) : amR r e ts 0 0 C W (b :: D) = if (b :: D).length ≤ 1 then .inr (C ++ W.map act, ts) else .inl (1, (hdT e ts).p) := by
  cases ts with
  | nil =>
    rw [amR]
    by_cases c : (b :: D).length ≤ 1
    · rw [if_pos ⟨rfl, c⟩, if_pos c]
    · rw [if_neg (fun q => c q.2), if_neg c]
      rfl
  | cons T ts =>
    have h0' : opS b T = 0 := h0
    rw [amR, if_pos rfl, show (b :: D).headD false = b from rfl, if_pos h0', if_neg (show ¬ (T.k = 3 ∧ T.v = 41 ∧ 9 ∈ W) from h1)]
    rfl
theorem mExprL (he : e ≤ 700) (hf : ∀ q, f q < 256) (hn : 800 < n) : ∀ (m : Nat) (ts : List Tok) (C : List Op) (W : List Nat) (D : List Bool) (N : Nat) (M : Mem), ts.length ≤ m → ts.length ≤ 700 → ts.length + 3 ≤ N → RS f e s r C W D ts M → EU f e s (amR r e ts 0 0 C W D) M (gl (b_X9_expression_39 n) N ((1 : Int32), M)) := by
  intro m
  induction m with
  | zero =>
    intro ts C W D N M hm h7 hN h
    obtain ⟨N, rfl⟩ : ∃ k, N = k + 2 := ⟨N - 2, by omega⟩
    cases ts with
    | cons T ts => exact absurd hm (by simp)
    | nil =>
      obtain ⟨b, D', rfl⟩ : ∃ b D', D = b :: D' := by
        cases D with
        | nil => exact absurd h.2.2.1 (by simp)
        | cons b D' => exact ⟨b, D', rfl⟩
      have hw := (h.p hf he).2.1
      have k0 : (hdT e ([] : List Tok)).k = 0 := rfl
      have e1 : b_X9_expression_39 n ((1 : Int32), M) = some (.inl ((0 : Int32), M)) := by
        rw [e39 he hf hn h.1, if_neg (by omega), if_neg (by omega), if_neg (by omega), e201 hf hn h.1 hw, if_neg (by omega), if_neg (by omega), if_neg (by omega)]
        rfl
      rw [gl_inl e1, am_end (by unfold opS; rw [if_neg (by omega), if_neg (by omega)]) (by omega)]
      exact mEnd he hf hn h
  | succ m ih =>
    intro ts C W D N M hm h7 hN h
    obtain ⟨N, rfl⟩ : ∃ k, N = k + 2 := ⟨N - 2, by omega⟩
    obtain ⟨b, D', rfl⟩ : ∃ b D', D = b :: D' := by
      cases D with
      | nil => exact absurd h.2.2.1 (by simp)
      | cons b D' => exact ⟨b, D', rfl⟩
    have hw := (h.p hf he).2.1
    have hr := h.1
    have hd6 : D'.length + 1 ≤ 6 := h.2.2.2
    have z36 : (nI (D'.length + 1)).toNatClampNeg = D'.length + 1 := nI_clamp (by omega)
    have hE := e39 he hf hn hr
    have h201 := e201 hf hn hr hw
    have hend : opS b (hdT e ts) = 0 → ¬ ((hdT e ts).k = 3 ∧ (hdT e ts).v = 41 ∧ 9 ∈ W) → b_X9_expression_39 n ((1 : Int32), M) = j_X9_expression_335 n M → EU f e s (amR r e ts 0 0 C W (b :: D')) M (gl (b_X9_expression_39 n) (N + 2) ((1 : Int32), M)) := by
      intro q1 q2 q3
      rw [gl_inl (q3.trans rfl), am_end q1 q2]
      exact mEnd he hf hn h
    have hop : ∀ (M5 : Mem), b_X9_expression_39 n ((1 : Int32), M) = some (.inl ((1 : Int32), M5)) → kq (VXr s) M M5 → OC f e s r ts (amR r e ts 0 0 C W (b :: D')) M5 → EU f e s (amR r e ts 0 0 C W (b :: D')) M (gl (b_X9_expression_39 n) (N + 2) ((1 : Int32), M)) := by
      intro M5 q1 q2 q3
      rw [gl_inl q1]
      rcases q3 with ⟨C', W', D2, ts', x1, x2, x3⟩ | ⟨k, p, x1, x2⟩
      · rw [x2]
        obtain ⟨M', y1, y2, y3⟩ := ih ts' C' W' D2 (N + 1) M5 (by omega) (by omega) (by omega) x1
        exact ⟨M', y1, q2.tr y2, y3⟩
      · rw [x2]
        obtain ⟨M', y1, y2, y3⟩ := mFinL (f := f) (e := e) hn (N := N) x1
        exact ⟨M', y1, q2.tr y2, y3⟩
    cases ts with
    | nil =>
      have k0 : (hdT e ([] : List Tok)).k = 0 := rfl
      exact hend (by unfold opS; rw [if_neg (by omega), if_neg (by omega)]) (by omega) (by rw [hE, if_neg (by omega), if_neg (by omega), if_neg (by omega), h201, if_neg (by omega), if_neg (by omega), if_neg (by omega)])
    | cons T ts =>
      have hdT' : hdT e (T :: ts) = T := rfl
      rw [hdT'] at hE h201 hend
      rw [List.length_cons] at h7
      by_cases c1 : T.k = 1 ∧ T.v = 10
      · have hl : opS b T = 2 := by unfold opS; rw [if_pos c1.1, if_pos c1.2]
        have hc : opC T = 2 := by unfold opC; rw [if_pos c1.1, if_pos c1.2]
        obtain ⟨M1, M2, M4, M5, d1, d2, d3, d4, d5, d6, d7, d8⟩ := mOpc (n := n) he hf hn h hl (by decide) (by omega)
        refine hop M5 ?_ d7 d8
        rw [hc] at d3
        rw [hE, if_pos c1]
        unfold j_X9_expression_70 j_X9_expression_83
        rw [if_pos (show (18 : Int32) = 18 from rfl), show f_X9_drops n (2 : Int32) M = some M1 from d1]
        dsimp only [bd]
        rw [if_pos (show (18 : Int32) = 18 from rfl)]
        unfold j_X9_expression_99
        rw [show f_X9_waitsFor n (4 : Int32) M1 = some M2 from d3]
        dsimp only [bd]
        rw [d4, ck_pos (n_in (by omega) (by decide))]
        simp only [z36]
        rw [show f_X9_goes n (si M2 11 (D'.length + 1) 0) = some M4 from d5]
        dsimp only []
        rw [show f_X9_operand n (1 : Int32) M4 = some M5 from d6]
        rfl
      by_cases c2 : T.k = 1 ∧ T.v = 9
      · have hl : opS b T = 1 := by unfold opS; rw [if_pos c2.1, if_neg (by omega), if_pos c2.2]
        have hc : opC T = 1 := by unfold opC; rw [if_pos c2.1, if_neg (by omega)]
        obtain ⟨M1, M2, M4, M5, d1, d2, d3, d4, d5, d6, d7, d8⟩ := mOpc (n := n) he hf hn h hl (by decide) (by omega)
        refine hop M5 ?_ d7 d8
        rw [hc] at d3
        rw [hE, if_neg c1, if_pos c2]
        unfold j_X9_expression_70 j_X9_expression_83
        rw [if_neg (show ¬ (19 : Int32) = 18 by decide), show f_X9_drops n (1 : Int32) M = some M1 from d1]
        dsimp only [bd]
        rw [if_neg (show ¬ (19 : Int32) = 18 by decide)]
        unfold j_X9_expression_99
        rw [show f_X9_waitsFor n (5 : Int32) M1 = some M2 from d3]
        dsimp only [bd]
        rw [d4, ck_pos (n_in (by omega) (by decide))]
        simp only [z36]
        rw [show f_X9_goes n (si M2 11 (D'.length + 1) 0) = some M4 from d5]
        dsimp only []
        rw [show f_X9_operand n (1 : Int32) M4 = some M5 from d6]
        rfl
      rw [if_neg c1, if_neg c2] at hE
      by_cases c3 : T.k = 3 ∧ (T.v = 60 ∨ T.v = 61)
      · rw [if_pos c3] at hE
        have hb := hr.a_e.1
        have hd36 : gi M 0 36 = nI (D'.length + 1) := hr.a_d
        have h142 : j_X9_expression_142 n 1 M = if b = true then j_X9_expression_201 n 1 M else bd (f_X9_drops n (4 : Int32) M) (fun q45 => bd (f_X9_isSign n (60 : Int32) q45) (fun q46 => if q46.1 = 0 then (j_X9_expression_176 n (7 : Int32) 1 q46.2) else (j_X9_expression_176 n (6 : Int32) 1 q46.2))) := by
          unfold j_X9_expression_142
          rw [hd36, ck_pos (n_in (by omega) (by decide))]
          simp only [z36, hb]
          cases b with
          | true => rw [if_pos rfl, if_neg (show ¬ (1 : Int32) = 0 by decide), if_pos rfl]
          | false => rw [if_pos (show (if false = true then (1 : Int32) else 0) = 0 from rfl), if_neg (show ¬ false = true by decide)]
        cases hbb : b with
        | true =>
          subst hbb
          rw [if_pos rfl] at h142
          refine hend ?_ (fun q => by omega) ?_
          · unfold opS
            rw [if_neg (by omega), if_pos c3.1, if_pos c3.2, if_pos rfl]
          · rw [hE, h142, h201, if_neg (by omega), if_neg (by omega), if_neg (fun q => by omega)]
        | false =>
          subst hbb
          rw [if_neg (by decide)] at h142
          have hl : opS false T = 4 := cmp_S c3
          obtain ⟨M1, M2, M4, M5, d1, d2, d3, d4, d5, d6, d7, d8⟩ := mOpc (n := n) he hf hn h hl (by decide) (by omega)
          refine hop M5 ?_ d7 d8
          rw [hE, h142, show f_X9_drops n (4 : Int32) M = some M1 from d1]
          dsimp only [bd]
          have h176 : ∀ x, x = nI (wc (opC T)) → j_X9_expression_176 n x 1 M1 = some (.inl ((1 : Int32), M5)) := by
            intro x hx
            unfold j_X9_expression_176
            rw [hx, d3]
            dsimp only [bd]
            rw [d4, ck_pos (n_in (by omega) (by decide))]
            simp only [z36]
            rw [show f_X9_goes n (si M2 11 (D'.length + 1) 1) = some M4 from d5]
            dsimp only []
            rw [show f_X9_operand n (0 : Int32) M4 = some M5 from d6]
            rfl
          by_cases c60 : T.v = 60
          · rw [sgn1 hf d2 (c := 60) (x := 60) (by decide) rfl ⟨c3.1, c60⟩]
            dsimp only []
            rw [if_neg (show ¬ (1 : Int32) = 0 by decide)]
            exact h176 6 (by unfold opC; rw [if_neg (by omega), if_pos c60]; rfl)
          · rw [sgn0 hf d2 (c := 60) (x := 60) (by decide) rfl (fun q => c60 q.2)]
            dsimp only []
            rw [if_pos (show (0 : Int32) = 0 from rfl)]
            exact h176 7 (by unfold opC; rw [if_neg (by omega), if_neg c60, if_pos (by omega)]; rfl)
      rw [if_neg c3, h201] at hE
      by_cases c5 : T.k = 3 ∧ (T.v = 43 ∨ T.v = 45)
      · rw [if_pos c5] at hE
        have hl : opS b T = 5 := by unfold opS; rw [if_neg (by omega), if_pos c5.1, if_neg (by omega), if_pos c5.2]
        obtain ⟨M1, M2, M4, M5, d1, d2, d3, d4, d5, d6, d7, d8⟩ := mOpc (n := n) he hf hn h hl (by decide) (by omega)
        refine hop M5 ?_ d7 d8
        have h241 : ∀ x, x = nI (wc (opC T)) → j_X9_expression_241 n x 1 M1 = some (.inl ((1 : Int32), M5)) := by
          intro x hx
          unfold j_X9_expression_241
          rw [hx, d3]
          dsimp only [bd]
          rw [show f_X9_goes n M2 = some M4 from d5]
          dsimp only []
          rw [show f_X9_operand n (0 : Int32) M4 = some M5 from d6]
          rfl
        rw [hE]
        unfold j_X9_expression_219
        rw [show f_X9_drops n (5 : Int32) M = some M1 from d1]
        dsimp only [bd]
        by_cases c43 : T.v = 43
        · rw [sgn1 hf d2 (c := 43) (x := 43) (by decide) rfl ⟨c5.1, c43⟩]
          dsimp only []
          rw [if_neg (show ¬ (1 : Int32) = 0 by decide)]
          exact h241 8 (by unfold opC; rw [if_neg (by omega), if_neg (by omega), if_neg (by omega), if_pos c43]; rfl)
        · rw [sgn0 hf d2 (c := 43) (x := 43) (by decide) rfl (fun q => c43 q.2)]
          dsimp only []
          rw [if_pos (show (0 : Int32) = 0 from rfl)]
          exact h241 9 (by unfold opC; rw [if_neg (by omega), if_neg (by omega), if_neg (by omega), if_neg c43, if_pos (by omega)]; rfl)
      rw [if_neg c5] at hE
      by_cases c6 : T.k = 3 ∧ (T.v = 42 ∨ T.v = 47)
      · rw [if_pos c6] at hE
        have hl : opS b T = 6 := by unfold opS; rw [if_neg (by omega), if_pos c6.1, if_neg (by omega), if_neg (by omega), if_pos c6.2]
        obtain ⟨M1, M2, M4, M5, d1, d2, d3, d4, d5, d6, d7, d8⟩ := mOpc (n := n) he hf hn h hl (by decide) (by omega)
        refine hop M5 ?_ d7 d8
        have h297 : ∀ x, x = nI (wc (opC T)) → j_X9_expression_297 n x 1 M1 = some (.inl ((1 : Int32), M5)) := by
          intro x hx
          unfold j_X9_expression_297
          rw [hx, d3]
          dsimp only [bd]
          rw [show f_X9_goes n M2 = some M4 from d5]
          dsimp only []
          rw [show f_X9_operand n (0 : Int32) M4 = some M5 from d6]
          rfl
        rw [hE]
        unfold j_X9_expression_274
        rw [show f_X9_drops n (6 : Int32) M = some M1 from d1]
        dsimp only [bd]
        by_cases c42 : T.v = 42
        · rw [sgn1 hf d2 (c := 42) (x := 42) (by decide) rfl ⟨c6.1, c42⟩]
          dsimp only []
          rw [if_neg (show ¬ (1 : Int32) = 0 by decide)]
          exact h297 10 (by unfold opC; rw [if_neg (by omega), if_neg (by omega), if_neg (by omega), if_neg (by omega), if_neg (by omega), if_pos c42]; rfl)
        · rw [sgn0 hf d2 (c := 42) (x := 42) (by decide) rfl (fun q => c42 q.2)]
          dsimp only []
          rw [if_pos (show (0 : Int32) = 0 from rfl)]
          exact h297 11 (by unfold opC; rw [if_neg (by omega), if_neg (by omega), if_neg (by omega), if_neg (by omega), if_neg (by omega), if_neg c42]; rfl)
      rw [if_neg c6] at hE
      have hS0 : opS b T = 0 := by
        unfold opS
        by_cases q1 : T.k = 1
        · rw [if_pos q1, if_neg (fun q => c1 ⟨q1, q⟩), if_neg (fun q => c2 ⟨q1, q⟩)]
        · rw [if_neg q1]
          by_cases q3 : T.k = 3
          · rw [if_pos q3, if_neg (fun q => c3 ⟨q3, q⟩), if_neg (fun q => c5 ⟨q3, q⟩), if_neg (fun q => c6 ⟨q3, q⟩)]
          · rw [if_neg q3]
      by_cases c7 : T.k = 3 ∧ T.v = 41 ∧ 9 ∈ W
      · rw [if_pos c7] at hE
        obtain ⟨M5, k1, k2, k3⟩ := mClose (n := n) he hf hn h c7.1 c7.2.1 c7.2.2
        refine hop M5 ?_ k2 (Or.inl ⟨_, _, _, _, k3, ?_, Nat.lt_succ_self _⟩)
        · rw [hE, k1]
          rfl
        · rw [am_0, if_pos hS0, if_pos c7]
      · rw [if_neg c7] at hE
        exact hend hS0 c7 hE
theorem lx_len {f : Nat → Nat} {e : Nat} : ∀ (ts : List Tok) (p : Nat), Lx f e p ts → ts.length + p ≤ e
  | [], p, h => by
    have := h.x_p
    simp
    omega
  | T :: ts, p, h => by
    have h1 := h.1.x_p
    have h2 := h.1.x_1 h.2.1
    have := lx_len ts T.nx h.2.2
    rw [List.length_cons]
    omega
theorem mExpr (he : e ≤ 700) (hf : ∀ q, f q < 256) (hn : 800 < n) {lo hi : Int32} (hlo : lo = nI (if r = 0 then 0 else 3)) (hhi : hi = nI (if r = 0 then 5 else 8)) (h : SRt f e ts M) (h0 : gi M 0 12 = 0) (h13 : gi M 0 13 = -1) (hs : gi M 0 32 = nI s) (hb : s + 1 ≤ 2 * (hdT e ts).p) : EU f e s (amR r e ts 2 0 [] [] [false]) M (f_X9_expression n lo hi M) := by
  have hlen : ts.length ≤ 700 := by
    obtain ⟨⟨p, hp⟩, _⟩ := h
    have := lx_len ts p hp
    omega
  unfold f_X9_expression
  rw [mGood h0]
  dsimp only [bd]
  rw [if_neg (show ¬ (1 : Int32) = 0 by decide)]
  obtain ⟨M1, hM1⟩ : ∃ M1, M1 = si (si (si (si M 0 33 lo) 0 34 hi) 0 35 (0 : Int32)) 0 36 (0 : Int32) := ⟨_, rfl⟩
  have k1 : kq (VXr s) M M1 := by
    rw [hM1]
    exact (((kq.rf.si (by unfold VXr; omega) _).si (by unfold VXr; omega) _).si (by unfold VXr; omega) _).si (by unfold VXr; omega) _
  have g : ∀ t k, ¬ (t = 0 ∧ 33 ≤ k ∧ k ≤ 36) → gi M1 t k = gi M t k := fun t k q => by rw [hM1, gi_si, if_neg (by omega), gi_si, if_neg (by omega), gi_si, if_neg (by omega), gi_si, if_neg (by omega)]
  have r1 : RP f e s r [] [] [] ts M1 := ⟨by rw [hM1]; exact (((h.st (by omega) (by omega) _).st (by omega) (by omega) _).st (by omega) (by omega) _).st (by omega) (by omega) _, (g _ _ (by omega)).trans hs, trivial, by rw [hM1, gi_si, if_neg (by omega), gi_si, if_pos ⟨rfl, rfl⟩]; rfl, trivial, by rw [hM1, gi_si, if_pos ⟨rfl, rfl⟩]; rfl, trivial, by rw [hM1, gi_si, if_neg (by omega), gi_si, if_neg (by omega), gi_si, if_neg (by omega), gi_si, if_pos ⟨rfl, rfl⟩, hlo], by rw [hM1, gi_si, if_neg (by omega), gi_si, if_neg (by omega), gi_si, if_pos ⟨rfl, rfl⟩, hhi], (g _ _ (by omega)).trans h0, (g _ _ (by omega)).trans h13⟩
  rw [← hM1]
  obtain ⟨M2, d1, d2, d3⟩ := mDeep (n := n) r1 (show (0 : Nat) < 6 by decide)
  rw [d1]
  dsimp only []
  have hRS : RS f e s r [] [] [false] ts M2 := ⟨d2, ⟨by show s + 0 + 0 + 1 ≤ _; omega, Nat.zero_le _⟩, rfl, by decide⟩
  obtain ⟨M3, o1, o2, o3⟩ := mOperand (n := n) he hf hn (m := 2) (x2 := 1) hRS (Or.inl ⟨rfl, rfl⟩) hlen
  rw [o1]
  dsimp only []
  obtain ⟨n', hn'⟩ : ∃ k, n = k + 1 := ⟨n - 1, by omega⟩
  rcases o3 with ⟨C', W', D2, ts', x1, x2, x3⟩ | ⟨k, p, x1, x2⟩
  · rw [x2]
    obtain ⟨M', y1, y2, y3⟩ := mExprL (n := n) he hf hn ts'.length ts' C' W' D2 n M3 (Nat.le_refl _) (by omega) (by omega) x1
    exact ⟨M', y1, ((k1.tr d3).tr o2).tr y2, y3⟩
  · rw [x2]
    obtain ⟨M', y1, y2, y3⟩ := mFinL (f := f) (e := e) hn (N := n') x1
    rw [← hn'] at y1
    exact ⟨M', y1, ((k1.tr d3).tr o2).tr y2, y3⟩
end Y
