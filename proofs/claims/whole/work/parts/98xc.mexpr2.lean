/-! The reference reads a rule: acts and their strength. -/
def EU (f : Nat → Nat) (e s : Nat) (R : Res) (M : Mem) (o : Option Mem) : Prop := ∃ M', o = some M' ∧ kq (VXr s) M M' ∧ ((∃ O ts', R = .inr (O, ts') ∧ SRt f e ts' M' ∧ gi M' 0 12 = 0 ∧ cod2 (gi M' 9) s O ∧ gi M' 0 32 = nI (s + len2 O + 1) ∧ s + len2 O + 1 ≤ 2 * (hdT e ts').p ∧ gi M' 0 13 = -1) ∨ (∃ k p, R = .inl (k, p) ∧ gi M' 0 12 = nI k ∧ gi M' 0 13 = nI p ∧ 1 ≤ k ∧ k ≤ 3))
theorem len2_act : ∀ (W : List Nat), len2 (W.map act) = W.length
  | [] => rfl
  | o :: W => by
    show 1 + len2 (W.map act) = W.length + 1
    rw [len2_act W]
    omega
theorem stg_9 : ∀ o, o ≤ 9 → (1 ≤ stg o ↔ ¬ o = 9) := by
  have : ∀ o, o < 10 → (1 ≤ stg o ↔ ¬ o = 9) := by decide +kernel
  exact fun o ho => this o (by omega)
theorem tw_len (l : Nat) : ∀ (W : List Nat), (twW l W).length + (dwW l W).length = W.length := fun W => by
  have := congrArg List.length (List.takeWhile_append_dropWhile (p := fun o => decide (l ≤ stg o)) (l := W))
  rw [List.length_append] at this
  exact this
theorem tw_cnt {l : Nat} (hl : 1 ≤ l) : ∀ (W : List Nat), (dwW l W).count 9 = W.count 9
  | [] => rfl
  | o :: W => by
    unfold dwW
    rw [List.dropWhile_cons]
    by_cases c : l ≤ stg o
    · rw [if_pos (by simpa using c)]
      have h9 : ¬ o = 9 := by
        intro q
        rw [q] at c
        have : stg 9 = 0 := rfl
        omega
      rw [List.count_cons_of_ne h9]
      exact tw_cnt hl W
    · rw [if_neg (by simpa using c)]
theorem tw_all : ∀ (W : List Nat), (∀ o, o ∈ W → o ≤ 9) → W.count 9 = 0 → twW 1 W = W ∧ dwW 1 W = []
  | [], _, _ => ⟨rfl, rfl⟩
  | o :: W, h, hc => by
    have h9 : ¬ o = 9 := by
      intro q
      rw [q, List.count_cons_self] at hc
      omega
    rw [List.count_cons_of_ne h9] at hc
    have ho := (stg_9 o (h o (List.mem_cons_self ..))).mpr h9
    have ih := tw_all W (fun a ha => h a (List.mem_cons_of_mem _ ha)) hc
    unfold twW dwW at ih ⊢
    rw [List.takeWhile_cons, List.dropWhile_cons, if_pos (by simpa using ho), if_pos (by simpa using ho), ih.1, ih.2]
    exact ⟨rfl, rfl⟩
theorem dw_9 : ∀ (W : List Nat), (∀ o, o ∈ W → o ≤ 9) → 9 ∈ W → ∃ W', dwW 1 W = 9 :: W'
  | [], _, h => absurd h (List.not_mem_nil)
  | o :: W, h, hc => by
    unfold dwW
    rw [List.dropWhile_cons]
    by_cases c : o = 9
    · rw [if_neg (by rw [c]; decide), c]
      exact ⟨W, rfl⟩
    · have ho := (stg_9 o (h o (List.mem_cons_self ..))).mpr c
      rw [if_pos (by simpa using ho)]
      rcases List.mem_cons.mp hc with q | q
      · exact absurd q.symm c
      · exact dw_9 W (fun a ha => h a (List.mem_cons_of_mem _ ha)) q
section X
variable {f : Nat → Nat} {e s r n : Nat} {C : List Op} {W : List Nat} {D : List Bool} {ts : List Tok} {M : Mem}
theorem mFinF (hn : 800 < n) {k p : Nat} (h : FS s k p M) : ∃ M', j_X9_expression_360 n M = some M' ∧ kq (VXr s) M M' ∧ gi M' 0 12 = nI k ∧ gi M' 0 13 = nI p := by
  obtain ⟨t, m, h1, h2, h3, h4, h5⟩ := h.z_m
  obtain ⟨M1, t', a1, a2, a3, a4, a5⟩ := mDropF (n := n) m t n M (by omega) h1 h2 h3 (by omega) (by omega)
  unfold j_X9_expression_360 f_X9_drops
  rw [a1]
  dsimp only [bd]
  rw [mPuts a2 (by omega)]
  refine ⟨_, rfl, ((a5.mono (fun _ _ q => q.x)).si (by unfold VXr; omega) _).si (by unfold VXr; omega) _, ?_, ?_⟩
  · rw [gi_si, if_neg (by omega), gi_si, if_neg (by omega), a5 _ _ (by unfold Vd; omega)]
    exact h.z_k
  · rw [gi_si, if_neg (by omega), gi_si, if_neg (by omega), a5 _ _ (by unfold Vd; omega)]
    exact h.z_p
theorem mFinL (hn : 800 < n) {N : Nat} {k p : Nat} (h : FS s k p M) : EU f e s (.inl (k, p)) M (gl (b_X9_expression_39 n) (N + 1) ((1 : Int32), M)) := by
  have hz := h.z_b
  rw [gl_mr (o := j_X9_expression_340 n M) (by
    rw [b_X9_expression_39]
    try dsimp only []
    rw [if_neg (show ¬ (1 : Int32) = 0 by decide), mBad h.z_k (by omega)]
    dsimp only [bd]
    rw [if_pos (show (0 : Int32) = 0 from rfl)])]
  unfold j_X9_expression_340
  rw [mBad h.z_k (by omega)]
  dsimp only [bd]
  rw [if_pos (show (0 : Int32) = 0 from rfl)]
  obtain ⟨M', a1, a2, a3, a4⟩ := mFinF hn h
  exact ⟨M', a1, a2, Or.inr ⟨k, p, rfl, a3, a4, hz.1, hz.2⟩⟩
theorem mFinG (he : e ≤ 700) (hf : ∀ q, f q < 256) (hn : 800 < n) (h : RS f e s r C W D ts M) (hd : D.length = 1) : EU f e s (.inr (C ++ W.map act, ts)) M (j_X9_expression_360 n M) := by
  obtain ⟨b1, b2, b3⟩ := h.p hf he
  have hr := h.1
  obtain ⟨t1, t2⟩ := tw_all W (wts_le W hr.a_v) (by have := h.2.2.1; omega)
  obtain ⟨M1, a1, a2, a3⟩ := hr.drops (n := n) hn (l := 1) (x := 0) (Or.inr ⟨rfl, rfl⟩) (by decide) (by omega) b2
  rw [t1, t2] at a2
  have hl : len2 (C ++ W.map act) = len2 C + W.length := by rw [len2_app, len2_act]
  unfold j_X9_expression_360
  rw [a1]
  dsimp only [bd]
  rw [mPuts a2.a_c (by omega)]
  refine ⟨_, rfl, (a3.si (by unfold VXr; omega) _).si (by unfold VXr; omega) _, Or.inl ⟨_, _, rfl, (a2.a_t.st (by omega) (by omega) _).st (by omega) (by omega) _, ?_, cop_cod _ _ (cop_congr _ s (fun k _ hk => ?_) a2.a_o) ?_, ?_, ?_, ?_⟩⟩
  · rw [gi_si, if_neg (by omega), gi_si, if_neg (by omega)]
    exact a2.a_f
  · rw [gi_si, if_neg (by omega), gi_si, if_neg (by omega)]
  · rw [gi_si, if_neg (by omega), gi_si, if_pos ⟨rfl, rfl⟩]
  · rw [gi_si, if_pos ⟨rfl, rfl⟩]
  · have := h.2.1.1
    omega
  · rw [gi_si, if_neg (by omega), gi_si, if_neg (by omega)]
    exact a2.a_g
theorem mEnd (he : e ≤ 700) (hf : ∀ q, f q < 256) (hn : 800 < n) {N : Nat} (h : RS f e s r C W D ts M) : EU f e s (if D.length ≤ 1 then .inr (C ++ W.map act, ts) else .inl (1, (hdT e ts).p)) M (gl (b_X9_expression_39 n) (N + 1) ((0 : Int32), M)) := by
  obtain ⟨b1, b2, b3⟩ := h.p hf he
  have hr := h.1
  have hd := h.2.2
  rw [gl_mr (o := j_X9_expression_340 n M) (by
    rw [b_X9_expression_39]
    try dsimp only []
    rw [if_pos (show (0 : Int32) = 0 from rfl)])]
  unfold j_X9_expression_340
  rw [mGood hr.a_f]
  dsimp only [bd]
  rw [if_neg (show ¬ (1 : Int32) = 0 by decide), hr.a_d]
  by_cases c : D.length ≤ 1
  · rw [if_pos (show nI D.length ≤ (1 : Int32) from nI_le (b := 1) c (by decide)), if_pos c]
    exact mFinG he hf hn h (by omega)
  · rw [if_neg (show ¬ nI D.length ≤ (1 : Int32) from nI_ge (a := 1) (by omega) (by omega)), if_neg c]
    obtain ⟨M0, w1, w2, w3, _⟩ := hr.wrong (n := n) (k := 1) (by omega) b2 (by decide)
    rw [show f_X9_wrong n (1 : Int32) M = some M0 from w1]
    dsimp only []
    obtain ⟨M', a1, a2, a3, a4⟩ := mFinF hn w2
    exact ⟨M', a1, w3.tr a2, Or.inr ⟨1, _, rfl, a3, a4, by decide, by decide⟩⟩
theorem sgn1 (hf : ∀ q, f q < 256) (h : SRt f e ts M) {c : Nat} (hc : c < 256) {x : Int32} (hx : x = nI c) (hk : (hdT e ts).k = 3 ∧ (hdT e ts).v = c) : f_X9_isSign n x M = some ((1 : Int32), M) := by
  rw [hx, mIsSign hf h hc, if_pos hk]
theorem sgn0 (hf : ∀ q, f q < 256) (h : SRt f e ts M) {c : Nat} (hc : c < 256) {x : Int32} (hx : x = nI c) (hk : ¬ ((hdT e ts).k = 3 ∧ (hdT e ts).v = c)) : f_X9_isSign n x M = some ((0 : Int32), M) := by
  rw [hx, mIsSign hf h hc, if_neg hk]
theorem e201 (hf : ∀ q, f q < 256) (hn : 800 < n) (h : RP f e s r C W D ts M) (hw : W.length ≤ 700) : j_X9_expression_201 n 1 M = if (hdT e ts).k = 3 ∧ ((hdT e ts).v = 43 ∨ (hdT e ts).v = 45) then j_X9_expression_219 n 1 M else if (hdT e ts).k = 3 ∧ ((hdT e ts).v = 42 ∨ (hdT e ts).v = 47) then j_X9_expression_274 n 1 M else if (hdT e ts).k = 3 ∧ (hdT e ts).v = 41 ∧ 9 ∈ W then bd (f_X9_closes n M) (fun q => j_X9_expression_337 n 1 q) else j_X9_expression_335 n M := by
  have i1 : ¬ (1 : Int32) = 0 := by decide
  have i0 : (0 : Int32) = 0 := rfl
  unfold j_X9_expression_201
  by_cases a1 : (hdT e ts).k = 3 ∧ (hdT e ts).v = 43
  · rw [sgn1 hf h.a_t (c := 43) (x := 43) (by decide) rfl a1, if_pos (show (hdT e ts).k = 3 ∧ ((hdT e ts).v = 43 ∨ (hdT e ts).v = 45) by omega)]
    dsimp only [bd]
    rw [if_neg i1]
  rw [sgn0 hf h.a_t (c := 43) (x := 43) (by decide) rfl a1]
  by_cases a2 : (hdT e ts).k = 3 ∧ (hdT e ts).v = 45
  · rw [if_pos (show (hdT e ts).k = 3 ∧ ((hdT e ts).v = 43 ∨ (hdT e ts).v = 45) by omega)]
    dsimp only [bd]
    rw [if_pos i0, sgn1 hf h.a_t (c := 45) (x := 45) (by decide) rfl a2]
    dsimp only [bd]
    rw [if_neg i1]
  rw [if_neg (show ¬ ((hdT e ts).k = 3 ∧ ((hdT e ts).v = 43 ∨ (hdT e ts).v = 45)) by omega)]
  by_cases a3 : (hdT e ts).k = 3 ∧ (hdT e ts).v = 42
  · rw [if_pos (show (hdT e ts).k = 3 ∧ ((hdT e ts).v = 42 ∨ (hdT e ts).v = 47) by omega)]
    dsimp only [bd]
    rw [if_pos i0, sgn0 hf h.a_t (c := 45) (x := 45) (by decide) rfl a2]
    dsimp only [bd]
    rw [if_pos i0, sgn1 hf h.a_t (c := 42) (x := 42) (by decide) rfl a3]
    dsimp only [bd]
    rw [if_neg i1]
  by_cases a4 : (hdT e ts).k = 3 ∧ (hdT e ts).v = 47
  · rw [if_pos (show (hdT e ts).k = 3 ∧ ((hdT e ts).v = 42 ∨ (hdT e ts).v = 47) by omega)]
    dsimp only [bd]
    rw [if_pos i0, sgn0 hf h.a_t (c := 45) (x := 45) (by decide) rfl a2]
    dsimp only [bd]
    rw [if_pos i0, sgn0 hf h.a_t (c := 42) (x := 42) (by decide) rfl a3]
    dsimp only [bd]
    rw [if_pos i0, sgn1 hf h.a_t (c := 47) (x := 47) (by decide) rfl a4]
    dsimp only [bd]
    rw [if_neg i1]
  rw [if_neg (show ¬ ((hdT e ts).k = 3 ∧ ((hdT e ts).v = 42 ∨ (hdT e ts).v = 47)) by omega)]
  by_cases a5 : (hdT e ts).k = 3 ∧ (hdT e ts).v = 41
  · have eo : f_X9_isOpened n M = some (if 9 ∈ W then 1 else 0, M) := by
      unfold f_X9_isOpened
      rw [h.a_w]
      exact mOpened W n M (by omega) (by omega) h.a_v
    by_cases a6 : 9 ∈ W
    · rw [if_pos a6] at eo
      rw [if_pos ⟨a5.1, a5.2, a6⟩]
      dsimp only [bd]
      rw [if_pos i0, sgn0 hf h.a_t (c := 45) (x := 45) (by decide) rfl a2]
      dsimp only [bd]
      rw [if_pos i0, sgn0 hf h.a_t (c := 42) (x := 42) (by decide) rfl a3]
      dsimp only [bd]
      rw [if_pos i0, sgn0 hf h.a_t (c := 47) (x := 47) (by decide) rfl a4]
      dsimp only [bd]
      rw [if_pos i0, sgn1 hf h.a_t (c := 41) (x := 41) (by decide) rfl a5]
      dsimp only [bd]
      rw [if_neg i1, eo]
      dsimp only [bd]
      rw [if_neg i1]
    · rw [if_neg a6] at eo
      rw [if_neg (fun q => a6 q.2.2)]
      dsimp only [bd]
      rw [if_pos i0, sgn0 hf h.a_t (c := 45) (x := 45) (by decide) rfl a2]
      dsimp only [bd]
      rw [if_pos i0, sgn0 hf h.a_t (c := 42) (x := 42) (by decide) rfl a3]
      dsimp only [bd]
      rw [if_pos i0, sgn0 hf h.a_t (c := 47) (x := 47) (by decide) rfl a4]
      dsimp only [bd]
      rw [if_pos i0, sgn1 hf h.a_t (c := 41) (x := 41) (by decide) rfl a5]
      dsimp only [bd]
      rw [if_neg i1, eo]
      dsimp only [bd]
      rw [if_pos i0]
  · rw [if_neg (fun q => a5 ⟨q.1, q.2.1⟩)]
    dsimp only [bd]
    rw [if_pos i0, sgn0 hf h.a_t (c := 45) (x := 45) (by decide) rfl a2]
    dsimp only [bd]
    rw [if_pos i0, sgn0 hf h.a_t (c := 42) (x := 42) (by decide) rfl a3]
    dsimp only [bd]
    rw [if_pos i0, sgn0 hf h.a_t (c := 47) (x := 47) (by decide) rfl a4]
    dsimp only [bd]
    rw [if_pos i0, sgn0 hf h.a_t (c := 41) (x := 41) (by decide) rfl a5]
    dsimp only [bd]
    rw [if_pos i0]
theorem e39 (he : e ≤ 700) (hf : ∀ q, f q < 256) (hn : 800 < n) (h : RP f e s r C W D ts M) : b_X9_expression_39 n ((1 : Int32), M) = if (hdT e ts).k = 1 ∧ (hdT e ts).v = 10 then j_X9_expression_70 n 1 18 M else if (hdT e ts).k = 1 ∧ (hdT e ts).v = 9 then j_X9_expression_70 n 1 19 M else if (hdT e ts).k = 3 ∧ ((hdT e ts).v = 60 ∨ (hdT e ts).v = 61) then j_X9_expression_142 n 1 M else j_X9_expression_201 n 1 M := by
  have i1 : ¬ (1 : Int32) = 0 := by decide
  have i0 : (0 : Int32) = 0 := rfl
  obtain ⟨_, k18, k19⟩ := kwI_20 (hdT e ts)
  rw [b_X9_expression_39]
  try dsimp only []
  rw [if_neg i1, mGood h.a_f]
  dsimp only [bd]
  rw [if_neg i1, mKnownS he hn h.a_t]
  dsimp only []
  by_cases c1 : (hdT e ts).k = 1 ∧ (hdT e ts).v = 10
  · rw [if_pos (k18.mpr c1), if_pos c1, k18.mpr c1]
  rw [if_neg (fun q => c1 (k18.mp q)), if_neg c1]
  by_cases c2 : (hdT e ts).k = 1 ∧ (hdT e ts).v = 9
  · rw [if_pos (k19.mpr c2), if_pos c2, k19.mpr c2]
  rw [if_neg (fun q => c2 (k19.mp q)), if_neg c2]
  by_cases c3 : (hdT e ts).k = 3 ∧ (hdT e ts).v = 60
  · rw [sgn1 hf h.a_t (c := 60) (x := 60) (by decide) rfl c3, if_pos (show (hdT e ts).k = 3 ∧ ((hdT e ts).v = 60 ∨ (hdT e ts).v = 61) by omega)]
    dsimp only [bd]
    rw [if_neg i1]
  rw [sgn0 hf h.a_t (c := 60) (x := 60) (by decide) rfl c3]
  dsimp only [bd]
  rw [if_pos i0]
  by_cases c4 : (hdT e ts).k = 3 ∧ (hdT e ts).v = 61
  · rw [sgn1 hf h.a_t (c := 61) (x := 61) (by decide) rfl c4, if_pos (show (hdT e ts).k = 3 ∧ ((hdT e ts).v = 60 ∨ (hdT e ts).v = 61) by omega)]
    dsimp only [bd]
    rw [if_neg i1]
  · rw [sgn0 hf h.a_t (c := 61) (x := 61) (by decide) rfl c4, if_neg (show ¬ ((hdT e ts).k = 3 ∧ ((hdT e ts).v = 60 ∨ (hdT e ts).v = 61)) by omega)]
    dsimp only [bd]
    rw [if_pos i0]
end X
