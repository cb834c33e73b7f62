/-! Acts are kept: the class packs them in a ring. -/
def svF (r i : Nat) (x : Int32) (f : Nat) (M : Mem) : Mem := si M r x.toNatClampNeg (gi M i f)
theorem save87_is (n i r : Nat) (x : Int32) (M : Mem) : j_X4_save_87 n i r x M = ck (inb (x + 16 + 8) 1200) (ck (inb (x + 16 + 8 + 1) 1200) (ck (inb (x + 16 + 8 + 2) 1200) (ck (inb (x + 16 + 8 + 3) 1200) (ck (inb (x + 16 + 8 + 4) 1200) (ck (inb (x + 16 + 8 + 5) 1200) (some (svF r i (x + 16 + 8 + 5) 11 (svF r i (x + 16 + 8 + 4) 10 (svF r i (x + 16 + 8 + 3) 9 (svF r i (x + 16 + 8 + 2) 8 (svF r i (x + 16 + 8 + 1) 6 (svF r i (x + 16 + 8) 5 M)))))))))))) := rfl
theorem nA_16 (b : Nat) : nI b + (16 : Int32) = nI (b + 16) := nI_add b 16
theorem nA_8 (b : Nat) : nI b + (8 : Int32) = nI (b + 8) := nI_add b 8
theorem gi_sv {r i p f t k : Nat} {M : Mem} (hp : p < 2 ^ 31) : gi (svF r i (nI p) f M) t k = if t = r ∧ k = p then gi M i f else gi M t k := by
  unfold svF
  rw [nI_clamp hp, gi_si]
theorem cSave {n i r a wd : Nat} {M : Mem} {s : Sp} (hn : 1000 < n) (g : s.Good wd) (h : StC wd s i M) (ha : a + 30 ≤ 1200) (hr : r < i ∨ i + 4 < r) : ∃ M', f_X4_save n i r (nI a) M = some M' ∧ SlC wd s r a M' ∧ kq (fun t k => t = r ∧ a ≤ k ∧ k < a + 30) M M' := by
  have h1 := g.h_wd
  have h2 := g.h_all
  obtain ⟨M1, m1, ⟨a1, a2⟩, e1⟩ := gl_k (body := b_X4_save_16 n i r (nI a)) (fun k (M' : Mem) => (nI k, M')) 16 (fun k M' => (∀ c, c < k → c < s.all → gi M' r (a + c) = nI (s.weight c * 10 + s.mortar c)) ∧ kq (fun t q => t = r ∧ a ≤ q ∧ q < a + 16) M M') (fun k M' hk hI => by
    obtain ⟨a1, a2⟩ := hI
    refine ⟨si M' r (a + k) (gi M (i + 1) k * (10 : Int32) + gi M (i + 2) k), ?_, fun c hc hc2 => ?_, a2.si (by omega) _⟩
    · rw [b_X4_save_16]
      try simp only []
      rw [if_neg (show ¬ (16 : Int32) ≤ nI k from nI_ge (b := 16) hk (by decide)), ck_pos (n_in (by omega) (by decide)), ck_pos (n_in (by omega) (by decide)), nI_add, ck_pos (n_in (by omega) (by decide)), nI_clamp (by omega), nI_clamp (by omega), a2 (i + 1) k (by omega), a2 (i + 2) k (by omega), nI_1]
    · rw [gi_si]
      by_cases c2 : c = k
      · subst c2
        rw [if_pos ⟨rfl, rfl⟩, h.weight c hc2, h.mortar c hc2, show (10 : Int32) = nI 10 from rfl, pk_mul, nI_add]
      · rw [if_neg (by omega)]
        exact a1 c (by omega) hc2) n 0 M (by omega) (by omega) ⟨fun c hc => absurd hc (by omega), kq.rf⟩
  obtain ⟨M2, m2, ⟨b1, b2⟩, e2⟩ := gl_k (body := b_X4_save_51 n i r (nI a)) (fun k (M' : Mem) => (nI k, M')) 8 (fun k M' => (∀ c, c < k → c < wd → gi M' r (a + 16 + c) = nI (s.beside c * 100 + s.faith c)) ∧ kq (fun t q => t = r ∧ a + 16 ≤ q ∧ q < a + 24) M1 M') (fun k M' hk hI => by
    obtain ⟨b1, b2⟩ := hI
    refine ⟨si M' r (a + 16 + k) (gi M (i + 4) k * (100 : Int32) + gi M (i + 3) k), ?_, fun c hc hc2 => ?_, b2.si (by omega) _⟩
    · rw [b_X4_save_51]
      try simp only []
      rw [if_neg (show ¬ (8 : Int32) ≤ nI k from nI_ge (b := 8) hk (by decide)), ck_pos (n_in (by omega) (by decide)), ck_pos (n_in (by omega) (by decide)), nA_16, nI_add, ck_pos (n_in (by omega) (by decide)), nI_clamp (by omega), nI_clamp (by omega), b2 (i + 4) k (by omega), b2 (i + 3) k (by omega), a2 (i + 4) k (by omega), a2 (i + 3) k (by omega), nI_1]
    · rw [gi_si]
      by_cases c2 : c = k
      · subst c2
        rw [if_pos ⟨rfl, rfl⟩, h.beside c hc2, h.faith c hc2, show (100 : Int32) = nI 100 from rfl, pk_mul, nI_add]
      · rw [if_neg (by omega)]
        exact b1 c (by omega) hc2) n 0 M1 (by omega) (by omega) ⟨fun c hc => absurd hc (by omega), kq.rf⟩
  have hi : ∀ f, gi M2 i f = gi M i f := fun f => (b2 i f (by omega)).trans (a2 i f (by omega))
  have hir : ¬ i = r := by omega
  refine ⟨svF r i (nI (a + 29)) 11 (svF r i (nI (a + 28)) 10 (svF r i (nI (a + 27)) 9 (svF r i (nI (a + 26)) 8 (svF r i (nI (a + 25)) 6 (svF r i (nI (a + 24)) 5 M2))))), ?_, ?_, ?_⟩
  · unfold f_X4_save
    rw [if_neg (show ¬ nI a < (0 : Int32) from nI_nlt (b := 0) (by omega) (by omega)), if_pos (show nI a ≤ (1200 : Int32) - 30 from nI_le (b := 1170) (by omega) (by omega)), show ((0 : Int32), M) = (nI 0, M) from rfl, e1]
    refine gl_mr ?_
    rw [b_X4_save_16]
    try simp only []
    rw [if_pos (show (16 : Int32) ≤ nI 16 by decide)]
    unfold j_X4_save_49
    rw [show ((0 : Int32), M1) = (nI 0, M1) from rfl, e2, gl_mr (o := j_X4_save_87 n i r (nI a) M2) (by
      rw [b_X4_save_51]
      try simp only []
      rw [if_pos (show (8 : Int32) ≤ nI 8 by decide)]), save87_is]
    rw [nA_16, nA_8, nA_1, nA_2, nA_3, nA_4, nA_5, ck_pos (n_in (by omega) (by decide)), ck_pos (n_in (by omega) (by decide)), ck_pos (n_in (by omega) (by decide)), ck_pos (n_in (by omega) (by decide)), ck_pos (n_in (by omega) (by decide)), ck_pos (n_in (by omega) (by decide))]
  · have low : ∀ q, q < a + 24 → gi (svF r i (nI (a + 29)) 11 (svF r i (nI (a + 28)) 10 (svF r i (nI (a + 27)) 9 (svF r i (nI (a + 26)) 8 (svF r i (nI (a + 25)) 6 (svF r i (nI (a + 24)) 5 M2)))))) r q = gi M2 r q := fun q hq => by
      rw [gi_sv (by omega), if_neg (by omega), gi_sv (by omega), if_neg (by omega), gi_sv (by omega), if_neg (by omega), gi_sv (by omega), if_neg (by omega), gi_sv (by omega), if_neg (by omega), gi_sv (by omega), if_neg (by omega)]
    refine ⟨fun c hc => ?_, fun w hw => ?_, ?_, ?_, ?_, ?_, ?_, ?_⟩
    · rw [low _ (by omega), b2 r (a + c) (by omega)]
      exact a1 c (by omega) hc
    · rw [low _ (by omega)]
      exact b1 w (by omega) hw
    · rw [gi_sv (by omega), if_neg (by omega), gi_sv (by omega), if_neg (by omega), gi_sv (by omega), if_neg (by omega), gi_sv (by omega), if_neg (by omega), gi_sv (by omega), if_neg (by omega), gi_sv (by omega), if_pos ⟨rfl, rfl⟩, hi]
      exact h.all
    · rw [gi_sv (by omega), if_neg (by omega), gi_sv (by omega), if_neg (by omega), gi_sv (by omega), if_neg (by omega), gi_sv (by omega), if_neg (by omega), gi_sv (by omega), if_pos ⟨rfl, rfl⟩, gi_sv (by omega), if_neg (by omega), hi]
      exact h.hung
    · rw [gi_sv (by omega), if_neg (by omega), gi_sv (by omega), if_neg (by omega), gi_sv (by omega), if_neg (by omega), gi_sv (by omega), if_pos ⟨rfl, rfl⟩, gi_sv (by omega), if_neg (by omega), gi_sv (by omega), if_neg (by omega), hi]
      exact h.day
    · rw [gi_sv (by omega), if_neg (by omega), gi_sv (by omega), if_neg (by omega), gi_sv (by omega), if_pos ⟨rfl, rfl⟩, gi_sv (by omega), if_neg (by omega), gi_sv (by omega), if_neg (by omega), gi_sv (by omega), if_neg (by omega), hi]
      exact h.money
    · rw [gi_sv (by omega), if_neg (by omega), gi_sv (by omega), if_pos ⟨rfl, rfl⟩, gi_sv (by omega), if_neg (by omega), gi_sv (by omega), if_neg (by omega), gi_sv (by omega), if_neg (by omega), gi_sv (by omega), if_neg (by omega), hi]
      exact h.lean
    · rw [gi_sv (by omega), if_pos ⟨rfl, rfl⟩, gi_sv (by omega), if_neg (by omega), gi_sv (by omega), if_neg (by omega), gi_sv (by omega), if_neg (by omega), gi_sv (by omega), if_neg (by omega), gi_sv (by omega), if_neg (by omega), hi]
      exact h.fell
  · intro t k ht
    rw [gi_sv (by omega), if_neg (by omega), gi_sv (by omega), if_neg (by omega), gi_sv (by omega), if_neg (by omega), gi_sv (by omega), if_neg (by omega), gi_sv (by omega), if_neg (by omega), gi_sv (by omega), if_neg (by omega)]
    exact (b2 t k (by omega)).trans (a2 t k (by omega))
def ldF (i r f : Nat) (x : Int32) (M : Mem) : Mem := si M i f (gi M r x.toNatClampNeg)
theorem load104_is (n i r : Nat) (x : Int32) (M : Mem) : j_X4_load_104 n i r x M = ck (inb (x + 16 + 8) 1200) (ck (inb (x + 16 + 8 + 1) 1200) (ck (inb (x + 16 + 8 + 2) 1200) (ck (inb (x + 16 + 8 + 3) 1200) (ck (inb (x + 16 + 8 + 4) 1200) (ck (inb (x + 16 + 8 + 5) 1200) (some (ldF i r 11 (x + 16 + 8 + 5) (ldF i r 10 (x + 16 + 8 + 4) (ldF i r 9 (x + 16 + 8 + 3) (ldF i r 8 (x + 16 + 8 + 2) (ldF i r 6 (x + 16 + 8 + 1) (ldF i r 5 (x + 16 + 8) M)))))))))))) := rfl
theorem gi_ld {r i p f t k : Nat} {M : Mem} (hp : p < 2 ^ 31) : gi (ldF i r f (nI p) M) t k = if t = i ∧ k = f then gi M r p else gi M t k := by
  unfold ldF
  rw [nI_clamp hp, gi_si]
theorem cLoad {n i r a wd : Nat} {M : Mem} {s : Sp} (hn : 1000 < n) (g : s.Good wd) (h : SlC wd s r a M) (hw : gi M i 7 = nI wd) (ha : a + 30 ≤ 1200) (hr : r < i ∨ i + 4 < r) : ∃ M', f_X4_load n i r (nI a) M = some M' ∧ StC wd s i M' ∧ same (fun t => i ≤ t ∧ t ≤ i + 4) M M' := by
  have h1 := g.h_wd
  have h2 := g.h_all
  have hir : ¬ r = i := by omega
  have hir1 : ¬ r = i + 1 := by omega
  have hir4 : ¬ r = i + 4 := by omega
  obtain ⟨M1, m1, ⟨a1, a2⟩, e1⟩ := gl_k (body := b_X4_load_16 n i r (nI a)) (fun k (M' : Mem) => (nI k, M')) 16 (fun k M' => (∀ c, c < k → c < s.all → gi M' (i + 1) c = nI (s.weight c) ∧ gi M' (i + 2) c = nI (s.mortar c)) ∧ same (fun t => t = i + 1 ∨ t = i + 2) M M') (fun k M' hk hI => by
    obtain ⟨a1, a2⟩ := hI
    refine ⟨si (si M' (i + 1) k (gi M r (a + k) / (10 : Int32))) (i + 2) k (gi M r (a + k) - gi M r (a + k) / (10 : Int32) * (10 : Int32)), ?_, fun c hc hc2 => ?_, (a2.si (by omega) _ _).si (by omega) _ _⟩
    · rw [b_X4_load_16]
      try simp only []
      rw [if_neg (show ¬ (16 : Int32) ≤ nI k from nI_ge (b := 16) hk (by decide)), nI_add, ck_pos (n_in (by omega) (by decide)), ck_pos (n_in (by omega) (by decide)), ck_pos (n_in (by omega) (by decide)), ck_pos (n_in (by omega) (by decide)), nI_clamp (by omega), nI_clamp (by omega), gi_si, if_neg (by omega), a2.1 r (a + k) (by omega), nI_1]
    · by_cases c2 : c = k
      · subst c2
        have b1 := g.h_weight c hc2
        have b2 := g.h_mortar c hc2
        rw [gi_si, if_neg (by omega), gi_si, if_pos ⟨rfl, rfl⟩, gi_si, if_pos ⟨rfl, rfl⟩, h.l_c c hc2, show (10 : Int32) = nI 10 from rfl, pk_rem (by omega) (by decide) (by decide), pk_div (by omega) (by decide) (by decide)]
        exact ⟨congrArg nI (by omega), congrArg nI (by omega)⟩
      · rw [gi_si, if_neg (by omega), gi_si, if_neg (by omega), gi_si, if_neg (by omega), gi_si, if_neg (by omega)]
        exact a1 c (by omega) hc2) n 0 M (by omega) (by omega) ⟨fun c hc => absurd hc (by omega), same.rf⟩
  obtain ⟨M2, m2, ⟨b1, b2⟩, e2⟩ := gl_k (body := b_X4_load_58 n i r (nI a)) (fun k (M' : Mem) => (nI k, M')) 8 (fun k M' => (∀ c, c < k → c < wd → gi M' (i + 4) c = nI (s.beside c) ∧ gi M' (i + 3) c = nI (s.faith c)) ∧ same (fun t => t = i + 3 ∨ t = i + 4) M1 M') (fun k M' hk hI => by
    obtain ⟨b1, b2⟩ := hI
    refine ⟨si (si M' (i + 4) k (gi M r (a + 16 + k) / (100 : Int32))) (i + 3) k (gi M r (a + 16 + k) - gi M r (a + 16 + k) / (100 : Int32) * (100 : Int32)), ?_, fun c hc hc2 => ?_, (b2.si (by omega) _ _).si (by omega) _ _⟩
    · rw [b_X4_load_58]
      try simp only []
      rw [if_neg (show ¬ (8 : Int32) ≤ nI k from nI_ge (b := 8) hk (by decide)), nA_16, nI_add, ck_pos (n_in (by omega) (by decide)), ck_pos (n_in (by omega) (by decide)), ck_pos (n_in (by omega) (by decide)), ck_pos (n_in (by omega) (by decide)), nI_clamp (by omega), nI_clamp (by omega), gi_si, if_neg (by omega), b2.1 r (a + 16 + k) (by omega), a2.1 r (a + 16 + k) (by omega), nI_1]
    · by_cases c2 : c = k
      · subst c2
        have b3 := g.h_faith c hc2
        have b4 := g.h_beside c hc2
        have b5 : s.beside c < 256 := Nat.lt_of_lt_of_le b4 (Nat.pow_le_pow_right (by decide) h1 : 2 ^ wd ≤ 2 ^ 8)
        rw [gi_si, if_neg (by omega), gi_si, if_pos ⟨rfl, rfl⟩, gi_si, if_pos ⟨rfl, rfl⟩, h.l_w c hc2, show (100 : Int32) = nI 100 from rfl, pk_rem (by omega) (by decide) (by decide), pk_div (by omega) (by decide) (by decide)]
        exact ⟨congrArg nI (by omega), congrArg nI (by omega)⟩
      · rw [gi_si, if_neg (by omega), gi_si, if_neg (by omega), gi_si, if_neg (by omega), gi_si, if_neg (by omega)]
        exact b1 c (by omega) hc2) n 0 M1 (by omega) (by omega) ⟨fun c hc => absurd hc (by omega), same.rf⟩
  have hi : ∀ p, gi M2 r p = gi M r p := fun p => (b2.1 r p (by omega)).trans (a2.1 r p (by omega))
  refine ⟨ldF i r 11 (nI (a + 29)) (ldF i r 10 (nI (a + 28)) (ldF i r 9 (nI (a + 27)) (ldF i r 8 (nI (a + 26)) (ldF i r 6 (nI (a + 25)) (ldF i r 5 (nI (a + 24)) M2))))), ?_, ?_, ?_⟩
  · unfold f_X4_load
    rw [if_neg (show ¬ nI a < (0 : Int32) from nI_nlt (b := 0) (by omega) (by omega)), if_pos (show nI a ≤ (1200 : Int32) - 30 from nI_le (b := 1170) (by omega) (by omega)), show ((0 : Int32), M) = (nI 0, M) from rfl, e1]
    refine gl_mr ?_
    rw [b_X4_load_16]
    try simp only []
    rw [if_pos (show (16 : Int32) ≤ nI 16 by decide)]
    unfold j_X4_load_56
    rw [show ((0 : Int32), M1) = (nI 0, M1) from rfl, e2, gl_mr (o := j_X4_load_104 n i r (nI a) M2) (by
      rw [b_X4_load_58]
      try simp only []
      rw [if_pos (show (8 : Int32) ≤ nI 8 by decide)]), load104_is]
    rw [nA_16, nA_8, nA_1, nA_2, nA_3, nA_4, nA_5, ck_pos (n_in (by omega) (by decide)), ck_pos (n_in (by omega) (by decide)), ck_pos (n_in (by omega) (by decide)), ck_pos (n_in (by omega) (by decide)), ck_pos (n_in (by omega) (by decide)), ck_pos (n_in (by omega) (by decide))]
  · have row : ∀ t q, t ≠ i → gi (ldF i r 11 (nI (a + 29)) (ldF i r 10 (nI (a + 28)) (ldF i r 9 (nI (a + 27)) (ldF i r 8 (nI (a + 26)) (ldF i r 6 (nI (a + 25)) (ldF i r 5 (nI (a + 24)) M2)))))) t q = gi M2 t q := fun t q hq => by
      rw [gi_ld (by omega), if_neg (by omega), gi_ld (by omega), if_neg (by omega), gi_ld (by omega), if_neg (by omega), gi_ld (by omega), if_neg (by omega), gi_ld (by omega), if_neg (by omega), gi_ld (by omega), if_neg (by omega)]
    refine ⟨?_, ?_, ?_, ?_, ?_, ?_, ?_, fun c hc => ?_, fun c hc => ?_, fun w hw => ?_, fun w hw => ?_⟩
    · rw [gi_ld (by omega), if_neg (by omega), gi_ld (by omega), if_neg (by omega), gi_ld (by omega), if_neg (by omega), gi_ld (by omega), if_neg (by omega), gi_ld (by omega), if_neg (by omega), gi_ld (by omega), if_pos ⟨rfl, rfl⟩, hi]
      exact h.l_all
    · rw [gi_ld (by omega), if_neg (by omega), gi_ld (by omega), if_neg (by omega), gi_ld (by omega), if_neg (by omega), gi_ld (by omega), if_neg (by omega), gi_ld (by omega), if_pos ⟨rfl, rfl⟩, gi_ld (by omega), if_neg (by omega), hi]
      exact h.l_hung
    · rw [gi_ld (by omega), if_neg (by omega), gi_ld (by omega), if_neg (by omega), gi_ld (by omega), if_neg (by omega), gi_ld (by omega), if_neg (by omega), gi_ld (by omega), if_neg (by omega), gi_ld (by omega), if_neg (by omega), b2.1 i 7 (by omega), a2.1 i 7 (by omega)]
      exact hw
    · rw [gi_ld (by omega), if_neg (by omega), gi_ld (by omega), if_neg (by omega), gi_ld (by omega), if_neg (by omega), gi_ld (by omega), if_pos ⟨rfl, rfl⟩, gi_ld (by omega), if_neg (by omega), gi_ld (by omega), if_neg (by omega), hi]
      exact h.l_day
    · rw [gi_ld (by omega), if_neg (by omega), gi_ld (by omega), if_neg (by omega), gi_ld (by omega), if_pos ⟨rfl, rfl⟩, gi_ld (by omega), if_neg (by omega), gi_ld (by omega), if_neg (by omega), gi_ld (by omega), if_neg (by omega), hi]
      exact h.l_money
    · rw [gi_ld (by omega), if_neg (by omega), gi_ld (by omega), if_pos ⟨rfl, rfl⟩, gi_ld (by omega), if_neg (by omega), gi_ld (by omega), if_neg (by omega), gi_ld (by omega), if_neg (by omega), gi_ld (by omega), if_neg (by omega), hi]
      exact h.l_lean
    · rw [gi_ld (by omega), if_pos ⟨rfl, rfl⟩, gi_ld (by omega), if_neg (by omega), gi_ld (by omega), if_neg (by omega), gi_ld (by omega), if_neg (by omega), gi_ld (by omega), if_neg (by omega), gi_ld (by omega), if_neg (by omega), hi]
      exact h.l_fell
    · rw [row _ _ (by omega), b2.1 (i + 1) c (by omega)]
      exact (a1 c (by omega) hc).1
    · rw [row _ _ (by omega), b2.1 (i + 2) c (by omega)]
      exact (a1 c (by omega) hc).2
    · rw [row _ _ (by omega)]
      exact (b1 w (by omega) hw).2
    · rw [row _ _ (by omega)]
      exact (b1 w (by omega) hw).1
  · have w1 : same (fun t => i ≤ t ∧ t ≤ i + 4) M M2 := (a2.mono (fun t ht => by omega)).tr (b2.mono (fun t ht => by omega))
    unfold ldF
    exact (((((w1.si (by omega) _ _).si (by omega) _ _).si (by omega) _ _).si (by omega) _ _).si (by omega) _ _).si (by omega) _ _
