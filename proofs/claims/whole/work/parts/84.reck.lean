/-! The reference reckons rules. -/
def pm (k : Nat) : Nat := ([3, 4, 5, 0, 1, 2, 6, 7, 8] : List Nat).getD k 0
def am (j : Nat) : Nat := ([3, 5, 4, 6, 7, 8, 9, 10, 11] : List Nat).getD j 0
def len2 : List Op → Nat
  | [] => 0
  | .inl _ :: p => 2 + len2 p
  | .inr (.inl _) :: p => 2 + len2 p
  | .inr (.inr _) :: p => 1 + len2 p
def cod2 (row : Nat → Int32) : Nat → List Op → Prop
  | f, [] => row f = 0
  | f, .inl v :: p => row f = 1 ∧ row (f + 1) = nI v ∧ cod2 row (f + 2) p
  | f, .inr (.inl k) :: p => row f = 2 ∧ row (f + 1) = nI (pm k) ∧ cod2 row (f + 2) p
  | f, .inr (.inr j) :: p => row f = nI (am j) ∧ cod2 row (f + 1) p
theorem pm_lt : ∀ k, k < 9 → pm k < 9 := by decide +kernel
theorem am_ne : ∀ j, j < 8 → ¬ nI (am (j + 1)) = 0 ∧ ¬ nI (am (j + 1)) = 1 ∧ ¬ nI (am (j + 1)) = 2 ∧ ¬ nI (am (j + 1)) = 3 := by decide +kernel
theorem mWorks (n : Nat) (M : Mem) (a b : Int32) : ∀ j, j < 8 → f_X9_works n (nI (am (j + 1))) a b M = some (joinI (j + 1) a b, M)
  | 0, _ => by unfold f_X9_works joinI; simp only [show nI (am (0 + 1)) = 5 from rfl]; by_cases h1 : a = 0 <;> by_cases h2 : b = 0 <;> simp [h1, h2]
  | 1, _ => by unfold f_X9_works joinI; simp only [show nI (am (1 + 1)) = 4 from rfl]; by_cases h1 : a = 0 <;> by_cases h2 : b = 0 <;> simp [h1, h2]
  | 2, _ => by unfold f_X9_works joinI; simp only [show nI (am (2 + 1)) = 6 from rfl]; by_cases h1 : b ≤ a <;> simp [h1]
  | 3, _ => by unfold f_X9_works joinI; simp only [show nI (am (3 + 1)) = 7 from rfl]; by_cases h1 : a = b <;> simp [h1]
  | 4, _ => by unfold f_X9_works joinI; simp only [show nI (am (4 + 1)) = 8 from rfl]; simp
  | 5, _ => by unfold f_X9_works joinI; simp only [show nI (am (5 + 1)) = 9 from rfl]; simp
  | 6, _ => by unfold f_X9_works joinI; simp only [show nI (am (6 + 1)) = 10 from rfl]; simp
  | 7, _ => by unfold f_X9_works joinI; simp only [show nI (am (7 + 1)) = 11 from rfl]; by_cases h1 : b = 0 <;> simp [h1, ck]
  | j + 8, h => absurd h (by omega)
theorem mRun_gl (N : Nat) (M : Mem) (vals : Nat → Int32) (hv : ∀ k, k < 9 → gi M 15 (pm k) = vals k) : ∀ (p : List Op) (st : List Int32) (f n : Nat) (g : Nat → Int32), wfo p st.length → st.length ≤ 32 → cod2 (gi M 2) f p → f + len2 p < 1400 → stk g st → p.length < n →
    ∃ g', gl (b_X9_reckons_4 N) n (nI st.length, nI f, sa M 16 g) = some ((p.foldl (stp vals) st).headD 0, sa M 16 g') := by
  intro p
  induction p with
  | nil =>
    intro st f n g hw hl hc hf hs hn
    obtain ⟨n, rfl⟩ : ∃ k, n = k + 1 := ⟨n - 1, by simp at hn; omega⟩
    have hf' : f < 1400 := by simpa [len2] using hf
    have hc' : gi M 2 f = 0 := hc
    match st, hw, hs with
    | [a], _, hs =>
      refine ⟨g, ?_⟩
      rw [gl, b_X9_reckons_4]
      simp only [nI_clamp (show f < 2 ^ 31 by omega), gi_sa_ne (show 2 ≠ 16 by omega), hc']
      rw [ck, if_pos (n_in hf' (by decide)), if_pos trivial, gi_sa_eq]
      have h0 : g 0 = a := hs.1
      simp only [mr]
      rw [show (0 : Int32).toNatClampNeg = 0 from rfl, h0]
      rfl
  | cons o p ih =>
    intro st f n g hw hl hc hf hs hn
    obtain ⟨n, rfl⟩ : ∃ k, n = k + 1 := ⟨n - 1, by simp at hn; omega⟩
    have hn' : p.length < n := by simp at hn; omega
    have hst : (nI st.length).toNatClampNeg = st.length := nI_clamp (by omega)
    have hf0 : f < 1400 := by omega
    have hin : inb (nI f) 1400 := n_in (by omega) (by decide)
    have hfc : (nI f).toNatClampNeg = f := nI_clamp (by omega)
    rcases o with v | k | q
    · obtain ⟨h1, h2, h3⟩ := hw
      obtain ⟨c1, c2, c3⟩ := hc
      have hf2 : f + (2 + len2 p) < 1400 := hf
      obtain ⟨g', hg'⟩ := ih (nI v :: st) (f + 2) n (upd g st.length (nI v)) h3 (by simp; omega) c3 (by omega) (stk_push hs) hn'
      refine ⟨g', ?_⟩
      rw [gl, b_X9_reckons_4]
      simp only [hfc, gi_sa_ne (show 2 ≠ 16 by omega), c1]
      rw [ck, if_pos hin, if_neg (by decide), ck, if_pos hin, if_pos trivial, j_X9_reckons_36, if_pos rfl, nI_1, ck, if_pos (n_in (by omega) (by decide)), nI_clamp (by omega), gi_sa_ne (show 2 ≠ 16 by omega), c2, j_X9_reckons_67, ck, if_pos (n_in (by omega) (by decide)), j_X9_reckons_140, hst, si_sa]
      simp only [nI_1]
      exact hg'
    · obtain ⟨h1, h2, h3⟩ := hw
      obtain ⟨c1, c2, c3⟩ := hc
      have hf2 : f + (2 + len2 p) < 1400 := hf
      have hp := pm_lt k h1
      obtain ⟨g', hg'⟩ := ih (vals k :: st) (f + 2) n (upd g st.length (vals k)) h3 (by simp; omega) c3 (by omega) (stk_push hs) hn'
      refine ⟨g', ?_⟩
      have h15 : gi (sa M 16 g) 15 (nI (pm k)).toNatClampNeg = vals k := by rw [nI_clamp (by omega), gi_sa_ne (by omega), hv k h1]
      rw [gl, b_X9_reckons_4]
      simp only [hfc, gi_sa_ne (show 2 ≠ 16 by omega), c1]
      rw [ck, if_pos hin, if_neg (by decide), ck, if_pos hin, if_neg (by decide), if_pos trivial, j_X9_reckons_36, if_neg (by decide), nI_1, ck, if_pos (n_in (by omega) (by decide)), nI_clamp (by omega), gi_sa_ne (show 2 ≠ 16 by omega), c2, ck, if_pos (n_in hp (by decide)), h15, j_X9_reckons_67, ck, if_pos (n_in (by omega) (by decide)), j_X9_reckons_140, hst, si_sa]
      simp only [nI_1]
      exact hg'
    rcases q with _ | q
    · obtain ⟨h1, h3⟩ := hw
      obtain ⟨c1, c3⟩ := hc
      have hf2 : f + (1 + len2 p) < 1400 := hf
      rcases st with _ | ⟨a, r⟩
      · exact absurd h1 (by decide)
      · have h3 : wfo p (a :: r).length := h3
        have hl' : r.length + 1 ≤ 32 := hl
        have c1 : gi M 2 f = 3 := c1
        obtain ⟨g', hg'⟩ := ih ((if a = 0 then 1 else 0) :: r) (f + 1) n (upd g r.length (if a = 0 then 1 else 0)) h3 hl c3 (by omega) (stk_push hs.2) hn'
        refine ⟨g', ?_⟩
        have hsub : nI (a :: r).length - (1 : Int32) = nI r.length := nI_pred r.length
        have hk : gi (sa M 16 g) 16 (nI r.length).toNatClampNeg = a := by rw [nI_clamp (by omega), gi_sa_eq]; exact hs.1
        rw [gl, b_X9_reckons_4]
        simp only [hfc, gi_sa_ne (show 2 ≠ 16 by omega), c1]
        rw [ck, if_pos hin, if_neg (by decide), ck, if_pos hin, if_neg (by decide), if_neg (by decide), if_pos trivial, hsub, ck, if_pos (n_in (by omega) (by decide)), hk]
        by_cases ha : a = 0
        · rw [if_pos ha, j_X9_reckons_106, ck, if_pos (n_in (by omega) (by decide)), j_X9_reckons_140, nI_clamp (by omega), si_sa]
          simp only [nI_1]
          simp only [if_pos ha] at hg'
          rw [show ((Sum.inr (Sum.inr 0) : Op) :: p).foldl (stp vals) (a :: r) = p.foldl (stp vals) ((if a = 0 then 1 else 0) :: r) from rfl, if_pos ha]
          exact hg'
        · rw [if_neg ha, j_X9_reckons_106, ck, if_pos (n_in (by omega) (by decide)), j_X9_reckons_140, nI_clamp (by omega), si_sa]
          simp only [nI_1]
          simp only [if_neg ha] at hg'
          rw [show ((Sum.inr (Sum.inr 0) : Op) :: p).foldl (stp vals) (a :: r) = p.foldl (stp vals) ((if a = 0 then 1 else 0) :: r) from rfl, if_neg ha]
          exact hg'
    · obtain ⟨h1, h2, h32, h3⟩ := hw
      obtain ⟨c1, c3⟩ := hc
      have hf2 : f + (1 + len2 p) < 1400 := hf
      obtain ⟨e0, e1, e2, e3⟩ := am_ne q h1
      rcases st with _ | ⟨b, _ | ⟨a, r⟩⟩
      · exact absurd h2 (by simp)
      · exact absurd h2 (by simp)
      · have h3 : wfo p (r.length + 1) := h3
        have hl' : r.length + 2 ≤ 32 := hl
        obtain ⟨g', hg'⟩ := ih (joinI (q + 1) a b :: r) (f + 1) n (upd g r.length (joinI (q + 1) a b)) h3 (by simp; omega) c3 (by omega) (stk_push hs.2.2) hn'
        refine ⟨g', ?_⟩
        have hm : nI (b :: a :: r).length + (-1 : Int32) = nI (r.length + 1) := pk_m1 (r.length + 1)
        have hm2 : nI (r.length + 1) - (1 : Int32) = nI r.length := nI_pred r.length
        have hj : f_X9_works N (nI (am (q + 1))) (gi (sa M 16 g) 16 (nI r.length).toNatClampNeg) (gi (sa M 16 g) 16 (nI (r.length + 1)).toNatClampNeg) (sa M 16 g) = some (joinI (q + 1) a b, sa M 16 g) := by
          rw [nI_clamp (by omega), nI_clamp (by omega), gi_sa_eq, gi_sa_eq, hs.2.1, show g (r.length + 1) = b from hs.1]
          exact mWorks N _ a b q h1
        rw [gl, b_X9_reckons_4]
        simp only [hfc, gi_sa_ne (show 2 ≠ 16 by omega), c1]
        rw [ck, if_pos hin, if_neg e0, ck, if_pos hin, if_neg e1, if_neg e2, if_neg e3, hm, hm2, ck, if_pos (n_in (by omega) (by decide)), ck, if_pos (n_in (by omega) (by decide)), hj]
        simp only [bd]
        rw [ck, if_pos (n_in (by omega) (by decide)), j_X9_reckons_140, nI_clamp (by omega), si_sa]
        simp only [nI_1]
        exact hg'
