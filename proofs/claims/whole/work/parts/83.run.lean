/-! Rules are run: by the class, and by the reference. -/
theorem cRun_gl (N j rule to : Nat) (M : Mem) (hr : rule < 3) (hto : to ≤ 700) (hT : gi M (j + 4) rule = nI to) : ∀ (p : List Op) (st : List Int32) (f n : Nat) (g : Nat → Int32), wfo p st.length → st.length ≤ 32 → cod (gi M (j + 2)) f p → f + p.length = to → stk g st → p.length < n →
    ∃ g', gl (b_X6_run_9 N j (nI rule)) n (nI st.length, nI f, sa M (j + 6) g) = some ((p.foldl (stp (gi M (j + 5))) st).headD 0, sa M (j + 6) g') := by
  intro p
  induction p with
  | nil =>
    intro st f n g hw hl hc hf hs hn
    obtain ⟨n, rfl⟩ : ∃ k, n = k + 1 := ⟨n - 1, by simp at hn; omega⟩
    have hf' : f = to := by simpa using hf
    subst hf'
    match st, hw, hs with
    | [a], _, hs =>
      refine ⟨g, ?_⟩
      rw [gl, b_X6_run_9]
      simp only [ck, if_pos (n_in hr (by decide)), nI_clamp (show rule < 2 ^ 31 by omega), gi_sa_ne (show j + 4 ≠ j + 6 by omega), hT, if_pos (nI_le (Nat.le_refl f) (by omega)), j_X6_run_158, List.length_singleton]
      rw [if_neg (by decide), gi_sa_eq]
      have h0 : g 0 = a := hs.1
      show some (g (0 : Int32).toNatClampNeg, _) = _
      rw [show (0 : Int32).toNatClampNeg = 0 from rfl, h0]
      rfl
  | cons o p ih =>
    intro st f n g hw hl hc hf hs hn
    obtain ⟨n, rfl⟩ : ∃ k, n = k + 1 := ⟨n - 1, by simp at hn; omega⟩
    have hlen : f + (p.length + 1) = to := hf
    have hn' : p.length < n := by simp at hn; omega
    have hcf : gi M (j + 2) f = enc1 o := hc.1
    have hin : inb (nI f) 700 := n_in (by omega) (by decide)
    have hfc : (nI f).toNatClampNeg = f := nI_clamp (by omega)
    have hnle : ¬ nI to ≤ nI f := nI_ge (by omega) (by omega)
    have body : b_X6_run_9 N j (nI rule) (nI st.length, nI f, sa M (j + 6) g) = (if enc1 o ≤ (-10 : Int32) then (j_X6_run_71 N j (nI rule) (nI st.length) (nI f) (enc1 o) (sa M (j + 6) g)) else (if (32 : Int32) ≤ nI st.length then (j_X6_run_71 N j (nI rule) (nI st.length) (nI f) (enc1 o) (sa M (j + 6) g)) else (if enc1 o < 0 then (ck (inb ((-1 : Int32) - enc1 o) 9) (j_X6_run_64 N j (gi M (j + 5) ((-1 : Int32) - enc1 o).toNatClampNeg) (nI st.length) (nI rule) (nI st.length) (nI f) (sa M (j + 6) g))) else (j_X6_run_64 N j (enc1 o) (nI st.length) (nI rule) (nI st.length) (nI f) (sa M (j + 6) g))))) := by
      rw [b_X6_run_9]
      simp only [nI_clamp (show rule < 2 ^ 31 by omega), gi_sa_ne (show j + 4 ≠ j + 6 by omega), gi_sa_ne (show j + 2 ≠ j + 6 by omega), gi_sa_ne (show j + 5 ≠ j + 6 by omega), hT, hfc, hcf]
      rw [ck, if_pos (n_in hr (by decide)), if_neg hnle, ck, if_pos hin]
    have hst : (nI st.length).toNatClampNeg = st.length := nI_clamp (by omega)
    rcases o with v | k | q
    · obtain ⟨h1, h2, h3⟩ := hw
      obtain ⟨e1, e2⟩ := e_num h1
      obtain ⟨g', hg'⟩ := ih (nI v :: st) (f + 1) n (upd g st.length (nI v)) h3 (by simp; omega) hc.2 (by omega) (stk_push hs) hn'
      refine ⟨g', ?_⟩
      rw [gl, body]
      rw [show enc1 (Sum.inl v) = nI v from rfl, if_neg e1, if_neg (show ¬ (32 : Int32) ≤ nI st.length from nI_ge (b := 32) h2 (by decide)), if_neg e2, j_X6_run_64, ck, if_pos (n_in h2 (by decide)), j_X6_run_152, hst, si_sa]
      simp only [nI_1]
      exact hg'
    · obtain ⟨h1, h2, h3⟩ := hw
      obtain ⟨e1, e2, e3⟩ := e_val k h1
      obtain ⟨g', hg'⟩ := ih (gi M (j + 5) k :: st) (f + 1) n (upd g st.length (gi M (j + 5) k)) h3 (by simp; omega) hc.2 (by omega) (stk_push hs) hn'
      refine ⟨g', ?_⟩
      rw [gl, body]
      rw [show enc1 (Sum.inr (Sum.inl k)) = (-1 : Int32) - nI k from rfl, if_neg e1, if_neg (show ¬ (32 : Int32) ≤ nI st.length from nI_ge (b := 32) h2 (by decide)), if_pos e2, e3, ck, if_pos (n_in h1 (by decide)), nI_clamp (by omega), j_X6_run_64, ck, if_pos (n_in h2 (by decide)), j_X6_run_152, hst, si_sa]
      simp only [nI_1]
      exact hg'
    rcases q with _ | q
    · obtain ⟨h1, h3⟩ := hw
      rcases st with _ | ⟨a, r⟩
      · exact absurd h1 (by decide)
      · have h3 : wfo p (a :: r).length := h3
        obtain ⟨g', hg'⟩ := ih ((if a = 0 then 1 else 0) :: r) (f + 1) n (upd g r.length (if a = 0 then 1 else 0)) h3 hl hc.2 (by omega) (stk_push hs.2) hn'
        refine ⟨g', ?_⟩
        rw [gl, body]
        have hl' : r.length + 1 ≤ 32 := hl
        have hsub : nI (a :: r).length - (1 : Int32) = nI r.length := nI_pred r.length
        rw [show enc1 (Sum.inr (Sum.inr 0)) = (-10 : Int32) from rfl, if_pos (show (-10 : Int32) ≤ -10 by decide), j_X6_run_71, if_pos rfl, if_neg (show ¬ nI (a :: r).length < (1 : Int32) from nI_nlt (b := 1) (by simp) (by simp; omega)), hsub, ck, if_pos (n_in (by omega) (by decide)), nI_clamp (by omega), gi_sa_eq, hs.1]
        by_cases ha : a = 0
        · rw [if_pos ha, j_X6_run_106, ck, if_pos (n_in (by omega) (by decide)), j_X6_run_152, nI_clamp (by omega), si_sa]
          simp only [nI_1]
          simp only [if_pos ha] at hg'
          rw [show ((Sum.inr (Sum.inr 0) : Op) :: p).foldl (stp (gi M (j + 5))) (a :: r) = p.foldl (stp (gi M (j + 5))) ((if a = 0 then 1 else 0) :: r) from rfl, if_pos ha]
          exact hg'
        · rw [if_neg ha, j_X6_run_106, ck, if_pos (n_in (by omega) (by decide)), j_X6_run_152, nI_clamp (by omega), si_sa]
          simp only [nI_1]
          simp only [if_neg ha] at hg'
          rw [show ((Sum.inr (Sum.inr 0) : Op) :: p).foldl (stp (gi M (j + 5))) (a :: r) = p.foldl (stp (gi M (j + 5))) ((if a = 0 then 1 else 0) :: r) from rfl, if_neg ha]
          exact hg'
    · obtain ⟨h1, h2, h32, h3⟩ := hw
      obtain ⟨e1, e2, e3⟩ := e_act q h1
      rcases st with _ | ⟨b, _ | ⟨a, r⟩⟩
      · exact absurd h2 (by simp)
      · exact absurd h2 (by simp)
      · have h3 : wfo p (r.length + 1) := h3
        have hl' : r.length + 2 ≤ 32 := hl
        obtain ⟨g', hg'⟩ := ih (joinI (q + 1) a b :: r) (f + 1) n (upd g r.length (joinI (q + 1) a b)) h3 (by simp; omega) hc.2 (by omega) (stk_push hs.2.2) hn'
        refine ⟨g', ?_⟩
        rw [gl, body]
        have hm : nI (b :: a :: r).length + (-1 : Int32) = nI (r.length + 1) := pk_m1 (r.length + 1)
        have hm2 : nI (r.length + 1) - (1 : Int32) = nI r.length := nI_pred r.length
        have hj : f_X6_join N ((-10 : Int32) - nI (q + 1)) (gi (sa M (j + 6) g) (j + 6) (nI r.length).toNatClampNeg) (gi (sa M (j + 6) g) (j + 6) (nI (r.length + 1)).toNatClampNeg) (sa M (j + 6) g) = some (joinI (q + 1) a b, sa M (j + 6) g) := by
          rw [nI_clamp (by omega), nI_clamp (by omega), gi_sa_eq, gi_sa_eq, hs.2.1, show g (r.length + 1) = b from hs.1]
          exact cJoin N _ a b q h1
        rw [show enc1 (Sum.inr (Sum.inr (q + 1))) = (-10 : Int32) - nI (q + 1) from rfl, if_pos e1, j_X6_run_71, if_neg e2, j_X6_run_110, if_neg e3, if_neg (show ¬ nI (b :: a :: r).length < (2 : Int32) from nI_nlt (b := 2) (by simp) (by simp; omega)), hm, hm2, ck, if_pos (n_in (by omega) (by decide)), ck, if_pos (n_in (by omega) (by decide)), hj]
        simp only [bd]
        rw [ck, if_pos (n_in (by omega) (by decide)), j_X6_run_152, nI_clamp (by omega), si_sa]
        simp only [nI_1]
        exact hg'
