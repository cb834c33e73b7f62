/-! What a town's rules say of a state: the reference. -/
def scm : Nat → Prop := fun t => t = 15 ∨ t = 16
theorem rScm {wd b : Nat} {s : Sp} {M M' : Mem} (h : StR wd s 12 b M) (e : same scm M M') : StR wd s 12 b M' := by
  have h12 : ¬ scm 12 := by unfold scm; omega
  exact ⟨(e.1 _ _ h12).trans h.day, (e.1 _ _ h12).trans h.money, (e.1 _ _ h12).trans h.lean, (e.1 _ _ h12).trans h.hung, (e.1 _ _ h12).trans h.all, (e.1 _ _ h12).trans h.fell, fun c hc => (e.1 _ _ h12).trans (h.weight c hc), fun c hc => (e.1 _ _ h12).trans (h.mortar c hc), fun c hc => (e.1 _ _ h12).trans (h.faith c hc), fun c hc => (e.1 _ _ h12).trans (h.beside c hc)⟩
theorem cod2_congr {row row' : Nat → Int32} : ∀ {p : List Op} {f : Nat}, (∀ k, row' k = row k) → cod2 row f p → cod2 row' f p
  | [], _, h, hc => (h _).trans hc
  | .inl _ :: _, _, h, hc => ⟨(h _).trans hc.1, (h _).trans hc.2.1, cod2_congr h hc.2.2⟩
  | .inr (.inl _) :: _, _, h, hc => ⟨(h _).trans hc.1, (h _).trans hc.2.1, cod2_congr h hc.2.2⟩
  | .inr (.inr _) :: _, _, h, hc => ⟨(h _).trans hc.1, cod2_congr h hc.2⟩
theorem TwM.same {wd : Nat} {T : Tw} {A : Nat → Prop} {M M' : Mem} (h : TwM wd T M) (e : same A M M') (h0 : ¬ A 0) (h1 : ¬ A 1) (h2 : ¬ A 2) : TwM wd T M' := by
  refine ⟨(e.1 _ _ h0).trans h.wards, (e.1 _ _ h0).trans h.ground, (e.1 _ _ h0).trans h.cost, (e.1 _ _ h0).trans h.winds, fun k hk => (e.1 _ _ h1).trans (h.wind k hk), fun r hr => ?_⟩
  have hh := h.rule r hr
  cases hT : T.rule r with
  | none =>
    rw [hT] at hh
    exact (e.1 _ _ h0).trans hh
  | some p =>
    rw [hT] at hh
    obtain ⟨f, a1, a2, a3⟩ := hh
    exact ⟨f, (e.1 _ _ h0).trans a1, a2, cod2_congr (fun k => e.1 _ _ h2) a3⟩
theorem tScm {wd : Nat} {T : Tw} {M M' : Mem} (h : TwM wd T M) (e : same scm M M') : TwM wd T M' := h.same e (by unfold scm; omega) (by unfold scm; omega) (by unfold scm; omega)
def Tw.windOn (T : Tw) (day : Nat) : Nat := if T.winds = 0 then 2 else T.wind (day % T.winds)
section MS
variable {n b wd : Nat} {M : Mem} {s : Sp} {T : Tw}
theorem wfo_len : ∀ (p : List Op), p.length ≤ len2 p
  | [] => Nat.le_refl _
  | .inl _ :: p => by have := wfo_len p; simp only [len2, List.length_cons]; omega
  | .inr (.inl _) :: p => by have := wfo_len p; simp only [len2, List.length_cons]; omega
  | .inr (.inr _) :: p => by have := wfo_len p; simp only [len2, List.length_cons]; omega
theorem mRun {f : Nat} {p : List Op} {vals : Nat → Int32} (hn : 2000 < n) (hw : wfo p 0) (hf : f + len2 p < 1400) (hc : cod2 (gi M 2) f p) (hv : ∀ k, k < 9 → gi M 15 (pm k) = vals k) : ∃ g, f_X9_reckons n (nI f) M = some (runP vals p, sa M 16 g) := by
  have hl := wfo_len p
  obtain ⟨g, hg⟩ := mRun_gl n M vals hv p [] f n (M.1 16) hw (by simp) hc hf trivial (by omega)
  rw [sa_self] at hg
  exact ⟨g, hg⟩
theorem mTells (hb : b ≤ 54) (h : StR wd s 12 b M) : f_X9_tells n (nI b) M = some (si (si (si M 15 3 (nI s.lean)) 15 4 (nI s.hung)) 15 5 (nI s.day)) := by
  unfold f_X9_tells
  rw [nA_2, nA_3, nA_0, ck, if_pos (n_in (by omega) (by decide)), ck, if_pos (n_in (by omega) (by decide)), ck, if_pos (n_in (by omega) (by decide)), nI_clamp (by omega), nI_clamp (by omega), nI_clamp (by omega)]
  simp only [gi_si, show ¬ (12 = 15) by decide, false_and, if_false, h.lean, h.hung, h.day, show (3 : Int32).toNatClampNeg = 3 from rfl, show (4 : Int32).toNatClampNeg = 4 from rfl, show (5 : Int32).toNatClampNeg = 5 from rfl]
theorem mLeans44 {wind : Nat} (hn : 2000 < n) (hb : b ≤ 54) (g : s.Good wd) (gT : T.Good) (h : StR wd s 12 b M) (t : TwM wd T M) : ∃ v M', j_X9_leansBy_44 n (nI wind) (nI b) M = some (v, M') ∧ bndI v (-9) 9 = T.leaning s wind ∧ same scm M M' := by
  have h5 : scm 15 := Or.inl rfl
  have h6 : scm 16 := Or.inr rfl
  have hms := g.ms_le
  unfold j_X9_leansBy_44 Tw.leaning
  have hr := t.rule 0 (by decide)
  have gr := gT.h_rule 0 (by decide)
  cases hT : T.rule 0 with
  | none =>
    rw [hT] at hr
    have hr : gi M 0 5 = -1 := hr
    rw [if_pos hr, mMortar (by omega) hb g h]
    simp only [bd]
    rw [show (4 : Int32) = nI 4 from rfl, pk_div (by omega) (by decide) (by decide)]
    exact ⟨_, M, rfl, rfl, same.rf⟩
  | some p =>
    rw [hT] at hr gr
    obtain ⟨g1, g2, g3⟩ := gr
    obtain ⟨f, a1, a2, a3⟩ := hr
    have a1 : gi M 0 5 = nI f := a1
    rw [if_neg (by rw [a1]; exact nI_nm1 (by omega)), mTells hb h]
    simp only [bd, show (0 : Int32).toNatClampNeg = 0 from rfl, show (1 : Int32).toNatClampNeg = 1 from rfl, show (2 : Int32).toNatClampNeg = 2 from rfl]
    have e1 : same scm M (si (si (si (si M 15 3 (nI s.lean)) 15 4 (nI s.hung)) 15 5 (nI s.day)) 15 0 (nI wind)) := (((same.rf.si h5 _ _).si h5 _ _).si h5 _ _).si h5 _ _
    rw [mWeight (by omega) hb g (rScm h e1)]
    simp only []
    have e2 := e1.si h5 1 (nI s.ws)
    rw [mMortar (by omega) hb g (rScm h e2)]
    simp only []
    have e3 := e2.si h5 2 (nI s.ms)
    rw [(e3.1 0 5 (by unfold scm; omega)).trans a1]
    obtain ⟨q, hq⟩ := mRun (n := n) (vals := fun k => gi (si (si (si (si (si (si M 15 3 (nI s.lean)) 15 4 (nI s.hung)) 15 5 (nI s.day)) 15 0 (nI wind)) 15 1 (nI s.ws)) 15 2 (nI s.ms)) 15 (pm k)) hn g1 a2 (cod2_congr (fun k => e3.1 2 k (by unfold scm; omega)) a3) (fun k _ => rfl)
    rw [hq]
    refine ⟨_, _, rfl, ?_, e3.sa h6 q⟩
    rw [runP_congr (vals' := vL s wind) (fun k hk hv => ?_) g1 g2]
    have hv : k < 6 := hv
    simp only [gi_si, true_and]
    rcases (show k = 0 ∨ k = 1 ∨ k = 2 ∨ k = 3 ∨ k = 4 ∨ k = 5 by omega) with rfl | rfl | rfl | rfl | rfl | rfl <;> rfl
theorem mLeans {wind : Nat} (hn : 2000 < n) (hb : b ≤ 54) (g : s.Good wd) (gT : T.Good) (h : StR wd s 12 b M) (t : TwM wd T M) (hW : (gi M 0 52 = (-1 : Int32) ∧ wind = T.windOn s.day) ∨ (gi M 0 52 = nI wind ∧ wind < 10)) : ∃ v M', f_X9_leansBy n (nI b) M = some (v, M') ∧ bndI v (-9) 9 = T.leaning s wind ∧ same scm M M' := by
  have hd := g.h_day
  have hws := gT.h_winds
  unfold f_X9_leansBy
  rcases hW with ⟨h1, h2⟩ | ⟨h1, h2⟩
  · rw [if_pos h1, t.winds]
    subst h2
    unfold Tw.windOn
    by_cases hz : T.winds = 0
    · rw [if_pos (by rw [hz]; rfl), if_pos hz]
      exact mLeans44 hn hb g gT h t
    · have hne : ¬ nI T.winds = 0 := nI_ne0 (by omega) (by omega)
      have hlt : s.day % T.winds < T.winds := Nat.mod_lt _ (by omega)
      rw [if_neg hne, if_neg hz, nA_0, ck, if_pos (n_in (by omega) (by decide)), ck, if_pos hne, nI_clamp (by omega), h.day, pk_rem (by omega) (by omega) (by omega), ck, if_pos (n_in (by omega) (by decide)), nI_clamp (by omega), t.wind _ hlt]
      exact mLeans44 hn hb g gT h t
  · rw [h1, if_neg (nI_nm1 (by omega))]
    exact mLeans44 hn hb g gT h t
theorem mTellsWard {w fell : Nat} (hn : 2000 < n) (hb : b ≤ 54) (g : s.Good wd) (h : StR wd s 12 b M) (t : TwM wd T M) (hw : w < wd) : ∃ M', f_X9_tellsWard n (nI b) (nI w) (nI fell) M = some M' ∧ same scm M M' ∧ ∀ k, k < 9 → (k < 3 ∨ 6 ≤ k) → gi M' 15 (pm k) = vW s w (s.doubt wd w) fell k := by
  have h5 : scm 15 := Or.inl rfl
  have hwd := g.h_wd
  unfold f_X9_tellsWard
  rw [mTells hb h]
  simp only [bd]
  rw [nA_38, nI_add, ck, if_pos (n_in (by omega) (by decide)), nI_clamp (by omega)]
  simp only [show (6 : Int32).toNatClampNeg = 6 from rfl, show (7 : Int32).toNatClampNeg = 7 from rfl, show (8 : Int32).toNatClampNeg = 8 from rfl, gi_si, show ¬ (12 = 15) by decide, false_and, if_false, h.faith w hw]
  have e1 : same scm M (si (si (si (si M 15 3 (nI s.lean)) 15 4 (nI s.hung)) 15 5 (nI s.day)) 15 6 (nI (s.faith w))) := (((same.rf.si h5 _ _).si h5 _ _).si h5 _ _).si h5 _ _
  rw [mDoubt (by omega) hb g (rScm h e1) (tScm t e1).wards hw]
  refine ⟨_, rfl, (e1.si h5 _ _).si h5 _ _, fun k hk hv => ?_⟩
  simp only [gi_si, true_and]
  rcases (show k = 0 ∨ k = 1 ∨ k = 2 ∨ k = 6 ∨ k = 7 ∨ k = 8 by omega) with rfl | rfl | rfl | rfl | rfl | rfl <;> rfl
theorem mRunW {r f w d fell : Nat} {p : List Op} (hn : 2000 < n) (hr0 : ¬ r = 0) (hw : wfo p 0) (ha : allV (vOK r) p) (hf : f + len2 p < 1400) (hc : cod2 (gi M 2) f p) (hv : ∀ k, k < 9 → (k < 3 ∨ 6 ≤ k) → gi M 15 (pm k) = vW s w d fell k) : ∃ g, f_X9_reckons n (nI f) M = some (runP (vW s w d fell) p, sa M 16 g) := by
  obtain ⟨q, hq⟩ := mRun (n := n) (vals := fun k => gi M 15 (pm k)) hn hw hf hc (fun k _ => rfl)
  rw [runP_congr (vals' := vW s w d fell) (fun k hk hv' => hv k hk (by unfold vOK at hv'; rw [if_neg hr0] at hv'; exact hv')) hw ha] at hq
  exact ⟨q, hq⟩
theorem mGives {w : Nat} (hn : 2000 < n) (hb : b ≤ 54) (g : s.Good wd) (gT : T.Good) (h : StR wd s 12 b M) (t : TwM wd T M) (hw : w < wd) : ∃ M', f_X9_givesBy n (nI b) (nI w) M = some (T.gift s w (s.doubt wd w), M') ∧ same scm M M' := by
  have h6 : scm 16 := Or.inr rfl
  have hwd := g.h_wd
  have hfa := g.h_faith w hw
  unfold f_X9_givesBy Tw.gift
  have hr := t.rule 1 (by decide)
  have gr := gT.h_rule 1 (by decide)
  cases hT : T.rule 1 with
  | none =>
    rw [hT] at hr
    have hr : gi M 0 6 = -1 := hr
    rw [if_pos hr, nA_38, nI_add, ck, if_pos (n_in (by omega) (by decide)), nI_clamp (by omega), h.faith w hw, show (20 : Int32) = nI 20 from rfl, pk_div (by omega) (by decide) (by decide)]
    exact ⟨M, rfl, same.rf⟩
  | some p =>
    rw [hT] at hr gr
    obtain ⟨g1, g2, g3⟩ := gr
    obtain ⟨f, a1, a2, a3⟩ := hr
    have a1 : gi M 0 6 = nI f := a1
    obtain ⟨M1, q1, e1, v1⟩ := mTellsWard (fell := s.fell) hn hb g h t hw
    rw [if_neg (by rw [a1]; exact nI_nm1 (by omega)), nA_5, ck, if_pos (n_in (by omega) (by decide)), nI_clamp (by omega), h.fell, q1]
    simp only [bd]
    rw [(e1.1 0 6 (by unfold scm; omega)).trans a1]
    obtain ⟨q, hq⟩ := mRunW (n := n) (r := 1) hn (by decide) g1 g2 a2 (cod2_congr (fun k => e1.1 2 k (by unfold scm; omega)) a3) v1
    rw [hq]
    simp only []
    rw [mBounded]
    exact ⟨_, rfl, e1.sa h6 q⟩
theorem mBelieves {w fell : Nat} (hn : 2000 < n) (hb : b ≤ 54) (g : s.Good wd) (gT : T.Good) (h : StR wd s 12 b M) (t : TwM wd T M) (hw : w < wd) : ∃ v M', f_X9_believesBy n (nI b) (nI w) (nI fell) M = some (v, M') ∧ bndI v (-9) 9 = T.belief s w (s.doubt wd w) fell ∧ same scm M M' := by
  have h6 : scm 16 := Or.inr rfl
  unfold f_X9_believesBy Tw.belief
  have hr := t.rule 2 (by decide)
  have gr := gT.h_rule 2 (by decide)
  cases hT : T.rule 2 with
  | none =>
    rw [hT] at hr
    have hr : gi M 0 7 = -1 := hr
    rw [if_pos hr, mDoubt (by omega) hb g h t.wards hw]
    exact ⟨_, M, rfl, rfl, same.rf⟩
  | some p =>
    rw [hT] at hr gr
    obtain ⟨g1, g2, g3⟩ := gr
    obtain ⟨f, a1, a2, a3⟩ := hr
    have a1 : gi M 0 7 = nI f := a1
    obtain ⟨M1, q1, e1, v1⟩ := mTellsWard (fell := fell) hn hb g h t hw
    rw [if_neg (by rw [a1]; exact nI_nm1 (by omega)), q1]
    simp only [bd]
    rw [(e1.1 0 7 (by unfold scm; omega)).trans a1]
    obtain ⟨q, hq⟩ := mRunW (n := n) (r := 2) hn (by decide) g1 g2 a2 (cod2_congr (fun k => e1.1 2 k (by unfold scm; omega)) a3) v1
    rw [hq]
    exact ⟨_, _, rfl, rfl, e1.sa h6 q⟩
end MS
