/-! What a town's rules say of a state: the class. -/
def vL (s : Sp) (wind : Nat) (k : Nat) : Int32 := nI (([s.lean, s.hung, s.day, wind, s.ws, s.ms] : List Nat).getD k 0)
def vW (s : Sp) (w d fell : Nat) (k : Nat) : Int32 := nI (([s.lean, s.hung, s.day, 0, 0, 0, s.faith w, d, fell] : List Nat).getD k 0)
def Tw.leaning (T : Tw) (s : Sp) (wind : Nat) : Int32 := bndI (match T.rule 0 with | none => nI wind - nI (s.ms / 4) | some p => runP (vL s wind) p) (-9) 9
def Tw.gift (T : Tw) (s : Sp) (w d : Nat) : Int32 := match T.rule 1 with | none => nI (s.faith w / 20) | some p => bndI (runP (vW s w d s.fell) p) 0 20
def Tw.belief (T : Tw) (s : Sp) (w d fell : Nat) : Int32 := bndI (match T.rule 2 with | none => (1 : Int32) - nI d - (3 : Int32) * nI fell | some p => runP (vW s w d fell) p) (-9) 9
def scr (j : Nat) : Nat → Prop := fun t => t = j + 5 ∨ t = j + 6
theorem cScr {wd i j : Nat} {s : Sp} {M M' : Mem} (h : StC wd s i M) (hij : i + 5 < j) (e : same (scr j) M M') : StC wd s i M' :=
  h.same e (by unfold scr; omega) (by unfold scr; omega) (by unfold scr; omega) (by unfold scr; omega) (by unfold scr; omega)
theorem tScr {T : Tw} {j : Nat} {M M' : Mem} (h : TwC T j M) (e : same (scr j) M M') : TwC T j M' :=
  h.same e (by unfold scr; omega) (by unfold scr; omega) (by unfold scr; omega) (by unfold scr; omega) (by unfold scr; omega)
theorem runP_congr {vals vals' : Nat → Int32} {P : Nat → Prop} {p : List Op} (h : ∀ k, k < 9 → P k → vals k = vals' k) (hw : wfo p 0) (ha : allV P p) : runP vals p = runP vals' p := by
  unfold runP
  rw [fold_congr h p [] 0 hw ha]
section CS
variable {n i j wd : Nat} {M : Mem} {s : Sp} {T : Tw}
theorem cHas {r : Nat} (hr : r < 3) : f_X6_hasRule n j (nI r) M = some (if gi M (j + 3) r = (-1 : Int32) then (0 : Int32) else 1, M) := by
  unfold f_X6_hasRule
  rw [ck, if_pos (n_in hr (by decide)), nI_clamp (by omega)]
  by_cases h : gi M (j + 3) r = (-1 : Int32)
  · rw [if_pos h, if_pos h]
  · rw [if_neg h, if_neg h]
theorem nI_nm1 {f : Nat} (h : f < 2 ^ 31) : ¬ nI f = (-1 : Int32) := fun c => by
  have h1 := nI_toInt h
  rw [c, show (-1 : Int32).toInt = -1 from rfl] at h1
  omega
theorem cSet (hij : i + 5 < j) (h : StC wd s i M) : f_X6_setValues n j i M = some (si (si (si M (j + 5) 0 (nI s.lean)) (j + 5) 1 (nI s.hung)) (j + 5) 2 (nI s.day)) := by
  have hne : ¬ i = j + 5 := by omega
  unfold f_X6_setValues
  simp only [gi_si, hne, false_and, if_false, h.lean, h.hung, h.day, show (0 : Int32).toNatClampNeg = 0 from rfl, show (1 : Int32).toNatClampNeg = 1 from rfl, show (2 : Int32).toNatClampNeg = 2 from rfl]
theorem cLeaning {wind : Nat} (hn : 1000 < n) (g : s.Good wd) (gT : T.Good) (hij : i + 5 < j) (h : StC wd s i M) (t : TwC T j M) : ∃ M', f_X6_leaning n j i (nI wind) M = some (T.leaning s wind, M') ∧ same (scr j) M M' := by
  have h5 : scr j (j + 5) := Or.inl rfl
  have h6 : scr j (j + 6) := Or.inr rfl
  have hms := g.ms_le
  unfold f_X6_leaning Tw.leaning
  rw [show (0 : Int32) = nI 0 from rfl, cHas (by decide)]
  simp only [bd]
  have hr := t.rule 0 (by decide)
  have gr := gT.h_rule 0 (by decide)
  cases hT : T.rule 0 with
  | none =>
    rw [hT] at hr
    have hr : gi M (j + 3) 0 = -1 := hr
    rw [if_pos hr, if_pos (show (0 : Int32) = nI 0 from rfl), cMortarHung (by omega) g h]
    simp only [bd]
    rw [cWithin, show (4 : Int32) = nI 4 from rfl, pk_div (by omega) (by decide) (by decide)]
    exact ⟨M, rfl, same.rf⟩
  | some p =>
    rw [hT] at hr gr
    obtain ⟨g1, g2, g3⟩ := gr
    have hf : ¬ gi M (j + 3) 0 = (-1 : Int32) := by
      obtain ⟨f, a1, -, a3, -⟩ := hr
      rw [a1]
      exact nI_nm1 (by omega)
    rw [if_neg hf, if_neg (show ¬ (1 : Int32) = nI 0 by decide), cSet hij h]
    simp only [bd, show (3 : Int32).toNatClampNeg = 3 from rfl, show (4 : Int32).toNatClampNeg = 4 from rfl, show (5 : Int32).toNatClampNeg = 5 from rfl]
    have e1 : same (scr j) M (si (si (si (si M (j + 5) 0 (nI s.lean)) (j + 5) 1 (nI s.hung)) (j + 5) 2 (nI s.day)) (j + 5) 3 (nI wind)) := (((same.rf.si h5 _ _).si h5 _ _).si h5 _ _).si h5 _ _
    rw [cWeightHung (by omega) g (cScr h hij e1)]
    simp only []
    have e2 := e1.si h5 4 (nI s.ws)
    rw [cMortarHung (by omega) g (cScr h hij e2)]
    simp only []
    have e3 := e2.si h5 5 (nI s.ms)
    have hr3 := (tScr t e3).rule 0 (by decide)
    rw [hT] at hr3
    obtain ⟨q, hq⟩ := cRun hn (by decide) g1 hr3
    rw [hq]
    simp only []
    rw [cWithin]
    refine ⟨_, ?_, e3.sa h6 q⟩
    rw [runP_congr (vals' := vL s wind) (fun k hk hv => ?_) g1 g2]
    have hv : k < 6 := hv
    simp only [gi_si, true_and]
    rcases (show k = 0 ∨ k = 1 ∨ k = 2 ∨ k = 3 ∨ k = 4 ∨ k = 5 by omega) with rfl | rfl | rfl | rfl | rfl | rfl <;> rfl
theorem cSetWard {w d : Nat} (g : s.Good wd) (hw : w < wd) (hij : i + 5 < j) (h : StC wd s i M) : ∃ M', f_X6_setWardValues n j i (nI w) (nI d) M = some M' ∧ same (scr j) M M' ∧ ∀ k, k < 9 → (k < 3 ∨ 6 ≤ k) → gi M' (j + 5) k = vW s w d s.fell k := by
  have h5 : scr j (j + 5) := Or.inl rfl
  have hwd := g.h_wd
  have hne : ¬ i = j + 5 := by omega
  have hne3 : ¬ i + 3 = j + 5 := by omega
  unfold f_X6_setWardValues
  rw [cSet hij h]
  simp only [bd]
  rw [ck, if_pos (n_in (by omega) (by decide)), nI_clamp (by omega)]
  simp only [show (6 : Int32).toNatClampNeg = 6 from rfl, show (7 : Int32).toNatClampNeg = 7 from rfl, show (8 : Int32).toNatClampNeg = 8 from rfl]
  refine ⟨_, rfl, (((((same.rf.si h5 _ _).si h5 _ _).si h5 _ _).si h5 _ _).si h5 _ _).si h5 _ _, fun k hk hv => ?_⟩
  simp only [gi_si, true_and, hne, hne3, false_and, if_false, h.fell, h.faith w hw]
  rcases (show k = 0 ∨ k = 1 ∨ k = 2 ∨ k = 6 ∨ k = 7 ∨ k = 8 by omega) with rfl | rfl | rfl | rfl | rfl | rfl <;> rfl
theorem cGift {w d : Nat} (hn : 1000 < n) (g : s.Good wd) (gT : T.Good) (hw : w < wd) (hij : i + 5 < j) (h : StC wd s i M) (t : TwC T j M) : ∃ M', f_X6_gift n j i (nI w) (nI d) M = some (T.gift s w d, M') ∧ same (scr j) M M' := by
  have h6 : scr j (j + 6) := Or.inr rfl
  have hwd := g.h_wd
  have hfa := g.h_faith w hw
  unfold f_X6_gift Tw.gift
  rw [show (1 : Int32) = nI 1 from rfl, cHas (by decide)]
  simp only [bd]
  have hr := t.rule 1 (by decide)
  have gr := gT.h_rule 1 (by decide)
  cases hT : T.rule 1 with
  | none =>
    rw [hT] at hr
    have hr : gi M (j + 3) 1 = -1 := hr
    rw [if_pos hr, if_pos rfl, ck, if_pos (n_in (by omega) (by decide)), nI_clamp (by omega), h.faith w hw, show (20 : Int32) = nI 20 from rfl, pk_div (by omega) (by decide) (by decide)]
    exact ⟨M, rfl, same.rf⟩
  | some p =>
    rw [hT] at hr gr
    obtain ⟨g1, g2, g3⟩ := gr
    have hf : ¬ gi M (j + 3) 1 = (-1 : Int32) := by
      obtain ⟨f, a1, -, a3, -⟩ := hr
      rw [a1]
      exact nI_nm1 (by omega)
    obtain ⟨M1, q1, e1, v1⟩ := cSetWard (n := n) (d := d) g hw hij h
    rw [if_neg hf, if_neg (show ¬ (1 : Int32) = 0 by decide), q1]
    simp only []
    have hr3 := (tScr t e1).rule 1 (by decide)
    rw [hT] at hr3
    obtain ⟨q, hq⟩ := cRun hn (by decide) g1 hr3
    rw [hq]
    simp only []
    rw [cWithin]
    refine ⟨_, ?_, e1.sa h6 q⟩
    rw [runP_congr (vals' := vW s w d s.fell) (fun k hk hv => v1 k hk hv) g1 g2]
theorem cBelief {w d : Nat} (hn : 1000 < n) (g : s.Good wd) (gT : T.Good) (hw : w < wd) (hij : i + 5 < j) (h : StC wd s i M) (t : TwC T j M) : ∃ M', f_X6_belief n j i (nI w) (nI d) M = some (T.belief s w d s.fell, M') ∧ same (scr j) M M' := by
  have h6 : scr j (j + 6) := Or.inr rfl
  unfold f_X6_belief Tw.belief
  rw [show f_X6_hasRule n j (2 : Int32) M = f_X6_hasRule n j (nI 2) M from rfl, cHas (by decide)]
  simp only [bd]
  have hr := t.rule 2 (by decide)
  have gr := gT.h_rule 2 (by decide)
  cases hT : T.rule 2 with
  | none =>
    rw [hT] at hr
    have hr : gi M (j + 3) 2 = -1 := hr
    rw [if_pos hr, if_pos rfl, h.fell, cWithin]
    exact ⟨M, rfl, same.rf⟩
  | some p =>
    rw [hT] at hr gr
    obtain ⟨g1, g2, g3⟩ := gr
    have hf : ¬ gi M (j + 3) 2 = (-1 : Int32) := by
      obtain ⟨f, a1, -, a3, -⟩ := hr
      rw [a1]
      exact nI_nm1 (by omega)
    obtain ⟨M1, q1, e1, v1⟩ := cSetWard (n := n) (d := d) g hw hij h
    rw [if_neg hf, if_neg (show ¬ (1 : Int32) = 0 by decide), q1]
    simp only []
    have hr3 := (tScr t e1).rule 2 (by decide)
    rw [hT] at hr3
    obtain ⟨q, hq⟩ := cRun hn (by decide) g1 hr3
    rw [show f_X6_run n j (2 : Int32) M1 = f_X6_run n j (nI 2) M1 from rfl, hq]
    simp only []
    rw [cWithin]
    refine ⟨_, ?_, e1.sa h6 q⟩
    rw [runP_congr (vals' := vW s w d s.fell) (fun k hk hv => v1 k hk hv) g1 g2]
end CS
