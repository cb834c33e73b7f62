/-! By what row of courses it is done soonest. -/
def dig (L f m : Nat) : Nat := f / 10 ^ (L - 1 - m) % 10
def vld (L f : Nat) : Bool := allN (fun m => decide (dig L f m < L) && allN (fun m2 => !(dig L f m2 == dig L f m)) m) L
def facN (L : Nat) : Nat := ([1, 1, 2, 6, 24] : List Nat).getD L 0
def unuG (used : Nat) : Nat → Nat → Nat → Nat
  | 0, _, _ => 0
  | f + 1, left, place => if used.testBit place = false then (if left = 0 then place else unuG used f (left - 1) (place + 1)) else unuG used f left (place + 1)
/-- row, used, rest behind m steps -/
def lyS (L i : Nat) : Nat → Nat × Nat × Nat
  | 0 => (0, 0, i)
  | m + 1 =>
    let q := lyS L i m
    let p := unuG q.2.1 4 (q.2.2 / facN (L - 1 - m)) 0
    (q.1 * 10 + p, q.2.1 ||| 2 ^ p, q.2.2 % facN (L - 1 - m))
def lyP (L i m : Nat) : Nat := unuG (lyS L i m).2.1 4 ((lyS L i m).2.2 / facN (L - 1 - m)) 0
def figN (L i : Nat) : Nat := (lyS L i L).1
theorem ly_all : ∀ L, L < 5 → ∀ i, i < facN L → ∀ m, m < L → lyP L i m = dig L (figN L i) m ∧ lyP L i m < L ∧ (lyS L i m).2.1 < 16 ∧ (lyS L i m).2.2 < 100 ∧ (lyS L i m).1 < 10000 := by decide +kernel
theorem fig_lt : ∀ L, L < 5 → ∀ i, i < facN L → figN L i < 10 ^ L := by decide +kernel
theorem fig_all : ∀ L, L < 5 → (List.range (10 ^ L)).filter (vld L) = (List.range (facN L)).map (figN L) := by decide +kernel
theorem vld_iff {L f : Nat} : vld L f = true ↔ (∀ m, m < L → dig L f m < L) ∧ (∀ a b, a < b → b < L → dig L f a ≠ dig L f b) := by
  unfold vld
  rw [allN_iff]
  constructor
  · intro h
    refine ⟨fun m hm => ?_, fun a b hab hb => ?_⟩
    · have := h m hm
      rw [Bool.and_eq_true] at this
      exact of_decide_eq_true this.1
    · have := h b hb
      rw [Bool.and_eq_true, allN_iff] at this
      have := this.2 a hab
      simpa using this
  · rintro ⟨h1, h2⟩ m hm
    rw [Bool.and_eq_true, allN_iff]
    refine ⟨decide_eq_true (h1 m hm), fun a ha => ?_⟩
    have := h2 a m ha hm
    simpa using this
theorem vld_fig {L i : Nat} (hL : L < 5) (hi : i < facN L) : vld L (figN L i) = true := by
  have h1 : figN L i ∈ (List.range (facN L)).map (figN L) := List.mem_map.mpr ⟨i, List.mem_range.mpr hi, rfl⟩
  rw [← fig_all L hL] at h1
  exact (List.mem_filter.mp h1).2
/-- the first courses of the plan, laid by P -/
def Sp.lay (s : Sp) (P : Nat → Nat) (lo hi : Nat) : Sp := (s.setWeight (fun c => if s.hung + lo ≤ c ∧ c < s.hung + hi then s.weight (s.hung + P (c - s.hung)) else s.weight c)).setMortar (fun c => if s.hung + lo ≤ c ∧ c < s.hung + hi then s.mortar (s.hung + P (c - s.hung)) else s.mortar c)
section L
variable {n wd j : Nat} {T : Tw} {s : Sp} {M0 M : Mem} {P : Nat → Nat}
theorem lay_good {lo hi : Nat} (g : s.Good wd) (h : ∀ m, lo ≤ m → m < hi → s.hung + P m < s.all) : (s.lay P lo hi).Good wd := by
  refine ⟨g.h_wd, g.h_hung, g.h_all, g.h_day, g.h_money, g.h_lean, g.h_fell, fun c hc => ?_, fun c hc => ?_, g.h_faith, g.h_beside, g.h_sym, g.h_self⟩
  · show 1 ≤ (if s.hung + lo ≤ c ∧ c < s.hung + hi then s.weight (s.hung + P (c - s.hung)) else s.weight c) ∧ (if s.hung + lo ≤ c ∧ c < s.hung + hi then s.weight (s.hung + P (c - s.hung)) else s.weight c) ≤ 9
    by_cases e : s.hung + lo ≤ c ∧ c < s.hung + hi
    · rw [if_pos e]
      exact g.h_weight _ (h _ (by omega) (by omega))
    · rw [if_neg e]
      exact g.h_weight c hc
  · show (if s.hung + lo ≤ c ∧ c < s.hung + hi then s.mortar (s.hung + P (c - s.hung)) else s.mortar c) ≤ 9
    by_cases e : s.hung + lo ≤ c ∧ c < s.hung + hi
    · rw [if_pos e]
      exact g.h_mortar _ (h _ (by omega) (by omega))
    · rw [if_neg e]
      exact g.h_mortar c hc
theorem lay_0 : s.lay P 0 0 = s := by
  obtain ⟨s1, s2, s3, s4, s5, s6, s7, s8, s9, s10⟩ := s
  have e1 : (fun c => if s2 + 0 ≤ c ∧ c < s2 + 0 then s7 (s2 + P (c - s2)) else s7 c) = s7 := by
    funext c
    rw [if_neg (by omega)]
  have e2 : (fun c => if s2 + 0 ≤ c ∧ c < s2 + 0 then s8 (s2 + P (c - s2)) else s8 c) = s8 := by
    funext c
    rw [if_neg (by omega)]
  show ((s1, s2, s3, s4, s5, s6, (fun c => if s2 + 0 ≤ c ∧ c < s2 + 0 then s7 (s2 + P (c - s2)) else s7 c), (fun c => if s2 + 0 ≤ c ∧ c < s2 + 0 then s8 (s2 + P (c - s2)) else s8 c), s9, s10) : Sp) = _
  rw [e1, e2]
theorem lay_L {L : Nat} : s.lay P L L = s := by
  obtain ⟨s1, s2, s3, s4, s5, s6, s7, s8, s9, s10⟩ := s
  have e1 : (fun c => if s2 + L ≤ c ∧ c < s2 + L then s7 (s2 + P (c - s2)) else s7 c) = s7 := by
    funext c
    rw [if_neg (by omega)]
  have e2 : (fun c => if s2 + L ≤ c ∧ c < s2 + L then s8 (s2 + P (c - s2)) else s8 c) = s8 := by
    funext c
    rw [if_neg (by omega)]
  show ((s1, s2, s3, s4, s5, s6, (fun c => if s2 + L ≤ c ∧ c < s2 + L then s7 (s2 + P (c - s2)) else s7 c), (fun c => if s2 + L ≤ c ∧ c < s2 + L then s8 (s2 + P (c - s2)) else s8 c), s9, s10) : Sp) = _
  rw [e1, e2]
theorem CTV.upk {V : Nat → Nat → Prop} {s' : Sp} {M' : Mem} (h : CTV V wd j T M0 s M) (e : kq (fun q _ => 10 ≤ q ∧ q ≤ 14) M M') (hs : StC wd s' 10 M') (g' : s'.Good wd) : CTV V wd j T M0 s' M' := by
  have hj := h.c_jj
  exact ⟨hs, h.c_tw.kq e (fun q r _ _ => by omega), (e _ _ (by omega)).trans h.c_j, hj, g', h.c_t, h.c_v, h.c_sm.tr (e.mono (fun q r hq => h.c_v q r (by unfold dA; omega)))⟩
theorem MT.upk {s' : Sp} {M' : Mem} {ow fa : Int32} {gv : Nat → Int32} (h : MT wd T M0 ow fa gv s M) (e : kp (fun t k => t = 12 ∧ 54 ≤ k ∧ k < 108) M M') (hs : StR wd s' 12 54 M') (g' : s'.Good wd) : MT wd T M0 ow fa gv s' M' :=
  ⟨hs, h.m_tw.kp e (fun k _ _ => by omega) (fun k => by omega) (fun k => by omega), (e.1 _ _ (by omega)).trans h.m_w, (e.1 _ _ (by omega)).trans h.m_fa, fun w hw => (e.1 _ _ (by omega)).trans (h.m_gv w hw), g', h.m_t, h.m_k.tr (e.mono (fun t k ht => Or.inl (by unfold VM; omega)))⟩
theorem cLay {m : Nat} (h : StC wd (s.lay P 0 m) 10 M) : StC wd (s.lay P 0 (m + 1)) 10 (si (si M 11 (s.hung + m) (nI (s.weight (s.hung + P m)))) 12 (s.hung + m) (nI (s.mortar (s.hung + P m)))) := by
  have h' : ∀ t k, ¬ t = 11 → ¬ t = 12 → gi (si (si M 11 (s.hung + m) (nI (s.weight (s.hung + P m)))) 12 (s.hung + m) (nI (s.mortar (s.hung + P m)))) t k = gi M t k := fun t k h1 h2 => by rw [gi_si, if_neg (by omega), gi_si, if_neg (by omega)]
  refine ⟨(h' _ _ (by omega) (by omega)).trans h.all, (h' _ _ (by omega) (by omega)).trans h.hung, (h' _ _ (by omega) (by omega)).trans h.wards, (h' _ _ (by omega) (by omega)).trans h.day, (h' _ _ (by omega) (by omega)).trans h.money, (h' _ _ (by omega) (by omega)).trans h.lean, (h' _ _ (by omega) (by omega)).trans h.fell, fun c hc => ?_, fun c hc => ?_, fun v hv => (h' _ _ (by omega) (by omega)).trans (h.faith v hv), fun v hv => (h' _ _ (by omega) (by omega)).trans (h.beside v hv)⟩
  · have h1 : gi M 11 c = nI (if s.hung + 0 ≤ c ∧ c < s.hung + m then s.weight (s.hung + P (c - s.hung)) else s.weight c) := h.weight c hc
    show _ = nI (if s.hung + 0 ≤ c ∧ c < s.hung + (m + 1) then s.weight (s.hung + P (c - s.hung)) else s.weight c)
    rw [gi_si, if_neg (by omega), gi_si]
    by_cases e : c = s.hung + m
    · subst e
      rw [if_pos ⟨rfl, rfl⟩, if_pos (by omega), show s.hung + m - s.hung = m by omega]
    · rw [if_neg (by omega), show gi M (10 + 1) c = gi M 11 c from rfl, h1]
      by_cases e2 : s.hung + 0 ≤ c ∧ c < s.hung + m
      · rw [if_pos e2, if_pos (by omega)]
      · rw [if_neg e2, if_neg (by omega)]
  · have h1 : gi M 12 c = nI (if s.hung + 0 ≤ c ∧ c < s.hung + m then s.mortar (s.hung + P (c - s.hung)) else s.mortar c) := h.mortar c hc
    show _ = nI (if s.hung + 0 ≤ c ∧ c < s.hung + (m + 1) then s.mortar (s.hung + P (c - s.hung)) else s.mortar c)
    rw [gi_si]
    by_cases e : c = s.hung + m
    · subst e
      rw [if_pos ⟨rfl, rfl⟩, if_pos (by omega), show s.hung + m - s.hung = m by omega]
    · rw [if_neg (by omega), gi_si, if_neg (by omega), show gi M (10 + 2) c = gi M 12 c from rfl, h1]
      by_cases e2 : s.hung + 0 ≤ c ∧ c < s.hung + m
      · rw [if_pos e2, if_pos (by omega)]
      · rw [if_neg e2, if_neg (by omega)]
theorem mLay {k L : Nat} (g : s.Good wd) (hk : k < L) (hL : s.hung + L ≤ s.all) (h : StR wd (s.lay P (k + 1) L) 12 54 M) : StR wd (s.lay P k L) 12 54 (si (si M 12 (60 + s.hung + k) (nI (s.weight (s.hung + P k)))) 12 (76 + s.hung + k) (nI (s.mortar (s.hung + P k)))) := by
  have h1 := g.h_all
  have h2 := g.h_wd
  have h' : ∀ q, ¬ q = 60 + s.hung + k → ¬ q = 76 + s.hung + k → gi (si (si M 12 (60 + s.hung + k) (nI (s.weight (s.hung + P k)))) 12 (76 + s.hung + k) (nI (s.mortar (s.hung + P k)))) 12 q = gi M 12 q := fun q h1 h2 => by rw [gi_si, if_neg (by omega), gi_si, if_neg (by omega)]
  refine ⟨(h' _ (by omega) (by omega)).trans h.day, (h' _ (by omega) (by omega)).trans h.money, (h' _ (by omega) (by omega)).trans h.lean, (h' _ (by omega) (by omega)).trans h.hung, (h' _ (by omega) (by omega)).trans h.all, (h' _ (by omega) (by omega)).trans h.fell, fun c hc => ?_, fun c hc => ?_, fun v hv => (h' _ (by omega) (by omega)).trans (h.faith v hv), fun v hv => (h' _ (by omega) (by omega)).trans (h.beside v hv)⟩
  · have hc : c < s.all := hc
    have h1 : gi M 12 (54 + 6 + c) = nI (if s.hung + (k + 1) ≤ c ∧ c < s.hung + L then s.weight (s.hung + P (c - s.hung)) else s.weight c) := h.weight c hc
    show _ = nI (if s.hung + k ≤ c ∧ c < s.hung + L then s.weight (s.hung + P (c - s.hung)) else s.weight c)
    rw [gi_si, if_neg (by omega), gi_si]
    by_cases e : c = s.hung + k
    · subst e
      rw [if_pos ⟨rfl, by omega⟩, if_pos (by omega), show s.hung + k - s.hung = k by omega]
    · rw [if_neg (by omega), h1]
      by_cases e2 : s.hung + (k + 1) ≤ c ∧ c < s.hung + L
      · rw [if_pos e2, if_pos (by omega)]
      · rw [if_neg e2, if_neg (by omega)]
  · have hc : c < s.all := hc
    have h1 : gi M 12 (54 + 22 + c) = nI (if s.hung + (k + 1) ≤ c ∧ c < s.hung + L then s.mortar (s.hung + P (c - s.hung)) else s.mortar c) := h.mortar c hc
    show _ = nI (if s.hung + k ≤ c ∧ c < s.hung + L then s.mortar (s.hung + P (c - s.hung)) else s.mortar c)
    rw [gi_si]
    by_cases e : c = s.hung + k
    · subst e
      rw [if_pos ⟨rfl, by omega⟩, if_pos (by omega), show s.hung + k - s.hung = k by omega]
    · rw [if_neg (by omega), gi_si, if_neg (by omega), h1]
      by_cases e2 : s.hung + (k + 1) ≤ c ∧ c < s.hung + L
      · rw [if_pos e2, if_pos (by omega)]
      · rw [if_neg e2, if_neg (by omega)]
theorem cUnused {used : Nat} (hu : used < 16) : ∀ (f left place m : Nat), place + f = 4 → f < m → left < 1000 → gl (b_X8_unusedPlace_4 n (nI used)) m (nI left, nI place, M) = some (nI (unuG used f left place), M)
  | 0, left, place, m, hp, hm, _ => by
    obtain ⟨m, rfl⟩ : ∃ q, m = q + 1 := ⟨m - 1, by omega⟩
    refine gl_mr ?_
    rw [b_X8_unusedPlace_4]
    try simp only []
    rw [show place = 4 by omega, if_pos (show (4 : Int32) ≤ nI 4 by decide)]
    rfl
  | f + 1, left, place, m, hp, hm, hl => by
    obtain ⟨m, rfl⟩ : ∃ q, m = q + 1 := ⟨m - 1, by omega⟩
    have hb := (bit_if (S := used) (o := place) (by omega) (by omega)).2
    have body : b_X8_unusedPlace_4 n (nI used) (nI left, nI place, M) = if used.testBit place = false then (if left = 0 then mr (some (nI place, M)) else some (.inl (nI (left - 1), nI (place + 1), M))) else some (.inl (nI left, nI (place + 1), M)) := by
      rw [b_X8_unusedPlace_4]
      try simp only []
      rw [if_neg (show ¬ (4 : Int32) ≤ nI place from nI_ge (b := 4) (by omega) (by decide))]
      unfold j_X8_unusedPlace_26
      rw [nI_1]
      by_cases c : used.testBit place = false
      · rw [if_pos (hb.mpr c), if_pos c]
        by_cases c2 : left = 0
        · rw [if_pos (by rw [c2]; rfl), if_pos c2]
        · rw [if_neg (nI_ne0 (by omega) (by omega)), if_neg c2, show nI left + (-1 : Int32) = nI (left - 1) by
            obtain ⟨q, rfl⟩ : ∃ q, left = q + 1 := ⟨left - 1, by omega⟩
            rw [pk_m1]
            rfl]
      · rw [if_neg (fun q => c (hb.mp q)), if_neg c]
    rw [unuG]
    by_cases c : used.testBit place = false
    · rw [if_pos c] at body ⊢
      by_cases c2 : left = 0
      · rw [if_pos c2] at body ⊢
        exact gl_mr body
      · rw [if_neg c2] at body ⊢
        rw [gl_inl body]
        exact cUnused hu f (left - 1) (place + 1) m (by omega) (by omega) (by omega)
    · rw [if_neg c] at body ⊢
      rw [gl_inl body]
      exact cUnused hu f left (place + 1) m (by omega) (by omega) hl
theorem fac_at : ∀ L, L < 5 → facL.getD L 0 = nI (facN L) ∧ 0 < facN L ∧ facN L ≤ 24 := by decide
theorem cLayRow {L i : Nat} (hn : 3000 < n) (cb : CB wd j T s M0) (h : CT wd j T M0 s M) (hL : L < 5) (hLa : s.hung + L ≤ s.all) (hi : i < facN L) : ∃ M', f_X8_layRow n (nI i) (nI L) M = some (nI (figN L i), M') ∧ CT wd j T M0 (s.lay (dig L (figN L i)) 0 L) M' := by
  have ha := cb.b_g.h_all
  obtain ⟨N, m, c1, ee⟩ := gl_k (body := b_X8_layRow_11 n (nI L)) (fun m (X : Mem) => (nI (lyS L i m).1, nI (lyS L i m).2.1, nI (lyS L i m).2.2, nI m, X)) L (fun m X => CT wd j T M0 (s.lay (dig L (figN L i)) 0 m) X) (fun m X hm hI => by
    obtain ⟨a1, a2, a3, a4, a5⟩ := ly_all L hL i hi m hm
    have cb' := cb.keep hI.c_sm
    obtain ⟨f1, f2, f3⟩ := fac_at (L - 1 - m) (by omega)
    have d0 : nI L - (1 : Int32) - nI m = nI (L - 1 - m) := by
      rw [show nI L - (1 : Int32) = nI (L - 1) from pk_sub (b := 1) (by omega), pk_sub (by omega)]
    have i0 : inb (nI (L - 1 - m)) 5 := n_in (by omega) (by decide)
    have z0 : (nI (L - 1 - m)).toNatClampNeg = L - 1 - m := nI_clamp (by omega)
    have ne0 : ¬ nI (facN (L - 1 - m)) = 0 := nI_ne0 (by omega) (by omega)
    have hq := cUnused (n := n) (M := X) a3 4 ((lyS L i m).2.2 / facN (L - 1 - m)) 0 n (by decide) (by omega) (by
      have := Nat.div_le_self (lyS L i m).2.2 (facN (L - 1 - m))
      omega)
    have hq : f_X8_unusedPlace n (nI (lyS L i m).2.1) (nI ((lyS L i m).2.2 / facN (L - 1 - m))) X = some (nI (lyP L i m), X) := hq
    have hu4 : gi X 4 6 = nI s.hung := cb'.b_st.hung
    have hu10 : gi X 10 6 = nI s.hung := hI.c_st.hung
    have g1 : ∀ y k q, gi (si X 11 k y) 4 q = gi X 4 q := fun y k q => by rw [gi_si, if_neg (by omega)]
    have g2 : ∀ y k q, gi (si X 11 k y) 10 q = gi X 10 q := fun y k q => by rw [gi_si, if_neg (by omega)]
    have g3 : ∀ y k q, gi (si X 11 k y) 6 q = gi X 6 q := fun y k q => by rw [gi_si, if_neg (by omega)]
    have i1 : inb (nI (s.hung + lyP L i m)) 16 := n_in (by omega) (by decide)
    have i2 : inb (nI (s.hung + m)) 16 := n_in (by omega) (by decide)
    have z1 : (nI (s.hung + lyP L i m)).toNatClampNeg = s.hung + lyP L i m := nI_clamp (by omega)
    have z2 : (nI (s.hung + m)).toNatClampNeg = s.hung + m := nI_clamp (by omega)
    have w1 : gi X 5 (s.hung + lyP L i m) = nI (s.weight (s.hung + lyP L i m)) := cb'.b_st.weight _ (by omega)
    have w2 : gi X 6 (s.hung + lyP L i m) = nI (s.mortar (s.hung + lyP L i m)) := cb'.b_st.mortar _ (by omega)
    have gN : (s.lay (dig L (figN L i)) 0 (m + 1)).Good wd := lay_good cb.b_g (fun m' h1 h2 => by
      obtain ⟨b1, b2, -⟩ := ly_all L hL i hi m' (by omega)
      omega)
    have cl := cLay (s := s) (P := dig L (figN L i)) hI.c_st
    rw [← a1] at cl
    refine ⟨_, ?_, CTV.upk hI ((kq.rf.si (by omega) _).si (by omega) _) cl gN⟩
    rw [b_X8_layRow_11]
    try simp only []
    rw [if_neg (nI_ge hm (by omega)), d0]
    simp only [ck_pos i0, z0, f1, ck_pos ne0]
    rw [pk_div (by omega) f2 (by omega), hq]
    simp only [bd, g1, g2, g3, hu4, hu10, nI_add, ck_pos i1, ck_pos i2, z1, z2, w1, w2]
    rw [show (10 : Int32) = nI 10 from rfl, pk_mul, nI_add, one_sh (lyP L i m) (by omega), nI_or, pk_mul, pk_sub (Nat.div_mul_le_self _ _), nI_1]
    have er : (lyS L i m).2.2 - (lyS L i m).2.2 / facN (L - 1 - m) * facN (L - 1 - m) = (lyS L i m).2.2 % facN (L - 1 - m) := by
      have := Nat.div_add_mod' (lyS L i m).2.2 (facN (L - 1 - m))
      omega
    rw [er]
    rfl) n 0 M (by omega) (by omega) (by rw [lay_0]; exact h)
  refine ⟨N, ?_, c1⟩
  unfold f_X8_layRow
  rw [show ((0 : Int32), (0 : Int32), nI i, (0 : Int32), M) = (nI (lyS L i 0).1, nI (lyS L i 0).2.1, nI (lyS L i 0).2.2, nI 0, M) from rfl, ee]
  refine gl_mr ?_
  rw [b_X8_layRow_11]
  try simp only []
  rw [if_pos (nI_le (Nat.le_refl _) (by omega))]
  rfl
end L
