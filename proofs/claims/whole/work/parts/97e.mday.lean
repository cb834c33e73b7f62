/-! The reference's day. -/
theorem ck_pos {α : Type} {c : Prop} [Decidable c] {o : Option α} (h : c) : ck c o = o := by
  unfold ck
  rw [if_pos h]
theorem bnd_nat {x hi : Nat} (hx : x < 2 ^ 31) (hh : hi < 2 ^ 31) : bndI (nI x) 0 (nI hi) = nI (if hi < x then hi else x) := by
  unfold bndI
  rw [if_pos (show (0 : Int32) ≤ nI x from nI_le (a := 0) (Nat.zero_le _) hx)]
  by_cases c : hi < x
  · rw [if_neg (nI_ge c hx), if_pos c]
  · rw [if_pos (nI_le (by omega) hh), if_neg c]
theorem TwM.kp {wd : Nat} {T : Tw} {V : Nat → Nat → Prop} {M M' : Mem} (h : TwM wd T M) (e : kp V M M') (h0 : ∀ k, 1 ≤ k → k ≤ 7 → ¬ V 0 k) (h1 : ∀ k, ¬ V 1 k) (h2 : ∀ k, ¬ V 2 k) : TwM wd T M' := by
  refine ⟨(e.1 _ _ (h0 _ (by decide) (by decide))).trans h.wards, (e.1 _ _ (h0 _ (by decide) (by decide))).trans h.ground, (e.1 _ _ (h0 _ (by decide) (by decide))).trans h.cost, (e.1 _ _ (h0 _ (by decide) (by decide))).trans h.winds, fun k hk => (e.1 _ _ (h1 _)).trans (h.wind k hk), fun r hr => ?_⟩
  have hh := h.rule r hr
  cases hT : T.rule r with
  | none =>
    rw [hT] at hh
    exact (e.1 _ _ (h0 _ (by omega) (by omega))).trans hh
  | some p =>
    rw [hT] at hh
    obtain ⟨f, a1, a2, a3⟩ := hh
    exact ⟨f, (e.1 _ _ (h0 _ (by omega) (by omega))).trans a1, a2, cod2_congr (fun k => e.1 _ _ (h2 _)) a3⟩
theorem StR.kp {wd t b : Nat} {s : Sp} {V : Nat → Nat → Prop} {M M' : Mem} (g : s.Good wd) (h : StR wd s t b M) (e : kp V M M') (hv : ∀ k, b ≤ k → k < b + 54 → ¬ V t k) : StR wd s t b M' := by
  have h1 := g.h_all
  have h2 := g.h_wd
  exact ⟨(e.1 _ _ (hv _ (by omega) (by omega))).trans h.day, (e.1 _ _ (hv _ (by omega) (by omega))).trans h.money, (e.1 _ _ (hv _ (by omega) (by omega))).trans h.lean, (e.1 _ _ (hv _ (by omega) (by omega))).trans h.hung, (e.1 _ _ (hv _ (by omega) (by omega))).trans h.all, (e.1 _ _ (hv _ (by omega) (by omega))).trans h.fell, fun c hc => (e.1 _ _ (hv _ (by omega) (by omega))).trans (h.weight c hc), fun c hc => (e.1 _ _ (hv _ (by omega) (by omega))).trans (h.mortar c hc), fun c hc => (e.1 _ _ (hv _ (by omega) (by omega))).trans (h.faith c hc), fun c hc => (e.1 _ _ (hv _ (by omega) (by omega))).trans (h.beside c hc)⟩
theorem StR.sDay {b wd x : Nat} {M : Mem} {s : Sp} (g : s.Good wd) (h : StR wd s 12 b M) : StR wd (s.setDay x) 12 b (si M 12 b (nI x)) := by
  have hf : ∀ p, p ≠ b → gi (si M 12 b (nI x)) 12 p = gi M 12 p := fun p hp => by rw [gi_si, if_neg (by omega)]
  have hs : gi (si M 12 b (nI x)) 12 b = nI x := by rw [gi_si, if_pos ⟨rfl, rfl⟩]
  exact ⟨hs, (hf _ (by omega)).trans h.money, (hf _ (by omega)).trans h.lean, (hf _ (by omega)).trans h.hung, (hf _ (by omega)).trans h.all, (hf _ (by omega)).trans h.fell, fun c hc => (hf _ (by omega)).trans (h.weight c hc), fun c hc => (hf _ (by omega)).trans (h.mortar c hc), fun c hc => (hf _ (by omega)).trans (h.faith c hc), fun c hc => (hf _ (by omega)).trans (h.beside c hc)⟩
theorem StR.sMoney {b wd x : Nat} {M : Mem} {s : Sp} (g : s.Good wd) (h : StR wd s 12 b M) : StR wd (s.setMoney x) 12 b (si M 12 (b + 1) (nI x)) := by
  have hf : ∀ p, p ≠ b + 1 → gi (si M 12 (b + 1) (nI x)) 12 p = gi M 12 p := fun p hp => by rw [gi_si, if_neg (by omega)]
  have hs : gi (si M 12 (b + 1) (nI x)) 12 (b + 1) = nI x := by rw [gi_si, if_pos ⟨rfl, rfl⟩]
  exact ⟨(hf _ (by omega)).trans h.day, hs, (hf _ (by omega)).trans h.lean, (hf _ (by omega)).trans h.hung, (hf _ (by omega)).trans h.all, (hf _ (by omega)).trans h.fell, fun c hc => (hf _ (by omega)).trans (h.weight c hc), fun c hc => (hf _ (by omega)).trans (h.mortar c hc), fun c hc => (hf _ (by omega)).trans (h.faith c hc), fun c hc => (hf _ (by omega)).trans (h.beside c hc)⟩
theorem StR.sLean {b wd x : Nat} {M : Mem} {s : Sp} (g : s.Good wd) (h : StR wd s 12 b M) : StR wd (s.setLean x) 12 b (si M 12 (b + 2) (nI x)) := by
  have hf : ∀ p, p ≠ b + 2 → gi (si M 12 (b + 2) (nI x)) 12 p = gi M 12 p := fun p hp => by rw [gi_si, if_neg (by omega)]
  have hs : gi (si M 12 (b + 2) (nI x)) 12 (b + 2) = nI x := by rw [gi_si, if_pos ⟨rfl, rfl⟩]
  exact ⟨(hf _ (by omega)).trans h.day, (hf _ (by omega)).trans h.money, hs, (hf _ (by omega)).trans h.hung, (hf _ (by omega)).trans h.all, (hf _ (by omega)).trans h.fell, fun c hc => (hf _ (by omega)).trans (h.weight c hc), fun c hc => (hf _ (by omega)).trans (h.mortar c hc), fun c hc => (hf _ (by omega)).trans (h.faith c hc), fun c hc => (hf _ (by omega)).trans (h.beside c hc)⟩
theorem StR.sHung {b wd x : Nat} {M : Mem} {s : Sp} (g : s.Good wd) (h : StR wd s 12 b M) : StR wd (s.setHung x) 12 b (si M 12 (b + 3) (nI x)) := by
  have hf : ∀ p, p ≠ b + 3 → gi (si M 12 (b + 3) (nI x)) 12 p = gi M 12 p := fun p hp => by rw [gi_si, if_neg (by omega)]
  have hs : gi (si M 12 (b + 3) (nI x)) 12 (b + 3) = nI x := by rw [gi_si, if_pos ⟨rfl, rfl⟩]
  exact ⟨(hf _ (by omega)).trans h.day, (hf _ (by omega)).trans h.money, (hf _ (by omega)).trans h.lean, hs, (hf _ (by omega)).trans h.all, (hf _ (by omega)).trans h.fell, fun c hc => (hf _ (by omega)).trans (h.weight c hc), fun c hc => (hf _ (by omega)).trans (h.mortar c hc), fun c hc => (hf _ (by omega)).trans (h.faith c hc), fun c hc => (hf _ (by omega)).trans (h.beside c hc)⟩
theorem StR.sFell {b wd x : Nat} {M : Mem} {s : Sp} (g : s.Good wd) (h : StR wd s 12 b M) : StR wd (s.setFell x) 12 b (si M 12 (b + 5) (nI x)) := by
  have hf : ∀ p, p ≠ b + 5 → gi (si M 12 (b + 5) (nI x)) 12 p = gi M 12 p := fun p hp => by rw [gi_si, if_neg (by omega)]
  have hs : gi (si M 12 (b + 5) (nI x)) 12 (b + 5) = nI x := by rw [gi_si, if_pos ⟨rfl, rfl⟩]
  exact ⟨(hf _ (by omega)).trans h.day, (hf _ (by omega)).trans h.money, (hf _ (by omega)).trans h.lean, (hf _ (by omega)).trans h.hung, (hf _ (by omega)).trans h.all, hs, fun c hc => (hf _ (by omega)).trans (h.weight c hc), fun c hc => (hf _ (by omega)).trans (h.mortar c hc), fun c hc => (hf _ (by omega)).trans (h.faith c hc), fun c hc => (hf _ (by omega)).trans (h.beside c hc)⟩
theorem mFaithRow {b wd w x : Nat} {M : Mem} {s : Sp} {f : Nat → Nat} (g : s.Good wd) (hw : w < wd) (h : StR wd s 12 b M) (hf : ∀ v, v < wd → f v = if v = w then x else s.faith v) : StR wd (s.setFaith f) 12 b (si M 12 (b + 38 + w) (nI x)) := by
  have h1 := g.h_all
  have h2 := g.h_wd
  have h' : ∀ k, ¬ k = b + 38 + w → gi (si M 12 (b + 38 + w) (nI x)) 12 k = gi M 12 k := fun k hk => by rw [gi_si, if_neg (by omega)]
  refine ⟨(h' _ (by omega)).trans h.day, (h' _ (by omega)).trans h.money, (h' _ (by omega)).trans h.lean, (h' _ (by omega)).trans h.hung, (h' _ (by omega)).trans h.all, (h' _ (by omega)).trans h.fell, fun c hc => (h' _ (by have : c < s.all := hc; omega)).trans (h.weight c hc), fun c hc => (h' _ (by have : c < s.all := hc; omega)).trans (h.mortar c hc), fun v hv => ?_, fun v hv => (h' _ (by omega)).trans (h.beside v hv)⟩
  show gi (si M 12 (b + 38 + w) (nI x)) 12 (b + 38 + v) = nI (f v)
  rw [hf v hv, gi_si]
  by_cases c : v = w
  · rw [if_pos ⟨rfl, by omega⟩, if_pos c]
  · rw [if_neg (by omega), if_neg c]
    exact h.faith v hv
def VM (b : Nat) (t k : Nat) : Prop := t = 14 ∨ t = 15 ∨ t = 16 ∨ t = 17 ∨ (t = 0 ∧ (k = 48 ∨ k = 49)) ∨ (t = 12 ∧ b ≤ k ∧ k < b + 54)
theorem scm_VM {b : Nat} {M M' : Mem} (e : same scm M M') : kp (VM b) M M' := e.kp (fun t k ht => by unfold scm at ht; unfold VM; omega)
theorem tVM {wd b : Nat} {T : Tw} {M M' : Mem} (h : TwM wd T M) (e : kp (VM b) M M') : TwM wd T M' := h.kp e (fun k _ _ => by unfold VM; omega) (fun k => by unfold VM; omega) (fun k => by unfold VM; omega)
section D
variable {n b wd wind : Nat} {M : Mem} {s : Sp} {T : Tw}
theorem mGifts (hn : 2000 < n) (hb : b ≤ 54) (g : s.Good wd) (gT : T.Good) (h : StR wd s 12 b M) (t : TwM wd T M) (h0 : gi M 0 49 = nI 0) :
    ∃ M', gl (b_X9_dayGoes_42 n (nI b)) n ((0 : Int32), M) = j_X9_dayGoes_108 n (nI b) M' ∧ StR wd (s.setMoney (T.rich wd s wd)) 12 b M' ∧ TwM wd T M' ∧ kp (VM b) M M' ∧ gi M' 0 48 = gi M 0 48 ∧ gi M' 0 49 = nI (sumN (fun w => T.giftN s w (s.doubt wd w)) wd) ∧ ∀ w, w < wd → gi M' 14 w = gi M 14 w + nI (T.giftN s w (s.doubt wd w)) := by
  have h1 := g.h_wd
  obtain ⟨M', m, ⟨a1, a2, a3, a4, a5, a6, a7⟩, e⟩ := gl_k (body := b_X9_dayGoes_42 n (nI b)) (fun k (M' : Mem) => (nI k, M')) wd (fun k M' => StR wd (s.setMoney (T.rich wd s k)) 12 b M' ∧ TwM wd T M' ∧ kp (VM b) M M' ∧ gi M' 0 48 = gi M 0 48 ∧ gi M' 0 49 = nI (sumN (fun w => T.giftN s w (s.doubt wd w)) k) ∧ (∀ w, w < k → gi M' 14 w = gi M 14 w + nI (T.giftN s w (s.doubt wd w))) ∧ (∀ w, k ≤ w → gi M' 14 w = gi M 14 w)) (fun k M' hk hI => by
    obtain ⟨a1, a2, a3, a4, a5, a6, a7⟩ := hI
    have gk := money_good g (rich_le (T := T) g k)
    have hrk := rich_le (T := T) g k
    obtain ⟨M1, q1, e1⟩ := mGives hn hb gk gT a1 a2 hk
    obtain ⟨p1, p2⟩ := gift_is (T := T) (d := s.doubt wd k) gk hk
    have p3 : T.gift (s.setMoney (T.rich wd s k)) k ((s.setMoney (T.rich wd s k)).doubt wd k) = nI (T.giftN s k (s.doubt wd k)) := p1
    have p4 : T.giftN s k (s.doubt wd k) ≤ 20 := p2
    rw [p3] at q1
    have b1 : StR wd (s.setMoney (T.rich wd s k)) 12 b M1 := rScm a1 e1
    have b2 := tScm a2 e1
    have x1 : gi M1 14 k = gi M 14 k := (e1.1 _ _ (by unfold scm; omega)).trans (a7 k (by omega))
    have x2 : gi M1 0 49 = nI (sumN (fun w => T.giftN s w (s.doubt wd w)) k) := (e1.1 _ _ (by unfold scm; omega)).trans a5
    have hst : kp (fun t q => (t = 14 ∧ q = k) ∨ (t = 0 ∧ q = 49)) M1 (si (si M1 14 k (gi M1 14 k + nI (T.giftN s k (s.doubt wd k)))) 0 49 (nI (sumN (fun w => T.giftN s w (s.doubt wd w)) (k + 1)))) := (kp.rf.si (Or.inl ⟨rfl, rfl⟩) _).si (Or.inr ⟨rfl, rfl⟩) _
    have b3 : StR wd (s.setMoney (T.rich wd s k)) 12 b (si (si M1 14 k (gi M1 14 k + nI (T.giftN s k (s.doubt wd k)))) 0 49 (nI (sumN (fun w => T.giftN s w (s.doubt wd w)) (k + 1)))) := b1.kp gk hst (fun q _ _ => by omega)
    have b5 : gi (si (si M1 14 k (gi M1 14 k + nI (T.giftN s k (s.doubt wd k)))) 0 49 (nI (sumN (fun w => T.giftN s w (s.doubt wd w)) (k + 1)))) 12 (b + 1) = nI (T.rich wd s k) := b3.money
    refine ⟨si (si (si M1 14 k (gi M1 14 k + nI (T.giftN s k (s.doubt wd k)))) 0 49 (nI (sumN (fun w => T.giftN s w (s.doubt wd w)) (k + 1)))) 12 (b + 1) (nI (T.rich wd s (k + 1))), ?_, ?_, ?_, ?_, ?_, ?_, ?_, ?_⟩
    · rw [b_X9_dayGoes_42]
      simp only [a2.wards]
      rw [if_neg (nI_ge hk (by omega)), q1]
      simp only [bd]
      have i1 : inb (nI k) 8 := n_in (by omega) (by decide)
      have i2 : inb (nI (b + 1)) 108 := n_in (by omega) (by decide)
      have z1 : (nI k).toNatClampNeg = k := nI_clamp (by omega)
      have z2 : (nI (b + 1)).toNatClampNeg = b + 1 := nI_clamp (by omega)
      simp only [nA_1, ck_pos i1, ck_pos i2, z1, z2]
      rw [show gi (si M1 14 k (gi M1 14 k + nI (T.giftN s k (s.doubt wd k)))) 0 49 = nI (sumN (fun w => T.giftN s w (s.doubt wd w)) k) by rw [gi_si, if_neg (by omega)]; exact x2, nI_add, show sumN (fun w => T.giftN s w (s.doubt wd w)) k + T.giftN s k (s.doubt wd k) = sumN (fun w => T.giftN s w (s.doubt wd w)) (k + 1) from rfl, b5, nI_add, mBounded]
      simp only []
      rw [show bndI (nI (T.rich wd s k + T.giftN s k (s.doubt wd k))) 0 999 = nI (T.rich wd s (k + 1)) from bnd_nat (hi := 999) (by omega) (by decide)]
    · exact StR.sMoney (s := s.setMoney (T.rich wd s k)) gk b3 (x := T.rich wd s (k + 1))
    · exact tVM (b := b) (b2.kp hst (fun q _ _ => by omega) (fun q => by omega) (fun q => by omega)) (kp.rf.si (by unfold VM; omega) _)
    · exact ((a3.tr (scm_VM e1)).tr (hst.mono (fun t q ht => by unfold VM; omega))).si (by unfold VM; omega) _
    · rw [gi_si, if_neg (by omega), gi_si, if_neg (by omega), gi_si, if_neg (by omega)]
      exact (e1.1 _ _ (by unfold scm; omega)).trans a4
    · rw [gi_si, if_neg (by omega), gi_si, if_pos ⟨rfl, rfl⟩]
    · intro w hw
      rw [gi_si, if_neg (by omega), gi_si, if_neg (by omega), gi_si]
      by_cases c : w = k
      · subst c
        rw [if_pos ⟨rfl, rfl⟩, x1]
      · rw [if_neg (by omega)]
        exact (e1.1 _ _ (by unfold scm; omega)).trans (a6 w (by omega))
    · intro w hw
      rw [gi_si, if_neg (by omega), gi_si, if_neg (by omega), gi_si, if_neg (by omega)]
      exact (e1.1 _ _ (by unfold scm; omega)).trans (a7 w (by omega))) n 0 M (by omega) (by omega) ⟨h, t, kp.rf, rfl, h0, fun w hw => absurd hw (by omega), fun _ _ => rfl⟩
  refine ⟨M', ?_, a1, a2, a3, a4, a5, a6⟩
  rw [show ((0 : Int32), M) = (nI 0, M) from rfl, e]
  refine gl_mr ?_
  rw [b_X9_dayGoes_42]
  simp only [a2.wards]
  rw [if_pos (nI_le (Nat.le_refl _) (by omega))]
theorem mHang (hb : b ≤ 54) (g : s.Good wd) (gT : T.Good) (h : StR wd s 12 b M) (t : TwM wd T M) : ∃ M', j_X9_dayGoes_108 n (nI b) M = j_X9_dayGoes_169 n (nI b) M' ∧ StR wd (s.hang T.cost) 12 b M' ∧ kp (fun t k => t = 12 ∧ b ≤ k ∧ k < b + 54) M M' := by
  have h1 := g.h_money
  have h2 := g.h_hung
  have h3 := g.h_all
  have h4 := gT.h_cost
  unfold j_X9_dayGoes_108 Sp.hang
  have i1 : inb (nI (b + 1)) 108 := n_in (by omega) (by decide)
  have i3 : inb (nI (b + 3)) 108 := n_in (by omega) (by decide)
  have i4 : inb (nI (b + 4)) 108 := n_in (by omega) (by decide)
  have z1 : (nI (b + 1)).toNatClampNeg = b + 1 := nI_clamp (by omega)
  have z3 : (nI (b + 3)).toNatClampNeg = b + 3 := nI_clamp (by omega)
  have z4 : (nI (b + 4)).toNatClampNeg = b + 4 := nI_clamp (by omega)
  simp only [nA_1, nA_3, nA_4, ck_pos i1, ck_pos i3, ck_pos i4, z1, z3, z4]
  rw [h.money, t.cost]
  by_cases c1 : s.money < T.cost
  · rw [if_pos (nI_lt c1 (by omega)), if_neg (by omega)]
    exact ⟨M, rfl, h, kp.rf⟩
  · rw [if_neg (nI_nlt (by omega) (by omega)), h.all, h.hung]
    by_cases c2 : s.all ≤ s.hung
    · rw [if_pos (nI_le c2 (by omega)), if_neg (by omega)]
      exact ⟨M, rfl, h, kp.rf⟩
    · rw [if_neg (nI_ge (by omega) (by omega)), if_pos ⟨by omega, by omega⟩, pk_sub (by omega)]
      have a1 := h.sMoney g (x := s.money - T.cost)
      have ga : (s.setMoney (s.money - T.cost)).Good wd := money_good g (by omega)
      refine ⟨_, rfl, ?_, (kp.rf.si (by omega) _).si (by omega) _⟩
      rw [a1.hung, nI_1]
      exact a1.sHung ga (x := s.hung + 1)
theorem mMore {fell : Nat} (hn : 2000 < n) (hb : b ≤ 54) (g : s.Good wd) (gT : T.Good) (h : StR wd s 12 b M) (t : TwM wd T M) :
    ∃ M', j_X9_dayGoes_225 n (nI b) (nI fell) M = j_X9_dayGoes_261 n (nI b) (nI fell) M' ∧ same (fun t => t = 15 ∨ t = 16 ∨ t = 17) M M' ∧ ∀ w, w < wd → gi M' 17 w = T.belief s w (s.doubt wd w) fell := by
  have h1 := g.h_wd
  obtain ⟨M', m, ⟨a1, a2⟩, e⟩ := gl_k (body := b_X9_dayGoes_227 n (nI b) (nI fell)) (fun k (M' : Mem) => (nI k, M')) wd (fun k M' => same (fun t => t = 15 ∨ t = 16 ∨ t = 17) M M' ∧ ∀ w, w < k → gi M' 17 w = T.belief s w (s.doubt wd w) fell) (fun k M' hk hI => by
    obtain ⟨a1, a2⟩ := hI
    have b1 : StR wd s 12 b M' := h.kp g (a1.kp (V := fun t _ => t = 15 ∨ t = 16 ∨ t = 17) (fun _ _ q => q)) (fun q _ _ => by omega)
    have b2 : TwM wd T M' := t.same a1 (by omega) (by omega) (by omega)
    obtain ⟨v, M1, q1, q2, e1⟩ := mBelieves (fell := fell) hn hb g gT b1 b2 hk
    refine ⟨si M1 17 k (T.belief s k (s.doubt wd k) fell), ?_, ?_, ?_⟩
    · rw [b_X9_dayGoes_227]
      simp only [b2.wards]
      rw [if_neg (nI_ge hk (by omega)), q1]
      simp only [bd]
      rw [mBounded, q2]
      simp only []
      rw [ck, if_pos (n_in (by omega) (by decide)), nI_clamp (by omega), nI_1]
    · exact (a1.tr (e1.mono (fun q hq => by unfold scm at hq; omega))).si (by omega) _ _
    · intro w hw
      rw [gi_si]
      by_cases c : w = k
      · subst c
        rw [if_pos ⟨rfl, rfl⟩]
      · rw [if_neg (by omega)]
        exact (e1.1 _ _ (by unfold scm; omega)).trans (a2 w (by omega))) n 0 M (by omega) (by omega) ⟨same.rf, fun w hw => absurd hw (by omega)⟩
  refine ⟨M', ?_, a1, a2⟩
  unfold j_X9_dayGoes_225
  rw [show ((0 : Int32), M) = (nI 0, M) from rfl, e]
  refine gl_mr ?_
  rw [b_X9_dayGoes_227]
  simp only [(a1.1 0 1 (by omega)).trans t.wards]
  rw [if_pos (nI_le (Nat.le_refl _) (by omega))]
def Tw.fl (T : Tw) (wd : Nat) (s : Sp) (fell k : Nat) (w : Nat) : Nat := if w < k then T.faithful wd s fell (fun v => s.doubt wd v) w else s.faith w
theorem mFaithL {fell : Nat} (hn : 2000 < n) (hb : b ≤ 54) (g : s.Good wd) (h : StR wd s 12 b M) (t : TwM wd T M) (hm : ∀ w, w < wd → gi M 17 w = T.belief s w (s.doubt wd w) fell) :
    ∃ M', j_X9_dayGoes_261 n (nI b) (nI fell) M = j_X9_dayGoes_312 n (nI b) (nI fell) M' ∧ StR wd (s.setFaith (T.fl wd s fell wd)) 12 b M' ∧ kp (fun t k => t = 12 ∧ b ≤ k ∧ k < b + 54) M M' := by
  have h1 := g.h_wd
  obtain ⟨M', m, ⟨a1, a2⟩, e⟩ := gl_k (body := b_X9_dayGoes_263 n (nI b) (nI fell)) (fun k (M' : Mem) => (nI k, M')) wd (fun k M' => StR wd (s.setFaith (T.fl wd s fell k)) 12 b M' ∧ kp (fun t k => t = 12 ∧ b ≤ k ∧ k < b + 54) M M') (fun k M' hk hI => by
    obtain ⟨a1, a2⟩ := hI
    have gk : (s.setFaith (T.fl wd s fell k)).Good wd := faith_good g (fun w hw => by
      show T.fl wd s fell k w ≤ 99
      unfold Tw.fl
      split
      · exact (bN_is (hi := 99) (by decide)).2
      · exact g.h_faith w hw)
    have x1 : gi M' 12 (b + 38 + k) = nI (s.faith k) := by
      rw [a1.faith k hk]
      show nI (T.fl wd s fell k k) = _
      unfold Tw.fl
      rw [if_neg (by omega)]
    refine ⟨si M' 12 (b + 38 + k) (nI (T.faithful wd s fell (fun v => s.doubt wd v) k)), ?_, ?_, a2.si (by omega) _⟩
    · rw [b_X9_dayGoes_263]
      simp only [(a2.1 0 1 (by omega)).trans t.wards]
      rw [if_neg (nI_ge hk (by omega)), nA_38, nI_add]
      have i1 : inb (nI (b + 38 + k)) 108 := n_in (by omega) (by decide)
      have i2 : inb (nI k) 8 := n_in (by omega) (by decide)
      have z1 : (nI (b + 38 + k)).toNatClampNeg = b + 38 + k := nI_clamp (by omega)
      have z2 : (nI k).toNatClampNeg = k := nI_clamp (by omega)
      simp only [ck_pos i1, ck_pos i2, z1, z2]
      rw [x1, a2.1 17 k (by omega), hm k hk, mBounded]
      simp only [bd]
      rw [nI_1, show bndI (nI (s.faith k) + T.belief s k (s.doubt wd k) fell) 0 99 = nI (bN (nI (s.faith k) + T.belief s k (s.doubt wd k) fell) 99) from (bN_is (hi := 99) (by decide)).1]
      rfl
    · refine mFaithRow (s := s.setFaith (T.fl wd s fell k)) (f := T.fl wd s fell (k + 1)) gk hk a1 (fun v hv => ?_)
      show T.fl wd s fell (k + 1) v = if v = k then _ else T.fl wd s fell k v
      unfold Tw.fl
      by_cases c : v = k
      · subst c
        rw [if_pos (by omega), if_pos rfl]
      · rw [if_neg c]
        by_cases c2 : v < k
        · rw [if_pos c2, if_pos (by omega)]
        · rw [if_neg c2, if_neg (by omega)]) n 0 M (by omega) (by omega) ⟨h, kp.rf⟩
  refine ⟨M', ?_, a1, a2⟩
  unfold j_X9_dayGoes_261
  rw [show ((0 : Int32), M) = (nI 0, M) from rfl, e]
  refine gl_mr ?_
  rw [b_X9_dayGoes_263]
  simp only [(a2.1 0 1 (by omega)).trans t.wards]
  rw [if_pos (nI_le (Nat.le_refl _) (by omega))]
end D
