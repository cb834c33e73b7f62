/-! A street is laid or cut. -/
theorem st_on : ∀ a, a < 256 → ∀ o, o < 8 → a.testBit o = true → nI a + ((0 : Int32) - nI (2 ^ o)) = nI (a ^^^ 2 ^ o) := by decide +kernel
theorem st_off : ∀ a, a < 256 → ∀ o, o < 8 → a.testBit o = false → nI a + nI (2 ^ o) = nI (a ^^^ 2 ^ o) := by decide +kernel
def Sp.tb (s : Sp) (a b : Nat) (v : Nat) : Nat := if v = a then s.beside a ^^^ 2 ^ b else if v = b then s.beside b ^^^ 2 ^ a else s.beside v
theorem tb_bit {s : Sp} {a b v u : Nat} (hab : a ≠ b) : (s.tb a b v).testBit u = ((s.beside v).testBit u ^^ decide ((v = a ∧ u = b) ∨ (v = b ∧ u = a))) := by
  unfold Sp.tb
  by_cases c1 : v = a
  · subst c1
    rw [if_pos rfl, Nat.testBit_xor, Nat.testBit_two_pow]
    congr 1
    apply decide_eq_decide.mpr
    constructor
    · intro h; exact Or.inl ⟨rfl, h.symm⟩
    · rintro (h | h)
      · exact h.2.symm
      · exact absurd h.1 hab
  · rw [if_neg c1]
    by_cases c2 : v = b
    · subst c2
      rw [if_pos rfl, Nat.testBit_xor, Nat.testBit_two_pow]
      congr 1
      apply decide_eq_decide.mpr
      constructor
      · intro h; exact Or.inr ⟨rfl, h.symm⟩
      · rintro (h | h)
        · exact absurd h.1 c1
        · exact h.2.symm
    · rw [if_neg c2, decide_eq_false (by omega), Bool.xor_false]
theorem tb_good {wd a b : Nat} {s : Sp} (g : s.Good wd) (ha : a < wd) (hb : b < wd) (hab : a ≠ b) : (s.setBeside (s.tb a b)).Good wd := by
  refine ⟨g.h_wd, g.h_hung, g.h_all, g.h_day, g.h_money, g.h_lean, g.h_fell, g.h_weight, g.h_mortar, g.h_faith, fun v hv => ?_, fun v u hv hu => ?_, fun v hv => ?_⟩
  · show s.tb a b v < 2 ^ wd
    unfold Sp.tb
    by_cases c1 : v = a
    · rw [if_pos c1]
      exact Nat.xor_lt_two_pow (g.h_beside a ha) (Nat.pow_lt_pow_right (by decide) hb)
    · rw [if_neg c1]
      by_cases c2 : v = b
      · rw [if_pos c2]
        exact Nat.xor_lt_two_pow (g.h_beside b hb) (Nat.pow_lt_pow_right (by decide) ha)
      · rw [if_neg c2]
        exact g.h_beside v hv
  · show (s.tb a b v).testBit u = (s.tb a b u).testBit v
    rw [tb_bit hab, tb_bit hab, g.h_sym v u hv hu]
    congr 1
    apply decide_eq_decide.mpr
    omega
  · show (s.tb a b v).testBit v = false
    rw [tb_bit hab, g.h_self v hv, decide_eq_false (by omega)]
    rfl
theorem cTb {i wd a b : Nat} {M : Mem} {s : Sp} (hab : a ≠ b) (h : StC wd s i M) : StC wd (s.setBeside (s.tb a b)) i (si (si M (i + 4) a (nI (s.beside a ^^^ 2 ^ b))) (i + 4) b (nI (s.beside b ^^^ 2 ^ a))) := by
  have h' : ∀ t k, ¬ t = i + 4 → gi (si (si M (i + 4) a (nI (s.beside a ^^^ 2 ^ b))) (i + 4) b (nI (s.beside b ^^^ 2 ^ a))) t k = gi M t k := fun t k ht => by rw [gi_si, if_neg (by omega), gi_si, if_neg (by omega)]
  refine ⟨(h' _ _ (by omega)).trans h.all, (h' _ _ (by omega)).trans h.hung, (h' _ _ (by omega)).trans h.wards, (h' _ _ (by omega)).trans h.day, (h' _ _ (by omega)).trans h.money, (h' _ _ (by omega)).trans h.lean, (h' _ _ (by omega)).trans h.fell, fun c hc => (h' _ _ (by omega)).trans (h.weight c hc), fun c hc => (h' _ _ (by omega)).trans (h.mortar c hc), fun v hv => (h' _ _ (by omega)).trans (h.faith v hv), fun v hv => ?_⟩
  show _ = nI (s.tb a b v)
  unfold Sp.tb
  rw [gi_si]
  by_cases c1 : v = a
  · subst c1
    rw [if_neg (by omega), gi_si, if_pos ⟨rfl, rfl⟩, if_pos rfl]
  · rw [if_neg c1]
    by_cases c2 : v = b
    · rw [if_pos ⟨rfl, c2⟩, if_pos c2]
    · rw [if_neg (by omega), gi_si, if_neg (by omega), if_neg c2]
      exact h.beside v hv
theorem mTb {wd a b : Nat} {M : Mem} {s : Sp} (g : s.Good wd) (ha : a < wd) (hb : b < wd) (hab : a ≠ b) (h : StR wd s 12 0 M) : StR wd (s.setBeside (s.tb a b)) 12 0 (si (si M 12 (46 + a) (nI (s.beside a ^^^ 2 ^ b))) 12 (46 + b) (nI (s.beside b ^^^ 2 ^ a))) := by
  have h1 := g.h_all
  have h2 := g.h_wd
  have h' : ∀ k, k < 46 → gi (si (si M 12 (46 + a) (nI (s.beside a ^^^ 2 ^ b))) 12 (46 + b) (nI (s.beside b ^^^ 2 ^ a))) 12 k = gi M 12 k := fun k hk => by rw [gi_si, if_neg (by omega), gi_si, if_neg (by omega)]
  refine ⟨(h' _ (by omega)).trans h.day, (h' _ (by omega)).trans h.money, (h' _ (by omega)).trans h.lean, (h' _ (by omega)).trans h.hung, (h' _ (by omega)).trans h.all, (h' _ (by omega)).trans h.fell, fun c hc => (h' _ (by have : c < s.all := hc; omega)).trans (h.weight c hc), fun c hc => (h' _ (by have : c < s.all := hc; omega)).trans (h.mortar c hc), fun v hv => (h' _ (by omega)).trans (h.faith v hv), fun v hv => ?_⟩
  show _ = nI (s.tb a b v)
  unfold Sp.tb
  rw [gi_si]
  by_cases c1 : v = a
  · subst c1
    rw [if_neg (by omega), gi_si, if_pos ⟨rfl, by omega⟩, if_pos rfl]
  · rw [if_neg c1]
    by_cases c2 : v = b
    · rw [if_pos ⟨rfl, by omega⟩, if_pos c2]
    · rw [if_neg (by omega), gi_si, if_neg (by omega), if_neg c2]
      exact h.beside v hv
section Q
variable {n : Nat} {A : Ab} {M M2 : Mem} {x1 x2 x3 x4 x5 : Int32}
theorem qStreet {t : Nat} (ht : t ≤ 1) (hn : 3000 < n) (g : A.Good) (hC : RC A M) (hM : RM A M2) : QQ k1 (f_X8_street n x1 x2 (nI t) M) (f_X9_street n x1 x2 (nI t) M2) := by
  have hwd := g.g_n.h_wd
  have hM' := hM.thr g 0
  have h0 := thr0 M2
  unfold f_X8_street f_X9_street
  refine qq_ward g hC hM' h0 k1_11 (fun a ha e => ?_)
  dsimp only
  refine qq_ward g hC hM' h0 k1_11 (fun b hb e2 => ?_)
  dsimp only
  subst e e2
  obtain ⟨R1, R2, r1, r2, rr⟩ := rfQQ (n := n) (k := 1) (v := 0) (v' := 0) (by decide) g hC hM' h0
  have r28 : j_X8_street_28 n M = some (0, 0, R1) := by
    unfold j_X8_street_28
    rw [show (1 : Int32) = nI 1 from rfl, r1]
    rfl
  have r54 : j_X9_street_54 n (si M2 0 0 0) = some (0, R2) := by
    unfold j_X9_street_54
    rw [show (1 : Int32) = nI 1 from rfl, r2]
    rfl
  by_cases hab : a = b
  · rw [if_pos (by rw [hab]), if_pos (by rw [hab]), r28, r54]
    exact rr _
  · have hne : ¬ nI a = nI b := fun q => hab ((nI_eq (by omega) (by omega)).mp q)
    have hp : 2 ^ A.wd ≤ 2 ^ 8 := Nat.pow_le_pow_right (by decide) hwd
    have ga := g.g_n.h_beside a ha
    have gb := g.g_n.h_beside b hb
    have hsy := g.g_n.h_sym a b ha hb
    have i1 : inb ((46 : Int32) + nI a) 108 ∧ ((46 : Int32) + nI a).toNatClampNeg = 46 + a := by
      rw [show (46 : Int32) + nI a = nI (46 + a) from nI_add 46 a, nI_clamp (by omega)]
      exact ⟨n_in (by omega) (by decide), rfl⟩
    have i2 : inb ((46 : Int32) + nI b) 108 ∧ ((46 : Int32) + nI b).toNatClampNeg = 46 + b := by
      rw [show (46 : Int32) + nI b = nI (46 + b) from nI_add 46 b, nI_clamp (by omega)]
      exact ⟨n_in (by omega) (by decide), rfl⟩
    have hbb := (bit_if (S := A.now.beside a) (o := b) (by omega) (by omega)).1
    have f2 : gi (si M2 0 0 0) 12 (46 + a) = nI (A.now.beside a) := by
      have := hM'.s_n.beside a ha
      rw [Nat.zero_add] at this
      exact this
    have eS : f_X4_isStreet n 4 (nI a) (nI b) M = some (nI (if (A.now.beside a).testBit b = true then 1 else 0), M) := by
      unfold f_X4_isStreet
      rw [ck_pos (n_in (by omega) (by decide)), nI_clamp (by omega), hC.r_n.beside a ha]
      by_cases c : (A.now.beside a).testBit b = true
      · rw [if_pos (hbb.mpr c), if_pos c]
        rfl
      · rw [if_neg (fun q => c (hbb.mp q)), if_neg c]
        rfl
    have eM : (if ((nI (A.now.beside a) >>> (nI b &&& 31)) &&& (1 : Int32)) = (1 : Int32) then (j_X9_street_50 n (1 : Int32) (nI a) (nI b) (nI t) (si M2 0 0 0)) else (j_X9_street_50 n (0 : Int32) (nI a) (nI b) (nI t) (si M2 0 0 0))) = j_X9_street_50 n (nI (if (A.now.beside a).testBit b = true then 1 else 0)) (nI a) (nI b) (nI t) (si M2 0 0 0) := by
      by_cases c : (A.now.beside a).testBit b = true
      · rw [if_pos (hbb.mpr c), if_pos c]
        rfl
      · rw [if_neg (fun q => c (hbb.mp q)), if_neg c]
        rfl
    rw [if_neg hne, if_neg hne, eS, ck_pos i1.1, i1.2, f2, eM]
    simp only [bd]
    unfold j_X9_street_50
    by_cases ct : (if (A.now.beside a).testBit b = true then 1 else 0) = t
    · rw [ct, if_pos rfl, if_pos rfl, r28, r54]
      exact rr _
    · have cn : ¬ nI (if (A.now.beside a).testBit b = true then 1 else 0) = nI t := fun q => ct ((nI_eq (by split <;> omega) (by omega)).mp q)
      obtain ⟨N, N2, q1, q2, rC, rM, g', hz⟩ := bothKeep hn g hC hM'
      rw [if_neg cn, if_neg cn, q1, q2]
      simp only [bd]
      have s1 : gi N 8 a = nI (A.now.beside a) := rC.r_n.beside a ha
      have s2 : gi N 8 b = nI (A.now.beside b) := rC.r_n.beside b hb
      have m1 : gi N2 12 (46 + a) = nI (A.now.beside a) := by
        have := rM.s_n.beside a ha
        rw [Nat.zero_add] at this
        exact this
      have m2 : gi N2 12 (46 + b) = nI (A.now.beside b) := by
        have := rM.s_n.beside b hb
        rw [Nat.zero_add] at this
        exact this
      have eT : f_X4_turnStreet n 4 (nI a) (nI b) N = some (si (si N 8 a (nI (A.now.beside a ^^^ 2 ^ b))) 8 b (nI (A.now.beside b ^^^ 2 ^ a))) := by
        have j1 : inb (nI a) 8 := n_in (by omega) (by decide)
        have j2 : inb (nI b) 8 := n_in (by omega) (by decide)
        have z1 : (nI a).toNatClampNeg = a := nI_clamp (by omega)
        have z2 : (nI b).toNatClampNeg = b := nI_clamp (by omega)
        unfold f_X4_turnStreet
        simp only [ck_pos j1, ck_pos j2, z1, z2]
        rw [one_sh a (by omega), one_sh b (by omega), show gi N (4 + 4) a = nI (A.now.beside a) from s1, nI_xor, show gi (si N (4 + 4) a (nI (A.now.beside a ^^^ 2 ^ b))) (4 + 4) b = nI (A.now.beside b) by rw [gi_si, if_neg (by omega)]; exact s2, nI_xor]
      have gN := tb_good g.g_n ha hb hab
      have e97 : ∃ y z : Int32, y = nI (A.now.beside a ^^^ 2 ^ b) ∧ z = nI (A.now.beside b ^^^ 2 ^ a) ∧ (ck (inb ((46 : Int32) + nI a) 108) (if nI t = 0 then (j_X9_street_97 n ((0 : Int32) - ((1 : Int32) <<< (nI b &&& 31))) (gi N2 12 ((46 : Int32) + nI a).toNatClampNeg) ((46 : Int32) + nI a) (nI a) (nI b) (nI t) N2) else (j_X9_street_97 n ((1 : Int32) <<< (nI b &&& 31)) (gi N2 12 ((46 : Int32) + nI a).toNatClampNeg) ((46 : Int32) + nI a) (nI a) (nI b) (nI t) N2))) = some (1, si (si N2 12 (46 + a) y) 12 (46 + b) z) := by
        have rd : ∀ y, gi (si N2 12 (46 + a) y) 12 (46 + b) = nI (A.now.beside b) := fun y => by
          rw [gi_si, if_neg (by omega)]
          exact m2
        unfold j_X9_street_97
        simp only [ck_pos i1.1, ck_pos i2.1, i1.2, i2.2, rd]
        rw [m1, one_sh a (by omega), one_sh b (by omega)]
        by_cases c0 : t = 0
        · subst c0
          have hon : (A.now.beside a).testBit b = true := by
            cases e : (A.now.beside a).testBit b with
            | true => rfl
            | false => rw [e] at ct; exact absurd rfl ct
          rw [if_pos (show nI 0 = 0 from rfl), if_pos (show nI 0 = 0 from rfl)]
          exact ⟨_, _, st_on _ (by omega) b (by omega) hon, st_on _ (by omega) a (by omega) (hsy ▸ hon), rfl⟩
        · have t1 : t = 1 := by omega
          subst t1
          have hoff : (A.now.beside a).testBit b = false := by
            cases e : (A.now.beside a).testBit b with
            | false => rfl
            | true => rw [e] at ct; exact absurd rfl ct
          rw [if_neg (show ¬ nI 1 = 0 by decide), if_neg (show ¬ nI 1 = 0 by decide)]
          exact ⟨_, _, st_off _ (by omega) b (by omega) hoff, st_off _ (by omega) a (by omega) (hsy ▸ hoff), rfl⟩
      obtain ⟨y, z, ey, ez, e97⟩ := e97
      subst ey ez
      rw [eT, e97]
      refine ⟨0, 1, _, 1, _, rfl, rfl, ⟨_, na_good g' gN g.g_d g'.g_a, rcNA rC ((kq.rf.si (by unfold VA VC; omega) _).si (by unfold VA VC; omega) _) (cTb (s := A.now) (i := 4) hab rC.r_n) (rC.r_a.kq ((kq.rf.si (V := fun t _ => t = 8) rfl _).si rfl _) (fun t k h1 h2 => by omega)), rmNA g' rM ((kq.rf.si (by unfold VB VR; omega) _).si (by unfold VB VR; omega) _) (mTb (s := A.now) g.g_n ha hb hab rM.s_n) (rM.s_a.kq g'.g_a ((kq.rf.si (V := fun t _ => t = 12) rfl _).si rfl _) (by omega) (fun k => by omega))⟩, ?_, fun _ => rfl⟩
      rw [gi_si, if_neg (by omega), gi_si, if_neg (by omega), hz, h0]
      exact k1_00
end Q
