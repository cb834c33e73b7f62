/-! The class' day. -/
theorem gl_k {S T A : Type} {body : S → Option (S ⊕ T)} (st : Nat → A → S) (N : Nat) (I : Nat → A → Prop) (hs : ∀ k a, k < N → I k a → ∃ a', body (st k a) = some (.inl (st (k + 1) a')) ∧ I (k + 1) a') : ∀ (n k : Nat) (a : A), k ≤ N → N - k < n → I k a → ∃ a' m, I N a' ∧ gl body n (st k a) = gl body (m + 1) (st N a') := by
  intro n
  induction n with
  | zero => intro k a _ h; omega
  | succ n ih =>
    intro k a hk hn hi
    by_cases hkN : k = N
    · subst hkN
      exact ⟨a, n, hi, rfl⟩
    · obtain ⟨a', e, hi'⟩ := hs k a (by omega) hi
      obtain ⟨a2, m, h1, h2⟩ := ih (k + 1) a' (by omega) (by omega) hi'
      exact ⟨a2, m, h1, by rw [gl_inl e]; exact h2⟩
theorem cReceive {n i wd v : Nat} {M : Mem} {s : Sp} (g : s.Good wd) (h : StC wd s i M) (hv : v ≤ 1000) : f_X4_receive n i (nI v) M = some (si M i 9 (nI (if 999 < s.money + v then 999 else s.money + v))) := by
  have h1 := g.h_money
  unfold f_X4_receive f_J9_min_7cf53
  rw [h.money, nI_add]
  by_cases c : s.money + v < 999
  · rw [if_pos (show nI (s.money + v) < (999 : Int32) from nI_lt (b := 999) c (by decide)), if_neg (by omega)]
    rfl
  · rw [if_neg (show ¬ nI (s.money + v) < (999 : Int32) from nI_nlt (b := 999) (by omega) (by omega))]
    by_cases c2 : 999 < s.money + v
    · rw [if_pos c2]
      rfl
    · rw [if_neg c2, show s.money + v = 999 by omega]
      rfl
theorem cMoney {i wd x : Nat} {M : Mem} {s : Sp} (h : StC wd s i M) : StC wd (s.setMoney x) i (si M i 9 (nI x)) := by
  have ne1 : ¬ i + 1 = i := by omega
  have ne2 : ¬ i + 2 = i := by omega
  have ne3 : ¬ i + 3 = i := by omega
  have ne4 : ¬ i + 4 = i := by omega
  refine ⟨?_, ?_, ?_, ?_, ?_, ?_, ?_, fun c hc => ?_, fun c hc => ?_, fun w hw => ?_, fun w hw => ?_⟩
  · simpa [gi_si, Sp.setMoney] using h.all
  · simpa [gi_si, Sp.setMoney] using h.hung
  · simpa [gi_si] using h.wards
  · simpa [gi_si, Sp.setMoney] using h.day
  · simp [gi_si, Sp.setMoney]
  · simpa [gi_si, Sp.setMoney] using h.lean
  · simpa [gi_si, Sp.setMoney] using h.fell
  · simp only [gi_si, ne1, false_and, if_false]; exact h.weight c hc
  · simp only [gi_si, ne2, false_and, if_false]; exact h.mortar c hc
  · simp only [gi_si, ne3, false_and, if_false]; exact h.faith w hw
  · simp only [gi_si, ne4, false_and, if_false]; exact h.beside w hw
