/-! A day, in the spec: gifts, faith, all of it. -/
def Tw.giftN (T : Tw) (s : Sp) (w d : Nat) : Nat := (T.gift s w d).toNatClampNeg
theorem gift_is {wd w d : Nat} {T : Tw} {s : Sp} (g : s.Good wd) (hw : w < wd) : T.gift s w d = nI (T.giftN s w d) ∧ T.giftN s w d ≤ 20 := by
  have hf := g.h_faith w hw
  unfold Tw.giftN Tw.gift
  cases T.rule 1 with
  | none =>
    simp only []
    rw [nI_clamp (by omega)]
    exact ⟨rfl, by omega⟩
  | some p =>
    simp only []
    exact bN_is (hi := 20) (by decide)
/-- the money behind the gifts of the first wards -/
def Tw.rich (T : Tw) (wd : Nat) (s : Sp) : Nat → Nat
  | 0 => s.money
  | k + 1 => if 999 < T.rich wd s k + T.giftN s k (s.doubt wd k) then 999 else T.rich wd s k + T.giftN s k (s.doubt wd k)
theorem rich_le {wd : Nat} {T : Tw} {s : Sp} (g : s.Good wd) : ∀ k, T.rich wd s k ≤ 999
  | 0 => g.h_money
  | k + 1 => by
    rw [Tw.rich]
    split <;> omega
def Tw.faithful (T : Tw) (wd : Nat) (s : Sp) (fell : Nat) (d : Nat → Nat) (w : Nat) : Nat := bN (nI (s.faith w) + T.belief s w (d w) fell) 99
def Tw.day (T : Tw) (wd wind : Nat) (s : Sp) : Sp :=
  let s1 := s.setLean (bN (nI s.lean + T.leaning s wind) 99)
  let s2 := (s1.setMoney (T.rich wd s1 wd)).hang T.cost
  let r := Sp.drop wd T.ground 16 s2
  let s3 := r.2.setFell r.1
  (s3.all, s3.hung, s3.day + 1, s3.money, s3.lean, s3.fell, s3.weight, s3.mortar, fun w => if w < wd then T.faithful wd s3 r.1 (fun v => s3.doubt wd v) w else s3.faith w, s3.beside)
