/-! the reference splits -/
theorem sub_pos {a b : Int32} (ha : (-10000 : Int) ≤ a.toInt) (ha2 : a.toInt ≤ 10000) (hb : (-10000 : Int) ≤ b.toInt) (hb2 : b.toInt ≤ 10000) : (a - b).toInt = a.toInt - b.toInt := by
  rw [Int32.toInt_sub, Int.bmod_eq_of_le (by omega) (by omega)]
def dW (c : Nat) : Prop := (34 ≤ c ∧ c ≤ 36) ∨ (42 ≤ c ∧ c ≤ 47)
theorem gw_full {nL : Nat} {F : Nat → Int32} {l : List Nat} {n : Nat} (hn : 1 ≤ n) (hz : gw nL F l n ≠ 0) : spl nL F l n = (true, gw nL F l n, n, 0) := by
  obtain ⟨m, rfl⟩ : ∃ m, n = m + 1 := ⟨n - 1, by omega⟩
  have hd : dwn (gw nL F l) (m + 1) = (gw nL F l (m + 1), m + 1) := by
    unfold dwn
    rw [if_pos hz]
  unfold spl
  rw [hd]
  have ho : spO nL F l (m + 1) (gw nL F l (m + 1), m + 1) = 0 := by
    unfold spO
    rw [if_pos (Nat.sub_self _)]
  rw [ho]
  dsimp only
  rw [decide_eq_false hz, Nat.sub_self]
  rfl
theorem tkF_0 {nL : Nat} {x : Int32} {F : Nat → Int32} : tkF nL 0 x F = F := by
  funext k
  unfold tkF
  rw [if_neg (by simp)]
