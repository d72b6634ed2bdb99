theorem nB {S : St} {r : Rq} (hG : Good S) (hgd : GoodD r) : ∀ i, i < nRq S + 1 → (updR S (nRq S) r).2.2 i 0 11 ≤ 3 ∧ ∀ l, l < (updR S (nRq S) r).2.2 i 0 11 → (updR S (nRq S) r).2.2 i 6 l ≤ 20 := by
  intro i hi
  by_cases hin : i = nRq S
  · subst hin
    rw [updR_i]
    exact ⟨hgd.2.1, fun l hl => (hgd.2.2.2.1 l hl).2.2.2.2⟩
  · rw [updR_ne hin]
    exact hG.hB i (by omega)
theorem nSB {S : St} {r : Rq} (h14 : r 0 14 = 0) (f k : Nat) : sm (fun i => qB ((updR S (nRq S) r).2.2 i) f k) (nRq S + 1) = secB S r f k := by
  show sm (fun i => qB ((updR S (nRq S) r).2.2 i) f k) (nRq S) + qB ((updR S (nRq S) r).2.2 (nRq S)) f k = bhS S f k + sm (lB r f k) (r 0 11)
  rw [updR_i, sm_congr (g := fun i => qB (S.2.2 i) f k) (fun i hi => by rw [updR_ne (Nat.ne_of_lt hi)])]
  congr 1
  unfold qB
  rw [if_pos h14]
theorem lB_dis {r : Rq} {k l : Nat} (h : r 10 l &&& r 7 l = 0) : lB r k k l = 0 := by
  have h4 := congrArg (fun x => Nat.testBit x k) h
  simp only [Nat.testBit_and, Nat.zero_testBit] at h4
  unfold lB
  rw [tb_bit, tb_bit (r 7 l)]
  cases h1 : (r 10 l).testBit k with
  | false => simp
  | true =>
    rw [h1, Bool.true_and] at h4
    rw [h4]; simp
