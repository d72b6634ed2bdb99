def dX (c : Nat) : Prop := c = 30 ∨ c = 35 ∨ (41 ≤ c ∧ c ≤ 51)
theorem dX.m {μ μ2 : Mm} (h : Sm dX μ μ2) : Sm mCell μ μ2 := Sm.mono h (fun c hc => by unfold dX at hc; unfold mCell; omega)
def nwS (S : St) (i k v : Nat) (n : Nat) : Nat := sm (fun l => if isL (S.2.2 i) l k = true then pc (nwL S i k v l) else 0) n
