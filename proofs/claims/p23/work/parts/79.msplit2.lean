theorem updR_self (S : St) (i : Nat) : updR S i (S.2.2 i) = S := by
  obtain ⟨a, b, R⟩ := S
  unfold updR
  have : (fun j => if j = i then R i else R j) = R := by
    funext j
    by_cases hj : j = i
    · rw [if_pos hj, hj]
    · rw [if_neg hj]
  exact congrArg (fun x => (a, b, x)) this
/-- cells that say nothing of the draft, or only what was found for it -/
def dD (c : Nat) : Prop := c = 30 ∨ (34 ≤ c ∧ c ≤ 37) ∨ c = 39 ∨ c = 40 ∨ (41 ≤ c ∧ c ≤ 51)
theorem dD.m {μ μ2 : Mm} (h : Sm dD μ μ2) : Sm mCell μ μ2 := Sm.mono h (fun c hc => by unfold dD at hc; unfold mCell; omega)
def sRq (S : St) (c : Nat) : Rq := spQ S.1.1 (Wof S.1 (dft S) (Pc c)) (dft S) (Pc c) (lfL S)
def spS (S : St) : Option Nat := allS S.1 (nNd S) (lfN S) (lfL S) (dft S)
theorem Good.lf_ge2 {S : St} (h : Good S) : ∀ k, k < nLk S → (-4000 : Int) ≤ (lfL S k).toInt := fun k hk => by
  rw [h.lf hk]
  have h2 := h.nd k
  have h3 := h.rs k
  omega
