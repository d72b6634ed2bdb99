def menvC (c : Nat) : Prop := c = 6 ∨ (22 ≤ c ∧ c ≤ 29) ∨ (31 ≤ c ∧ c ≤ 33) ∨ c = 38
theorem d36_all : ∀ c, c < 216 → nI c / (36 : Int32) = nI (c / 36) := by decide +kernel
/-- ways and needs of three lines -/
def WM (G : GD) (r : Rq) (P : Nat → Nat) (l : Nat) : List Nat := if l < r 0 11 then Wof G r P l else [0]
def nd (r : Rq) (l : Nat) : Nat := if l < r 0 11 then r 6 l else 0
theorem mps_pad {G : GD} {r : Rq} {P : Nat → Nat} (hr : r 0 11 ≤ 3) : ∀ m l F c T, l + m = r 0 11 → (∀ j, l ≤ j → T j = 0) → mps G.1 (Wof G r P) (r 6) P m l F c T = mps G.1 (WM G r P) (nd r) P (3 - l) l F c T := by
  have base : ∀ m l F c T, r 0 11 ≤ l → (∀ j, l ≤ j → T j = 0) → mps G.1 (WM G r P) (nd r) P m l F c T = [(c, P, T)] := by
    intro m
    induction m with
    | zero => intro l F c T _ _; rfl
    | succ m ih =>
      intro l F c T hl hT
      show (WM G r P l).flatMap _ = _
      unfold WM
      rw [if_neg (by omega)]
      have hok : okF G.1 F (nI (nd r l)) 0 = true := by
        unfold okF
        rw [al_iff]
        intro k _
        simp
      have h0 : nd r l = 0 := by unfold nd; rw [if_neg (by omega)]
      have ht : tkF G.1 0 (nI (nd r l)) F = F := by
        funext k
        unfold tkF
        rw [if_neg (by simp)]
      have hs : setl T l 0 = T := by
        funext j
        unfold setl
        by_cases hj : j = l
        · rw [if_pos hj, hj, hT l (Nat.le_refl _)]
        · rw [if_neg hj]
      simp only [List.flatMap_cons, List.flatMap_nil, List.append_nil]
      rw [if_pos hok, ht, hs, h0, Nat.zero_mul, Nat.add_zero]
      exact ih (l + 1) F c T (by omega) (fun j hj => hT j (by omega))
  intro m
  induction m with
  | zero =>
    intro l F c T hl hT
    rw [base _ _ _ _ _ (by omega) hT]
    rfl
  | succ m ih =>
    intro l F c T hl hT
    rw [show 3 - l = (3 - (l + 1)) + 1 by omega]
    show (Wof G r P l).flatMap _ = (WM G r P l).flatMap _
    have e1 : WM G r P l = Wof G r P l := by unfold WM; rw [if_pos (by omega)]
    have e2 : nd r l = r 6 l := by unfold nd; rw [if_pos (by omega)]
    rw [e1, e2]
    congr 1
    funext w
    congr 1
    refine ih (l + 1) _ _ _ (by omega) (fun j hj => ?_)
    unfold setl
    rw [if_neg (by omega)]
    exact hT j (by omega)
theorem nd_le {r : Rq} (hr : GoodD r) (l : Nat) : nd r l ≤ 20 := by
  unfold nd
  split
  · rename_i h; exact (hr.2.2.2.1 l h).2.2.2.2
  · omega
theorem WM_15 {G : GD} {r : Rq} {P : Nat → Nat} (hG : NetOk G) (hr : GoodD r) (hP6 : ∀ k, k < r 0 10 → P k < 6) (hPd : ∀ j k, j < r 0 10 → k < r 0 10 → j ≠ k → P j ≠ P k) (l : Nat) : (WM G r P l).length ≤ 15 ∧ ∀ w, w ∈ WM G r P l → w < 512 := by
  unfold WM
  split
  · rename_i h
    obtain ⟨b1, b2, b3, -⟩ := hr.2.2.2.1 l h
    exact ⟨wl_15 hG (hP6 _ b1) (hP6 _ b2) (hPd _ _ b1 b2 b3), fun w hw => (wl_W9 G _ _).lt hG.1 hw⟩
  · refine ⟨by simp, fun w hw => ?_⟩
    rw [List.mem_singleton] at hw
    omega
def dF (c : Nat) : Prop := 43 ≤ c ∧ c ≤ 47
