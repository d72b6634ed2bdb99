def fl (f : Rq → Nat → Nat) (S : St) (j : Nat) : Nat := if S.2.2 (j / 3) 0 14 = 0 then (if j % 3 < S.2.2 (j / 3) 0 11 then f (S.2.2 (j / 3)) (j % 3) else 0) else 0
theorem fl_sum (f : Rq → Nat → Nat) (S : St) (n : Nat) (h : ∀ i, i < n → S.2.2 i 0 11 ≤ 3) : sm (fl f S) (3 * n) = sm (fun i => if S.2.2 i 0 14 = 0 then sm (f (S.2.2 i)) (S.2.2 i 0 11) else 0) n := by
  rw [sm_3]
  refine sm_congr fun i hi => ?_
  by_cases he : S.2.2 i 0 14 = 0
  · rw [if_pos he, ← sm_guard (f (S.2.2 i)) (h i hi)]
    refine sm_congr fun j hj => ?_
    unfold fl
    rw [show (3 * i + j) / 3 = i by omega, show (3 * i + j) % 3 = j by omega, if_pos he]
  · rw [if_neg he]
    refine sm_zero fun j hj => ?_
    unfold fl
    rw [show (3 * i + j) / 3 = i by omega, if_neg he]
theorem tb_le (w k : Nat) : tb w k ≤ 1 := by unfold tb; omega
theorem lB_le {r : Rq} {f k l : Nat} (h : r 6 l ≤ 20) : lB r f k l ≤ 20 := by
  unfold lB
  have h1 := tb_le (r 10 l) k
  have h2 := tb_le (r 7 l) f
  generalize tb (r 10 l) k = a at *
  generalize tb (r 7 l) f = b at *
  have ha : a = 0 ∨ a = 1 := by omega
  have hb : b = 0 ∨ b = 1 := by omega
  rcases ha with rfl | rfl <;> rcases hb with rfl | rfl <;> omega
theorem qB_le {r : Rq} {f k : Nat} (h3 : r 0 11 ≤ 3) (h : ∀ l, l < r 0 11 → r 6 l ≤ 20) : qB r f k ≤ 60 := by
  unfold qB
  split
  · have h1 : sm (lB r f k) (r 0 11) ≤ sm (fun _ => 20) (r 0 11) := sm_le fun l hl => lB_le (h l hl)
    rw [sm_const] at h1
    omega
  · omega
theorem sB_le {S : St} {n f k : Nat} (hn : n ≤ 13) (h : ∀ i, i < n → S.2.2 i 0 11 ≤ 3 ∧ ∀ l, l < S.2.2 i 0 11 → S.2.2 i 6 l ≤ 20) : sm (fun i => qB (S.2.2 i) f k) n ≤ 780 := by
  have h1 : sm (fun i => qB (S.2.2 i) f k) n ≤ sm (fun _ => 60) n := sm_le fun i hi => qB_le (h i hi).1 (h i hi).2
  rw [sm_const] at h1
  omega
def flA (f : Rq → Nat → Nat) (S : St) (j : Nat) : Nat := if S.2.2 (j / 3) 0 14 = 0 then (if j % 3 < S.2.2 (j / 3) 0 10 then f (S.2.2 (j / 3)) (j % 3) else 0) else 0
theorem flA_sum (f : Rq → Nat → Nat) (S : St) (n : Nat) (h : ∀ i, i < n → S.2.2 i 0 10 ≤ 3) : sm (flA f S) (3 * n) = sm (fun i => if S.2.2 i 0 14 = 0 then sm (f (S.2.2 i)) (S.2.2 i 0 10) else 0) n := by
  rw [sm_3]
  refine sm_congr fun i hi => ?_
  by_cases he : S.2.2 i 0 14 = 0
  · rw [if_pos he, ← sm_guard (f (S.2.2 i)) (h i hi)]
    refine sm_congr fun j hj => ?_
    unfold flA
    rw [show (3 * i + j) / 3 = i by omega, show (3 * i + j) % 3 = j by omega, if_pos he]
  · rw [if_neg he]
    refine sm_zero fun j hj => ?_
    unfold flA
    rw [show (3 * i + j) / 3 = i by omega, if_neg he]
