def bN (B : Bs) : Nat := match B with
  | none => 9999
  | some y => y.1
theorem kp_cut {B : Bs} {L : List Mp} (h : ∀ x, x ∈ L → bN B ≤ x.1) (hs : ∀ x, x ∈ L → x.1 < 9999) : L.foldl kp B = B := by
  induction L with
  | nil => rfl
  | cons x L ih =>
    rw [List.foldl_cons]
    have h1 := h x List.mem_cons_self
    have h2 := hs x List.mem_cons_self
    have : kp B x = B := by
      cases B with
      | none => have h3 : 9999 ≤ x.1 := h1; omega
      | some y => unfold kp; have h3 : y.1 ≤ x.1 := h1; dsimp only; rw [if_neg (by omega)]
    rw [this]
    exact ih (fun z hz => h z (List.mem_cons_of_mem _ hz)) (fun z hz => hs z (List.mem_cons_of_mem _ hz))
theorem kp_new {B : Bs} {x : Mp} (h : x.1 < bN B) : kp B x = some x := by
  unfold kp
  cases B with
  | none => rfl
  | some y =>
    have h2 : x.1 < y.1 := h
    dsimp only; rw [if_pos h2]
def dB (c : Nat) : Prop := c = 42 ∨ c = 49 ∨ c = 50
theorem mps_cost {nL : Nat} {W : Nat → List Nat} {need P : Nat → Nat} (hn : ∀ l, need l ≤ 20) (hW : ∀ l w, w ∈ W l → w < 512) : ∀ m l F c T, ∀ e ∈ mps nL W need P m l F c T, e.1 ≤ c + 180 * m
  | 0, l, F, c, T, e, he => by
    rw [show mps nL W need P 0 l F c T = [(c, P, T)] from rfl, List.mem_singleton] at he
    subst he
    show c ≤ _
    omega
  | m + 1, l, F, c, T, e, he => by
    obtain ⟨w, hw, hw2⟩ := List.mem_flatMap.mp he
    split at hw2
    · have a1 := mps_cost hn hW m (l + 1) _ _ _ e hw2
      have hp := pc_le w (hW l w hw)
      have hb : need l * pc w ≤ 180 := Nat.mul_le_mul (hn l) hp
      omega
    · cases hw2
def dL (c : Nat) : Prop := 43 ≤ c ∧ c ≤ 50
