/-! the mappings, in their order, and the least of them -/
abbrev Mp : Type := Nat × (Nat → Nat) × (Nat → Nat)
abbrev Bs : Type := Option Mp
def kp (B : Bs) (x : Mp) : Bs := match B with
  | none => some x
  | some y => if x.1 < y.1 then some x else some y
def RB (M : Nat) (B : Bs) (L : List Mp) (B2 : Bs) : Prop := (M ≠ 2 → B2 = L.foldl kp B) ∧ B2.isSome = (B.isSome || !L.isEmpty)
theorem RB.nil {M : Nat} {B : Bs} : RB M B [] B := ⟨fun _ => rfl, by simp⟩
theorem RB.app {M : Nat} {B B2 B3 : Bs} {L L2 : List Mp} (h1 : RB M B L B2) (h2 : RB M B2 L2 B3) : RB M B (L ++ L2) B3 := by
  refine ⟨fun hM => ?_, ?_⟩
  · rw [List.foldl_append, ← h1.1 hM]; exact h2.1 hM
  · rw [h2.2, h1.2]
    cases L <;> simp
theorem kp_some (B : Bs) (x : Mp) : (kp B x).isSome = true := by
  unfold kp
  cases B with
  | none => rfl
  | some y => dsimp only; split <;> rfl
theorem RB.one {M : Nat} {B : Bs} (x : Mp) : RB M B [x] (kp B x) := ⟨fun _ => rfl, by rw [kp_some]; simp⟩
theorem RB.skip {M : Nat} {y : Mp} {L : List Mp} (h : M ≠ 2 → ∀ x, x ∈ L → y.1 ≤ x.1) : RB M (some y) L (some y) := by
  refine ⟨fun hM => ?_, by simp⟩
  have h2 := h hM
  clear h
  induction L with
  | nil => rfl
  | cons x L ih =>
    rw [List.foldl_cons]
    have : kp (some y) x = some y := by
      unfold kp
      dsimp only
      rw [if_neg (by have := h2 x List.mem_cons_self; omega)]
    rw [this]
    exact ih (fun z hz => h2 z (List.mem_cons_of_mem _ hz))
def setl (T : Nat → Nat) (l w : Nat) : Nat → Nat := fun j => if j = l then w else T j
def mps (nL : Nat) (W : Nat → List Nat) (need : Nat → Nat) (P : Nat → Nat) : Nat → Nat → (Nat → Int32) → Nat → (Nat → Nat) → List Mp
  | 0, _, _, c, T => [(c, P, T)]
  | m + 1, l, F, c, T => (W l).flatMap fun w => if okF nL F (nI (need l)) w = true then mps nL W need P m (l + 1) (tkF nL w (nI (need l)) F) (c + need l * pc w) (setl T l w) else []
theorem mps_ge (nL : Nat) (W : Nat → List Nat) (need P : Nat → Nat) : ∀ m l F c T, ∀ e ∈ mps nL W need P m l F c T, c ≤ e.1
  | 0, _, _, c, T, e, he => by
    rw [show mps nL W need P 0 _ _ c T = [(c, P, T)] from rfl, List.mem_singleton] at he
    rw [he]
    exact Nat.le_refl _
  | m + 1, l, F, c, T, e, he => by
    obtain ⟨w, _, hw⟩ := List.mem_flatMap.mp he
    split at hw
    · have := mps_ge nL W need P m _ _ _ _ e hw
      omega
    · cases hw
/-- no more room than before, and not too little -/
def Lw (nL : Nat) (F0 : Nat → Int32) (m : Nat) (F : Nat → Int32) : Prop := ∀ k, k < nL → (-5000 : Int) + 20 * m ≤ (F k).toInt ∧ (F k).toInt ≤ (F0 k).toInt
theorem tk_toInt {x : Int32} {n : Nat} (hn : n ≤ 20) (h : (-5000 : Int) ≤ x.toInt) (h2 : x.toInt ≤ 5000) : (x - nI n).toInt = x.toInt - n := by
  rw [Int32.toInt_sub, nI_toInt (by omega), Int.bmod_eq_of_le (by omega) (by omega)]
theorem Lw.tk {nL : Nat} {F0 : Nat → Int32} {m : Nat} {F : Nat → Int32} {w n : Nat} (h : Lw nL F0 (m + 1) F) (hn : n ≤ 20) (h0 : ∀ k, k < nL → (F0 k).toInt ≤ 5000) : Lw nL F0 m (tkF nL w (nI n) F) := by
  intro k hk
  obtain ⟨h1, h2⟩ := h k hk
  have h3 := h0 k hk
  unfold tkF
  split
  · rw [tk_toInt hn (by omega) (by omega)]
    omega
  · omega
theorem Lw.dn {nL : Nat} {F0 : Nat → Int32} {m : Nat} {F : Nat → Int32} (h : Lw nL F0 (m + 1) F) : Lw nL F0 m F := fun k hk => by
  have := h k hk
  omega
theorem ok_mono {nL : Nat} {F0 F : Nat → Int32} {m : Nat} {x : Int32} {w : Nat} (h : Lw nL F0 m F) (ho : okF nL F x w = true) : okF nL F0 x w = true := by
  unfold okF at *
  rw [al_iff] at *
  intro k hk
  have h1 := ho k hk
  cases hb : w.testBit k with
  | false => rfl
  | true =>
    rw [hb] at h1
    simp only [Bool.not_true, Bool.false_or, Bool.not_eq_true', decide_eq_false_iff_not, Int32.lt_iff_toInt_lt] at *
    have := h k hk
    omega
theorem fwp_min {p : Nat → Bool} {n : Nat} {l : List Nat} (h : W9 n l) {w : Nat} (hw : w ∈ l) (hp : p w = true) : fwp p l ≠ 0 ∧ pc (fwp p l) ≤ pc w := by
  have key : ∀ (l2 : List Nat) (b : Nat), (∀ w, w ∈ l2 → w ≠ 0) → ((b ≠ 0 → l2.foldl (fst1 p) b ≠ 0 ∧ pc (l2.foldl (fst1 p) b) ≤ pc b) ∧ (w ∈ l2 → l2.foldl (fst1 p) b ≠ 0 ∧ pc (l2.foldl (fst1 p) b) ≤ pc w)) := by
    intro l2
    induction l2 with
    | nil => intro b _; exact ⟨fun hb => ⟨hb, Nat.le_refl _⟩, fun hx => by cases hx⟩
    | cons v l2 ih =>
      intro b hnz
      have hv := hnz v List.mem_cons_self
      have ih2 := ih (fst1 p b v) (fun x hx => hnz x (List.mem_cons_of_mem _ hx))
      rw [List.foldl_cons]
      refine ⟨fun hb => ?_, fun hm => ?_⟩
      · by_cases hc : p v = true ∧ (b = 0 ∨ pc v < pc b)
        · have e : fst1 p b v = v := by unfold fst1; rw [if_pos hc]
          rw [e] at ih2 ⊢
          have := ih2.1 hv
          have hlt : pc v < pc b := hc.2.resolve_left hb
          exact ⟨this.1, by omega⟩
        · have e : fst1 p b v = b := by unfold fst1; rw [if_neg hc]
          rw [e] at ih2 ⊢
          exact ih2.1 hb
      · rcases List.mem_cons.mp hm with rfl | hm
        · by_cases hc : p w = true ∧ (b = 0 ∨ pc w < pc b)
          · have e : fst1 p b w = w := by unfold fst1; rw [if_pos hc]
            rw [e] at ih2 ⊢
            exact ih2.1 hv
          · have e : fst1 p b w = b := by unfold fst1; rw [if_neg hc]
            rw [e] at ih2 ⊢
            have hb : b ≠ 0 := fun hx => hc ⟨hp, Or.inl hx⟩
            have hge : ¬ pc w < pc b := fun hx => hc ⟨hp, Or.inr hx⟩
            have := ih2.1 hb
            exact ⟨this.1, by omega⟩
        · exact ih2.2 hm
  exact (key l 0 (fun x hx => (h x hx).2)).2 hw
/-- the floors are no higher than what there is -/
def FlOk (nL nl : Nat) (W : Nat → List Nat) (need P : Nat → Nat) (F0 : Nat → Int32) (fr : Nat → Nat) (l : Nat) : Prop := ∀ m F c T, l + m = nl → Lw nL F0 m F → ∀ e ∈ mps nL W need P m l F c T, c + fr l ≤ e.1
theorem FlOk.end_ {nL nl : Nat} {W : Nat → List Nat} {need P : Nat → Nat} {F0 : Nat → Int32} {fr : Nat → Nat} {l : Nat} (h : fr l = 0) : FlOk nL nl W need P F0 fr l := by
  intro m F c T _ _ e he
  rw [h]
  exact mps_ge nL W need P m l F c T e he
theorem FlOk.step {nL nl : Nat} {W : Nat → List Nat} {need P : Nat → Nat} {F0 : Nat → Int32} {fr : Nat → Nat} {l : Nat} (hl : l < nl) (hW : W9 nL (W l)) (hn : need l ≤ 20) (h0 : ∀ k, k < nL → (F0 k).toInt ≤ 5000) (h : FlOk nL nl W need P F0 fr (l + 1)) (hf : fr l = fr (l + 1) + need l * pc (fwp (okF nL F0 (nI (need l))) (W l))) : FlOk nL nl W need P F0 fr l := by
  intro m F c T hm hF e he
  cases m with
  | zero => omega
  | succ m =>
    obtain ⟨w, hw, hw2⟩ := List.mem_flatMap.mp he
    split at hw2
    · rename_i hok
      have h1 := h m _ _ _ (by omega) (hF.tk hn h0) e hw2
      have h2 := fwp_min hW hw (ok_mono hF hok)
      have h3 := Nat.mul_le_mul_left (need l) h2.2
      omega
    · cases hw2
theorem mps_none {nL nl : Nat} {W : Nat → List Nat} {need P : Nat → Nat} {F0 : Nat → Int32} {l : Nat} (hl : l < nl) (hW : W9 nL (W l)) (hn : ∀ j, j < nl → need j ≤ 20) (h0 : ∀ k, k < nL → (F0 k).toInt ≤ 5000) (hz : fwp (okF nL F0 (nI (need l))) (W l) = 0) : ∀ m j F c T, j + m = nl → j ≤ l → Lw nL F0 m F → mps nL W need P m j F c T = [] := by
  intro m
  induction m with
  | zero => intro j F c T hj hjl; omega
  | succ m ih =>
    intro j F c T hj hjl hF
    show (W j).flatMap _ = []
    rw [List.flatMap_eq_nil_iff]
    intro w hw
    by_cases hok : okF nL F (nI (need j)) w = true
    · rw [if_pos hok]
      by_cases hjl2 : j = l
      · subst hjl2
        exact absurd hz (fwp_min hW hw (ok_mono hF hok)).1
      · exact ih (j + 1) _ _ _ (by omega) (by omega) (hF.tk (hn j (by omega)) h0)
    · rw [if_neg hok]
