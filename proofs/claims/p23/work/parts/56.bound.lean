/-! no net of 6 nodes and 9 links has more than 15 ways between two nodes -/
set_option maxRecDepth 100000 in
def b1 (b : Bool) : Nat := cond b 1 0
def ways6 (e01 e02 e03 e04 e05 e12 e13 e14 e15 e23 e24 e25 e34 e35 e45 : Bool) : Nat := (cond e01 1 0) + (cond e02 ((cond e12 1 0) + (cond e23 ((cond e13 1 0) + (cond e34 ((cond e14 1 0) + (cond e45 ((cond e15 1 0)) 0)) 0) + (cond e35 ((cond e15 1 0) + (cond e45 ((cond e14 1 0)) 0)) 0)) 0) + (cond e24 ((cond e14 1 0) + (cond e34 ((cond e13 1 0) + (cond e35 ((cond e15 1 0)) 0)) 0) + (cond e45 ((cond e15 1 0) + (cond e35 ((cond e13 1 0)) 0)) 0)) 0) + (cond e25 ((cond e15 1 0) + (cond e35 ((cond e13 1 0) + (cond e34 ((cond e14 1 0)) 0)) 0) + (cond e45 ((cond e14 1 0) + (cond e34 ((cond e13 1 0)) 0)) 0)) 0)) 0) + (cond e03 ((cond e13 1 0) + (cond e23 ((cond e12 1 0) + (cond e24 ((cond e14 1 0) + (cond e45 ((cond e15 1 0)) 0)) 0) + (cond e25 ((cond e15 1 0) + (cond e45 ((cond e14 1 0)) 0)) 0)) 0) + (cond e34 ((cond e14 1 0) + (cond e24 ((cond e12 1 0) + (cond e25 ((cond e15 1 0)) 0)) 0) + (cond e45 ((cond e15 1 0) + (cond e25 ((cond e12 1 0)) 0)) 0)) 0) + (cond e35 ((cond e15 1 0) + (cond e25 ((cond e12 1 0) + (cond e24 ((cond e14 1 0)) 0)) 0) + (cond e45 ((cond e14 1 0) + (cond e24 ((cond e12 1 0)) 0)) 0)) 0)) 0) + (cond e04 ((cond e14 1 0) + (cond e24 ((cond e12 1 0) + (cond e23 ((cond e13 1 0) + (cond e35 ((cond e15 1 0)) 0)) 0) + (cond e25 ((cond e15 1 0) + (cond e35 ((cond e13 1 0)) 0)) 0)) 0) + (cond e34 ((cond e13 1 0) + (cond e23 ((cond e12 1 0) + (cond e25 ((cond e15 1 0)) 0)) 0) + (cond e35 ((cond e15 1 0) + (cond e25 ((cond e12 1 0)) 0)) 0)) 0) + (cond e45 ((cond e15 1 0) + (cond e25 ((cond e12 1 0) + (cond e23 ((cond e13 1 0)) 0)) 0) + (cond e35 ((cond e13 1 0) + (cond e23 ((cond e12 1 0)) 0)) 0)) 0)) 0) + (cond e05 ((cond e15 1 0) + (cond e25 ((cond e12 1 0) + (cond e23 ((cond e13 1 0) + (cond e34 ((cond e14 1 0)) 0)) 0) + (cond e24 ((cond e14 1 0) + (cond e34 ((cond e13 1 0)) 0)) 0)) 0) + (cond e35 ((cond e13 1 0) + (cond e23 ((cond e12 1 0) + (cond e24 ((cond e14 1 0)) 0)) 0) + (cond e34 ((cond e14 1 0) + (cond e24 ((cond e12 1 0)) 0)) 0)) 0) + (cond e45 ((cond e14 1 0) + (cond e24 ((cond e12 1 0) + (cond e23 ((cond e13 1 0)) 0)) 0) + (cond e34 ((cond e13 1 0) + (cond e23 ((cond e12 1 0)) 0)) 0)) 0)) 0)
set_option maxRecDepth 100000 in
theorem ways6_le : ∀ e01 e02 e03 e04 e05 e12 e13 e14 e15 e23 e24 e25 e34 e35 e45 : Bool, Nat.ble (b1 e01 + b1 e02 + b1 e03 + b1 e04 + b1 e05 + b1 e12 + b1 e13 + b1 e14 + b1 e15 + b1 e23 + b1 e24 + b1 e25 + b1 e34 + b1 e35 + b1 e45) 9 = true → Nat.ble (ways6 e01 e02 e03 e04 e05 e12 e13 e14 e15 e23 e24 e25 e34 e35 e45) 15 = true := by unfold ways6 b1; decide +kernel
def s6 (f : Nat → Nat) : Nat := f 0 + f 1 + f 2 + f 3 + f 4 + f 5
theorem s6_le {f g : Nat → Nat} (h : ∀ u, u < 6 → f u ≤ g u) : s6 f ≤ s6 g := by
  have h0 := h 0 (by omega); have h1 := h 1 (by omega); have h2 := h 2 (by omega)
  have h3 := h 3 (by omega); have h4 := h 4 (by omega); have h5 := h 5 (by omega)
  unfold s6; omega
theorem s6_congr {f g : Nat → Nat} (h : ∀ u, u < 6 → f u = g u) : s6 f = s6 g :=
  Nat.le_antisymm (s6_le fun u hu => Nat.le_of_eq (h u hu)) (s6_le fun u hu => Nat.le_of_eq (h u hu).symm)
/-- the count of ways in a net by its nodes -/
def cnt (E : Nat → Nat → Bool) (to : Nat) : Nat → Nat → (Nat → Bool) → Nat
  | 0, _, _ => 0
  | d + 1, here, s => s6 fun u => cond (E here u) (cond (u == to) 1 (cond (s u) 0 (cnt E to d u (fun v => s v || v == u)))) 0
def swp (i j x : Nat) : Nat := if x = i then j else if x = j then i else x
theorem swp_lt {i j x : Nat} (hi : i < 6) (hj : j < 6) (hx : x < 6) : swp i j x < 6 := by unfold swp; split <;> (try split) <;> omega
theorem swp_swp (i j x : Nat) : swp i j (swp i j x) = x := by unfold swp; split <;> (try split) <;> (try split) <;> omega
theorem s6_swp (f : Nat → Nat) : ∀ i, i < 6 → ∀ j, j < 6 → s6 (fun u => f (swp i j u)) = s6 f := by
  intro i hi j hj
  have hi2 : i = 0 ∨ i = 1 ∨ i = 2 ∨ i = 3 ∨ i = 4 ∨ i = 5 := by omega
  have hj2 : j = 0 ∨ j = 1 ∨ j = 2 ∨ j = 3 ∨ j = 4 ∨ j = 5 := by omega
  rcases hi2 with rfl | rfl | rfl | rfl | rfl | rfl <;> rcases hj2 with rfl | rfl | rfl | rfl | rfl | rfl <;> simp [s6, swp] <;> omega
theorem cnt_swp (E : Nat → Nat → Bool) {i j : Nat} (hi : i < 6) (hj : j < 6) (to : Nat) : ∀ d here s, cnt (fun x y => E (swp i j x) (swp i j y)) (swp i j to) d (swp i j here) (fun v => s (swp i j v)) = cnt E to d here s := by
  intro d
  induction d with
  | zero => intros; rfl
  | succ d ih =>
    intro here s
    show s6 _ = s6 _
    rw [← s6_swp (fun u => cond (E here u) (cond (u == to) 1 (cond (s u) 0 (cnt E to d u (fun v => s v || v == u)))) 0) i hi j hj]
    refine s6_congr fun u _ => ?_
    simp only [swp_swp]
    have e1 : (u == swp i j to) = (swp i j u == to) := by
      rw [Bool.eq_iff_iff, beq_iff_eq, beq_iff_eq]
      constructor
      · intro h; rw [h, swp_swp]
      · intro h; rw [← h, swp_swp]
    rw [e1]
    congr 3
    rw [← ih (swp i j u) (fun v => s v || v == swp i j u), swp_swp]
    congr 1
    funext v
    congr 1
    rw [Bool.eq_iff_iff, beq_iff_eq, beq_iff_eq]
    constructor
    · intro h; rw [h]
    · intro h
      have := congrArg (swp i j) h
      rwa [swp_swp, swp_swp] at this
def ec (E : Nat → Nat → Bool) : Nat := s6 fun u => s6 fun v => b1 (E u v)
theorem ec_swp (E : Nat → Nat → Bool) {i j : Nat} (hi : i < 6) (hj : j < 6) : ec (fun x y => E (swp i j x) (swp i j y)) = ec E := by
  unfold ec
  rw [← s6_swp (fun u => s6 fun v => b1 (E u v)) i hi j hj]
  refine s6_congr fun u _ => ?_
  exact s6_swp (fun v => b1 (E (swp i j u) v)) i hi j hj
def sb (s2 s3 s4 s5 : Bool) : Nat → Bool
  | 0 => true
  | 1 => false
  | 2 => s2
  | 3 => s3
  | 4 => s4
  | 5 => s5
  | _ => false
theorem cnt_ext (E : Nat → Nat → Bool) (to : Nat) : ∀ (d here : Nat) (s t : Nat → Bool), (∀ v, v < 6 → s v = t v) → cnt E to d here s = cnt E to d here t := by
  intro d
  induction d with
  | zero => intros; rfl
  | succ d ih =>
    intro here s t h
    refine s6_congr fun u hu => ?_
    rw [h u hu, ih u (fun v => s v || v == u) (fun v => t v || v == u) (fun v hv => by rw [h v hv])]
theorem sb_0 (E : Nat → Nat → Bool) : cnt E 1 6 0 (fun v => v == 0) = cnt E 1 6 0 (sb false false false false) := by
  refine cnt_ext E 1 6 0 _ _ fun v hv => ?_
  have hv2 : v = 0 ∨ v = 1 ∨ v = 2 ∨ v = 3 ∨ v = 4 ∨ v = 5 := by omega
  rcases hv2 with rfl | rfl | rfl | rfl | rfl | rfl <;> rfl
theorem cb_zero (E : Nat → Nat → Bool) (here : Nat) (s : Nat → Bool) : cnt E 1 0 here s = 0 := rfl
theorem cb_rec (E : Nat → Nat → Bool) (d here : Nat) (s2 s3 s4 s5 : Bool) : cnt E 1 (d + 1) here (sb s2 s3 s4 s5) = cond (E here 1) 1 0 + cond (E here 2) (cond s2 0 (cnt E 1 d 2 (sb true s3 s4 s5))) 0 + cond (E here 3) (cond s3 0 (cnt E 1 d 3 (sb s2 true s4 s5))) 0 + cond (E here 4) (cond s4 0 (cnt E 1 d 4 (sb s2 s3 true s5))) 0 + cond (E here 5) (cond s5 0 (cnt E 1 d 5 (sb s2 s3 s4 true))) 0 := by
  show s6 _ = _
  have k2 : cnt E 1 d 2 (fun v => sb s2 s3 s4 s5 v || v == 2) = cnt E 1 d 2 (sb true s3 s4 s5) := cnt_ext E 1 d 2 _ _ fun v hv => by
    have hv2 : v = 0 ∨ v = 1 ∨ v = 2 ∨ v = 3 ∨ v = 4 ∨ v = 5 := by omega
    rcases hv2 with rfl | rfl | rfl | rfl | rfl | rfl <;> simp [sb]
  have k3 : cnt E 1 d 3 (fun v => sb s2 s3 s4 s5 v || v == 3) = cnt E 1 d 3 (sb s2 true s4 s5) := cnt_ext E 1 d 3 _ _ fun v hv => by
    have hv2 : v = 0 ∨ v = 1 ∨ v = 2 ∨ v = 3 ∨ v = 4 ∨ v = 5 := by omega
    rcases hv2 with rfl | rfl | rfl | rfl | rfl | rfl <;> simp [sb]
  have k4 : cnt E 1 d 4 (fun v => sb s2 s3 s4 s5 v || v == 4) = cnt E 1 d 4 (sb s2 s3 true s5) := cnt_ext E 1 d 4 _ _ fun v hv => by
    have hv2 : v = 0 ∨ v = 1 ∨ v = 2 ∨ v = 3 ∨ v = 4 ∨ v = 5 := by omega
    rcases hv2 with rfl | rfl | rfl | rfl | rfl | rfl <;> simp [sb]
  have k5 : cnt E 1 d 5 (fun v => sb s2 s3 s4 s5 v || v == 5) = cnt E 1 d 5 (sb s2 s3 s4 true) := cnt_ext E 1 d 5 _ _ fun v hv => by
    have hv2 : v = 0 ∨ v = 1 ∨ v = 2 ∨ v = 3 ∨ v = 4 ∨ v = 5 := by omega
    rcases hv2 with rfl | rfl | rfl | rfl | rfl | rfl <;> simp [sb]
  unfold s6
  simp only [k2, k3, k4, k5]
  simp [sb]
theorem cnt_01 (E : Nat → Nat → Bool) (hs : ∀ u v, E u v = E v u) (hc : ec E ≤ 18) : cnt E 1 6 0 (fun v => v == 0) ≤ 15 := by
  have h1 : cnt E 1 6 0 (fun v => v == 0) ≤ ways6 (E 0 1) (E 0 2) (E 0 3) (E 0 4) (E 0 5) (E 1 2) (E 1 3) (E 1 4) (E 1 5) (E 2 3) (E 2 4) (E 2 5) (E 3 4) (E 3 5) (E 4 5) := by
    rw [sb_0]
    simp only [cb_rec, cb_zero, cond_true, cond_false, Nat.add_zero, Nat.zero_add, Bool.cond_self]
    unfold ways6
    simp only [hs 1 0, hs 2 0, hs 3 0, hs 4 0, hs 5 0, hs 2 1, hs 3 1, hs 4 1, hs 5 1, hs 3 2, hs 4 2, hs 5 2, hs 4 3, hs 5 3, hs 5 4]
    omega
  have h2 := ways6_le (E 0 1) (E 0 2) (E 0 3) (E 0 4) (E 0 5) (E 1 2) (E 1 3) (E 1 4) (E 1 5) (E 2 3) (E 2 4) (E 2 5) (E 3 4) (E 3 5) (E 4 5)
  have h3 : Nat.ble (b1 (E 0 1) + b1 (E 0 2) + b1 (E 0 3) + b1 (E 0 4) + b1 (E 0 5) + b1 (E 1 2) + b1 (E 1 3) + b1 (E 1 4) + b1 (E 1 5) + b1 (E 2 3) + b1 (E 2 4) + b1 (E 2 5) + b1 (E 3 4) + b1 (E 3 5) + b1 (E 4 5)) 9 = true := by
    rw [Nat.ble_eq]
    simp only [ec, s6] at hc
    simp only [hs 1 0, hs 2 0, hs 3 0, hs 4 0, hs 5 0, hs 2 1, hs 3 1, hs 4 1, hs 5 1, hs 3 2, hs 4 2, hs 5 2, hs 4 3, hs 5 3, hs 5 4] at hc
    omega
  have h4 := h2 h3
  rw [Nat.ble_eq] at h4
  omega
theorem cnt_15 (E : Nat → Nat → Bool) (hs : ∀ u v, E u v = E v u) (hc : ec E ≤ 18) {a b : Nat} (ha : a < 6) (hb : b < 6) (hab : a ≠ b) : cnt E b 6 a (fun v => v == a) ≤ 15 := by
  have hb2 : swp 0 a b < 6 := swp_lt (by omega) ha hb
  have hz : swp 0 a b ≠ 0 := by unfold swp; split <;> (try split) <;> omega
  rw [← cnt_swp E (show 0 < 6 by omega) ha b 6 a (fun v => v == a)]
  have e1 : swp 0 a a = 0 := by unfold swp; split <;> (try split) <;> omega
  have e2 : (fun v => swp 0 a v == a) = fun v => v == 0 := by
    funext v
    rw [Bool.eq_iff_iff, beq_iff_eq, beq_iff_eq]
    unfold swp
    split <;> (try split) <;> omega
  rw [e1, e2, ← cnt_swp _ (show 1 < 6 by omega) hb2 (swp 0 a b) 6 0 (fun v => v == 0)]
  have e3 : swp 1 (swp 0 a b) (swp 0 a b) = 1 := by
    generalize swp 0 a b = c at *
    unfold swp; split <;> (try split) <;> omega
  have e4 : swp 1 (swp 0 a b) 0 = 0 := by
    generalize swp 0 a b = c at *
    unfold swp; split <;> (try split) <;> omega
  have e5 : (fun v => swp 1 (swp 0 a b) v == 0) = fun v => v == 0 := by
    generalize swp 0 a b = c at *
    funext v
    rw [Bool.eq_iff_iff, beq_iff_eq, beq_iff_eq]
    unfold swp
    split <;> (try split) <;> omega
  rw [e3, e4, e5]
  refine cnt_01 _ (fun u v => hs _ _) ?_
  rw [ec_swp (fun x y => E (swp 0 a x) (swp 0 a y)) (by omega) hb2, ec_swp E (by omega) ha]
  exact hc
/-- a net as it may be: two links lead between no two nodes -/
def NetOk (G : GD) : Prop := G.1 ≤ 9 ∧ GE6 G ∧ (∀ k, k < G.1 → G.2.1 k ≠ G.2.2.1 k) ∧ ∀ j k, j < G.1 → k < G.1 → j ≠ k → ∀ v, v < 6 → oth G j v = oth G k v → oth G j v = 6
def lk (G : GD) (k u v : Nat) : Bool := !G.2.2.2.testBit k && ((G.2.1 k == u && G.2.2.1 k == v) || (G.2.2.1 k == u && G.2.1 k == v))
def adjn (G : GD) : Nat → Nat → Nat → Bool
  | 0, _, _ => false
  | n + 1, u, v => adjn G n u v || lk G n u v
theorem lk_comm (G : GD) (k u v : Nat) : lk G k u v = lk G k v u := by
  unfold lk
  congr 1
  rw [Bool.or_comm, Bool.and_comm, Bool.and_comm (G.2.1 k == u)]
theorem adjn_comm (G : GD) : ∀ n u v, adjn G n u v = adjn G n v u
  | 0, _, _ => rfl
  | n + 1, u, v => by unfold adjn; rw [adjn_comm G n u v, lk_comm]
theorem s6_add (f g : Nat → Nat) : s6 (fun u => f u + g u) = s6 f + s6 g := by simp only [s6]; omega
theorem b1_or (a b : Bool) : b1 (a || b) ≤ b1 a + b1 b := by cases a <;> cases b <;> decide
theorem s6_pt {a : Nat} (ha : a < 6) (c : Nat) (f : Nat → Nat) (h : ∀ u, u < 6 → u ≠ a → f u = 0) (hc : f a ≤ c) : s6 f ≤ c := by
  have h0 := h 0 (by omega); have h1 := h 1 (by omega); have h2 := h 2 (by omega)
  have h3 := h 3 (by omega); have h4 := h 4 (by omega); have h5 := h 5 (by omega)
  have ha2 : a = 0 ∨ a = 1 ∨ a = 2 ∨ a = 3 ∨ a = 4 ∨ a = 5 := by omega
  unfold s6
  rcases ha2 with rfl | rfl | rfl | rfl | rfl | rfl <;> omega
theorem ec_lk (G : GD) (k : Nat) (h1 : G.2.1 k < 6) (h2 : G.2.2.1 k < 6) : ec (lk G k) ≤ 2 := by
  have e : ∀ u v, b1 (lk G k u v) ≤ b1 (G.2.1 k == u && G.2.2.1 k == v) + b1 (G.2.2.1 k == u && G.2.1 k == v) := by
    intro u v
    unfold lk
    cases G.2.2.2.testBit k
    · exact b1_or _ _
    · exact Nat.zero_le _
  have g : ∀ a b, a < 6 → b < 6 → s6 (fun u => s6 fun v => b1 (a == u && b == v)) ≤ 1 := by
    intro a b ha hb
    refine s6_pt ha 1 _ (fun u _ hu => ?_) ?_
    · have : (a == u) = false := by simpa using fun h => hu h.symm
      simp [this, s6, b1]
    · refine s6_pt hb 1 _ (fun v _ hv => ?_) ?_
      · have : (b == v) = false := by simpa using fun h => hv h.symm
        simp [this, b1]
      · simp [b1]
  have h3 := g _ _ h1 h2
  have h4 := g _ _ h2 h1
  have h5 : ec (lk G k) ≤ s6 (fun u => s6 (fun v => b1 (G.2.1 k == u && G.2.2.1 k == v) + b1 (G.2.2.1 k == u && G.2.1 k == v))) := s6_le fun u _ => s6_le fun v _ => e u v
  simp only [s6_add] at h5
  omega
theorem ec_adjn (G : GD) (hG : GE6 G) : ∀ n, n ≤ G.1 → ec (adjn G n) ≤ 2 * n
  | 0, _ => by simp [ec, s6, adjn, b1]
  | n + 1, hn => by
    have h1 := ec_adjn G hG n (by omega)
    have h2 := ec_lk G n (hG n (by omega)).1 (hG n (by omega)).2
    have h3 : ec (adjn G (n + 1)) ≤ s6 (fun u => s6 (fun v => b1 (adjn G n u v) + b1 (lk G n u v))) := s6_le fun u _ => s6_le fun v _ => b1_or _ _
    simp only [s6_add] at h3
    unfold ec at *
    omega
theorem lk_oth {G : GD} {k u v : Nat} (hv : v < 6) (h : lk G k u v = true) (hd : G.2.1 k ≠ G.2.2.1 k) : oth G k u = v := by
  unfold lk at h
  simp only [Bool.and_eq_true, Bool.or_eq_true, beq_iff_eq] at h
  unfold oth
  rcases h.2 with ⟨h1, h2⟩ | ⟨h1, h2⟩
  · rw [if_pos h1, h2]
  · rw [if_neg (by omega), if_pos h1, h2]
theorem oth_lk {G : GD} {k u : Nat} (hf : G.2.2.2.testBit k = false) (h : oth G k u ≠ 6) : lk G k u (oth G k u) = true := by
  unfold oth at *
  unfold lk
  by_cases h1 : G.2.1 k = u
  · simp [h1, hf]
  · by_cases h2 : G.2.2.1 k = u
    · simp [h1, h2, hf]
    · simp [h1, h2] at h
/-- what the links give is at most what the nodes give -/
theorem lk_sum {G : GD} (hG : NetOk G) {here : Nat} (hh : here < 6) (g : Nat → Nat) (F : Nat → Nat) (hF : ∀ k, k < G.1 → F k ≤ if G.2.2.2.testBit k = true ∨ oth G k here = 6 then 0 else g (oth G k here)) :
    ∀ n, n ≤ G.1 → ((List.range n).map F).sum ≤ s6 fun u => cond (adjn G n here u) (g u) 0
  | 0, _ => Nat.zero_le _
  | n + 1, hn => by
    have ih := lk_sum hG hh g F hF n (by omega)
    have hFn := hF n (by omega)
    rw [List.range_succ, List.map_append, List.sum_append]
    simp only [List.map_cons, List.map_nil, List.sum_cons, List.sum_nil, Nat.add_zero]
    by_cases hz : G.2.2.2.testBit n = true ∨ oth G n here = 6
    · rw [if_pos hz] at hFn
      have : (s6 fun u => cond (adjn G n here u) (g u) 0) ≤ s6 fun u => cond (adjn G (n + 1) here u) (g u) 0 := s6_le fun u _ => by
        show _ ≤ cond (adjn G n here u || lk G n here u) (g u) 0
        cases adjn G n here u
        · exact Nat.zero_le _
        · exact Nat.le_refl _
      omega
    · rw [if_neg hz] at hFn
      have hf : G.2.2.2.testBit n = false := by
        cases h : G.2.2.2.testBit n
        · rfl
        · exact absurd (Or.inl h) hz
      have h6 : oth G n here ≠ 6 := fun h => hz (Or.inr h)
      have hg := hG.2.1 n (by omega)
      have hlt : oth G n here < 6 := by have := oth_le (G := G) (k := n) (v := here) hg.1 hg.2; omega
      have hno : ∀ m, m ≤ n → adjn G m here (oth G n here) = false := by
        intro m
        induction m with
        | zero => intro _; rfl
        | succ m ihm =>
          intro hm
          unfold adjn
          rw [ihm (by omega), Bool.false_or]
          cases hl : lk G m here (oth G n here)
          · rfl
          · have h1 := lk_oth hlt hl (hG.2.2.1 m (by omega))
            exact absurd (hG.2.2.2 m n (by omega) (by omega) (by omega) here hh h1) (by rw [h1]; exact h6)
      have hyes : adjn G (n + 1) here (oth G n here) = true := by
        unfold adjn
        rw [oth_lk hf h6, Bool.or_true]
      have hsp : (s6 fun u => cond (adjn G (n + 1) here u) (g u) 0) = (s6 fun u => cond (adjn G n here u) (g u) 0) + s6 fun u => if u = oth G n here then g u else 0 := by
        rw [← s6_add]
        refine s6_congr fun u hu => ?_
        by_cases he : u = oth G n here
        · rw [he, hyes, hno n (Nat.le_refl _), if_pos rfl]; simp
        · rw [if_neg he]
          have : lk G n here u = false := by
            cases hl : lk G n here u
            · rfl
            · exact absurd (lk_oth hu hl (hG.2.2.1 n (by omega))).symm he
          show cond (adjn G n here u || lk G n here u) (g u) 0 = _
          rw [this, Bool.or_false]
          rfl
      have hpt : g (oth G n here) ≤ s6 fun u => if u = oth G n here then g u else 0 := by
        have ha2 : oth G n here = 0 ∨ oth G n here = 1 ∨ oth G n here = 2 ∨ oth G n here = 3 ∨ oth G n here = 4 ∨ oth G n here = 5 := by omega
        rcases ha2 with h | h | h | h | h | h <;> rw [h] <;> simp [s6]
      omega
theorem Tw_cnt {G : GD} (hG : NetOk G) {to : Nat} (hto : to < 6) : ∀ (d here seen way : Nat), here < 6 → (Tw G to d here seen way).length ≤ cnt (adjn G G.1) to d here (fun v => seen.testBit v) := by
  intro d
  induction d with
  | zero => intros; exact Nat.le_refl _
  | succ d ih =>
    intro here seen way hh
    show ((List.range G.1).flatMap (itT G to (Tw G to d) here seen way)).length ≤ _
    rw [List.length_flatMap]
    refine lk_sum hG hh (fun u => cond (u == to) 1 (cond (seen.testBit u) 0 (cnt (adjn G G.1) to d u (fun v => seen.testBit v || v == u)))) _ (fun k hk => ?_) G.1 (Nat.le_refl _)
    have hg := hG.2.1 k hk
    have hle := oth_le (G := G) (k := k) (v := here) hg.1 hg.2
    unfold itT
    by_cases hf : G.2.2.2.testBit k = true
    · rw [if_pos hf]; exact Nat.zero_le _
    · rw [if_neg hf]
      by_cases ht : oth G k here = to
      · rw [if_pos ht, if_neg (by rintro (h | h); exact hf h; omega), ht]
        simp
      · rw [if_neg ht]
        by_cases h6 : oth G k here = 6 ∨ seen.testBit (oth G k here) = true
        · rw [if_pos h6]; exact Nat.zero_le _
        · rw [if_neg h6, if_neg (by rintro (h | h); exact hf h; exact h6 (Or.inl h))]
          have hb : seen.testBit (oth G k here) = false := by
            cases h : seen.testBit (oth G k here)
            · rfl
            · exact absurd (Or.inr h) h6
          have hlt : oth G k here < 6 := by
            have : oth G k here ≠ 6 := fun h => h6 (Or.inl h)
            omega
          have hbt : (oth G k here == to) = false := by simpa using ht
          simp only [hbt, hb, cond_false]
          refine Nat.le_trans (ih _ _ _ hlt) (Nat.le_of_eq ?_)
          congr 1
          funext v
          rw [Nat.testBit_or, Nat.testBit_two_pow]
          congr 1
          rw [Bool.eq_iff_iff, decide_eq_true_iff, beq_iff_eq]
          exact eq_comm
theorem wl_15 {G : GD} (hG : NetOk G) {a b : Nat} (ha : a < 6) (hb : b < 6) (hab : a ≠ b) : (wl G a b).length ≤ 15 := by
  refine Nat.le_trans (Tw_cnt hG hb 6 a (2 ^ a) 0 ha) ?_
  have e : (fun v => (2 ^ a).testBit v) = fun v => v == a := by
    funext v
    rw [Nat.testBit_two_pow, Bool.eq_iff_iff, decide_eq_true_iff, beq_iff_eq]
    exact eq_comm
  rw [e]
  refine cnt_15 _ (adjn_comm G G.1) ?_ ha hb hab
  have := ec_adjn G hG.2.1 G.1 (Nat.le_refl _)
  have := hG.1
  omega
