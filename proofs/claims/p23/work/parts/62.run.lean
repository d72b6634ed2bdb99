theorem s_findFloors {G : GD} {p M : Nat} {r : Rq} {P : Nat → Nat} {F0 : Nat → Int32} {μ : Mm} {q : Bool → Mm → Prop} (hG : NetOk G) (hp : 105 ≤ p) (hr : GoodD r) (hM : M ≤ 2) (hP6 : ∀ k, k < r 0 10 → P k < 6) (hPd : ∀ j k, j < r 0 10 → k < r 0 10 → j ≠ k → P j ≠ P k) (h0 : ∀ k, k < G.1 → (F0 k).toInt ≤ 5000)
    (hE : Env G p r μ) (hP : ∀ k, k < r 0 10 → μ (p + 3) k = nI (P k)) (hF : ∀ k, k < G.1 → lft μ k = F0 k) (h7 : μ 3 7 = nI M)
    (ht : ∀ μ2 fr, (∀ j, j ≤ r 0 11 → μ2 17 j = nI (fr j)) → (∀ j, j ≤ r 0 11 → fr j ≤ 540) → (∀ j, j ≤ r 0 11 → FlOk G.1 (r 0 11) (Wof G r P) (r 6) P F0 fr j) → Sm (fun c => c = 17) μ μ2 → q true μ2)
    (hf : ∀ μ2, (∀ m F c T, m = r 0 11 → Lw G.1 F0 m F → mps G.1 (Wof G r P) (r 6) P m 0 F c T = []) → Sm (fun c => c = 17) μ μ2 → q false μ2) : Wp_X6_findFloors p μ q := by
  obtain ⟨g1, g2, g3, g4, g5⟩ := hr
  have hrr : GoodD r := ⟨g1, g2, g3, g4, g5⟩
  have hL := hG.1
  have hdE : ∀ x, (fun c => c = 17) x → ¬ envC p x := fun x hx => by try dsimp only at hx; unfold envC; omega
  unfold Wp_X6_findFloors
  intro K17 h17
  unfold F_X6_findFloors_e
  rw [hE.2.2.2.1]
  simp (disch := omega) only [vpT, vpT0, vpT1, vpT2, clT, clT0, clT1, clT2, leT, leF, leT0, ltT, ltF, i1, true_and, and_true, true_implies, false_implies, not_true_eq_false, not_false_eq_true, forall_const, implies_true]
  rw [u_ne (show p ≠ 17 by omega), hE.2.2.2.1]
  -- the state at line n - 1, the floors from n on being laid
  have key : ∀ n, n ≤ r 0 11 → ∀ μ1 fr, Sm (fun c => c = 17) μ μ1 → (∀ j, n ≤ j → j ≤ r 0 11 → μ1 17 j = nI (fr j)) → (∀ j, n ≤ j → j ≤ r 0 11 → fr j + 180 * j ≤ 180 * r 0 11) → (∀ j, n ≤ j → j ≤ r 0 11 → FlOk G.1 (r 0 11) (Wof G r P) (r 6) P F0 fr j) → K17 (nI n + (-1 : Int32)) μ1 := by
    intro n
    induction n with
    | zero =>
      intro _ μ1 fr hs hm hb hfl
      refine h17 _ _ ?_
      unfold F_X6_findFloors_17
      exact br_t (by decide) (ht μ1 fr (fun j hj => hm j (by omega) hj) (fun j hj => by have := hb j (by omega) hj; omega) (fun j hj => hfl j (by omega) hj) hs)
    | succ n ih =>
      intro hn μ1 fr hs hm hb hfl
      have hlt : n < r 0 11 := by omega
      obtain ⟨b1, b2, b3, b4, b5⟩ := g4 n hlt
      rw [pk_m1]
      refine h17 _ _ ?_
      unfold F_X6_findFloors_17
      refine br_f (nI_pos (by omega)) ?_
      simp (disch := omega) only [vpT, vpT0, vpT1, vpT2, clT, clT0, clT1, clT2, leT, leF, leT0, ltT, ltF, i1, true_and, and_true, true_implies, false_implies, not_true_eq_false, not_false_eq_true, forall_const, implies_true]
      obtain ⟨μa, hμa⟩ : ∃ μa, μa = up2 μ1 p_SE_floors n (0 : Int32) := ⟨_, rfl⟩
      rw [← hμa]
      have hsa : Sm (fun c => c = 17) μ μa := by rw [hμa]; exact hs.tr (Sm.up rfl)
      have hEa := hE.fr hsa hdE
      have ea : ∀ j, n + 1 ≤ j → μa 17 j = μ1 17 j := fun j hj => by rw [hμa, u_eq, d_ne (by omega)]
      rw [show μa p_SE 7 = nI M from by rw [hsa 3 (by decide)]; exact h7]
      by_cases hM1 : M = 1
      · subst hM1
        refine rb_t rfl ?_
        refine ih (by omega) μa (fun j => if j = n then 0 else fr j) hsa (fun j h1 h2 => ?_) (fun j h1 h2 => ?_) (fun j h1 h2 => ?_)
        · try dsimp only
          by_cases hj : j = n
          · rw [if_pos hj, hμa, u_eq, hj, d_eq]; rfl
          · rw [if_neg hj, ea j (by omega)]; exact hm j (by omega) h2
        · try dsimp only
          by_cases hj : j = n
          · rw [if_pos hj]; omega
          · rw [if_neg hj]; exact hb j (by omega) h2
        · by_cases hj : j = n
          · exact FlOk.end_ (by rw [if_pos hj])
          · intro m F c T a1 a2 e he
            try dsimp only
            rw [if_neg hj]
            exact hfl j (by omega) h2 m F c T a1 a2 e he
      · refine rb_f (by rw [show (1 : Int32) = nI 1 from rfl, nI_eq (by omega) (by omega)]; exact hM1) ?_
        refine s_pairOf hEa hrr hlt (fun k hk => by rw [hsa (p + 3) (by omega)]; exact hP k hk) ?_
        rw [show μa (p + 6) n = nI (r 6 n) from (hEa.2.2.2.2.2.2 n hlt).2.2]
        refine s_shortFor hG hEa.1 hEa.2.1 (hP6 _ b1) (hP6 _ b2) (hPd _ _ b1 b2 b3) ?_
        have hlf : lft μa = lft μ := lft_fr (hsa 8 (by decide)) (hsa 14 (by decide)) (hsa 15 (by decide))
        have e1 : fwp (okF G.1 (lft μa) (nI (r 6 n))) (wl G (P (r 4 n)) (P (r 5 n))) = fwp (okF G.1 F0 (nI (r 6 n))) (Wof G r P n) := by
          rw [hlf]
          exact fwp_congr (fun w _ => okF_congr hF)
        rw [e1]
        have h9 : W9 G.1 (Wof G r P n) := wl_W9 G _ _
        have hw9 : fwp (okF G.1 F0 (nI (r 6 n))) (Wof G r P n) < 512 := Nat.lt_of_lt_of_le (fwp_lt h9) (pow_512 hL)
        by_cases hz : fwp (okF G.1 F0 (nI (r 6 n))) (Wof G r P n) = 0
        · refine rb_t (by rw [hz]; rfl) (hf μa (fun m F c T hm2 hLw => ?_) hsa)
          exact mps_none hlt h9 (fun j hj => (g4 j hj).2.2.2.2) h0 hz m 0 F c T (by omega) (by omega) hLw
        · refine rb_f (by rw [e0 (by omega)]; exact hz) ?_
          refine s_bitCount hw9 ?_
          have hp9 := pc_le _ hw9
          have hb180 : r 6 n * pc (fwp (okF G.1 F0 (nI (r 6 n))) (Wof G r P n)) ≤ 180 := Nat.mul_le_mul b5 hp9
          rw [show μa p_SE_floors (n + 1) = nI (fr (n + 1)) from by rw [ea (n + 1) (by omega)]; exact hm (n + 1) (by omega) (by omega), pk_mul, nI_add]
          refine ih (by omega) _ (fun j => if j = n then fr (n + 1) + r 6 n * pc (fwp (okF G.1 F0 (nI (r 6 n))) (Wof G r P n)) else fr j) (hsa.tr (Sm.up rfl)) (fun j h1 h2 => ?_) (fun j h1 h2 => ?_) (fun j h1 h2 => ?_)
          · try dsimp only
            rw [show (17 : Nat) = p_SE_floors from rfl, u_eq]
            by_cases hj : j = n
            · rw [if_pos hj, hj, d_eq]
            · rw [if_neg hj, d_ne hj, ea j (by omega)]; exact hm j (by omega) h2
          · try dsimp only
            by_cases hj : j = n
            · rw [if_pos hj]
              have := hb (n + 1) (by omega) (by omega)
              omega
            · rw [if_neg hj]; exact hb j (by omega) h2
          · have other : ∀ i, i ≠ n → n ≤ i → i ≤ r 0 11 → FlOk G.1 (r 0 11) (Wof G r P) (r 6) P F0 (fun j => if j = n then fr (n + 1) + r 6 n * pc (fwp (okF G.1 F0 (nI (r 6 n))) (Wof G r P n)) else fr j) i := by
              intro i hi h1 h2 m F c T a1 a2 e he
              try dsimp only
              rw [if_neg hi]
              exact hfl i (by omega) h2 m F c T a1 a2 e he
            by_cases hj : j = n
            · subst hj
              refine FlOk.step hlt h9 b5 h0 (other (j + 1) (by omega) (by omega) (by omega)) ?_
              try dsimp only
              rw [if_pos rfl, if_neg (by omega)]
            · exact other j hj h1 h2
  have e1 : nI (r 0 11) - (1 : Int32) = nI (r 0 11) + (-1 : Int32) := by rw [Int32.sub_eq_add_neg]
  rw [e1]
  refine key (r 0 11) (Nat.le_refl _) _ (fun _ => 0) (Sm.up rfl) (fun j h1 h2 => ?_) (fun j h1 h2 => by omega) (fun j h1 h2 => FlOk.end_ rfl)
  rw [show j = r 0 11 by omega, show (17 : Nat) = p_SE_floors from rfl, u_eq, d_eq]
  rfl
/-! choices -/
theorem nx_or (a b : Nat) : nI a ||| nI b = nI (a ||| b) := by
  apply Int32.toBitVec_inj.1
  show BitVec.ofNat 32 a ||| BitVec.ofNat 32 b = BitVec.ofNat 32 (a ||| b)
  apply BitVec.eq_of_getLsbD_eq
  intro i hi
  simp [hi]
def fitN (L : Nat → Int32) (r : Rq) (k n : Nat) : Nat := om9 (fun v => !decide (L v < nI (r 1 k)) && (r 2 k).testBit v) n
theorem and_pow (a v : Nat) : a &&& 2 ^ v = if a.testBit v = true then 2 ^ v else 0 := by
  apply Nat.eq_of_testBit_eq
  intro i
  rw [Nat.testBit_and, Nat.testBit_two_pow]
  by_cases hi : v = i
  · subst hi
    cases h : a.testBit v <;> simp [Nat.testBit_two_pow_self]
  · rw [decide_eq_false hi, Bool.and_false]
    split
    · rw [Nat.testBit_two_pow_of_ne hi]
    · simp
/-- p0 is the choices' object: 52 or 54 -/
theorem s_prepare {p0 p nN : Nat} {r : Rq} {L : Nat → Int32} {μ : Mm} {q : Int32 → Mm → Prop} (hp0 : p0 = 52 ∨ p0 = 54) (hp : 105 ≤ p) (hr : GoodD r) (hN : nN ≤ 6) (h6 : μ p_GR 6 = nI nN) (hQ : cQ p r μ) (hL : ∀ v, v < nN → μ p_GR_nodeRooms v - μ p_BK_nodeNeeds v = L v)
    (h : ∀ μ2, Sm (fun c => c = p0 + 1) μ μ2 → (∀ k, k < r 0 10 → μ2 (p0 + 1) k = nI (fitN L r k nN)) → q (nI (6 ^ r 0 10)) μ2) : Wp_X1_prepare p0 p μ q := by
  obtain ⟨g1, g2, g3, g4, g5⟩ := hr
  unfold Wp_X1_prepare
  intro K4 K22 K57 h4 h22 h57
  unfold F_X1_prepare_e
  have fr : ∀ {μ1}, Sm (fun c => c = p0 + 1) μ μ1 → μ1 p_GR = μ p_GR ∧ μ1 p_GR_nodeRooms = μ p_GR_nodeRooms ∧ μ1 p_BK_nodeNeeds = μ p_BK_nodeNeeds ∧ μ1 p = μ p ∧ μ1 (p + 1) = μ (p + 1) ∧ μ1 (p + 2) = μ (p + 2) := by
    intro μ1 hs
    have hd : ∀ c, c = 1 ∨ c = 7 ∨ c = 12 ∨ c = p ∨ c = p + 1 ∨ c = p + 2 → μ1 c = μ c := fun c hc => hs c (by omega)
    exact ⟨hd 1 (by omega), hd 7 (by omega), hd 12 (by omega), hd p (by omega), hd (p + 1) (by omega), hd (p + 2) (by omega)⟩
  refine dn (P := fun k => ∀ μ1, Sm (fun c => c = p0 + 1) μ μ1 → (∀ j, j < k → μ1 (p0 + 1) j = nI (fitN L r j nN)) → K4 (nI (6 ^ k)) (nI k) μ1) (n := r 0 10) ?_ ?_ μ Sm.rf (fun j hj => by omega)
  · intro μ1 hs hm
    refine h4 _ _ _ ?_
    unfold F_X1_prepare_4
    rw [(fr hs).2.2.2.1, hQ.1]
    simp (disch := omega) only [vpT, vpT0, vpT1, vpT2, clT, clT0, clT1, clT2, leT, leF, leT0, ltT, ltF, i1, true_and, and_true, true_implies, false_implies, not_true_eq_false, not_false_eq_true, forall_const, implies_true]
    exact h μ1 hs hm
  · intro k hk hnx μ1 hs hm
    refine h4 _ _ _ ?_
    unfold F_X1_prepare_4
    rw [(fr hs).2.2.2.1, hQ.1]
    simp (disch := omega) only [vpT, vpT0, vpT1, vpT2, clT, clT0, clT1, clT2, leT, leF, leT0, ltT, ltF, i1, true_and, and_true, true_implies, false_implies, not_true_eq_false, not_false_eq_true, forall_const, implies_true]
    have hs0 : Sm (fun c => c = p0 + 1) μ (up2 μ1 (p0 + 1) k (0 : Int32)) := hs.tr (Sm.up rfl)
    refine dn (P := fun v => ∀ μ1, Sm (fun c => c = p0 + 1) μ μ1 → (∀ j, j < k → μ1 (p0 + 1) j = nI (fitN L r j nN)) → μ1 (p0 + 1) k = nI (fitN L r k v) → K22 (nI (6 ^ k)) (nI k) (nI v) μ1) (n := nN) ?_ ?_ _ hs0 (fun j hj => ?_) ?_
    · intro μ1 hs hm hk2
      refine h22 _ _ _ _ ?_
      unfold F_X1_prepare_22
      rw [(fr hs).1, h6]
      simp (disch := omega) only [vpT, vpT0, vpT1, vpT2, clT, clT0, clT1, clT2, leT, leF, leT0, ltT, ltF, i1, true_and, and_true, true_implies, false_implies, not_true_eq_false, not_false_eq_true, forall_const, implies_true]
      rw [nI_pk6, show 6 ^ k * 6 = 6 ^ (k + 1) from rfl]
      refine hnx μ1 hs (fun j hj => ?_)
      by_cases hjk : j = k
      · subst hjk; exact hk2
      · exact hm j (by omega)
    · intro v hv hnv μ1 hs hm hk2
      refine h22 _ _ _ _ ?_
      unfold F_X1_prepare_22
      rw [(fr hs).1, h6]
      simp (disch := omega) only [vpT, vpT0, vpT1, vpT2, clT, clT0, clT1, clT2, leT, leF, leT0, ltT, ltF, i1, true_and, and_true, true_implies, false_implies, not_true_eq_false, not_false_eq_true, forall_const, implies_true]
      unfold Wp_X0_leftAtNode F_X0_leftAtNode_e
      simp (disch := omega) only [vpT, vpT0, vpT1, vpT2, clT, clT0, clT1, clT2, leT, leF, leT0, ltT, ltF, i1, true_and, and_true, true_implies, false_implies, not_true_eq_false, not_false_eq_true, forall_const, implies_true]
      rw [(fr hs).2.1, (fr hs).2.2.1, hL v hv, (fr hs).2.2.2.2.1, (hQ.2.2.2.1 k hk).1]
      have hps := (g3 k hk).2.2
      have hfl : fitN L r k v < 512 := om9_lt _ _ (by omega)
      have e : fitN L r k (v + 1) = if (!decide (L v < nI (r 1 k)) && (r 2 k).testBit v) = true then fitN L r k v ||| 2 ^ v else fitN L r k v := rfl
      have fin : ∀ y, y = fitN L r k (v + 1) → K22 (nI (6 ^ k)) (nI k) (nI (v + 1)) (up2 μ1 (p0 + 1) k (nI y)) := by
        intro y hy
        refine hnv _ (hs.tr (Sm.up rfl)) (fun j hj => ?_) ?_
        · rw [u_eq, d_ne (by omega)]; exact hm j hj
        · rw [u_eq, d_eq, hy]
      by_cases hlt : L v < nI (r 1 k)
      · refine br_t hlt (h57 _ _ _ _ _ ?_)
        unfold F_X1_prepare_57
        simp (disch := omega) only [vpT, vpT0, vpT1, vpT2, clT, clT0, clT1, clT2, leT, leF, leT0, ltT, ltF, i1, true_and, and_true, true_implies, false_implies, not_true_eq_false, not_false_eq_true, forall_const, implies_true]
        rw [hk2, show nI (fitN L r k v) ||| (0 : Int32) = nI (fitN L r k v ||| 0) from nx_or _ 0]
        refine fin _ ?_
        rw [e, if_neg (by simp [hlt])]
        simp
      · refine br_f hlt (h57 _ _ _ _ _ ?_)
        unfold F_X1_prepare_57
        simp (disch := omega) only [vpT, vpT0, vpT1, vpT2, clT, clT0, clT1, clT2, leT, leF, leT0, ltT, ltF, i1, true_and, and_true, true_implies, false_implies, not_true_eq_false, not_false_eq_true, forall_const, implies_true]
        refine br_f (by decide) ?_
        rw [hk2, (fr hs).2.2.2.2.2, (hQ.2.2.2.1 k hk).2, m_1 v (by omega), nx_and, nx_or]
        refine fin _ ?_
        rw [e, and_pow]
        cases hb : (r 2 k).testBit v <;> simp [hlt]
    · rw [u_eq, d_ne (by omega)]; exact hm j hj
    · rw [u_eq, d_eq]; rfl
/-- the nodes of a choice -/
def Pc (c k : Nat) : Nat := if k = 0 then c / 36 else if k = 1 then c / 6 % 6 else c % 6
def gdC (nN : Nat) (L : Nat → Int32) (r : Rq) (P : Nat → Nat) : Bool := al (fun k => decide (P k < nN) && !decide (L (P k) < nI (r 1 k)) && (r 2 k).testBit (P k) && al (fun j => !decide (P j = P k)) k) (r 0 10)
theorem gdC_iff {nN : Nat} {L : Nat → Int32} {r : Rq} {P : Nat → Nat} : gdC nN L r P = true ↔ ∀ k, k < r 0 10 → (P k < nN ∧ ¬ L (P k) < nI (r 1 k) ∧ (r 2 k).testBit (P k) = true) ∧ ∀ j, j < k → P j ≠ P k := by
  unfold gdC
  rw [al_iff]
  constructor
  · intro h k hk
    have := h k hk
    simp only [Bool.and_eq_true, decide_eq_true_eq, Bool.not_eq_true', decide_eq_false_iff_not, al_iff] at this
    exact ⟨⟨this.1.1.1, this.1.1.2, this.1.2⟩, fun j hj => this.2 j hj⟩
  · intro h k hk
    have := h k hk
    simp only [Bool.and_eq_true, decide_eq_true_eq, Bool.not_eq_true', decide_eq_false_iff_not, al_iff]
    exact ⟨⟨⟨this.1.1, this.1.2.1⟩, this.1.2.2⟩, fun j hj => this.2 j hj⟩
theorem d6_all : ∀ c, c < 216 → nI c / (6 : Int32) = nI (c / 6) ∧ nI c - nI (c / 6) * (6 : Int32) = nI (c % 6) := by decide +kernel
theorem Pc_dig {np c k : Nat} (h3 : np ≤ 3) (hk : k < np) : Pc (c * 6 ^ (3 - np)) k = c / 6 ^ (np - 1 - k) % 6 ∨ 6 ^ np ≤ c := by
  by_cases hc : c < 6 ^ np
  · left
    have hnp : np = 1 ∨ np = 2 ∨ np = 3 := by omega
    unfold Pc
    rcases hnp with rfl | rfl | rfl
    · have : k = 0 := by omega
      subst this
      simp only [if_true, Nat.reducePow, Nat.reduceSub, Nat.div_one] at *
      omega
    · have : k = 0 ∨ k = 1 := by omega
      rcases this with rfl | rfl <;> simp only [if_true, Nat.reducePow, Nat.reduceSub, Nat.div_one, Nat.one_ne_zero, if_false] at * <;> omega
    · have : k = 0 ∨ k = 1 ∨ k = 2 := by omega
      rcases this with rfl | rfl | rfl
      · simp only [if_true, Nat.reducePow, Nat.reduceSub, Nat.mul_one, Nat.sub_self, Nat.pow_zero] at *; omega
      · simp only [if_true, Nat.reducePow, Nat.reduceSub, Nat.mul_one, Nat.sub_self, Nat.pow_zero, Nat.one_ne_zero, if_false, Nat.pow_one] at *
      · simp [Nat.div_one]
  · right; omega
theorem s_take {p0 p nN c : Nat} {r : Rq} {L : Nat → Int32} {μ : Mm} {q : Bool → Mm → Prop} (hp0 : p0 = 52 ∨ p0 = 54) (hp : 105 ≤ p) (hr : GoodD r) (hN : nN ≤ 6) (hQ : cQ p r μ) (hf : ∀ k, k < r 0 10 → μ (p0 + 1) k = nI (fitN L r k nN)) (hc : c < 6 ^ r 0 10)
    (h : ∀ μ2, Sm (fun c => c = p + 3) μ μ2 → (gdC nN L r (Pc (c * 6 ^ (3 - r 0 10))) = true → ∀ k, k < r 0 10 → μ2 (p + 3) k = nI (Pc (c * 6 ^ (3 - r 0 10)) k)) → q (gdC nN L r (Pc (c * 6 ^ (3 - r 0 10)))) μ2) : Wp_X1_take p0 p (nI c) μ q := by
  obtain ⟨g1, g2, g3, g4, g5⟩ := hr
  obtain ⟨P, hPe⟩ : ∃ P, P = Pc (c * 6 ^ (3 - r 0 10)) := ⟨_, rfl⟩
  rw [← hPe] at h
  have hdig : ∀ k, k < r 0 10 → P k = c / 6 ^ (r 0 10 - 1 - k) % 6 := fun k hk => by
    rcases Pc_dig (c := c) g1 hk with h1 | h1
    · rw [hPe]; exact h1
    · omega
  have hP6 : ∀ k, k < r 0 10 → P k < 6 := fun k hk => by rw [hdig k hk]; omega
  have hc216 : c < 216 := Nat.lt_of_lt_of_le hc (show 6 ^ r 0 10 ≤ 6 ^ 3 from Nat.pow_le_pow_right (by decide) g1)
  have hfb : ∀ k, k < r 0 10 → ((fitN L r k nN).testBit (P k) = true ↔ P k < nN ∧ ¬ L (P k) < nI (r 1 k) ∧ (r 2 k).testBit (P k) = true) := fun k hk => by
    unfold fitN
    rw [om9_bit]
    simp only [Bool.and_eq_true, decide_eq_true_eq, Bool.not_eq_true', decide_eq_false_iff_not]
  unfold Wp_X1_take
  intro K13 h13
  unfold F_X1_take_e
  rw [hQ.1]
  have e1 : nI (r 0 10) - (1 : Int32) = nI (r 0 10) + (-1 : Int32) := by rw [Int32.sub_eq_add_neg]
  rw [e1]
  have key : ∀ n, n ≤ r 0 10 → ∀ μ1 s, Sm (fun c => c = p + 3) μ μ1 → s < 64 → (∀ v, v < 6 → (s.testBit v = true ↔ ∃ k, n ≤ k ∧ k < r 0 10 ∧ P k = v)) → (∀ k, n ≤ k → k < r 0 10 → μ1 (p + 3) k = nI (P k) ∧ (fitN L r k nN).testBit (P k) = true) → (∀ j k, n ≤ j → j < k → k < r 0 10 → P j ≠ P k) → K13 (nI (c / 6 ^ (r 0 10 - n))) (nI s) (nI n + (-1 : Int32)) μ1 := by
    intro n
    induction n with
    | zero =>
      intro _ μ1 s hs hs6 hsb hm hd
      refine h13 _ _ _ _ ?_
      unfold F_X1_take_13
      have hgd : gdC nN L r P = true := by
        rw [gdC_iff]
        intro k hk
        exact ⟨(hfb k hk).1 (hm k (by omega) hk).2, fun j hj => hd j k (by omega) hj hk⟩
      have := h μ1 hs (fun _ k hk => (hm k (by omega) hk).1)
      rw [hgd] at this
      exact br_t (by decide) this
    | succ n ih =>
      intro hn μ1 s hs hs6 hsb hm hd
      have hlt : n < r 0 10 := by omega
      rw [pk_m1]
      refine h13 _ _ _ _ ?_
      unfold F_X1_take_13
      refine br_f (nI_pos (by omega)) ?_
      have hcd : c / 6 ^ (r 0 10 - (n + 1)) < 216 := Nat.lt_of_le_of_lt (Nat.div_le_self _ _) hc216
      obtain ⟨d1, d2⟩ := d6_all _ hcd
      rw [d1, d2]
      have hPn : c / 6 ^ (r 0 10 - (n + 1)) % 6 = P n := by
        rw [hdig n hlt, show r 0 10 - 1 - n = r 0 10 - (n + 1) by omega]
      rw [hPn]
      have hP := hP6 n hlt
      simp (disch := omega) only [vpT, vpT0, vpT1, vpT2, clT, clT0, clT1, clT2, leT, leF, leT0, ltT, ltF, i1, true_and, and_true, true_implies, false_implies, not_true_eq_false, not_false_eq_true, forall_const, implies_true]
      rw [hs (p0 + 1) (by omega), hf n hlt]
      have hfl : fitN L r n nN < 512 := om9_lt _ _ (by omega)
      rw [m_sh _ hfl _ (by omega), m_sh s (by omega) _ (by omega), tb_bit, tb_bit]
      have bad : gdC nN L r P = false → q false μ1 := fun hg => by
        have := h μ1 hs (fun hx => by rw [hg] at hx; cases hx)
        rw [hg] at this
        exact this
      cases hb : (fitN L r n nN).testBit (P n) with
      | false =>
        refine br_t rfl (bad ?_)
        cases hg : gdC nN L r P with
        | false => rfl
        | true =>
          have := (hfb n hlt).2 ((gdC_iff.1 hg n hlt).1)
          rw [hb] at this; cases this
      | true =>
        refine br_f (by decide) ?_
        cases hb2 : s.testBit (P n) with
        | true =>
          refine ⟨fun hx => absurd hx (by decide), fun _ => bad ?_⟩
          obtain ⟨k, k1, k2, k3⟩ := (hsb (P n) hP).1 hb2
          cases hg : gdC nN L r P with
          | false => rfl
          | true => exact absurd k3.symm ((gdC_iff.1 hg k k2).2 n (by omega))
        | false =>
          refine ⟨fun _ => ?_, fun hx => absurd rfl hx⟩
          rw [m_or s (by omega) _ (by omega), show c / 6 ^ (r 0 10 - (n + 1)) / 6 = c / 6 ^ (r 0 10 - n) by rw [Nat.div_div_eq_div_mul, ← Nat.pow_succ, show (r 0 10 - (n + 1)).succ = r 0 10 - n by omega]]
          refine ih (by omega) _ (s ||| 2 ^ P n) (hs.tr (Sm.up rfl)) (or64 s hs6 _ hP) (fun v hv => ?_) (fun k k1 k2 => ?_) (fun j k j1 j2 j3 => ?_)
          · rw [Nat.testBit_or, Nat.testBit_two_pow, Bool.or_eq_true, decide_eq_true_eq, hsb v hv]
            constructor
            · rintro (⟨k, k1, k2, k3⟩ | hx)
              · exact ⟨k, by omega, k2, k3⟩
              · exact ⟨n, by omega, hlt, hx⟩
            · rintro ⟨k, k1, k2, k3⟩
              by_cases hkn : k = n
              · right; rw [← hkn]; exact k3
              · left; exact ⟨k, by omega, k2, k3⟩
          · rw [u_eq]
            by_cases hkn : k = n
            · subst hkn; rw [d_eq]; exact ⟨rfl, hb⟩
            · rw [d_ne hkn]; exact hm k (by omega) k2
          · by_cases hjn : j = n
            · subst hjn
              intro hx
              have := (hsb (P j) hP).2 ⟨k, by omega, j3, hx.symm⟩
              rw [hb2] at this; cases this
            · exact hd j k (by omega) j2 j3
  have := key (r 0 10) (Nat.le_refl _) μ 0 Sm.rf (by omega) (fun v _ => by simp; intro k h1 h2; omega) (fun k h1 h2 => by omega) (fun j k h1 h2 h3 => by omega)
  rw [Nat.sub_self, Nat.pow_zero, Nat.div_one] at this
  exact this
