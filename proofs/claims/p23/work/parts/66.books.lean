/-! the class's books -/
def sgI (s : Bool) : Int32 := if s = true then 1 else -1
def st (s : Bool) (n : Nat) (f : Nat → Nat) (j : Nat) : Nat := if s = true then sm f j else sm f n - sm f j
theorem sm_mono (f : Nat → Nat) {j : Nat} : ∀ {n : Nat}, j ≤ n → sm f j ≤ sm f n
  | 0, h => by rw [show j = 0 by omega]; exact Nat.le_refl _
  | n + 1, h => by
    by_cases hj : j = n + 1
    · rw [hj]; exact Nat.le_refl _
    · exact Nat.le_trans (sm_mono f (show j ≤ n by omega)) (Nat.le_add_right _ _)
theorem neg1_mul (x : Int32) : (-1 : Int32) * x = -x := by
  rw [show (-1 : Int32) = -(1 : Int32) from rfl, Int32.neg_mul, Int32.one_mul]
theorem sg_step {s : Bool} {n : Nat} {f : Nat → Nat} {j : Nat} (A : Nat) (hj : j < n) : nI (A + st s n f j) + sgI s * nI (f j) = nI (A + st s n f (j + 1)) := by
  have h1 : sm f (j + 1) = sm f j + f j := rfl
  have h2 := sm_mono f (show j + 1 ≤ n by omega)
  unfold st sgI
  cases s with
  | true =>
    rw [if_pos rfl, if_pos rfl, if_pos rfl, Int32.one_mul, nI_add, h1, Nat.add_assoc]
  | false =>
    rw [if_neg (by decide), if_neg (by decide), if_neg (by decide), neg1_mul]
    have e : A + (sm f n - sm f j) = (A + (sm f n - sm f (j + 1))) + f j := by omega
    rw [e, ← nI_add, Int32.add_assoc, Int32.add_right_neg, Int32.add_zero]
theorem st_zero {s : Bool} {n : Nat} {f : Nat → Nat} {j : Nat} (h : f j = 0) : st s n f (j + 1) = st s n f j := by
  unfold st
  rw [show sm f (j + 1) = sm f j + f j from rfl, h, Nat.add_zero]
theorem st_le {s : Bool} {n : Nat} {f : Nat → Nat} {j : Nat} (hj : j ≤ n) : st s n f j ≤ sm f n := by
  unfold st
  split
  · exact sm_mono f hj
  · omega
def Bk9 (nL : Nat) (a c d : Nat → Nat) (b : Nat → Nat → Nat) (μ : Mm) : Prop := (∀ v, v < 6 → μ p_BK_nodeNeeds v = nI (a v) ∧ μ p_BK_nodeParts v = nI (c v)) ∧ ∀ k, k < 9 → μ p_BK_linkNeeds k = nI (d k) ∧ μ p_BK_reserved k = nI (mx (fun f => b f k) nL) ∧ ∀ f, f < 9 → μ (p_BH + f) k = nI (b f k)
def BH9 (nL : Nat) (b : Nat → Nat → Nat) (μ : Mm) : Prop := ∀ k, k < 9 → μ p_BK_reserved k = nI (mx (fun f => b f k) nL) ∧ ∀ f, f < 9 → μ (p_BH + f) k = nI (b f k)
def dP2 (c : Nat) : Prop := c = 12 ∨ c = 13
def dQ (c : Nat) : Prop := c = 15 ∨ (96 ≤ c ∧ c < 105)
def dK (c : Nat) : Prop := c = 12 ∨ c = 13 ∨ c = 14 ∨ c = 15 ∨ (96 ≤ c ∧ c < 105)
theorem s_enterPart {nN v : Nat} {x y : Int32} {μ : Mm} {q : Mm → Prop} (hv : v < nN) (hN : nN ≤ 6) (h6 : μ p_GR 6 = nI nN) (h : ∀ μ2, Sm dP2 μ μ2 → (∀ j, μ2 p_BK_nodeNeeds j = if j = v then μ p_BK_nodeNeeds j + y * x else μ p_BK_nodeNeeds j) → (∀ j, μ2 p_BK_nodeParts j = if j = v then μ p_BK_nodeParts j + y else μ p_BK_nodeParts j) → q μ2) : Wp_X0_enterPart (nI v) x y μ q := by
  unfold Wp_X0_enterPart F_X0_enterPart_e
  refine s_hasNode (n := nN) (by omega) h6 ?_
  rw [inR_nI (by omega) (by omega), decide_eq_true hv]
  simp (disch := omega) only [vpT, vpT0, vpT1, vpT2, clT, clT0, clT1, clT2, leT, leF, leT0, ltT, ltF, i1, true_and, and_true, true_implies, false_implies, not_true_eq_false, not_false_eq_true, forall_const, implies_true]
  refine ⟨fun hc => absurd hc (by decide), fun _ => ?_⟩
  refine h _ ((Sm.up (Or.inl rfl)).tr (Sm.up (Or.inr rfl))) (fun j => ?_) (fun j => ?_)
  · rw [u_ne (by decide), u_eq]
    by_cases hj : j = v
    · subst hj; rw [d_eq, if_pos rfl]
    · rw [d_ne hj, if_neg hj]
  · rw [u_eq]
    by_cases hj : j = v
    · subst hj; rw [d_eq, if_pos rfl, u_ne (by decide)]
    · rw [d_ne hj, if_neg hj, u_ne (by decide)]
theorem crF_tb {nL w z : Nat} {s : Int32} {F : Nat → Int32} {k : Nat} (hw : w < 2 ^ nL) : crF nL w (s * nI z) F k = F k + s * nI (tb w k * z) := by
  unfold crF
  rw [tb_bit]
  cases hb : w.testBit k with
  | true =>
    have hk : k < nL := by
      by_cases hc : k < nL
      · exact hc
      · rw [Nat.testBit_lt_two_pow (Nat.lt_of_lt_of_le hw (Nat.pow_le_pow_right (by decide) (by omega)))] at hb
        cases hb
    rw [if_pos ⟨hk, rfl⟩, if_pos rfl, Nat.one_mul]
  | false =>
    rw [if_neg (by simp), if_neg (by simp), Nat.zero_mul, show nI 0 = 0 from rfl, Int32.mul_zero, Int32.add_zero]
theorem lt512 {nL w : Nat} (hL : nL ≤ 9) (hw : w < 2 ^ nL) : w < 512 := Nat.lt_of_lt_of_le hw (pow_512 hL)
theorem tb_hi {nL w k : Nat} (hw : w < 2 ^ nL) (hk : nL ≤ k) : tb w k = 0 := by
  rw [tb_bit, Nat.testBit_lt_two_pow (Nat.lt_of_lt_of_le hw (Nat.pow_le_pow_right (by decide) hk))]
  rfl
def lnOk (nL : Nat) (r : Rq) (l : Nat) : Prop := r 7 l < 2 ^ nL ∧ r 9 l < 2 ^ nL ∧ r 10 l < 2 ^ nL ∧ r 8 l ≤ r 6 l
def cWl (p : Nat) (r : Rq) (l : Nat) (μ : Mm) : Prop := μ (p + 7) l = nI (r 7 l) ∧ μ (p + 8) l = nI (r 8 l) ∧ μ (p + 9) l = nI (r 9 l) ∧ μ (p + 10) l = nI (r 10 l)
theorem s_enterWays {nL p l : Nat} {s : Bool} {r : Rq} {μ : Mm} {q : Mm → Prop} (hp : 105 ≤ p) (hl : l < 3) (hL : nL ≤ 9) (h7 : μ p_GR 7 = nI nL) (hn : μ (p + 6) l = nI (r 6 l)) (hw7 : μ (p + 7) l = nI (r 7 l)) (hw8 : μ (p + 8) l = nI (r 8 l)) (hw9 : μ (p + 9) l = nI (r 9 l)) (ho7 : r 7 l < 2 ^ nL) (ho9 : r 9 l < 2 ^ nL) (ho8 : r 8 l ≤ r 6 l)
    (h : ∀ μ2, Sm (fun c => c = 14) μ μ2 → (∀ k, μ2 p_BK_linkNeeds k = μ p_BK_linkNeeds k + sgI s * nI (lL r k l)) → lft μ2 = tkF nL (r 9 l) (sgI s * nI (r 6 l - r 8 l)) (tkF nL (r 7 l) (sgI s * nI (r 8 l)) (lft μ)) → q μ2) : Wp_X0_enterWays p (nI l) (sgI s) μ q := by
  unfold Wp_X0_enterWays F_X0_enterWays_e
  simp (disch := omega) only [vpT, vpT0, vpT1, vpT2, clT, clT0, clT1, clT2, leT, leF, leT0, ltT, ltF, i1, true_and, and_true, true_implies, false_implies, not_true_eq_false, not_false_eq_true, forall_const, implies_true]
  rw [hw7, hw8]
  refine s_carry hL h7 (lt512 hL ho7) ?_
  have e : ∀ c, c ≠ 14 → (setr μ p_BK_linkNeeds (crF nL (r 7 l) (sgI s * nI (r 8 l)) (μ p_BK_linkNeeds))) c = μ c := fun c hc => setr_ne hc
  obtain ⟨μ1, hμ1⟩ : ∃ μ1, μ1 = setr μ p_BK_linkNeeds (crF nL (r 7 l) (sgI s * nI (r 8 l)) (μ p_BK_linkNeeds)) := ⟨_, rfl⟩
  have e14 : μ1 p_BK_linkNeeds = crF nL (r 7 l) (sgI s * nI (r 8 l)) (μ p_BK_linkNeeds) := by rw [hμ1, setr_self]
  have elf : lft μ1 = tkF nL (r 7 l) (sgI s * nI (r 8 l)) (lft μ) := by rw [hμ1, lft_carry]
  rw [← hμ1] at e ⊢
  unfold Wp_X5_restOf F_X5_restOf_e
  simp (disch := omega) only [vpT, vpT0, vpT1, vpT2, clT, clT0, clT1, clT2, leT, leF, leT0, ltT, ltF, i1, true_and, and_true, true_implies, false_implies, not_true_eq_false, not_false_eq_true, forall_const, implies_true]
  rw [e (p + 6) (by omega), e (p + 8) (by omega), e (p + 9) (by omega), hn, hw8, hw9, nI_sub ho8]
  refine s_carry hL (by rw [e p_GR (by decide)]; exact h7) (lt512 hL ho9) ?_
  refine h _ ?_ (fun k => ?_) ?_
  · exact (show Sm (fun c => c = 14) μ μ1 from fun c hc => e c hc).tr (Sm.set rfl)
  · rw [setr_self, crF_tb ho9, e14, crF_tb ho7, Int32.add_assoc, ← Int32.mul_add, nI_add]
    rfl
  · rw [lft_carry, elf]
theorem s_reserve {nL k w : Nat} {x : Int32} {b2 : Nat → Nat} {μ : Mm} {q : Mm → Prop} (hk : k < 9) (hL : nL ≤ 9) (h7 : μ p_GR 7 = nI nL) (hw : w < 512) (hb : ∀ f, f < nL → μ (p_BH + f) k + nI (tb w f) * x = nI (b2 f)) (hb2 : ∀ f, f < nL → b2 f < 2147483648)
    (h : ∀ μ2, Sm dQ μ μ2 → (∀ f, f < 9 → ∀ j, μ2 (p_BH + f) j = if f < nL ∧ j = k then nI (b2 f) else μ (p_BH + f) j) → (∀ j, μ2 p_BK_reserved j = if j = k then nI (mx b2 nL) else μ p_BK_reserved j) → q μ2) : Wp_X0_reserve (nI k) (nI w) x μ q := by
  unfold Wp_X0_reserve
  intro K6 h6
  unfold F_X0_reserve_e
  refine dn (P := fun j => ∀ μ1, Sm (fun c => 96 ≤ c ∧ c < 105) μ μ1 → (∀ f, f < 9 → ∀ i, μ1 (p_BH + f) i = if f < j ∧ i = k then nI (b2 f) else μ (p_BH + f) i) → K6 (nI k) (nI w) x (nI (mx b2 j)) (nI j) μ1) (n := nL) ?_ ?_ μ Sm.rf (fun f _ i => by rw [if_neg (by omega)])
  · intro μ1 s1 hm
    refine h6 _ _ _ _ _ _ ?_
    unfold F_X0_reserve_6
    rw [s1 p_GR (by decide), h7]
    simp (disch := omega) only [vpT, vpT0, vpT1, vpT2, clT, clT0, clT1, clT2, leT, leF, leT0, ltT, ltF, i1, true_and, and_true, true_implies, false_implies, not_true_eq_false, not_false_eq_true, forall_const, implies_true]
    refine h _ ((s1.mono (fun c hc => Or.inr hc)).tr (Sm.up (Or.inl rfl))) (fun f hf j => ?_) (fun j => ?_)
    · rw [u_ne (by show 96 + f ≠ 15; omega)]; exact hm f hf j
    · rw [u_eq]
      by_cases hj : j = k
      · subst hj; rw [d_eq, if_pos rfl]
      · rw [d_ne hj, if_neg hj, s1 p_BK_reserved (by decide)]
  · intro j hj hn μ1 s1 hm
    refine h6 _ _ _ _ _ _ ?_
    unfold F_X0_reserve_6
    rw [s1 p_GR (by decide), h7]
    simp (disch := omega) only [vpT, vpT0, vpT1, vpT2, clT, clT0, clT1, clT2, leT, leF, leT0, ltT, ltF, i1, true_and, and_true, true_implies, false_implies, not_true_eq_false, not_false_eq_true, forall_const, implies_true]
    have e : μ1 (p_BH + j) k = μ (p_BH + j) k := by rw [hm j (by omega) k, if_neg (by omega)]
    rw [m_sh w hw j (by omega), e, hb j hj, u_eq, d_eq, imax_nI ?_ (hb2 j hj)]
    · refine hn _ (s1.tr (Sm.up (by show 96 ≤ 96 + j ∧ 96 + j < 105; omega))) (fun f hf i => ?_)
      by_cases hfj : f = j
      · subst hfj
        rw [u_eq]
        by_cases hi : i = k
        · subst hi; rw [d_eq, if_pos ⟨by omega, rfl⟩]
        · rw [d_ne hi, if_neg (fun hx => hi hx.2), hm f hf i, if_neg (fun hx => hi hx.2)]
      · rw [u_ne (by show 96 + f ≠ 96 + j; omega), hm f hf i]
        by_cases hc : f < j ∧ i = k
        · rw [if_pos hc, if_pos ⟨by omega, hc.2⟩]
        · rw [if_neg hc, if_neg (fun hx => hc ⟨by omega, hx.2⟩)]
    · have : mx b2 j ≤ 2147483647 := mx_le fun f hf => by have := hb2 f (by omega); omega
      omega
theorem s_enterSecondWay {nL p l : Nat} {s : Bool} {r : Rq} {b b2 : Nat → Nat → Nat} {μ : Mm} {q : Mm → Prop} (hp : 105 ≤ p) (hl : l < 3) (hL : nL ≤ 9) (h7 : μ p_GR 7 = nI nL) (hn : μ (p + 6) l = nI (r 6 l)) (hw7 : μ (p + 7) l = nI (r 7 l)) (hw10 : μ (p + 10) l = nI (r 10 l)) (ho7 : r 7 l < 2 ^ nL) (ho10 : r 10 l < 2 ^ nL) (hB : BH9 nL b μ)
    (hs : ∀ f k, f < nL → k < nL → (r 10 l).testBit k = true → nI (b f k) + nI (tb (r 7 l) f) * (sgI s * nI (r 6 l)) = nI (b2 f k)) (he : ∀ f k, f < 9 → k < 9 → ¬ (f < nL ∧ k < nL ∧ (r 10 l).testBit k = true) → b2 f k = b f k) (hb2 : ∀ f k, f < nL → k < nL → b2 f k < 2147483648)
    (h : ∀ μ2, Sm dQ μ μ2 → BH9 nL b2 μ2 → q μ2) : Wp_X0_enterSecondWay p (nI l) (sgI s) μ q := by
  unfold Wp_X0_enterSecondWay
  intro K3 h3
  unfold F_X0_enterSecondWay_e
  have fin : ∀ μ1, BH9 nL (fun f j => if j < nL then b2 f j else b f j) μ1 → BH9 nL b2 μ1 := by
    intro μ1 h1 k hk
    obtain ⟨a1, a2⟩ := h1 k hk
    have e : ∀ f, f < 9 → (if k < nL then b2 f k else b f k) = b2 f k := fun f hf => by
      by_cases hkn : k < nL
      · rw [if_pos hkn]
      · rw [if_neg hkn]; exact (he f k hf hk (by omega)).symm
    refine ⟨?_, fun f hf => ?_⟩
    · rw [a1]; congr 1; exact mx_congr fun f hf => e f (by omega)
    · rw [a2 f hf]; congr 1; exact e f hf
  refine dn (P := fun k => ∀ μ1, Sm dQ μ μ1 → BH9 nL (fun f j => if j < k then b2 f j else b f j) μ1 → K3 (nI l) (sgI s) (nI k) μ1) (n := nL) ?_ ?_ μ Sm.rf (fun k hk => by
    refine ⟨?_, fun f hf => ?_⟩
    · rw [(hB k hk).1]; congr 1
    · rw [(hB k hk).2 f hf]; rfl)
  · intro μ1 s1 hm
    refine h3 _ _ _ _ ?_
    unfold F_X0_enterSecondWay_3
    rw [s1 p_GR (by unfold dQ; decide), h7]
    simp (disch := omega) only [vpT, vpT0, vpT1, vpT2, clT, clT0, clT1, clT2, leT, leF, leT0, ltT, ltF, i1, true_and, and_true, true_implies, false_implies, not_true_eq_false, not_false_eq_true, forall_const, implies_true]
    exact h μ1 s1 (fin μ1 hm)
  · intro k hk hnx μ1 s1 hm
    refine h3 _ _ _ _ ?_
    unfold F_X0_enterSecondWay_3
    rw [s1 p_GR (by unfold dQ; decide), h7]
    simp (disch := omega) only [vpT, vpT0, vpT1, vpT2, clT, clT0, clT1, clT2, leT, leF, leT0, ltT, ltF, i1, true_and, and_true, true_implies, false_implies, not_true_eq_false, not_false_eq_true, forall_const, implies_true]
    rw [s1 (p + 10) (by unfold dQ; omega), s1 (p + 7) (by unfold dQ; omega), s1 (p + 6) (by unfold dQ; omega), hw10, hw7, hn, m_sh _ (lt512 hL ho10) k (by omega), tb_bit]
    have stp : ∀ μ2, (∀ j, j < 9 → (j ≠ k → μ2 p_BK_reserved j = μ1 p_BK_reserved j ∧ ∀ f, f < 9 → μ2 (p_BH + f) j = μ1 (p_BH + f) j) ∧ (j = k → μ2 p_BK_reserved k = nI (mx (fun f => b2 f k) nL) ∧ ∀ f, f < 9 → μ2 (p_BH + f) k = nI (b2 f k))) → BH9 nL (fun f j => if j < k + 1 then b2 f j else b f j) μ2 := by
      intro μ2 h2 j hj
      by_cases hjk : j = k
      · obtain ⟨a1, a2⟩ := (h2 j hj).2 hjk
        subst hjk
        refine ⟨?_, fun f hf => ?_⟩
        · rw [a1]; congr 1; exact mx_congr fun f _ => (if_pos (show j < j + 1 by omega)).symm
        · rw [a2 f hf]; exact congrArg nI (if_pos (show j < j + 1 by omega)).symm
      · obtain ⟨a1, a2⟩ := (h2 j hj).1 hjk
        obtain ⟨c1, c2⟩ := hm j hj
        have e : ∀ f, (if j < k then b2 f j else b f j) = (if j < k + 1 then b2 f j else b f j) := fun f => by
          by_cases hlt : j < k
          · rw [if_pos hlt, if_pos (by omega)]
          · rw [if_neg hlt, if_neg (by omega)]
        refine ⟨?_, fun f hf => ?_⟩
        · rw [a1, c1]; congr 1; exact mx_congr fun f _ => e f
        · rw [a2 f hf, c2 f hf]; congr 1; exact e f
    obtain ⟨c1, c2⟩ := hm k (by omega)
    dsimp only at c1 c2
    have hkk : ∀ f, (if k < k then b2 f k else b f k) = b f k := fun f => if_neg (by omega)
    cases hb : (r 10 l).testBit k with
    | false =>
      refine ⟨fun _ => hnx μ1 s1 (stp μ1 (fun j hj => ⟨fun _ => ⟨rfl, fun _ _ => rfl⟩, fun _ => ⟨?_, fun f hf => ?_⟩⟩)), fun hc => absurd rfl hc⟩
      · rw [c1]; congr 1; exact mx_congr fun f hf => by rw [hkk f, he f k (by omega) (by omega) (by rw [hb]; simp)]
      · rw [c2 f hf, hkk f, he f k hf (by omega) (by rw [hb]; simp)]
    | true =>
      refine ⟨fun hc => absurd hc (by decide), fun _ => ?_⟩
      refine s_reserve (b2 := fun f => b2 f k) (by omega) hL (by rw [s1 p_GR (by unfold dQ; decide)]; exact h7) (lt512 hL ho7) (fun f hf => ?_) (fun f hf => hb2 f k hf hk) (fun μ2 s2 m1 m2 => ?_)
      · rw [c2 f (by omega), hkk f]; exact hs f k hf hk hb
      · refine hnx μ2 (s1.tr s2) (stp μ2 (fun j hj => ⟨fun hjk => ⟨?_, fun f hf => ?_⟩, fun hjk => ⟨?_, fun f hf => ?_⟩⟩))
        · rw [m2 j, if_neg hjk]
        · rw [m1 f hf j, if_neg (fun hx => hjk hx.2)]
        · rw [m2 k, if_pos rfl]
        · rw [m1 f hf k]
          by_cases hfn : f < nL
          · rw [if_pos ⟨hfn, rfl⟩]
          · rw [if_neg (fun hx => hfn hx.1), c2 f hf, hkk f, he f k hf (by omega) (fun hx => hfn hx.1)]
def fN (r : Rq) (v k : Nat) : Nat := if r 3 k = v then r 1 k else 0
def fP (r : Rq) (v k : Nat) : Nat := if r 3 k = v then 1 else 0
/-- of a request, in the class's memory -/
def cRq (p : Nat) (r : Rq) (μ : Mm) : Prop := cQ p r μ ∧ cA p r μ ∧ cW p r μ
theorem cRq.fr {p : Nat} {r : Rq} {μ μ2 : Mm} (h : cRq p r μ) (hf : ∀ c, p ≤ c → c ≤ p + 10 → μ2 c = μ c) : cRq p r μ2 := by
  obtain ⟨h1, h2, h3⟩ := h
  refine ⟨h1.fr2 (hf _ (by omega) (by omega)) (hf _ (by omega) (by omega)) (hf _ (by omega) (by omega)) (hf _ (by omega) (by omega)) (hf _ (by omega) (by omega)) (hf _ (by omega) (by omega)), ?_, ?_⟩
  · unfold cA at *
    rw [hf (p + 3) (by omega) (by omega)]; exact h2
  · unfold cW at *
    rw [hf (p + 7) (by omega) (by omega), hf (p + 8) (by omega) (by omega), hf (p + 9) (by omega) (by omega), hf (p + 10) (by omega) (by omega)]; exact h3
def RqOk (nN nL : Nat) (r : Rq) : Prop := (∀ k, k < r 0 10 → r 3 k < nN) ∧ ∀ l, l < r 0 11 → lnOk nL r l
theorem lB_zero {nL : Nat} {r : Rq} {f k l : Nat} (ho : lnOk nL r l) (h : ¬ (f < nL ∧ k < nL ∧ (r 10 l).testBit k = true)) : lB r f k l = 0 := by
  unfold lB
  by_cases hf : f < nL
  · by_cases hk : k < nL
    · have : (r 10 l).testBit k = false := by
        cases hb : (r 10 l).testBit k with
        | false => rfl
        | true => exact absurd ⟨hf, hk, hb⟩ h
      rw [tb_bit, this]
      simp
    · rw [tb_hi ho.2.2.1 (by omega), Nat.zero_mul]
  · rw [tb_hi ho.1 (show nL ≤ f by omega), Nat.zero_mul, Nat.mul_zero]
theorem s_enter {nL nN p : Nat} {s : Bool} {r : Rq} {a c d : Nat → Nat} {b : Nat → Nat → Nat} {μ : Mm} {q : Mm → Prop} (hp : 105 ≤ p) (hr : GoodD r) (ho : RqOk nN nL r) (hN : nN ≤ 6) (hL : nL ≤ 9) (h6 : μ p_GR 6 = nI nN) (h7 : μ p_GR 7 = nI nL) (hc : cRq p r μ) (hb : ∀ f k, b f k ≤ 10000)
    (hB : Bk9 nL (fun v => a v + st s (r 0 10) (fN r v) 0) (fun v => c v + st s (r 0 10) (fP r v) 0) (fun k => d k + st s (r 0 11) (lL r k) 0) (fun f k => b f k + st s (r 0 11) (lB r f k) 0) μ)
    (h : ∀ μ2, Sm dK μ μ2 → Bk9 nL (fun v => a v + st s (r 0 10) (fN r v) (r 0 10)) (fun v => c v + st s (r 0 10) (fP r v) (r 0 10)) (fun k => d k + st s (r 0 11) (lL r k) (r 0 11)) (fun f k => b f k + st s (r 0 11) (lB r f k) (r 0 11)) μ2 → q μ2) : Wp_X0_enter p (sgI s) μ q := by
  have hrr := hr
  obtain ⟨g1, g2, g3, g4, g5⟩ := hr
  unfold Wp_X0_enter
  intro K2 K35 h2 h35
  unfold F_X0_enter_e
  have dk : ∀ x, dK x → x < p := fun x hx => by unfold dK at hx; omega
  have hcf : ∀ {μ1}, Sm dK μ μ1 → cRq p r μ1 := fun s1 => hc.fr (fun x h1 _ => s1 x (fun hx => by have := dk x hx; omega))
  have hG : ∀ {μ1}, Sm dK μ μ1 → μ1 p_GR = μ p_GR := fun s1 => s1 p_GR (by unfold dK; decide)
  have key35 : ∀ μ1, Sm dK μ μ1 → Bk9 nL (fun v => a v + st s (r 0 10) (fN r v) (r 0 10)) (fun v => c v + st s (r 0 10) (fP r v) (r 0 10)) (fun k => d k + st s (r 0 11) (lL r k) 0) (fun f k => b f k + st s (r 0 11) (lB r f k) 0) μ1 → K35 (sgI s) (nI 0) μ1 := by
    intro μ1 s1 hB1
    refine dn (P := fun l => ∀ μ1, Sm dK μ μ1 → Bk9 nL (fun v => a v + st s (r 0 10) (fN r v) (r 0 10)) (fun v => c v + st s (r 0 10) (fP r v) (r 0 10)) (fun k => d k + st s (r 0 11) (lL r k) l) (fun f k => b f k + st s (r 0 11) (lB r f k) l) μ1 → K35 (sgI s) (nI l) μ1) (n := r 0 11) ?_ ?_ μ1 s1 hB1
    · intro μ1 s1 hB1
      refine h35 _ _ _ ?_
      unfold F_X0_enter_35
      rw [(hcf s1).1.2.1]
      simp (disch := omega) only [vpT, vpT0, vpT1, vpT2, clT, clT0, clT1, clT2, leT, leF, leT0, ltT, ltF, i1, true_and, and_true, true_implies, false_implies, not_true_eq_false, not_false_eq_true, forall_const, implies_true]
      exact h μ1 s1 hB1
    · intro l hl hnx μ1 s1 hB1
      refine h35 _ _ _ ?_
      unfold F_X0_enter_35
      have hc1 := hcf s1
      rw [hc1.1.2.1]
      simp (disch := omega) only [vpT, vpT0, vpT1, vpT2, clT, clT0, clT1, clT2, leT, leF, leT0, ltT, ltF, i1, true_and, and_true, true_implies, false_implies, not_true_eq_false, not_false_eq_true, forall_const, implies_true]
      obtain ⟨w7, w8, w9, w10⟩ := hc1.2.2 l hl
      have n6 := (hc1.1.2.2.2.2 l hl).2.2
      have hol := ho.2 l hl
      obtain ⟨o7, o9, o10, o8⟩ := hol
      refine s_enterWays hp (by omega) hL (by rw [hG s1]; exact h7) n6 w7 w8 w9 o7 o9 o8 (fun μ2 s2 m2 _ => ?_)
      have k2 : ∀ x, x ≠ 14 → μ2 x = μ1 x := fun x hx => s2 x hx
      have hol := ho.2 l hl
      refine s_enterSecondWay (nL := nL) (r := r) (b := fun f k => b f k + st s (r 0 11) (lB r f k) l) (b2 := fun f k => b f k + st s (r 0 11) (lB r f k) (l + 1)) hp (by omega) hL (by rw [k2 p_GR (by decide), hG s1]; exact h7) (by rw [k2 (p + 6) (by omega)]; exact n6) (by rw [k2 (p + 7) (by omega)]; exact w7) (by rw [k2 (p + 10) (by omega)]; exact w10) o7 o10 ?_ ?_ ?_ ?_ (fun μ3 s3 hB3 => ?_)
      · intro k hk
        obtain ⟨-, e2, e3⟩ := hB1.2 k hk
        refine ⟨by rw [k2 p_BK_reserved (by decide)]; exact e2, fun f hf => by rw [k2 (p_BH + f) (by show 96 + f ≠ 14; omega)]; exact e3 f hf⟩
      · intro f k hf hk hbit
        have e : lB r f k l = tb (r 7 l) f * r 6 l := by
          unfold lB
          rw [tb_bit (r 10 l), hbit, if_pos rfl, Nat.one_mul]
        have := sg_step (s := s) (f := lB r f k) (b f k) hl
        rw [← this, e, ← pk_mul, ← Int32.mul_assoc, ← Int32.mul_assoc, Int32.mul_comm (nI (tb (r 7 l) f))]
      · intro f k _ _ hn
        show b f k + st s (r 0 11) (lB r f k) (l + 1) = _
        rw [st_zero (lB_zero hol hn)]
      · intro f k _ _
        have h1 : st s (r 0 11) (lB r f k) (l + 1) ≤ sm (lB r f k) (r 0 11) := st_le (by omega)
        have h2 : sm (lB r f k) (r 0 11) ≤ sm (fun _ => 20) (r 0 11) := sm_le fun j hj => lB_le (g4 j hj).2.2.2.2
        rw [sm_const] at h2
        have := hb f k
        omega
      · refine hnx μ3 (s1.tr ((s2.mono (fun x hx => by have hx : x = 14 := hx; unfold dK; omega)).tr (s3.mono (fun x hx => by unfold dQ at hx; unfold dK; omega)))) ⟨fun v hv => ?_, fun k hk => ⟨?_, (hB3 k hk).1, (hB3 k hk).2⟩⟩
        · rw [s3 p_BK_nodeNeeds (by unfold dQ; decide), s3 p_BK_nodeParts (by unfold dQ; decide), k2 p_BK_nodeNeeds (by decide), k2 p_BK_nodeParts (by decide)]
          exact hB1.1 v hv
        · rw [s3 p_BK_linkNeeds (by unfold dQ; decide), m2 k, (hB1.2 k hk).1]
          exact sg_step _ hl
  refine dn (P := fun l => ∀ μ1, Sm dK μ μ1 → Bk9 nL (fun v => a v + st s (r 0 10) (fN r v) l) (fun v => c v + st s (r 0 10) (fP r v) l) (fun k => d k + st s (r 0 11) (lL r k) 0) (fun f k => b f k + st s (r 0 11) (lB r f k) 0) μ1 → K2 (sgI s) (nI l) μ1) (n := r 0 10) ?_ ?_ μ Sm.rf hB
  · intro μ1 s1 hB1
    refine h2 _ _ _ ?_
    unfold F_X0_enter_2
    rw [(hcf s1).1.1]
    simp (disch := omega) only [vpT, vpT0, vpT1, vpT2, clT, clT0, clT1, clT2, leT, leF, leT0, ltT, ltF, i1, true_and, and_true, true_implies, false_implies, not_true_eq_false, not_false_eq_true, forall_const, implies_true]
    exact key35 μ1 s1 hB1
  · intro l hl hnx μ1 s1 hB1
    refine h2 _ _ _ ?_
    unfold F_X0_enter_2
    have hc1 := hcf s1
    rw [hc1.1.1]
    simp (disch := omega) only [vpT, vpT0, vpT1, vpT2, clT, clT0, clT1, clT2, leT, leF, leT0, ltT, ltF, i1, true_and, and_true, true_implies, false_implies, not_true_eq_false, not_false_eq_true, forall_const, implies_true]
    rw [hc1.2.1 l hl, (hc1.1.2.2.2.1 l hl).1]
    refine s_enterPart (ho.1 l hl) hN (by rw [hG s1]; exact h6) (fun μ2 s2 m1 m2 => ?_)
    refine hnx μ2 (s1.tr (s2.mono (fun x hx => by unfold dP2 at hx; unfold dK; omega))) ⟨fun v hv => ?_, fun k hk => ?_⟩
    · obtain ⟨e1, e2⟩ := hB1.1 v hv
      rw [m1 v, m2 v]
      have t1 := sg_step (s := s) (f := fN r v) (a v) hl
      have t2 := sg_step (s := s) (f := fP r v) (c v) hl
      by_cases hvr : v = r 3 l
      · rw [if_pos hvr, if_pos hvr, e1, e2]
        have f1 : fN r v l = r 1 l := if_pos hvr.symm
        have f2 : fP r v l = 1 := if_pos hvr.symm
        rw [f1] at t1
        rw [f2, show nI 1 = 1 from rfl, Int32.mul_one] at t2
        exact ⟨t1, t2⟩
      · rw [if_neg hvr, if_neg hvr, e1, e2]
        have f1 : fN r v l = 0 := if_neg (fun hx => hvr hx.symm)
        have f2 : fP r v l = 0 := if_neg (fun hx => hvr hx.symm)
        dsimp only
        rw [st_zero f1, st_zero f2]
        exact ⟨rfl, rfl⟩
    · obtain ⟨e1, e2, e3⟩ := hB1.2 k hk
      refine ⟨by rw [s2 p_BK_linkNeeds (by unfold dP2; decide)]; exact e1, by rw [s2 p_BK_reserved (by unfold dP2; decide)]; exact e2, fun f hf => by rw [s2 (p_BH + f) (by show ¬ dP2 (96 + f); unfold dP2; omega)]; exact e3 f hf⟩
theorem st_t0 {n : Nat} {f : Nat → Nat} : st true n f 0 = 0 := rfl
theorem st_tn {n : Nat} {f : Nat → Nat} : st true n f n = sm f n := rfl
theorem st_f0 {n : Nat} {f : Nat → Nat} : st false n f 0 = sm f n := rfl
theorem st_fn {n : Nat} {f : Nat → Nat} : st false n f n = 0 := Nat.sub_self _
