/-! of one request: what both tell -/
def an (p : Nat → Bool) : Nat → Bool
  | 0 => false
  | n + 1 => an p n || p n
theorem an_iff (p : Nat → Bool) : ∀ n, an p n = true ↔ ∃ k, k < n ∧ p k = true
  | 0 => by simp [an]
  | n + 1 => by
    unfold an
    rw [Bool.or_eq_true, an_iff p n]
    constructor
    · rintro (⟨k, h1, h2⟩ | h)
      · exact ⟨k, by omega, h2⟩
      · exact ⟨n, by omega, h⟩
    · rintro ⟨k, h1, h2⟩
      by_cases hk : k = n
      · subst hk; exact Or.inr h2
      · exact Or.inl ⟨k, by omega, h2⟩
theorem an_not (p : Nat → Bool) : ∀ n, an p n = !al (fun k => !p k) n
  | 0 => rfl
  | n + 1 => by
    unfold an al
    rw [an_not p n, Bool.not_and, Bool.not_not]
def hit (r : Rq) (f l : Nat) : Bool := !decide ((r 7 l ||| r 9 l) &&& f = 0)
def rsw (r : Rq) (f l : Nat) : Bool := hit r f l && (!decide (r 10 l = 0) && decide (r 10 l &&& f = 0))
def nStop (r : Rq) (f : Nat) : Nat := sm (fun l => if (hit r f l && !rsw r f l) = true then 1 else 0) (r 0 11)
def nSec (r : Rq) (f : Nat) : Nat := sm (fun l => if rsw r f l = true then 1 else 0) (r 0 11)
def ldl (f k : Nat) (r : Rq) (l : Nat) : Nat := if hit r f l = true then tb (r 10 l) k * r 6 l else lL r k l
def ldOn (f k : Nat) (r : Rq) : Nat := sm (ldl f k r) (r 0 11)
def cst (r : Rq) : Nat := sm (fun l => r 8 l * pc (r 7 l) + (r 6 l - r 8 l) * pc (r 9 l)) (r 0 11)
def isL (r : Rq) (l k : Nat) : Bool := decide (r 4 l = k) || decide (r 5 l = k)
def lnks (r : Rq) (k : Nat) : Nat := sm (fun l => if isL r l k = true then pc (r 7 l) else 0) (r 0 11)
def mvb (r : Rq) : Bool := decide (r 0 14 = 0) && !decide (r 0 12 = 2) && al (fun l => decide (r 9 l = 0)) (r 0 11)
def LnB (r : Rq) : Prop := r 0 11 ≤ 3 ∧ r 0 12 ≤ 2 ∧ r 0 14 ≤ 1 ∧ ∀ l, l < r 0 11 → r 7 l < 512 ∧ r 9 l < 512 ∧ r 10 l < 512 ∧ r 8 l ≤ r 6 l ∧ r 4 l < 3 ∧ r 5 l < 3
theorem and_lt512 {a b : Nat} (h : b < 512) : a &&& b < 2147483648 := Nat.lt_of_le_of_lt Nat.and_le_right (by omega)
theorem s_isHit {p l f : Nat} {r : Rq} {μ : Mm} {q : Bool → Mm → Prop} (hB : LnB r) (hW : cW p r μ) (hl : l < r 0 11) (hf : f < 512) (h : q (hit r f l) μ) : Wp_X5_isHit p (nI l) (nI f) μ q := by
  have h3 := hB.1
  obtain ⟨w7, w8, w9, w10⟩ := hW l hl
  unfold Wp_X5_isHit F_X5_isHit_e
  simp (disch := omega) only [vpT, vpT0, vpT1, vpT2, clT, clT0, clT1, clT2, leT, leF, leT0, ltT, ltF, i1, true_and, and_true, true_implies, false_implies, not_true_eq_false, not_false_eq_true, forall_const, implies_true]
  rw [w7, w9, nx_or, nx_and, e0 (and_lt512 hf)]
  unfold hit at h
  by_cases hz : (r 7 l ||| r 9 l) &&& f = 0
  · rw [decide_eq_true hz] at h; exact br_t hz h
  · rw [decide_eq_false hz] at h; exact br_f hz h
theorem s_runsOnSecondWay {p l f : Nat} {r : Rq} {μ : Mm} {q : Bool → Mm → Prop} (hB : LnB r) (hW : cW p r μ) (hl : l < r 0 11) (hf : f < 512) (h : q (rsw r f l) μ) : Wp_X5_runsOnSecondWay p (nI l) (nI f) μ q := by
  have h3 := hB.1
  have b10 := (hB.2.2.2 l hl).2.2.1
  obtain ⟨w7, w8, w9, w10⟩ := hW l hl
  unfold Wp_X5_runsOnSecondWay F_X5_runsOnSecondWay_e
  refine s_isHit hB hW hl hf ?_
  unfold rsw at h
  refine bq (fun hb => ?_) (fun hb => ?_)
  · rw [hb] at h; exact h
  · rw [hb, Bool.true_and] at h
    simp (disch := omega) only [vpT, vpT0, vpT1, vpT2, clT, clT0, clT1, clT2, leT, leF, leT0, ltT, ltF, i1, true_and, and_true, true_implies, false_implies, not_true_eq_false, not_false_eq_true, forall_const, implies_true]
    rw [w10, nx_and, e0 (and_lt512 hf), e0 (by omega)]
    by_cases hz : r 10 l = 0
    · rw [decide_eq_true hz] at h; exact br_t hz h
    · rw [decide_eq_false hz] at h
      refine br_f hz ?_
      by_cases hy : r 10 l &&& f = 0
      · rw [decide_eq_true hy] at h; exact rb_t hy h
      · rw [decide_eq_false hy] at h; exact rb_f hy h
theorem s_linesOnSecondWay {p f : Nat} {r : Rq} {μ : Mm} {q : Int32 → Mm → Prop} (hB : LnB r) (hn : μ p 11 = nI (r 0 11)) (hW : cW p r μ) (hf : f < 512) (h : q (nI (nSec r f)) μ) : Wp_X5_linesOnSecondWay p (nI f) μ q := by
  have h3 := hB.1
  unfold Wp_X5_linesOnSecondWay
  intro K4 h4
  unfold F_X5_linesOnSecondWay_e
  refine dn (P := fun l => K4 (nI f) (nI (sm (fun l => if rsw r f l = true then 1 else 0) l)) (nI l) μ) (n := r 0 11) ?_ ?_
  · refine h4 _ _ _ _ ?_
    unfold F_X5_linesOnSecondWay_4
    rw [hn]
    simp (disch := omega) only [vpT, vpT0, vpT1, vpT2, clT, clT0, clT1, clT2, leT, leF, leT0, ltT, ltF, i1, true_and, and_true, true_implies, false_implies, not_true_eq_false, not_false_eq_true, forall_const, implies_true]
    exact h
  · intro l hl hnx
    refine h4 _ _ _ _ ?_
    unfold F_X5_linesOnSecondWay_4
    rw [hn]
    simp (disch := omega) only [vpT, vpT0, vpT1, vpT2, clT, clT0, clT1, clT2, leT, leF, leT0, ltT, ltF, i1, true_and, and_true, true_implies, false_implies, not_true_eq_false, not_false_eq_true, forall_const, implies_true]
    refine s_runsOnSecondWay hB hW hl hf ?_
    rw [show ∀ F : Nat → Nat, sm F (l + 1) = sm F l + F l from fun _ => rfl] at hnx
    refine bq (fun hb => ?_) (fun hb => ?_)
    · rw [if_neg (by rw [hb]; decide), ← nI_add] at hnx; exact hnx
    · rw [if_pos hb] at hnx; exact hnx
theorem s_stoppedLines {p f : Nat} {r : Rq} {μ : Mm} {q : Int32 → Mm → Prop} (hB : LnB r) (hn : μ p 11 = nI (r 0 11)) (hW : cW p r μ) (hf : f < 512) (h : q (nI (nStop r f)) μ) : Wp_X5_stoppedLines p (nI f) μ q := by
  have h3 := hB.1
  unfold Wp_X5_stoppedLines
  intro K4 h4
  unfold F_X5_stoppedLines_e
  refine dn (P := fun l => K4 (nI f) (nI (sm (fun l => if (hit r f l && !rsw r f l) = true then 1 else 0) l)) (nI l) μ) (n := r 0 11) ?_ ?_
  · refine h4 _ _ _ _ ?_
    unfold F_X5_stoppedLines_4
    rw [hn]
    simp (disch := omega) only [vpT, vpT0, vpT1, vpT2, clT, clT0, clT1, clT2, leT, leF, leT0, ltT, ltF, i1, true_and, and_true, true_implies, false_implies, not_true_eq_false, not_false_eq_true, forall_const, implies_true]
    exact h
  · intro l hl hnx
    refine h4 _ _ _ _ ?_
    unfold F_X5_stoppedLines_4
    rw [hn]
    simp (disch := omega) only [vpT, vpT0, vpT1, vpT2, clT, clT0, clT1, clT2, leT, leF, leT0, ltT, ltF, i1, true_and, and_true, true_implies, false_implies, not_true_eq_false, not_false_eq_true, forall_const, implies_true]
    refine s_isHit hB hW hl hf ?_
    rw [show ∀ F : Nat → Nat, sm F (l + 1) = sm F l + F l from fun _ => rfl] at hnx
    refine bq (fun hb => ?_) (fun hb => ?_)
    · rw [if_neg (by rw [hb]; simp), ← nI_add] at hnx; exact hnx
    · refine s_runsOnSecondWay hB hW hl hf ?_
      refine bqr (fun hb2 => ?_) (fun hb2 => ?_)
      · rw [if_pos (by rw [hb, hb2]; decide)] at hnx; exact hnx
      · rw [if_neg (by rw [hb, hb2]; decide), ← nI_add] at hnx; exact hnx
theorem s_loadOn {p f k : Nat} {r : Rq} {μ : Mm} {q : Int32 → Mm → Prop} (hB : LnB r) (hQ : cQ p r μ) (hW : cW p r μ) (hk : k < 9) (hf : f < 512) (h : q (nI (ldOn f k r)) μ) : Wp_X5_loadOn p (nI k) (nI f) μ q := by
  have h3 := hB.1
  unfold Wp_X5_loadOn
  intro K5 h5
  unfold F_X5_loadOn_e
  refine dn (P := fun l => K5 (nI k) (nI f) (nI (sm (ldl f k r) l)) (nI l) μ) (n := r 0 11) ?_ ?_
  · refine h5 _ _ _ _ _ ?_
    unfold F_X5_loadOn_5
    rw [hQ.2.1]
    simp (disch := omega) only [vpT, vpT0, vpT1, vpT2, clT, clT0, clT1, clT2, leT, leF, leT0, ltT, ltF, i1, true_and, and_true, true_implies, false_implies, not_true_eq_false, not_false_eq_true, forall_const, implies_true]
    exact h
  · intro l hl hnx
    refine h5 _ _ _ _ _ ?_
    unfold F_X5_loadOn_5
    rw [hQ.2.1]
    simp (disch := omega) only [vpT, vpT0, vpT1, vpT2, clT, clT0, clT1, clT2, leT, leF, leT0, ltT, ltF, i1, true_and, and_true, true_implies, false_implies, not_true_eq_false, not_false_eq_true, forall_const, implies_true]
    obtain ⟨w7, w8, w9, w10⟩ := hW l hl
    obtain ⟨b7, b9, b10, b8, -⟩ := hB.2.2.2 l hl
    have n6 := (hQ.2.2.2.2 l hl).2.2
    refine s_isHit hB hW hl hf ?_
    rw [show sm (ldl f k r) (l + 1) = sm (ldl f k r) l + ldl f k r l from rfl] at hnx
    refine bq (fun hb => ?_) (fun hb => ?_)
    · unfold Wp_X5_restOf F_X5_restOf_e
      simp (disch := omega) only [vpT, vpT0, vpT1, vpT2, clT, clT0, clT1, clT2, leT, leF, leT0, ltT, ltF, i1, true_and, and_true, true_implies, false_implies, not_true_eq_false, not_false_eq_true, forall_const, implies_true]
      rw [w7, w8, w9, n6, nI_sub b8, m_sh _ b7 k hk, m_sh _ b9 k hk, pk_mul, pk_mul, nI_add, nI_add]
      unfold ldl at hnx
      rw [if_neg (by rw [hb]; decide)] at hnx
      unfold lL at hnx
      rw [← Nat.add_assoc] at hnx
      exact hnx
    · rw [w10, n6, m_sh _ b10 k hk, pk_mul, nI_add]
      unfold ldl at hnx
      rw [if_pos hb] at hnx
      exact hnx
theorem s_ccost {p : Nat} {r : Rq} {μ : Mm} {q : Int32 → Mm → Prop} (hB : LnB r) (hQ : cQ p r μ) (hW : cW p r μ) (h : q (nI (cst r)) μ) : Wp_X5_cost p μ q := by
  have h3 := hB.1
  unfold Wp_X5_cost
  intro K4 h4
  unfold F_X5_cost_e
  refine dn (P := fun l => K4 (nI (sm (fun l => r 8 l * pc (r 7 l) + (r 6 l - r 8 l) * pc (r 9 l)) l)) (nI l) μ) (n := r 0 11) ?_ ?_
  · refine h4 _ _ _ ?_
    unfold F_X5_cost_4
    rw [hQ.2.1]
    simp (disch := omega) only [vpT, vpT0, vpT1, vpT2, clT, clT0, clT1, clT2, leT, leF, leT0, ltT, ltF, i1, true_and, and_true, true_implies, false_implies, not_true_eq_false, not_false_eq_true, forall_const, implies_true]
    exact h
  · intro l hl hnx
    refine h4 _ _ _ ?_
    unfold F_X5_cost_4
    rw [hQ.2.1]
    simp (disch := omega) only [vpT, vpT0, vpT1, vpT2, clT, clT0, clT1, clT2, leT, leF, leT0, ltT, ltF, i1, true_and, and_true, true_implies, false_implies, not_true_eq_false, not_false_eq_true, forall_const, implies_true]
    obtain ⟨w7, w8, w9, w10⟩ := hW l hl
    obtain ⟨b7, b9, b10, b8, -⟩ := hB.2.2.2 l hl
    have n6 := (hQ.2.2.2.2 l hl).2.2
    rw [w7]
    refine s_bitCount b7 ?_
    unfold Wp_X5_restOf F_X5_restOf_e
    simp (disch := omega) only [vpT, vpT0, vpT1, vpT2, clT, clT0, clT1, clT2, leT, leF, leT0, ltT, ltF, i1, true_and, and_true, true_implies, false_implies, not_true_eq_false, not_false_eq_true, forall_const, implies_true]
    rw [w9]
    refine s_bitCount b9 ?_
    rw [w8, n6, nI_sub b8, pk_mul, pk_mul, nI_add, nI_add]
    rw [show ∀ F : Nat → Nat, sm F (l + 1) = sm F l + F l from fun _ => rfl, ← Nat.add_assoc] at hnx
    exact hnx
theorem s_isLineOf0 {p l k : Nat} {r : Rq} {μ : Mm} {q : Bool → Mm → Prop} (h3 : r 0 11 ≤ 3) (hQ : cQ p r μ) (hl : l < r 0 11) (b4 : r 4 l < 3) (b5 : r 5 l < 3) (hk : k < 3) (h : q (isL r l k) μ) : Wp_X5_isLineOf p (nI l) (nI k) μ q := by
  obtain ⟨w4, w5, -⟩ := hQ.2.2.2.2 l hl
  unfold Wp_X5_isLineOf F_X5_isLineOf_e
  simp (disch := omega) only [vpT, vpT0, vpT1, vpT2, clT, clT0, clT1, clT2, leT, leF, leT0, ltT, ltF, i1, true_and, and_true, true_implies, false_implies, not_true_eq_false, not_false_eq_true, forall_const, implies_true]
  rw [w4, w5, e1 (by omega) (by omega), e1 (by omega) (by omega)]
  unfold isL at h
  by_cases h4 : r 4 l = k
  · rw [decide_eq_true h4] at h; exact br_t h4 h
  · rw [decide_eq_false h4] at h
    refine br_f h4 ?_
    by_cases h5 : r 5 l = k
    · rw [decide_eq_true h5] at h; exact rb_t h5 h
    · rw [decide_eq_false h5] at h; exact rb_f h5 h
theorem s_isLineOf {p l k : Nat} {r : Rq} {μ : Mm} {q : Bool → Mm → Prop} (hB : LnB r) (hQ : cQ p r μ) (hl : l < r 0 11) (hk : k < 3) (h : q (isL r l k) μ) : Wp_X5_isLineOf p (nI l) (nI k) μ q := by
  obtain ⟨-, -, -, -, b4, b5⟩ := hB.2.2.2 l hl
  exact s_isLineOf0 hB.1 hQ hl b4 b5 hk h
theorem s_linksOfPart {p k : Nat} {r : Rq} {μ : Mm} {q : Int32 → Mm → Prop} (hB : LnB r) (hQ : cQ p r μ) (hW : cW p r μ) (hk : k < 3) (h : q (nI (lnks r k)) μ) : Wp_X5_linksOfPart p (nI k) μ q := by
  have h3 := hB.1
  unfold Wp_X5_linksOfPart
  intro K4 h4
  unfold F_X5_linksOfPart_e
  refine dn (P := fun l => K4 (nI k) (nI (sm (fun l => if isL r l k = true then pc (r 7 l) else 0) l)) (nI l) μ) (n := r 0 11) ?_ ?_
  · refine h4 _ _ _ _ ?_
    unfold F_X5_linksOfPart_4
    rw [hQ.2.1]
    simp (disch := omega) only [vpT, vpT0, vpT1, vpT2, clT, clT0, clT1, clT2, leT, leF, leT0, ltT, ltF, i1, true_and, and_true, true_implies, false_implies, not_true_eq_false, not_false_eq_true, forall_const, implies_true]
    exact h
  · intro l hl hnx
    refine h4 _ _ _ _ ?_
    unfold F_X5_linksOfPart_4
    rw [hQ.2.1]
    simp (disch := omega) only [vpT, vpT0, vpT1, vpT2, clT, clT0, clT1, clT2, leT, leF, leT0, ltT, ltF, i1, true_and, and_true, true_implies, false_implies, not_true_eq_false, not_false_eq_true, forall_const, implies_true]
    obtain ⟨w7, w8, w9, w10⟩ := hW l hl
    obtain ⟨b7, b9, b10, b8, -⟩ := hB.2.2.2 l hl
    refine s_isLineOf hB hQ hl hk ?_
    rw [show ∀ F : Nat → Nat, sm F (l + 1) = sm F l + F l from fun _ => rfl] at hnx
    refine bq (fun hb => ?_) (fun hb => ?_)
    · rw [if_neg (by rw [hb]; decide), ← nI_add] at hnx; exact hnx
    · rw [w7]
      refine s_bitCount b7 ?_
      rw [if_pos hb, ← nI_add] at hnx; exact hnx
theorem s_isMovable {p : Nat} {r : Rq} {μ : Mm} {q : Bool → Mm → Prop} (hB : LnB r) (hQ : cQ p r μ) (hW : cW p r μ) (h12 : μ p 12 = nI (r 0 12)) (h : q (mvb r) μ) : Wp_X5_isMovable p μ q := by
  obtain ⟨h3, h2, h1, hb⟩ := hB
  unfold Wp_X5_isMovable
  intro K23 h23
  unfold F_X5_isMovable_e
  rw [hQ.2.2.1, h12, e0 (by omega), show (2 : Int32) = nI 2 from rfl, e1 (by omega) (by omega)]
  have key : ∀ b, b = (decide (r 0 14 = 0) && !decide (r 0 12 = 2)) → K23 (bI b) (nI 0) μ := by
    intro b hbb
    rw [show b = (b && al (fun l => decide (r 9 l = 0)) 0) by show b = (b && true); rw [Bool.and_true]]
    refine dn (P := fun l => K23 (bI (b && al (fun l => decide (r 9 l = 0)) l)) (nI l) μ) (n := r 0 11) ?_ ?_
    · refine h23 _ _ _ ?_
      unfold F_X5_isMovable_23
      rw [hQ.2.1]
      simp (disch := omega) only [vpT, vpT0, vpT1, vpT2, clT, clT0, clT1, clT2, leT, leF, leT0, ltT, ltF, i1, true_and, and_true, true_implies, false_implies, not_true_eq_false, not_false_eq_true, forall_const, implies_true]
      refine ex_bI ?_
      unfold mvb at h
      rw [← hbb] at h
      exact h
    · intro l hl hnx
      refine h23 _ _ _ ?_
      unfold F_X5_isMovable_23
      rw [hQ.2.1]
      simp (disch := omega) only [vpT, vpT0, vpT1, vpT2, clT, clT0, clT1, clT2, leT, leF, leT0, ltT, ltF, i1, true_and, and_true, true_implies, false_implies, not_true_eq_false, not_false_eq_true, forall_const, implies_true]
      rw [(hW l hl).2.2.1, e0 (by have := (hb l hl).2.1; omega)]
      rw [show (b && al (fun l => decide (r 9 l = 0)) (l + 1)) = (b && al (fun l => decide (r 9 l = 0)) l && decide (r 9 l = 0)) from (Bool.and_assoc _ _ _).symm] at hnx
      refine bq (fun hx => ?_) (fun hx => ?_)
      · rw [hx] at hnx; exact hnx
      · rw [hx, Bool.true_and] at hnx
        by_cases hz : r 9 l = 0
        · rw [decide_eq_true hz] at hnx; exact rb_t hz hnx
        · rw [decide_eq_false hz] at hnx; exact rb_f hz hnx
  by_cases ha : r 0 14 = 0
  · refine rb_t ha ?_
    by_cases hc : r 0 12 = 2
    · exact br_t hc (key false (by rw [decide_eq_true hc]; simp))
    · exact br_f hc (key true (by rw [decide_eq_true ha, decide_eq_false hc]; rfl))
  · exact rb_f ha (key false (by rw [decide_eq_false ha]; rfl))
/-! the reference's -/
theorem and_bits {n w f : Nat} (hw : w < 2 ^ n) : (!decide (w &&& f = 0)) = an (fun k => w.testBit k && f.testBit k) n := by
  rw [an_not]
  refine congrArg Bool.not ?_
  by_cases hz : w &&& f = 0
  · rw [decide_eq_true hz, eq_comm, al_iff]
    intro k _
    have := congrArg (fun x => Nat.testBit x k) hz
    simp only [Nat.testBit_and, Nat.zero_testBit] at this
    rw [this]; rfl
  · rw [decide_eq_false hz, eq_comm]
    cases ha : al (fun k => !(w.testBit k && f.testBit k)) n with
    | false => rfl
    | true =>
      rw [al_iff] at ha
      exfalso
      apply hz
      apply Nat.eq_of_testBit_eq
      intro i
      rw [Nat.testBit_and, Nat.zero_testBit]
      by_cases hi : i < n
      · have := ha i hi
        revert this
        cases (w.testBit i && f.testBit i) <;> simp
      · rw [Nat.testBit_lt_two_pow (Nat.lt_of_lt_of_le hw (Nat.pow_le_pow_right (by decide) (by omega))), Bool.false_and]
def rv (r : Rq) (f l : Nat) : Nat := if hit r f l = true then (if rsw r f l = true then 1 else 2) else 0
theorem or_lt2 {n a b : Nat} (ha : a < 2 ^ n) (hb : b < 2 ^ n) : a ||| b < 2 ^ n := Nat.or_lt_two_pow ha hb
def rvs (r : Rq) (f how : Nat) : Nat := sm (fun l => if rv r f l = how then 1 else 0) (r 0 11)
theorem rvs_2 (r : Rq) (f : Nat) : rvs r f 2 = nStop r f := by
  refine sm_congr fun l _ => ?_
  unfold rv rsw
  cases hit r f l <;> cases (!decide (r 10 l = 0) && decide (r 10 l &&& f = 0)) <;> rfl
theorem rvs_1 (r : Rq) (f : Nat) : rvs r f 1 = nSec r f := by
  refine sm_congr fun l _ => ?_
  unfold rv rsw
  cases hit r f l <;> cases (!decide (r 10 l = 0) && decide (r 10 l &&& f = 0)) <;> rfl
theorem rv_le (r : Rq) (f l : Nat) : rv r f l ≤ 2 := by
  unfold rv
  split
  · split <;> omega
  · omega
